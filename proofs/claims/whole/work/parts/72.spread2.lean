/-! ===== the reference's search: its loop, its end, what it answers ===== -/
/-- the labels are the least costs -/
def Lab (c : Cfg) (v : Nat) (lb : Nat → Nat) : Prop := (∀ k, k < 40960 → lb k ≤ 1000000000 ∧ (lb k < 1000000000 → ∃ x, encM x = k ∧ Dst c v x (lb k))) ∧ ∀ x n, Dst c v x n → lb (encM x) = n
def FrS (R M : Mm) : Prop := M.1 = R.1 ∧ (∀ j, j ≠ 13 → j ≠ 14 → j ≠ 15 → M.2.1 j = R.2.1 j) ∧ M.2.2 = R.2.2
theorem lab_of {c : Cfg} {v : Nat} (hw : Wf c) {lb : Nat → Nat} {q : Nat → Nat} (h1 : ∀ k, k < 40960 → lb k ≤ 1000000000 ∧ (lb k < 1000000000 → ∃ x, Vs c x ∧ encM x = k ∧ Wk c v x (lb k))) (h0 : lb 0 = 0) (hr : Rlx c v lb q 0 40960) : Lab c v lb := by
  have le : ∀ x n, Wk c v x n → lb (encM x) ≤ n := fun x n h => by
    have := h (fun x n => Vs c x ∧ lb (encM x) ≤ n) ⟨Vs0, by show lb 0 ≤ 0; omega⟩ (fun x n a y hx ha hy => by
      refine ⟨Vs_next hx.1 hy, ?_⟩
      have hex := encM_lt (hx.1.fit hw)
      have hey := encM_lt ((Vs_next hx.1 hy).fit hw)
      by_cases z : lb (encM x) < 1000000000
      · have := hr x hx.1 z (by omega) (fun i hi => absurd hi (Nat.not_lt_zero i)) a ha y hy
        have := hx.2
        omega
      · have := (h1 (encM y) hey).1
        have := hx.2
        omega)
    exact this.2
  refine ⟨fun k hk => ⟨(h1 k hk).1, fun z => ?_⟩, fun x n hd => ?_⟩
  · obtain ⟨x, x1, x2, x3⟩ := (h1 k hk).2 z
    refine ⟨x, x2, x3, fun m hm => ?_⟩
    rw [← x2]
    exact le x m hm
  · have a1 := le x n hd.1
    have a2 := hd.small hw
    have hf := hd.1.vs.fit hw
    obtain ⟨y, y1, y2, y3⟩ := (h1 (encM x) (encM_lt hf)).2 (by omega)
    obtain rfl := encM_inj (y1.fit hw) hf y2
    have := hd.2 _ y3
    omega
theorem sA_nI {M : Mm} {j i : Nat} {v : Int32} (hi : i < 2 ^ 31) : gA M j (nI i) = M.2.1 j i := gA_nI hi
section S2
variable {c : Cfg} {N v : Nat} {mu : (Nat → Nat) → Nat}
theorem m_spread_47 (hw : Wf c) (hN : 20 ≤ N) (hv : v ≤ 18) {R : Mm} (hR : OkR c R) (hmu : ∀ (lb : Nat → Nat) k w, k < 40960 → w < lb k → mu (fun j => if j = k then w else lb j) + 1 ≤ mu lb) : ∀ (m : Nat) (M : Mm) (fi mn : Nat) (lb q : Nat → Nat), 2 * mu lb + mn < m → SpB c v M fi mn lb q → (∀ i, 1 ≤ i → i < mn → M.2.1 14 (q i) = 1) → Rlx c v lb q mn 40960 → FrS R M →
    ∃ M' lb', f_X7_spread_47 N m (nI v) (nI fi) (nI mn) M = f_X7_spread_196 N N (1000000000 : Int32) (0 : Int32) M' ∧ (∀ k, k < 40960 → M'.2.1 13 k = nI (lb' k)) ∧ Lab c v lb' ∧ FrS R M' := by
  intro m
  induction m with
  | zero => intro M fi mn lb q h; omega
  | succ m ih =>
    intro M fi mn lb q hm hB hW hr hF
    obtain ⟨b1, b2, b3, b4, b5, b6⟩ := id hB
    have hmn : mn ≤ 40960 := fb_holes 40960 mn q (fun i hi => (b4 i hi).2.1) b5
    rw [f_X7_spread_47]
    by_cases h0 : mn = 0
    · subst h0
      refine ⟨M, lb, by rw [if_pos (show nI 0 ≤ 0 from Int32.le_refl 0)], fun k hk => (b2 k hk).1, lab_of hw (fun k hk => (b2 k hk).2) b3 hr, hF⟩
    · obtain ⟨c1, c2, c3⟩ := b4 0 (by omega)
      rw [show (fi + 0) % 40960 = fi by omega] at c1
      have hin : inb (nI fi) 40960 := (inb_nI (by omega)).mpr b1
      have hinq : inb (nI (q 0)) 40960 := (inb_nI (by omega)).mpr c2
      rw [if_neg (show ¬ nI mn ≤ (0 : Int32) from nI_ge (a := 0) (by omega) (by omega)), if_pos hin, gA_nI (by omega), c1, if_pos hinq, nI_1, rem40960 (by omega), nI_dec (by omega) (by omega), nar_bool (Or.inl rfl)]
      obtain ⟨x, x1, x2, x3⟩ := (b2 (q 0) c2).2.2 c3
      have hB' : SpB c v (sA M 14 (nI (q 0)) 0) ((fi + 1) % 40960) (mn - 1) lb (fun i => q (i + 1)) := by
        refine ⟨Nat.mod_lt _ (by decide), by rw [sA_ne (by decide)]; exact b2, b3, fun i hi => ?_, fun i j hij hj => b5 (i + 1) (j + 1) (by omega) (by omega), fun k hk => ?_⟩
        · rw [sA_ne (by decide), show ((fi + 1) % 40960 + i) % 40960 = (fi + (i + 1)) % 40960 by omega]
          exact b4 (i + 1) (by omega)
        · rw [sA_at (by omega)]
          by_cases e : k = q 0
          · rw [if_pos e]; exact ⟨Or.inl rfl, fun z => absurd z (by decide)⟩
          · rw [if_neg e]
            refine ⟨(b6 k hk).1, fun z => ?_⟩
            obtain ⟨i, i1, i2⟩ := (b6 k hk).2 z
            cases i with
            | zero => exact absurd i2.symm e
            | succ i => exact ⟨i, by omega, i2⟩
      have hnq : ∀ i, i < mn - 1 → q (i + 1) ≠ encM x := fun i hi e => b5 0 (i + 1) (by omega) (by omega) (by rw [e, x2])
      obtain ⟨M1, mn1, lb1, q1, a1, a2, a3, a4, a5, a6, a7, a8⟩ := m_spread_80 (N := N) (T := 2 * mu lb + (mn - 1)) hw hN hv hR hmu (k47 := f_X7_spread_47 N m) x1 N 0 (sA M 14 (nI (q 0)) 0) (mn - 1) lb (fun i => q (i + 1)) (by omega) (by omega) hB' (fun i hi => by
        rw [sA_at (by omega), if_neg (fun e => b5 0 (i + 1) (by omega) (by omega) e.symm)]
        exact hW (i + 1) (by omega) (by omega)) (by rw [x2]; exact c3) hnq (fun z hz hz2 hz3 hz4 => hr z hz hz2 (by have := encM_lt (hz.fit hw); omega) (fun i hi => by
          cases i with
          | zero => intro e; exact hz3 (by rw [x2, e])
          | succ i => exact hz4 i (by omega))) (fun b hb => absurd hb (Nat.not_lt_zero b)) (Nat.le_refl _) hF.1 (fun j j1 j2 j3 => (sA_ne j2).trans (hF.2.1 j j1 j2 j3)) hF.2.2
      obtain ⟨M2, lb2, d1, d2⟩ := ih M1 ((fi + 1) % 40960) mn1 lb1 q1 (by omega) a2 (fun i _ hi => a3 i hi) a4 ⟨a6, a7, a8⟩
      rw [x2] at a1
      exact ⟨M2, lb2, a1.trans d1, d2⟩
theorem m_isEnd (hw : Wf c) {R : Mm} (h : OkR c R) (hN : 20 ≤ N) {x : St} (hx : Vs c x) : f_X7_isEnd N R (nI x.1) (nI x.2.2) = some (zI (endN c x)) := by
  have hf := hx.fit hw
  have hg : cG c ≤ 3 := hw.2.2.2.2.2.1
  have hp0 := Nat.two_pow_pos (cG c)
  have h8 := pow_le_8 hg
  unfold f_X7_isEnd endN
  rw [show gI R 5 = zI (cT c) from h.2.2.2.2.2.2, show gI R 4 = nI (cG c) from h.2.2.2.2.1, one_shl_sub hg]
  cases ht : cT c with
  | false =>
    rw [if_pos (show zI false = 0 from rfl), if_neg (show ¬ false = true by decide)]
    have e : (x.2.2 &&& (2 ^ cG c - 1)) = x.2.2 := by
      rw [Nat.and_two_pow_sub_one_eq_mod]
      exact Nat.mod_eq_of_lt hx.2.2
    rw [e]
    by_cases y : x.2.2 = 2 ^ cG c - 1
    · rw [if_pos (by rw [y]), decide_eq_true y]; rfl
    · rw [if_neg (fun z => y (nI_inj (by have := hf.2.2; omega) (by omega) z)), decide_eq_false y]; rfl
  | true =>
    rw [if_neg (show ¬ zI true = 0 by decide), if_pos (show true = true from rfl), m_stand (N := N) hw h (by omega) hf.1, bd_some, if_pos (zI_b _)]
theorem end0 (hw : Wf c) (h : endN c x0 = true) : cG c = 0 := by
  unfold endN at h
  split at h
  · have := (allG_iff c x0.1 (cG c)).mp h
    rcases Nat.eq_zero_or_pos (cG c) with z | z
    · exact z
    · have := this 0 z
      rw [show (x0.1) = 0 from rfl, Nat.zero_testBit] at this
      cases this
  · have h := of_decide_eq_true h
    rw [show (x0.2.2) = 0 from rfl, Nat.zero_and] at h
    rcases Nat.eq_zero_or_pos (cG c) with z | z
    · exact z
    · have : 2 ^ 1 ≤ 2 ^ cG c := Nat.pow_le_pow_right (by decide) z
      omega
/-- the best so far -/
def BsK (c : Cfg) (v k : Nat) : Option Nat → Prop
  | none => ∀ x n, Dst c v x n → encM x < k → endN c x = false
  | some b => (∃ x, endN c x = true ∧ Dst c v x b) ∧ ∀ x n, Dst c v x n → encM x < k → endN c x = true → b ≤ n
def bsI (o : Option Nat) : Nat := match o with
  | none => 1000000000
  | some b => b
theorem bs_lt (hw : Wf c) {k : Nat} {o : Option Nat} (h : BsK c v k o) : bsI o ≤ 1000000000 := by
  cases o with
  | none => exact Nat.le_refl _
  | some b =>
    obtain ⟨⟨x, _, h2⟩, _⟩ := h
    have := h2.small hw
    show b ≤ _
    omega
theorem bs_succ (hw : Wf c) {k : Nat} {o : Option Nat} (h : BsK c v k o) (hk : ∀ x n, Dst c v x n → encM x = k → endN c x = true → bsI o ≤ n) : BsK c v (k + 1) o := by
  cases o with
  | none =>
    intro x n hd hx
    by_cases e : encM x = k
    · by_cases q : endN c x = true
      · have h1 := hk x n hd e q
        have h2 := hd.small hw
        have h1 : 1000000000 ≤ n := h1
        omega
      · exact b_false q
    · exact h x n hd (by omega)
  | some b =>
    refine ⟨h.1, fun x n hd hx hq => ?_⟩
    by_cases e : encM x = k
    · exact hk x n hd e hq
    · exact h.2 x n hd (by omega) hq
theorem bs_new {k : Nat} {o : Option Nat} {x : St} {b : Nat} (h : BsK c v k o) (hx : encM x = k) (hd : Dst c v x b) (hq : endN c x = true) (hl : b < bsI o) (hw : Wf c) : BsK c v (k + 1) (some b) := by
  refine ⟨⟨x, hq, hd⟩, fun y n hy hy2 hyq => ?_⟩
  by_cases e : encM y = k
  · obtain rfl := encM_inj (hy.1.vs.fit hw) (hd.1.vs.fit hw) (e.trans hx.symm)
    exact Nat.le_of_eq (hd.uniq hy)
  · cases o with
    | none =>
      have := h y n hy (by omega)
      rw [hyq] at this
      cases this
    | some b' =>
      have := h.2 y n hy (by omega) hyq
      have hl : b < b' := hl
      omega
theorem m_spread_196 (hw : Wf c) (hN : 20 ≤ N) {M : Mm} (hM : OkR c M) {lb : Nat → Nat} (h13 : ∀ k, k < 40960 → M.2.1 13 k = nI (lb k)) (hL : Lab c v lb) : ∀ (m k : Nat) (o : Option Nat), k ≤ 40960 → 40960 < m + k → BsK c v k o → ∃ o', f_X7_spread_196 N m (nI (bsI o)) (nI k) M = some (nI (bsI o'), M) ∧ IsB c v o' := by
  intro m
  induction m with
  | zero => intro k o h1 h2; omega
  | succ m ih =>
    intro k o h1 h2 hB
    rw [f_X7_spread_196]
    have hbs := bs_lt hw hB
    by_cases hk : k = 40960
    · subst hk
      refine ⟨o, by rw [if_pos (show (40960 : Int32) ≤ nI 40960 from nI_le (Nat.le_refl 40960) (by decide))], ?_⟩
      cases o with
      | none =>
        intro x n hx
        obtain ⟨m', hm', _⟩ := hx.dst
        exact hB x m' hm' (encM_lt (hx.vs.fit hw))
      | some b => exact ⟨hB.1, fun x n hd hq => hB.2 x n hd (encM_lt (hd.1.vs.fit hw)) hq⟩
    · have hk' : k < 40960 := by omega
      obtain ⟨l1, l2⟩ := hL.1 k hk'
      rw [if_neg (show ¬ (40960 : Int32) ≤ nI k from nI_ge (b := 40960) hk' (by decide)), if_pos ((inb_nI (by omega)).mpr hk'), gA_nI (by omega), h13 k hk', nI_1]
      by_cases hc : bsI o ≤ lb k
      · rw [if_pos (nI_le hc (by omega))]
        refine ih (k + 1) o (by omega) (by omega) (bs_succ hw hB (fun x n hd hx _ => ?_))
        have := hL.2 x n hd
        rw [hx] at this
        omega
      · rw [if_neg (nI_ge (a := lb k) (b := bsI o) (by omega) (by omega))]
        obtain ⟨x, x1, x2⟩ := l2 (by omega)
        have hvx := x2.1.vs
        have hfx := hvx.fit hw
        obtain ⟨f1, f2, f3⟩ := id hfx
        have e1 : k % 512 = x.1 := by rw [← x1]; unfold encM; omega
        have e2 : k / 5120 = x.2.2 := by rw [← x1]; unfold encM; omega
        rw [rem512 (by omega), div5120 (by omega), e1, e2, m_isEnd hw hM hN hvx, bd_some]
        by_cases hq : endN c x = true
        · rw [hq, if_neg (show ¬ zI true = 0 by decide)]
          obtain ⟨o', g1, g2⟩ := ih (k + 1) (some (lb k)) (by omega) (by omega) (bs_new hB x1 x2 hq (by omega) hw)
          have g1' : f_X7_spread_246 N (f_X7_spread_196 N m) (nI k) M = some (nI (bsI o'), M) := by
            unfold f_X7_spread_246
            rw [if_pos ((inb_nI (by omega)).mpr hk'), gA_nI (by omega), h13 k hk', nI_1]
            exact g1
          refine ⟨o', ?_, g2⟩
          by_cases z : k = 0
          · have hx0 : x = x0 := encM_inj hfx (Vs.fit hw Vs0) (by rw [x1, z]; rfl)
            have hg := end0 hw (by rw [← hx0]; exact hq)
            rw [if_neg (show ¬ (0 : Int32) < nI k by rw [z]; decide), show gI M 4 = nI (cG c) from hM.2.2.2.2.1, hg, if_pos (show nI 0 = 0 from rfl)]
            exact g1'
          · rw [if_pos (show (0 : Int32) < nI k from nI_lt (a := 0) (by omega) (by omega))]
            exact g1'
        · rw [b_false hq, if_pos (show zI false = 0 from rfl)]
          refine ih (k + 1) o (by omega) (by omega) (bs_succ hw hB (fun y n hd hy hyq => ?_))
          obtain rfl := encM_inj (hd.1.vs.fit hw) hfx (hy.trans x1.symm)
          exact absurd hyq hq
theorem sm_mu : ∀ (lb : Nat → Nat) (k w : Nat), k < 40960 → w < lb k → fb_sm (fun j => if j = k then w else lb j) 40960 + 1 ≤ fb_sm lb 40960 := by
  intro lb k w hk hw
  have h := fb_sm_upd lb w hk
  generalize fb_sm (fun j => if j = k then w else lb j) 40960 = A at h ⊢
  generalize fb_sm lb 40960 = B at h ⊢
  omega
theorem sm_le {lb : Nat → Nat} (h : ∀ k, k < 40960 → lb k ≤ 1000000000) : fb_sm lb 40960 ≤ 40960 * 1000000000 := fb_sm_bound h
theorem m_spread_2 (hw : Wf c) (hN : 100000000000000000000 ≤ N) (hv : v ≤ 18) {R : Mm} (hR : OkR c R) : ∀ (m i : Nat) (M : Mm), i ≤ 40960 → 40960 < m + i → (∀ k, k < i → M.2.1 13 k = nI 1000000000 ∧ M.2.1 14 k = 0) → FrS R M →
    ∃ M' lb o, f_X7_spread_2 N m (nI v) (nI i) M = some (nI (bsI o), M') ∧ IsB c v o ∧ (∀ k, k < 40960 → M'.2.1 13 k = nI (lb k)) ∧ Lab c v lb ∧ FrS R M' := by
  intro m
  induction m with
  | zero => intro i M h1 h2; omega
  | succ m ih =>
    intro i M h1 h2 hk hF
    rw [f_X7_spread_2]
    by_cases hi : i = 40960
    · subst hi
      have hin : inb (0 : Int32) 40960 := (inb_nI (k := 0) (by decide)).mpr (by decide)
      rw [if_pos (show (40960 : Int32) ≤ nI 40960 from nI_le (Nat.le_refl 40960) (by decide)), if_pos hin, if_pos hin]
      obtain ⟨lb, hlb⟩ : ∃ lb : Nat → Nat, lb = fun k => if k = 0 then 0 else 1000000000 := ⟨_, rfl⟩
      have l0 : lb 0 = 0 := by rw [hlb]; rfl
      have l1 : ∀ k, k ≠ 0 → lb k = 1000000000 := fun k hk => by rw [hlb]; exact if_neg hk
      have ll : ∀ k, lb k ≤ 1000000000 := fun k => by
        by_cases z : k = 0
        · rw [z, l0]; exact Nat.zero_le _
        · rw [l1 k z]; exact Nat.le_refl _
      obtain ⟨M0, hM0⟩ : ∃ M0, M0 = sA (sA M 13 (nI 0) (nI 0)) 15 (nI 0) (nI 0) := ⟨_, rfl⟩
      have e13 : ∀ k, M0.2.1 13 k = if k = 0 then nI 0 else M.2.1 13 k := fun k => by rw [hM0, sA_ne (by decide), sA_at (by decide)]
      have e14 : M0.2.1 14 = M.2.1 14 := by rw [hM0, sA_ne (by decide), sA_ne (by decide)]
      have e15 : ∀ k, M0.2.1 15 k = if k = 0 then nI 0 else M.2.1 15 k := fun k => by rw [hM0, sA_at (by decide), sA_ne (by decide)]
      have hB : SpB c v M0 0 1 lb (fun _ => 0) := by
        refine ⟨by decide, fun k hk2 => ⟨?_, ll k, fun z => ?_⟩, l0, fun i hi => ?_, fun i j hij hj => by omega, fun k hk2 => ?_⟩
        · rw [e13]
          by_cases z : k = 0
          · rw [if_pos z, z, l0]
          · rw [if_neg z, l1 k z]; exact (hk k hk2).1
        · by_cases y : k = 0
          · rw [y, l0]; exact ⟨x0, Vs0, rfl, Wk0⟩
          · rw [l1 k y] at z; omega
        · obtain rfl : i = 0 := by omega
          refine ⟨by rw [e15]; rfl, by decide, ?_⟩
          show lb 0 < _
          rw [l0]; decide
        · rw [e14, (hk k hk2).2]
          exact ⟨Or.inl rfl, fun z => absurd z (by decide)⟩
      have hsm := sm_le (lb := lb) (fun k _ => ll k)
      have hF0 : FrS R M0 := by
        rw [hM0]
        exact ⟨hF.1, fun j j1 j2 j3 => by rw [sA_ne j3, sA_ne j1]; exact hF.2.1 j j1 j2 j3, hF.2.2⟩
      have hfuel : ∀ A : Nat, A ≤ 40960 * 1000000000 → 2 * A + 1 < N := fun A hA => by omega
      obtain ⟨M1, lb1, a1, a2, a3, a4⟩ := m_spread_47 (N := N) (mu := fun lb => fb_sm lb 40960) hw (by omega) hv hR sm_mu N M0 0 1 lb (fun _ => 0) (hfuel _ hsm) hB (fun i hi1 hi2 => by omega) (fun z hz hz2 hz3 hz4 => by
        have : encM z ≠ 0 := fun e => hz4 0 (by omega) e.symm
        rw [l1 _ this] at hz2
        omega) hF0
      have hM1 : OkR c M1 := OkR_of (congrFun a4.1 _) (congrFun a4.1 _) (congrFun a4.1 _) (fun i hi => a4.2.1 i (by omega) (by omega) (by omega)) hR
      obtain ⟨o, g1, g2⟩ := m_spread_196 (N := N) hw (by omega) hM1 a2 a3 N 0 none (by omega) (by omega) (fun x n _ hx => absurd hx (Nat.not_lt_zero _))
      refine ⟨M1, lb1, o, ?_, g2, a2, a3, a4⟩
      rw [hM0] at a1
      exact a1.trans g1
    · have hi' : i < 40960 := by omega
      have hin : inb (nI i) 40960 := (inb_nI (by omega)).mpr hi'
      rw [if_neg (show ¬ (40960 : Int32) ≤ nI i from nI_ge (b := 40960) hi' (by decide)), if_pos hin, if_pos hin, nI_1, nar_bool (Or.inl rfl)]
      refine ih (i + 1) _ (by omega) (by omega) (fun k hk2 => ?_) ⟨hF.1, fun j j1 j2 j3 => by rw [sA_ne j2, sA_ne j1]; exact hF.2.1 j j1 j2 j3, hF.2.2⟩
      rw [sA_ne (by decide), sA_at (by omega), sA_at (by omega), sA_ne (by decide)]
      by_cases z : k = i
      · rw [if_pos z, if_pos z]; exact ⟨rfl, rfl⟩
      · rw [if_neg z, if_neg z]; exact hk k (by omega)
theorem m_spread (hw : Wf c) (hN : 100000000000000000000 ≤ N) (hv : v ≤ 18) {R : Mm} (hR : OkR c R) : ∃ M' lb o, f_X7_spread N (nI v) R = some (nI (bsI o), M') ∧ IsB c v o ∧ (∀ k, k < 40960 → M'.2.1 13 k = nI (lb k)) ∧ Lab c v lb ∧ FrS R M' :=
  m_spread_2 (N := N) hw hN hv hR N 0 R (by omega) (by omega) (fun k hk => absurd hk (Nat.not_lt_zero k)) ⟨rfl, fun _ _ _ _ => rfl, rfl⟩
end S2
