/-! ===== reach: how many scenes, goals aside ===== -/
def prj (y : St) : St := (y.1, y.2.1, 0)
theorem prj_vs {c : Cfg} {y : St} (h : Vs c y) : Vs c (prj y) := ⟨h.1, h.2.1, Nat.two_pow_pos _⟩
theorem next_h {c : Cfg} {v a : Nat} {x x' y : St} (e1 : x'.1 = x.1) (e2 : x'.2.1 = x.2.1) (h : nextN c v x a = some y) : ∃ y', nextN c v x' a = some y' ∧ prj y' = prj y := by
  unfold nextN at h ⊢
  rw [e1, e2]
  by_cases z : cN c ≤ a % 9
  · rw [if_pos z] at h; cases h
  · rw [if_neg z] at h ⊢
    by_cases q : a < 9
    · rw [if_pos q] at h ⊢
      by_cases r : reasonN c x.1 x.2.1 (a % 9) v = 0
      · rw [if_pos r] at h ⊢
        cases h
        exact ⟨_, rfl, rfl⟩
      · rw [if_neg r] at h; cases h
    · rw [if_neg q] at h ⊢
      by_cases r : x.1.testBit (a % 9) = true
      · rw [if_pos r] at h ⊢
        cases h
        exact ⟨_, rfl, rfl⟩
      · rw [if_neg r] at h; cases h
theorem bit3584 (i : Nat) : (3584 : Nat).testBit i = (decide (9 ≤ i) && decide (i < 12)) := by
  rw [show (3584 : Nat) = 2 ^ 9 * (2 ^ 3 - 1) from rfl, Nat.testBit_two_pow_mul, Nat.testBit_two_pow_sub_one]
  by_cases h : 9 ≤ i
  · have : (decide (i - 9 < 3)) = decide (i < 12) := by
      by_cases z : i < 12
      · rw [decide_eq_true z, decide_eq_true (by omega)]
      · rw [decide_eq_false z, decide_eq_false (by omega)]
    rw [this]
  · simp [h]
theorem mask_prj {y : St} (hy : Fit y) : nI (encD y) &&& (-3585 : Int32) = nI (encD (prj y)) := by
  rw [show (-3585 : Int32) = nI 3584 ^^^ (-1) by decide, nI_andn]
  congr 1
  have hp : Fit (prj y) := ⟨hy.1, hy.2.1, by show 0 < 8; decide⟩
  refine nat_ext (fun i => ?_)
  rw [dl_bit, encD_bit hy, encD_bit hp, bit3584]
  by_cases h9 : i < 9
  · rw [if_pos h9, if_pos h9]
    have : ¬ 9 ≤ i := by omega
    simp [this, prj]
  · rw [if_neg h9, if_neg h9]
    have h9' : 9 ≤ i := by omega
    by_cases h12 : i < 12
    · rw [if_pos h12, if_pos h12]
      simp [h9', h12, prj]
    · rw [if_neg h12, if_neg h12]
      simp [h9', h12, prj]
theorem ct_list {m : Nat} : ∀ (n : Nat) (f : Nat → Nat) (p : Nat → Bool), (∀ i, i < n → f i < m) → (∀ i j, i < j → j < n → f i ≠ f j) → (∀ k, k < m → (p k = true ↔ ∃ i, i < n ∧ f i = k)) → fb_ct p m = n
  | 0, f, p, _, _, h => fb_ct_zero.mpr (fun k hk => by
    cases hp : p k with
    | false => rfl
    | true =>
      obtain ⟨i, hi, _⟩ := (h k hk).mp hp
      exact absurd hi (Nat.not_lt_zero i))
  | n + 1, f, p, h1, h2, h => by
    have hn := h1 n (by omega)
    have ih := ct_list n f (fun k => if k = f n then false else p k) (fun i hi => h1 i (by omega)) (fun i j hij hj => h2 i j hij (by omega)) (fun k hk => by
      by_cases e : k = f n
      · rw [if_pos e]
        constructor
        · intro z; cases z
        · rintro ⟨i, hi, hi2⟩
          exact absurd (hi2.trans e) (h2 i n hi (by omega))
      · rw [if_neg e, h k hk]
        constructor
        · rintro ⟨i, hi, hi2⟩
          refine ⟨i, ?_, hi2⟩
          apply Nat.lt_of_le_of_ne (by omega)
          intro z
          rw [z] at hi2
          exact e hi2.symm
        · rintro ⟨i, hi, hi2⟩
          exact ⟨i, by omega, hi2⟩)
    have hu := fb_ct_upd p false hn
    rw [ih, if_pos ((h (f n) hn).mpr ⟨n, by omega, rfl⟩), if_neg (by decide)] at hu
    omega
section RC
variable {c : Cfg} {N v : Nat}
def Rp (c : Cfg) (v : Nat) (x : St) : Prop := x.2.2 = 0 ∧ ∃ h n, Wk c v (x.1, x.2.1, h) n
theorem Rp.step {x y : St} {a : Nat} (hx : Rp c v x) (ha : a < 18) (hy : nextN c v x a = some y) : Rp c v (prj y) := by
  obtain ⟨_, h, n, hk⟩ := hx
  obtain ⟨y', h1, h2⟩ := next_h (x := x) (x' := (x.1, x.2.1, h)) rfl rfl hy
  have hs := hk.step ha h1
  refine ⟨rfl, y'.2.2, n + pr a, ?_⟩
  have e1 : (prj y').1 = (prj y).1 := by rw [h2]
  have e2 : (prj y').2.1 = (prj y).2.1 := by rw [h2]
  rw [← e1, ← e2]
  exact hs
def FlI (c : Cfg) (P : St → Prop) (M : Mm) (n : Nat) (xs : Nat → St) : Prop := LnX c M n xs (fun _ => 0) ∧ (∀ i, i < n → P (xs i)) ∧ 0 < n ∧ xs 0 = x0
def FlC (c : Cfg) (v : Nat) (pj : St → St) (at' n : Nat) (xs : Nat → St) : Prop := ∀ i, i < at' → ∀ a, a < 18 → ∀ y, nextN c v (xs i) a = some y → ∃ j, j < n ∧ xs j = pj y
/-- what the mask leaves of a scene that can be come to -/
def FlS (c : Cfg) (v : Nat) (pj : St → St) (P : St → Prop) (mk : Int32) : Prop := ∀ x a y, Vs c x → P x → a < 18 → nextN c v x a = some y → nI (encD y) &&& mk = nI (encD (pj y)) ∧ Vs c (pj y) ∧ P (pj y)
abbrev RcI (c : Cfg) (v : Nat) (M : Mm) (n : Nat) (xs : Nat → St) : Prop := FlI c (Rp c v) M n xs
abbrev Cld (c : Cfg) (v at' n : Nat) (xs : Nat → St) : Prop := FlC c v prj at' n xs
theorem d_flood_26 (hw : Wf c) (hN : 100 ≤ N) (hv : v ≤ 18) {pj : St → St} {P : St → Prop} {mk : Int32} (hst : FlS c v pj P mk) {M0 : Mm} (hD0 : OkD c M0) (hl : ∀ y, Vs c y → encD y < M0.2.2) {k6 : Int32 → Int32 → Int32 → Mm → Option (Int32 × Mm)} {t : Nat} :
    ∀ (m a : Nat) (M : Mm) (n : Nat) (xs : Nat → St), a ≤ 18 → 18 < m + a → t < n → FlI c P M n xs → FlC c v pj t n xs → (∀ a', a' < a → ∀ y, nextN c v (xs t) a' = some y → ∃ j, j < n ∧ xs j = pj y) → FrE M0 M →
    ∃ M' n' xs', f_X1_flood_26 N k6 m (nI v) mk (nI t) (nI a) M = k6 (nI v) mk (nI (t + 1)) M' ∧ t < n' ∧ FlI c P M' n' xs' ∧ FlC c v pj (t + 1) n' xs' ∧ FrE M0 M' := by
  intro m
  induction m with
  | zero => intro a M n xs h1 h2; omega
  | succ m ih =>
    intro a M n xs h1 h2 ht hI hC hra hF
    have hM := hF.okD hD0
    have hlM : ∀ y, Vs c y → encD y < M.2.2 := by rw [hF.2.2]; exact hl
    have hL40 : M.2.2 ≤ 40960 := by rcases hI.1.2.1 with z | z <;> rw [z] <;> decide
    have hn := hI.1.le hw hlM
    rw [f_X1_flood_26]
    by_cases ha : a = 18
    · subst ha
      refine ⟨M, n, xs, by rw [if_pos (show (18 : Int32) ≤ nI 18 from nI_le (Nat.le_refl 18) (by decide)), nI_1], ht, hI, fun i hi a ha y hy => ?_, hF⟩
      by_cases e : i = t
      · rw [e] at hy; exact hra a ha y hy
      · exact hC i (by omega) a ha y hy
    · have ha' : a < 18 := by omega
      obtain ⟨l1, l2, l3, l4⟩ := hI.1.2.2.1 t ht
      have hfx := l2.fit hw
      rw [if_neg (show ¬ (18 : Int32) ≤ nI a from nI_ge (b := 18) ha' (by decide)), if_pos (show inb (nI t) (gL M) from (inb_nI (by omega)).mpr (show t < M.2.2 by omega)), gA_nI (by omega), l1, d_lead (N := N) hw hM (by omega) hfx l2.1 ha' hv, bd_some]
      unfold f_X1_flood_66
      cases hy : nextN c v (xs t) a with
      | none =>
        rw [show leadI encD none = (-1 : Int32) from rfl, if_pos rfl, d_pjoin_no, bd_some, nI_1]
        refine ih (a + 1) M n xs (by omega) (by omega) ht hI hC (fun a' h3 y' hy' => ?_) hF
        by_cases e : a' = a
        · rw [e, hy] at hy'; cases hy'
        · exact hra a' (by omega) y' hy'
      | some y =>
        have hvy := Vs_next l2 hy
        have hey := hlM y hvy
        obtain ⟨hmk, hvp, hPy⟩ := hst (xs t) a y l2 (hI.2.1 t ht) ha' hy
        rw [show leadI encD (some y) = nI (encD y) from rfl, if_neg (nI_ne_m1 (by omega)), hmk, show (0 : Int32) = nI 0 from rfl, nI_1]
        rcases d_pjoin hw (y := pj y) (cv := 0) hI.1 hlM hvp (by decide) with ⟨⟨j, j1, j2⟩, g⟩ | ⟨hno, M1, g1, g2, g3, g4, g5⟩
        · rw [g, bd_some]
          refine ih (a + 1) M n xs (by omega) (by omega) ht hI hC (fun a' h3 y' hy' => ?_) hF
          by_cases e : a' = a
          · rw [e, hy] at hy'; cases hy'; exact ⟨j, j1, j2⟩
          · exact hra a' (by omega) y' hy'
        · have ec : ap (fun _ => 0) n 0 = fun _ => 0 := by funext i; unfold ap; split <;> rfl
          rw [ec] at g2
          rw [g1, bd_some]
          have lift : ∀ z, (∃ j, j < n ∧ xs j = z) → ∃ j, j < n + 1 ∧ ap xs n (pj y) j = z := fun z ⟨j, j1, j2⟩ => ⟨j, by omega, by rw [ap_lt j1]; exact j2⟩
          have et : ap xs n (pj y) t = xs t := ap_lt ht
          refine ih (a + 1) M1 (n + 1) (ap xs n (pj y)) (by omega) (by omega) (by omega) ⟨g2, fun i hi => ?_, by omega, by rw [ap_lt hI.2.2.1]; exact hI.2.2.2⟩ (fun i hi a' h3 y' hy' => ?_) (fun a' h3 y' hy' => ?_) ⟨fun j j1 j2 => (g3 j j1).trans (hF.1 j j1 j2), fun j j1 j2 => (g4 j j1 j2).trans (hF.2.1 j j1 j2), g5.trans hF.2.2⟩
          · by_cases e : i < n
            · rw [ap_lt e]; exact hI.2.1 i e
            · rw [ap_ge e]; exact hPy
          · rw [ap_lt (show i < n by omega)] at hy'
            exact lift _ (hC i hi a' h3 y' hy')
          · rw [et] at hy'
            by_cases e : a' = a
            · rw [e, hy] at hy'; cases hy'
              exact ⟨n, by omega, ap_ge (Nat.lt_irrefl n)⟩
            · exact lift _ (hra a' (by omega) y' hy')
theorem d_flood_6 (hw : Wf c) (hN : 100000 ≤ N) (hv : v ≤ 18) {pj : St → St} {P : St → Prop} {mk : Int32} (hst : FlS c v pj P mk) {M0 : Mm} (hD0 : OkD c M0) (hl : ∀ y, Vs c y → encD y < M0.2.2) :
    ∀ (m t : Nat) (M : Mm) (n : Nat) (xs : Nat → St), t ≤ n → 40960 < m + t → FlI c P M n xs → FlC c v pj t n xs → FrE M0 M →
    ∃ M' n' xs', f_X1_flood_6 N m (nI v) mk (nI t) M = some (nI n', M') ∧ FlI c P M' n' xs' ∧ FlC c v pj n' n' xs' ∧ FrE M0 M' := by
  intro m
  induction m with
  | zero =>
    intro t M n xs h1 h2 hI hC hF
    have hlM : ∀ y, Vs c y → encD y < M.2.2 := by rw [hF.2.2]; exact hl
    have hL40 : M.2.2 ≤ 40960 := by rcases hI.1.2.1 with z | z <;> rw [z] <;> decide
    have hn := hI.1.le hw hlM
    omega
  | succ m ih =>
    intro t M n xs h1 h2 hI hC hF
    have hlM : ∀ y, Vs c y → encD y < M.2.2 := by rw [hF.2.2]; exact hl
    have hL40 : M.2.2 ≤ 40960 := by rcases hI.1.2.1 with z | z <;> rw [z] <;> decide
    have hn := hI.1.le hw hlM
    rw [f_X1_flood_6, Int32.ofNat_nI, show gI M 13 = nI n from hI.1.1]
    by_cases ht : t = n
    · subst ht
      refine ⟨M, t, xs, ?_, hI, hC, hF⟩
      by_cases z : nI (gL M) ≤ nI t
      · rw [if_pos z]
      · rw [if_neg z, if_pos (nI_le (Nat.le_refl _) (by omega))]
    · rw [if_neg (show ¬ nI (gL M) ≤ nI t from nI_ge (a := t) (show t < M.2.2 by omega) (by show M.2.2 < _; omega)), if_neg (nI_ge (a := t) (b := n) (by omega) (by omega))]
      obtain ⟨M1, n1, xs1, a1, a2, a3, a4, a5⟩ := d_flood_26 (N := N) hw (by omega) hv hst hD0 hl (k6 := f_X1_flood_6 N m) (t := t) N 0 M n xs (by omega) (by omega) (by omega) hI hC (fun a' h => absurd h (Nat.not_lt_zero a')) hF
      obtain ⟨M2, n2, xs2, b1, b2⟩ := ih (t + 1) M1 n1 xs1 (by omega) (by omega) a3 a4 a5
      exact ⟨M2, n2, xs2, Eq.trans a1 b1, b2⟩
theorem d_flood (hw : Wf c) (hN : 100000 ≤ N) (hv : v ≤ 18) {pj : St → St} {P : St → Prop} {mk : Int32} (hst : FlS c v pj P mk) (hP0 : P x0) {D : Mm} (hD : OkD c D) (hL : D.2.2 = 4096 ∨ D.2.2 = 40960) :
    ∃ M n xs, f_X1_flood N (nI v) mk D = some (nI n, M) ∧ FlI c P M n xs ∧ FlC c v pj n n xs ∧ FrX D M ∧ M.1 15 = -1 ∧ M.1 16 = -1 ∧ M.2.1 19 = D.2.1 19 ∧ M.2.1 20 = D.2.1 20 ∧ kap D + kp M ≤ kp D ∧ kap M = 0 ∧ n ≤ M.2.2 := by
  obtain ⟨M1, a1, a2, a3, a4, a5, a6, a7, a8, a9, a10, a11⟩ := d_startLine hw hD hL
  have hM1 := a4.okD hD
  obtain ⟨M2, n, xs, b1, b2, b3, b4⟩ := d_flood_6 (N := N) hw hN hv hst hM1 a3 N 0 M1 1 (fun _ => x0) (by omega) (by omega) ⟨a2, fun _ _ => hP0, by omega, rfl⟩ (fun i hi => absurd hi (Nat.not_lt_zero i)) ⟨fun _ _ _ => rfl, fun _ _ _ => rfl, rfl⟩
  have hk3 : kap M2 = kap M1 := by unfold kap gL gI; rw [b4.2.2, b4.1 6 (by decide) (by decide)]
  have hkp : kp M2 = kp M1 := by unfold kp gL; rw [b4.2.2]
  refine ⟨M2, n, xs, ?_, b2, b3, ⟨fun j hj => (b4.1 j (by omega) (by omega)).trans (a4.1 j hj), fun j j1 j2 j3 j4 => (b4.2.1 j j3 j4).trans (a4.2 j j1 j2 j3 j4)⟩, (b4.1 15 (by decide) (by decide)).trans a6, (b4.1 16 (by decide) (by decide)).trans a7, (b4.2.1 19 (by decide) (by decide)).trans a8, (b4.2.1 20 (by decide) (by decide)).trans a9, by rw [hkp]; exact a10, by rw [hk3]; exact a11, b2.1.le hw (by rw [b4.2.2]; exact a3)⟩
  unfold f_X1_flood
  rw [a1, bd_some]
  exact b1
theorem rp_mask (hw : Wf c) : FlS c v prj (Rp c v) (-3585) := fun x a y hx hP ha hy => ⟨mask_prj ((Vs_next hx hy).fit hw), prj_vs (Vs_next hx hy), hP.step ha hy⟩
theorem rc_count (hw : Wf c) {M : Mm} {n : Nat} {xs : Nat → St} (hI : RcI c v M n xs) (hC : Cld c v n n xs) : n = rchN c v := by
  have hfit : ∀ i, i < n → Fit (xs i) := fun i hi => (hI.1.2.2.1 i hi).2.1.fit hw
  have hall : ∀ x k, Wk c v x k → ∃ j, j < n ∧ xs j = prj x := fun x k hx => hx (fun x _ => ∃ j, j < n ∧ xs j = prj x) ⟨0, hI.2.2.1, hI.2.2.2⟩ (fun x k a y hx ha hy => by
    obtain ⟨j, j1, j2⟩ := hx
    obtain ⟨y', h1, h2⟩ := next_h (x' := xs j) (by rw [j2]; rfl) (by rw [j2]; rfl) hy
    obtain ⟨i, i1, i2⟩ := hC j j1 a ha y' h1
    exact ⟨i, i1, i2.trans h2⟩)
  refine (ct_list n (fun i => (xs i).1 + 512 * (xs i).2.1) (rchB c v) (fun i hi => ?_) (fun i j hij hj e => ?_) (fun k hk => ?_)).symm
  · have := hfit i hi
    have h1 := this.1
    have h2 := this.2.1
    show (xs i).1 + 512 * (xs i).2.1 < 5120
    omega
  · have fi := hfit i (by omega)
    have fj := hfit j hj
    have ri := (hI.2.1 i (by omega)).1
    have rj := (hI.2.1 j hj).1
    have e : (xs i).1 + 512 * (xs i).2.1 = (xs j).1 + 512 * (xs j).2.1 := e
    have q1 := fi.1
    have q2 := fj.1
    have e1 : (xs i).1 = (xs j).1 := by omega
    have e2 : (xs i).2.1 = (xs j).2.1 := by omega
    exact hI.1.2.2.2.1 i j hij hj (Prod.ext e1 (Prod.ext e2 (ri.trans rj.symm)))
  · rw [rchB_iff]
    constructor
    · rintro ⟨h, m, hm⟩
      obtain ⟨j, j1, j2⟩ := hall _ _ hm
      refine ⟨j, j1, ?_⟩
      show (xs j).1 + 512 * (xs j).2.1 = k
      rw [j2]
      show k % 512 + 512 * (k / 512) = k
      omega
    · rintro ⟨i, i1, i2⟩
      have i2 : (xs i).1 + 512 * (xs i).2.1 = k := i2
      have fi := (hfit i i1).1
      obtain ⟨_, h, m, hm⟩ := hI.2.1 i i1
      refine ⟨h, m, ?_⟩
      rw [show k % 512 = (xs i).1 by omega, show k / 512 = (xs i).2.1 by omega]
      exact hm
theorem d_scenesFor (hw : Wf c) (hN : 100000 ≤ N) (hv1 : 1 ≤ v) (hv : v ≤ 18) {D : Mm} (hD : OkD c D) (hL : D.2.2 = 4096 ∨ D.2.2 = 40960) (hX : XD c D) :
    ∃ M, f_X1_scenesFor N (nI v) D = some (nI (rchN c v), M) ∧ XD c M ∧ FrX D M ∧ (M.2.2 = 4096 ∨ M.2.2 = 40960) ∧ kap D + kp M ≤ kp D := by
  have hiv : inb (nI v) 19 := (inb_nI (by omega)).mpr (by omega)
  unfold f_X1_scenesFor
  rw [if_pos hiv, gA_nI (by omega)]
  by_cases h9 : D.2.1 20 v = -9
  · rw [if_pos h9]
    obtain ⟨M2, n, xs, b1, b2, b3, b4, b5, b6, b7, b8, b9, b10, b11⟩ := d_flood (N := N) hw hN hv (rp_mask hw) ⟨rfl, 0, 0, Wk0⟩ hD hL
    have hn := rc_count hw b2 b3
    obtain ⟨M3, hM3⟩ : ∃ M3, M3 = sA M2 20 (nI v) (nI (rchN c v)) := ⟨_, rfl⟩
    have e20 : ∀ k, M3.2.1 20 k = if k = v then nI (rchN c v) else M2.2.1 20 k := fun k => by rw [hM3]; exact sA_at (by omega) k
    have eI : M3.1 = M2.1 := by rw [hM3]; rfl
    have eA : ∀ j, j ≠ 20 → M3.2.1 j = M2.2.1 j := fun j j1 => by rw [hM3, sA_ne j1]
    have eL : M3.2.2 = M2.2.2 := by rw [hM3]; rfl
    have hk3 : kap M3 = 0 := by
      have : kap M3 = kap M2 := by unfold kap gL gI; rw [eL, eI]
      rw [this]; exact b10
    have hkp : kp M3 = kp M2 := by unfold kp gL; rw [eL]
    refine ⟨M3, ?_, ⟨fun u q1 q2 => ?_, fun u q1 q2 => ?_, Or.inl (by rw [eI]; exact b5), Or.inl (by rw [eI]; exact b6)⟩, ⟨fun j hj => by rw [eI]; exact b4.1 j hj, fun j j1 j2 j3 j4 => ?_⟩, by rw [eL]; exact b2.1.2.1, by rw [hkp]; exact b9⟩
    · rw [b1, bd2_some, if_pos hiv, if_pos hiv, hn, ← hM3, gA_nI (by omega), e20, if_pos rfl]
    · rw [eA 19 (by decide), b7]
      rcases hX.1 u q1 q2 with z | z
      · exact Or.inl z
      · exact Or.inr ⟨hk3, z.2⟩
    · rw [e20]
      by_cases e : u = v
      · rw [if_pos e, e]; exact Or.inr ⟨hk3, rfl⟩
      · rw [if_neg e, b8]
        rcases hX.2.1 u q1 q2 with z | z
        · exact Or.inl z
        · exact Or.inr ⟨hk3, z.2⟩
    · rw [eA j j2]; exact b4.2 j j1 j2 j3 j4
  · rw [if_neg h9, if_pos hiv]
    rcases hX.2.1 v hv1 hv with z | ⟨z, z2⟩
    · exact absurd z h9
    · exact ⟨D, by rw [z2], hX, FrX.rf D, hL, by rw [z]; omega⟩
/-! the reference counts -/
theorem m_reach_39 {M : Mm} {lb : Nat → Nat} (h13 : ∀ k, k < 40960 → M.2.1 13 k = nI (lb k)) (hlb : ∀ k, k < 40960 → lb k ≤ 1000000000) {k25 : Int32 → Int32 → Mm → Option (Int32 × Mm)} {s k : Nat} (hk : k < 5120) :
    ∀ (m h : Nat), h ≤ 8 → 8 < m + h → f_X7_reach_39 N k25 m (nI s) (nI k) (zI (anyN (fun h => decide (lb (k + 5120 * h) < 1000000000)) h)) (nI h) M = k25 (nI (s + if anyN (fun h => decide (lb (k + 5120 * h) < 1000000000)) 8 = true then 1 else 0)) (nI (k + 1)) M
  | 0, h, h1, h2 => by omega
  | m + 1, h, h1, h2 => by
    rw [f_X7_reach_39]
    by_cases hh : h = 8
    · subst hh
      rw [if_pos (show (8 : Int32) ≤ nI 8 from nI_le (Nat.le_refl 8) (by decide))]
      cases anyN (fun h => decide (lb (k + 5120 * h) < 1000000000)) 8 with
      | false => rw [if_pos (show zI false = 0 from rfl), nI_1, show (0 : Int32) = nI 0 from rfl, nI_add, if_neg (by decide)]
      | true => rw [if_neg (show ¬ zI true = 0 by decide), nI_1, nI_1, if_pos rfl]
    · have hh' : h < 8 := by omega
      have hlt : k + 5120 * h < 40960 := by omega
      have ih := m_reach_39 (k25 := k25) (s := s) h13 hlb hk m (h + 1) (by omega) (by omega)
      rw [anyN, ← zI_or] at ih
      have hle := hlb _ hlt
      rw [if_neg (show ¬ (8 : Int32) ≤ nI h from nI_ge (b := 8) hh' (by decide)), show (5120 : Int32) = nI 5120 from rfl, nI_mul, nI_add, if_pos ((inb_nI (by omega)).mpr hlt), gA_nI (by omega), h13 _ hlt, nI_1]
      by_cases z : lb (k + 5120 * h) < 1000000000
      · rw [if_neg (fun q => by have := nI_inj (b := 1000000000) (by omega) (by decide) q; omega)]
        rw [decide_eq_true z] at ih
        exact ih
      · rw [if_pos (show nI (lb (k + 5120 * h)) = (1000000000 : Int32) by rw [show lb (k + 5120 * h) = 1000000000 by omega]; rfl)]
        rw [decide_eq_false z] at ih
        exact ih
theorem m_reach_any (hw : Wf c) {lb : Nat → Nat} (hL : Lab c v lb) {k : Nat} (hk : k < 5120) : anyN (fun h => decide (lb (k + 5120 * h) < 1000000000)) 8 = rchB c v k := by
  rw [Bool.eq_iff_iff, anyN_iff, rchB_iff]
  constructor
  · rintro ⟨h, h1, h2⟩
    obtain ⟨x, x1, x2⟩ := (hL.1 _ (by omega)).2 (of_decide_eq_true h2)
    have hf := x2.1.vs.fit hw
    obtain ⟨f1, f2, f3⟩ := hf
    unfold encM at x1
    have eh : x.2.2 = h := by omega
    refine ⟨h, lb (k + 5120 * h), ?_⟩
    rw [show k % 512 = x.1 by omega, show k / 512 = x.2.1 by omega, ← eh]
    rw [← eh] at x2
    exact x2.1
  · rintro ⟨h, m, hm⟩
    obtain ⟨m', hm', _⟩ := hm.dst
    have hf := hm.vs.fit hw
    have h8 : h < 8 := hf.2.2
    have e := hL.2 _ _ hm'
    have hs := hm'.small hw
    refine ⟨h, h8, decide_eq_true ?_⟩
    have e2 : encM (k % 512, k / 512, h) = k + 5120 * h := by
      show k % 512 + 512 * (k / 512) + 5120 * h = _
      omega
    rw [e2] at e
    omega
theorem m_reach_25 (hw : Wf c) (hN : 100 ≤ N) {M : Mm} {lb : Nat → Nat} (h13 : ∀ k, k < 40960 → M.2.1 13 k = nI (lb k)) (hL : Lab c v lb) : ∀ (m k : Nat), k ≤ 5120 → 5120 < m + k → f_X7_reach_25 N m (nI (fb_ct (rchB c v) k)) (nI k) M = some (nI (rchN c v), M)
  | 0, k, h1, h2 => by omega
  | m + 1, k, h1, h2 => by
    rw [f_X7_reach_25]
    by_cases hk : k = 5120
    · subst hk
      rw [if_pos (show (5120 : Int32) ≤ nI 5120 from nI_le (Nat.le_refl 5120) (by decide))]; rfl
    · have hk' : k < 5120 := by omega
      rw [if_neg (show ¬ (5120 : Int32) ≤ nI k from nI_ge (b := 5120) hk' (by decide))]
      have h39 := m_reach_39 (N := N) (k25 := f_X7_reach_25 N m) (s := fb_ct (rchB c v) k) h13 (fun k hk => (hL.1 k hk).1) hk' N 0 (by omega) (by omega)
      rw [m_reach_any hw hL hk'] at h39
      refine Eq.trans h39 ?_
      have ih := m_reach_25 hw hN h13 hL m (k + 1) (by omega) (by omega)
      rw [fb_ct_succ] at ih
      exact ih
theorem q_reach (hN : 100000000000000000000 ≤ N) : Q_reach N (Rel XC) := by
  intro p1 D R hRel
  obtain ⟨c, hA, hS, hT, hH, hG, hP, hL, hXC⟩ := id hRel
  obtain ⟨hw, hD, hR⟩ := id hA
  rcases vatc p1 with ⟨h1, h2⟩ | ⟨v, hv1, hv, rfl, h1⟩
  · refine ⟨-2, D, R, by unfold f_X6_reach; rw [h1]; rfl, ?_, hRel, Or.inl ⟨h1, by omega⟩⟩
    unfold f_X7_reach
    rcases h2 with h2 | ⟨h2, h3⟩
    · rw [if_pos h2]
    · rw [if_neg h2, if_neg (fa_of_lt h3).2.1]
  · obtain ⟨M, a1, a2, a3, a4, a5⟩ := d_scenesFor (N := N) hw (by omega) hv1 hv hD hL (XD_of hXC)
    obtain ⟨R', lb, o', b1, b2, b3, b4, b5⟩ := m_spread (N := N) hw hN hv hR
    have hf := b5.toR
    refine ⟨nI (rchN c v), M, R', ?_, ?_, rel_plan hA hS hT hH hG hP a3 hf.1 hf.2 a4 a2, Or.inr a5⟩
    · unfold f_X6_reach
      rw [h1, bd_some, if_neg one_ne_zero, a1, bd2_some]
    · unfold f_X7_reach
      rw [if_neg (show ¬ nI v < (1 : Int32) from nI_nlt (b := 1) hv1 (by omega)), if_pos (show nI v ≤ (18 : Int32) from nI_le (b := 18) hv (by decide)), b1, bd2_some]
      exact m_reach_25 (N := N) hw (by omega) b3 b4 N 0 (by omega) (by omega)
end RC
