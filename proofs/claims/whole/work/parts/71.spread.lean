/-! ===== the reference's search: labels, queue ===== -/
theorem encM_inj {x y : St} (hx : Fit x) (hy : Fit y) (h : encM x = encM y) : x = y := by
  obtain ⟨a1, a2, a3⟩ := x
  obtain ⟨b1, b2, b3⟩ := y
  obtain ⟨p1, p2, p3⟩ := hx
  obtain ⟨q1, q2, q3⟩ := hy
  unfold encM at h
  have p1 : a1 < 512 := p1
  have p2 : a2 < 10 := p2
  have q1 : b1 < 512 := q1
  have q2 : b2 < 10 := q2
  have h : a1 + 512 * a2 + 5120 * a3 = b1 + 512 * b2 + 5120 * b3 := h
  obtain rfl : a1 = b1 := by omega
  obtain rfl : a2 = b2 := by omega
  obtain rfl : a3 = b3 := by omega
  rfl
theorem m_price {a : Nat} (ha : a < 18) : f_X7_price (nI a) = some (nI (pr a)) := by
  unfold f_X7_price pr
  by_cases h : a < 9
  · rw [if_neg (show ¬ (9 : Int32) ≤ nI a from nI_ge (b := 9) h (by decide)), if_pos h]; rfl
  · rw [if_pos (show (9 : Int32) ≤ nI a from nI_le (a := 9) (by omega) (by omega)), if_neg h]; rfl
theorem pr_le (a : Nat) : pr a ≤ 65536 := by unfold pr; split <;> decide
theorem rem40960 {a : Nat} (ha : a < 2 ^ 31) : nI a - nI a / (40960 : Int32) * (40960 : Int32) = nI (a % 40960) := nI_rem (b := 40960) ha (by decide)
theorem sA_ne {M : Mm} {j j' : Nat} {i v : Int32} (h : j ≠ j') : (sA M j' i v).2.1 j = M.2.1 j := up_ne h
theorem sA_at {M : Mm} {j i : Nat} {v : Int32} (hi : i < 2 ^ 31) (k : Nat) : (sA M j (nI i) v).2.1 j k = if k = i then v else M.2.1 j k := by
  show va_up M.2.1 j (upd (M.2.1 j) (nI i).toNatClampNeg v) j k = _
  rw [up_eq, nI_clamp hi, up_row]
def SpB (c : Cfg) (v : Nat) (M : Mm) (fi mn : Nat) (lb q : Nat → Nat) : Prop :=
  fi < 40960 ∧ (∀ k, k < 40960 → M.2.1 13 k = nI (lb k) ∧ lb k ≤ 1000000000 ∧ (lb k < 1000000000 → ∃ x, Vs c x ∧ encM x = k ∧ Wk c v x (lb k))) ∧ lb 0 = 0 ∧
  (∀ i, i < mn → M.2.1 15 ((fi + i) % 40960) = nI (q i) ∧ q i < 40960 ∧ lb (q i) < 1000000000) ∧ (∀ i j, i < j → j < mn → q i ≠ q j) ∧ ∀ k, k < 40960 → isB (M.2.1 14 k) ∧ (M.2.1 14 k = 1 → ∃ i, i < mn ∧ q i = k)
def Rlx (c : Cfg) (v : Nat) (lb q : Nat → Nat) (mn ex : Nat) : Prop := ∀ x, Vs c x → lb (encM x) < 1000000000 → encM x ≠ ex → (∀ i, i < mn → q i ≠ encM x) → ∀ a, a < 18 → ∀ y, nextN c v x a = some y → lb (encM y) ≤ lb (encM x) + pr a
section SP
variable {c : Cfg} {N v : Nat} {mu : (Nat → Nat) → Nat}
theorem m_spread_80 (hw : Wf c) (hN : 20 ≤ N) (hv : v ≤ 18) {R : Mm} (hR : OkR c R) (hmu : ∀ (lb : Nat → Nat) k w, k < 40960 → w < lb k → mu (fun j => if j = k then w else lb j) + 1 ≤ mu lb) {k47 : Int32 → Int32 → Int32 → Mm → Option (Int32 × Mm)} {x : St} {fi T : Nat} (hx : Vs c x) : ∀ (m a : Nat) (M : Mm) (mn : Nat) (lb q : Nat → Nat), a ≤ 18 → 18 < m + a → SpB c v M fi mn lb q → (∀ i, i < mn → M.2.1 14 (q i) = 1) → lb (encM x) < 1000000000 → (∀ i, i < mn → q i ≠ encM x) → Rlx c v lb q mn (encM x) → (∀ b, b < a → ∀ y, nextN c v x b = some y → lb (encM y) ≤ lb (encM x) + pr b) → 2 * mu lb + mn ≤ T → M.1 = R.1 → (∀ j, j ≠ 13 → j ≠ 14 → j ≠ 15 → M.2.1 j = R.2.1 j) → M.2.2 = R.2.2 →
    ∃ M' mn' lb' q', f_X7_spread_80 N k47 m (nI v) (nI fi) (nI mn) (nI (encM x)) (nI a) M = k47 (nI v) (nI fi) (nI mn') M' ∧ SpB c v M' fi mn' lb' q' ∧ (∀ i, i < mn' → M'.2.1 14 (q' i) = 1) ∧ Rlx c v lb' q' mn' 40960 ∧ 2 * mu lb' + mn' ≤ T ∧ M'.1 = R.1 ∧ (∀ j, j ≠ 13 → j ≠ 14 → j ≠ 15 → M'.2.1 j = R.2.1 j) ∧ M'.2.2 = R.2.2 := by
  intro m
  induction m with
  | zero => intro a M mn lb q h1 h2; omega
  | succ m ih =>
    intro a M mn lb q h1 h2 hB hW hl hnq hr hra hT hI hA hL
    have hfx := hx.fit hw
    have hex := encM_lt hfx
    obtain ⟨b1, b2, b3, b4, b5, b6⟩ := id hB
    rw [f_X7_spread_80]
    by_cases ha : a = 18
    · subst ha
      refine ⟨M, mn, lb, q, by rw [if_pos (show (18 : Int32) ≤ nI 18 from nI_le (Nat.le_refl 18) (by decide))], hB, hW, fun z hz hz2 hz3 hz4 b hb y hy => ?_, hT, hI, hA, hL⟩
      by_cases e : encM z = encM x
      · obtain rfl := encM_inj (hz.fit hw) hfx e
        exact hra b hb y hy
      · exact hr z hz hz2 e hz4 b hb y hy
    · have hM : OkR c M := OkR_of (congrFun hI _) (congrFun hI _) (congrFun hI _) (fun i hi => hA i (by omega) (by omega) (by omega)) hR
      have hmn : mn ≤ 40960 := fb_holes 40960 mn q (fun i hi => (b4 i hi).2.1) b5
      rw [if_neg (show ¬ (18 : Int32) ≤ nI a from nI_ge (b := 18) (by omega) (by decide)), m_behind (N := N) hw hM (by omega) hfx (by omega) hv, bd_some, nI_1]
      cases hy : nextN c v x a with
      | none =>
        rw [if_pos (show leadI encM none < 0 by decide)]
        exact ih (a + 1) M mn lb q (by omega) (by omega) hB hW hl hnq hr (fun b hb y' hy' => by
          by_cases e : b = a
          · subst e; rw [hy] at hy'; cases hy'
          · exact hra b (by omega) y' hy') hT hI hA hL
      | some y =>
        have hvy := Vs_next hx hy
        have hfy := hvy.fit hw
        have hey := encM_lt hfy
        have hinx : inb (nI (encM x)) 40960 := (inb_nI (by omega)).mpr hex
        have hiny : inb (nI (encM y)) 40960 := (inb_nI (by omega)).mpr hey
        have hpr := pr_le a
        have hpp := pr_pos a
        have ely := (b2 (encM y) hey).1
        have ely2 := (b2 (encM y) hey).2.1
        rw [show leadI encM (some y) = nI (encM y) from rfl, if_neg (nI_pos (by omega)), if_pos hinx, m_price (by omega), bd_some, if_pos hiny, gA_nI (by omega), gA_nI (by omega), ely, (b2 (encM x) hex).1, nI_add]
        by_cases hc : lb (encM y) ≤ lb (encM x) + pr a
        · rw [if_pos (nI_le hc (by omega))]
          exact ih (a + 1) M mn lb q (by omega) (by omega) hB hW hl hnq hr (fun b hb y' hy' => by
            by_cases e : b = a
            · subst e; rw [hy] at hy'; cases hy'; exact hc
            · exact hra b (by omega) y' hy') hT hI hA hL
        · have hne : encM y ≠ encM x := fun z => hc (by rw [z]; omega)
          rw [if_neg (nI_ge (a := lb (encM x) + pr a) (b := lb (encM y)) (by omega) (by omega)), if_pos hinx, bd_some, nI_add (lb (encM x)) (pr a), if_pos hiny, if_pos hiny]
          have hwalk : Wk c v y (lb (encM x) + pr a) := by
            obtain ⟨z, z1, z2, z3⟩ := (b2 (encM x) hex).2.2 hl
            obtain rfl := encM_inj (z1.fit hw) hfx z2
            exact z3.step (by omega) hy
          have hmu2 := hmu lb (encM y) (lb (encM x) + pr a) hey (by omega)
          obtain ⟨lb', hlb'⟩ : ∃ lb' : Nat → Nat, lb' = fun j => if j = encM y then lb (encM x) + pr a else lb j := ⟨_, rfl⟩
          rw [← hlb'] at hmu2
          have ly : lb' (encM y) = lb (encM x) + pr a := by rw [hlb']; exact if_pos rfl
          have lo : ∀ j, j ≠ encM y → lb' j = lb j := fun j hj => by rw [hlb']; exact if_neg hj
          have lle : ∀ j, lb' j ≤ lb j := fun j => by
            by_cases e : j = encM y
            · rw [e, ly]; omega
            · rw [lo j e]; exact Nat.le_refl _
          have lx : lb' (encM x) = lb (encM x) := lo _ (Ne.symm hne)
          have hy1000 : lb (encM x) + pr a < 1000000000 := by omega
          have e13 : ∀ k, (sA M 13 (nI (encM y)) (nI (lb (encM x) + pr a))).2.1 13 k = if k = encM y then nI (lb (encM x) + pr a) else M.2.1 13 k := by
            intro k
            rw [sA_at (by omega)]
          have h13 : ∀ k, k < 40960 → (sA M 13 (nI (encM y)) (nI (lb (encM x) + pr a))).2.1 13 k = nI (lb' k) ∧ lb' k ≤ 1000000000 ∧ (lb' k < 1000000000 → ∃ x, Vs c x ∧ encM x = k ∧ Wk c v x (lb' k)) := by
            intro k hk
            rw [e13]
            by_cases e : k = encM y
            · rw [if_pos e, e, ly]
              exact ⟨rfl, by omega, fun _ => ⟨y, hvy, rfl, hwalk⟩⟩
            · rw [if_neg e, lo k e]
              exact b2 k hk
          have h00 : lb' 0 = 0 := by have := lle 0; omega
          have rel : ∀ b, b < a + 1 → ∀ y', nextN c v x b = some y' → lb' (encM y') ≤ lb' (encM x) + pr b := fun b hb y' hy' => by
            rw [lx]
            by_cases e : b = a
            · subst e; rw [hy] at hy'; cases hy'; rw [ly]; exact Nat.le_refl _
            · exact Nat.le_trans (lle _) (hra b (by omega) y' hy')
          have e14 : gA (sA M 13 (nI (encM y)) (nI (lb (encM x) + pr a))) 14 (nI (encM y)) = M.2.1 14 (encM y) := by
            rw [gA_nI (by omega)]; rfl
          rw [e14]
          obtain ⟨w1, w2⟩ := b6 (encM y) hey
          rcases w1 with w1 | w1
          · have hnew : ∀ i, i < mn → q i ≠ encM y := fun i hi e => by
              have := hW i hi
              rw [e, w1] at this
              exact absurd this (by decide)
            have hmn2 : mn + 1 ≤ 40960 := fb_holes 40960 (mn + 1) (fun i => if i < mn then q i else encM y) (fun i hi => by
              by_cases e : i < mn
              · rw [if_pos e]; exact (b4 i e).2.1
              · rw [if_neg e]; exact hey) (fun i j hij hj => by
              by_cases e : j < mn
              · rw [if_pos e, if_pos (show i < mn by omega)]; exact b5 i j hij e
              · rw [if_neg e, if_pos (show i < mn by omega)]; exact hnew i (by omega))
            obtain ⟨q', hq'⟩ : ∃ q' : Nat → Nat, q' = fun i => if i < mn then q i else encM y := ⟨_, rfl⟩
            have qo : ∀ i, i < mn → q' i = q i := fun i hi => by rw [hq']; exact if_pos hi
            have qn : q' mn = encM y := by rw [hq']; exact if_neg (Nat.lt_irrefl mn)
            have hpos : (fi + mn) % 40960 < 40960 := Nat.mod_lt _ (by decide)
            rw [if_pos w1, if_pos hiny, nI_add, rem40960 (by omega), if_pos ((inb_nI (by omega)).mpr hpos), nar_bool (Or.inr rfl), nI_1]
            have f14 : ∀ k, (sA (sA (sA M 13 (nI (encM y)) (nI (lb (encM x) + pr a))) 14 (nI (encM y)) 1) 15 (nI ((fi + mn) % 40960)) (nI (encM y))).2.1 14 k = if k = encM y then 1 else M.2.1 14 k := by
              intro k
              rw [sA_ne (by decide), sA_at (by omega), sA_ne (by decide)]
            have f15 : ∀ k, (sA (sA (sA M 13 (nI (encM y)) (nI (lb (encM x) + pr a))) 14 (nI (encM y)) 1) 15 (nI ((fi + mn) % 40960)) (nI (encM y))).2.1 15 k = if k = (fi + mn) % 40960 then nI (encM y) else M.2.1 15 k := by
              intro k
              rw [sA_at (by omega), sA_ne (by decide), sA_ne (by decide)]
            have hB' : SpB c v (sA (sA (sA M 13 (nI (encM y)) (nI (lb (encM x) + pr a))) 14 (nI (encM y)) 1) 15 (nI ((fi + mn) % 40960)) (nI (encM y))) fi (mn + 1) lb' q' := by
              refine ⟨b1, by rw [sA_ne (by decide), sA_ne (by decide)]; exact h13, h00, fun i hi => ?_, fun i j hij hj => ?_, fun k hk => ?_⟩
              · rw [f15]
                by_cases e : i < mn
                · obtain ⟨c1, c2, c3⟩ := b4 i e
                  rw [if_neg (by omega), qo i e]
                  exact ⟨c1, c2, Nat.lt_of_le_of_lt (lle _) c3⟩
                · obtain rfl : i = mn := by omega
                  rw [if_pos rfl, qn, ly]
                  exact ⟨rfl, hey, hy1000⟩
              · by_cases e : j < mn
                · rw [qo j e, qo i (by omega)]; exact b5 i j hij e
                · obtain rfl : j = mn := by omega
                  rw [qn, qo i hij]; exact hnew i hij
              · rw [f14]
                by_cases e : k = encM y
                · rw [if_pos e]; exact ⟨Or.inr rfl, fun _ => ⟨mn, by omega, by rw [qn, e]⟩⟩
                · rw [if_neg e]
                  refine ⟨(b6 k hk).1, fun z => ?_⟩
                  obtain ⟨i, i1, i2⟩ := (b6 k hk).2 z
                  exact ⟨i, by omega, by rw [qo i i1]; exact i2⟩
            refine ih (a + 1) _ (mn + 1) lb' q' (by omega) (by omega) hB' (fun i hi => ?_) (by rw [lx]; exact hl) (fun i hi => ?_) (fun z hz hz2 hz3 hz4 b hb y' hy' => ?_) rel (by omega) hI (fun j j1 j2 j3 => (up_ne j3).trans ((up_ne j2).trans ((up_ne j1).trans (hA j j1 j2 j3)))) hL
            · rw [f14]
              by_cases e : i < mn
              · rw [qo i e, if_neg (hnew i e)]; exact hW i e
              · obtain rfl : i = mn := by omega
                rw [qn, if_pos rfl]
            · by_cases e : i < mn
              · rw [qo i e]; exact hnq i e
              · obtain rfl : i = mn := by omega
                rw [qn]; exact hne
            · have hzy : encM z ≠ encM y := fun e => hz4 mn (by omega) (by rw [qn, e])
              rw [lo _ hzy] at hz2 ⊢
              exact Nat.le_trans (lle _) (hr z hz hz2 hz3 (fun i hi => by rw [← qo i hi]; exact hz4 i (by omega)) b hb y' hy')
          · obtain ⟨i0, i1, i2⟩ := w2 w1
            rw [if_neg (by rw [w1]; decide)]
            have hB' : SpB c v (sA M 13 (nI (encM y)) (nI (lb (encM x) + pr a))) fi mn lb' q := by
              refine ⟨b1, h13, h00, fun i hi => ?_, b5, b6⟩
              obtain ⟨c1, c2, c3⟩ := b4 i hi
              exact ⟨c1, c2, Nat.lt_of_le_of_lt (lle _) c3⟩
            refine ih (a + 1) _ mn lb' q (by omega) (by omega) hB' hW (by rw [lx]; exact hl) hnq (fun z hz hz2 hz3 hz4 b hb y' hy' => ?_) rel (by omega) hI (fun j j1 j2 j3 => (up_ne j1).trans (hA j j1 j2 j3)) hL
            have hzy : encM z ≠ encM y := fun e => hz4 i0 i1 (by rw [i2, e])
            rw [lo _ hzy] at hz2 ⊢
            exact Nat.le_trans (lle _) (hr z hz hz2 hz3 hz4 b hb y' hy')
end SP
