/-! ===== the class's line of scenes ===== -/
theorem encD_inj {x y : St} (hx : Fit x) (hy : Fit y) (h : encD x = encD y) : x = y := by
  obtain ⟨a1, a2, a3⟩ := x
  obtain ⟨b1, b2, b3⟩ := y
  obtain ⟨p1, p2, p3⟩ := hx
  obtain ⟨q1, q2, q3⟩ := hy
  unfold encD at h
  have p1 : a1 < 512 := p1
  have p3 : a3 < 8 := p3
  have q1 : b1 < 512 := q1
  have q3 : b3 < 8 := q3
  have h : a1 + 512 * a3 + 4096 * a2 = b1 + 512 * b3 + 4096 * b2 := h
  obtain rfl : a1 = b1 := by omega
  obtain rfl : a3 = b3 := by omega
  obtain rfl : a2 = b2 := by omega
  rfl
theorem Int32.ofNat_nI (n : Nat) : Int32.ofNat n = nI n := rfl
def ap {α : Type} (f : Nat → α) (n : Nat) (y : α) : Nat → α := fun i => if i < n then f i else y
theorem ap_lt {α : Type} {f : Nat → α} {n i : Nat} {y : α} (h : i < n) : ap f n y i = f i := if_pos h
theorem ap_ge {α : Type} {f : Nat → α} {n i : Nat} {y : α} (h : ¬ i < n) : ap f n y i = y := if_neg h
def LnX (c : Cfg) (M : Mm) (n : Nat) (xs : Nat → St) (C : Nat → Nat) : Prop :=
  M.1 13 = nI n ∧ (M.2.2 = 4096 ∨ M.2.2 = 40960) ∧ (∀ i, i < n → M.2.1 22 i = nI (encD (xs i)) ∧ Vs c (xs i) ∧ M.2.1 21 (encD (xs i)) = nI (C i) ∧ C i < 2 ^ 31) ∧ (∀ i j, i < j → j < n → xs i ≠ xs j) ∧ ∀ k, k < M.2.2 → M.2.1 21 k = -1 ∨ ∃ i, i < n ∧ encD (xs i) = k
section LX
variable {c : Cfg}
theorem LnX.le (hw : Wf c) {M : Mm} {n : Nat} {xs : Nat → St} {C : Nat → Nat} (h : LnX c M n xs C) (hl : ∀ y, Vs c y → encD y < M.2.2) : n ≤ M.2.2 :=
  fb_holes M.2.2 n (fun i => encD (xs i)) (fun i hi => hl _ (h.2.2.1 i hi).2.1) (fun i j hij hj e => h.2.2.2.1 i j hij hj (encD_inj ((h.2.2.1 i (by omega)).2.1.fit hw) ((h.2.2.1 j hj).2.1.fit hw) e))
theorem d_pjoin (hw : Wf c) {M : Mm} {n : Nat} {xs : Nat → St} {C : Nat → Nat} {y : St} {cv : Nat} (h : LnX c M n xs C) (hl : ∀ y, Vs c y → encD y < M.2.2) (hy : Vs c y) (hcv : cv < 2 ^ 31) :
    ((∃ i, i < n ∧ xs i = y) ∧ f_X1_join (nI (encD y)) (nI cv) M = some M) ∨ ((∀ i, i < n → xs i ≠ y) ∧ ∃ M', f_X1_join (nI (encD y)) (nI cv) M = some M' ∧ LnX c M' (n + 1) (ap xs n y) (ap C n cv) ∧ (∀ j, j ≠ 13 → M'.1 j = M.1 j) ∧ (∀ j, j ≠ 21 → j ≠ 22 → M'.2.1 j = M.2.1 j) ∧ M'.2.2 = M.2.2) := by
  obtain ⟨l1, l2, l3, l4, l5⟩ := id h
  have hfy := hy.fit hw
  have hey := hl y hy
  have hL : M.2.2 ≤ 40960 := by rcases l2 with z | z <;> rw [z] <;> decide
  have hn := h.le hw hl
  have hin : inb (nI (encD y)) (gL M) := (inb_nI (by omega)).mpr hey
  unfold f_X1_join
  rw [if_neg (nI_pos (by omega)), Int32.ofNat_nI, if_neg (show ¬ nI (gL M) ≤ nI (encD y) from nI_ge hey (by show M.2.2 < _; omega))]
  by_cases z : ∃ i, i < n ∧ xs i = y
  · refine Or.inl ⟨z, ?_⟩
    obtain ⟨i, i1, i2⟩ := z
    have e := (l3 i i1).2.2
    rw [i2] at e
    rw [show gI M 13 = nI n from l1]
    by_cases q : nI n < nI (gL M)
    · rw [if_pos q, if_pos hin, gA_nI (by omega), e.1, if_neg (nI_ne_m1 e.2)]
    · rw [if_neg q]
  · have hnew : ∀ i, i < n → xs i ≠ y := fun i hi e => z ⟨i, hi, e⟩
    refine Or.inr ⟨hnew, ?_⟩
    have hn2 : n + 1 ≤ M.2.2 := fb_holes M.2.2 (n + 1) (fun i => if i < n then encD (xs i) else encD y) (fun i hi => by
      by_cases e : i < n
      · rw [if_pos e]; exact hl _ (l3 i e).2.1
      · rw [if_neg e]; exact hey) (fun i j hij hj => by
      by_cases e : j < n
      · rw [if_pos e, if_pos (show i < n by omega)]
        exact fun q => l4 i j hij e (encD_inj ((l3 i (by omega)).2.1.fit hw) ((l3 j e).2.1.fit hw) q)
      · rw [if_neg e, if_pos (show i < n by omega)]
        exact fun q => hnew i (by omega) (encD_inj ((l3 i (by omega)).2.1.fit hw) hfy q))
    have e21 : M.2.1 21 (encD y) = -1 := by
      rcases l5 _ hey with e | ⟨i, i1, i2⟩
      · exact e
      · exact absurd (encD_inj ((l3 i i1).2.1.fit hw) hfy i2) (hnew i i1)
    have g13 : gI (sA M 21 (nI (encD y)) (nI cv)) 13 = nI n := l1
    rw [show gI M 13 = nI n from l1, if_pos (show nI n < nI (gL M) from nI_lt (by show n < M.2.2; omega) (by show M.2.2 < _; omega)), if_pos hin, gA_nI (by omega), e21, if_pos rfl, if_pos hin, g13, nI_1, if_pos (show inb (nI n) (gL (sI (sA M 21 (nI (encD y)) (nI cv)) 13 (nI (n + 1)))) from (inb_nI (by omega)).mpr (by show n < M.2.2; omega))]
    have f21 : ∀ k, (sA (sI (sA M 21 (nI (encD y)) (nI cv)) 13 (nI (n + 1))) 22 (nI n) (nI (encD y))).2.1 21 k = if k = encD y then nI cv else M.2.1 21 k := fun k => by
      rw [sA_ne (by decide)]
      exact sA_at (by omega) k
    have f22 : ∀ k, (sA (sI (sA M 21 (nI (encD y)) (nI cv)) 13 (nI (n + 1))) 22 (nI n) (nI (encD y))).2.1 22 k = if k = n then nI (encD y) else M.2.1 22 k := fun k => by
      rw [sA_at (by omega)]
      have : (sI (sA M 21 (nI (encD y)) (nI cv)) 13 (nI (n + 1))).2.1 22 = M.2.1 22 := sA_ne (by decide)
      rw [this]
    refine ⟨_, rfl, ⟨rfl, l2, fun i hi => ?_, fun i j hij hj => ?_, fun k hk => ?_⟩, fun j hj => ?_, fun j j1 j2 => ?_, rfl⟩
    · rw [f22, f21]
      by_cases e : i < n
      · obtain ⟨a1, a2, a3, a4⟩ := l3 i e
        rw [if_neg (show ¬ i = n by omega), ap_lt e, ap_lt e, if_neg (fun q => hnew i e (encD_inj (a2.fit hw) hfy q))]
        exact ⟨a1, a2, a3, a4⟩
      · rw [if_pos (show i = n by omega), ap_ge e, ap_ge e, if_pos rfl]
        exact ⟨rfl, hy, rfl, hcv⟩
    · by_cases e : j < n
      · rw [ap_lt e, ap_lt (show i < n by omega)]; exact l4 i j hij e
      · rw [ap_ge e, ap_lt (show i < n by omega)]; exact hnew i (by omega)
    · rw [f21]
      by_cases e : k = encD y
      · exact Or.inr ⟨n, by omega, by rw [ap_ge (Nat.lt_irrefl n), e]⟩
      · rw [if_neg e]
        rcases l5 k hk with q | ⟨i, i1, i2⟩
        · exact Or.inl q
        · exact Or.inr ⟨i, by omega, by rw [ap_lt i1]; exact i2⟩
    · exact up_ne hj
    · rw [sA_ne j2]
      exact sA_ne j1
theorem d_pjoin_no (M : Mm) (cv : Int32) : f_X1_join (-1) cv M = some M := by
  unfold f_X1_join
  rw [if_pos (by decide)]
/-- no frail baths: nothing is fresh -/
theorem frail0 {D : Mm} (h : OkD c D) (h6 : D.1 6 = 0) : ∀ b, b < 9 → cK c b ≠ 4 := by
  intro b hb e
  have h1 : D.1 6 = nI (bm (fun b => decide (cK c b = 4)) 9) := h.2.2.2.2.2.2.2.1
  rw [h6] at h1
  have h2 := (nI_z (Nat.lt_trans (bm_lt _ 9) (by decide))).mp h1.symm
  have h3 := bm_bit (fun b => decide (cK c b = 4)) 9 b
  rw [h2, Nat.zero_testBit, decide_eq_true hb, decide_eq_true e] at h3
  cases h3
theorem fits {D : Mm} (hw : Wf c) (h : OkD c D) {L : Nat} (hL : L = 40960 ∨ (L = 4096 ∧ D.1 6 = 0)) : ∀ y, Vs c y → encD y < L := by
  intro y hy
  have hf := hy.fit hw
  rcases hL with z | ⟨z, z2⟩
  · rw [z]; exact encD_lt hf
  · have h0 : y.2.1 = 0 := by
      rcases hy.2.1 with q | ⟨q1, q2, q3, q4⟩
      · exact q
      · exact absurd q4 (frail0 h z2 _ (by omega))
    obtain ⟨f1, f2, f3⟩ := hf
    rw [z]
    unfold encD
    omega
def FrX (D M : Mm) : Prop := (∀ j, j < 13 ∨ 16 < j → M.1 j = D.1 j) ∧ ∀ j, j ≠ 19 → j ≠ 20 → j ≠ 21 → j ≠ 22 → M.2.1 j = D.2.1 j
theorem FrX.okD {D M : Mm} (h : FrX D M) (hD : OkD c D) : OkD c M := OkD_of (fun j _ _ => h.1 j (by omega)) (fun j _ _ _ => h.2 j (by omega) (by omega) (by omega) (by omega)) hD
theorem d_startLine (hw : Wf c) {D : Mm} (hD : OkD c D) (hL : D.2.2 = 4096 ∨ D.2.2 = 40960) :
    ∃ M, f_X1_startLine D = some M ∧ LnX c M 1 (fun _ => x0) (fun _ => 0) ∧ (∀ y, Vs c y → encD y < M.2.2) ∧ FrX D M ∧ M.1 14 = D.1 14 ∧ M.1 15 = -1 ∧ M.1 16 = -1 ∧ M.2.1 19 = D.2.1 19 ∧ M.2.1 20 = D.2.1 20 ∧ kap D + kp M ≤ kp D ∧ kap M = 0 := by
  have main : ∀ M0 : Mm, (M0.2.2 = 40960 ∨ (M0.2.2 = 4096 ∧ D.1 6 = 0)) → M0.1 = D.1 → (∀ j, j ≠ 21 → j ≠ 22 → M0.2.1 j = D.2.1 j) → ∃ M, f_X1_startLine_42 M0 = some M ∧ LnX c M 1 (fun _ => x0) (fun _ => 0) ∧ (∀ y, Vs c y → encD y < M.2.2) ∧ FrX D M ∧ M.1 14 = D.1 14 ∧ M.1 15 = -1 ∧ M.1 16 = -1 ∧ M.2.1 19 = D.2.1 19 ∧ M.2.1 20 = D.2.1 20 ∧ M.2.2 = M0.2.2 := by
    intro M0 hL0 hI hA
    have hl := fits hw hD hL0
    obtain ⟨M1, hM1⟩ : ∃ M1, M1 = sI (sI (sI (sF M0 21 (gL M0) (-1)) 15 (-1)) 16 (-1)) 13 0 := ⟨_, rfl⟩
    have hLx : LnX c M1 0 (fun _ => x0) (fun _ => 0) := by
      rw [hM1]
      refine ⟨rfl, ?_, fun i hi => absurd hi (Nat.not_lt_zero i), fun i j _ hj => absurd hj (Nat.not_lt_zero j), fun k hk => Or.inl ?_⟩
      · show M0.2.2 = 4096 ∨ M0.2.2 = 40960
        rcases hL0 with z | z
        · exact Or.inr z
        · exact Or.inl z.1
      · have hk : k < M0.2.2 := hk
        exact if_pos hk
    have hl1 : ∀ y, Vs c y → encD y < M1.2.2 := by rw [hM1]; exact hl
    rcases d_pjoin hw (y := x0) (cv := 0) hLx hl1 Vs0 (by decide) with ⟨⟨i, hi, _⟩, _⟩ | ⟨_, M, g1, g2, g3, g4, g5⟩
    · exact absurd hi (Nat.not_lt_zero i)
    · refine ⟨M, ?_, ?_, by rw [g5]; exact hl1, ⟨fun j hj => ?_, fun j j1 j2 j3 j4 => ?_⟩, ?_, ?_, ?_, ?_, ?_, ?_⟩
      · unfold f_X1_startLine_42
        rw [← hM1]
        have g1' : f_X1_join 0 0 M1 = some M := g1
        rw [g1', bd_some]
      · have e1 : ap (fun _ => x0) 0 x0 = fun _ => x0 := by funext i; exact ap_ge (Nat.not_lt_zero i)
        have e2 : ap (fun _ => 0) 0 0 = fun _ => 0 := by funext i; exact ap_ge (Nat.not_lt_zero i)
        rw [e1, e2] at g2
        exact g2
      · rw [g3 j (by omega), hM1]
        show va_up (va_up (va_up M0.1 15 (-1)) 16 (-1)) 13 0 j = _
        rw [up_ne (by omega), up_ne (by omega), up_ne (by omega), hI]
      · rw [g4 j j3 j4, hM1]
        show va_up M0.2.1 21 _ j = _
        rw [up_ne j3, hA j j3 j4]
      · rw [g3 14 (by decide), hM1]
        show M0.1 14 = _
        rw [hI]
      · rw [g3 15 (by decide), hM1]; rfl
      · rw [g3 16 (by decide), hM1]; rfl
      · rw [g4 19 (by decide) (by decide), hM1]
        show M0.2.1 19 = _
        rw [hA 19 (by decide) (by decide)]
      · rw [g4 20 (by decide) (by decide), hM1]
        show M0.2.1 20 = _
        rw [hA 20 (by decide) (by decide)]
      · rw [g5, hM1]; rfl
  have fin : ∀ M : Mm, FrX D M → (M.2.2 = 40960 ∨ (M.2.2 = 4096 ∧ D.1 6 = 0)) → (D.2.2 = 40960 → M.2.2 = 40960) → kap D + kp M ≤ kp D ∧ kap M = 0 := by
    intro M hF hM hM2
    have h6 : M.1 6 = D.1 6 := hF.1 6 (Or.inl (by decide))
    unfold kap kp gL gI
    rw [h6]
    rcases hM with z | ⟨z, z2⟩
    · rw [z]
      rcases hL with y | y
      · rw [y]
        by_cases q : D.1 6 = 0
        · simp [q]
        · simp [q]
      · rw [y]; simp
    · rw [z, z2]
      rcases hL with y | y
      · rw [y]; simp
      · have := hM2 y
        rw [z] at this
        exact absurd this (by decide)
  unfold f_X1_startLine f_X5_hasFrail
  by_cases h6 : D.1 6 = 0
  · rw [if_pos (show gI D 6 = 0 from h6), bd_some, if_pos rfl]
    have hL0 : D.2.2 = 40960 ∨ (D.2.2 = 4096 ∧ D.1 6 = 0) := by
      rcases hL with z | z
      · exact Or.inr ⟨z, h6⟩
      · exact Or.inl z
    obtain ⟨M, a1, a2, a3, a4, a5, a6, a7, a8, a9, a10⟩ := main D hL0 rfl (fun _ _ _ => rfl)
    obtain ⟨b1, b2⟩ := fin M a4 (by rw [a10]; exact hL0) (fun z => by rw [a10]; exact z)
    refine ⟨M, ?_, a2, a3, a4, a5, a6, a7, a8, a9, b1, b2⟩
    unfold f_X1_startLine_18 gL
    rcases hL with z | z
    · rw [z, if_pos (by decide), if_pos (by decide)]; exact a1
    · rw [z, if_pos (by decide), if_pos (by decide)]; exact a1
  · rw [if_neg (show ¬ gI D 6 = 0 from h6), bd_some, if_neg one_ne_zero]
    unfold f_X1_startLine_18 gL
    rcases hL with z | z
    · obtain ⟨M, a1, a2, a3, a4, a5, a6, a7, a8, a9, a10⟩ := main (sN D) (Or.inl rfl) rfl (fun j j1 j2 => (up_ne j2).trans (up_ne j1))
      obtain ⟨b1, b2⟩ := fin M a4 (Or.inl a10) (fun _ => a10)
      refine ⟨M, ?_, a2, a3, a4, a5, a6, a7, a8, a9, b1, b2⟩
      rw [z, if_pos (by decide), if_neg (by decide), if_pos rfl]; exact a1
    · obtain ⟨M, a1, a2, a3, a4, a5, a6, a7, a8, a9, a10⟩ := main D (Or.inl z) rfl (fun _ _ _ => rfl)
      obtain ⟨b1, b2⟩ := fin M a4 (Or.inl (a10.trans z)) (fun _ => a10.trans z)
      refine ⟨M, ?_, a2, a3, a4, a5, a6, a7, a8, a9, b1, b2⟩
      rw [z, if_pos (by decide), if_pos (by decide)]; exact a1
end LX
