/-! ===== make, pour, undo ===== -/
theorem m_keep_11 {N : Nat} {x1 : Int32} {R : Mm} : ∀ (n i : Nat) (M : Mm), 1 ≤ i → i ≤ 100 → 100 < n + i → M.1 = R.1 → (∀ q, q = 8 ∨ q = 9 ∨ q = 10 → ∀ j, M.2.1 q j = if j + 1 < i then R.2.1 q (j + 1) else R.2.1 q j) → (∀ q, q ≠ 8 → q ≠ 9 → q ≠ 10 → M.2.1 q = R.2.1 q) → M.2.2 = R.2.2 →
    ∃ M', f_X7_keep_11 N n x1 (nI i) M = f_X7_keep_75 N x1 (sI M' 6 (R.1 6 - 1)) ∧ M'.1 = R.1 ∧ (∀ q, q = 8 ∨ q = 9 ∨ q = 10 → ∀ j, M'.2.1 q j = if j + 1 < 100 then R.2.1 q (j + 1) else R.2.1 q j) ∧ (∀ q, q ≠ 8 → q ≠ 9 → q ≠ 10 → M'.2.1 q = R.2.1 q) ∧ M'.2.2 = R.2.2
  | 0, i, M, h0, h1, h2, e1, e2, e3, e4 => by omega
  | n + 1, i, M, h0, h1, h2, e1, e2, e3, e4 => by
    rw [f_X7_keep_11]
    by_cases hi : i = 100
    · subst hi
      rw [if_pos (show (100 : Int32) ≤ nI 100 from nI_le (Nat.le_refl 100) (by decide))]
      refine ⟨M, ?_, e1, e2, e3, e4⟩
      rw [show gI M 6 = R.1 6 from congrFun e1 6]
    · have hin : inb (nI i) 100 := (inb_nI (by omega)).mpr (by omega)
      have hin2 : inb (nI (i - 1)) 100 := (inb_nI (by omega)).mpr (by omega)
      rw [if_neg (show ¬ (100 : Int32) ≤ nI i from nI_ge (b := 100) (by omega) (by decide)), show nI i - (1 : Int32) = nI (i - 1) from nI_sub (b := 1) h0 (by omega), if_pos hin, if_pos hin2, if_pos hin, if_pos hin2, if_pos hin, if_pos hin2, nI_1]
      have clm : (nI (i - 1)).toNatClampNeg = i - 1 := nI_clamp (by omega)
      have clp : (nI i).toNatClampNeg = i := nI_clamp (by omega)
      refine m_keep_11 n (i + 1) _ (by omega) (by omega) (by omega) ?_ (fun q hq j => ?_) (fun q h8 h9 h10 => ?_) ?_
      · exact e1
      · have up : ∀ f : Nat → Int32, (∀ j, f j = if j + 1 < i then R.2.1 q (j + 1) else R.2.1 q j) → upd f (nI (i - 1)).toNatClampNeg (f (nI i).toNatClampNeg) j = if j + 1 < i + 1 then R.2.1 q (j + 1) else R.2.1 q j := by
          intro f hf
          rw [clm, clp]
          unfold upd
          by_cases hj : j = i - 1
          · rw [if_pos hj, hf i, if_neg (by omega), if_pos (by omega), hj, show i - 1 + 1 = i by omega]
          · rw [if_neg hj, hf j]
            by_cases hj2 : j + 1 < i
            · rw [if_pos hj2, if_pos (by omega)]
            · rw [if_neg hj2, if_neg (by omega)]
        rcases hq with rfl | rfl | rfl
        · exact up (M.2.1 8) (e2 8 (by simp))
        · exact up (M.2.1 9) (e2 9 (by simp))
        · exact up (M.2.1 10) (e2 10 (by simp))
      · show va_up (va_up (va_up M.2.1 8 _) 9 _) 10 _ q = _
        rw [up_ne h10, up_ne h9, up_ne h8]
        exact e3 q h8 h9 h10
      · exact e4
theorem m_keep {R : Mm} {N k : Nat} {x1 : Int32} (hN : 200 ≤ N) (hk : k ≤ 100) (h6 : R.1 6 = nI k) : ∃ R1, f_X7_keep N x1 R = some R1 ∧ R1.1 6 = nI (if k = 100 then 100 else k + 1) ∧ (∀ i, i < (if k = 100 then 100 else k + 1) → R1.2.1 8 i = if i + 1 = (if k = 100 then 100 else k + 1) then R.1 2 else R.2.1 8 (if k = 100 then i + 1 else i)) ∧ (∀ i, i < (if k = 100 then 100 else k + 1) → R1.2.1 9 i = if i + 1 = (if k = 100 then 100 else k + 1) then R.1 3 else R.2.1 9 (if k = 100 then i + 1 else i)) ∧ (∀ i, i < (if k = 100 then 100 else k + 1) → R1.2.1 10 i = if i + 1 = (if k = 100 then 100 else k + 1) then x1 else R.2.1 10 (if k = 100 then i + 1 else i)) ∧ (∀ j, j ≠ 6 → R1.1 j = R.1 j) ∧ (∀ j, j ≠ 8 → j ≠ 9 → j ≠ 10 → R1.2.1 j = R.2.1 j) := by
  unfold f_X7_keep
  by_cases hk2 : k = 100
  · rw [show gI R 6 = nI k from h6, if_pos (by rw [hk2]; rfl)]
    obtain ⟨M', a1, a2, a3, a4, a5⟩ := m_keep_11 (N := N) (x1 := x1) (R := R) N 1 R (by decide) (by decide) (by omega) rfl (fun q _ j => by rw [if_neg (by omega)]) (fun q _ _ _ => rfl) rfl
    have h99 : R.1 6 - 1 = nI 99 := by rw [h6, hk2]; rfl
    rw [h99] at a1
    obtain ⟨R1, b1, b2, b3, b4, b5, b6, b7⟩ := m_keep_75 (N := N) (x1 := x1) (R := sI M' 6 (nI 99)) (k := 99) (by decide) rfl
    simp only [if_pos hk2]
    refine ⟨R1, a1.trans b1, b2, fun i hi => ?_, fun i hi => ?_, fun i hi => ?_, fun j hj => ?_, fun j h8 h9 h10 => ?_⟩
    · rw [b3 i]
      by_cases q : i = 99
      · rw [if_pos q, if_pos (by omega)]
        exact congrFun a2 2
      · rw [if_neg q, if_neg (by omega)]
        exact (a3 8 (by simp) i).trans (if_pos (by omega))
    · rw [b4 i]
      by_cases q : i = 99
      · rw [if_pos q, if_pos (by omega)]
        exact congrFun a2 3
      · rw [if_neg q, if_neg (by omega)]
        exact (a3 9 (by simp) i).trans (if_pos (by omega))
    · rw [b5 i]
      by_cases q : i = 99
      · rw [if_pos q, if_pos (by omega)]
      · rw [if_neg q, if_neg (by omega)]
        exact (a3 10 (by simp) i).trans (if_pos (by omega))
    · exact (b6 j hj).trans ((up_ne hj).trans (congrFun a2 j))
    · exact (b7 j h8 h9 h10).trans (a4 j h8 h9 h10)
  · rw [show gI R 6 = nI k from h6, if_neg (show ¬ nI k = 100 from fun z => hk2 (nI_inj (b := 100) (by omega) (by decide) z))]
    obtain ⟨R1, b1, b2, b3, b4, b5, b6, b7⟩ := m_keep_75 (N := N) (x1 := x1) (R := R) (k := k) (by omega) h6
    simp only [if_neg hk2]
    refine ⟨R1, b1, b2, fun i hi => ?_, fun i hi => ?_, fun i hi => ?_, b6, b7⟩
    · rw [b3 i]
      by_cases q : i = k
      · rw [if_pos q, if_pos (by omega)]
      · rw [if_neg q, if_neg (by omega)]
    · rw [b4 i]
      by_cases q : i = k
      · rw [if_pos q, if_pos (by omega)]
      · rw [if_neg q, if_neg (by omega)]
    · rw [b5 i]
      by_cases q : i = k
      · rw [if_pos q, if_pos (by omega)]
      · rw [if_neg q, if_neg (by omega)]
/-- both keep the same -/
theorem keep_rel {c : Cfg} {D R : Mm} {N s f : Nat} {mb : Option Nat} (hN : 200 ≤ N) (hH : RelH c D R) (hv : Vs c (s, f, 0)) (hb : ∀ b, mb = some b → b < 9) (e1 : D.1 1 = nI (encD (s, f, 0))) (e2 : R.1 2 = nI s) (e3 : R.1 3 = nI f) : ∃ D1 R1, f_X0_keep (D.1 1) (oI mb) D = some D1 ∧ f_X7_keep N (oI mb) R = some R1 ∧ RelH c D1 R1 ∧ (∀ j, j ≠ 11 → j ≠ 12 → D1.1 j = D.1 j) ∧ (∀ j, j ≠ 17 → j ≠ 18 → D1.2.1 j = D.2.1 j) ∧ D1.2.2 = D.2.2 ∧ (∀ j, j ≠ 6 → R1.1 j = R.1 j) ∧ (∀ j, j ≠ 8 → j ≠ 9 → j ≠ 10 → R1.2.1 j = R.2.1 j) := by
  obtain ⟨k, nx, hk, hnx, k1, k2, k3, k4⟩ := hH
  obtain ⟨D1, a1, a2, a3, a4, a5, a6, a7, a8⟩ := d_keep (D := D) (x1 := D.1 1) (x2 := oI mb) hnx hk k1 k2
  obtain ⟨R1, b1, b2, b3, b4, b5, b6, b7⟩ := m_keep (R := R) (x1 := oI mb) hN hk k3
  refine ⟨D1, R1, a1, b1, ?_, a6, a7, a8, b6, b7⟩
  refine ⟨if k = 100 then 100 else k + 1, (nx + 1) % 100, ?_, Nat.mod_lt _ (by decide), a2, a3, b2, fun j hj => ?_⟩
  · split <;> omega
  · have r8 := b3 j hj
    have r9 := b4 j hj
    have r10 := b5 j hj
    have d17 := a4 (((nx + 1) % 100 + 100 - (if k = 100 then 100 else k + 1) + j) % 100)
    have d18 := a5 (((nx + 1) % 100 + 100 - (if k = 100 then 100 else k + 1) + j) % 100)
    by_cases hk2 : k = 100
    · simp only [if_pos hk2] at r8 r9 r10 d17 d18 hj ⊢
      by_cases hl : j + 1 = 100
      · rw [if_pos hl] at r8 r9 r10
        have hix : ((nx + 1) % 100 + 100 - 100 + j) % 100 = nx := by omega
        rw [if_pos hix] at d17 d18
        exact ⟨s, f, mb, hv, hb, d17.trans e1, d18, r8.trans e2, r9.trans e3, r10⟩
      · rw [if_neg hl] at r8 r9 r10
        have hix : ¬ ((nx + 1) % 100 + 100 - 100 + j) % 100 = nx := by omega
        have hix2 : ((nx + 1) % 100 + 100 - 100 + j) % 100 = (nx + 100 - k + (j + 1)) % 100 := by omega
        rw [if_neg hix, hix2] at d17 d18
        obtain ⟨s', f', mb', q1, q2, q3, q4, q5, q6, q7⟩ := k4 (j + 1) (by omega)
        rw [hix2]
        exact ⟨s', f', mb', q1, q2, d17.trans q3, d18.trans q4, r8.trans q5, r9.trans q6, r10.trans q7⟩
    · simp only [if_neg hk2] at r8 r9 r10 d17 d18 hj ⊢
      by_cases hl : j = k
      · rw [if_pos (by omega)] at r8 r9 r10
        have hix : ((nx + 1) % 100 + 100 - (k + 1) + j) % 100 = nx := by omega
        rw [if_pos hix] at d17 d18
        exact ⟨s, f, mb, hv, hb, d17.trans e1, d18, r8.trans e2, r9.trans e3, r10⟩
      · rw [if_neg (by omega)] at r8 r9 r10
        have hix : ¬ ((nx + 1) % 100 + 100 - (k + 1) + j) % 100 = nx := by omega
        have hix2 : ((nx + 1) % 100 + 100 - (k + 1) + j) % 100 = (nx + 100 - k + j) % 100 := by omega
        rw [if_neg hix, hix2] at d17 d18
        obtain ⟨s', f', mb', q1, q2, q3, q4, q5, q6, q7⟩ := k4 j (by omega)
        rw [hix2]
        exact ⟨s', f', mb', q1, q2, d17.trans q3, d18.trans q4, r8.trans q5, r9.trans q6, r10.trans q7⟩
