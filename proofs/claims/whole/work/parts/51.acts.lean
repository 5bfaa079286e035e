/-! ===== parts of the relation under memories that agree where it looks ===== -/
section OF
variable {c : Cfg} {D D1 R R1 : Mm}
theorem OkD_of (hI : ∀ j, 2 ≤ j → j ≤ 9 → D1.1 j = D.1 j) (hA : ∀ j, 8 ≤ j → j ≤ 14 → j ≠ 9 → D1.2.1 j = D.2.1 j) (h : OkD c D) : OkD c D1 := by
  unfold OkD
  rw [hI 2 (by decide) (by decide), hI 3 (by decide) (by decide), hI 4 (by decide) (by decide), hI 5 (by decide) (by decide), hI 6 (by decide) (by decide), hI 7 (by decide) (by decide), hI 8 (by decide) (by decide), hI 9 (by decide) (by decide), hA 8 (by decide) (by decide) (by decide), hA 10 (by decide) (by decide) (by decide), hA 11 (by decide) (by decide) (by decide), hA 12 (by decide) (by decide) (by decide), hA 13 (by decide) (by decide) (by decide), hA 14 (by decide) (by decide) (by decide)]
  exact h
theorem OkR_of (h0 : R1.1 0 = R.1 0) (h4 : R1.1 4 = R.1 4) (h5 : R1.1 5 = R.1 5) (hA : ∀ j, j = 1 ∨ j = 3 ∨ j = 4 ∨ j = 6 → R1.2.1 j = R.2.1 j) (h : OkR c R) : OkR c R1 := by
  unfold OkR
  rw [h0, h4, h5, hA 1 (by simp), hA 3 (by simp), hA 4 (by simp), hA 6 (by simp)]
  exact h
theorem RelT_of (h9 : D1.2.1 9 = D.2.1 9) (h7 : D1.2.1 7 = D.2.1 7) (r2 : R1.2.1 2 = R.2.1 2) (r5 : R1.2.1 5 = R.2.1 5) (h : RelT c D R) : RelT c D1 R1 := by
  unfold RelT
  rw [h9, h7, r2, r5]
  exact h
theorem RelG_of (h10 : D1.1 10 = D.1 10) (h15 : D1.2.1 15 = D.2.1 15) (r7 : R1.1 7 = R.1 7) (r11 : R1.2.1 11 = R.2.1 11) (h : RelG D R) : RelG D1 R1 := by
  unfold RelG
  rw [h10, h15, r7, r11]
  exact h
theorem RelP_of (h17 : D1.1 17 = D.1 17) (h18 : D1.1 18 = D.1 18) (h23 : D1.2.1 23 = D.2.1 23) (r8 : R1.1 8 = R.1 8) (r7 : R1.2.1 7 = R.2.1 7) (h : RelP D R) : RelP D1 R1 := by
  unfold RelP
  rw [h17, h18, h23, r8, r7]
  exact h
theorem pt_of (hI : ∀ j, j = 6 ∨ (13 ≤ j ∧ j ≤ 16) → D1.1 j = D.1 j) (hA : ∀ j, 19 ≤ j → j ≤ 22 → D1.2.1 j = D.2.1 j) (hL : D1.2.2 = D.2.2) : pt D1 = pt D := by
  unfold pt
  rw [hI 6 (by simp), hI 13 (by simp), hI 14 (by simp), hI 15 (by simp), hI 16 (by simp), hA 19 (by decide) (by decide), hA 20 (by decide) (by decide), hA 21 (by decide) (by decide), hA 22 (by decide) (by decide), hL]
theorem kp_of (hL : D1.2.2 = D.2.2) : 0 + kp D1 ≤ kp D := by
  unfold kp gL
  rw [hL, Nat.zero_add]
  exact Nat.le_refl _
end OF
theorem RelH.nil {c : Cfg} {D R : Mm} {nx : Nat} (h1 : nx < 100) (h2 : D.1 11 = nI 0) (h3 : D.1 12 = nI nx) (h4 : R.1 6 = nI 0) : RelH c D R := ⟨0, nx, by decide, h1, h2, h3, h4, fun j hj => absurd hj (Nat.not_lt_zero j)⟩
theorem up_ne {α : Type} {f : Nat → α} {k j : Nat} {v : α} (h : j ≠ k) : va_up f k v j = f j := if_neg h
theorem up_eq {α : Type} {f : Nat → α} {k : Nat} {v : α} : va_up f k v k = v := if_pos rfl
/-! vats -/
theorem q_vats {XC : Cfg → PT → Prop} {N : Nat} (hN : 10 ≤ N) : Q_vats N (Rel XC) := by
  intro p1 D R hRel
  obtain ⟨c, ⟨hw, hD, hR⟩, ⟨s, f, vt, hv, h1, h2, e1, e2, e3, e4, e5⟩, hT, ⟨k, nx, hk, hnx, k1, k2, k3, k4⟩, hG, hP, hL⟩ := id hRel
  have hf := hv.fit hw
  have no : ∀ {A : Prop}, (f_X6_vats p1 D = some (-2, D) ∧ f_X7_vats N p1 R = some (-2, R)) → ∃ r D' M', f_X6_vats p1 D = some (r, D') ∧ f_X7_vats N p1 R = some (r, M') ∧ Rel XC D' M' ∧ 0 + kp D' ≤ kp D := fun {A} h => ⟨-2, D, R, h.1, h.2, hRel, kp_of rfl⟩
  unfold f_X6_vats f_X6_isVatCount f_X7_vats at *
  by_cases c1 : p1 < 1
  · exact no (A := True) ⟨by rw [if_pos c1]; rfl, by rw [if_pos c1]⟩
  by_cases c2 : (18 : Int32) < p1
  · exact no (A := True) ⟨by rw [if_neg c1, if_pos c2]; rfl, by rw [if_neg c1, if_pos c2]⟩
  rw [if_neg c1, if_neg c2, bd_some, if_neg one_ne_zero, show gI D 1 = _ from e1, d_filled hD hf, bd_some, if_neg c1, if_neg c2, show gI R 2 = _ from e2, show gI R 3 = _ from e3, m_filled hw hR hN (Nat.lt_trans hf.1 (by decide)) (Nat.lt_trans hf.2.1 (by decide)), bd_some]
  by_cases c3 : nI (fb_sm (fillN c s f) 9) ≤ p1
  · obtain ⟨j, hj, rfl⟩ : ∃ j, (1 ≤ j ∧ j ≤ 18) ∧ p1 = nI j := by
      have hn : ¬ p1 < 0 := fun z => c1 (by
        rw [Int32.lt_iff_toInt_lt] at z ⊢
        have a0 : (0 : Int32).toInt = 0 := rfl
        have a1 : (1 : Int32).toInt = 1 := rfl
        omega)
      obtain ⟨j, hj, rfl⟩ := nI_of hn
      refine ⟨j, ⟨?_, ?_⟩, rfl⟩
      · exact Nat.lt_of_not_le (fun z => c1 (nI_lt (b := 1) (by omega) (by decide)))
      · exact Nat.le_of_not_lt (fun z => c2 (nI_lt (a := 18) z hj))
    refine ⟨nI vt, sI (sI D 0 (nI j)) 11 0, sI (sI R 1 (nI j)) 6 0, ?_, ?_, ?_, kp_of rfl⟩
    · rw [show fb_sm (fillN c (s, f, 0).1 (s, f, 0).2.1) 9 = fb_sm (fillN c s f) 9 from rfl, if_pos c3]
      unfold f_X0_clear
      rw [bd_some, show gI D 0 = _ from e4]
    · rw [if_pos c3, show gI R 1 = _ from e5]
    · exact ⟨c, ⟨hw, hD, hR⟩, ⟨s, f, j, hv, hj.1, hj.2, e1, e2, e3, rfl, rfl⟩, hT, RelH.nil hnx rfl k2 rfl, hG, hP, hL⟩
  · exact ⟨-2, D, R, if_neg c3, if_neg c3, hRel, kp_of rfl⟩
/-! what is kept to be taken back -/
theorem d_keep {D : Mm} {nx k : Nat} {x1 x2 : Int32} (hnx : nx < 100) (hk : k ≤ 100) (h11 : D.1 11 = nI k) (h12 : D.1 12 = nI nx) : ∃ D1, f_X0_keep x1 x2 D = some D1 ∧ D1.1 11 = nI (if k = 100 then 100 else k + 1) ∧ D1.1 12 = nI ((nx + 1) % 100) ∧ (∀ i, D1.2.1 17 i = if i = nx then x1 else D.2.1 17 i) ∧ (∀ i, D1.2.1 18 i = if i = nx then x2 else D.2.1 18 i) ∧ (∀ j, j ≠ 11 → j ≠ 12 → D1.1 j = D.1 j) ∧ (∀ j, j ≠ 17 → j ≠ 18 → D1.2.1 j = D.2.1 j) ∧ D1.2.2 = D.2.2 := by
  have hin : inb (nI nx) 100 := (inb_nI (by omega)).mpr hnx
  have hmin : (if (100 : Int32) < nI k + 1 then (100 : Int32) else nI k + 1) = nI (if k = 100 then 100 else k + 1) := by
    rw [nI_1]
    by_cases hk2 : k = 100
    · rw [if_pos (show (100 : Int32) < nI (k + 1) from nI_lt (a := 100) (by omega) (by omega)), if_pos hk2]; rfl
    · rw [if_neg (show ¬ (100 : Int32) < nI (k + 1) from nI_nlt (a := 100) (by omega) (by decide)), if_neg hk2]
  have fin : ∀ t : Nat, t = (nx + 1) % 100 → ∃ D1, f_X0_keep_42 (nI t) (sA (sA D 17 (nI nx) x1) 18 (nI nx) x2) = some D1 ∧ D1.1 11 = nI (if k = 100 then 100 else k + 1) ∧ D1.1 12 = nI ((nx + 1) % 100) ∧ (∀ i, D1.2.1 17 i = if i = nx then x1 else D.2.1 17 i) ∧ (∀ i, D1.2.1 18 i = if i = nx then x2 else D.2.1 18 i) ∧ (∀ j, j ≠ 11 → j ≠ 12 → D1.1 j = D.1 j) ∧ (∀ j, j ≠ 17 → j ≠ 18 → D1.2.1 j = D.2.1 j) ∧ D1.2.2 = D.2.2 := by
    intro t ht
    refine ⟨_, rfl, ?_, by rw [← ht]; rfl, fun i => ?_, fun i => ?_, fun j h1 h2 => ?_, fun j h1 h2 => ?_, rfl⟩
    · show (if (100 : Int32) < D.1 11 + 1 then (100 : Int32) else D.1 11 + 1) = _
      rw [h11, hmin]
    · show upd (D.2.1 17) (nI nx).toNatClampNeg x1 i = _
      rw [nI_clamp (by omega)]; rfl
    · show upd (D.2.1 18) (nI nx).toNatClampNeg x2 i = _
      rw [nI_clamp (by omega)]; rfl
    · show va_up (va_up D.1 12 (nI t)) 11 _ j = _
      rw [up_ne h1, up_ne h2]
    · show va_up (va_up D.2.1 17 _) 18 _ j = _
      rw [up_ne h2, up_ne h1]
  unfold f_X0_keep
  rw [show gI D 12 = nI nx from h12, show gI (sA D 17 (nI nx) x1) 12 = nI nx from h12, show gI (sA (sA D 17 (nI nx) x1) 18 (nI nx) x2) 12 = nI nx from h12, if_pos hin, if_pos hin, nI_1]
  by_cases h99 : nx = 99
  · rw [if_pos (show (100 : Int32) ≤ nI (nx + 1) from nI_le (a := 100) (by omega) (by omega))]
    exact fin 0 (by rw [h99])
  · rw [if_neg (show ¬ (100 : Int32) ≤ nI (nx + 1) from nI_ge (b := 100) (by omega) (by decide))]
    exact fin (nx + 1) (by omega)
theorem m_keep_75 {R : Mm} {N k : Nat} {x1 : Int32} (hk : k < 100) (h6 : R.1 6 = nI k) : ∃ R1, f_X7_keep_75 N x1 R = some R1 ∧ R1.1 6 = nI (k + 1) ∧ (∀ i, R1.2.1 8 i = if i = k then R.1 2 else R.2.1 8 i) ∧ (∀ i, R1.2.1 9 i = if i = k then R.1 3 else R.2.1 9 i) ∧ (∀ i, R1.2.1 10 i = if i = k then x1 else R.2.1 10 i) ∧ (∀ j, j ≠ 6 → R1.1 j = R.1 j) ∧ (∀ j, j ≠ 8 → j ≠ 9 → j ≠ 10 → R1.2.1 j = R.2.1 j) := by
  have hin : inb (nI k) 100 := (inb_nI (by omega)).mpr hk
  unfold f_X7_keep_75
  have g1 : gI R 6 = nI k := h6
  have g2 : ∀ {j i v}, gI (sA R j i v) 6 = nI k := h6
  have g3 : ∀ {j i v j2 i2 v2}, gI (sA (sA R j i v) j2 i2 v2) 6 = nI k := h6
  have g4 : ∀ {j i v j2 i2 v2 j3 i3 v3}, gI (sA (sA (sA R j i v) j2 i2 v2) j3 i3 v3) 6 = nI k := h6
  rw [g4, g3, g2, g1, if_pos hin, if_pos hin, if_pos hin, nI_1]
  refine ⟨_, rfl, rfl, fun i => ?_, fun i => ?_, fun i => ?_, fun j h => up_ne h, fun j h1 h2 h3 => ?_⟩
  · show upd (R.2.1 8) (nI k).toNatClampNeg (R.1 2) i = _
    rw [nI_clamp (by omega)]; rfl
  · show upd (R.2.1 9) (nI k).toNatClampNeg (R.1 3) i = _
    rw [nI_clamp (by omega)]; rfl
  · show upd (R.2.1 10) (nI k).toNatClampNeg x1 i = _
    rw [nI_clamp (by omega)]; rfl
  · show va_up (va_up (va_up R.2.1 8 _) 9 _) 10 _ j = _
    rw [up_ne h3, up_ne h2, up_ne h1]
