/-! ===== undo, together, forget, goal, flip, named, of ===== -/
theorem q_undo {XC : Cfg → PT → Prop} {N : Nat} : Q_undo N (Rel XC) := by
  intro D R hRel
  obtain ⟨c, ⟨hw, hD, hR⟩, ⟨s, f, vt, hv, h1, h2, e1, e2, e3, e4, e5⟩, hT, ⟨k, nx, hk, hnx, k1, k2, k3, k4⟩, hG, hP, hL⟩ := id hRel
  by_cases hk0 : k = 0
  · refine ⟨-2, D, R, ?_, ?_, hRel, kp_of rfl⟩
    · unfold f_X6_undo
      rw [show gI D 11 = nI k from k1, hk0, if_pos (show nI 0 = 0 from rfl)]
    · unfold f_X7_undo
      rw [show gI R 6 = nI k from k3, hk0, if_pos (show nI 0 = 0 from rfl)]
  · have hkn : ¬ nI k = 0 := fun z => hk0 (nI_inj (b := 0) (by omega) (by decide) z)
    obtain ⟨s', f', mb, q1, q2, q3, q4, q5, q6, q7⟩ := k4 (k - 1) (by omega)
    have hix : (nx + 100 - k + (k - 1)) % 100 = (nx + 99) % 100 := by omega
    rw [hix] at q3 q4
    have hn9 : (nx + 99) % 100 < 100 := Nat.mod_lt _ (by decide)
    have hinx : inb (nI ((nx + 99) % 100)) 100 := (inb_nI (by omega)).mpr hn9
    have hk1' : (D.1 11 : Int32) - 1 = nI (k - 1) := by rw [k1]; exact nI_sub (b := 1) (by omega) (by omega)
    -- the class steps back
    have hsb : f_X0_stepBack D = some (sI (sI D 12 (nI ((nx + 99) % 100))) 11 (nI (k - 1))) := by
      have h19 : ∀ t : Nat, f_X0_stepBack_19 (nI t) D = some (sI (sI D 12 (nI t)) 11 (nI (k - 1))) := by
        intro t
        unfold f_X0_stepBack_19
        rw [show gI (sI D 12 (nI t)) 11 - (1 : Int32) = nI (k - 1) from hk1', if_neg (nI_pos (by omega))]
      unfold f_X0_stepBack
      rw [show gI D 12 = nI nx from k2]
      by_cases hz : nx = 0
      · rw [hz, if_pos (show nI 0 ≤ 0 by decide)]
        exact h19 99
      · rw [if_neg (nI_nle (by omega) (by omega)), show nI nx - (1 : Int32) = nI (nx - 1) from nI_sub (b := 1) (by omega) (by omega), h19 (nx - 1)]
        rw [show (nx + 99) % 100 = nx - 1 by omega]
    have hfin : ∀ M : Mm, M.1 12 = nI ((nx + 99) % 100) → M.1 11 = nI (k - 1) → M.2.1 17 = D.2.1 17 → f_X6_undo_43 M = some (nI (k - 1), sI M 1 (nI (encD (s', f', 0)))) := by
      intro M g1 g2 g3
      unfold f_X6_undo_43 f_X0_sceneThere
      rw [show gI M 12 = _ from g1, if_pos hinx, gA_nI (by omega), g3, q3, bd_some, show gI (sI M 1 (nI (encD (s', f', 0)))) 11 = _ from g2]
    -- the reference
    have hR6 : (R.1 6 : Int32) - 1 = nI (k - 1) := by rw [k3]; exact nI_sub (b := 1) (by omega) (by omega)
    have hink : inb (nI (k - 1)) 100 := (inb_nI (by omega)).mpr (by omega)
    have hvs : Vs c (s', f', 0) := q1
    have relH : ∀ D' R', D'.1 11 = nI (k - 1) → D'.1 12 = nI ((nx + 99) % 100) → D'.2.1 17 = D.2.1 17 → D'.2.1 18 = D.2.1 18 → R'.1 6 = nI (k - 1) → R'.2.1 8 = R.2.1 8 → R'.2.1 9 = R.2.1 9 → R'.2.1 10 = R.2.1 10 → RelH c D' R' := by
      intro D' R' g1 g2 g3 g4 g5 g6 g7 g8
      refine ⟨k - 1, (nx + 99) % 100, by omega, hn9, g1, g2, g5, fun j hj => ?_⟩
      rw [g3, g4, g6, g7, g8, show ((nx + 99) % 100 + 100 - (k - 1) + j) % 100 = (nx + 100 - k + j) % 100 by omega]
      exact k4 j (by omega)
    have hRB : ∀ v1 v2 v3, (v1 = nI (k - 1)) → (v2 = nI s') → v3 = nI f' → f_X7_undo R = (if R.2.1 10 (k - 1) < 0 then some (nI (k - 1), sI (sI (sI R 6 v1) 2 v2) 3 v3) else (if inb (R.2.1 10 (k - 1)) 9 then some (nI (k - 1), sA (sI (sI (sI R 6 v1) 2 v2) 3 v3) 5 (R.2.1 10 (k - 1)) (gA R 5 (R.2.1 10 (k - 1)) - 1)) else none)) := by
      intro v1 v2 v3 g1 g2 g3
      subst g1; subst g2; subst g3
      unfold f_X7_undo
      have c1 : gI R 6 = nI k := k3
      have c2 : gI R 6 - (1 : Int32) = nI (k - 1) := hR6
      rw [if_neg (by rw [c1]; exact hkn), c2]
      have c3 : gI (sI R 6 (nI (k - 1))) 6 = nI (k - 1) := rfl
      have c4 : gA (sI R 6 (nI (k - 1))) 8 (nI (k - 1)) = nI s' := by rw [gA_nI (by omega)]; exact q5
      rw [c3, c4]
      have c5 : gI (sI (sI R 6 (nI (k - 1))) 2 (nI s')) 6 = nI (k - 1) := rfl
      have c6 : gA (sI (sI R 6 (nI (k - 1))) 2 (nI s')) 9 (nI (k - 1)) = nI f' := by rw [gA_nI (by omega)]; exact q6
      rw [c5, c6]
      have c7 : gI (sI (sI (sI R 6 (nI (k - 1))) 2 (nI s')) 3 (nI f')) 6 = nI (k - 1) := rfl
      have c8 : gA (sI (sI (sI R 6 (nI (k - 1))) 2 (nI s')) 3 (nI f')) 10 (nI (k - 1)) = R.2.1 10 (k - 1) := by rw [gA_nI (by omega)]; rfl
      rw [c7, c8, if_pos hink, if_pos hink, if_pos hink, if_pos hink]
      by_cases z : R.2.1 10 (k - 1) < 0
      · rw [if_pos z, if_pos z]
      · rw [if_neg z, if_neg z]
        by_cases y : inb (R.2.1 10 (k - 1)) 9
        · rw [if_pos y, if_pos y, if_pos y]; rfl
        · rw [if_neg y, if_neg y]
    have hRB := hRB _ _ _ rfl rfl rfl
    unfold f_X6_undo
    rw [show gI D 11 = nI k from k1, if_neg hkn, hsb, bd_some]
    unfold f_X0_madeThere
    rw [show gI (sI (sI D 12 (nI ((nx + 99) % 100))) 11 (nI (k - 1))) 12 = nI ((nx + 99) % 100) from rfl, if_pos hinx, gA_nI (by omega), show (sI (sI D 12 (nI ((nx + 99) % 100))) 11 (nI (k - 1))).2.1 18 ((nx + 99) % 100) = oI mb from q4, bd_some, hRB, q7]
    cases hmb : mb with
    | none =>
      rw [if_pos (show oI none = -1 from rfl), if_pos (show oI none < 0 by decide)]
      refine ⟨nI (k - 1), _, _, hfin _ rfl rfl rfl, rfl, ?_, kp_of rfl⟩
      exact ⟨c, ⟨hw, hD, hR⟩, ⟨s', f', vt, q1, h1, h2, rfl, rfl, rfl, e4, e5⟩, hT, relH _ _ rfl rfl rfl rfl rfl rfl rfl rfl, hG, hP, hL⟩
    | some b =>
      have hb := q2 b hmb
      have hin : inb (nI b) 9 := (inb_nI (by omega)).mpr hb
      rw [if_neg (show ¬ oI (some b) = -1 from nI_ne_m1 (by omega)), oI_some, if_pos hin, if_pos hin, if_neg (nI_pos (by omega)), if_pos hin]
      refine ⟨nI (k - 1), _, _, hfin _ rfl rfl rfl, rfl, ?_, kp_of rfl⟩
      refine ⟨c, ⟨hw, hD, hR⟩, ⟨s', f', vt, q1, h1, h2, rfl, rfl, rfl, e4, e5⟩, ⟨hT.1, fun i hi => ?_⟩, relH _ _ rfl rfl rfl rfl rfl rfl rfl rfl, hG, hP, hL⟩
      show upd (D.2.1 7) (nI b).toNatClampNeg (D.2.1 7 (nI b).toNatClampNeg - 1) i = upd (R.2.1 5) (nI b).toNatClampNeg (R.2.1 5 (nI b).toNatClampNeg - 1) i
      rw [nI_clamp (by omega)]
      unfold upd
      by_cases hib : i = b
      · rw [if_pos hib, if_pos hib, hT.2 b hb]
      · rw [if_neg hib, if_neg hib]
        exact hT.2 i hi
/-! what the planner keeps, outdated -/
def Outd (t : PT) : Prop := t.2.2.1 = -1 ∧ t.2.2.2.1 = -1 ∧ ∀ v, v < 19 → t.2.2.2.2.1 v = -9 ∧ t.2.2.2.2.2.1 v = -9
def od (M : Mm) : Mm := sI (sI (sF (sF M 19 19 (-9)) 20 19 (-9)) 15 (-1)) 16 (-1)
theorem od_eq (M : Mm) : f_X1_outdate M = some (od M) := rfl
theorem od_out (M : Mm) : Outd (pt (od M)) := ⟨rfl, rfl, fun v hv => ⟨if_pos hv, if_pos hv⟩⟩
theorem q_together {XC : Cfg → PT → Prop} {N : Nat} (hX : ∀ c t, Outd t → XC c t) : Q_together N (Rel XC) := by
  intro p1 D R hRel hB
  obtain ⟨c, ⟨hw, hD, hR⟩, hS, hT, hH, hG, hP, hL⟩ := id hRel
  have h9 : gI D 9 = zI (cT c) := hD.2.2.2.2.2.2.2.2.2.2.2.2.2
  have h5 : gI R 5 = zI (cT c) := hR.2.2.2.2.2.2
  obtain ⟨t, rfl⟩ : ∃ t : Bool, p1 = zI t := by
    rcases hB with h | h
    · exact ⟨false, h⟩
    · exact ⟨true, h⟩
  have hB : isB (zI t) := hB
  refine ⟨zI (cT c), od (sI D 9 (zI t)), sI R 5 (zI t), ?_, ?_, ?_, kp_of rfl⟩
  · unfold f_X6_together f_X6_together_15
    rw [h9, od_eq, bd_some]
    cases cT c with
    | false => rw [if_pos (show zI false = 0 from rfl), if_pos hB]; rfl
    | true => rw [if_neg (show ¬ zI true = 0 by decide), if_pos hB]; rfl
  · unfold f_X7_together
    rw [h5]
    cases cT c with
    | false => rw [if_pos (show zI false = 0 from rfl), if_pos hB]; rfl
    | true => rw [if_neg (show ¬ zI true = 0 by decide), if_pos hB]; rfl
  · exact ⟨(cN c, cK c, cS c, cP c, cG c, cg c, t), ⟨hw, ⟨hD.1, hD.2.1, hD.2.2.1, hD.2.2.2.1, hD.2.2.2.2.1, hD.2.2.2.2.2.1, hD.2.2.2.2.2.2.1, hD.2.2.2.2.2.2.2.1, hD.2.2.2.2.2.2.2.2.1, hD.2.2.2.2.2.2.2.2.2.1, hD.2.2.2.2.2.2.2.2.2.2.1, hD.2.2.2.2.2.2.2.2.2.2.2.1, hD.2.2.2.2.2.2.2.2.2.2.2.2.1, rfl⟩, ⟨hR.1, hR.2.1, hR.2.2.1, hR.2.2.2.1, hR.2.2.2.2.1, hR.2.2.2.2.2.1, rfl⟩⟩, hS, hT, hH, hG, hP, hL.1, hX _ _ (od_out _)⟩
theorem goalM_0 {c : Cfg} : goalM (cN c, cK c, cS c, cP c, 0, cg c, cT c) = 0 := by
  refine nat_ext (fun i => ?_)
  rw [goalM, bm_bit, Nat.zero_testBit]
  show (decide (i < 9) && false) = false
  simp
theorem Vs_goals {c c' : Cfg} {s f : Nat} (h1 : cN c' = cN c) (h2 : cK c' = cK c) (hv : Vs c (s, f, 0)) : Vs c' (s, f, 0) := ⟨by rw [h1]; exact hv.1, by rw [h2]; exact hv.2.1, Nat.two_pow_pos _⟩
theorem RelS_goals {c c' : Cfg} {D R : Mm} (h1 : cN c' = cN c) (h2 : cK c' = cK c) (h : RelS c D R) : RelS c' D R := by
  obtain ⟨s, f, vt, hv, r⟩ := h
  exact ⟨s, f, vt, Vs_goals h1 h2 hv, r⟩
theorem RelH_goals {c c' : Cfg} {D R : Mm} (h1 : cN c' = cN c) (h2 : cK c' = cK c) (h : RelH c D R) : RelH c' D R := by
  obtain ⟨k, nx, a1, a2, a3, a4, a5, a6⟩ := h
  refine ⟨k, nx, a1, a2, a3, a4, a5, fun j hj => ?_⟩
  obtain ⟨s, f, mb, hv, r⟩ := a6 j hj
  exact ⟨s, f, mb, Vs_goals h1 h2 hv, r⟩
theorem q_forget {XC : Cfg → PT → Prop} {N : Nat} (hX : ∀ c t, Outd t → XC c t) : Q_forget N (Rel XC) := by
  intro D R hRel
  obtain ⟨c, ⟨hw, hD, hR⟩, hS, hT, hH, hG, hP, hL⟩ := id hRel
  have h7 : gI D 7 = nI (cG c) := hD.2.2.2.2.2.2.2.2.2.2.1
  have h4 : gI R 4 = nI (cG c) := hR.2.2.2.2.1
  refine ⟨nI (cG c), od (sI (sI D 7 0) 8 0), sI R 4 0, ?_, ?_, ?_, kp_of rfl⟩
  · unfold f_X6_forget f_X5_dropGoals
    rw [bd_some, od_eq, bd_some, h7]
  · unfold f_X7_forget
    rw [h4]
  · refine ⟨(cN c, cK c, cS c, cP c, 0, cg c, cT c), ⟨⟨hw.1, hw.2.1, hw.2.2.1, hw.2.2.2.1, hw.2.2.2.2.1, Nat.zero_le 3, fun i hi => absurd hi (Nat.not_lt_zero i), fun i j hi => absurd hi (Nat.not_lt_zero i)⟩, ⟨hD.1, hD.2.1, hD.2.2.1, hD.2.2.2.1, hD.2.2.2.2.1, hD.2.2.2.2.2.1, hD.2.2.2.2.2.2.1, hD.2.2.2.2.2.2.2.1, hD.2.2.2.2.2.2.2.2.1, hD.2.2.2.2.2.2.2.2.2.1, rfl, fun i hi => absurd hi (Nat.not_lt_zero i), by rw [goalM_0]; rfl, hD.2.2.2.2.2.2.2.2.2.2.2.2.2⟩, ⟨hR.1, hR.2.1, hR.2.2.1, hR.2.2.2.1, rfl, fun i hi => absurd hi (Nat.not_lt_zero i), hR.2.2.2.2.2.2⟩⟩, RelS_goals (c := c) rfl rfl hS, hT, RelH_goals (c := c) rfl rfl hH, hG, hP, hL.1, hX _ _ (od_out _)⟩
