/-! ===== bath ===== -/
theorem bm_put {p q : Nat → Bool} {b : Nat} {t : Bool} (hb : b < 9) (h1 : q b = t) (h0 : p b = false) (h2 : ∀ i, i ≠ b → q i = p i) : bm p 9 ||| (if t = true then 2 ^ b else 0) = bm q 9 := by
  refine nat_ext (fun i => ?_)
  rw [Nat.testBit_or, bm_bit, bm_bit]
  by_cases hi : i = b
  · subst hi
    rw [h1, h0]
    cases t <;> simp [hb]
  · rw [h2 i hi]
    have : ¬ b = i := fun z => hi z.symm
    cases t <;> simp [Nat.testBit_two_pow, this]
theorem q_bath {XC : Cfg → PT → Prop} {N : Nat} (hX : ∀ c t, Outd t → XC c t) : Q_bath N (Rel XC) := by
  intro p1 D R hRel
  obtain ⟨c, ⟨hw, hD, hR⟩, ⟨s, f, vt, hv, h1, h2, e1, e2, e3, e4, e5⟩, hT, ⟨k, nx, hk, hnx, k1, k2, k3, k4⟩, hG, hP, hL⟩ := id hRel
  have hnb := hw.1
  unfold f_X6_bath f_X7_bath
  by_cases hn : p1 < 0
  · exact ⟨-2, D, R, by rw [if_pos hn], by rw [if_pos hn], hRel, kp_of rfl⟩
  rw [if_neg hn, if_neg hn]
  obtain ⟨kd, hkd, rfl⟩ := nI_of hn
  by_cases h5 : 5 ≤ kd
  · exact ⟨-2, D, R, by rw [if_pos (show (5 : Int32) ≤ nI kd from nI_le (a := 5) h5 hkd)], by rw [if_pos (show (4 : Int32) < nI kd from nI_lt (a := 4) (by omega) hkd)], hRel, kp_of rfl⟩
  rw [if_neg (show ¬ (5 : Int32) ≤ nI kd from nI_ge (b := 5) (by omega) (by decide)), if_neg (show ¬ (4 : Int32) < nI kd from nI_nlt (a := 4) (by omega) (by decide)), show gI D 2 = nI (cN c) from hD.1, show gI R 0 = nI (cN c) from hR.1]
  by_cases h9 : cN c = 9
  · exact ⟨-2, D, R, by rw [h9, if_neg (show ¬ nI 9 < (9 : Int32) by decide)], by rw [h9, if_pos (show nI 9 = (9 : Int32) from rfl)], hRel, kp_of rfl⟩
  have hlt : cN c < 9 := by omega
  have hin : inb (nI (cN c)) 9 := (inb_nI (by omega)).mpr hlt
  have hsn : cS c (cN c) = none := by
    cases z : cS c (cN c) with
    | none => rfl
    | some q => have := (hw.2.2.2.1 _ q z).2; omega
  have hkn : cK c (cN c) = 0 := hw.2.2.1 _ (Nat.le_refl _)
  rw [if_pos (show nI (cN c) < (9 : Int32) from nI_lt (b := 9) hlt (by decide)), od_eq, bd_some, if_neg (show ¬ nI (cN c) = (9 : Int32) from fun z => h9 (nI_inj (b := 9) (by omega) (by decide) z)), if_pos hin]
  -- the new configuration
  have hK3 : bm (fun b => decide (cK c b = 3)) 9 ||| (if decide (kd = 3) = true then 2 ^ cN c else 0) = bm (fun b => decide ((if b = cN c then kd else cK c b) = 3)) 9 := bm_put hlt (by rw [if_pos rfl]) (by rw [hkn]; rfl) (fun i hi => by rw [if_neg hi])
  have hK2 : bm (fun b => decide (cK c b = 2)) 9 ||| (if decide (kd = 2) = true then 2 ^ cN c else 0) = bm (fun b => decide ((if b = cN c then kd else cK c b) = 2)) 9 := bm_put hlt (by rw [if_pos rfl]) (by rw [hkn]; rfl) (fun i hi => by rw [if_neg hi])
  have hK4 : bm (fun b => decide (cK c b = 4)) 9 ||| (if decide (kd = 4) = true then 2 ^ cN c else 0) = bm (fun b => decide ((if b = cN c then kd else cK c b) = 4)) 9 := bm_put hlt (by rw [if_pos rfl]) (by rw [hkn]; rfl) (fun i hi => by rw [if_neg hi])
  have key : f_X5_addBath (nI kd) (od D) = some (nI (cN c), sI (sI (sI (sA (sI (od D) 2 (nI (cN c + 1))) 11 (nI (cN c)) (nI kd)) 4 (nI (bm (fun b => decide ((if b = cN c then kd else cK c b) = 3)) 9))) 5 (nI (bm (fun b => decide ((if b = cN c then kd else cK c b) = 2)) 9))) 6 (nI (bm (fun b => decide ((if b = cN c then kd else cK c b) = 4)) 9))) := by
    have l57 : ∀ M : Mm, M.1 6 = nI (bm (fun b => decide (cK c b = 4)) 9) → ∀ t2 : Nat, t2 = (if decide (kd = 2) = true then 2 ^ cN c else 0) → f_X5_addBath_57 (nI kd) (nI (cN c)) (nI (bm (fun b => decide (cK c b = 2)) 9)) (nI t2) M = some (nI (cN c), sI (sI M 5 (nI (bm (fun b => decide ((if b = cN c then kd else cK c b) = 2)) 9))) 6 (nI (bm (fun b => decide ((if b = cN c then kd else cK c b) = 4)) 9))) := by
      intro M h6 t2 ht2
      unfold f_X5_addBath_57
      rw [fa_or, ht2, hK2, nI_shl1 _ (by omega)]
      rw [show gI (sI M 5 (nI (bm (fun b => decide ((if b = cN c then kd else cK c b) = 2)) 9))) 6 = nI (bm (fun b => decide (cK c b = 4)) 9) from h6]
      by_cases z : kd = 4
      · rw [if_pos (by rw [z]; rfl), fa_or]
        rw [← hK4, if_pos (by simp [z])]
      · rw [if_neg (show ¬ nI kd = (4 : Int32) from fun y => z (nI_inj (b := 4) (by omega) (by decide) y)), show (0 : Int32) = nI 0 from rfl, fa_or]
        rw [← hK4, if_neg (by simp [z])]
    have l36 : ∀ M : Mm, M.1 6 = nI (bm (fun b => decide (cK c b = 4)) 9) → M.1 5 = nI (bm (fun b => decide (cK c b = 2)) 9) → ∀ t2 : Nat, t2 = (if decide (kd = 3) = true then 2 ^ cN c else 0) → f_X5_addBath_36 (nI kd) (nI (cN c)) (nI (bm (fun b => decide (cK c b = 3)) 9)) (nI t2) M = some (nI (cN c), sI (sI (sI M 4 (nI (bm (fun b => decide ((if b = cN c then kd else cK c b) = 3)) 9))) 5 (nI (bm (fun b => decide ((if b = cN c then kd else cK c b) = 2)) 9))) 6 (nI (bm (fun b => decide ((if b = cN c then kd else cK c b) = 4)) 9))) := by
      intro M h6 h5' t2 ht2
      unfold f_X5_addBath_36
      rw [fa_or, ht2, hK3, nI_shl1 _ (by omega)]
      rw [show gI (sI M 4 (nI (bm (fun b => decide ((if b = cN c then kd else cK c b) = 3)) 9))) 5 = nI (bm (fun b => decide (cK c b = 2)) 9) from h5']
      by_cases z : kd = 2
      · rw [if_pos (by rw [z]; rfl)]
        exact l57 (sI M 4 (nI (bm (fun b => decide ((if b = cN c then kd else cK c b) = 3)) 9))) h6 (2 ^ cN c) (by simp [z])
      · rw [if_neg (show ¬ nI kd = (2 : Int32) from fun y => z (nI_inj (b := 2) (by omega) (by decide) y))]
        exact l57 (sI M 4 (nI (bm (fun b => decide ((if b = cN c then kd else cK c b) = 3)) 9))) h6 0 (by simp [z])
    unfold f_X5_addBath
    rw [show gI (od D) 2 = nI (cN c) from hD.1, if_pos hin, nI_1, nI_shl1 _ (by omega)]
    rw [show gI (sA (sI (od D) 2 (nI (cN c + 1))) 11 (nI (cN c)) (nI kd)) 4 = nI (bm (fun b => decide (cK c b = 3)) 9) from hD.2.2.2.2.2.1]
    by_cases z : kd = 3
    · rw [if_pos (by rw [z]; rfl)]
      exact l36 (sA (sI (od D) 2 (nI (cN c + 1))) 11 (nI (cN c)) (nI kd)) hD.2.2.2.2.2.2.2.1 hD.2.2.2.2.2.2.1 (2 ^ cN c) (by simp [z])
    · rw [if_neg (show ¬ nI kd = (3 : Int32) from fun y => z (nI_inj (b := 3) (by omega) (by decide) y))]
      exact l36 (sA (sI (od D) 2 (nI (cN c + 1))) 11 (nI (cN c)) (nI kd)) hD.2.2.2.2.2.2.2.1 hD.2.2.2.2.2.2.1 0 (by simp [z])
  rw [key, bd2_some]
  have hus : ∀ b, usedN (cN c + 1, fun b => if b = cN c then kd else cK c b, cS c, cP c, cG c, cg c, cT c) b = usedN c b := by
    intro b
    unfold usedN
    show (if (if b = cN c then kd else cK c b) = 1 ∨ (if b = cN c then kd else cK c b) = 3 then (match cS c b with | none => none | some k => fstO (cP c b) 0 k) else none) = _
    by_cases hb : b = cN c
    · subst hb
      rw [hsn, hkn]
      simp
    · rw [if_neg hb]
      rfl
  have hvs : ∀ {s f : Nat}, Vs c (s, f, 0) → Vs (cN c + 1, fun b => if b = cN c then kd else cK c b, cS c, cP c, cG c, cg c, cT c) (s, f, 0) := by
    intro s f h
    refine ⟨Nat.lt_of_lt_of_le h.1 (Nat.pow_le_pow_right (by decide) (Nat.le_succ _)), ?_, h.2.2⟩
    rcases h.2.1 with q | ⟨q1, q2, q3, q4⟩
    · exact Or.inl q
    · refine Or.inr ⟨q1, q2, q3, ?_⟩
      have hl : f - 1 < cN c := testBit_lt h.1 q3
      show (if f - 1 = cN c then kd else cK c (f - 1)) = 4
      rw [if_neg (by omega)]
      exact q4
  refine ⟨nI (cN c), _, sI (sA R 1 (nI (cN c)) (nI kd)) 0 (nI (cN c + 1)), rfl, ?_, ?_, kp_of rfl⟩
  · rw [show gI (sA R 1 (nI (cN c)) (nI kd)) 0 + (1 : Int32) = nI (cN c + 1) from (congrArg (fun z : Int32 => z + 1) hR.1).trans (nI_1 _)]
    rw [show gI (sI (sA R 1 (nI (cN c)) (nI kd)) 0 (nI (cN c + 1))) 0 - (1 : Int32) = nI (cN c) from nI_pred _]
  · refine ⟨(cN c + 1, fun b => if b = cN c then kd else cK c b, cS c, cP c, cG c, cg c, cT c), ⟨⟨by show cN c + 1 ≤ 9; omega, ?_, ?_, ?_, ?_, hw.2.2.2.2.2.1, ?_, hw.2.2.2.2.2.2.2⟩, ⟨rfl, ?_, hD.2.2.1, hD.2.2.2.1, hD.2.2.2.2.1, rfl, rfl, rfl, hD.2.2.2.2.2.2.2.2.1, ?_, hD.2.2.2.2.2.2.2.2.2.2.1, hD.2.2.2.2.2.2.2.2.2.2.2.1, hD.2.2.2.2.2.2.2.2.2.2.2.2.1, hD.2.2.2.2.2.2.2.2.2.2.2.2.2⟩, ⟨rfl, ?_, hR.2.2.1, hR.2.2.2.1, hR.2.2.2.2.1, hR.2.2.2.2.2.1, hR.2.2.2.2.2.2⟩⟩, ⟨s, f, vt, hvs hv, h1, h2, e1, e2, e3, e4, e5⟩, hT, ⟨k, nx, hk, hnx, k1, k2, k3, fun j hj => ?_⟩, hG, hP, hL.1, hX _ _ (od_out D)⟩
    · intro b
      show (if b = cN c then kd else cK c b) ≤ 4
      split
      · omega
      · exact hw.2.1 b
    · intro b hb
      have hb : cN c + 1 ≤ b := hb
      show (if b = cN c then kd else cK c b) = 0
      rw [if_neg (by omega)]
      exact hw.2.2.1 b (by omega)
    · intro b q hq
      have := hw.2.2.2.1 b q hq
      exact ⟨this.1, Nat.lt_succ_of_lt this.2⟩
    · intro b q i o hq hi ho
      exact Nat.lt_succ_of_lt (hw.2.2.2.2.1 b q i o hq hi ho)
    · intro i hi
      exact Nat.lt_succ_of_lt (hw.2.2.2.2.2.2.1 i hi)
    · intro b hb
      show upd (D.2.1 11) (nI (cN c)).toNatClampNeg (nI kd) b = nI (if b = cN c then kd else cK c b)
      rw [nI_clamp (by omega)]
      unfold upd
      by_cases z : b = cN c
      · rw [if_pos z, if_pos z]
      · rw [if_neg z, if_neg z]
        exact hD.2.1 b hb
    · intro b hb
      show D.2.1 13 b = nI (useM _ b)
      unfold useM
      rw [hus b]
      exact hD.2.2.2.2.2.2.2.2.2.1 b hb
    · intro b hb
      show upd (R.2.1 1) (nI (cN c)).toNatClampNeg (nI kd) b = nI (if b = cN c then kd else cK c b)
      rw [nI_clamp (by omega)]
      unfold upd
      by_cases z : b = cN c
      · rw [if_pos z, if_pos z]
      · rw [if_neg z, if_neg z]
        exact hR.2.1 b hb
    · obtain ⟨s', f', mb, q1, q2⟩ := k4 j hj
      exact ⟨s', f', mb, hvs q1, q2⟩
