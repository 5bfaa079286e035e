/-! ===== recipe, lose ===== -/
theorem d_anyStands {c : Cfg} {D : Mm} {x : St} (hx : Fit x) (e1 : D.1 1 = nI (encD x)) : f_X6_anyStands D = some (if x.1 = 0 then 0 else 1) := by
  unfold f_X6_anyStands
  rw [show gI D 1 = _ from e1, enc511 hx]
  by_cases h : x.1 = 0
  · rw [h, if_pos (show nI 0 = 0 from rfl), if_pos rfl]
  · rw [if_neg (show ¬ nI x.1 = 0 from fun z => h (nI_inj (b := 0) (Nat.lt_trans hx.1 (by decide)) (by decide) z)), if_neg h]
/-- what recipeChanged leaves, when the rows already hold the new configuration -/
theorem d_changed {c c' : Cfg} {D D1 : Mm} {N b : Nat} (hw' : Wf c') (hN : 10 ≤ N) (hb : b < 9) (hD : OkD c D) (hP : OkP c' D1) (hI : D1.1 = D.1) (hA : ∀ j, j ≠ 8 → j ≠ 9 → j ≠ 10 → D1.2.1 j = D.2.1 j) (hL : D1.2.2 = D.2.2) (hn : cN c' = cN c) (hk : cK c' = cK c) (hg : cG c' = cG c) (hgg : cg c' = cg c) (ht : cT c' = cT c) (hS : ∀ i, i ≠ b → cS c' i = cS c i) (hPn : ∀ i, i ≠ b → cP c' i = cP c i) :
    ∃ D2, f_X6_recipeChanged N (nI b) D1 = some D2 ∧ OkD c' D2 ∧ Outd (pt D2) ∧ D2.1 11 = 0 ∧ (∀ j, j = 0 ∨ j = 1 ∨ j = 10 ∨ j = 12 ∨ j = 17 ∨ j = 18 → D2.1 j = D.1 j) ∧ (∀ j, j = 7 ∨ j = 15 ∨ j = 16 ∨ j = 17 ∨ j = 18 ∨ j = 23 ∨ j = 24 → D2.2.1 j = D.2.1 j) ∧ D2.2.1 9 = D1.2.1 9 ∧ D2.2.2 = D.2.2 := by
  have hbm : bm (fun i => (cS c i).isSome) 9 = bm (fun i => (cS c i).isSome) 9 := rfl
  have hl := d_learn (N := N) hw' hP hN hb (q := fun i => (cS c i).isSome) (by rw [hI]; exact hD.2.2.2.2.1) (fun i hi => by rw [hS i hi])
  refine ⟨od (sI (sA (sA (sI D1 3 (nI (bm (fun b => (cS c' b).isSome) 9))) 12 (nI b) (nI (needM c' b))) 13 (nI b) (nI (useM c' b))) 11 0), ?_, ?_, od_out _, rfl, ?_, ?_, rfl, hL⟩
  · unfold f_X6_recipeChanged
    rw [hl, bd_some]
    rfl
  · have hneed : ∀ i, i ≠ b → needM c' i = needM c i := by
      intro i hi
      unfold needM needs
      rw [hS i hi, hPn i hi]
    have huse : ∀ i, i ≠ b → useM c' i = useM c i := by
      intro i hi
      unfold useM usedN
      rw [hS i hi, hPn i hi, hk]
    have hgoal : goalM c' = goalM c := by
      unfold goalM
      rw [hg, hgg]
    refine ⟨?_, fun i hi => ?_, fun i hi => hP.1 i hi, fun i j hi hj => hP.2.1 i j hi hj, rfl, ?_, ?_, ?_, fun i hi => ?_, fun i hi => ?_, ?_, fun i hi => ?_, ?_, ?_⟩
    · show D1.1 2 = _
      rw [hI, hn]; exact hD.1
    · exact hP.2.2 i hi
    · show D1.1 4 = _
      rw [hI, hk]; exact hD.2.2.2.2.2.1
    · show D1.1 5 = _
      rw [hI, hk]; exact hD.2.2.2.2.2.2.1
    · show D1.1 6 = _
      rw [hI, hk]; exact hD.2.2.2.2.2.2.2.1
    · show upd (D1.2.1 12) (nI b).toNatClampNeg (nI (needM c' b)) i = _
      rw [nI_clamp (by omega), hA 12 (by decide) (by decide) (by decide)]
      unfold upd
      by_cases z : i = b
      · rw [if_pos z, z]
      · rw [if_neg z, hneed i z]; exact hD.2.2.2.2.2.2.2.2.1 i hi
    · show upd (D1.2.1 13) (nI b).toNatClampNeg (nI (useM c' b)) i = _
      rw [nI_clamp (by omega), hA 13 (by decide) (by decide) (by decide)]
      unfold upd
      by_cases z : i = b
      · rw [if_pos z, z]
      · rw [if_neg z, huse i z]; exact hD.2.2.2.2.2.2.2.2.2.1 i hi
    · show D1.1 7 = _
      rw [hI, hg]; exact hD.2.2.2.2.2.2.2.2.2.2.1
    · show D1.2.1 14 i = _
      rw [hg] at hi
      rw [hA 14 (by decide) (by decide) (by decide), hgg]; exact hD.2.2.2.2.2.2.2.2.2.2.2.1 i hi
    · show D1.1 8 = _
      rw [hI, hgoal]; exact hD.2.2.2.2.2.2.2.2.2.2.2.2.1
    · show D1.1 9 = _
      rw [hI, ht]; exact hD.2.2.2.2.2.2.2.2.2.2.2.2.2
  · intro j hj
    rcases hj with rfl | rfl | rfl | rfl | rfl | rfl <;> exact congrFun hI _
  · intro j hj
    rcases hj with rfl | rfl | rfl | rfl | rfl | rfl | rfl <;> exact hA _ (by decide) (by decide) (by decide)
/-- the relation behind a change of a recipe -/
theorem rel_changed {XC : Cfg → PT → Prop} {c c' : Cfg} {D D2 R R2 : Mm} {b : Nat} (hX : ∀ c t, Outd t → XC c t) (hw' : Wf c') (hOD : OkD c' D2) (hOR : OkR c' R2) (hout : Outd (pt D2)) (h11 : D2.1 11 = 0) (hI : ∀ j, j = 0 ∨ j = 1 ∨ j = 10 ∨ j = 12 ∨ j = 17 ∨ j = 18 → D2.1 j = D.1 j) (hA : ∀ j, j = 7 ∨ j = 15 ∨ j = 16 ∨ j = 17 ∨ j = 18 ∨ j = 23 ∨ j = 24 → D2.2.1 j = D.2.1 j) (hL : D2.2.2 = D.2.2) (h6 : R2.1 6 = 0) (rI : ∀ j, j = 1 ∨ j = 2 ∨ j = 3 ∨ j = 7 ∨ j = 8 → R2.1 j = R.1 j) (rA : ∀ j, j = 5 ∨ j = 7 ∨ j = 11 → R2.2.1 j = R.2.1 j) (hn : cN c' = cN c) (hk : cK c' = cK c) (hT9 : ∀ i, i < 9 → D2.2.1 9 i = if cS c' i = none then -1 else R2.2.1 2 i)
    (hS : RelS c D R) (hT : RelT c D R) (hH : RelH c D R) (hG : RelG D R) (hP : RelP D R) (hL0 : D.2.2 = 4096 ∨ D.2.2 = 40960) : Rel XC D2 R2 := by
  obtain ⟨s, f, vt, hv, h1, h2, e1, e2, e3, e4, e5⟩ := hS
  obtain ⟨k, nx, q1, q2, q3, q4, q5, q6⟩ := hH
  refine ⟨c', ⟨hw', hOD, hOR⟩, ⟨s, f, vt, Vs_goals hn hk hv, h1, h2, (hI 1 (by simp)).trans e1, (rI 2 (by simp)).trans e2, (rI 3 (by simp)).trans e3, (hI 0 (by simp)).trans e4, (rI 1 (by simp)).trans e5⟩, ⟨hT9, fun i hi => ?_⟩, RelH.nil q2 h11 ((hI 12 (by simp)).trans q4) h6, RelG_of (hI 10 (by simp)) (hA 15 (by simp)) (rI 7 (by simp)) (rA 11 (by simp)) hG, RelP_of (hI 17 (by simp)) (hI 18 (by simp)) (hA 23 (by simp)) (rI 8 (by simp)) (rA 7 (by simp)) hP, by rw [hL]; exact hL0, hX _ _ hout⟩
  rw [hA 7 (by simp), rA 5 (by simp)]
  exact hT.2 i hi
theorem q_lose {XC : Cfg → PT → Prop} {N : Nat} (hX : ∀ c t, Outd t → XC c t) (hN : 10 ≤ N) : Q_lose N (Rel XC) := by
  intro p1 D R hRel
  obtain ⟨c, ⟨hw, hD, hR⟩, hS, hT, hH, hG, hP, hL⟩ := id hRel
  obtain ⟨s, f, vt, hv, h1, h2, e1, e2, e3, e4, e5⟩ := id hS
  have hf := hv.fit hw
  have hnb := hw.1
  unfold f_X6_lose f_X7_lose
  rcases bath_cases (x := p1) hw.1 with q | ⟨b, hb, rfl⟩
  · exact ⟨-2, D, R, by rw [d_isBath_no hD q]; rfl, by rw [m_isBath_no hR q]; rfl, hRel, kp_of rfl⟩
  have hb9 : b < 9 := by omega
  have hin : inb (nI b) 9 := (inb_nI (by omega)).mpr hb9
  rw [d_isBath_yes hw hD hb, bd_some, if_neg one_ne_zero, m_isBath_yes hw hR hb, bd_some, if_neg one_ne_zero, d_anyStands (c := c) hf e1, bd_some, show gI R 2 = _ from e2]
  by_cases hs0 : s = 0
  · -- the new configuration
    obtain ⟨c', hc'⟩ : ∃ c' : Cfg, c' = (cN c, cK c, (fun i => if i = b then none else cS c i), cP c, cG c, cg c, cT c) := ⟨_, rfl⟩
    have hcS : ∀ i, cS c' i = if i = b then none else cS c i := fun i => by rw [hc']
    have hw' : Wf c' := by
      rw [hc']
      refine ⟨hw.1, hw.2.1, hw.2.2.1, fun i k hk => ?_, fun i k j o hk => ?_, hw.2.2.2.2.2⟩
      · have hk : (if i = b then none else cS c i) = some k := hk
        split at hk
        · cases hk
        · exact hw.2.2.2.1 i k hk
      · have hk : (if i = b then none else cS c i) = some k := hk
        split at hk
        · cases hk
        · exact hw.2.2.2.2.1 i k j o hk
    have hPr : OkP c' (sA (sA D 8 (nI b) (-1)) 9 (nI b) (-1)) := by
      refine ⟨fun i hi => ?_, fun i j hi hj => ?_, fun i hi => ?_⟩
      · show upd (D.2.1 8) (nI b).toNatClampNeg (-1) i = _
        rw [nI_clamp (by omega), hcS i]
        unfold upd
        by_cases z : i = b
        · rw [if_pos z, if_pos z]; rfl
        · rw [if_neg z, if_neg z]; exact hD.2.2.1 i hi
      · rw [hc']; exact hD.2.2.2.1 i j hi hj
      · rw [hc']; exact hD.2.1 i hi
    obtain ⟨D2, a1, a2, a3, a4, a5, a6, a7, a8⟩ := d_changed (N := N) (c := c) (c' := c') (D := D) (D1 := sA (sA D 8 (nI b) (-1)) 9 (nI b) (-1)) hw' hN hb9 hD hPr rfl (fun j h8 h9 h10 => by
      show va_up (va_up D.2.1 8 _) 9 _ j = _
      rw [up_ne h9, up_ne h8]) rfl (by rw [hc']) (by rw [hc']) (by rw [hc']) (by rw [hc']) (by rw [hc']) (fun i hi => by rw [hcS i, if_neg hi]) (fun i hi => by rw [hc'])
    have l37 : ∀ t0 : Int32, f_X6_lose_37 N (nI b) t0 D = some (t0, D2) := by
      intro t0
      unfold f_X6_lose_37 f_X3_drop
      rw [if_pos hin, if_pos hin, bd_some, a1, bd_some]
    have l32 : ∀ t0 : Int32, f_X7_lose_32 (nI b) t0 R = some (t0, sI (sA R 3 (nI b) (-1)) 6 0) := by
      intro t0
      unfold f_X7_lose_32
      rw [if_pos hin]
    rw [if_pos (show (s, f, 0).1 = 0 from hs0), if_pos rfl, if_pos (by rw [hs0]; rfl), d_has hw hD hb9, bd_some, if_pos hin, gA_nI (by omega), hR.2.2.1 b hb9]
    refine ⟨if cS c b = none then 0 else 1, D2, sI (sA R 3 (nI b) (-1)) 6 0, ?_, ?_, ?_, kp_of a8⟩
    · cases hs : cS c b with
      | none => exact l37 0
      | some k =>
        rw [if_neg (show ¬ (some k : Option Nat) = none from Option.some_ne_none k), if_neg one_ne_zero]
        exact l37 1
    · cases hs : cS c b with
      | none => rw [if_pos (show oI none < 0 by decide)]; exact l32 0
      | some k =>
        have hk := (hw.2.2.2.1 b k hs).1
        rw [oI_some, if_neg (nI_pos (by omega)), if_neg (show ¬ (some k : Option Nat) = none from Option.some_ne_none k)]
        exact l32 1
    · have hOR : OkR c' (sI (sA R 3 (nI b) (-1)) 6 0) := by
        refine ⟨by rw [hc']; exact hR.1, fun i hi => by rw [hc']; exact hR.2.1 i hi, fun i hi => ?_, fun i j hi hj => by rw [hc']; exact hR.2.2.2.1 i j hi hj, by rw [hc']; exact hR.2.2.2.2.1, by rw [hc']; exact hR.2.2.2.2.2.1, by rw [hc']; exact hR.2.2.2.2.2.2⟩
        show upd (R.2.1 3) (nI b).toNatClampNeg (-1) i = _
        rw [nI_clamp (by omega), hcS i]
        unfold upd
        by_cases z : i = b
        · rw [if_pos z, if_pos z]; rfl
        · rw [if_neg z, if_neg z]; exact hR.2.2.1 i hi
      refine rel_changed (b := b) hX hw' a2 hOR a3 a4 a5 a6 a8 rfl ?_ ?_ (by rw [hc']) (by rw [hc']) (fun i hi => ?_) hS hT hH hG hP hL.1
      · intro j hj
        rcases hj with rfl | rfl | rfl | rfl | rfl <;> rfl
      · intro j hj
        rcases hj with rfl | rfl | rfl <;> rfl
      · rw [a7, hcS i]
        show upd (D.2.1 9) (nI b).toNatClampNeg (-1) i = if (if i = b then none else cS c i) = none then -1 else R.2.1 2 i
        rw [nI_clamp (by omega)]
        unfold upd
        by_cases z : i = b
        · rw [if_pos z, if_pos z]; rfl
        · rw [if_neg z, if_neg z]; exact hT.1 i hi
  · have hsn : ¬ nI s = 0 := fun z => hs0 (nI_inj (b := 0) (Nat.lt_trans hf.1 (by decide)) (by decide) z)
    exact ⟨-2, D, R, by rw [if_neg (show ¬ (s, f, 0).1 = 0 from hs0), if_neg one_ne_zero], by rw [if_neg hsn], hRel, kp_of rfl⟩
