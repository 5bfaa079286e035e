/-! ===== need ===== -/
theorem d_hasPlace {c : Cfg} {D : Mm} (hw : Wf c) (h : OkD c D) {b i : Nat} (hb : b < 9) (hi : i < 2 ^ 31) {k : Nat} (hs : cS c b = some k) : f_X3_hasPlace D (nI b) (nI i) = some (if i < k then 1 else 0) := by
  have hk := (hw.2.2.2.1 b k hs).1
  unfold f_X3_hasPlace
  rw [if_neg (nI_pos hi), if_pos ((inb_nI (by omega)).mpr hb), gA_nI (by omega), h.2.2.1 b hb, hs, oI_some]
  by_cases z : i < k
  · rw [if_neg (nI_ge z (by omega)), if_pos z]
  · rw [if_pos (nI_le (by omega) hi), if_neg z]
/-- a place is named anew: the two sides, from memories that are related but for the rows of measuring -/
theorem need_set {XC : Cfg → PT → Prop} {N : Nat} (hX : ∀ c t, Outd t → XC c t) (hN : 20 ≤ N) {c : Cfg} {D R : Mm} {b i k : Nat} {o : Option Nat} (hw : Wf c) (hD : OkD c D) (hR : OkR c R) (hS : RelS c D R) (hT : RelT c D R) (hH : RelH c D R) (hG : RelG D R) (hP : RelP D R) (hL : D.2.2 = 4096 ∨ D.2.2 = 40960) (hb : b < cN c) (hs : cS c b = some k) (hi : i < k) (ho : ∀ q, o = some q → q < cN c) :
    ∃ r D' R', f_X6_need_93 N (nI b) (nI i) (oI o) D = some (r, D') ∧ f_X7_need_87 N (nI b) (nI i) (oI o) R = some (r, R') ∧ Rel XC D' R' ∧ D'.2.2 = D.2.2 := by
  have hnb := hw.1
  have hk := (hw.2.2.2.1 b k hs).1
  have hb9 : b < 9 := by omega
  obtain ⟨c', hc'⟩ : ∃ c' : Cfg, c' = (cN c, cK c, cS c, (fun x j => if x = b ∧ j = i then o else cP c x j), cG c, cg c, cT c) := ⟨_, rfl⟩
  have hcP : ∀ x j, cP c' x j = if x = b ∧ j = i then o else cP c x j := fun x j => by rw [hc']
  have hw' : Wf c' := by
    rw [hc']
    refine ⟨hw.1, hw.2.1, hw.2.2.1, hw.2.2.2.1, fun x k2 j q hk2 hj hq => ?_, hw.2.2.2.2.2⟩
    have hq : (if x = b ∧ j = i then o else cP c x j) = some q := hq
    by_cases z : x = b ∧ j = i
    · rw [if_pos z] at hq; exact ho q hq
    · rw [if_neg z] at hq; exact hw.2.2.2.2.1 x k2 j q hk2 hj hq
  have names : ∀ (A : Nat → Int32), (∀ x j, x < 9 → j < 4 → A (4 * x + j) = oI (cP c x j)) → ∀ x j, x < 9 → j < 4 → upd A (4 * b + i) (oI o) (4 * x + j) = oI (cP c' x j) := by
    intro A hA x j hx hj
    rw [up_row, hcP x j]
    by_cases z : x = b ∧ j = i
    · rw [if_pos (by omega), if_pos z]
    · rw [if_neg (by omega), if_neg z]; exact hA x j hx hj
  have hin : inb (nI (4 * b + i)) 36 := (inb_nI (by omega)).mpr (by omega)
  have hcl : (nI (4 * b + i)).toNatClampNeg = 4 * b + i := nI_clamp (by omega)
  have hPr : OkP c' (sA D 10 (nI (4 * b + i)) (oI o)) := by
    refine ⟨fun x hx => by rw [hc']; exact hD.2.2.1 x hx, fun x j hx hj => ?_, fun x hx => by rw [hc']; exact hD.2.1 x hx⟩
    show upd (D.2.1 10) (nI (4 * b + i)).toNatClampNeg (oI o) (4 * x + j) = _
    rw [hcl]
    exact names (D.2.1 10) (fun x j hx hj => hD.2.2.2.1 x j hx hj) x j hx hj
  obtain ⟨D2, a1, a2, a3, a4, a5, a6, a7, a8⟩ := d_changed (N := N) (c := c) (c' := c') (D := D) (D1 := sA D 10 (nI (4 * b + i)) (oI o)) (b := b) hw' (by omega) hb9 hD hPr rfl (fun j h8 h9 h10 => up_ne h10) rfl (by rw [hc']) (by rw [hc']) (by rw [hc']) (by rw [hc']) (by rw [hc']) (fun x hx => by rw [hc']) (fun x hx => by
    funext j
    rw [hcP x j, if_neg (fun z => hx z.1)])
  have hOP : OkP c D := ⟨fun x hx => hD.2.2.1 x hx, fun x j hx hj => hD.2.2.2.1 x j hx hj, fun x hx => hD.2.1 x hx⟩
  refine ⟨oI (cP c b i), D2, sI (sA R 4 (nI (4 * b + i)) (oI o)) 6 0, ?_, ?_, ?_, a8⟩
  · unfold f_X6_need_93 f_X3_setName
    rw [d_nameAt hOP hb9 (by omega), bd_some, place_eq, if_pos hin, bd_some, a1, bd_some]
  · unfold f_X7_need_87
    rw [nI_place, if_pos hin, if_pos hin, gA_nI (by omega), hR.2.2.2.1 b i hb9 (by omega)]
  · have hOR : OkR c' (sI (sA R 4 (nI (4 * b + i)) (oI o)) 6 0) := by
      refine ⟨by rw [hc']; exact hR.1, fun x hx => by rw [hc']; exact hR.2.1 x hx, fun x hx => by rw [hc']; exact hR.2.2.1 x hx, fun x j hx hj => ?_, by rw [hc']; exact hR.2.2.2.2.1, by rw [hc']; exact hR.2.2.2.2.2.1, by rw [hc']; exact hR.2.2.2.2.2.2⟩
      show upd (R.2.1 4) (nI (4 * b + i)).toNatClampNeg (oI o) (4 * x + j) = _
      rw [hcl]
      exact names (R.2.1 4) (fun x j hx hj => hR.2.2.2.1 x j hx hj) x j hx hj
    refine rel_changed (b := b) hX hw' a2 hOR a3 a4 a5 a6 a8 rfl ?_ ?_ (by rw [hc']) (by rw [hc']) (fun x hx => ?_) hS hT hH hG hP hL
    · intro j hj
      rcases hj with rfl | rfl | rfl | rfl | rfl <;> rfl
    · intro j hj
      rcases hj with rfl | rfl | rfl <;> rfl
    · rw [a7, hc']
      exact hT.1 x hx
theorem q_need {XC : Cfg → PT → Prop} {N : Nat} (hX : ∀ c t, Outd t → XC c t) (hN : 20 ≤ N) : Q_need N (Rel XC) := by
  intro p1 p2 p3 D R hRel
  obtain ⟨c, ⟨hw, hD, hR⟩, hS, hT, hH, hG, hP, hL, hXC⟩ := id hRel
  obtain ⟨s, f, vt, hv, h1, h2, e1, e2, e3, e4, e5⟩ := id hS
  have hf := hv.fit hw
  have hnb := hw.1
  unfold f_X6_need f_X7_need
  rcases bath_cases (x := p1) hw.1 with q | ⟨b, hb, rfl⟩
  · exact ⟨-2, D, R, by rw [d_isBath_no hD q]; rfl, by rw [m_isBath_no hR q]; rfl, hRel, kp_of rfl⟩
  have hb9 : b < 9 := by omega
  have hin : inb (nI b) 9 := (inb_nI (by omega)).mpr hb9
  rw [d_isBath_yes hw hD hb, bd_some, if_neg one_ne_zero, m_isBath_yes hw hR hb, bd_some, if_neg one_ne_zero]
  have main : ∀ o : Option Nat, p3 = oI o → (∀ q, o = some q → q < cN c) → ∃ r D' R', f_X6_need_27 N (nI b) p2 p3 D = some (r, D') ∧ f_X7_need_21 N (nI b) p2 p3 R = some (r, R') ∧ Rel XC D' R' ∧ 0 + kp D' ≤ kp D := by
    intro o ho hoq
    subst ho
    unfold f_X6_need_27 f_X7_need_21
    rw [d_anyStands (c := c) hf e1, bd_some, show gI R 2 = _ from e2]
    by_cases hs0 : s = 0
    · rw [if_pos (show (s, f, 0).1 = 0 from hs0), if_pos rfl, if_pos (show nI s = 0 by rw [hs0]; rfl), d_has hw hD hb9, bd_some, if_pos hin, gA_nI (by omega), hR.2.2.1 b hb9]
      cases hs : cS c b with
      | none =>
        exact ⟨-10, D, R, by rw [if_pos rfl, if_pos rfl], by rw [if_neg (show ¬ (0 : Int32) ≤ oI none by decide)], hRel, kp_of rfl⟩
      | some k =>
        have hk := (hw.2.2.2.1 b k hs).1
        rw [if_neg (show ¬ (some k : Option Nat) = none from Option.some_ne_none k), if_neg one_ne_zero, oI_some, if_pos (show (0 : Int32) ≤ nI k from nI_le (a := 0) (Nat.zero_le k) (by omega))]
        by_cases p0 : p2 < 0
        · exact ⟨-11, D, R, by unfold f_X3_hasPlace; rw [if_pos p0]; rfl, by rw [if_pos p0], hRel, kp_of rfl⟩
        obtain ⟨i, hi, rfl⟩ := nI_of p0
        rw [d_hasPlace hw hD hb9 hi hs, bd_some, if_neg p0, if_pos hin]
        by_cases hik : i < k
        · rw [if_pos hik, if_neg one_ne_zero, if_pos (nI_lt hik (by omega))]
          obtain ⟨R1, r1, r2, r3, r4, r5⟩ := m_countSteps (N := N) hw hN hR hb9
          rw [r1, bd_some]
          have hR1 : OkR c R1 := OkR_of (congrFun r2 _) (congrFun r2 _) (congrFun r2 _) (fun j hj => r3 j (by omega)) hR
          cases o with
          | none =>
            rw [if_pos (show oI none = -1 from rfl), if_pos (show oI none < 0 by decide)]
            have hS1 : RelS c D R1 := ⟨s, f, vt, hv, h1, h2, e1, (congrFun r2 _).trans e2, (congrFun r2 _).trans e3, e4, (congrFun r2 _).trans e5⟩
            have hH1 : RelH c D R1 := by
              unfold RelH
              rw [r2, r3 8 (by decide), r3 9 (by decide), r3 10 (by decide)]
              exact hH
            obtain ⟨r, D', R', g1, g2, g3, g4⟩ := need_set (N := N) (o := none) hX hN hw hD hR1 hS1 (RelT_of rfl rfl (r3 2 (by decide)) (r3 5 (by decide)) hT) hH1 (RelG_of rfl rfl (congrFun r2 _) (r3 11 (by decide)) hG) (RelP_of rfl rfl rfl (congrFun r2 _) (r3 7 (by decide)) hP) hL hb hs hik hoq
            exact ⟨r, D', R', g1, g2, g3, kp_of g4⟩
          | some q =>
            have hq := hoq q rfl
            have hq9 : q < 9 := by omega
            have hinq : inb (nI q) 9 := (inb_nI (by omega)).mpr hq9
            obtain ⟨D1, d1, d2, d3, d4, d5⟩ := d_measure (N := N) hw hN hb9 hD
            have hD1 : OkD c D1 := OkD_of (fun j _ _ => congrFun d2 j) (fun j _ _ _ => d3 j (by omega)) hD
            have hsm : ∀ k, lay c b 8 q = some k → k < 2 ^ 31 := fun k hk => by have := lay_le _ _ _ hk; omega
            rw [oI_some, if_neg (nI_ne_m1 (by omega)), if_neg (nI_pos (by omega)), if_pos hinq, gA_nI (by omega), r5 q hq9]
            unfold f_X4_closes
            rw [d1, bd_some, if_pos hinq, gA_nI (by omega), d5 q hq9]
            cases hl : lay c b 8 q with
            | none =>
              rw [if_pos (show oI none = -1 from rfl), if_pos (show oI none < 0 by decide), bd2_some, if_pos rfl]
              have hS1 : RelS c D1 R1 := ⟨s, f, vt, hv, h1, h2, (congrFun d2 _).trans e1, (congrFun r2 _).trans e2, (congrFun r2 _).trans e3, (congrFun d2 _).trans e4, (congrFun r2 _).trans e5⟩
              have hH1 : RelH c D1 R1 := by
                unfold RelH
                rw [r2, r3 8 (by decide), r3 9 (by decide), r3 10 (by decide), d2, d3 17 (by decide), d3 18 (by decide)]
                exact hH
              obtain ⟨r, D', R', g1, g2, g3, g4⟩ := need_set (N := N) (o := some q) hX hN hw hD1 hR1 hS1 (RelT_of (d3 9 (by decide)) (d3 7 (by decide)) (r3 2 (by decide)) (r3 5 (by decide)) hT) hH1 (RelG_of (congrFun d2 _) (d3 15 (by decide)) (congrFun r2 _) (r3 11 (by decide)) hG) (RelP_of (congrFun d2 _) (congrFun d2 _) (d3 23 (by decide)) (congrFun r2 _) (r3 7 (by decide)) hP) (by rw [d4]; exact hL) hb hs hik hoq
              exact ⟨r, D', R', g1, g2, g3, kp_of (g4.trans d4)⟩
            | some m =>
              have hm := lay_le _ _ _ hl
              rw [oI_some, if_neg (nI_ne_m1 (by omega)), if_neg (nI_pos (by omega)), if_pos (show inb (0 : Int32) 9 from (inb_nI (k := 0) (by decide)).mpr (by decide))]
              obtain ⟨D', R', g1, g2, g3, g4, g5, g6, g7, g8, g9⟩ := ring_walk (N := N) hw hN hb hD hR m N N 1 q (sI (sA D1 15 0 (nI b)) 10 1) (sA (sI R1 7 1) 11 0 (nI b)) hl hq9 (by omega) (by omega) (by omega) (by omega)
                (fun j hj => (up_ne hj).trans (congrFun d2 j)) (fun j hj1 hj2 => (up_ne hj1).trans (d3 j hj2)) d4 (fun j hj => (up_ne hj).trans (congrFun r2 j)) (fun j hj1 hj2 => (up_ne hj1).trans (r3 j hj2)) r4 rfl rfl d5 r5 (fun j hj => by
                  obtain rfl : j = 0 := by omega
                  rfl)
              have g1' : f_X4_closes_36 N N (nI b) (nI q) 1 (sI (sA D1 15 0 (nI b)) 10 1) = some (1, D') := g1
              rw [g1', bd2_some, if_neg one_ne_zero]
              unfold f_X7_tellRing
              rw [if_pos (show inb (0 : Int32) 9 from (inb_nI (k := 0) (by decide)).mpr (by decide)), g2, bd_some]
              refine ⟨-3, D', R', rfl, rfl, ⟨c, ⟨hw, OkD_of (fun j _ _ => g4 j (by omega)) (fun j _ _ _ => g5 j (by omega) (by omega)) hD, OkR_of (g7 0 (by decide)) (g7 4 (by decide)) (g7 5 (by decide)) (fun j hj => g8 j (by omega) (by omega)) hR⟩, ⟨s, f, vt, hv, h1, h2, (g4 1 (by decide)).trans e1, (g7 2 (by decide)).trans e2, (g7 3 (by decide)).trans e3, (g4 0 (by decide)).trans e4, (g7 1 (by decide)).trans e5⟩, RelT_of (g5 9 (by decide) (by decide)) (g5 7 (by decide) (by decide)) (g8 2 (by decide) (by decide)) (g8 5 (by decide) (by decide)) hT, ?_, g3, RelP_of (g4 17 (by decide)) (g4 18 (by decide)) (g5 23 (by decide) (by decide)) (g7 8 (by decide)) (g8 7 (by decide) (by decide)) hP, by rw [g6]; exact hL, ?_⟩, kp_of g6⟩
              · unfold RelH
                rw [g4 11 (by decide), g4 12 (by decide), g7 6 (by decide), g8 8 (by decide) (by decide), g8 9 (by decide) (by decide), g8 10 (by decide) (by decide), g5 17 (by decide) (by decide), g5 18 (by decide) (by decide)]
                exact hH
              · rw [pt_of (fun j hj => g4 j (by omega)) (fun j hj1 hj2 => g5 j (by omega) (by omega)) g6]
                exact hXC
        · exact ⟨-11, D, R, by rw [if_neg hik, if_pos rfl], by rw [if_neg (nI_nlt (by omega) hi)], hRel, kp_of rfl⟩
    · have hsn : ¬ nI s = 0 := fun z => hs0 (nI_inj (b := 0) (Nat.lt_trans hf.1 (by decide)) (by decide) z)
      exact ⟨-2, D, R, by rw [if_neg (show ¬ (s, f, 0).1 = 0 from hs0), if_neg one_ne_zero], by rw [if_neg hsn], hRel, kp_of rfl⟩
  by_cases hm1 : p3 = -1
  · rw [if_pos hm1, if_pos hm1]
    exact main none hm1 (fun q hq => by cases hq)
  rw [if_neg hm1, if_neg hm1]
  rcases bath_cases (x := p3) hw.1 with q | ⟨o, ho, rfl⟩
  · exact ⟨-2, D, R, by rw [d_isBath_no hD q]; rfl, by rw [m_isBath_no hR q]; rfl, hRel, kp_of rfl⟩
  rw [d_isBath_yes hw hD ho, bd_some, if_neg one_ne_zero, m_isBath_yes hw hR ho, bd_some, if_neg one_ne_zero]
  exact main (some o) rfl (fun q hq => by cases hq; exact ho)
