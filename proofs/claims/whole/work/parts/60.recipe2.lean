theorem d_begin_17 {N b : Nat} (hb : b < 9) : ∀ (n i : Nat) (M : Mm), i ≤ 4 → 4 < n + i → ∃ M', f_X3_begin_17 N n (nI b) (nI i) M = some M' ∧ M'.1 = M.1 ∧ (∀ j, j ≠ 10 → M'.2.1 j = M.2.1 j) ∧ (∀ q, M'.2.1 10 q = if 4 * b + i ≤ q ∧ q < 4 * b + 4 then -1 else M.2.1 10 q) ∧ M'.2.2 = M.2.2
  | 0, i, M, h1, h2 => by omega
  | n + 1, i, M, h1, h2 => by
    rw [f_X3_begin_17]
    by_cases hi : i = 4
    · subst hi
      rw [if_pos (show (4 : Int32) ≤ nI 4 from nI_le (Nat.le_refl 4) (by decide))]
      exact ⟨M, rfl, rfl, fun _ _ => rfl, fun q => by rw [if_neg (by omega)], rfl⟩
    · rw [if_neg (show ¬ (4 : Int32) ≤ nI i from nI_ge (b := 4) (by omega) (by decide))]
      unfold f_X3_setName
      rw [place_eq, if_pos ((inb_nI (by omega)).mpr (by omega)), bd_some, nI_1]
      obtain ⟨M', a1, a2, a3, a4, a5⟩ := d_begin_17 (N := N) hb n (i + 1) (sA M 10 (nI (4 * b + i)) (-1)) (by omega) (by omega)
      refine ⟨M', a1, a2, fun j hj => (a3 j hj).trans (up_ne hj), fun q => ?_, a5⟩
      rw [a4 q]
      show (if 4 * b + (i + 1) ≤ q ∧ q < 4 * b + 4 then -1 else upd (M.2.1 10) (nI (4 * b + i)).toNatClampNeg (-1) q) = _
      rw [nI_clamp (by omega)]
      unfold upd
      by_cases z : q = 4 * b + i
      · rw [if_neg (by omega), if_pos z, if_pos (by omega)]
      · by_cases y : 4 * b + (i + 1) ≤ q ∧ q < 4 * b + 4
        · rw [if_pos y, if_pos (by omega)]
        · rw [if_neg y, if_neg z, if_neg (by omega)]
theorem m_recipe_56 {N b : Nat} {x3 : Int32} (hb : b < 9) : ∀ (n i : Nat) (M : Mm), i ≤ 4 → 4 < n + i → ∃ M', f_X7_recipe_56 N n (nI b) x3 (nI i) M = some (x3, sI M' 6 0) ∧ M'.1 = M.1 ∧ (∀ j, j ≠ 4 → M'.2.1 j = M.2.1 j) ∧ (∀ q, M'.2.1 4 q = if 4 * b + i ≤ q ∧ q < 4 * b + 4 then -1 else M.2.1 4 q) ∧ M'.2.2 = M.2.2
  | 0, i, M, h1, h2 => by omega
  | n + 1, i, M, h1, h2 => by
    rw [f_X7_recipe_56]
    by_cases hi : i = 4
    · subst hi
      rw [if_pos (show (4 : Int32) ≤ nI 4 from nI_le (Nat.le_refl 4) (by decide))]
      exact ⟨M, rfl, rfl, fun _ _ => rfl, fun q => by rw [if_neg (by omega)], rfl⟩
    · rw [if_neg (show ¬ (4 : Int32) ≤ nI i from nI_ge (b := 4) (by omega) (by decide)), nI_place, if_pos ((inb_nI (by omega)).mpr (by omega)), nI_1]
      obtain ⟨M', a1, a2, a3, a4, a5⟩ := m_recipe_56 (N := N) (x3 := x3) hb n (i + 1) (sA M 4 (nI (4 * b + i)) (-1)) (by omega) (by omega)
      refine ⟨M', a1, a2, fun j hj => (a3 j hj).trans (up_ne hj), fun q => ?_, a5⟩
      rw [a4 q]
      show (if 4 * b + (i + 1) ≤ q ∧ q < 4 * b + 4 then -1 else upd (M.2.1 4) (nI (4 * b + i)).toNatClampNeg (-1) q) = _
      rw [nI_clamp (by omega)]
      unfold upd
      by_cases z : q = 4 * b + i
      · rw [if_neg (by omega), if_pos z, if_pos (by omega)]
      · by_cases y : 4 * b + (i + 1) ≤ q ∧ q < 4 * b + 4
        · rw [if_pos y, if_pos (by omega)]
        · rw [if_neg y, if_neg z, if_neg (by omega)]
theorem q_recipe {XC : Cfg → PT → Prop} {N : Nat} (hX : ∀ c t, Outd t → XC c t) (hN : 10 ≤ N) : Q_recipe N (Rel XC) := by
  intro p1 p2 p3 D R hRel
  obtain ⟨c, ⟨hw, hD, hR⟩, hS, hT, hH, hG, hP, hL⟩ := id hRel
  obtain ⟨s, f, vt, hv, h1, h2, e1, e2, e3, e4, e5⟩ := id hS
  have hf := hv.fit hw
  have hnb := hw.1
  unfold f_X6_recipe f_X7_recipe f_X6_isType
  rcases bath_cases (x := p1) hw.1 with q | ⟨b, hb, rfl⟩
  · exact ⟨-2, D, R, by rw [d_isBath_no hD q]; rfl, by rw [m_isBath_no hR q]; rfl, hRel, kp_of rfl⟩
  have hb9 : b < 9 := by omega
  have hin : inb (nI b) 9 := (inb_nI (by omega)).mpr hb9
  rw [d_isBath_yes hw hD hb, bd_some, if_neg one_ne_zero, m_isBath_yes hw hR hb, bd_some, if_neg one_ne_zero]
  by_cases t1 : p2 < 0
  · exact ⟨-2, D, R, by rw [if_pos t1]; rfl, by rw [if_pos t1], hRel, kp_of rfl⟩
  rw [if_neg t1, if_neg t1]
  obtain ⟨t, ht, rfl⟩ := nI_of t1
  by_cases t2 : 3 ≤ t
  · refine ⟨-2, D, R, ?_, ?_, hRel, kp_of rfl⟩
    · rw [if_pos (show (3 : Int32) ≤ nI t from nI_le (a := 3) t2 ht)]; rfl
    · rw [if_pos (show (2 : Int32) < nI t from nI_lt (a := 2) (by omega) ht)]
  rw [if_neg (show ¬ (3 : Int32) ≤ nI t from nI_ge (b := 3) (by omega) (by decide)), bd_some, if_neg one_ne_zero, if_neg (show ¬ (2 : Int32) < nI t from nI_nlt (a := 2) (by omega) (by decide)), d_anyStands (c := c) hf e1, bd_some, show gI R 2 = _ from e2]
  by_cases hs0 : s = 0
  · rw [if_pos (show (s, f, 0).1 = 0 from hs0), if_pos rfl, if_pos (show nI s = 0 by rw [hs0]; rfl)]
    by_cases n4 : p3 ≤ (4 : Int32)
    · rw [if_pos n4, if_pos n4]
      by_cases n0 : 0 ≤ p3
      · rw [if_pos n0, if_pos n0, if_pos hin, if_pos hin]
        obtain ⟨n, hn, rfl⟩ : ∃ n, n ≤ 4 ∧ p3 = nI n := by
          have hnn : ¬ p3 < 0 := by rw [Int32.lt_iff_toInt_lt]; rw [Int32.le_iff_toInt_le] at n0; omega
          obtain ⟨n, hn, rfl⟩ := nI_of hnn
          exact ⟨n, Nat.le_of_not_lt (fun z => absurd n4 (nI_ge (a := 4) z hn)), rfl⟩
        obtain ⟨c', hc'⟩ : ∃ c' : Cfg, c' = (cN c, cK c, (fun i => if i = b then some n else cS c i), (fun i => if i = b then (fun _ => none) else cP c i), cG c, cg c, cT c) := ⟨_, rfl⟩
        have hcS : ∀ i, cS c' i = if i = b then some n else cS c i := fun i => by rw [hc']
        have hcP : ∀ i, cP c' i = if i = b then (fun _ => none) else cP c i := fun i => by rw [hc']
        have hw' : Wf c' := by
          rw [hc']
          refine ⟨hw.1, hw.2.1, hw.2.2.1, fun i k hk => ?_, fun i k j o hk hj ho => ?_, hw.2.2.2.2.2⟩
          · have hk : (if i = b then some n else cS c i) = some k := hk
            by_cases z : i = b
            · rw [if_pos z] at hk; cases hk; exact ⟨hn, by rw [z]; exact hb⟩
            · rw [if_neg z] at hk; exact hw.2.2.2.1 i k hk
          · have hk : (if i = b then some n else cS c i) = some k := hk
            have ho : (if i = b then (fun _ => none) else cP c i) j = some o := ho
            by_cases z : i = b
            · rw [if_pos z] at ho; cases ho
            · rw [if_neg z] at hk ho; exact hw.2.2.2.2.1 i k j o hk hj ho
        obtain ⟨D1, b1, b2, b3, b4, b5⟩ := d_begin_17 (N := N) hb9 N 0 (sA (sA D 8 (nI b) (nI n)) 9 (nI b) (nI t)) (by decide) (by omega)
        obtain ⟨R1, g1, g2, g3, g4, g5⟩ := m_recipe_56 (N := N) (x3 := nI n) hb9 N 0 (sA (sA R 2 (nI b) (nI t)) 3 (nI b) (nI n)) (by decide) (by omega)
        have names : ∀ (A0 A1 : Nat → Int32), (∀ q, A1 q = if 4 * b + 0 ≤ q ∧ q < 4 * b + 4 then -1 else A0 q) → (∀ i j, i < 9 → j < 4 → A0 (4 * i + j) = oI (cP c i j)) → ∀ i j, i < 9 → j < 4 → A1 (4 * i + j) = oI (cP c' i j) := by
          intro A0 A1 hA1 hA0 i j hi hj
          rw [hA1, hcP i]
          by_cases z : i = b
          · rw [if_pos (by omega), if_pos z]; rfl
          · rw [if_neg (by omega), if_neg z]; exact hA0 i j hi hj
        have hPr : OkP c' D1 := by
          refine ⟨fun i hi => ?_, names (D.2.1 10) (D1.2.1 10) b4 (fun i j hi hj => hD.2.2.2.1 i j hi hj), fun i hi => ?_⟩
          · rw [b3 8 (by decide), hcS i]
            show upd (D.2.1 8) (nI b).toNatClampNeg (nI n) i = _
            rw [nI_clamp (by omega)]
            unfold upd
            by_cases z : i = b
            · rw [if_pos z, if_pos z]; rfl
            · rw [if_neg z, if_neg z]; exact hD.2.2.1 i hi
          · rw [b3 11 (by decide), hc']; exact hD.2.1 i hi
        obtain ⟨D2, a1, a2, a3, a4, a5, a6, a7, a8⟩ := d_changed (N := N) (c := c) (c' := c') (D := D) (D1 := D1) hw' hN hb9 hD hPr b2 (fun j h8 h9 h10 => by
          rw [b3 j h10]
          show va_up (va_up D.2.1 8 _) 9 _ j = _
          rw [up_ne h9, up_ne h8]) b5 (by rw [hc']) (by rw [hc']) (by rw [hc']) (by rw [hc']) (by rw [hc']) (fun i hi => by rw [hcS i, if_neg hi]) (fun i hi => by rw [hcP i, if_neg hi])
        refine ⟨nI n, D2, sI R1 6 0, ?_, g1, ?_, kp_of a8⟩
        · unfold f_X3_begin
          rw [if_pos hin, if_pos hin]
          have b1' : f_X3_begin_17 N N (nI b) 0 (sA (sA D 8 (nI b) (nI n)) 9 (nI b) (nI t)) = some D1 := b1
          rw [b1', bd_some, a1, bd_some]
        · have hOR : OkR c' (sI R1 6 0) := by
            refine ⟨?_, fun i hi => ?_, fun i hi => ?_, names (R.2.1 4) (R1.2.1 4) g4 (fun i j hi hj => hR.2.2.2.1 i j hi hj), ?_, fun i hi => ?_, ?_⟩
            · show R1.1 0 = _
              rw [g2, hc']; exact hR.1
            · show R1.2.1 1 i = _
              rw [g3 1 (by decide), hc']; exact hR.2.1 i hi
            · show R1.2.1 3 i = _
              rw [g3 3 (by decide), hcS i]
              show upd (R.2.1 3) (nI b).toNatClampNeg (nI n) i = _
              rw [nI_clamp (by omega)]
              unfold upd
              by_cases z : i = b
              · rw [if_pos z, if_pos z]; rfl
              · rw [if_neg z, if_neg z]; exact hR.2.2.1 i hi
            · show R1.1 4 = _
              rw [g2, hc']; exact hR.2.2.2.2.1
            · show R1.2.1 6 i = _
              rw [g3 6 (by decide)]
              rw [hc'] at hi ⊢
              exact hR.2.2.2.2.2.1 i hi
            · show R1.1 5 = _
              rw [g2, hc']; exact hR.2.2.2.2.2.2
          refine rel_changed (b := b) hX hw' a2 hOR a3 a4 a5 a6 a8 rfl ?_ ?_ (by rw [hc']) (by rw [hc']) (fun i hi => ?_) hS hT hH hG hP hL.1
          · intro j hj
            rcases hj with rfl | rfl | rfl | rfl | rfl <;> exact congrFun g2 _
          · intro j hj
            rcases hj with rfl | rfl | rfl <;> exact g3 _ (by decide)
          · rw [a7, b3 9 (by decide), hcS i]
            show upd (D.2.1 9) (nI b).toNatClampNeg (nI t) i = if (if i = b then some n else cS c i) = none then -1 else R1.2.1 2 i
            rw [g3 2 (by decide)]
            show _ = if (if i = b then some n else cS c i) = none then -1 else upd (R.2.1 2) (nI b).toNatClampNeg (nI t) i
            rw [nI_clamp (by omega)]
            unfold upd
            by_cases z : i = b
            · rw [if_pos z, if_pos z, if_pos z, if_neg (show ¬ (some n : Option Nat) = none from Option.some_ne_none n)]
            · rw [if_neg z, if_neg z, if_neg z]; exact hT.1 i hi
      · exact ⟨-13, D, R, if_neg n0, if_neg n0, hRel, kp_of rfl⟩
    · exact ⟨-2, D, R, if_neg n4, if_neg n4, hRel, kp_of rfl⟩
  · have hsn : ¬ nI s = 0 := fun z => hs0 (nI_inj (b := 0) (Nat.lt_trans hf.1 (by decide)) (by decide) z)
    exact ⟨-2, D, R, by rw [if_neg (show ¬ (s, f, 0).1 = 0 from hs0), if_neg one_ne_zero], by rw [if_neg hsn], hRel, kp_of rfl⟩
