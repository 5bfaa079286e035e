/-! ===== goal, flip, named, of ===== -/
theorem Option.isSome_iff' {o : Option Nat} : o.isSome = true ↔ o ≠ none := by cases o <;> simp
theorem d_isGoal {c : Cfg} {D : Mm} (hw : Wf c) (h : OkD c D) {b : Nat} (hb : b < 9) : f_X5_isGoal D (nI b) = some (if anyN (fun i => decide (cg c i = b)) (cG c) = true then 1 else 0) := by
  unfold f_X5_isGoal
  have hg : goalM c < 2 ^ 9 := bm_lt _ 9
  have h1 := m_has (s := goalM c) (b := b) (by omega) (by omega)
  unfold f_X7_has at h1
  rw [show gI D 8 = nI (goalM c) from h.2.2.2.2.2.2.2.2.2.2.2.2.1, h1, goalM, bm_bit]
  simp [hb]
theorem q_goal {XC : Cfg → PT → Prop} {N : Nat} (hX : ∀ c t, Outd t → XC c t) (hN : 10 ≤ N) : Q_goal N (Rel XC) := by
  intro p1 D R hRel
  obtain ⟨c, ⟨hw, hD, hR⟩, hS, hT, hH, hG, hP, hL⟩ := id hRel
  have hnb := hw.1
  have hg3 := hw.2.2.2.2.2.1
  have h7 : gI D 7 = nI (cG c) := hD.2.2.2.2.2.2.2.2.2.2.1
  have h4 : gI R 4 = nI (cG c) := hR.2.2.2.2.1
  -- the reference's loop
  have loop : ∀ (n i : Nat) (x2 : Int32), isB x2 → i ≤ cG c → cG c < n + i → ∃ x3, isB x3 ∧ (x3 = 1 ↔ (x2 = 1 ∧ ∀ j, i ≤ j → j < cG c → ¬ nI (cg c j) = p1)) ∧ f_X7_goal_24 N n p1 x2 (nI i) R = (if x3 = 0 then some (-2, R) else (if inb (nI (cG c)) 3 then some (nI (cG c + 1), sI (sA R 6 (nI (cG c)) p1) 4 (nI (cG c + 1))) else none)) := by
    intro n
    induction n with
    | zero => intro i x2 hB h1 h2; omega
    | succ n ih =>
      intro i x2 hB h1 h2
      rw [f_X7_goal_24, h4]
      by_cases hi : i = cG c
      · subst hi
        refine ⟨x2, hB, ⟨fun h => ⟨h, fun j hj hj2 => by omega⟩, fun h => h.1⟩, ?_⟩
        rw [if_pos (nI_le (Nat.le_refl _) (by omega))]
        rw [show gI (sA R 6 (nI (cG c)) p1) 4 + (1 : Int32) = nI (cG c + 1) from (congrArg (fun z : Int32 => z + 1) h4).trans (nI_1 _)]
        rfl
      · rw [if_neg (nI_ge (a := i) (b := cG c) (by omega) (by omega)), if_pos ((inb_nI (by omega)).mpr (by omega)), gA_nI (by omega), hR.2.2.2.2.2.1 i (by omega), nI_1]
        by_cases hz : nI (cg c i) = p1
        · rw [if_pos hz]
          obtain ⟨x3, a1, a2, a3⟩ := ih (i + 1) (x2 &&& 0) (by rcases hB with h | h <;> subst h <;> decide) (by omega) (by omega)
          refine ⟨x3, a1, ?_, a3⟩
          rw [a2]
          constructor
          · rintro ⟨q, -⟩
            rcases hB with h | h <;> subst h <;> exact absurd q (by decide)
          · rintro ⟨-, q⟩
            exact absurd hz (q i (Nat.le_refl i) (by omega))
        · rw [if_neg hz]
          obtain ⟨x3, a1, a2, a3⟩ := ih (i + 1) (x2 &&& 1) (by rcases hB with h | h <;> subst h <;> decide) (by omega) (by omega)
          refine ⟨x3, a1, ?_, a3⟩
          rw [a2]
          have e : x2 &&& 1 = x2 := by rcases hB with h | h <;> subst h <;> decide
          rw [e]
          constructor
          · rintro ⟨q, q2⟩
            refine ⟨q, fun j hj hj2 => ?_⟩
            by_cases hji : j = i
            · subst hji; exact hz
            · exact q2 j (by omega) hj2
          · rintro ⟨q, q2⟩
            exact ⟨q, fun j hj hj2 => q2 j (by omega) hj2⟩
  unfold f_X6_goal f_X7_goal
  have refuse : ∀ x2 : Int32, isB x2 → (x2 = 0 ∨ ∃ j, j < cG c ∧ nI (cg c j) = p1) → f_X7_goal_24 N N p1 x2 0 R = some (-2, R) := by
    intro x2 hB hx
    obtain ⟨x3, a1, a2, a3⟩ := loop N 0 x2 hB (Nat.zero_le _) (by omega)
    have hx3 : x3 = 0 := by
      rcases a1 with h | h
      · exact h
      · have := a2.mp h
        rcases hx with hx | ⟨j, hj, hj2⟩
        · rw [hx] at this; exact absurd this.1 (by decide)
        · exact absurd hj2 (this.2 j (Nat.zero_le _) hj)
    rw [show (0 : Int32) = nI 0 from rfl, a3, if_pos hx3]
  rcases bath_cases (x := p1) hw.1 with q | ⟨b, hb, rfl⟩
  · refine ⟨-2, D, R, by rw [d_isBath_no hD q]; rfl, ?_, hRel, kp_of rfl⟩
    rw [m_isBath_no hR q, bd_some, if_pos rfl]
    exact refuse 0 (Or.inl rfl) (Or.inl rfl)
  rw [d_isBath_yes hw hD hb, bd_some, if_neg one_ne_zero, d_isGoal hw hD (by omega), bd_some, if10, m_isBath_yes hw hR hb, bd_some, if_neg one_ne_zero, h7, h4]
  by_cases hgoal : anyN (fun i => decide (cg c i = b)) (cG c) = true
  · obtain ⟨j, hj, hj2⟩ := (anyN_iff _ _).mp hgoal
    have hjb : cg c j = b := of_decide_eq_true hj2
    refine ⟨-2, D, R, by rw [if_pos hgoal], ?_, hRel, kp_of rfl⟩
    split
    · exact refuse 0 (Or.inl rfl) (Or.inl rfl)
    · exact refuse 1 (Or.inr rfl) (Or.inr ⟨j, hj, by rw [hjb]⟩)
  rw [if_neg hgoal]
  by_cases h3 : cG c = 3
  · refine ⟨-2, D, R, ?_, ?_, hRel, kp_of rfl⟩
    · rw [h3, if_neg (show ¬ nI 3 < (3 : Int32) by decide)]
    · rw [h3, if_pos (show (3 : Int32) ≤ nI 3 by decide)]
      exact refuse 0 (Or.inl rfl) (Or.inl rfl)
  · have hlt : cG c < 3 := by omega
    have hno : ∀ j, j < cG c → ¬ cg c j = b := fun j hj z => hgoal ((anyN_iff _ _).mpr ⟨j, hj, by simp [z]⟩)
    obtain ⟨x3, a1, a2, a3⟩ := loop N 0 1 (Or.inr rfl) (Nat.zero_le _) (by omega)
    have hx3 : x3 = 1 := a2.mpr ⟨rfl, fun j _ hj z => hno j hj (nI_inj (by have := hw.2.2.2.2.2.2.1 j hj; omega) (by omega) z)⟩
    have hin : inb (nI (cG c)) 3 := (inb_nI (by omega)).mpr hlt
    have a3' : f_X7_goal_24 N N (nI b) 1 0 R = some (nI (cG c + 1), sI (sA R 6 (nI (cG c)) (nI b)) 4 (nI (cG c + 1))) := by
      rw [show (0 : Int32) = nI 0 from rfl, a3, if_neg (by rw [hx3]; decide), if_pos hin]
    have gI7 : gI (od D) 7 = nI (cG c) := h7
    refine ⟨nI (cG c + 1), sI (sA (sI (od D) 7 (nI (cG c + 1))) 14 (nI (cG c)) (nI b)) 8 (nI (goalM c) ||| nI (2 ^ b)), sI (sA R 6 (nI (cG c)) (nI b)) 4 (nI (cG c + 1)), ?_, ?_, ?_, kp_of rfl⟩
    · rw [if_pos (show nI (cG c) < (3 : Int32) from nI_lt (b := 3) hlt (by decide)), od_eq, bd_some]
      unfold f_X5_addGoal
      rw [gI7, if_pos hin, nI_1, nI_shl1 b (by omega), show gI (sA (sI (od D) 7 (nI (cG c + 1))) 14 (nI (cG c)) (nI b)) 8 = nI (goalM c) from hD.2.2.2.2.2.2.2.2.2.2.2.2.1, bd2_some]
      rfl
    · rw [if_neg (show ¬ (3 : Int32) ≤ nI (cG c) from nI_ge (b := 3) hlt (by decide))]
      exact a3'
    · refine ⟨(cN c, cK c, cS c, cP c, cG c + 1, fun i => if i = cG c then b else cg c i, cT c), ⟨⟨hw.1, hw.2.1, hw.2.2.1, hw.2.2.2.1, hw.2.2.2.2.1, ?_, ?_, ?_⟩, ⟨hD.1, hD.2.1, hD.2.2.1, hD.2.2.2.1, hD.2.2.2.2.1, hD.2.2.2.2.2.1, hD.2.2.2.2.2.2.1, hD.2.2.2.2.2.2.2.1, hD.2.2.2.2.2.2.2.2.1, hD.2.2.2.2.2.2.2.2.2.1, rfl, ?_, ?_, hD.2.2.2.2.2.2.2.2.2.2.2.2.2⟩, ⟨hR.1, hR.2.1, hR.2.2.1, hR.2.2.2.1, rfl, ?_, hR.2.2.2.2.2.2⟩⟩, RelS_goals (c := c) rfl rfl hS, hT, RelH_goals (c := c) rfl rfl hH, hG, hP, hL.1, hX _ _ (od_out _)⟩
      · show cG c + 1 ≤ 3; omega
      · intro i hi
        show (if i = cG c then b else cg c i) < cN c
        have hi : i < cG c + 1 := hi
        split
        · exact hb
        · exact hw.2.2.2.2.2.2.1 i (by omega)
      · intro i j hi hj hij
        have hi : i < cG c + 1 := hi
        have hj : j < cG c + 1 := hj
        have hij : (if i = cG c then b else cg c i) = (if j = cG c then b else cg c j) := hij
        by_cases q1 : i = cG c
        · by_cases q2 : j = cG c
          · omega
          · rw [if_pos q1, if_neg q2] at hij
            exact absurd hij.symm (hno j (by omega))
        · by_cases q2 : j = cG c
          · rw [if_neg q1, if_pos q2] at hij
            exact absurd hij (hno i (by omega))
          · rw [if_neg q1, if_neg q2] at hij
            exact hw.2.2.2.2.2.2.2 i j (by omega) (by omega) hij
      · intro i hi
        have hi : i < cG c + 1 := hi
        show upd (D.2.1 14) (nI (cG c)).toNatClampNeg (nI b) i = nI (if i = cG c then b else cg c i)
        rw [nI_clamp (by omega)]
        unfold upd
        by_cases q : i = cG c
        · rw [if_pos q, if_pos q]
        · rw [if_neg q, if_neg q]
          exact hD.2.2.2.2.2.2.2.2.2.2.2.1 i (by omega)
      · show nI (goalM c) ||| nI (2 ^ b) = _
        rw [fa_or]
        congr 1
        refine nat_ext (fun o => ?_)
        rw [Nat.testBit_or, goalM, goalM, bm_bit, bm_bit, Nat.testBit_two_pow]
        show _ = (decide (o < 9) && anyN (fun i => decide ((if i = cG c then b else cg c i) = o)) (cG c + 1))
        rw [anyN, if_pos rfl]
        have hcong : anyN (fun i => decide ((if i = cG c then b else cg c i) = o)) (cG c) = anyN (fun i => decide (cg c i = o)) (cG c) := by
          apply Bool.eq_iff_iff.mpr
          rw [anyN_iff, anyN_iff]
          constructor
          · rintro ⟨i, h1, h2⟩
            rw [if_neg (by omega)] at h2
            exact ⟨i, h1, h2⟩
          · rintro ⟨i, h1, h2⟩
            exact ⟨i, h1, by rw [if_neg (by omega)]; exact h2⟩
        rw [hcong]
        by_cases ho : o < 9
        · simp [ho]
        · have : ¬ b = o := by omega
          simp [ho, this]
      · intro i hi
        have hi : i < cG c + 1 := hi
        show upd (R.2.1 6) (nI (cG c)).toNatClampNeg (nI b) i = nI (if i = cG c then b else cg c i)
        rw [nI_clamp (by omega)]
        unfold upd
        by_cases q : i = cG c
        · rw [if_pos q, if_pos q]
        · rw [if_neg q, if_neg q]
          exact hR.2.2.2.2.2.1 i (by omega)
