/-! ===== states that make sense stay so; make, pour, undo ===== -/
theorem Vs_made {c : Cfg} {s f b h h' : Nat} (hv : Vs c (s, f, h)) (hb : b < cN c) (hb9 : b < 9) (hh : h' < 2 ^ cG c) : Vs c (madeS c s b, madeF c b, h') := by
  refine ⟨Nat.or_lt_two_pow (dl_lt hv.1) (Nat.pow_lt_pow_right (by decide) hb), ?_, hh⟩
  show madeF c b = 0 ∨ (madeF c b ≤ 9 ∧ 0 < madeF c b ∧ (madeS c s b).testBit (madeF c b - 1) = true ∧ cK c (madeF c b - 1) = 4)
  unfold madeF
  by_cases h4 : cK c b = 4
  · rw [if_pos h4]
    refine Or.inr ⟨by omega, by omega, ?_, h4⟩
    unfold madeS
    rw [Nat.testBit_or, show b + 1 - 1 = b by omega, Nat.testBit_two_pow]
    simp
  · rw [if_neg h4]
    exact Or.inl rfl
theorem Vs_pour {c : Cfg} {s f b h h' : Nat} (hv : Vs c (s, f, h)) (hh : h' < 2 ^ cG c) : Vs c (dl s (2 ^ b), pourF f b, h') := by
  refine ⟨dl_lt hv.1, ?_, hh⟩
  show pourF f b = 0 ∨ (pourF f b ≤ 9 ∧ 0 < pourF f b ∧ (dl s (2 ^ b)).testBit (pourF f b - 1) = true ∧ cK c (pourF f b - 1) = 4)
  unfold pourF
  by_cases hf : f = b + 1
  · rw [if_pos hf]
    exact Or.inl rfl
  · rw [if_neg hf]
    rcases hv.2.1 with q | ⟨q1, q2, q3, q4⟩
    · exact Or.inl q
    · refine Or.inr ⟨q1, q2, ?_, q4⟩
      rw [dl_bit, q3, Nat.testBit_two_pow]
      have q2 : 0 < f := q2
      have : ¬ b = f - 1 := by omega
      simp [this]
theorem stoodN_lt {c : Cfg} {h s : Nat} (hh : h < 2 ^ cG c) : stoodN c h s < 2 ^ cG c := by
  unfold stoodN
  split
  · exact hh
  · exact Nat.or_lt_two_pow hh (bm_lt _ _)
theorem Vs_next {c : Cfg} {v a : Nat} {x y : St} (hv : Vs c x) (h : nextN c v x a = some y) : Vs c y := by
  obtain ⟨s, f, h0⟩ := x
  have hb9 : a % 9 < 9 := Nat.mod_lt _ (by decide)
  unfold nextN at h
  split at h
  · cases h
  · next hn =>
    split at h
    · split at h
      · cases h
        exact Vs_made hv (by omega) hb9 (stoodN_lt hv.2.2)
      · cases h
    · split at h
      · cases h
        exact Vs_pour hv (stoodN_lt hv.2.2)
      · cases h
theorem Vs0 {c : Cfg} : Vs c (0, 0, 0) := ⟨Nat.two_pow_pos _, Or.inl rfl, Nat.two_pow_pos _⟩
theorem q_make {XC : Cfg → PT → Prop} {N : Nat} (hN : 200 ≤ N) : Q_make N (Rel XC) := by
  intro p1 D R hRel
  obtain ⟨c, ⟨hw, hD, hR⟩, ⟨s, f, vt, hv, h1, h2, e1, e2, e3, e4, e5⟩, hT, hH, hG, hP, hL⟩ := id hRel
  have hf := hv.fit hw
  have hnb := hw.1
  unfold f_X6_make f_X7_make
  rcases bath_cases (x := p1) hw.1 with q | ⟨b, hb, rfl⟩
  · exact ⟨-2, D, R, by rw [d_isBath_no hD q]; rfl, by rw [m_isBath_no hR q]; rfl, hRel, kp_of rfl⟩
  rw [d_isBath_yes hw hD hb, bd_some, if_neg one_ne_zero, show gI D 1 = _ from e1, show gI D 0 = _ from e4, d_hindrance hw hD hf (by omega) h2, bd_some, m_isBath_yes hw hR hb, bd_some, if_neg one_ne_zero, show gI R 2 = _ from e2, show gI R 3 = _ from e3, show gI R 1 = _ from e5, m_reason hw hR (by omega) hf.1 hf.2.1 (by omega) h2, bd_some]
  have hr5 := reason_le (c := c) s f b vt
  by_cases hr : reasonN c s f b vt = 0
  · have hS : cS c b ≠ none := by
      intro z
      unfold reasonN at hr
      rw [if_pos z] at hr
      cases hr
    obtain ⟨D1, R1, a1, b1, hH1, a2, a3, a4, b2, b3⟩ := keep_rel (N := N) (mb := some b) hN hH hv (fun _ hq => by cases hq; omega) e1 e2 e3
    rw [e1] at a1
    have hin : inb (nI b) 9 := (inb_nI (by omega)).mpr (by omega)
    have hD1 : OkD c D1 := OkD_of (fun j h1 h2 => a2 j (by omega) (by omega)) (fun j h1 h2 _ => a3 j (by omega) (by omega)) hD
    have hR1 : OkR c R1 := OkR_of (b2 0 (by decide)) (b2 4 (by decide)) (b2 5 (by decide)) (fun j hj => b3 j (by omega) (by omega) (by omega)) hR
    have e1' : D1.1 1 = nI (encD (s, f, 0)) := (a2 1 (by decide) (by decide)).trans e1
    have e2' : R1.1 2 = nI s := (b2 2 (by decide)).trans e2
    have e3' : R1.1 3 = nI f := (b2 3 (by decide)).trans e3
    have hv2 : Vs c (madeS c s b, madeF c b, 0) := Vs_made hv hb (by omega) hv.2.2
    have hf2 := hv2.fit hw
    have t7 : D1.2.1 7 = D.2.1 7 := a3 7 (by decide) (by decide)
    have t5 : R1.2.1 5 = R.2.1 5 := b3 5 (by decide) (by decide) (by decide)
    refine ⟨nI vt - nI (fb_sm (fillN c (madeS c s b) (madeF c b)) 9), sI (sA D1 7 (nI b) (gA D1 7 (nI b) + 1)) 1 (nI (encD (madeS c s b, madeF c b, 0))), sA (sI (sI R1 2 (nI (madeS c s b))) 3 (nI (madeF c b))) 5 (nI b) (gA (sI (sI R1 2 (nI (madeS c s b))) 3 (nI (madeF c b))) 5 (nI b) + 1), ?_, ?_, ?_, kp_of a4⟩
    · have hDa : OkD c (sA D1 7 (nI b) (gA D1 7 (nI b) + 1)) := hD1
      have hDb : OkD c (sI (sA D1 7 (nI b) (gA D1 7 (nI b) + 1)) 1 (nI (encD (madeS c s b, madeF c b, 0)))) := hD1
      rw [if_pos (by rw [show reasonN c (s, f, 0).1 (s, f, 0).2.1 b vt = 0 from hr]; rfl)]
      rw [show f_X0_keep (nI (encD (s, f, 0))) (nI b) D = some D1 from a1, bd_some, if_pos hin, if_pos hin, show gI (sA D1 7 (nI b) (gA D1 7 (nI b) + 1)) 1 = _ from e1', d_whenMade hw hDa hf (by omega), bd_some, d_free (x := (madeS c s b, madeF c b, 0)) hDb hf2 rfl, bd_some]
      rw [show (sI (sA D1 7 (nI b) (gA D1 7 (nI b) + 1)) 1 (nI (encD (madeS c s b, madeF c b, 0)))).1 0 = nI vt from (a2 0 (by decide) (by decide)).trans e4]
    · rw [if_pos (by rw [hr]; rfl), show f_X7_keep N (nI b) R = some R1 from b1, bd_some, show gI R1 2 = _ from e2', m_standsBehind hw hR1 (by omega) (by omega) hS, bd_some]
      have hR2 : OkR c (sI R1 2 (nI (madeS c s b))) := hR1
      rw [m_freshBehind hw hR2 (by omega), bd_some, if_pos hin, if_pos hin]
      have hR3 : OkR c (sA (sI (sI R1 2 (nI (madeS c s b))) 3 (nI (madeF c b))) 5 (nI b) (gA (sI (sI R1 2 (nI (madeS c s b))) 3 (nI (madeF c b))) 5 (nI b) + 1)) := hR1
      rw [m_free hw hR3 (by omega) hf2.1 hf2.2.1 rfl rfl, bd_some]
      rw [show (sA (sI (sI R1 2 (nI (madeS c s b))) 3 (nI (madeF c b))) 5 (nI b) (gA (sI (sI R1 2 (nI (madeS c s b))) 3 (nI (madeF c b))) 5 (nI b) + 1)).1 1 = nI vt from (b2 1 (by decide)).trans e5]
    · refine ⟨c, ⟨hw, hD1, hR1⟩, ⟨madeS c s b, madeF c b, vt, hv2, h1, h2, rfl, rfl, rfl, (a2 0 (by decide) (by decide)).trans e4, (b2 1 (by decide)).trans e5⟩, ⟨?_, ?_⟩, hH1, RelG_of (a2 10 (by decide) (by decide)) (a3 15 (by decide) (by decide)) (b2 7 (by decide)) (b3 11 (by decide) (by decide) (by decide)) hG, RelP_of (a2 17 (by decide) (by decide)) (a2 18 (by decide) (by decide)) (a3 23 (by decide) (by decide)) (b2 8 (by decide)) (b3 7 (by decide) (by decide) (by decide)) hP, ?_, ?_⟩
      · intro i hi
        show D1.2.1 9 i = if cS c i = none then -1 else R1.2.1 2 i
        rw [a3 9 (by decide) (by decide), b3 2 (by decide) (by decide) (by decide)]
        exact hT.1 i hi
      · intro i hi
        show upd (D1.2.1 7) (nI b).toNatClampNeg (D1.2.1 7 (nI b).toNatClampNeg + 1) i = upd (R1.2.1 5) (nI b).toNatClampNeg (R1.2.1 5 (nI b).toNatClampNeg + 1) i
        rw [t7, t5, nI_clamp (by omega)]
        unfold upd
        by_cases hib : i = b
        · rw [if_pos hib, if_pos hib, hT.2 b (by omega)]
        · rw [if_neg hib, if_neg hib]
          exact hT.2 i hi
      · exact a4 ▸ hL.1
      · have : pt (sI (sA D1 7 (nI b) (gA D1 7 (nI b) + 1)) 1 (nI (encD (madeS c s b, madeF c b, 0)))) = pt D := pt_of (D1 := D1) (fun j hj => a2 j (by omega) (by omega)) (fun j h1 h2 => a3 j (by omega) (by omega)) a4
        rw [this]
        exact hL.2
  · have hr2 : ¬ nI (reasonN c s f b vt) = 0 := fun z => hr (nI_inj (b := 0) (by omega) (by decide) z)
    exact ⟨-2, D, R, if_neg hr2, if_neg hr2, hRel, kp_of rfl⟩
theorem q_pour {XC : Cfg → PT → Prop} {N : Nat} (hN : 200 ≤ N) : Q_pour N (Rel XC) := by
  intro p1 D R hRel
  obtain ⟨c, ⟨hw, hD, hR⟩, ⟨s, f, vt, hv, h1, h2, e1, e2, e3, e4, e5⟩, hT, hH, hG, hP, hL⟩ := id hRel
  have hf := hv.fit hw
  have hnb := hw.1
  unfold f_X6_pour f_X7_pour
  rcases bath_cases (x := p1) hw.1 with q | ⟨b, hb, rfl⟩
  · exact ⟨-2, D, R, by rw [d_isBath_no hD q]; rfl, by rw [m_isBath_no hR q]; rfl, hRel, kp_of rfl⟩
  rw [d_isBath_yes hw hD hb, bd_some, if_neg one_ne_zero, show gI D 1 = _ from e1, d_stands hf (by omega), bd_some, m_isBath_yes hw hR hb, bd_some, if_neg one_ne_zero, show gI R 2 = _ from e2, m_has (Nat.lt_trans hf.1 (by decide)) (by omega), bd_some, if10, if10]
  show ∃ r D' M', (if s.testBit b = true then _ else _) = some (r, D') ∧ _
  by_cases ht : s.testBit b = true
  · obtain ⟨D1, R1, a1, b1, hH1, a2, a3, a4, b2, b3⟩ := keep_rel (N := N) (mb := none) hN hH hv (fun _ hq => by cases hq) e1 e2 e3
    rw [e1] at a1
    have hD1 : OkD c D1 := OkD_of (fun j h1 h2 => a2 j (by omega) (by omega)) (fun j h1 h2 _ => a3 j (by omega) (by omega)) hD
    have hR1 : OkR c R1 := OkR_of (b2 0 (by decide)) (b2 4 (by decide)) (b2 5 (by decide)) (fun j hj => b3 j (by omega) (by omega) (by omega)) hR
    have e1' : D1.1 1 = nI (encD (s, f, 0)) := (a2 1 (by decide) (by decide)).trans e1
    have e2' : R1.1 2 = nI s := (b2 2 (by decide)).trans e2
    have e3' : R1.1 3 = nI f := (b2 3 (by decide)).trans e3
    have hv2 : Vs c (dl s (2 ^ b), pourF f b, 0) := Vs_pour hv hv.2.2
    have hf2 := hv2.fit hw
    refine ⟨nI vt - nI (fb_sm (fillN c (dl s (2 ^ b)) (pourF f b)) 9), sI D1 1 (nI (encD (dl s (2 ^ b), pourF f b, 0))), sI (sI R1 2 (nI (dl s (2 ^ b)))) 3 (nI (pourF f b)), ?_, ?_, ?_, kp_of a4⟩
    · have hDb : OkD c (sI D1 1 (nI (encD (dl s (2 ^ b), pourF f b, 0)))) := hD1
      rw [if_pos ht, show f_X0_keep (nI (encD (s, f, 0))) (-1) D = some D1 from a1, bd_some, show gI D1 1 = _ from e1', d_whenPoured hf (by omega), bd_some, d_free (x := (dl s (2 ^ b), pourF f b, 0)) hDb hf2 rfl, bd_some]
      rw [show (sI D1 1 (nI (encD (dl s (2 ^ b), pourF f b, 0)))).1 0 = nI vt from (a2 0 (by decide) (by decide)).trans e4]
    · rw [if_pos ht, show f_X7_keep N (-1) R = some R1 from b1, bd_some, show gI R1 2 = _ from e2', nI_shl1 b (by omega), nI_andn, show gI (sI R1 2 (nI (dl s (2 ^ b)))) 3 = _ from e3', m_freshPoured (Nat.lt_trans hf.2.1 (by decide)) (by omega), bd_some]
      have hR3 : OkR c (sI (sI R1 2 (nI (dl s (2 ^ b)))) 3 (nI (pourF f b))) := hR1
      rw [m_free hw hR3 (by omega) hf2.1 hf2.2.1 rfl rfl, bd_some]
      rw [show (sI (sI R1 2 (nI (dl s (2 ^ b)))) 3 (nI (pourF f b))).1 1 = nI vt from (b2 1 (by decide)).trans e5]
    · refine ⟨c, ⟨hw, hD1, hR1⟩, ⟨dl s (2 ^ b), pourF f b, vt, hv2, h1, h2, rfl, rfl, rfl, (a2 0 (by decide) (by decide)).trans e4, (b2 1 (by decide)).trans e5⟩, RelT_of (a3 9 (by decide) (by decide)) (a3 7 (by decide) (by decide)) (b3 2 (by decide) (by decide) (by decide)) (b3 5 (by decide) (by decide) (by decide)) hT, hH1, RelG_of (a2 10 (by decide) (by decide)) (a3 15 (by decide) (by decide)) (b2 7 (by decide)) (b3 11 (by decide) (by decide) (by decide)) hG, RelP_of (a2 17 (by decide) (by decide)) (a2 18 (by decide) (by decide)) (a3 23 (by decide) (by decide)) (b2 8 (by decide)) (b3 7 (by decide) (by decide) (by decide)) hP, ?_, ?_⟩
      · exact a4 ▸ hL.1
      · have : pt (sI D1 1 (nI (encD (dl s (2 ^ b), pourF f b, 0)))) = pt D := pt_of (D1 := D1) (fun j hj => a2 j (by omega) (by omega)) (fun j h1 h2 => a3 j (by omega) (by omega)) a4
        rw [this]
        exact hL.2
  · exact ⟨-2, D, R, if_neg ht, if_neg ht, hRel, kp_of rfl⟩
