/-! ===== flip, named, of ===== -/
theorem nar_bool {x : Int32} (h : isB x) : vp_nar .boolean x = x := by rcases h with h | h <;> subst h <;> rfl
theorem byte_flip {x : Int32} (h : isB x) : vp_nar .byte ((x ^^^ 1).toInt8.toInt32) = if x = 0 then 1 else 0 := by rcases h with h | h <;> subst h <;> decide
theorem ct_flip {f : Nat → Int32} {k : Nat} {v : Int32} (hk : k < 4096) : fb_ct (fun j => decide (upd f k v j = 1)) 4096 + (if f k = 1 then 1 else 0) = fb_ct (fun j => decide (f j = 1)) 4096 + (if v = 1 then 1 else 0) := by
  have h := fb_ct_upd (fun j => decide (f j = 1)) (decide (v = 1)) (i := k) (n := 4096) hk
  have e : fb_ct (fun j => decide (upd f k v j = 1)) 4096 = fb_ct (fun j => if j = k then decide (v = 1) else decide (f j = 1)) 4096 := by
    refine fb_ct_cong (fun j _ => ?_)
    unfold upd
    by_cases hj : j = k
    · rw [if_pos hj, if_pos hj]
    · rw [if_neg hj, if_neg hj]
  rw [e]
  simpa using h
theorem d_turn {D : Mm} {k n : Nat} (hk : k < 4096) (hB : isB (D.2.1 23 k)) (h17 : D.1 17 = nI n) (hn : n < 5000) (hpos : D.2.1 23 k = 1 → 1 ≤ n) : f_X2_turn (nI k) D = some (if D.2.1 23 k = 0 then 1 else 0, sI (sA D 23 (nI k) (if D.2.1 23 k = 0 then 1 else 0)) 17 (nI (if D.2.1 23 k = 0 then n + 1 else n - 1))) := by
  have hin : inb (nI k) 4096 := (inb_nI (by omega)).mpr hk
  unfold f_X2_turn
  have g0 : gA D 23 (nI k) = D.2.1 23 k := gA_nI (by omega)
  rw [g0, byte_flip hB, if_pos hin, if_pos hin, if_pos hin]
  have g1 : ∀ v : Int32, gA (sA D 23 (nI k) v) 23 (nI k) = v := fun v => by
    show upd (D.2.1 23) (nI k).toNatClampNeg v (nI k).toNatClampNeg = v
    unfold upd
    rw [if_pos rfl]
  have g2 : ∀ v w : Int32, gA (sI (sA D 23 (nI k) v) 17 w) 23 (nI k) = v := fun v w => g1 v
  rw [g1]
  rcases hB with h | h
  · rw [h]
    simp only [if_true]
    rw [if_pos hin, g2, show gI (sA D 23 (nI k) 1) 17 + (1 : Int32) = nI (n + 1) from (congrArg (fun z : Int32 => z + 1) h17).trans (nI_1 n)]
  · rw [h]
    simp only [if_neg one_ne_zero]
    rw [if_neg (show ¬ (0 : Int32) = 1 by decide), if_pos hin, g2]
    rw [show gI (sA D 23 (nI k) 0) 17 + (-1 : Int32) = nI (n - 1) from (congrArg (fun z : Int32 => z + (-1)) h17).trans (by
      have := nI_sub (a := n) (b := 1) (hpos h) (by omega)
      rw [← this, Int32.sub_eq_add_neg]; rfl)]
theorem q_flip {XC : Cfg → PT → Prop} {N : Nat} : Q_flip N (Rel XC) := by
  intro p1 D R hRel
  obtain ⟨c, hA, hS, hT, hH, hG, hP, hL⟩ := id hRel
  unfold f_X6_flip f_X6_isRowBit f_X7_flip
  by_cases hn : p1 < 0
  · exact ⟨-2, D, R, by rw [if_pos hn]; rfl, by rw [if_pos hn], hRel, kp_of rfl⟩
  · obtain ⟨j, hj, rfl⟩ := nI_of hn
    by_cases hjk : j < 4096
    · have hin : inb (nI j) 4096 := (inb_nI hj).mpr hjk
      obtain ⟨e1, e2⟩ := hP.1 j hjk
      have hle := fb_ct_le (fun k => decide (R.2.1 7 k = 1)) 4096
      have hpos : D.2.1 23 j = 1 → 1 ≤ fb_ct (fun k => decide (R.2.1 7 k = 1)) 4096 := fun z => fb_ct_pos.mpr ⟨j, hjk, by rw [← e1, z]; rfl⟩
      have key : ∀ v : Int32, isB v → v = (if R.2.1 7 j = 0 then 1 else 0) → f_X7_flip_33 (nI j) (nI j) v R = some (v, sA R 7 (nI j) v) := by
        intro v hv hv2
        unfold f_X7_flip_33
        rw [nar_bool hv, if_pos hin, if_pos hin]
        have g1 : gA (sA R 7 (nI j) v) 7 (nI j) = v := by
          show upd (R.2.1 7) (nI j).toNatClampNeg v (nI j).toNatClampNeg = v
          unfold upd
          rw [if_pos rfl]
        rw [g1]
        rcases hv with h | h <;> subst h <;> rfl
      have hvB : isB (if R.2.1 7 j = 0 then (1 : Int32) else 0) := by
        split
        · exact Or.inr rfl
        · exact Or.inl rfl
      refine ⟨if R.2.1 7 j = 0 then 1 else 0, sI (sA D 23 (nI j) (if R.2.1 7 j = 0 then 1 else 0)) 17 (nI (if R.2.1 7 j = 0 then fb_ct (fun k => decide (R.2.1 7 k = 1)) 4096 + 1 else fb_ct (fun k => decide (R.2.1 7 k = 1)) 4096 - 1)), sA R 7 (nI j) (if R.2.1 7 j = 0 then 1 else 0), ?_, ?_, ?_, kp_of rfl⟩
      · rw [if_neg hn, if_neg (show ¬ (4096 : Int32) ≤ nI j from nI_ge (b := 4096) hjk (by decide)), bd_some, if_neg one_ne_zero, d_turn hjk (by rw [e1]; exact e2) hP.2.1 (by omega) hpos, bd2_some, e1]
      · rw [if_neg hn, if_pos (show nI j < (4096 : Int32) from nI_lt (b := 4096) hjk (by decide)), if_pos hin, gA_nI hj]
        by_cases z : R.2.1 7 j = 0
        · rw [if_pos z, if_pos z]
          exact key 1 (Or.inr rfl) (by rw [if_pos z])
        · rw [if_neg z, if_neg z]
          exact key 0 (Or.inl rfl) (by rw [if_neg z])
      · refine ⟨c, hA, hS, hT, hH, hG, ⟨fun k hk => ?_, ?_, hP.2.2⟩, hL⟩
        · show upd (D.2.1 23) (nI j).toNatClampNeg _ k = upd (R.2.1 7) (nI j).toNatClampNeg _ k ∧ isB (upd (R.2.1 7) (nI j).toNatClampNeg _ k)
          unfold upd
          by_cases hq : k = (nI j).toNatClampNeg
          · rw [if_pos hq, if_pos hq]
            exact ⟨rfl, hvB⟩
          · rw [if_neg hq, if_neg hq]
            exact hP.1 k hk
        · show nI (if R.2.1 7 j = 0 then _ else _) = nI (fb_ct (fun k => decide (upd (R.2.1 7) (nI j).toNatClampNeg (if R.2.1 7 j = 0 then 1 else 0) k = 1)) 4096)
          rw [nI_clamp hj]
          congr 1
          have h := ct_flip (f := R.2.1 7) (v := if R.2.1 7 j = 0 then 1 else 0) hjk
          rcases e2 with z | z
          · rw [z] at h ⊢
            simp only [if_true] at h ⊢
            rw [if_neg (show ¬ (0 : Int32) = 1 by decide)] at h
            omega
          · rw [z] at h ⊢
            simp only [if_neg one_ne_zero] at h ⊢
            rw [if_pos trivial, if_neg (show ¬ (0 : Int32) = 1 by decide)] at h
            omega
    · refine ⟨-2, D, R, ?_, ?_, hRel, kp_of rfl⟩
      · rw [if_neg hn, if_pos (show (4096 : Int32) ≤ nI j from nI_le (a := 4096) (by omega) hj), bd_some]; rfl
      · rw [if_neg hn, if_neg (show ¬ nI j < (4096 : Int32) from nI_nlt (b := 4096) (by omega) hj)]
theorem place_eq {b i : Nat} : nI b * (4 : Int32) + nI i = nI (4 * b + i) := by
  rw [show (4 : Int32) = nI 4 from rfl, nI_mul, nI_add, Nat.mul_comm]
theorem d_has {c : Cfg} {D : Mm} (hw : Wf c) (h : OkD c D) {b : Nat} (hb : b < 9) : f_X3_has D (nI b) = some (if cS c b = none then 0 else 1) := by
  unfold f_X3_has
  rw [if_pos ((inb_nI (by omega)).mpr hb), gA_nI (by omega), h.2.2.1 b hb]
  cases hs : cS c b with
  | none => rfl
  | some k =>
    have := (hw.2.2.2.1 b k hs).1
    rw [oI_some, if_neg (nI_ne_m1 (by omega))]
    rfl
theorem q_named {XC : Cfg → PT → Prop} {N : Nat} : Q_named N (Rel XC) := by
  intro p1 p2 p3 D R hRel
  obtain ⟨c, ⟨hw, hD, hR⟩, hS, hT, hH, hG, hP, hL⟩ := id hRel
  have hnb := hw.1
  unfold f_X6_named f_X7_named
  rcases bath_cases (x := p1) hw.1 with q | ⟨b, hb, rfl⟩
  · exact ⟨-2, by rw [d_isBath_no hD q]; rfl, by rw [m_isBath_no hR q]; rfl⟩
  have hin : inb (nI b) 9 := (inb_nI (by omega)).mpr (by omega)
  rw [d_isBath_yes hw hD hb, bd_some, if_neg one_ne_zero, m_isBath_yes hw hR hb, bd_some, if_neg one_ne_zero]
  unfold f_X6_isType
  by_cases t1 : p2 < 0
  · exact ⟨-2, by rw [if_pos t1]; rfl, by rw [if_pos t1]⟩
  rw [if_neg t1, if_neg t1]
  obtain ⟨t, ht, rfl⟩ := nI_of t1
  by_cases t2 : 3 ≤ t
  · refine ⟨-2, ?_, ?_⟩
    · rw [if_pos (show (3 : Int32) ≤ nI t from nI_le (a := 3) t2 ht)]; rfl
    · rw [if_neg (show ¬ nI t ≤ (2 : Int32) from nI_ge (a := 2) (by omega) ht)]
  rw [if_neg (show ¬ (3 : Int32) ≤ nI t from nI_ge (b := 3) (by omega) (by decide)), bd_some, if_neg one_ne_zero, if_pos (show nI t ≤ (2 : Int32) from nI_le (b := 2) (by omega) (by decide)), d_has hw hD (by omega), bd_some, if_pos hin, gA_nI (M := D) (by omega), gA_nI (M := R) (j := 3) (by omega), hR.2.2.1 b (by omega), hT.1 b (by omega)]
  cases hs : cS c b with
  | none => exact ⟨-10, rfl, by rw [if_pos hin, if_neg (show ¬ (0 : Int32) ≤ oI none by decide)]⟩
  | some k =>
    have hk := (hw.2.2.2.1 b k hs).1
    rw [if_neg (show ¬ (some k : Option Nat) = none from Option.some_ne_none k), if_neg one_ne_zero, if_pos hin, oI_some, if_pos (nI_pos' (by omega)), if_pos hin, if_neg (show ¬ (some k : Option Nat) = none from Option.some_ne_none k), gA_nI (M := R) (j := 2) (by omega)]
    by_cases hty : R.2.1 2 b = nI t
    · rw [if_pos hty, if_pos hty]
      unfold f_X3_hasPlace
      by_cases i1 : p3 < 0
      · exact ⟨-11, by rw [if_pos i1]; rfl, by rw [if_pos i1]⟩
      rw [if_neg i1, if_neg i1, if_pos hin, if_pos hin, gA_nI (M := D) (by omega), hD.2.2.1 b (by omega), hs, oI_some]
      obtain ⟨i, hi, rfl⟩ := nI_of i1
      by_cases i2 : i < k
      · rw [if_neg (nI_ge i2 (by omega)), bd_some, if_neg one_ne_zero, if_pos (nI_lt i2 (by omega)), nI_place]
        unfold f_X3_nameAt
        rw [place_eq, if_pos ((inb_nI (by omega)).mpr (by omega)), gA_nI (M := D) (by omega), hD.2.2.2.1 b i (by omega) (by omega), bd_some]
        exact ⟨oI (cP c b i), rfl, by rw [if_pos ((inb_nI (by omega)).mpr (by omega)), gA_nI (M := R) (by omega), hR.2.2.2.1 b i (by omega) (by omega)]⟩
      · exact ⟨-11, by rw [if_pos (nI_le (by omega) hi)]; rfl, by rw [if_neg (nI_nlt (by omega) hi)]⟩
    · exact ⟨-12, if_neg hty, if_neg hty⟩
theorem d_kind {c : Cfg} {D : Mm} (h : OkD c D) {b : Nat} (hb : b < 9) : gA D 11 (nI b) = nI (cK c b) := by rw [gA_nI (by omega), h.2.1 b hb]
theorem m_kind {c : Cfg} {R : Mm} (h : OkR c R) {b : Nat} (hb : b < 9) : gA R 1 (nI b) = nI (cK c b) := by rw [gA_nI (by omega), h.2.1 b hb]
theorem worth_ok : ∀ k, k ≤ 4 → some (wth (nI k)) = (if nI k = 1 then some (3 : Int32) else if nI k = 4 then some 3 else if nI k = 2 then some 2 else if nI k = 3 then some 4 else some 1) := by
  intro k hk
  match k, hk with
  | 0, _ => decide
  | 1, _ => decide
  | 2, _ => decide
  | 3, _ => decide
  | 4, _ => decide
  | k + 5, h => omega
theorem fill_one {c : Cfg} {s f b : Nat} (hb : b < 9) : fb_sm (fillN c (s &&& 2 ^ b) f) 9 = fillN c s f b := by
  have h := fb_sm_upd (fun _ => 0) (fillN c s f b) (i := b) (n := 9) hb
  have h0 : fb_sm (fun _ => 0) 9 = 0 := rfl
  rw [h0] at h
  have e : fb_sm (fillN c (s &&& 2 ^ b) f) 9 = fb_sm (fun k => if k = b then fillN c s f b else (fun _ => 0) k) 9 := by
    refine fb_sm_cong (fun k _ => ?_)
    unfold fillN
    rw [Nat.testBit_and, Nat.testBit_two_pow]
    by_cases hk : k = b
    · subst hk; simp
    · have : ¬ b = k := fun z => hk z.symm
      simp [hk, this]
  have h' : fb_sm (fun k => if k = b then fillN c s f b else (fun _ => 0) k) 9 + 0 = 0 + fillN c s f b := h
  omega
theorem q_of {XC : Cfg → PT → Prop} {N : Nat} : Q_of N (Rel XC) := by
  intro p1 p2 D R hRel
  obtain ⟨c, ⟨hw, hD, hR⟩, ⟨s, f, vt, hv, h1, h2, e1, e2, e3, e4, e5⟩, hT, hH, hG, hP, hL⟩ := id hRel
  have hf := hv.fit hw
  have hnb := hw.1
  unfold f_X6_of f_X7_of
  rcases bath_cases (x := p1) hw.1 with q | ⟨b, hb, rfl⟩
  · exact ⟨-2, by rw [d_isBath_no hD q]; rfl, by rw [m_isBath_no hR q]; rfl⟩
  have hb9 : b < 9 := by omega
  have hin : inb (nI b) 9 := (inb_nI (by omega)).mpr hb9
  rw [d_isBath_yes hw hD hb, bd_some, if_neg one_ne_zero, m_isBath_yes hw hR hb, bd_some, if_neg one_ne_zero]
  by_cases w0 : p2 = 0
  · exact ⟨nI (cK c b), by rw [if_pos w0, if_pos hin, d_kind hD hb9], by rw [if_pos w0, if_pos hin, m_kind hR hb9]⟩
  rw [if_neg w0, if_neg w0]
  by_cases w1 : p2 = 1
  · refine ⟨if s.testBit b = true then 1 else 0, ?_, ?_⟩
    · rw [if_pos w1, show gI D 1 = _ from e1, d_stands hf hb9, bd_some, if10]
      show (if s.testBit b = true then some (1 : Int32) else some 0) = _
      split <;> rfl
    · rw [if_pos w1, show gI R 2 = _ from e2, m_has (Nat.lt_trans hf.1 (by decide)) (by omega), bd_some, if10]
      split <;> rfl
  rw [if_neg w1, if_neg w1]
  by_cases w2 : p2 = 2
  · refine ⟨nI (fillN c s f b), ?_, ?_⟩
    · have hz : encD (s, f, 0) &&& 2 ^ b = s &&& 2 ^ b := by
        refine nat_ext (fun i => ?_)
        rw [Nat.testBit_and, Nat.testBit_and, Nat.testBit_two_pow]
        by_cases hi : b = i
        · subst hi; rw [encD_bit hf, if_pos hb9]
        · simp [hi]
      have hlt : s &&& 2 ^ b < 512 := Nat.lt_of_le_of_lt Nat.and_le_left hf.1
      rw [if_pos w2, show gI D 1 = _ from e1, nI_shl1 b (by omega), fa_and, hz, d_filledBy hD hf hlt, bd_some]
      show some (nI (fb_sm (fillN c (s &&& 2 ^ b) f) 9)) = _
      rw [fill_one hb9]
    · rw [if_pos w2, show gI R 2 = _ from e2, show gI R 3 = _ from e3, m_fills hw hR (Nat.lt_trans hf.1 (by decide)) (Nat.lt_trans hf.2.1 (by decide)) hb9, bd_some]
  rw [if_neg w2, if_neg w2]
  by_cases w3 : p2 = 3
  · exact ⟨oI (cS c b), by rw [if_pos w3, if_pos hin, gA_nI (by omega), hD.2.2.1 b hb9], by rw [if_pos w3, if_pos hin, gA_nI (by omega), hR.2.2.1 b hb9]⟩
  rw [if_neg w3, if_neg w3]
  by_cases w4 : p2 = 4
  · refine ⟨if cS c b = none then -1 else R.2.1 2 b, by rw [if_pos w4, if_pos hin, gA_nI (by omega), hT.1 b hb9], ?_⟩
    rw [if_pos w4, if_pos hin, gA_nI (by omega), hR.2.2.1 b hb9]
    cases hs : cS c b with
    | none => rfl
    | some k =>
      have hk := (hw.2.2.2.1 b k hs).1
      rw [oI_some, if_pos (nI_pos' (by omega)), if_pos hin, gA_nI (by omega), if_neg (show ¬ (some k : Option Nat) = none from Option.some_ne_none k)]
  rw [if_neg w4, if_neg w4]
  by_cases w5 : p2 = 5
  · exact ⟨R.2.1 5 b, by rw [if_pos w5, if_pos hin, gA_nI (by omega), hT.2 b hb9], by rw [if_pos w5, if_pos hin, gA_nI (by omega)]⟩
  rw [if_neg w5, if_neg w5]
  by_cases w6 : p2 = 6
  · have hk4 := hw.2.1 b
    refine ⟨wth (nI (cK c b)), ?_, ?_⟩
    · rw [if_pos w6, if_pos hin, d_kind hD hb9, if_pos ((inb_nI (by omega)).mpr (by omega))]
    · rw [if_pos w6, m_kind hR hb9, if_pos hin, if_pos hin, if_pos hin, if_pos hin]
      exact (worth_ok _ hk4).symm
  · exact ⟨-2, if_neg w6, if_neg w6⟩
