/-! ===== the relation between the two memories ===== -/
/-- what the planner keeps -/
abbrev PT : Type := Int32 × Int32 × Int32 × Int32 × (Nat → Int32) × (Nat → Int32) × (Nat → Int32) × (Nat → Int32) × Nat × Int32
def pt (D : Mm) : PT := (D.1 13, D.1 14, D.1 15, D.1 16, D.2.1 19, D.2.1 20, D.2.1 21, D.2.1 22, D.2.2, D.1 6)
def RelA (c : Cfg) (D R : Mm) : Prop := Wf c ∧ OkD c D ∧ OkR c R
def RelS (c : Cfg) (D R : Mm) : Prop := ∃ s f vt : Nat, Vs c (s, f, 0) ∧ 1 ≤ vt ∧ vt ≤ 18 ∧ D.1 1 = nI (encD (s, f, 0)) ∧ R.1 2 = nI s ∧ R.1 3 = nI f ∧ D.1 0 = nI vt ∧ R.1 1 = nI vt
def RelT (c : Cfg) (D R : Mm) : Prop := (∀ b, b < 9 → D.2.1 9 b = if cS c b = none then -1 else R.2.1 2 b) ∧ ∀ b, b < 9 → D.2.1 7 b = R.2.1 5 b
def RelH (c : Cfg) (D R : Mm) : Prop := ∃ k nx : Nat, k ≤ 100 ∧ nx < 100 ∧ D.1 11 = nI k ∧ D.1 12 = nI nx ∧ R.1 6 = nI k ∧ ∀ j, j < k → ∃ (s f : Nat) (mb : Option Nat), Vs c (s, f, 0) ∧ (∀ b, mb = some b → b < 9) ∧ D.2.1 17 ((nx + 100 - k + j) % 100) = nI (encD (s, f, 0)) ∧ D.2.1 18 ((nx + 100 - k + j) % 100) = oI mb ∧ R.2.1 8 j = nI s ∧ R.2.1 9 j = nI f ∧ R.2.1 10 j = oI mb
def RelG (D R : Mm) : Prop := ∃ k : Nat, k ≤ 9 ∧ D.1 10 = nI k ∧ R.1 7 = nI k ∧ ∀ j, j < k → D.2.1 15 j = R.2.1 11 j
def RelP (D R : Mm) : Prop := (∀ k, k < 4096 → D.2.1 23 k = R.2.1 7 k ∧ isB (R.2.1 7 k)) ∧ D.1 17 = nI (fb_ct (fun k => decide (R.2.1 7 k = 1)) 4096) ∧ D.1 18 = R.1 8
def Rel (XC : Cfg → PT → Prop) (D R : Mm) : Prop := ∃ c : Cfg, RelA c D R ∧ RelS c D R ∧ RelT c D R ∧ RelH c D R ∧ RelG D R ∧ RelP D R ∧ (D.2.2 = 4096 ∨ D.2.2 = 40960) ∧ XC c (pt D)
theorem Vs.fit {c : Cfg} (hw : Wf c) {x : St} (h : Vs c x) : Fit x := by
  refine ⟨Nat.lt_of_lt_of_le h.1 (pow_le_512 hw.1), ?_, Nat.lt_of_lt_of_le h.2.2 (pow_le_8 hw.2.2.2.2.2.1)⟩
  rcases h.2.1 with q | q <;> omega
theorem bath_cases {x : Int32} {nb : Nat} (hn : nb ≤ 9) : (x < 0 ∨ (¬ x < 0 ∧ nI nb ≤ x)) ∨ ∃ b, b < nb ∧ x = nI b := by
  by_cases h : x < 0
  · exact Or.inl (Or.inl h)
  · obtain ⟨j, hj, rfl⟩ := nI_of h
    by_cases h2 : j < nb
    · exact Or.inr ⟨j, h2, rfl⟩
    · exact Or.inl (Or.inr ⟨h, nI_le (by omega) hj⟩)
section RB
variable {c : Cfg} {D R : Mm} {x : Int32}
theorem d_isBath_no (h : OkD c D) (hx : x < 0 ∨ (¬ x < 0 ∧ nI (cN c) ≤ x)) : f_X5_isBath D x = some 0 := by
  unfold f_X5_isBath
  rw [show gI D 2 = nI (cN c) from h.1]
  rcases hx with q | ⟨q, q2⟩
  · rw [if_pos q]
  · rw [if_neg q, if_pos q2]
theorem m_isBath_no (h : OkR c R) (hx : x < 0 ∨ (¬ x < 0 ∧ nI (cN c) ≤ x)) : f_X7_isBath R x = some 0 := by
  unfold f_X7_isBath
  rw [show gI R 0 = nI (cN c) from h.1]
  rcases hx with q | ⟨q, q2⟩
  · rw [if_pos q]
  · rw [if_neg q, if_pos q2]
theorem d_isBath_yes (hw : Wf c) (h : OkD c D) {b : Nat} (hb : b < cN c) : f_X5_isBath D (nI b) = some 1 := by
  have := hw.1
  unfold f_X5_isBath
  rw [show gI D 2 = nI (cN c) from h.1, if_neg (nI_pos (by omega)), if_neg (nI_ge hb (by omega))]
theorem m_isBath_yes (hw : Wf c) (h : OkR c R) {b : Nat} (hb : b < cN c) : f_X7_isBath R (nI b) = some 1 := by
  have := hw.1
  unfold f_X7_isBath
  rw [show gI R 0 = nI (cN c) from h.1, if_neg (nI_pos (by omega)), if_neg (nI_ge hb (by omega))]
end RB
theorem one_ne_zero : ¬ (1 : Int32) = 0 := by decide
/-! reads -/
theorem q_ring {XC : Cfg → PT → Prop} {N : Nat} : Q_ring N (Rel XC) := by
  intro p1 D R ⟨c, hA, hS, hT, hH, ⟨k, hk, h1, h2, h3⟩, hP⟩
  unfold f_X6_ring f_X7_ring
  rw [show gI D 10 = nI k from h1, show gI R 7 = nI k from h2]
  by_cases hn : p1 < 0
  · exact ⟨-1, by rw [if_pos hn], by rw [if_pos hn]⟩
  · obtain ⟨j, hj, rfl⟩ := nI_of hn
    by_cases hjk : j < k
    · have hin : inb (nI j) 9 := (inb_nI hj).mpr (by omega)
      refine ⟨R.2.1 11 j, ?_, ?_⟩
      · rw [if_neg hn, if_pos (nI_lt hjk (by omega)), if_pos hin, gA_nI hj, h3 j hjk]
      · rw [if_neg hn, if_pos (nI_lt hjk (by omega)), if_pos hin, gA_nI hj]
    · refine ⟨-1, ?_, ?_⟩
      · rw [if_neg hn, if_neg (nI_nlt (by omega) hj)]
      · rw [if_neg hn, if_neg (nI_nlt (by omega) hj)]
theorem q_where {XC : Cfg → PT → Prop} {N : Nat} : Q_where N (Rel XC) := by
  intro D R ⟨c, hA, hS, hT, hH, hG, hP, hL⟩
  exact ⟨R.1 8, congrArg some hP.2.2, rfl⟩
theorem q_bit {XC : Cfg → PT → Prop} {N : Nat} : Q_bit N (Rel XC) := by
  intro p1 D R ⟨c, hA, hS, hT, hH, hG, hP, hL⟩
  unfold f_X6_bit f_X6_isRowBit f_X7_bit
  by_cases hn : p1 < 0
  · exact ⟨-2, by rw [if_pos hn]; rfl, by rw [if_pos hn]⟩
  · obtain ⟨j, hj, rfl⟩ := nI_of hn
    by_cases hjk : j < 4096
    · have hin : inb (nI j) 4096 := (inb_nI hj).mpr hjk
      obtain ⟨e1, e2⟩ := hP.1 j hjk
      refine ⟨R.2.1 7 j, ?_, ?_⟩
      · rw [if_neg hn, if_neg (show ¬ (4096 : Int32) ≤ nI j from nI_ge (b := 4096) hjk (by decide)), bd_some, if_neg one_ne_zero, if_pos hin, gA_nI hj, e1]
      · rw [if_neg hn, if_pos (show nI j < (4096 : Int32) from nI_lt (b := 4096) hjk (by decide)), if_pos hin, gA_nI hj]
        rcases e2 with e2 | e2
        · rw [e2]; rfl
        · rw [e2]; rfl
    · refine ⟨-2, ?_, ?_⟩
      · rw [if_neg hn, if_pos (show (4096 : Int32) ≤ nI j from nI_le (a := 4096) (by omega) hj), bd_some]; rfl
      · rw [if_neg hn, if_neg (show ¬ nI j < (4096 : Int32) from nI_nlt (b := 4096) (by omega) hj)]
theorem q_why {XC : Cfg → PT → Prop} {N : Nat} (hN : 10 ≤ N) : Q_why N (Rel XC) := by
  intro p1 D R ⟨c, ⟨hw, hD, hR⟩, ⟨s, f, vt, hv, h1, h2, e1, e2, e3, e4, e5⟩, hT, hH, hG, hP, hL⟩
  have hf := hv.fit hw
  have hnb := hw.1
  unfold f_X6_why f_X7_why
  rcases bath_cases (x := p1) hw.1 with q | ⟨b, hb, rfl⟩
  · exact ⟨-2, by rw [d_isBath_no hD q]; rfl, by rw [m_isBath_no hR q]; rfl⟩
  · refine ⟨nI (reasonN c s f b vt), ?_, ?_⟩
    · rw [d_isBath_yes hw hD hb, bd_some, if_neg one_ne_zero, show gI D 1 = _ from e1, show gI D 0 = _ from e4, d_hindrance hw hD hf (by omega) h2, bd_some]
    · rw [m_isBath_yes hw hR hb, bd_some, if_neg one_ne_zero, show gI R 2 = _ from e2, show gI R 3 = _ from e3, show gI R 1 = _ from e5, m_reason hw hR hN hf.1 hf.2.1 (by omega) h2, bd_some]
theorem m_free {c : Cfg} {R : Mm} {N s f : Nat} (hw : Wf c) (h : OkR c R) (hN : 10 ≤ N) (hs : s < 512) (hf : f < 10) (e2 : R.1 2 = nI s) (e3 : R.1 3 = nI f) : f_X7_free N R = some (R.1 1 - nI (fb_sm (fillN c s f) 9)) := by
  unfold f_X7_free
  rw [show gI R 2 = _ from e2, show gI R 3 = _ from e3, m_filled hw h hN (by omega) (by omega), bd_some]
  rfl
theorem enc511 {x : St} (hx : Fit x) : nI (encD x) &&& (511 : Int32) = nI x.1 := by
  rw [show (511 : Int32) = nI (2 ^ 9 - 1) from rfl, fa_mask]
  congr 1
  obtain ⟨h1, h2, h3⟩ := hx
  unfold encD
  omega
theorem d_filled {c : Cfg} {D : Mm} {x : St} (h : OkD c D) (hx : Fit x) : f_X5_filled D (nI (encD x)) = some (nI (fb_sm (fillN c x.1 x.2.1) 9)) := by
  unfold f_X5_filled
  rw [enc511 hx, d_filledBy h hx hx.1, bd_some]
theorem d_free {c : Cfg} {D : Mm} {x : St} (h : OkD c D) (hx : Fit x) (e1 : D.1 1 = nI (encD x)) : f_X6_freeVats D = some (D.1 0 - nI (fb_sm (fillN c x.1 x.2.1) 9)) := by
  unfold f_X6_freeVats
  rw [show gI D 1 = _ from e1, d_filled h hx, bd_some]
  rfl
theorem m_count_51 {c : Cfg} {R : Mm} {N s : Nat} (hw : Wf c) (h : OkR c R) (hs : s < 512) (e2 : R.1 2 = nI s) : ∀ (n b : Nat), b ≤ cN c → cN c < n + b → f_X7_count_51 N R n (nI (fb_ct (fun b => s.testBit b) b)) (nI b) = some (nI (fb_ct (fun b => s.testBit b) (cN c)))
  | 0, b, h1, h2 => by omega
  | n + 1, b, h1, h2 => by
    have hnb := hw.1
    rw [f_X7_count_51, show gI R 0 = nI (cN c) from h.1]
    by_cases hb : b = cN c
    · subst hb
      rw [if_pos (nI_le (Nat.le_refl _) (by omega))]
    · rw [if_neg (nI_ge (a := b) (b := cN c) (by omega) (by omega)), show gI R 2 = _ from e2, m_has (by omega) (by omega), bd_some, if10, nI_1]
      have key := m_count_51 (N := N) hw h hs e2 n (b + 1) (by omega) (by omega)
      rw [fb_ct_succ] at key
      by_cases ht : s.testBit b = true
      · rw [if_pos ht, nI_1]
        rw [if_pos ht] at key
        exact key
      · rw [if_neg ht, show (0 : Int32) = nI 0 from rfl, nI_add, nI_1]
        rw [if_neg ht] at key
        exact key
theorem ct_nb {s n : Nat} (hs : s < 2 ^ n) (hn : n ≤ 9) : fb_ct (fun b => s.testBit b) n = ctN s := by
  unfold ctN
  have h := fb_ct_split (fun b => s.testBit b) n (9 - n)
  rw [show n + (9 - n) = 9 by omega] at h
  have h2 : fb_ct (fun k => s.testBit (n + k)) (9 - n) = 0 := fb_ct_zero.mpr (fun k _ => lt_bit hs (by omega))
  rw [h2] at h
  exact h.symm
theorem m_ones_4 {R : Mm} {N : Nat} (hB : ∀ k, k < 4096 → isB (R.2.1 7 k)) : ∀ (n k : Nat), k ≤ 4096 → 4096 < n + k → f_X7_ones_4 N R n (nI (fb_ct (fun k => decide (R.2.1 7 k = 1)) k)) (nI k) = some (nI (fb_ct (fun k => decide (R.2.1 7 k = 1)) 4096))
  | 0, k, h1, h2 => by omega
  | n + 1, k, h1, h2 => by
    rw [f_X7_ones_4]
    by_cases hk : k = 4096
    · subst hk
      rw [if_pos (show (4096 : Int32) ≤ nI 4096 from nI_le (Nat.le_refl 4096) (by decide))]
    · rw [if_neg (show ¬ (4096 : Int32) ≤ nI k from nI_ge (b := 4096) (by omega) (by decide)), if_pos ((inb_nI (by omega)).mpr (by omega)), gA_nI (by omega), nI_1]
      have key := m_ones_4 (N := N) hB n (k + 1) (by omega) (by omega)
      rw [fb_ct_succ] at key
      rcases hB k (by omega) with e | e
      · rw [if_pos e, show (0 : Int32) = nI 0 from rfl, nI_add]
        rw [e] at key
        exact key
      · rw [if_neg (by rw [e]; decide), nI_1]
        rw [e] at key
        exact key
theorem q_count {XC : Cfg → PT → Prop} {N : Nat} (hN : 5000 ≤ N) : Q_count N (Rel XC) := by
  intro p1 D R ⟨c, ⟨hw, hD, hR⟩, ⟨s, f, vt, hv, h1, h2, e1, e2, e3, e4, e5⟩, hT, ⟨k, nx, hk, hnx, k1, k2, k3, k4⟩, hG, hP, hL⟩
  have hf := hv.fit hw
  have hnb := hw.1
  unfold f_X6_count f_X7_count
  by_cases p0 : p1 = 0
  · exact ⟨nI (cN c), by rw [if_pos p0]; exact congrArg some hD.1, by rw [if_pos p0]; exact congrArg some hR.1⟩
  rw [if_neg p0, if_neg p0]
  by_cases p1' : p1 = 1
  · refine ⟨nI (ctN s), ?_, ?_⟩
    · rw [if_pos p1', show gI D 1 = _ from e1, enc511 hf, d_bitCount _ hf.1, bd_some]
    · rw [if_pos p1']
      have := m_count_51 (N := N) hw hR hf.1 e2 N 0 (Nat.zero_le _) (by omega)
      rw [ct_nb hv.1 hnb] at this
      exact this
  rw [if_neg p1', if_neg p1']
  by_cases p2 : p1 = 2
  · exact ⟨nI vt, by rw [if_pos p2]; exact congrArg some e4, by rw [if_pos p2]; exact congrArg some e5⟩
  rw [if_neg p2, if_neg p2]
  by_cases p3 : p1 = 3
  · refine ⟨nI vt - nI (fb_sm (fillN c s f) 9), ?_, ?_⟩
    · rw [if_pos p3, d_free hD hf e1, bd_some, e4]
    · rw [if_pos p3, m_free hw hR (by omega) hf.1 hf.2.1 e2 e3, bd_some, e5]
  rw [if_neg p3, if_neg p3]
  by_cases p4 : p1 = 4
  · exact ⟨nI (cG c), by rw [if_pos p4]; exact congrArg some hD.2.2.2.2.2.2.2.2.2.2.1, by rw [if_pos p4]; exact congrArg some hR.2.2.2.2.1⟩
  rw [if_neg p4, if_neg p4]
  by_cases p5 : p1 = 5
  · exact ⟨nI k, by rw [if_pos p5]; exact congrArg some k1, by rw [if_pos p5]; exact congrArg some k3⟩
  rw [if_neg p5, if_neg p5]
  by_cases p6 : p1 = 6
  · refine ⟨nI (fb_ct (fun k => decide (R.2.1 7 k = 1)) 4096), by rw [if_pos p6]; exact congrArg some hP.2.1, ?_⟩
    rw [if_pos p6]
    unfold f_X7_ones
    have := m_ones_4 (N := N) (fun k hk => (hP.1 k hk).2) N 0 (by decide) (by omega)
    exact congrArg (fun z => bd z (fun r107 => some r107)) this
  · exact ⟨-2, by rw [if_neg p6], by rw [if_neg p6]⟩
