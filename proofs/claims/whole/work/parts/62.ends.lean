/-! ===== all goals have stood; plain works ===== -/
def allG (c : Cfg) (s : Nat) : Nat → Bool
  | 0 => true
  | n + 1 => allG c s n && s.testBit (cg c n)
def endN (c : Cfg) (x : St) : Bool := if cT c = true then allG c x.1 (cG c) else decide (x.2.2 &&& (2 ^ cG c - 1) = 2 ^ cG c - 1)
theorem allG_iff (c : Cfg) (s : Nat) : ∀ n, allG c s n = true ↔ ∀ i, i < n → s.testBit (cg c i) = true
  | 0 => by
    constructor
    · intro _ i hi; omega
    · intro _; rfl
  | n + 1 => by
    rw [allG, Bool.and_eq_true, allG_iff c s n]
    constructor
    · rintro ⟨h1, h2⟩ i hi
      by_cases z : i = n
      · subst z; exact h2
      · exact h1 i (by omega)
    · intro h
      exact ⟨fun i hi => h i (by omega), h n (by omega)⟩
theorem zI_b (t : Bool) : isB (zI t) := by cases t; exact Or.inl rfl; exact Or.inr rfl
theorem zI_and (a b : Bool) : zI a &&& zI b = zI (a && b) := by cases a <;> cases b <;> decide
theorem zI_if {c : Prop} [Decidable c] : (if c then (1 : Int32) else 0) = zI (decide c) := by
  by_cases h : c <;> simp [zI, h]
section EN
variable {c : Cfg} {D R : Mm} {N : Nat}
theorem m_stand_4 (hw : Wf c) (h : OkR c R) {s : Nat} (hs : s < 512) : ∀ (n i : Nat), i ≤ cG c → cG c < n + i → f_X7_stand_4 N R n (nI s) (zI (allG c s i)) (nI i) = some (zI (allG c s (cG c)))
  | 0, i, h1, h2 => by omega
  | n + 1, i, h1, h2 => by
    have hg := hw.2.2.2.2.2.1
    rw [f_X7_stand_4, show gI R 4 = nI (cG c) from h.2.2.2.2.1]
    by_cases hi : i = cG c
    · subst hi
      rw [if_pos (nI_le (Nat.le_refl _) (by omega)), if_pos (zI_b _)]
    · have hgi := hw.2.2.2.2.2.2.1 i (by omega)
      have hnb := hw.1
      rw [if_neg (nI_ge (a := i) (b := cG c) (by omega) (by omega)), if_pos ((inb_nI (by omega)).mpr (by omega)), gA_nI (by omega), h.2.2.2.2.2.1 i (by omega), m_has (by omega) (by omega), bd_some, zI_if, zI_and, nI_1]
      have e : (allG c s i && decide (s.testBit (cg c i) = true)) = allG c s (i + 1) := by
        rw [allG]
        cases s.testBit (cg c i) <;> rfl
      rw [e]
      exact m_stand_4 hw h hs n (i + 1) (by omega) (by omega)
theorem m_stand (hw : Wf c) (h : OkR c R) (hN : 10 ≤ N) {s : Nat} (hs : s < 512) : f_X7_stand N R (nI s) = some (zI (allG c s (cG c))) := by
  have hg := hw.2.2.2.2.2.1
  exact m_stand_4 (N := N) hw h hs N 0 (Nat.zero_le _) (by omega)
theorem one_shl_sub {g : Nat} (hg : g ≤ 3) : ((1 : Int32) <<< (nI g &&& 31)) - (1 : Int32) = nI (2 ^ g - 1) := by
  rw [nI_shl1 g (by omega)]
  exact nI_sub (b := 1) (Nat.two_pow_pos g) (Nat.lt_of_le_of_lt (pow_le_8 hg) (by decide))
theorem goal_sub (hw : Wf c) {s : Nat} : (s &&& goalM c = goalM c) ↔ allG c s (cG c) = true := by
  rw [allG_iff]
  have hnb := hw.1
  constructor
  · intro h1 i hi
    have hgi := hw.2.2.2.2.2.2.1 i hi
    have := congrArg (fun z => z.testBit (cg c i)) h1
    have hm : (goalM c).testBit (cg c i) = true := by
      rw [goalM, bm_bit]
      have h9 : cg c i < 9 := by omega
      simp only [h9, decide_true, Bool.true_and]
      exact (anyN_iff _ _).mpr ⟨i, hi, by simp⟩
    simp only [Nat.testBit_and, hm, Bool.and_true] at this
    exact this
  · intro h1
    refine nat_ext (fun o => ?_)
    rw [Nat.testBit_and]
    cases ho : (goalM c).testBit o with
    | false => simp
    | true =>
      rw [goalM, bm_bit, Bool.and_eq_true] at ho
      obtain ⟨i, hi, hi2⟩ := (anyN_iff _ _).mp ho.2
      rw [← (of_decide_eq_true hi2 : cg c i = o), h1 i hi]
      rfl
theorem shl9 : ∀ m, m < 8 → nI m <<< ((9 : Int32) &&& 31) = nI (512 * m) := by decide +kernel
theorem d_reaches (hw : Wf c) (h : OkD c D) {x : St} (hx : Fit x) : f_X5_reaches D (nI (encD x)) = some (zI (endN c x)) := by
  have hg := hw.2.2.2.2.2.1
  have h9 : gI D 9 = zI (cT c) := h.2.2.2.2.2.2.2.2.2.2.2.2.2
  have hgl : goalM c < 2 ^ 9 := bm_lt _ 9
  unfold f_X5_reaches f_X5_reaches_25 endN
  rw [h9]
  cases ht : cT c with
  | true =>
    rw [if_neg (show ¬ zI true = 0 by decide), show gI D 8 = nI (goalM c) from h.2.2.2.2.2.2.2.2.2.2.2.2.1, fa_and]
    have e : (encD x &&& goalM c) = x.1 &&& goalM c := by
      refine nat_ext (fun i => ?_)
      rw [Nat.testBit_and, Nat.testBit_and, encD_bit hx]
      by_cases hi : i < 9
      · rw [if_pos hi]
      · rw [lt_bit hgl (by omega)]; simp
    have hl : x.1 &&& goalM c < 2 ^ 31 := Nat.lt_of_le_of_lt Nat.and_le_right (by omega)
    rw [e]
    by_cases hz : x.1 &&& goalM c = goalM c
    · rw [if_pos (by rw [hz]), if_pos rfl, (goal_sub hw).mp hz]; rfl
    · rw [if_neg (fun y => hz (nI_inj hl (by omega) y)), if_pos rfl]
      have : allG c x.1 (cG c) = false := by
        cases z : allG c x.1 (cG c) with
        | false => rfl
        | true => exact absurd ((goal_sub hw).mpr z) hz
      rw [this]; rfl
  | false =>
    have hp8 := pow_le_8 hg
    have hpp := Nat.two_pow_pos (cG c)
    rw [if_pos (show zI false = 0 from rfl), show gI D 7 = nI (cG c) from h.2.2.2.2.2.2.2.2.2.2.1, one_shl_sub hg, shl9 _ (by omega), fa_and, if_neg (show ¬ (false = true) by decide)]
    have e : (encD x &&& 512 * (2 ^ cG c - 1)) = 512 * (x.2.2 &&& (2 ^ cG c - 1)) := by
      refine nat_ext (fun i => ?_)
      rw [Nat.testBit_and, encD_bit hx, show 512 = 2 ^ 9 from rfl, Nat.testBit_two_pow_mul, Nat.testBit_two_pow_mul]
      by_cases hi : i < 9
      · have : ¬ 9 ≤ i := by omega
        simp [this]
      · rw [if_neg hi, Nat.testBit_and]
        have h9i : 9 ≤ i := by omega
        by_cases hi2 : i < 12
        · rw [if_pos hi2]; simp [h9i]
        · have : (2 ^ cG c - 1).testBit (i - 9) = false := lt_bit (n := 3) (by omega) (by omega)
          rw [this]; simp
    rw [e]
    have hal : x.2.2 &&& (2 ^ cG c - 1) ≤ 2 ^ cG c - 1 := Nat.and_le_right
    by_cases hz : x.2.2 &&& (2 ^ cG c - 1) = 2 ^ cG c - 1
    · rw [if_pos (by rw [hz]), decide_eq_true hz]; rfl
    · rw [if_neg (fun y => hz (by have := nI_inj (by omega) (by omega) y; omega)), decide_eq_false hz]; rfl
/-! plain -/
def plainN (c : Cfg) : Nat → Bool
  | 0 => true
  | n + 1 => plainN c n && !(decide (cK c n = 2) || decide (cK c n = 4))
theorem plainN_iff (c : Cfg) : ∀ n, plainN c n = true ↔ ∀ b, b < n → cK c b ≠ 2 ∧ cK c b ≠ 4
  | 0 => by
    constructor
    · intro _ i hi; omega
    · intro _; rfl
  | n + 1 => by
    rw [plainN, Bool.and_eq_true, plainN_iff c n]
    simp only [Bool.not_eq_true', Bool.or_eq_false_iff, decide_eq_false_iff_not]
    constructor
    · rintro ⟨h1, h2⟩ i hi
      by_cases z : i = n
      · subst z; exact h2
      · exact h1 i (by omega)
    · intro h
      exact ⟨fun i hi => h i (by omega), h n (by omega)⟩
theorem m_isPlain_4 (hw : Wf c) (h : OkR c R) : ∀ (n i : Nat), i ≤ cN c → cN c < n + i → f_X7_isPlain_4 N R n (zI (plainN c i)) (nI i) = some (zI (plainN c (cN c)))
  | 0, i, h1, h2 => by omega
  | n + 1, i, h1, h2 => by
    have hnb := hw.1
    rw [f_X7_isPlain_4, show gI R 0 = nI (cN c) from h.1]
    by_cases hi : i = cN c
    · subst hi
      rw [if_pos (nI_le (Nat.le_refl _) (by omega)), if_pos (zI_b _)]
    · have hin : inb (nI i) 9 := (inb_nI (by omega)).mpr (by omega)
      have key := m_isPlain_4 hw h n (i + 1) (by omega) (by omega)
      rw [plainN] at key
      rw [if_neg (nI_ge (a := i) (b := cN c) (by omega) (by omega)), if_pos hin, nI_1]
      by_cases k2 : cK c i = 2
      · rw [if_pos ((kd2 hw h (by omega)).mpr k2), show (0 : Int32) = zI false from rfl, zI_and]
        rw [k2] at key
        exact key
      · rw [if_neg (fun q => k2 ((kd2 hw h (by omega)).mp q)), if_pos hin]
        by_cases k4 : cK c i = 4
        · rw [if_pos ((kd4 hw h (by omega)).mpr k4), show (0 : Int32) = zI false from rfl, zI_and]
          rw [k4] at key
          exact key
        · rw [if_neg (fun q => k4 ((kd4 hw h (by omega)).mp q)), show (1 : Int32) = zI true from rfl, zI_and]
          simp only [k2, k4, decide_false, Bool.or_false, Bool.not_false] at key
          exact key
theorem m_isPlain (hw : Wf c) (h : OkR c R) (hN : 20 ≤ N) : f_X7_isPlain N R = some (zI (plainN c (cN c))) := by
  have hnb := hw.1
  exact m_isPlain_4 (N := N) hw h N 0 (Nat.zero_le _) (by omega)
theorem d_plain (hw : Wf c) (h : OkD c D) : f_X5_allFillOne D = some (zI (plainN c (cN c))) := by
  unfold f_X5_allFillOne
  have l2 := bm_lt (fun b => decide (cK c b = 2)) 9
  have l4 := bm_lt (fun b => decide (cK c b = 4)) 9
  have hnb := hw.1
  rw [show gI D 5 = nI (bm (fun b => decide (cK c b = 2)) 9) from h.2.2.2.2.2.2.1, show gI D 6 = nI (bm (fun b => decide (cK c b = 4)) 9) from h.2.2.2.2.2.2.2.1, fa_or]
  have hz : (bm (fun b => decide (cK c b = 2)) 9 ||| bm (fun b => decide (cK c b = 4)) 9 = 0) ↔ plainN c (cN c) = true := by
    rw [plainN_iff]
    constructor
    · intro h1 b hb
      have := congrArg (fun z => z.testBit b) h1
      have h9 : b < 9 := by omega
      simp only [Nat.testBit_or, bm_bit, h9, Nat.zero_testBit, decide_true, Bool.true_and, Bool.or_eq_false_iff, decide_eq_false_iff_not] at this
      exact this
    · intro h1
      refine nat_ext (fun b => ?_)
      rw [Nat.testBit_or, bm_bit, bm_bit, Nat.zero_testBit]
      by_cases hb : b < cN c
      · have := h1 b hb
        simp [this.1, this.2]
      · rw [hw.2.2.1 b (by omega)]; simp
  have hlt : bm (fun b => decide (cK c b = 2)) 9 ||| bm (fun b => decide (cK c b = 4)) 9 < 2 ^ 31 := Nat.lt_trans (Nat.or_lt_two_pow (n := 9) l2 l4) (by decide)
  by_cases hp : plainN c (cN c) = true
  · rw [if_pos ((nI_z hlt).mpr (hz.mpr hp)), hp]; rfl
  · rw [if_neg (fun y => hp (hz.mp ((nI_z hlt).mp y)))]
    rw [show plainN c (cN c) = false by simpa using hp]; rfl
end EN
