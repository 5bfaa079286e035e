/-! ===== the reference's rules are the acts ===== -/
theorem testBit_div (s b : Nat) : s.testBit b = decide (s / 2 ^ b % 2 = 1) := Nat.testBit_eq_decide_div_mod_eq
theorem m_has {s b : Nat} (hs : s < 2 ^ 31) (hb : b < 31) : f_X7_has (nI s) (nI b) = some (if s.testBit b = true then 1 else 0) := by
  unfold f_X7_has
  rw [nI_shr hs hb, show (1 : Int32) = nI 1 from rfl, fa_and, Nat.and_one_is_mod]
  have h1 : s / 2 ^ b % 2 < 2 := Nat.mod_lt _ (by decide)
  by_cases h : s.testBit b = true
  · have h2 : s / 2 ^ b % 2 = 1 := by rw [testBit_div] at h; exact of_decide_eq_true h
    rw [if_pos h, h2, if_pos rfl]
  · have h2 : s / 2 ^ b % 2 = 0 := by
      rw [testBit_div] at h
      have := of_decide_eq_false (eq_false_of_ne_true h)
      omega
    rw [if_neg h, h2, if_neg (by decide)]
theorem oI_some (k : Nat) : oI (some k) = nI k := rfl
theorem oI_le {o : Option Nat} {i : Nat} (hi : i < 2 ^ 31) (ho : ∀ k, o = some k → k < 2 ^ 31) : (oI o ≤ nI i) ↔ (∀ k, o = some k → k ≤ i) := by
  cases o with
  | none =>
    refine ⟨fun _ k h => (by cases h), fun _ => ?_⟩
    show (-1 : Int32) ≤ nI i
    rw [Int32.le_iff_toInt_le, nI_toInt hi]
    have : (-1 : Int32).toInt = -1 := rfl
    omega
  | some k =>
    rw [show oI (some k) = nI k from rfl, nI_leI (ho k rfl) hi]
    exact ⟨fun h q hq => by cases hq; exact h, fun h => h k rfl⟩
theorem oI_neg {o : Option Nat} (ho : ∀ k, o = some k → k < 2 ^ 31) : (oI o < 0) ↔ o = none := by
  cases o with
  | none => exact ⟨fun _ => rfl, fun _ => by decide⟩
  | some k => exact ⟨fun h => absurd h (nI_pos (ho k rfl)), fun h => by cases h⟩
theorem oI_nneg {o : Option Nat} (ho : ∀ k, o = some k → k < 2 ^ 31) : (0 ≤ oI o) ↔ o ≠ none := by
  cases o with
  | none => exact ⟨fun h => absurd h (by decide), fun h => absurd rfl h⟩
  | some k => exact ⟨fun _ h => (by cases h), fun _ => nI_pos' (ho k rfl)⟩
theorem nI_place {b i : Nat} : ((4 : Int32) * nI b) + nI i = nI (4 * b + i) := by
  rw [show (4 : Int32) = nI 4 from rfl, nI_mul, nI_add]
section RM
variable {c : Cfg} {R : Mm} {N : Nat}
theorem kind_eq (hw : Wf c) (h : OkR c R) {b k : Nat} (hb : b < 9) (hk : k < 100) : (gA R 1 (nI b) = nI k) ↔ cK c b = k := by
  rw [gA_nI (by omega), h.2.1 b hb]
  have := hw.2.1 b
  exact nI_eq (by omega) (by omega)
theorem kd1 (hw : Wf c) (h : OkR c R) {b : Nat} (hb : b < 9) : (gA R 1 (nI b) = 1) ↔ cK c b = 1 := kind_eq hw h hb (k := 1) (by decide)
theorem kd2 (hw : Wf c) (h : OkR c R) {b : Nat} (hb : b < 9) : (gA R 1 (nI b) = 2) ↔ cK c b = 2 := kind_eq hw h hb (k := 2) (by decide)
theorem kd3 (hw : Wf c) (h : OkR c R) {b : Nat} (hb : b < 9) : (gA R 1 (nI b) = 3) ↔ cK c b = 3 := kind_eq hw h hb (k := 3) (by decide)
theorem kd4 (hw : Wf c) (h : OkR c R) {b : Nat} (hb : b < 9) : (gA R 1 (nI b) = 4) ↔ cK c b = 4 := kind_eq hw h hb (k := 4) (by decide)
theorem m_used_24 (hw : Wf c) (h : OkR c R) {b k : Nat} (hb : b < 9) (hs : cS c b = some k) : ∀ (n i : Nat), i ≤ k → k < n + i → f_X7_used_24 N R n (nI b) (nI i) = some (oI (fstO (cP c b) i (k - i)))
  | 0, i, h1, h2 => by omega
  | n + 1, i, h1, h2 => by
    have hk := (hw.2.2.2.1 b k hs).1
    rw [f_X7_used_24, if_pos ((inb_nI (by omega)).mpr hb), gA_nI (by omega), h.2.2.1 b hb, hs, oI_some]
    by_cases hik : i = k
    · subst hik
      rw [if_pos (nI_le (Nat.le_refl i) (by omega)), Nat.sub_self]
      rfl
    · rw [if_neg (nI_ge (a := i) (b := k) (by omega) (by omega)), nI_place, if_pos ((inb_nI (by omega)).mpr (by omega)), gA_nI (by omega), h.2.2.2.1 b i hb (by omega)]
      have hlt : ∀ q, cP c b i = some q → q < 2 ^ 31 := fun q hq => by
        have := hw.2.2.2.2.1 b k i q hs (by omega) hq
        have := hw.1
        omega
      have hki : k - i = (k - (i + 1)) + 1 := by omega
      rw [hki, fstO]
      cases hp : cP c b i with
      | none =>
        rw [if_pos (by decide : oI none < 0), nI_1]
        exact m_used_24 hw h hb hs n (i + 1) (by omega) (by omega)
      | some q =>
        rw [if_neg (by rw [oI_neg (by intro k hk2; cases hk2; exact hlt q hp)]; exact fun e => by cases e), if_pos ((inb_nI (by omega)).mpr (by omega))]
theorem m_used (hw : Wf c) (h : OkR c R) (hN : 10 ≤ N) {b : Nat} (hb : b < 9) (hs : cS c b ≠ none) : f_X7_used N R (nI b) = some (oI (usedN c b)) := by
  unfold f_X7_used usedN
  have hin : inb (nI b) 9 := (inb_nI (by omega)).mpr hb
  cases hsk : cS c b with
  | none => exact absurd hsk hs
  | some k =>
    have hk := (hw.2.2.2.1 b k hsk).1
    have key := m_used_24 (N := N) hw h hb hsk N 0 (by omega) (by omega)
    rw [Nat.sub_zero] at key
    rw [if_pos hin]
    by_cases h1 : cK c b = 1
    · rw [if_pos ((kd1 hw h hb).mpr h1), if_pos (Or.inl h1)]
      exact key
    · rw [if_neg (fun q => h1 ((kd1 hw h hb).mp q)), if_pos hin]
      by_cases h3 : cK c b = 3
      · rw [if_pos ((kd3 hw h hb).mpr h3), if_pos (Or.inr h3)]
        exact key
      · rw [if_neg (fun q => h3 ((kd3 hw h hb).mp q)), if_neg (by rintro (q | q) <;> contradiction)]
        rfl
theorem m_fills (hw : Wf c) (h : OkR c R) {s f b : Nat} (hs : s < 2 ^ 31) (hf : f < 2 ^ 31) (hb : b < 9) : f_X7_fills R (nI s) (nI f) (nI b) = some (nI (fillN c s f b)) := by
  unfold f_X7_fills fillN
  rw [m_has hs (by omega), bd_some, if10]
  by_cases ht : s.testBit b = true
  · rw [if_pos ht, if_pos ht, if_pos ((inb_nI (by omega)).mpr hb)]
    by_cases h2 : cK c b = 2
    · rw [if_pos ((kd2 hw h hb).mpr h2), if_pos (Or.inl h2)]
      rfl
    · rw [if_neg (fun q => h2 ((kd2 hw h hb).mp q)), nI_1]
      by_cases h3 : f = b + 1
      · rw [if_pos (by rw [h3]), if_pos (Or.inr h3)]
        rfl
      · rw [if_neg (fun q => h3 (nI_inj hf (by omega) q)), if_neg (by rintro (q | q) <;> contradiction)]
        rfl
  · rw [if_neg ht, if_neg ht]
    rfl
theorem m_filled_5 (hw : Wf c) (h : OkR c R) {s f : Nat} (hs : s < 2 ^ 31) (hf : f < 2 ^ 31) : ∀ (n b : Nat), b ≤ 9 → 9 < n + b → f_X7_filled_5 N R n (nI s) (nI f) (nI (fb_sm (fillN c s f) b)) (nI b) = some (nI (fb_sm (fillN c s f) 9))
  | 0, b, h1, h2 => by omega
  | n + 1, b, h1, h2 => by
    rw [f_X7_filled_5]
    by_cases hb : b = 9
    · subst hb
      rw [if_pos (show (9 : Int32) ≤ nI 9 from nI_le (Nat.le_refl 9) (by decide))]
    · rw [if_neg (show ¬ (9 : Int32) ≤ nI b from nI_ge (b := 9) (by omega) (by decide)), m_fills hw h hs hf (by omega), bd_some, nI_add, nI_1, ← fb_sm_succ]
      exact m_filled_5 hw h hs hf n (b + 1) (by omega) (by omega)
theorem m_filled (hw : Wf c) (h : OkR c R) (hN : 10 ≤ N) {s f : Nat} (hs : s < 2 ^ 31) (hf : f < 2 ^ 31) : f_X7_filled N R (nI s) (nI f) = some (nI (fb_sm (fillN c s f) 9)) := m_filled_5 hw h hs hf N 0 (by omega) (by omega)
theorem fillN_le (s f b : Nat) : fillN c s f b ≤ 2 := by
  unfold fillN
  split
  · split <;> omega
  · omega
theorem filled_le (s f : Nat) : fb_sm (fillN c s f) 9 ≤ 18 := by
  have h := fb_sm_bound (f := fillN c s f) (c := 2) (n := 9) (fun k _ => fillN_le s f k)
  omega
end RM
