/-! ===== the reference's reason, and where an act leads ===== -/
theorem cmp_room {v F u w : Nat} (hv : v ≤ 100) (hF : F ≤ 100) (hu : u ≤ 100) (hw : w ≤ 100) : (nI w ≤ nI v - nI F + nI u) ↔ F + w ≤ v + u := by
  have e1 : (nI v - nI F).toInt = (v : Int) - F := by
    rw [fb_subI] <;> rw [nI_toInt (by omega), nI_toInt (by omega)] <;> omega
  have e2 : (nI v - nI F + nI u).toInt = (v : Int) - F + u := by
    rw [fb_addI] <;> rw [e1, nI_toInt (by omega)] <;> omega
  rw [Int32.le_iff_toInt_le, e2, nI_toInt (by omega)]
  omega
theorem cmp_room' {v F w : Nat} (hv : v ≤ 100) (hF : F ≤ 100) (hw : w ≤ 100) : (nI w ≤ nI v - nI F) ↔ F + w ≤ v := by
  have e1 : (nI v - nI F).toInt = (v : Int) - F := by
    rw [fb_subI] <;> rw [nI_toInt (by omega), nI_toInt (by omega)] <;> omega
  rw [Int32.le_iff_toInt_le, e1, nI_toInt (by omega)]
  omega
section RN
variable {c : Cfg} {R : Mm} {N : Nat}
theorem needs_bad {s b k : Nat} (hw : Wf c) (hs : cS c b = some k) : anyN (fun o => needs c b o && !s.testBit o) 9 = true ↔ ∃ i, i < k ∧ ∃ o, cP c b i = some o ∧ s.testBit o = false := by
  rw [anyN_iff]
  constructor
  · rintro ⟨o, ho, h⟩
    rw [Bool.and_eq_true] at h
    obtain ⟨h1, h2⟩ := h
    unfold needs at h1
    rw [hs] at h1
    obtain ⟨i, hi, hp⟩ := (anyN_iff _ _).mp h1
    exact ⟨i, hi, o, of_decide_eq_true hp, by simpa using h2⟩
  · rintro ⟨i, hi, o, hp, ht⟩
    have hk := (hw.2.2.2.1 b k hs).1
    have ho := hw.2.2.2.2.1 b k i o hs (by omega) hp
    refine ⟨o, Nat.lt_of_lt_of_le ho hw.1, ?_⟩
    rw [Bool.and_eq_true]
    refine ⟨?_, by simp [ht]⟩
    unfold needs
    rw [hs]
    exact (anyN_iff _ _).mpr ⟨i, hi, by simp [hp]⟩
theorem m_reason_160 (hw : Wf c) (h : OkR c R) {b v F u : Nat} (hb : b < 9) (hv : v ≤ 100) (hF : F ≤ 100) (hu : u ≤ 100) : f_X7_reason_160 N R (nI b) (nI v - nI F) (nI u) = some (nI (if v + u < F + wantN c b then 5 else 0)) := by
  have hin : inb (nI b) 9 := (inb_nI (by omega)).mpr hb
  have fin : ∀ w, w ≤ 2 → f_X7_reason_190 N R (nI v - nI F + nI u) (nI w) = some (nI (if v + u < F + w then 5 else 0)) := by
    intro w hw2
    unfold f_X7_reason_190
    by_cases q : F + w ≤ v + u
    · rw [if_pos ((cmp_room hv hF hu (by omega)).mpr q), if_neg (by omega)]
      rfl
    · rw [if_neg (fun z => q ((cmp_room hv hF hu (by omega)).mp z)), if_pos (by omega)]
      rfl
  unfold f_X7_reason_160 wantN f_X7_reason_185
  rw [if_pos hin]
  by_cases h2 : cK c b = 2
  · rw [if_pos ((kd2 hw h hb).mpr h2), if_pos (Or.inl h2)]
    exact fin 2 (by omega)
  · rw [if_neg (fun q => h2 ((kd2 hw h hb).mp q)), if_pos hin]
    by_cases h4 : cK c b = 4
    · rw [if_pos ((kd4 hw h hb).mpr h4), if_pos (Or.inr h4)]
      exact fin 2 (by omega)
    · rw [if_neg (fun q => h4 ((kd4 hw h hb).mp q)), if_neg (show ¬ (cK c b = 2 ∨ cK c b = 4) by rintro (q | q) <;> contradiction)]
      exact fin 1 (by omega)
theorem oI_eq {o : Option Nat} {i : Nat} (hi : i < 2 ^ 31) (ho : ∀ k, o = some k → k < 2 ^ 31) : (nI i = oI o) ↔ o = some i := by
  cases o with
  | none => exact ⟨fun h => absurd h (nI_ne_m1 hi), fun h => by cases h⟩
  | some k =>
    rw [oI_some, nI_eq hi (ho k rfl), Option.some.injEq]
    exact ⟨fun h => h.symm, fun h => h.symm⟩
theorem used_small (hw : Wf c) (b : Nat) : ∀ k, usedN c b = some k → k < 2 ^ 31 := fun k hk => by
  have := (used_lt hw hk).1
  have := hw.1
  omega
theorem m_reason_80 (hw : Wf c) (h : OkR c R) (hN : 10 ≤ N) {s f b v : Nat} (hs : s < 512) (hf : f < 10) (hb : b < 9) (hv : v ≤ 18) : ∀ (n o : Nat), o ≤ cN c → cN c < n + o → (cK c b = 3 → ∀ j, j < o → ¬ (cK c j = 3 ∧ s.testBit j = true ∧ usedN c b ≠ some j)) →
    f_X7_reason_80 N R n (nI s) (nI f) (nI b) (nI v) (oI (usedN c b)) (nI o) = some (nI (if cK c b = 3 ∧ strongN c s b = true then 4 else if v + fillU c s f b < fb_sm (fillN c s f) 9 + wantN c b then 5 else 0))
  | 0, o, h1, h2, h3 => by omega
  | n + 1, o, h1, h2, h3 => by
    have hnb := hw.1
    rw [f_X7_reason_80]
    rw [show gI R 0 = nI (cN c) from h.1]
    by_cases ho : o = cN c
    · subst ho
      rw [if_pos (nI_le (Nat.le_refl _) (by omega)), m_filled hw h hN (by omega) (by omega), bd_some]
      have hst : ¬ (cK c b = 3 ∧ strongN c s b = true) := by
        rintro ⟨q1, q2⟩
        obtain ⟨j, hj, hq⟩ := (anyN_iff _ _).mp q2
        simp only [Bool.and_eq_true, decide_eq_true_eq, Bool.not_eq_true', decide_eq_false_iff_not] at hq
        exact h3 q1 j hj ⟨hq.1.1, hq.1.2, hq.2⟩
      rw [if_neg hst]
      have hfl := filled_le (c := c) s f
      cases hu : usedN c b with
      | none =>
        rw [if_neg (show ¬ (0 : Int32) ≤ oI none by decide)]
        have := m_reason_160 (N := N) hw h (b := b) (v := v) (F := fb_sm (fillN c s f) 9) (u := 0) hb (by omega) (by omega) (by omega)
        rw [show (0 : Int32) = nI 0 from rfl, this]
        simp only [fillU, hu]
      | some q =>
        have hq := (used_lt hw hu).1
        rw [oI_some, if_pos (nI_pos' (by omega)), m_fills hw h (by omega) (by omega) (by omega), bd_some]
        have hle := fillN_le (c := c) s f q
        rw [m_reason_160 hw h hb (by omega) (by omega) (by omega)]
        simp only [fillU, hu]
    · have ho9 : o < 9 := by omega
      rw [if_neg (nI_ge (a := o) (b := cN c) (by omega) (by omega)), if_pos ((inb_nI (by omega)).mpr hb)]
      have step : (cK c b = 3 → ¬ (cK c o = 3 ∧ s.testBit o = true ∧ usedN c b ≠ some o)) → f_X7_reason_80 N R n (nI s) (nI f) (nI b) (nI v) (oI (usedN c b)) (nI o + 1) = some (nI (if cK c b = 3 ∧ strongN c s b = true then 4 else if v + fillU c s f b < fb_sm (fillN c s f) 9 + wantN c b then 5 else 0)) := by
        intro hno
        rw [nI_1]
        refine m_reason_80 hw h hN hs hf hb hv n (o + 1) (by omega) (by omega) (fun q j hj => ?_)
        by_cases hjo : j = o
        · subst hjo; exact hno q
        · exact h3 q j (by omega)
      by_cases hk : cK c b = 3
      · rw [if_pos ((kd3 hw h hb).mpr hk), if_pos ((inb_nI (by omega)).mpr ho9)]
        by_cases hk2 : cK c o = 3
        · rw [if_pos ((kd3 hw h ho9).mpr hk2), m_has (by omega) (by omega), bd_some, if10]
          by_cases ht : s.testBit o = true
          · rw [if_pos ht]
            by_cases hu : usedN c b = some o
            · rw [if_pos ((oI_eq (by omega) (used_small hw b)).mpr hu)]
              exact step (fun _ z => z.2.2 hu)
            · have hst : strongN c s b = true := by
                refine (anyN_iff _ _).mpr ⟨o, by omega, ?_⟩
                simp [hk2, ht, hu]
              rw [if_neg (fun z => hu ((oI_eq (by omega) (used_small hw b)).mp z)), if_pos ⟨hk, hst⟩]
              rfl
          · rw [if_neg ht]
            exact step (fun _ z => ht z.2.1)
        · rw [if_neg (fun q => hk2 ((kd3 hw h ho9).mp q))]
          exact step (fun _ z => hk2 z.1)
      · rw [if_neg (fun q => hk ((kd3 hw h hb).mp q))]
        exact step (fun q => absurd q hk)
theorem m_reason_24 (hw : Wf c) (h : OkR c R) (hN : 10 ≤ N) {s f b v k : Nat} (hs : s < 512) (hf : f < 10) (hb : b < 9) (hv : v ≤ 18) (hk : cS c b = some k) : ∀ (n i : Nat), i ≤ k → k < n + i → (∀ j, j < i → ∀ o, cP c b j = some o → s.testBit o = true) →
    f_X7_reason_24 N R n (nI s) (nI f) (nI b) (nI v) (nI i) = some (nI (if anyN (fun o => needs c b o && !s.testBit o) 9 = true then 3 else if cK c b = 3 ∧ strongN c s b = true then 4 else if v + fillU c s f b < fb_sm (fillN c s f) 9 + wantN c b then 5 else 0))
  | 0, i, h1, h2, h3 => by omega
  | n + 1, i, h1, h2, h3 => by
    have hk4 := (hw.2.2.2.1 b k hk).1
    rw [f_X7_reason_24, if_pos ((inb_nI (by omega)).mpr hb), gA_nI (by omega), h.2.2.1 b hb, hk, oI_some]
    by_cases hik : i = k
    · subst hik
      rw [if_pos (nI_le (Nat.le_refl i) (by omega)), m_used hw h hN hb (by rw [hk]; exact fun z => by cases z), bd_some]
      rw [if_neg (fun z => by
        obtain ⟨j, hj, o, hp, ht⟩ := (needs_bad hw hk).mp z
        rw [h3 j hj o hp] at ht
        cases ht)]
      exact m_reason_80 hw h hN hs hf hb hv N 0 (Nat.zero_le _) (by have := hw.1; omega) (fun _ j hj => absurd hj (Nat.not_lt_zero j))
    · rw [if_neg (nI_ge (a := i) (b := k) (by omega) (by omega)), nI_place, if_pos ((inb_nI (by omega)).mpr (by omega)), gA_nI (by omega), h.2.2.2.1 b i hb (by omega)]
      cases hp : cP c b i with
      | none =>
        rw [if_pos (by decide : oI none < 0), nI_1]
        refine m_reason_24 hw h hN hs hf hb hv hk n (i + 1) (by omega) (by omega) (fun j hj o hq => ?_)
        by_cases hji : j = i
        · subst hji; rw [hp] at hq; cases hq
        · exact h3 j (by omega) o hq
      | some o =>
        have ho := hw.2.2.2.2.1 b k i o hk (by omega) hp
        have hnb := hw.1
        rw [oI_some, if_neg (nI_pos (by omega)), m_has (by omega) (by omega), bd_some, if10]
        by_cases ht : s.testBit o = true
        · rw [if_pos ht, nI_1]
          refine m_reason_24 hw h hN hs hf hb hv hk n (i + 1) (by omega) (by omega) (fun j hj q hq => ?_)
          by_cases hji : j = i
          · subst hji; rw [hp] at hq; cases hq; exact ht
          · exact h3 j (by omega) q hq
        · rw [if_neg ht, if_pos ((needs_bad hw hk).mpr ⟨i, by omega, o, hp, by simpa using ht⟩)]
          rfl
theorem m_reason (hw : Wf c) (h : OkR c R) (hN : 10 ≤ N) {s f b v : Nat} (hs : s < 512) (hf : f < 10) (hb : b < 9) (hv : v ≤ 18) : f_X7_reason N R (nI s) (nI f) (nI b) (nI v) = some (nI (reasonN c s f b v)) := by
  unfold f_X7_reason reasonN
  rw [if_pos ((inb_nI (by omega)).mpr hb), gA_nI (by omega), h.2.2.1 b hb]
  cases hk : cS c b with
  | none =>
    rw [if_neg (show ¬ (0 : Int32) ≤ oI none by decide), if_pos rfl]
    rfl
  | some k =>
    have hk4 := (hw.2.2.2.1 b k hk).1
    rw [oI_some, if_pos (nI_pos' (by omega)), if_neg (fun z => by cases z), m_has (by omega) (by omega), bd_some, if10]
    by_cases ht : s.testBit b = true
    · rw [if_pos ht, if_pos ht]
      rfl
    · rw [if_neg ht, if_neg ht]
      exact m_reason_24 hw h hN hs hf hb hv hk N 0 (Nat.zero_le _) (by omega) (fun j hj => absurd hj (Nat.not_lt_zero j))
theorem m_standsBehind (hw : Wf c) (h : OkR c R) (hN : 10 ≤ N) {s b : Nat} (hb : b < 9) (hk : cS c b ≠ none) : f_X7_standsBehind N R (nI s) (nI b) = some (nI (madeS c s b)) := by
  unfold f_X7_standsBehind madeS useM
  rw [m_used hw h hN hb hk, bd_some]
  cases hu : usedN c b with
  | none =>
    rw [if_neg (show ¬ (0 : Int32) ≤ oI none by decide), nI_shl1 b (by omega), fa_or]
    simp [dl]
  | some o =>
    have ho := (used_lt hw hu).1
    have := hw.1
    rw [oI_some, if_pos (nI_pos' (by omega)), nI_shl1 o (by omega), nI_shl1 b (by omega), nI_andn, fa_or]
theorem m_freshBehind (hw : Wf c) (h : OkR c R) {b : Nat} (hb : b < 9) : f_X7_freshBehind R (nI b) = some (nI (madeF c b)) := by
  unfold f_X7_freshBehind madeF
  rw [if_pos ((inb_nI (by omega)).mpr hb), nI_1]
  by_cases h4 : cK c b = 4
  · rw [if_pos ((kd4 hw h hb).mpr h4), if_pos h4]
  · rw [if_neg (fun q => h4 ((kd4 hw h hb).mp q)), if_neg h4]
    rfl
theorem m_freshPoured {f b : Nat} (hf : f < 2 ^ 31) (hb : b < 9) : f_X7_freshPoured (nI f) (nI b) = some (nI (pourF f b)) := by
  unfold f_X7_freshPoured pourF
  rw [nI_1]
  by_cases h1 : f = b + 1
  · rw [if_pos (by rw [h1]), if_pos h1]
    rfl
  · rw [if_neg (fun q => h1 (nI_inj hf (by omega) q)), if_neg h1]
end RN
