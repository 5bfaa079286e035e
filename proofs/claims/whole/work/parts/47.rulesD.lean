/-! ===== the class's rules are the acts ===== -/
theorem add_bit {s q k i : Nat} (hs : s < 2 ^ k) : (s + 2 ^ k * q).testBit i = if i < k then s.testBit i else q.testBit (i - k) := by
  rw [Nat.add_comm, Nat.testBit_two_pow_mul_add q hs]
theorem encD_bit {x : St} (hx : Fit x) (i : Nat) : (encD x).testBit i = if i < 9 then x.1.testBit i else if i < 12 then x.2.2.testBit (i - 9) else x.2.1.testBit (i - 12) := by
  have e : encD x = x.1 + 2 ^ 9 * (x.2.2 + 2 ^ 3 * x.2.1) := by unfold encD; omega
  rw [e, add_bit (k := 9) hx.1]
  by_cases h : i < 9
  · rw [if_pos h, if_pos h]
  · rw [if_neg h, if_neg h, add_bit (k := 3) hx.2.2]
    by_cases h2 : i < 12
    · rw [if_pos h2, if_pos (by omega)]
    · rw [if_neg h2, if_neg (by omega), show i - 9 - 3 = i - 12 by omega]
theorem encD_lt {x : St} (hx : Fit x) : encD x < 40960 := by
  obtain ⟨h1, h2, h3⟩ := hx
  unfold encD
  omega
theorem encM_lt {x : St} (hx : Fit x) : encM x < 40960 := by
  obtain ⟨h1, h2, h3⟩ := hx
  unfold encM
  omega
def frM (f : Nat) : Nat := if f = 0 then 0 else 2 ^ (f - 1)
theorem d_fresh1 : ∀ f, f < 10 → nI (2 ^ f) >>> ((1 : Int32) &&& 31) = nI (frM f) := by decide +kernel
theorem d_freshBit {x : St} (hx : Fit x) : f_X5_freshBit (nI (encD x)) = some (nI (frM x.2.1)) := by
  unfold f_X5_freshBit
  have he := encD_lt hx
  rw [show (12 : Int32) = nI 12 from rfl, nI_shr (by omega) (by decide)]
  have e : encD x / 2 ^ 12 = x.2.1 := by
    obtain ⟨h1, h2, h3⟩ := hx
    unfold encD
    omega
  have h2 := hx.2.1
  rw [e, nI_shl1 _ (by omega), d_fresh1 _ h2]
theorem frM_bit {f : Nat} (i : Nat) : (frM f).testBit i = decide (f = i + 1) := by
  unfold frM
  by_cases h : f = 0
  · rw [if_pos h]
    simp [h]
  · rw [if_neg h, Nat.testBit_two_pow]
    by_cases h2 : f = i + 1
    · simp [h2]
    · simp [h2]; omega
theorem frM_lt {f : Nat} (h : f < 10) : frM f < 512 := by
  unfold frM
  split
  · decide
  · exact Nat.lt_of_lt_of_le (Nat.pow_lt_pow_right (by decide) (show f - 1 < 9 by omega)) (by decide)
def ctN (x : Nat) : Nat := fb_ct (fun b => x.testBit b) 9
set_option maxRecDepth 100000 in
theorem d_bitCount : ∀ x, x < 512 → f_J6_bitCount_0f7a4 (nI x) = some (nI (ctN x)) := by decide +kernel
theorem ct_sm (p : Nat → Bool) : ∀ n, fb_ct p n = fb_sm (fun k => if p k = true then 1 else 0) n
  | 0 => rfl
  | n + 1 => by rw [fb_ct_succ, fb_sm_succ, ct_sm p n]
section RD
variable {c : Cfg} {D : Mm} {N : Nat}
theorem fill_ct (s f : Nat) : fb_sm (fillN c s f) 9 = ctN s + ctN (s &&& (bm (fun b => decide (cK c b = 2)) 9 ||| frM f)) := by
  unfold ctN
  rw [ct_sm, ct_sm, ← fb_sm_add]
  refine fb_sm_cong (fun b hb => ?_)
  rw [Nat.testBit_and, Nat.testBit_or, bm_bit, frM_bit]
  unfold fillN
  cases s.testBit b with
  | false => simp
  | true =>
    by_cases h1 : cK c b = 2
    · simp [h1, hb]
    · by_cases h2 : f = b + 1
      · simp [h1, h2]
      · simp [h1, h2]
theorem d_filledBy (h : OkD c D) {x : St} (hx : Fit x) {so : Nat} (hs : so < 512) : f_X5_filledBy D (nI so) (nI (encD x)) = some (nI (fb_sm (fillN c so x.2.1) 9)) := by
  unfold f_X5_filledBy
  rw [d_freshBit hx, bd_some, d_bitCount so hs, bd_some, show gI D 5 = nI (bm (fun b => decide (cK c b = 2)) 9) from h.2.2.2.2.2.2.1, fa_or, fa_and, d_bitCount _ (Nat.lt_of_le_of_lt Nat.and_le_left hs), bd_some, nI_add, fill_ct]
theorem fill_dl (hw : Wf c) (s f b : Nat) : fb_sm (fillN c (dl s (useM c b)) f) 9 + fillU c s f b = fb_sm (fillN c s f) 9 := by
  unfold fillU
  cases hu : usedN c b with
  | none =>
    have : dl s (useM c b) = s := by simp [useM, hu, dl]
    rw [this]
    rfl
  | some o =>
    have ho := (used_lt hw hu).1
    have h9 := hw.1
    have key := fb_sm_upd (fillN c s f) 0 (i := o) (n := 9) (by omega)
    have e : fb_sm (fillN c (dl s (useM c b)) f) 9 = fb_sm (fun k => if k = o then 0 else fillN c s f k) 9 := by
      refine fb_sm_cong (fun k hk => ?_)
      unfold fillN
      rw [dl_bit, useM_bit, hu]
      by_cases hko : k = o
      · subst hko; simp
      · rw [if_neg hko]
        have : ¬ o = k := fun z => hko z.symm
        simp [this]
    rw [e]
    omega
theorem and_bm {s : Nat} (p : Nat → Bool) : (s &&& bm p 9 = 0) ↔ ∀ i, i < 9 → ¬ (s.testBit i = true ∧ p i = true) := by
  constructor
  · intro h i hi ⟨h1, h2⟩
    have := congrArg (fun z => z.testBit i) h
    simp only [Nat.testBit_and, bm_bit, h1, h2, hi, Nat.zero_testBit] at this
    simp at this
  · intro h
    refine nat_ext (fun i => ?_)
    rw [Nat.testBit_and, bm_bit, Nat.zero_testBit]
    by_cases hi : i < 9
    · have := h i hi
      cases h1 : s.testBit i with
      | false => simp
      | true =>
        cases h2 : p i with
        | false => simp
        | true => exact absurd ⟨h1, h2⟩ this
    · simp [hi]
theorem and_pow {s b : Nat} : (s &&& 2 ^ b = 0) ↔ s.testBit b = false := fb_bit_nat s b
theorem nI_z {a : Nat} (ha : a < 2 ^ 31) : (nI a = 0) ↔ a = 0 := nI_eq (b := 0) ha (by decide)
theorem d_hindrance (hw : Wf c) (h : OkD c D) {x : St} {b v : Nat} (hx : Fit x) (hb : b < 9) (hv : v ≤ 18) : f_X5_hindrance D (nI b) (nI (encD x)) (nI v) = some (nI (reasonN c x.1 x.2.1 b v)) := by
  obtain ⟨s, f, h0⟩ := x
  obtain ⟨hs, hf, hh⟩ : s < 512 ∧ f < 10 ∧ h0 < 8 := hx
  have hx : Fit (s, f, h0) := ⟨hs, hf, hh⟩
  show f_X5_hindrance D (nI b) (nI (encD (s, f, h0))) (nI v) = some (nI (reasonN c s f b v))
  have hp : 2 ^ b < 512 := Nat.pow_lt_pow_right (by decide) hb
  have e511 : nI (encD (s, f, h0)) &&& (511 : Int32) = nI s := by
    rw [show (511 : Int32) = nI (2 ^ 9 - 1) from rfl, fa_mask]
    congr 1
    show (s + 512 * h0 + 4096 * f) % 512 = s
    omega
  unfold f_X5_hindrance
  rw [e511, nI_shl1 b (by omega), show gI D 3 = nI (bm (fun b => (cS c b).isSome) 9) from h.2.2.2.2.1, show gI D 4 = nI (bm (fun b => decide (cK c b = 3)) 9) from h.2.2.2.2.2.1, gA_nI (by omega), gA_nI (by omega), h.2.2.2.2.2.2.2.2.1 b hb, h.2.2.2.2.2.2.2.2.2.1 b hb]
  have hin : inb (nI b) 9 := (inb_nI (by omega)).mpr hb
  have hst : dl s (useM c b) < 512 := dl_lt (k := 9) hs
  have hbs := bm_lt (fun b => decide (cK c b = 3)) 9
  have hbr := bm_lt (fun b => (cS c b).isSome) 9
  have hnm : needM c b < 2 ^ 9 := bm_lt (needs c b) 9
  rw [fa_and, fa_and, nI_andn, nI_andn, fa_and, fa_and]
  unfold reasonN
  cases hS : cS c b with
  | none =>
    rw [if_pos ((nI_z (Nat.lt_of_le_of_lt Nat.and_le_left (by omega))).mpr (and_pow.mpr (by rw [bm_bit]; simp [hS]))), if_pos rfl]
    rfl
  | some k =>
    rw [if_neg (fun z => by
      have := (and_pow (b := b)).mp ((nI_z (Nat.lt_of_le_of_lt Nat.and_le_left (by omega))).mp z)
      rw [bm_bit] at this
      simp [hS, hb] at this), if_neg (show ¬ (some k : Option Nat) = none from Option.some_ne_none k)]
    by_cases ht : s.testBit b = true
    · rw [if_neg (fun z => by
        have := (and_pow (b := b)).mp ((nI_z (Nat.lt_of_le_of_lt Nat.and_le_left (by omega))).mp z)
        rw [ht] at this
        cases this), if_pos ht]
      rfl
    · rw [if_pos ((nI_z (Nat.lt_of_le_of_lt Nat.and_le_left (by omega))).mpr (and_pow.mpr (by simpa using ht))), if_neg ht, if_pos hin]
      have hneed : (dl (needM c b) s = 0) ↔ ¬ anyN (fun o => needs c b o && !s.testBit o) 9 = true := by
        rw [anyN_iff]
        constructor
        · rintro h1 ⟨o, ho, h2⟩
          have := congrArg (fun z => z.testBit o) h1
          rw [Bool.and_eq_true] at h2
          simp only [dl_bit, needM, bm_bit, ho, h2.1, Nat.zero_testBit] at this
          simp at this
          simp [this] at h2
        · intro h1
          refine nat_ext (fun o => ?_)
          rw [dl_bit, needM, bm_bit, Nat.zero_testBit]
          by_cases ho : o < 9
          · cases h2 : needs c b o with
            | false => simp
            | true =>
              cases h3 : s.testBit o with
              | true => simp
              | false => exact absurd ⟨o, ho, by simp [h2, h3]⟩ h1
          · simp [ho]
      by_cases hn : anyN (fun o => needs c b o && !s.testBit o) 9 = true
      · rw [if_neg (fun z => hneed.mp ((nI_z (Nat.lt_trans (dl_lt (k := 9) hnm) (by decide))).mp z) hn), if_pos hn]
        rfl
      · rw [if_pos ((nI_z (Nat.lt_trans (dl_lt (k := 9) hnm) (by decide))).mpr (hneed.mpr hn)), if_neg hn, if_pos hin]
        have fin : f_X5_hindrance_85 D (nI (encD (s, f, h0))) (nI v) (nI (2 ^ b)) (nI (dl s (useM c b))) = some (nI (if v + fillU c s f b < fb_sm (fillN c s f) 9 + wantN c b then 5 else 0)) := by
          have hfd := fill_dl hw s f b
          have hle := filled_le (c := c) (dl s (useM c b)) f
          have f105 : ∀ w, w ≤ 2 → f_X5_hindrance_105 D (nI (encD (s, f, h0))) (nI v) (nI (dl s (useM c b))) (nI w) = some (nI (if v + fillU c s f b < fb_sm (fillN c s f) 9 + w then 5 else 0)) := by
            intro w hw2
            unfold f_X5_hindrance_105
            rw [d_filledBy h hx hst, bd_some]
            show (if nI w ≤ nI v - nI (fb_sm (fillN c (dl s (useM c b)) f) 9) then _ else _) = _
            by_cases q : fb_sm (fillN c (dl s (useM c b)) f) 9 + w ≤ v
            · rw [if_pos ((cmp_room' (by omega) (by omega) (by omega)).mpr q), if_neg (by omega)]
              rfl
            · rw [if_neg (fun z => q ((cmp_room' (by omega) (by omega) (by omega)).mp z)), if_pos (by omega)]
              rfl
          unfold f_X5_hindrance_85 wantN
          rw [show gI D 5 = nI (bm (fun b => decide (cK c b = 2)) 9) from h.2.2.2.2.2.2.1, show gI D 6 = nI (bm (fun b => decide (cK c b = 4)) 9) from h.2.2.2.2.2.2.2.1, fa_or, fa_and]
          have hz : ((bm (fun b => decide (cK c b = 2)) 9 ||| bm (fun b => decide (cK c b = 4)) 9) &&& 2 ^ b = 0) ↔ ¬ (cK c b = 2 ∨ cK c b = 4) := by
            rw [and_pow, Nat.testBit_or, bm_bit, bm_bit]
            simp [hb]
          have hzl : (bm (fun b => decide (cK c b = 2)) 9 ||| bm (fun b => decide (cK c b = 4)) 9) &&& 2 ^ b < 2 ^ 31 := Nat.lt_of_le_of_lt Nat.and_le_right (by omega)
          by_cases hk : cK c b = 2 ∨ cK c b = 4
          · rw [if_neg (fun z => hz.mp ((nI_z hzl).mp z) hk), if_pos hk]
            exact f105 2 (by omega)
          · rw [if_pos ((nI_z hzl).mpr (hz.mpr hk)), if_neg hk]
            exact f105 1 (by omega)
        by_cases hk3 : cK c b = 3
        · rw [if_neg (fun z => by
            have := (and_pow (b := b)).mp ((nI_z (Nat.lt_of_le_of_lt Nat.and_le_left (by omega))).mp z)
            rw [bm_bit] at this
            simp [hk3, hb] at this)]
          have hstr : (bm (fun b => decide (cK c b = 3)) 9 &&& dl s (useM c b) = 0) ↔ ¬ strongN c s b = true := by
            rw [Nat.and_comm, and_bm]
            constructor
            · intro h1 h2
              obtain ⟨o, ho, hq⟩ := (anyN_iff _ _).mp h2
              simp only [Bool.and_eq_true, decide_eq_true_eq, Bool.not_eq_true', decide_eq_false_iff_not] at hq
              have h9 := hw.1
              refine h1 o (by omega) ⟨?_, by simp [hq.1.1]⟩
              rw [dl_bit, useM_bit]
              simp [hq.1.2, hq.2]
            · rintro h1 o ho ⟨h2, h3⟩
              rw [dl_bit, useM_bit] at h2
              simp only [Bool.and_eq_true, Bool.not_eq_true', decide_eq_false_iff_not] at h2
              have h4 : cK c o = 3 := of_decide_eq_true h3
              have h5 : o < cN c := Nat.lt_of_not_le (fun q => by rw [hw.2.2.1 o q] at h4; cases h4)
              exact h1 ((anyN_iff _ _).mpr ⟨o, h5, by simp [h4, h2.1, h2.2]⟩)
          by_cases hsn : strongN c s b = true
          · rw [if_neg (fun z => hstr.mp ((nI_z (Nat.lt_of_le_of_lt Nat.and_le_left (by omega))).mp z) hsn), if_pos ⟨hk3, hsn⟩]
            rfl
          · rw [if_pos ((nI_z (Nat.lt_of_le_of_lt Nat.and_le_left (by omega))).mpr (hstr.mpr hsn)), if_neg (fun z => hsn z.2)]
            exact fin
        · rw [if_pos ((nI_z (Nat.lt_of_le_of_lt Nat.and_le_left (by omega))).mpr (and_pow.mpr (by rw [bm_bit]; simp [hk3]))), if_neg (fun z => hk3 z.1)]
          exact fin
end RD
