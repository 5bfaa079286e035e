/-! ===== where an act leads, in the class ===== -/
theorem encD_ext {x : St} (hx : Fit x) {n : Nat} (h1 : ∀ i, i < 9 → n.testBit i = x.1.testBit i) (h2 : ∀ i, 9 ≤ i → i < 12 → n.testBit i = x.2.2.testBit (i - 9)) (h3 : ∀ i, 12 ≤ i → n.testBit i = x.2.1.testBit (i - 12)) : n = encD x := by
  refine nat_ext (fun i => ?_)
  rw [encD_bit hx]
  by_cases q : i < 9
  · rw [if_pos q, h1 i q]
  · rw [if_neg q]
    by_cases q2 : i < 12
    · rw [if_pos q2, h2 i (by omega) q2]
    · rw [if_neg q2, h3 i (by omega)]
theorem lt_bit {s n i : Nat} (hs : s < 2 ^ n) (hi : n ≤ i) : s.testBit i = false := Nat.testBit_lt_two_pow (Nat.lt_of_lt_of_le hs (Nat.pow_le_pow_right (by decide) hi))
theorem d_stands {x : St} (hx : Fit x) {b : Nat} (hb : b < 9) : f_X5_stands (nI b) (nI (encD x)) = some (if x.1.testBit b = true then 1 else 0) := by
  unfold f_X5_stands
  have he : (encD x).testBit b = x.1.testBit b := by rw [encD_bit hx, if_pos hb]
  rw [nI_shl1 b (by omega)]
  by_cases h : x.1.testBit b = true
  · rw [if_neg (fun z => by
      have := (fa_bit (by omega)).mp z
      rw [he, h] at this
      cases this), if_pos h]
  · rw [if_pos ((fa_bit (by omega)).mpr (by rw [he]; simpa using h)), if_neg h]
theorem mk4096 (n : Nat) : nI n &&& (4095 : Int32) = nI (n % 4096) := by
  rw [show (4095 : Int32) = nI (2 ^ 12 - 1) from rfl, fa_mask]
theorem shl12 : ∀ f, f < 10 → nI f <<< ((12 : Int32) &&& 31) = nI (4096 * f) := by decide +kernel
theorem mul4096_bit (f i : Nat) : (4096 * f).testBit i = (decide (12 ≤ i) && f.testBit (i - 12)) := by
  rw [show 4096 = 2 ^ 12 from rfl, Nat.testBit_two_pow_mul]
section LD
variable {c : Cfg} {D : Mm} {N : Nat}
theorem dkd4 (hw : Wf c) (h : OkD c D) {b : Nat} (hb : b < 9) : (gA D 11 (nI b) = 4) ↔ cK c b = 4 := by
  rw [gA_nI (by omega), h.2.1 b hb]
  have := hw.2.1 b
  exact nI_eq (b := 4) (by omega) (by decide)
theorem d_whenMade (hw : Wf c) (h : OkD c D) {x : St} (hx : Fit x) {b : Nat} (hb : b < 9) : f_X5_whenMade D (nI b) (nI (encD x)) = some (nI (encD (madeS c x.1 b, madeF c b, x.2.2))) := by
  have hin : inb (nI b) 9 := (inb_nI (by omega)).mpr hb
  have hu := useM_lt hw b
  have hfit : Fit (madeS c x.1 b, madeF c b, x.2.2) := by
    refine ⟨Nat.or_lt_two_pow (n := 9) (dl_lt hx.1) (Nat.pow_lt_pow_right (by decide) hb), ?_, hx.2.2⟩
    show madeF c b < 10
    unfold madeF
    split <;> omega
  have last : ∀ f, f = madeF c b → f_X5_whenMade_32 D (nI b) ((nI (encD x) &&& ((gA D 13 (nI b)) ^^^ (-1 : Int32))) &&& (4095 : Int32)) (nI f) = some (nI (encD (madeS c x.1 b, madeF c b, x.2.2))) := by
    intro f hf
    have hf10 : f < 10 := by rw [hf]; exact hfit.2.1
    unfold f_X5_whenMade_32
    rw [gA_nI (by omega), h.2.2.2.2.2.2.2.2.2.1 b hb, nI_andn, mk4096, nI_shl1 b (by omega), shl12 f hf10, fa_or, fa_or]
    congr 2
    refine encD_ext hfit (fun i hi => ?_) (fun i hi hi2 => ?_) (fun i hi => ?_)
    · rw [Nat.testBit_or, Nat.testBit_or, mul4096_bit, show 4096 = 2 ^ 12 from rfl, Nat.testBit_mod_two_pow, dl_bit, encD_bit hx, if_pos hi, Nat.testBit_two_pow]
      show _ = (dl x.1 (useM c b) ||| 2 ^ b).testBit i
      rw [Nat.testBit_or, dl_bit, Nat.testBit_two_pow]
      have h1 : i < 12 := by omega
      have h2 : ¬ 12 ≤ i := by omega
      simp [h1, h2]
    · rw [Nat.testBit_or, Nat.testBit_or, mul4096_bit, show 4096 = 2 ^ 12 from rfl, Nat.testBit_mod_two_pow, dl_bit, encD_bit hx, if_neg (by omega), if_pos hi2, Nat.testBit_two_pow, lt_bit (n := 9) hu hi]
      have h2 : ¬ 12 ≤ i := by omega
      have h3 : ¬ b = i := by omega
      simp [hi2, h2, h3]
    · rw [Nat.testBit_or, Nat.testBit_or, mul4096_bit, show 4096 = 2 ^ 12 from rfl, Nat.testBit_mod_two_pow, Nat.testBit_two_pow]
      have h2 : ¬ i < 12 := by omega
      have h3 : ¬ b = i := by omega
      simp [h2, h3, hi, hf]
  unfold f_X5_whenMade
  rw [if_pos hin, if_pos hin]
  by_cases h4 : cK c b = 4
  · rw [if_pos ((dkd4 hw h hb).mpr h4), nI_1]
    exact last (b + 1) (by unfold madeF; rw [if_pos h4])
  · rw [if_neg (fun q => h4 ((dkd4 hw h hb).mp q))]
    exact last 0 (by unfold madeF; rw [if_neg h4])
theorem pow_inj2 {a b : Nat} (h : 2 ^ a = 2 ^ b) : a = b := (Nat.pow_right_inj (by decide : 1 < 2)).mp h
theorem d_whenPoured {x : St} (hx : Fit x) {b : Nat} (hb : b < 9) : f_X5_whenPoured (nI b) (nI (encD x)) = some (nI (encD (dl x.1 (2 ^ b), pourF x.2.1 b, x.2.2))) := by
  have hp : 2 ^ b < 512 := Nat.pow_lt_pow_right (by decide) hb
  have hf := hx.2.1
  have hfit : Fit (dl x.1 (2 ^ b), pourF x.2.1 b, x.2.2) := by
    refine ⟨dl_lt (k := 9) hx.1, ?_, hx.2.2⟩
    show pourF x.2.1 b < 10
    unfold pourF
    split <;> omega
  have hfr : (frM x.2.1 = 2 ^ b) ↔ x.2.1 = b + 1 := by
    unfold frM
    by_cases h0 : x.2.1 = 0
    · rw [if_pos h0]
      constructor
      · intro z
        have := Nat.two_pow_pos b
        omega
      · intro z; omega
    · rw [if_neg h0]
      constructor
      · intro z
        have := pow_inj2 z
        omega
      · intro z
        rw [z]
        rfl
  have hfl := frM_lt hf
  unfold f_X5_whenPoured
  rw [d_freshBit hx, bd_some, nI_shl1 b (by omega), nI_andn, mk4096]
  by_cases hq : x.2.1 = b + 1
  · rw [if_pos (by rw [hfr.mpr hq])]
    congr 2
    have hpf : pourF x.2.1 b = 0 := by unfold pourF; rw [if_pos hq]
    refine encD_ext hfit (fun i hi => ?_) (fun i hi hi2 => ?_) (fun i hi => ?_)
    · rw [show 4096 = 2 ^ 12 from rfl, Nat.testBit_mod_two_pow, dl_bit, encD_bit hx, if_pos hi]
      show _ = (dl x.1 (2 ^ b)).testBit i
      rw [dl_bit]
      have h1 : i < 12 := by omega
      simp [h1]
    · rw [show 4096 = 2 ^ 12 from rfl, Nat.testBit_mod_two_pow, dl_bit, encD_bit hx, if_neg (by omega), if_pos hi2, Nat.testBit_two_pow]
      have h3 : ¬ b = i := by omega
      simp [hi2, h3]
    · rw [show 4096 = 2 ^ 12 from rfl, Nat.testBit_mod_two_pow]
      have h2 : ¬ i < 12 := by omega
      simp [h2, hpf]
  · rw [if_neg (fun z => hq (hfr.mp (nI_inj (by omega) (by omega) z)))]
    congr 2
    have hpf : pourF x.2.1 b = x.2.1 := by unfold pourF; rw [if_neg hq]
    refine encD_ext hfit (fun i hi => ?_) (fun i hi hi2 => ?_) (fun i hi => ?_)
    · rw [dl_bit, encD_bit hx, if_pos hi]
      show _ = (dl x.1 (2 ^ b)).testBit i
      rw [dl_bit]
    · rw [dl_bit, encD_bit hx, if_neg (by omega), if_pos hi2, Nat.testBit_two_pow]
      have h3 : ¬ b = i := by omega
      simp [h3]
    · rw [dl_bit, encD_bit hx, if_neg (by omega), if_neg (by omega), Nat.testBit_two_pow]
      have h3 : ¬ b = i := by omega
      simp [h3, hpf]
theorem stoodM_lt (hw : Wf c) (s : Nat) : stoodM c s < 8 := Nat.lt_of_lt_of_le (bm_lt _ _) (pow_le_8 hw.2.2.2.2.2.1)
theorem or_h {x : St} (hx : Fit x) {q i : Nat} (hi : i < 3) (hq : q < 8) (h : x.2.2 ||| q ||| 2 ^ i < 8) : nI (encD (x.1, x.2.1, x.2.2 ||| q)) ||| nI (2 ^ (9 + i)) = nI (encD (x.1, x.2.1, x.2.2 ||| q ||| 2 ^ i)) := by
  have f1 : Fit (x.1, x.2.1, x.2.2 ||| q) := ⟨hx.1, hx.2.1, Nat.or_lt_two_pow (n := 3) hx.2.2 hq⟩
  rw [fa_or]
  congr 1
  refine encD_ext (x := (x.1, x.2.1, x.2.2 ||| q ||| 2 ^ i)) ⟨hx.1, hx.2.1, h⟩ (fun j hj => ?_) (fun j hj hj2 => ?_) (fun j hj => ?_)
  · rw [Nat.testBit_or, encD_bit f1, if_pos hj, Nat.testBit_two_pow]
    have : ¬ 9 + i = j := by omega
    simp [this]
  · rw [Nat.testBit_or, encD_bit f1, if_neg (by omega), if_pos hj2, Nat.testBit_two_pow]
    show ((x.2.2 ||| q).testBit (j - 9) || _) = (x.2.2 ||| q ||| 2 ^ i).testBit (j - 9)
    rw [Nat.testBit_or (x.2.2 ||| q), Nat.testBit_two_pow]
    congr 1
    by_cases z : i = j - 9
    · rw [decide_eq_true z, decide_eq_true (by omega)]
    · rw [decide_eq_false z, decide_eq_false (by omega)]
  · rw [Nat.testBit_or, encD_bit f1, if_neg (by omega), if_neg (by omega), Nat.testBit_two_pow]
    have : ¬ 9 + i = j := by omega
    simp [this]
theorem d_withStood_22 (hw : Wf c) (h : OkD c D) {x : St} (hx : Fit x) : ∀ (n i : Nat), i ≤ cG c → cG c < n + i → f_X5_withStood_22 N D n (nI (encD x)) (nI (encD (x.1, x.2.1, x.2.2 ||| bm (fun i => x.1.testBit (cg c i)) i))) (nI i) = some (nI (encD (x.1, x.2.1, x.2.2 ||| stoodM c x.1)))
  | 0, i, h1, h2 => by omega
  | n + 1, i, h1, h2 => by
    have hg := hw.2.2.2.2.2.1
    rw [f_X5_withStood_22, show gI D 7 = nI (cG c) from h.2.2.2.2.2.2.2.2.2.2.1]
    by_cases hi : i = cG c
    · subst hi
      rw [if_pos (nI_le (Nat.le_refl _) (by omega))]
      rfl
    · have hgi := hw.2.2.2.2.2.2.1 i (by omega)
      have hnb := hw.1
      have key := d_withStood_22 hw h hx n (i + 1) (by omega) (by omega)
      have hbm : bm (fun i => x.1.testBit (cg c i)) i < 8 := Nat.lt_of_lt_of_le (bm_lt _ _) (pow_le_8 (by omega))
      rw [if_neg (nI_ge (a := i) (b := cG c) (by omega) (by omega)), if_pos ((inb_nI (by omega)).mpr (by omega)), gA_nI (by omega), h.2.2.2.2.2.2.2.2.2.2.2.1 i (by omega), d_stands hx (by omega), bd_some, if10, nI_1]
      by_cases hb : x.1.testBit (cg c i) = true
      · rw [if_pos hb, show ((9 : Int32) + nI i) = nI (9 + i) from nI_add 9 i, nI_shl1 (9 + i) (by omega), or_h hx (by omega) hbm (Nat.or_lt_two_pow (n := 3) (Nat.or_lt_two_pow (n := 3) hx.2.2 hbm) (Nat.pow_lt_pow_right (by decide) (by omega))), ← key, bm, if_pos hb, Nat.or_assoc]
      · rw [if_neg hb, ← key, bm, if_neg hb, Nat.or_zero]
theorem d_withStood (hw : Wf c) (h : OkD c D) (hN : 10 ≤ N) {x : St} (hx : Fit x) : f_X5_withStood N D (nI (encD x)) = some (nI (encD (x.1, x.2.1, stoodN c x.2.2 x.1))) := by
  have hg := hw.2.2.2.2.2.1
  unfold f_X5_withStood stoodN
  have h9 : gI D 9 = zI (cT c) := h.2.2.2.2.2.2.2.2.2.2.2.2.2
  have h8 : gI D 8 = nI (goalM c) := h.2.2.2.2.2.2.2.2.2.2.2.2.1
  have hgl : goalM c < 2 ^ 9 := bm_lt _ 9
  cases ht : cT c with
  | true =>
    rw [if_neg (by rw [h9, ht]; decide)]
    rfl
  | false =>
    rw [if_pos (by rw [h9, ht]; rfl), h8, fa_and]
    have hz : (encD x &&& goalM c = 0) → stoodM c x.1 = 0 := by
      intro h1
      refine nat_ext (fun i => ?_)
      rw [stoodM, bm_bit, Nat.zero_testBit]
      by_cases hi : i < cG c
      · have hgi := hw.2.2.2.2.2.2.1 i hi
        have hnb := hw.1
        have h2 := (and_bm _).mp h1 (cg c i) (by omega)
        rw [encD_bit hx, if_pos (by omega)] at h2
        cases h3 : x.1.testBit (cg c i) with
        | false => simp
        | true => exact absurd ⟨h3, (anyN_iff _ _).mpr ⟨i, hi, by simp⟩⟩ h2
      · simp [hi]
    by_cases hq : encD x &&& goalM c = 0
    · rw [if_pos (by rw [hq]; rfl), hz hq]
      simp
    · rw [if_neg (fun z => hq ((nI_z (Nat.lt_of_le_of_lt Nat.and_le_right (by omega))).mp z))]
      have key := d_withStood_22 (N := N) hw h hx N 0 (by omega) (by omega)
      rw [bm, Nat.or_zero] at key
      exact key
theorem reason_le (s f b v : Nat) : reasonN c s f b v ≤ 5 := by
  unfold reasonN
  repeat (split; · omega)
  omega
theorem d_lead (hw : Wf c) (h : OkD c D) (hN : 10 ≤ N) {x : St} {a v : Nat} (hx : Fit x) (hs : x.1 < 2 ^ cN c) (ha : a < 18) (hv : v ≤ 18) : f_X5_lead N D (nI (encD x)) (nI a) (nI v) = some (leadI encD (nextN c v x a)) := by
  have hnb := hw.1
  unfold f_X5_lead nextN
  by_cases ha9 : a < 9
  · have hm : a % 9 = a := Nat.mod_eq_of_lt ha9
    rw [hm, if_neg (show ¬ (9 : Int32) ≤ nI a from nI_ge (b := 9) ha9 (by decide)), d_hindrance hw h hx ha9 hv, bd_some]
    have hr5 := reason_le (c := c) x.1 x.2.1 a v
    by_cases hr : reasonN c x.1 x.2.1 a v = 0
    · have hS : a < cN c := by
        refine Nat.lt_of_not_le (fun q => ?_)
        have : cS c a = none := by
          cases z : cS c a with
          | none => rfl
          | some k => have := (hw.2.2.2.1 a k z).2; omega
        unfold reasonN at hr
        rw [if_pos this] at hr
        cases hr
      have hfit : Fit (madeS c x.1 a, madeF c a, x.2.2) := by
        refine ⟨Nat.or_lt_two_pow (n := 9) (dl_lt hx.1) (Nat.pow_lt_pow_right (by decide) ha9), ?_, hx.2.2⟩
        show madeF c a < 10
        unfold madeF
        split <;> omega
      rw [if_pos (by rw [hr]; rfl), d_whenMade hw h hx ha9, bd_some, d_withStood hw h hN hfit, bd_some, if_neg (by omega), if_pos ha9, if_pos hr]
      rfl
    · rw [if_neg (show ¬ nI (reasonN c x.1 x.2.1 a v) = 0 from fun z => hr (nI_inj (b := 0) (by omega) (by decide) z))]
      by_cases hn : cN c ≤ a
      · rw [if_pos hn]; rfl
      · rw [if_neg hn, if_pos ha9, if_neg hr]; rfl
  · have hm : a % 9 = a - 9 := by omega
    rw [hm, if_pos (show (9 : Int32) ≤ nI a from nI_le (a := 9) (by omega) (by omega)), show nI a - (9 : Int32) = nI (a - 9) from nI_sub (b := 9) (by omega) (by omega), d_stands hx (by omega), bd_some, if10]
    by_cases ht : x.1.testBit (a - 9) = true
    · have hlt := testBit_lt hs ht
      have hfit : Fit (dl x.1 (2 ^ (a - 9)), pourF x.2.1 (a - 9), x.2.2) := by
        refine ⟨dl_lt (k := 9) hx.1, ?_, hx.2.2⟩
        show pourF x.2.1 (a - 9) < 10
        unfold pourF
        have := hx.2.1
        split <;> omega
      rw [if_pos ht, d_whenPoured hx (by omega), bd_some, d_withStood hw h hN hfit, bd_some, if_neg (by omega), if_neg ha9, if_pos ht]
      rfl
    · rw [if_neg ht]
      by_cases hn : cN c ≤ a - 9
      · rw [if_pos hn]; rfl
      · rw [if_neg hn, if_neg ha9, if_neg ht]; rfl
end LD
