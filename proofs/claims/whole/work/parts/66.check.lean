/-! ===== scenes as bits of the row; check ===== -/
def kst (k : Nat) : St := (k % 512, 0, k / 512)
def kx (c : Cfg) (v k a : Nat) : Option Nat := Option.map encD (nextN c v (kst k) a)
theorem kst_fit {k : Nat} (hk : k < 4096) : Fit (kst k) := ⟨Nat.mod_lt _ (by decide), (by decide : 0 < 10), by show k / 512 < 8; omega⟩
theorem kst_enc {k : Nat} : encD (kst k) = k := by
  unfold encD kst
  show k % 512 + 512 * (k / 512) + 4096 * 0 = k
  omega
theorem leadI_oI (o : Option St) : leadI encD o = oI (Option.map encD o) := by cases o <;> rfl
theorem madeS_lt {c : Cfg} {s b n : Nat} (hs : s < 2 ^ n) (hb : b < n) : madeS c s b < 2 ^ n := Nat.or_lt_two_pow (dl_lt hs) (Nat.pow_lt_pow_right (by decide) hb)
theorem next_lt {c : Cfg} {v a : Nat} {x y : St} (hs : x.1 < 2 ^ cN c) (h : nextN c v x a = some y) : y.1 < 2 ^ cN c := by
  unfold nextN at h
  by_cases z : cN c ≤ a % 9
  · rw [if_pos z] at h; cases h
  · rw [if_neg z] at h
    by_cases q : a < 9
    · rw [if_pos q] at h
      split at h
      · cases h; exact madeS_lt hs (by omega)
      · cases h
    · rw [if_neg q] at h
      split at h
      · cases h; exact dl_lt hs
      · cases h
theorem next_plain {c : Cfg} {v a : Nat} {x y : St} (hp : plainN c (cN c) = true) (hx : x.2.1 = 0) (h : nextN c v x a = some y) : y.2.1 = 0 := by
  unfold nextN at h
  by_cases z : cN c ≤ a % 9
  · rw [if_pos z] at h; cases h
  · rw [if_neg z] at h
    by_cases q : a < 9
    · rw [if_pos q] at h
      split at h
      · cases h
        show madeF c (a % 9) = 0
        unfold madeF
        exact if_neg ((plainN_iff c _).mp hp (a % 9) (by omega)).2
      · cases h
    · rw [if_neg q] at h
      split at h
      · cases h
        show pourF x.2.1 (a % 9) = 0
        unfold pourF
        rw [hx]
        exact if_neg (by omega)
      · cases h
section KX
variable {c : Cfg} {D R : Mm} {N v : Nat}
theorem kx_some (hw : Wf c) (hp : plainN c (cN c) = true) {k a j : Nat} (hk : k < 4096) (h : kx c v k a = some j) : j < 4096 ∧ (k % 512 < 2 ^ cN c → j % 512 < 2 ^ cN c) := by
  unfold kx at h
  cases hx : nextN c v (kst k) a with
  | none => rw [hx] at h; cases h
  | some y =>
    rw [hx] at h
    cases h
    have h1 := fit_next hw (kst_fit hk) hx
    have h2 := next_plain hp rfl hx
    obtain ⟨h3, h4, h5⟩ := h1
    have h6 : encD y = y.1 + 512 * y.2.2 := by unfold encD; rw [h2]; omega
    refine ⟨by omega, fun hs => ?_⟩
    have h7 := next_lt (x := kst k) hs hx
    rw [h6]
    rw [show (y.1 + 512 * y.2.2) % 512 = y.1 by omega]
    exact h7
theorem d_bit (hw : Wf c) (h : OkD c D) (hN : 20 ≤ N) (hv : v ≤ 18) {k a : Nat} (hk : k < 4096) (hs : k % 512 < 2 ^ cN c) (ha : a < 18) : f_X5_lead N D (nI k) (nI a) (nI v) = some (oI (kx c v k a)) := by
  have := d_lead (N := N) hw h (by omega) (kst_fit hk) hs ha hv
  rw [kst_enc, leadI_oI] at this
  exact this
theorem m_bit (hw : Wf c) (h : OkR c R) (hN : 20 ≤ N) (hv : v ≤ 18) (hp : plainN c (cN c) = true) {k a : Nat} (hk : k < 4096) (ha : a < 18) : f_X7_bitBehind N R (nI k) (nI a) (nI v) = some (oI (kx c v k a)) := by
  unfold f_X7_bitBehind
  have e : (nI k - nI k / (512 : Int32) * (512 : Int32)) + ((5120 : Int32) * (nI k / (512 : Int32))) = nI (encM (kst k)) := by
    rw [rem512 (by omega), div512 (by omega)]
    have := nI_encM (k % 512) 0 (k / 512)
    rw [show (nI (k % 512) + (512 : Int32) * nI 0) = nI (k % 512) from by rw [show (512 : Int32) * nI 0 = nI 0 from rfl, nI_add]; rfl] at this
    exact this
  rw [e, m_behind (N := N) hw h (by omega) (kst_fit hk) ha hv, bd_some]
  unfold kx
  cases hx : nextN c v (kst k) a with
  | none => rfl
  | some y =>
    obtain ⟨h3, h4, h5⟩ := fit_next hw (kst_fit hk) hx
    have h2 := next_plain hp rfl hx
    have hl : encM y < 2 ^ 31 := by unfold encM; omega
    show (if 0 ≤ nI (encM y) then some ((nI (encM y) - nI (encM y) / (512 : Int32) * (512 : Int32)) + ((512 : Int32) * (nI (encM y) / (5120 : Int32)))) else some (-1)) = some (nI (encD y))
    rw [if_pos (show (0 : Int32) ≤ nI (encM y) from nI_le (a := 0) (Nat.zero_le _) hl), rem512 hl, div5120 hl, show (512 : Int32) = nI 512 from rfl, nI_mul, nI_add]
    congr 2
    unfold encM encD
    rw [h2]
    omega
def hgN (c : Cfg) : Nat := if cT c = true then 0 else cG c
def knownN (c : Cfg) (k : Nat) : Bool := decide (k % 512 < 2 ^ cN c) && decide (k / 512 < 2 ^ hgN c)
def badN (c : Cfg) (v : Nat) (A : Nat → Int32) (k : Nat) : Nat → Bool := fun a => match kx c v k a with
  | none => false
  | some j => decide (A j = 0)
def lossF : Option Nat → Nat
  | none => 0
  | some _ => 4
def faultN (c : Cfg) (v : Nat) (A : Nat → Int32) (k : Nat) : Nat := if endN c (kst k) = true then 2 else if knownN c k = true then lossF (frst (badN c v A k) 0 18) else 3
theorem d_isRowBit (k : Nat) (hk : k < 4096) : f_X6_isRowBit (nI k) = some 1 := by
  unfold f_X6_isRowBit
  rw [if_neg (nI_pos (by omega)), if_neg (show ¬ (4096 : Int32) ≤ nI k from nI_ge (b := 4096) hk (by decide))]
theorem d_faultOf_28 (hw : Wf c) (h : OkD c D) (hN : 20 ≤ N) (hv : v ≤ 18) (hp : plainN c (cN c) = true) {A : Nat → Int32} (hA : ∀ j, j < 4096 → D.2.1 23 j = A j) {k : Nat} (hk : k < 4096) (hs : k % 512 < 2 ^ cN c) : ∀ (n a : Nat), a ≤ 18 → 18 < n + a → f_X2_faultOf_28 N D n (nI k) (nI v) (nI a) = some (nI (lossF (frst (badN c v A k) a (18 - a))))
  | 0, a, h1, h2 => by omega
  | n + 1, a, h1, h2 => by
    rw [f_X2_faultOf_28]
    by_cases ha : a = 18
    · subst ha
      rw [if_pos (show (18 : Int32) ≤ nI 18 from nI_le (Nat.le_refl 18) (by decide))]
      rfl
    · have key := d_faultOf_28 hw h hN hv hp hA hk hs n (a + 1) (by omega) (by omega)
      rw [if_neg (show ¬ (18 : Int32) ≤ nI a from nI_ge (b := 18) (by omega) (by decide)), d_bit hw h hN hv hk hs (by omega), bd_some, show 18 - a = (18 - (a + 1)) + 1 by omega, frst, nI_1]
      unfold badN at key ⊢
      cases hx : kx c v k a with
      | none =>
        show bd (f_X6_isRowBit (-1)) _ = _
        rw [show f_X6_isRowBit (-1) = some 0 from rfl, bd_some, if_pos rfl, key]
        rfl
      | some j =>
        have hj := (kx_some hw hp hk hx).1
        rw [oI_some, d_isRowBit j hj, bd_some, if_neg one_ne_zero, if_pos ((inb_nI (by omega)).mpr hj), gA_nI (by omega), hA j hj]
        show _ = some (nI (lossF (if decide (A j = 0) = true then some a else _)))
        by_cases z : A j = 0
        · rw [if_pos z, if_pos (decide_eq_true z)]; rfl
        · rw [if_neg z, if_neg (by rw [decide_eq_false z]; decide), key]
theorem m_faultOf_90 (hw : Wf c) (h : OkR c R) (hN : 20 ≤ N) (hv : v ≤ 18) (hp : plainN c (cN c) = true) {A : Nat → Int32} (hA : ∀ j, j < 4096 → R.2.1 7 j = A j) {k : Nat} (hk : k < 4096) : ∀ (n a : Nat), a ≤ 18 → 18 < n + a → f_X7_faultOf_90 N R n (nI k) (nI v) (nI a) = some (nI (lossF (frst (badN c v A k) a (18 - a))))
  | 0, a, h1, h2 => by omega
  | n + 1, a, h1, h2 => by
    rw [f_X7_faultOf_90]
    by_cases ha : a = 18
    · subst ha
      rw [if_pos (show (18 : Int32) ≤ nI 18 from nI_le (Nat.le_refl 18) (by decide))]
      rfl
    · have key := m_faultOf_90 hw h hN hv hp hA hk n (a + 1) (by omega) (by omega)
      rw [if_neg (show ¬ (18 : Int32) ≤ nI a from nI_ge (b := 18) (by omega) (by decide)), m_bit hw h hN hv hp hk (by omega), bd_some, show 18 - a = (18 - (a + 1)) + 1 by omega, frst, nI_1]
      unfold badN at key ⊢
      cases hx : kx c v k a with
      | none =>
        rw [if_pos (show oI none < 0 by decide), key]
        rfl
      | some j =>
        have hj := (kx_some hw hp hk hx).1
        rw [oI_some, if_neg (nI_pos (by omega)), if_pos ((inb_nI (by omega)).mpr hj), gA_nI (by omega), hA j hj]
        show _ = some (nI (lossF (if decide (A j = 0) = true then some a else _)))
        by_cases z : A j = 0
        · rw [if_pos z, if_pos (decide_eq_true z)]; rfl
        · rw [if_neg z, if_neg (by rw [decide_eq_false z]; decide), key]
theorem div_z {a n : Nat} : (a / 2 ^ n = 0) ↔ a < 2 ^ n := by
  rw [Nat.div_eq_zero_iff]
  have := Nat.two_pow_pos n
  omega
theorem d_known (hw : Wf c) (h : OkD c D) {k : Nat} (hk : k < 4096) : f_X5_known D (nI k) = some (zI (knownN c k)) := by
  have hnb := hw.1
  have hg : cG c ≤ 3 := hw.2.2.2.2.2.1
  unfold f_X5_known f_X5_known_36
  rw [show gI D 2 = nI (cN c) from h.1, show gI D 9 = zI (cT c) from h.2.2.2.2.2.2.2.2.2.2.2.2.2, show gI D 7 = nI (cG c) from h.2.2.2.2.2.2.2.2.2.2.1]
  have e1 : nI k &&& (511 : Int32) = nI (k % 512) := by rw [show (511 : Int32) = nI (2 ^ 9 - 1) from rfl, fa_mask]
  have e2 : nI k >>> ((9 : Int32) &&& 31) = nI (k / 512) := nI_shr (s := k) (b := 9) (by omega) (by decide)
  have e0 : (0 : Int32) = nI 0 := rfl
  have hd : k % 512 / 2 ^ cN c < 2 ^ 31 := Nat.lt_of_le_of_lt (Nat.div_le_self _ _) (by omega)
  have key : ∀ m, m < 31 → (if nI (k / 512) >>> (nI m &&& 31) = 0 then some (1 : Int32) else some 0) = some (zI (decide (k / 512 < 2 ^ m))) := by
    intro m hm
    have hd2 : k / 512 / 2 ^ m < 2 ^ 31 := Nat.lt_of_le_of_lt (Nat.div_le_self _ _) (by omega)
    rw [nI_shr (by omega) hm]
    by_cases z : k / 512 < 2 ^ m
    · rw [if_pos ((nI_z hd2).mpr (div_z.mpr z)), decide_eq_true z]; rfl
    · rw [if_neg (fun q => z (div_z.mp ((nI_z hd2).mp q))), decide_eq_false z]; rfl
  rw [e1, e2, nI_shr (by omega) (by omega)]
  unfold knownN hgN
  by_cases z : k % 512 < 2 ^ cN c
  · rw [if_pos ((nI_z hd).mpr (div_z.mpr z)), decide_eq_true z, Bool.true_and]
    cases ht : cT c with
    | false =>
      rw [if_pos (show zI false = 0 from rfl), if_neg (show ¬ false = true by decide)]
      exact key (cG c) (by omega)
    | true =>
      rw [if_neg (show ¬ zI true = 0 by decide), if_pos (show true = true from rfl)]
      exact key 0 (by decide)
  · rw [if_neg (fun q => z (div_z.mp ((nI_z hd).mp q))), decide_eq_false z, Bool.false_and]; rfl
theorem d_faultOf (hw : Wf c) (h : OkD c D) (hN : 20 ≤ N) (hv : v ≤ 18) (hp : plainN c (cN c) = true) {A : Nat → Int32} (hA : ∀ j, j < 4096 → D.2.1 23 j = A j) {k : Nat} (hk : k < 4096) : f_X2_faultOf N D (nI k) (nI v) = some (nI (faultN c v A k)) := by
  unfold f_X2_faultOf faultN
  have hr := d_reaches hw h (kst_fit hk)
  rw [kst_enc] at hr
  rw [hr, bd_some]
  cases he : endN c (kst k) with
  | true => rw [if_neg (show ¬ zI true = 0 by decide), if_pos rfl]; rfl
  | false =>
    rw [if_pos (show zI false = 0 from rfl), if_neg (by decide), d_known hw h hk, bd_some]
    cases hn : knownN c k with
    | false => rw [if_pos (show zI false = 0 from rfl), if_neg (by decide)]; rfl
    | true =>
      rw [if_neg (show ¬ zI true = 0 by decide), if_pos rfl]
      unfold knownN at hn
      simp only [Bool.and_eq_true, decide_eq_true_eq] at hn
      exact d_faultOf_28 hw h hN hv hp hA hk hn.1 N 0 (by omega) (by omega)
theorem m_faultOf (hw : Wf c) (h : OkR c R) (hN : 20 ≤ N) (hv : v ≤ 18) (hp : plainN c (cN c) = true) {A : Nat → Int32} (hA : ∀ j, j < 4096 → R.2.1 7 j = A j) {k : Nat} (hk : k < 4096) : f_X7_faultOf N R (nI k) (nI v) = some (nI (faultN c v A k)) := by
  have hnb := hw.1
  have hg : cG c ≤ 3 := hw.2.2.2.2.2.1
  have hpg := pow_le_8 hg
  have hpn := pow_le_512 hnb
  have hp0 := Nat.two_pow_pos (cG c)
  unfold f_X7_faultOf faultN
  rw [show gI R 5 = zI (cT c) from h.2.2.2.2.2.2, show gI R 4 = nI (cG c) from h.2.2.2.2.1, rem512 (by omega), div512 (by omega), one_shl_sub hg, fa_and]
  have e53 : f_X7_faultOf_53 N R (nI k) (nI v) (nI (k % 512)) (nI (k / 512)) (nI (2 ^ cG c - 1)) = some (nI (if knownN c k = true then lossF (frst (badN c v A k) 0 18) else 3)) := by
    have key := m_faultOf_90 hw h hN hv hp hA hk N 0 (by omega) (by omega)
    unfold f_X7_faultOf_53 knownN hgN
    rw [show gI R 0 = nI (cN c) from h.1, nI_shl1 (cN c) (by omega), show gI R 5 = zI (cT c) from h.2.2.2.2.2.2]
    by_cases z : k % 512 < 2 ^ cN c
    · rw [if_neg (nI_ge z (by omega)), decide_eq_true z, Bool.true_and]
      cases ht : cT c with
      | false =>
        rw [if_pos (show zI false = 0 from rfl), if_neg (show ¬ false = true by decide)]
        by_cases y : k / 512 < 2 ^ cG c
        · rw [if_pos (nI_le (by omega) (by omega)), if_pos (decide_eq_true y)]
          exact key
        · rw [if_neg (nI_ge (a := 2 ^ cG c - 1) (b := k / 512) (by omega) (by omega)), if_neg (by rw [decide_eq_false y]; decide)]; rfl
      | true =>
        rw [if_neg (show ¬ zI true = 0 by decide), if_pos (show true = true from rfl)]
        by_cases y : k / 512 = 0
        · rw [y, if_pos (show nI 0 = 0 from rfl), if_pos (by decide)]
          exact key
        · rw [if_neg (fun q => y ((nI_z (by omega)).mp q)), if_neg (by rw [decide_eq_false (by omega)]; decide)]; rfl
    · rw [if_pos (nI_le (by omega) (by omega)), decide_eq_false z, Bool.false_and, if_neg (by decide)]; rfl
  unfold endN
  cases ht : cT c with
  | false =>
    rw [if_pos (show zI false = 0 from rfl), if_neg (show ¬ false = true by decide)]
    show (if nI (k / 512 &&& (2 ^ cG c - 1)) = nI (2 ^ cG c - 1) then some 2 else _) = some (nI (if decide (k / 512 &&& (2 ^ cG c - 1) = 2 ^ cG c - 1) = true then 2 else _))
    by_cases y : k / 512 &&& (2 ^ cG c - 1) = 2 ^ cG c - 1
    · rw [if_pos (by rw [y]), if_pos (decide_eq_true y)]; rfl
    · rw [if_neg (fun q => y (nI_inj (Nat.lt_of_le_of_lt Nat.and_le_left (by omega)) (by omega) q)), if_neg (by rw [decide_eq_false y]; decide)]
      exact e53
  | true =>
    rw [if_neg (show ¬ zI true = 0 by decide), if_pos (show true = true from rfl), m_stand (N := N) hw h (by omega) (by omega), bd_some]
    show (if zI (allG c (k % 512) (cG c)) = 0 then _ else some 2) = some (nI (if allG c (k % 512) (cG c) = true then 2 else _))
    cases allG c (k % 512) (cG c) with
    | true => rw [if_neg (show ¬ zI true = 0 by decide), if_pos rfl]; rfl
    | false =>
      rw [if_pos (show zI false = 0 from rfl), if_neg (by decide)]
      exact e53
theorem sI_twice (M : Mm) (k : Nat) (a b : Int32) : sI (sI M k a) k b = sI M k b := by
  unfold sI
  congr 1
  funext j
  show (if j = k then b else if j = k then a else M.1 j) = if j = k then b else M.1 j
  by_cases h : j = k
  · rw [if_pos h, if_pos h]
  · rw [if_neg h, if_neg h, if_neg h]
theorem fault_ne {A : Nat → Int32} {k : Nat} : (nI (faultN c v A k) = 0) ↔ faultN c v A k = 0 := by
  refine nI_z ?_
  unfold faultN
  split
  · decide
  · split
    · cases frst (badN c v A k) 0 18 with
      | none => exact (by decide : 0 < 2 ^ 31)
      | some j => exact (by decide : 4 < 2 ^ 31)
    · decide
theorem check_walk (hw : Wf c) (hD : OkD c D) (hR : OkR c R) (hN : 20 ≤ N) (hv : v ≤ 18) (hp : plainN c (cN c) = true) (hA : ∀ j, j < 4096 → D.2.1 23 j = R.2.1 7 j ∧ isB (R.2.1 7 j)) : ∀ (n m k : Nat), k ≤ 4096 → 4096 < n + k → 4096 < m + k →
    ∃ r z, f_X2_examine_18 N n (nI v) (nI k) D = some (r, sI D 18 z) ∧ f_X7_check_42 N m (nI v) (sI R 8 (nI k)) = some (r, sI R 8 z)
  | 0, m, k, h1, h2, h3 => by omega
  | n + 1, 0, k, h1, h2, h3 => by omega
  | n + 1, m + 1, k, h1, h2, h3 => by
    rw [f_X2_examine_18, f_X7_check_42, show gI (sI R 8 (nI k)) 8 = nI k from rfl]
    by_cases hk : k = 4096
    · subst hk
      have h4 : (4096 : Int32) ≤ nI 4096 := nI_le (Nat.le_refl 4096) (by decide)
      exact ⟨0, -1, by rw [if_pos h4], by rw [if_pos h4, sI_twice]⟩
    · have hk' : k < 4096 := by omega
      have h4 : ¬ (4096 : Int32) ≤ nI k := nI_ge (b := 4096) hk' (by decide)
      have hin : inb (nI k) 4096 := (inb_nI (by omega)).mpr hk'
      obtain ⟨a1, a2⟩ := hA k hk'
      have eR : gA (sI R 8 (nI k)) 7 (nI k) = R.2.1 7 k := by rw [gA_nI (by omega)]; rfl
      have hR' : OkR c (sI R 8 (nI k)) := hR
      rw [if_neg h4, if_pos hin, if_neg h4, if_pos hin, gA_nI (by omega), eR, a1]
      obtain ⟨r, z, b1, b2⟩ := check_walk hw hD hR hN hv hp hA n m (k + 1) (by omega) (by omega) (by omega)
      have go : f_X2_examine_45 N (f_X2_examine_18 N n) (nI v) (nI k) 0 D = some (r, sI D 18 z) := by
        unfold f_X2_examine_45
        rw [if_pos rfl, nI_1]; exact b1
      have go2 : f_X7_check_77 N (f_X7_check_42 N m) (nI v) 0 (sI R 8 (nI k)) = some (r, sI R 8 z) := by
        unfold f_X7_check_77
        rw [if_pos rfl, show gI (sI R 8 (nI k)) 8 = nI k from rfl, nI_1, sI_twice]; exact b2
      rcases a2 with a2 | a2
      · rw [a2, if_neg (by decide), if_pos rfl]
        exact ⟨r, z, go, go2⟩
      · rw [a2, if_pos rfl, if_neg (by decide), d_faultOf hw hD hN hv hp (fun j hj => (hA j hj).1) hk', bd_some, m_faultOf (A := R.2.1 7) hw hR' hN hv hp (fun j hj => rfl) hk', bd_some]
        by_cases hz : faultN c v (R.2.1 7) k = 0
        · rw [hz]
          exact ⟨r, z, go, go2⟩
        · unfold f_X2_examine_45 f_X7_check_77
          rw [if_neg (fun q => hz (fault_ne.mp q)), if_neg (fun q => hz (fault_ne.mp q))]
          exact ⟨_, nI k, rfl, rfl⟩
end KX
theorem vat_cases (x : Int32) : (x < 1 ∨ (¬ x < 1 ∧ 18 < x)) ∨ ∃ v, 1 ≤ v ∧ v ≤ 18 ∧ x = nI v ∧ ¬ x < 1 ∧ ¬ (18 : Int32) < x := by
  by_cases h : x < 1
  · exact Or.inl (Or.inl h)
  · by_cases h2 : (18 : Int32) < x
    · exact Or.inl (Or.inr ⟨h, h2⟩)
    · have h0 : ¬ x < 0 := by
        rw [Int32.lt_iff_toInt_lt] at h ⊢
        have : (1 : Int32).toInt = 1 := rfl
        have : (0 : Int32).toInt = 0 := rfl
        omega
      obtain ⟨v, hv, rfl⟩ := nI_of h0
      refine Or.inr ⟨v, ?_, ?_, rfl, h, h2⟩
      · exact Nat.le_of_not_lt (fun z => h (nI_lt (b := 1) z (by decide)))
      · exact Nat.le_of_not_lt (fun z => h2 (nI_lt (a := 18) z hv))
theorem q_check {XC : Cfg → PT → Prop} {N : Nat} (hN : 5000 ≤ N) : Q_check N (Rel XC) := by
  intro p1 D R hRel
  obtain ⟨c, ⟨hw, hD, hR⟩, hS, hT, hH, hG, hP, hL, hXC⟩ := id hRel
  unfold f_X6_check f_X7_check f_X6_isVatCount
  rcases vat_cases p1 with (q | ⟨q, q2⟩) | ⟨v, hv1, hv2, rfl, q, q2⟩
  · exact ⟨-2, D, R, by rw [if_pos q]; rfl, by rw [if_pos q], hRel, kp_of rfl⟩
  · exact ⟨-2, D, R, by rw [if_neg q, if_pos q2]; rfl, by rw [if_neg q, if_pos q2], hRel, kp_of rfl⟩
  rw [if_neg q, if_neg q2, bd_some, if_neg one_ne_zero, if_neg q, if_neg q2, d_plain hw hD, m_isPlain hw hR (by omega), bd_some, bd_some]
  have rel : ∀ z : Int32, Rel XC (sI D 18 z) (sI R 8 z) := fun z => ⟨c, ⟨hw, hD, hR⟩, hS, hT, hH, hG, ⟨hP.1, hP.2.1, rfl⟩, hL, hXC⟩
  cases hp : plainN c (cN c) with
  | false => exact ⟨-2, D, R, by rw [if_pos (show zI false = 0 from rfl)], by rw [if_pos (show zI false = 0 from rfl)], hRel, kp_of rfl⟩
  | true =>
    rw [if_neg (show ¬ zI true = 0 by decide), if_neg (show ¬ zI true = 0 by decide)]
    have hin : inb (0 : Int32) 4096 := (inb_nI (k := 0) (by decide)).mpr (by decide)
    obtain ⟨a1, a2⟩ := hP.1 0 (by decide)
    have g1 : gA (sI D 18 0) 23 0 = D.2.1 23 0 := rfl
    have g2 : gA (sI R 8 0) 7 0 = R.2.1 7 0 := rfl
    unfold f_X2_examine
    rw [if_pos hin, if_pos hin, g1, g2, a1]
    rcases a2 with a2 | a2
    · rw [a2, if_pos rfl, if_pos rfl]
      exact ⟨1, sI D 18 0, sI R 8 0, rfl, rfl, rel 0, kp_of rfl⟩
    · rw [a2, if_neg (by decide), if_neg (by decide), sI_twice]
      have hD0 : OkD c (sI D 18 0) := hD
      obtain ⟨r, z, b1, b2⟩ := check_walk (N := N) (v := v) (D := sI D 18 0) hw hD0 hR (by omega) hv2 hp hP.1 N N 0 (by decide) (by omega) (by omega)
      rw [sI_twice] at b1
      have b1' : f_X2_examine_18 N N (nI v) 0 (sI D 18 0) = some (r, sI D 18 z) := b1
      have b2' : f_X7_check_42 N N (nI v) (sI R 8 0) = some (r, sI R 8 z) := b2
      rw [b1', bd2_some, b2']
      exact ⟨r, sI D 18 z, sI R 8 z, rfl, rfl, rel z, kp_of rfl⟩
