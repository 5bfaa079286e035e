/-! ===== order ===== -/
def canN (c : Cfg) (t b : Nat) : Bool := (cS c b).isSome && !t.testBit b && !anyN (fun o => needs c b o && !t.testBit o) 9
def frst (p : Nat → Bool) : Nat → Nat → Option Nat
  | _, 0 => none
  | j, m + 1 => if p j = true then some j else frst p (j + 1) m
def nxt (c : Cfg) (t : Nat) : Option Nat := frst (canN c t) 0 (cN c)
def ord (c : Cfg) : Nat → Nat → Option Nat
  | t, 0 => nxt c t
  | t, m + 1 => match nxt c t with
    | none => none
    | some b => ord c (t ||| 2 ^ b) m
theorem frst_some {p : Nat → Bool} : ∀ {m j b : Nat}, frst p j m = some b → j ≤ b ∧ b < j + m ∧ p b = true
  | 0, j, b, h => by cases h
  | m + 1, j, b, h => by
    rw [frst] at h
    by_cases hp : p j = true
    · rw [if_pos hp] at h; cases h; exact ⟨Nat.le_refl _, by omega, hp⟩
    · rw [if_neg hp] at h
      obtain ⟨h1, h2, h3⟩ := frst_some h
      exact ⟨by omega, by omega, h3⟩
theorem nxt_some {c : Cfg} {t b : Nat} (h : nxt c t = some b) : b < cN c ∧ t.testBit b = false := by
  obtain ⟨h1, h2, h3⟩ := frst_some h
  refine ⟨by omega, ?_⟩
  unfold canN at h3
  simp only [Bool.and_eq_true, Bool.not_eq_true'] at h3
  exact h3.1.2
theorem ct_set {t b : Nat} (hb : b < 9) (h : t.testBit b = false) : ctN (t ||| 2 ^ b) = ctN t + 1 := by
  unfold ctN
  have h1 := fb_ct_upd (fun i => t.testBit i) true (i := b) (n := 9) hb
  have e : fb_ct (fun i => (t ||| 2 ^ b).testBit i) 9 = fb_ct (fun k => if k = b then true else t.testBit k) 9 := by
    refine fb_ct_cong (fun i _ => ?_)
    rw [fb_bit_set]
    by_cases z : i = b
    · simp [z]
    · simp [z]
  rw [e]
  have h1' : fb_ct (fun k => if k = b then true else t.testBit k) 9 + (if t.testBit b = true then 1 else 0) = fb_ct (fun i => t.testBit i) 9 + 1 := h1
  rw [h] at h1'
  simpa using h1'
theorem ct_le_nb {t n : Nat} (ht : t < 2 ^ n) (hn : n ≤ 9) : ctN t ≤ n := by
  rw [← ct_nb ht hn]
  exact fb_ct_le _ n
theorem ord_bound {c : Cfg} (hw : Wf c) : ∀ (m t b : Nat), t < 2 ^ cN c → ord c t m = some b → ctN t + m + 1 ≤ cN c
  | 0, t, b, ht, h => by
    obtain ⟨h1, h2⟩ := nxt_some (show nxt c t = some b from h)
    have hnb := hw.1
    have h3 := ct_set (t := t) (b := b) (by omega) h2
    have h4 := ct_le_nb (t := t ||| 2 ^ b) (n := cN c) (Nat.or_lt_two_pow ht (Nat.pow_lt_pow_right (by decide) h1)) hnb
    omega
  | m + 1, t, b, ht, h => by
    rw [ord] at h
    cases hx : nxt c t with
    | none => rw [hx] at h; cases h
    | some q =>
      rw [hx] at h
      obtain ⟨h1, h2⟩ := nxt_some hx
      have hnb := hw.1
      have h3 := ct_set (t := t) (b := q) (by omega) h2
      have h4 := ord_bound hw m (t ||| 2 ^ q) b (Nat.or_lt_two_pow ht (Nat.pow_lt_pow_right (by decide) h1)) h
      omega
section OD
variable {c : Cfg} {D R : Mm} {N : Nat}
theorem d_nextTold_2 (hw : Wf c) (h : OkD c D) {t : Nat} (ht : t < 512) : ∀ (n i : Nat), i ≤ cN c → cN c < n + i → f_X5_nextTold_2 N D n (nI t) (nI i) = some (oI (frst (canN c t) i (cN c - i)))
  | 0, i, h1, h2 => by omega
  | n + 1, i, h1, h2 => by
    have hnb := hw.1
    rw [f_X5_nextTold_2, show gI D 2 = nI (cN c) from h.1]
    by_cases hi : i = cN c
    · subst hi
      rw [if_pos (nI_le (Nat.le_refl _) (by omega)), Nat.sub_self]
      rfl
    · have hki : cN c - i = (cN c - (i + 1)) + 1 := by omega
      have hbr := bm_lt (fun b => (cS c b).isSome) 9
      have hnm : needM c i < 2 ^ 9 := bm_lt _ 9
      have key := d_nextTold_2 hw h ht n (i + 1) (by omega) (by omega)
      rw [if_neg (nI_ge (a := i) (b := cN c) (by omega) (by omega)), show gI D 3 = nI (bm (fun b => (cS c b).isSome) 9) from h.2.2.2.2.1, nI_andn, nI_shl1 i (by omega), fa_and, hki, frst]
      have hz : (dl (bm (fun b => (cS c b).isSome) 9) t &&& 2 ^ i = 0) ↔ ¬ ((cS c i).isSome = true ∧ t.testBit i = false) := by
        rw [and_pow, dl_bit, bm_bit]
        have h9 : i < 9 := by omega
        cases (cS c i).isSome <;> cases t.testBit i <;> simp [h9]
      have hzl : dl (bm (fun b => (cS c b).isSome) 9) t &&& 2 ^ i < 2 ^ 31 := Nat.lt_of_le_of_lt Nat.and_le_left (Nat.lt_trans (dl_lt (k := 9) hbr) (by decide))
      unfold f_X5_nextTold_30
      rw [nI_1]
      by_cases ho : (cS c i).isSome = true ∧ t.testBit i = false
      · rw [if_neg (fun z => hz.mp ((nI_z hzl).mp z) ho), if_neg one_ne_zero, if_pos ((inb_nI (by omega)).mpr (by omega)), gA_nI (by omega), h.2.2.2.2.2.2.2.2.1 i (by omega), nI_andn]
        have hneed : (dl (needM c i) t = 0) ↔ ¬ anyN (fun o => needs c i o && !t.testBit o) 9 = true := by
          rw [anyN_iff]
          constructor
          · rintro h1 ⟨o, ho, h2⟩
            have := congrArg (fun z => z.testBit o) h1
            rw [Bool.and_eq_true] at h2
            simp only [dl_bit, needM, bm_bit, ho, h2.1, Nat.zero_testBit] at this
            simp at this
            simp [this] at h2
          · intro h1
            refine nat_ext (fun o => ?_)
            rw [dl_bit, needM, bm_bit, Nat.zero_testBit]
            by_cases ho : o < 9
            · cases h2 : needs c i o with
              | false => simp
              | true =>
                cases h3 : t.testBit o with
                | true => simp
                | false => exact absurd ⟨o, ho, by simp [h2, h3]⟩ h1
            · simp [ho]
        by_cases hq : anyN (fun o => needs c i o && !t.testBit o) 9 = true
        · rw [if_neg (fun z => hneed.mp ((nI_z (Nat.lt_trans (dl_lt (k := 9) hnm) (by decide))).mp z) hq), if_neg (show ¬ canN c t i = true by unfold canN; rw [hq]; simp)]
          exact key
        · rw [if_pos ((nI_z (Nat.lt_trans (dl_lt (k := 9) hnm) (by decide))).mpr (hneed.mpr hq)), if_pos (show canN c t i = true by unfold canN; rw [ho.1, ho.2]; simp [hq])]
          rfl
      · rw [if_pos ((nI_z hzl).mpr (hz.mpr ho)), if_pos rfl, if_neg (show ¬ canN c t i = true by
          intro z
          unfold canN at z
          simp only [Bool.and_eq_true, Bool.not_eq_true'] at z
          exact ho z.1)]
        exact key
theorem d_nextTold (hw : Wf c) (h : OkD c D) (hN : 20 ≤ N) {t : Nat} (ht : t < 512) : f_X5_nextTold N D (nI t) = some (oI (nxt c t)) := by
  have hnb := hw.1
  have := d_nextTold_2 (N := N) hw h ht N 0 (Nat.zero_le _) (by omega)
  rw [Nat.sub_zero] at this
  exact this
theorem d_order_20 (hw : Wf c) (h : OkD c D) (hN : 20 ≤ N) {k : Nat} (hk : k < cN c) : ∀ (n i t : Nat) (la : Int32), i ≤ k → k + 1 < n + i → t < 2 ^ cN c → f_X6_order_20 N D n (nI k) (nI t) la (nI i) = some (oI (ord c t (k - i)))
  | 0, i, t, la, h1, h2, h3 => by omega
  | n + 1, i, t, la, h1, h2, h3 => by
    have hnb := hw.1
    have ht : t < 512 := Nat.lt_of_lt_of_le h3 (pow_le_512 hnb)
    rw [f_X6_order_20, if_neg (nI_nlt h1 (by omega)), d_nextTold hw h hN ht, bd_some]
    cases hx : nxt c t with
    | none =>
      rw [if_pos (show oI none = -1 from rfl)]
      have : ord c t (k - i) = none := by
        cases hm : k - i with
        | zero => exact hx
        | succ m => rw [ord, hx]
      rw [this]
      rfl
    | some b =>
      obtain ⟨hb, hb2⟩ := nxt_some hx
      rw [oI_some, if_neg (nI_ne_m1 (by omega)), nI_shl1 b (by omega), fa_or, nI_1]
      by_cases hik : i = k
      · subst hik
        cases n with
        | zero => omega
        | succ n =>
          rw [f_X6_order_20, if_pos (nI_lt (by omega) (by omega)), Nat.sub_self, ord, hx]
          rfl
      · rw [d_order_20 hw h hN hk n (i + 1) (t ||| 2 ^ b) _ (by omega) (by omega) (Nat.or_lt_two_pow h3 (Nat.pow_lt_pow_right (by decide) hb))]
        rw [show k - i = (k - (i + 1)) + 1 by omega, ord, hx]
/-! the reference -/
def alO (c : Cfg) (t b : Nat) : Nat → Nat → Bool
  | _, 0 => true
  | i, m + 1 => (match cP c b i with
    | none => true
    | some o => t.testBit o) && alO c t b (i + 1) m
theorem alO_iff (c : Cfg) (t b : Nat) : ∀ (m i : Nat), alO c t b i m = true ↔ ∀ j, i ≤ j → j < i + m → ∀ o, cP c b j = some o → t.testBit o = true
  | 0, i => by
    constructor
    · intro _ j h1 h2; omega
    · intro _; rfl
  | m + 1, i => by
    rw [alO, Bool.and_eq_true, alO_iff c t b m (i + 1)]
    constructor
    · rintro ⟨h1, h2⟩ j hj hj2 o ho
      by_cases z : j = i
      · subst z; rw [ho] at h1; exact h1
      · exact h2 j (by omega) (by omega) o ho
    · intro h
      refine ⟨?_, fun j hj hj2 => h j (by omega) (by omega)⟩
      cases hp : cP c b i with
      | none => rfl
      | some o => exact h i (Nat.le_refl _) (by omega) o hp
theorem m_order_61 (hw : Wf c) (h : OkR c R) {t b k : Nat} {k7 : Int32 → Int32 → Int32 → Int32 → Option Int32} {k27 : Int32 → Int32 → Int32 → Int32 → Int32 → Option Int32} {x1 x3 x4 : Int32} (ht : t < 512) (hb : b < 9) (hs : cS c b = some k) : ∀ (n i : Nat) (x6 : Int32), isB x6 → i ≤ k → k < n + i → f_X7_order_61 N R k7 k27 n x1 (nI t) x3 x4 (nI b) x6 (nI i) = (if x6 = 1 ∧ alO c t b i (k - i) = true then k27 x1 (nI t) x3 (nI b) (nI b + -1) else k27 x1 (nI t) x3 x4 (nI b + -1))
  | 0, i, x6, hB, h1, h2 => by omega
  | n + 1, i, x6, hB, h1, h2 => by
    have hk4 := (hw.2.2.2.1 b k hs).1
    rw [f_X7_order_61, if_pos ((inb_nI (by omega)).mpr hb), gA_nI (by omega), h.2.2.1 b hb, hs, oI_some]
    by_cases hik : i = k
    · subst hik
      rw [if_pos (nI_le (Nat.le_refl i) (by omega)), Nat.sub_self]
      rcases hB with z | z
      · subst z
        rw [if_pos rfl, if_neg (show ¬ ((0 : Int32) = 1 ∧ alO c t b i 0 = true) from fun y => absurd y.1 (by decide))]
      · subst z
        rw [if_neg one_ne_zero, if_pos (show (1 : Int32) = 1 ∧ alO c t b i 0 = true from ⟨rfl, rfl⟩)]
    · have hki : k - i = (k - (i + 1)) + 1 := by omega
      rw [if_neg (nI_ge (a := i) (b := k) (by omega) (by omega)), nI_place, if_pos ((inb_nI (by omega)).mpr (by omega)), gA_nI (by omega), h.2.2.2.1 b i hb (by omega), nI_1, hki, alO]
      have e1 : x6 &&& 1 = x6 := by rcases hB with z | z <;> subst z <;> decide
      have e0 : x6 &&& 0 = 0 := by rcases hB with z | z <;> subst z <;> decide
      cases hp : cP c b i with
      | none =>
        rw [if_pos (show oI none < 0 by decide), e1, m_order_61 hw h ht hb hs n (i + 1) x6 hB (by omega) (by omega)]
        rfl
      | some o =>
        have ho := hw.2.2.2.2.1 b k i o hs (by omega) hp
        have hnb := hw.1
        rw [oI_some, if_neg (nI_pos (by omega)), m_has (by omega) (by omega), bd_some, if10]
        by_cases hto : t.testBit o = true
        · rw [if_pos hto, e1, m_order_61 hw h ht hb hs n (i + 1) x6 hB (by omega) (by omega)]
          simp only [hto, Bool.true_and]
        · rw [if_neg hto, e0, m_order_61 hw h ht hb hs n (i + 1) 0 (Or.inl rfl) (by omega) (by omega), if_neg (show ¬ ((0 : Int32) = 1 ∧ alO c t b (i + 1) (k - (i + 1)) = true) from fun y => absurd y.1 (by decide)), if_neg (fun y => hto (Bool.and_eq_true _ _ ▸ y.2 : t.testBit o = true ∧ _).1)]
theorem alO_can (hw : Wf c) {t b k : Nat} (hs : cS c b = some k) : (alO c t b 0 k = true) ↔ ¬ anyN (fun o => needs c b o && !t.testBit o) 9 = true := by
  rw [alO_iff, needs_bad hw hs]
  constructor
  · rintro h1 ⟨i, hi, o, hp, ht⟩
    rw [h1 i (Nat.zero_le _) (by omega) o hp] at ht
    cases ht
  · intro h1 j _ hj o ho
    cases ht : t.testBit o with
    | true => rfl
    | false => exact absurd ⟨j, by omega, o, ho, ht⟩ h1
theorem nI_dec {b : Nat} (hb : 1 ≤ b) (h : b < 2 ^ 31) : nI b + (-1 : Int32) = nI (b - 1) := by
  rw [← nI_sub (b := 1) hb h, Int32.sub_eq_add_neg]; rfl
theorem m_order_27 (hw : Wf c) (h : OkR c R) (hN : 20 ≤ N) {t : Nat} {k7 : Int32 → Int32 → Int32 → Int32 → Option Int32} {x1 x3 : Int32} (ht : t < 512) : ∀ (n j : Nat), j ≤ cN c → j < n → f_X7_order_27 N R k7 n x1 (nI t) x3 (oI (frst (canN c t) j (cN c - j))) (nI j + -1) = (if x3 = x1 then some (oI (nxt c t)) else k7 x1 (nI (t ||| pw (nxt c t))) (x3 + 1) (oI (nxt c t)))
  | 0, j, h1, h2 => by omega
  | n + 1, j, h1, h2 => by
    have hnb := hw.1
    rw [f_X7_order_27]
    by_cases hj : j = 0
    · subst hj
      rw [if_pos (show nI 0 + (-1 : Int32) < 0 by decide), Nat.sub_zero]
      show (if x3 = x1 then some (oI (nxt c t)) else if 0 ≤ oI (nxt c t) then k7 x1 (nI t ||| (1 : Int32) <<< (oI (nxt c t) &&& 31)) (x3 + 1) (oI (nxt c t)) else k7 x1 (nI t ||| 0) (x3 + 1) (oI (nxt c t))) = _
      by_cases hx : x3 = x1
      · rw [if_pos hx, if_pos hx]
      · rw [if_neg hx, if_neg hx]
        cases hnx : nxt c t with
        | none =>
          rw [if_neg (show ¬ (0 : Int32) ≤ oI none by decide), show (0 : Int32) = nI 0 from rfl, fa_or]
          rfl
        | some b =>
          obtain ⟨hb, -⟩ := nxt_some hnx
          rw [oI_some, if_pos (nI_pos' (by omega)), nI_shl1 b (by omega), fa_or]
          rfl
    · rw [nI_dec (by omega) (by omega), if_neg (nI_pos (by omega)), if_pos ((inb_nI (by omega)).mpr (by omega)), gA_nI (by omega), h.2.2.1 (j - 1) (by omega)]
      have key := m_order_27 hw h hN (k7 := k7) (x1 := x1) (x3 := x3) ht n (j - 1) (by omega) (by omega)
      have hfr : frst (canN c t) (j - 1) (cN c - (j - 1)) = if canN c t (j - 1) = true then some (j - 1) else frst (canN c t) j (cN c - j) := by
        rw [show cN c - (j - 1) = (cN c - j) + 1 by omega, frst, show j - 1 + 1 = j by omega]
      rw [hfr] at key
      cases hs : cS c (j - 1) with
      | none =>
        rw [if_pos (show oI none < 0 by decide)]
        have hc : ¬ canN c t (j - 1) = true := by unfold canN; rw [hs]; simp
        rw [if_neg hc] at key
        cases N with
        | zero => omega
        | succ N' =>
          rw [f_X7_order_61, if_pos ((inb_nI (by omega)).mpr (by omega)), gA_nI (by omega), h.2.2.1 (j - 1) (by omega), hs, if_pos (show oI none ≤ (0 : Int32) by decide), if_pos rfl]
          exact key
      | some k =>
        have hk4 := (hw.2.2.2.1 _ k hs).1
        rw [oI_some, if_neg (nI_pos (by omega)), m_has (by omega) (by omega), bd_some, if10]
        have c1 := m_order_61 (N := N) (k7 := k7) (k27 := f_X7_order_27 N R k7 n) (x1 := x1) (x3 := x3) (x4 := oI (frst (canN c t) j (cN c - j))) hw h ht (show j - 1 < 9 by omega) hs N 0 1 (Or.inr rfl) (Nat.zero_le _) (by omega)
        have c0 := m_order_61 (N := N) (k7 := k7) (k27 := f_X7_order_27 N R k7 n) (x1 := x1) (x3 := x3) (x4 := oI (frst (canN c t) j (cN c - j))) hw h ht (show j - 1 < 9 by omega) hs N 0 0 (Or.inl rfl) (Nat.zero_le _) (by omega)
        rw [Nat.sub_zero] at c1 c0
        have z0 : (0 : Int32) = nI 0 := rfl
        by_cases htb : t.testBit (j - 1) = true
        · have hc : ¬ canN c t (j - 1) = true := by unfold canN; rw [htb]; simp
          rw [if_neg hc] at key
          rw [if_pos htb]
          refine (show _ = _ from c0).trans ?_
          rw [if_neg (show ¬ ((0 : Int32) = 1 ∧ alO c t (j - 1) 0 k = true) from fun y => absurd y.1 (by decide))]
          exact key
        · rw [if_neg htb]
          refine (show _ = _ from c1).trans ?_
          by_cases ha : alO c t (j - 1) 0 k = true
          · have hc : canN c t (j - 1) = true := by
              have := (alO_can hw hs).mp ha
              unfold canN
              rw [hs]
              simp [htb, this]
            rw [if_pos ⟨rfl, ha⟩]
            rw [if_pos hc, oI_some] at key
            exact key
          · have hc : ¬ canN c t (j - 1) = true := by
              intro z
              unfold canN at z
              simp only [Bool.and_eq_true, Bool.not_eq_true'] at z
              exact ha ((alO_can hw hs).mpr (by rw [z.2]; decide))
            rw [if_neg (fun y => ha y.2)]
            rw [if_neg hc] at key
            exact key
theorem m_order_7 (hw : Wf c) (h : OkR c R) (hN : 20 ≤ N) {k : Nat} (hk : k < 2 ^ 31) : ∀ (n i t : Nat) (x4 : Int32), ¬ x4 < 0 → i ≤ k → 11 < n + ctN t → t < 2 ^ cN c → f_X7_order_7 N R n (nI k) (nI t) (nI i) x4 = some (oI (ord c t (k - i)))
  | 0, i, t, x4, h0, h1, h2, h3 => by
    have := ct_le_nb h3 hw.1
    have := hw.1
    omega
  | n + 1, i, t, x4, h0, h1, h2, h3 => by
    have hnb := hw.1
    have ht : t < 512 := Nat.lt_of_lt_of_le h3 (pow_le_512 hnb)
    have hct := ct_le_nb h3 hnb
    have e0 : gI R 0 - (1 : Int32) = nI (cN c) + -1 := by rw [show gI R 0 = nI (cN c) from h.1, Int32.sub_eq_add_neg]
    have k27 := m_order_27 (N := N) (k7 := f_X7_order_7 N R n) (x1 := nI k) (x3 := nI i) hw h hN ht N (cN c) (Nat.le_refl _) (by omega)
    rw [Nat.sub_self] at k27
    rw [f_X7_order_7, if_neg h0, if_neg (nI_pos hk), e0]
    refine (show _ = _ from k27).trans ?_
    by_cases hik : i = k
    · rw [if_pos (by rw [hik]), hik, Nat.sub_self]
      rfl
    · rw [if_neg (fun z => hik (nI_inj (by omega) hk z)), show k - i = (k - (i + 1)) + 1 by omega, ord]
      cases hnx : nxt c t with
      | none =>
        cases n with
        | zero => omega
        | succ n =>
          rw [f_X7_order_7, if_pos (show oI none < 0 by decide)]
          rfl
      | some b =>
        obtain ⟨hb, hb2⟩ := nxt_some hnx
        have hcs := ct_set (t := t) (b := b) (by omega) hb2
        rw [nI_1]
        exact m_order_7 hw h hN hk n (i + 1) (t ||| 2 ^ b) (oI (some b)) (nI_pos (by omega)) (by omega) (by omega) (Nat.or_lt_two_pow h3 (Nat.pow_lt_pow_right (by decide) hb))
end OD
theorem q_order {XC : Cfg → PT → Prop} {N : Nat} (hN : 20 ≤ N) : Q_order N (Rel XC) := by
  intro p1 D R hRel
  obtain ⟨c, ⟨hw, hD, hR⟩, hS, hT, hH, hG, hP, hL⟩ := id hRel
  have hnb := hw.1
  unfold f_X6_order f_X7_order
  by_cases hn : p1 < 0
  · refine ⟨-1, by rw [d_isBath_no hD (Or.inl hn)]; rfl, ?_⟩
    cases N with
    | zero => omega
    | succ n => rw [f_X7_order_7, if_neg (show ¬ (0 : Int32) < 0 by decide), if_pos hn]
  · obtain ⟨k, hk, rfl⟩ := nI_of hn
    have hr := m_order_7 (N := N) hw hR hN hk N 0 0 0 (show ¬ (0 : Int32) < 0 by decide) (Nat.zero_le _) (by omega) (Nat.two_pow_pos _)
    rw [Nat.sub_zero] at hr
    refine ⟨oI (ord c 0 k), ?_, hr⟩
    by_cases hkn : k < cN c
    · rw [d_isBath_yes hw hD hkn, bd_some, if_neg one_ne_zero]
      have := d_order_20 (N := N) hw hD hN hkn N 0 0 (-1) (Nat.zero_le _) (by omega) (Nat.two_pow_pos _)
      rw [Nat.sub_zero] at this
      exact this
    · rw [d_isBath_no hD (Or.inr ⟨hn, nI_le (by omega) hk⟩), bd_some, if_pos rfl]
      cases ho : ord c 0 k with
      | none => rfl
      | some b => have := ord_bound hw k 0 b (Nat.two_pow_pos _) ho; omega
