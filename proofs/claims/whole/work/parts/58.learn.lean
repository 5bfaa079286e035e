/-! ===== what the class learns of a recipe ===== -/
def pw (o : Option Nat) : Nat := match o with
  | none => 0
  | some k => 2 ^ k
section LE
variable {c : Cfg} {D : Mm} {N : Nat}
/-- the recipes' rows hold the configuration's -/
def OkP (c : Cfg) (D : Mm) : Prop := (∀ b, b < 9 → D.2.1 8 b = oI (cS c b)) ∧ (∀ b i, b < 9 → i < 4 → D.2.1 10 (4 * b + i) = oI (cP c b i)) ∧ ∀ b, b < 9 → D.2.1 11 b = nI (cK c b)
theorem d_nameAt (h : OkP c D) {b i : Nat} (hb : b < 9) (hi : i < 4) : f_X3_nameAt D (nI b) (nI i) = some (oI (cP c b i)) := by
  unfold f_X3_nameAt
  rw [place_eq, if_pos ((inb_nI (by omega)).mpr (by omega)), gA_nI (by omega), h.2.1 b i hb hi]
theorem d_bitOf {o : Option Nat} (ho : ∀ k, o = some k → k < 9) : f_X3_bitOf (oI o) = some (nI (pw o)) := by
  unfold f_X3_bitOf
  cases o with
  | none => rfl
  | some k =>
    have := ho k rfl
    rw [oI_some, if_neg (nI_ne_m1 (by omega)), nI_shl1 k (by omega)]
    rfl
def namM (c : Cfg) (b n : Nat) : Nat := bm (fun o => anyN (fun i => decide (cP c b i = some o)) n) 9
theorem namM_succ (c : Cfg) (b n : Nat) (h : ∀ o, cP c b n = some o → o < 9) : namM c b n ||| pw (cP c b n) = namM c b (n + 1) := by
  unfold namM
  refine nat_ext (fun i => ?_)
  rw [Nat.testBit_or, bm_bit, bm_bit]
  show _ = (decide (i < 9) && (anyN (fun j => decide (cP c b j = some i)) n || decide (cP c b n = some i)))
  cases hp : cP c b n with
  | none => simp [pw]
  | some k =>
    have hk := h k hp
    simp only [pw, Nat.testBit_two_pow, Option.some.injEq]
    by_cases hki : k = i
    · subst hki; simp [hk]
    · simp [hki]
theorem d_namedBits_4 (hw : Wf c) (h : OkP c D) {b k : Nat} (hb : b < 9) (hs : cS c b = some k) : ∀ (n i : Nat), i ≤ k → k < n + i → f_X3_namedBits_4 N D n (nI b) (nI (namM c b i)) (nI i) = some (nI (namM c b k))
  | 0, i, h1, h2 => by omega
  | n + 1, i, h1, h2 => by
    have hk := (hw.2.2.2.1 b k hs).1
    rw [f_X3_namedBits_4, if_pos ((inb_nI (by omega)).mpr hb), gA_nI (by omega), h.1 b hb, hs, oI_some]
    by_cases hik : i = k
    · subst hik
      rw [if_pos (nI_le (Nat.le_refl i) (by omega))]
    · have hlt : ∀ q, cP c b i = some q → q < 9 := fun q hq => by
        have := hw.2.2.2.2.1 b k i q hs (by omega) hq
        have := hw.1
        omega
      rw [if_neg (nI_ge (a := i) (b := k) (by omega) (by omega)), d_nameAt h hb (by omega), bd_some, d_bitOf hlt, bd_some, fa_or, namM_succ c b i hlt, nI_1]
      exact d_namedBits_4 hw h hb hs n (i + 1) (by omega) (by omega)
theorem d_namedBits (hw : Wf c) (h : OkP c D) (hN : 10 ≤ N) {b : Nat} (hb : b < 9) : f_X3_namedBits N D (nI b) = some (nI (needM c b)) := by
  unfold f_X3_namedBits
  cases hs : cS c b with
  | none =>
    have e : needM c b = 0 := by
      refine nat_ext (fun i => ?_)
      rw [needM, bm_bit, Nat.zero_testBit]
      unfold needs
      rw [hs]
      simp
    cases N with
    | zero => omega
    | succ n =>
      rw [f_X3_namedBits_4, if_pos ((inb_nI (by omega)).mpr hb), gA_nI (by omega), h.1 b hb, hs, e, if_pos (show oI none ≤ (0 : Int32) by decide)]
      rfl
  | some k =>
    have hk := (hw.2.2.2.1 b k hs).1
    have key := d_namedBits_4 (N := N) hw h hb hs N 0 (Nat.zero_le _) (by omega)
    have e0 : namM c b 0 = 0 := by
      refine nat_ext (fun i => ?_)
      rw [namM, bm_bit, Nat.zero_testBit]
      show (decide (i < 9) && false) = false
      simp
    have ek : namM c b k = needM c b := by
      unfold namM needM needs
      rw [hs]
    rw [e0, ek] at key
    exact key
theorem d_firstNamedBit_2 (hw : Wf c) (h : OkP c D) {b k : Nat} (hb : b < 9) (hs : cS c b = some k) : ∀ (n i : Nat), i ≤ k → k < n + i → f_X3_firstNamedBit_2 N D n (nI b) (nI i) = some (nI (pw (fstO (cP c b) i (k - i))))
  | 0, i, h1, h2 => by omega
  | n + 1, i, h1, h2 => by
    have hk := (hw.2.2.2.1 b k hs).1
    rw [f_X3_firstNamedBit_2, if_pos ((inb_nI (by omega)).mpr hb), gA_nI (by omega), h.1 b hb, hs, oI_some]
    by_cases hik : i = k
    · subst hik
      rw [if_pos (nI_le (Nat.le_refl i) (by omega)), Nat.sub_self]
      rfl
    · have hlt : ∀ q, cP c b i = some q → q < 9 := fun q hq => by
        have := hw.2.2.2.2.1 b k i q hs (by omega) hq
        have := hw.1
        omega
      have hki : k - i = (k - (i + 1)) + 1 := by omega
      rw [if_neg (nI_ge (a := i) (b := k) (by omega) (by omega)), d_nameAt h hb (by omega), bd_some, hki, fstO, nI_1, bd_some, d_bitOf hlt, bd_some]
      cases hp : cP c b i with
      | none =>
        rw [if_pos (show oI none = -1 from rfl)]
        exact d_firstNamedBit_2 hw h hb hs n (i + 1) (by omega) (by omega)
      | some q =>
        rw [if_neg (show ¬ oI (some q) = -1 from nI_ne_m1 (by have := hlt q hp; omega))]
theorem d_learn (hw : Wf c) (h : OkP c D) (hN : 10 ≤ N) {b : Nat} (hb : b < 9) {q : Nat → Bool} (h3 : D.1 3 = nI (bm q 9)) (hq : ∀ i, i ≠ b → q i = (cS c i).isSome) : f_X5_learn N (nI b) D = some (sA (sA (sI D 3 (nI (bm (fun b => (cS c b).isSome) 9))) 12 (nI b) (nI (needM c b))) 13 (nI b) (nI (useM c b))) := by
  have hin : inb (nI b) 9 := (inb_nI (by omega)).mpr hb
  have l30 : f_X5_learn_30 N (nI b) (nI (bm (fun b => (cS c b).isSome) 9)) D = some (sA (sA (sI D 3 (nI (bm (fun b => (cS c b).isSome) 9))) 12 (nI b) (nI (needM c b))) 13 (nI b) (nI (useM c b))) := by
    have hP' : OkP c (sI D 3 (nI (bm (fun b => (cS c b).isSome) 9))) := h
    have hP2 : OkP c (sA (sI D 3 (nI (bm (fun b => (cS c b).isSome) 9))) 12 (nI b) (nI (needM c b))) := h
    unfold f_X5_learn_30
    rw [d_namedBits hw hP' hN hb, bd_some, if_pos hin, if_pos hin]
    have hkd : gA (sA (sI D 3 (nI (bm (fun b => (cS c b).isSome) 9))) 12 (nI b) (nI (needM c b))) 11 (nI b) = nI (cK c b) := by rw [gA_nI (by omega)]; exact h.2.2 b hb
    have hk4 := hw.2.1 b
    rw [hkd]
    have yes : (cK c b = 1 ∨ cK c b = 3) → f_X5_learn_69 N (nI b) 1 (sA (sI D 3 (nI (bm (fun b => (cS c b).isSome) 9))) 12 (nI b) (nI (needM c b))) = some (sA (sA (sI D 3 (nI (bm (fun b => (cS c b).isSome) 9))) 12 (nI b) (nI (needM c b))) 13 (nI b) (nI (useM c b))) := by
      intro hk13
      unfold f_X5_learn_69 f_X5_learn_88
      rw [if_neg one_ne_zero]
      unfold f_X3_firstNamedBit useM usedN
      rw [if_pos hk13]
      cases hs : cS c b with
      | none =>
        cases N with
        | zero => omega
        | succ n =>
          rw [f_X3_firstNamedBit_2, if_pos hin, gA_nI (by omega), hP2.1 b hb, hs, if_pos (show oI none ≤ (0 : Int32) by decide), bd_some, if_pos hin]
          rfl
      | some k =>
        have hk := (hw.2.2.2.1 b k hs).1
        have key := d_firstNamedBit_2 (N := N) hw hP2 hb hs N 0 (Nat.zero_le _) (by omega)
        rw [Nat.sub_zero] at key
        have key : f_X3_firstNamedBit_2 N (sA (sI D 3 (nI (bm (fun b => (cS c b).isSome) 9))) 12 (nI b) (nI (needM c b))) N (nI b) 0 = some (nI (pw (fstO (cP c b) 0 k))) := key
        rw [key, bd_some, if_pos hin]
        rfl
    by_cases k1 : cK c b = 1
    · rw [if_pos (by rw [k1]; rfl)]
      unfold f_X5_learn_64
      exact yes (Or.inl k1)
    · rw [if_neg (show ¬ nI (cK c b) = (1 : Int32) from fun z => k1 (nI_inj (b := 1) (by omega) (by decide) z)), if_pos hin]
      by_cases k3 : cK c b = 3
      · rw [if_pos (by rw [k3]; rfl)]
        unfold f_X5_learn_64
        exact yes (Or.inr k3)
      · rw [if_neg (show ¬ nI (cK c b) = (3 : Int32) from fun z => k3 (nI_inj (b := 3) (by omega) (by decide) z))]
        unfold f_X5_learn_69 f_X5_learn_88 useM usedN
        rw [if_pos rfl, if_pos hin, if_neg (by rintro (z | z) <;> contradiction)]
        rfl
  unfold f_X5_learn f_X3_has
  rw [if_pos hin, gA_nI (by omega), h.1 b hb, show gI D 3 = nI (bm q 9) from h3, nI_shl1 b (by omega)]
  cases hs : cS c b with
  | none =>
    rw [if_pos (show oI none = -1 from rfl), bd_some, if_pos rfl, nI_andn]
    have e : dl (bm q 9) (2 ^ b) = bm (fun b => (cS c b).isSome) 9 := by
      refine nat_ext (fun i => ?_)
      rw [dl_bit, bm_bit, bm_bit, Nat.testBit_two_pow]
      by_cases hi : i = b
      · subst hi; simp [hs]
      · have : ¬ b = i := fun z => hi z.symm
        rw [hq i hi]
        simp [this]
    rw [e]
    exact l30
  | some k =>
    have := (hw.2.2.2.1 b k hs).1
    rw [oI_some, if_neg (nI_ne_m1 (by omega)), bd_some, if_neg one_ne_zero, fa_or]
    have e : bm q 9 ||| 2 ^ b = bm (fun b => (cS c b).isSome) 9 := by
      refine nat_ext (fun i => ?_)
      rw [Nat.testBit_or, bm_bit, bm_bit, Nat.testBit_two_pow]
      by_cases hi : i = b
      · subst hi; simp [hs, hb]
      · have : ¬ b = i := fun z => hi z.symm
        rw [hq i hi]
        simp [this]
    rw [e]
    exact l30
end LE
