/-! ===== what the works are: a configuration, and the acts ===== -/
/-- how many baths; kind; places of the recipe; what they name; how many goals; the goals; together -/
abbrev Cfg : Type := Nat × (Nat → Nat) × (Nat → Option Nat) × (Nat → Nat → Option Nat) × Nat × (Nat → Nat) × Bool
abbrev cN (c : Cfg) : Nat := c.1
abbrev cK (c : Cfg) : Nat → Nat := c.2.1
abbrev cS (c : Cfg) : Nat → Option Nat := c.2.2.1
abbrev cP (c : Cfg) : Nat → Nat → Option Nat := c.2.2.2.1
abbrev cG (c : Cfg) : Nat := c.2.2.2.2.1
abbrev cg (c : Cfg) : Nat → Nat := c.2.2.2.2.2.1
abbrev cT (c : Cfg) : Bool := c.2.2.2.2.2.2
def oI : Option Nat → Int32
  | none => -1
  | some k => nI k
def zI (b : Bool) : Int32 := if b = true then 1 else 0
def Wf (c : Cfg) : Prop := cN c ≤ 9 ∧ (∀ b, cK c b ≤ 4) ∧ (∀ b, cN c ≤ b → cK c b = 0) ∧ (∀ b k, cS c b = some k → k ≤ 4 ∧ b < cN c) ∧ (∀ b k i o, cS c b = some k → i < 4 → cP c b i = some o → o < cN c) ∧ cG c ≤ 3 ∧ (∀ i, i < cG c → cg c i < cN c) ∧ (∀ i j, i < cG c → j < cG c → cg c i = cg c j → i = j)
/-- a mask of the first n numbers -/
def bm (p : Nat → Bool) : Nat → Nat
  | 0 => 0
  | n + 1 => bm p n ||| (if p n = true then 2 ^ n else 0)
theorem bm_bit (p : Nat → Bool) : ∀ n i, (bm p n).testBit i = (decide (i < n) && p i)
  | 0, i => by simp [bm]
  | n + 1, i => by
    rw [bm, Nat.testBit_or, bm_bit p n i]
    by_cases hp : p n = true
    · rw [if_pos hp, Nat.testBit_two_pow]
      by_cases h : i = n
      · subst h; simp [hp]
      · have h2 : decide (i < n + 1) = decide (i < n) := by
          by_cases h3 : i < n
          · simp [h3]; omega
          · simp [h3]; omega
        rw [h2]
        simp [Ne.symm h]
    · rw [if_neg hp]
      by_cases h : i = n
      · subst h; simp [hp]
      · have h2 : decide (i < n + 1) = decide (i < n) := by
          by_cases h3 : i < n
          · simp [h3]; omega
          · simp [h3]; omega
        rw [h2]
        simp
theorem bm_lt (p : Nat → Bool) : ∀ n, bm p n < 2 ^ n
  | 0 => by simp [bm]
  | n + 1 => by
    rw [bm]
    refine Nat.or_lt_two_pow (Nat.lt_trans (bm_lt p n) (Nat.pow_lt_pow_right (by decide) (Nat.lt_succ_self n))) ?_
    split
    · exact Nat.pow_lt_pow_right (by decide) (Nat.lt_succ_self n)
    · exact Nat.two_pow_pos _
theorem nat_ext {a b : Nat} (h : ∀ i, a.testBit i = b.testBit i) : a = b := Nat.eq_of_testBit_eq h
def anyN (p : Nat → Bool) : Nat → Bool
  | 0 => false
  | n + 1 => anyN p n || p n
theorem anyN_iff (p : Nat → Bool) : ∀ n, anyN p n = true ↔ ∃ i, i < n ∧ p i = true
  | 0 => by simp [anyN]
  | n + 1 => by
    rw [anyN, Bool.or_eq_true, anyN_iff p n]
    constructor
    · rintro (⟨i, h1, h2⟩ | h)
      · exact ⟨i, by omega, h2⟩
      · exact ⟨n, by omega, h⟩
    · rintro ⟨i, h1, h2⟩
      by_cases h : i = n
      · subst h; exact Or.inr h2
      · exact Or.inl ⟨i, by omega, h2⟩
def fstO (p : Nat → Option Nat) : Nat → Nat → Option Nat
  | _, 0 => none
  | i, n + 1 => match p i with
    | some o => some o
    | none => fstO p (i + 1) n
def needs (c : Cfg) (b o : Nat) : Bool := match cS c b with
  | none => false
  | some k => anyN (fun i => decide (cP c b i = some o)) k
def usedN (c : Cfg) (b : Nat) : Option Nat := if cK c b = 1 ∨ cK c b = 3 then (match cS c b with
  | none => none
  | some k => fstO (cP c b) 0 k) else none
def needM (c : Cfg) (b : Nat) : Nat := bm (needs c b) 9
def useM (c : Cfg) (b : Nat) : Nat := match usedN c b with
  | none => 0
  | some o => 2 ^ o
def goalM (c : Cfg) : Nat := bm (fun o => anyN (fun i => decide (cg c i = o)) (cG c)) 9
def OkR (c : Cfg) (R : Mm) : Prop := R.1 0 = nI (cN c) ∧ (∀ b, b < 9 → R.2.1 1 b = nI (cK c b)) ∧ (∀ b, b < 9 → R.2.1 3 b = oI (cS c b)) ∧ (∀ b i, b < 9 → i < 4 → R.2.1 4 (4 * b + i) = oI (cP c b i)) ∧ R.1 4 = nI (cG c) ∧ (∀ i, i < cG c → R.2.1 6 i = nI (cg c i)) ∧ R.1 5 = zI (cT c)
def OkD (c : Cfg) (D : Mm) : Prop := D.1 2 = nI (cN c) ∧ (∀ b, b < 9 → D.2.1 11 b = nI (cK c b)) ∧ (∀ b, b < 9 → D.2.1 8 b = oI (cS c b)) ∧ (∀ b i, b < 9 → i < 4 → D.2.1 10 (4 * b + i) = oI (cP c b i)) ∧ D.1 3 = nI (bm (fun b => (cS c b).isSome) 9) ∧ D.1 4 = nI (bm (fun b => decide (cK c b = 3)) 9) ∧ D.1 5 = nI (bm (fun b => decide (cK c b = 2)) 9) ∧ D.1 6 = nI (bm (fun b => decide (cK c b = 4)) 9) ∧ (∀ b, b < 9 → D.2.1 12 b = nI (needM c b)) ∧ (∀ b, b < 9 → D.2.1 13 b = nI (useM c b)) ∧ D.1 7 = nI (cG c) ∧ (∀ i, i < cG c → D.2.1 14 i = nI (cg c i)) ∧ D.1 8 = nI (goalM c) ∧ D.1 9 = zI (cT c)
/-! the acts -/
def fillN (c : Cfg) (s f b : Nat) : Nat := if s.testBit b = true then (if cK c b = 2 ∨ f = b + 1 then 2 else 1) else 0
def fillU (c : Cfg) (s f b : Nat) : Nat := match usedN c b with
  | none => 0
  | some o => fillN c s f o
def wantN (c : Cfg) (b : Nat) : Nat := if cK c b = 2 ∨ cK c b = 4 then 2 else 1
def strongN (c : Cfg) (s b : Nat) : Bool := anyN (fun o => decide (cK c o = 3) && s.testBit o && !decide (usedN c b = some o)) (cN c)
def reasonN (c : Cfg) (s f b v : Nat) : Nat :=
  if cS c b = none then 1 else if s.testBit b = true then 2 else if anyN (fun o => needs c b o && !s.testBit o) 9 = true then 3
  else if cK c b = 3 ∧ strongN c s b = true then 4 else if v + fillU c s f b < fb_sm (fillN c s f) 9 + wantN c b then 5 else 0
def madeS (c : Cfg) (s b : Nat) : Nat := dl s (useM c b) ||| 2 ^ b
def madeF (c : Cfg) (b : Nat) : Nat := if cK c b = 4 then b + 1 else 0
def pourF (f b : Nat) : Nat := if f = b + 1 then 0 else f
def stoodM (c : Cfg) (s : Nat) : Nat := bm (fun i => s.testBit (cg c i)) (cG c)
def stoodN (c : Cfg) (h s : Nat) : Nat := if cT c = true then h else h ||| stoodM c s
abbrev St : Type := Nat × Nat × Nat
def nextN (c : Cfg) (v : Nat) (x : St) (a : Nat) : Option St :=
  if cN c ≤ a % 9 then none
  else if a < 9 then (if reasonN c x.1 x.2.1 (a % 9) v = 0 then some (madeS c x.1 (a % 9), madeF c (a % 9), stoodN c x.2.2 (madeS c x.1 (a % 9))) else none)
  else (if x.1.testBit (a % 9) = true then some (dl x.1 (2 ^ (a % 9)), pourF x.2.1 (a % 9), stoodN c x.2.2 (dl x.1 (2 ^ (a % 9)))) else none)
/-- states that make sense -/
def Vs (c : Cfg) (x : St) : Prop := x.1 < 2 ^ cN c ∧ (x.2.1 = 0 ∨ (x.2.1 ≤ 9 ∧ 0 < x.2.1 ∧ x.1.testBit (x.2.1 - 1) = true ∧ cK c (x.2.1 - 1) = 4)) ∧ x.2.2 < 2 ^ cG c
theorem fstO_some {p : Nat → Option Nat} : ∀ {n i o : Nat}, fstO p i n = some o → ∃ j, i ≤ j ∧ j < i + n ∧ p j = some o
  | 0, i, o, h => by cases h
  | n + 1, i, o, h => by
    rw [fstO] at h
    cases hp : p i with
    | some q =>
      rw [hp] at h
      cases h
      exact ⟨i, by omega, by omega, hp⟩
    | none =>
      rw [hp] at h
      obtain ⟨j, h1, h2, h3⟩ := fstO_some h
      exact ⟨j, by omega, by omega, h3⟩
theorem used_lt {c : Cfg} (hw : Wf c) {b o : Nat} (h : usedN c b = some o) : o < cN c ∧ needs c b o = true := by
  unfold usedN at h
  split at h
  · cases hs : cS c b with
    | none => rw [hs] at h; cases h
    | some k =>
      rw [hs] at h
      obtain ⟨j, h1, h2, h3⟩ := fstO_some h
      have hk := (hw.2.2.2.1 b k hs).1
      refine ⟨hw.2.2.2.2.1 b k j o hs (by omega) h3, ?_⟩
      unfold needs
      rw [hs]
      exact (anyN_iff _ _).mpr ⟨j, by omega, by simp [h3]⟩
  · cases h
theorem needs_lt {c : Cfg} (hw : Wf c) {b o : Nat} (h : needs c b o = true) : o < cN c := by
  unfold needs at h
  cases hs : cS c b with
  | none => rw [hs] at h; cases h
  | some k =>
    rw [hs] at h
    obtain ⟨j, h1, h2⟩ := (anyN_iff _ _).mp h
    have hk := (hw.2.2.2.1 b k hs).1
    exact hw.2.2.2.2.1 b k j o hs (by omega) (of_decide_eq_true h2)
theorem useM_lt {c : Cfg} (hw : Wf c) (b : Nat) : useM c b < 512 := by
  unfold useM
  cases h : usedN c b with
  | none => decide
  | some o =>
    have h1 := (used_lt hw h).1
    have h2 : o < 9 := Nat.lt_of_lt_of_le h1 hw.1
    exact Nat.lt_of_lt_of_le (Nat.pow_lt_pow_right (by decide) h2) (by decide)
theorem useM_bit {c : Cfg} (b i : Nat) : (useM c b).testBit i = decide (usedN c b = some i) := by
  unfold useM
  cases h : usedN c b with
  | none => simp
  | some o => simp [Nat.testBit_two_pow, Option.some.injEq]
