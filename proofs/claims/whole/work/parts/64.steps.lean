/-! ===== the reference's steps, and the ring ===== -/
theorem b_false {b : Bool} (h : ¬ b = true) : b = false := by cases b <;> simp_all
section CS
variable {c : Cfg} {N : Nat}
theorem lay_m {b m y : Nat} : (lay c b (m + 1) y = some m) ↔ lay c b m y = some m := by
  constructor
  · intro h
    rw [lay_step] at h
    split at h
    · split at h
      · have h' := Option.some.inj h; omega
      · cases h
    · exact h
  · exact lay_keep
def rowN (c : Cfg) (b m x : Nat) : Nat → Option Nat := fun y => lay c b (if y < x then m + 1 else m) y
theorem row_m {b m x y : Nat} : (rowN c b m x y = some m) ↔ lay c b m y = some m := by
  unfold rowN
  by_cases h : y < x
  · rw [if_pos h]; exact lay_m
  · rw [if_neg h]
theorem row_le {b m x y k : Nat} (h : rowN c b m x y = some k) : k ≤ m + 1 := by
  unfold rowN at h
  by_cases z : y < x
  · rw [if_pos z] at h; exact lay_le _ _ _ h
  · rw [if_neg z] at h; exact Nat.le_succ_of_le (lay_le _ _ _ h)
theorem zI_or (a d : Bool) : zI a ||| zI d = zI (a || d) := by cases a <;> cases d <;> decide
theorem m_countSteps_54 (hw : Wf c) (hN : 20 ≤ N) {R : Mm} (hR : OkR c R) {b m x : Nat} (hm : m < 9) (hx : x < cN c) {k32 : Int32 → Mm → Option Mm} {k40 : Int32 → Int32 → Mm → Option Mm} {M : Mm} (hM : OkR c M) (h12 : ∀ y, y < 9 → M.2.1 12 y = oI (rowN c b m x y)) : ∀ (n i : Nat), i ≤ cN c → cN c < n + i →
    f_X7_countSteps_54 N k32 k40 n (nI (m + 1)) (nI x) (zI (anyN (fun o => decide (lay c b m o = some m) && needs c x o) i)) (nI i) M = k40 (nI (m + 1)) (nI (x + 1)) (sA M 12 (nI x) (oI (lay c b (m + 1) x)))
  | 0, i, h1, h2 => by omega
  | n + 1, i, h1, h2 => by
    have hnb := hw.1
    have hx9 : x < 9 := by omega
    have hin : inb (nI x) 9 := (inb_nI (by omega)).mpr hx9
    have hsm : ∀ y k, rowN c b m x y = some k → k < 2 ^ 31 := fun y k hk => by have := row_le hk; omega
    rw [f_X7_countSteps_54, show gI M 0 = nI (cN c) from hM.1]
    by_cases hi : i = cN c
    · subst hi
      have e : gA M 12 (nI x) = oI (lay c b m x) := by
        rw [gA_nI (by omega), h12 x hx9]
        unfold rowN
        rw [if_neg (Nat.lt_irrefl x)]
      have hsx : ∀ k, lay c b m x = some k → k < 2 ^ 31 := fun k hk => by have := lay_le _ _ _ hk; omega
      have hst := lay_step c b m x
      have hany : (anyN (fun o => decide (lay c b m o = some m) && needs c x o) (cN c) = true) ↔ anyN (fun o => needs c x o && decide (lay c b m o = some m)) 9 = true := by
        rw [anyN_iff, anyN_iff]
        constructor
        · rintro ⟨o, h3, h4⟩
          exact ⟨o, by omega, by rw [Bool.and_comm]; exact h4⟩
        · rintro ⟨o, h3, h4⟩
          simp only [Bool.and_eq_true] at h4
          exact ⟨o, needs_lt hw h4.1, by rw [h4.1, h4.2]; rfl⟩
      have e125 : lay c b (m + 1) x = lay c b m x → f_X7_countSteps_125 N k32 k40 (nI (m + 1)) (nI x) (nI x) M = k40 (nI (m + 1)) (nI (x + 1)) (sA M 12 (nI x) (oI (lay c b (m + 1) x))) := by
        intro g
        unfold f_X7_countSteps_125 f_X7_countSteps_131
        rw [if_pos hin, if_pos hin, e, g, nI_1]
      rw [if_pos (nI_le (Nat.le_refl _) (by omega)), if_pos hin, e]
      by_cases hn : lay c b m x = none
      · rw [if_pos hn] at hst
        rw [if_neg (fun z => (oI_nneg hsx).mp z hn)]
        by_cases ha : anyN (fun o => decide (lay c b m o = some m) && needs c x o) (cN c) = true
        · rw [ha, if_neg (by decide)]
          rw [if_pos (hany.mp ha)] at hst
          unfold f_X7_countSteps_131
          rw [if_pos hin, hst, nI_1]; rfl
        · rw [b_false ha, if_pos (show zI false = 0 from rfl)]
          rw [if_neg (fun z => ha (hany.mpr z))] at hst
          exact e125 (by rw [hst, hn])
      · rw [if_neg hn] at hst
        rw [if_pos ((oI_nneg hsx).mpr hn)]
        exact e125 hst
    · have hi9 : i < 9 := by omega
      have key := m_countSteps_54 hw hN hR hm hx (k32 := k32) (k40 := k40) hM h12 n (i + 1) (by omega) (by omega)
      rw [if_neg (nI_ge (a := i) (b := cN c) (by omega) (by omega)), if_pos ((inb_nI (by omega)).mpr hi9), gA_nI (by omega), h12 i hi9, show nI (m + 1) - (1 : Int32) = nI m from nI_sub (a := m + 1) (b := 1) (by omega) (by omega), nI_1]
      rw [anyN, ← zI_or] at key
      by_cases hl : lay c b m i = some m
      · rw [if_pos (by rw [row_m.mpr hl]; rfl), m_needs hw hM hN hx9 hi9, bd_some]
        rw [decide_eq_true hl, Bool.true_and] at key
        by_cases hd : needs c x i = true
        · rw [hd] at key ⊢
          rw [if_neg (by decide)]
          exact key
        · rw [b_false hd] at key ⊢
          rw [if_pos (show zI false = 0 from rfl)]
          exact key
      · rw [if_neg (fun z => hl (row_m.mp ((oI_eq (by omega) (hsm i)).mp z.symm)))]
        rw [decide_eq_false hl, Bool.false_and] at key
        exact key
theorem m_countSteps_40 (hw : Wf c) (hN : 20 ≤ N) {R : Mm} (hR : OkR c R) {b m : Nat} (hm : m < 9) {k32 : Int32 → Mm → Option Mm} : ∀ (n x : Nat) (M : Mm), x ≤ cN c → cN c < n + x → M.1 = R.1 → (∀ j, j ≠ 12 → M.2.1 j = R.2.1 j) → M.2.2 = R.2.2 → (∀ y, y < 9 → M.2.1 12 y = oI (rowN c b m x y)) →
    ∃ M', f_X7_countSteps_40 N k32 n (nI (m + 1)) (nI x) M = k32 (nI (m + 2)) M' ∧ M'.1 = R.1 ∧ (∀ j, j ≠ 12 → M'.2.1 j = R.2.1 j) ∧ M'.2.2 = R.2.2 ∧ (∀ y, y < 9 → M'.2.1 12 y = oI (lay c b (m + 1) y))
  | 0, x, M, h1, h2, _, _, _, _ => by omega
  | n + 1, x, M, h1, h2, hI, hA, hL, h12 => by
    have hnb := hw.1
    have hM : OkR c M := OkR_of (congrFun hI _) (congrFun hI _) (congrFun hI _) (fun j hj => hA j (by omega)) hR
    rw [f_X7_countSteps_40, show gI M 0 = nI (cN c) from hM.1]
    by_cases hx : x = cN c
    · subst hx
      refine ⟨M, by rw [if_pos (nI_le (Nat.le_refl _) (by omega)), nI_1], hI, hA, hL, fun y hy => ?_⟩
      rw [h12 y hy]
      unfold rowN
      by_cases z : y < cN c
      · rw [if_pos z]
      · rw [if_neg z, lay_step]
        have : ¬ anyN (fun o => needs c y o && decide (lay c b m o = some m)) 9 = true := by
          rw [anyN_iff]
          rintro ⟨o, h3, h4⟩
          simp only [Bool.and_eq_true] at h4
          have h5 := h4.1
          unfold needs at h5
          cases hs : cS c y with
          | none => rw [hs] at h5; cases h5
          | some k => exact z (hw.2.2.2.1 y k hs).2
        rw [if_neg this]
        by_cases hq : lay c b m y = none
        · rw [if_pos hq, hq]
        · rw [if_neg hq]
    · have hx' : x < cN c := by omega
      rw [if_neg (nI_ge (a := x) (b := cN c) (by omega) (by omega))]
      have e := m_countSteps_54 hw hN hR hm hx' (k32 := k32) (k40 := f_X7_countSteps_40 N k32 n) hM h12 N 0 (by omega) (by omega)
      obtain ⟨M', a1, a2⟩ := m_countSteps_40 hw hN hR hm (k32 := k32) n (x + 1) (sA M 12 (nI x) (oI (lay c b (m + 1) x))) (by omega) (by omega) hI (fun j hj => (up_ne hj).trans (hA j hj)) hL (fun y hy => by
        show upd (M.2.1 12) (nI x).toNatClampNeg (oI (lay c b (m + 1) x)) y = _
        rw [nI_clamp (by omega), up_row]
        unfold rowN
        by_cases z : y = x
        · rw [if_pos z, z, if_pos (Nat.lt_succ_self x)]
        · rw [if_neg z, h12 y hy]
          unfold rowN
          by_cases q : y < x
          · rw [if_pos q, if_pos (show y < x + 1 by omega)]
          · rw [if_neg q, if_neg (show ¬ y < x + 1 by omega)])
      exact ⟨M', e.trans a1, a2⟩
theorem m_countSteps_32 (hw : Wf c) (hN : 20 ≤ N) {R : Mm} (hR : OkR c R) {b : Nat} : ∀ (n m : Nat) (M : Mm), m ≤ 8 → 8 < n + m → M.1 = R.1 → (∀ j, j ≠ 12 → M.2.1 j = R.2.1 j) → M.2.2 = R.2.2 → (∀ y, y < 9 → M.2.1 12 y = oI (lay c b m y)) →
    ∃ M', f_X7_countSteps_32 N n (nI (m + 1)) M = some M' ∧ M'.1 = R.1 ∧ (∀ j, j ≠ 12 → M'.2.1 j = R.2.1 j) ∧ M'.2.2 = R.2.2 ∧ (∀ y, y < 9 → M'.2.1 12 y = oI (lay c b 8 y))
  | 0, m, M, h1, h2, _, _, _, _ => by omega
  | n + 1, m, M, h1, h2, hI, hA, hL, h12 => by
    rw [f_X7_countSteps_32]
    by_cases hm : m = 8
    · subst hm
      exact ⟨M, by rw [if_pos (show (9 : Int32) ≤ nI (8 + 1) from nI_le (a := 9) (Nat.le_refl 9) (by decide))], hI, hA, hL, h12⟩
    · rw [if_neg (show ¬ (9 : Int32) ≤ nI (m + 1) from nI_ge (b := 9) (by omega) (by decide))]
      obtain ⟨M', a1, a2, a3, a4, a5⟩ := m_countSteps_40 (b := b) (m := m) hw hN hR (by omega) (k32 := f_X7_countSteps_32 N n) N 0 M (by omega) (by have := hw.1; omega) hI hA hL (fun y hy => by rw [h12 y hy]; unfold rowN; rw [if_neg (Nat.not_lt_zero y)])
      obtain ⟨M2, b1, b2⟩ := m_countSteps_32 hw hN hR n (m + 1) M' (by omega) (by omega) a2 a3 a4 a5
      exact ⟨M2, a1.trans b1, b2⟩
theorem m_countSteps_2 (hw : Wf c) (hN : 20 ≤ N) {R : Mm} (hR : OkR c R) {b : Nat} (hb : b < 9) : ∀ (n i : Nat) (M : Mm), i ≤ 9 → 9 < n + i → M.1 = R.1 → (∀ j, j ≠ 12 → M.2.1 j = R.2.1 j) → M.2.2 = R.2.2 → (∀ y, y < i → M.2.1 12 y = oI (lay c b 0 y)) →
    ∃ M', f_X7_countSteps_2 N n (nI b) (nI i) M = some M' ∧ M'.1 = R.1 ∧ (∀ j, j ≠ 12 → M'.2.1 j = R.2.1 j) ∧ M'.2.2 = R.2.2 ∧ (∀ y, y < 9 → M'.2.1 12 y = oI (lay c b 8 y))
  | 0, i, M, h1, h2, _, _, _, _ => by omega
  | n + 1, i, M, h1, h2, hI, hA, hL, h12 => by
    rw [f_X7_countSteps_2]
    by_cases hi : i = 9
    · subst hi
      rw [if_pos (show (9 : Int32) ≤ nI 9 from nI_le (Nat.le_refl 9) (by decide))]
      exact m_countSteps_32 hw hN hR N 0 M (by omega) (by omega) hI hA hL h12
    · have hi9 : i < 9 := by omega
      have go : f_X7_countSteps_23 N (f_X7_countSteps_2 N n) (nI b) (nI i) (nI i) (oI (lay c b 0 i)) M = f_X7_countSteps_2 N n (nI b) (nI (i + 1)) (sA M 12 (nI i) (oI (lay c b 0 i))) := by
        unfold f_X7_countSteps_23
        rw [if_pos ((inb_nI (by omega)).mpr hi9), nI_1]
      have key := m_countSteps_2 hw hN hR hb n (i + 1) (sA M 12 (nI i) (oI (lay c b 0 i))) (by omega) (by omega) hI (fun j hj => (up_ne hj).trans (hA j hj)) hL (fun y hy => by
        show upd (M.2.1 12) (nI i).toNatClampNeg (oI (lay c b 0 i)) y = _
        rw [nI_clamp (by omega), up_row]
        by_cases z : y = i
        · rw [if_pos z, z]
        · rw [if_neg z, h12 y (by omega)])
      rw [if_neg (show ¬ (9 : Int32) ≤ nI i from nI_ge (b := 9) hi9 (by decide))]
      rw [← go] at key
      unfold lay at key
      by_cases z : i = b
      · rw [if_pos (by rw [z])]
        rw [if_pos z] at key
        exact key
      · rw [if_neg (fun q => z (nI_inj (by omega) (by omega) q))]
        rw [if_neg z] at key
        exact key
theorem m_countSteps (hw : Wf c) (hN : 20 ≤ N) {R : Mm} (hR : OkR c R) {b : Nat} (hb : b < 9) : ∃ M', f_X7_countSteps N (nI b) R = some M' ∧ M'.1 = R.1 ∧ (∀ j, j ≠ 12 → M'.2.1 j = R.2.1 j) ∧ M'.2.2 = R.2.2 ∧ (∀ y, y < 9 → M'.2.1 12 y = oI (lay c b 8 y)) :=
  m_countSteps_2 hw hN hR hb N 0 R (by omega) (by omega) rfl (fun _ _ => rfl) rfl (fun y hy => absurd hy (Nat.not_lt_zero y))
/-! the ring itself -/
def nearP (c : Cfg) (b x k : Nat) : Nat → Bool := fun y => needs c x y && decide (lay c b 8 y = some k)
theorem frst_ex {p : Nat → Bool} : ∀ (m j : Nat), (∃ y, j ≤ y ∧ y < j + m ∧ p y = true) → ∃ y, frst p j m = some y
  | 0, j, ⟨y, h1, h2, h3⟩ => by omega
  | m + 1, j, ⟨y, h1, h2, h3⟩ => by
    rw [frst]
    by_cases hp : p j = true
    · exact ⟨j, if_pos hp⟩
    · rw [if_neg hp]
      refine frst_ex m (j + 1) ⟨y, ?_, by omega, h3⟩
      by_cases z : y = j
      · subst z; exact absurd h3 hp
      · omega
theorem d_nearer_3 (hw : Wf c) {b x k : Nat} (hk : k < 9) {M : Mm} {x3 : Int32} (h16 : ∀ y, y < 9 → M.2.1 16 y = oI (lay c b 8 y)) : ∀ (n i y : Nat), i ≤ 9 → 9 < n + i → frst (nearP c b x k) i (9 - i) = some y → f_X4_nearer_3 N M n (nI (needM c x)) (nI k) x3 (nI i) = some (nI y)
  | 0, i, y, h1, h2, _ => by omega
  | n + 1, i, y, h1, h2, hy => by
    by_cases hi : i = 9
    · subst hi; cases hy
    have hi9 : i < 9 := by omega
    have hsm : ∀ k, lay c b 8 i = some k → k < 2 ^ 31 := fun k hk => by have := lay_le _ _ _ hk; omega
    have hn : needM c x < 2 ^ 31 := Nat.lt_trans (bm_lt _ 9) (by decide)
    rw [f_X4_nearer_3, if_neg (show ¬ (9 : Int32) ≤ nI i from nI_ge (b := 9) hi9 (by decide)), nI_shr hn (by omega), show (1 : Int32) = nI (2 ^ 1 - 1) from rfl, fa_mask, if_pos ((inb_nI (by omega)).mpr hi9), gA_nI (by omega), h16 i hi9, show nI i + nI (2 ^ 1 - 1) = nI (i + 1) from nI_1 i]
    rw [show 9 - i = (9 - (i + 1)) + 1 by omega, frst] at hy
    have hb : (needM c x / 2 ^ i % 2 = 1) ↔ needs c x i = true := by
      have h1 := testBit_div (needM c x) i
      unfold needM at h1 ⊢
      rw [bm_bit, decide_eq_true hi9, Bool.true_and] at h1
      rw [h1]
      simp
    have ht : (nI (needM c x / 2 ^ i % 2 ^ 1) = nI (2 ^ 1 - 1)) ↔ needs c x i = true := by
      rw [← hb]
      constructor
      · intro h; exact nI_inj (by omega) (by decide) h
      · intro h; exact congrArg nI h
    have key := d_nearer_3 hw (x := x) hk (x3 := x3) h16 n (i + 1) y (by omega) (by omega)
    unfold nearP at hy key
    by_cases h1 : needs c x i = true
    · rw [if_pos (ht.mpr h1)]
      by_cases h2 : lay c b 8 i = some k
      · rw [if_pos (by rw [h2]; rfl)]
        rw [if_pos (by rw [h1, decide_eq_true h2]; rfl)] at hy
        cases hy
        rfl
      · rw [if_neg (fun z => h2 ((oI_eq (by omega) hsm).mp z.symm))]
        rw [if_neg (by rw [decide_eq_false h2, Bool.and_false]; decide)] at hy
        exact key hy
    · rw [if_neg (fun z => h1 (ht.mp z))]
      rw [if_neg (by rw [b_false h1, Bool.false_and]; decide)] at hy
      exact key hy
theorem m_tellRing_42 (hw : Wf c) (hN : 20 ≤ N) {b x k : Nat} (hx : x < 9) (hk : k < 9) {M : Mm} (hM : OkR c M) {k14 : Int32 → Int32 → Mm → Option Mm} {x1 : Int32} (h12 : ∀ y, y < 9 → M.2.1 12 y = oI (lay c b 8 y)) (hl : lay c b 8 x = some (k + 1)) : ∀ (n i y : Nat), i ≤ 9 → 9 < n + i → frst (nearP c b x k) i (9 - i) = some y → f_X7_tellRing_42 N k14 n x1 (nI x) (nI i) M = k14 x1 (nI y) M
  | 0, i, y, h1, h2, _ => by omega
  | n + 1, i, y, h1, h2, hy => by
    by_cases hi : i = 9
    · subst hi; cases hy
    have hi9 : i < 9 := by omega
    have hsm : ∀ k, lay c b 8 i = some k → k < 2 ^ 31 := fun k hk => by have := lay_le _ _ _ hk; omega
    rw [f_X7_tellRing_42, if_pos ((inb_nI (by omega)).mpr hi9), if_pos ((inb_nI (by omega)).mpr hx), gA_nI (by omega), gA_nI (by omega), h12 i hi9, h12 x hx, hl, oI_some, show nI (k + 1) - (1 : Int32) = nI k from nI_sub (a := k + 1) (b := 1) (by omega) (by omega), nI_1]
    rw [show 9 - i = (9 - (i + 1)) + 1 by omega, frst] at hy
    have key := m_tellRing_42 hw hN hx hk hM (k14 := k14) (x1 := x1) h12 hl n (i + 1) y (by omega) (by omega)
    unfold nearP at hy key
    by_cases h2 : lay c b 8 i = some k
    · rw [if_pos (by rw [h2]; rfl), m_needs hw hM hN hx hi9, bd_some]
      by_cases h1 : needs c x i = true
      · rw [if_pos (by rw [h1, decide_eq_true h2]; rfl)] at hy
        cases hy
        rw [h1, if_neg (by decide)]
      · rw [if_neg (by rw [b_false h1, Bool.false_and]; decide)] at hy
        rw [b_false h1, if_pos (show zI false = 0 from rfl)]
        exact key hy
    · rw [if_neg (fun z => h2 ((oI_eq (by omega) hsm).mp z.symm))]
      rw [if_neg (by rw [decide_eq_false h2, Bool.and_false]; decide)] at hy
      exact key hy
theorem ring_walk (hw : Wf c) (hN : 20 ≤ N) {b : Nat} (hb : b < cN c) {D0 R0 : Mm} (hD0 : OkD c D0) (hR0 : OkR c R0) : ∀ (k n m i x : Nat) (D R : Mm), lay c b 8 x = some k → x < 9 → i + k ≤ 9 → 1 ≤ i → k < n → k < m →
    (∀ j, j ≠ 10 → D.1 j = D0.1 j) → (∀ j, j ≠ 15 → j ≠ 16 → D.2.1 j = D0.2.1 j) → D.2.2 = D0.2.2 → (∀ j, j ≠ 7 → R.1 j = R0.1 j) → (∀ j, j ≠ 11 → j ≠ 12 → R.2.1 j = R0.2.1 j) → R.2.2 = R0.2.2 →
    D.1 10 = nI i → R.1 7 = nI i → (∀ y, y < 9 → D.2.1 16 y = oI (lay c b 8 y)) → (∀ y, y < 9 → R.2.1 12 y = oI (lay c b 8 y)) → (∀ j, j < i → D.2.1 15 j = R.2.1 11 j) →
    ∃ D' R', f_X4_closes_36 N n (nI b) (nI x) (nI i) D = some (1, D') ∧ f_X7_tellRing_14 N m (nI b) (nI x) R = some R' ∧ RelG D' R' ∧ (∀ j, j ≠ 10 → D'.1 j = D0.1 j) ∧ (∀ j, j ≠ 15 → j ≠ 16 → D'.2.1 j = D0.2.1 j) ∧ D'.2.2 = D0.2.2 ∧ (∀ j, j ≠ 7 → R'.1 j = R0.1 j) ∧ (∀ j, j ≠ 11 → j ≠ 12 → R'.2.1 j = R0.2.1 j) ∧ R'.2.2 = R0.2.2
  | 0, n + 1, m + 1, i, x, D, R, hl, hx, hik, hi1, hkn, hkm, dI, dA, dL, rI, rA, rL, h10, h7, h16, h12, hG => by
    have hnb := hw.1
    have hxb := lay_zero 8 x hl
    refine ⟨D, R, ?_, ?_, ⟨i, by omega, h10, h7, hG⟩, dI, dA, dL, rI, rA, rL⟩
    · rw [f_X4_closes_36, hxb]
      by_cases h9 : (9 : Int32) ≤ nI i
      · rw [if_pos h9]
      · rw [if_neg h9, if_pos rfl]
    · rw [f_X7_tellRing_14, hxb, if_pos rfl]
  | k + 1, n + 1, m + 1, i, x, D, R, hl, hx, hik, hi1, hkn, hkm, dI, dA, dL, rI, rA, rL, h10, h7, h16, h12, hG => by
    have hnb := hw.1
    have hxb : x ≠ b := by
      intro z
      subst z
      rw [lay_b] at hl
      cases hl
    have hxb' : ¬ nI x = nI b := fun z => hxb (nI_inj (by omega) (by omega) z)
    obtain ⟨hxn, o, ho, hno, hlo⟩ := lay_pred hw 8 x k hl
    obtain ⟨y, hy⟩ := frst_ex (p := nearP c b x k) 9 0 ⟨o, by omega, by omega, by unfold nearP; rw [hno, decide_eq_true hlo]; rfl⟩
    obtain ⟨hy1, hy2, hy3⟩ := frst_some hy
    unfold nearP at hy3
    simp only [Bool.and_eq_true, decide_eq_true_eq] at hy3
    have hinx : inb (nI x) 9 := (inb_nI (by omega)).mpr hx
    have hini : inb (nI i) 9 := (inb_nI (by omega)).mpr (by omega)
    have e7 : gI R 7 = nI i := h7
    have e10 : gI (sA D 15 (nI i) (nI x)) 10 = nI i := h10
    have e7' : gI (sA R 11 (nI i) (nI x)) 7 = nI i := h7
    have hM : OkR c (sI (sA R 11 (nI i) (nI x)) 7 (nI (i + 1))) := by
      refine OkR_of (R := R0) (rI 0 (by decide)) (rI 4 (by decide)) (rI 5 (by decide)) (fun j hj => ?_) hR0
      exact (up_ne (show j ≠ 11 by omega)).trans (rA j (by omega) (by omega))
    have eD12 : gA (sI (sA D 15 (nI i) (nI x)) 10 (nI (i + 1))) 12 (nI x) = nI (needM c x) := by
      rw [gA_nI (by omega)]
      show D.2.1 12 x = _
      rw [dA 12 (by decide) (by decide)]
      exact hD0.2.2.2.2.2.2.2.2.1 x hx
    have eD16 : gA (sI (sA D 15 (nI i) (nI x)) 10 (nI (i + 1))) 16 (nI x) - 1 = nI k := by
      rw [gA_nI (by omega)]
      show D.2.1 16 x - 1 = _
      rw [h16 x hx, hl, oI_some]
      exact nI_sub (a := k + 1) (b := 1) (by omega) (by omega)
    have hnear : f_X4_nearer N (sI (sA D 15 (nI i) (nI x)) 10 (nI (i + 1))) (nI (needM c x)) (nI k) (nI b) = some (nI y) := by
      unfold f_X4_nearer
      exact d_nearer_3 (N := N) (M := sI (sA D 15 (nI i) (nI x)) 10 (nI (i + 1))) hw (by omega) h16 N 0 y (by omega) (by omega) hy
    obtain ⟨D', R', a1, a2, a3⟩ := ring_walk hw hN hb hD0 hR0 k n m (i + 1) y (sI (sA D 15 (nI i) (nI x)) 10 (nI (i + 1))) (sI (sA R 11 (nI i) (nI x)) 7 (nI (i + 1))) hy3.2 (by omega) (by omega) (by omega) (by omega) (by omega)
      (fun j hj => (up_ne hj).trans (dI j hj)) (fun j hj1 hj2 => (up_ne hj1).trans (dA j hj1 hj2)) dL (fun j hj => (up_ne hj).trans (rI j hj)) (fun j hj1 hj2 => (up_ne hj1).trans (rA j hj1 hj2)) rL rfl rfl h16 h12 (fun j hj => by
        show upd (D.2.1 15) (nI i).toNatClampNeg (nI x) j = upd (R.2.1 11) (nI i).toNatClampNeg (nI x) j
        rw [nI_clamp (by omega), up_row, up_row]
        by_cases z : j = i
        · rw [if_pos z, if_pos z]
        · rw [if_neg z, if_neg z]; exact hG j (by omega))
    refine ⟨D', R', ?_, ?_, a3⟩
    · rw [f_X4_closes_36, if_neg (show ¬ (9 : Int32) ≤ nI i from nI_ge (b := 9) (by omega) (by decide)), if_neg hxb', if_pos hini, if_pos hinx, if_pos hinx, e10, nI_1, eD12, eD16, hnear, bd_some]
      exact a1
    · rw [f_X7_tellRing_14, if_neg hxb', e7, if_pos hini, e7', nI_1]
      have := m_tellRing_42 (N := N) hw hN hx (by omega) hM (k14 := f_X7_tellRing_14 N m) (x1 := nI b) h12 hl N 0 y (by omega) (by omega) hy
      exact this.trans a2
end CS
