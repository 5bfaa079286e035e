/-! ===== how far each bath is from b: lay ===== -/
def lay (c : Cfg) (b : Nat) : Nat → Nat → Option Nat
  | 0, x => if x = b then some 0 else none
  | n + 1, x => match lay c b n x with
    | some k => some k
    | none => if anyN (fun o => needs c x o && decide (lay c b n o = some n)) 9 = true then some (n + 1) else none
theorem lay_step (c : Cfg) (b n x : Nat) : lay c b (n + 1) x = if lay c b n x = none then (if anyN (fun o => needs c x o && decide (lay c b n o = some n)) 9 = true then some (n + 1) else none) else lay c b n x := by
  rw [lay]
  cases h : lay c b n x with
  | none => rw [if_pos rfl]
  | some k => rw [if_neg (Option.some_ne_none k)]
theorem lay_le {c : Cfg} {b : Nat} : ∀ (n x k : Nat), lay c b n x = some k → k ≤ n
  | 0, x, k, h => by
    rw [lay] at h
    split at h
    · cases h; exact Nat.le_refl 0
    · cases h
  | n + 1, x, k, h => by
    rw [lay_step] at h
    split at h
    · split at h
      · cases h; exact Nat.le_refl _
      · cases h
    · exact Nat.le_succ_of_le (lay_le n x k h)
theorem lay_keep {c : Cfg} {b n x k : Nat} (h : lay c b n x = some k) : lay c b (n + 1) x = some k := by
  rw [lay_step, if_neg (by rw [h]; exact Option.some_ne_none k)]
  exact h
theorem lay_pred {c : Cfg} (hw : Wf c) {b : Nat} : ∀ (n x k : Nat), lay c b n x = some (k + 1) → x < cN c ∧ ∃ o, o < 9 ∧ needs c x o = true ∧ lay c b n o = some k
  | 0, x, k, h => by
    rw [lay] at h
    split at h
    · cases h
    · cases h
  | n + 1, x, k, h => by
    rw [lay_step] at h
    split at h
    · split at h
      · next h1 h2 =>
        cases h
        obtain ⟨o, h3, h4⟩ := (anyN_iff _ _).mp h2
        simp only [Bool.and_eq_true, decide_eq_true_eq] at h4
        refine ⟨?_, o, h3, h4.1, lay_keep h4.2⟩
        have h5 := h4.1
        unfold needs at h5
        cases hs : cS c x with
        | none => rw [hs] at h5; cases h5
        | some k => exact (hw.2.2.2.1 x k hs).2
      · cases h
    · obtain ⟨h1, o, h2, h3, h4⟩ := lay_pred hw n x k h
      exact ⟨h1, o, h2, h3, lay_keep h4⟩
theorem lay_zero {c : Cfg} {b : Nat} : ∀ (n x : Nat), lay c b n x = some 0 → x = b
  | 0, x, h => by
    rw [lay] at h
    by_cases z : x = b
    · exact z
    · rw [if_neg z] at h; cases h
  | n + 1, x, h => by
    rw [lay_step] at h
    split at h
    · split at h
      · cases h
      · cases h
    · exact lay_zero n x h
theorem lay_b {c : Cfg} {b : Nat} : ∀ n, lay c b n b = some 0
  | 0 => if_pos rfl
  | n + 1 => lay_keep (lay_b n)
theorem oI_m1 {o : Option Nat} (ho : ∀ k, o = some k → k < 2 ^ 31) : (oI o = -1) ↔ o = none := by
  cases o with
  | none => exact ⟨fun _ => rfl, fun _ => rfl⟩
  | some k => exact ⟨fun h => absurd h (nI_ne_m1 (ho k rfl)), fun h => by cases h⟩
theorem up_row (f : Nat → Int32) (i j : Nat) (v : Int32) : upd f i v j = if j = i then v else f j := rfl
section ME
variable {c : Cfg} {N : Nat}
def frontN (c : Cfg) (b n : Nat) : Nat → Bool := fun x => decide (lay c b n x = some n)
theorem d_measure_35 (hw : Wf c) {b m : Nat} (hm : m < 9) {D : Mm} (hD : OkD c D) {k22 : Int32 → Int32 → Mm → Option Mm} : ∀ (n i : Nat) (M : Mm), i ≤ 9 → 9 < n + i → M.1 = D.1 → (∀ j, j ≠ 16 → M.2.1 j = D.2.1 j) → M.2.2 = D.2.2 → (∀ x, x < 9 → M.2.1 16 x = oI (lay c b (if x < i then m + 1 else m) x)) →
    ∃ M', f_X4_measure_35 N k22 n (nI (bm (frontN c b m) 9)) (nI (m + 1)) (nI (bm (frontN c b (m + 1)) i)) (nI i) M = k22 (nI (bm (frontN c b (m + 1)) 9)) (nI (m + 2)) M' ∧ M'.1 = D.1 ∧ (∀ j, j ≠ 16 → M'.2.1 j = D.2.1 j) ∧ M'.2.2 = D.2.2 ∧ (∀ x, x < 9 → M'.2.1 16 x = oI (lay c b (m + 1) x))
  | 0, i, M, h1, h2, _, _, _, _ => by omega
  | n + 1, i, M, h1, h2, hI, hA, hL, h16 => by
    rw [f_X4_measure_35]
    by_cases hi : i = 9
    · subst hi
      refine ⟨M, ?_, hI, hA, hL, fun x hx => ?_⟩
      · rw [if_pos (show (9 : Int32) ≤ nI 9 from nI_le (Nat.le_refl 9) (by decide)), nI_1]
      · rw [h16 x hx, if_pos hx]
    have hi9 : i < 9 := by omega
    have hin : inb (nI i) 9 := (inb_nI (by omega)).mpr hi9
    have e16 : gA M 16 (nI i) = oI (lay c b m i) := by rw [gA_nI (by omega), h16 i hi9, if_neg (Nat.lt_irrefl i)]
    have e12 : gA M 12 (nI i) = nI (needM c i) := by rw [gA_nI (by omega), hA 12 (by decide), hD.2.2.2.2.2.2.2.2.1 i hi9]
    have hsm : ∀ k, lay c b m i = some k → k < 2 ^ 31 := fun k hk => by have := lay_le m i k hk; omega
    have hb : bm (frontN c b (m + 1)) (i + 1) = bm (frontN c b (m + 1)) i ||| (if frontN c b (m + 1) i = true then 2 ^ i else 0) := rfl
    have same : lay c b (m + 1) i = lay c b m i → frontN c b (m + 1) i = false → ∃ M', f_X4_measure_35 N k22 n (nI (bm (frontN c b m) 9)) (nI (m + 1)) (nI (bm (frontN c b (m + 1)) i)) (nI i + 1) M = k22 (nI (bm (frontN c b (m + 1)) 9)) (nI (m + 2)) M' ∧ M'.1 = D.1 ∧ (∀ j, j ≠ 16 → M'.2.1 j = D.2.1 j) ∧ M'.2.2 = D.2.2 ∧ (∀ x, x < 9 → M'.2.1 16 x = oI (lay c b (m + 1) x)) := by
      intro g1 g2
      have key := d_measure_35 hw hm hD (k22 := k22) n (i + 1) M (by omega) (by omega) hI hA hL (fun x hx => by
        rw [h16 x hx]
        by_cases z : x = i
        · subst z
          rw [if_neg (Nat.lt_irrefl x), if_pos (Nat.lt_succ_self x), g1]
        · by_cases y : x < i
          · rw [if_pos y, if_pos (show x < i + 1 by omega)]
          · rw [if_neg y, if_neg (show ¬ x < i + 1 by omega)])
      rw [hb, g2, if_neg (by decide), Nat.or_zero] at key
      rw [nI_1]
      exact key
    rw [if_neg (show ¬ (9 : Int32) ≤ nI i from nI_ge (b := 9) hi9 (by decide)), if_pos hin, e16]
    by_cases hn : lay c b m i = none
    · rw [if_pos ((oI_m1 hsm).mpr hn), if_pos hin, e12, fa_and]
      have hst := lay_step c b m i
      rw [if_pos hn] at hst
      have hand : (nI (needM c i &&& bm (frontN c b m) 9) = 0) ↔ ¬ anyN (fun o => needs c i o && decide (lay c b m o = some m)) 9 = true := by
        have hlt : needM c i &&& bm (frontN c b m) 9 < 2 ^ 31 := Nat.lt_of_le_of_lt Nat.and_le_right (Nat.lt_trans (bm_lt _ 9) (by decide))
        rw [nI_z hlt, and_bm, anyN_iff]
        constructor
        · rintro h ⟨o, h3, h4⟩
          simp only [Bool.and_eq_true] at h4
          refine h o h3 ⟨?_, h4.2⟩
          unfold needM
          rw [bm_bit, decide_eq_true h3, h4.1]; rfl
        · intro h o h3 h4
          refine h ⟨o, h3, ?_⟩
          have h5 := h4.1
          unfold needM at h5
          rw [bm_bit, decide_eq_true h3, Bool.true_and] at h5
          rw [h5]
          exact h4.2
      by_cases ha : anyN (fun o => needs c i o && decide (lay c b m o = some m)) 9 = true
      · rw [if_neg (fun z => hand.mp z ha), if_pos hin, nI_shl1 i (by omega), fa_or]
        rw [if_pos ha] at hst
        have g2 : frontN c b (m + 1) i = true := by unfold frontN; rw [hst]; simp
        have key := d_measure_35 hw hm hD (k22 := k22) n (i + 1) (sA M 16 (nI i) (nI (m + 1))) (by omega) (by omega) hI (fun j hj => (up_ne hj).trans (hA j hj)) hL (fun x hx => by
          show upd (M.2.1 16) (nI i).toNatClampNeg (nI (m + 1)) x = _
          rw [nI_clamp (by omega), up_row]
          by_cases z : x = i
          · subst z
            rw [if_pos rfl, if_pos (Nat.lt_succ_self x), hst]; rfl
          · rw [if_neg z, h16 x hx]
            by_cases y : x < i
            · rw [if_pos y, if_pos (show x < i + 1 by omega)]
            · rw [if_neg y, if_neg (show ¬ x < i + 1 by omega)])
        rw [hb, g2, if_pos rfl] at key
        rw [nI_1]
        exact key
      · rw [if_pos (hand.mpr ha)]
        rw [if_neg ha] at hst
        exact same (by rw [hst, hn]) (by unfold frontN; rw [hst]; simp)
    · rw [if_neg (fun z => hn ((oI_m1 hsm).mp z))]
      have hst := lay_step c b m i
      rw [if_neg hn] at hst
      refine same hst ?_
      unfold frontN
      rw [hst]
      refine decide_eq_false (fun z => ?_)
      have := lay_le m i _ z
      omega
theorem d_measure_22 (hw : Wf c) (hN : 20 ≤ N) {b : Nat} {D : Mm} (hD : OkD c D) : ∀ (n m : Nat) (M : Mm), m ≤ 8 → 8 < n + m → M.1 = D.1 → (∀ j, j ≠ 16 → M.2.1 j = D.2.1 j) → M.2.2 = D.2.2 → (∀ x, x < 9 → M.2.1 16 x = oI (lay c b m x)) →
    ∃ M', f_X4_measure_22 N n (nI (bm (frontN c b m) 9)) (nI (m + 1)) M = some M' ∧ M'.1 = D.1 ∧ (∀ j, j ≠ 16 → M'.2.1 j = D.2.1 j) ∧ M'.2.2 = D.2.2 ∧ (∀ x, x < 9 → M'.2.1 16 x = oI (lay c b 8 x))
  | 0, m, M, h1, h2, _, _, _, _ => by omega
  | n + 1, m, M, h1, h2, hI, hA, hL, h16 => by
    rw [f_X4_measure_22]
    by_cases hm : m = 8
    · subst hm
      exact ⟨M, by rw [if_pos (show (9 : Int32) ≤ nI (8 + 1) from nI_le (a := 9) (Nat.le_refl 9) (by decide))], hI, hA, hL, h16⟩
    · rw [if_neg (show ¬ (9 : Int32) ≤ nI (m + 1) from nI_ge (b := 9) (by omega) (by decide))]
      obtain ⟨M', a1, a2, a3, a4, a5⟩ := d_measure_35 (N := N) (b := b) (m := m) hw (by omega) hD (k22 := f_X4_measure_22 N n) N 0 M (by omega) (by omega) hI hA hL (fun x hx => by rw [h16 x hx, if_neg (Nat.not_lt_zero x)])
      obtain ⟨M2, b1, b2⟩ := d_measure_22 hw hN hD n (m + 1) M' (by omega) (by omega) a2 a3 a4 a5
      exact ⟨M2, a1.trans b1, b2⟩
theorem front0 {b : Nat} (hb : b < 9) : bm (frontN c b 0) 9 = 2 ^ b := by
  refine nat_ext (fun i => ?_)
  rw [bm_bit, Nat.testBit_two_pow]
  unfold frontN lay
  by_cases z : i = b
  · subst z; simp [hb]
  · simp [z, Ne.symm z]
theorem d_measure (hw : Wf c) (hN : 20 ≤ N) {b : Nat} (hb : b < 9) {D : Mm} (hD : OkD c D) :
    ∃ M', f_X4_measure N (nI b) D = some M' ∧ M'.1 = D.1 ∧ (∀ j, j ≠ 16 → M'.2.1 j = D.2.1 j) ∧ M'.2.2 = D.2.2 ∧ (∀ x, x < 9 → M'.2.1 16 x = oI (lay c b 8 x)) := by
  obtain ⟨M', a1, a2⟩ := d_measure_22 (N := N) (b := b) hw hN hD N 0 (sA (sF D 16 9 (-1)) 16 (nI b) 0) (by omega) (by omega) rfl (fun j hj => (up_ne hj).trans (up_ne hj)) rfl (fun x hx => by
    show upd (fl (D.2.1 16) 9 (-1)) (nI b).toNatClampNeg 0 x = _
    rw [nI_clamp (by omega), up_row]
    unfold lay
    by_cases z : x = b
    · rw [if_pos z, if_pos z]; rfl
    · rw [if_neg z, if_neg z]
      exact if_pos hx)
  refine ⟨M', ?_, a2⟩
  unfold f_X4_measure
  rw [if_pos ((inb_nI (by omega)).mpr hb), nI_shl1 b (by omega)]
  rw [front0 hb] at a1
  exact a1
/-! the reference counts the same -/
theorem m_needs_5 (hw : Wf c) {R : Mm} (h : OkR c R) {b o k : Nat} (hb : b < 9) (ho : o < 9) (hs : cS c b = some k) : ∀ (n i : Nat), i ≤ k → k < n + i → f_X7_needs_5 N R n (nI b) (nI o) (zI (anyN (fun i => decide (cP c b i = some o)) i)) (nI i) = some (zI (anyN (fun i => decide (cP c b i = some o)) k))
  | 0, i, h1, h2 => by omega
  | n + 1, i, h1, h2 => by
    have hk := (hw.2.2.2.1 b k hs).1
    have hnb := hw.1
    rw [f_X7_needs_5, if_pos ((inb_nI (by omega)).mpr hb), gA_nI (by omega), h.2.2.1 b hb, hs, oI_some]
    by_cases hi : i = k
    · subst hi
      rw [if_pos (nI_le (Nat.le_refl _) (by omega)), if_pos (zI_b _)]
    · rw [if_neg (nI_ge (a := i) (b := k) (by omega) (by omega)), nI_place, if_pos ((inb_nI (by omega)).mpr (by omega)), gA_nI (by omega), h.2.2.2.1 b i hb (by omega), nI_1]
      have hsm : ∀ q, cP c b i = some q → q < 2 ^ 31 := fun q hq => by have := hw.2.2.2.2.1 b k i q hs (by omega) hq; omega
      have key := m_needs_5 hw h hb ho hs n (i + 1) (by omega) (by omega)
      rw [anyN] at key
      by_cases hq : cP c b i = some o
      · rw [if_pos ((oI_eq (by omega) hsm).mpr hq).symm]
        rw [show (decide (cP c b i = some o)) = true from decide_eq_true hq, Bool.or_true] at key
        rw [show zI (anyN (fun i => decide (cP c b i = some o)) i) ||| 1 = zI true from by cases anyN (fun i => decide (cP c b i = some o)) i <;> decide]
        exact key
      · rw [if_neg (fun z => hq ((oI_eq (by omega) hsm).mp z.symm))]
        rw [show (decide (cP c b i = some o)) = false from decide_eq_false hq, Bool.or_false] at key
        rw [show zI (anyN (fun i => decide (cP c b i = some o)) i) ||| 0 = zI (anyN (fun i => decide (cP c b i = some o)) i) from by cases anyN (fun i => decide (cP c b i = some o)) i <;> decide]
        exact key
theorem m_needs (hw : Wf c) {R : Mm} (h : OkR c R) (hN : 20 ≤ N) {b o : Nat} (hb : b < 9) (ho : o < 9) : f_X7_needs N R (nI b) (nI o) = some (zI (needs c b o)) := by
  unfold f_X7_needs needs
  cases hs : cS c b with
  | some k =>
    have hk := (hw.2.2.2.1 b k hs).1
    exact m_needs_5 hw h hb ho hs N 0 (Nat.zero_le _) (by omega)
  | none =>
    obtain ⟨n, rfl⟩ : ∃ n, N = n + 1 := ⟨N - 1, by omega⟩
    rw [f_X7_needs_5, if_pos ((inb_nI (by omega)).mpr hb), gA_nI (by omega), h.2.2.1 b hb, hs, if_pos (show oI none ≤ (0 : Int32) by decide), if_pos (Or.inl rfl)]
    rfl
end ME
