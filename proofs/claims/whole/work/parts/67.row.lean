/-! ===== row: the least closed set of bits ===== -/
def Rch (c : Cfg) (v j : Nat) : Prop := ∀ P : Nat → Prop, P 0 → (∀ k a j, P k → a < 18 → kx c v k a = some j → P j) → P j
theorem Rch0 {c : Cfg} {v : Nat} : Rch c v 0 := fun P h _ => h
theorem Rch.step {c : Cfg} {v k a j : Nat} (h : Rch c v k) (ha : a < 18) (hx : kx c v k a = some j) : Rch c v j := fun P h0 h1 => h1 k a j (h P h0 h1) ha hx
theorem Rch.ok {c : Cfg} {v j : Nat} (hw : Wf c) (hp : plainN c (cN c) = true) (h : Rch c v j) : j < 4096 ∧ j % 512 < 2 ^ cN c :=
  h (fun j => j < 4096 ∧ j % 512 < 2 ^ cN c) ⟨by decide, Nat.two_pow_pos _⟩ (fun k a j hk ha hx => ⟨(kx_some hw hp hk.1 hx).1, (kx_some hw hp hk.1 hx).2 hk.2⟩)
/-- a row of bits that is the least closed set -/
def Least (c : Cfg) (v : Nat) (A : Nat → Int32) : Prop := ∀ j, j < 4096 → isB (A j) ∧ (A j = 1 ↔ Rch c v j)
theorem least_of {c : Cfg} {v : Nat} {A : Nat → Int32} (hw : Wf c) (hp : plainN c (cN c) = true) (hB : ∀ j, j < 4096 → isB (A j)) (h0 : A 0 = 1) (h1 : ∀ j, j < 4096 → A j = 1 → Rch c v j) (h2 : ∀ k, k < 4096 → A k = 1 → ∀ a, a < 18 → ∀ j, kx c v k a = some j → A j = 1) : Least c v A := by
  intro j hj
  refine ⟨hB j hj, h1 j hj, fun h => ?_⟩
  have := h (fun j => j < 4096 ∧ A j = 1) ⟨by decide, h0⟩ (fun k a j hk ha hx => ⟨(kx_some hw hp hk.1 hx).1, h2 k hk.1 hk.2 a ha j hx⟩)
  exact this.2
theorem Least.eq {c : Cfg} {v : Nat} {A B : Nat → Int32} (hA : Least c v A) (hB : Least c v B) : ∀ j, j < 4096 → A j = B j := by
  intro j hj
  obtain ⟨a1, a2⟩ := hA j hj
  obtain ⟨b1, b2⟩ := hB j hj
  rcases a1 with a1 | a1
  · rcases b1 with b1 | b1
    · rw [a1, b1]
    · have := a2.mpr (b2.mp b1)
      rw [a1] at this
      exact absurd this (by decide)
  · rw [a1, b2.mpr (a2.mp a1)]
def ctB (A : Nat → Int32) : Nat := fb_ct (fun k => decide (A k = 1)) 4096
theorem ctB_lt {A : Nat → Int32} {j : Nat} (hj : j < 4096) (h : A j = 0) : ctB A < 4096 := by
  have h1 : ctB A ≤ 4096 := fb_ct_le _ _
  have h2 : ctB A ≠ 4096 := fun z => by
    have h3 := fb_ct_all.mp z j hj
    simp only [decide_eq_true_eq] at h3
    rw [h] at h3
    exact absurd h3 (by decide)
  omega
theorem ctB_up {A : Nat → Int32} {j : Nat} (hj : j < 4096) (h : A j = 0) : ctB (upd A j 1) = ctB A + 1 := by
  have := ct_flip (f := A) (v := 1) hj
  rw [h, if_neg (by decide), if_pos rfl, Nat.add_zero] at this
  exact this
/-- the count has grown, or nothing was found -/
def CtG (ct0 : Nat) (A : Nat → Int32) (x2 : Int32) : Prop := ct0 ≤ ctB A ∧ (x2 = 1 → ct0 < ctB A)
section RW
variable {c : Cfg} {N v : Nat}
theorem ctB_zero {A : Nat → Int32} (h : ∀ j, j < 4096 → A j = 0) : ctB A = 0 := fb_ct_zero.mpr (fun k hk => by
  simp only [decide_eq_false_iff_not]
  rw [h k hk]
  decide)
/-! the reference's passes -/
def Pas (c : Cfg) (v : Nat) (M : Mm) : Prop := (∀ j, j < 4096 → isB (M.2.1 7 j)) ∧ M.2.1 7 0 = 1 ∧ ∀ j, j < 4096 → M.2.1 7 j = 1 → Rch c v j
def Clo (c : Cfg) (v : Nat) (A : Nat → Int32) (k a : Nat) : Prop := ∀ i, i ≤ k → i < 4096 → A i = 1 → ∀ b, b < (if i < k then 18 else a) → ∀ q, kx c v i b = some q → A q = 1
set_option maxRecDepth 100000 in
theorem m_row_71 (hw : Wf c) (hN : 5000 ≤ N) (hv : v ≤ 18) (hp : plainN c (cN c) = true) {R : Mm} (hR : OkR c R) {k53 : Int32 → Int32 → Mm → Option (Int32 × Mm)} {k61 : Int32 → Int32 → Int32 → Mm → Option (Int32 × Mm)} {k ct0 : Nat} (hk : k < 4096) : ∀ (m a : Nat) (M : Mm) (x2 : Int32), a ≤ 18 → 18 < m + a → Pas c v M → isB x2 → (x2 = 0 → Clo c v (M.2.1 7) k a) → CtG ct0 (M.2.1 7) x2 → M.1 = R.1 → (∀ j, j ≠ 7 → M.2.1 j = R.2.1 j) → M.2.2 = R.2.2 →
    ∃ M' x2', f_X7_row_71 N k53 k61 m (nI v) x2 (nI k) (nI a) M = k61 (nI v) x2' (nI (k + 1)) M' ∧ Pas c v M' ∧ isB x2' ∧ (x2' = 0 → Clo c v (M'.2.1 7) k 18) ∧ CtG ct0 (M'.2.1 7) x2' ∧ M'.1 = R.1 ∧ (∀ j, j ≠ 7 → M'.2.1 j = R.2.1 j) ∧ M'.2.2 = R.2.2
  | 0, a, M, x2, h1, h2, _, _, _, _, _, _, _ => by omega
  | m + 1, a, M, x2, h1, h2, hP, hx, hc, hct, hI, hA, hl => by
    rw [f_X7_row_71]
    by_cases ha : a = 18
    · subst ha
      exact ⟨M, x2, by rw [if_pos (show (18 : Int32) ≤ nI 18 from nI_le (Nat.le_refl 18) (by decide)), nI_1], hP, hx, hc, hct, hI, hA, hl⟩
    · have hM : OkR c M := OkR_of (congrFun hI _) (congrFun hI _) (congrFun hI _) (fun i hi => hA i (by omega)) hR
      rw [if_neg (show ¬ (18 : Int32) ≤ nI a from nI_ge (b := 18) (by omega) (by decide)), if_pos ((inb_nI (by omega)).mpr hk), gA_nI (by omega)]
      rcases hP.1 k hk with hb | hb
      · rw [if_pos hb, nI_1]
        refine ⟨M, x2, rfl, hP, hx, fun z i hi i1 i2 b hb2 q hq => ?_, hct, hI, hA, hl⟩
        by_cases y : i = k
        · subst y
          rw [hb] at i2
          exact absurd i2 (by decide)
        · exact hc z i hi i1 i2 b (by rw [if_pos (show i < k by omega)] at hb2 ⊢; exact hb2) q hq
      · rw [if_neg (by rw [hb]; decide), m_bit hw hM (by omega) hv hp hk (by omega), bd_some, nI_1]
        have ext : ∀ (A : Nat → Int32), Clo c v A k a → (∀ q, kx c v k a = some q → A q = 1) → Clo c v A k (a + 1) := by
          intro A h3 h4 i hi i1 i2 b hb2 q hq
          by_cases y : i < k
          · exact h3 i hi i1 i2 b (by rw [if_pos y] at hb2 ⊢; exact hb2) q hq
          · rw [if_neg y] at hb2
            obtain rfl : i = k := by omega
            by_cases w : b = a
            · subst w; exact h4 q hq
            · exact h3 i hi i1 i2 b (by rw [if_neg y]; omega) q hq
        cases hxk : kx c v k a with
        | none =>
          rw [if_pos (show oI none < 0 by decide)]
          exact m_row_71 hw hN hv hp hR hk m (a + 1) M x2 (by omega) (by omega) hP hx (fun z => ext _ (hc z) (fun q hq => by rw [hxk] at hq; cases hq)) hct hI hA hl
        | some j =>
          have hj := (kx_some hw hp hk hxk).1
          have hin : inb (nI j) 4096 := (inb_nI (by omega)).mpr hj
          rw [oI_some, if_neg (nI_pos (by omega)), if_pos hin, gA_nI (by omega)]
          rcases hP.1 j hj with hjb | hjb
          · rw [if_pos hjb, if_pos hin, nar_bool (Or.inr rfl)]
            have e7 : ∀ i, (sA M 7 (nI j) 1).2.1 7 i = if i = j then 1 else M.2.1 7 i := by
              intro i
              show upd (M.2.1 7) (nI j).toNatClampNeg 1 i = _
              rw [nI_clamp (by omega), up_row]
            have ect : ctB ((sA M 7 (nI j) 1).2.1 7) = ctB (M.2.1 7) + 1 := by
              have : (sA M 7 (nI j) 1).2.1 7 = upd (M.2.1 7) j 1 := by
                funext i
                rw [e7, up_row]
              rw [this, ctB_up hj hjb]
            refine m_row_71 hw hN hv hp hR hk m (a + 1) (sA M 7 (nI j) 1) 1 (by omega) (by omega) ⟨fun i hi => ?_, ?_, fun i hi h3 => ?_⟩ (Or.inr rfl) (fun z => absurd z (by decide)) ⟨by rw [ect]; exact Nat.le_succ_of_le hct.1, fun _ => by rw [ect]; exact Nat.lt_succ_of_le hct.1⟩ hI (fun i hi => (up_ne hi).trans (hA i hi)) hl
            · rw [e7]
              by_cases z : i = j
              · rw [if_pos z]; exact Or.inr rfl
              · rw [if_neg z]; exact hP.1 i hi
            · rw [e7]
              by_cases z : 0 = j
              · rw [if_pos z]
              · rw [if_neg z]; exact hP.2.1
            · rw [e7] at h3
              by_cases z : i = j
              · rw [z]
                exact (hP.2.2 k hk hb).step (by omega) hxk
              · rw [if_neg z] at h3
                exact hP.2.2 i hi h3
          · rw [if_neg (by rw [hjb]; decide)]
            exact m_row_71 hw hN hv hp hR hk m (a + 1) M x2 (by omega) (by omega) hP hx (fun z => ext _ (hc z) (fun q hq => by rw [hxk] at hq; cases hq; exact hjb)) hct hI hA hl
set_option maxRecDepth 100000 in
theorem m_row_61 (hw : Wf c) (hN : 5000 ≤ N) (hv : v ≤ 18) (hp : plainN c (cN c) = true) {R : Mm} (hR : OkR c R) {k53 : Int32 → Int32 → Mm → Option (Int32 × Mm)} {ct0 : Nat} : ∀ (m k : Nat) (M : Mm) (x2 : Int32), k ≤ 4096 → 4096 < m + k → Pas c v M → isB x2 → (x2 = 0 → Clo c v (M.2.1 7) k 0) → CtG ct0 (M.2.1 7) x2 → M.1 = R.1 → (∀ j, j ≠ 7 → M.2.1 j = R.2.1 j) → M.2.2 = R.2.2 →
    ∃ M' x2', f_X7_row_61 N k53 m (nI v) x2 (nI k) M = k53 (nI v) x2' M' ∧ Pas c v M' ∧ isB x2' ∧ (x2' = 0 → Clo c v (M'.2.1 7) 4096 0) ∧ CtG ct0 (M'.2.1 7) x2' ∧ M'.1 = R.1 ∧ (∀ j, j ≠ 7 → M'.2.1 j = R.2.1 j) ∧ M'.2.2 = R.2.2
  | 0, k, M, x2, h1, h2, _, _, _, _, _, _, _ => by omega
  | m + 1, k, M, x2, h1, h2, hP, hx, hc, hct, hI, hA, hl => by
    rw [f_X7_row_61]
    by_cases hk : k = 4096
    · subst hk
      exact ⟨M, x2, by rw [if_pos (show (4096 : Int32) ≤ nI 4096 from nI_le (Nat.le_refl 4096) (by decide))], hP, hx, hc, hct, hI, hA, hl⟩
    · rw [if_neg (show ¬ (4096 : Int32) ≤ nI k from nI_ge (b := 4096) (by omega) (by decide))]
      obtain ⟨M1, y2, a1, a2, a3, a4, a5, a7, a8, a9⟩ := m_row_71 (N := N) (k53 := k53) (k61 := f_X7_row_61 N k53 m) (k := k) (ct0 := ct0) hw hN hv hp hR (by omega) N 0 M x2 (by omega) (by omega) hP hx hc hct hI hA hl
      obtain ⟨M2, z2, b1, b2⟩ := m_row_61 hw hN hv hp hR (k53 := k53) (ct0 := ct0) m (k + 1) M1 y2 (by omega) (by omega) a2 a3 (fun z i hi i1 i2 b hb q hq => by
        by_cases y : i < k + 1
        · rw [if_pos y] at hb
          refine a4 z i (by omega) i1 i2 b ?_ q hq
          by_cases w : i < k
          · rw [if_pos w]; exact hb
          · rw [if_neg w]; exact hb
        · rw [if_neg y] at hb; omega) a5 a7 a8 a9
      exact ⟨M2, z2, a1.trans b1, b2⟩
theorem m_row_53 (hw : Wf c) (hN : 5000 ≤ N) (hv : v ≤ 18) (hp : plainN c (cN c) = true) {R : Mm} (hR : OkR c R) : ∀ (m : Nat) (M : Mm) (x2 : Int32), Pas c v M → isB x2 → (x2 = 0 → Clo c v (M.2.1 7) 4096 0) → 4097 < m + ctB (M.2.1 7) → M.1 = R.1 → (∀ j, j ≠ 7 → M.2.1 j = R.2.1 j) → M.2.2 = R.2.2 →
    ∃ M', f_X7_row_53 N m (nI v) x2 M = some (nI (ctB (M'.2.1 7)), M') ∧ Least c v (M'.2.1 7) ∧ M'.1 = R.1 ∧ (∀ j, j ≠ 7 → M'.2.1 j = R.2.1 j) ∧ M'.2.2 = R.2.2
  | 0, M, x2, hP, hx, hc, h2, _, _, _ => by
    have : ctB (M.2.1 7) ≤ 4096 := fb_ct_le _ _
    omega
  | m + 1, M, x2, hP, hx, hc, h2, hI, hA, hl => by
    rw [f_X7_row_53]
    by_cases hz : x2 = 0
    · rw [if_pos hz]
      refine ⟨M, ?_, ?_, hI, hA, hl⟩
      · unfold f_X7_ones
        have := m_ones_4 (N := N) hP.1 N 0 (by decide) (by omega)
        exact congrArg (fun z => bd z (fun r138 => some (r138, M))) this
      · exact least_of hw hp hP.1 hP.2.1 hP.2.2 (fun k hk h1 a ha j hx => hc hz k (by omega) hk h1 a (by rw [if_pos hk]; exact ha) j hx)
    · rw [if_neg hz]
      have hle : ctB (M.2.1 7) ≤ 4096 := fb_ct_le _ _
      obtain ⟨M1, y2, a1, a2, a3, a4, a5, a6, a7, a8⟩ := m_row_61 (N := N) (k53 := f_X7_row_53 N m) (ct0 := ctB (M.2.1 7)) hw hN hv hp hR N 0 M 0 (by omega) (by omega) hP (Or.inl rfl) (fun _ i hi i1 i2 b hb q hq => by rw [if_neg (Nat.not_lt_zero i)] at hb; omega) ⟨Nat.le_refl _, fun z => absurd z (by decide)⟩ hI hA hl
      by_cases hy : y2 = 0
      · -- one more round of the loop that ends at once
        have hm : 0 < m := by
          rcases Nat.eq_zero_or_pos m with z | z
          · subst z; omega
          · exact z
        obtain ⟨m', rfl⟩ : ∃ m', m = m' + 1 := ⟨m - 1, by omega⟩
        refine ⟨M1, ?_, ?_, a6, a7, a8⟩
        · refine a1.trans ?_
          rw [f_X7_row_53, if_pos hy]
          unfold f_X7_ones
          have := m_ones_4 (N := N) a2.1 N 0 (by decide) (by omega)
          exact congrArg (fun z => bd z (fun r138 => some (r138, M1))) this
        · exact least_of hw hp a2.1 a2.2.1 a2.2.2 (fun k hk h1 a ha j hx => a4 hy k (by omega) hk h1 a (by rw [if_pos hk]; exact ha) j hx)
      · have hy1 : y2 = 1 := a3.resolve_left hy
        have hlt := a5.2 hy1
        obtain ⟨M2, b1, b2⟩ := m_row_53 hw hN hv hp hR m M1 y2 a2 a3 a4 (by omega) a6 a7 a8
        exact ⟨M2, a1.trans b1, b2⟩
theorem m_row_23 (hw : Wf c) (hN : 5000 ≤ N) (hv : v ≤ 18) (hp : plainN c (cN c) = true) {R : Mm} (hR : OkR c R) : ∀ (m i : Nat) (M : Mm), i ≤ 4096 → 4096 < m + i → (∀ j, j < i → M.2.1 7 j = if j = 0 then 1 else 0) → M.1 = R.1 → (∀ j, j ≠ 7 → M.2.1 j = R.2.1 j) → M.2.2 = R.2.2 →
    ∃ M', f_X7_row_23 N m (nI v) (nI i) M = some (nI (ctB (M'.2.1 7)), M') ∧ Least c v (M'.2.1 7) ∧ M'.1 = R.1 ∧ (∀ j, j ≠ 7 → M'.2.1 j = R.2.1 j) ∧ M'.2.2 = R.2.2
  | 0, i, M, h1, h2, _, _, _, _ => by omega
  | m + 1, i, M, h1, h2, h7, hI, hA, hl => by
    rw [f_X7_row_23]
    by_cases hi : i = 4096
    · subst hi
      rw [if_pos (show (4096 : Int32) ≤ nI 4096 from nI_le (Nat.le_refl 4096) (by decide))]
      refine m_row_53 (N := N) hw hN hv hp hR N M 1 ⟨fun j hj => ?_, ?_, fun j hj h3 => ?_⟩ (Or.inr rfl) (fun z => absurd z (by decide)) (by omega) hI hA hl
      · rw [h7 j hj]
        by_cases z : j = 0
        · rw [if_pos z]; exact Or.inr rfl
        · rw [if_neg z]; exact Or.inl rfl
      · rw [h7 0 (by decide), if_pos rfl]
      · rw [h7 j hj] at h3
        by_cases z : j = 0
        · rw [z]; exact Rch0
        · rw [if_neg z] at h3; exact absurd h3 (by decide)
    · have hi4 : i < 4096 := by omega
      have go : ∀ t : Int32, isB t → t = (if i = 0 then 1 else 0) → ∃ M', f_X7_row_44 N (f_X7_row_23 N m) (nI v) (nI i) (nI i) t M = some (nI (ctB (M'.2.1 7)), M') ∧ Least c v (M'.2.1 7) ∧ M'.1 = R.1 ∧ (∀ j, j ≠ 7 → M'.2.1 j = R.2.1 j) ∧ M'.2.2 = R.2.2 := by
        intro t htb ht
        unfold f_X7_row_44
        rw [if_pos ((inb_nI (by omega)).mpr hi4), nar_bool htb, nI_1]
        refine m_row_23 hw hN hv hp hR m (i + 1) (sA M 7 (nI i) t) (by omega) (by omega) (fun j hj => ?_) hI (fun j hj => (up_ne hj).trans (hA j hj)) hl
        show upd (M.2.1 7) (nI i).toNatClampNeg t j = _
        rw [nI_clamp (by omega), up_row]
        by_cases z : j = i
        · rw [if_pos z, z, ht]
        · rw [if_neg z]; exact h7 j (by omega)
      rw [if_neg (show ¬ (4096 : Int32) ≤ nI i from nI_ge (b := 4096) hi4 (by decide))]
      by_cases z : i = 0
      · rw [if_pos (show nI i = 0 by rw [z]; rfl)]
        exact go 1 (Or.inr rfl) (by rw [if_pos z])
      · rw [if_neg (fun q => z ((nI_z (by omega)).mp q))]
        exact go 0 (Or.inl rfl) (by rw [if_neg z])
end RW
