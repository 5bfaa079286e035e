/-! ===== where an act leads, in the reference ===== -/
def encM (x : St) : Nat := x.1 + 512 * x.2.1 + 5120 * x.2.2
def encD (x : St) : Nat := x.1 + 512 * x.2.2 + 4096 * x.2.1
/-- the numbers fit -/
def Fit (x : St) : Prop := x.1 < 512 ∧ x.2.1 < 10 ∧ x.2.2 < 8
def leadI (e : St → Nat) : Option St → Int32
  | none => -1
  | some y => nI (e y)
theorem zI_0 {t : Bool} : (zI t = 0) ↔ t = false := by cases t <;> simp [zI]
theorem pow_le_512 {n : Nat} (h : n ≤ 9) : 2 ^ n ≤ 512 := Nat.le_trans (Nat.pow_le_pow_right (by decide) h) (by decide)
theorem pow_le_8 {n : Nat} (h : n ≤ 3) : 2 ^ n ≤ 8 := Nat.le_trans (Nat.pow_le_pow_right (by decide) h) (by decide)
theorem testBit_lt {s n b : Nat} (hs : s < 2 ^ n) (h : s.testBit b = true) : b < n := by
  refine Nat.lt_of_not_le (fun q => ?_)
  rw [Nat.testBit_lt_two_pow (Nat.lt_of_lt_of_le hs (Nat.pow_le_pow_right (by decide) q))] at h
  cases h
theorem fit_next {c : Cfg} (hw : Wf c) {v a : Nat} {x y : St} (hx : Fit x) (h : nextN c v x a = some y) : Fit y := by
  have hb : a % 9 < 9 := Nat.mod_lt _ (by decide)
  have hst : ∀ h s, h < 8 → stoodN c h s < 8 := by
    intro h s hh
    unfold stoodN
    split
    · exact hh
    · exact Nat.or_lt_two_pow (n := 3) hh (Nat.lt_of_lt_of_le (bm_lt _ _) (pow_le_8 hw.2.2.2.2.2.1))
  unfold nextN at h
  split at h
  · cases h
  split at h
  · split at h
    · cases h
      refine ⟨Nat.or_lt_two_pow (n := 9) (dl_lt hx.1) (Nat.pow_lt_pow_right (by decide) hb), ?_, hst _ _ hx.2.2⟩
      show madeF c (a % 9) < 10
      unfold madeF
      split <;> omega
    · cases h
  · split at h
    · cases h
      refine ⟨dl_lt (k := 9) hx.1, ?_, hst _ _ hx.2.2⟩
      show pourF x.2.1 (a % 9) < 10
      unfold pourF
      have := hx.2.1
      split <;> omega
    · cases h
theorem rem9 {a : Nat} (ha : a < 2 ^ 31) : nI a - nI a / (9 : Int32) * (9 : Int32) = nI (a % 9) := nI_rem (b := 9) ha (by decide)
theorem rem512 {a : Nat} (ha : a < 2 ^ 31) : nI a - nI a / (512 : Int32) * (512 : Int32) = nI (a % 512) := nI_rem (b := 512) ha (by decide)
theorem rem10 {a : Nat} (ha : a < 2 ^ 31) : nI a - nI a / (10 : Int32) * (10 : Int32) = nI (a % 10) := nI_rem (b := 10) ha (by decide)
theorem div512 {a : Nat} (ha : a < 2 ^ 31) : nI a / (512 : Int32) = nI (a / 512) := nI_div (b := 512) ha (by decide)
theorem div5120 {a : Nat} (ha : a < 2 ^ 31) : nI a / (5120 : Int32) = nI (a / 5120) := nI_div (b := 5120) ha (by decide)
theorem nI_encM (s f h : Nat) : (nI s + ((512 : Int32) * nI f)) + ((5120 : Int32) * nI h) = nI (encM (s, f, h)) := by
  rw [show (512 : Int32) = nI 512 from rfl, show (5120 : Int32) = nI 5120 from rfl, nI_mul, nI_mul, nI_add, nI_add]
  rfl
section BM
variable {c : Cfg} {R : Mm} {N : Nat}
theorem m_stood_5 (hw : Wf c) (h : OkR c R) {s h0 : Nat} (hs : s < 512) (ht : cT c = false) : ∀ (n i : Nat), i ≤ cG c → cG c < n + i → f_X7_stood_5 N R n (nI s) (nI (h0 ||| bm (fun i => s.testBit (cg c i)) i)) (nI i) = some (nI (h0 ||| stoodM c s))
  | 0, i, h1, h2 => by omega
  | n + 1, i, h1, h2 => by
    have hg := hw.2.2.2.2.2.1
    rw [f_X7_stood_5, show gI R 4 = nI (cG c) from h.2.2.2.2.1]
    by_cases hi : i = cG c
    · subst hi
      rw [if_pos (nI_le (Nat.le_refl _) (by omega))]
      rfl
    · have hgi := hw.2.2.2.2.2.2.1 i (by omega)
      have hnb := hw.1
      rw [if_neg (nI_ge (a := i) (b := cG c) (by omega) (by omega)), if_pos (show gI R 5 = 0 from h.2.2.2.2.2.2.trans (zI_0.mpr ht)), if_pos ((inb_nI (by omega)).mpr (by omega)), gA_nI (by omega), h.2.2.2.2.2.1 i (by omega), m_has (by omega) (by omega), bd_some, if10, nI_shl1 i (by omega), nI_1]
      have key := m_stood_5 hw h (h0 := h0) hs ht n (i + 1) (by omega) (by omega)
      by_cases hb : s.testBit (cg c i) = true
      · rw [if_pos hb, fa_or, ← key, bm, if_pos hb, Nat.or_assoc]
      · rw [if_neg hb, show (0 : Int32) = nI 0 from rfl, fa_or, ← key, bm, if_neg hb, Nat.or_assoc]
theorem m_stood (hw : Wf c) (h : OkR c R) (hN : 10 ≤ N) {s h0 : Nat} (hs : s < 512) : f_X7_stood N R (nI h0) (nI s) = some (nI (stoodN c h0 s)) := by
  have hg := hw.2.2.2.2.2.1
  unfold f_X7_stood stoodN
  cases ht : cT c with
  | false =>
    have key := m_stood_5 (N := N) hw h (h0 := h0) hs ht N 0 (by omega) (by omega)
    rw [bm, Nat.or_zero] at key
    exact key
  | true =>
    cases N with
    | zero => omega
    | succ n =>
      rw [f_X7_stood_5]
      have h5 : gI R 5 = 1 := by rw [show gI R 5 = zI (cT c) from h.2.2.2.2.2.2, ht]; rfl
      split
      · rfl
      · rw [if_neg (by rw [h5]; decide)]
        rfl
theorem m_behind (hw : Wf c) (h : OkR c R) (hN : 10 ≤ N) {x : St} {a v : Nat} (hx : Fit x) (ha : a < 18) (hv : v ≤ 18) : f_X7_behind N R (nI (encM x)) (nI a) (nI v) = some (leadI encM (nextN c v x a)) := by
  obtain ⟨s, f, h0⟩ := x
  obtain ⟨hs, hf, hh⟩ : s < 512 ∧ f < 10 ∧ h0 < 8 := hx
  have he : encM (s, f, h0) = s + 512 * f + 5120 * h0 := rfl
  have hnb := hw.1
  have e0 : encM (s, f, h0) < 2 ^ 31 := by rw [he]; omega
  have e1 : encM (s, f, h0) % 512 = s := by rw [he]; omega
  have e2 : encM (s, f, h0) / 512 % 10 = f := by rw [he]; omega
  have e3 : encM (s, f, h0) / 5120 = h0 := by rw [he]; omega
  have e4 : encM (s, f, h0) / 512 < 2 ^ 31 := by rw [he]; omega
  have hb : a % 9 < 9 := Nat.mod_lt _ (by decide)
  unfold f_X7_behind
  rw [rem9 (by omega), rem512 e0, div512 e0, rem10 e4, div5120 e0, e1, e2, e3, show gI R 0 = nI (cN c) from h.1]
  unfold nextN
  by_cases hn : cN c ≤ a % 9
  · rw [if_neg (nI_nlt hn (by omega)), if_pos hn]
    rfl
  · rw [if_pos (nI_lt (by omega) (by omega)), if_neg hn]
    have last : ∀ s' f', s' < 512 → f_X7_behind_124 N R (nI h0) (nI s') (nI f') = some (nI (encM (s', f', stoodN c h0 s'))) := by
      intro s' f' hs'
      unfold f_X7_behind_124
      rw [m_stood hw h hN hs', bd_some, nI_encM]
    by_cases ha9 : a < 9
    · rw [if_neg (show ¬ (9 : Int32) ≤ nI a from nI_ge (b := 9) ha9 (by decide)), if_pos ha9, m_reason hw h hN hs hf hb hv, bd_some]
      by_cases hr : reasonN c s f (a % 9) v = 0
      · have hS : cS c (a % 9) ≠ none := by
          intro z
          unfold reasonN at hr
          rw [if_pos z] at hr
          cases hr
        rw [if_pos (by rw [hr]; rfl), m_standsBehind hw h hN hb hS, bd_some, m_freshBehind hw h hb, bd_some]
        rw [last (madeS c s (a % 9)) _ (Nat.or_lt_two_pow (n := 9) (dl_lt hs) (Nat.pow_lt_pow_right (by decide) hb))]
        show _ = some (leadI encM (if reasonN c s f (a % 9) v = 0 then _ else _))
        rw [if_pos hr]
        rfl
      · have hr5 : reasonN c s f (a % 9) v ≤ 5 := by
          unfold reasonN
          repeat (split; · omega)
          omega
        rw [if_neg (show ¬ nI (reasonN c s f (a % 9) v) = 0 from fun z => hr (nI_inj (b := 0) (by omega) (by decide) z))]
        show _ = some (leadI encM (if reasonN c s f (a % 9) v = 0 then _ else _))
        rw [if_neg hr]
        rfl
    · rw [if_pos (show (9 : Int32) ≤ nI a from nI_le (a := 9) (by omega) (by omega)), if_neg ha9, m_has (by omega) (by omega), bd_some, if10]
      show _ = some (leadI encM (if s.testBit (a % 9) = true then _ else _))
      by_cases ht : s.testBit (a % 9) = true
      · rw [if_pos ht, if_pos ht, m_freshPoured (by omega) hb, bd_some, nI_shl1 _ (by omega), nI_andn, last _ _ (dl_lt (k := 9) hs)]
        rfl
      · rw [if_neg ht, if_neg ht]
        rfl
end BM
