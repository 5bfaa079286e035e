/-! ===== row, the class's side: the planner's line, turned into bits ===== -/
section BW
variable {c : Cfg} {N v : Nat}
/-- a scene that can be come to, none fresh: its number in the row is come to -/
def Rr (c : Cfg) (v : Nat) (x : St) : Prop := x.2.1 = 0 ∧ Rch c v (encD x)
theorem kst_of {x : St} (hx : Fit x) (h0 : x.2.1 = 0) : kst (encD x) = x := by
  obtain ⟨s, f, h⟩ := x
  obtain ⟨f1, f2, f3⟩ := hx
  have f1 : s < 512 := f1
  have h0 : f = 0 := h0
  subst h0
  unfold kst encD
  show ((s + 512 * h + 4096 * 0) % 512, 0, (s + 512 * h + 4096 * 0) / 512) = (s, 0, h)
  rw [show (s + 512 * h + 4096 * 0) % 512 = s by omega, show (s + 512 * h + 4096 * 0) / 512 = h by omega]
theorem enc_row {x : St} (hx : Fit x) (h0 : x.2.1 = 0) : encD x < 4096 := by
  obtain ⟨f1, f2, f3⟩ := hx
  unfold encD
  rw [h0]
  omega
theorem rr_mask (hw : Wf c) (hp : plainN c (cN c) = true) : FlS c v id (Rr c v) 4095 := by
  intro x a y hx hP ha hy
  have hvy := Vs_next hx hy
  have h0 := next_plain hp hP.1 hy
  have hlt := enc_row (hvy.fit hw) h0
  refine ⟨?_, hvy, h0, hP.2.step ha ?_⟩
  · rw [mk4096, Nat.mod_eq_of_lt hlt]; rfl
  · unfold kx
    rw [kst_of (hx.fit hw) hP.1, hy]
    rfl
/-- the first t scenes of the line have their bits -/
def Tn (t : Nat) (xs : Nat → St) (A : Nat → Int32) : Prop := ∀ j, j < 4096 → isB (A j) ∧ (A j = 1 ↔ ∃ i, i < t ∧ encD (xs i) = j)
theorem d_build_27 (hw : Wf c) {M0 : Mm} {n : Nat} {xs : Nat → St} (hI : FlI c (Rr c v) M0 n xs) (hn : n ≤ M0.2.2) : ∀ (m t : Nat) (M : Mm), t ≤ n → n < m + t → Tn t xs (M.2.1 23) → M.1 17 = nI t → (∀ j, j ≠ 17 → M.1 j = M0.1 j) → (∀ j, j ≠ 23 → M.2.1 j = M0.2.1 j) → M.2.2 = M0.2.2 →
    ∃ M', f_X2_build_27 N m (nI n) (nI t) M = some (nI n, M') ∧ Tn n xs (M'.2.1 23) ∧ M'.1 17 = nI n ∧ (∀ j, j ≠ 17 → M'.1 j = M0.1 j) ∧ (∀ j, j ≠ 23 → M'.2.1 j = M0.2.1 j) ∧ M'.2.2 = M0.2.2
  | 0, t, M, h1, h2, _, _, _, _, _ => by omega
  | m + 1, t, M, h1, h2, hT, h17, hM, hA, hl => by
    have hL40 : M0.2.2 ≤ 40960 := by rcases hI.1.2.1 with z | z <;> rw [z] <;> decide
    rw [f_X2_build_27]
    by_cases ht : t = n
    · subst ht
      exact ⟨M, by rw [if_pos (nI_le (Nat.le_refl _) (by omega)), show gI M 17 = nI t from h17], hT, h17, hM, hA, hl⟩
    · have ht' : t < n := by omega
      obtain ⟨l1, l2, l3, l4⟩ := hI.1.2.2.1 t ht'
      have hr := hI.2.1 t ht'
      have hlt := enc_row (l2.fit hw) hr.1
      have hsc : f_X1_sceneAt M (nI t) = some (nI (encD (xs t))) := by
        unfold f_X1_sceneAt
        rw [if_neg (nI_pos (by omega)), show gI M 13 = nI n from (hM 13 (by decide)).trans hI.1.1, if_neg (nI_ge (a := t) (b := n) ht' (by omega)), if_pos (show inb (nI t) (gL M) from (inb_nI (by omega)).mpr (show t < M.2.2 by omega)), gA_nI (by omega), hA 22 (by decide), l1]
      have h0 : M.2.1 23 (encD (xs t)) = 0 := by
        rcases (hT _ hlt).1 with z | z
        · exact z
        · obtain ⟨i, i1, i2⟩ := (hT _ hlt).2.mp z
          exact absurd (encD_inj ((hI.1.2.2.1 i (by omega)).2.1.fit hw) (l2.fit hw) i2) (hI.1.2.2.2.1 i t i1 ht')
      have hn4 : t < 4096 := by
        have := fb_holes 4096 (t + 1) (fun i => encD (xs i)) (fun i hi => enc_row ((hI.1.2.2.1 i (by omega)).2.1.fit hw) (hI.2.1 i (by omega)).1) (fun i j hij hj e => hI.1.2.2.2.1 i j hij (by omega) (encD_inj ((hI.1.2.2.1 i (by omega)).2.1.fit hw) ((hI.1.2.2.1 j (by omega)).2.1.fit hw) e))
        omega
      have htn := d_turn (D := M) (k := encD (xs t)) (n := t) hlt (Or.inl h0) h17 (by omega) (fun z => by rw [h0] at z; exact absurd z (by decide))
      rw [h0, if_pos rfl, if_pos rfl] at htn
      rw [if_neg (nI_ge (a := t) (b := n) ht' (by omega)), hsc, bd_some, d_isRowBit _ hlt, bd_some, if_neg one_ne_zero, htn, bd2_some, nI_1]
      refine d_build_27 hw hI hn m (t + 1) _ (by omega) (by omega) (fun j hj => ?_) rfl (fun j hj => (up_ne hj).trans (hM j hj)) (fun j hj => (sA_ne hj).trans (hA j hj)) hl
      have e23 : (sI (sA M 23 (nI (encD (xs t))) 1) 17 (nI (t + 1))).2.1 23 j = if j = encD (xs t) then 1 else M.2.1 23 j := sA_at (M := M) (by omega) j
      rw [e23]
      by_cases e : j = encD (xs t)
      · rw [if_pos e]
        exact ⟨Or.inr rfl, fun _ => ⟨t, by omega, e.symm⟩, fun _ => rfl⟩
      · rw [if_neg e]
        refine ⟨(hT j hj).1, fun z => ?_, fun z => (hT j hj).2.mpr ?_⟩
        · obtain ⟨i, i1, i2⟩ := (hT j hj).2.mp z
          exact ⟨i, by omega, i2⟩
        · obtain ⟨i, i1, i2⟩ := z
          refine ⟨i, ?_, i2⟩
          apply Nat.lt_of_le_of_ne (by omega)
          intro q
          rw [q] at i2
          exact e i2.symm
theorem d_build (hw : Wf c) (hN : 100000 ≤ N) (hv : v ≤ 18) (hp : plainN c (cN c) = true) {D : Mm} (hD : OkD c D) (hL : D.2.2 = 4096 ∨ D.2.2 = 40960) (hX : XD c D) :
    ∃ M', f_X2_build N (nI v) D = some (nI (ctB (M'.2.1 23)), M') ∧ M'.1 17 = nI (ctB (M'.2.1 23)) ∧ Least c v (M'.2.1 23) ∧ (∀ j, j < 13 ∨ 17 < j → M'.1 j = D.1 j) ∧ (∀ j, j < 19 → M'.2.1 j = D.2.1 j) ∧ (M'.2.2 = 4096 ∨ M'.2.2 = 40960) ∧ XD c M' ∧ kap D + kp M' ≤ kp D := by
  obtain ⟨D0, hD0⟩ : ∃ D0, D0 = sI (sF D 23 4096 (vp_nar .byte (0 : Int32))) 17 0 := ⟨_, rfl⟩
  have eI : ∀ j, j ≠ 17 → D0.1 j = D.1 j := fun j hj => by rw [hD0]; exact up_ne hj
  have eA : ∀ j, j ≠ 23 → D0.2.1 j = D.2.1 j := fun j hj => by rw [hD0]; exact up_ne hj
  have eL : D0.2.2 = D.2.2 := by rw [hD0]; rfl
  have ez : ∀ j, j < 4096 → D0.2.1 23 j = 0 := fun j hj => by rw [hD0]; exact (if_pos hj).trans rfl
  have e17 : D0.1 17 = 0 := by rw [hD0]; rfl
  have hok : OkD c D0 := OkD_of (fun j _ _ => eI j (by omega)) (fun j _ _ _ => eA j (by omega)) hD
  obtain ⟨M2, n, xs, b1, b2, b3, b4, b5, b6, b7, b8, b9, b10, b11⟩ := d_flood (N := N) hw hN hv (rr_mask (v := v) hw hp) ⟨rfl, Rch0⟩ hok (by rw [eL]; exact hL)
  have hfit : ∀ i, i < n → Fit (xs i) := fun i hi => (b2.1.2.2.1 i hi).2.1.fit hw
  have hrow : ∀ i, i < n → encD (xs i) < 4096 := fun i hi => enc_row (hfit i hi) (b2.2.1 i hi).1
  have hL40 : M2.2.2 ≤ 40960 := by rcases b2.1.2.1 with z | z <;> rw [z] <;> decide
  have z23 : ∀ j, j < 4096 → M2.2.1 23 j = 0 := fun j hj => by rw [b4.2 23 (by decide) (by decide) (by decide) (by decide)]; exact ez j hj
  obtain ⟨M3, c1, c2, c3, c4, c5, c6⟩ := d_build_27 (N := N) hw b2 b11 N 0 M2 (by omega) (by omega) (fun j hj => ⟨Or.inl (z23 j hj), fun z => by rw [z23 j hj] at z; exact absurd z (by decide), fun ⟨i, i1, _⟩ => absurd i1 (Nat.not_lt_zero i)⟩) ((b4.1 17 (by decide)).trans e17) (fun _ _ => rfl) (fun _ _ => rfl) rfl
  have hct : ctB (M3.2.1 23) = n := ct_list n (fun i => encD (xs i)) (fun k => decide (M3.2.1 23 k = 1)) hrow (fun i j hij hj e => b2.1.2.2.2.1 i j hij hj (encD_inj (hfit i (by omega)) (hfit j hj) e)) (fun k hk => by
    rw [decide_eq_true_iff]
    exact (c2 k hk).2)
  have hle : Least c v (M3.2.1 23) := least_of hw hp (fun j hj => (c2 j hj).1) ((c2 0 (by decide)).2.mpr ⟨0, b2.2.2.1, by rw [b2.2.2.2]; rfl⟩) (fun j hj h1 => by
    obtain ⟨i, i1, i2⟩ := (c2 j hj).2.mp h1
    rw [← i2]
    exact (b2.2.1 i i1).2) (fun k hk h1 a ha j hx => by
    obtain ⟨i, i1, i2⟩ := (c2 k hk).2.mp h1
    unfold kx at hx
    rw [← i2, kst_of (hfit i i1) (b2.2.1 i i1).1] at hx
    cases hy : nextN c v (xs i) a with
    | none => rw [hy] at hx; cases hx
    | some y =>
      rw [hy] at hx
      cases hx
      obtain ⟨i', q1, q2⟩ := b3 i i1 a ha y hy
      have q2 : xs i' = y := q2
      exact (c2 _ (by rw [← q2]; exact hrow i' q1)).2.mpr ⟨i', q1, by rw [q2]⟩)
  have hk0 : kap D0 = kap D := by unfold kap gL gI; rw [eL, eI 6 (by decide)]
  have hkp0 : kp D0 = kp D := by unfold kp gL; rw [eL]
  have hk3 : kap M3 = 0 := by
    have : kap M3 = kap M2 := by unfold kap gL gI; rw [c6, c4 6 (by decide)]
    rw [this]; exact b10
  have hkp3 : kp M3 = kp M2 := by unfold kp gL; rw [c6]
  refine ⟨M3, ?_, by rw [hct]; exact c3, hle, fun j hj => ?_, fun j hj => ?_, by rw [c6]; exact b2.1.2.1, ⟨fun u q1 q2 => ?_, fun u q1 q2 => ?_, Or.inl ((c4 15 (by decide)).trans b5), Or.inl ((c4 16 (by decide)).trans b6)⟩, by rw [hkp3, ← hk0, ← hkp0]; exact b9⟩
  · unfold f_X2_build
    rw [← hD0, b1, bd2_some, hct]
    exact c1
  · rw [c4 j (by omega), b4.1 j (by omega), eI j (by omega)]
  · rw [c5 j (by omega), b4.2 j (by omega) (by omega) (by omega) (by omega), eA j (by omega)]
  · rw [c5 19 (by decide), b7, eA 19 (by decide)]
    rcases hX.1 u q1 q2 with z | z
    · exact Or.inl z
    · exact Or.inr ⟨hk3, z.2⟩
  · rw [c5 20 (by decide), b8, eA 20 (by decide)]
    rcases hX.2.1 u q1 q2 with z | z
    · exact Or.inl z
    · exact Or.inr ⟨hk3, z.2⟩
end BW
theorem q_row {N : Nat} (hN : 100000 ≤ N) : Q_row N (Rel XC) := by
  intro p1 D R hRel
  obtain ⟨c, ⟨hw, hD, hR⟩, ⟨s, f, vt, hv, h1, h2, e1, e2, e3, e4, e5⟩, hT, hH, hG, hP, hL, hXC⟩ := id hRel
  rcases vatc p1 with ⟨g1, g2⟩ | ⟨v, hv1, hv2, rfl, g1⟩
  · refine ⟨-2, D, R, by unfold f_X6_row; rw [g1]; rfl, ?_, hRel, Or.inl ⟨Or.inl g1, by omega⟩⟩
    unfold f_X7_row
    rcases g2 with g2 | ⟨g2, g3⟩
    · rw [if_pos g2]
    · rw [if_neg g2, if_pos g3]
  · have q : ¬ nI v < (1 : Int32) := nI_nlt (b := 1) hv1 (by omega)
    have q2 : ¬ (18 : Int32) < nI v := nI_nlt (a := 18) (b := v) hv2 (by decide)
    have hdp := d_plain hw hD
    cases hp : plainN c (cN c) with
    | false =>
      rw [hp] at hdp
      refine ⟨-2, D, R, by unfold f_X6_row; rw [g1, bd_some, if_neg one_ne_zero, hdp]; rfl, ?_, hRel, Or.inl ⟨Or.inr ⟨g1, hdp⟩, by omega⟩⟩
      unfold f_X7_row
      rw [if_neg q, if_neg q2, m_isPlain hw hR (by omega), hp, bd_some, if_pos (show zI false = 0 from rfl)]
    | true =>
      rw [hp] at hdp
      obtain ⟨D', a1, a2, a3, a4, a5, a6, a7, a8⟩ := d_build (N := N) hw hN hv2 hp hD hL (XD_of hXC)
      obtain ⟨R', b1, b2, b3, b4, b5⟩ := m_row_23 (N := N) hw (by omega) hv2 hp hR N 0 R (by omega) (by omega) (fun j hj => absurd hj (Nat.not_lt_zero j)) rfl (fun _ _ => rfl) rfl
      have heq := a3.eq b2
      have hct : ctB (D'.2.1 23) = ctB (R'.2.1 7) := fb_ct_cong (fun k hk => by rw [heq k hk])
      have b1' : f_X7_row_23 N N (nI v) 0 R = some (nI (ctB (R'.2.1 7)), R') := b1
      refine ⟨nI (ctB (R'.2.1 7)), D', R', ?_, ?_, ⟨c, ⟨hw, OkD_of (fun i _ _ => a4 i (by omega)) (fun i _ _ _ => a5 i (by omega)) hD, OkR_of (congrFun b3 _) (congrFun b3 _) (congrFun b3 _) (fun i hi => b4 i (by omega)) hR⟩, ⟨s, f, vt, hv, h1, h2, (a4 1 (by decide)).trans e1, (congrFun b3 _).trans e2, (congrFun b3 _).trans e3, (a4 0 (by decide)).trans e4, (congrFun b3 _).trans e5⟩, RelT_of (a5 9 (by decide)) (a5 7 (by decide)) (b4 2 (by decide)) (b4 5 (by decide)) hT, ?_, RelG_of (a4 10 (by decide)) (a5 15 (by decide)) (congrFun b3 _) (b4 11 (by decide)) hG, ⟨fun k hk => ⟨heq k hk, (b2 k hk).1⟩, by rw [a2, hct]; rfl, ?_⟩, a6, XC_of a7⟩, Or.inr a8⟩
      · unfold f_X6_row
        rw [g1, bd_some, if_neg one_ne_zero, hdp, bd_some, if_neg (show ¬ zI true = 0 by decide), a1, bd2_some, hct]
      · unfold f_X7_row
        rw [if_neg q, if_neg q2, m_isPlain hw hR (by omega), hp, bd_some, if_neg (show ¬ zI true = 0 by decide), b1']
      · unfold RelH
        rw [a4 11 (by decide), a4 12 (by decide), b3, b4 8 (by decide), b4 9 (by decide), b4 10 (by decide), a5 17 (by decide), a5 18 (by decide)]
        exact hH
      · rw [a4 18 (by decide), b3]; exact hP.2.2
