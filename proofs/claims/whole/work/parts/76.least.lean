/-! ===== best plans; what the planner keeps ===== -/
/-- x lies on a best plan (of cost b) -/
def Gd (c : Cfg) (v b : Nat) (x : St) : Prop := ∀ P : St → Prop, (∀ x, Dst c v x b → endN c x = true → P x) → (∀ x n a y, Dst c v x n → a < 18 → nextN c v x a = some y → Dst c v y (n + pr a) → P y → P x) → P x
def Lst (c : Cfg) (v b : Nat) (x : St) : Prop := Dst c v x b ∧ endN c x = true
/-- the act a leads from x on, at just its cost, to a state on a best plan -/
def On (c : Cfg) (v b : Nat) (x : St) (a : Nat) (y : St) : Prop := a < 18 ∧ nextN c v x a = some y ∧ (∃ n, Dst c v x n ∧ Dst c v y (n + pr a)) ∧ Gd c v b y
/-- the first best plan from x on -/
def Bp (c : Cfg) (v b : Nat) : St → List Nat → Prop
  | x, [] => Lst c v b x
  | x, a :: w => ¬ Lst c v b x ∧ ∃ y, On c v b x a y ∧ (∀ a' y', a' < a → ¬ On c v b x a' y') ∧ Bp c v b y w
section GD
variable {c : Cfg} {v b : Nat}
theorem Gd.last {x : St} (h : Lst c v b x) : Gd c v b x := fun _ h1 _ => h1 x h.1 h.2
theorem Gd.on {x y : St} {a : Nat} (h : On c v b x a y) : Gd c v b x := fun P h1 h2 => by
  obtain ⟨q1, q2, ⟨n, q3, q4⟩, q5⟩ := h
  exact h2 x n a y q3 q1 q2 q4 (q5 P h1 h2)
theorem Gd.inv {x : St} (h : Gd c v b x) : Lst c v b x ∨ ∃ a y, On c v b x a y := by
  have := h (fun x => Gd c v b x ∧ (Lst c v b x ∨ ∃ a y, On c v b x a y)) (fun x h1 h2 => ⟨Gd.last ⟨h1, h2⟩, Or.inl ⟨h1, h2⟩⟩) (fun x n a y h1 h2 h3 h4 h5 => by
    have : On c v b x a y := ⟨h2, h3, ⟨n, h1, h4⟩, h5.1⟩
    exact ⟨Gd.on this, Or.inr ⟨a, y, this⟩⟩)
  exact this.2
theorem Gd.le {x : St} (h : Gd c v b x) : ∃ n, Dst c v x n ∧ n ≤ b := by
  refine h (fun x => ∃ n, Dst c v x n ∧ n ≤ b) (fun x h1 _ => ⟨b, h1, Nat.le_refl b⟩) (fun x n a y h1 h2 h3 h4 h5 => ?_)
  obtain ⟨m, m1, m2⟩ := h5
  have := m1.uniq h4
  exact ⟨n, h1, by omega⟩
/-- the walk back from an end at its least cost -/
theorem Gd.back {x y : St} {n a : Nat} (hx : Dst c v x n) (ha : a < 18) (hy : nextN c v x a = some y) (hd : Dst c v y (n + pr a)) (hg : Gd c v b y) : Gd c v b x := Gd.on ⟨ha, hy, ⟨n, hx, hd⟩, hg⟩
theorem Gd.root : ∀ (k : Nat) (x : St), Dst c v x k → Gd c v b x → Gd c v b x0 := by
  intro k
  induction k using Nat.strongRecOn with
  | ind k ih =>
    intro x hx hg
    rcases hx.pred with ⟨e, _⟩ | ⟨z, n, a, hz, ha, hn, e⟩
    · rw [← e]; exact hg
    · have := pr_pos a
      refine ih n (by omega) z hz (Gd.back hz ha hn ?_ hg)
      rw [← e]; exact hx
theorem Gd.x0 (h : IsB c v (some b)) : Gd c v b x0 := by
  obtain ⟨⟨x, h1, h2⟩, _⟩ := h
  exact Gd.root b x h2 (Gd.last ⟨h2, h1⟩)
theorem On.uniq {x y y' : St} {a : Nat} (h : On c v b x a y) (h' : On c v b x a y') : y = y' := by
  have := h.2.1.symm.trans h'.2.1
  exact Option.some.inj this
theorem Bp.uniq : ∀ (w w' : List Nat) (x : St), Bp c v b x w → Bp c v b x w' → w = w'
  | [], [], _, _, _ => rfl
  | [], a :: w, x, h, h' => absurd h h'.1
  | a :: w, [], x, h, h' => absurd h' h.1
  | a :: w, a' :: w', x, h, h' => by
    obtain ⟨_, y, h1, h2, h3⟩ := h
    obtain ⟨_, y', h1', h2', h3'⟩ := h'
    have ea : a = a' := by
      rcases Nat.lt_trichotomy a a' with z | z | z
      · exact absurd h1 (h2' a y z)
      · exact z
      · exact absurd h1' (h2 a' y' z)
    subst ea
    obtain rfl := h1.uniq h1'
    rw [Bp.uniq w w' y h3 h3']
theorem ac_step (hw : Wf c) {x y : St} {n a : Nat} (hx : Dst c v x n) (hy : Dst c v y (n + pr a)) : acN (n + pr a) = acN n + 1 := by
  have h1 := hx.ac hw
  have h2 := hy.ac hw
  unfold acN
  unfold pr at h2 ⊢
  by_cases z : a < 9
  · rw [if_pos z] at h2 ⊢; omega
  · rw [if_neg z] at h2 ⊢; omega
theorem Bp.len (hw : Wf c) : ∀ (w : List Nat) (x : St) (n : Nat), Dst c v x n → Bp c v b x w → acN b = acN n + w.length
  | [], x, n, hx, h => by
    rw [h.1.uniq hx]; rfl
  | a :: w, x, n, hx, h => by
    obtain ⟨_, y, ⟨q1, q2, ⟨m, q3, q4⟩, q5⟩, h2, h3⟩ := h
    obtain rfl := q3.uniq hx
    have := Bp.len hw w y _ q4 h3
    rw [ac_step hw q3 q4] at this
    rw [this, List.length_cons]
    omega
end GD
def rchP (c : Cfg) (v k : Nat) : Prop := ∃ h n, Wk c v (k % 512, k / 512, h) n
noncomputable def rchB (c : Cfg) (v : Nat) : Nat → Bool := fun k => @decide (rchP c v k) (Classical.propDecidable _)
noncomputable def rchN (c : Cfg) (v : Nat) : Nat := fb_ct (rchB c v) 5120
theorem rchB_iff {c : Cfg} {v k : Nat} : rchB c v k = true ↔ rchP c v k := by
  unfold rchB
  exact @decide_eq_true_iff _ (Classical.propDecidable _)
def XDe (c : Cfg) (M : Mm) (v : Nat) : Prop := ∃ n xs d o, Ex0 c v M n xs d ∧ BsX c n xs d o ∧ Full c v n xs o ∧ IsB c v o ∧ M.1 14 = oI (Option.map phi o) ∧ ∀ y, Vs c y → encD y < M.2.2
def XDp (c : Cfg) (M : Mm) (v : Nat) : Prop := ∃ o, IsB c v o ∧ M.1 14 = oI (Option.map phi o) ∧ ∀ b, o = some b → ∃ w : List Nat, Bp c v b x0 w ∧ w.length ≤ M.2.2 ∧ ∀ k, k < w.length → M.2.1 22 k = nI (w.getD k 0)
def XD (c : Cfg) (M : Mm) : Prop :=
  (∀ v, 1 ≤ v → v ≤ 18 → M.2.1 19 v = -9 ∨ kap M = 0 ∧ ∃ o, IsB c v o ∧ M.2.1 19 v = oI (Option.map (fun b => b / 65536) o)) ∧
  (∀ v, 1 ≤ v → v ≤ 18 → M.2.1 20 v = -9 ∨ kap M = 0 ∧ M.2.1 20 v = nI (rchN c v)) ∧
  (M.1 15 = -1 ∨ kap M = 0 ∧ ∃ v, 1 ≤ v ∧ v ≤ 18 ∧ M.1 15 = nI v ∧ XDe c M v) ∧
  (M.1 16 = -1 ∨ kap M = 0 ∧ ∃ v, 1 ≤ v ∧ v ≤ 18 ∧ M.1 16 = nI v ∧ XDp c M v)
def pm (t : PT) : Mm := (fun j => if j = 13 then t.1 else if j = 14 then t.2.1 else if j = 15 then t.2.2.1 else if j = 16 then t.2.2.2.1 else t.2.2.2.2.2.2.2.2.2, fun j => if j = 19 then t.2.2.2.2.1 else if j = 20 then t.2.2.2.2.2.1 else if j = 21 then t.2.2.2.2.2.2.1 else t.2.2.2.2.2.2.2.1, t.2.2.2.2.2.2.2.2.1)
def XC (c : Cfg) (t : PT) : Prop := XD c (pm t)
theorem Ex0_frame {c : Cfg} {v : Nat} {M M' : Mm} {n : Nat} {xs : Nat → St} {d : Nat → Nat} (h : Ex0 c v M n xs d) (h13 : M'.1 13 = M.1 13) (h21 : M'.2.1 21 = M.2.1 21) (h22 : M'.2.1 22 = M.2.1 22) (hL : M'.2.2 = M.2.2) : Ex0 c v M' n xs d := ⟨LnX_frame h.1 h13 h21 h22 hL, h.2⟩
theorem XD_frame {c : Cfg} {M M' : Mm} (h6 : M'.1 6 = M.1 6) (h13 : M'.1 13 = M.1 13) (h14 : M'.1 14 = M.1 14) (h15 : M'.1 15 = M.1 15) (h16 : M'.1 16 = M.1 16) (h19 : M'.2.1 19 = M.2.1 19) (h20 : M'.2.1 20 = M.2.1 20) (h21 : M'.2.1 21 = M.2.1 21) (h22 : M'.2.1 22 = M.2.1 22) (hL : M'.2.2 = M.2.2) (h : XD c M) : XD c M' := by
  have hk : kap M' = kap M := by unfold kap gL gI; rw [h6, hL]
  obtain ⟨a1, a2, a3, a4⟩ := h
  refine ⟨fun v q1 q2 => ?_, fun v q1 q2 => ?_, ?_, ?_⟩
  · rw [h19, hk]; exact a1 v q1 q2
  · rw [h20, hk]; exact a2 v q1 q2
  · rw [h15, hk]
    rcases a3 with z | ⟨z, v, z1, z2, z3, n, xs, d, o, z4, z5, z6, z7, z8, z9⟩
    · exact Or.inl z
    · exact Or.inr ⟨z, v, z1, z2, z3, n, xs, d, o, Ex0_frame z4 h13 h21 h22 hL, z5, z6, z7, by rw [h14]; exact z8, by rw [hL]; exact z9⟩
  · rw [h16, hk]
    rcases a4 with z | ⟨z, v, z1, z2, z3, o, z4, z5, z6⟩
    · exact Or.inl z
    · refine Or.inr ⟨z, v, z1, z2, z3, o, z4, by rw [h14]; exact z5, fun b hb => ?_⟩
      rw [hL, h22]
      exact z6 b hb
theorem XC_of {c : Cfg} {D : Mm} (h : XD c D) : XC c (pt D) := XD_frame rfl rfl rfl rfl rfl rfl rfl rfl rfl rfl h
theorem XD_of {c : Cfg} {D : Mm} (h : XC c (pt D)) : XD c D := XD_frame (M := pm (pt D)) rfl rfl rfl rfl rfl rfl rfl rfl rfl rfl h
theorem XC_out (c : Cfg) (t : PT) (h : Outd t) : XC c t := by
  refine ⟨fun v q1 q2 => Or.inl ?_, fun v q1 q2 => Or.inl ?_, Or.inl ?_, Or.inl ?_⟩
  · exact (h.2.2 v (by omega)).1
  · exact (h.2.2 v (by omega)).2
  · exact h.1
  · exact h.2.1
theorem rel_plan {c : Cfg} {D R D' R' : Mm} (hA : RelA c D R) (hS : RelS c D R) (hT : RelT c D R) (hH : RelH c D R) (hG : RelG D R) (hP : RelP D R) (hF : FrX D D') (hI : ∀ j, j ≠ 9 → R'.1 j = R.1 j) (hR : ∀ j, j < 13 → R'.2.1 j = R.2.1 j) (hL : D'.2.2 = 4096 ∨ D'.2.2 = 40960) (hX : XD c D') : Rel XC D' R' := by
  refine ⟨c, ⟨hA.1, hF.okD hA.2.1, OkR_of (hI 0 (by decide)) (hI 4 (by decide)) (hI 5 (by decide)) (fun j hj => hR j (by omega)) hA.2.2⟩, ?_, ?_, ?_, ?_, ?_, hL, XC_of hX⟩
  · unfold RelS at hS ⊢
    rw [hF.1 1 (by omega), hF.1 0 (by omega), hI 2 (by omega), hI 3 (by omega), hI 1 (by omega)]
    exact hS
  · unfold RelT at hT ⊢
    rw [hF.2 9 (by omega) (by omega) (by omega) (by omega), hF.2 7 (by omega) (by omega) (by omega) (by omega), hR 2 (by omega), hR 5 (by omega)]
    exact hT
  · unfold RelH at hH ⊢
    rw [hF.1 11 (by omega), hF.1 12 (by omega), hI 6 (by omega), hF.2 17 (by omega) (by omega) (by omega) (by omega), hF.2 18 (by omega) (by omega) (by omega) (by omega), hR 8 (by omega), hR 9 (by omega), hR 10 (by omega)]
    exact hH
  · unfold RelG at hG ⊢
    rw [hF.1 10 (by omega), hI 7 (by omega), hF.2 15 (by omega) (by omega) (by omega) (by omega), hR 11 (by omega)]
    exact hG
  · unfold RelP at hP ⊢
    rw [hF.2 23 (by omega) (by omega) (by omega) (by omega), hF.1 17 (by omega), hF.1 18 (by omega), hI 8 (by omega), hR 7 (by omega)]
    exact hP
theorem FrS.toR {R R' : Mm} (h : FrS R R') : (∀ j, j ≠ 9 → R'.1 j = R.1 j) ∧ ∀ j, j < 13 → R'.2.1 j = R.2.1 j := ⟨fun j _ => by rw [h.1], fun j hj => h.2.1 j (by omega) (by omega) (by omega)⟩
theorem FrX.rf (D : Mm) : FrX D D := ⟨fun _ _ => rfl, fun _ _ _ _ _ => rfl⟩
theorem FrX.tr {A B C : Mm} (h1 : FrX A B) (h2 : FrX B C) : FrX A C := ⟨fun j hj => (h2.1 j hj).trans (h1.1 j hj), fun j j1 j2 j3 j4 => (h2.2 j j1 j2 j3 j4).trans (h1.2 j j1 j2 j3 j4)⟩
theorem FrS.tr {A B C : Mm} (h1 : FrS A B) (h2 : FrS B C) : FrS A C := ⟨h2.1.trans h1.1, fun j j1 j2 j3 => (h2.2.1 j j1 j2 j3).trans (h1.2.1 j j1 j2 j3), h2.2.2.trans h1.2.2⟩
section MF
variable {c : Cfg} {N v : Nat}
theorem XD_explored {D M : Mm} {n : Nat} {xs : Nat → St} {d : Nat → Nat} {o : Option Nat} (hX : XD c D) (hv1 : 1 ≤ v) (hv : v ≤ 18) (a2 : Ex0 c v M n xs d) (a3 : BsX c n xs d o) (a4 : Full c v n xs o) (a5 : IsB c v o) (a6 : M.1 14 = oI (Option.map phi o)) (a7 : M.1 15 = nI v) (a8 : M.1 16 = -1) (a9 : ∀ k, M.2.1 19 k = if k = v then oI (Option.map (fun b => b / 65536) o) else D.2.1 19 k) (a10 : M.2.1 20 = D.2.1 20) (a12 : ∀ y, Vs c y → encD y < M.2.2) (a14 : kap M = 0) : XD c M := by
  refine ⟨fun u q1 q2 => ?_, fun u q1 q2 => ?_, Or.inr ⟨a14, v, hv1, hv, a7, n, xs, d, o, a2, a3, a4, a5, a6, a12⟩, Or.inl a8⟩
  · rw [a9]
    by_cases e : u = v
    · rw [if_pos e, e]; exact Or.inr ⟨a14, o, a5, rfl⟩
    · rw [if_neg e]
      rcases hX.1 u q1 q2 with z | z
      · exact Or.inl z
      · exact Or.inr ⟨a14, z.2⟩
  · rw [a10]
    rcases hX.2.1 u q1 q2 with z | z
    · exact Or.inl z
    · exact Or.inr ⟨a14, z.2⟩
theorem d_makesFor (hw : Wf c) (hN : 100000 ≤ N) (hv1 : 1 ≤ v) (hv : v ≤ 18) {D : Mm} (hD : OkD c D) (hL : D.2.2 = 4096 ∨ D.2.2 = 40960) (hX : XD c D) :
    ∃ o M, f_X1_makesFor N (nI v) D = some (oI (Option.map (fun b => b / 65536) o), M) ∧ IsB c v o ∧ XD c M ∧ FrX D M ∧ (M.2.2 = 4096 ∨ M.2.2 = 40960) ∧ kap D + kp M ≤ kp D ∧ kap M = 0 := by
  have hiv : inb (nI v) 19 := (inb_nI (by omega)).mpr (by omega)
  unfold f_X1_makesFor
  rw [if_pos hiv, gA_nI (by omega)]
  by_cases h9 : D.2.1 19 v = -9
  · obtain ⟨M, n, xs, d, o, a1, a2, a3, a4, a5, a6, a7, a8, a9, a10, a11, a12, a13, a14⟩ := d_explore (N := N) hw hN hv1 hv hD hL
    refine ⟨o, M, ?_, a5, XD_explored hX hv1 hv a2 a3 a4 a5 a6 a7 a8 a9 a10 a12 a14, a11, a2.1.2.1, a13, a14⟩
    rw [if_pos h9, a1, bd_some, if_pos hiv, gA_nI (by omega), a9, if_pos rfl]
  · rcases hX.1 v hv1 hv with z | ⟨z, o, z1, z2⟩
    · exact absurd z h9
    · refine ⟨o, D, ?_, z1, hX, FrX.rf D, hL, by rw [z]; omega, z⟩
      rw [if_neg h9, if_pos hiv, z2]
theorem vatc (x : Int32) : f_X6_isVatCount x = some 0 ∧ (x < 1 ∨ ¬ x < 1 ∧ 18 < x) ∨ ∃ v, 1 ≤ v ∧ v ≤ 18 ∧ x = nI v ∧ f_X6_isVatCount x = some 1 := by
  unfold f_X6_isVatCount
  by_cases h1 : x < 1
  · exact Or.inl ⟨by rw [if_pos h1], Or.inl h1⟩
  · by_cases h2 : (18 : Int32) < x
    · exact Or.inl ⟨by rw [if_neg h1, if_pos h2], Or.inr ⟨h1, h2⟩⟩
    · have h0 : ¬ x < 0 := fun h => h1 (fa_trans h (by decide))
      obtain ⟨j, hj, rfl⟩ := nI_of h0
      refine Or.inr ⟨j, ?_, ?_, rfl, by rw [if_neg h1, if_neg h2]⟩
      · exact Nat.lt_of_not_le (fun q => h1 (nI_lt (b := 1) (by omega) (by decide)))
      · exact Nat.le_of_not_lt (fun q => h2 (nI_lt (a := 18) q hj))
theorem b_small (hw : Wf c) {b : Nat} (h : IsB c v (some b)) : b < 1000000000 ∧ b / 65536 + b % 65536 ≤ 11264 := by
  obtain ⟨x, hx⟩ := h.dst
  exact ⟨hx.small hw, hx.ac hw⟩
theorem q_fewest (hN : 100000000000000000000 ≤ N) : Q_fewest N (Rel XC) := by
  intro p1 D R hRel
  obtain ⟨c, hA, hS, hT, hH, hG, hP, hL, hXC⟩ := id hRel
  obtain ⟨hw, hD, hR⟩ := id hA
  rcases vatc p1 with ⟨h1, h2⟩ | ⟨v, hv1, hv, rfl, h1⟩
  · refine ⟨-2, D, R, by unfold f_X6_fewest; rw [h1]; rfl, ?_, hRel, Or.inl ⟨h1, by omega⟩⟩
    unfold f_X7_fewest
    rcases h2 with h2 | ⟨h2, h3⟩
    · rw [if_pos h2]
    · rw [if_neg h2, if_neg (fa_of_lt h3).2.1]
  · obtain ⟨o, M, a1, a2, a3, a4, a5, a6, a7⟩ := d_makesFor (N := N) hw (by omega) hv1 hv hD hL (XD_of hXC)
    obtain ⟨R', lb, o', b1, b2, b3, b4, b5⟩ := m_spread (N := N) hw hN hv hR
    obtain rfl := a2.uniq b2
    have hf := b5.toR
    refine ⟨oI (Option.map (fun b => b / 65536) o), M, R', ?_, ?_, rel_plan hA hS hT hH hG hP a4 hf.1 hf.2 a5 a3, Or.inr a6⟩
    · unfold f_X6_fewest
      rw [h1, bd_some, if_neg one_ne_zero, a1, bd2_some]
    · unfold f_X7_fewest
      rw [if_neg (show ¬ nI v < (1 : Int32) from nI_nlt (b := 1) hv1 (by omega)), if_pos (show nI v ≤ (18 : Int32) from nI_le (b := 18) hv (by decide)), b1, bd2_some]
      cases o with
      | none => rw [if_pos (show nI (bsI none) = (1000000000 : Int32) from rfl)]; rfl
      | some b =>
        have := (b_small hw a2).1
        rw [show nI (bsI (some b)) = nI b from rfl, if_neg (show ¬ nI b = (1000000000 : Int32) from fun z => by have := nI_inj (b := 1000000000) (by omega) (by decide) z; omega), show (65536 : Int32) = nI 65536 from rfl, nI_div (by omega) (by decide)]
        rfl
theorem oI_none {o : Option Nat} (h : ∀ b, o = some b → b < 2 ^ 31) : (oI (Option.map (fun b => b / 65536) o) = -1) ↔ o = none := by
  cases o with
  | none => exact ⟨fun _ => rfl, fun _ => rfl⟩
  | some b => exact ⟨fun q => absurd q (nI_ne_m1 (a := b / 65536) (by have := h b rfl; omega)), fun q => by cases q⟩
theorem bs_far (hw : Wf c) {o : Option Nat} (h : IsB c v o) : (nI (bsI o) = (1000000000 : Int32)) ↔ o = none := by
  cases o with
  | none => exact ⟨fun _ => rfl, fun _ => rfl⟩
  | some b =>
    have := (b_small hw h).1
    exact ⟨fun z => by have := nI_inj (a := b) (b := 1000000000) (by omega) (by decide) z; omega, fun q => by cases q⟩
theorem isB_some {u : Nat} (hw : Wf c) {o : Option Nat} (h : IsB c u o) : ∀ b, o = some b → b < 2 ^ 31 := fun b hb => by
  subst hb
  have := (b_small hw h).1
  omega
/-- the reference: from v on -/
theorem m_least_2 (hw : Wf c) (hN : 100000000000000000000 ≤ N) : ∀ (m u : Nat) (R : Mm), 1 ≤ u → u ≤ 19 → 19 < m + u → OkR c R → ∃ r R', f_X7_least_2 N m (nI u) R = some (r, R') ∧ FrS R R' ∧ ((r = -1 ∧ ∀ k, u ≤ k → k ≤ 18 → IsB c k none) ∨ ∃ k, u ≤ k ∧ k ≤ 18 ∧ r = nI k ∧ (∃ b, IsB c k (some b)) ∧ ∀ j, u ≤ j → j < k → IsB c j none)
  | 0, u, R, _, h1, h2, _ => by omega
  | m + 1, u, R, h0, h1, h2, hR => by
    rw [f_X7_least_2]
    by_cases hu : u = 19
    · subst hu
      exact ⟨-1, R, by rw [if_pos (show (18 : Int32) < nI 19 by decide)], ⟨rfl, fun _ _ _ _ => rfl, rfl⟩, Or.inl ⟨rfl, fun k q1 q2 => by omega⟩⟩
    · obtain ⟨R1, lb, o, b1, b2, b3, b4, b5⟩ := m_spread (N := N) (v := u) hw hN (by omega) hR
      rw [if_neg (show ¬ (18 : Int32) < nI u from nI_nlt (a := 18) (by omega) (by decide)), b1, bd2_some, nI_1]
      by_cases ho : o = none
      · rw [if_pos ((bs_far hw b2).mpr ho)]
        subst ho
        have hR1 : OkR c R1 := OkR_of (congrFun b5.1 _) (congrFun b5.1 _) (congrFun b5.1 _) (fun i hi => b5.2.1 i (by omega) (by omega) (by omega)) hR
        obtain ⟨r, R', g1, g2, g3⟩ := m_least_2 hw hN m (u + 1) R1 (by omega) (by omega) (by omega) hR1
        refine ⟨r, R', g1, b5.tr g2, ?_⟩
        rcases g3 with ⟨e, g3⟩ | ⟨k, k1, k2, k3, k4, k5⟩
        · refine Or.inl ⟨e, fun k q1 q2 => ?_⟩
          by_cases z : k = u
          · rw [z]; exact b2
          · exact g3 k (by omega) q2
        · refine Or.inr ⟨k, by omega, k2, k3, k4, fun j q1 q2 => ?_⟩
          by_cases z : j = u
          · rw [z]; exact b2
          · exact k5 j (by omega) q2
      · rw [if_neg (fun z => ho ((bs_far hw b2).mp z))]
        cases o with
        | none => exact absurd rfl ho
        | some b => exact ⟨nI u, R1, rfl, b5, Or.inr ⟨u, Nat.le_refl _, by omega, rfl, ⟨b, b2⟩, fun j q1 q2 => by omega⟩⟩
theorem d_least_17 (hw : Wf c) (hN : 100000 ≤ N) : ∀ (m u : Nat) (D : Mm), 1 ≤ u → u ≤ 18 → 18 < m + u → OkD c D → (D.2.2 = 4096 ∨ D.2.2 = 40960) → XD c D → kap D = 0 → ∃ k M, f_X6_least_17 N m (nI u) D = some (nI k, M) ∧ u ≤ k ∧ k ≤ 18 ∧ (k < 18 → ∃ b, IsB c k (some b)) ∧ (∀ j, u ≤ j → j < k → IsB c j none) ∧ XD c M ∧ FrX D M ∧ (M.2.2 = 4096 ∨ M.2.2 = 40960) ∧ kp M ≤ kp D
  | 0, u, D, _, h1, h2, _, _, _, _ => by omega
  | m + 1, u, D, h0, h1, h2, hD, hL, hX, hk => by
    rw [f_X6_least_17]
    by_cases hu : u = 18
    · subst hu
      exact ⟨18, D, by rw [if_pos (show (18 : Int32) ≤ nI 18 by decide)]; rfl, Nat.le_refl _, Nat.le_refl _, fun q => by omega, fun j q1 q2 => by omega, hX, FrX.rf D, hL, Nat.le_refl _⟩
    · obtain ⟨o, M, a1, a2, a3, a4, a5, a6, a7⟩ := d_makesFor (N := N) (v := u) hw hN h0 (by omega) hD hL hX
      rw [if_neg (show ¬ (18 : Int32) ≤ nI u from nI_ge (b := 18) (by omega) (by decide)), a1, bd2_some, nI_1]
      by_cases ho : o = none
      · rw [if_pos ((oI_none (isB_some hw a2)).mpr ho)]
        subst ho
        obtain ⟨k, M', g1, g2, g3, g4, g5, g6, g7, g8, g9⟩ := d_least_17 hw hN m (u + 1) M (by omega) (by omega) (by omega) (a4.okD hD) a5 a3 a7
        refine ⟨k, M', g1, by omega, g3, g4, fun j q1 q2 => ?_, g6, a4.tr g7, g8, by omega⟩
        by_cases z : j = u
        · rw [z]; exact a2
        · exact g5 j (by omega) q2
      · rw [if_neg (fun z => ho ((oI_none (isB_some hw a2)).mp z))]
        cases o with
        | none => exact absurd rfl ho
        | some b => exact ⟨u, M, rfl, Nat.le_refl _, by omega, fun _ => ⟨b, a2⟩, fun j q1 q2 => by omega, a3, a4, a5, by omega⟩
theorem q_least (hN : 100000000000000000000 ≤ N) : Q_least N (Rel XC) := by
  intro D R hRel
  obtain ⟨c, hA, hS, hT, hH, hG, hP, hL, hXC⟩ := id hRel
  obtain ⟨hw, hD, hR⟩ := id hA
  obtain ⟨r, R', b1, b2, b3⟩ := m_least_2 (N := N) hw hN N 1 R (by omega) (by omega) (by omega) hR
  have hf := b2.toR
  obtain ⟨o, M, a1, a2, a3, a4, a5, a6, a7⟩ := d_makesFor (N := N) (v := 18) hw (by omega) (by omega) (by omega) hD hL (XD_of hXC)
  have a1' : f_X1_makesFor N (18 : Int32) D = some (oI (Option.map (fun b => b / 65536) o), M) := a1
  unfold f_X6_least f_X7_least
  rw [a1', bd2_some]
  by_cases ho : o = none
  · subst ho
    refine ⟨-1, M, R', by rw [if_pos (show oI (Option.map (fun b => b / 65536) none) = (-1 : Int32) from rfl)], ?_, rel_plan hA hS hT hH hG hP a4 hf.1 hf.2 a5 a3, a6⟩
    rcases b3 with ⟨e, _⟩ | ⟨k, k1, k2, k3, ⟨b, k4⟩, _⟩
    · rw [← e]; exact b1
    · have := (IsB.mono k2 a2).uniq k4
      cases this
  · rw [if_neg (fun z => ho ((oI_none (isB_some hw a2)).mp z))]
    obtain ⟨k, M', g1, g2, g3, g4, g5, g6, g7, g8, g9⟩ := d_least_17 (N := N) hw (by omega) N 1 M (by omega) (by omega) (by omega) (a4.okD hD) a5 a3 a7
    have hk : ∃ b, IsB c k (some b) := by
      by_cases z : k < 18
      · exact g4 z
      · obtain rfl : k = 18 := by omega
        cases o with
        | none => exact absurd rfl ho
        | some b => exact ⟨b, a2⟩
    have g1' : f_X6_least_17 N N (1 : Int32) M = some (nI k, M') := g1
    refine ⟨nI k, M', R', g1', ?_, rel_plan hA hS hT hH hG hP (a4.tr g7) hf.1 hf.2 g8 g6, by omega⟩
    have b1' : f_X7_least_2 N N (1 : Int32) R = some (r, R') := b1
    rw [b1']
    obtain ⟨b, hk⟩ := hk
    rcases b3 with ⟨e, h3⟩ | ⟨k', k1, k2, k3, ⟨b', k4⟩, k5⟩
    · have := (h3 k g2 g3).uniq hk
      cases this
    · have : k' = k := by
        rcases Nat.lt_trichotomy k' k with z | z | z
        · have := (g5 k' k1 z).uniq k4
          cases this
        · exact z
        · have := (k5 k g2 z).uniq hk
          cases this
      rw [k3, this]
end MF
