/-! ===== the class explores ===== -/
theorem phi_mono {m n : Nat} (h : m < n) : phi m < phi n := by unfold phi; omega
theorem phi_le {m n : Nat} : phi m ≤ phi n ↔ m ≤ n := by
  constructor
  · intro h
    exact Nat.le_of_not_lt (fun z => by have := phi_mono z; omega)
  · intro h
    rcases Nat.lt_or_eq_of_le h with z | z
    · exact Nat.le_of_lt (phi_mono z)
    · rw [z]; exact Nat.le_refl _
theorem phi_make (n : Nat) : phi n + 65537 = phi (n + 65536) := by unfold phi; omega
theorem phi_pour {n : Nat} (h : n / 65536 + n % 65536 ≤ 11264) : phi n + 1 = phi (n + 1) := by unfold phi; omega
theorem phi_ap (d : Nat → Nat) (n nx : Nat) : ap (fun i => phi (d i)) n (phi nx) = fun i => phi (ap d n nx i) := by
  funext i
  unfold ap
  split <;> rfl
def Ex0 (c : Cfg) (v : Nat) (M : Mm) (n : Nat) (xs : Nat → St) (d : Nat → Nat) : Prop := LnX c M n xs (fun i => phi (d i)) ∧ (∀ i, i < n → Dst c v (xs i) (d i)) ∧ (∀ i j, i ≤ j → j < n → d i ≤ d j) ∧ 0 < n ∧ xs 0 = x0
def BsX (c : Cfg) (n : Nat) (xs : Nat → St) (d : Nat → Nat) (o : Option Nat) : Prop := (o = none → ∀ i, i < n → endN c (xs i) = false) ∧ ∀ b, o = some b → (∃ i, i < n ∧ endN c (xs i) = true ∧ d i = b) ∧ (∀ i, i < n → endN c (xs i) = true → b ≤ d i) ∧ ∀ i, i < n → d i ≤ b
def FrE (M0 M : Mm) : Prop := (∀ j, j ≠ 13 → j ≠ 14 → M.1 j = M0.1 j) ∧ (∀ j, j ≠ 21 → j ≠ 22 → M.2.1 j = M0.2.1 j) ∧ M.2.2 = M0.2.2
theorem FrE.okD {c : Cfg} {D M : Mm} (h : FrE D M) (hD : OkD c D) : OkD c M := OkD_of (fun j _ _ => h.1 j (by omega) (by omega)) (fun j _ _ _ => h.2.1 j (by omega) (by omega)) hD
theorem oI_phi {o : Option Nat} (h : ∀ b, o = some b → phi b < 2 ^ 31) : (oI (Option.map phi o) = -1) ↔ o = none := by
  cases o with
  | none => exact ⟨fun _ => rfl, fun _ => rfl⟩
  | some b => exact ⟨fun q => absurd q (nI_ne_m1 (h b rfl)), fun q => by cases q⟩
section EX
variable {c : Cfg} {N v : Nat}
theorem Dst.ph_le (hw : Wf c) {x : St} {n : Nat} (h : Dst c v x n) : phi n ≤ 738208768 := by
  have := h.ac hw
  unfold phi
  omega
theorem d_pspread_3 (hw : Wf c) (hN : 20 ≤ N) (hv : v ≤ 18) {M0 : Mm} (hD0 : OkD c M0) (hl : ∀ y, Vs c y → encD y < M0.2.2) {x : St} {fa nx dx n0 : Nat} {xs0 : Nat → St} {d0 : Nat → Nat} (hfa : fa = 0 ∨ fa = 9) (hx : Dst c v x dx) (hpr : ∀ b, b < 9 → nx = dx + pr (fa + b)) (hnx : phi nx < 2147483647) (hK : ∀ y m, Dst c v y m → m < nx → ∃ j, j < n0 ∧ xs0 j = y) :
    ∀ (m i : Nat) (M : Mm) (n : Nat) (xs : Nat → St) (d : Nat → Nat) (o : Option Nat), i ≤ cN c → cN c < m + i → Ex0 c v M n xs d → n0 ≤ n → (∀ j, j < n0 → xs j = xs0 j ∧ d j = d0 j) → (∀ j, n0 ≤ j → j < n → d j = nx) → (∀ j, j < n → d j ≤ nx) → (∀ b, b < i → ∀ y, nextN c v x (fa + b) = some y → ∃ j, j < n ∧ xs j = y) → BsX c n xs d o → M.1 14 = oI (Option.map phi o) → (∀ b, o = some b → nx ≤ b) → FrE M0 M →
    ∃ M' n' xs' d' o', f_X1_spread_3 N m (nI (encD x)) (nI fa) (nI (phi nx)) (nI v) (nI i) M = some M' ∧ Ex0 c v M' n' xs' d' ∧ n0 ≤ n' ∧ (∀ j, j < n0 → xs' j = xs0 j ∧ d' j = d0 j) ∧ (∀ j, n0 ≤ j → j < n' → d' j = nx) ∧ (∀ j, j < n' → d' j ≤ nx) ∧ (∀ b, b < cN c → ∀ y, nextN c v x (fa + b) = some y → ∃ j, j < n' ∧ xs' j = y) ∧ BsX c n' xs' d' o' ∧ M'.1 14 = oI (Option.map phi o') ∧ (∀ b, o' = some b → nx ≤ b) ∧ FrE M0 M' := by
  intro m
  have hnb := hw.1
  induction m with
  | zero => intro i M n xs d o h1 h2; omega
  | succ m ih =>
    intro i M n xs d o h1 h2 hE hn hpre hnew hle hsuc hB h14 ho hF
    have hM : OkD c M := hF.okD hD0
    have hlM : ∀ y, Vs c y → encD y < M.2.2 := by rw [hF.2.2]; exact hl
    have hL40 : M.2.2 ≤ 40960 := by rcases hE.1.2.1 with z | z <;> rw [z] <;> decide
    rw [f_X1_spread_3, show gI M 2 = nI (cN c) from hM.1]
    by_cases hi : i = cN c
    · subst hi
      exact ⟨M, n, xs, d, o, by rw [if_pos (nI_le (Nat.le_refl _) (by omega))], hE, hn, hpre, hnew, hle, hsuc, hB, h14, ho, hF⟩
    · have hi' : i < cN c := by omega
      have hfx := hx.1.vs.fit hw
      have hsm : ∀ b, o = some b → phi b < 2 ^ 31 := fun b hb => by
        obtain ⟨⟨j, j1, _, j2⟩, _⟩ := hB.2 b hb
        have := (hE.2.1 j j1).ph_le hw
        rw [j2] at this
        omega
      rw [if_neg (nI_ge (a := i) (b := cN c) hi' (by omega)), nI_add, d_lead (N := N) hw hM (by omega) hfx hx.1.vs.1 (by omega) hv, bd_some, nI_1]
      cases hy : nextN c v x (fa + i) with
      | none =>
        rw [show leadI encD none = -1 from rfl, d_pjoin_no, bd_some, if_pos rfl]
        exact ih (i + 1) M n xs d o (by omega) (by omega) hE hn hpre hnew hle (fun b hb y hy' => by
          by_cases e : b = i
          · rw [e, hy] at hy'; cases hy'
          · exact hsuc b (by omega) y hy') hB h14 ho hF
      | some y =>
        have hvy := Vs_next hx.1.vs hy
        have hfy := hvy.fit hw
        have hey := hlM y hvy
        rw [show leadI encD (some y) = nI (encD y) from rfl]
        rcases d_pjoin hw (y := y) (cv := phi nx) hE.1 hlM hvy (by omega) with ⟨⟨j, j1, j2⟩, g⟩ | ⟨hno, M1, g1, g2, g3, g4, g5⟩
        · have hs : ∀ b, b < i + 1 → ∀ y', nextN c v x (fa + b) = some y' → ∃ j, j < n ∧ xs j = y' := fun b hb y' hy' => by
            by_cases e : b = i
            · rw [e, hy] at hy'; cases hy'; exact ⟨j, j1, j2⟩
            · exact hsuc b (by omega) y' hy'
          have rec' := ih (i + 1) M n xs d o (by omega) (by omega) hE hn hpre hnew hle hs hB h14 ho hF
          rw [g, bd_some, if_neg (nI_ne_m1 (by omega)), show gI M 14 = _ from h14]
          by_cases q : o = none
          · have hf : endN c y = false := by rw [← j2]; exact hB.1 q j j1
            rw [if_pos ((oI_phi hsm).mpr q), d_reaches hw hM hfy, bd_some, hf, if_pos (show zI false = 0 from rfl)]
            exact rec'
          · rw [if_neg (fun z => q ((oI_phi hsm).mp z))]
            exact rec'
        · have hdy : Dst c v y nx := by
            obtain ⟨k, k1, k2⟩ := hx.tri (show fa + i < 18 by omega) hy
            rw [← hpr i (by omega)] at k2
            rcases Nat.lt_or_eq_of_le k2 with z | z
            · obtain ⟨j, j1, j2⟩ := hK y k k1 z
              exact absurd ((hpre j j1).1.trans j2) (hno j (by omega))
            · rw [← z]; exact k1
          rw [phi_ap] at g2
          have hE1 : Ex0 c v M1 (n + 1) (ap xs n y) (ap d n nx) := by
            refine ⟨g2, fun j hj => ?_, fun a b hab hb => ?_, by omega, ?_⟩
            · by_cases e : j < n
              · rw [ap_lt e, ap_lt e]; exact hE.2.1 j e
              · rw [ap_ge e, ap_ge e]; exact hdy
            · by_cases e : b < n
              · rw [ap_lt e, ap_lt (show a < n by omega)]; exact hE.2.2.1 a b hab e
              · rw [ap_ge e]
                by_cases e2 : a < n
                · rw [ap_lt e2]; exact hle a e2
                · rw [ap_ge e2]; exact Nat.le_refl _
            · rw [ap_lt hE.2.2.2.1]; exact hE.2.2.2.2
          have hpre1 : ∀ j, j < n0 → ap xs n y j = xs0 j ∧ ap d n nx j = d0 j := fun j hj => by
            rw [ap_lt (show j < n by omega), ap_lt (show j < n by omega)]; exact hpre j hj
          have hnew1 : ∀ j, n0 ≤ j → j < n + 1 → ap d n nx j = nx := fun j hj1 hj2 => by
            by_cases e : j < n
            · rw [ap_lt e]; exact hnew j hj1 e
            · rw [ap_ge e]
          have hle1 : ∀ j, j < n + 1 → ap d n nx j ≤ nx := fun j hj => by
            by_cases e : j < n
            · rw [ap_lt e]; exact hle j e
            · rw [ap_ge e]; exact Nat.le_refl _
          have hs1 : ∀ b, b < i + 1 → ∀ y', nextN c v x (fa + b) = some y' → ∃ j, j < n + 1 ∧ ap xs n y j = y' := fun b hb y' hy' => by
            by_cases e : b = i
            · rw [e, hy] at hy'; cases hy'; exact ⟨n, by omega, ap_ge (Nat.lt_irrefl n)⟩
            · obtain ⟨j, j1, j2⟩ := hsuc b (by omega) y' hy'
              exact ⟨j, by omega, by rw [ap_lt j1]; exact j2⟩
          have hF1 : FrE M0 M1 := ⟨fun j j1 j2 => (g3 j j1).trans (hF.1 j j1 j2), fun j j1 j2 => (g4 j j1 j2).trans (hF.2.1 j j1 j2), g5.trans hF.2.2⟩
          have h141 : M1.1 14 = oI (Option.map phi o) := (g3 14 (by decide)).trans h14
          have hM1 : OkD c M1 := hF1.okD hD0
          rw [g1, bd_some, if_neg (nI_ne_m1 (by omega)), show gI M1 14 = _ from h141]
          by_cases q : o = none
          · rw [if_pos ((oI_phi hsm).mpr q), d_reaches hw hM1 hfy, bd_some]
            by_cases hq : endN c y = true
            · rw [hq, if_neg (show ¬ zI true = 0 by decide)]
              refine ih (i + 1) (sI M1 14 (nI (phi nx))) (n + 1) (ap xs n y) (ap d n nx) (some nx) (by omega) (by omega) hE1 (by omega) hpre1 hnew1 hle1 hs1 ⟨fun z => (by cases z), fun b hb => ?_⟩ rfl (fun b hb => by cases hb; exact Nat.le_refl _) ⟨fun j j1 j2 => (up_ne j2).trans (hF1.1 j j1 j2), hF1.2.1, hF1.2.2⟩
              cases hb
              refine ⟨⟨n, by omega, by rw [ap_ge (Nat.lt_irrefl n)]; exact hq, ap_ge (Nat.lt_irrefl n)⟩, fun j hj hjq => ?_, hle1⟩
              by_cases e : j < n
              · rw [ap_lt e, hB.1 q j e] at hjq; cases hjq
              · rw [ap_ge e]; exact Nat.le_refl _
            · rw [b_false hq, if_pos (show zI false = 0 from rfl)]
              refine ih (i + 1) M1 (n + 1) (ap xs n y) (ap d n nx) o (by omega) (by omega) hE1 (by omega) hpre1 hnew1 hle1 hs1 ⟨fun z j hj => ?_, fun b hb => by rw [q] at hb; cases hb⟩ h141 ho hF1
              by_cases e : j < n
              · rw [ap_lt e]; exact hB.1 z j e
              · rw [ap_ge e]; exact b_false hq
          · rw [if_neg (fun z => q ((oI_phi hsm).mp z))]
            refine ih (i + 1) M1 (n + 1) (ap xs n y) (ap d n nx) o (by omega) (by omega) hE1 (by omega) hpre1 hnew1 hle1 hs1 ⟨fun z => absurd z q, fun b hb => ?_⟩ h141 ho hF1
            obtain ⟨⟨j, j1, j2, j3⟩, b2, b3⟩ := hB.2 b hb
            have hbn := ho b hb
            have hbx : b ≤ nx := by rw [← j3]; exact hle j j1
            refine ⟨⟨j, by omega, by rw [ap_lt j1]; exact j2, by rw [ap_lt j1]; exact j3⟩, fun k hk hkq => ?_, fun k hk => ?_⟩
            · by_cases e : k < n
              · rw [ap_lt e] at hkq ⊢; exact b2 k e hkq
              · rw [ap_ge e]; exact hbx
            · by_cases e : k < n
              · rw [ap_lt e]; exact b3 k e
              · rw [ap_ge e]; exact hbn
end EX
