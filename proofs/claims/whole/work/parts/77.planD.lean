/-! ===== the class writes its plan ===== -/
def pcD (a : Nat) : Nat := if a < 9 then 65537 else 1
def Lnp (c : Cfg) (v n : Nat) (xs : Nat → St) (d : Nat → Nat) : Prop := (∀ i, i < n → Dst c v (xs i) (d i)) ∧ (∀ i j, i ≤ j → j < n → d i ≤ d j) ∧ 0 < n ∧ xs 0 = x0 ∧ ∀ i j, i < j → j < n → xs i ≠ xs j
theorem Ex0.pure {c : Cfg} {v : Nat} {M : Mm} {n : Nat} {xs : Nat → St} {d : Nat → Nat} (h : Ex0 c v M n xs d) : Lnp c v n xs d := ⟨h.2.1, h.2.2.1, h.2.2.2.1, h.2.2.2.2, h.1.2.2.2.1⟩
/-- costs, settled from i on -/
def CsC (c : Cfg) (v b : Nat) (M : Mm) (n : Nat) (xs : Nat → St) (d : Nat → Nat) (i : Nat) : Prop :=
  (∀ j, j < n → j < i → M.2.1 21 (encD (xs j)) = nI (phi (d j))) ∧ (∀ j, j < n → i ≤ j → (Gd c v b (xs j) → M.2.1 21 (encD (xs j)) = nI (phi (d j))) ∧ (¬ Gd c v b (xs j) → M.2.1 21 (encD (xs j)) = -1)) ∧ ∀ k, k < M.2.2 → M.2.1 21 k = -1 ∨ ∃ j, j < n ∧ encD (xs j) = k
section PL
variable {c : Cfg} {N v b n : Nat} {xs : Nat → St} {d : Nat → Nat}
theorem phi_pc (hw : Wf c) {x : St} {m a : Nat} (hx : Dst c v x m) : phi m + pcD a = phi (m + pr a) := by
  unfold pcD pr
  by_cases z : a < 9
  · rw [if_pos z, if_pos z]; exact phi_make m
  · rw [if_neg z, if_neg z]; exact phi_pour (hx.ac hw)
theorem phi_inj {m k : Nat} (h : phi m = phi k) : m = k := Nat.le_antisymm (phi_le.mp (Nat.le_of_eq h)) (phi_le.mp (Nat.le_of_eq h.symm))
theorem Lnp.at (hp : Lnp c v n xs d) {j m : Nat} (hj : j < n) (h : Dst c v (xs j) m) : d j = m := (hp.1 j hj).uniq h
theorem pg_iff (hw : Wf c) {M : Mm} (hp : Lnp c v n xs d) (hF : Full c v n xs (some b)) (hl : ∀ y, Vs c y → encD y < M.2.2) {i : Nat} (hC : CsC c v b M n xs d i) {i0 a : Nat} {y : St} (hi : i ≤ i0 + 1) (h0 : i0 < n) (hc : M.2.1 21 (encD (xs i0)) = nI (phi (d i0))) (ha : a < 18) (hy : nextN c v (xs i0) a = some y) :
    M.2.1 21 (encD y) = M.2.1 21 (encD (xs i0)) + nI (pcD a) ↔ On c v b (xs i0) a y := by
  have hx := hp.1 i0 h0
  have hvy := Vs_next hx.1.vs hy
  have hfy := hvy.fit hw
  have hpp := pr_pos a
  have hprl := pr_le a
  have hxs := hx.small hw
  have hph : phi (d i0 + pr a) < 2 ^ 31 := by unfold phi; omega
  rw [hc, nI_add, phi_pc hw hx]
  constructor
  · intro h
    rcases hC.2.2 (encD y) (hl y hvy) with z | ⟨j, j1, j2⟩
    · rw [z] at h
      exact absurd h.symm (nI_ne_m1 hph)
    · have hdj := hp.1 j j1
      have ey : xs j = y := encD_inj (hdj.1.vs.fit hw) hfy j2
      have hpj := hdj.ph_le hw
      have tight : M.2.1 21 (encD (xs j)) = nI (phi (d j)) → d j = d i0 + pr a := fun e => by
        rw [ey, h] at e
        exact (phi_inj (nI_inj hph (by omega) e)).symm
      by_cases hji : j < i
      · have e := tight (hC.1 j j1 hji)
        have := hp.2.1 j i0 (by omega) h0
        omega
      · by_cases hg : Gd c v b (xs j)
        · have e := tight ((hC.2.1 j j1 (by omega)).1 hg)
          rw [ey] at hg hdj
          rw [e] at hdj
          exact ⟨ha, hy, ⟨d i0, hx, hdj⟩, hg⟩
        · have e := (hC.2.1 j j1 (by omega)).2 hg
          rw [ey, h] at e
          exact absurd e (nI_ne_m1 hph)
  · rintro ⟨_, _, ⟨m, q3, q4⟩, q5⟩
    obtain rfl := q3.uniq hx
    obtain ⟨k, k1, k2⟩ := q5.le
    obtain ⟨j, j1, j2⟩ := hF y k k1 (fun b' hb' => by cases hb'; exact k2)
    have e : d j = d i0 + pr a := hp.at j1 (by rw [j2]; exact q4)
    have hij : i ≤ j := by
      apply Nat.le_of_not_lt
      intro z
      have := hp.2.1 j i0 (by omega) h0
      omega
    have := (hC.2.1 j j1 hij).1 (by rw [j2]; exact q5)
    rw [j2, e] at this
    exact this
/-- the least act at just its cost -/
theorem d_firstActOn (hw : Wf c) (hN : 100 ≤ N) (hv : v ≤ 18) {M : Mm} (hM : OkD c M) (hL : M.2.2 ≤ 40960) (hl : ∀ y, Vs c y → encD y < M.2.2) {x : St} (hx : Vs c x) :
    (∃ a y, a < 18 ∧ f_X1_firstActOn N M (nI (encD x)) (nI v) = some (nI a) ∧ nextN c v x a = some y ∧ M.2.1 21 (encD y) = M.2.1 21 (encD x) + nI (pcD a) ∧ ∀ a' y', a' < a → nextN c v x a' = some y' → ¬ M.2.1 21 (encD y') = M.2.1 21 (encD x) + nI (pcD a')) ∨
    (f_X1_firstActOn N M (nI (encD x)) (nI v) = some (-1) ∧ ∀ a y, a < 18 → nextN c v x a = some y → ¬ M.2.1 21 (encD y) = M.2.1 21 (encD x) + nI (pcD a)) := by
  have hfx := hx.fit hw
  have hex := hl x hx
  have hinx : inb (nI (encD x)) (gL M) := (inb_nI (by omega)).mpr hex
  have main : ∀ (m a : Nat), a ≤ 18 → 18 < m + a → (∀ a' y', a' < a → nextN c v x a' = some y' → ¬ M.2.1 21 (encD y') = M.2.1 21 (encD x) + nI (pcD a')) →
    (∃ a1 y, a1 < 18 ∧ f_X1_firstActOn_2 N M m (nI (encD x)) (nI v) (nI a) = some (nI a1) ∧ nextN c v x a1 = some y ∧ M.2.1 21 (encD y) = M.2.1 21 (encD x) + nI (pcD a1) ∧ ∀ a' y', a' < a1 → nextN c v x a' = some y' → ¬ M.2.1 21 (encD y') = M.2.1 21 (encD x) + nI (pcD a')) ∨
    (f_X1_firstActOn_2 N M m (nI (encD x)) (nI v) (nI a) = some (-1) ∧ ∀ a y, a < 18 → nextN c v x a = some y → ¬ M.2.1 21 (encD y) = M.2.1 21 (encD x) + nI (pcD a)) := by
    intro m
    induction m with
    | zero => intro a h1 h2; omega
    | succ m ih =>
      intro a h1 h2 hno
      rw [f_X1_firstActOn_2]
      by_cases ha : a = 18
      · subst ha
        rw [if_pos (show (18 : Int32) ≤ nI 18 from nI_le (Nat.le_refl 18) (by decide))]
        exact Or.inr ⟨rfl, fun a y ha hy => hno a y ha hy⟩
      · have ha' : a < 18 := by omega
        rw [if_neg (show ¬ (18 : Int32) ≤ nI a from nI_ge (b := 18) ha' (by decide)), d_lead (N := N) hw hM (by omega) hfx hx.1 ha' hv, bd_some]
        have h32 : (if (9 : Int32) ≤ nI a then f_X1_firstActOn_32 N M (f_X1_firstActOn_2 N M m) (nI (encD x)) (nI v) (nI a) (leadI encD (nextN c v x a)) (1 : Int32) else f_X1_firstActOn_32 N M (f_X1_firstActOn_2 N M m) (nI (encD x)) (nI v) (nI a) (leadI encD (nextN c v x a)) (65537 : Int32)) = f_X1_firstActOn_32 N M (f_X1_firstActOn_2 N M m) (nI (encD x)) (nI v) (nI a) (leadI encD (nextN c v x a)) (nI (pcD a)) := by
          unfold pcD
          by_cases z : a < 9
          · rw [if_neg (show ¬ (9 : Int32) ≤ nI a from nI_ge (b := 9) z (by decide)), if_pos z]; rfl
          · rw [if_pos (show (9 : Int32) ≤ nI a from nI_le (a := 9) (by omega) (by omega)), if_neg z]; rfl
        rw [h32]
        unfold f_X1_firstActOn_32
        cases hy : nextN c v x a with
        | none =>
          rw [show leadI encD none = (-1 : Int32) from rfl, if_pos rfl, nI_1]
          refine ih (a + 1) (by omega) (by omega) (fun a' y' h3 h4 => ?_)
          by_cases e : a' = a
          · rw [e, hy] at h4; cases h4
          · exact hno a' y' (by omega) h4
        | some y =>
          have hvy := Vs_next hx hy
          have hey := hl y hvy
          rw [show leadI encD (some y) = nI (encD y) from rfl, if_neg (nI_ne_m1 (by omega)), if_pos (show inb (nI (encD y)) (gL M) from (inb_nI (by omega)).mpr hey), if_pos hinx, gA_nI (by omega), gA_nI (by omega)]
          by_cases hc : M.2.1 21 (encD y) = M.2.1 21 (encD x) + nI (pcD a)
          · rw [if_pos hc]
            exact Or.inl ⟨a, y, ha', rfl, hy, hc, hno⟩
          · rw [if_neg hc, nI_1]
            refine ih (a + 1) (by omega) (by omega) (fun a' y' h3 h4 => ?_)
            by_cases e : a' = a
            · rw [e, hy] at h4; cases h4; rw [e]; exact hc
            · exact hno a' y' (by omega) h4
  exact main N 0 (by omega) (by omega) (fun a' _ h _ => absurd h (Nat.not_lt_zero a'))
def FrC (M0 M : Mm) : Prop := M.1 = M0.1 ∧ (∀ j, j ≠ 21 → j ≠ 22 → M.2.1 j = M0.2.1 j) ∧ M.2.2 = M0.2.2
theorem FrC.okD {M0 M : Mm} (h : FrC M0 M) (hD : OkD c M0) : OkD c M := OkD_of (fun j _ _ => by rw [h.1]) (fun j _ _ _ => h.2.1 j (by omega) (by omega)) hD
theorem d_dropDetours_7 (hw : Wf c) (hN : 100 ≤ N) (hv : v ≤ 18) {M0 : Mm} (hD0 : OkD c M0) (hL0 : M0.2.2 ≤ 40960) (hl : ∀ y, Vs c y → encD y < M0.2.2) (hp : Lnp c v n xs d) (hF : Full c v n xs (some b)) (hn : n ≤ M0.2.2) (h22 : ∀ j, j < n → M0.2.1 22 j = nI (encD (xs j))) (h14 : M0.1 14 = nI (phi b)) (hb : phi b < 2 ^ 31) :
    ∀ (m i : Nat) (M : Mm), i ≤ n → i < m → CsC c v b M n xs d i → FrC M0 M → M.2.1 22 = M0.2.1 22 → ∃ M', f_X1_dropDetours_7 N m (nI v) (nI i - 1) M = some M' ∧ CsC c v b M' n xs d 0 ∧ FrC M0 M' ∧ M'.2.1 22 = M0.2.1 22 := by
  intro m
  induction m with
  | zero => intro i M h1 h2; omega
  | succ m ih =>
    intro i M h1 h2 hC hFr h22M
    have hM := hFr.okD hD0
    have hL : M.2.2 ≤ 40960 := by rw [hFr.2.2]; exact hL0
    have hlM : ∀ y, Vs c y → encD y < M.2.2 := by rw [hFr.2.2]; exact hl
    rw [f_X1_dropDetours_7]
    cases i with
    | zero => exact ⟨M, by rw [if_pos (show nI 0 - (1 : Int32) < 0 by decide)], hC, hFr, h22M⟩
    | succ i =>
      have hin : i < n := by omega
      have hdi := hp.1 i hin
      have hvi := hdi.1.vs
      have hfi := hvi.fit hw
      have hei := hlM _ hvi
      have hpi := hdi.ph_le hw
      have e22 : M.2.1 22 i = nI (encD (xs i)) := by rw [h22M]; exact h22 i hin
      have hLn : n ≤ M.2.2 := by rw [hFr.2.2]; exact hn
      have esub : nI (i + 1) - (1 : Int32) = nI i := nI_sub (b := 1) (by omega) (by omega)
      have estep : nI i + (-1 : Int32) = nI i - 1 := by
        rw [Int32.sub_eq_add_neg]
      have hcost : M.2.1 21 (encD (xs i)) = nI (phi (d i)) := hC.1 i hin (by omega)
      have h14M : gI M 14 = nI (phi b) := by show M.1 14 = _; rw [hFr.1]; exact h14
      rw [esub, if_neg (nI_pos (by omega)), if_pos (show inb (nI i) (gL M) from (inb_nI (by omega)).mpr (show i < M.2.2 by omega)), gA_nI (by omega), e22, if_pos (show inb (nI (encD (xs i))) (gL M) from (inb_nI (by omega)).mpr hei), gA_nI (by omega), hcost, h14M]
      have keep : Gd c v b (xs i) → CsC c v b M n xs d i := fun hg => by
        refine ⟨fun j j1 j2 => hC.1 j j1 (by omega), fun j j1 j2 => ?_, hC.2.2⟩
        by_cases e : j = i
        · rw [e]; exact ⟨fun _ => hcost, fun z => absurd hg z⟩
        · exact hC.2.1 j j1 (by omega)
      have last : Gd c v b (xs i) → ∃ M', f_X1_dropDetours_7 N m (nI v) (nI i + (-1 : Int32)) M = some M' ∧ CsC c v b M' n xs d 0 ∧ FrC M0 M' ∧ M'.2.1 22 = M0.2.1 22 := fun hg => by
        rw [estep]
        exact ih i M (by omega) (by omega) (keep hg) hFr h22M
      have look : ¬ Lst c v b (xs i) → ∃ M', f_X1_dropDetours_47 N (f_X1_dropDetours_7 N m) (nI v) (nI i) (nI (encD (xs i))) (0 : Int32) M = some M' ∧ CsC c v b M' n xs d 0 ∧ FrC M0 M' ∧ M'.2.1 22 = M0.2.1 22 := by
        intro hnl
        unfold f_X1_dropDetours_47
        rw [if_pos rfl]
        have pg : ∀ {a : Nat} {y : St}, a < 18 → nextN c v (xs i) a = some y → (M.2.1 21 (encD y) = M.2.1 21 (encD (xs i)) + nI (pcD a) ↔ On c v b (xs i) a y) := fun ha hy => pg_iff hw hp hF hlM hC (Nat.le_refl _) hin hcost ha hy
        rcases d_firstActOn (N := N) hw hN hv hM hL hlM hvi with ⟨a, y, ha, g1, g2, g3, g4⟩ | ⟨g1, g2⟩
        · rw [g1, bd_some, if_neg (nI_ne_m1 (by omega))]
          exact last (Gd.on ((pg ha g2).mp g3))
        · rw [g1, bd_some, if_pos rfl, if_pos (show inb (nI (encD (xs i))) (gL M) from (inb_nI (by omega)).mpr hei), estep]
          have hng : ¬ Gd c v b (xs i) := fun hg => by
            rcases hg.inv with z | ⟨a, y, z⟩
            · exact hnl z
            · exact g2 a y z.1 z.2.1 ((pg z.1 z.2.1).mpr z)
          have f21 : ∀ k, (sA M 21 (nI (encD (xs i))) (-1)).2.1 21 k = if k = encD (xs i) then -1 else M.2.1 21 k := fun k => sA_at (by omega) k
          have hne : ∀ j, j < n → j ≠ i → encD (xs j) ≠ encD (xs i) := fun j j1 j2 e => by
            have e2 := encD_inj ((hp.1 j j1).1.vs.fit hw) hfi e
            rcases Nat.lt_or_gt_of_ne j2 with z | z
            · exact hp.2.2.2.2 j i z hin e2
            · exact hp.2.2.2.2 i j z j1 e2.symm
          refine ih i _ (by omega) (by omega) ⟨fun j j1 j2 => ?_, fun j j1 j2 => ?_, fun k hk => ?_⟩ ⟨hFr.1, fun j j1 j2 => by rw [sA_ne j1]; exact hFr.2.1 j j1 j2, hFr.2.2⟩ (by rw [sA_ne (by decide)]; exact h22M)
          · rw [f21, if_neg (hne j j1 (by omega))]
            exact hC.1 j j1 (by omega)
          · rw [f21]
            by_cases e : j = i
            · rw [e, if_pos rfl]; exact ⟨fun z => absurd z hng, fun _ => rfl⟩
            · rw [if_neg (hne j j1 e)]
              exact hC.2.1 j j1 (by omega)
          · rw [f21]
            by_cases e : k = encD (xs i)
            · rw [if_pos e]; exact Or.inl rfl
            · rw [if_neg e]; exact hC.2.2 k hk
      by_cases hdb : d i = b
      · rw [if_pos (by rw [hdb]), d_reaches hw hM hfi, bd_some]
        by_cases hq : endN c (xs i) = true
        · rw [hq, if_neg (show ¬ zI true = 0 by decide)]
          unfold f_X1_dropDetours_47
          rw [if_neg one_ne_zero]
          exact last (Gd.last ⟨by rw [← hdb]; exact hdi, hq⟩)
        · rw [b_false hq, if_pos (show zI false = 0 from rfl)]
          exact look (fun z => hq z.2)
      · rw [if_neg (fun z => hdb (phi_inj (nI_inj (by omega) hb z)))]
        exact look (fun z => hdb (hp.at hin z.1))
theorem Gd.ac (hw : Wf c) {x : St} {k : Nat} (h : Gd c v b x) (hx : Dst c v x k) : acN k ≤ acN b := by
  have := h (fun x => ∃ k, Dst c v x k ∧ acN k ≤ acN b) (fun x h1 _ => ⟨b, h1, Nat.le_refl _⟩) (fun x n a y h1 h2 h3 h4 h5 => by
    obtain ⟨m, m1, m2⟩ := h5
    obtain rfl := m1.uniq h4
    have := ac_step hw h1 h4
    exact ⟨n, h1, by omega⟩)
  obtain ⟨m, m1, m2⟩ := this
  obtain rfl := m1.uniq hx
  exact m2
theorem d_writePlan_13 (hw : Wf c) (hN : 100 ≤ N) (hv : v ≤ 18) {M0 : Mm} (hD0 : OkD c M0) (hL0 : M0.2.2 ≤ 40960) (hl : ∀ y, Vs c y → encD y < M0.2.2) (hp : Lnp c v n xs d) (hF : Full c v n xs (some b)) (hn : n ≤ M0.2.2) (hC : CsC c v b M0 n xs d 0) (hb : acN b ≤ 11264) :
    ∀ (m k j : Nat) (M : Mm), acN b < m + k → k ≤ j → j < n → Gd c v b (xs j) → acN (d j) = k → FrC M0 M → M.2.1 21 = M0.2.1 21 → ∃ M' w, f_X1_writePlan_13 N m (nI v) (nI (encD (xs j))) (nI (acN b)) (nI k) M = some M' ∧ Bp c v b (xs j) w ∧ k + w.length ≤ M0.2.2 ∧ (∀ i, i < k → M'.2.1 22 i = M.2.1 22 i) ∧ (∀ i, i < w.length → M'.2.1 22 (k + i) = nI (w.getD i 0)) ∧ FrC M0 M' := by
  intro m
  induction m with
  | zero =>
    intro k j M h1 h2 h3 hg hk hFr h21
    have := hg.ac hw (hp.1 j h3)
    omega
  | succ m ih =>
    intro k j M h1 h2 h3 hg hk hFr h21
    have hM := hFr.okD hD0
    have hL : M.2.2 ≤ 40960 := by rw [hFr.2.2]; exact hL0
    have hlM : ∀ y, Vs c y → encD y < M.2.2 := by rw [hFr.2.2]; exact hl
    have hdj := hp.1 j h3
    have hvj := hdj.1.vs
    have hkb := hg.ac hw hdj
    have hCM : CsC c v b M n xs d 0 := by
      unfold CsC at hC ⊢
      rw [h21, hFr.2.2]
      exact hC
    rw [f_X1_writePlan_13]
    by_cases hkk : acN b ≤ k
    · rw [if_pos (nI_le hkk (by omega))]
      refine ⟨M, [], rfl, ?_, by show k + 0 ≤ _; omega, fun _ _ => rfl, fun i hi => absurd hi (Nat.not_lt_zero i), hFr⟩
      rcases hg.inv with z | ⟨a, y, z1, z2, ⟨k', z3, z4⟩, z5⟩
      · exact z
      · obtain rfl := z3.uniq hdj
        have q1 := z5.ac hw z4
        have q2 := ac_step hw z3 z4
        omega
    · have hnl : ¬ Lst c v b (xs j) := fun z => by
        have := hp.at h3 z.1
        rw [this] at hk
        omega
      have hkL : k < M.2.2 := by rw [hFr.2.2]; omega
      have hcost : M.2.1 21 (encD (xs j)) = nI (phi (d j)) := (hCM.2.1 j h3 (Nat.zero_le _)).1 hg
      have pg : ∀ {a : Nat} {y : St}, a < 18 → nextN c v (xs j) a = some y → (M.2.1 21 (encD y) = M.2.1 21 (encD (xs j)) + nI (pcD a) ↔ On c v b (xs j) a y) := fun ha hy => pg_iff hw hp hF hlM hCM (by omega) h3 hcost ha hy
      rw [if_neg (nI_ge (a := k) (b := acN b) (by omega) (by omega)), Int32.ofNat_nI, if_neg (show ¬ nI (gL M) ≤ nI k from nI_ge (a := k) hkL (by show M.2.2 < _; omega))]
      rcases d_firstActOn (N := N) hw hN hv hM hL hlM hvj with ⟨a, y, ha, g1, g2, g3, g4⟩ | ⟨g1, g2⟩
      · have hon := (pg ha g2).mp g3
        obtain ⟨_, _, ⟨k', z3, z4⟩, z5⟩ := id hon
        obtain rfl := z3.uniq hdj
        obtain ⟨kk, kk1, kk2⟩ := z5.le
        obtain ⟨j', j1, j2⟩ := hF y kk kk1 (fun b' hb' => by cases hb'; exact kk2)
        have ej : d j' = d j + pr a := hp.at j1 (by rw [j2]; exact z4)
        have hpp := pr_pos a
        have hjj : j < j' := by
          apply Nat.lt_of_not_le
          intro z
          have := hp.2.1 j' j z h3
          omega
        have hM2 : OkD c (sA M 22 (nI k) (nI a)) := OkD_of (D := M) (fun _ _ _ => rfl) (fun q _ _ _ => sA_ne (by omega)) hM
        rw [g1, bd_some, if_neg (nI_ne_m1 (by omega)), if_pos (show inb (nI k) (gL M) from (inb_nI (by omega)).mpr hkL), d_lead (N := N) hw hM2 (by omega) (hvj.fit hw) hvj.1 ha hv, bd_some, g2, show leadI encD (some y) = nI (encD y) from rfl, nI_1, ← j2]
        obtain ⟨M', w, b1, b2, b3, b4, b5, b6⟩ := ih (k + 1) j' (sA M 22 (nI k) (nI a)) (by omega) (by omega) j1 (by rw [j2]; exact z5) (by rw [ej, ac_step hw z3 z4]; omega) ⟨hFr.1, fun q q1 q2 => by rw [sA_ne q2]; exact hFr.2.1 q q1 q2, hFr.2.2⟩ (by rw [sA_ne (by decide)]; exact h21)
        have f22 : ∀ i, (sA M 22 (nI k) (nI a)).2.1 22 i = if i = k then nI a else M.2.1 22 i := fun i => sA_at (by omega) i
        refine ⟨M', a :: w, b1, ⟨hnl, y, hon, fun a' y' h5 h6 => ?_, by rw [← j2]; exact b2⟩, ?_, fun i hi => ?_, fun i hi => ?_, b6⟩
        · exact g4 a' y' h5 h6.2.1 ((pg h6.1 h6.2.1).mpr h6)
        · rw [List.length_cons]; omega
        · rw [b4 i (by omega), f22, if_neg (by omega)]
        · cases i with
          | zero =>
            show M'.2.1 22 (k + 0) = nI a
            rw [Nat.add_zero, b4 k (by omega), f22, if_pos rfl]
          | succ i =>
            rw [List.length_cons] at hi
            have := b5 i (by omega)
            rw [show k + (i + 1) = k + 1 + i by omega]
            exact this
      · exfalso
        rcases hg.inv with z | ⟨a, y, z⟩
        · exact hnl z
        · exact g2 a y z.1 z.2.1 ((pg z.1 z.2.1).mpr z)
end PL
section AF
variable {c : Cfg} {N v : Nat}
def PlD (c : Cfg) (v : Nat) (M : Mm) (o : Option Nat) : Prop := ∀ b, o = some b → ∃ w : List Nat, Bp c v b x0 w ∧ w.length ≤ M.2.2 ∧ ∀ k, k < w.length → M.2.1 22 k = nI (w.getD k 0)
theorem d_acts_49 (hw : Wf c) {M : Mm} {o : Option Nat} (h14 : M.1 14 = oI (Option.map phi o)) (hB : IsB c v o) : f_X1_actsFor_49 N M = some (oI (Option.map acN o), M) := by
  unfold f_X1_actsFor_49
  cases o with
  | none => rw [if_pos (show gI M 14 = (-1 : Int32) from h14)]; rfl
  | some b =>
    obtain ⟨x, hx⟩ := hB.dst
    have q1 := hx.ph_le hw
    have q2 := hx.ac hw
    rw [show gI M 14 = nI (phi b) from h14, if_neg (nI_ne_m1 (by omega)), show (65535 : Int32) = nI (2 ^ 16 - 1) from rfl, fa_mask, show (2 : Nat) ^ 16 = 65536 from rfl, phi_mod q2]
    rfl
theorem d_acts_39 (hw : Wf c) {M : Mm} {o : Option Nat} (h14 : M.1 14 = oI (Option.map phi o)) (hB : IsB c v o) : f_X1_actsFor_39 N (nI v) M = some (oI (Option.map acN o), sI (sI M 15 (-1)) 16 (nI v)) := by
  unfold f_X1_actsFor_39
  exact d_acts_49 hw h14 hB
theorem XD_planned {M M' : Mm} {o : Option Nat} (hX : XD c M) (hk : kap M = 0) (hv1 : 1 ≤ v) (hv : v ≤ 18) (hB : IsB c v o) (h14 : M'.1 14 = oI (Option.map phi o)) (hP : PlD c v M' o) (h6 : M'.1 6 = M.1 6) (h19 : M'.2.1 19 = M.2.1 19) (h20 : M'.2.1 20 = M.2.1 20) (hL : M'.2.2 = M.2.2) : XD c (sI (sI M' 15 (-1)) 16 (nI v)) := by
  have hk' : kap (sI (sI M' 15 (-1)) 16 (nI v)) = kap M := by
    have e : (sI (sI M' 15 (-1)) 16 (nI v)).1 6 = M'.1 6 := rfl
    have e2 : (sI (sI M' 15 (-1)) 16 (nI v)).2.2 = M'.2.2 := rfl
    unfold kap gL gI
    rw [e, e2, h6, hL]
  refine ⟨fun u q1 q2 => ?_, fun u q1 q2 => ?_, Or.inl rfl, Or.inr ⟨by rw [hk']; exact hk, v, hv1, hv, rfl, o, hB, h14, hP⟩⟩
  · have e : (sI (sI M' 15 (-1)) 16 (nI v)).2.1 19 = M.2.1 19 := h19
    rw [hk', e]
    exact hX.1 u q1 q2
  · have e : (sI (sI M' 15 (-1)) 16 (nI v)).2.1 20 = M.2.1 20 := h20
    rw [hk', e]
    exact hX.2.1 u q1 q2
theorem d_acts_21 (hw : Wf c) (hN : 100000 ≤ N) (hv1 : 1 ≤ v) (hv : v ≤ 18) {D : Mm} (hD : OkD c D) (hX : XD c D) (hk : kap D = 0) (hE : XDe c D v) :
    ∃ o M, f_X1_actsFor_21 N (nI v) D = some (oI (Option.map acN o), M) ∧ IsB c v o ∧ PlD c v M o ∧ XD c M ∧ FrX D M ∧ M.2.2 = D.2.2 := by
  obtain ⟨n, xs, d, o, hE, hB, hF, hI, h14, hl⟩ := hE
  have hL : D.2.2 ≤ 40960 := by rcases hE.1.2.1 with z | z <;> rw [z] <;> decide
  unfold f_X1_actsFor_21
  have fr : ∀ M : Mm, FrC D M → FrX D (sI (sI M 15 (-1)) 16 (nI v)) := fun M h => ⟨fun j hj => by
    show va_up (va_up M.1 15 (-1)) 16 (nI v) j = _
    rw [up_ne (by omega), up_ne (by omega), h.1], fun j j1 j2 j3 j4 => h.2.1 j j3 j4⟩
  cases o with
  | none =>
    rw [if_pos (show gI D 14 = (-1 : Int32) from h14), d_acts_39 hw h14 hI]
    exact ⟨none, _, rfl, hI, (fun b hb => by cases hb), XD_planned hX hk hv1 hv hI h14 (fun b hb => by cases hb) rfl rfl rfl rfl, fr D ⟨rfl, fun _ _ _ => rfl, rfl⟩, rfl⟩
  | some b =>
    obtain ⟨x, hx⟩ := hI.dst
    have q1 := hx.ph_le hw
    have q2 := hx.ac hw
    have hp := hE.pure
    have hn := hE.1.le hw hl
    have h14' : D.1 14 = nI (phi b) := h14
    rw [show gI D 14 = nI (phi b) from h14, if_neg (nI_ne_m1 (by omega))]
    have hC : CsC c v b D n xs d n := ⟨fun j j1 _ => (hE.1.2.2.1 j j1).2.2.1, fun j j1 j2 => by omega, hE.1.2.2.2.2⟩
    obtain ⟨M1, a1, a2, a3, a4⟩ := d_dropDetours_7 (N := N) hw (by omega) hv hD hL hl hp hF hn (fun j hj => (hE.1.2.2.1 j hj).1) h14' (by omega) N n D (Nat.le_refl _) (by omega) hC ⟨rfl, fun _ _ _ => rfl, rfl⟩ rfl
    have a1' : f_X1_dropDetours N (nI v) D = some M1 := by
      unfold f_X1_dropDetours
      rw [show gI D 13 = nI n from hE.1.1]
      exact a1
    have hM1 := a3.okD hD
    have h0 : Gd c v b (xs 0) := by rw [hp.2.2.2.1]; exact Gd.x0 hI
    have hd0 : d 0 = 0 := hp.at hp.2.2.1 (by rw [hp.2.2.2.1]; exact Dst0)
    have hL1 : M1.2.2 = D.2.2 := a3.2.2
    obtain ⟨M2, w, b1, b2, b3, b4, b5, b6⟩ := d_writePlan_13 (N := N) hw (by omega) hv hM1 (by rw [hL1]; exact hL) (by rw [hL1]; exact hl) hp hF (by rw [hL1]; exact hn) a2 q2 N 0 0 M1 (by unfold acN; omega) (Nat.le_refl _) hp.2.2.1 h0 (by rw [hd0]; rfl) ⟨rfl, fun _ _ _ => rfl, rfl⟩ rfl
    rw [hp.2.2.2.1] at b1 b2
    have b1' : f_X1_writePlan N (nI v) M1 = some M2 := by
      unfold f_X1_writePlan
      have e14 : gI M1 14 = nI (phi b) := by show M1.1 14 = _; rw [a3.1]; exact h14'
      rw [e14, show (65535 : Int32) = nI (2 ^ 16 - 1) from rfl, fa_mask, show (2 : Nat) ^ 16 = 65536 from rfl, phi_mod q2]
      exact b1
    have hFr : FrC D M2 := ⟨b6.1.trans a3.1, fun j j1 j2 => (b6.2.1 j j1 j2).trans (a3.2.1 j j1 j2), b6.2.2.trans a3.2.2⟩
    have h142 : M2.1 14 = oI (Option.map phi (some b)) := by rw [hFr.1]; exact h14
    have hPl : PlD c v M2 (some b) := fun b' hb' => by
      cases hb'
      refine ⟨w, b2, ?_, fun k hk => ?_⟩
      · rw [b6.2.2]
        rw [Nat.zero_add] at b3
        exact b3
      · have := b5 k hk
        rw [Nat.zero_add] at this
        exact this
    rw [a1', bd_some, b1', bd_some, d_acts_39 hw h142 hI]
    exact ⟨some b, _, rfl, hI, hPl, XD_planned hX hk hv1 hv hI h142 hPl (by rw [hFr.1]) (hFr.2.1 19 (by decide) (by decide)) (hFr.2.1 20 (by decide) (by decide)) hFr.2.2, fr M2 hFr, hFr.2.2⟩
theorem d_actsFor (hw : Wf c) (hN : 100000 ≤ N) (hv1 : 1 ≤ v) (hv : v ≤ 18) {D : Mm} (hD : OkD c D) (hL : D.2.2 = 4096 ∨ D.2.2 = 40960) (hX : XD c D) :
    ∃ o M, f_X1_actsFor N (nI v) D = some (oI (Option.map acN o), M) ∧ IsB c v o ∧ PlD c v M o ∧ XD c M ∧ FrX D M ∧ (M.2.2 = 4096 ∨ M.2.2 = 40960) ∧ kap D + kp M ≤ kp D := by
  have kpe : ∀ {A B : Mm}, A.2.2 = B.2.2 → kp A = kp B := fun h => by unfold kp gL; rw [h]
  unfold f_X1_actsFor
  by_cases h16 : gI D 16 = nI v
  · rw [if_pos h16]
    rcases hX.2.2.2 with z | ⟨z, u, u1, u2, u3, o, u4, u5, u6⟩
    · have z : gI D 16 = -1 := z
      rw [h16] at z
      exact absurd z (nI_ne_m1 (by omega))
    · have u3 : gI D 16 = nI u := u3
      obtain rfl : u = v := nI_inj (by omega) (by omega) (u3.symm.trans h16)
      exact ⟨o, D, d_acts_49 hw u5 u4, u4, u6, hX, FrX.rf D, hL, by rw [z]; omega⟩
  · rw [if_neg h16]
    by_cases h15 : gI D 15 = nI v
    · rw [if_pos h15]
      rcases hX.2.2.1 with z | ⟨z, u, u1, u2, u3, u4⟩
      · have z : gI D 15 = -1 := z
        rw [h15] at z
        exact absurd z (nI_ne_m1 (by omega))
      · have u3 : gI D 15 = nI u := u3
        obtain rfl : u = v := nI_inj (by omega) (by omega) (u3.symm.trans h15)
        obtain ⟨o, M, a1, a2, a3, a4, a5, a6⟩ := d_acts_21 (N := N) hw hN hv1 hv hD hX z u4
        exact ⟨o, M, a1, a2, a3, a4, a5, by rw [a6]; exact hL, by rw [z, kpe a6]; omega⟩
    · rw [if_neg h15]
      obtain ⟨M, n, xs, d, o, a1, a2, a3, a4, a5, a6, a7, a8, a9, a10, a11, a12, a13, a14⟩ := d_explore (N := N) hw hN hv1 hv hD hL
      have hXM := XD_explored hX hv1 hv a2 a3 a4 a5 a6 a7 a8 a9 a10 a12 a14
      obtain ⟨o', M', b1, b2, b3, b4, b5, b6⟩ := d_acts_21 (N := N) hw hN hv1 hv (a11.okD hD) hXM a14 ⟨n, xs, d, o, a2, a3, a4, a5, a6, a12⟩
      rw [a1, bd_some]
      exact ⟨o', M', b1, b2, b3, b4, a11.tr b5, by rw [b6]; exact a2.1.2.1, by rw [kpe b6]; exact a13⟩
end AF
