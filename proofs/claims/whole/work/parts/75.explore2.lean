/-! ===== the class explores: the loop of the two marks, and all of it ===== -/
def Full (c : Cfg) (v n : Nat) (xs : Nat → St) (o : Option Nat) : Prop := ∀ y k, Dst c v y k → (∀ b, o = some b → k ≤ b) → ∃ j, j < n ∧ xs j = y
def Mkd (c : Cfg) (v mk n : Nat) (xs : Nat → St) : Prop := ∀ i, i < mk → ∀ a, a < 9 → ∀ y, nextN c v (xs i) a = some y → ∃ j, j < n ∧ xs j = y
def Prd (c : Cfg) (v pk n : Nat) (xs : Nat → St) : Prop := ∀ i, i < pk → ∀ a, 9 ≤ a → a < 18 → ∀ y, nextN c v (xs i) a = some y → ∃ j, j < n ∧ xs j = y
theorem pr_make {a : Nat} (h : a < 9) : pr a = 65536 := if_pos h
theorem pr_pour {a : Nat} (h : ¬ a < 9) : pr a = 1 := if_neg h
theorem next_bath {c : Cfg} {v a : Nat} {x y : St} (h : nextN c v x a = some y) : a % 9 < cN c := by
  unfold nextN at h
  by_cases z : cN c ≤ a % 9
  · rw [if_pos z] at h; cases h
  · omega
section EL
variable {c : Cfg} {N v : Nat}
theorem ex_known {M : Mm} {n mk pk nx : Nat} {xs : Nat → St} {d : Nat → Nat} (hE : Ex0 c v M n xs d) (hm : Mkd c v mk n xs) (hp : Prd c v pk n xs) (h1 : mk < n → nx ≤ d mk + 65536) (h2 : pk < n → nx ≤ d pk + 1) : ∀ k y, Dst c v y k → k < nx → ∃ j, j < n ∧ xs j = y := by
  intro k
  induction k using Nat.strongRecOn with
  | ind k ih =>
    intro y hy hk
    rcases hy.pred with ⟨e, _⟩ | ⟨x, n', a, hx, ha, hn, e⟩
    · exact ⟨0, hE.2.2.2.1, by rw [e]; exact hE.2.2.2.2⟩
    · have hpp := pr_pos a
      obtain ⟨i, i1, i2⟩ := ih n' (by omega) x hx (by omega)
      have hd : d i = n' := by
        have := hE.2.1 i i1
        rw [i2] at this
        exact this.uniq hx
      rw [← i2] at hn
      by_cases h9 : a < 9
      · refine hm i ?_ a h9 y hn
        have hpr := pr_make h9
        apply Nat.lt_of_not_le
        intro hle
        have q1 := h1 (by omega)
        have q2 := hE.2.2.1 mk i hle i1
        omega
      · refine hp i ?_ a (by omega) ha y hn
        have hpr := pr_pour h9
        apply Nat.lt_of_not_le
        intro hle
        have q1 := h2 (by omega)
        have q2 := hE.2.2.1 pk i hle i1
        omega
theorem d_explore_31 (hw : Wf c) (hN : 20 ≤ N) (hv : v ≤ 18) {M0 : Mm} (hD0 : OkD c M0) (hl : ∀ y, Vs c y → encD y < M0.2.2) :
    ∀ (m mk pk : Nat) (M : Mm) (n : Nat) (xs : Nat → St) (d : Nat → Nat) (o : Option Nat), mk ≤ n → pk ≤ n → 81920 < m + (mk + pk) → Ex0 c v M n xs d → Mkd c v mk n xs → Prd c v pk n xs → (mk < n → ∀ j, j < n → d j ≤ d mk + 65536) → (pk < n → ∀ j, j < n → d j ≤ d pk + 1) → BsX c n xs d o → M.1 14 = oI (Option.map phi o) → FrE M0 M →
    ∃ M' n' xs' d' o', f_X1_explore_31 N m (nI v) (nI mk) (nI pk) (nI (mk + pk)) M = f_X1_explore_182 N (nI v) M' ∧ Ex0 c v M' n' xs' d' ∧ BsX c n' xs' d' o' ∧ Full c v n' xs' o' ∧ M'.1 14 = oI (Option.map phi o') ∧ FrE M0 M' := by
  intro m
  induction m with
  | zero =>
    intro mk pk M n xs d o h1 h2 h3 hE hm hp b1 b2 hB h14 hF
    have hlM : ∀ y, Vs c y → encD y < M.2.2 := by rw [hF.2.2]; exact hl
    have hL40 : M.2.2 ≤ 40960 := by rcases hE.1.2.1 with z | z <;> rw [z] <;> decide
    have hn := hE.1.le hw hlM
    omega
  | succ m ih =>
    intro mk pk M n xs d o h1 h2 h3 hE hm hp b1 b2 hB h14 hF
    have hM := hF.okD hD0
    have hlM : ∀ y, Vs c y → encD y < M.2.2 := by rw [hF.2.2]; exact hl
    have hL40 : M.2.2 ≤ 40960 := by rcases hE.1.2.1 with z | z <;> rw [z] <;> decide
    have hn := hE.1.le hw hlM
    have hnb := hw.1
    have h13 : gI M 13 = nI n := hE.1.1
    have hin : ∀ i, i < n → inb (nI i) (gL M) := fun i hi => (inb_nI (by omega)).mpr (show i < M.2.2 by omega)
    have h22 : ∀ i, i < n → gA M 22 (nI i) = nI (encD (xs i)) := fun i hi => by
      rw [gA_nI (by omega)]; exact (hE.1.2.2.1 i hi).1
    have hxl : ∀ i, i < n → encD (xs i) < M.2.2 := fun i hi => hlM _ (hE.1.2.2.1 i hi).2.1
    have hin2 : ∀ i, i < n → inb (nI (encD (xs i))) (gL M) := fun i hi => (inb_nI (by have := hxl i hi; omega)).mpr (hxl i hi)
    have h21 : ∀ i, i < n → gA M 21 (nI (encD (xs i))) = nI (phi (d i)) := fun i hi => by
      rw [gA_nI (by have := hxl i hi; omega)]; exact (hE.1.2.2.1 i hi).2.2.1
    have hph : ∀ i, i < n → phi (d i) ≤ 738208768 := fun i hi => (hE.2.1 i hi).ph_le hw
    have hac : ∀ i, i < n → d i / 65536 + d i % 65536 ≤ 11264 := fun i hi => (hE.2.1 i hi).ac hw
    have hall : mk = n → pk = n → Full c v n xs o := fun e1 e2 y k hy _ => ex_known (nx := k + 1) hE hm hp (fun q => absurd q (by omega)) (fun q => absurd q (by omega)) k y hy (by omega)
    have stop : Full c v n xs o → ∃ M' n' xs' d' o', f_X1_explore_182 N (nI v) M = f_X1_explore_182 N (nI v) M' ∧ Ex0 c v M' n' xs' d' ∧ BsX c n' xs' d' o' ∧ Full c v n' xs' o' ∧ M'.1 14 = oI (Option.map phi o') ∧ FrE M0 M' := fun h => ⟨M, n, xs, d, o, rfl, hE, hB, h, h14, hF⟩
    rw [f_X1_explore_31]
    by_cases hr : 81920 ≤ mk + pk
    · rw [if_pos (show (81920 : Int32) ≤ nI (mk + pk) from nI_le (a := 81920) hr (by omega))]
      exact stop (hall (by omega) (by omega))
    · rw [if_neg (show ¬ (81920 : Int32) ≤ nI (mk + pk) from nI_ge (b := 81920) (by omega) (by decide))]
      obtain ⟨XM, hXM, hXM1, hXM2⟩ : ∃ XM : Nat, (if gI M 13 ≤ nI mk then f_X1_explore_65 N (f_X1_explore_31 N m) (nI v) (nI mk) (nI pk) (nI (mk + pk)) (2147483647 : Int32) M else (if inb (nI mk) (gL M) then (if inb (gA M 22 (nI mk)) (gL M) then f_X1_explore_65 N (f_X1_explore_31 N m) (nI v) (nI mk) (nI pk) (nI (mk + pk)) ((gA M 21 (gA M 22 (nI mk))) + (65537 : Int32)) M else none) else none)) = f_X1_explore_65 N (f_X1_explore_31 N m) (nI v) (nI mk) (nI pk) (nI (mk + pk)) (nI XM) M ∧ (mk < n → XM = phi (d mk + 65536)) ∧ (¬ mk < n → XM = 2147483647) := by
        by_cases z : mk < n
        · refine ⟨phi (d mk + 65536), ?_, fun _ => rfl, fun q => absurd z q⟩
          rw [h13, if_neg (nI_ge z (by omega)), if_pos (hin mk z), h22 mk z, if_pos (hin2 mk z), h21 mk z, show (65537 : Int32) = nI 65537 from rfl, nI_add, phi_make]
        · refine ⟨2147483647, ?_, fun q => absurd q z, fun _ => rfl⟩
          rw [h13, if_pos (nI_le (by omega) (by omega))]
          rfl
      obtain ⟨XP, hXP, hXP1, hXP2⟩ : ∃ XP : Nat, f_X1_explore_65 N (f_X1_explore_31 N m) (nI v) (nI mk) (nI pk) (nI (mk + pk)) (nI XM) M = f_X1_explore_93 N (f_X1_explore_31 N m) (nI v) (nI mk) (nI pk) (nI (mk + pk)) (nI XM) (nI XP) M ∧ (pk < n → XP = phi (d pk + 1)) ∧ (¬ pk < n → XP = 2147483647) := by
        unfold f_X1_explore_65
        by_cases z : pk < n
        · refine ⟨phi (d pk + 1), ?_, fun _ => rfl, fun q => absurd z q⟩
          rw [h13, if_neg (nI_ge z (by omega)), if_pos (hin pk z), h22 pk z, if_pos (hin2 pk z), h21 pk z, nI_1, phi_pour (hac pk z)]
        · refine ⟨2147483647, ?_, fun q => absurd q z, fun _ => rfl⟩
          rw [h13, if_pos (nI_le (by omega) (by omega))]
          rfl
      rw [hXM, hXP]
      have lM : mk < n → XM ≤ 738274305 := fun z => by
        have q1 := hph mk z
        have q2 := hac mk z
        rw [hXM1 z]
        unfold phi at q1 ⊢
        omega
      have lP : pk < n → XP ≤ 738274305 := fun z => by
        have q1 := hph pk z
        have q2 := hac pk z
        rw [hXP1 z]
        unfold phi at q1 ⊢
        omega
      have lM2 : XM ≤ 2147483647 := by
        by_cases z : mk < n
        · have := lM z; omega
        · rw [hXM2 z]; exact Nat.le_refl _
      have lP2 : XP ≤ 2147483647 := by
        by_cases z : pk < n
        · have := lP z; omega
        · rw [hXP2 z]; exact Nat.le_refl _
      obtain ⟨X, hX, hX1, hX2⟩ : ∃ X : Nat, (if nI XP < nI XM then nI XP else nI XM) = nI X ∧ (XP ≤ XM → X = XP) ∧ (XM < XP → X = XM) := by
        by_cases z : XP < XM
        · exact ⟨XP, if_pos (nI_lt z (by omega)), fun _ => rfl, fun q => by omega⟩
        · exact ⟨XM, if_neg (nI_nlt (by omega) (by omega)), fun q => by omega, fun _ => rfl⟩
      have hXle : X ≤ XM ∧ X ≤ XP := by
        by_cases z : XP ≤ XM
        · have := hX1 z; omega
        · have := hX2 (by omega); omega
      unfold f_X1_explore_93
      rw [hX]
      by_cases hfar : X = 2147483647
      · rw [if_pos (show nI X = (2147483647 : Int32) by rw [hfar]; rfl)]
        refine stop (hall ?_ ?_)
        · apply Nat.le_antisymm h1
          apply Nat.le_of_not_lt
          intro z
          have := lM z
          omega
        · apply Nat.le_antisymm h2
          apply Nat.le_of_not_lt
          intro z
          have := lP z
          omega
      · rw [if_neg (show ¬ nI X = (2147483647 : Int32) from fun z => hfar (nI_inj (b := 2147483647) (by omega) (by decide) z))]
        have go : (∀ b, o = some b → X ≤ phi b) → ∃ M' n' xs' d' o', f_X1_explore_131 N (f_X1_explore_31 N m) (nI v) (nI mk) (nI pk) (nI (mk + pk)) (nI XM) (nI XP) (nI X) M = f_X1_explore_182 N (nI v) M' ∧ Ex0 c v M' n' xs' d' ∧ BsX c n' xs' d' o' ∧ Full c v n' xs' o' ∧ M'.1 14 = oI (Option.map phi o') ∧ FrE M0 M' := by
          intro ho
          unfold f_X1_explore_131
          by_cases hc : XP ≤ XM
          · have eX := hX1 hc
            have zp : pk < n := Nat.lt_of_not_le (fun q => by have := hXP2 (by omega); omega)
            have eP := hXP1 zp
            have hmn : mk < n → d pk + 1 ≤ d mk + 65536 := fun z => by
              have e := hXM1 z
              exact phi_le.mp (by omega)
            have hlt := lP zp
            rw [if_pos (nI_le hc (by omega)), if_pos (hin pk zp), h22 pk zp, eX, eP]
            unfold f_X1_spread
            obtain ⟨M', n', xs', d', o', g1, g2, g3, g4, g5, g6, g7, g8, g9, g10, g11⟩ := d_pspread_3 (N := N) hw hN hv hD0 hl (x := xs pk) (fa := 9) (nx := d pk + 1) (dx := d pk) (n0 := n) (xs0 := xs) (d0 := d) (Or.inr rfl) (hE.2.1 pk zp) (fun b hb => by rw [pr_pour (by omega)]) (by omega) (fun y k hy hk => ex_known hE hm hp hmn (fun _ => Nat.le_refl _) k y hy hk) N 0 M n xs d o (Nat.zero_le _) (by omega) hE (Nat.le_refl _) (fun _ _ => ⟨rfl, rfl⟩) (fun j q1 q2 => by omega) (b2 zp) (fun b hb => absurd hb (Nat.not_lt_zero b)) hB h14 (fun b hb => phi_le.mp (by have := ho b hb; omega)) hF
            rw [show (9 : Int32) = nI 9 from rfl, show (0 : Int32) = nI 0 from rfl, g1, bd_some, nI_1, nI_1]
            refine ih mk (pk + 1) M' n' xs' d' o' (by omega) (by omega) (by omega) g2 ?_ ?_ ?_ ?_ g8 g9 g11
            · intro i hi a ha y hy
              rw [(g4 i (by omega)).1] at hy
              obtain ⟨j, j1, j2⟩ := hm i hi a ha y hy
              exact ⟨j, by omega, by rw [(g4 j j1).1]; exact j2⟩
            · intro i hi a ha1 ha2 y hy
              rw [(g4 i (by omega)).1] at hy
              by_cases e : i = pk
              · rw [e] at hy
                have hb := next_bath hy
                refine g7 (a % 9) hb y ?_
                rw [show 9 + a % 9 = a by omega]
                exact hy
              · obtain ⟨j, j1, j2⟩ := hp i (by omega) a ha1 ha2 y hy
                exact ⟨j, by omega, by rw [(g4 j j1).1]; exact j2⟩
            · intro z j hj
              have := g6 j hj
              by_cases e : mk < n
              · rw [(g4 mk e).2]
                have := hmn e
                omega
              · rw [g5 mk (by omega) z]
                omega
            · intro z j hj
              have := g6 j hj
              by_cases e : pk + 1 < n
              · rw [(g4 (pk + 1) e).2]
                have := hE.2.2.1 pk (pk + 1) (by omega) e
                omega
              · rw [g5 (pk + 1) (by omega) z]
                omega
          · have eX := hX2 (by omega)
            have zm : mk < n := Nat.lt_of_not_le (fun q => by have := hXM2 (by omega); omega)
            have eM := hXM1 zm
            have hpn : pk < n → d mk + 65536 ≤ d pk + 1 := fun z => by
              have e := hXP1 z
              exact phi_le.mp (by omega)
            have hlt := lM zm
            rw [if_neg (nI_ge (a := XM) (b := XP) (by omega) (by omega)), if_pos (hin mk zm), h22 mk zm, eX, eM]
            unfold f_X1_spread
            obtain ⟨M', n', xs', d', o', g1, g2, g3, g4, g5, g6, g7, g8, g9, g10, g11⟩ := d_pspread_3 (N := N) hw hN hv hD0 hl (x := xs mk) (fa := 0) (nx := d mk + 65536) (dx := d mk) (n0 := n) (xs0 := xs) (d0 := d) (Or.inl rfl) (hE.2.1 mk zm) (fun b hb => by rw [pr_make (by omega)]) (by omega) (fun y k hy hk => ex_known hE hm hp (fun _ => Nat.le_refl _) hpn k y hy hk) N 0 M n xs d o (Nat.zero_le _) (by omega) hE (Nat.le_refl _) (fun _ _ => ⟨rfl, rfl⟩) (fun j q1 q2 => by omega) (b1 zm) (fun b hb => absurd hb (Nat.not_lt_zero b)) hB h14 (fun b hb => phi_le.mp (by have := ho b hb; omega)) hF
            have g1' : f_X1_spread_3 N N (nI (encD (xs mk))) (0 : Int32) (nI (phi (d mk + 65536))) (nI v) (0 : Int32) M = some M' := g1
            rw [g1', bd_some, nI_1, nI_1, show mk + pk + 1 = mk + 1 + pk by omega]
            refine ih (mk + 1) pk M' n' xs' d' o' (by omega) (by omega) (by omega) g2 ?_ ?_ ?_ ?_ g8 g9 g11
            · intro i hi a ha y hy
              rw [(g4 i (by omega)).1] at hy
              by_cases e : i = mk
              · rw [e] at hy
                have hb := next_bath hy
                refine g7 (a % 9) hb y ?_
                rw [show 0 + a % 9 = a by omega]
                exact hy
              · obtain ⟨j, j1, j2⟩ := hm i (by omega) a ha y hy
                exact ⟨j, by omega, by rw [(g4 j j1).1]; exact j2⟩
            · intro i hi a ha1 ha2 y hy
              rw [(g4 i (by omega)).1] at hy
              obtain ⟨j, j1, j2⟩ := hp i hi a ha1 ha2 y hy
              exact ⟨j, by omega, by rw [(g4 j j1).1]; exact j2⟩
            · intro z j hj
              have := g6 j hj
              by_cases e : mk + 1 < n
              · rw [(g4 (mk + 1) e).2]
                have := hE.2.2.1 mk (mk + 1) (by omega) e
                omega
              · rw [g5 (mk + 1) (by omega) z]
                omega
            · intro z j hj
              have := g6 j hj
              by_cases e : pk < n
              · rw [(g4 pk e).2]
                have := hpn e
                omega
              · rw [g5 pk (by omega) z]
                omega
        cases o with
        | none =>
          rw [if_pos (show gI M 14 = (-1 : Int32) from h14)]
          exact go (fun b hb => by cases hb)
        | some b =>
          have h14' : gI M 14 = nI (phi b) := h14
          have hpb : phi b ≤ 738208768 := by
            obtain ⟨⟨i, i1, _, i2⟩, _⟩ := hB.2 b rfl
            have := hph i i1
            rw [i2] at this
            exact this
          rw [h14', if_neg (nI_ne_m1 (by omega))]
          by_cases q : X ≤ phi b
          · rw [if_pos (nI_le q (by omega))]
            exact go (fun b' hb' => by cases hb'; exact q)
          · rw [if_neg (nI_ge (a := phi b) (b := X) (by omega) (by omega))]
            refine stop (fun y k hy hk => ?_)
            have hkb := hk b rfl
            refine ex_known (nx := b + 1) hE hm hp (fun z => ?_) (fun z => ?_) k y hy (by omega)
            · have e := hXM1 z
              exact Nat.le_of_not_lt (fun w => by have := phi_le.mpr (show d mk + 65536 ≤ b by omega); omega)
            · have e := hXP1 z
              exact Nat.le_of_not_lt (fun w => by have := phi_le.mpr (show d pk + 1 ≤ b by omega); omega)
theorem isB_of {M : Mm} {n : Nat} {xs : Nat → St} {d : Nat → Nat} {o : Option Nat} (hE : Ex0 c v M n xs d) (hB : BsX c n xs d o) (hF : Full c v n xs o) : IsB c v o := by
  cases o with
  | none =>
    intro x k hx
    obtain ⟨k', hk', _⟩ := hx.dst
    obtain ⟨j, j1, j2⟩ := hF x k' hk' (fun b hb => by cases hb)
    rw [← j2]
    exact hB.1 rfl j j1
  | some b =>
    obtain ⟨⟨i, i1, i2, i3⟩, h2, h3⟩ := hB.2 b rfl
    refine ⟨⟨xs i, i2, by rw [← i3]; exact hE.2.1 i i1⟩, fun x k hx hq => ?_⟩
    apply Nat.le_of_not_lt
    intro z
    obtain ⟨j, j1, j2⟩ := hF x k hx (fun b' hb' => by cases hb'; omega)
    have e : d j = k := by
      have := hE.2.1 j j1
      rw [j2] at this
      exact this.uniq hx
    have := h2 j j1 (by rw [j2]; exact hq)
    omega
theorem phi_div {n : Nat} (h : n / 65536 + n % 65536 ≤ 11264) : phi n / 65536 = n / 65536 := by unfold phi; omega
theorem phi_mod {n : Nat} (h : n / 65536 + n % 65536 ≤ 11264) : phi n % 65536 = n / 65536 + n % 65536 := by unfold phi; omega
theorem IsB.dst {b : Nat} (h : IsB c v (some b)) : ∃ x, Dst c v x b := by
  obtain ⟨⟨x, _, h2⟩, _⟩ := h
  exact ⟨x, h2⟩
theorem LnX_frame {M M' : Mm} {n : Nat} {xs : Nat → St} {C : Nat → Nat} (h : LnX c M n xs C) (h13 : M'.1 13 = M.1 13) (h21 : M'.2.1 21 = M.2.1 21) (h22 : M'.2.1 22 = M.2.1 22) (hL : M'.2.2 = M.2.2) : LnX c M' n xs C := by
  unfold LnX at h ⊢
  rw [h13, h21, h22, hL]
  exact h
theorem d_explore (hw : Wf c) (hN : 100000 ≤ N) (hv1 : 1 ≤ v) (hv : v ≤ 18) {D : Mm} (hD : OkD c D) (hL : D.2.2 = 4096 ∨ D.2.2 = 40960) :
    ∃ M n xs d o, f_X1_explore N (nI v) D = some M ∧ Ex0 c v M n xs d ∧ BsX c n xs d o ∧ Full c v n xs o ∧ IsB c v o ∧ M.1 14 = oI (Option.map phi o) ∧ M.1 15 = nI v ∧ M.1 16 = -1 ∧ (∀ k, M.2.1 19 k = if k = v then oI (Option.map (fun b => b / 65536) o) else D.2.1 19 k) ∧ M.2.1 20 = D.2.1 20 ∧ FrX D M ∧ (∀ y, Vs c y → encD y < M.2.2) ∧ kap D + kp M ≤ kp D ∧ kap M = 0 := by
  obtain ⟨M1, a1, a2, a3, a4, a5, a6, a7, a8, a9, a10, a11⟩ := d_startLine hw hD hL
  have hM1 := a4.okD hD
  obtain ⟨o0, ho0⟩ : ∃ o0 : Option Nat, o0 = if endN c x0 = true then some 0 else none := ⟨_, rfl⟩
  have hr : f_X5_reaches M1 (0 : Int32) = some (zI (endN c x0)) := d_reaches hw hM1 (x := x0) (Vs0.fit hw)
  have hE0 : ∀ t, Ex0 c v (sI M1 14 t) 1 (fun _ => x0) (fun _ => 0) := fun t => by
    refine ⟨?_, fun _ _ => Dst0, fun _ _ _ _ => Nat.le_refl _, by omega, rfl⟩
    have e : (fun i : Nat => phi ((fun _ => 0) i)) = fun _ => 0 := by funext i; show phi 0 = 0; decide
    rw [e]
    exact LnX_frame a2 rfl rfl rfl rfl
  have hB0 : BsX c 1 (fun _ => x0) (fun _ => 0) o0 := by
    by_cases q : endN c x0 = true
    · rw [ho0, if_pos q]
      refine ⟨fun z => (by cases z), fun b hb => ?_⟩
      cases hb
      exact ⟨⟨0, by omega, q, rfl⟩, fun _ _ _ => Nat.le_refl _, fun _ _ => Nat.le_refl _⟩
    · rw [ho0, if_neg q]
      exact ⟨fun _ _ _ => b_false q, fun b hb => by cases hb⟩
  have h21 : ∃ t, t = oI (Option.map phi o0) ∧ f_X1_explore N (nI v) D = f_X1_explore_21 N (nI v) t M1 := by
    unfold f_X1_explore
    rw [a1, bd_some, hr, bd_some]
    by_cases q : endN c x0 = true
    · refine ⟨0, by rw [ho0, if_pos q]; rfl, by rw [q, if_neg (show ¬ zI true = 0 by decide)]⟩
    · refine ⟨-1, by rw [ho0, if_neg q]; rfl, by rw [b_false q, if_pos (show zI false = 0 from rfl)]⟩
  obtain ⟨t, ht, h21⟩ := h21
  have hM1t : OkD c (sI M1 14 t) := OkD_of (fun j j1 j2 => up_ne (by omega)) (fun _ _ _ _ => rfl) hM1
  obtain ⟨M2, n, xs, d, o, b1, b2, b3, b4, b5, b6⟩ := d_explore_31 (N := N) hw (by omega) hv hM1t (M0 := sI M1 14 t) a3 N 0 0 (sI M1 14 t) 1 (fun _ => x0) (fun _ => 0) o0 (by omega) (by omega) (by omega) (hE0 t) (fun i hi => absurd hi (Nat.not_lt_zero i)) (fun i hi => absurd hi (Nat.not_lt_zero i)) (fun _ _ _ => by omega) (fun _ _ _ => by omega) hB0 (by rw [← ht]; rfl) ⟨fun _ _ _ => rfl, fun _ _ _ => rfl, rfl⟩
  have hIs := isB_of b2 b3 b4
  have hfin : ∃ t2, t2 = oI (Option.map (fun b => b / 65536) o) ∧ f_X1_explore_182 N (nI v) M2 = some (sI (sA M2 19 (nI v) t2) 15 (nI v)) := by
    have hiv : inb (nI v) 19 := (inb_nI (by omega)).mpr (by omega)
    unfold f_X1_explore_182 f_X1_explore_206
    cases o with
    | none =>
      refine ⟨-1, rfl, ?_⟩
      rw [if_pos (show gI M2 14 = (-1 : Int32) from b5), if_pos hiv]
    | some b =>
      obtain ⟨x, hx⟩ := hIs.dst
      have q1 := hx.ph_le hw
      have q2 := hx.ac hw
      have h14' : gI M2 14 = nI (phi b) := b5
      refine ⟨nI (b / 65536), rfl, ?_⟩
      rw [h14', if_neg (nI_ne_m1 (by omega)), if_pos hiv, show (16 : Int32) = nI 16 from rfl, nI_shr (by omega) (by decide), show (2 : Nat) ^ 16 = 65536 from rfl, phi_div q2]
  obtain ⟨t2, ht2, hfin⟩ := hfin
  have eI : ∀ j, j ≠ 13 → j ≠ 14 → j ≠ 15 → (sI (sA M2 19 (nI v) t2) 15 (nI v)).1 j = M1.1 j := fun j j1 j2 j3 => by
    show va_up M2.1 15 (nI v) j = _
    rw [up_ne j3, b6.1 j j1 j2]
    exact up_ne j2
  have eA : ∀ j, j ≠ 19 → (sI (sA M2 19 (nI v) t2) 15 (nI v)).2.1 j = M2.2.1 j := fun j j1 => sA_ne j1
  have eA2 : ∀ j, j ≠ 21 → j ≠ 22 → M2.2.1 j = M1.2.1 j := b6.2.1
  have eL : (sI (sA M2 19 (nI v) t2) 15 (nI v)).2.2 = M1.2.2 := b6.2.2
  refine ⟨sI (sA M2 19 (nI v) t2) 15 (nI v), n, xs, d, o, ?_, ⟨LnX_frame b2.1 rfl (eA 21 (by decide)) (eA 22 (by decide)) rfl, b2.2⟩, b3, b4, hIs, ?_, ?_, ?_, fun k => ?_, ?_, ⟨fun j hj => ?_, fun j j1 j2 j3 j4 => ?_⟩, ?_, ?_, ?_⟩
  · rw [h21]
    exact b1.trans hfin
  · exact b5
  · rfl
  · rw [eI 16 (by decide) (by decide) (by decide)]; exact a7
  · show (sA M2 19 (nI v) t2).2.1 19 k = _
    rw [sA_at (by omega), ht2]
    by_cases e : k = v
    · rw [if_pos e, if_pos e]
    · rw [if_neg e, if_neg e, eA2 19 (by decide) (by decide), a8]
  · rw [eA 20 (by decide), eA2 20 (by decide) (by decide), a9]
  · rw [eI j (by omega) (by omega) (by omega)]
    exact a4.1 j hj
  · rw [eA j j1, eA2 j j3 j4]
    exact a4.2 j j1 j2 j3 j4
  · rw [eL]; exact a3
  · have : kp (sI (sA M2 19 (nI v) t2) 15 (nI v)) = kp M1 := by unfold kp gL; rw [eL]
    rw [this]; exact a10
  · have h6 : (sI (sA M2 19 (nI v) t2) 15 (nI v)).1 6 = M1.1 6 := eI 6 (by decide) (by decide) (by decide)
    have : kap (sI (sA M2 19 (nI v) t2) 15 (nI v)) = kap M1 := by unfold kap gL gI; rw [eL, h6]
    rw [this]; exact a11
end EL
