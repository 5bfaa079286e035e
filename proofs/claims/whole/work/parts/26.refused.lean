/-! calls that are refused make nothing -/
set_option maxRecDepth 100000 in
set_option maxHeartbeats 4000000 in
theorem t0_X6_fewest {Z : Zz} {G : Gm} {a : Nat → Nat} {N : Nat} {o : (Int32 × Mm)} {c1 c2 : Nat} {M : Mm} {x1 : Int32} (C : CX (wD Z a) Z nE G cX6_fewest RX6 7 (some .int) (PqW o.1 o.2) 0) (hm : (Gc G).maxLocals = 2) (hx : f_X6_isVatCount x1 = some 0) (hf : f_X6_fewest N x1 M = some o) : V (wD Z a) Z G 0 0 [some (.ref (a 0)), some (.int x1)] [] (c1, c2, M) := by
  have hf2 : some ((-2 : Int32), M) = some o := by
    unfold f_X6_fewest at hf
    rw [hx] at hf
    simpa [bd] using hf
  have hf : bd (f_X6_isVatCount x1) (fun r1 => if r1 = 0 then some ((-2 : Int32), M) else none) = some o := by
    rw [hx]
    simpa [bd] using hf2
  have hcs : 0 ≤ 0 := Nat.le_refl 0
  refine V_iload1 C (pc := 0) dX6_fewest_0 ?_
  refine V_cS C (pc := 1) (dep2 := 0) (As := [.int x1]) (rest := []) (fun r0 h0 => c_X6_isVatCount h0) lb_X6_isVatCount lk_RX6_66 (by decide) hcs rfl rfl (Nat.le_of_ble_eq_true rfl) dX6_fewest_1 hf (fun r1 hf => ?_)
  refine V_if_eq C (pc := 4) (tgt := 18) dX6_fewest_4 (by decide) hf (fun hf => ?_) (fun hf => ?_)
  · refine V_bipush C (pc := 18) (v := (-2 : Int32)) (by decide) dX6_fewest_18 ?_
    exact V_iret C (pc := 20) rfl hcs dX6_fewest_20 (pqW hf)
  · cases hf
set_option maxRecDepth 100000 in
theorem c0_X6_fewest {Z : Zz} {a : Nat → Nat} {N : Nat} {c1 c2 : Nat} {M : Mm} {x1 : Int32} {r0 : Int32} {M0 : Mm} (hx : f_X6_isVatCount x1 = some 0) (hf : f_X6_fewest N x1 M = some (r0, M0)) : CtI (wD Z a) Z nE yX6_fewest cX6_fewest 2 (some .int) 7 0 [.ref (a 0), .int x1] (c1, c2, M) (PqW r0 M0) := CtI_of (by decide +kernel) (Or.inl rfl) (List.forall_mem_cons.mpr ⟨rfl, List.forall_mem_cons.mpr ⟨rfl, fun _ h9 => nomatch h9⟩⟩) (Nat.le_of_ble_eq_true rfl) (fun G C hm => t0_X6_fewest (o := (r0, M0)) C hm hx hf)
set_option maxRecDepth 100000 in
set_option maxHeartbeats 4000000 in
theorem t0_X6_reach {Z : Zz} {G : Gm} {a : Nat → Nat} {N : Nat} {o : (Int32 × Mm)} {c1 c2 : Nat} {M : Mm} {x1 : Int32} (C : CX (wD Z a) Z nE G cX6_reach RX6 6 (some .int) (PqW o.1 o.2) 0) (hm : (Gc G).maxLocals = 2) (hx : f_X6_isVatCount x1 = some 0) (hf : f_X6_reach N x1 M = some o) : V (wD Z a) Z G 0 0 [some (.ref (a 0)), some (.int x1)] [] (c1, c2, M) := by
  have hf2 : some ((-2 : Int32), M) = some o := by
    unfold f_X6_reach at hf
    rw [hx] at hf
    simpa [bd] using hf
  have hf : bd (f_X6_isVatCount x1) (fun r1 => if r1 = 0 then some ((-2 : Int32), M) else none) = some o := by
    rw [hx]
    simpa [bd] using hf2
  have hcs : 0 ≤ 0 := Nat.le_refl 0
  refine V_iload1 C (pc := 0) dX6_reach_0 ?_
  refine V_cS C (pc := 1) (dep2 := 0) (As := [.int x1]) (rest := []) (fun r0 h0 => c_X6_isVatCount h0) lb_X6_isVatCount lk_RX6_66 (by decide) hcs rfl rfl (Nat.le_of_ble_eq_true rfl) dX6_reach_1 hf (fun r1 hf => ?_)
  refine V_if_eq C (pc := 4) (tgt := 18) dX6_reach_4 (by decide) hf (fun hf => ?_) (fun hf => ?_)
  · refine V_bipush C (pc := 18) (v := (-2 : Int32)) (by decide) dX6_reach_18 ?_
    exact V_iret C (pc := 20) rfl hcs dX6_reach_20 (pqW hf)
  · cases hf
set_option maxRecDepth 100000 in
theorem c0_X6_reach {Z : Zz} {a : Nat → Nat} {N : Nat} {c1 c2 : Nat} {M : Mm} {x1 : Int32} {r0 : Int32} {M0 : Mm} (hx : f_X6_isVatCount x1 = some 0) (hf : f_X6_reach N x1 M = some (r0, M0)) : CtI (wD Z a) Z nE yX6_reach cX6_reach 2 (some .int) 6 0 [.ref (a 0), .int x1] (c1, c2, M) (PqW r0 M0) := CtI_of (by decide +kernel) (Or.inl rfl) (List.forall_mem_cons.mpr ⟨rfl, List.forall_mem_cons.mpr ⟨rfl, fun _ h9 => nomatch h9⟩⟩) (Nat.le_of_ble_eq_true rfl) (fun G C hm => t0_X6_reach (o := (r0, M0)) C hm hx hf)
set_option maxRecDepth 100000 in
set_option maxHeartbeats 4000000 in
theorem t0_X6_plan {Z : Zz} {G : Gm} {a : Nat → Nat} {N : Nat} {o : (Int32 × Mm)} {c1 c2 : Nat} {M : Mm} {x1 x2 : Int32} (C : CX (wD Z a) Z nE G cX6_plan RX6 7 (some .int) (PqW o.1 o.2) 0) (hm : (Gc G).maxLocals = 4) (hx : f_X6_isVatCount x1 = some 0 ∨ f_X6_isVatCount x1 = some 1 ∧ ¬ (-1 : Int32) ≤ x2) (hf : f_X6_plan N x1 x2 M = some o) : V (wD Z a) Z G 0 0 [some (.ref (a 0)), some (.int x1), some (.int x2), none] [] (c1, c2, M) := by
  have h10 : ¬ (1 : Int32) = 0 := by decide
  have hf : bd (f_X6_isVatCount x1) (fun r1 => if r1 = 0 then some ((-2 : Int32), M) else (if (-1 : Int32) ≤ x2 then none else some ((-2 : Int32), M))) = some o := by
    unfold f_X6_plan at hf
    rcases hx with hx | ⟨hx, h2⟩
    · rw [hx] at hf ⊢
      simpa [bd] using hf
    · rw [hx] at hf ⊢
      simpa [bd, h10, h2] using hf
  have hcs : 0 ≤ 0 := Nat.le_refl 0
  refine V_iload1 C (pc := 0) dX6_plan_0 ?_
  refine V_cS C (pc := 1) (dep2 := 0) (As := [.int x1]) (rest := []) (fun r0 h0 => c_X6_isVatCount h0) lb_X6_isVatCount lk_RX6_66 (by decide) hcs rfl rfl (Nat.le_of_ble_eq_true rfl) dX6_plan_1 hf (fun r1 hf => ?_)
  refine V_if_eq C (pc := 4) (tgt := 12) dX6_plan_4 (by decide) hf (fun hf => ?_) (fun hf => ?_)
  · refine V_bipush C (pc := 12) (v := (-2 : Int32)) (by decide) dX6_plan_12 ?_
    exact V_iret C (pc := 14) rfl hcs dX6_plan_14 (pqW hf)
  · refine V_iload2 C (pc := 7) dX6_plan_7 ?_
    refine V_iconst C (pc := 8) (v := (-1 : Int32)) (by decide) dX6_plan_8 ?_
    refine V_icmp_ge C (pc := 9) (tgt := 15) dX6_plan_9 (by decide) hf (fun hf => ?_) (fun hf => ?_)
    · cases hf
    · refine V_bipush C (pc := 12) (v := (-2 : Int32)) (by decide) dX6_plan_12 ?_
      exact V_iret C (pc := 14) rfl hcs dX6_plan_14 (pqW hf)
set_option maxRecDepth 100000 in
theorem c0_X6_plan {Z : Zz} {a : Nat → Nat} {N : Nat} {c1 c2 : Nat} {M : Mm} {x1 x2 : Int32} {r0 : Int32} {M0 : Mm} (hx : f_X6_isVatCount x1 = some 0 ∨ f_X6_isVatCount x1 = some 1 ∧ ¬ (-1 : Int32) ≤ x2) (hf : f_X6_plan N x1 x2 M = some (r0, M0)) : CtI (wD Z a) Z nE yX6_plan cX6_plan 4 (some .int) 7 0 [.ref (a 0), .int x1, .int x2] (c1, c2, M) (PqW r0 M0) := CtI_of (by decide +kernel) (Or.inl rfl) (List.forall_mem_cons.mpr ⟨rfl, List.forall_mem_cons.mpr ⟨rfl, List.forall_mem_cons.mpr ⟨rfl, fun _ h9 => nomatch h9⟩⟩⟩) (Nat.le_of_ble_eq_true rfl) (fun G C hm => t0_X6_plan (o := (r0, M0)) C hm hx hf)
set_option maxRecDepth 100000 in
set_option maxHeartbeats 4000000 in
theorem t0_X6_row {Z : Zz} {G : Gm} {a : Nat → Nat} {N : Nat} {o : (Int32 × Mm)} {c1 c2 : Nat} {M : Mm} {x1 : Int32} (C : CX (wD Z a) Z nE G cX6_row RX6 6 (some .int) (PqW o.1 o.2) 0) (hm : (Gc G).maxLocals = 2) (hx : f_X6_isVatCount x1 = some 0 ∨ f_X6_isVatCount x1 = some 1 ∧ f_X5_allFillOne M = some 0) (hf : f_X6_row N x1 M = some o) : V (wD Z a) Z G 0 0 [some (.ref (a 0)), some (.int x1)] [] (c1, c2, M) := by
  have h10 : ¬ (1 : Int32) = 0 := by decide
  have hf : bd (f_X6_isVatCount x1) (fun r1 => if r1 = 0 then some ((-2 : Int32), M) else bd (f_X5_allFillOne M) (fun r11 => if r11 = 0 then some ((-2 : Int32), M) else none)) = some o := by
    unfold f_X6_row at hf
    rcases hx with hx | ⟨hx, h2⟩
    · rw [hx] at hf ⊢
      simpa [bd] using hf
    · rw [hx, h2] at hf
      rw [hx, h2]
      simpa [bd, h10] using hf
  have hcs : 0 ≤ 0 := Nat.le_refl 0
  refine V_iload1 C (pc := 0) dX6_row_0 ?_
  refine V_cS C (pc := 1) (dep2 := 0) (As := [.int x1]) (rest := []) (fun r0 h0 => c_X6_isVatCount h0) lb_X6_isVatCount lk_RX6_66 (by decide) hcs rfl rfl (Nat.le_of_ble_eq_true rfl) dX6_row_1 hf (fun r1 hf => ?_)
  refine V_if_eq C (pc := 4) (tgt := 28) dX6_row_4 (by decide) hf (fun hf => ?_) (fun hf => ?_)
  · refine V_bipush C (pc := 28) (v := (-2 : Int32)) (by decide) dX6_row_28 ?_
    exact V_iret C (pc := 30) rfl hcs dX6_row_30 (pqW hf)
  · refine V_aload0 C (pc := 7) dX6_row_7 ?_
    refine gf_RX6_19 C (pc := 8) dX6_row_8 ?_
    refine V_cR C (pc := 11) (dep2 := 0) (As := []) (rest := []) (fun r0 h0 => c_X5_allFillOne h0) lb_X5_allFillOne lk_RX6_220 wm_n (by decide) hcs 2 5 rfl rfl rfl rfl (Nat.le_of_ble_eq_true rfl) dX6_row_11 hf (fun r11 hf => ?_)
    refine V_if_eq C (pc := 14) (tgt := 28) dX6_row_14 (by decide) hf (fun hf => ?_) (fun hf => ?_)
    · refine V_bipush C (pc := 28) (v := (-2 : Int32)) (by decide) dX6_row_28 ?_
      exact V_iret C (pc := 30) rfl hcs dX6_row_30 (pqW hf)
    · cases hf
set_option maxRecDepth 100000 in
theorem c0_X6_row {Z : Zz} {a : Nat → Nat} {N : Nat} {c1 c2 : Nat} {M : Mm} {x1 : Int32} {r0 : Int32} {M0 : Mm} (hx : f_X6_isVatCount x1 = some 0 ∨ f_X6_isVatCount x1 = some 1 ∧ f_X5_allFillOne M = some 0) (hf : f_X6_row N x1 M = some (r0, M0)) : CtI (wD Z a) Z nE yX6_row cX6_row 2 (some .int) 6 0 [.ref (a 0), .int x1] (c1, c2, M) (PqW r0 M0) := CtI_of (by decide +kernel) (Or.inl rfl) (List.forall_mem_cons.mpr ⟨rfl, List.forall_mem_cons.mpr ⟨rfl, fun _ h9 => nomatch h9⟩⟩) (Nat.le_of_ble_eq_true rfl) (fun G C hm => t0_X6_row (o := (r0, M0)) C hm hx hf)
