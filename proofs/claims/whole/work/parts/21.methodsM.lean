/-! functions and walks, by program (wip/gen) -/
def f_X7_bath (x1 : Int32) (M : Mm) : Option (Int32 × Mm) := (if x1 < 0 then (some ((-2 : Int32), M)) else (if (4 : Int32) < x1 then (some ((-2 : Int32), M)) else (if (gI M 0) = (9 : Int32) then (some ((-2 : Int32), M)) else (if inb (gI M 0) 9 then (some (((gI (sI (sA M 1 (gI M 0) x1) 0 ((gI (sA M 1 (gI M 0) x1) 0) + (1 : Int32))) 0) - (1 : Int32)), (sI (sA M 1 (gI M 0) x1) 0 ((gI (sA M 1 (gI M 0) x1) 0) + (1 : Int32))))) else none))))
set_option maxRecDepth 100000 in
set_option maxHeartbeats 4000000 in
theorem t_X7_bath {Z : Zz} {G : Gm} {a : Nat → Nat} {o : (Int32 × Mm)} {c1 c2 : Nat} {M : Mm} {x1 : Int32} (C : CX (wM Z a) Z tE G cX7_bath RX7 0 (some .int) (PqW o.1 o.2) 0) (hm : (Gc G).maxLocals = 2) (hf : f_X7_bath x1 M = some o) : V (wM Z a) Z G 0 0 [some (.ref (a 0)), some (.int x1)] [] (c1, c2, M) := by
  unfold f_X7_bath at hf
  refine V_iload1 C (pc := 0) dX7_bath_0 ?_
  refine V_if_lt C (pc := 1) (tgt := 18) dX7_bath_1 (by decide) hf (fun hf => ?_) (fun hf => ?_)
  · refine V_bipush C (pc := 18) (v := (-2 : Int32)) (by decide) dX7_bath_18 ?_
    exact V_iret C (pc := 20) rfl (Nat.le_refl 0) dX7_bath_20 (pqW hf)
  · refine V_iload1 C (pc := 4) dX7_bath_4 ?_
    refine V_iconst C (pc := 5) (v := (4 : Int32)) (by decide) dX7_bath_5 ?_
    refine V_icmp_gt C (pc := 6) (tgt := 18) dX7_bath_6 (by decide) hf (fun hf => ?_) (fun hf => ?_)
    · refine V_bipush C (pc := 18) (v := (-2 : Int32)) (by decide) dX7_bath_18 ?_
      exact V_iret C (pc := 20) rfl (Nat.le_refl 0) dX7_bath_20 (pqW hf)
    · refine V_aload0 C (pc := 9) dX7_bath_9 ?_
      refine gf_RX7_73 C (pc := 10) dX7_bath_10 ?_
      refine V_bipush C (pc := 13) (v := (9 : Int32)) (by decide) dX7_bath_13 ?_
      refine V_icmp_ne C (pc := 15) (tgt := 21) dX7_bath_15 (by decide) hf (fun hf => ?_) (fun hf => ?_)
      · refine V_aload0 C (pc := 21) dX7_bath_21 ?_
        refine gf_RX7_9 C (pc := 22) dX7_bath_22 ?_
        refine V_aload0 C (pc := 25) dX7_bath_25 ?_
        refine gf_RX7_73 C (pc := 26) dX7_bath_26 ?_
        refine V_iload1 C (pc := 29) dX7_bath_29 ?_
        refine asM_1 C (pc := 30) dX7_bath_30 hf (fun hf => ?_)
        refine V_aload0 C (pc := 31) dX7_bath_31 ?_
        refine V_dupr C (pc := 32) dX7_bath_32 ?_
        refine gf_RX7_73 C (pc := 33) dX7_bath_33 ?_
        refine V_iconst C (pc := 36) (v := (1 : Int32)) (by decide) dX7_bath_36 ?_
        refine V_iadd C (pc := 37) dX7_bath_37 ?_
        refine pf_RX7_73 C (pc := 38) dX7_bath_38 ?_
        refine V_aload0 C (pc := 41) dX7_bath_41 ?_
        refine gf_RX7_73 C (pc := 42) dX7_bath_42 ?_
        refine V_iconst C (pc := 45) (v := (1 : Int32)) (by decide) dX7_bath_45 ?_
        refine V_isub C (pc := 46) dX7_bath_46 ?_
        exact V_iret C (pc := 47) rfl (Nat.le_refl 0) dX7_bath_47 (pqW hf)
      · refine V_bipush C (pc := 18) (v := (-2 : Int32)) (by decide) dX7_bath_18 ?_
        exact V_iret C (pc := 20) rfl (Nat.le_refl 0) dX7_bath_20 (pqW hf)
set_option maxRecDepth 100000 in
theorem c_X7_bath {Z : Zz} {a : Nat → Nat} {c1 c2 : Nat} {M : Mm} {x1 : Int32} {r0 : Int32} {M0 : Mm} (hf : f_X7_bath x1 M = some (r0, M0)) : CtI (wM Z a) Z tE yX7_bath cX7_bath 2 (some .int) 0 0 [.ref (a 0), .int x1] (c1, c2, M) (PqW r0 M0) := CtI_of (by decide +kernel) (Or.inl rfl) (List.forall_mem_cons.mpr ⟨rfl, List.forall_mem_cons.mpr ⟨rfl, fun _ h9 => nomatch h9⟩⟩) (Nat.le_of_ble_eq_true rfl) (fun G C hm => t_X7_bath (o := (r0, M0)) C hm hf)
def f_X7_has (x0 : Int32) (x1 : Int32) : Option Int32 := (if ((x0 >>> (x1 &&& 31)) &&& (1 : Int32)) = (1 : Int32) then (some (1 : Int32)) else (some (0 : Int32)))
set_option maxRecDepth 100000 in
set_option maxHeartbeats 4000000 in
theorem t_X7_has {Z : Zz} {G : Gm} {ws : va_W} {o : Int32} {x0 x1 : Int32} (C : CX (fun _ : Unit => ws) Z tE G cX7_has RX7 0 (some .boolean) (PqR o ()) 0) (hm : (Gc G).maxLocals = 2) (hf : f_X7_has x0 x1 = some o) : V (fun _ : Unit => ws) Z G 0 0 [some (.int x0), some (.int x1)] [] () := by
  unfold f_X7_has at hf
  refine V_iload0 C (pc := 0) dX7_has_0 ?_
  refine V_iload1 C (pc := 1) dX7_has_1 ?_
  refine V_ishr C (pc := 2) dX7_has_2 ?_
  refine V_iconst C (pc := 3) (v := (1 : Int32)) (by decide) dX7_has_3 ?_
  refine V_iand C (pc := 4) dX7_has_4 ?_
  refine V_iconst C (pc := 5) (v := (1 : Int32)) (by decide) dX7_has_5 ?_
  refine V_icmp_ne C (pc := 6) (tgt := 13) dX7_has_6 (by decide) hf (fun hf => ?_) (fun hf => ?_)
  · refine V_iconst C (pc := 13) (v := (0 : Int32)) (by decide) dX7_has_13 ?_
    exact V_zret C (pc := 14) rfl (Nat.le_refl 0) (by decide) dX7_has_14 ⟨hf, rfl⟩
  · refine V_iconst C (pc := 9) (v := (1 : Int32)) (by decide) dX7_has_9 ?_
    refine V_goto C (pc := 10) (tgt := 14) dX7_has_10 (by decide) ?_
    exact V_zret C (pc := 14) rfl (Nat.le_refl 0) (by decide) dX7_has_14 ⟨hf, rfl⟩
set_option maxRecDepth 100000 in
theorem c_X7_has {Z : Zz} {ws : va_W} {x0 x1 : Int32} {r0 : Int32} (hf : f_X7_has x0 x1 = some r0) : CtI (fun _ : Unit => ws) Z tE yX7_has cX7_has 2 (some .boolean) 0 0 [.int x0, .int x1] () (PqR r0 ()) := CtI_of (by decide +kernel) (Or.inr rfl) (List.forall_mem_cons.mpr ⟨rfl, List.forall_mem_cons.mpr ⟨rfl, fun _ h9 => nomatch h9⟩⟩) (Nat.le_of_ble_eq_true rfl) (fun G C hm => t_X7_has (o := r0) C hm hf)
def f_X7_used_24 (N : Nat) (M : Mm) : Nat → Int32 → Int32 → Option Int32
  | 0, _, _ => none
  | n + 1, x1, x2 => (if inb x1 9 then (if (gA M 3 x1) ≤ x2 then (some (-1 : Int32)) else (if inb (((4 : Int32) * x1) + x2) 36 then (if (gA M 4 (((4 : Int32) * x1) + x2)) < 0 then ((f_X7_used_24 N M n) x1 (x2 + (1 : Int32))) else (if inb (((4 : Int32) * x1) + x2) 36 then (some (gA M 4 (((4 : Int32) * x1) + x2))) else none)) else none)) else none)
set_option maxRecDepth 100000 in
set_option maxHeartbeats 4000000 in
theorem t_X7_used_24 {Z : Zz} {G : Gm} {a : Nat → Nat} {N : Nat} {o : Int32} {c1 c2 : Nat} {M : Mm} (C : CX (wM Z a) Z tE G cX7_used RX7 0 (some .int) (PqR o (c1, c2, M)) 0) (hm : (Gc G).maxLocals = 3) : ∀ (n : Nat) (x1 x2 : Int32) , f_X7_used_24 N M n x1 x2 = some o → V (wM Z a) Z G 0 24 [some (.ref (a 0)), some (.int x1), some (.int x2)] [] (c1, c2, M) := by
  intro n
  induction n with
  | zero => intro x1 x2 hf; rw [f_X7_used_24] at hf; cases hf
  | succ n ih =>
    intro x1 x2 hf
    rw [f_X7_used_24] at hf
    refine V_iload2 C (pc := 24) dX7_used_24 ?_
    refine V_aload0 C (pc := 25) dX7_used_25 ?_
    refine gf_RX7_16 C (pc := 26) dX7_used_26 ?_
    refine V_iload1 C (pc := 29) dX7_used_29 ?_
    refine alM_3 C (pc := 30) dX7_used_30 hf (fun hf => ?_)
    refine V_icmp_ge C (pc := 31) (tgt := 64) dX7_used_31 (by decide) hf (fun hf => ?_) (fun hf => ?_)
    · refine V_iconst C (pc := 64) (v := (-1 : Int32)) (by decide) dX7_used_64 ?_
      exact V_iret C (pc := 65) rfl (Nat.le_refl 0) dX7_used_65 ⟨hf, rfl⟩
    · refine V_aload0 C (pc := 34) dX7_used_34 ?_
      refine gf_RX7_19 C (pc := 35) dX7_used_35 ?_
      refine V_iconst C (pc := 38) (v := (4 : Int32)) (by decide) dX7_used_38 ?_
      refine V_iload1 C (pc := 39) dX7_used_39 ?_
      refine V_imul C (pc := 40) dX7_used_40 ?_
      refine V_iload2 C (pc := 41) dX7_used_41 ?_
      refine V_iadd C (pc := 42) dX7_used_42 ?_
      refine alM_4 C (pc := 43) dX7_used_43 hf (fun hf => ?_)
      refine V_if_lt C (pc := 44) (tgt := 58) dX7_used_44 (by decide) hf (fun hf => ?_) (fun hf => ?_)
      · refine V_iinc2 C (pc := 58) (c1 := (1 : Int32)) dX7_used_58 (by decide) (by rw [hm]; decide) ?_
        refine V_goto C (pc := 61) (tgt := 24) dX7_used_61 (by decide) ?_
        exact V.mono [true, true, true] rfl (ih _ _ hf)
      · refine V_aload0 C (pc := 47) dX7_used_47 ?_
        refine gf_RX7_19 C (pc := 48) dX7_used_48 ?_
        refine V_iconst C (pc := 51) (v := (4 : Int32)) (by decide) dX7_used_51 ?_
        refine V_iload1 C (pc := 52) dX7_used_52 ?_
        refine V_imul C (pc := 53) dX7_used_53 ?_
        refine V_iload2 C (pc := 54) dX7_used_54 ?_
        refine V_iadd C (pc := 55) dX7_used_55 ?_
        refine alM_4 C (pc := 56) dX7_used_56 hf (fun hf => ?_)
        exact V_iret C (pc := 57) rfl (Nat.le_refl 0) dX7_used_57 ⟨hf, rfl⟩
def f_X7_used (N : Nat) (M : Mm) (x1 : Int32) : Option Int32 := (if inb x1 9 then (if (gA M 1 x1) = (1 : Int32) then (f_X7_used_24 N M N x1 (0 : Int32)) else (if inb x1 9 then (if (gA M 1 x1) = (3 : Int32) then (f_X7_used_24 N M N x1 (0 : Int32)) else (some (-1 : Int32))) else none)) else none)
set_option maxRecDepth 100000 in
set_option maxHeartbeats 4000000 in
theorem t_X7_used {Z : Zz} {G : Gm} {a : Nat → Nat} {N : Nat} {o : Int32} {c1 c2 : Nat} {M : Mm} {x1 : Int32} (C : CX (wM Z a) Z tE G cX7_used RX7 0 (some .int) (PqR o (c1, c2, M)) 0) (hm : (Gc G).maxLocals = 3) (hf : f_X7_used N M x1 = some o) : V (wM Z a) Z G 0 0 [some (.ref (a 0)), some (.int x1), none] [] (c1, c2, M) := by
  unfold f_X7_used at hf
  refine V_aload0 C (pc := 0) dX7_used_0 ?_
  refine gf_RX7_9 C (pc := 1) dX7_used_1 ?_
  refine V_iload1 C (pc := 4) dX7_used_4 ?_
  refine alM_1 C (pc := 5) dX7_used_5 hf (fun hf => ?_)
  refine V_iconst C (pc := 6) (v := (1 : Int32)) (by decide) dX7_used_6 ?_
  refine V_icmp_eq C (pc := 7) (tgt := 22) dX7_used_7 (by decide) hf (fun hf => ?_) (fun hf => ?_)
  · refine V_iconst C (pc := 22) (v := (0 : Int32)) (by decide) dX7_used_22 ?_
    refine V_istore2 C (pc := 23) dX7_used_23 (by rw [hm]; decide) ?_
    exact V.mono [true, true, true] rfl (t_X7_used_24 C hm N _ _ hf)
  · refine V_aload0 C (pc := 10) dX7_used_10 ?_
    refine gf_RX7_9 C (pc := 11) dX7_used_11 ?_
    refine V_iload1 C (pc := 14) dX7_used_14 ?_
    refine alM_1 C (pc := 15) dX7_used_15 hf (fun hf => ?_)
    refine V_iconst C (pc := 16) (v := (3 : Int32)) (by decide) dX7_used_16 ?_
    refine V_icmp_eq C (pc := 17) (tgt := 22) dX7_used_17 (by decide) hf (fun hf => ?_) (fun hf => ?_)
    · refine V_iconst C (pc := 22) (v := (0 : Int32)) (by decide) dX7_used_22 ?_
      refine V_istore2 C (pc := 23) dX7_used_23 (by rw [hm]; decide) ?_
      exact V.mono [true, true, true] rfl (t_X7_used_24 C hm N _ _ hf)
    · refine V_iconst C (pc := 20) (v := (-1 : Int32)) (by decide) dX7_used_20 ?_
      exact V_iret C (pc := 21) rfl (Nat.le_refl 0) dX7_used_21 ⟨hf, rfl⟩
set_option maxRecDepth 100000 in
theorem c_X7_used {Z : Zz} {a : Nat → Nat} {N : Nat} {c1 c2 : Nat} {M : Mm} {x1 : Int32} {r0 : Int32} (hf : f_X7_used N M x1 = some r0) : CtI (wM Z a) Z tE yX7_used cX7_used 3 (some .int) 0 0 [.ref (a 0), .int x1] (c1, c2, M) (PqR r0 (c1, c2, M)) := CtI_of (by decide +kernel) (Or.inl rfl) (List.forall_mem_cons.mpr ⟨rfl, List.forall_mem_cons.mpr ⟨rfl, fun _ h9 => nomatch h9⟩⟩) (Nat.le_of_ble_eq_true rfl) (fun G C hm => t_X7_used (o := r0) C hm hf)
def f_X7_fills (M : Mm) (x1 : Int32) (x2 : Int32) (x3 : Int32) : Option Int32 := (bd (f_X7_has x1 x3) (fun r2 => (if r2 = 0 then (some (0 : Int32)) else (if inb x3 9 then (if (gA M 1 x3) = (2 : Int32) then (some (2 : Int32)) else (if x2 = (x3 + (1 : Int32)) then (some (2 : Int32)) else (some (1 : Int32)))) else none))))
set_option maxRecDepth 100000 in
set_option maxHeartbeats 4000000 in
theorem t_X7_fills {Z : Zz} {G : Gm} {a : Nat → Nat} {o : Int32} {c1 c2 : Nat} {M : Mm} {x1 x2 x3 : Int32} (C : CX (wM Z a) Z tE G cX7_fills RX7 1 (some .int) (PqR o (c1, c2, M)) 0) (hm : (Gc G).maxLocals = 4) (hf : f_X7_fills M x1 x2 x3 = some o) : V (wM Z a) Z G 0 0 [some (.ref (a 0)), some (.int x1), some (.int x2), some (.int x3)] [] (c1, c2, M) := by
  unfold f_X7_fills at hf
  refine V_iload1 C (pc := 0) dX7_fills_0 ?_
  refine V_iload3 C (pc := 1) dX7_fills_1 ?_
  refine V_cS C (pc := 2) (dep2 := 0) (As := [.int x1, .int x3]) (rest := []) (fun r0 h0 => c_X7_has h0) lb_X7_has lk_RX7_76 (by decide) (Nat.le_refl 0) rfl rfl (Nat.le_of_ble_eq_true rfl) dX7_fills_2 hf (fun r2 hf => ?_)
  refine V_if_ne C (pc := 5) (tgt := 12) dX7_fills_5 (by decide) hf (fun hf => ?_) (fun hf => ?_)
  · refine V_aload0 C (pc := 12) dX7_fills_12 ?_
    refine gf_RX7_9 C (pc := 13) dX7_fills_13 ?_
    refine V_iload3 C (pc := 16) dX7_fills_16 ?_
    refine alM_1 C (pc := 17) dX7_fills_17 hf (fun hf => ?_)
    refine V_iconst C (pc := 18) (v := (2 : Int32)) (by decide) dX7_fills_18 ?_
    refine V_icmp_eq C (pc := 19) (tgt := 29) dX7_fills_19 (by decide) hf (fun hf => ?_) (fun hf => ?_)
    · refine V_iconst C (pc := 29) (v := (2 : Int32)) (by decide) dX7_fills_29 ?_
      refine V_goto C (pc := 30) (tgt := 34) dX7_fills_30 (by decide) ?_
      exact V_iret C (pc := 34) rfl (Nat.le_refl 0) dX7_fills_34 ⟨hf, rfl⟩
    · refine V_iload2 C (pc := 22) dX7_fills_22 ?_
      refine V_iload3 C (pc := 23) dX7_fills_23 ?_
      refine V_iconst C (pc := 24) (v := (1 : Int32)) (by decide) dX7_fills_24 ?_
      refine V_iadd C (pc := 25) dX7_fills_25 ?_
      refine V_icmp_ne C (pc := 26) (tgt := 33) dX7_fills_26 (by decide) hf (fun hf => ?_) (fun hf => ?_)
      · refine V_iconst C (pc := 33) (v := (1 : Int32)) (by decide) dX7_fills_33 ?_
        exact V_iret C (pc := 34) rfl (Nat.le_refl 0) dX7_fills_34 ⟨hf, rfl⟩
      · refine V_iconst C (pc := 29) (v := (2 : Int32)) (by decide) dX7_fills_29 ?_
        refine V_goto C (pc := 30) (tgt := 34) dX7_fills_30 (by decide) ?_
        exact V_iret C (pc := 34) rfl (Nat.le_refl 0) dX7_fills_34 ⟨hf, rfl⟩
  · refine V_iconst C (pc := 8) (v := (0 : Int32)) (by decide) dX7_fills_8 ?_
    refine V_goto C (pc := 9) (tgt := 34) dX7_fills_9 (by decide) ?_
    exact V_iret C (pc := 34) rfl (Nat.le_refl 0) dX7_fills_34 ⟨hf, rfl⟩
set_option maxRecDepth 100000 in
theorem c_X7_fills {Z : Zz} {a : Nat → Nat} {c1 c2 : Nat} {M : Mm} {x1 x2 x3 : Int32} {r0 : Int32} (hf : f_X7_fills M x1 x2 x3 = some r0) : CtI (wM Z a) Z tE yX7_fills cX7_fills 4 (some .int) 1 0 [.ref (a 0), .int x1, .int x2, .int x3] (c1, c2, M) (PqR r0 (c1, c2, M)) := CtI_of (by decide +kernel) (Or.inl rfl) (List.forall_mem_cons.mpr ⟨rfl, List.forall_mem_cons.mpr ⟨rfl, List.forall_mem_cons.mpr ⟨rfl, List.forall_mem_cons.mpr ⟨rfl, fun _ h9 => nomatch h9⟩⟩⟩⟩) (Nat.le_of_ble_eq_true rfl) (fun G C hm => t_X7_fills (o := r0) C hm hf)
def f_X7_filled_5 (N : Nat) (M : Mm) : Nat → Int32 → Int32 → Int32 → Int32 → Option Int32
  | 0, _, _, _, _ => none
  | n + 1, x1, x2, x3, x4 => (if (9 : Int32) ≤ x4 then (some x3) else (bd (f_X7_fills M x1 x2 x4) (fun r18 => ((f_X7_filled_5 N M n) x1 x2 (x3 + r18) (x4 + (1 : Int32))))))
set_option maxRecDepth 100000 in
set_option maxHeartbeats 4000000 in
theorem t_X7_filled_5 {Z : Zz} {G : Gm} {a : Nat → Nat} {N : Nat} {o : Int32} {c1 c2 : Nat} {M : Mm} (C : CX (wM Z a) Z tE G cX7_filled RX7 2 (some .int) (PqR o (c1, c2, M)) 0) (hm : (Gc G).maxLocals = 5) : ∀ (n : Nat) (x1 x2 x3 x4 : Int32) , f_X7_filled_5 N M n x1 x2 x3 x4 = some o → V (wM Z a) Z G 0 5 [some (.ref (a 0)), some (.int x1), some (.int x2), some (.int x3), some (.int x4)] [] (c1, c2, M) := by
  intro n
  induction n with
  | zero => intro x1 x2 x3 x4 hf; rw [f_X7_filled_5] at hf; cases hf
  | succ n ih =>
    intro x1 x2 x3 x4 hf
    rw [f_X7_filled_5] at hf
    refine V_iload4 C (pc := 5) dX7_filled_5 ?_
    refine V_bipush C (pc := 7) (v := (9 : Int32)) (by decide) dX7_filled_7 ?_
    refine V_icmp_ge C (pc := 9) (tgt := 29) dX7_filled_9 (by decide) hf (fun hf => ?_) (fun hf => ?_)
    · refine V_iload3 C (pc := 29) dX7_filled_29 ?_
      exact V_iret C (pc := 30) rfl (Nat.le_refl 0) dX7_filled_30 ⟨hf, rfl⟩
    · refine V_iload3 C (pc := 12) dX7_filled_12 ?_
      refine V_aload0 C (pc := 13) dX7_filled_13 ?_
      refine V_iload1 C (pc := 14) dX7_filled_14 ?_
      refine V_iload2 C (pc := 15) dX7_filled_15 ?_
      refine V_iload4 C (pc := 16) dX7_filled_16 ?_
      refine V_cR C (pc := 18) (dep2 := 1) (As := [.int x1, .int x2, .int x4]) (rest := [.int x3]) (fun r0 h0 => c_X7_fills h0) lb_X7_fills lk_RX7_80 wm_t (by decide) (Nat.le_refl 0) 0 7 rfl rfl rfl rfl (Nat.le_of_ble_eq_true rfl) dX7_filled_18 hf (fun r18 hf => ?_)
      refine V_iadd C (pc := 21) dX7_filled_21 ?_
      refine V_istore3 C (pc := 22) dX7_filled_22 (by rw [hm]; decide) ?_
      refine V_iinc4 C (pc := 23) (c1 := (1 : Int32)) dX7_filled_23 (by decide) (by rw [hm]; decide) ?_
      refine V_goto C (pc := 26) (tgt := 5) dX7_filled_26 (by decide) ?_
      exact V.mono [true, true, true, true, true] rfl (ih _ _ _ _ hf)
def f_X7_filled (N : Nat) (M : Mm) (x1 : Int32) (x2 : Int32) : Option Int32 := (f_X7_filled_5 N M N x1 x2 (0 : Int32) (0 : Int32))
set_option maxRecDepth 100000 in
set_option maxHeartbeats 4000000 in
theorem t_X7_filled {Z : Zz} {G : Gm} {a : Nat → Nat} {N : Nat} {o : Int32} {c1 c2 : Nat} {M : Mm} {x1 x2 : Int32} (C : CX (wM Z a) Z tE G cX7_filled RX7 2 (some .int) (PqR o (c1, c2, M)) 0) (hm : (Gc G).maxLocals = 5) (hf : f_X7_filled N M x1 x2 = some o) : V (wM Z a) Z G 0 0 [some (.ref (a 0)), some (.int x1), some (.int x2), none, none] [] (c1, c2, M) := by
  unfold f_X7_filled at hf
  refine V_iconst C (pc := 0) (v := (0 : Int32)) (by decide) dX7_filled_0 ?_
  refine V_istore3 C (pc := 1) dX7_filled_1 (by rw [hm]; decide) ?_
  refine V_iconst C (pc := 2) (v := (0 : Int32)) (by decide) dX7_filled_2 ?_
  refine V_istore4 C (pc := 3) dX7_filled_3 (by rw [hm]; decide) ?_
  exact V.mono [true, true, true, true, true] rfl (t_X7_filled_5 C hm N _ _ _ _ hf)
set_option maxRecDepth 100000 in
theorem c_X7_filled {Z : Zz} {a : Nat → Nat} {N : Nat} {c1 c2 : Nat} {M : Mm} {x1 x2 : Int32} {r0 : Int32} (hf : f_X7_filled N M x1 x2 = some r0) : CtI (wM Z a) Z tE yX7_filled cX7_filled 5 (some .int) 2 0 [.ref (a 0), .int x1, .int x2] (c1, c2, M) (PqR r0 (c1, c2, M)) := CtI_of (by decide +kernel) (Or.inl rfl) (List.forall_mem_cons.mpr ⟨rfl, List.forall_mem_cons.mpr ⟨rfl, List.forall_mem_cons.mpr ⟨rfl, fun _ h9 => nomatch h9⟩⟩⟩) (Nat.le_of_ble_eq_true rfl) (fun G C hm => t_X7_filled (o := r0) C hm hf)
def f_X7_reason_190 (N : Nat) (M : Mm) (t0 : Int32) (t1 : Int32) : Option Int32 := (if t1 ≤ t0 then (some (0 : Int32)) else (some (5 : Int32)))
set_option maxRecDepth 100000 in
set_option maxHeartbeats 4000000 in
theorem t_X7_reason_190 {Z : Zz} {G : Gm} {a : Nat → Nat} {N : Nat} {o : Int32} {c1 c2 : Nat} {M : Mm} {t0 t1 : Int32} (C : CX (wM Z a) Z tE G cX7_reason RX7 3 (some .int) (PqR o (c1, c2, M)) 0) (hm : (Gc G).maxLocals = 7) (hf : f_X7_reason_190 N M t0 t1 = some o) : V (wM Z a) Z G 0 190 [none, none, none, none, none, none, none] [.int t1, .int t0] (c1, c2, M) := by
  unfold f_X7_reason_190 at hf
  refine V_icmp_ge C (pc := 190) (tgt := 197) dX7_reason_190 (by decide) hf (fun hf => ?_) (fun hf => ?_)
  · refine V_iconst C (pc := 197) (v := (0 : Int32)) (by decide) dX7_reason_197 ?_
    exact V_iret C (pc := 198) rfl (Nat.le_refl 0) dX7_reason_198 ⟨hf, rfl⟩
  · refine V_iconst C (pc := 193) (v := (5 : Int32)) (by decide) dX7_reason_193 ?_
    refine V_goto C (pc := 194) (tgt := 198) dX7_reason_194 (by decide) ?_
    exact V_iret C (pc := 198) rfl (Nat.le_refl 0) dX7_reason_198 ⟨hf, rfl⟩
def f_X7_reason_185 (N : Nat) (M : Mm) (t0 : Int32) : Option Int32 := (f_X7_reason_190 N M t0 (2 : Int32))
set_option maxRecDepth 100000 in
set_option maxHeartbeats 4000000 in
theorem t_X7_reason_185 {Z : Zz} {G : Gm} {a : Nat → Nat} {N : Nat} {o : Int32} {c1 c2 : Nat} {M : Mm} {t0 : Int32} (C : CX (wM Z a) Z tE G cX7_reason RX7 3 (some .int) (PqR o (c1, c2, M)) 0) (hm : (Gc G).maxLocals = 7) (hf : f_X7_reason_185 N M t0 = some o) : V (wM Z a) Z G 0 185 [none, none, none, none, none, none, none] [.int t0] (c1, c2, M) := by
  unfold f_X7_reason_185 at hf
  refine V_iconst C (pc := 185) (v := (2 : Int32)) (by decide) dX7_reason_185 ?_
  refine V_goto C (pc := 186) (tgt := 190) dX7_reason_186 (by decide) ?_
  exact V.mono [false, false, false, false, false, false, false] rfl (t_X7_reason_190 C hm hf)
def f_X7_reason_160 (N : Nat) (M : Mm) (x3 : Int32) (t0 : Int32) (t1 : Int32) : Option Int32 := (if inb x3 9 then (if (gA M 1 x3) = (2 : Int32) then (f_X7_reason_185 N M (t0 + t1)) else (if inb x3 9 then (if (gA M 1 x3) = (4 : Int32) then (f_X7_reason_185 N M (t0 + t1)) else (f_X7_reason_190 N M (t0 + t1) (1 : Int32))) else none)) else none)
set_option maxRecDepth 100000 in
set_option maxHeartbeats 4000000 in
theorem t_X7_reason_160 {Z : Zz} {G : Gm} {a : Nat → Nat} {N : Nat} {o : Int32} {c1 c2 : Nat} {M : Mm} {x3 t0 t1 : Int32} (C : CX (wM Z a) Z tE G cX7_reason RX7 3 (some .int) (PqR o (c1, c2, M)) 0) (hm : (Gc G).maxLocals = 7) (hf : f_X7_reason_160 N M x3 t0 t1 = some o) : V (wM Z a) Z G 0 160 [some (.ref (a 0)), none, none, some (.int x3), none, none, none] [.int t1, .int t0] (c1, c2, M) := by
  unfold f_X7_reason_160 at hf
  refine V_iadd C (pc := 160) dX7_reason_160 ?_
  refine V_istore6 C (pc := 161) dX7_reason_161 (by rw [hm]; decide) ?_
  refine V_iload6 C (pc := 163) dX7_reason_163 ?_
  refine V_aload0 C (pc := 165) dX7_reason_165 ?_
  refine gf_RX7_9 C (pc := 166) dX7_reason_166 ?_
  refine V_iload3 C (pc := 169) dX7_reason_169 ?_
  refine alM_1 C (pc := 170) dX7_reason_170 hf (fun hf => ?_)
  refine V_iconst C (pc := 171) (v := (2 : Int32)) (by decide) dX7_reason_171 ?_
  refine V_icmp_eq C (pc := 172) (tgt := 185) dX7_reason_172 (by decide) hf (fun hf => ?_) (fun hf => ?_)
  · exact V.mono [false, false, false, false, false, false, false] rfl (t_X7_reason_185 C hm hf)
  · refine V_aload0 C (pc := 175) dX7_reason_175 ?_
    refine gf_RX7_9 C (pc := 176) dX7_reason_176 ?_
    refine V_iload3 C (pc := 179) dX7_reason_179 ?_
    refine alM_1 C (pc := 180) dX7_reason_180 hf (fun hf => ?_)
    refine V_iconst C (pc := 181) (v := (4 : Int32)) (by decide) dX7_reason_181 ?_
    refine V_icmp_ne C (pc := 182) (tgt := 189) dX7_reason_182 (by decide) hf (fun hf => ?_) (fun hf => ?_)
    · refine V_iconst C (pc := 189) (v := (1 : Int32)) (by decide) dX7_reason_189 ?_
      exact V.mono [false, false, false, false, false, false, false] rfl (t_X7_reason_190 C hm hf)
    · exact V.mono [false, false, false, false, false, false, false] rfl (t_X7_reason_185 C hm hf)
def f_X7_reason_80 (N : Nat) (M : Mm) : Nat → Int32 → Int32 → Int32 → Int32 → Int32 → Int32 → Option Int32
  | 0, _, _, _, _, _, _ => none
  | n + 1, x1, x2, x3, x4, x5, x6 => (if (gI M 0) ≤ x6 then (bd (f_X7_filled N M x1 x2) (fun r139 => (if 0 ≤ x5 then (bd (f_X7_fills M x1 x2 x5) (fun r157 => (f_X7_reason_160 N M x3 (x4 - r139) r157))) else (f_X7_reason_160 N M x3 (x4 - r139) (0 : Int32))))) else (if inb x3 9 then (if (gA M 1 x3) = (3 : Int32) then (if inb x6 9 then (if (gA M 1 x6) = (3 : Int32) then (bd (f_X7_has x1 x6) (fun r113 => (if r113 = 0 then ((f_X7_reason_80 N M n) x1 x2 x3 x4 x5 (x6 + (1 : Int32))) else (if x6 = x5 then ((f_X7_reason_80 N M n) x1 x2 x3 x4 x5 (x6 + (1 : Int32))) else (some (4 : Int32)))))) else ((f_X7_reason_80 N M n) x1 x2 x3 x4 x5 (x6 + (1 : Int32)))) else none) else ((f_X7_reason_80 N M n) x1 x2 x3 x4 x5 (x6 + (1 : Int32)))) else none))
set_option maxRecDepth 100000 in
set_option maxHeartbeats 4000000 in
theorem t_X7_reason_80 {Z : Zz} {G : Gm} {a : Nat → Nat} {N : Nat} {o : Int32} {c1 c2 : Nat} {M : Mm} (C : CX (wM Z a) Z tE G cX7_reason RX7 3 (some .int) (PqR o (c1, c2, M)) 0) (hm : (Gc G).maxLocals = 7) : ∀ (n : Nat) (x1 x2 x3 x4 x5 x6 : Int32) , f_X7_reason_80 N M n x1 x2 x3 x4 x5 x6 = some o → V (wM Z a) Z G 0 80 [some (.ref (a 0)), some (.int x1), some (.int x2), some (.int x3), some (.int x4), some (.int x5), some (.int x6)] [] (c1, c2, M) := by
  intro n
  induction n with
  | zero => intro x1 x2 x3 x4 x5 x6 hf; rw [f_X7_reason_80] at hf; cases hf
  | succ n ih =>
    intro x1 x2 x3 x4 x5 x6 hf
    rw [f_X7_reason_80] at hf
    refine V_iload6 C (pc := 80) dX7_reason_80 ?_
    refine V_aload0 C (pc := 82) dX7_reason_82 ?_
    refine gf_RX7_73 C (pc := 83) dX7_reason_83 ?_
    refine V_icmp_ge C (pc := 86) (tgt := 134) dX7_reason_86 (by decide) hf (fun hf => ?_) (fun hf => ?_)
    · refine V_iload4 C (pc := 134) dX7_reason_134 ?_
      refine V_aload0 C (pc := 136) dX7_reason_136 ?_
      refine V_iload1 C (pc := 137) dX7_reason_137 ?_
      refine V_iload2 C (pc := 138) dX7_reason_138 ?_
      refine V_cR C (pc := 139) (dep2 := 2) (As := [.int x1, .int x2]) (rest := [.int x4]) (fun r0 h0 => c_X7_filled h0) lb_X7_filled lk_RX7_88 wm_t (by decide) (Nat.le_refl 0) 0 7 rfl rfl rfl rfl (Nat.le_of_ble_eq_true rfl) dX7_reason_139 hf (fun r139 hf => ?_)
      refine V_isub C (pc := 142) dX7_reason_142 ?_
      refine V_iload5 C (pc := 143) dX7_reason_143 ?_
      refine V_if_ge C (pc := 145) (tgt := 152) dX7_reason_145 (by decide) hf (fun hf => ?_) (fun hf => ?_)
      · refine V_aload0 C (pc := 152) dX7_reason_152 ?_
        refine V_iload1 C (pc := 153) dX7_reason_153 ?_
        refine V_iload2 C (pc := 154) dX7_reason_154 ?_
        refine V_iload5 C (pc := 155) dX7_reason_155 ?_
        refine V_cR C (pc := 157) (dep2 := 1) (As := [.int x1, .int x2, .int x5]) (rest := [.int (x4 - r139)]) (fun r0 h0 => c_X7_fills h0) lb_X7_fills lk_RX7_80 wm_t (by decide) (Nat.le_refl 0) 0 7 rfl rfl rfl rfl (Nat.le_of_ble_eq_true rfl) dX7_reason_157 hf (fun r157 hf => ?_)
        exact V.mono [true, false, false, true, false, false, false] rfl (t_X7_reason_160 C hm hf)
      · refine V_iconst C (pc := 148) (v := (0 : Int32)) (by decide) dX7_reason_148 ?_
        refine V_goto C (pc := 149) (tgt := 160) dX7_reason_149 (by decide) ?_
        exact V.mono [true, false, false, true, false, false, false] rfl (t_X7_reason_160 C hm hf)
    · refine V_aload0 C (pc := 89) dX7_reason_89 ?_
      refine gf_RX7_9 C (pc := 90) dX7_reason_90 ?_
      refine V_iload3 C (pc := 93) dX7_reason_93 ?_
      refine alM_1 C (pc := 94) dX7_reason_94 hf (fun hf => ?_)
      refine V_iconst C (pc := 95) (v := (3 : Int32)) (by decide) dX7_reason_95 ?_
      refine V_icmp_ne C (pc := 96) (tgt := 128) dX7_reason_96 (by decide) hf (fun hf => ?_) (fun hf => ?_)
      · refine V_iinc6 C (pc := 128) (c1 := (1 : Int32)) dX7_reason_128 (by decide) (by rw [hm]; decide) ?_
        refine V_goto C (pc := 131) (tgt := 80) dX7_reason_131 (by decide) ?_
        exact V.mono [true, true, true, true, true, true, true] rfl (ih _ _ _ _ _ _ hf)
      · refine V_aload0 C (pc := 99) dX7_reason_99 ?_
        refine gf_RX7_9 C (pc := 100) dX7_reason_100 ?_
        refine V_iload6 C (pc := 103) dX7_reason_103 ?_
        refine alM_1 C (pc := 105) dX7_reason_105 hf (fun hf => ?_)
        refine V_iconst C (pc := 106) (v := (3 : Int32)) (by decide) dX7_reason_106 ?_
        refine V_icmp_ne C (pc := 107) (tgt := 128) dX7_reason_107 (by decide) hf (fun hf => ?_) (fun hf => ?_)
        · refine V_iinc6 C (pc := 128) (c1 := (1 : Int32)) dX7_reason_128 (by decide) (by rw [hm]; decide) ?_
          refine V_goto C (pc := 131) (tgt := 80) dX7_reason_131 (by decide) ?_
          exact V.mono [true, true, true, true, true, true, true] rfl (ih _ _ _ _ _ _ hf)
        · refine V_iload1 C (pc := 110) dX7_reason_110 ?_
          refine V_iload6 C (pc := 111) dX7_reason_111 ?_
          refine V_cS C (pc := 113) (dep2 := 0) (As := [.int x1, .int x6]) (rest := []) (fun r0 h0 => c_X7_has h0) lb_X7_has lk_RX7_76 (by decide) (Nat.le_refl 0) rfl rfl (Nat.le_of_ble_eq_true rfl) dX7_reason_113 hf (fun r113 hf => ?_)
          refine V_if_eq C (pc := 116) (tgt := 128) dX7_reason_116 (by decide) hf (fun hf => ?_) (fun hf => ?_)
          · refine V_iinc6 C (pc := 128) (c1 := (1 : Int32)) dX7_reason_128 (by decide) (by rw [hm]; decide) ?_
            refine V_goto C (pc := 131) (tgt := 80) dX7_reason_131 (by decide) ?_
            exact V.mono [true, true, true, true, true, true, true] rfl (ih _ _ _ _ _ _ hf)
          · refine V_iload6 C (pc := 119) dX7_reason_119 ?_
            refine V_iload5 C (pc := 121) dX7_reason_121 ?_
            refine V_icmp_eq C (pc := 123) (tgt := 128) dX7_reason_123 (by decide) hf (fun hf => ?_) (fun hf => ?_)
            · refine V_iinc6 C (pc := 128) (c1 := (1 : Int32)) dX7_reason_128 (by decide) (by rw [hm]; decide) ?_
              refine V_goto C (pc := 131) (tgt := 80) dX7_reason_131 (by decide) ?_
              exact V.mono [true, true, true, true, true, true, true] rfl (ih _ _ _ _ _ _ hf)
            · refine V_iconst C (pc := 126) (v := (4 : Int32)) (by decide) dX7_reason_126 ?_
              exact V_iret C (pc := 127) rfl (Nat.le_refl 0) dX7_reason_127 ⟨hf, rfl⟩
def f_X7_reason_24 (N : Nat) (M : Mm) : Nat → Int32 → Int32 → Int32 → Int32 → Int32 → Option Int32
  | 0, _, _, _, _, _ => none
  | n + 1, x1, x2, x3, x4, x5 => (if inb x3 9 then (if (gA M 3 x3) ≤ x5 then (bd (f_X7_used N M x3) (fun r72 => (f_X7_reason_80 N M N x1 x2 x3 x4 r72 (0 : Int32)))) else (if inb (((4 : Int32) * x3) + x5) 36 then (if (gA M 4 (((4 : Int32) * x3) + x5)) < 0 then ((f_X7_reason_24 N M n) x1 x2 x3 x4 (x5 + (1 : Int32))) else (bd (f_X7_has x1 (gA M 4 (((4 : Int32) * x3) + x5))) (fun r56 => (if r56 = 0 then (some (3 : Int32)) else ((f_X7_reason_24 N M n) x1 x2 x3 x4 (x5 + (1 : Int32))))))) else none)) else none)
set_option maxRecDepth 100000 in
set_option maxHeartbeats 4000000 in
theorem t_X7_reason_24 {Z : Zz} {G : Gm} {a : Nat → Nat} {N : Nat} {o : Int32} {c1 c2 : Nat} {M : Mm} (C : CX (wM Z a) Z tE G cX7_reason RX7 3 (some .int) (PqR o (c1, c2, M)) 0) (hm : (Gc G).maxLocals = 7) : ∀ (n : Nat) (x1 x2 x3 x4 x5 : Int32) , f_X7_reason_24 N M n x1 x2 x3 x4 x5 = some o → V (wM Z a) Z G 0 24 [some (.ref (a 0)), some (.int x1), some (.int x2), some (.int x3), some (.int x4), some (.int x5), none] [] (c1, c2, M) := by
  intro n
  induction n with
  | zero => intro x1 x2 x3 x4 x5 hf; rw [f_X7_reason_24] at hf; cases hf
  | succ n ih =>
    intro x1 x2 x3 x4 x5 hf
    rw [f_X7_reason_24] at hf
    refine V_iload5 C (pc := 24) dX7_reason_24 ?_
    refine V_aload0 C (pc := 26) dX7_reason_26 ?_
    refine gf_RX7_16 C (pc := 27) dX7_reason_27 ?_
    refine V_iload3 C (pc := 30) dX7_reason_30 ?_
    refine alM_3 C (pc := 31) dX7_reason_31 hf (fun hf => ?_)
    refine V_icmp_ge C (pc := 32) (tgt := 70) dX7_reason_32 (by decide) hf (fun hf => ?_) (fun hf => ?_)
    · refine V_aload0 C (pc := 70) dX7_reason_70 ?_
      refine V_iload3 C (pc := 71) dX7_reason_71 ?_
      refine V_cR C (pc := 72) (dep2 := 0) (As := [.int x3]) (rest := []) (fun r0 h0 => c_X7_used h0) lb_X7_used lk_RX7_84 wm_t (by decide) (Nat.le_refl 0) 0 7 rfl rfl rfl rfl (Nat.le_of_ble_eq_true rfl) dX7_reason_72 hf (fun r72 hf => ?_)
      refine V_istore5 C (pc := 75) dX7_reason_75 (by rw [hm]; decide) ?_
      refine V_iconst C (pc := 77) (v := (0 : Int32)) (by decide) dX7_reason_77 ?_
      refine V_istore6 C (pc := 78) dX7_reason_78 (by rw [hm]; decide) ?_
      exact V.mono [true, true, true, true, true, true, true] rfl (t_X7_reason_80 C hm N _ _ _ _ _ _ hf)
    · refine V_aload0 C (pc := 35) dX7_reason_35 ?_
      refine gf_RX7_19 C (pc := 36) dX7_reason_36 ?_
      refine V_iconst C (pc := 39) (v := (4 : Int32)) (by decide) dX7_reason_39 ?_
      refine V_iload3 C (pc := 40) dX7_reason_40 ?_
      refine V_imul C (pc := 41) dX7_reason_41 ?_
      refine V_iload5 C (pc := 42) dX7_reason_42 ?_
      refine V_iadd C (pc := 44) dX7_reason_44 ?_
      refine alM_4 C (pc := 45) dX7_reason_45 hf (fun hf => ?_)
      refine V_istore6 C (pc := 46) dX7_reason_46 (by rw [hm]; decide) ?_
      refine V_iload6 C (pc := 48) dX7_reason_48 ?_
      refine V_if_lt C (pc := 50) (tgt := 64) dX7_reason_50 (by decide) hf (fun hf => ?_) (fun hf => ?_)
      · refine V_iinc5 C (pc := 64) (c1 := (1 : Int32)) dX7_reason_64 (by decide) (by rw [hm]; decide) ?_
        refine V_goto C (pc := 67) (tgt := 24) dX7_reason_67 (by decide) ?_
        exact V.mono [true, true, true, true, true, true, false] rfl (ih _ _ _ _ _ hf)
      · refine V_iload1 C (pc := 53) dX7_reason_53 ?_
        refine V_iload6 C (pc := 54) dX7_reason_54 ?_
        refine V_cS C (pc := 56) (dep2 := 0) (As := [.int x1, .int (gA M 4 (((4 : Int32) * x3) + x5))]) (rest := []) (fun r0 h0 => c_X7_has h0) lb_X7_has lk_RX7_76 (by decide) (Nat.le_refl 0) rfl rfl (Nat.le_of_ble_eq_true rfl) dX7_reason_56 hf (fun r56 hf => ?_)
        refine V_if_ne C (pc := 59) (tgt := 64) dX7_reason_59 (by decide) hf (fun hf => ?_) (fun hf => ?_)
        · refine V_iinc5 C (pc := 64) (c1 := (1 : Int32)) dX7_reason_64 (by decide) (by rw [hm]; decide) ?_
          refine V_goto C (pc := 67) (tgt := 24) dX7_reason_67 (by decide) ?_
          exact V.mono [true, true, true, true, true, true, false] rfl (ih _ _ _ _ _ hf)
        · refine V_iconst C (pc := 62) (v := (3 : Int32)) (by decide) dX7_reason_62 ?_
          exact V_iret C (pc := 63) rfl (Nat.le_refl 0) dX7_reason_63 ⟨hf, rfl⟩
def f_X7_reason (N : Nat) (M : Mm) (x1 : Int32) (x2 : Int32) (x3 : Int32) (x4 : Int32) : Option Int32 := (if inb x3 9 then (if 0 ≤ (gA M 3 x3) then (bd (f_X7_has x1 x3) (fun r13 => (if r13 = 0 then (f_X7_reason_24 N M N x1 x2 x3 x4 (0 : Int32)) else (some (2 : Int32))))) else (some (1 : Int32))) else none)
set_option maxRecDepth 100000 in
set_option maxHeartbeats 4000000 in
theorem t_X7_reason {Z : Zz} {G : Gm} {a : Nat → Nat} {N : Nat} {o : Int32} {c1 c2 : Nat} {M : Mm} {x1 x2 x3 x4 : Int32} (C : CX (wM Z a) Z tE G cX7_reason RX7 3 (some .int) (PqR o (c1, c2, M)) 0) (hm : (Gc G).maxLocals = 7) (hf : f_X7_reason N M x1 x2 x3 x4 = some o) : V (wM Z a) Z G 0 0 [some (.ref (a 0)), some (.int x1), some (.int x2), some (.int x3), some (.int x4), none, none] [] (c1, c2, M) := by
  unfold f_X7_reason at hf
  refine V_aload0 C (pc := 0) dX7_reason_0 ?_
  refine gf_RX7_16 C (pc := 1) dX7_reason_1 ?_
  refine V_iload3 C (pc := 4) dX7_reason_4 ?_
  refine alM_3 C (pc := 5) dX7_reason_5 hf (fun hf => ?_)
  refine V_if_ge C (pc := 6) (tgt := 11) dX7_reason_6 (by decide) hf (fun hf => ?_) (fun hf => ?_)
  · refine V_iload1 C (pc := 11) dX7_reason_11 ?_
    refine V_iload3 C (pc := 12) dX7_reason_12 ?_
    refine V_cS C (pc := 13) (dep2 := 0) (As := [.int x1, .int x3]) (rest := []) (fun r0 h0 => c_X7_has h0) lb_X7_has lk_RX7_76 (by decide) (Nat.le_refl 0) rfl rfl (Nat.le_of_ble_eq_true rfl) dX7_reason_13 hf (fun r13 hf => ?_)
    refine V_if_eq C (pc := 16) (tgt := 21) dX7_reason_16 (by decide) hf (fun hf => ?_) (fun hf => ?_)
    · refine V_iconst C (pc := 21) (v := (0 : Int32)) (by decide) dX7_reason_21 ?_
      refine V_istore5 C (pc := 22) dX7_reason_22 (by rw [hm]; decide) ?_
      exact V.mono [true, true, true, true, true, true, false] rfl (t_X7_reason_24 C hm N _ _ _ _ _ hf)
    · refine V_iconst C (pc := 19) (v := (2 : Int32)) (by decide) dX7_reason_19 ?_
      exact V_iret C (pc := 20) rfl (Nat.le_refl 0) dX7_reason_20 ⟨hf, rfl⟩
  · refine V_iconst C (pc := 9) (v := (1 : Int32)) (by decide) dX7_reason_9 ?_
    exact V_iret C (pc := 10) rfl (Nat.le_refl 0) dX7_reason_10 ⟨hf, rfl⟩
set_option maxRecDepth 100000 in
theorem c_X7_reason {Z : Zz} {a : Nat → Nat} {N : Nat} {c1 c2 : Nat} {M : Mm} {x1 x2 x3 x4 : Int32} {r0 : Int32} (hf : f_X7_reason N M x1 x2 x3 x4 = some r0) : CtI (wM Z a) Z tE yX7_reason cX7_reason 7 (some .int) 3 0 [.ref (a 0), .int x1, .int x2, .int x3, .int x4] (c1, c2, M) (PqR r0 (c1, c2, M)) := CtI_of (by decide +kernel) (Or.inl rfl) (List.forall_mem_cons.mpr ⟨rfl, List.forall_mem_cons.mpr ⟨rfl, List.forall_mem_cons.mpr ⟨rfl, List.forall_mem_cons.mpr ⟨rfl, List.forall_mem_cons.mpr ⟨rfl, fun _ h9 => nomatch h9⟩⟩⟩⟩⟩) (Nat.le_of_ble_eq_true rfl) (fun G C hm => t_X7_reason (o := r0) C hm hf)
def f_X7_standsBehind (N : Nat) (M : Mm) (x1 : Int32) (x2 : Int32) : Option Int32 := (bd (f_X7_used N M x2) (fun r2 => (if 0 ≤ r2 then (some ((x1 &&& (((1 : Int32) <<< (r2 &&& 31)) ^^^ (-1 : Int32))) ||| ((1 : Int32) <<< (x2 &&& 31)))) else (some (x1 ||| ((1 : Int32) <<< (x2 &&& 31)))))))
set_option maxRecDepth 100000 in
set_option maxHeartbeats 4000000 in
theorem t_X7_standsBehind {Z : Zz} {G : Gm} {a : Nat → Nat} {N : Nat} {o : Int32} {c1 c2 : Nat} {M : Mm} {x1 x2 : Int32} (C : CX (wM Z a) Z tE G cX7_standsBehind RX7 1 (some .int) (PqR o (c1, c2, M)) 0) (hm : (Gc G).maxLocals = 4) (hf : f_X7_standsBehind N M x1 x2 = some o) : V (wM Z a) Z G 0 0 [some (.ref (a 0)), some (.int x1), some (.int x2), none] [] (c1, c2, M) := by
  unfold f_X7_standsBehind at hf
  refine V_aload0 C (pc := 0) dX7_standsBehind_0 ?_
  refine V_iload2 C (pc := 1) dX7_standsBehind_1 ?_
  refine V_cR C (pc := 2) (dep2 := 0) (As := [.int x2]) (rest := []) (fun r0 h0 => c_X7_used h0) lb_X7_used lk_RX7_84 wm_t (by decide) (Nat.le_refl 0) 0 7 rfl rfl rfl rfl (Nat.le_of_ble_eq_true rfl) dX7_standsBehind_2 hf (fun r2 hf => ?_)
  refine V_istore3 C (pc := 5) dX7_standsBehind_5 (by rw [hm]; decide) ?_
  refine V_iload3 C (pc := 6) dX7_standsBehind_6 ?_
  refine V_if_ge C (pc := 7) (tgt := 14) dX7_standsBehind_7 (by decide) hf (fun hf => ?_) (fun hf => ?_)
  · refine V_iload1 C (pc := 14) dX7_standsBehind_14 ?_
    refine V_iconst C (pc := 15) (v := (1 : Int32)) (by decide) dX7_standsBehind_15 ?_
    refine V_iload3 C (pc := 16) dX7_standsBehind_16 ?_
    refine V_ishl C (pc := 17) dX7_standsBehind_17 ?_
    refine V_iconst C (pc := 18) (v := (-1 : Int32)) (by decide) dX7_standsBehind_18 ?_
    refine V_ixor C (pc := 19) dX7_standsBehind_19 ?_
    refine V_iand C (pc := 20) dX7_standsBehind_20 ?_
    refine V_iconst C (pc := 21) (v := (1 : Int32)) (by decide) dX7_standsBehind_21 ?_
    refine V_iload2 C (pc := 22) dX7_standsBehind_22 ?_
    refine V_ishl C (pc := 23) dX7_standsBehind_23 ?_
    refine V_ior C (pc := 24) dX7_standsBehind_24 ?_
    exact V_iret C (pc := 25) rfl (Nat.le_refl 0) dX7_standsBehind_25 ⟨hf, rfl⟩
  · refine V_iload1 C (pc := 10) dX7_standsBehind_10 ?_
    refine V_goto C (pc := 11) (tgt := 21) dX7_standsBehind_11 (by decide) ?_
    refine V_iconst C (pc := 21) (v := (1 : Int32)) (by decide) dX7_standsBehind_21 ?_
    refine V_iload2 C (pc := 22) dX7_standsBehind_22 ?_
    refine V_ishl C (pc := 23) dX7_standsBehind_23 ?_
    refine V_ior C (pc := 24) dX7_standsBehind_24 ?_
    exact V_iret C (pc := 25) rfl (Nat.le_refl 0) dX7_standsBehind_25 ⟨hf, rfl⟩
set_option maxRecDepth 100000 in
theorem c_X7_standsBehind {Z : Zz} {a : Nat → Nat} {N : Nat} {c1 c2 : Nat} {M : Mm} {x1 x2 : Int32} {r0 : Int32} (hf : f_X7_standsBehind N M x1 x2 = some r0) : CtI (wM Z a) Z tE yX7_standsBehind cX7_standsBehind 4 (some .int) 1 0 [.ref (a 0), .int x1, .int x2] (c1, c2, M) (PqR r0 (c1, c2, M)) := CtI_of (by decide +kernel) (Or.inl rfl) (List.forall_mem_cons.mpr ⟨rfl, List.forall_mem_cons.mpr ⟨rfl, List.forall_mem_cons.mpr ⟨rfl, fun _ h9 => nomatch h9⟩⟩⟩) (Nat.le_of_ble_eq_true rfl) (fun G C hm => t_X7_standsBehind (o := r0) C hm hf)
def f_X7_freshBehind (M : Mm) (x1 : Int32) : Option Int32 := (if inb x1 9 then (if (gA M 1 x1) = (4 : Int32) then (some (x1 + (1 : Int32))) else (some (0 : Int32))) else none)
set_option maxRecDepth 100000 in
set_option maxHeartbeats 4000000 in
theorem t_X7_freshBehind {Z : Zz} {G : Gm} {a : Nat → Nat} {o : Int32} {c1 c2 : Nat} {M : Mm} {x1 : Int32} (C : CX (wM Z a) Z tE G cX7_freshBehind RX7 0 (some .int) (PqR o (c1, c2, M)) 0) (hm : (Gc G).maxLocals = 2) (hf : f_X7_freshBehind M x1 = some o) : V (wM Z a) Z G 0 0 [some (.ref (a 0)), some (.int x1)] [] (c1, c2, M) := by
  unfold f_X7_freshBehind at hf
  refine V_aload0 C (pc := 0) dX7_freshBehind_0 ?_
  refine gf_RX7_9 C (pc := 1) dX7_freshBehind_1 ?_
  refine V_iload1 C (pc := 4) dX7_freshBehind_4 ?_
  refine alM_1 C (pc := 5) dX7_freshBehind_5 hf (fun hf => ?_)
  refine V_iconst C (pc := 6) (v := (4 : Int32)) (by decide) dX7_freshBehind_6 ?_
  refine V_icmp_ne C (pc := 7) (tgt := 16) dX7_freshBehind_7 (by decide) hf (fun hf => ?_) (fun hf => ?_)
  · refine V_iconst C (pc := 16) (v := (0 : Int32)) (by decide) dX7_freshBehind_16 ?_
    exact V_iret C (pc := 17) rfl (Nat.le_refl 0) dX7_freshBehind_17 ⟨hf, rfl⟩
  · refine V_iload1 C (pc := 10) dX7_freshBehind_10 ?_
    refine V_iconst C (pc := 11) (v := (1 : Int32)) (by decide) dX7_freshBehind_11 ?_
    refine V_iadd C (pc := 12) dX7_freshBehind_12 ?_
    refine V_goto C (pc := 13) (tgt := 17) dX7_freshBehind_13 (by decide) ?_
    exact V_iret C (pc := 17) rfl (Nat.le_refl 0) dX7_freshBehind_17 ⟨hf, rfl⟩
set_option maxRecDepth 100000 in
theorem c_X7_freshBehind {Z : Zz} {a : Nat → Nat} {c1 c2 : Nat} {M : Mm} {x1 : Int32} {r0 : Int32} (hf : f_X7_freshBehind M x1 = some r0) : CtI (wM Z a) Z tE yX7_freshBehind cX7_freshBehind 2 (some .int) 0 0 [.ref (a 0), .int x1] (c1, c2, M) (PqR r0 (c1, c2, M)) := CtI_of (by decide +kernel) (Or.inl rfl) (List.forall_mem_cons.mpr ⟨rfl, List.forall_mem_cons.mpr ⟨rfl, fun _ h9 => nomatch h9⟩⟩) (Nat.le_of_ble_eq_true rfl) (fun G C hm => t_X7_freshBehind (o := r0) C hm hf)
def f_X7_freshPoured (x0 : Int32) (x1 : Int32) : Option Int32 := (if x0 = (x1 + (1 : Int32)) then (some (0 : Int32)) else (some x0))
set_option maxRecDepth 100000 in
set_option maxHeartbeats 4000000 in
theorem t_X7_freshPoured {Z : Zz} {G : Gm} {ws : va_W} {o : Int32} {x0 x1 : Int32} (C : CX (fun _ : Unit => ws) Z tE G cX7_freshPoured RX7 0 (some .int) (PqR o ()) 0) (hm : (Gc G).maxLocals = 2) (hf : f_X7_freshPoured x0 x1 = some o) : V (fun _ : Unit => ws) Z G 0 0 [some (.int x0), some (.int x1)] [] () := by
  unfold f_X7_freshPoured at hf
  refine V_iload0 C (pc := 0) dX7_freshPoured_0 ?_
  refine V_iload1 C (pc := 1) dX7_freshPoured_1 ?_
  refine V_iconst C (pc := 2) (v := (1 : Int32)) (by decide) dX7_freshPoured_2 ?_
  refine V_iadd C (pc := 3) dX7_freshPoured_3 ?_
  refine V_icmp_ne C (pc := 4) (tgt := 11) dX7_freshPoured_4 (by decide) hf (fun hf => ?_) (fun hf => ?_)
  · refine V_iload0 C (pc := 11) dX7_freshPoured_11 ?_
    exact V_iret C (pc := 12) rfl (Nat.le_refl 0) dX7_freshPoured_12 ⟨hf, rfl⟩
  · refine V_iconst C (pc := 7) (v := (0 : Int32)) (by decide) dX7_freshPoured_7 ?_
    refine V_goto C (pc := 8) (tgt := 12) dX7_freshPoured_8 (by decide) ?_
    exact V_iret C (pc := 12) rfl (Nat.le_refl 0) dX7_freshPoured_12 ⟨hf, rfl⟩
set_option maxRecDepth 100000 in
theorem c_X7_freshPoured {Z : Zz} {ws : va_W} {x0 x1 : Int32} {r0 : Int32} (hf : f_X7_freshPoured x0 x1 = some r0) : CtI (fun _ : Unit => ws) Z tE yX7_freshPoured cX7_freshPoured 2 (some .int) 0 0 [.int x0, .int x1] () (PqR r0 ()) := CtI_of (by decide +kernel) (Or.inl rfl) (List.forall_mem_cons.mpr ⟨rfl, List.forall_mem_cons.mpr ⟨rfl, fun _ h9 => nomatch h9⟩⟩) (Nat.le_of_ble_eq_true rfl) (fun G C hm => t_X7_freshPoured (o := r0) C hm hf)
def f_X7_stood_5 (N : Nat) (M : Mm) : Nat → Int32 → Int32 → Int32 → Option Int32
  | 0, _, _, _ => none
  | n + 1, x2, x3, x4 => (if (gI M 4) ≤ x4 then (some x3) else (if (gI M 5) = 0 then (if inb x4 3 then (bd (f_X7_has x2 (gA M 6 x4)) (fun r30 => (if r30 = 0 then ((f_X7_stood_5 N M n) x2 (x3 ||| (0 : Int32)) (x4 + (1 : Int32))) else ((f_X7_stood_5 N M n) x2 (x3 ||| ((1 : Int32) <<< (x4 &&& 31))) (x4 + (1 : Int32)))))) else none) else (some x3)))
set_option maxRecDepth 100000 in
set_option maxHeartbeats 4000000 in
theorem t_X7_stood_5 {Z : Zz} {G : Gm} {a : Nat → Nat} {N : Nat} {o : Int32} {c1 c2 : Nat} {M : Mm} (C : CX (wM Z a) Z tE G cX7_stood RX7 1 (some .int) (PqR o (c1, c2, M)) 0) (hm : (Gc G).maxLocals = 5) : ∀ (n : Nat) (x2 x3 x4 : Int32) , f_X7_stood_5 N M n x2 x3 x4 = some o → V (wM Z a) Z G 0 5 [some (.ref (a 0)), none, some (.int x2), some (.int x3), some (.int x4)] [] (c1, c2, M) := by
  intro n
  induction n with
  | zero => intro x2 x3 x4 hf; rw [f_X7_stood_5] at hf; cases hf
  | succ n ih =>
    intro x2 x3 x4 hf
    rw [f_X7_stood_5] at hf
    refine V_iload4 C (pc := 5) dX7_stood_5 ?_
    refine V_aload0 C (pc := 7) dX7_stood_7 ?_
    refine gf_RX7_119 C (pc := 8) dX7_stood_8 ?_
    refine V_icmp_ge C (pc := 11) (tgt := 52) dX7_stood_11 (by decide) hf (fun hf => ?_) (fun hf => ?_)
    · refine V_iload3 C (pc := 52) dX7_stood_52 ?_
      exact V_iret C (pc := 53) rfl (Nat.le_refl 0) dX7_stood_53 ⟨hf, rfl⟩
    · refine V_aload0 C (pc := 14) dX7_stood_14 ?_
      refine gf_RX7_122 C (pc := 15) dX7_stood_15 ?_
      refine V_if_ne C (pc := 18) (tgt := 52) dX7_stood_18 (by decide) hf (fun hf => ?_) (fun hf => ?_)
      · refine V_iload3 C (pc := 52) dX7_stood_52 ?_
        exact V_iret C (pc := 53) rfl (Nat.le_refl 0) dX7_stood_53 ⟨hf, rfl⟩
      · refine V_iload3 C (pc := 21) dX7_stood_21 ?_
        refine V_iload2 C (pc := 22) dX7_stood_22 ?_
        refine V_aload0 C (pc := 23) dX7_stood_23 ?_
        refine gf_RX7_29 C (pc := 24) dX7_stood_24 ?_
        refine V_iload4 C (pc := 27) dX7_stood_27 ?_
        refine alM_6 C (pc := 29) dX7_stood_29 hf (fun hf => ?_)
        refine V_cS C (pc := 30) (dep2 := 0) (As := [.int x2, .int (gA M 6 x4)]) (rest := [.int x3]) (fun r0 h0 => c_X7_has h0) lb_X7_has lk_RX7_76 (by decide) (Nat.le_refl 0) rfl rfl (Nat.le_of_ble_eq_true rfl) dX7_stood_30 hf (fun r30 hf => ?_)
        refine V_if_eq C (pc := 33) (tgt := 43) dX7_stood_33 (by decide) hf (fun hf => ?_) (fun hf => ?_)
        · refine V_iconst C (pc := 43) (v := (0 : Int32)) (by decide) dX7_stood_43 ?_
          refine V_ior C (pc := 44) dX7_stood_44 ?_
          refine V_istore3 C (pc := 45) dX7_stood_45 (by rw [hm]; decide) ?_
          refine V_iinc4 C (pc := 46) (c1 := (1 : Int32)) dX7_stood_46 (by decide) (by rw [hm]; decide) ?_
          refine V_goto C (pc := 49) (tgt := 5) dX7_stood_49 (by decide) ?_
          exact V.mono [true, false, true, true, true] rfl (ih _ _ _ hf)
        · refine V_iconst C (pc := 36) (v := (1 : Int32)) (by decide) dX7_stood_36 ?_
          refine V_iload4 C (pc := 37) dX7_stood_37 ?_
          refine V_ishl C (pc := 39) dX7_stood_39 ?_
          refine V_goto C (pc := 40) (tgt := 44) dX7_stood_40 (by decide) ?_
          refine V_ior C (pc := 44) dX7_stood_44 ?_
          refine V_istore3 C (pc := 45) dX7_stood_45 (by rw [hm]; decide) ?_
          refine V_iinc4 C (pc := 46) (c1 := (1 : Int32)) dX7_stood_46 (by decide) (by rw [hm]; decide) ?_
          refine V_goto C (pc := 49) (tgt := 5) dX7_stood_49 (by decide) ?_
          exact V.mono [true, false, true, true, true] rfl (ih _ _ _ hf)
def f_X7_stood (N : Nat) (M : Mm) (x1 : Int32) (x2 : Int32) : Option Int32 := (f_X7_stood_5 N M N x2 x1 (0 : Int32))
set_option maxRecDepth 100000 in
set_option maxHeartbeats 4000000 in
theorem t_X7_stood {Z : Zz} {G : Gm} {a : Nat → Nat} {N : Nat} {o : Int32} {c1 c2 : Nat} {M : Mm} {x1 x2 : Int32} (C : CX (wM Z a) Z tE G cX7_stood RX7 1 (some .int) (PqR o (c1, c2, M)) 0) (hm : (Gc G).maxLocals = 5) (hf : f_X7_stood N M x1 x2 = some o) : V (wM Z a) Z G 0 0 [some (.ref (a 0)), some (.int x1), some (.int x2), none, none] [] (c1, c2, M) := by
  unfold f_X7_stood at hf
  refine V_iload1 C (pc := 0) dX7_stood_0 ?_
  refine V_istore3 C (pc := 1) dX7_stood_1 (by rw [hm]; decide) ?_
  refine V_iconst C (pc := 2) (v := (0 : Int32)) (by decide) dX7_stood_2 ?_
  refine V_istore4 C (pc := 3) dX7_stood_3 (by rw [hm]; decide) ?_
  exact V.mono [true, false, true, true, true] rfl (t_X7_stood_5 C hm N _ _ _ hf)
set_option maxRecDepth 100000 in
theorem c_X7_stood {Z : Zz} {a : Nat → Nat} {N : Nat} {c1 c2 : Nat} {M : Mm} {x1 x2 : Int32} {r0 : Int32} (hf : f_X7_stood N M x1 x2 = some r0) : CtI (wM Z a) Z tE yX7_stood cX7_stood 5 (some .int) 1 0 [.ref (a 0), .int x1, .int x2] (c1, c2, M) (PqR r0 (c1, c2, M)) := CtI_of (by decide +kernel) (Or.inl rfl) (List.forall_mem_cons.mpr ⟨rfl, List.forall_mem_cons.mpr ⟨rfl, List.forall_mem_cons.mpr ⟨rfl, fun _ h9 => nomatch h9⟩⟩⟩) (Nat.le_of_ble_eq_true rfl) (fun G C hm => t_X7_stood (o := r0) C hm hf)
def f_X7_behind_124 (N : Nat) (M : Mm) (x6 : Int32) (x8 : Int32) (x9 : Int32) : Option Int32 := (bd (f_X7_stood N M x6 x8) (fun r141 => (some ((x8 + ((512 : Int32) * x9)) + ((5120 : Int32) * r141)))))
set_option maxRecDepth 100000 in
set_option maxHeartbeats 4000000 in
theorem t_X7_behind_124 {Z : Zz} {G : Gm} {a : Nat → Nat} {N : Nat} {o : Int32} {c1 c2 : Nat} {M : Mm} {x6 x8 x9 : Int32} (C : CX (wM Z a) Z tE G cX7_behind RX7 4 (some .int) (PqR o (c1, c2, M)) 0) (hm : (Gc G).maxLocals = 10) (hf : f_X7_behind_124 N M x6 x8 x9 = some o) : V (wM Z a) Z G 0 124 [some (.ref (a 0)), none, none, none, none, none, some (.int x6), none, some (.int x8), some (.int x9)] [] (c1, c2, M) := by
  unfold f_X7_behind_124 at hf
  refine V_iload8 C (pc := 124) dX7_behind_124 ?_
  refine V_sipush C (pc := 126) (v := (512 : Int32)) (by decide) dX7_behind_126 ?_
  refine V_iload9 C (pc := 129) dX7_behind_129 ?_
  refine V_imul C (pc := 131) dX7_behind_131 ?_
  refine V_iadd C (pc := 132) dX7_behind_132 ?_
  refine V_sipush C (pc := 133) (v := (5120 : Int32)) (by decide) dX7_behind_133 ?_
  refine V_aload0 C (pc := 136) dX7_behind_136 ?_
  refine V_iload6 C (pc := 137) dX7_behind_137 ?_
  refine V_iload8 C (pc := 139) dX7_behind_139 ?_
  refine V_cR C (pc := 141) (dep2 := 1) (As := [.int x6, .int x8]) (rest := [.int (5120 : Int32), .int (x8 + ((512 : Int32) * x9))]) (fun r0 h0 => c_X7_stood h0) lb_X7_stood lk_RX7_152 wm_t (by decide) (Nat.le_refl 0) 0 7 rfl rfl rfl rfl (Nat.le_of_ble_eq_true rfl) dX7_behind_141 hf (fun r141 hf => ?_)
  refine V_imul C (pc := 144) dX7_behind_144 ?_
  refine V_iadd C (pc := 145) dX7_behind_145 ?_
  exact V_iret C (pc := 146) rfl (Nat.le_refl 0) dX7_behind_146 ⟨hf, rfl⟩
def f_X7_behind (N : Nat) (M : Mm) (x1 : Int32) (x2 : Int32) (x3 : Int32) : Option Int32 := (if (x2 - x2 / (9 : Int32) * (9 : Int32)) < (gI M 0) then (if (9 : Int32) ≤ x2 then (bd (f_X7_has (x1 - x1 / (512 : Int32) * (512 : Int32)) (x2 - x2 / (9 : Int32) * (9 : Int32))) (fun r96 => (if r96 = 0 then (some (-1 : Int32)) else (bd (f_X7_freshPoured ((x1 / (512 : Int32)) - (x1 / (512 : Int32)) / (10 : Int32) * (10 : Int32)) (x2 - x2 / (9 : Int32) * (9 : Int32))) (fun r119 => (f_X7_behind_124 N M (x1 / (5120 : Int32)) ((x1 - x1 / (512 : Int32) * (512 : Int32)) &&& (((1 : Int32) <<< ((x2 - x2 / (9 : Int32) * (9 : Int32)) &&& 31)) ^^^ (-1 : Int32))) r119)))))) else (bd (f_X7_reason N M (x1 - x1 / (512 : Int32) * (512 : Int32)) ((x1 / (512 : Int32)) - (x1 / (512 : Int32)) / (10 : Int32) * (10 : Int32)) (x2 - x2 / (9 : Int32) * (9 : Int32)) x3) (fun r63 => (if r63 = 0 then (bd (f_X7_standsBehind N M (x1 - x1 / (512 : Int32) * (512 : Int32)) (x2 - x2 / (9 : Int32) * (9 : Int32))) (fun r76 => (bd (f_X7_freshBehind M (x2 - x2 / (9 : Int32) * (9 : Int32))) (fun r84 => (f_X7_behind_124 N M (x1 / (5120 : Int32)) r76 r84))))) else (some (-1 : Int32)))))) else (some (-1 : Int32)))
set_option maxRecDepth 100000 in
set_option maxHeartbeats 4000000 in
theorem t_X7_behind {Z : Zz} {G : Gm} {a : Nat → Nat} {N : Nat} {o : Int32} {c1 c2 : Nat} {M : Mm} {x1 x2 x3 : Int32} (C : CX (wM Z a) Z tE G cX7_behind RX7 4 (some .int) (PqR o (c1, c2, M)) 0) (hm : (Gc G).maxLocals = 10) (hf : f_X7_behind N M x1 x2 x3 = some o) : V (wM Z a) Z G 0 0 [some (.ref (a 0)), some (.int x1), some (.int x2), some (.int x3), none, none, none, none, none, none] [] (c1, c2, M) := by
  unfold f_X7_behind at hf
  refine V_iload1 C (pc := 0) dX7_behind_0 ?_
  refine V_sipush C (pc := 1) (v := (512 : Int32)) (by decide) dX7_behind_1 ?_
  refine V_irem C (pc := 4) (by decide) dX7_behind_4 ?_
  refine V_istore4 C (pc := 5) dX7_behind_5 (by rw [hm]; decide) ?_
  refine V_iload1 C (pc := 7) dX7_behind_7 ?_
  refine V_sipush C (pc := 8) (v := (512 : Int32)) (by decide) dX7_behind_8 ?_
  refine V_idiv C (pc := 11) (by decide) dX7_behind_11 ?_
  refine V_bipush C (pc := 12) (v := (10 : Int32)) (by decide) dX7_behind_12 ?_
  refine V_irem C (pc := 14) (by decide) dX7_behind_14 ?_
  refine V_istore5 C (pc := 15) dX7_behind_15 (by rw [hm]; decide) ?_
  refine V_iload1 C (pc := 17) dX7_behind_17 ?_
  refine V_sipush C (pc := 18) (v := (5120 : Int32)) (by decide) dX7_behind_18 ?_
  refine V_idiv C (pc := 21) (by decide) dX7_behind_21 ?_
  refine V_istore6 C (pc := 22) dX7_behind_22 (by rw [hm]; decide) ?_
  refine V_iload2 C (pc := 24) dX7_behind_24 ?_
  refine V_bipush C (pc := 25) (v := (9 : Int32)) (by decide) dX7_behind_25 ?_
  refine V_irem C (pc := 27) (by decide) dX7_behind_27 ?_
  refine V_istore7 C (pc := 28) dX7_behind_28 (by rw [hm]; decide) ?_
  refine V_iload7 C (pc := 30) dX7_behind_30 ?_
  refine V_aload0 C (pc := 32) dX7_behind_32 ?_
  refine gf_RX7_73 C (pc := 33) dX7_behind_33 ?_
  refine V_icmp_lt C (pc := 36) (tgt := 41) dX7_behind_36 (by decide) hf (fun hf => ?_) (fun hf => ?_)
  · refine V_iload4 C (pc := 41) dX7_behind_41 ?_
    refine V_istore8 C (pc := 43) dX7_behind_43 (by rw [hm]; decide) ?_
    refine V_iload5 C (pc := 45) dX7_behind_45 ?_
    refine V_istore9 C (pc := 47) dX7_behind_47 (by rw [hm]; decide) ?_
    refine V_iload2 C (pc := 49) dX7_behind_49 ?_
    refine V_bipush C (pc := 50) (v := (9 : Int32)) (by decide) dX7_behind_50 ?_
    refine V_icmp_ge C (pc := 52) (tgt := 92) dX7_behind_52 (by decide) hf (fun hf => ?_) (fun hf => ?_)
    · refine V_iload4 C (pc := 92) dX7_behind_92 ?_
      refine V_iload7 C (pc := 94) dX7_behind_94 ?_
      refine V_cS C (pc := 96) (dep2 := 0) (As := [.int (x1 - x1 / (512 : Int32) * (512 : Int32)), .int (x2 - x2 / (9 : Int32) * (9 : Int32))]) (rest := []) (fun r0 h0 => c_X7_has h0) lb_X7_has lk_RX7_76 (by decide) (Nat.le_refl 0) rfl rfl (Nat.le_of_ble_eq_true rfl) dX7_behind_96 hf (fun r96 hf => ?_)
      refine V_if_ne C (pc := 99) (tgt := 104) dX7_behind_99 (by decide) hf (fun hf => ?_) (fun hf => ?_)
      · refine V_iload4 C (pc := 104) dX7_behind_104 ?_
        refine V_iconst C (pc := 106) (v := (1 : Int32)) (by decide) dX7_behind_106 ?_
        refine V_iload7 C (pc := 107) dX7_behind_107 ?_
        refine V_ishl C (pc := 109) dX7_behind_109 ?_
        refine V_iconst C (pc := 110) (v := (-1 : Int32)) (by decide) dX7_behind_110 ?_
        refine V_ixor C (pc := 111) dX7_behind_111 ?_
        refine V_iand C (pc := 112) dX7_behind_112 ?_
        refine V_istore8 C (pc := 113) dX7_behind_113 (by rw [hm]; decide) ?_
        refine V_iload5 C (pc := 115) dX7_behind_115 ?_
        refine V_iload7 C (pc := 117) dX7_behind_117 ?_
        refine V_cS C (pc := 119) (dep2 := 0) (As := [.int ((x1 / (512 : Int32)) - (x1 / (512 : Int32)) / (10 : Int32) * (10 : Int32)), .int (x2 - x2 / (9 : Int32) * (9 : Int32))]) (rest := []) (fun r0 h0 => c_X7_freshPoured h0) lb_X7_freshPoured lk_RX7_143 (by decide) (Nat.le_refl 0) rfl rfl (Nat.le_of_ble_eq_true rfl) dX7_behind_119 hf (fun r119 hf => ?_)
        refine V_istore9 C (pc := 122) dX7_behind_122 (by rw [hm]; decide) ?_
        exact V.mono [true, false, false, false, false, false, true, false, true, true] rfl (t_X7_behind_124 C hm hf)
      · refine V_iconst C (pc := 102) (v := (-1 : Int32)) (by decide) dX7_behind_102 ?_
        exact V_iret C (pc := 103) rfl (Nat.le_refl 0) dX7_behind_103 ⟨hf, rfl⟩
    · refine V_aload0 C (pc := 55) dX7_behind_55 ?_
      refine V_iload4 C (pc := 56) dX7_behind_56 ?_
      refine V_iload5 C (pc := 58) dX7_behind_58 ?_
      refine V_iload7 C (pc := 60) dX7_behind_60 ?_
      refine V_iload3 C (pc := 62) dX7_behind_62 ?_
      refine V_cR C (pc := 63) (dep2 := 3) (As := [.int (x1 - x1 / (512 : Int32) * (512 : Int32)), .int ((x1 / (512 : Int32)) - (x1 / (512 : Int32)) / (10 : Int32) * (10 : Int32)), .int (x2 - x2 / (9 : Int32) * (9 : Int32)), .int x3]) (rest := []) (fun r0 h0 => c_X7_reason h0) lb_X7_reason lk_RX7_126 wm_t (by decide) (Nat.le_refl 0) 0 7 rfl rfl rfl rfl (Nat.le_of_ble_eq_true rfl) dX7_behind_63 hf (fun r63 hf => ?_)
      refine V_if_eq C (pc := 66) (tgt := 71) dX7_behind_66 (by decide) hf (fun hf => ?_) (fun hf => ?_)
      · refine V_aload0 C (pc := 71) dX7_behind_71 ?_
        refine V_iload4 C (pc := 72) dX7_behind_72 ?_
        refine V_iload7 C (pc := 74) dX7_behind_74 ?_
        refine V_cR C (pc := 76) (dep2 := 1) (As := [.int (x1 - x1 / (512 : Int32) * (512 : Int32)), .int (x2 - x2 / (9 : Int32) * (9 : Int32))]) (rest := []) (fun r0 h0 => c_X7_standsBehind h0) lb_X7_standsBehind lk_RX7_133 wm_t (by decide) (Nat.le_refl 0) 0 7 rfl rfl rfl rfl (Nat.le_of_ble_eq_true rfl) dX7_behind_76 hf (fun r76 hf => ?_)
        refine V_istore8 C (pc := 79) dX7_behind_79 (by rw [hm]; decide) ?_
        refine V_aload0 C (pc := 81) dX7_behind_81 ?_
        refine V_iload7 C (pc := 82) dX7_behind_82 ?_
        refine V_cR C (pc := 84) (dep2 := 0) (As := [.int (x2 - x2 / (9 : Int32) * (9 : Int32))]) (rest := []) (fun r0 h0 => c_X7_freshBehind h0) lb_X7_freshBehind lk_RX7_136 wm_t (by decide) (Nat.le_refl 0) 0 7 rfl rfl rfl rfl (Nat.le_of_ble_eq_true rfl) dX7_behind_84 hf (fun r84 hf => ?_)
        refine V_istore9 C (pc := 87) dX7_behind_87 (by rw [hm]; decide) ?_
        refine V_goto C (pc := 89) (tgt := 124) dX7_behind_89 (by decide) ?_
        exact V.mono [true, false, false, false, false, false, true, false, true, true] rfl (t_X7_behind_124 C hm hf)
      · refine V_iconst C (pc := 69) (v := (-1 : Int32)) (by decide) dX7_behind_69 ?_
        exact V_iret C (pc := 70) rfl (Nat.le_refl 0) dX7_behind_70 ⟨hf, rfl⟩
  · refine V_iconst C (pc := 39) (v := (-1 : Int32)) (by decide) dX7_behind_39 ?_
    exact V_iret C (pc := 40) rfl (Nat.le_refl 0) dX7_behind_40 ⟨hf, rfl⟩
set_option maxRecDepth 100000 in
theorem c_X7_behind {Z : Zz} {a : Nat → Nat} {N : Nat} {c1 c2 : Nat} {M : Mm} {x1 x2 x3 : Int32} {r0 : Int32} (hf : f_X7_behind N M x1 x2 x3 = some r0) : CtI (wM Z a) Z tE yX7_behind cX7_behind 10 (some .int) 4 0 [.ref (a 0), .int x1, .int x2, .int x3] (c1, c2, M) (PqR r0 (c1, c2, M)) := CtI_of (by decide +kernel) (Or.inl rfl) (List.forall_mem_cons.mpr ⟨rfl, List.forall_mem_cons.mpr ⟨rfl, List.forall_mem_cons.mpr ⟨rfl, List.forall_mem_cons.mpr ⟨rfl, fun _ h9 => nomatch h9⟩⟩⟩⟩) (Nat.le_of_ble_eq_true rfl) (fun G C hm => t_X7_behind (o := r0) C hm hf)
def f_X7_bit (M : Mm) (x1 : Int32) : Option Int32 := (if x1 < 0 then (some (-2 : Int32)) else (if x1 < (4096 : Int32) then (if inb x1 4096 then (if (gA M 7 x1) = 0 then (some (0 : Int32)) else (some (1 : Int32))) else none) else (some (-2 : Int32))))
set_option maxRecDepth 100000 in
set_option maxHeartbeats 4000000 in
theorem t_X7_bit {Z : Zz} {G : Gm} {a : Nat → Nat} {o : Int32} {c1 c2 : Nat} {M : Mm} {x1 : Int32} (C : CX (wM Z a) Z tE G cX7_bit RX7 0 (some .int) (PqR o (c1, c2, M)) 0) (hm : (Gc G).maxLocals = 2) (hf : f_X7_bit M x1 = some o) : V (wM Z a) Z G 0 0 [some (.ref (a 0)), some (.int x1)] [] (c1, c2, M) := by
  unfold f_X7_bit at hf
  refine V_iload1 C (pc := 0) dX7_bit_0 ?_
  refine V_if_lt C (pc := 1) (tgt := 11) dX7_bit_1 (by decide) hf (fun hf => ?_) (fun hf => ?_)
  · refine V_bipush C (pc := 11) (v := (-2 : Int32)) (by decide) dX7_bit_11 ?_
    refine V_goto C (pc := 13) (tgt := 30) dX7_bit_13 (by decide) ?_
    exact V_iret C (pc := 30) rfl (Nat.le_refl 0) dX7_bit_30 ⟨hf, rfl⟩
  · refine V_iload1 C (pc := 4) dX7_bit_4 ?_
    refine V_sipush C (pc := 5) (v := (4096 : Int32)) (by decide) dX7_bit_5 ?_
    refine V_icmp_lt C (pc := 8) (tgt := 16) dX7_bit_8 (by decide) hf (fun hf => ?_) (fun hf => ?_)
    · refine V_aload0 C (pc := 16) dX7_bit_16 ?_
      refine gf_RX7_32 C (pc := 17) dX7_bit_17 ?_
      refine V_iload1 C (pc := 20) dX7_bit_20 ?_
      refine alM_7 C (pc := 21) dX7_bit_21 hf (fun hf => ?_)
      refine V_if_eq C (pc := 22) (tgt := 29) dX7_bit_22 (by decide) hf (fun hf => ?_) (fun hf => ?_)
      · refine V_iconst C (pc := 29) (v := (0 : Int32)) (by decide) dX7_bit_29 ?_
        exact V_iret C (pc := 30) rfl (Nat.le_refl 0) dX7_bit_30 ⟨hf, rfl⟩
      · refine V_iconst C (pc := 25) (v := (1 : Int32)) (by decide) dX7_bit_25 ?_
        refine V_goto C (pc := 26) (tgt := 30) dX7_bit_26 (by decide) ?_
        exact V_iret C (pc := 30) rfl (Nat.le_refl 0) dX7_bit_30 ⟨hf, rfl⟩
    · refine V_bipush C (pc := 11) (v := (-2 : Int32)) (by decide) dX7_bit_11 ?_
      refine V_goto C (pc := 13) (tgt := 30) dX7_bit_13 (by decide) ?_
      exact V_iret C (pc := 30) rfl (Nat.le_refl 0) dX7_bit_30 ⟨hf, rfl⟩
set_option maxRecDepth 100000 in
theorem c_X7_bit {Z : Zz} {a : Nat → Nat} {c1 c2 : Nat} {M : Mm} {x1 : Int32} {r0 : Int32} (hf : f_X7_bit M x1 = some r0) : CtI (wM Z a) Z tE yX7_bit cX7_bit 2 (some .int) 0 0 [.ref (a 0), .int x1] (c1, c2, M) (PqR r0 (c1, c2, M)) := CtI_of (by decide +kernel) (Or.inl rfl) (List.forall_mem_cons.mpr ⟨rfl, List.forall_mem_cons.mpr ⟨rfl, fun _ h9 => nomatch h9⟩⟩) (Nat.le_of_ble_eq_true rfl) (fun G C hm => t_X7_bit (o := r0) C hm hf)
def f_X7_bitBehind (N : Nat) (M : Mm) (x1 : Int32) (x2 : Int32) (x3 : Int32) : Option Int32 := (bd (f_X7_behind N M ((x1 - x1 / (512 : Int32) * (512 : Int32)) + ((5120 : Int32) * (x1 / (512 : Int32)))) x2 x3) (fun r18 => (if 0 ≤ r18 then (some ((r18 - r18 / (512 : Int32) * (512 : Int32)) + ((512 : Int32) * (r18 / (5120 : Int32))))) else (some (-1 : Int32)))))
set_option maxRecDepth 100000 in
set_option maxHeartbeats 4000000 in
theorem t_X7_bitBehind {Z : Zz} {G : Gm} {a : Nat → Nat} {N : Nat} {o : Int32} {c1 c2 : Nat} {M : Mm} {x1 x2 x3 : Int32} (C : CX (wM Z a) Z tE G cX7_bitBehind RX7 5 (some .int) (PqR o (c1, c2, M)) 0) (hm : (Gc G).maxLocals = 5) (hf : f_X7_bitBehind N M x1 x2 x3 = some o) : V (wM Z a) Z G 0 0 [some (.ref (a 0)), some (.int x1), some (.int x2), some (.int x3), none] [] (c1, c2, M) := by
  unfold f_X7_bitBehind at hf
  refine V_aload0 C (pc := 0) dX7_bitBehind_0 ?_
  refine V_iload1 C (pc := 1) dX7_bitBehind_1 ?_
  refine V_sipush C (pc := 2) (v := (512 : Int32)) (by decide) dX7_bitBehind_2 ?_
  refine V_irem C (pc := 5) (by decide) dX7_bitBehind_5 ?_
  refine V_sipush C (pc := 6) (v := (5120 : Int32)) (by decide) dX7_bitBehind_6 ?_
  refine V_iload1 C (pc := 9) dX7_bitBehind_9 ?_
  refine V_sipush C (pc := 10) (v := (512 : Int32)) (by decide) dX7_bitBehind_10 ?_
  refine V_idiv C (pc := 13) (by decide) dX7_bitBehind_13 ?_
  refine V_imul C (pc := 14) dX7_bitBehind_14 ?_
  refine V_iadd C (pc := 15) dX7_bitBehind_15 ?_
  refine V_iload2 C (pc := 16) dX7_bitBehind_16 ?_
  refine V_iload3 C (pc := 17) dX7_bitBehind_17 ?_
  refine V_cR C (pc := 18) (dep2 := 4) (As := [.int ((x1 - x1 / (512 : Int32) * (512 : Int32)) + ((5120 : Int32) * (x1 / (512 : Int32)))), .int x2, .int x3]) (rest := []) (fun r0 h0 => c_X7_behind h0) lb_X7_behind lk_RX7_157 wm_t (by decide) (Nat.le_refl 0) 0 7 rfl rfl rfl rfl (Nat.le_of_ble_eq_true rfl) dX7_bitBehind_18 hf (fun r18 hf => ?_)
  refine V_istore4 C (pc := 21) dX7_bitBehind_21 (by rw [hm]; decide) ?_
  refine V_iload4 C (pc := 23) dX7_bitBehind_23 ?_
  refine V_if_ge C (pc := 25) (tgt := 32) dX7_bitBehind_25 (by decide) hf (fun hf => ?_) (fun hf => ?_)
  · refine V_iload4 C (pc := 32) dX7_bitBehind_32 ?_
    refine V_sipush C (pc := 34) (v := (512 : Int32)) (by decide) dX7_bitBehind_34 ?_
    refine V_irem C (pc := 37) (by decide) dX7_bitBehind_37 ?_
    refine V_sipush C (pc := 38) (v := (512 : Int32)) (by decide) dX7_bitBehind_38 ?_
    refine V_iload4 C (pc := 41) dX7_bitBehind_41 ?_
    refine V_sipush C (pc := 43) (v := (5120 : Int32)) (by decide) dX7_bitBehind_43 ?_
    refine V_idiv C (pc := 46) (by decide) dX7_bitBehind_46 ?_
    refine V_imul C (pc := 47) dX7_bitBehind_47 ?_
    refine V_iadd C (pc := 48) dX7_bitBehind_48 ?_
    exact V_iret C (pc := 49) rfl (Nat.le_refl 0) dX7_bitBehind_49 ⟨hf, rfl⟩
  · refine V_iconst C (pc := 28) (v := (-1 : Int32)) (by decide) dX7_bitBehind_28 ?_
    refine V_goto C (pc := 29) (tgt := 49) dX7_bitBehind_29 (by decide) ?_
    exact V_iret C (pc := 49) rfl (Nat.le_refl 0) dX7_bitBehind_49 ⟨hf, rfl⟩
set_option maxRecDepth 100000 in
theorem c_X7_bitBehind {Z : Zz} {a : Nat → Nat} {N : Nat} {c1 c2 : Nat} {M : Mm} {x1 x2 x3 : Int32} {r0 : Int32} (hf : f_X7_bitBehind N M x1 x2 x3 = some r0) : CtI (wM Z a) Z tE yX7_bitBehind cX7_bitBehind 5 (some .int) 5 0 [.ref (a 0), .int x1, .int x2, .int x3] (c1, c2, M) (PqR r0 (c1, c2, M)) := CtI_of (by decide +kernel) (Or.inl rfl) (List.forall_mem_cons.mpr ⟨rfl, List.forall_mem_cons.mpr ⟨rfl, List.forall_mem_cons.mpr ⟨rfl, List.forall_mem_cons.mpr ⟨rfl, fun _ h9 => nomatch h9⟩⟩⟩⟩) (Nat.le_of_ble_eq_true rfl) (fun G C hm => t_X7_bitBehind (o := r0) C hm hf)
def f_X7_isPlain_4 (N : Nat) (M : Mm) : Nat → Int32 → Int32 → Option Int32
  | 0, _, _ => none
  | n + 1, x1, x2 => (if (gI M 0) ≤ x2 then (if isB x1 then some x1 else none) else (if inb x2 9 then (if (gA M 1 x2) = (2 : Int32) then ((f_X7_isPlain_4 N M n) (x1 &&& (0 : Int32)) (x2 + (1 : Int32))) else (if inb x2 9 then (if (gA M 1 x2) = (4 : Int32) then ((f_X7_isPlain_4 N M n) (x1 &&& (0 : Int32)) (x2 + (1 : Int32))) else ((f_X7_isPlain_4 N M n) (x1 &&& (1 : Int32)) (x2 + (1 : Int32)))) else none)) else none))
set_option maxRecDepth 100000 in
set_option maxHeartbeats 4000000 in
theorem t_X7_isPlain_4 {Z : Zz} {G : Gm} {a : Nat → Nat} {N : Nat} {o : Int32} {c1 c2 : Nat} {M : Mm} (C : CX (wM Z a) Z tE G cX7_isPlain RX7 0 (some .boolean) (PqR o (c1, c2, M)) 0) (hm : (Gc G).maxLocals = 3) : ∀ (n : Nat) (x1 x2 : Int32) , f_X7_isPlain_4 N M n x1 x2 = some o → V (wM Z a) Z G 0 4 [some (.ref (a 0)), some (.int x1), some (.int x2)] [] (c1, c2, M) := by
  intro n
  induction n with
  | zero => intro x1 x2 hf; rw [f_X7_isPlain_4] at hf; cases hf
  | succ n ih =>
    intro x1 x2 hf
    rw [f_X7_isPlain_4] at hf
    refine V_iload2 C (pc := 4) dX7_isPlain_4 ?_
    refine V_aload0 C (pc := 5) dX7_isPlain_5 ?_
    refine gf_RX7_73 C (pc := 6) dX7_isPlain_6 ?_
    refine V_icmp_ge C (pc := 9) (tgt := 46) dX7_isPlain_9 (by decide) hf (fun hf => ?_) (fun hf => ?_)
    · refine V_iload1 C (pc := 46) dX7_isPlain_46 ?_
      exact V_zret C (pc := 47) rfl (Nat.le_refl 0) (bgd hf).1 dX7_isPlain_47 ⟨(bgd hf).2, rfl⟩
    · refine V_iload1 C (pc := 12) dX7_isPlain_12 ?_
      refine V_aload0 C (pc := 13) dX7_isPlain_13 ?_
      refine gf_RX7_9 C (pc := 14) dX7_isPlain_14 ?_
      refine V_iload2 C (pc := 17) dX7_isPlain_17 ?_
      refine alM_1 C (pc := 18) dX7_isPlain_18 hf (fun hf => ?_)
      refine V_iconst C (pc := 19) (v := (2 : Int32)) (by decide) dX7_isPlain_19 ?_
      refine V_icmp_eq C (pc := 20) (tgt := 37) dX7_isPlain_20 (by decide) hf (fun hf => ?_) (fun hf => ?_)
      · refine V_iconst C (pc := 37) (v := (0 : Int32)) (by decide) dX7_isPlain_37 ?_
        refine V_iand C (pc := 38) dX7_isPlain_38 ?_
        refine V_istore1 C (pc := 39) dX7_isPlain_39 (by rw [hm]; decide) ?_
        refine V_iinc2 C (pc := 40) (c1 := (1 : Int32)) dX7_isPlain_40 (by decide) (by rw [hm]; decide) ?_
        refine V_goto C (pc := 43) (tgt := 4) dX7_isPlain_43 (by decide) ?_
        exact V.mono [true, true, true] rfl (ih _ _ hf)
      · refine V_aload0 C (pc := 23) dX7_isPlain_23 ?_
        refine gf_RX7_9 C (pc := 24) dX7_isPlain_24 ?_
        refine V_iload2 C (pc := 27) dX7_isPlain_27 ?_
        refine alM_1 C (pc := 28) dX7_isPlain_28 hf (fun hf => ?_)
        refine V_iconst C (pc := 29) (v := (4 : Int32)) (by decide) dX7_isPlain_29 ?_
        refine V_icmp_eq C (pc := 30) (tgt := 37) dX7_isPlain_30 (by decide) hf (fun hf => ?_) (fun hf => ?_)
        · refine V_iconst C (pc := 37) (v := (0 : Int32)) (by decide) dX7_isPlain_37 ?_
          refine V_iand C (pc := 38) dX7_isPlain_38 ?_
          refine V_istore1 C (pc := 39) dX7_isPlain_39 (by rw [hm]; decide) ?_
          refine V_iinc2 C (pc := 40) (c1 := (1 : Int32)) dX7_isPlain_40 (by decide) (by rw [hm]; decide) ?_
          refine V_goto C (pc := 43) (tgt := 4) dX7_isPlain_43 (by decide) ?_
          exact V.mono [true, true, true] rfl (ih _ _ hf)
        · refine V_iconst C (pc := 33) (v := (1 : Int32)) (by decide) dX7_isPlain_33 ?_
          refine V_goto C (pc := 34) (tgt := 38) dX7_isPlain_34 (by decide) ?_
          refine V_iand C (pc := 38) dX7_isPlain_38 ?_
          refine V_istore1 C (pc := 39) dX7_isPlain_39 (by rw [hm]; decide) ?_
          refine V_iinc2 C (pc := 40) (c1 := (1 : Int32)) dX7_isPlain_40 (by decide) (by rw [hm]; decide) ?_
          refine V_goto C (pc := 43) (tgt := 4) dX7_isPlain_43 (by decide) ?_
          exact V.mono [true, true, true] rfl (ih _ _ hf)
def f_X7_isPlain (N : Nat) (M : Mm)  : Option Int32 := (f_X7_isPlain_4 N M N (1 : Int32) (0 : Int32))
set_option maxRecDepth 100000 in
set_option maxHeartbeats 4000000 in
theorem t_X7_isPlain {Z : Zz} {G : Gm} {a : Nat → Nat} {N : Nat} {o : Int32} {c1 c2 : Nat} {M : Mm} (C : CX (wM Z a) Z tE G cX7_isPlain RX7 0 (some .boolean) (PqR o (c1, c2, M)) 0) (hm : (Gc G).maxLocals = 3) (hf : f_X7_isPlain N M  = some o) : V (wM Z a) Z G 0 0 [some (.ref (a 0)), none, none] [] (c1, c2, M) := by
  unfold f_X7_isPlain at hf
  refine V_iconst C (pc := 0) (v := (1 : Int32)) (by decide) dX7_isPlain_0 ?_
  refine V_istore1 C (pc := 1) dX7_isPlain_1 (by rw [hm]; decide) ?_
  refine V_iconst C (pc := 2) (v := (0 : Int32)) (by decide) dX7_isPlain_2 ?_
  refine V_istore2 C (pc := 3) dX7_isPlain_3 (by rw [hm]; decide) ?_
  exact V.mono [true, true, true] rfl (t_X7_isPlain_4 C hm N _ _ hf)
set_option maxRecDepth 100000 in
theorem c_X7_isPlain {Z : Zz} {a : Nat → Nat} {N : Nat} {c1 c2 : Nat} {M : Mm} {r0 : Int32} (hf : f_X7_isPlain N M  = some r0) : CtI (wM Z a) Z tE yX7_isPlain cX7_isPlain 3 (some .boolean) 0 0 [.ref (a 0)] (c1, c2, M) (PqR r0 (c1, c2, M)) := CtI_of (by decide +kernel) (Or.inr rfl) (List.forall_mem_cons.mpr ⟨rfl, fun _ h9 => nomatch h9⟩) (Nat.le_of_ble_eq_true rfl) (fun G C hm => t_X7_isPlain (o := r0) C hm hf)
def f_X7_stand_4 (N : Nat) (M : Mm) : Nat → Int32 → Int32 → Int32 → Option Int32
  | 0, _, _, _ => none
  | n + 1, x1, x2, x3 => (if (gI M 4) ≤ x3 then (if isB x2 then some x2 else none) else (if inb x3 3 then (bd (f_X7_has x1 (gA M 6 x3)) (fun r20 => ((f_X7_stand_4 N M n) x1 (x2 &&& r20) (x3 + (1 : Int32))))) else none))
set_option maxRecDepth 100000 in
set_option maxHeartbeats 4000000 in
theorem t_X7_stand_4 {Z : Zz} {G : Gm} {a : Nat → Nat} {N : Nat} {o : Int32} {c1 c2 : Nat} {M : Mm} (C : CX (wM Z a) Z tE G cX7_stand RX7 1 (some .boolean) (PqR o (c1, c2, M)) 0) (hm : (Gc G).maxLocals = 4) : ∀ (n : Nat) (x1 x2 x3 : Int32) , f_X7_stand_4 N M n x1 x2 x3 = some o → V (wM Z a) Z G 0 4 [some (.ref (a 0)), some (.int x1), some (.int x2), some (.int x3)] [] (c1, c2, M) := by
  intro n
  induction n with
  | zero => intro x1 x2 x3 hf; rw [f_X7_stand_4] at hf; cases hf
  | succ n ih =>
    intro x1 x2 x3 hf
    rw [f_X7_stand_4] at hf
    refine V_iload3 C (pc := 4) dX7_stand_4 ?_
    refine V_aload0 C (pc := 5) dX7_stand_5 ?_
    refine gf_RX7_119 C (pc := 6) dX7_stand_6 ?_
    refine V_icmp_ge C (pc := 9) (tgt := 31) dX7_stand_9 (by decide) hf (fun hf => ?_) (fun hf => ?_)
    · refine V_iload2 C (pc := 31) dX7_stand_31 ?_
      exact V_zret C (pc := 32) rfl (Nat.le_refl 0) (bgd hf).1 dX7_stand_32 ⟨(bgd hf).2, rfl⟩
    · refine V_iload2 C (pc := 12) dX7_stand_12 ?_
      refine V_iload1 C (pc := 13) dX7_stand_13 ?_
      refine V_aload0 C (pc := 14) dX7_stand_14 ?_
      refine gf_RX7_29 C (pc := 15) dX7_stand_15 ?_
      refine V_iload3 C (pc := 18) dX7_stand_18 ?_
      refine alM_6 C (pc := 19) dX7_stand_19 hf (fun hf => ?_)
      refine V_cS C (pc := 20) (dep2 := 0) (As := [.int x1, .int (gA M 6 x3)]) (rest := [.int x2]) (fun r0 h0 => c_X7_has h0) lb_X7_has lk_RX7_76 (by decide) (Nat.le_refl 0) rfl rfl (Nat.le_of_ble_eq_true rfl) dX7_stand_20 hf (fun r20 hf => ?_)
      refine V_iand C (pc := 23) dX7_stand_23 ?_
      refine V_istore2 C (pc := 24) dX7_stand_24 (by rw [hm]; decide) ?_
      refine V_iinc3 C (pc := 25) (c1 := (1 : Int32)) dX7_stand_25 (by decide) (by rw [hm]; decide) ?_
      refine V_goto C (pc := 28) (tgt := 4) dX7_stand_28 (by decide) ?_
      exact V.mono [true, true, true, true] rfl (ih _ _ _ hf)
def f_X7_stand (N : Nat) (M : Mm) (x1 : Int32) : Option Int32 := (f_X7_stand_4 N M N x1 (1 : Int32) (0 : Int32))
set_option maxRecDepth 100000 in
set_option maxHeartbeats 4000000 in
theorem t_X7_stand {Z : Zz} {G : Gm} {a : Nat → Nat} {N : Nat} {o : Int32} {c1 c2 : Nat} {M : Mm} {x1 : Int32} (C : CX (wM Z a) Z tE G cX7_stand RX7 1 (some .boolean) (PqR o (c1, c2, M)) 0) (hm : (Gc G).maxLocals = 4) (hf : f_X7_stand N M x1 = some o) : V (wM Z a) Z G 0 0 [some (.ref (a 0)), some (.int x1), none, none] [] (c1, c2, M) := by
  unfold f_X7_stand at hf
  refine V_iconst C (pc := 0) (v := (1 : Int32)) (by decide) dX7_stand_0 ?_
  refine V_istore2 C (pc := 1) dX7_stand_1 (by rw [hm]; decide) ?_
  refine V_iconst C (pc := 2) (v := (0 : Int32)) (by decide) dX7_stand_2 ?_
  refine V_istore3 C (pc := 3) dX7_stand_3 (by rw [hm]; decide) ?_
  exact V.mono [true, true, true, true] rfl (t_X7_stand_4 C hm N _ _ _ hf)
set_option maxRecDepth 100000 in
theorem c_X7_stand {Z : Zz} {a : Nat → Nat} {N : Nat} {c1 c2 : Nat} {M : Mm} {x1 : Int32} {r0 : Int32} (hf : f_X7_stand N M x1 = some r0) : CtI (wM Z a) Z tE yX7_stand cX7_stand 4 (some .boolean) 1 0 [.ref (a 0), .int x1] (c1, c2, M) (PqR r0 (c1, c2, M)) := CtI_of (by decide +kernel) (Or.inr rfl) (List.forall_mem_cons.mpr ⟨rfl, List.forall_mem_cons.mpr ⟨rfl, fun _ h9 => nomatch h9⟩⟩) (Nat.le_of_ble_eq_true rfl) (fun G C hm => t_X7_stand (o := r0) C hm hf)
def f_X7_faultOf_90 (N : Nat) (M : Mm) : Nat → Int32 → Int32 → Int32 → Option Int32
  | 0, _, _, _ => none
  | n + 1, x1, x2, x6 => (if (18 : Int32) ≤ x6 then (some (0 : Int32)) else (bd (f_X7_bitBehind N M x1 x6 x2) (fun r102 => (if r102 < 0 then ((f_X7_faultOf_90 N M n) x1 x2 (x6 + (1 : Int32))) else (if inb r102 4096 then (if (gA M 7 r102) = 0 then (some (4 : Int32)) else ((f_X7_faultOf_90 N M n) x1 x2 (x6 + (1 : Int32)))) else none)))))
set_option maxRecDepth 100000 in
set_option maxHeartbeats 4000000 in
theorem t_X7_faultOf_90 {Z : Zz} {G : Gm} {a : Nat → Nat} {N : Nat} {o : Int32} {c1 c2 : Nat} {M : Mm} (C : CX (wM Z a) Z tE G cX7_faultOf RX7 6 (some .int) (PqR o (c1, c2, M)) 0) (hm : (Gc G).maxLocals = 8) : ∀ (n : Nat) (x1 x2 x6 : Int32) , f_X7_faultOf_90 N M n x1 x2 x6 = some o → V (wM Z a) Z G 0 90 [some (.ref (a 0)), some (.int x1), some (.int x2), none, none, none, some (.int x6), none] [] (c1, c2, M) := by
  intro n
  induction n with
  | zero => intro x1 x2 x6 hf; rw [f_X7_faultOf_90] at hf; cases hf
  | succ n ih =>
    intro x1 x2 x6 hf
    rw [f_X7_faultOf_90] at hf
    refine V_iload6 C (pc := 90) dX7_faultOf_90 ?_
    refine V_bipush C (pc := 92) (v := (18 : Int32)) (by decide) dX7_faultOf_92 ?_
    refine V_icmp_ge C (pc := 94) (tgt := 130) dX7_faultOf_94 (by decide) hf (fun hf => ?_) (fun hf => ?_)
    · refine V_iconst C (pc := 130) (v := (0 : Int32)) (by decide) dX7_faultOf_130 ?_
      exact V_iret C (pc := 131) rfl (Nat.le_refl 0) dX7_faultOf_131 ⟨hf, rfl⟩
    · refine V_aload0 C (pc := 97) dX7_faultOf_97 ?_
      refine V_iload1 C (pc := 98) dX7_faultOf_98 ?_
      refine V_iload6 C (pc := 99) dX7_faultOf_99 ?_
      refine V_iload2 C (pc := 101) dX7_faultOf_101 ?_
      refine V_cR C (pc := 102) (dep2 := 5) (As := [.int x1, .int x6, .int x2]) (rest := []) (fun r0 h0 => c_X7_bitBehind h0) lb_X7_bitBehind lk_RX7_179 wm_t (by decide) (Nat.le_refl 0) 0 7 rfl rfl rfl rfl (Nat.le_of_ble_eq_true rfl) dX7_faultOf_102 hf (fun r102 hf => ?_)
      refine V_istore7 C (pc := 105) dX7_faultOf_105 (by rw [hm]; decide) ?_
      refine V_iload7 C (pc := 107) dX7_faultOf_107 ?_
      refine V_if_lt C (pc := 109) (tgt := 124) dX7_faultOf_109 (by decide) hf (fun hf => ?_) (fun hf => ?_)
      · refine V_iinc6 C (pc := 124) (c1 := (1 : Int32)) dX7_faultOf_124 (by decide) (by rw [hm]; decide) ?_
        refine V_goto C (pc := 127) (tgt := 90) dX7_faultOf_127 (by decide) ?_
        exact V.mono [true, true, true, false, false, false, true, false] rfl (ih _ _ _ hf)
      · refine V_aload0 C (pc := 112) dX7_faultOf_112 ?_
        refine gf_RX7_32 C (pc := 113) dX7_faultOf_113 ?_
        refine V_iload7 C (pc := 116) dX7_faultOf_116 ?_
        refine alM_7 C (pc := 118) dX7_faultOf_118 hf (fun hf => ?_)
        refine V_if_ne C (pc := 119) (tgt := 124) dX7_faultOf_119 (by decide) hf (fun hf => ?_) (fun hf => ?_)
        · refine V_iinc6 C (pc := 124) (c1 := (1 : Int32)) dX7_faultOf_124 (by decide) (by rw [hm]; decide) ?_
          refine V_goto C (pc := 127) (tgt := 90) dX7_faultOf_127 (by decide) ?_
          exact V.mono [true, true, true, false, false, false, true, false] rfl (ih _ _ _ hf)
        · refine V_iconst C (pc := 122) (v := (4 : Int32)) (by decide) dX7_faultOf_122 ?_
          exact V_iret C (pc := 123) rfl (Nat.le_refl 0) dX7_faultOf_123 ⟨hf, rfl⟩
def f_X7_faultOf_53 (N : Nat) (M : Mm) (x1 : Int32) (x2 : Int32) (x3 : Int32) (x4 : Int32) (x5 : Int32) : Option Int32 := (if ((1 : Int32) <<< ((gI M 0) &&& 31)) ≤ x3 then (some (3 : Int32)) else (if (gI M 5) = 0 then (if x4 ≤ x5 then (f_X7_faultOf_90 N M N x1 x2 (0 : Int32)) else (some (3 : Int32))) else (if x4 = 0 then (f_X7_faultOf_90 N M N x1 x2 (0 : Int32)) else (some (3 : Int32)))))
set_option maxRecDepth 100000 in
set_option maxHeartbeats 4000000 in
theorem t_X7_faultOf_53 {Z : Zz} {G : Gm} {a : Nat → Nat} {N : Nat} {o : Int32} {c1 c2 : Nat} {M : Mm} {x1 x2 x3 x4 x5 : Int32} (C : CX (wM Z a) Z tE G cX7_faultOf RX7 6 (some .int) (PqR o (c1, c2, M)) 0) (hm : (Gc G).maxLocals = 8) (hf : f_X7_faultOf_53 N M x1 x2 x3 x4 x5 = some o) : V (wM Z a) Z G 0 53 [some (.ref (a 0)), some (.int x1), some (.int x2), some (.int x3), some (.int x4), some (.int x5), none, none] [] (c1, c2, M) := by
  unfold f_X7_faultOf_53 at hf
  refine V_iload3 C (pc := 53) dX7_faultOf_53 ?_
  refine V_iconst C (pc := 54) (v := (1 : Int32)) (by decide) dX7_faultOf_54 ?_
  refine V_aload0 C (pc := 55) dX7_faultOf_55 ?_
  refine gf_RX7_73 C (pc := 56) dX7_faultOf_56 ?_
  refine V_ishl C (pc := 59) dX7_faultOf_59 ?_
  refine V_icmp_ge C (pc := 60) (tgt := 85) dX7_faultOf_60 (by decide) hf (fun hf => ?_) (fun hf => ?_)
  · refine V_iconst C (pc := 85) (v := (3 : Int32)) (by decide) dX7_faultOf_85 ?_
    exact V_iret C (pc := 86) rfl (Nat.le_refl 0) dX7_faultOf_86 ⟨hf, rfl⟩
  · refine V_aload0 C (pc := 63) dX7_faultOf_63 ?_
    refine gf_RX7_122 C (pc := 64) dX7_faultOf_64 ?_
    refine V_if_eq C (pc := 67) (tgt := 78) dX7_faultOf_67 (by decide) hf (fun hf => ?_) (fun hf => ?_)
    · refine V_iload4 C (pc := 78) dX7_faultOf_78 ?_
      refine V_iload5 C (pc := 80) dX7_faultOf_80 ?_
      refine V_icmp_le C (pc := 82) (tgt := 87) dX7_faultOf_82 (by decide) hf (fun hf => ?_) (fun hf => ?_)
      · refine V_iconst C (pc := 87) (v := (0 : Int32)) (by decide) dX7_faultOf_87 ?_
        refine V_istore6 C (pc := 88) dX7_faultOf_88 (by rw [hm]; decide) ?_
        exact V.mono [true, true, true, false, false, false, true, false] rfl (t_X7_faultOf_90 C hm N _ _ _ hf)
      · refine V_iconst C (pc := 85) (v := (3 : Int32)) (by decide) dX7_faultOf_85 ?_
        exact V_iret C (pc := 86) rfl (Nat.le_refl 0) dX7_faultOf_86 ⟨hf, rfl⟩
    · refine V_iload4 C (pc := 70) dX7_faultOf_70 ?_
      refine V_if_eq C (pc := 72) (tgt := 87) dX7_faultOf_72 (by decide) hf (fun hf => ?_) (fun hf => ?_)
      · refine V_iconst C (pc := 87) (v := (0 : Int32)) (by decide) dX7_faultOf_87 ?_
        refine V_istore6 C (pc := 88) dX7_faultOf_88 (by rw [hm]; decide) ?_
        exact V.mono [true, true, true, false, false, false, true, false] rfl (t_X7_faultOf_90 C hm N _ _ _ hf)
      · refine V_goto C (pc := 75) (tgt := 85) dX7_faultOf_75 (by decide) ?_
        refine V_iconst C (pc := 85) (v := (3 : Int32)) (by decide) dX7_faultOf_85 ?_
        exact V_iret C (pc := 86) rfl (Nat.le_refl 0) dX7_faultOf_86 ⟨hf, rfl⟩
def f_X7_faultOf (N : Nat) (M : Mm) (x1 : Int32) (x2 : Int32) : Option Int32 := (if (gI M 5) = 0 then (if ((x1 / (512 : Int32)) &&& (((1 : Int32) <<< ((gI M 4) &&& 31)) - (1 : Int32))) = (((1 : Int32) <<< ((gI M 4) &&& 31)) - (1 : Int32)) then (some (2 : Int32)) else (f_X7_faultOf_53 N M x1 x2 (x1 - x1 / (512 : Int32) * (512 : Int32)) (x1 / (512 : Int32)) (((1 : Int32) <<< ((gI M 4) &&& 31)) - (1 : Int32)))) else (bd (f_X7_stand N M (x1 - x1 / (512 : Int32) * (512 : Int32))) (fun r32 => (if r32 = 0 then (f_X7_faultOf_53 N M x1 x2 (x1 - x1 / (512 : Int32) * (512 : Int32)) (x1 / (512 : Int32)) (((1 : Int32) <<< ((gI M 4) &&& 31)) - (1 : Int32))) else (some (2 : Int32))))))
set_option maxRecDepth 100000 in
set_option maxHeartbeats 4000000 in
theorem t_X7_faultOf {Z : Zz} {G : Gm} {a : Nat → Nat} {N : Nat} {o : Int32} {c1 c2 : Nat} {M : Mm} {x1 x2 : Int32} (C : CX (wM Z a) Z tE G cX7_faultOf RX7 6 (some .int) (PqR o (c1, c2, M)) 0) (hm : (Gc G).maxLocals = 8) (hf : f_X7_faultOf N M x1 x2 = some o) : V (wM Z a) Z G 0 0 [some (.ref (a 0)), some (.int x1), some (.int x2), none, none, none, none, none] [] (c1, c2, M) := by
  unfold f_X7_faultOf at hf
  refine V_iload1 C (pc := 0) dX7_faultOf_0 ?_
  refine V_sipush C (pc := 1) (v := (512 : Int32)) (by decide) dX7_faultOf_1 ?_
  refine V_irem C (pc := 4) (by decide) dX7_faultOf_4 ?_
  refine V_istore3 C (pc := 5) dX7_faultOf_5 (by rw [hm]; decide) ?_
  refine V_iload1 C (pc := 6) dX7_faultOf_6 ?_
  refine V_sipush C (pc := 7) (v := (512 : Int32)) (by decide) dX7_faultOf_7 ?_
  refine V_idiv C (pc := 10) (by decide) dX7_faultOf_10 ?_
  refine V_istore4 C (pc := 11) dX7_faultOf_11 (by rw [hm]; decide) ?_
  refine V_iconst C (pc := 13) (v := (1 : Int32)) (by decide) dX7_faultOf_13 ?_
  refine V_aload0 C (pc := 14) dX7_faultOf_14 ?_
  refine gf_RX7_119 C (pc := 15) dX7_faultOf_15 ?_
  refine V_ishl C (pc := 18) dX7_faultOf_18 ?_
  refine V_iconst C (pc := 19) (v := (1 : Int32)) (by decide) dX7_faultOf_19 ?_
  refine V_isub C (pc := 20) dX7_faultOf_20 ?_
  refine V_istore5 C (pc := 21) dX7_faultOf_21 (by rw [hm]; decide) ?_
  refine V_aload0 C (pc := 23) dX7_faultOf_23 ?_
  refine gf_RX7_122 C (pc := 24) dX7_faultOf_24 ?_
  refine V_if_eq C (pc := 27) (tgt := 41) dX7_faultOf_27 (by decide) hf (fun hf => ?_) (fun hf => ?_)
  · refine V_iload4 C (pc := 41) dX7_faultOf_41 ?_
    refine V_iload5 C (pc := 43) dX7_faultOf_43 ?_
    refine V_iand C (pc := 45) dX7_faultOf_45 ?_
    refine V_iload5 C (pc := 46) dX7_faultOf_46 ?_
    refine V_icmp_ne C (pc := 48) (tgt := 53) dX7_faultOf_48 (by decide) hf (fun hf => ?_) (fun hf => ?_)
    · exact V.mono [true, true, true, true, true, true, false, false] rfl (t_X7_faultOf_53 C hm hf)
    · refine V_iconst C (pc := 51) (v := (2 : Int32)) (by decide) dX7_faultOf_51 ?_
      exact V_iret C (pc := 52) rfl (Nat.le_refl 0) dX7_faultOf_52 ⟨hf, rfl⟩
  · refine V_aload0 C (pc := 30) dX7_faultOf_30 ?_
    refine V_iload3 C (pc := 31) dX7_faultOf_31 ?_
    refine V_cR C (pc := 32) (dep2 := 1) (As := [.int (x1 - x1 / (512 : Int32) * (512 : Int32))]) (rest := []) (fun r0 h0 => c_X7_stand h0) lb_X7_stand lk_RX7_149 wm_t (by decide) (Nat.le_refl 0) 0 7 rfl rfl rfl rfl (Nat.le_of_ble_eq_true rfl) dX7_faultOf_32 hf (fun r32 hf => ?_)
    refine V_if_eq C (pc := 35) (tgt := 53) dX7_faultOf_35 (by decide) hf (fun hf => ?_) (fun hf => ?_)
    · exact V.mono [true, true, true, true, true, true, false, false] rfl (t_X7_faultOf_53 C hm hf)
    · refine V_goto C (pc := 38) (tgt := 51) dX7_faultOf_38 (by decide) ?_
      refine V_iconst C (pc := 51) (v := (2 : Int32)) (by decide) dX7_faultOf_51 ?_
      exact V_iret C (pc := 52) rfl (Nat.le_refl 0) dX7_faultOf_52 ⟨hf, rfl⟩
set_option maxRecDepth 100000 in
theorem c_X7_faultOf {Z : Zz} {a : Nat → Nat} {N : Nat} {c1 c2 : Nat} {M : Mm} {x1 x2 : Int32} {r0 : Int32} (hf : f_X7_faultOf N M x1 x2 = some r0) : CtI (wM Z a) Z tE yX7_faultOf cX7_faultOf 8 (some .int) 6 0 [.ref (a 0), .int x1, .int x2] (c1, c2, M) (PqR r0 (c1, c2, M)) := CtI_of (by decide +kernel) (Or.inl rfl) (List.forall_mem_cons.mpr ⟨rfl, List.forall_mem_cons.mpr ⟨rfl, List.forall_mem_cons.mpr ⟨rfl, fun _ h9 => nomatch h9⟩⟩⟩) (Nat.le_of_ble_eq_true rfl) (fun G C hm => t_X7_faultOf (o := r0) C hm hf)
def f_X7_check_77 (N : Nat) (k42 : Int32 → Mm → Option (Int32 × Mm)) (x1 : Int32) (t0 : Int32) (M : Mm) : Option (Int32 × Mm) := (if t0 = 0 then (k42 x1 (sI M 8 ((gI M 8) + (1 : Int32)))) else (some (t0, M)))
set_option maxRecDepth 100000 in
set_option maxHeartbeats 4000000 in
theorem t_X7_check_77 {Z : Zz} {G : Gm} {a : Nat → Nat} {N : Nat} {o : (Int32 × Mm)} {c1 c2 : Nat} {M : Mm} {k42 : Int32 → Mm → Option (Int32 × Mm)} {x1 t0 : Int32} (C : CX (wM Z a) Z tE G cX7_check RX7 7 (some .int) (PqW o.1 o.2) 0) (hm : (Gc G).maxLocals = 3) (hk42 : ∀ (x1 : Int32) (c1 c2 : Nat) (M : Mm), k42 x1 M = some o → V (wM Z a) Z G 0 42 [some (.ref (a 0)), some (.int x1), none] [] (c1, c2, M)) (hf : f_X7_check_77 N k42 x1 t0 M = some o) : V (wM Z a) Z G 0 77 [some (.ref (a 0)), some (.int x1), none] [.int t0] (c1, c2, M) := by
  unfold f_X7_check_77 at hf
  refine V_istore2 C (pc := 77) dX7_check_77 (by rw [hm]; decide) ?_
  refine V_iload2 C (pc := 78) dX7_check_78 ?_
  refine V_if_eq C (pc := 79) (tgt := 84) dX7_check_79 (by decide) hf (fun hf => ?_) (fun hf => ?_)
  · refine V_aload0 C (pc := 84) dX7_check_84 ?_
    refine V_dupr C (pc := 85) dX7_check_85 ?_
    refine gf_RX7_48 C (pc := 86) dX7_check_86 ?_
    refine V_iconst C (pc := 89) (v := (1 : Int32)) (by decide) dX7_check_89 ?_
    refine V_iadd C (pc := 90) dX7_check_90 ?_
    refine pf_RX7_48 C (pc := 91) dX7_check_91 ?_
    refine V_goto C (pc := 94) (tgt := 42) dX7_check_94 (by decide) ?_
    exact V.mono [true, true, false] rfl (hk42 _ c1 c2 (sI M 8 ((gI M 8) + (1 : Int32))) hf)
  · refine V_iload2 C (pc := 82) dX7_check_82 ?_
    exact V_iret C (pc := 83) rfl (Nat.le_refl 0) dX7_check_83 (pqW hf)
def f_X7_check_42 (N : Nat) : Nat → Int32 → Mm → Option (Int32 × Mm)
  | 0, _, _ => none
  | n + 1, x1, M => (if (4096 : Int32) ≤ (gI M 8) then (some ((0 : Int32), (sI M 8 (-1 : Int32)))) else (if inb (gI M 8) 4096 then (if (gA M 7 (gI M 8)) = 0 then (f_X7_check_77 N (f_X7_check_42 N n) x1 (0 : Int32) M) else (bd (f_X7_faultOf N M (gI M 8) x1) (fun r70 => (f_X7_check_77 N (f_X7_check_42 N n) x1 r70 M)))) else none))
set_option maxRecDepth 100000 in
set_option maxHeartbeats 4000000 in
theorem t_X7_check_42 {Z : Zz} {G : Gm} {a : Nat → Nat} {N : Nat} {o : (Int32 × Mm)} (C : CX (wM Z a) Z tE G cX7_check RX7 7 (some .int) (PqW o.1 o.2) 0) (hm : (Gc G).maxLocals = 3) : ∀ (n : Nat) (x1 : Int32) (c1 c2 : Nat) (M : Mm), f_X7_check_42 N n x1 M = some o → V (wM Z a) Z G 0 42 [some (.ref (a 0)), some (.int x1), none] [] (c1, c2, M) := by
  intro n
  induction n with
  | zero => intro x1 c1 c2 M hf; rw [f_X7_check_42] at hf; cases hf
  | succ n ih =>
    intro x1 c1 c2 M hf
    rw [f_X7_check_42] at hf
    refine V_aload0 C (pc := 42) dX7_check_42 ?_
    refine gf_RX7_48 C (pc := 43) dX7_check_43 ?_
    refine V_sipush C (pc := 46) (v := (4096 : Int32)) (by decide) dX7_check_46 ?_
    refine V_icmp_ge C (pc := 49) (tgt := 97) dX7_check_49 (by decide) hf (fun hf => ?_) (fun hf => ?_)
    · refine V_aload0 C (pc := 97) dX7_check_97 ?_
      refine V_iconst C (pc := 98) (v := (-1 : Int32)) (by decide) dX7_check_98 ?_
      refine pf_RX7_48 C (pc := 99) dX7_check_99 ?_
      refine V_iconst C (pc := 102) (v := (0 : Int32)) (by decide) dX7_check_102 ?_
      exact V_iret C (pc := 103) rfl (Nat.le_refl 0) dX7_check_103 (pqW hf)
    · refine V_aload0 C (pc := 52) dX7_check_52 ?_
      refine gf_RX7_32 C (pc := 53) dX7_check_53 ?_
      refine V_aload0 C (pc := 56) dX7_check_56 ?_
      refine gf_RX7_48 C (pc := 57) dX7_check_57 ?_
      refine alM_7 C (pc := 60) dX7_check_60 hf (fun hf => ?_)
      refine V_if_eq C (pc := 61) (tgt := 76) dX7_check_61 (by decide) hf (fun hf => ?_) (fun hf => ?_)
      · refine V_iconst C (pc := 76) (v := (0 : Int32)) (by decide) dX7_check_76 ?_
        exact V.mono [true, true, false] rfl (t_X7_check_77 C hm ih hf)
      · refine V_aload0 C (pc := 64) dX7_check_64 ?_
        refine V_aload0 C (pc := 65) dX7_check_65 ?_
        refine gf_RX7_48 C (pc := 66) dX7_check_66 ?_
        refine V_iload1 C (pc := 69) dX7_check_69 ?_
        refine V_cR C (pc := 70) (dep2 := 6) (As := [.int (gI M 8), .int x1]) (rest := []) (fun r0 h0 => c_X7_faultOf h0) lb_X7_faultOf lk_RX7_182 wm_t (by decide) (Nat.le_refl 0) 0 7 rfl rfl rfl rfl (Nat.le_of_ble_eq_true rfl) dX7_check_70 hf (fun r70 hf => ?_)
        refine V_goto C (pc := 73) (tgt := 77) dX7_check_73 (by decide) ?_
        exact V.mono [true, true, false] rfl (t_X7_check_77 C hm ih hf)
def f_X7_check (N : Nat) (x1 : Int32) (M : Mm) : Option (Int32 × Mm) := (if x1 < (1 : Int32) then (some ((-2 : Int32), M)) else (if (18 : Int32) < x1 then (some ((-2 : Int32), M)) else (bd (f_X7_isPlain N M) (fun r12 => (if r12 = 0 then (some ((-2 : Int32), M)) else (if inb (0 : Int32) 4096 then (if (gA (sI M 8 (0 : Int32)) 7 (0 : Int32)) = 0 then (some ((1 : Int32), (sI M 8 (0 : Int32)))) else (f_X7_check_42 N N x1 (sI (sI M 8 (0 : Int32)) 8 (0 : Int32)))) else none))))))
set_option maxRecDepth 100000 in
set_option maxHeartbeats 4000000 in
theorem t_X7_check {Z : Zz} {G : Gm} {a : Nat → Nat} {N : Nat} {o : (Int32 × Mm)} {c1 c2 : Nat} {M : Mm} {x1 : Int32} (C : CX (wM Z a) Z tE G cX7_check RX7 7 (some .int) (PqW o.1 o.2) 0) (hm : (Gc G).maxLocals = 3) (hf : f_X7_check N x1 M = some o) : V (wM Z a) Z G 0 0 [some (.ref (a 0)), some (.int x1), none] [] (c1, c2, M) := by
  unfold f_X7_check at hf
  refine V_iload1 C (pc := 0) dX7_check_0 ?_
  refine V_iconst C (pc := 1) (v := (1 : Int32)) (by decide) dX7_check_1 ?_
  refine V_icmp_lt C (pc := 2) (tgt := 18) dX7_check_2 (by decide) hf (fun hf => ?_) (fun hf => ?_)
  · refine V_bipush C (pc := 18) (v := (-2 : Int32)) (by decide) dX7_check_18 ?_
    exact V_iret C (pc := 20) rfl (Nat.le_refl 0) dX7_check_20 (pqW hf)
  · refine V_iload1 C (pc := 5) dX7_check_5 ?_
    refine V_bipush C (pc := 6) (v := (18 : Int32)) (by decide) dX7_check_6 ?_
    refine V_icmp_gt C (pc := 8) (tgt := 18) dX7_check_8 (by decide) hf (fun hf => ?_) (fun hf => ?_)
    · refine V_bipush C (pc := 18) (v := (-2 : Int32)) (by decide) dX7_check_18 ?_
      exact V_iret C (pc := 20) rfl (Nat.le_refl 0) dX7_check_20 (pqW hf)
    · refine V_aload0 C (pc := 11) dX7_check_11 ?_
      refine V_cR C (pc := 12) (dep2 := 0) (As := []) (rest := []) (fun r0 h0 => c_X7_isPlain h0) lb_X7_isPlain lk_RX7_175 wm_t (by decide) (Nat.le_refl 0) 0 7 rfl rfl rfl rfl (Nat.le_of_ble_eq_true rfl) dX7_check_12 hf (fun r12 hf => ?_)
      refine V_if_ne C (pc := 15) (tgt := 21) dX7_check_15 (by decide) hf (fun hf => ?_) (fun hf => ?_)
      · refine V_aload0 C (pc := 21) dX7_check_21 ?_
        refine V_iconst C (pc := 22) (v := (0 : Int32)) (by decide) dX7_check_22 ?_
        refine pf_RX7_48 C (pc := 23) dX7_check_23 ?_
        refine V_aload0 C (pc := 26) dX7_check_26 ?_
        refine gf_RX7_32 C (pc := 27) dX7_check_27 ?_
        refine V_iconst C (pc := 30) (v := (0 : Int32)) (by decide) dX7_check_30 ?_
        refine alM_7 C (pc := 31) dX7_check_31 hf (fun hf => ?_)
        refine V_if_ne C (pc := 32) (tgt := 37) dX7_check_32 (by decide) hf (fun hf => ?_) (fun hf => ?_)
        · refine V_aload0 C (pc := 37) dX7_check_37 ?_
          refine V_iconst C (pc := 38) (v := (0 : Int32)) (by decide) dX7_check_38 ?_
          refine pf_RX7_48 C (pc := 39) dX7_check_39 ?_
          exact V.mono [true, true, false] rfl (t_X7_check_42 C hm N _ c1 c2 (sI (sI M 8 (0 : Int32)) 8 (0 : Int32)) hf)
        · refine V_iconst C (pc := 35) (v := (1 : Int32)) (by decide) dX7_check_35 ?_
          exact V_iret C (pc := 36) rfl (Nat.le_refl 0) dX7_check_36 (pqW hf)
      · refine V_bipush C (pc := 18) (v := (-2 : Int32)) (by decide) dX7_check_18 ?_
        exact V_iret C (pc := 20) rfl (Nat.le_refl 0) dX7_check_20 (pqW hf)
set_option maxRecDepth 100000 in
theorem c_X7_check {Z : Zz} {a : Nat → Nat} {N : Nat} {c1 c2 : Nat} {M : Mm} {x1 : Int32} {r0 : Int32} {M0 : Mm} (hf : f_X7_check N x1 M = some (r0, M0)) : CtI (wM Z a) Z tE yX7_check cX7_check 3 (some .int) 7 0 [.ref (a 0), .int x1] (c1, c2, M) (PqW r0 M0) := CtI_of (by decide +kernel) (Or.inl rfl) (List.forall_mem_cons.mpr ⟨rfl, List.forall_mem_cons.mpr ⟨rfl, fun _ h9 => nomatch h9⟩⟩) (Nat.le_of_ble_eq_true rfl) (fun G C hm => t_X7_check (o := (r0, M0)) C hm hf)
def f_X7_free (N : Nat) (M : Mm)  : Option Int32 := (bd (f_X7_filled N M (gI M 2) (gI M 3)) (fun r13 => (some ((gI M 1) - r13))))
set_option maxRecDepth 100000 in
set_option maxHeartbeats 4000000 in
theorem t_X7_free {Z : Zz} {G : Gm} {a : Nat → Nat} {N : Nat} {o : Int32} {c1 c2 : Nat} {M : Mm} (C : CX (wM Z a) Z tE G cX7_free RX7 3 (some .int) (PqR o (c1, c2, M)) 0) (hm : (Gc G).maxLocals = 1) (hf : f_X7_free N M  = some o) : V (wM Z a) Z G 0 0 [some (.ref (a 0))] [] (c1, c2, M) := by
  unfold f_X7_free at hf
  refine V_aload0 C (pc := 0) dX7_free_0 ?_
  refine gf_RX7_25 C (pc := 1) dX7_free_1 ?_
  refine V_aload0 C (pc := 4) dX7_free_4 ?_
  refine V_aload0 C (pc := 5) dX7_free_5 ?_
  refine gf_RX7_95 C (pc := 6) dX7_free_6 ?_
  refine V_aload0 C (pc := 9) dX7_free_9 ?_
  refine gf_RX7_98 C (pc := 10) dX7_free_10 ?_
  refine V_cR C (pc := 13) (dep2 := 2) (As := [.int (gI M 2), .int (gI M 3)]) (rest := [.int (gI M 1)]) (fun r0 h0 => c_X7_filled h0) lb_X7_filled lk_RX7_88 wm_t (by decide) (Nat.le_refl 0) 0 7 rfl rfl rfl rfl (Nat.le_of_ble_eq_true rfl) dX7_free_13 hf (fun r13 hf => ?_)
  refine V_isub C (pc := 16) dX7_free_16 ?_
  exact V_iret C (pc := 17) rfl (Nat.le_refl 0) dX7_free_17 ⟨hf, rfl⟩
set_option maxRecDepth 100000 in
theorem c_X7_free {Z : Zz} {a : Nat → Nat} {N : Nat} {c1 c2 : Nat} {M : Mm} {r0 : Int32} (hf : f_X7_free N M  = some r0) : CtI (wM Z a) Z tE yX7_free cX7_free 1 (some .int) 3 0 [.ref (a 0)] (c1, c2, M) (PqR r0 (c1, c2, M)) := CtI_of (by decide +kernel) (Or.inl rfl) (List.forall_mem_cons.mpr ⟨rfl, fun _ h9 => nomatch h9⟩) (Nat.le_of_ble_eq_true rfl) (fun G C hm => t_X7_free (o := r0) C hm hf)
def f_X7_ones_4 (N : Nat) (M : Mm) : Nat → Int32 → Int32 → Option Int32
  | 0, _, _ => none
  | n + 1, x1, x2 => (if (4096 : Int32) ≤ x2 then (some x1) else (if inb x2 4096 then (if (gA M 7 x2) = 0 then ((f_X7_ones_4 N M n) (x1 + (0 : Int32)) (x2 + (1 : Int32))) else ((f_X7_ones_4 N M n) (x1 + (1 : Int32)) (x2 + (1 : Int32)))) else none))
set_option maxRecDepth 100000 in
set_option maxHeartbeats 4000000 in
theorem t_X7_ones_4 {Z : Zz} {G : Gm} {a : Nat → Nat} {N : Nat} {o : Int32} {c1 c2 : Nat} {M : Mm} (C : CX (wM Z a) Z tE G cX7_ones RX7 0 (some .int) (PqR o (c1, c2, M)) 0) (hm : (Gc G).maxLocals = 3) : ∀ (n : Nat) (x1 x2 : Int32) , f_X7_ones_4 N M n x1 x2 = some o → V (wM Z a) Z G 0 4 [some (.ref (a 0)), some (.int x1), some (.int x2)] [] (c1, c2, M) := by
  intro n
  induction n with
  | zero => intro x1 x2 hf; rw [f_X7_ones_4] at hf; cases hf
  | succ n ih =>
    intro x1 x2 hf
    rw [f_X7_ones_4] at hf
    refine V_iload2 C (pc := 4) dX7_ones_4 ?_
    refine V_sipush C (pc := 5) (v := (4096 : Int32)) (by decide) dX7_ones_5 ?_
    refine V_icmp_ge C (pc := 8) (tgt := 34) dX7_ones_8 (by decide) hf (fun hf => ?_) (fun hf => ?_)
    · refine V_iload1 C (pc := 34) dX7_ones_34 ?_
      exact V_iret C (pc := 35) rfl (Nat.le_refl 0) dX7_ones_35 ⟨hf, rfl⟩
    · refine V_iload1 C (pc := 11) dX7_ones_11 ?_
      refine V_aload0 C (pc := 12) dX7_ones_12 ?_
      refine gf_RX7_32 C (pc := 13) dX7_ones_13 ?_
      refine V_iload2 C (pc := 16) dX7_ones_16 ?_
      refine alM_7 C (pc := 17) dX7_ones_17 hf (fun hf => ?_)
      refine V_if_eq C (pc := 18) (tgt := 25) dX7_ones_18 (by decide) hf (fun hf => ?_) (fun hf => ?_)
      · refine V_iconst C (pc := 25) (v := (0 : Int32)) (by decide) dX7_ones_25 ?_
        refine V_iadd C (pc := 26) dX7_ones_26 ?_
        refine V_istore1 C (pc := 27) dX7_ones_27 (by rw [hm]; decide) ?_
        refine V_iinc2 C (pc := 28) (c1 := (1 : Int32)) dX7_ones_28 (by decide) (by rw [hm]; decide) ?_
        refine V_goto C (pc := 31) (tgt := 4) dX7_ones_31 (by decide) ?_
        exact V.mono [true, true, true] rfl (ih _ _ hf)
      · refine V_iconst C (pc := 21) (v := (1 : Int32)) (by decide) dX7_ones_21 ?_
        refine V_goto C (pc := 22) (tgt := 26) dX7_ones_22 (by decide) ?_
        refine V_iadd C (pc := 26) dX7_ones_26 ?_
        refine V_istore1 C (pc := 27) dX7_ones_27 (by rw [hm]; decide) ?_
        refine V_iinc2 C (pc := 28) (c1 := (1 : Int32)) dX7_ones_28 (by decide) (by rw [hm]; decide) ?_
        refine V_goto C (pc := 31) (tgt := 4) dX7_ones_31 (by decide) ?_
        exact V.mono [true, true, true] rfl (ih _ _ hf)
def f_X7_ones (N : Nat) (M : Mm)  : Option Int32 := (f_X7_ones_4 N M N (0 : Int32) (0 : Int32))
set_option maxRecDepth 100000 in
set_option maxHeartbeats 4000000 in
theorem t_X7_ones {Z : Zz} {G : Gm} {a : Nat → Nat} {N : Nat} {o : Int32} {c1 c2 : Nat} {M : Mm} (C : CX (wM Z a) Z tE G cX7_ones RX7 0 (some .int) (PqR o (c1, c2, M)) 0) (hm : (Gc G).maxLocals = 3) (hf : f_X7_ones N M  = some o) : V (wM Z a) Z G 0 0 [some (.ref (a 0)), none, none] [] (c1, c2, M) := by
  unfold f_X7_ones at hf
  refine V_iconst C (pc := 0) (v := (0 : Int32)) (by decide) dX7_ones_0 ?_
  refine V_istore1 C (pc := 1) dX7_ones_1 (by rw [hm]; decide) ?_
  refine V_iconst C (pc := 2) (v := (0 : Int32)) (by decide) dX7_ones_2 ?_
  refine V_istore2 C (pc := 3) dX7_ones_3 (by rw [hm]; decide) ?_
  exact V.mono [true, true, true] rfl (t_X7_ones_4 C hm N _ _ hf)
set_option maxRecDepth 100000 in
theorem c_X7_ones {Z : Zz} {a : Nat → Nat} {N : Nat} {c1 c2 : Nat} {M : Mm} {r0 : Int32} (hf : f_X7_ones N M  = some r0) : CtI (wM Z a) Z tE yX7_ones cX7_ones 3 (some .int) 0 0 [.ref (a 0)] (c1, c2, M) (PqR r0 (c1, c2, M)) := CtI_of (by decide +kernel) (Or.inl rfl) (List.forall_mem_cons.mpr ⟨rfl, fun _ h9 => nomatch h9⟩) (Nat.le_of_ble_eq_true rfl) (fun G C hm => t_X7_ones (o := r0) C hm hf)
def f_X7_count_51 (N : Nat) (M : Mm) : Nat → Int32 → Int32 → Option Int32
  | 0, _, _ => none
  | n + 1, x2, x3 => (if (gI M 0) ≤ x3 then (some x2) else (bd (f_X7_has (gI M 2) x3) (fun r65 => (if r65 = 0 then ((f_X7_count_51 N M n) (x2 + (0 : Int32)) (x3 + (1 : Int32))) else ((f_X7_count_51 N M n) (x2 + (1 : Int32)) (x3 + (1 : Int32)))))))
set_option maxRecDepth 100000 in
set_option maxHeartbeats 4000000 in
theorem t_X7_count_51 {Z : Zz} {G : Gm} {a : Nat → Nat} {N : Nat} {o : Int32} {c1 c2 : Nat} {M : Mm} (C : CX (wM Z a) Z tE G cX7_count RX7 4 (some .int) (PqR o (c1, c2, M)) 0) (hm : (Gc G).maxLocals = 4) : ∀ (n : Nat) (x2 x3 : Int32) , f_X7_count_51 N M n x2 x3 = some o → V (wM Z a) Z G 0 51 [some (.ref (a 0)), none, some (.int x2), some (.int x3)] [] (c1, c2, M) := by
  intro n
  induction n with
  | zero => intro x2 x3 hf; rw [f_X7_count_51] at hf; cases hf
  | succ n ih =>
    intro x2 x3 hf
    rw [f_X7_count_51] at hf
    refine V_iload3 C (pc := 51) dX7_count_51 ?_
    refine V_aload0 C (pc := 52) dX7_count_52 ?_
    refine gf_RX7_73 C (pc := 53) dX7_count_53 ?_
    refine V_icmp_ge C (pc := 56) (tgt := 84) dX7_count_56 (by decide) hf (fun hf => ?_) (fun hf => ?_)
    · refine V_iload2 C (pc := 84) dX7_count_84 ?_
      exact V_iret C (pc := 85) rfl (Nat.le_refl 0) dX7_count_85 ⟨hf, rfl⟩
    · refine V_iload2 C (pc := 59) dX7_count_59 ?_
      refine V_aload0 C (pc := 60) dX7_count_60 ?_
      refine gf_RX7_95 C (pc := 61) dX7_count_61 ?_
      refine V_iload3 C (pc := 64) dX7_count_64 ?_
      refine V_cS C (pc := 65) (dep2 := 0) (As := [.int (gI M 2), .int x3]) (rest := [.int x2]) (fun r0 h0 => c_X7_has h0) lb_X7_has lk_RX7_76 (by decide) (Nat.le_refl 0) rfl rfl (Nat.le_of_ble_eq_true rfl) dX7_count_65 hf (fun r65 hf => ?_)
      refine V_if_eq C (pc := 68) (tgt := 75) dX7_count_68 (by decide) hf (fun hf => ?_) (fun hf => ?_)
      · refine V_iconst C (pc := 75) (v := (0 : Int32)) (by decide) dX7_count_75 ?_
        refine V_iadd C (pc := 76) dX7_count_76 ?_
        refine V_istore2 C (pc := 77) dX7_count_77 (by rw [hm]; decide) ?_
        refine V_iinc3 C (pc := 78) (c1 := (1 : Int32)) dX7_count_78 (by decide) (by rw [hm]; decide) ?_
        refine V_goto C (pc := 81) (tgt := 51) dX7_count_81 (by decide) ?_
        exact V.mono [true, false, true, true] rfl (ih _ _ hf)
      · refine V_iconst C (pc := 71) (v := (1 : Int32)) (by decide) dX7_count_71 ?_
        refine V_goto C (pc := 72) (tgt := 76) dX7_count_72 (by decide) ?_
        refine V_iadd C (pc := 76) dX7_count_76 ?_
        refine V_istore2 C (pc := 77) dX7_count_77 (by rw [hm]; decide) ?_
        refine V_iinc3 C (pc := 78) (c1 := (1 : Int32)) dX7_count_78 (by decide) (by rw [hm]; decide) ?_
        refine V_goto C (pc := 81) (tgt := 51) dX7_count_81 (by decide) ?_
        exact V.mono [true, false, true, true] rfl (ih _ _ hf)
def f_X7_count (N : Nat) (M : Mm) (x1 : Int32) : Option Int32 := (if x1 = 0 then (some (gI M 0)) else (if x1 = 1 then (f_X7_count_51 N M N (0 : Int32) (0 : Int32)) else (if x1 = 2 then (some (gI M 1)) else (if x1 = 3 then (bd (f_X7_free N M) (fun r92 => (some r92))) else (if x1 = 4 then (some (gI M 4)) else (if x1 = 5 then (some (gI M 6)) else (if x1 = 6 then (bd (f_X7_ones N M) (fun r107 => (some r107))) else (some (-2 : Int32)))))))))
set_option maxRecDepth 100000 in
set_option maxHeartbeats 4000000 in
theorem t_X7_count {Z : Zz} {G : Gm} {a : Nat → Nat} {N : Nat} {o : Int32} {c1 c2 : Nat} {M : Mm} {x1 : Int32} (C : CX (wM Z a) Z tE G cX7_count RX7 4 (some .int) (PqR o (c1, c2, M)) 0) (hm : (Gc G).maxLocals = 4) (hf : f_X7_count N M x1 = some o) : V (wM Z a) Z G 0 0 [some (.ref (a 0)), some (.int x1), none, none] [] (c1, c2, M) := by
  unfold f_X7_count at hf
  refine V_iconst C (pc := 0) (v := (0 : Int32)) (by decide) dX7_count_0 ?_
  refine V_istore2 C (pc := 1) dX7_count_1 (by rw [hm]; decide) ?_
  refine V_iload1 C (pc := 2) dX7_count_2 ?_
  refine V_ts7 C (pc := 3) (t0 := 44) (t1 := 49) (t2 := 86) (t3 := 91) (t4 := 96) (t5 := 101) (t6 := 106) (td := 111) dX7_count_3 (by decide) (by decide) (by decide) (by decide) (by decide) (by decide) (by decide) (by decide) hf (fun hf => ?_) (fun hf => ?_) (fun hf => ?_) (fun hf => ?_) (fun hf => ?_) (fun hf => ?_) (fun hf => ?_) (fun hf => ?_)
  · refine V_aload0 C (pc := 44) dX7_count_44 ?_
    refine gf_RX7_73 C (pc := 45) dX7_count_45 ?_
    exact V_iret C (pc := 48) rfl (Nat.le_refl 0) dX7_count_48 ⟨hf, rfl⟩
  · refine V_iconst C (pc := 49) (v := (0 : Int32)) (by decide) dX7_count_49 ?_
    refine V_istore3 C (pc := 50) dX7_count_50 (by rw [hm]; decide) ?_
    exact V.mono [true, false, true, true] rfl (t_X7_count_51 C hm N _ _ hf)
  · refine V_aload0 C (pc := 86) dX7_count_86 ?_
    refine gf_RX7_25 C (pc := 87) dX7_count_87 ?_
    exact V_iret C (pc := 90) rfl (Nat.le_refl 0) dX7_count_90 ⟨hf, rfl⟩
  · refine V_aload0 C (pc := 91) dX7_count_91 ?_
    refine V_cR C (pc := 92) (dep2 := 3) (As := []) (rest := []) (fun r0 h0 => c_X7_free h0) lb_X7_free lk_RX7_139 wm_t (by decide) (Nat.le_refl 0) 0 7 rfl rfl rfl rfl (Nat.le_of_ble_eq_true rfl) dX7_count_92 hf (fun r92 hf => ?_)
    exact V_iret C (pc := 95) rfl (Nat.le_refl 0) dX7_count_95 ⟨hf, rfl⟩
  · refine V_aload0 C (pc := 96) dX7_count_96 ?_
    refine gf_RX7_119 C (pc := 97) dX7_count_97 ?_
    exact V_iret C (pc := 100) rfl (Nat.le_refl 0) dX7_count_100 ⟨hf, rfl⟩
  · refine V_aload0 C (pc := 101) dX7_count_101 ?_
    refine gf_RX7_92 C (pc := 102) dX7_count_102 ?_
    exact V_iret C (pc := 105) rfl (Nat.le_refl 0) dX7_count_105 ⟨hf, rfl⟩
  · refine V_aload0 C (pc := 106) dX7_count_106 ?_
    refine V_cR C (pc := 107) (dep2 := 0) (As := []) (rest := []) (fun r0 h0 => c_X7_ones h0) lb_X7_ones lk_RX7_146 wm_t (by decide) (Nat.le_refl 0) 0 7 rfl rfl rfl rfl (Nat.le_of_ble_eq_true rfl) dX7_count_107 hf (fun r107 hf => ?_)
    exact V_iret C (pc := 110) rfl (Nat.le_refl 0) dX7_count_110 ⟨hf, rfl⟩
  · refine V_bipush C (pc := 111) (v := (-2 : Int32)) (by decide) dX7_count_111 ?_
    exact V_iret C (pc := 113) rfl (Nat.le_refl 0) dX7_count_113 ⟨hf, rfl⟩
set_option maxRecDepth 100000 in
theorem c_X7_count {Z : Zz} {a : Nat → Nat} {N : Nat} {c1 c2 : Nat} {M : Mm} {x1 : Int32} {r0 : Int32} (hf : f_X7_count N M x1 = some r0) : CtI (wM Z a) Z tE yX7_count cX7_count 4 (some .int) 4 0 [.ref (a 0), .int x1] (c1, c2, M) (PqR r0 (c1, c2, M)) := CtI_of (by decide +kernel) (Or.inl rfl) (List.forall_mem_cons.mpr ⟨rfl, List.forall_mem_cons.mpr ⟨rfl, fun _ h9 => nomatch h9⟩⟩) (Nat.le_of_ble_eq_true rfl) (fun G C hm => t_X7_count (o := r0) C hm hf)
def f_X7_needs_5 (N : Nat) (M : Mm) : Nat → Int32 → Int32 → Int32 → Int32 → Option Int32
  | 0, _, _, _, _ => none
  | n + 1, x1, x2, x3, x4 => (if inb x1 9 then (if (gA M 3 x1) ≤ x4 then (if isB x3 then some x3 else none) else (if inb (((4 : Int32) * x1) + x4) 36 then (if (gA M 4 (((4 : Int32) * x1) + x4)) = x2 then ((f_X7_needs_5 N M n) x1 x2 (x3 ||| (1 : Int32)) (x4 + (1 : Int32))) else ((f_X7_needs_5 N M n) x1 x2 (x3 ||| (0 : Int32)) (x4 + (1 : Int32)))) else none)) else none)
set_option maxRecDepth 100000 in
set_option maxHeartbeats 4000000 in
theorem t_X7_needs_5 {Z : Zz} {G : Gm} {a : Nat → Nat} {N : Nat} {o : Int32} {c1 c2 : Nat} {M : Mm} (C : CX (wM Z a) Z tE G cX7_needs RX7 0 (some .boolean) (PqR o (c1, c2, M)) 0) (hm : (Gc G).maxLocals = 5) : ∀ (n : Nat) (x1 x2 x3 x4 : Int32) , f_X7_needs_5 N M n x1 x2 x3 x4 = some o → V (wM Z a) Z G 0 5 [some (.ref (a 0)), some (.int x1), some (.int x2), some (.int x3), some (.int x4)] [] (c1, c2, M) := by
  intro n
  induction n with
  | zero => intro x1 x2 x3 x4 hf; rw [f_X7_needs_5] at hf; cases hf
  | succ n ih =>
    intro x1 x2 x3 x4 hf
    rw [f_X7_needs_5] at hf
    refine V_iload4 C (pc := 5) dX7_needs_5 ?_
    refine V_aload0 C (pc := 7) dX7_needs_7 ?_
    refine gf_RX7_16 C (pc := 8) dX7_needs_8 ?_
    refine V_iload1 C (pc := 11) dX7_needs_11 ?_
    refine alM_3 C (pc := 12) dX7_needs_12 hf (fun hf => ?_)
    refine V_icmp_ge C (pc := 13) (tgt := 45) dX7_needs_13 (by decide) hf (fun hf => ?_) (fun hf => ?_)
    · refine V_iload3 C (pc := 45) dX7_needs_45 ?_
      exact V_zret C (pc := 46) rfl (Nat.le_refl 0) (bgd hf).1 dX7_needs_46 ⟨(bgd hf).2, rfl⟩
    · refine V_iload3 C (pc := 16) dX7_needs_16 ?_
      refine V_aload0 C (pc := 17) dX7_needs_17 ?_
      refine gf_RX7_19 C (pc := 18) dX7_needs_18 ?_
      refine V_iconst C (pc := 21) (v := (4 : Int32)) (by decide) dX7_needs_21 ?_
      refine V_iload1 C (pc := 22) dX7_needs_22 ?_
      refine V_imul C (pc := 23) dX7_needs_23 ?_
      refine V_iload4 C (pc := 24) dX7_needs_24 ?_
      refine V_iadd C (pc := 26) dX7_needs_26 ?_
      refine alM_4 C (pc := 27) dX7_needs_27 hf (fun hf => ?_)
      refine V_iload2 C (pc := 28) dX7_needs_28 ?_
      refine V_icmp_ne C (pc := 29) (tgt := 36) dX7_needs_29 (by decide) hf (fun hf => ?_) (fun hf => ?_)
      · refine V_iconst C (pc := 36) (v := (0 : Int32)) (by decide) dX7_needs_36 ?_
        refine V_ior C (pc := 37) dX7_needs_37 ?_
        refine V_istore3 C (pc := 38) dX7_needs_38 (by rw [hm]; decide) ?_
        refine V_iinc4 C (pc := 39) (c1 := (1 : Int32)) dX7_needs_39 (by decide) (by rw [hm]; decide) ?_
        refine V_goto C (pc := 42) (tgt := 5) dX7_needs_42 (by decide) ?_
        exact V.mono [true, true, true, true, true] rfl (ih _ _ _ _ hf)
      · refine V_iconst C (pc := 32) (v := (1 : Int32)) (by decide) dX7_needs_32 ?_
        refine V_goto C (pc := 33) (tgt := 37) dX7_needs_33 (by decide) ?_
        refine V_ior C (pc := 37) dX7_needs_37 ?_
        refine V_istore3 C (pc := 38) dX7_needs_38 (by rw [hm]; decide) ?_
        refine V_iinc4 C (pc := 39) (c1 := (1 : Int32)) dX7_needs_39 (by decide) (by rw [hm]; decide) ?_
        refine V_goto C (pc := 42) (tgt := 5) dX7_needs_42 (by decide) ?_
        exact V.mono [true, true, true, true, true] rfl (ih _ _ _ _ hf)
def f_X7_needs (N : Nat) (M : Mm) (x1 : Int32) (x2 : Int32) : Option Int32 := (f_X7_needs_5 N M N x1 x2 (0 : Int32) (0 : Int32))
set_option maxRecDepth 100000 in
set_option maxHeartbeats 4000000 in
theorem t_X7_needs {Z : Zz} {G : Gm} {a : Nat → Nat} {N : Nat} {o : Int32} {c1 c2 : Nat} {M : Mm} {x1 x2 : Int32} (C : CX (wM Z a) Z tE G cX7_needs RX7 0 (some .boolean) (PqR o (c1, c2, M)) 0) (hm : (Gc G).maxLocals = 5) (hf : f_X7_needs N M x1 x2 = some o) : V (wM Z a) Z G 0 0 [some (.ref (a 0)), some (.int x1), some (.int x2), none, none] [] (c1, c2, M) := by
  unfold f_X7_needs at hf
  refine V_iconst C (pc := 0) (v := (0 : Int32)) (by decide) dX7_needs_0 ?_
  refine V_istore3 C (pc := 1) dX7_needs_1 (by rw [hm]; decide) ?_
  refine V_iconst C (pc := 2) (v := (0 : Int32)) (by decide) dX7_needs_2 ?_
  refine V_istore4 C (pc := 3) dX7_needs_3 (by rw [hm]; decide) ?_
  exact V.mono [true, true, true, true, true] rfl (t_X7_needs_5 C hm N _ _ _ _ hf)
set_option maxRecDepth 100000 in
theorem c_X7_needs {Z : Zz} {a : Nat → Nat} {N : Nat} {c1 c2 : Nat} {M : Mm} {x1 x2 : Int32} {r0 : Int32} (hf : f_X7_needs N M x1 x2 = some r0) : CtI (wM Z a) Z tE yX7_needs cX7_needs 5 (some .boolean) 0 0 [.ref (a 0), .int x1, .int x2] (c1, c2, M) (PqR r0 (c1, c2, M)) := CtI_of (by decide +kernel) (Or.inr rfl) (List.forall_mem_cons.mpr ⟨rfl, List.forall_mem_cons.mpr ⟨rfl, List.forall_mem_cons.mpr ⟨rfl, fun _ h9 => nomatch h9⟩⟩⟩) (Nat.le_of_ble_eq_true rfl) (fun G C hm => t_X7_needs (o := r0) C hm hf)
def f_X7_countSteps_23 (N : Nat) (k2 : Int32 → Int32 → Mm → Option Mm) (x1 : Int32) (x2 : Int32) (t1 : Int32) (t2 : Int32) (M : Mm) : Option Mm := (if inb t1 9 then (k2 x1 (x2 + (1 : Int32)) (sA M 12 t1 t2)) else none)
set_option maxRecDepth 100000 in
set_option maxHeartbeats 4000000 in
theorem t_X7_countSteps_23 {Z : Zz} {G : Gm} {a : Nat → Nat} {N : Nat} {o : Mm} {c1 c2 : Nat} {M : Mm} {k2 : Int32 → Int32 → Mm → Option Mm} {x1 x2 t1 t2 : Int32} (C : CX (wM Z a) Z tE G cX7_countSteps RX7 1 none (PqV o) 0) (hm : (Gc G).maxLocals = 6) (hk2 : ∀ (x1 x2 : Int32) (c1 c2 : Nat) (M : Mm), k2 x1 x2 M = some o → V (wM Z a) Z G 0 2 [some (.ref (a 0)), some (.int x1), some (.int x2), none, none, none] [] (c1, c2, M)) (hf : f_X7_countSteps_23 N k2 x1 x2 t1 t2 M = some o) : V (wM Z a) Z G 0 23 [some (.ref (a 0)), some (.int x1), some (.int x2), none, none, none] [.int t2, .int t1, .ref (a 12)] (c1, c2, M) := by
  unfold f_X7_countSteps_23 at hf
  refine asM_12 C (pc := 23) dX7_countSteps_23 hf (fun hf => ?_)
  refine V_iinc2 C (pc := 24) (c1 := (1 : Int32)) dX7_countSteps_24 (by decide) (by rw [hm]; decide) ?_
  refine V_goto C (pc := 27) (tgt := 2) dX7_countSteps_27 (by decide) ?_
  exact V.mono [true, true, true, false, false, false] rfl (hk2 _ _ c1 c2 (sA M 12 t1 t2) hf)
def f_X7_countSteps_131 (N : Nat) (k32 : Int32 → Mm → Option Mm) (k40 : Int32 → Int32 → Mm → Option Mm) (x2 : Int32) (x3 : Int32) (t1 : Int32) (t2 : Int32) (M : Mm) : Option Mm := (if inb t1 9 then (k40 x2 (x3 + (1 : Int32)) (sA M 12 t1 t2)) else none)
set_option maxRecDepth 100000 in
set_option maxHeartbeats 4000000 in
theorem t_X7_countSteps_131 {Z : Zz} {G : Gm} {a : Nat → Nat} {N : Nat} {o : Mm} {c1 c2 : Nat} {M : Mm} {k32 : Int32 → Mm → Option Mm} {k40 : Int32 → Int32 → Mm → Option Mm} {x2 x3 t1 t2 : Int32} (C : CX (wM Z a) Z tE G cX7_countSteps RX7 1 none (PqV o) 0) (hm : (Gc G).maxLocals = 6) (hk32 : ∀ (x2 : Int32) (c1 c2 : Nat) (M : Mm), k32 x2 M = some o → V (wM Z a) Z G 0 32 [some (.ref (a 0)), none, some (.int x2), none, none, none] [] (c1, c2, M)) (hk40 : ∀ (x2 x3 : Int32) (c1 c2 : Nat) (M : Mm), k40 x2 x3 M = some o → V (wM Z a) Z G 0 40 [some (.ref (a 0)), none, some (.int x2), some (.int x3), none, none] [] (c1, c2, M)) (hf : f_X7_countSteps_131 N k32 k40 x2 x3 t1 t2 M = some o) : V (wM Z a) Z G 0 131 [some (.ref (a 0)), none, some (.int x2), some (.int x3), none, none] [.int t2, .int t1, .ref (a 12)] (c1, c2, M) := by
  unfold f_X7_countSteps_131 at hf
  refine asM_12 C (pc := 131) dX7_countSteps_131 hf (fun hf => ?_)
  refine V_iinc3 C (pc := 132) (c1 := (1 : Int32)) dX7_countSteps_132 (by decide) (by rw [hm]; decide) ?_
  refine V_goto C (pc := 135) (tgt := 40) dX7_countSteps_135 (by decide) ?_
  exact V.mono [true, false, true, true, false, false] rfl (hk40 _ _ c1 c2 (sA M 12 t1 t2) hf)
def f_X7_countSteps_125 (N : Nat) (k32 : Int32 → Mm → Option Mm) (k40 : Int32 → Int32 → Mm → Option Mm) (x2 : Int32) (x3 : Int32) (t1 : Int32) (M : Mm) : Option Mm := (if inb x3 9 then (f_X7_countSteps_131 N k32 k40 x2 x3 t1 (gA M 12 x3) M) else none)
set_option maxRecDepth 100000 in
set_option maxHeartbeats 4000000 in
theorem t_X7_countSteps_125 {Z : Zz} {G : Gm} {a : Nat → Nat} {N : Nat} {o : Mm} {c1 c2 : Nat} {M : Mm} {k32 : Int32 → Mm → Option Mm} {k40 : Int32 → Int32 → Mm → Option Mm} {x2 x3 t1 : Int32} (C : CX (wM Z a) Z tE G cX7_countSteps RX7 1 none (PqV o) 0) (hm : (Gc G).maxLocals = 6) (hk32 : ∀ (x2 : Int32) (c1 c2 : Nat) (M : Mm), k32 x2 M = some o → V (wM Z a) Z G 0 32 [some (.ref (a 0)), none, some (.int x2), none, none, none] [] (c1, c2, M)) (hk40 : ∀ (x2 x3 : Int32) (c1 c2 : Nat) (M : Mm), k40 x2 x3 M = some o → V (wM Z a) Z G 0 40 [some (.ref (a 0)), none, some (.int x2), some (.int x3), none, none] [] (c1, c2, M)) (hf : f_X7_countSteps_125 N k32 k40 x2 x3 t1 M = some o) : V (wM Z a) Z G 0 125 [some (.ref (a 0)), none, some (.int x2), some (.int x3), none, none] [.int t1, .ref (a 12)] (c1, c2, M) := by
  unfold f_X7_countSteps_125 at hf
  refine V_aload0 C (pc := 125) dX7_countSteps_125 ?_
  refine gf_RX7_51 C (pc := 126) dX7_countSteps_126 ?_
  refine V_iload3 C (pc := 129) dX7_countSteps_129 ?_
  refine alM_12 C (pc := 130) dX7_countSteps_130 hf (fun hf => ?_)
  exact V.mono [true, false, true, true, false, false] rfl (t_X7_countSteps_131 C hm hk32 hk40 hf)
def f_X7_countSteps_54 (N : Nat) (k32 : Int32 → Mm → Option Mm) (k40 : Int32 → Int32 → Mm → Option Mm) : Nat → Int32 → Int32 → Int32 → Int32 → Mm → Option Mm
  | 0, _, _, _, _, _ => none
  | n + 1, x2, x3, x4, x5, M => (if (gI M 0) ≤ x5 then (if inb x3 9 then (if 0 ≤ (gA M 12 x3) then (f_X7_countSteps_125 N k32 k40 x2 x3 x3 M) else (if x4 = 0 then (f_X7_countSteps_125 N k32 k40 x2 x3 x3 M) else (f_X7_countSteps_131 N k32 k40 x2 x3 x3 x2 M))) else none) else (if inb x5 9 then (if (gA M 12 x5) = (x2 - (1 : Int32)) then (bd (f_X7_needs N M x3 x5) (fun r82 => (if r82 = 0 then ((f_X7_countSteps_54 N k32 k40 n) x2 x3 (x4 ||| (0 : Int32)) (x5 + (1 : Int32)) M) else ((f_X7_countSteps_54 N k32 k40 n) x2 x3 (x4 ||| (1 : Int32)) (x5 + (1 : Int32)) M)))) else ((f_X7_countSteps_54 N k32 k40 n) x2 x3 (x4 ||| (0 : Int32)) (x5 + (1 : Int32)) M)) else none))
set_option maxRecDepth 100000 in
set_option maxHeartbeats 4000000 in
theorem t_X7_countSteps_54 {Z : Zz} {G : Gm} {a : Nat → Nat} {N : Nat} {o : Mm} {k32 : Int32 → Mm → Option Mm} {k40 : Int32 → Int32 → Mm → Option Mm} (C : CX (wM Z a) Z tE G cX7_countSteps RX7 1 none (PqV o) 0) (hm : (Gc G).maxLocals = 6) (hk32 : ∀ (x2 : Int32) (c1 c2 : Nat) (M : Mm), k32 x2 M = some o → V (wM Z a) Z G 0 32 [some (.ref (a 0)), none, some (.int x2), none, none, none] [] (c1, c2, M)) (hk40 : ∀ (x2 x3 : Int32) (c1 c2 : Nat) (M : Mm), k40 x2 x3 M = some o → V (wM Z a) Z G 0 40 [some (.ref (a 0)), none, some (.int x2), some (.int x3), none, none] [] (c1, c2, M)) : ∀ (n : Nat) (x2 x3 x4 x5 : Int32) (c1 c2 : Nat) (M : Mm), f_X7_countSteps_54 N k32 k40 n x2 x3 x4 x5 M = some o → V (wM Z a) Z G 0 54 [some (.ref (a 0)), none, some (.int x2), some (.int x3), some (.int x4), some (.int x5)] [] (c1, c2, M) := by
  intro n
  induction n with
  | zero => intro x2 x3 x4 x5 c1 c2 M hf; rw [f_X7_countSteps_54] at hf; cases hf
  | succ n ih =>
    intro x2 x3 x4 x5 c1 c2 M hf
    rw [f_X7_countSteps_54] at hf
    refine V_iload5 C (pc := 54) dX7_countSteps_54 ?_
    refine V_aload0 C (pc := 56) dX7_countSteps_56 ?_
    refine gf_RX7_73 C (pc := 57) dX7_countSteps_57 ?_
    refine V_icmp_ge C (pc := 60) (tgt := 102) dX7_countSteps_60 (by decide) hf (fun hf => ?_) (fun hf => ?_)
    · refine V_aload0 C (pc := 102) dX7_countSteps_102 ?_
      refine gf_RX7_51 C (pc := 103) dX7_countSteps_103 ?_
      refine V_iload3 C (pc := 106) dX7_countSteps_106 ?_
      refine V_aload0 C (pc := 107) dX7_countSteps_107 ?_
      refine gf_RX7_51 C (pc := 108) dX7_countSteps_108 ?_
      refine V_iload3 C (pc := 111) dX7_countSteps_111 ?_
      refine alM_12 C (pc := 112) dX7_countSteps_112 hf (fun hf => ?_)
      refine V_if_ge C (pc := 113) (tgt := 125) dX7_countSteps_113 (by decide) hf (fun hf => ?_) (fun hf => ?_)
      · exact V.mono [true, false, true, true, false, false] rfl (t_X7_countSteps_125 C hm hk32 hk40 hf)
      · refine V_iload4 C (pc := 116) dX7_countSteps_116 ?_
        refine V_if_eq C (pc := 118) (tgt := 125) dX7_countSteps_118 (by decide) hf (fun hf => ?_) (fun hf => ?_)
        · exact V.mono [true, false, true, true, false, false] rfl (t_X7_countSteps_125 C hm hk32 hk40 hf)
        · refine V_iload2 C (pc := 121) dX7_countSteps_121 ?_
          refine V_goto C (pc := 122) (tgt := 131) dX7_countSteps_122 (by decide) ?_
          exact V.mono [true, false, true, true, false, false] rfl (t_X7_countSteps_131 C hm hk32 hk40 hf)
    · refine V_iload4 C (pc := 63) dX7_countSteps_63 ?_
      refine V_aload0 C (pc := 65) dX7_countSteps_65 ?_
      refine gf_RX7_51 C (pc := 66) dX7_countSteps_66 ?_
      refine V_iload5 C (pc := 69) dX7_countSteps_69 ?_
      refine alM_12 C (pc := 71) dX7_countSteps_71 hf (fun hf => ?_)
      refine V_iload2 C (pc := 72) dX7_countSteps_72 ?_
      refine V_iconst C (pc := 73) (v := (1 : Int32)) (by decide) dX7_countSteps_73 ?_
      refine V_isub C (pc := 74) dX7_countSteps_74 ?_
      refine V_icmp_ne C (pc := 75) (tgt := 92) dX7_countSteps_75 (by decide) hf (fun hf => ?_) (fun hf => ?_)
      · refine V_iconst C (pc := 92) (v := (0 : Int32)) (by decide) dX7_countSteps_92 ?_
        refine V_ior C (pc := 93) dX7_countSteps_93 ?_
        refine V_istore4 C (pc := 94) dX7_countSteps_94 (by rw [hm]; decide) ?_
        refine V_iinc5 C (pc := 96) (c1 := (1 : Int32)) dX7_countSteps_96 (by decide) (by rw [hm]; decide) ?_
        refine V_goto C (pc := 99) (tgt := 54) dX7_countSteps_99 (by decide) ?_
        exact V.mono [true, false, true, true, true, true] rfl (ih _ _ _ _ c1 c2 M hf)
      · refine V_aload0 C (pc := 78) dX7_countSteps_78 ?_
        refine V_iload3 C (pc := 79) dX7_countSteps_79 ?_
        refine V_iload5 C (pc := 80) dX7_countSteps_80 ?_
        refine V_cR C (pc := 82) (dep2 := 0) (As := [.int x3, .int x5]) (rest := [.int x4]) (fun r0 h0 => c_X7_needs h0) lb_X7_needs lk_RX7_105 wm_t (by decide) (Nat.le_refl 0) 0 7 rfl rfl rfl rfl (Nat.le_of_ble_eq_true rfl) dX7_countSteps_82 hf (fun r82 hf => ?_)
        refine V_if_eq C (pc := 85) (tgt := 92) dX7_countSteps_85 (by decide) hf (fun hf => ?_) (fun hf => ?_)
        · refine V_iconst C (pc := 92) (v := (0 : Int32)) (by decide) dX7_countSteps_92 ?_
          refine V_ior C (pc := 93) dX7_countSteps_93 ?_
          refine V_istore4 C (pc := 94) dX7_countSteps_94 (by rw [hm]; decide) ?_
          refine V_iinc5 C (pc := 96) (c1 := (1 : Int32)) dX7_countSteps_96 (by decide) (by rw [hm]; decide) ?_
          refine V_goto C (pc := 99) (tgt := 54) dX7_countSteps_99 (by decide) ?_
          exact V.mono [true, false, true, true, true, true] rfl (ih _ _ _ _ c1 c2 M hf)
        · refine V_iconst C (pc := 88) (v := (1 : Int32)) (by decide) dX7_countSteps_88 ?_
          refine V_goto C (pc := 89) (tgt := 93) dX7_countSteps_89 (by decide) ?_
          refine V_ior C (pc := 93) dX7_countSteps_93 ?_
          refine V_istore4 C (pc := 94) dX7_countSteps_94 (by rw [hm]; decide) ?_
          refine V_iinc5 C (pc := 96) (c1 := (1 : Int32)) dX7_countSteps_96 (by decide) (by rw [hm]; decide) ?_
          refine V_goto C (pc := 99) (tgt := 54) dX7_countSteps_99 (by decide) ?_
          exact V.mono [true, false, true, true, true, true] rfl (ih _ _ _ _ c1 c2 M hf)
def f_X7_countSteps_40 (N : Nat) (k32 : Int32 → Mm → Option Mm) : Nat → Int32 → Int32 → Mm → Option Mm
  | 0, _, _, _ => none
  | n + 1, x2, x3, M => (if (gI M 0) ≤ x3 then (k32 (x2 + (1 : Int32)) M) else (f_X7_countSteps_54 N k32 (f_X7_countSteps_40 N k32 n) N x2 x3 (0 : Int32) (0 : Int32) M))
set_option maxRecDepth 100000 in
set_option maxHeartbeats 4000000 in
theorem t_X7_countSteps_40 {Z : Zz} {G : Gm} {a : Nat → Nat} {N : Nat} {o : Mm} {k32 : Int32 → Mm → Option Mm} (C : CX (wM Z a) Z tE G cX7_countSteps RX7 1 none (PqV o) 0) (hm : (Gc G).maxLocals = 6) (hk32 : ∀ (x2 : Int32) (c1 c2 : Nat) (M : Mm), k32 x2 M = some o → V (wM Z a) Z G 0 32 [some (.ref (a 0)), none, some (.int x2), none, none, none] [] (c1, c2, M)) : ∀ (n : Nat) (x2 x3 : Int32) (c1 c2 : Nat) (M : Mm), f_X7_countSteps_40 N k32 n x2 x3 M = some o → V (wM Z a) Z G 0 40 [some (.ref (a 0)), none, some (.int x2), some (.int x3), none, none] [] (c1, c2, M) := by
  intro n
  induction n with
  | zero => intro x2 x3 c1 c2 M hf; rw [f_X7_countSteps_40] at hf; cases hf
  | succ n ih =>
    intro x2 x3 c1 c2 M hf
    rw [f_X7_countSteps_40] at hf
    refine V_iload3 C (pc := 40) dX7_countSteps_40 ?_
    refine V_aload0 C (pc := 41) dX7_countSteps_41 ?_
    refine gf_RX7_73 C (pc := 42) dX7_countSteps_42 ?_
    refine V_icmp_ge C (pc := 45) (tgt := 138) dX7_countSteps_45 (by decide) hf (fun hf => ?_) (fun hf => ?_)
    · refine V_iinc2 C (pc := 138) (c1 := (1 : Int32)) dX7_countSteps_138 (by decide) (by rw [hm]; decide) ?_
      refine V_goto C (pc := 141) (tgt := 32) dX7_countSteps_141 (by decide) ?_
      exact V.mono [true, false, true, false, false, false] rfl (hk32 _ c1 c2 M hf)
    · refine V_iconst C (pc := 48) (v := (0 : Int32)) (by decide) dX7_countSteps_48 ?_
      refine V_istore4 C (pc := 49) dX7_countSteps_49 (by rw [hm]; decide) ?_
      refine V_iconst C (pc := 51) (v := (0 : Int32)) (by decide) dX7_countSteps_51 ?_
      refine V_istore5 C (pc := 52) dX7_countSteps_52 (by rw [hm]; decide) ?_
      exact V.mono [true, false, true, true, true, true] rfl (t_X7_countSteps_54 C hm hk32 ih N _ _ _ _ c1 c2 M hf)
def f_X7_countSteps_32 (N : Nat) : Nat → Int32 → Mm → Option Mm
  | 0, _, _ => none
  | n + 1, x2, M => (if (9 : Int32) ≤ x2 then (some M) else (f_X7_countSteps_40 N (f_X7_countSteps_32 N n) N x2 (0 : Int32) M))
set_option maxRecDepth 100000 in
set_option maxHeartbeats 4000000 in
theorem t_X7_countSteps_32 {Z : Zz} {G : Gm} {a : Nat → Nat} {N : Nat} {o : Mm} (C : CX (wM Z a) Z tE G cX7_countSteps RX7 1 none (PqV o) 0) (hm : (Gc G).maxLocals = 6) : ∀ (n : Nat) (x2 : Int32) (c1 c2 : Nat) (M : Mm), f_X7_countSteps_32 N n x2 M = some o → V (wM Z a) Z G 0 32 [some (.ref (a 0)), none, some (.int x2), none, none, none] [] (c1, c2, M) := by
  intro n
  induction n with
  | zero => intro x2 c1 c2 M hf; rw [f_X7_countSteps_32] at hf; cases hf
  | succ n ih =>
    intro x2 c1 c2 M hf
    rw [f_X7_countSteps_32] at hf
    refine V_iload2 C (pc := 32) dX7_countSteps_32 ?_
    refine V_bipush C (pc := 33) (v := (9 : Int32)) (by decide) dX7_countSteps_33 ?_
    refine V_icmp_ge C (pc := 35) (tgt := 144) dX7_countSteps_35 (by decide) hf (fun hf => ?_) (fun hf => ?_)
    · exact V_vret C (pc := 144) rfl (Nat.le_refl 0) dX7_countSteps_144 (pqV hf)
    · refine V_iconst C (pc := 38) (v := (0 : Int32)) (by decide) dX7_countSteps_38 ?_
      refine V_istore3 C (pc := 39) dX7_countSteps_39 (by rw [hm]; decide) ?_
      exact V.mono [true, false, true, true, false, false] rfl (t_X7_countSteps_40 C hm ih N _ _ c1 c2 M hf)
def f_X7_countSteps_2 (N : Nat) : Nat → Int32 → Int32 → Mm → Option Mm
  | 0, _, _, _ => none
  | n + 1, x1, x2, M => (if (9 : Int32) ≤ x2 then (f_X7_countSteps_32 N N (1 : Int32) M) else (if x2 = x1 then (f_X7_countSteps_23 N (f_X7_countSteps_2 N n) x1 x2 x2 (0 : Int32) M) else (f_X7_countSteps_23 N (f_X7_countSteps_2 N n) x1 x2 x2 (-1 : Int32) M)))
set_option maxRecDepth 100000 in
set_option maxHeartbeats 4000000 in
theorem t_X7_countSteps_2 {Z : Zz} {G : Gm} {a : Nat → Nat} {N : Nat} {o : Mm} (C : CX (wM Z a) Z tE G cX7_countSteps RX7 1 none (PqV o) 0) (hm : (Gc G).maxLocals = 6) : ∀ (n : Nat) (x1 x2 : Int32) (c1 c2 : Nat) (M : Mm), f_X7_countSteps_2 N n x1 x2 M = some o → V (wM Z a) Z G 0 2 [some (.ref (a 0)), some (.int x1), some (.int x2), none, none, none] [] (c1, c2, M) := by
  intro n
  induction n with
  | zero => intro x1 x2 c1 c2 M hf; rw [f_X7_countSteps_2] at hf; cases hf
  | succ n ih =>
    intro x1 x2 c1 c2 M hf
    rw [f_X7_countSteps_2] at hf
    refine V_iload2 C (pc := 2) dX7_countSteps_2 ?_
    refine V_bipush C (pc := 3) (v := (9 : Int32)) (by decide) dX7_countSteps_3 ?_
    refine V_icmp_ge C (pc := 5) (tgt := 30) dX7_countSteps_5 (by decide) hf (fun hf => ?_) (fun hf => ?_)
    · refine V_iconst C (pc := 30) (v := (1 : Int32)) (by decide) dX7_countSteps_30 ?_
      refine V_istore2 C (pc := 31) dX7_countSteps_31 (by rw [hm]; decide) ?_
      exact V.mono [true, false, true, false, false, false] rfl (t_X7_countSteps_32 C hm N _ c1 c2 M hf)
    · refine V_aload0 C (pc := 8) dX7_countSteps_8 ?_
      refine gf_RX7_51 C (pc := 9) dX7_countSteps_9 ?_
      refine V_iload2 C (pc := 12) dX7_countSteps_12 ?_
      refine V_iload2 C (pc := 13) dX7_countSteps_13 ?_
      refine V_iload1 C (pc := 14) dX7_countSteps_14 ?_
      refine V_icmp_ne C (pc := 15) (tgt := 22) dX7_countSteps_15 (by decide) hf (fun hf => ?_) (fun hf => ?_)
      · refine V_iconst C (pc := 22) (v := (-1 : Int32)) (by decide) dX7_countSteps_22 ?_
        exact V.mono [true, true, true, false, false, false] rfl (t_X7_countSteps_23 C hm ih hf)
      · refine V_iconst C (pc := 18) (v := (0 : Int32)) (by decide) dX7_countSteps_18 ?_
        refine V_goto C (pc := 19) (tgt := 23) dX7_countSteps_19 (by decide) ?_
        exact V.mono [true, true, true, false, false, false] rfl (t_X7_countSteps_23 C hm ih hf)
def f_X7_countSteps (N : Nat) (x1 : Int32) (M : Mm) : Option Mm := (f_X7_countSteps_2 N N x1 (0 : Int32) M)
set_option maxRecDepth 100000 in
set_option maxHeartbeats 4000000 in
theorem t_X7_countSteps {Z : Zz} {G : Gm} {a : Nat → Nat} {N : Nat} {o : Mm} {c1 c2 : Nat} {M : Mm} {x1 : Int32} (C : CX (wM Z a) Z tE G cX7_countSteps RX7 1 none (PqV o) 0) (hm : (Gc G).maxLocals = 6) (hf : f_X7_countSteps N x1 M = some o) : V (wM Z a) Z G 0 0 [some (.ref (a 0)), some (.int x1), none, none, none, none] [] (c1, c2, M) := by
  unfold f_X7_countSteps at hf
  refine V_iconst C (pc := 0) (v := (0 : Int32)) (by decide) dX7_countSteps_0 ?_
  refine V_istore2 C (pc := 1) dX7_countSteps_1 (by rw [hm]; decide) ?_
  exact V.mono [true, true, true, false, false, false] rfl (t_X7_countSteps_2 C hm N _ _ c1 c2 M hf)
set_option maxRecDepth 100000 in
theorem c_X7_countSteps {Z : Zz} {a : Nat → Nat} {N : Nat} {c1 c2 : Nat} {M : Mm} {x1 : Int32} {M0 : Mm} (hf : f_X7_countSteps N x1 M = some M0) : CtV (wM Z a) Z tE yX7_countSteps cX7_countSteps 6 1 0 [.ref (a 0), .int x1] (c1, c2, M) (PqV M0) := CtV_of (by decide +kernel) (List.forall_mem_cons.mpr ⟨rfl, List.forall_mem_cons.mpr ⟨rfl, fun _ h9 => nomatch h9⟩⟩) (Nat.le_of_ble_eq_true rfl) (fun G C hm => t_X7_countSteps (o := M0) C hm hf)
def f_X7_price (x0 : Int32) : Option Int32 := (if (9 : Int32) ≤ x0 then (some (1 : Int32)) else (some (65536 : Int32)))
set_option maxRecDepth 100000 in
set_option maxHeartbeats 4000000 in
theorem t_X7_price {Z : Zz} {G : Gm} {ws : va_W} {o : Int32} {x0 : Int32} (C : CX (fun _ : Unit => ws) Z tE G cX7_price RX7 0 (some .int) (PqR o ()) 0) (hm : (Gc G).maxLocals = 1) (hf : f_X7_price x0 = some o) : V (fun _ : Unit => ws) Z G 0 0 [some (.int x0)] [] () := by
  unfold f_X7_price at hf
  refine V_iload0 C (pc := 0) dX7_price_0 ?_
  refine V_bipush C (pc := 1) (v := (9 : Int32)) (by decide) dX7_price_1 ?_
  refine V_icmp_ge C (pc := 3) (tgt := 11) dX7_price_3 (by decide) hf (fun hf => ?_) (fun hf => ?_)
  · refine V_iconst C (pc := 11) (v := (1 : Int32)) (by decide) dX7_price_11 ?_
    exact V_iret C (pc := 12) rfl (Nat.le_refl 0) dX7_price_12 ⟨hf, rfl⟩
  · refine V_ldc C (pc := 6) wk_RX7_155 dX7_price_6 ?_
    refine V_goto C (pc := 8) (tgt := 12) dX7_price_8 (by decide) ?_
    exact V_iret C (pc := 12) rfl (Nat.le_refl 0) dX7_price_12 ⟨hf, rfl⟩
set_option maxRecDepth 100000 in
theorem c_X7_price {Z : Zz} {ws : va_W} {x0 : Int32} {r0 : Int32} (hf : f_X7_price x0 = some r0) : CtI (fun _ : Unit => ws) Z tE yX7_price cX7_price 1 (some .int) 0 0 [.int x0] () (PqR r0 ()) := CtI_of (by decide +kernel) (Or.inl rfl) (List.forall_mem_cons.mpr ⟨rfl, fun _ h9 => nomatch h9⟩) (Nat.le_of_ble_eq_true rfl) (fun G C hm => t_X7_price (o := r0) C hm hf)
def f_X7_isEnd (N : Nat) (M : Mm) (x1 : Int32) (x2 : Int32) : Option Int32 := (if (gI M 5) = 0 then (if x2 = (((1 : Int32) <<< ((gI M 4) &&& 31)) - (1 : Int32)) then (some (1 : Int32)) else (some (0 : Int32))) else (bd (f_X7_stand N M x1) (fun r9 => (if isB r9 then some r9 else none))))
set_option maxRecDepth 100000 in
set_option maxHeartbeats 4000000 in
theorem t_X7_isEnd {Z : Zz} {G : Gm} {a : Nat → Nat} {N : Nat} {o : Int32} {c1 c2 : Nat} {M : Mm} {x1 x2 : Int32} (C : CX (wM Z a) Z tE G cX7_isEnd RX7 2 (some .boolean) (PqR o (c1, c2, M)) 0) (hm : (Gc G).maxLocals = 3) (hf : f_X7_isEnd N M x1 x2 = some o) : V (wM Z a) Z G 0 0 [some (.ref (a 0)), some (.int x1), some (.int x2)] [] (c1, c2, M) := by
  unfold f_X7_isEnd at hf
  refine V_aload0 C (pc := 0) dX7_isEnd_0 ?_
  refine gf_RX7_122 C (pc := 1) dX7_isEnd_1 ?_
  refine V_if_eq C (pc := 4) (tgt := 15) dX7_isEnd_4 (by decide) hf (fun hf => ?_) (fun hf => ?_)
  · refine V_iload2 C (pc := 15) dX7_isEnd_15 ?_
    refine V_iconst C (pc := 16) (v := (1 : Int32)) (by decide) dX7_isEnd_16 ?_
    refine V_aload0 C (pc := 17) dX7_isEnd_17 ?_
    refine gf_RX7_119 C (pc := 18) dX7_isEnd_18 ?_
    refine V_ishl C (pc := 21) dX7_isEnd_21 ?_
    refine V_iconst C (pc := 22) (v := (1 : Int32)) (by decide) dX7_isEnd_22 ?_
    refine V_isub C (pc := 23) dX7_isEnd_23 ?_
    refine V_icmp_ne C (pc := 24) (tgt := 31) dX7_isEnd_24 (by decide) hf (fun hf => ?_) (fun hf => ?_)
    · refine V_iconst C (pc := 31) (v := (0 : Int32)) (by decide) dX7_isEnd_31 ?_
      exact V_zret C (pc := 32) rfl (Nat.le_refl 0) (by decide) dX7_isEnd_32 ⟨hf, rfl⟩
    · refine V_iconst C (pc := 27) (v := (1 : Int32)) (by decide) dX7_isEnd_27 ?_
      refine V_goto C (pc := 28) (tgt := 32) dX7_isEnd_28 (by decide) ?_
      exact V_zret C (pc := 32) rfl (Nat.le_refl 0) (by decide) dX7_isEnd_32 ⟨hf, rfl⟩
  · refine V_aload0 C (pc := 7) dX7_isEnd_7 ?_
    refine V_iload1 C (pc := 8) dX7_isEnd_8 ?_
    refine V_cR C (pc := 9) (dep2 := 1) (As := [.int x1]) (rest := []) (fun r0 h0 => c_X7_stand h0) lb_X7_stand lk_RX7_149 wm_t (by decide) (Nat.le_refl 0) 0 7 rfl rfl rfl rfl (Nat.le_of_ble_eq_true rfl) dX7_isEnd_9 hf (fun r9 hf => ?_)
    refine V_goto C (pc := 12) (tgt := 32) dX7_isEnd_12 (by decide) ?_
    exact V_zret C (pc := 32) rfl (Nat.le_refl 0) (bgd hf).1 dX7_isEnd_32 ⟨(bgd hf).2, rfl⟩
set_option maxRecDepth 100000 in
theorem c_X7_isEnd {Z : Zz} {a : Nat → Nat} {N : Nat} {c1 c2 : Nat} {M : Mm} {x1 x2 : Int32} {r0 : Int32} (hf : f_X7_isEnd N M x1 x2 = some r0) : CtI (wM Z a) Z tE yX7_isEnd cX7_isEnd 3 (some .boolean) 2 0 [.ref (a 0), .int x1, .int x2] (c1, c2, M) (PqR r0 (c1, c2, M)) := CtI_of (by decide +kernel) (Or.inr rfl) (List.forall_mem_cons.mpr ⟨rfl, List.forall_mem_cons.mpr ⟨rfl, List.forall_mem_cons.mpr ⟨rfl, fun _ h9 => nomatch h9⟩⟩⟩) (Nat.le_of_ble_eq_true rfl) (fun G C hm => t_X7_isEnd (o := r0) C hm hf)
def f_X7_spread_80 (N : Nat) (k47 : Int32 → Int32 → Int32 → Mm → Option (Int32 × Mm)) : Nat → Int32 → Int32 → Int32 → Int32 → Int32 → Mm → Option (Int32 × Mm)
  | 0, _, _, _, _, _, _ => none
  | n + 1, x1, x2, x3, x4, x5, M => (if (18 : Int32) ≤ x5 then (k47 x1 x2 x3 M) else (bd (f_X7_behind N M x4 x5 x1) (fun r93 => (if r93 < 0 then ((f_X7_spread_80 N k47 n) x1 x2 x3 x4 (x5 + (1 : Int32)) M) else (if inb x4 40960 then (bd (f_X7_price x5) (fun r112 => (if inb r93 40960 then (if (gA M 13 r93) ≤ ((gA M 13 x4) + r112) then ((f_X7_spread_80 N k47 n) x1 x2 x3 x4 (x5 + (1 : Int32)) M) else (if inb x4 40960 then (bd (f_X7_price x5) (fun r141 => (if inb r93 40960 then (if inb r93 40960 then (if (gA (sA M 13 r93 ((gA M 13 x4) + r141)) 14 r93) = 0 then (if inb r93 40960 then (if inb ((x2 + x3) - (x2 + x3) / (40960 : Int32) * (40960 : Int32)) 40960 then ((f_X7_spread_80 N k47 n) x1 x2 (x3 + (1 : Int32)) x4 (x5 + (1 : Int32)) (sA (sA (sA M 13 r93 ((gA M 13 x4) + r141)) 14 r93 (vp_nar .boolean (1 : Int32))) 15 ((x2 + x3) - (x2 + x3) / (40960 : Int32) * (40960 : Int32)) r93)) else none) else none) else ((f_X7_spread_80 N k47 n) x1 x2 x3 x4 (x5 + (1 : Int32)) (sA M 13 r93 ((gA M 13 x4) + r141)))) else none) else none))) else none)) else none))) else none)))))
set_option maxRecDepth 100000 in
set_option maxHeartbeats 4000000 in
theorem t_X7_spread_80 {Z : Zz} {G : Gm} {a : Nat → Nat} {N : Nat} {o : (Int32 × Mm)} {k47 : Int32 → Int32 → Int32 → Mm → Option (Int32 × Mm)} (C : CX (wM Z a) Z tE G cX7_spread RX7 5 (some .int) (PqW o.1 o.2) 0) (hm : (Gc G).maxLocals = 7) (hk47 : ∀ (x1 x2 x3 : Int32) (c1 c2 : Nat) (M : Mm), k47 x1 x2 x3 M = some o → V (wM Z a) Z G 0 47 [some (.ref (a 0)), some (.int x1), some (.int x2), some (.int x3), none, none, none] [] (c1, c2, M)) : ∀ (n : Nat) (x1 x2 x3 x4 x5 : Int32) (c1 c2 : Nat) (M : Mm), f_X7_spread_80 N k47 n x1 x2 x3 x4 x5 M = some o → V (wM Z a) Z G 0 80 [some (.ref (a 0)), some (.int x1), some (.int x2), some (.int x3), some (.int x4), some (.int x5), none] [] (c1, c2, M) := by
  intro n
  induction n with
  | zero => intro x1 x2 x3 x4 x5 c1 c2 M hf; rw [f_X7_spread_80] at hf; cases hf
  | succ n ih =>
    intro x1 x2 x3 x4 x5 c1 c2 M hf
    rw [f_X7_spread_80] at hf
    refine V_iload5 C (pc := 80) dX7_spread_80 ?_
    refine V_bipush C (pc := 82) (v := (18 : Int32)) (by decide) dX7_spread_82 ?_
    refine V_icmp_ge C (pc := 84) (tgt := 186) dX7_spread_84 (by decide) hf (fun hf => ?_) (fun hf => ?_)
    · refine V_goto C (pc := 186) (tgt := 47) dX7_spread_186 (by decide) ?_
      exact V.mono [true, true, true, true, false, false, false] rfl (hk47 _ _ _ c1 c2 M hf)
    · refine V_aload0 C (pc := 87) dX7_spread_87 ?_
      refine V_iload4 C (pc := 88) dX7_spread_88 ?_
      refine V_iload5 C (pc := 90) dX7_spread_90 ?_
      refine V_iload1 C (pc := 92) dX7_spread_92 ?_
      refine V_cR C (pc := 93) (dep2 := 4) (As := [.int x4, .int x5, .int x1]) (rest := []) (fun r0 h0 => c_X7_behind h0) lb_X7_behind lk_RX7_157 wm_t (by decide) (Nat.le_refl 0) 0 7 rfl rfl rfl rfl (Nat.le_of_ble_eq_true rfl) dX7_spread_93 hf (fun r93 hf => ?_)
      refine V_istore6 C (pc := 96) dX7_spread_96 (by rw [hm]; decide) ?_
      refine V_iload6 C (pc := 98) dX7_spread_98 ?_
      refine V_if_lt C (pc := 100) (tgt := 180) dX7_spread_100 (by decide) hf (fun hf => ?_) (fun hf => ?_)
      · refine V_iinc5 C (pc := 180) (c1 := (1 : Int32)) dX7_spread_180 (by decide) (by rw [hm]; decide) ?_
        refine V_goto C (pc := 183) (tgt := 80) dX7_spread_183 (by decide) ?_
        exact V.mono [true, true, true, true, true, true, false] rfl (ih _ _ _ _ _ c1 c2 M hf)
      · refine V_aload0 C (pc := 103) dX7_spread_103 ?_
        refine gf_RX7_55 C (pc := 104) dX7_spread_104 ?_
        refine V_iload4 C (pc := 107) dX7_spread_107 ?_
        refine alM_13 C (pc := 109) dX7_spread_109 hf (fun hf => ?_)
        refine V_iload5 C (pc := 110) dX7_spread_110 ?_
        refine V_cS C (pc := 112) (dep2 := 0) (As := [.int x5]) (rest := [.int (gA M 13 x4)]) (fun r0 h0 => c_X7_price h0) lb_X7_price lk_RX7_160 (by decide) (Nat.le_refl 0) rfl rfl (Nat.le_of_ble_eq_true rfl) dX7_spread_112 hf (fun r112 hf => ?_)
        refine V_iadd C (pc := 115) dX7_spread_115 ?_
        refine V_aload0 C (pc := 116) dX7_spread_116 ?_
        refine gf_RX7_55 C (pc := 117) dX7_spread_117 ?_
        refine V_iload6 C (pc := 120) dX7_spread_120 ?_
        refine alM_13 C (pc := 122) dX7_spread_122 hf (fun hf => ?_)
        refine V_icmp_ge C (pc := 123) (tgt := 180) dX7_spread_123 (by decide) hf (fun hf => ?_) (fun hf => ?_)
        · refine V_iinc5 C (pc := 180) (c1 := (1 : Int32)) dX7_spread_180 (by decide) (by rw [hm]; decide) ?_
          refine V_goto C (pc := 183) (tgt := 80) dX7_spread_183 (by decide) ?_
          exact V.mono [true, true, true, true, true, true, false] rfl (ih _ _ _ _ _ c1 c2 M hf)
        · refine V_aload0 C (pc := 126) dX7_spread_126 ?_
          refine gf_RX7_55 C (pc := 127) dX7_spread_127 ?_
          refine V_iload6 C (pc := 130) dX7_spread_130 ?_
          refine V_aload0 C (pc := 132) dX7_spread_132 ?_
          refine gf_RX7_55 C (pc := 133) dX7_spread_133 ?_
          refine V_iload4 C (pc := 136) dX7_spread_136 ?_
          refine alM_13 C (pc := 138) dX7_spread_138 hf (fun hf => ?_)
          refine V_iload5 C (pc := 139) dX7_spread_139 ?_
          refine V_cS C (pc := 141) (dep2 := 0) (As := [.int x5]) (rest := [.int (gA M 13 x4), .int r93, .ref (a 13)]) (fun r0 h0 => c_X7_price h0) lb_X7_price lk_RX7_160 (by decide) (Nat.le_refl 0) rfl rfl (Nat.le_of_ble_eq_true rfl) dX7_spread_141 hf (fun r141 hf => ?_)
          refine V_iadd C (pc := 144) dX7_spread_144 ?_
          refine asM_13 C (pc := 145) dX7_spread_145 hf (fun hf => ?_)
          refine V_aload0 C (pc := 146) dX7_spread_146 ?_
          refine gf_RX7_58 C (pc := 147) dX7_spread_147 ?_
          refine V_iload6 C (pc := 150) dX7_spread_150 ?_
          refine alM_14 C (pc := 152) dX7_spread_152 hf (fun hf => ?_)
          refine V_if_ne C (pc := 153) (tgt := 180) dX7_spread_153 (by decide) hf (fun hf => ?_) (fun hf => ?_)
          · refine V_iinc5 C (pc := 180) (c1 := (1 : Int32)) dX7_spread_180 (by decide) (by rw [hm]; decide) ?_
            refine V_goto C (pc := 183) (tgt := 80) dX7_spread_183 (by decide) ?_
            exact V.mono [true, true, true, true, true, true, false] rfl (ih _ _ _ _ _ c1 c2 (sA M 13 r93 ((gA M 13 x4) + r141)) hf)
          · refine V_aload0 C (pc := 156) dX7_spread_156 ?_
            refine gf_RX7_58 C (pc := 157) dX7_spread_157 ?_
            refine V_iload6 C (pc := 160) dX7_spread_160 ?_
            refine V_iconst C (pc := 162) (v := (1 : Int32)) (by decide) dX7_spread_162 ?_
            refine asM_14 C (pc := 163) dX7_spread_163 hf (fun hf => ?_)
            refine V_aload0 C (pc := 164) dX7_spread_164 ?_
            refine gf_RX7_61 C (pc := 165) dX7_spread_165 ?_
            refine V_iload2 C (pc := 168) dX7_spread_168 ?_
            refine V_iload3 C (pc := 169) dX7_spread_169 ?_
            refine V_iadd C (pc := 170) dX7_spread_170 ?_
            refine V_ldc C (pc := 171) wk_RX7_54 dX7_spread_171 ?_
            refine V_irem C (pc := 173) (by decide) dX7_spread_173 ?_
            refine V_iload6 C (pc := 174) dX7_spread_174 ?_
            refine asM_15 C (pc := 176) dX7_spread_176 hf (fun hf => ?_)
            refine V_iinc3 C (pc := 177) (c1 := (1 : Int32)) dX7_spread_177 (by decide) (by rw [hm]; decide) ?_
            refine V_iinc5 C (pc := 180) (c1 := (1 : Int32)) dX7_spread_180 (by decide) (by rw [hm]; decide) ?_
            refine V_goto C (pc := 183) (tgt := 80) dX7_spread_183 (by decide) ?_
            exact V.mono [true, true, true, true, true, true, false] rfl (ih _ _ _ _ _ c1 c2 (sA (sA (sA M 13 r93 ((gA M 13 x4) + r141)) 14 r93 (vp_nar .boolean (1 : Int32))) 15 ((x2 + x3) - (x2 + x3) / (40960 : Int32) * (40960 : Int32)) r93) hf)
def f_X7_spread_246 (N : Nat) (k196 : Int32 → Int32 → Mm → Option (Int32 × Mm)) (x5 : Int32) (M : Mm) : Option (Int32 × Mm) := (if inb x5 40960 then (k196 (gA M 13 x5) (x5 + (1 : Int32)) M) else none)
set_option maxRecDepth 100000 in
set_option maxHeartbeats 4000000 in
theorem t_X7_spread_246 {Z : Zz} {G : Gm} {a : Nat → Nat} {N : Nat} {o : (Int32 × Mm)} {c1 c2 : Nat} {M : Mm} {k196 : Int32 → Int32 → Mm → Option (Int32 × Mm)} {x5 : Int32} (C : CX (wM Z a) Z tE G cX7_spread RX7 5 (some .int) (PqW o.1 o.2) 0) (hm : (Gc G).maxLocals = 7) (hk196 : ∀ (x4 x5 : Int32) (c1 c2 : Nat) (M : Mm), k196 x4 x5 M = some o → V (wM Z a) Z G 0 196 [some (.ref (a 0)), none, none, none, some (.int x4), some (.int x5), none] [] (c1, c2, M)) (hf : f_X7_spread_246 N k196 x5 M = some o) : V (wM Z a) Z G 0 246 [some (.ref (a 0)), none, none, none, none, some (.int x5), none] [] (c1, c2, M) := by
  unfold f_X7_spread_246 at hf
  refine V_aload0 C (pc := 246) dX7_spread_246 ?_
  refine gf_RX7_55 C (pc := 247) dX7_spread_247 ?_
  refine V_iload5 C (pc := 250) dX7_spread_250 ?_
  refine alM_13 C (pc := 252) dX7_spread_252 hf (fun hf => ?_)
  refine V_goto C (pc := 253) (tgt := 258) dX7_spread_253 (by decide) ?_
  refine V_istore4 C (pc := 258) dX7_spread_258 (by rw [hm]; decide) ?_
  refine V_iinc5 C (pc := 260) (c1 := (1 : Int32)) dX7_spread_260 (by decide) (by rw [hm]; decide) ?_
  refine V_goto C (pc := 263) (tgt := 196) dX7_spread_263 (by decide) ?_
  exact V.mono [true, false, false, false, true, true, false] rfl (hk196 _ _ c1 c2 M hf)
def f_X7_spread_196 (N : Nat) : Nat → Int32 → Int32 → Mm → Option (Int32 × Mm)
  | 0, _, _, _ => none
  | n + 1, x4, x5, M => (if (40960 : Int32) ≤ x5 then (some (x4, M)) else (if inb x5 40960 then (if x4 ≤ (gA M 13 x5) then ((f_X7_spread_196 N n) x4 (x5 + (1 : Int32)) M) else (bd (f_X7_isEnd N M (x5 - x5 / (512 : Int32) * (512 : Int32)) (x5 / (5120 : Int32))) (fun r228 => (if r228 = 0 then ((f_X7_spread_196 N n) x4 (x5 + (1 : Int32)) M) else (if 0 < x5 then (f_X7_spread_246 N (f_X7_spread_196 N n) x5 M) else (if (gI M 4) = 0 then (f_X7_spread_246 N (f_X7_spread_196 N n) x5 M) else ((f_X7_spread_196 N n) x4 (x5 + (1 : Int32)) M))))))) else none))
set_option maxRecDepth 100000 in
set_option maxHeartbeats 4000000 in
theorem t_X7_spread_196 {Z : Zz} {G : Gm} {a : Nat → Nat} {N : Nat} {o : (Int32 × Mm)} (C : CX (wM Z a) Z tE G cX7_spread RX7 5 (some .int) (PqW o.1 o.2) 0) (hm : (Gc G).maxLocals = 7) : ∀ (n : Nat) (x4 x5 : Int32) (c1 c2 : Nat) (M : Mm), f_X7_spread_196 N n x4 x5 M = some o → V (wM Z a) Z G 0 196 [some (.ref (a 0)), none, none, none, some (.int x4), some (.int x5), none] [] (c1, c2, M) := by
  intro n
  induction n with
  | zero => intro x4 x5 c1 c2 M hf; rw [f_X7_spread_196] at hf; cases hf
  | succ n ih =>
    intro x4 x5 c1 c2 M hf
    rw [f_X7_spread_196] at hf
    refine V_iload5 C (pc := 196) dX7_spread_196 ?_
    refine V_ldc C (pc := 198) wk_RX7_54 dX7_spread_198 ?_
    refine V_icmp_ge C (pc := 200) (tgt := 266) dX7_spread_200 (by decide) hf (fun hf => ?_) (fun hf => ?_)
    · refine V_iload4 C (pc := 266) dX7_spread_266 ?_
      exact V_iret C (pc := 268) rfl (Nat.le_refl 0) dX7_spread_268 (pqW hf)
    · refine V_aload0 C (pc := 203) dX7_spread_203 ?_
      refine gf_RX7_55 C (pc := 204) dX7_spread_204 ?_
      refine V_iload5 C (pc := 207) dX7_spread_207 ?_
      refine alM_13 C (pc := 209) dX7_spread_209 hf (fun hf => ?_)
      refine V_iload4 C (pc := 210) dX7_spread_210 ?_
      refine V_icmp_ge C (pc := 212) (tgt := 256) dX7_spread_212 (by decide) hf (fun hf => ?_) (fun hf => ?_)
      · refine V_iload4 C (pc := 256) dX7_spread_256 ?_
        refine V_istore4 C (pc := 258) dX7_spread_258 (by rw [hm]; decide) ?_
        refine V_iinc5 C (pc := 260) (c1 := (1 : Int32)) dX7_spread_260 (by decide) (by rw [hm]; decide) ?_
        refine V_goto C (pc := 263) (tgt := 196) dX7_spread_263 (by decide) ?_
        exact V.mono [true, false, false, false, true, true, false] rfl (ih _ _ c1 c2 M hf)
      · refine V_aload0 C (pc := 215) dX7_spread_215 ?_
        refine V_iload5 C (pc := 216) dX7_spread_216 ?_
        refine V_sipush C (pc := 218) (v := (512 : Int32)) (by decide) dX7_spread_218 ?_
        refine V_irem C (pc := 221) (by decide) dX7_spread_221 ?_
        refine V_iload5 C (pc := 222) dX7_spread_222 ?_
        refine V_sipush C (pc := 224) (v := (5120 : Int32)) (by decide) dX7_spread_224 ?_
        refine V_idiv C (pc := 227) (by decide) dX7_spread_227 ?_
        refine V_cR C (pc := 228) (dep2 := 2) (As := [.int (x5 - x5 / (512 : Int32) * (512 : Int32)), .int (x5 / (5120 : Int32))]) (rest := []) (fun r0 h0 => c_X7_isEnd h0) lb_X7_isEnd lk_RX7_163 wm_t (by decide) (Nat.le_refl 0) 0 7 rfl rfl rfl rfl (Nat.le_of_ble_eq_true rfl) dX7_spread_228 hf (fun r228 hf => ?_)
        refine V_if_eq C (pc := 231) (tgt := 256) dX7_spread_231 (by decide) hf (fun hf => ?_) (fun hf => ?_)
        · refine V_iload4 C (pc := 256) dX7_spread_256 ?_
          refine V_istore4 C (pc := 258) dX7_spread_258 (by rw [hm]; decide) ?_
          refine V_iinc5 C (pc := 260) (c1 := (1 : Int32)) dX7_spread_260 (by decide) (by rw [hm]; decide) ?_
          refine V_goto C (pc := 263) (tgt := 196) dX7_spread_263 (by decide) ?_
          exact V.mono [true, false, false, false, true, true, false] rfl (ih _ _ c1 c2 M hf)
        · refine V_iload5 C (pc := 234) dX7_spread_234 ?_
          refine V_if_gt C (pc := 236) (tgt := 246) dX7_spread_236 (by decide) hf (fun hf => ?_) (fun hf => ?_)
          · exact V.mono [true, false, false, false, false, true, false] rfl (t_X7_spread_246 C hm ih hf)
          · refine V_aload0 C (pc := 239) dX7_spread_239 ?_
            refine gf_RX7_119 C (pc := 240) dX7_spread_240 ?_
            refine V_if_ne C (pc := 243) (tgt := 256) dX7_spread_243 (by decide) hf (fun hf => ?_) (fun hf => ?_)
            · refine V_iload4 C (pc := 256) dX7_spread_256 ?_
              refine V_istore4 C (pc := 258) dX7_spread_258 (by rw [hm]; decide) ?_
              refine V_iinc5 C (pc := 260) (c1 := (1 : Int32)) dX7_spread_260 (by decide) (by rw [hm]; decide) ?_
              refine V_goto C (pc := 263) (tgt := 196) dX7_spread_263 (by decide) ?_
              exact V.mono [true, false, false, false, true, true, false] rfl (ih _ _ c1 c2 M hf)
            · exact V.mono [true, false, false, false, false, true, false] rfl (t_X7_spread_246 C hm ih hf)
def f_X7_spread_47 (N : Nat) : Nat → Int32 → Int32 → Int32 → Mm → Option (Int32 × Mm)
  | 0, _, _, _, _ => none
  | n + 1, x1, x2, x3, M => (if x3 ≤ 0 then (f_X7_spread_196 N N (1000000000 : Int32) (0 : Int32) M) else (if inb x2 40960 then (if inb (gA M 15 x2) 40960 then (f_X7_spread_80 N (f_X7_spread_47 N n) N x1 ((x2 + (1 : Int32)) - (x2 + (1 : Int32)) / (40960 : Int32) * (40960 : Int32)) (x3 + (-1 : Int32)) (gA M 15 x2) (0 : Int32) (sA M 14 (gA M 15 x2) (vp_nar .boolean (0 : Int32)))) else none) else none))
set_option maxRecDepth 100000 in
set_option maxHeartbeats 4000000 in
theorem t_X7_spread_47 {Z : Zz} {G : Gm} {a : Nat → Nat} {N : Nat} {o : (Int32 × Mm)} (C : CX (wM Z a) Z tE G cX7_spread RX7 5 (some .int) (PqW o.1 o.2) 0) (hm : (Gc G).maxLocals = 7) : ∀ (n : Nat) (x1 x2 x3 : Int32) (c1 c2 : Nat) (M : Mm), f_X7_spread_47 N n x1 x2 x3 M = some o → V (wM Z a) Z G 0 47 [some (.ref (a 0)), some (.int x1), some (.int x2), some (.int x3), none, none, none] [] (c1, c2, M) := by
  intro n
  induction n with
  | zero => intro x1 x2 x3 c1 c2 M hf; rw [f_X7_spread_47] at hf; cases hf
  | succ n ih =>
    intro x1 x2 x3 c1 c2 M hf
    rw [f_X7_spread_47] at hf
    refine V_iload3 C (pc := 47) dX7_spread_47 ?_
    refine V_if_le C (pc := 48) (tgt := 189) dX7_spread_48 (by decide) hf (fun hf => ?_) (fun hf => ?_)
    · refine V_ldc C (pc := 189) wk_RX7_156 dX7_spread_189 ?_
      refine V_istore4 C (pc := 191) dX7_spread_191 (by rw [hm]; decide) ?_
      refine V_iconst C (pc := 193) (v := (0 : Int32)) (by decide) dX7_spread_193 ?_
      refine V_istore5 C (pc := 194) dX7_spread_194 (by rw [hm]; decide) ?_
      exact V.mono [true, false, false, false, true, true, false] rfl (t_X7_spread_196 C hm N _ _ c1 c2 M hf)
    · refine V_aload0 C (pc := 51) dX7_spread_51 ?_
      refine gf_RX7_61 C (pc := 52) dX7_spread_52 ?_
      refine V_iload2 C (pc := 55) dX7_spread_55 ?_
      refine alM_15 C (pc := 56) dX7_spread_56 hf (fun hf => ?_)
      refine V_istore4 C (pc := 57) dX7_spread_57 (by rw [hm]; decide) ?_
      refine V_iload2 C (pc := 59) dX7_spread_59 ?_
      refine V_iconst C (pc := 60) (v := (1 : Int32)) (by decide) dX7_spread_60 ?_
      refine V_iadd C (pc := 61) dX7_spread_61 ?_
      refine V_ldc C (pc := 62) wk_RX7_54 dX7_spread_62 ?_
      refine V_irem C (pc := 64) (by decide) dX7_spread_64 ?_
      refine V_istore2 C (pc := 65) dX7_spread_65 (by rw [hm]; decide) ?_
      refine V_iinc3 C (pc := 66) (c1 := (-1 : Int32)) dX7_spread_66 (by decide) (by rw [hm]; decide) ?_
      refine V_aload0 C (pc := 69) dX7_spread_69 ?_
      refine gf_RX7_58 C (pc := 70) dX7_spread_70 ?_
      refine V_iload4 C (pc := 73) dX7_spread_73 ?_
      refine V_iconst C (pc := 75) (v := (0 : Int32)) (by decide) dX7_spread_75 ?_
      refine asM_14 C (pc := 76) dX7_spread_76 hf (fun hf => ?_)
      refine V_iconst C (pc := 77) (v := (0 : Int32)) (by decide) dX7_spread_77 ?_
      refine V_istore5 C (pc := 78) dX7_spread_78 (by rw [hm]; decide) ?_
      exact V.mono [true, true, true, true, true, true, false] rfl (t_X7_spread_80 C hm ih N _ _ _ _ _ c1 c2 (sA M 14 (gA M 15 x2) (vp_nar .boolean (0 : Int32))) hf)
def f_X7_spread_2 (N : Nat) : Nat → Int32 → Int32 → Mm → Option (Int32 × Mm)
  | 0, _, _, _ => none
  | n + 1, x1, x2, M => (if (40960 : Int32) ≤ x2 then (if inb (0 : Int32) 40960 then (if inb (0 : Int32) 40960 then (f_X7_spread_47 N N x1 (0 : Int32) (1 : Int32) (sA (sA M 13 (0 : Int32) (0 : Int32)) 15 (0 : Int32) (0 : Int32))) else none) else none) else (if inb x2 40960 then (if inb x2 40960 then ((f_X7_spread_2 N n) x1 (x2 + (1 : Int32)) (sA (sA M 13 x2 (1000000000 : Int32)) 14 x2 (vp_nar .boolean (0 : Int32)))) else none) else none))
set_option maxRecDepth 100000 in
set_option maxHeartbeats 4000000 in
theorem t_X7_spread_2 {Z : Zz} {G : Gm} {a : Nat → Nat} {N : Nat} {o : (Int32 × Mm)} (C : CX (wM Z a) Z tE G cX7_spread RX7 5 (some .int) (PqW o.1 o.2) 0) (hm : (Gc G).maxLocals = 7) : ∀ (n : Nat) (x1 x2 : Int32) (c1 c2 : Nat) (M : Mm), f_X7_spread_2 N n x1 x2 M = some o → V (wM Z a) Z G 0 2 [some (.ref (a 0)), some (.int x1), some (.int x2), none, none, none, none] [] (c1, c2, M) := by
  intro n
  induction n with
  | zero => intro x1 x2 c1 c2 M hf; rw [f_X7_spread_2] at hf; cases hf
  | succ n ih =>
    intro x1 x2 c1 c2 M hf
    rw [f_X7_spread_2] at hf
    refine V_iload2 C (pc := 2) dX7_spread_2 ?_
    refine V_ldc C (pc := 3) wk_RX7_54 dX7_spread_3 ?_
    refine V_icmp_ge C (pc := 5) (tgt := 29) dX7_spread_5 (by decide) hf (fun hf => ?_) (fun hf => ?_)
    · refine V_aload0 C (pc := 29) dX7_spread_29 ?_
      refine gf_RX7_55 C (pc := 30) dX7_spread_30 ?_
      refine V_iconst C (pc := 33) (v := (0 : Int32)) (by decide) dX7_spread_33 ?_
      refine V_iconst C (pc := 34) (v := (0 : Int32)) (by decide) dX7_spread_34 ?_
      refine asM_13 C (pc := 35) dX7_spread_35 hf (fun hf => ?_)
      refine V_iconst C (pc := 36) (v := (0 : Int32)) (by decide) dX7_spread_36 ?_
      refine V_istore2 C (pc := 37) dX7_spread_37 (by rw [hm]; decide) ?_
      refine V_iconst C (pc := 38) (v := (1 : Int32)) (by decide) dX7_spread_38 ?_
      refine V_istore3 C (pc := 39) dX7_spread_39 (by rw [hm]; decide) ?_
      refine V_aload0 C (pc := 40) dX7_spread_40 ?_
      refine gf_RX7_61 C (pc := 41) dX7_spread_41 ?_
      refine V_iconst C (pc := 44) (v := (0 : Int32)) (by decide) dX7_spread_44 ?_
      refine V_iconst C (pc := 45) (v := (0 : Int32)) (by decide) dX7_spread_45 ?_
      refine asM_15 C (pc := 46) dX7_spread_46 hf (fun hf => ?_)
      exact V.mono [true, true, true, true, false, false, false] rfl (t_X7_spread_47 C hm N _ _ _ c1 c2 (sA (sA M 13 (0 : Int32) (0 : Int32)) 15 (0 : Int32) (0 : Int32)) hf)
    · refine V_aload0 C (pc := 8) dX7_spread_8 ?_
      refine gf_RX7_55 C (pc := 9) dX7_spread_9 ?_
      refine V_iload2 C (pc := 12) dX7_spread_12 ?_
      refine V_ldc C (pc := 13) wk_RX7_156 dX7_spread_13 ?_
      refine asM_13 C (pc := 15) dX7_spread_15 hf (fun hf => ?_)
      refine V_aload0 C (pc := 16) dX7_spread_16 ?_
      refine gf_RX7_58 C (pc := 17) dX7_spread_17 ?_
      refine V_iload2 C (pc := 20) dX7_spread_20 ?_
      refine V_iconst C (pc := 21) (v := (0 : Int32)) (by decide) dX7_spread_21 ?_
      refine asM_14 C (pc := 22) dX7_spread_22 hf (fun hf => ?_)
      refine V_iinc2 C (pc := 23) (c1 := (1 : Int32)) dX7_spread_23 (by decide) (by rw [hm]; decide) ?_
      refine V_goto C (pc := 26) (tgt := 2) dX7_spread_26 (by decide) ?_
      exact V.mono [true, true, true, false, false, false, false] rfl (ih _ _ c1 c2 (sA (sA M 13 x2 (1000000000 : Int32)) 14 x2 (vp_nar .boolean (0 : Int32))) hf)
def f_X7_spread (N : Nat) (x1 : Int32) (M : Mm) : Option (Int32 × Mm) := (f_X7_spread_2 N N x1 (0 : Int32) M)
set_option maxRecDepth 100000 in
set_option maxHeartbeats 4000000 in
theorem t_X7_spread {Z : Zz} {G : Gm} {a : Nat → Nat} {N : Nat} {o : (Int32 × Mm)} {c1 c2 : Nat} {M : Mm} {x1 : Int32} (C : CX (wM Z a) Z tE G cX7_spread RX7 5 (some .int) (PqW o.1 o.2) 0) (hm : (Gc G).maxLocals = 7) (hf : f_X7_spread N x1 M = some o) : V (wM Z a) Z G 0 0 [some (.ref (a 0)), some (.int x1), none, none, none, none, none] [] (c1, c2, M) := by
  unfold f_X7_spread at hf
  refine V_iconst C (pc := 0) (v := (0 : Int32)) (by decide) dX7_spread_0 ?_
  refine V_istore2 C (pc := 1) dX7_spread_1 (by rw [hm]; decide) ?_
  exact V.mono [true, true, true, false, false, false, false] rfl (t_X7_spread_2 C hm N _ _ c1 c2 M hf)
set_option maxRecDepth 100000 in
theorem c_X7_spread {Z : Zz} {a : Nat → Nat} {N : Nat} {c1 c2 : Nat} {M : Mm} {x1 : Int32} {r0 : Int32} {M0 : Mm} (hf : f_X7_spread N x1 M = some (r0, M0)) : CtI (wM Z a) Z tE yX7_spread cX7_spread 7 (some .int) 5 0 [.ref (a 0), .int x1] (c1, c2, M) (PqW r0 M0) := CtI_of (by decide +kernel) (Or.inl rfl) (List.forall_mem_cons.mpr ⟨rfl, List.forall_mem_cons.mpr ⟨rfl, fun _ h9 => nomatch h9⟩⟩) (Nat.le_of_ble_eq_true rfl) (fun G C hm => t_X7_spread (o := (r0, M0)) C hm hf)
def f_X7_fewest (N : Nat) (x1 : Int32) (M : Mm) : Option (Int32 × Mm) := (if x1 < (1 : Int32) then (some ((-2 : Int32), M)) else (if x1 ≤ (18 : Int32) then (bd2 (f_X7_spread N x1 M) (fun r16 M16 => (if r16 = (1000000000 : Int32) then (some ((-1 : Int32), M16)) else (some ((r16 / (65536 : Int32)), M16))))) else (some ((-2 : Int32), M))))
set_option maxRecDepth 100000 in
set_option maxHeartbeats 4000000 in
theorem t_X7_fewest {Z : Zz} {G : Gm} {a : Nat → Nat} {N : Nat} {o : (Int32 × Mm)} {c1 c2 : Nat} {M : Mm} {x1 : Int32} (C : CX (wM Z a) Z tE G cX7_fewest RX7 6 (some .int) (PqW o.1 o.2) 0) (hm : (Gc G).maxLocals = 3) (hf : f_X7_fewest N x1 M = some o) : V (wM Z a) Z G 0 0 [some (.ref (a 0)), some (.int x1), none] [] (c1, c2, M) := by
  unfold f_X7_fewest at hf
  refine V_iload1 C (pc := 0) dX7_fewest_0 ?_
  refine V_iconst C (pc := 1) (v := (1 : Int32)) (by decide) dX7_fewest_1 ?_
  refine V_icmp_lt C (pc := 2) (tgt := 11) dX7_fewest_2 (by decide) hf (fun hf => ?_) (fun hf => ?_)
  · refine V_bipush C (pc := 11) (v := (-2 : Int32)) (by decide) dX7_fewest_11 ?_
    exact V_iret C (pc := 13) rfl (Nat.le_refl 0) dX7_fewest_13 (pqW hf)
  · refine V_iload1 C (pc := 5) dX7_fewest_5 ?_
    refine V_bipush C (pc := 6) (v := (18 : Int32)) (by decide) dX7_fewest_6 ?_
    refine V_icmp_le C (pc := 8) (tgt := 14) dX7_fewest_8 (by decide) hf (fun hf => ?_) (fun hf => ?_)
    · refine V_aload0 C (pc := 14) dX7_fewest_14 ?_
      refine V_iload1 C (pc := 15) dX7_fewest_15 ?_
      refine V_cW C (pc := 16) (dep2 := 5) (As := [.int x1]) (rest := []) (fun r0 M0 h0 => c_X7_spread h0) lb_X7_spread lk_RX7_169 wm_t (by decide) (Nat.le_refl 0) 0 7 rfl rfl rfl rfl (Nat.le_of_ble_eq_true rfl) dX7_fewest_16 hf (fun r16 c1 c2 M16 hf => ?_)
      refine V_istore2 C (pc := 19) dX7_fewest_19 (by rw [hm]; decide) ?_
      refine V_iload2 C (pc := 20) dX7_fewest_20 ?_
      refine V_ldc C (pc := 21) wk_RX7_156 dX7_fewest_21 ?_
      refine V_icmp_ne C (pc := 23) (tgt := 30) dX7_fewest_23 (by decide) hf (fun hf => ?_) (fun hf => ?_)
      · refine V_iload2 C (pc := 30) dX7_fewest_30 ?_
        refine V_ldc C (pc := 31) wk_RX7_155 dX7_fewest_31 ?_
        refine V_idiv C (pc := 33) (by decide) dX7_fewest_33 ?_
        exact V_iret C (pc := 34) rfl (Nat.le_refl 0) dX7_fewest_34 (pqW hf)
      · refine V_iconst C (pc := 26) (v := (-1 : Int32)) (by decide) dX7_fewest_26 ?_
        refine V_goto C (pc := 27) (tgt := 34) dX7_fewest_27 (by decide) ?_
        exact V_iret C (pc := 34) rfl (Nat.le_refl 0) dX7_fewest_34 (pqW hf)
    · refine V_bipush C (pc := 11) (v := (-2 : Int32)) (by decide) dX7_fewest_11 ?_
      exact V_iret C (pc := 13) rfl (Nat.le_refl 0) dX7_fewest_13 (pqW hf)
set_option maxRecDepth 100000 in
theorem c_X7_fewest {Z : Zz} {a : Nat → Nat} {N : Nat} {c1 c2 : Nat} {M : Mm} {x1 : Int32} {r0 : Int32} {M0 : Mm} (hf : f_X7_fewest N x1 M = some (r0, M0)) : CtI (wM Z a) Z tE yX7_fewest cX7_fewest 3 (some .int) 6 0 [.ref (a 0), .int x1] (c1, c2, M) (PqW r0 M0) := CtI_of (by decide +kernel) (Or.inl rfl) (List.forall_mem_cons.mpr ⟨rfl, List.forall_mem_cons.mpr ⟨rfl, fun _ h9 => nomatch h9⟩⟩) (Nat.le_of_ble_eq_true rfl) (fun G C hm => t_X7_fewest (o := (r0, M0)) C hm hf)
def f_X7_flip_33 (x1 : Int32) (t1 : Int32) (t2 : Int32) (M : Mm) : Option (Int32 × Mm) := (if inb t1 4096 then (if inb x1 4096 then (if (gA (sA M 7 t1 (vp_nar .boolean t2)) 7 x1) = 0 then (some ((0 : Int32), (sA M 7 t1 (vp_nar .boolean t2)))) else (some ((1 : Int32), (sA M 7 t1 (vp_nar .boolean t2))))) else none) else none)
set_option maxRecDepth 100000 in
set_option maxHeartbeats 4000000 in
theorem t_X7_flip_33 {Z : Zz} {G : Gm} {a : Nat → Nat} {o : (Int32 × Mm)} {c1 c2 : Nat} {M : Mm} {x1 t1 t2 : Int32} (C : CX (wM Z a) Z tE G cX7_flip RX7 0 (some .int) (PqW o.1 o.2) 0) (hm : (Gc G).maxLocals = 2) (hf : f_X7_flip_33 x1 t1 t2 M = some o) : V (wM Z a) Z G 0 33 [some (.ref (a 0)), some (.int x1)] [.int t2, .int t1, .ref (a 7)] (c1, c2, M) := by
  unfold f_X7_flip_33 at hf
  refine asM_7 C (pc := 33) dX7_flip_33 hf (fun hf => ?_)
  refine V_aload0 C (pc := 34) dX7_flip_34 ?_
  refine gf_RX7_32 C (pc := 35) dX7_flip_35 ?_
  refine V_iload1 C (pc := 38) dX7_flip_38 ?_
  refine alM_7 C (pc := 39) dX7_flip_39 hf (fun hf => ?_)
  refine V_if_eq C (pc := 40) (tgt := 47) dX7_flip_40 (by decide) hf (fun hf => ?_) (fun hf => ?_)
  · refine V_iconst C (pc := 47) (v := (0 : Int32)) (by decide) dX7_flip_47 ?_
    exact V_iret C (pc := 48) rfl (Nat.le_refl 0) dX7_flip_48 (pqW hf)
  · refine V_iconst C (pc := 43) (v := (1 : Int32)) (by decide) dX7_flip_43 ?_
    refine V_goto C (pc := 44) (tgt := 48) dX7_flip_44 (by decide) ?_
    exact V_iret C (pc := 48) rfl (Nat.le_refl 0) dX7_flip_48 (pqW hf)
def f_X7_flip (x1 : Int32) (M : Mm) : Option (Int32 × Mm) := (if x1 < 0 then (some ((-2 : Int32), M)) else (if x1 < (4096 : Int32) then (if inb x1 4096 then (if (gA M 7 x1) = 0 then (f_X7_flip_33 x1 x1 (1 : Int32) M) else (f_X7_flip_33 x1 x1 (0 : Int32) M)) else none) else (some ((-2 : Int32), M))))
set_option maxRecDepth 100000 in
set_option maxHeartbeats 4000000 in
theorem t_X7_flip {Z : Zz} {G : Gm} {a : Nat → Nat} {o : (Int32 × Mm)} {c1 c2 : Nat} {M : Mm} {x1 : Int32} (C : CX (wM Z a) Z tE G cX7_flip RX7 0 (some .int) (PqW o.1 o.2) 0) (hm : (Gc G).maxLocals = 2) (hf : f_X7_flip x1 M = some o) : V (wM Z a) Z G 0 0 [some (.ref (a 0)), some (.int x1)] [] (c1, c2, M) := by
  unfold f_X7_flip at hf
  refine V_iload1 C (pc := 0) dX7_flip_0 ?_
  refine V_if_lt C (pc := 1) (tgt := 11) dX7_flip_1 (by decide) hf (fun hf => ?_) (fun hf => ?_)
  · refine V_bipush C (pc := 11) (v := (-2 : Int32)) (by decide) dX7_flip_11 ?_
    exact V_iret C (pc := 13) rfl (Nat.le_refl 0) dX7_flip_13 (pqW hf)
  · refine V_iload1 C (pc := 4) dX7_flip_4 ?_
    refine V_sipush C (pc := 5) (v := (4096 : Int32)) (by decide) dX7_flip_5 ?_
    refine V_icmp_lt C (pc := 8) (tgt := 14) dX7_flip_8 (by decide) hf (fun hf => ?_) (fun hf => ?_)
    · refine V_aload0 C (pc := 14) dX7_flip_14 ?_
      refine gf_RX7_32 C (pc := 15) dX7_flip_15 ?_
      refine V_iload1 C (pc := 18) dX7_flip_18 ?_
      refine V_aload0 C (pc := 19) dX7_flip_19 ?_
      refine gf_RX7_32 C (pc := 20) dX7_flip_20 ?_
      refine V_iload1 C (pc := 23) dX7_flip_23 ?_
      refine alM_7 C (pc := 24) dX7_flip_24 hf (fun hf => ?_)
      refine V_if_ne C (pc := 25) (tgt := 32) dX7_flip_25 (by decide) hf (fun hf => ?_) (fun hf => ?_)
      · refine V_iconst C (pc := 32) (v := (0 : Int32)) (by decide) dX7_flip_32 ?_
        exact V.mono [true, true] rfl (t_X7_flip_33 C hm hf)
      · refine V_iconst C (pc := 28) (v := (1 : Int32)) (by decide) dX7_flip_28 ?_
        refine V_goto C (pc := 29) (tgt := 33) dX7_flip_29 (by decide) ?_
        exact V.mono [true, true] rfl (t_X7_flip_33 C hm hf)
    · refine V_bipush C (pc := 11) (v := (-2 : Int32)) (by decide) dX7_flip_11 ?_
      exact V_iret C (pc := 13) rfl (Nat.le_refl 0) dX7_flip_13 (pqW hf)
set_option maxRecDepth 100000 in
theorem c_X7_flip {Z : Zz} {a : Nat → Nat} {c1 c2 : Nat} {M : Mm} {x1 : Int32} {r0 : Int32} {M0 : Mm} (hf : f_X7_flip x1 M = some (r0, M0)) : CtI (wM Z a) Z tE yX7_flip cX7_flip 2 (some .int) 0 0 [.ref (a 0), .int x1] (c1, c2, M) (PqW r0 M0) := CtI_of (by decide +kernel) (Or.inl rfl) (List.forall_mem_cons.mpr ⟨rfl, List.forall_mem_cons.mpr ⟨rfl, fun _ h9 => nomatch h9⟩⟩) (Nat.le_of_ble_eq_true rfl) (fun G C hm => t_X7_flip (o := (r0, M0)) C hm hf)
def f_X7_forget  (M : Mm) : Option (Int32 × Mm) := (some ((gI M 4), (sI M 4 (0 : Int32))))
set_option maxRecDepth 100000 in
set_option maxHeartbeats 4000000 in
theorem t_X7_forget {Z : Zz} {G : Gm} {a : Nat → Nat} {o : (Int32 × Mm)} {c1 c2 : Nat} {M : Mm} (C : CX (wM Z a) Z tE G cX7_forget RX7 0 (some .int) (PqW o.1 o.2) 0) (hm : (Gc G).maxLocals = 2) (hf : f_X7_forget  M = some o) : V (wM Z a) Z G 0 0 [some (.ref (a 0)), none] [] (c1, c2, M) := by
  unfold f_X7_forget at hf
  refine V_aload0 C (pc := 0) dX7_forget_0 ?_
  refine gf_RX7_119 C (pc := 1) dX7_forget_1 ?_
  refine V_istore1 C (pc := 4) dX7_forget_4 (by rw [hm]; decide) ?_
  refine V_aload0 C (pc := 5) dX7_forget_5 ?_
  refine V_iconst C (pc := 6) (v := (0 : Int32)) (by decide) dX7_forget_6 ?_
  refine pf_RX7_119 C (pc := 7) dX7_forget_7 ?_
  refine V_iload1 C (pc := 10) dX7_forget_10 ?_
  exact V_iret C (pc := 11) rfl (Nat.le_refl 0) dX7_forget_11 (pqW hf)
set_option maxRecDepth 100000 in
theorem c_X7_forget {Z : Zz} {a : Nat → Nat} {c1 c2 : Nat} {M : Mm} {r0 : Int32} {M0 : Mm} (hf : f_X7_forget  M = some (r0, M0)) : CtI (wM Z a) Z tE yX7_forget cX7_forget 2 (some .int) 0 0 [.ref (a 0)] (c1, c2, M) (PqW r0 M0) := CtI_of (by decide +kernel) (Or.inl rfl) (List.forall_mem_cons.mpr ⟨rfl, fun _ h9 => nomatch h9⟩) (Nat.le_of_ble_eq_true rfl) (fun G C hm => t_X7_forget (o := (r0, M0)) C hm hf)
def f_X7_isBath (M : Mm) (x1 : Int32) : Option Int32 := (if x1 < 0 then (some (0 : Int32)) else (if (gI M 0) ≤ x1 then (some (0 : Int32)) else (some (1 : Int32))))
set_option maxRecDepth 100000 in
set_option maxHeartbeats 4000000 in
theorem t_X7_isBath {Z : Zz} {G : Gm} {a : Nat → Nat} {o : Int32} {c1 c2 : Nat} {M : Mm} {x1 : Int32} (C : CX (wM Z a) Z tE G cX7_isBath RX7 0 (some .boolean) (PqR o (c1, c2, M)) 0) (hm : (Gc G).maxLocals = 2) (hf : f_X7_isBath M x1 = some o) : V (wM Z a) Z G 0 0 [some (.ref (a 0)), some (.int x1)] [] (c1, c2, M) := by
  unfold f_X7_isBath at hf
  refine V_iload1 C (pc := 0) dX7_isBath_0 ?_
  refine V_if_lt C (pc := 1) (tgt := 16) dX7_isBath_1 (by decide) hf (fun hf => ?_) (fun hf => ?_)
  · refine V_iconst C (pc := 16) (v := (0 : Int32)) (by decide) dX7_isBath_16 ?_
    exact V_zret C (pc := 17) rfl (Nat.le_refl 0) (by decide) dX7_isBath_17 ⟨hf, rfl⟩
  · refine V_iload1 C (pc := 4) dX7_isBath_4 ?_
    refine V_aload0 C (pc := 5) dX7_isBath_5 ?_
    refine gf_RX7_73 C (pc := 6) dX7_isBath_6 ?_
    refine V_icmp_ge C (pc := 9) (tgt := 16) dX7_isBath_9 (by decide) hf (fun hf => ?_) (fun hf => ?_)
    · refine V_iconst C (pc := 16) (v := (0 : Int32)) (by decide) dX7_isBath_16 ?_
      exact V_zret C (pc := 17) rfl (Nat.le_refl 0) (by decide) dX7_isBath_17 ⟨hf, rfl⟩
    · refine V_iconst C (pc := 12) (v := (1 : Int32)) (by decide) dX7_isBath_12 ?_
      refine V_goto C (pc := 13) (tgt := 17) dX7_isBath_13 (by decide) ?_
      exact V_zret C (pc := 17) rfl (Nat.le_refl 0) (by decide) dX7_isBath_17 ⟨hf, rfl⟩
set_option maxRecDepth 100000 in
theorem c_X7_isBath {Z : Zz} {a : Nat → Nat} {c1 c2 : Nat} {M : Mm} {x1 : Int32} {r0 : Int32} (hf : f_X7_isBath M x1 = some r0) : CtI (wM Z a) Z tE yX7_isBath cX7_isBath 2 (some .boolean) 0 0 [.ref (a 0), .int x1] (c1, c2, M) (PqR r0 (c1, c2, M)) := CtI_of (by decide +kernel) (Or.inr rfl) (List.forall_mem_cons.mpr ⟨rfl, List.forall_mem_cons.mpr ⟨rfl, fun _ h9 => nomatch h9⟩⟩) (Nat.le_of_ble_eq_true rfl) (fun G C hm => t_X7_isBath (o := r0) C hm hf)
def f_X7_goal_24 (N : Nat) : Nat → Int32 → Int32 → Int32 → Mm → Option (Int32 × Mm)
  | 0, _, _, _, _ => none
  | n + 1, x1, x2, x3, M => (if (gI M 4) ≤ x3 then (if x2 = 0 then (some ((-2 : Int32), M)) else (if inb (gI M 4) 3 then (some ((gI (sI (sA M 6 (gI M 4) x1) 4 ((gI (sA M 6 (gI M 4) x1) 4) + (1 : Int32))) 4), (sI (sA M 6 (gI M 4) x1) 4 ((gI (sA M 6 (gI M 4) x1) 4) + (1 : Int32))))) else none)) else (if inb x3 3 then (if (gA M 6 x3) = x1 then ((f_X7_goal_24 N n) x1 (x2 &&& (0 : Int32)) (x3 + (1 : Int32)) M) else ((f_X7_goal_24 N n) x1 (x2 &&& (1 : Int32)) (x3 + (1 : Int32)) M)) else none))
set_option maxRecDepth 100000 in
set_option maxHeartbeats 4000000 in
theorem t_X7_goal_24 {Z : Zz} {G : Gm} {a : Nat → Nat} {N : Nat} {o : (Int32 × Mm)} (C : CX (wM Z a) Z tE G cX7_goal RX7 1 (some .int) (PqW o.1 o.2) 0) (hm : (Gc G).maxLocals = 4) : ∀ (n : Nat) (x1 x2 x3 : Int32) (c1 c2 : Nat) (M : Mm), f_X7_goal_24 N n x1 x2 x3 M = some o → V (wM Z a) Z G 0 24 [some (.ref (a 0)), some (.int x1), some (.int x2), some (.int x3)] [] (c1, c2, M) := by
  intro n
  induction n with
  | zero => intro x1 x2 x3 c1 c2 M hf; rw [f_X7_goal_24] at hf; cases hf
  | succ n ih =>
    intro x1 x2 x3 c1 c2 M hf
    rw [f_X7_goal_24] at hf
    refine V_iload3 C (pc := 24) dX7_goal_24 ?_
    refine V_aload0 C (pc := 25) dX7_goal_25 ?_
    refine gf_RX7_119 C (pc := 26) dX7_goal_26 ?_
    refine V_icmp_ge C (pc := 29) (tgt := 56) dX7_goal_29 (by decide) hf (fun hf => ?_) (fun hf => ?_)
    · refine V_iload2 C (pc := 56) dX7_goal_56 ?_
      refine V_if_ne C (pc := 57) (tgt := 63) dX7_goal_57 (by decide) hf (fun hf => ?_) (fun hf => ?_)
      · refine V_aload0 C (pc := 63) dX7_goal_63 ?_
        refine gf_RX7_29 C (pc := 64) dX7_goal_64 ?_
        refine V_aload0 C (pc := 67) dX7_goal_67 ?_
        refine gf_RX7_119 C (pc := 68) dX7_goal_68 ?_
        refine V_iload1 C (pc := 71) dX7_goal_71 ?_
        refine asM_6 C (pc := 72) dX7_goal_72 hf (fun hf => ?_)
        refine V_aload0 C (pc := 73) dX7_goal_73 ?_
        refine V_dupr C (pc := 74) dX7_goal_74 ?_
        refine gf_RX7_119 C (pc := 75) dX7_goal_75 ?_
        refine V_iconst C (pc := 78) (v := (1 : Int32)) (by decide) dX7_goal_78 ?_
        refine V_iadd C (pc := 79) dX7_goal_79 ?_
        refine pf_RX7_119 C (pc := 80) dX7_goal_80 ?_
        refine V_aload0 C (pc := 83) dX7_goal_83 ?_
        refine gf_RX7_119 C (pc := 84) dX7_goal_84 ?_
        exact V_iret C (pc := 87) rfl (Nat.le_refl 0) dX7_goal_87 (pqW hf)
      · refine V_bipush C (pc := 60) (v := (-2 : Int32)) (by decide) dX7_goal_60 ?_
        exact V_iret C (pc := 62) rfl (Nat.le_refl 0) dX7_goal_62 (pqW hf)
    · refine V_iload2 C (pc := 32) dX7_goal_32 ?_
      refine V_aload0 C (pc := 33) dX7_goal_33 ?_
      refine gf_RX7_29 C (pc := 34) dX7_goal_34 ?_
      refine V_iload3 C (pc := 37) dX7_goal_37 ?_
      refine alM_6 C (pc := 38) dX7_goal_38 hf (fun hf => ?_)
      refine V_iload1 C (pc := 39) dX7_goal_39 ?_
      refine V_icmp_eq C (pc := 40) (tgt := 47) dX7_goal_40 (by decide) hf (fun hf => ?_) (fun hf => ?_)
      · refine V_iconst C (pc := 47) (v := (0 : Int32)) (by decide) dX7_goal_47 ?_
        refine V_iand C (pc := 48) dX7_goal_48 ?_
        refine V_istore2 C (pc := 49) dX7_goal_49 (by rw [hm]; decide) ?_
        refine V_iinc3 C (pc := 50) (c1 := (1 : Int32)) dX7_goal_50 (by decide) (by rw [hm]; decide) ?_
        refine V_goto C (pc := 53) (tgt := 24) dX7_goal_53 (by decide) ?_
        exact V.mono [true, true, true, true] rfl (ih _ _ _ c1 c2 M hf)
      · refine V_iconst C (pc := 43) (v := (1 : Int32)) (by decide) dX7_goal_43 ?_
        refine V_goto C (pc := 44) (tgt := 48) dX7_goal_44 (by decide) ?_
        refine V_iand C (pc := 48) dX7_goal_48 ?_
        refine V_istore2 C (pc := 49) dX7_goal_49 (by rw [hm]; decide) ?_
        refine V_iinc3 C (pc := 50) (c1 := (1 : Int32)) dX7_goal_50 (by decide) (by rw [hm]; decide) ?_
        refine V_goto C (pc := 53) (tgt := 24) dX7_goal_53 (by decide) ?_
        exact V.mono [true, true, true, true] rfl (ih _ _ _ c1 c2 M hf)
def f_X7_goal (N : Nat) (x1 : Int32) (M : Mm) : Option (Int32 × Mm) := (bd (f_X7_isBath M x1) (fun r2 => (if r2 = 0 then (f_X7_goal_24 N N x1 (0 : Int32) (0 : Int32) M) else (if (3 : Int32) ≤ (gI M 4) then (f_X7_goal_24 N N x1 (0 : Int32) (0 : Int32) M) else (f_X7_goal_24 N N x1 (1 : Int32) (0 : Int32) M)))))
set_option maxRecDepth 100000 in
set_option maxHeartbeats 4000000 in
theorem t_X7_goal {Z : Zz} {G : Gm} {a : Nat → Nat} {N : Nat} {o : (Int32 × Mm)} {c1 c2 : Nat} {M : Mm} {x1 : Int32} (C : CX (wM Z a) Z tE G cX7_goal RX7 1 (some .int) (PqW o.1 o.2) 0) (hm : (Gc G).maxLocals = 4) (hf : f_X7_goal N x1 M = some o) : V (wM Z a) Z G 0 0 [some (.ref (a 0)), some (.int x1), none, none] [] (c1, c2, M) := by
  unfold f_X7_goal at hf
  refine V_aload0 C (pc := 0) dX7_goal_0 ?_
  refine V_iload1 C (pc := 1) dX7_goal_1 ?_
  refine V_cR C (pc := 2) (dep2 := 0) (As := [.int x1]) (rest := []) (fun r0 h0 => c_X7_isBath h0) lb_X7_isBath lk_RX7_101 wm_t (by decide) (Nat.le_refl 0) 0 7 rfl rfl rfl rfl (Nat.le_of_ble_eq_true rfl) dX7_goal_2 hf (fun r2 hf => ?_)
  refine V_if_eq C (pc := 5) (tgt := 20) dX7_goal_5 (by decide) hf (fun hf => ?_) (fun hf => ?_)
  · refine V_iconst C (pc := 20) (v := (0 : Int32)) (by decide) dX7_goal_20 ?_
    refine V_istore2 C (pc := 21) dX7_goal_21 (by rw [hm]; decide) ?_
    refine V_iconst C (pc := 22) (v := (0 : Int32)) (by decide) dX7_goal_22 ?_
    refine V_istore3 C (pc := 23) dX7_goal_23 (by rw [hm]; decide) ?_
    exact V.mono [true, true, true, true] rfl (t_X7_goal_24 C hm N _ _ _ c1 c2 M hf)
  · refine V_aload0 C (pc := 8) dX7_goal_8 ?_
    refine gf_RX7_119 C (pc := 9) dX7_goal_9 ?_
    refine V_iconst C (pc := 12) (v := (3 : Int32)) (by decide) dX7_goal_12 ?_
    refine V_icmp_ge C (pc := 13) (tgt := 20) dX7_goal_13 (by decide) hf (fun hf => ?_) (fun hf => ?_)
    · refine V_iconst C (pc := 20) (v := (0 : Int32)) (by decide) dX7_goal_20 ?_
      refine V_istore2 C (pc := 21) dX7_goal_21 (by rw [hm]; decide) ?_
      refine V_iconst C (pc := 22) (v := (0 : Int32)) (by decide) dX7_goal_22 ?_
      refine V_istore3 C (pc := 23) dX7_goal_23 (by rw [hm]; decide) ?_
      exact V.mono [true, true, true, true] rfl (t_X7_goal_24 C hm N _ _ _ c1 c2 M hf)
    · refine V_iconst C (pc := 16) (v := (1 : Int32)) (by decide) dX7_goal_16 ?_
      refine V_goto C (pc := 17) (tgt := 21) dX7_goal_17 (by decide) ?_
      refine V_istore2 C (pc := 21) dX7_goal_21 (by rw [hm]; decide) ?_
      refine V_iconst C (pc := 22) (v := (0 : Int32)) (by decide) dX7_goal_22 ?_
      refine V_istore3 C (pc := 23) dX7_goal_23 (by rw [hm]; decide) ?_
      exact V.mono [true, true, true, true] rfl (t_X7_goal_24 C hm N _ _ _ c1 c2 M hf)
set_option maxRecDepth 100000 in
theorem c_X7_goal {Z : Zz} {a : Nat → Nat} {N : Nat} {c1 c2 : Nat} {M : Mm} {x1 : Int32} {r0 : Int32} {M0 : Mm} (hf : f_X7_goal N x1 M = some (r0, M0)) : CtI (wM Z a) Z tE yX7_goal cX7_goal 4 (some .int) 1 0 [.ref (a 0), .int x1] (c1, c2, M) (PqW r0 M0) := CtI_of (by decide +kernel) (Or.inl rfl) (List.forall_mem_cons.mpr ⟨rfl, List.forall_mem_cons.mpr ⟨rfl, fun _ h9 => nomatch h9⟩⟩) (Nat.le_of_ble_eq_true rfl) (fun G C hm => t_X7_goal (o := (r0, M0)) C hm hf)
def f_X7_keep_75 (N : Nat) (x1 : Int32) (M : Mm) : Option Mm := (if inb (gI M 6) 100 then (if inb (gI (sA M 8 (gI M 6) (gI M 2)) 6) 100 then (if inb (gI (sA (sA M 8 (gI M 6) (gI M 2)) 9 (gI (sA M 8 (gI M 6) (gI M 2)) 6) (gI (sA M 8 (gI M 6) (gI M 2)) 3)) 6) 100 then (some (sI (sA (sA (sA M 8 (gI M 6) (gI M 2)) 9 (gI (sA M 8 (gI M 6) (gI M 2)) 6) (gI (sA M 8 (gI M 6) (gI M 2)) 3)) 10 (gI (sA (sA M 8 (gI M 6) (gI M 2)) 9 (gI (sA M 8 (gI M 6) (gI M 2)) 6) (gI (sA M 8 (gI M 6) (gI M 2)) 3)) 6) x1) 6 ((gI (sA (sA (sA M 8 (gI M 6) (gI M 2)) 9 (gI (sA M 8 (gI M 6) (gI M 2)) 6) (gI (sA M 8 (gI M 6) (gI M 2)) 3)) 10 (gI (sA (sA M 8 (gI M 6) (gI M 2)) 9 (gI (sA M 8 (gI M 6) (gI M 2)) 6) (gI (sA M 8 (gI M 6) (gI M 2)) 3)) 6) x1) 6) + (1 : Int32)))) else none) else none) else none)
set_option maxRecDepth 100000 in
set_option maxHeartbeats 4000000 in
theorem t_X7_keep_75 {Z : Zz} {G : Gm} {a : Nat → Nat} {N : Nat} {o : Mm} {c1 c2 : Nat} {M : Mm} {x1 : Int32} (C : CX (wM Z a) Z tE G cX7_keep RX7 0 none (PqV o) 0) (hm : (Gc G).maxLocals = 3) (hf : f_X7_keep_75 N x1 M = some o) : V (wM Z a) Z G 0 75 [some (.ref (a 0)), some (.int x1), none] [] (c1, c2, M) := by
  unfold f_X7_keep_75 at hf
  refine V_aload0 C (pc := 75) dX7_keep_75 ?_
  refine gf_RX7_36 C (pc := 76) dX7_keep_76 ?_
  refine V_aload0 C (pc := 79) dX7_keep_79 ?_
  refine gf_RX7_92 C (pc := 80) dX7_keep_80 ?_
  refine V_aload0 C (pc := 83) dX7_keep_83 ?_
  refine gf_RX7_95 C (pc := 84) dX7_keep_84 ?_
  refine asM_8 C (pc := 87) dX7_keep_87 hf (fun hf => ?_)
  refine V_aload0 C (pc := 88) dX7_keep_88 ?_
  refine gf_RX7_39 C (pc := 89) dX7_keep_89 ?_
  refine V_aload0 C (pc := 92) dX7_keep_92 ?_
  refine gf_RX7_92 C (pc := 93) dX7_keep_93 ?_
  refine V_aload0 C (pc := 96) dX7_keep_96 ?_
  refine gf_RX7_98 C (pc := 97) dX7_keep_97 ?_
  refine asM_9 C (pc := 100) dX7_keep_100 hf (fun hf => ?_)
  refine V_aload0 C (pc := 101) dX7_keep_101 ?_
  refine gf_RX7_42 C (pc := 102) dX7_keep_102 ?_
  refine V_aload0 C (pc := 105) dX7_keep_105 ?_
  refine gf_RX7_92 C (pc := 106) dX7_keep_106 ?_
  refine V_iload1 C (pc := 109) dX7_keep_109 ?_
  refine asM_10 C (pc := 110) dX7_keep_110 hf (fun hf => ?_)
  refine V_aload0 C (pc := 111) dX7_keep_111 ?_
  refine V_dupr C (pc := 112) dX7_keep_112 ?_
  refine gf_RX7_92 C (pc := 113) dX7_keep_113 ?_
  refine V_iconst C (pc := 116) (v := (1 : Int32)) (by decide) dX7_keep_116 ?_
  refine V_iadd C (pc := 117) dX7_keep_117 ?_
  refine pf_RX7_92 C (pc := 118) dX7_keep_118 ?_
  exact V_vret C (pc := 121) rfl (Nat.le_refl 0) dX7_keep_121 (pqV hf)
def f_X7_keep_11 (N : Nat) : Nat → Int32 → Int32 → Mm → Option Mm
  | 0, _, _, _ => none
  | n + 1, x1, x2, M => (if (100 : Int32) ≤ x2 then (f_X7_keep_75 N x1 (sI M 6 ((gI M 6) - (1 : Int32)))) else (if inb x2 100 then (if inb (x2 - (1 : Int32)) 100 then (if inb x2 100 then (if inb (x2 - (1 : Int32)) 100 then (if inb x2 100 then (if inb (x2 - (1 : Int32)) 100 then ((f_X7_keep_11 N n) x1 (x2 + (1 : Int32)) (sA (sA (sA M 8 (x2 - (1 : Int32)) (gA M 8 x2)) 9 (x2 - (1 : Int32)) (gA (sA M 8 (x2 - (1 : Int32)) (gA M 8 x2)) 9 x2)) 10 (x2 - (1 : Int32)) (gA (sA (sA M 8 (x2 - (1 : Int32)) (gA M 8 x2)) 9 (x2 - (1 : Int32)) (gA (sA M 8 (x2 - (1 : Int32)) (gA M 8 x2)) 9 x2)) 10 x2))) else none) else none) else none) else none) else none) else none))
set_option maxRecDepth 100000 in
set_option maxHeartbeats 4000000 in
theorem t_X7_keep_11 {Z : Zz} {G : Gm} {a : Nat → Nat} {N : Nat} {o : Mm} (C : CX (wM Z a) Z tE G cX7_keep RX7 0 none (PqV o) 0) (hm : (Gc G).maxLocals = 3) : ∀ (n : Nat) (x1 x2 : Int32) (c1 c2 : Nat) (M : Mm), f_X7_keep_11 N n x1 x2 M = some o → V (wM Z a) Z G 0 11 [some (.ref (a 0)), some (.int x1), some (.int x2)] [] (c1, c2, M) := by
  intro n
  induction n with
  | zero => intro x1 x2 c1 c2 M hf; rw [f_X7_keep_11] at hf; cases hf
  | succ n ih =>
    intro x1 x2 c1 c2 M hf
    rw [f_X7_keep_11] at hf
    refine V_iload2 C (pc := 11) dX7_keep_11 ?_
    refine V_bipush C (pc := 12) (v := (100 : Int32)) (by decide) dX7_keep_12 ?_
    refine V_icmp_ge C (pc := 14) (tgt := 65) dX7_keep_14 (by decide) hf (fun hf => ?_) (fun hf => ?_)
    · refine V_aload0 C (pc := 65) dX7_keep_65 ?_
      refine V_dupr C (pc := 66) dX7_keep_66 ?_
      refine gf_RX7_92 C (pc := 67) dX7_keep_67 ?_
      refine V_iconst C (pc := 70) (v := (1 : Int32)) (by decide) dX7_keep_70 ?_
      refine V_isub C (pc := 71) dX7_keep_71 ?_
      refine pf_RX7_92 C (pc := 72) dX7_keep_72 ?_
      exact V.mono [true, true, false] rfl (t_X7_keep_75 C hm hf)
    · refine V_aload0 C (pc := 17) dX7_keep_17 ?_
      refine gf_RX7_36 C (pc := 18) dX7_keep_18 ?_
      refine V_iload2 C (pc := 21) dX7_keep_21 ?_
      refine V_iconst C (pc := 22) (v := (1 : Int32)) (by decide) dX7_keep_22 ?_
      refine V_isub C (pc := 23) dX7_keep_23 ?_
      refine V_aload0 C (pc := 24) dX7_keep_24 ?_
      refine gf_RX7_36 C (pc := 25) dX7_keep_25 ?_
      refine V_iload2 C (pc := 28) dX7_keep_28 ?_
      refine alM_8 C (pc := 29) dX7_keep_29 hf (fun hf => ?_)
      refine asM_8 C (pc := 30) dX7_keep_30 hf (fun hf => ?_)
      refine V_aload0 C (pc := 31) dX7_keep_31 ?_
      refine gf_RX7_39 C (pc := 32) dX7_keep_32 ?_
      refine V_iload2 C (pc := 35) dX7_keep_35 ?_
      refine V_iconst C (pc := 36) (v := (1 : Int32)) (by decide) dX7_keep_36 ?_
      refine V_isub C (pc := 37) dX7_keep_37 ?_
      refine V_aload0 C (pc := 38) dX7_keep_38 ?_
      refine gf_RX7_39 C (pc := 39) dX7_keep_39 ?_
      refine V_iload2 C (pc := 42) dX7_keep_42 ?_
      refine alM_9 C (pc := 43) dX7_keep_43 hf (fun hf => ?_)
      refine asM_9 C (pc := 44) dX7_keep_44 hf (fun hf => ?_)
      refine V_aload0 C (pc := 45) dX7_keep_45 ?_
      refine gf_RX7_42 C (pc := 46) dX7_keep_46 ?_
      refine V_iload2 C (pc := 49) dX7_keep_49 ?_
      refine V_iconst C (pc := 50) (v := (1 : Int32)) (by decide) dX7_keep_50 ?_
      refine V_isub C (pc := 51) dX7_keep_51 ?_
      refine V_aload0 C (pc := 52) dX7_keep_52 ?_
      refine gf_RX7_42 C (pc := 53) dX7_keep_53 ?_
      refine V_iload2 C (pc := 56) dX7_keep_56 ?_
      refine alM_10 C (pc := 57) dX7_keep_57 hf (fun hf => ?_)
      refine asM_10 C (pc := 58) dX7_keep_58 hf (fun hf => ?_)
      refine V_iinc2 C (pc := 59) (c1 := (1 : Int32)) dX7_keep_59 (by decide) (by rw [hm]; decide) ?_
      refine V_goto C (pc := 62) (tgt := 11) dX7_keep_62 (by decide) ?_
      exact V.mono [true, true, true] rfl (ih _ _ c1 c2 (sA (sA (sA M 8 (x2 - (1 : Int32)) (gA M 8 x2)) 9 (x2 - (1 : Int32)) (gA (sA M 8 (x2 - (1 : Int32)) (gA M 8 x2)) 9 x2)) 10 (x2 - (1 : Int32)) (gA (sA (sA M 8 (x2 - (1 : Int32)) (gA M 8 x2)) 9 (x2 - (1 : Int32)) (gA (sA M 8 (x2 - (1 : Int32)) (gA M 8 x2)) 9 x2)) 10 x2)) hf)
def f_X7_keep (N : Nat) (x1 : Int32) (M : Mm) : Option Mm := (if (gI M 6) = (100 : Int32) then (f_X7_keep_11 N N x1 (1 : Int32) M) else (f_X7_keep_75 N x1 M))
set_option maxRecDepth 100000 in
set_option maxHeartbeats 4000000 in
theorem t_X7_keep {Z : Zz} {G : Gm} {a : Nat → Nat} {N : Nat} {o : Mm} {c1 c2 : Nat} {M : Mm} {x1 : Int32} (C : CX (wM Z a) Z tE G cX7_keep RX7 0 none (PqV o) 0) (hm : (Gc G).maxLocals = 3) (hf : f_X7_keep N x1 M = some o) : V (wM Z a) Z G 0 0 [some (.ref (a 0)), some (.int x1), none] [] (c1, c2, M) := by
  unfold f_X7_keep at hf
  refine V_aload0 C (pc := 0) dX7_keep_0 ?_
  refine gf_RX7_92 C (pc := 1) dX7_keep_1 ?_
  refine V_bipush C (pc := 4) (v := (100 : Int32)) (by decide) dX7_keep_4 ?_
  refine V_icmp_ne C (pc := 6) (tgt := 75) dX7_keep_6 (by decide) hf (fun hf => ?_) (fun hf => ?_)
  · exact V.mono [true, true, false] rfl (t_X7_keep_75 C hm hf)
  · refine V_iconst C (pc := 9) (v := (1 : Int32)) (by decide) dX7_keep_9 ?_
    refine V_istore2 C (pc := 10) dX7_keep_10 (by rw [hm]; decide) ?_
    exact V.mono [true, true, true] rfl (t_X7_keep_11 C hm N _ _ c1 c2 M hf)
set_option maxRecDepth 100000 in
theorem c_X7_keep {Z : Zz} {a : Nat → Nat} {N : Nat} {c1 c2 : Nat} {M : Mm} {x1 : Int32} {M0 : Mm} (hf : f_X7_keep N x1 M = some M0) : CtV (wM Z a) Z tE yX7_keep cX7_keep 3 0 0 [.ref (a 0), .int x1] (c1, c2, M) (PqV M0) := CtV_of (by decide +kernel) (List.forall_mem_cons.mpr ⟨rfl, List.forall_mem_cons.mpr ⟨rfl, fun _ h9 => nomatch h9⟩⟩) (Nat.le_of_ble_eq_true rfl) (fun G C hm => t_X7_keep (o := M0) C hm hf)
def f_X7_least_2 (N : Nat) : Nat → Int32 → Mm → Option (Int32 × Mm)
  | 0, _, _ => none
  | n + 1, x1, M => (if (18 : Int32) < x1 then (some ((-1 : Int32), M)) else (bd2 (f_X7_spread N x1 M) (fun r10 M10 => (if r10 = (1000000000 : Int32) then ((f_X7_least_2 N n) (x1 + (1 : Int32)) M10) else (some (x1, M10))))))
set_option maxRecDepth 100000 in
set_option maxHeartbeats 4000000 in
theorem t_X7_least_2 {Z : Zz} {G : Gm} {a : Nat → Nat} {N : Nat} {o : (Int32 × Mm)} (C : CX (wM Z a) Z tE G cX7_least RX7 6 (some .int) (PqW o.1 o.2) 0) (hm : (Gc G).maxLocals = 2) : ∀ (n : Nat) (x1 : Int32) (c1 c2 : Nat) (M : Mm), f_X7_least_2 N n x1 M = some o → V (wM Z a) Z G 0 2 [some (.ref (a 0)), some (.int x1)] [] (c1, c2, M) := by
  intro n
  induction n with
  | zero => intro x1 c1 c2 M hf; rw [f_X7_least_2] at hf; cases hf
  | succ n ih =>
    intro x1 c1 c2 M hf
    rw [f_X7_least_2] at hf
    refine V_iload1 C (pc := 2) dX7_least_2 ?_
    refine V_bipush C (pc := 3) (v := (18 : Int32)) (by decide) dX7_least_3 ?_
    refine V_icmp_gt C (pc := 5) (tgt := 26) dX7_least_5 (by decide) hf (fun hf => ?_) (fun hf => ?_)
    · refine V_iconst C (pc := 26) (v := (-1 : Int32)) (by decide) dX7_least_26 ?_
      exact V_iret C (pc := 27) rfl (Nat.le_refl 0) dX7_least_27 (pqW hf)
    · refine V_aload0 C (pc := 8) dX7_least_8 ?_
      refine V_iload1 C (pc := 9) dX7_least_9 ?_
      refine V_cW C (pc := 10) (dep2 := 5) (As := [.int x1]) (rest := []) (fun r0 M0 h0 => c_X7_spread h0) lb_X7_spread lk_RX7_169 wm_t (by decide) (Nat.le_refl 0) 0 7 rfl rfl rfl rfl (Nat.le_of_ble_eq_true rfl) dX7_least_10 hf (fun r10 c1 c2 M10 hf => ?_)
      refine V_ldc C (pc := 13) wk_RX7_156 dX7_least_13 ?_
      refine V_icmp_eq C (pc := 15) (tgt := 20) dX7_least_15 (by decide) hf (fun hf => ?_) (fun hf => ?_)
      · refine V_iinc1 C (pc := 20) (c1 := (1 : Int32)) dX7_least_20 (by decide) (by rw [hm]; decide) ?_
        refine V_goto C (pc := 23) (tgt := 2) dX7_least_23 (by decide) ?_
        exact V.mono [true, true] rfl (ih _ c1 c2 M10 hf)
      · refine V_iload1 C (pc := 18) dX7_least_18 ?_
        exact V_iret C (pc := 19) rfl (Nat.le_refl 0) dX7_least_19 (pqW hf)
def f_X7_least (N : Nat)  (M : Mm) : Option (Int32 × Mm) := (f_X7_least_2 N N (1 : Int32) M)
set_option maxRecDepth 100000 in
set_option maxHeartbeats 4000000 in
theorem t_X7_least {Z : Zz} {G : Gm} {a : Nat → Nat} {N : Nat} {o : (Int32 × Mm)} {c1 c2 : Nat} {M : Mm} (C : CX (wM Z a) Z tE G cX7_least RX7 6 (some .int) (PqW o.1 o.2) 0) (hm : (Gc G).maxLocals = 2) (hf : f_X7_least N  M = some o) : V (wM Z a) Z G 0 0 [some (.ref (a 0)), none] [] (c1, c2, M) := by
  unfold f_X7_least at hf
  refine V_iconst C (pc := 0) (v := (1 : Int32)) (by decide) dX7_least_0 ?_
  refine V_istore1 C (pc := 1) dX7_least_1 (by rw [hm]; decide) ?_
  exact V.mono [true, true] rfl (t_X7_least_2 C hm N _ c1 c2 M hf)
set_option maxRecDepth 100000 in
theorem c_X7_least {Z : Zz} {a : Nat → Nat} {N : Nat} {c1 c2 : Nat} {M : Mm} {r0 : Int32} {M0 : Mm} (hf : f_X7_least N  M = some (r0, M0)) : CtI (wM Z a) Z tE yX7_least cX7_least 2 (some .int) 6 0 [.ref (a 0)] (c1, c2, M) (PqW r0 M0) := CtI_of (by decide +kernel) (Or.inl rfl) (List.forall_mem_cons.mpr ⟨rfl, fun _ h9 => nomatch h9⟩) (Nat.le_of_ble_eq_true rfl) (fun G C hm => t_X7_least (o := (r0, M0)) C hm hf)
def f_X7_lose_32 (x1 : Int32) (t0 : Int32) (M : Mm) : Option (Int32 × Mm) := (if inb x1 9 then (some (t0, (sI (sA M 3 x1 (-1 : Int32)) 6 (0 : Int32)))) else none)
set_option maxRecDepth 100000 in
set_option maxHeartbeats 4000000 in
theorem t_X7_lose_32 {Z : Zz} {G : Gm} {a : Nat → Nat} {o : (Int32 × Mm)} {c1 c2 : Nat} {M : Mm} {x1 t0 : Int32} (C : CX (wM Z a) Z tE G cX7_lose RX7 1 (some .int) (PqW o.1 o.2) 0) (hm : (Gc G).maxLocals = 3) (hf : f_X7_lose_32 x1 t0 M = some o) : V (wM Z a) Z G 0 32 [some (.ref (a 0)), some (.int x1), none] [.int t0] (c1, c2, M) := by
  unfold f_X7_lose_32 at hf
  refine V_istore2 C (pc := 32) dX7_lose_32 (by rw [hm]; decide) ?_
  refine V_aload0 C (pc := 33) dX7_lose_33 ?_
  refine gf_RX7_16 C (pc := 34) dX7_lose_34 ?_
  refine V_iload1 C (pc := 37) dX7_lose_37 ?_
  refine V_iconst C (pc := 38) (v := (-1 : Int32)) (by decide) dX7_lose_38 ?_
  refine asM_3 C (pc := 39) dX7_lose_39 hf (fun hf => ?_)
  refine V_aload0 C (pc := 40) dX7_lose_40 ?_
  refine V_iconst C (pc := 41) (v := (0 : Int32)) (by decide) dX7_lose_41 ?_
  refine pf_RX7_92 C (pc := 42) dX7_lose_42 ?_
  refine V_iload2 C (pc := 45) dX7_lose_45 ?_
  exact V_iret C (pc := 46) rfl (Nat.le_refl 0) dX7_lose_46 (pqW hf)
def f_X7_lose (x1 : Int32) (M : Mm) : Option (Int32 × Mm) := (bd (f_X7_isBath M x1) (fun r2 => (if r2 = 0 then (some ((-2 : Int32), M)) else (if (gI M 2) = 0 then (if inb x1 9 then (if (gA M 3 x1) < 0 then (f_X7_lose_32 x1 (0 : Int32) M) else (f_X7_lose_32 x1 (1 : Int32) M)) else none) else (some ((-2 : Int32), M))))))
set_option maxRecDepth 100000 in
set_option maxHeartbeats 4000000 in
theorem t_X7_lose {Z : Zz} {G : Gm} {a : Nat → Nat} {o : (Int32 × Mm)} {c1 c2 : Nat} {M : Mm} {x1 : Int32} (C : CX (wM Z a) Z tE G cX7_lose RX7 1 (some .int) (PqW o.1 o.2) 0) (hm : (Gc G).maxLocals = 3) (hf : f_X7_lose x1 M = some o) : V (wM Z a) Z G 0 0 [some (.ref (a 0)), some (.int x1), none] [] (c1, c2, M) := by
  unfold f_X7_lose at hf
  refine V_aload0 C (pc := 0) dX7_lose_0 ?_
  refine V_iload1 C (pc := 1) dX7_lose_1 ?_
  refine V_cR C (pc := 2) (dep2 := 0) (As := [.int x1]) (rest := []) (fun r0 h0 => c_X7_isBath h0) lb_X7_isBath lk_RX7_101 wm_t (by decide) (Nat.le_refl 0) 0 7 rfl rfl rfl rfl (Nat.le_of_ble_eq_true rfl) dX7_lose_2 hf (fun r2 hf => ?_)
  refine V_if_eq C (pc := 5) (tgt := 15) dX7_lose_5 (by decide) hf (fun hf => ?_) (fun hf => ?_)
  · refine V_bipush C (pc := 15) (v := (-2 : Int32)) (by decide) dX7_lose_15 ?_
    exact V_iret C (pc := 17) rfl (Nat.le_refl 0) dX7_lose_17 (pqW hf)
  · refine V_aload0 C (pc := 8) dX7_lose_8 ?_
    refine gf_RX7_95 C (pc := 9) dX7_lose_9 ?_
    refine V_if_eq C (pc := 12) (tgt := 18) dX7_lose_12 (by decide) hf (fun hf => ?_) (fun hf => ?_)
    · refine V_aload0 C (pc := 18) dX7_lose_18 ?_
      refine gf_RX7_16 C (pc := 19) dX7_lose_19 ?_
      refine V_iload1 C (pc := 22) dX7_lose_22 ?_
      refine alM_3 C (pc := 23) dX7_lose_23 hf (fun hf => ?_)
      refine V_if_lt C (pc := 24) (tgt := 31) dX7_lose_24 (by decide) hf (fun hf => ?_) (fun hf => ?_)
      · refine V_iconst C (pc := 31) (v := (0 : Int32)) (by decide) dX7_lose_31 ?_
        exact V.mono [true, true, false] rfl (t_X7_lose_32 C hm hf)
      · refine V_iconst C (pc := 27) (v := (1 : Int32)) (by decide) dX7_lose_27 ?_
        refine V_goto C (pc := 28) (tgt := 32) dX7_lose_28 (by decide) ?_
        exact V.mono [true, true, false] rfl (t_X7_lose_32 C hm hf)
    · refine V_bipush C (pc := 15) (v := (-2 : Int32)) (by decide) dX7_lose_15 ?_
      exact V_iret C (pc := 17) rfl (Nat.le_refl 0) dX7_lose_17 (pqW hf)
set_option maxRecDepth 100000 in
theorem c_X7_lose {Z : Zz} {a : Nat → Nat} {c1 c2 : Nat} {M : Mm} {x1 : Int32} {r0 : Int32} {M0 : Mm} (hf : f_X7_lose x1 M = some (r0, M0)) : CtI (wM Z a) Z tE yX7_lose cX7_lose 3 (some .int) 1 0 [.ref (a 0), .int x1] (c1, c2, M) (PqW r0 M0) := CtI_of (by decide +kernel) (Or.inl rfl) (List.forall_mem_cons.mpr ⟨rfl, List.forall_mem_cons.mpr ⟨rfl, fun _ h9 => nomatch h9⟩⟩) (Nat.le_of_ble_eq_true rfl) (fun G C hm => t_X7_lose (o := (r0, M0)) C hm hf)
def f_X7_make (N : Nat) (x1 : Int32) (M : Mm) : Option (Int32 × Mm) := (bd (f_X7_isBath M x1) (fun r2 => (if r2 = 0 then (some ((-2 : Int32), M)) else (bd (f_X7_reason N M (gI M 2) (gI M 3) x1 (gI M 1)) (fun r22 => (if r22 = 0 then (bd (f_X7_keep N x1 M) (fun M33 => (bd (f_X7_standsBehind N M33 (gI M33 2) x1) (fun r43 => (bd (f_X7_freshBehind (sI M33 2 r43) x1) (fun r52 => (if inb x1 9 then (if inb x1 9 then (bd (f_X7_free N (sA (sI (sI M33 2 r43) 3 r52) 5 x1 ((gA (sI (sI M33 2 r43) 3 r52) 5 x1) + (1 : Int32)))) (fun r69 => (some (r69, (sA (sI (sI M33 2 r43) 3 r52) 5 x1 ((gA (sI (sI M33 2 r43) 3 r52) 5 x1) + (1 : Int32))))))) else none) else none))))))) else (some ((-2 : Int32), M))))))))
set_option maxRecDepth 100000 in
set_option maxHeartbeats 4000000 in
theorem t_X7_make {Z : Zz} {G : Gm} {a : Nat → Nat} {N : Nat} {o : (Int32 × Mm)} {c1 c2 : Nat} {M : Mm} {x1 : Int32} (C : CX (wM Z a) Z tE G cX7_make RX7 4 (some .int) (PqW o.1 o.2) 0) (hm : (Gc G).maxLocals = 2) (hf : f_X7_make N x1 M = some o) : V (wM Z a) Z G 0 0 [some (.ref (a 0)), some (.int x1)] [] (c1, c2, M) := by
  unfold f_X7_make at hf
  refine V_aload0 C (pc := 0) dX7_make_0 ?_
  refine V_iload1 C (pc := 1) dX7_make_1 ?_
  refine V_cR C (pc := 2) (dep2 := 0) (As := [.int x1]) (rest := []) (fun r0 h0 => c_X7_isBath h0) lb_X7_isBath lk_RX7_101 wm_t (by decide) (Nat.le_refl 0) 0 7 rfl rfl rfl rfl (Nat.le_of_ble_eq_true rfl) dX7_make_2 hf (fun r2 hf => ?_)
  refine V_if_eq C (pc := 5) (tgt := 28) dX7_make_5 (by decide) hf (fun hf => ?_) (fun hf => ?_)
  · refine V_bipush C (pc := 28) (v := (-2 : Int32)) (by decide) dX7_make_28 ?_
    exact V_iret C (pc := 30) rfl (Nat.le_refl 0) dX7_make_30 (pqW hf)
  · refine V_aload0 C (pc := 8) dX7_make_8 ?_
    refine V_aload0 C (pc := 9) dX7_make_9 ?_
    refine gf_RX7_95 C (pc := 10) dX7_make_10 ?_
    refine V_aload0 C (pc := 13) dX7_make_13 ?_
    refine gf_RX7_98 C (pc := 14) dX7_make_14 ?_
    refine V_iload1 C (pc := 17) dX7_make_17 ?_
    refine V_aload0 C (pc := 18) dX7_make_18 ?_
    refine gf_RX7_25 C (pc := 19) dX7_make_19 ?_
    refine V_cR C (pc := 22) (dep2 := 3) (As := [.int (gI M 2), .int (gI M 3), .int x1, .int (gI M 1)]) (rest := []) (fun r0 h0 => c_X7_reason h0) lb_X7_reason lk_RX7_126 wm_t (by decide) (Nat.le_refl 0) 0 7 rfl rfl rfl rfl (Nat.le_of_ble_eq_true rfl) dX7_make_22 hf (fun r22 hf => ?_)
    refine V_if_eq C (pc := 25) (tgt := 31) dX7_make_25 (by decide) hf (fun hf => ?_) (fun hf => ?_)
    · refine V_aload0 C (pc := 31) dX7_make_31 ?_
      refine V_iload1 C (pc := 32) dX7_make_32 ?_
      refine V_cV C (pc := 33) (dep2 := 0) (As := [.int x1]) (rest := []) (fun M0 h0 => c_X7_keep h0) lb_X7_keep lk_RX7_130 wm_t (by decide) (Nat.le_refl 0) 0 7 rfl rfl rfl rfl (Nat.le_of_ble_eq_true rfl) dX7_make_33 hf (fun c1 c2 M33 hf => ?_)
      refine V_aload0 C (pc := 36) dX7_make_36 ?_
      refine V_aload0 C (pc := 37) dX7_make_37 ?_
      refine V_aload0 C (pc := 38) dX7_make_38 ?_
      refine gf_RX7_95 C (pc := 39) dX7_make_39 ?_
      refine V_iload1 C (pc := 42) dX7_make_42 ?_
      refine V_cR C (pc := 43) (dep2 := 1) (As := [.int (gI M33 2), .int x1]) (rest := [.ref (a 0)]) (fun r0 h0 => c_X7_standsBehind h0) lb_X7_standsBehind lk_RX7_133 wm_t (by decide) (Nat.le_refl 0) 0 7 rfl rfl rfl rfl (Nat.le_of_ble_eq_true rfl) dX7_make_43 hf (fun r43 hf => ?_)
      refine pf_RX7_95 C (pc := 46) dX7_make_46 ?_
      refine V_aload0 C (pc := 49) dX7_make_49 ?_
      refine V_aload0 C (pc := 50) dX7_make_50 ?_
      refine V_iload1 C (pc := 51) dX7_make_51 ?_
      refine V_cR C (pc := 52) (dep2 := 0) (As := [.int x1]) (rest := [.ref (a 0)]) (fun r0 h0 => c_X7_freshBehind h0) lb_X7_freshBehind lk_RX7_136 wm_t (by decide) (Nat.le_refl 0) 0 7 rfl rfl rfl rfl (Nat.le_of_ble_eq_true rfl) dX7_make_52 hf (fun r52 hf => ?_)
      refine pf_RX7_98 C (pc := 55) dX7_make_55 ?_
      refine V_aload0 C (pc := 58) dX7_make_58 ?_
      refine gf_RX7_22 C (pc := 59) dX7_make_59 ?_
      refine V_iload1 C (pc := 62) dX7_make_62 ?_
      refine V_dup2 C (pc := 63) dX7_make_63 ?_
      refine alM_5 C (pc := 64) dX7_make_64 hf (fun hf => ?_)
      refine V_iconst C (pc := 65) (v := (1 : Int32)) (by decide) dX7_make_65 ?_
      refine V_iadd C (pc := 66) dX7_make_66 ?_
      refine asM_5 C (pc := 67) dX7_make_67 hf (fun hf => ?_)
      refine V_aload0 C (pc := 68) dX7_make_68 ?_
      refine V_cR C (pc := 69) (dep2 := 3) (As := []) (rest := []) (fun r0 h0 => c_X7_free h0) lb_X7_free lk_RX7_139 wm_t (by decide) (Nat.le_refl 0) 0 7 rfl rfl rfl rfl (Nat.le_of_ble_eq_true rfl) dX7_make_69 hf (fun r69 hf => ?_)
      exact V_iret C (pc := 72) rfl (Nat.le_refl 0) dX7_make_72 (pqW hf)
    · refine V_bipush C (pc := 28) (v := (-2 : Int32)) (by decide) dX7_make_28 ?_
      exact V_iret C (pc := 30) rfl (Nat.le_refl 0) dX7_make_30 (pqW hf)
set_option maxRecDepth 100000 in
theorem c_X7_make {Z : Zz} {a : Nat → Nat} {N : Nat} {c1 c2 : Nat} {M : Mm} {x1 : Int32} {r0 : Int32} {M0 : Mm} (hf : f_X7_make N x1 M = some (r0, M0)) : CtI (wM Z a) Z tE yX7_make cX7_make 2 (some .int) 4 0 [.ref (a 0), .int x1] (c1, c2, M) (PqW r0 M0) := CtI_of (by decide +kernel) (Or.inl rfl) (List.forall_mem_cons.mpr ⟨rfl, List.forall_mem_cons.mpr ⟨rfl, fun _ h9 => nomatch h9⟩⟩) (Nat.le_of_ble_eq_true rfl) (fun G C hm => t_X7_make (o := (r0, M0)) C hm hf)
def f_X7_named (M : Mm) (x1 : Int32) (x2 : Int32) (x3 : Int32) : Option Int32 := (bd (f_X7_isBath M x1) (fun r2 => (if r2 = 0 then (some (-2 : Int32)) else (if x2 < 0 then (some (-2 : Int32)) else (if x2 ≤ (2 : Int32) then (if inb x1 9 then (if 0 ≤ (gA M 3 x1) then (if inb x1 9 then (if (gA M 2 x1) = x2 then (if x3 < 0 then (some (-11 : Int32)) else (if inb x1 9 then (if x3 < (gA M 3 x1) then (if inb (((4 : Int32) * x1) + x3) 36 then (some (gA M 4 (((4 : Int32) * x1) + x3))) else none) else (some (-11 : Int32))) else none)) else (some (-12 : Int32))) else none) else (some (-10 : Int32))) else none) else (some (-2 : Int32)))))))
set_option maxRecDepth 100000 in
set_option maxHeartbeats 4000000 in
theorem t_X7_named {Z : Zz} {G : Gm} {a : Nat → Nat} {o : Int32} {c1 c2 : Nat} {M : Mm} {x1 x2 x3 : Int32} (C : CX (wM Z a) Z tE G cX7_named RX7 1 (some .int) (PqR o (c1, c2, M)) 0) (hm : (Gc G).maxLocals = 4) (hf : f_X7_named M x1 x2 x3 = some o) : V (wM Z a) Z G 0 0 [some (.ref (a 0)), some (.int x1), some (.int x2), some (.int x3)] [] (c1, c2, M) := by
  unfold f_X7_named at hf
  refine V_aload0 C (pc := 0) dX7_named_0 ?_
  refine V_iload1 C (pc := 1) dX7_named_1 ?_
  refine V_cR C (pc := 2) (dep2 := 0) (As := [.int x1]) (rest := []) (fun r0 h0 => c_X7_isBath h0) lb_X7_isBath lk_RX7_101 wm_t (by decide) (Nat.le_refl 0) 0 7 rfl rfl rfl rfl (Nat.le_of_ble_eq_true rfl) dX7_named_2 hf (fun r2 hf => ?_)
  refine V_if_eq C (pc := 5) (tgt := 17) dX7_named_5 (by decide) hf (fun hf => ?_) (fun hf => ?_)
  · refine V_bipush C (pc := 17) (v := (-2 : Int32)) (by decide) dX7_named_17 ?_
    exact V_iret C (pc := 19) rfl (Nat.le_refl 0) dX7_named_19 ⟨hf, rfl⟩
  · refine V_iload2 C (pc := 8) dX7_named_8 ?_
    refine V_if_lt C (pc := 9) (tgt := 17) dX7_named_9 (by decide) hf (fun hf => ?_) (fun hf => ?_)
    · refine V_bipush C (pc := 17) (v := (-2 : Int32)) (by decide) dX7_named_17 ?_
      exact V_iret C (pc := 19) rfl (Nat.le_refl 0) dX7_named_19 ⟨hf, rfl⟩
    · refine V_iload2 C (pc := 12) dX7_named_12 ?_
      refine V_iconst C (pc := 13) (v := (2 : Int32)) (by decide) dX7_named_13 ?_
      refine V_icmp_le C (pc := 14) (tgt := 20) dX7_named_14 (by decide) hf (fun hf => ?_) (fun hf => ?_)
      · refine V_aload0 C (pc := 20) dX7_named_20 ?_
        refine gf_RX7_16 C (pc := 21) dX7_named_21 ?_
        refine V_iload1 C (pc := 24) dX7_named_24 ?_
        refine alM_3 C (pc := 25) dX7_named_25 hf (fun hf => ?_)
        refine V_if_ge C (pc := 26) (tgt := 32) dX7_named_26 (by decide) hf (fun hf => ?_) (fun hf => ?_)
        · refine V_aload0 C (pc := 32) dX7_named_32 ?_
          refine gf_RX7_13 C (pc := 33) dX7_named_33 ?_
          refine V_iload1 C (pc := 36) dX7_named_36 ?_
          refine alM_2 C (pc := 37) dX7_named_37 hf (fun hf => ?_)
          refine V_iload2 C (pc := 38) dX7_named_38 ?_
          refine V_icmp_eq C (pc := 39) (tgt := 45) dX7_named_39 (by decide) hf (fun hf => ?_) (fun hf => ?_)
          · refine V_iload3 C (pc := 45) dX7_named_45 ?_
            refine V_if_lt C (pc := 46) (tgt := 59) dX7_named_46 (by decide) hf (fun hf => ?_) (fun hf => ?_)
            · refine V_bipush C (pc := 59) (v := (-11 : Int32)) (by decide) dX7_named_59 ?_
              refine V_goto C (pc := 61) (tgt := 74) dX7_named_61 (by decide) ?_
              exact V_iret C (pc := 74) rfl (Nat.le_refl 0) dX7_named_74 ⟨hf, rfl⟩
            · refine V_iload3 C (pc := 49) dX7_named_49 ?_
              refine V_aload0 C (pc := 50) dX7_named_50 ?_
              refine gf_RX7_16 C (pc := 51) dX7_named_51 ?_
              refine V_iload1 C (pc := 54) dX7_named_54 ?_
              refine alM_3 C (pc := 55) dX7_named_55 hf (fun hf => ?_)
              refine V_icmp_lt C (pc := 56) (tgt := 64) dX7_named_56 (by decide) hf (fun hf => ?_) (fun hf => ?_)
              · refine V_aload0 C (pc := 64) dX7_named_64 ?_
                refine gf_RX7_19 C (pc := 65) dX7_named_65 ?_
                refine V_iconst C (pc := 68) (v := (4 : Int32)) (by decide) dX7_named_68 ?_
                refine V_iload1 C (pc := 69) dX7_named_69 ?_
                refine V_imul C (pc := 70) dX7_named_70 ?_
                refine V_iload3 C (pc := 71) dX7_named_71 ?_
                refine V_iadd C (pc := 72) dX7_named_72 ?_
                refine alM_4 C (pc := 73) dX7_named_73 hf (fun hf => ?_)
                exact V_iret C (pc := 74) rfl (Nat.le_refl 0) dX7_named_74 ⟨hf, rfl⟩
              · refine V_bipush C (pc := 59) (v := (-11 : Int32)) (by decide) dX7_named_59 ?_
                refine V_goto C (pc := 61) (tgt := 74) dX7_named_61 (by decide) ?_
                exact V_iret C (pc := 74) rfl (Nat.le_refl 0) dX7_named_74 ⟨hf, rfl⟩
          · refine V_bipush C (pc := 42) (v := (-12 : Int32)) (by decide) dX7_named_42 ?_
            exact V_iret C (pc := 44) rfl (Nat.le_refl 0) dX7_named_44 ⟨hf, rfl⟩
        · refine V_bipush C (pc := 29) (v := (-10 : Int32)) (by decide) dX7_named_29 ?_
          exact V_iret C (pc := 31) rfl (Nat.le_refl 0) dX7_named_31 ⟨hf, rfl⟩
      · refine V_bipush C (pc := 17) (v := (-2 : Int32)) (by decide) dX7_named_17 ?_
        exact V_iret C (pc := 19) rfl (Nat.le_refl 0) dX7_named_19 ⟨hf, rfl⟩
set_option maxRecDepth 100000 in
theorem c_X7_named {Z : Zz} {a : Nat → Nat} {c1 c2 : Nat} {M : Mm} {x1 x2 x3 : Int32} {r0 : Int32} (hf : f_X7_named M x1 x2 x3 = some r0) : CtI (wM Z a) Z tE yX7_named cX7_named 4 (some .int) 1 0 [.ref (a 0), .int x1, .int x2, .int x3] (c1, c2, M) (PqR r0 (c1, c2, M)) := CtI_of (by decide +kernel) (Or.inl rfl) (List.forall_mem_cons.mpr ⟨rfl, List.forall_mem_cons.mpr ⟨rfl, List.forall_mem_cons.mpr ⟨rfl, List.forall_mem_cons.mpr ⟨rfl, fun _ h9 => nomatch h9⟩⟩⟩⟩) (Nat.le_of_ble_eq_true rfl) (fun G C hm => t_X7_named (o := r0) C hm hf)
def f_X7_tellRing_42 (N : Nat) (k14 : Int32 → Int32 → Mm → Option Mm) : Nat → Int32 → Int32 → Int32 → Mm → Option Mm
  | 0, _, _, _, _ => none
  | n + 1, x1, x3, x4, M => (if inb x4 9 then (if inb x3 9 then (if (gA M 12 x4) = ((gA M 12 x3) - (1 : Int32)) then (bd (f_X7_needs N M x3 x4) (fun r64 => (if r64 = 0 then ((f_X7_tellRing_42 N k14 n) x1 x3 (x4 + (1 : Int32)) M) else (k14 x1 x4 M)))) else ((f_X7_tellRing_42 N k14 n) x1 x3 (x4 + (1 : Int32)) M)) else none) else none)
set_option maxRecDepth 100000 in
set_option maxHeartbeats 4000000 in
theorem t_X7_tellRing_42 {Z : Zz} {G : Gm} {a : Nat → Nat} {N : Nat} {o : Mm} {k14 : Int32 → Int32 → Mm → Option Mm} (C : CX (wM Z a) Z tE G cX7_tellRing RX7 1 none (PqV o) 0) (hm : (Gc G).maxLocals = 5) (hk14 : ∀ (x1 x3 : Int32) (c1 c2 : Nat) (M : Mm), k14 x1 x3 M = some o → V (wM Z a) Z G 0 14 [some (.ref (a 0)), some (.int x1), none, some (.int x3), none] [] (c1, c2, M)) : ∀ (n : Nat) (x1 x3 x4 : Int32) (c1 c2 : Nat) (M : Mm), f_X7_tellRing_42 N k14 n x1 x3 x4 M = some o → V (wM Z a) Z G 0 42 [some (.ref (a 0)), some (.int x1), none, some (.int x3), some (.int x4)] [] (c1, c2, M) := by
  intro n
  induction n with
  | zero => intro x1 x3 x4 c1 c2 M hf; rw [f_X7_tellRing_42] at hf; cases hf
  | succ n ih =>
    intro x1 x3 x4 c1 c2 M hf
    rw [f_X7_tellRing_42] at hf
    refine V_aload0 C (pc := 42) dX7_tellRing_42 ?_
    refine gf_RX7_51 C (pc := 43) dX7_tellRing_43 ?_
    refine V_iload4 C (pc := 46) dX7_tellRing_46 ?_
    refine alM_12 C (pc := 48) dX7_tellRing_48 hf (fun hf => ?_)
    refine V_aload0 C (pc := 49) dX7_tellRing_49 ?_
    refine gf_RX7_51 C (pc := 50) dX7_tellRing_50 ?_
    refine V_iload3 C (pc := 53) dX7_tellRing_53 ?_
    refine alM_12 C (pc := 54) dX7_tellRing_54 hf (fun hf => ?_)
    refine V_iconst C (pc := 55) (v := (1 : Int32)) (by decide) dX7_tellRing_55 ?_
    refine V_isub C (pc := 56) dX7_tellRing_56 ?_
    refine V_icmp_ne C (pc := 57) (tgt := 70) dX7_tellRing_57 (by decide) hf (fun hf => ?_) (fun hf => ?_)
    · refine V_iinc4 C (pc := 70) (c1 := (1 : Int32)) dX7_tellRing_70 (by decide) (by rw [hm]; decide) ?_
      refine V_goto C (pc := 73) (tgt := 42) dX7_tellRing_73 (by decide) ?_
      exact V.mono [true, true, false, true, true] rfl (ih _ _ _ c1 c2 M hf)
    · refine V_aload0 C (pc := 60) dX7_tellRing_60 ?_
      refine V_iload3 C (pc := 61) dX7_tellRing_61 ?_
      refine V_iload4 C (pc := 62) dX7_tellRing_62 ?_
      refine V_cR C (pc := 64) (dep2 := 0) (As := [.int x3, .int x4]) (rest := []) (fun r0 h0 => c_X7_needs h0) lb_X7_needs lk_RX7_105 wm_t (by decide) (Nat.le_refl 0) 0 7 rfl rfl rfl rfl (Nat.le_of_ble_eq_true rfl) dX7_tellRing_64 hf (fun r64 hf => ?_)
      refine V_if_ne C (pc := 67) (tgt := 76) dX7_tellRing_67 (by decide) hf (fun hf => ?_) (fun hf => ?_)
      · refine V_iload4 C (pc := 76) dX7_tellRing_76 ?_
        refine V_istore3 C (pc := 78) dX7_tellRing_78 (by rw [hm]; decide) ?_
        refine V_goto C (pc := 79) (tgt := 14) dX7_tellRing_79 (by decide) ?_
        exact V.mono [true, true, false, true, false] rfl (hk14 _ _ c1 c2 M hf)
      · refine V_iinc4 C (pc := 70) (c1 := (1 : Int32)) dX7_tellRing_70 (by decide) (by rw [hm]; decide) ?_
        refine V_goto C (pc := 73) (tgt := 42) dX7_tellRing_73 (by decide) ?_
        exact V.mono [true, true, false, true, true] rfl (ih _ _ _ c1 c2 M hf)
def f_X7_tellRing_14 (N : Nat) : Nat → Int32 → Int32 → Mm → Option Mm
  | 0, _, _, _ => none
  | n + 1, x1, x3, M => (if x3 = x1 then (some M) else (if inb (gI M 7) 9 then (f_X7_tellRing_42 N (f_X7_tellRing_14 N n) N x1 x3 (0 : Int32) (sI (sA M 11 (gI M 7) x3) 7 ((gI (sA M 11 (gI M 7) x3) 7) + (1 : Int32)))) else none))
set_option maxRecDepth 100000 in
set_option maxHeartbeats 4000000 in
theorem t_X7_tellRing_14 {Z : Zz} {G : Gm} {a : Nat → Nat} {N : Nat} {o : Mm} (C : CX (wM Z a) Z tE G cX7_tellRing RX7 1 none (PqV o) 0) (hm : (Gc G).maxLocals = 5) : ∀ (n : Nat) (x1 x3 : Int32) (c1 c2 : Nat) (M : Mm), f_X7_tellRing_14 N n x1 x3 M = some o → V (wM Z a) Z G 0 14 [some (.ref (a 0)), some (.int x1), none, some (.int x3), none] [] (c1, c2, M) := by
  intro n
  induction n with
  | zero => intro x1 x3 c1 c2 M hf; rw [f_X7_tellRing_14] at hf; cases hf
  | succ n ih =>
    intro x1 x3 c1 c2 M hf
    rw [f_X7_tellRing_14] at hf
    refine V_iload3 C (pc := 14) dX7_tellRing_14 ?_
    refine V_iload1 C (pc := 15) dX7_tellRing_15 ?_
    refine V_icmp_eq C (pc := 16) (tgt := 82) dX7_tellRing_16 (by decide) hf (fun hf => ?_) (fun hf => ?_)
    · exact V_vret C (pc := 82) rfl (Nat.le_refl 0) dX7_tellRing_82 (pqV hf)
    · refine V_aload0 C (pc := 19) dX7_tellRing_19 ?_
      refine gf_RX7_45 C (pc := 20) dX7_tellRing_20 ?_
      refine V_aload0 C (pc := 23) dX7_tellRing_23 ?_
      refine gf_RX7_108 C (pc := 24) dX7_tellRing_24 ?_
      refine V_iload3 C (pc := 27) dX7_tellRing_27 ?_
      refine asM_11 C (pc := 28) dX7_tellRing_28 hf (fun hf => ?_)
      refine V_aload0 C (pc := 29) dX7_tellRing_29 ?_
      refine V_dupr C (pc := 30) dX7_tellRing_30 ?_
      refine gf_RX7_108 C (pc := 31) dX7_tellRing_31 ?_
      refine V_iconst C (pc := 34) (v := (1 : Int32)) (by decide) dX7_tellRing_34 ?_
      refine V_iadd C (pc := 35) dX7_tellRing_35 ?_
      refine pf_RX7_108 C (pc := 36) dX7_tellRing_36 ?_
      refine V_iconst C (pc := 39) (v := (0 : Int32)) (by decide) dX7_tellRing_39 ?_
      refine V_istore4 C (pc := 40) dX7_tellRing_40 (by rw [hm]; decide) ?_
      exact V.mono [true, true, false, true, true] rfl (t_X7_tellRing_42 C hm ih N _ _ _ c1 c2 (sI (sA M 11 (gI M 7) x3) 7 ((gI (sA M 11 (gI M 7) x3) 7) + (1 : Int32))) hf)
def f_X7_tellRing (N : Nat) (x1 : Int32) (x2 : Int32) (M : Mm) : Option Mm := (if inb (0 : Int32) 9 then (f_X7_tellRing_14 N N x1 x2 (sA (sI M 7 (1 : Int32)) 11 (0 : Int32) x1)) else none)
set_option maxRecDepth 100000 in
set_option maxHeartbeats 4000000 in
theorem t_X7_tellRing {Z : Zz} {G : Gm} {a : Nat → Nat} {N : Nat} {o : Mm} {c1 c2 : Nat} {M : Mm} {x1 x2 : Int32} (C : CX (wM Z a) Z tE G cX7_tellRing RX7 1 none (PqV o) 0) (hm : (Gc G).maxLocals = 5) (hf : f_X7_tellRing N x1 x2 M = some o) : V (wM Z a) Z G 0 0 [some (.ref (a 0)), some (.int x1), some (.int x2), none, none] [] (c1, c2, M) := by
  unfold f_X7_tellRing at hf
  refine V_aload0 C (pc := 0) dX7_tellRing_0 ?_
  refine V_iconst C (pc := 1) (v := (1 : Int32)) (by decide) dX7_tellRing_1 ?_
  refine pf_RX7_108 C (pc := 2) dX7_tellRing_2 ?_
  refine V_aload0 C (pc := 5) dX7_tellRing_5 ?_
  refine gf_RX7_45 C (pc := 6) dX7_tellRing_6 ?_
  refine V_iconst C (pc := 9) (v := (0 : Int32)) (by decide) dX7_tellRing_9 ?_
  refine V_iload1 C (pc := 10) dX7_tellRing_10 ?_
  refine asM_11 C (pc := 11) dX7_tellRing_11 hf (fun hf => ?_)
  refine V_iload2 C (pc := 12) dX7_tellRing_12 ?_
  refine V_istore3 C (pc := 13) dX7_tellRing_13 (by rw [hm]; decide) ?_
  exact V.mono [true, true, false, true, false] rfl (t_X7_tellRing_14 C hm N _ _ c1 c2 (sA (sI M 7 (1 : Int32)) 11 (0 : Int32) x1) hf)
set_option maxRecDepth 100000 in
theorem c_X7_tellRing {Z : Zz} {a : Nat → Nat} {N : Nat} {c1 c2 : Nat} {M : Mm} {x1 x2 : Int32} {M0 : Mm} (hf : f_X7_tellRing N x1 x2 M = some M0) : CtV (wM Z a) Z tE yX7_tellRing cX7_tellRing 5 1 0 [.ref (a 0), .int x1, .int x2] (c1, c2, M) (PqV M0) := CtV_of (by decide +kernel) (List.forall_mem_cons.mpr ⟨rfl, List.forall_mem_cons.mpr ⟨rfl, List.forall_mem_cons.mpr ⟨rfl, fun _ h9 => nomatch h9⟩⟩⟩) (Nat.le_of_ble_eq_true rfl) (fun G C hm => t_X7_tellRing (o := M0) C hm hf)
def f_X7_need_87 (N : Nat) (x1 : Int32) (x2 : Int32) (x3 : Int32) (M : Mm) : Option (Int32 × Mm) := (if inb (((4 : Int32) * x1) + x2) 36 then (if inb (((4 : Int32) * x1) + x2) 36 then (some ((gA M 4 (((4 : Int32) * x1) + x2)), (sI (sA M 4 (((4 : Int32) * x1) + x2) x3) 6 (0 : Int32)))) else none) else none)
set_option maxRecDepth 100000 in
set_option maxHeartbeats 4000000 in
theorem t_X7_need_87 {Z : Zz} {G : Gm} {a : Nat → Nat} {N : Nat} {o : (Int32 × Mm)} {c1 c2 : Nat} {M : Mm} {x1 x2 x3 : Int32} (C : CX (wM Z a) Z tE G cX7_need RX7 2 (some .int) (PqW o.1 o.2) 0) (hm : (Gc G).maxLocals = 5) (hf : f_X7_need_87 N x1 x2 x3 M = some o) : V (wM Z a) Z G 0 87 [some (.ref (a 0)), some (.int x1), some (.int x2), some (.int x3), none] [] (c1, c2, M) := by
  unfold f_X7_need_87 at hf
  refine V_aload0 C (pc := 87) dX7_need_87 ?_
  refine gf_RX7_19 C (pc := 88) dX7_need_88 ?_
  refine V_iconst C (pc := 91) (v := (4 : Int32)) (by decide) dX7_need_91 ?_
  refine V_iload1 C (pc := 92) dX7_need_92 ?_
  refine V_imul C (pc := 93) dX7_need_93 ?_
  refine V_iload2 C (pc := 94) dX7_need_94 ?_
  refine V_iadd C (pc := 95) dX7_need_95 ?_
  refine alM_4 C (pc := 96) dX7_need_96 hf (fun hf => ?_)
  refine V_istore4 C (pc := 97) dX7_need_97 (by rw [hm]; decide) ?_
  refine V_aload0 C (pc := 99) dX7_need_99 ?_
  refine gf_RX7_19 C (pc := 100) dX7_need_100 ?_
  refine V_iconst C (pc := 103) (v := (4 : Int32)) (by decide) dX7_need_103 ?_
  refine V_iload1 C (pc := 104) dX7_need_104 ?_
  refine V_imul C (pc := 105) dX7_need_105 ?_
  refine V_iload2 C (pc := 106) dX7_need_106 ?_
  refine V_iadd C (pc := 107) dX7_need_107 ?_
  refine V_iload3 C (pc := 108) dX7_need_108 ?_
  refine asM_4 C (pc := 109) dX7_need_109 hf (fun hf => ?_)
  refine V_aload0 C (pc := 110) dX7_need_110 ?_
  refine V_iconst C (pc := 111) (v := (0 : Int32)) (by decide) dX7_need_111 ?_
  refine pf_RX7_92 C (pc := 112) dX7_need_112 ?_
  refine V_iload4 C (pc := 115) dX7_need_115 ?_
  exact V_iret C (pc := 117) rfl (Nat.le_refl 0) dX7_need_117 (pqW hf)
def f_X7_need_21 (N : Nat) (x1 : Int32) (x2 : Int32) (x3 : Int32) (M : Mm) : Option (Int32 × Mm) := (if (gI M 2) = 0 then (if inb x1 9 then (if 0 ≤ (gA M 3 x1) then (if x2 < 0 then (some ((-11 : Int32), M)) else (if inb x1 9 then (if x2 < (gA M 3 x1) then (bd (f_X7_countSteps N x1 M) (fun M62 => (if x3 < 0 then (f_X7_need_87 N x1 x2 x3 M62) else (if inb x3 9 then (if (gA M62 12 x3) < 0 then (f_X7_need_87 N x1 x2 x3 M62) else (bd (f_X7_tellRing N x1 x3 M62) (fun M81 => (some ((-3 : Int32), M81))))) else none)))) else (some ((-11 : Int32), M))) else none)) else (some ((-10 : Int32), M))) else none) else (some ((-2 : Int32), M)))
set_option maxRecDepth 100000 in
set_option maxHeartbeats 4000000 in
theorem t_X7_need_21 {Z : Zz} {G : Gm} {a : Nat → Nat} {N : Nat} {o : (Int32 × Mm)} {c1 c2 : Nat} {M : Mm} {x1 x2 x3 : Int32} (C : CX (wM Z a) Z tE G cX7_need RX7 2 (some .int) (PqW o.1 o.2) 0) (hm : (Gc G).maxLocals = 5) (hf : f_X7_need_21 N x1 x2 x3 M = some o) : V (wM Z a) Z G 0 21 [some (.ref (a 0)), some (.int x1), some (.int x2), some (.int x3), none] [] (c1, c2, M) := by
  unfold f_X7_need_21 at hf
  refine V_aload0 C (pc := 21) dX7_need_21 ?_
  refine gf_RX7_95 C (pc := 22) dX7_need_22 ?_
  refine V_if_eq C (pc := 25) (tgt := 31) dX7_need_25 (by decide) hf (fun hf => ?_) (fun hf => ?_)
  · refine V_aload0 C (pc := 31) dX7_need_31 ?_
    refine gf_RX7_16 C (pc := 32) dX7_need_32 ?_
    refine V_iload1 C (pc := 35) dX7_need_35 ?_
    refine alM_3 C (pc := 36) dX7_need_36 hf (fun hf => ?_)
    refine V_if_ge C (pc := 37) (tgt := 43) dX7_need_37 (by decide) hf (fun hf => ?_) (fun hf => ?_)
    · refine V_iload2 C (pc := 43) dX7_need_43 ?_
      refine V_if_lt C (pc := 44) (tgt := 57) dX7_need_44 (by decide) hf (fun hf => ?_) (fun hf => ?_)
      · refine V_bipush C (pc := 57) (v := (-11 : Int32)) (by decide) dX7_need_57 ?_
        exact V_iret C (pc := 59) rfl (Nat.le_refl 0) dX7_need_59 (pqW hf)
      · refine V_iload2 C (pc := 47) dX7_need_47 ?_
        refine V_aload0 C (pc := 48) dX7_need_48 ?_
        refine gf_RX7_16 C (pc := 49) dX7_need_49 ?_
        refine V_iload1 C (pc := 52) dX7_need_52 ?_
        refine alM_3 C (pc := 53) dX7_need_53 hf (fun hf => ?_)
        refine V_icmp_lt C (pc := 54) (tgt := 60) dX7_need_54 (by decide) hf (fun hf => ?_) (fun hf => ?_)
        · refine V_aload0 C (pc := 60) dX7_need_60 ?_
          refine V_iload1 C (pc := 61) dX7_need_61 ?_
          refine V_cV C (pc := 62) (dep2 := 1) (As := [.int x1]) (rest := []) (fun M0 h0 => c_X7_countSteps h0) lb_X7_countSteps lk_RX7_111 wm_t (by decide) (Nat.le_refl 0) 0 7 rfl rfl rfl rfl (Nat.le_of_ble_eq_true rfl) dX7_need_62 hf (fun c1 c2 M62 hf => ?_)
          refine V_iload3 C (pc := 65) dX7_need_65 ?_
          refine V_if_lt C (pc := 66) (tgt := 87) dX7_need_66 (by decide) hf (fun hf => ?_) (fun hf => ?_)
          · exact V.mono [true, true, true, true, false] rfl (t_X7_need_87 C hm hf)
          · refine V_aload0 C (pc := 69) dX7_need_69 ?_
            refine gf_RX7_51 C (pc := 70) dX7_need_70 ?_
            refine V_iload3 C (pc := 73) dX7_need_73 ?_
            refine alM_12 C (pc := 74) dX7_need_74 hf (fun hf => ?_)
            refine V_if_lt C (pc := 75) (tgt := 87) dX7_need_75 (by decide) hf (fun hf => ?_) (fun hf => ?_)
            · exact V.mono [true, true, true, true, false] rfl (t_X7_need_87 C hm hf)
            · refine V_aload0 C (pc := 78) dX7_need_78 ?_
              refine V_iload1 C (pc := 79) dX7_need_79 ?_
              refine V_iload3 C (pc := 80) dX7_need_80 ?_
              refine V_cV C (pc := 81) (dep2 := 1) (As := [.int x1, .int x3]) (rest := []) (fun M0 h0 => c_X7_tellRing h0) lb_X7_tellRing lk_RX7_115 wm_t (by decide) (Nat.le_refl 0) 0 7 rfl rfl rfl rfl (Nat.le_of_ble_eq_true rfl) dX7_need_81 hf (fun c1 c2 M81 hf => ?_)
              refine V_bipush C (pc := 84) (v := (-3 : Int32)) (by decide) dX7_need_84 ?_
              exact V_iret C (pc := 86) rfl (Nat.le_refl 0) dX7_need_86 (pqW hf)
        · refine V_bipush C (pc := 57) (v := (-11 : Int32)) (by decide) dX7_need_57 ?_
          exact V_iret C (pc := 59) rfl (Nat.le_refl 0) dX7_need_59 (pqW hf)
    · refine V_bipush C (pc := 40) (v := (-10 : Int32)) (by decide) dX7_need_40 ?_
      exact V_iret C (pc := 42) rfl (Nat.le_refl 0) dX7_need_42 (pqW hf)
  · refine V_bipush C (pc := 28) (v := (-2 : Int32)) (by decide) dX7_need_28 ?_
    exact V_iret C (pc := 30) rfl (Nat.le_refl 0) dX7_need_30 (pqW hf)
def f_X7_need (N : Nat) (x1 : Int32) (x2 : Int32) (x3 : Int32) (M : Mm) : Option (Int32 × Mm) := (bd (f_X7_isBath M x1) (fun r2 => (if r2 = 0 then (some ((-2 : Int32), M)) else (if x3 = (-1 : Int32) then (f_X7_need_21 N x1 x2 x3 M) else (bd (f_X7_isBath M x3) (fun r15 => (if r15 = 0 then (some ((-2 : Int32), M)) else (f_X7_need_21 N x1 x2 x3 M))))))))
set_option maxRecDepth 100000 in
set_option maxHeartbeats 4000000 in
theorem t_X7_need {Z : Zz} {G : Gm} {a : Nat → Nat} {N : Nat} {o : (Int32 × Mm)} {c1 c2 : Nat} {M : Mm} {x1 x2 x3 : Int32} (C : CX (wM Z a) Z tE G cX7_need RX7 2 (some .int) (PqW o.1 o.2) 0) (hm : (Gc G).maxLocals = 5) (hf : f_X7_need N x1 x2 x3 M = some o) : V (wM Z a) Z G 0 0 [some (.ref (a 0)), some (.int x1), some (.int x2), some (.int x3), none] [] (c1, c2, M) := by
  unfold f_X7_need at hf
  refine V_aload0 C (pc := 0) dX7_need_0 ?_
  refine V_iload1 C (pc := 1) dX7_need_1 ?_
  refine V_cR C (pc := 2) (dep2 := 0) (As := [.int x1]) (rest := []) (fun r0 h0 => c_X7_isBath h0) lb_X7_isBath lk_RX7_101 wm_t (by decide) (Nat.le_refl 0) 0 7 rfl rfl rfl rfl (Nat.le_of_ble_eq_true rfl) dX7_need_2 hf (fun r2 hf => ?_)
  refine V_if_eq C (pc := 5) (tgt := 28) dX7_need_5 (by decide) hf (fun hf => ?_) (fun hf => ?_)
  · refine V_bipush C (pc := 28) (v := (-2 : Int32)) (by decide) dX7_need_28 ?_
    exact V_iret C (pc := 30) rfl (Nat.le_refl 0) dX7_need_30 (pqW hf)
  · refine V_iload3 C (pc := 8) dX7_need_8 ?_
    refine V_iconst C (pc := 9) (v := (-1 : Int32)) (by decide) dX7_need_9 ?_
    refine V_icmp_eq C (pc := 10) (tgt := 21) dX7_need_10 (by decide) hf (fun hf => ?_) (fun hf => ?_)
    · exact V.mono [true, true, true, true, false] rfl (t_X7_need_21 C hm hf)
    · refine V_aload0 C (pc := 13) dX7_need_13 ?_
      refine V_iload3 C (pc := 14) dX7_need_14 ?_
      refine V_cR C (pc := 15) (dep2 := 0) (As := [.int x3]) (rest := []) (fun r0 h0 => c_X7_isBath h0) lb_X7_isBath lk_RX7_101 wm_t (by decide) (Nat.le_refl 0) 0 7 rfl rfl rfl rfl (Nat.le_of_ble_eq_true rfl) dX7_need_15 hf (fun r15 hf => ?_)
      refine V_if_eq C (pc := 18) (tgt := 28) dX7_need_18 (by decide) hf (fun hf => ?_) (fun hf => ?_)
      · refine V_bipush C (pc := 28) (v := (-2 : Int32)) (by decide) dX7_need_28 ?_
        exact V_iret C (pc := 30) rfl (Nat.le_refl 0) dX7_need_30 (pqW hf)
      · exact V.mono [true, true, true, true, false] rfl (t_X7_need_21 C hm hf)
set_option maxRecDepth 100000 in
theorem c_X7_need {Z : Zz} {a : Nat → Nat} {N : Nat} {c1 c2 : Nat} {M : Mm} {x1 x2 x3 : Int32} {r0 : Int32} {M0 : Mm} (hf : f_X7_need N x1 x2 x3 M = some (r0, M0)) : CtI (wM Z a) Z tE yX7_need cX7_need 5 (some .int) 2 0 [.ref (a 0), .int x1, .int x2, .int x3] (c1, c2, M) (PqW r0 M0) := CtI_of (by decide +kernel) (Or.inl rfl) (List.forall_mem_cons.mpr ⟨rfl, List.forall_mem_cons.mpr ⟨rfl, List.forall_mem_cons.mpr ⟨rfl, List.forall_mem_cons.mpr ⟨rfl, fun _ h9 => nomatch h9⟩⟩⟩⟩) (Nat.le_of_ble_eq_true rfl) (fun G C hm => t_X7_need (o := (r0, M0)) C hm hf)
def f_X7_of (M : Mm) (x1 : Int32) (x2 : Int32) : Option Int32 := (bd (f_X7_isBath M x1) (fun r2 => (if r2 = 0 then (some (-2 : Int32)) else (if x2 = 0 then (if inb x1 9 then (some (gA M 1 x1)) else none) else (if x2 = 1 then (bd (f_X7_has (gI M 2) x1) (fun r68 => (if r68 = 0 then (some (0 : Int32)) else (some (1 : Int32))))) else (if x2 = 2 then (bd (f_X7_fills M (gI M 2) (gI M 3) x1) (fun r90 => (some r90))) else (if x2 = 3 then (if inb x1 9 then (some (gA M 3 x1)) else none) else (if x2 = 4 then (if inb x1 9 then (if 0 ≤ (gA M 3 x1) then (if inb x1 9 then (some (gA M 2 x1)) else none) else (some (-1 : Int32))) else none) else (if x2 = 5 then (if inb x1 9 then (some (gA M 5 x1)) else none) else (if x2 = 6 then (if inb x1 9 then (if (gA M 1 x1) = (1 : Int32) then (some (3 : Int32)) else (if inb x1 9 then (if (gA M 1 x1) = (4 : Int32) then (some (3 : Int32)) else (if inb x1 9 then (if (gA M 1 x1) = (2 : Int32) then (some (2 : Int32)) else (if inb x1 9 then (if (gA M 1 x1) = (3 : Int32) then (some (4 : Int32)) else (some (1 : Int32))) else none)) else none)) else none)) else none) else (some (-2 : Int32))))))))))))
set_option maxRecDepth 100000 in
set_option maxHeartbeats 4000000 in
theorem t_X7_of {Z : Zz} {G : Gm} {a : Nat → Nat} {o : Int32} {c1 c2 : Nat} {M : Mm} {x1 x2 : Int32} (C : CX (wM Z a) Z tE G cX7_of RX7 2 (some .int) (PqR o (c1, c2, M)) 0) (hm : (Gc G).maxLocals = 3) (hf : f_X7_of M x1 x2 = some o) : V (wM Z a) Z G 0 0 [some (.ref (a 0)), some (.int x1), some (.int x2)] [] (c1, c2, M) := by
  unfold f_X7_of at hf
  refine V_aload0 C (pc := 0) dX7_of_0 ?_
  refine V_iload1 C (pc := 1) dX7_of_1 ?_
  refine V_cR C (pc := 2) (dep2 := 0) (As := [.int x1]) (rest := []) (fun r0 h0 => c_X7_isBath h0) lb_X7_isBath lk_RX7_101 wm_t (by decide) (Nat.le_refl 0) 0 7 rfl rfl rfl rfl (Nat.le_of_ble_eq_true rfl) dX7_of_2 hf (fun r2 hf => ?_)
  refine V_if_ne C (pc := 5) (tgt := 11) dX7_of_5 (by decide) hf (fun hf => ?_) (fun hf => ?_)
  · refine V_iload2 C (pc := 11) dX7_of_11 ?_
    refine V_ts7 C (pc := 12) (t0 := 56) (t1 := 63) (t2 := 80) (t3 := 94) (t4 := 101) (t5 := 121) (t6 := 128) (td := 182) dX7_of_12 (by decide) (by decide) (by decide) (by decide) (by decide) (by decide) (by decide) (by decide) hf (fun hf => ?_) (fun hf => ?_) (fun hf => ?_) (fun hf => ?_) (fun hf => ?_) (fun hf => ?_) (fun hf => ?_) (fun hf => ?_)
    · refine V_aload0 C (pc := 56) dX7_of_56 ?_
      refine gf_RX7_9 C (pc := 57) dX7_of_57 ?_
      refine V_iload1 C (pc := 60) dX7_of_60 ?_
      refine alM_1 C (pc := 61) dX7_of_61 hf (fun hf => ?_)
      exact V_iret C (pc := 62) rfl (Nat.le_refl 0) dX7_of_62 ⟨hf, rfl⟩
    · refine V_aload0 C (pc := 63) dX7_of_63 ?_
      refine gf_RX7_95 C (pc := 64) dX7_of_64 ?_
      refine V_iload1 C (pc := 67) dX7_of_67 ?_
      refine V_cS C (pc := 68) (dep2 := 0) (As := [.int (gI M 2), .int x1]) (rest := []) (fun r0 h0 => c_X7_has h0) lb_X7_has lk_RX7_76 (by decide) (Nat.le_refl 0) rfl rfl (Nat.le_of_ble_eq_true rfl) dX7_of_68 hf (fun r68 hf => ?_)
      refine V_if_eq C (pc := 71) (tgt := 78) dX7_of_71 (by decide) hf (fun hf => ?_) (fun hf => ?_)
      · refine V_iconst C (pc := 78) (v := (0 : Int32)) (by decide) dX7_of_78 ?_
        exact V_iret C (pc := 79) rfl (Nat.le_refl 0) dX7_of_79 ⟨hf, rfl⟩
      · refine V_iconst C (pc := 74) (v := (1 : Int32)) (by decide) dX7_of_74 ?_
        refine V_goto C (pc := 75) (tgt := 79) dX7_of_75 (by decide) ?_
        exact V_iret C (pc := 79) rfl (Nat.le_refl 0) dX7_of_79 ⟨hf, rfl⟩
    · refine V_aload0 C (pc := 80) dX7_of_80 ?_
      refine V_aload0 C (pc := 81) dX7_of_81 ?_
      refine gf_RX7_95 C (pc := 82) dX7_of_82 ?_
      refine V_aload0 C (pc := 85) dX7_of_85 ?_
      refine gf_RX7_98 C (pc := 86) dX7_of_86 ?_
      refine V_iload1 C (pc := 89) dX7_of_89 ?_
      refine V_cR C (pc := 90) (dep2 := 1) (As := [.int (gI M 2), .int (gI M 3), .int x1]) (rest := []) (fun r0 h0 => c_X7_fills h0) lb_X7_fills lk_RX7_80 wm_t (by decide) (Nat.le_refl 0) 0 7 rfl rfl rfl rfl (Nat.le_of_ble_eq_true rfl) dX7_of_90 hf (fun r90 hf => ?_)
      exact V_iret C (pc := 93) rfl (Nat.le_refl 0) dX7_of_93 ⟨hf, rfl⟩
    · refine V_aload0 C (pc := 94) dX7_of_94 ?_
      refine gf_RX7_16 C (pc := 95) dX7_of_95 ?_
      refine V_iload1 C (pc := 98) dX7_of_98 ?_
      refine alM_3 C (pc := 99) dX7_of_99 hf (fun hf => ?_)
      exact V_iret C (pc := 100) rfl (Nat.le_refl 0) dX7_of_100 ⟨hf, rfl⟩
    · refine V_aload0 C (pc := 101) dX7_of_101 ?_
      refine gf_RX7_16 C (pc := 102) dX7_of_102 ?_
      refine V_iload1 C (pc := 105) dX7_of_105 ?_
      refine alM_3 C (pc := 106) dX7_of_106 hf (fun hf => ?_)
      refine V_if_ge C (pc := 107) (tgt := 114) dX7_of_107 (by decide) hf (fun hf => ?_) (fun hf => ?_)
      · refine V_aload0 C (pc := 114) dX7_of_114 ?_
        refine gf_RX7_13 C (pc := 115) dX7_of_115 ?_
        refine V_iload1 C (pc := 118) dX7_of_118 ?_
        refine alM_2 C (pc := 119) dX7_of_119 hf (fun hf => ?_)
        exact V_iret C (pc := 120) rfl (Nat.le_refl 0) dX7_of_120 ⟨hf, rfl⟩
      · refine V_iconst C (pc := 110) (v := (-1 : Int32)) (by decide) dX7_of_110 ?_
        refine V_goto C (pc := 111) (tgt := 120) dX7_of_111 (by decide) ?_
        exact V_iret C (pc := 120) rfl (Nat.le_refl 0) dX7_of_120 ⟨hf, rfl⟩
    · refine V_aload0 C (pc := 121) dX7_of_121 ?_
      refine gf_RX7_22 C (pc := 122) dX7_of_122 ?_
      refine V_iload1 C (pc := 125) dX7_of_125 ?_
      refine alM_5 C (pc := 126) dX7_of_126 hf (fun hf => ?_)
      exact V_iret C (pc := 127) rfl (Nat.le_refl 0) dX7_of_127 ⟨hf, rfl⟩
    · refine V_aload0 C (pc := 128) dX7_of_128 ?_
      refine gf_RX7_9 C (pc := 129) dX7_of_129 ?_
      refine V_iload1 C (pc := 132) dX7_of_132 ?_
      refine alM_1 C (pc := 133) dX7_of_133 hf (fun hf => ?_)
      refine V_iconst C (pc := 134) (v := (1 : Int32)) (by decide) dX7_of_134 ?_
      refine V_icmp_eq C (pc := 135) (tgt := 148) dX7_of_135 (by decide) hf (fun hf => ?_) (fun hf => ?_)
      · refine V_iconst C (pc := 148) (v := (3 : Int32)) (by decide) dX7_of_148 ?_
        refine V_goto C (pc := 149) (tgt := 181) dX7_of_149 (by decide) ?_
        exact V_iret C (pc := 181) rfl (Nat.le_refl 0) dX7_of_181 ⟨hf, rfl⟩
      · refine V_aload0 C (pc := 138) dX7_of_138 ?_
        refine gf_RX7_9 C (pc := 139) dX7_of_139 ?_
        refine V_iload1 C (pc := 142) dX7_of_142 ?_
        refine alM_1 C (pc := 143) dX7_of_143 hf (fun hf => ?_)
        refine V_iconst C (pc := 144) (v := (4 : Int32)) (by decide) dX7_of_144 ?_
        refine V_icmp_ne C (pc := 145) (tgt := 152) dX7_of_145 (by decide) hf (fun hf => ?_) (fun hf => ?_)
        · refine V_aload0 C (pc := 152) dX7_of_152 ?_
          refine gf_RX7_9 C (pc := 153) dX7_of_153 ?_
          refine V_iload1 C (pc := 156) dX7_of_156 ?_
          refine alM_1 C (pc := 157) dX7_of_157 hf (fun hf => ?_)
          refine V_iconst C (pc := 158) (v := (2 : Int32)) (by decide) dX7_of_158 ?_
          refine V_icmp_ne C (pc := 159) (tgt := 166) dX7_of_159 (by decide) hf (fun hf => ?_) (fun hf => ?_)
          · refine V_aload0 C (pc := 166) dX7_of_166 ?_
            refine gf_RX7_9 C (pc := 167) dX7_of_167 ?_
            refine V_iload1 C (pc := 170) dX7_of_170 ?_
            refine alM_1 C (pc := 171) dX7_of_171 hf (fun hf => ?_)
            refine V_iconst C (pc := 172) (v := (3 : Int32)) (by decide) dX7_of_172 ?_
            refine V_icmp_ne C (pc := 173) (tgt := 180) dX7_of_173 (by decide) hf (fun hf => ?_) (fun hf => ?_)
            · refine V_iconst C (pc := 180) (v := (1 : Int32)) (by decide) dX7_of_180 ?_
              exact V_iret C (pc := 181) rfl (Nat.le_refl 0) dX7_of_181 ⟨hf, rfl⟩
            · refine V_iconst C (pc := 176) (v := (4 : Int32)) (by decide) dX7_of_176 ?_
              refine V_goto C (pc := 177) (tgt := 181) dX7_of_177 (by decide) ?_
              exact V_iret C (pc := 181) rfl (Nat.le_refl 0) dX7_of_181 ⟨hf, rfl⟩
          · refine V_iconst C (pc := 162) (v := (2 : Int32)) (by decide) dX7_of_162 ?_
            refine V_goto C (pc := 163) (tgt := 181) dX7_of_163 (by decide) ?_
            exact V_iret C (pc := 181) rfl (Nat.le_refl 0) dX7_of_181 ⟨hf, rfl⟩
        · refine V_iconst C (pc := 148) (v := (3 : Int32)) (by decide) dX7_of_148 ?_
          refine V_goto C (pc := 149) (tgt := 181) dX7_of_149 (by decide) ?_
          exact V_iret C (pc := 181) rfl (Nat.le_refl 0) dX7_of_181 ⟨hf, rfl⟩
    · refine V_bipush C (pc := 182) (v := (-2 : Int32)) (by decide) dX7_of_182 ?_
      exact V_iret C (pc := 184) rfl (Nat.le_refl 0) dX7_of_184 ⟨hf, rfl⟩
  · refine V_bipush C (pc := 8) (v := (-2 : Int32)) (by decide) dX7_of_8 ?_
    exact V_iret C (pc := 10) rfl (Nat.le_refl 0) dX7_of_10 ⟨hf, rfl⟩
set_option maxRecDepth 100000 in
theorem c_X7_of {Z : Zz} {a : Nat → Nat} {c1 c2 : Nat} {M : Mm} {x1 x2 : Int32} {r0 : Int32} (hf : f_X7_of M x1 x2 = some r0) : CtI (wM Z a) Z tE yX7_of cX7_of 3 (some .int) 2 0 [.ref (a 0), .int x1, .int x2] (c1, c2, M) (PqR r0 (c1, c2, M)) := CtI_of (by decide +kernel) (Or.inl rfl) (List.forall_mem_cons.mpr ⟨rfl, List.forall_mem_cons.mpr ⟨rfl, List.forall_mem_cons.mpr ⟨rfl, fun _ h9 => nomatch h9⟩⟩⟩) (Nat.le_of_ble_eq_true rfl) (fun G C hm => t_X7_of (o := r0) C hm hf)
def f_X7_order_61 (N : Nat) (M : Mm) (k7 : Int32 → Int32 → Int32 → Int32 → Option Int32) (k27 : Int32 → Int32 → Int32 → Int32 → Int32 → Option Int32) : Nat → Int32 → Int32 → Int32 → Int32 → Int32 → Int32 → Int32 → Option Int32
  | 0, _, _, _, _, _, _, _ => none
  | n + 1, x1, x2, x3, x4, x5, x6, x7 => (if inb x5 9 then (if (gA M 3 x5) ≤ x7 then (if x6 = 0 then (k27 x1 x2 x3 x4 (x5 + (-1 : Int32))) else (k27 x1 x2 x3 x5 (x5 + (-1 : Int32)))) else (if inb (((4 : Int32) * x5) + x7) 36 then (if (gA M 4 (((4 : Int32) * x5) + x7)) < 0 then ((f_X7_order_61 N M k7 k27 n) x1 x2 x3 x4 x5 (x6 &&& (1 : Int32)) (x7 + (1 : Int32))) else (bd (f_X7_has x2 (gA M 4 (((4 : Int32) * x5) + x7))) (fun r97 => (if r97 = 0 then ((f_X7_order_61 N M k7 k27 n) x1 x2 x3 x4 x5 (x6 &&& (0 : Int32)) (x7 + (1 : Int32))) else ((f_X7_order_61 N M k7 k27 n) x1 x2 x3 x4 x5 (x6 &&& (1 : Int32)) (x7 + (1 : Int32))))))) else none)) else none)
set_option maxRecDepth 100000 in
set_option maxHeartbeats 4000000 in
theorem t_X7_order_61 {Z : Zz} {G : Gm} {a : Nat → Nat} {N : Nat} {o : Int32} {c1 c2 : Nat} {M : Mm} {k7 : Int32 → Int32 → Int32 → Int32 → Option Int32} {k27 : Int32 → Int32 → Int32 → Int32 → Int32 → Option Int32} (C : CX (wM Z a) Z tE G cX7_order RX7 1 (some .int) (PqR o (c1, c2, M)) 0) (hm : (Gc G).maxLocals = 9) (hk7 : ∀ (x1 x2 x3 x4 : Int32) , k7 x1 x2 x3 x4 = some o → V (wM Z a) Z G 0 7 [some (.ref (a 0)), some (.int x1), some (.int x2), some (.int x3), some (.int x4), none, none, none, none] [] (c1, c2, M)) (hk27 : ∀ (x1 x2 x3 x4 x5 : Int32) , k27 x1 x2 x3 x4 x5 = some o → V (wM Z a) Z G 0 27 [some (.ref (a 0)), some (.int x1), some (.int x2), some (.int x3), some (.int x4), some (.int x5), none, none, none] [] (c1, c2, M)) : ∀ (n : Nat) (x1 x2 x3 x4 x5 x6 x7 : Int32) , f_X7_order_61 N M k7 k27 n x1 x2 x3 x4 x5 x6 x7 = some o → V (wM Z a) Z G 0 61 [some (.ref (a 0)), some (.int x1), some (.int x2), some (.int x3), some (.int x4), some (.int x5), some (.int x6), some (.int x7), none] [] (c1, c2, M) := by
  intro n
  induction n with
  | zero => intro x1 x2 x3 x4 x5 x6 x7 hf; rw [f_X7_order_61] at hf; cases hf
  | succ n ih =>
    intro x1 x2 x3 x4 x5 x6 x7 hf
    rw [f_X7_order_61] at hf
    refine V_iload7 C (pc := 61) dX7_order_61 ?_
    refine V_aload0 C (pc := 63) dX7_order_63 ?_
    refine gf_RX7_16 C (pc := 64) dX7_order_64 ?_
    refine V_iload5 C (pc := 67) dX7_order_67 ?_
    refine alM_3 C (pc := 69) dX7_order_69 hf (fun hf => ?_)
    refine V_icmp_ge C (pc := 70) (tgt := 117) dX7_order_70 (by decide) hf (fun hf => ?_) (fun hf => ?_)
    · refine V_iload6 C (pc := 117) dX7_order_117 ?_
      refine V_if_eq C (pc := 119) (tgt := 127) dX7_order_119 (by decide) hf (fun hf => ?_) (fun hf => ?_)
      · refine V_iload4 C (pc := 127) dX7_order_127 ?_
        refine V_istore4 C (pc := 129) dX7_order_129 (by rw [hm]; decide) ?_
        refine V_iinc5 C (pc := 131) (c1 := (-1 : Int32)) dX7_order_131 (by decide) (by rw [hm]; decide) ?_
        refine V_goto C (pc := 134) (tgt := 27) dX7_order_134 (by decide) ?_
        exact V.mono [true, true, true, true, true, true, false, false, false] rfl (hk27 _ _ _ _ _ hf)
      · refine V_iload5 C (pc := 122) dX7_order_122 ?_
        refine V_goto C (pc := 124) (tgt := 129) dX7_order_124 (by decide) ?_
        refine V_istore4 C (pc := 129) dX7_order_129 (by rw [hm]; decide) ?_
        refine V_iinc5 C (pc := 131) (c1 := (-1 : Int32)) dX7_order_131 (by decide) (by rw [hm]; decide) ?_
        refine V_goto C (pc := 134) (tgt := 27) dX7_order_134 (by decide) ?_
        exact V.mono [true, true, true, true, true, true, false, false, false] rfl (hk27 _ _ _ _ _ hf)
    · refine V_aload0 C (pc := 73) dX7_order_73 ?_
      refine gf_RX7_19 C (pc := 74) dX7_order_74 ?_
      refine V_iconst C (pc := 77) (v := (4 : Int32)) (by decide) dX7_order_77 ?_
      refine V_iload5 C (pc := 78) dX7_order_78 ?_
      refine V_imul C (pc := 80) dX7_order_80 ?_
      refine V_iload7 C (pc := 81) dX7_order_81 ?_
      refine V_iadd C (pc := 83) dX7_order_83 ?_
      refine alM_4 C (pc := 84) dX7_order_84 hf (fun hf => ?_)
      refine V_istore8 C (pc := 85) dX7_order_85 (by rw [hm]; decide) ?_
      refine V_iload6 C (pc := 87) dX7_order_87 ?_
      refine V_iload8 C (pc := 89) dX7_order_89 ?_
      refine V_if_lt C (pc := 91) (tgt := 103) dX7_order_91 (by decide) hf (fun hf => ?_) (fun hf => ?_)
      · refine V_iconst C (pc := 103) (v := (1 : Int32)) (by decide) dX7_order_103 ?_
        refine V_goto C (pc := 104) (tgt := 108) dX7_order_104 (by decide) ?_
        refine V_iand C (pc := 108) dX7_order_108 ?_
        refine V_istore6 C (pc := 109) dX7_order_109 (by rw [hm]; decide) ?_
        refine V_iinc7 C (pc := 111) (c1 := (1 : Int32)) dX7_order_111 (by decide) (by rw [hm]; decide) ?_
        refine V_goto C (pc := 114) (tgt := 61) dX7_order_114 (by decide) ?_
        exact V.mono [true, true, true, true, true, true, true, true, false] rfl (ih _ _ _ _ _ _ _ hf)
      · refine V_iload2 C (pc := 94) dX7_order_94 ?_
        refine V_iload8 C (pc := 95) dX7_order_95 ?_
        refine V_cS C (pc := 97) (dep2 := 0) (As := [.int x2, .int (gA M 4 (((4 : Int32) * x5) + x7))]) (rest := [.int x6]) (fun r0 h0 => c_X7_has h0) lb_X7_has lk_RX7_76 (by decide) (Nat.le_refl 0) rfl rfl (Nat.le_of_ble_eq_true rfl) dX7_order_97 hf (fun r97 hf => ?_)
        refine V_if_eq C (pc := 100) (tgt := 107) dX7_order_100 (by decide) hf (fun hf => ?_) (fun hf => ?_)
        · refine V_iconst C (pc := 107) (v := (0 : Int32)) (by decide) dX7_order_107 ?_
          refine V_iand C (pc := 108) dX7_order_108 ?_
          refine V_istore6 C (pc := 109) dX7_order_109 (by rw [hm]; decide) ?_
          refine V_iinc7 C (pc := 111) (c1 := (1 : Int32)) dX7_order_111 (by decide) (by rw [hm]; decide) ?_
          refine V_goto C (pc := 114) (tgt := 61) dX7_order_114 (by decide) ?_
          exact V.mono [true, true, true, true, true, true, true, true, false] rfl (ih _ _ _ _ _ _ _ hf)
        · refine V_iconst C (pc := 103) (v := (1 : Int32)) (by decide) dX7_order_103 ?_
          refine V_goto C (pc := 104) (tgt := 108) dX7_order_104 (by decide) ?_
          refine V_iand C (pc := 108) dX7_order_108 ?_
          refine V_istore6 C (pc := 109) dX7_order_109 (by rw [hm]; decide) ?_
          refine V_iinc7 C (pc := 111) (c1 := (1 : Int32)) dX7_order_111 (by decide) (by rw [hm]; decide) ?_
          refine V_goto C (pc := 114) (tgt := 61) dX7_order_114 (by decide) ?_
          exact V.mono [true, true, true, true, true, true, true, true, false] rfl (ih _ _ _ _ _ _ _ hf)
def f_X7_order_27 (N : Nat) (M : Mm) (k7 : Int32 → Int32 → Int32 → Int32 → Option Int32) : Nat → Int32 → Int32 → Int32 → Int32 → Int32 → Option Int32
  | 0, _, _, _, _, _ => none
  | n + 1, x1, x2, x3, x4, x5 => (if x5 < 0 then (if x3 = x1 then (some x4) else (if 0 ≤ x4 then (k7 x1 (x2 ||| ((1 : Int32) <<< (x4 &&& 31))) (x3 + (1 : Int32)) x4) else (k7 x1 (x2 ||| (0 : Int32)) (x3 + (1 : Int32)) x4))) else (if inb x5 9 then (if (gA M 3 x5) < 0 then (f_X7_order_61 N M k7 (f_X7_order_27 N M k7 n) N x1 x2 x3 x4 x5 (0 : Int32) (0 : Int32)) else (bd (f_X7_has x2 x5) (fun r45 => (if r45 = 0 then (f_X7_order_61 N M k7 (f_X7_order_27 N M k7 n) N x1 x2 x3 x4 x5 (1 : Int32) (0 : Int32)) else (f_X7_order_61 N M k7 (f_X7_order_27 N M k7 n) N x1 x2 x3 x4 x5 (0 : Int32) (0 : Int32)))))) else none))
set_option maxRecDepth 100000 in
set_option maxHeartbeats 4000000 in
theorem t_X7_order_27 {Z : Zz} {G : Gm} {a : Nat → Nat} {N : Nat} {o : Int32} {c1 c2 : Nat} {M : Mm} {k7 : Int32 → Int32 → Int32 → Int32 → Option Int32} (C : CX (wM Z a) Z tE G cX7_order RX7 1 (some .int) (PqR o (c1, c2, M)) 0) (hm : (Gc G).maxLocals = 9) (hk7 : ∀ (x1 x2 x3 x4 : Int32) , k7 x1 x2 x3 x4 = some o → V (wM Z a) Z G 0 7 [some (.ref (a 0)), some (.int x1), some (.int x2), some (.int x3), some (.int x4), none, none, none, none] [] (c1, c2, M)) : ∀ (n : Nat) (x1 x2 x3 x4 x5 : Int32) , f_X7_order_27 N M k7 n x1 x2 x3 x4 x5 = some o → V (wM Z a) Z G 0 27 [some (.ref (a 0)), some (.int x1), some (.int x2), some (.int x3), some (.int x4), some (.int x5), none, none, none] [] (c1, c2, M) := by
  intro n
  induction n with
  | zero => intro x1 x2 x3 x4 x5 hf; rw [f_X7_order_27] at hf; cases hf
  | succ n ih =>
    intro x1 x2 x3 x4 x5 hf
    rw [f_X7_order_27] at hf
    refine V_iload5 C (pc := 27) dX7_order_27 ?_
    refine V_if_lt C (pc := 29) (tgt := 137) dX7_order_29 (by decide) hf (fun hf => ?_) (fun hf => ?_)
    · refine V_iload3 C (pc := 137) dX7_order_137 ?_
      refine V_iload1 C (pc := 138) dX7_order_138 ?_
      refine V_icmp_ne C (pc := 139) (tgt := 145) dX7_order_139 (by decide) hf (fun hf => ?_) (fun hf => ?_)
      · refine V_iinc3 C (pc := 145) (c1 := (1 : Int32)) dX7_order_145 (by decide) (by rw [hm]; decide) ?_
        refine V_iload2 C (pc := 148) dX7_order_148 ?_
        refine V_iload4 C (pc := 149) dX7_order_149 ?_
        refine V_if_ge C (pc := 151) (tgt := 158) dX7_order_151 (by decide) hf (fun hf => ?_) (fun hf => ?_)
        · refine V_iconst C (pc := 158) (v := (1 : Int32)) (by decide) dX7_order_158 ?_
          refine V_iload4 C (pc := 159) dX7_order_159 ?_
          refine V_ishl C (pc := 161) dX7_order_161 ?_
          refine V_ior C (pc := 162) dX7_order_162 ?_
          refine V_istore2 C (pc := 163) dX7_order_163 (by rw [hm]; decide) ?_
          refine V_goto C (pc := 164) (tgt := 7) dX7_order_164 (by decide) ?_
          exact V.mono [true, true, true, true, true, false, false, false, false] rfl (hk7 _ _ _ _ hf)
        · refine V_iconst C (pc := 154) (v := (0 : Int32)) (by decide) dX7_order_154 ?_
          refine V_goto C (pc := 155) (tgt := 162) dX7_order_155 (by decide) ?_
          refine V_ior C (pc := 162) dX7_order_162 ?_
          refine V_istore2 C (pc := 163) dX7_order_163 (by rw [hm]; decide) ?_
          refine V_goto C (pc := 164) (tgt := 7) dX7_order_164 (by decide) ?_
          exact V.mono [true, true, true, true, true, false, false, false, false] rfl (hk7 _ _ _ _ hf)
      · refine V_iload4 C (pc := 142) dX7_order_142 ?_
        exact V_iret C (pc := 144) rfl (Nat.le_refl 0) dX7_order_144 ⟨hf, rfl⟩
    · refine V_aload0 C (pc := 32) dX7_order_32 ?_
      refine gf_RX7_16 C (pc := 33) dX7_order_33 ?_
      refine V_iload5 C (pc := 36) dX7_order_36 ?_
      refine alM_3 C (pc := 38) dX7_order_38 hf (fun hf => ?_)
      refine V_if_lt C (pc := 39) (tgt := 55) dX7_order_39 (by decide) hf (fun hf => ?_) (fun hf => ?_)
      · refine V_iconst C (pc := 55) (v := (0 : Int32)) (by decide) dX7_order_55 ?_
        refine V_istore6 C (pc := 56) dX7_order_56 (by rw [hm]; decide) ?_
        refine V_iconst C (pc := 58) (v := (0 : Int32)) (by decide) dX7_order_58 ?_
        refine V_istore7 C (pc := 59) dX7_order_59 (by rw [hm]; decide) ?_
        exact V.mono [true, true, true, true, true, true, true, true, false] rfl (t_X7_order_61 C hm hk7 ih N _ _ _ _ _ _ _ hf)
      · refine V_iload2 C (pc := 42) dX7_order_42 ?_
        refine V_iload5 C (pc := 43) dX7_order_43 ?_
        refine V_cS C (pc := 45) (dep2 := 0) (As := [.int x2, .int x5]) (rest := []) (fun r0 h0 => c_X7_has h0) lb_X7_has lk_RX7_76 (by decide) (Nat.le_refl 0) rfl rfl (Nat.le_of_ble_eq_true rfl) dX7_order_45 hf (fun r45 hf => ?_)
        refine V_if_ne C (pc := 48) (tgt := 55) dX7_order_48 (by decide) hf (fun hf => ?_) (fun hf => ?_)
        · refine V_iconst C (pc := 55) (v := (0 : Int32)) (by decide) dX7_order_55 ?_
          refine V_istore6 C (pc := 56) dX7_order_56 (by rw [hm]; decide) ?_
          refine V_iconst C (pc := 58) (v := (0 : Int32)) (by decide) dX7_order_58 ?_
          refine V_istore7 C (pc := 59) dX7_order_59 (by rw [hm]; decide) ?_
          exact V.mono [true, true, true, true, true, true, true, true, false] rfl (t_X7_order_61 C hm hk7 ih N _ _ _ _ _ _ _ hf)
        · refine V_iconst C (pc := 51) (v := (1 : Int32)) (by decide) dX7_order_51 ?_
          refine V_goto C (pc := 52) (tgt := 56) dX7_order_52 (by decide) ?_
          refine V_istore6 C (pc := 56) dX7_order_56 (by rw [hm]; decide) ?_
          refine V_iconst C (pc := 58) (v := (0 : Int32)) (by decide) dX7_order_58 ?_
          refine V_istore7 C (pc := 59) dX7_order_59 (by rw [hm]; decide) ?_
          exact V.mono [true, true, true, true, true, true, true, true, false] rfl (t_X7_order_61 C hm hk7 ih N _ _ _ _ _ _ _ hf)
def f_X7_order_7 (N : Nat) (M : Mm) : Nat → Int32 → Int32 → Int32 → Int32 → Option Int32
  | 0, _, _, _, _ => none
  | n + 1, x1, x2, x3, x4 => (if x4 < 0 then (some (-1 : Int32)) else (if x1 < 0 then (some (-1 : Int32)) else (f_X7_order_27 N M (f_X7_order_7 N M n) N x1 x2 x3 (-1 : Int32) ((gI M 0) - (1 : Int32)))))
set_option maxRecDepth 100000 in
set_option maxHeartbeats 4000000 in
theorem t_X7_order_7 {Z : Zz} {G : Gm} {a : Nat → Nat} {N : Nat} {o : Int32} {c1 c2 : Nat} {M : Mm} (C : CX (wM Z a) Z tE G cX7_order RX7 1 (some .int) (PqR o (c1, c2, M)) 0) (hm : (Gc G).maxLocals = 9) : ∀ (n : Nat) (x1 x2 x3 x4 : Int32) , f_X7_order_7 N M n x1 x2 x3 x4 = some o → V (wM Z a) Z G 0 7 [some (.ref (a 0)), some (.int x1), some (.int x2), some (.int x3), some (.int x4), none, none, none, none] [] (c1, c2, M) := by
  intro n
  induction n with
  | zero => intro x1 x2 x3 x4 hf; rw [f_X7_order_7] at hf; cases hf
  | succ n ih =>
    intro x1 x2 x3 x4 hf
    rw [f_X7_order_7] at hf
    refine V_iload4 C (pc := 7) dX7_order_7 ?_
    refine V_if_lt C (pc := 9) (tgt := 167) dX7_order_9 (by decide) hf (fun hf => ?_) (fun hf => ?_)
    · refine V_iconst C (pc := 167) (v := (-1 : Int32)) (by decide) dX7_order_167 ?_
      exact V_iret C (pc := 168) rfl (Nat.le_refl 0) dX7_order_168 ⟨hf, rfl⟩
    · refine V_iload1 C (pc := 12) dX7_order_12 ?_
      refine V_if_lt C (pc := 13) (tgt := 167) dX7_order_13 (by decide) hf (fun hf => ?_) (fun hf => ?_)
      · refine V_iconst C (pc := 167) (v := (-1 : Int32)) (by decide) dX7_order_167 ?_
        exact V_iret C (pc := 168) rfl (Nat.le_refl 0) dX7_order_168 ⟨hf, rfl⟩
      · refine V_iconst C (pc := 16) (v := (-1 : Int32)) (by decide) dX7_order_16 ?_
        refine V_istore4 C (pc := 17) dX7_order_17 (by rw [hm]; decide) ?_
        refine V_aload0 C (pc := 19) dX7_order_19 ?_
        refine gf_RX7_73 C (pc := 20) dX7_order_20 ?_
        refine V_iconst C (pc := 23) (v := (1 : Int32)) (by decide) dX7_order_23 ?_
        refine V_isub C (pc := 24) dX7_order_24 ?_
        refine V_istore5 C (pc := 25) dX7_order_25 (by rw [hm]; decide) ?_
        exact V.mono [true, true, true, true, true, true, false, false, false] rfl (t_X7_order_27 C hm ih N _ _ _ _ _ hf)
def f_X7_order (N : Nat) (M : Mm) (x1 : Int32) : Option Int32 := (f_X7_order_7 N M N x1 (0 : Int32) (0 : Int32) (0 : Int32))
set_option maxRecDepth 100000 in
set_option maxHeartbeats 4000000 in
theorem t_X7_order {Z : Zz} {G : Gm} {a : Nat → Nat} {N : Nat} {o : Int32} {c1 c2 : Nat} {M : Mm} {x1 : Int32} (C : CX (wM Z a) Z tE G cX7_order RX7 1 (some .int) (PqR o (c1, c2, M)) 0) (hm : (Gc G).maxLocals = 9) (hf : f_X7_order N M x1 = some o) : V (wM Z a) Z G 0 0 [some (.ref (a 0)), some (.int x1), none, none, none, none, none, none, none] [] (c1, c2, M) := by
  unfold f_X7_order at hf
  refine V_iconst C (pc := 0) (v := (0 : Int32)) (by decide) dX7_order_0 ?_
  refine V_istore2 C (pc := 1) dX7_order_1 (by rw [hm]; decide) ?_
  refine V_iconst C (pc := 2) (v := (0 : Int32)) (by decide) dX7_order_2 ?_
  refine V_istore3 C (pc := 3) dX7_order_3 (by rw [hm]; decide) ?_
  refine V_iconst C (pc := 4) (v := (0 : Int32)) (by decide) dX7_order_4 ?_
  refine V_istore4 C (pc := 5) dX7_order_5 (by rw [hm]; decide) ?_
  exact V.mono [true, true, true, true, true, false, false, false, false] rfl (t_X7_order_7 C hm N _ _ _ _ hf)
set_option maxRecDepth 100000 in
theorem c_X7_order {Z : Zz} {a : Nat → Nat} {N : Nat} {c1 c2 : Nat} {M : Mm} {x1 : Int32} {r0 : Int32} (hf : f_X7_order N M x1 = some r0) : CtI (wM Z a) Z tE yX7_order cX7_order 9 (some .int) 1 0 [.ref (a 0), .int x1] (c1, c2, M) (PqR r0 (c1, c2, M)) := CtI_of (by decide +kernel) (Or.inl rfl) (List.forall_mem_cons.mpr ⟨rfl, List.forall_mem_cons.mpr ⟨rfl, fun _ h9 => nomatch h9⟩⟩) (Nat.le_of_ble_eq_true rfl) (fun G C hm => t_X7_order (o := r0) C hm hf)
def f_X7_trace_77 (N : Nat) (k31 : Int32 → Int32 → Int32 → Int32 → Mm → Option Mm) (x1 : Int32) (x2 : Int32) (x3 : Int32) (x4 : Int32) (t0 : Int32) (M : Mm) : Option Mm := (if x4 = (18 : Int32) then (if inb x3 40960 then (if inb (gI (sI (sA M 16 x3 (vp_nar .boolean (1 : Int32))) 9 ((gI (sA M 16 x3 (vp_nar .boolean (1 : Int32))) 9) - (1 : Int32))) 9) 40960 then (if inb (gI (sI (sA M 16 x3 (vp_nar .boolean (1 : Int32))) 9 ((gI (sA M 16 x3 (vp_nar .boolean (1 : Int32))) 9) - (1 : Int32))) 9) 40960 then (k31 x1 x2 (gA (sI (sA M 16 x3 (vp_nar .boolean (1 : Int32))) 9 ((gI (sA M 16 x3 (vp_nar .boolean (1 : Int32))) 9) - (1 : Int32))) 18 (gI (sI (sA M 16 x3 (vp_nar .boolean (1 : Int32))) 9 ((gI (sA M 16 x3 (vp_nar .boolean (1 : Int32))) 9) - (1 : Int32))) 9)) ((gA (sI (sA M 16 x3 (vp_nar .boolean (1 : Int32))) 9 ((gI (sA M 16 x3 (vp_nar .boolean (1 : Int32))) 9) - (1 : Int32))) 17 (gI (sI (sA M 16 x3 (vp_nar .boolean (1 : Int32))) 9 ((gI (sA M 16 x3 (vp_nar .boolean (1 : Int32))) 9) - (1 : Int32))) 9)) + (1 : Int32)) (sI (sA M 16 x3 (vp_nar .boolean (1 : Int32))) 9 ((gI (sA M 16 x3 (vp_nar .boolean (1 : Int32))) 9) - (1 : Int32)))) else none) else none) else none) else (if t0 < 0 then (k31 x1 x2 x3 (x4 + (1 : Int32)) M) else (if inb t0 40960 then (if inb x3 40960 then (bd (f_X7_price x4) (fun r149 => (if (gA M 13 t0) = ((gA M 13 x3) + r149) then (if inb t0 40960 then (if x2 < (gA M 13 t0) then (k31 x1 x2 x3 (x4 + (1 : Int32)) M) else (if inb t0 40960 then (if (gA M 16 t0) = 0 then (if inb (gI M 9) 40960 then (if inb (gI (sA M 17 (gI M 9) x4) 9) 40960 then (k31 x1 x2 t0 (0 : Int32) (sI (sA (sA M 17 (gI M 9) x4) 18 (gI (sA M 17 (gI M 9) x4) 9) x3) 9 ((gI (sA (sA M 17 (gI M 9) x4) 18 (gI (sA M 17 (gI M 9) x4) 9) x3) 9) + (1 : Int32)))) else none) else none) else (k31 x1 x2 x3 (x4 + (1 : Int32)) M)) else none)) else none) else (k31 x1 x2 x3 (x4 + (1 : Int32)) M)))) else none) else none)))
set_option maxRecDepth 100000 in
set_option maxHeartbeats 4000000 in
theorem t_X7_trace_77 {Z : Zz} {G : Gm} {a : Nat → Nat} {N : Nat} {o : Mm} {c1 c2 : Nat} {M : Mm} {k31 : Int32 → Int32 → Int32 → Int32 → Mm → Option Mm} {x1 x2 x3 x4 t0 : Int32} (C : CX (wM Z a) Z tE G cX7_trace RX7 5 none (PqV o) 0) (hm : (Gc G).maxLocals = 6) (hk31 : ∀ (x1 x2 x3 x4 : Int32) (c1 c2 : Nat) (M : Mm), k31 x1 x2 x3 x4 M = some o → V (wM Z a) Z G 0 31 [some (.ref (a 0)), some (.int x1), some (.int x2), some (.int x3), some (.int x4), none] [] (c1, c2, M)) (hf : f_X7_trace_77 N k31 x1 x2 x3 x4 t0 M = some o) : V (wM Z a) Z G 0 77 [some (.ref (a 0)), some (.int x1), some (.int x2), some (.int x3), some (.int x4), none] [.int t0] (c1, c2, M) := by
  unfold f_X7_trace_77 at hf
  refine V_istore5 C (pc := 77) dX7_trace_77 (by rw [hm]; decide) ?_
  refine V_iload4 C (pc := 79) dX7_trace_79 ?_
  refine V_bipush C (pc := 81) (v := (18 : Int32)) (by decide) dX7_trace_81 ?_
  refine V_icmp_ne C (pc := 83) (tgt := 129) dX7_trace_83 (by decide) hf (fun hf => ?_) (fun hf => ?_)
  · refine V_iload5 C (pc := 129) dX7_trace_129 ?_
    refine V_if_lt C (pc := 131) (tgt := 217) dX7_trace_131 (by decide) hf (fun hf => ?_) (fun hf => ?_)
    · refine V_iinc4 C (pc := 217) (c1 := (1 : Int32)) dX7_trace_217 (by decide) (by rw [hm]; decide) ?_
      refine V_goto C (pc := 220) (tgt := 31) dX7_trace_220 (by decide) ?_
      exact V.mono [true, true, true, true, true, false] rfl (hk31 _ _ _ _ c1 c2 M hf)
    · refine V_aload0 C (pc := 134) dX7_trace_134 ?_
      refine gf_RX7_55 C (pc := 135) dX7_trace_135 ?_
      refine V_iload5 C (pc := 138) dX7_trace_138 ?_
      refine alM_13 C (pc := 140) dX7_trace_140 hf (fun hf => ?_)
      refine V_aload0 C (pc := 141) dX7_trace_141 ?_
      refine gf_RX7_55 C (pc := 142) dX7_trace_142 ?_
      refine V_iload3 C (pc := 145) dX7_trace_145 ?_
      refine alM_13 C (pc := 146) dX7_trace_146 hf (fun hf => ?_)
      refine V_iload4 C (pc := 147) dX7_trace_147 ?_
      refine V_cS C (pc := 149) (dep2 := 0) (As := [.int x4]) (rest := [.int (gA M 13 x3), .int (gA M 13 t0)]) (fun r0 h0 => c_X7_price h0) lb_X7_price lk_RX7_160 (by decide) (Nat.le_refl 0) rfl rfl (Nat.le_of_ble_eq_true rfl) dX7_trace_149 hf (fun r149 hf => ?_)
      refine V_iadd C (pc := 152) dX7_trace_152 ?_
      refine V_icmp_ne C (pc := 153) (tgt := 217) dX7_trace_153 (by decide) hf (fun hf => ?_) (fun hf => ?_)
      · refine V_iinc4 C (pc := 217) (c1 := (1 : Int32)) dX7_trace_217 (by decide) (by rw [hm]; decide) ?_
        refine V_goto C (pc := 220) (tgt := 31) dX7_trace_220 (by decide) ?_
        exact V.mono [true, true, true, true, true, false] rfl (hk31 _ _ _ _ c1 c2 M hf)
      · refine V_aload0 C (pc := 156) dX7_trace_156 ?_
        refine gf_RX7_55 C (pc := 157) dX7_trace_157 ?_
        refine V_iload5 C (pc := 160) dX7_trace_160 ?_
        refine alM_13 C (pc := 162) dX7_trace_162 hf (fun hf => ?_)
        refine V_iload2 C (pc := 163) dX7_trace_163 ?_
        refine V_icmp_gt C (pc := 164) (tgt := 217) dX7_trace_164 (by decide) hf (fun hf => ?_) (fun hf => ?_)
        · refine V_iinc4 C (pc := 217) (c1 := (1 : Int32)) dX7_trace_217 (by decide) (by rw [hm]; decide) ?_
          refine V_goto C (pc := 220) (tgt := 31) dX7_trace_220 (by decide) ?_
          exact V.mono [true, true, true, true, true, false] rfl (hk31 _ _ _ _ c1 c2 M hf)
        · refine V_aload0 C (pc := 167) dX7_trace_167 ?_
          refine gf_RX7_64 C (pc := 168) dX7_trace_168 ?_
          refine V_iload5 C (pc := 171) dX7_trace_171 ?_
          refine alM_16 C (pc := 173) dX7_trace_173 hf (fun hf => ?_)
          refine V_if_ne C (pc := 174) (tgt := 217) dX7_trace_174 (by decide) hf (fun hf => ?_) (fun hf => ?_)
          · refine V_iinc4 C (pc := 217) (c1 := (1 : Int32)) dX7_trace_217 (by decide) (by rw [hm]; decide) ?_
            refine V_goto C (pc := 220) (tgt := 31) dX7_trace_220 (by decide) ?_
            exact V.mono [true, true, true, true, true, false] rfl (hk31 _ _ _ _ c1 c2 M hf)
          · refine V_aload0 C (pc := 177) dX7_trace_177 ?_
            refine gf_RX7_67 C (pc := 178) dX7_trace_178 ?_
            refine V_aload0 C (pc := 181) dX7_trace_181 ?_
            refine gf_RX7_166 C (pc := 182) dX7_trace_182 ?_
            refine V_iload4 C (pc := 185) dX7_trace_185 ?_
            refine asM_17 C (pc := 187) dX7_trace_187 hf (fun hf => ?_)
            refine V_aload0 C (pc := 188) dX7_trace_188 ?_
            refine gf_RX7_70 C (pc := 189) dX7_trace_189 ?_
            refine V_aload0 C (pc := 192) dX7_trace_192 ?_
            refine gf_RX7_166 C (pc := 193) dX7_trace_193 ?_
            refine V_iload3 C (pc := 196) dX7_trace_196 ?_
            refine asM_18 C (pc := 197) dX7_trace_197 hf (fun hf => ?_)
            refine V_aload0 C (pc := 198) dX7_trace_198 ?_
            refine V_dupr C (pc := 199) dX7_trace_199 ?_
            refine gf_RX7_166 C (pc := 200) dX7_trace_200 ?_
            refine V_iconst C (pc := 203) (v := (1 : Int32)) (by decide) dX7_trace_203 ?_
            refine V_iadd C (pc := 204) dX7_trace_204 ?_
            refine pf_RX7_166 C (pc := 205) dX7_trace_205 ?_
            refine V_iload5 C (pc := 208) dX7_trace_208 ?_
            refine V_istore3 C (pc := 210) dX7_trace_210 (by rw [hm]; decide) ?_
            refine V_iconst C (pc := 211) (v := (0 : Int32)) (by decide) dX7_trace_211 ?_
            refine V_istore4 C (pc := 212) dX7_trace_212 (by rw [hm]; decide) ?_
            refine V_goto C (pc := 214) (tgt := 220) dX7_trace_214 (by decide) ?_
            refine V_goto C (pc := 220) (tgt := 31) dX7_trace_220 (by decide) ?_
            exact V.mono [true, true, true, true, true, false] rfl (hk31 _ _ _ _ c1 c2 (sI (sA (sA M 17 (gI M 9) x4) 18 (gI (sA M 17 (gI M 9) x4) 9) x3) 9 ((gI (sA (sA M 17 (gI M 9) x4) 18 (gI (sA M 17 (gI M 9) x4) 9) x3) 9) + (1 : Int32))) hf)
  · refine V_aload0 C (pc := 86) dX7_trace_86 ?_
    refine gf_RX7_64 C (pc := 87) dX7_trace_87 ?_
    refine V_iload3 C (pc := 90) dX7_trace_90 ?_
    refine V_iconst C (pc := 91) (v := (1 : Int32)) (by decide) dX7_trace_91 ?_
    refine asM_16 C (pc := 92) dX7_trace_92 hf (fun hf => ?_)
    refine V_aload0 C (pc := 93) dX7_trace_93 ?_
    refine V_dupr C (pc := 94) dX7_trace_94 ?_
    refine gf_RX7_166 C (pc := 95) dX7_trace_95 ?_
    refine V_iconst C (pc := 98) (v := (1 : Int32)) (by decide) dX7_trace_98 ?_
    refine V_isub C (pc := 99) dX7_trace_99 ?_
    refine pf_RX7_166 C (pc := 100) dX7_trace_100 ?_
    refine V_aload0 C (pc := 103) dX7_trace_103 ?_
    refine gf_RX7_70 C (pc := 104) dX7_trace_104 ?_
    refine V_aload0 C (pc := 107) dX7_trace_107 ?_
    refine gf_RX7_166 C (pc := 108) dX7_trace_108 ?_
    refine alM_18 C (pc := 111) dX7_trace_111 hf (fun hf => ?_)
    refine V_istore3 C (pc := 112) dX7_trace_112 (by rw [hm]; decide) ?_
    refine V_aload0 C (pc := 113) dX7_trace_113 ?_
    refine gf_RX7_67 C (pc := 114) dX7_trace_114 ?_
    refine V_aload0 C (pc := 117) dX7_trace_117 ?_
    refine gf_RX7_166 C (pc := 118) dX7_trace_118 ?_
    refine alM_17 C (pc := 121) dX7_trace_121 hf (fun hf => ?_)
    refine V_iconst C (pc := 122) (v := (1 : Int32)) (by decide) dX7_trace_122 ?_
    refine V_iadd C (pc := 123) dX7_trace_123 ?_
    refine V_istore4 C (pc := 124) dX7_trace_124 (by rw [hm]; decide) ?_
    refine V_goto C (pc := 126) (tgt := 220) dX7_trace_126 (by decide) ?_
    refine V_goto C (pc := 220) (tgt := 31) dX7_trace_220 (by decide) ?_
    exact V.mono [true, true, true, true, true, false] rfl (hk31 _ _ _ _ c1 c2 (sI (sA M 16 x3 (vp_nar .boolean (1 : Int32))) 9 ((gI (sA M 16 x3 (vp_nar .boolean (1 : Int32))) 9) - (1 : Int32))) hf)
def f_X7_trace_58 (N : Nat) (k31 : Int32 → Int32 → Int32 → Int32 → Mm → Option Mm) (x1 : Int32) (x2 : Int32) (x3 : Int32) (x4 : Int32) (M : Mm) : Option Mm := (if (18 : Int32) ≤ x4 then (f_X7_trace_77 N k31 x1 x2 x3 x4 (-1 : Int32) M) else (bd (f_X7_behind N M x3 x4 x1) (fun r70 => (f_X7_trace_77 N k31 x1 x2 x3 x4 r70 M))))
set_option maxRecDepth 100000 in
set_option maxHeartbeats 4000000 in
theorem t_X7_trace_58 {Z : Zz} {G : Gm} {a : Nat → Nat} {N : Nat} {o : Mm} {c1 c2 : Nat} {M : Mm} {k31 : Int32 → Int32 → Int32 → Int32 → Mm → Option Mm} {x1 x2 x3 x4 : Int32} (C : CX (wM Z a) Z tE G cX7_trace RX7 5 none (PqV o) 0) (hm : (Gc G).maxLocals = 6) (hk31 : ∀ (x1 x2 x3 x4 : Int32) (c1 c2 : Nat) (M : Mm), k31 x1 x2 x3 x4 M = some o → V (wM Z a) Z G 0 31 [some (.ref (a 0)), some (.int x1), some (.int x2), some (.int x3), some (.int x4), none] [] (c1, c2, M)) (hf : f_X7_trace_58 N k31 x1 x2 x3 x4 M = some o) : V (wM Z a) Z G 0 58 [some (.ref (a 0)), some (.int x1), some (.int x2), some (.int x3), some (.int x4), none] [] (c1, c2, M) := by
  unfold f_X7_trace_58 at hf
  refine V_iload4 C (pc := 58) dX7_trace_58 ?_
  refine V_bipush C (pc := 60) (v := (18 : Int32)) (by decide) dX7_trace_60 ?_
  refine V_icmp_ge C (pc := 62) (tgt := 76) dX7_trace_62 (by decide) hf (fun hf => ?_) (fun hf => ?_)
  · refine V_iconst C (pc := 76) (v := (-1 : Int32)) (by decide) dX7_trace_76 ?_
    exact V.mono [true, true, true, true, true, false] rfl (t_X7_trace_77 C hm hk31 hf)
  · refine V_aload0 C (pc := 65) dX7_trace_65 ?_
    refine V_iload3 C (pc := 66) dX7_trace_66 ?_
    refine V_iload4 C (pc := 67) dX7_trace_67 ?_
    refine V_iload1 C (pc := 69) dX7_trace_69 ?_
    refine V_cR C (pc := 70) (dep2 := 4) (As := [.int x3, .int x4, .int x1]) (rest := []) (fun r0 h0 => c_X7_behind h0) lb_X7_behind lk_RX7_157 wm_t (by decide) (Nat.le_refl 0) 0 7 rfl rfl rfl rfl (Nat.le_of_ble_eq_true rfl) dX7_trace_70 hf (fun r70 hf => ?_)
    refine V_goto C (pc := 73) (tgt := 77) dX7_trace_73 (by decide) ?_
    exact V.mono [true, true, true, true, true, false] rfl (t_X7_trace_77 C hm hk31 hf)
def f_X7_trace_31 (N : Nat) : Nat → Int32 → Int32 → Int32 → Int32 → Mm → Option Mm
  | 0, _, _, _, _, _ => none
  | n + 1, x1, x2, x3, x4, M => (if inb x3 40960 then (if (gA M 13 x3) = x2 then (bd (f_X7_isEnd N M (x3 - x3 / (512 : Int32) * (512 : Int32)) (x3 / (5120 : Int32))) (fun r52 => (if r52 = 0 then (f_X7_trace_58 N (f_X7_trace_31 N n) x1 x2 x3 x4 M) else (some M)))) else (f_X7_trace_58 N (f_X7_trace_31 N n) x1 x2 x3 x4 M)) else none)
set_option maxRecDepth 100000 in
set_option maxHeartbeats 4000000 in
theorem t_X7_trace_31 {Z : Zz} {G : Gm} {a : Nat → Nat} {N : Nat} {o : Mm} (C : CX (wM Z a) Z tE G cX7_trace RX7 5 none (PqV o) 0) (hm : (Gc G).maxLocals = 6) : ∀ (n : Nat) (x1 x2 x3 x4 : Int32) (c1 c2 : Nat) (M : Mm), f_X7_trace_31 N n x1 x2 x3 x4 M = some o → V (wM Z a) Z G 0 31 [some (.ref (a 0)), some (.int x1), some (.int x2), some (.int x3), some (.int x4), none] [] (c1, c2, M) := by
  intro n
  induction n with
  | zero => intro x1 x2 x3 x4 c1 c2 M hf; rw [f_X7_trace_31] at hf; cases hf
  | succ n ih =>
    intro x1 x2 x3 x4 c1 c2 M hf
    rw [f_X7_trace_31] at hf
    refine V_aload0 C (pc := 31) dX7_trace_31 ?_
    refine gf_RX7_55 C (pc := 32) dX7_trace_32 ?_
    refine V_iload3 C (pc := 35) dX7_trace_35 ?_
    refine alM_13 C (pc := 36) dX7_trace_36 hf (fun hf => ?_)
    refine V_iload2 C (pc := 37) dX7_trace_37 ?_
    refine V_icmp_ne C (pc := 38) (tgt := 58) dX7_trace_38 (by decide) hf (fun hf => ?_) (fun hf => ?_)
    · exact V.mono [true, true, true, true, true, false] rfl (t_X7_trace_58 C hm ih hf)
    · refine V_aload0 C (pc := 41) dX7_trace_41 ?_
      refine V_iload3 C (pc := 42) dX7_trace_42 ?_
      refine V_sipush C (pc := 43) (v := (512 : Int32)) (by decide) dX7_trace_43 ?_
      refine V_irem C (pc := 46) (by decide) dX7_trace_46 ?_
      refine V_iload3 C (pc := 47) dX7_trace_47 ?_
      refine V_sipush C (pc := 48) (v := (5120 : Int32)) (by decide) dX7_trace_48 ?_
      refine V_idiv C (pc := 51) (by decide) dX7_trace_51 ?_
      refine V_cR C (pc := 52) (dep2 := 2) (As := [.int (x3 - x3 / (512 : Int32) * (512 : Int32)), .int (x3 / (5120 : Int32))]) (rest := []) (fun r0 h0 => c_X7_isEnd h0) lb_X7_isEnd lk_RX7_163 wm_t (by decide) (Nat.le_refl 0) 0 7 rfl rfl rfl rfl (Nat.le_of_ble_eq_true rfl) dX7_trace_52 hf (fun r52 hf => ?_)
      refine V_if_ne C (pc := 55) (tgt := 223) dX7_trace_55 (by decide) hf (fun hf => ?_) (fun hf => ?_)
      · exact V_vret C (pc := 223) rfl (Nat.le_refl 0) dX7_trace_223 (pqV hf)
      · exact V.mono [true, true, true, true, true, false] rfl (t_X7_trace_58 C hm ih hf)
def f_X7_trace_2 (N : Nat) : Nat → Int32 → Int32 → Int32 → Mm → Option Mm
  | 0, _, _, _, _ => none
  | n + 1, x1, x2, x3, M => (if (40960 : Int32) ≤ x3 then (f_X7_trace_31 N N x1 x2 (0 : Int32) (0 : Int32) (sI M 9 (0 : Int32))) else (if inb x3 40960 then ((f_X7_trace_2 N n) x1 x2 (x3 + (1 : Int32)) (sA M 16 x3 (vp_nar .boolean (0 : Int32)))) else none))
set_option maxRecDepth 100000 in
set_option maxHeartbeats 4000000 in
theorem t_X7_trace_2 {Z : Zz} {G : Gm} {a : Nat → Nat} {N : Nat} {o : Mm} (C : CX (wM Z a) Z tE G cX7_trace RX7 5 none (PqV o) 0) (hm : (Gc G).maxLocals = 6) : ∀ (n : Nat) (x1 x2 x3 : Int32) (c1 c2 : Nat) (M : Mm), f_X7_trace_2 N n x1 x2 x3 M = some o → V (wM Z a) Z G 0 2 [some (.ref (a 0)), some (.int x1), some (.int x2), some (.int x3), none, none] [] (c1, c2, M) := by
  intro n
  induction n with
  | zero => intro x1 x2 x3 c1 c2 M hf; rw [f_X7_trace_2] at hf; cases hf
  | succ n ih =>
    intro x1 x2 x3 c1 c2 M hf
    rw [f_X7_trace_2] at hf
    refine V_iload3 C (pc := 2) dX7_trace_2 ?_
    refine V_ldc C (pc := 3) wk_RX7_54 dX7_trace_3 ?_
    refine V_icmp_ge C (pc := 5) (tgt := 21) dX7_trace_5 (by decide) hf (fun hf => ?_) (fun hf => ?_)
    · refine V_aload0 C (pc := 21) dX7_trace_21 ?_
      refine V_iconst C (pc := 22) (v := (0 : Int32)) (by decide) dX7_trace_22 ?_
      refine pf_RX7_166 C (pc := 23) dX7_trace_23 ?_
      refine V_iconst C (pc := 26) (v := (0 : Int32)) (by decide) dX7_trace_26 ?_
      refine V_istore3 C (pc := 27) dX7_trace_27 (by rw [hm]; decide) ?_
      refine V_iconst C (pc := 28) (v := (0 : Int32)) (by decide) dX7_trace_28 ?_
      refine V_istore4 C (pc := 29) dX7_trace_29 (by rw [hm]; decide) ?_
      exact V.mono [true, true, true, true, true, false] rfl (t_X7_trace_31 C hm N _ _ _ _ c1 c2 (sI M 9 (0 : Int32)) hf)
    · refine V_aload0 C (pc := 8) dX7_trace_8 ?_
      refine gf_RX7_64 C (pc := 9) dX7_trace_9 ?_
      refine V_iload3 C (pc := 12) dX7_trace_12 ?_
      refine V_iconst C (pc := 13) (v := (0 : Int32)) (by decide) dX7_trace_13 ?_
      refine asM_16 C (pc := 14) dX7_trace_14 hf (fun hf => ?_)
      refine V_iinc3 C (pc := 15) (c1 := (1 : Int32)) dX7_trace_15 (by decide) (by rw [hm]; decide) ?_
      refine V_goto C (pc := 18) (tgt := 2) dX7_trace_18 (by decide) ?_
      exact V.mono [true, true, true, true, false, false] rfl (ih _ _ _ c1 c2 (sA M 16 x3 (vp_nar .boolean (0 : Int32))) hf)
def f_X7_trace (N : Nat) (x1 : Int32) (x2 : Int32) (M : Mm) : Option Mm := (f_X7_trace_2 N N x1 x2 (0 : Int32) M)
set_option maxRecDepth 100000 in
set_option maxHeartbeats 4000000 in
theorem t_X7_trace {Z : Zz} {G : Gm} {a : Nat → Nat} {N : Nat} {o : Mm} {c1 c2 : Nat} {M : Mm} {x1 x2 : Int32} (C : CX (wM Z a) Z tE G cX7_trace RX7 5 none (PqV o) 0) (hm : (Gc G).maxLocals = 6) (hf : f_X7_trace N x1 x2 M = some o) : V (wM Z a) Z G 0 0 [some (.ref (a 0)), some (.int x1), some (.int x2), none, none, none] [] (c1, c2, M) := by
  unfold f_X7_trace at hf
  refine V_iconst C (pc := 0) (v := (0 : Int32)) (by decide) dX7_trace_0 ?_
  refine V_istore3 C (pc := 1) dX7_trace_1 (by rw [hm]; decide) ?_
  exact V.mono [true, true, true, true, false, false] rfl (t_X7_trace_2 C hm N _ _ _ c1 c2 M hf)
set_option maxRecDepth 100000 in
theorem c_X7_trace {Z : Zz} {a : Nat → Nat} {N : Nat} {c1 c2 : Nat} {M : Mm} {x1 x2 : Int32} {M0 : Mm} (hf : f_X7_trace N x1 x2 M = some M0) : CtV (wM Z a) Z tE yX7_trace cX7_trace 6 5 0 [.ref (a 0), .int x1, .int x2] (c1, c2, M) (PqV M0) := CtV_of (by decide +kernel) (List.forall_mem_cons.mpr ⟨rfl, List.forall_mem_cons.mpr ⟨rfl, List.forall_mem_cons.mpr ⟨rfl, fun _ h9 => nomatch h9⟩⟩⟩) (Nat.le_of_ble_eq_true rfl) (fun G C hm => t_X7_trace (o := M0) C hm hf)
def f_X7_plan (N : Nat) (x1 : Int32) (x2 : Int32) (M : Mm) : Option (Int32 × Mm) := (if x1 < (1 : Int32) then (some ((-2 : Int32), M)) else (if (18 : Int32) < x1 then (some ((-2 : Int32), M)) else (if (-1 : Int32) ≤ x2 then (bd2 (f_X7_spread N x1 M) (fun r21 M21 => (if r21 = (1000000000 : Int32) then (some ((-1 : Int32), M21)) else (bd (f_X7_trace N x1 r21 M21) (fun M36 => (if 0 ≤ x2 then (if (gI M36 9) ≤ x2 then (some ((-1 : Int32), M36)) else (if inb x2 40960 then (some ((gA M36 17 x2), M36)) else none)) else (some ((gI M36 9), M36)))))))) else (some ((-2 : Int32), M)))))
set_option maxRecDepth 100000 in
set_option maxHeartbeats 4000000 in
theorem t_X7_plan {Z : Zz} {G : Gm} {a : Nat → Nat} {N : Nat} {o : (Int32 × Mm)} {c1 c2 : Nat} {M : Mm} {x1 x2 : Int32} (C : CX (wM Z a) Z tE G cX7_plan RX7 6 (some .int) (PqW o.1 o.2) 0) (hm : (Gc G).maxLocals = 4) (hf : f_X7_plan N x1 x2 M = some o) : V (wM Z a) Z G 0 0 [some (.ref (a 0)), some (.int x1), some (.int x2), none] [] (c1, c2, M) := by
  unfold f_X7_plan at hf
  refine V_iload1 C (pc := 0) dX7_plan_0 ?_
  refine V_iconst C (pc := 1) (v := (1 : Int32)) (by decide) dX7_plan_1 ?_
  refine V_icmp_lt C (pc := 2) (tgt := 16) dX7_plan_2 (by decide) hf (fun hf => ?_) (fun hf => ?_)
  · refine V_bipush C (pc := 16) (v := (-2 : Int32)) (by decide) dX7_plan_16 ?_
    exact V_iret C (pc := 18) rfl (Nat.le_refl 0) dX7_plan_18 (pqW hf)
  · refine V_iload1 C (pc := 5) dX7_plan_5 ?_
    refine V_bipush C (pc := 6) (v := (18 : Int32)) (by decide) dX7_plan_6 ?_
    refine V_icmp_gt C (pc := 8) (tgt := 16) dX7_plan_8 (by decide) hf (fun hf => ?_) (fun hf => ?_)
    · refine V_bipush C (pc := 16) (v := (-2 : Int32)) (by decide) dX7_plan_16 ?_
      exact V_iret C (pc := 18) rfl (Nat.le_refl 0) dX7_plan_18 (pqW hf)
    · refine V_iload2 C (pc := 11) dX7_plan_11 ?_
      refine V_iconst C (pc := 12) (v := (-1 : Int32)) (by decide) dX7_plan_12 ?_
      refine V_icmp_ge C (pc := 13) (tgt := 19) dX7_plan_13 (by decide) hf (fun hf => ?_) (fun hf => ?_)
      · refine V_aload0 C (pc := 19) dX7_plan_19 ?_
        refine V_iload1 C (pc := 20) dX7_plan_20 ?_
        refine V_cW C (pc := 21) (dep2 := 5) (As := [.int x1]) (rest := []) (fun r0 M0 h0 => c_X7_spread h0) lb_X7_spread lk_RX7_169 wm_t (by decide) (Nat.le_refl 0) 0 7 rfl rfl rfl rfl (Nat.le_of_ble_eq_true rfl) dX7_plan_21 hf (fun r21 c1 c2 M21 hf => ?_)
        refine V_istore3 C (pc := 24) dX7_plan_24 (by rw [hm]; decide) ?_
        refine V_iload3 C (pc := 25) dX7_plan_25 ?_
        refine V_ldc C (pc := 26) wk_RX7_156 dX7_plan_26 ?_
        refine V_icmp_ne C (pc := 28) (tgt := 33) dX7_plan_28 (by decide) hf (fun hf => ?_) (fun hf => ?_)
        · refine V_aload0 C (pc := 33) dX7_plan_33 ?_
          refine V_iload1 C (pc := 34) dX7_plan_34 ?_
          refine V_iload3 C (pc := 35) dX7_plan_35 ?_
          refine V_cV C (pc := 36) (dep2 := 5) (As := [.int x1, .int r21]) (rest := []) (fun M0 h0 => c_X7_trace h0) lb_X7_trace lk_RX7_172 wm_t (by decide) (Nat.le_refl 0) 0 7 rfl rfl rfl rfl (Nat.le_of_ble_eq_true rfl) dX7_plan_36 hf (fun c1 c2 M36 hf => ?_)
          refine V_iload2 C (pc := 39) dX7_plan_39 ?_
          refine V_if_ge C (pc := 40) (tgt := 50) dX7_plan_40 (by decide) hf (fun hf => ?_) (fun hf => ?_)
          · refine V_iload2 C (pc := 50) dX7_plan_50 ?_
            refine V_aload0 C (pc := 51) dX7_plan_51 ?_
            refine gf_RX7_166 C (pc := 52) dX7_plan_52 ?_
            refine V_icmp_ge C (pc := 55) (tgt := 67) dX7_plan_55 (by decide) hf (fun hf => ?_) (fun hf => ?_)
            · refine V_iconst C (pc := 67) (v := (-1 : Int32)) (by decide) dX7_plan_67 ?_
              exact V_iret C (pc := 68) rfl (Nat.le_refl 0) dX7_plan_68 (pqW hf)
            · refine V_aload0 C (pc := 58) dX7_plan_58 ?_
              refine gf_RX7_67 C (pc := 59) dX7_plan_59 ?_
              refine V_iload2 C (pc := 62) dX7_plan_62 ?_
              refine alM_17 C (pc := 63) dX7_plan_63 hf (fun hf => ?_)
              refine V_goto C (pc := 64) (tgt := 68) dX7_plan_64 (by decide) ?_
              exact V_iret C (pc := 68) rfl (Nat.le_refl 0) dX7_plan_68 (pqW hf)
          · refine V_aload0 C (pc := 43) dX7_plan_43 ?_
            refine gf_RX7_166 C (pc := 44) dX7_plan_44 ?_
            refine V_goto C (pc := 47) (tgt := 68) dX7_plan_47 (by decide) ?_
            exact V_iret C (pc := 68) rfl (Nat.le_refl 0) dX7_plan_68 (pqW hf)
        · refine V_iconst C (pc := 31) (v := (-1 : Int32)) (by decide) dX7_plan_31 ?_
          exact V_iret C (pc := 32) rfl (Nat.le_refl 0) dX7_plan_32 (pqW hf)
      · refine V_bipush C (pc := 16) (v := (-2 : Int32)) (by decide) dX7_plan_16 ?_
        exact V_iret C (pc := 18) rfl (Nat.le_refl 0) dX7_plan_18 (pqW hf)
set_option maxRecDepth 100000 in
theorem c_X7_plan {Z : Zz} {a : Nat → Nat} {N : Nat} {c1 c2 : Nat} {M : Mm} {x1 x2 : Int32} {r0 : Int32} {M0 : Mm} (hf : f_X7_plan N x1 x2 M = some (r0, M0)) : CtI (wM Z a) Z tE yX7_plan cX7_plan 4 (some .int) 6 0 [.ref (a 0), .int x1, .int x2] (c1, c2, M) (PqW r0 M0) := CtI_of (by decide +kernel) (Or.inl rfl) (List.forall_mem_cons.mpr ⟨rfl, List.forall_mem_cons.mpr ⟨rfl, List.forall_mem_cons.mpr ⟨rfl, fun _ h9 => nomatch h9⟩⟩⟩) (Nat.le_of_ble_eq_true rfl) (fun G C hm => t_X7_plan (o := (r0, M0)) C hm hf)
def f_X7_pour (N : Nat) (x1 : Int32) (M : Mm) : Option (Int32 × Mm) := (bd (f_X7_isBath M x1) (fun r2 => (if r2 = 0 then (some ((-2 : Int32), M)) else (bd (f_X7_has (gI M 2) x1) (fun r13 => (if r13 = 0 then (some ((-2 : Int32), M)) else (bd (f_X7_keep N (-1 : Int32) M) (fun M24 => (bd (f_X7_freshPoured (gI (sI M24 2 ((gI M24 2) &&& (((1 : Int32) <<< (x1 &&& 31)) ^^^ (-1 : Int32)))) 3) x1) (fun r47 => (bd (f_X7_free N (sI (sI M24 2 ((gI M24 2) &&& (((1 : Int32) <<< (x1 &&& 31)) ^^^ (-1 : Int32)))) 3 r47)) (fun r54 => (some (r54, (sI (sI M24 2 ((gI M24 2) &&& (((1 : Int32) <<< (x1 &&& 31)) ^^^ (-1 : Int32)))) 3 r47)))))))))))))))
set_option maxRecDepth 100000 in
set_option maxHeartbeats 4000000 in
theorem t_X7_pour {Z : Zz} {G : Gm} {a : Nat → Nat} {N : Nat} {o : (Int32 × Mm)} {c1 c2 : Nat} {M : Mm} {x1 : Int32} (C : CX (wM Z a) Z tE G cX7_pour RX7 4 (some .int) (PqW o.1 o.2) 0) (hm : (Gc G).maxLocals = 2) (hf : f_X7_pour N x1 M = some o) : V (wM Z a) Z G 0 0 [some (.ref (a 0)), some (.int x1)] [] (c1, c2, M) := by
  unfold f_X7_pour at hf
  refine V_aload0 C (pc := 0) dX7_pour_0 ?_
  refine V_iload1 C (pc := 1) dX7_pour_1 ?_
  refine V_cR C (pc := 2) (dep2 := 0) (As := [.int x1]) (rest := []) (fun r0 h0 => c_X7_isBath h0) lb_X7_isBath lk_RX7_101 wm_t (by decide) (Nat.le_refl 0) 0 7 rfl rfl rfl rfl (Nat.le_of_ble_eq_true rfl) dX7_pour_2 hf (fun r2 hf => ?_)
  refine V_if_eq C (pc := 5) (tgt := 19) dX7_pour_5 (by decide) hf (fun hf => ?_) (fun hf => ?_)
  · refine V_bipush C (pc := 19) (v := (-2 : Int32)) (by decide) dX7_pour_19 ?_
    exact V_iret C (pc := 21) rfl (Nat.le_refl 0) dX7_pour_21 (pqW hf)
  · refine V_aload0 C (pc := 8) dX7_pour_8 ?_
    refine gf_RX7_95 C (pc := 9) dX7_pour_9 ?_
    refine V_iload1 C (pc := 12) dX7_pour_12 ?_
    refine V_cS C (pc := 13) (dep2 := 0) (As := [.int (gI M 2), .int x1]) (rest := []) (fun r0 h0 => c_X7_has h0) lb_X7_has lk_RX7_76 (by decide) (Nat.le_refl 0) rfl rfl (Nat.le_of_ble_eq_true rfl) dX7_pour_13 hf (fun r13 hf => ?_)
    refine V_if_ne C (pc := 16) (tgt := 22) dX7_pour_16 (by decide) hf (fun hf => ?_) (fun hf => ?_)
    · refine V_aload0 C (pc := 22) dX7_pour_22 ?_
      refine V_iconst C (pc := 23) (v := (-1 : Int32)) (by decide) dX7_pour_23 ?_
      refine V_cV C (pc := 24) (dep2 := 0) (As := [.int (-1 : Int32)]) (rest := []) (fun M0 h0 => c_X7_keep h0) lb_X7_keep lk_RX7_130 wm_t (by decide) (Nat.le_refl 0) 0 7 rfl rfl rfl rfl (Nat.le_of_ble_eq_true rfl) dX7_pour_24 hf (fun c1 c2 M24 hf => ?_)
      refine V_aload0 C (pc := 27) dX7_pour_27 ?_
      refine V_dupr C (pc := 28) dX7_pour_28 ?_
      refine gf_RX7_95 C (pc := 29) dX7_pour_29 ?_
      refine V_iconst C (pc := 32) (v := (1 : Int32)) (by decide) dX7_pour_32 ?_
      refine V_iload1 C (pc := 33) dX7_pour_33 ?_
      refine V_ishl C (pc := 34) dX7_pour_34 ?_
      refine V_iconst C (pc := 35) (v := (-1 : Int32)) (by decide) dX7_pour_35 ?_
      refine V_ixor C (pc := 36) dX7_pour_36 ?_
      refine V_iand C (pc := 37) dX7_pour_37 ?_
      refine pf_RX7_95 C (pc := 38) dX7_pour_38 ?_
      refine V_aload0 C (pc := 41) dX7_pour_41 ?_
      refine V_aload0 C (pc := 42) dX7_pour_42 ?_
      refine gf_RX7_98 C (pc := 43) dX7_pour_43 ?_
      refine V_iload1 C (pc := 46) dX7_pour_46 ?_
      refine V_cS C (pc := 47) (dep2 := 0) (As := [.int (gI (sI M24 2 ((gI M24 2) &&& (((1 : Int32) <<< (x1 &&& 31)) ^^^ (-1 : Int32)))) 3), .int x1]) (rest := [.ref (a 0)]) (fun r0 h0 => c_X7_freshPoured h0) lb_X7_freshPoured lk_RX7_143 (by decide) (Nat.le_refl 0) rfl rfl (Nat.le_of_ble_eq_true rfl) dX7_pour_47 hf (fun r47 hf => ?_)
      refine pf_RX7_98 C (pc := 50) dX7_pour_50 ?_
      refine V_aload0 C (pc := 53) dX7_pour_53 ?_
      refine V_cR C (pc := 54) (dep2 := 3) (As := []) (rest := []) (fun r0 h0 => c_X7_free h0) lb_X7_free lk_RX7_139 wm_t (by decide) (Nat.le_refl 0) 0 7 rfl rfl rfl rfl (Nat.le_of_ble_eq_true rfl) dX7_pour_54 hf (fun r54 hf => ?_)
      exact V_iret C (pc := 57) rfl (Nat.le_refl 0) dX7_pour_57 (pqW hf)
    · refine V_bipush C (pc := 19) (v := (-2 : Int32)) (by decide) dX7_pour_19 ?_
      exact V_iret C (pc := 21) rfl (Nat.le_refl 0) dX7_pour_21 (pqW hf)
set_option maxRecDepth 100000 in
theorem c_X7_pour {Z : Zz} {a : Nat → Nat} {N : Nat} {c1 c2 : Nat} {M : Mm} {x1 : Int32} {r0 : Int32} {M0 : Mm} (hf : f_X7_pour N x1 M = some (r0, M0)) : CtI (wM Z a) Z tE yX7_pour cX7_pour 2 (some .int) 4 0 [.ref (a 0), .int x1] (c1, c2, M) (PqW r0 M0) := CtI_of (by decide +kernel) (Or.inl rfl) (List.forall_mem_cons.mpr ⟨rfl, List.forall_mem_cons.mpr ⟨rfl, fun _ h9 => nomatch h9⟩⟩) (Nat.le_of_ble_eq_true rfl) (fun G C hm => t_X7_pour (o := (r0, M0)) C hm hf)
def f_X7_reach_39 (N : Nat) (k25 : Int32 → Int32 → Mm → Option (Int32 × Mm)) : Nat → Int32 → Int32 → Int32 → Int32 → Mm → Option (Int32 × Mm)
  | 0, _, _, _, _, _ => none
  | n + 1, x3, x4, x5, x6, M => (if (8 : Int32) ≤ x6 then (if x5 = 0 then (k25 (x3 + (0 : Int32)) (x4 + (1 : Int32)) M) else (k25 (x3 + (1 : Int32)) (x4 + (1 : Int32)) M)) else (if inb (x4 + ((5120 : Int32) * x6)) 40960 then (if (gA M 13 (x4 + ((5120 : Int32) * x6))) = (1000000000 : Int32) then ((f_X7_reach_39 N k25 n) x3 x4 (x5 ||| (0 : Int32)) (x6 + (1 : Int32)) M) else ((f_X7_reach_39 N k25 n) x3 x4 (x5 ||| (1 : Int32)) (x6 + (1 : Int32)) M)) else none))
set_option maxRecDepth 100000 in
set_option maxHeartbeats 4000000 in
theorem t_X7_reach_39 {Z : Zz} {G : Gm} {a : Nat → Nat} {N : Nat} {o : (Int32 × Mm)} {k25 : Int32 → Int32 → Mm → Option (Int32 × Mm)} (C : CX (wM Z a) Z tE G cX7_reach RX7 6 (some .int) (PqW o.1 o.2) 0) (hm : (Gc G).maxLocals = 7) (hk25 : ∀ (x3 x4 : Int32) (c1 c2 : Nat) (M : Mm), k25 x3 x4 M = some o → V (wM Z a) Z G 0 25 [some (.ref (a 0)), none, none, some (.int x3), some (.int x4), none, none] [] (c1, c2, M)) : ∀ (n : Nat) (x3 x4 x5 x6 : Int32) (c1 c2 : Nat) (M : Mm), f_X7_reach_39 N k25 n x3 x4 x5 x6 M = some o → V (wM Z a) Z G 0 39 [some (.ref (a 0)), none, none, some (.int x3), some (.int x4), some (.int x5), some (.int x6)] [] (c1, c2, M) := by
  intro n
  induction n with
  | zero => intro x3 x4 x5 x6 c1 c2 M hf; rw [f_X7_reach_39] at hf; cases hf
  | succ n ih =>
    intro x3 x4 x5 x6 c1 c2 M hf
    rw [f_X7_reach_39] at hf
    refine V_iload6 C (pc := 39) dX7_reach_39 ?_
    refine V_bipush C (pc := 41) (v := (8 : Int32)) (by decide) dX7_reach_41 ?_
    refine V_icmp_ge C (pc := 43) (tgt := 81) dX7_reach_43 (by decide) hf (fun hf => ?_) (fun hf => ?_)
    · refine V_iload3 C (pc := 81) dX7_reach_81 ?_
      refine V_iload5 C (pc := 82) dX7_reach_82 ?_
      refine V_if_eq C (pc := 84) (tgt := 91) dX7_reach_84 (by decide) hf (fun hf => ?_) (fun hf => ?_)
      · refine V_iconst C (pc := 91) (v := (0 : Int32)) (by decide) dX7_reach_91 ?_
        refine V_iadd C (pc := 92) dX7_reach_92 ?_
        refine V_istore3 C (pc := 93) dX7_reach_93 (by rw [hm]; decide) ?_
        refine V_iinc4 C (pc := 94) (c1 := (1 : Int32)) dX7_reach_94 (by decide) (by rw [hm]; decide) ?_
        refine V_goto C (pc := 97) (tgt := 25) dX7_reach_97 (by decide) ?_
        exact V.mono [true, false, false, true, true, false, false] rfl (hk25 _ _ c1 c2 M hf)
      · refine V_iconst C (pc := 87) (v := (1 : Int32)) (by decide) dX7_reach_87 ?_
        refine V_goto C (pc := 88) (tgt := 92) dX7_reach_88 (by decide) ?_
        refine V_iadd C (pc := 92) dX7_reach_92 ?_
        refine V_istore3 C (pc := 93) dX7_reach_93 (by rw [hm]; decide) ?_
        refine V_iinc4 C (pc := 94) (c1 := (1 : Int32)) dX7_reach_94 (by decide) (by rw [hm]; decide) ?_
        refine V_goto C (pc := 97) (tgt := 25) dX7_reach_97 (by decide) ?_
        exact V.mono [true, false, false, true, true, false, false] rfl (hk25 _ _ c1 c2 M hf)
    · refine V_iload5 C (pc := 46) dX7_reach_46 ?_
      refine V_aload0 C (pc := 48) dX7_reach_48 ?_
      refine gf_RX7_55 C (pc := 49) dX7_reach_49 ?_
      refine V_iload4 C (pc := 52) dX7_reach_52 ?_
      refine V_sipush C (pc := 54) (v := (5120 : Int32)) (by decide) dX7_reach_54 ?_
      refine V_iload6 C (pc := 57) dX7_reach_57 ?_
      refine V_imul C (pc := 59) dX7_reach_59 ?_
      refine V_iadd C (pc := 60) dX7_reach_60 ?_
      refine alM_13 C (pc := 61) dX7_reach_61 hf (fun hf => ?_)
      refine V_ldc C (pc := 62) wk_RX7_156 dX7_reach_62 ?_
      refine V_icmp_eq C (pc := 64) (tgt := 71) dX7_reach_64 (by decide) hf (fun hf => ?_) (fun hf => ?_)
      · refine V_iconst C (pc := 71) (v := (0 : Int32)) (by decide) dX7_reach_71 ?_
        refine V_ior C (pc := 72) dX7_reach_72 ?_
        refine V_istore5 C (pc := 73) dX7_reach_73 (by rw [hm]; decide) ?_
        refine V_iinc6 C (pc := 75) (c1 := (1 : Int32)) dX7_reach_75 (by decide) (by rw [hm]; decide) ?_
        refine V_goto C (pc := 78) (tgt := 39) dX7_reach_78 (by decide) ?_
        exact V.mono [true, false, false, true, true, true, true] rfl (ih _ _ _ _ c1 c2 M hf)
      · refine V_iconst C (pc := 67) (v := (1 : Int32)) (by decide) dX7_reach_67 ?_
        refine V_goto C (pc := 68) (tgt := 72) dX7_reach_68 (by decide) ?_
        refine V_ior C (pc := 72) dX7_reach_72 ?_
        refine V_istore5 C (pc := 73) dX7_reach_73 (by rw [hm]; decide) ?_
        refine V_iinc6 C (pc := 75) (c1 := (1 : Int32)) dX7_reach_75 (by decide) (by rw [hm]; decide) ?_
        refine V_goto C (pc := 78) (tgt := 39) dX7_reach_78 (by decide) ?_
        exact V.mono [true, false, false, true, true, true, true] rfl (ih _ _ _ _ c1 c2 M hf)
def f_X7_reach_25 (N : Nat) : Nat → Int32 → Int32 → Mm → Option (Int32 × Mm)
  | 0, _, _, _ => none
  | n + 1, x3, x4, M => (if (5120 : Int32) ≤ x4 then (some (x3, M)) else (f_X7_reach_39 N (f_X7_reach_25 N n) N x3 x4 (0 : Int32) (0 : Int32) M))
set_option maxRecDepth 100000 in
set_option maxHeartbeats 4000000 in
theorem t_X7_reach_25 {Z : Zz} {G : Gm} {a : Nat → Nat} {N : Nat} {o : (Int32 × Mm)} (C : CX (wM Z a) Z tE G cX7_reach RX7 6 (some .int) (PqW o.1 o.2) 0) (hm : (Gc G).maxLocals = 7) : ∀ (n : Nat) (x3 x4 : Int32) (c1 c2 : Nat) (M : Mm), f_X7_reach_25 N n x3 x4 M = some o → V (wM Z a) Z G 0 25 [some (.ref (a 0)), none, none, some (.int x3), some (.int x4), none, none] [] (c1, c2, M) := by
  intro n
  induction n with
  | zero => intro x3 x4 c1 c2 M hf; rw [f_X7_reach_25] at hf; cases hf
  | succ n ih =>
    intro x3 x4 c1 c2 M hf
    rw [f_X7_reach_25] at hf
    refine V_iload4 C (pc := 25) dX7_reach_25 ?_
    refine V_sipush C (pc := 27) (v := (5120 : Int32)) (by decide) dX7_reach_27 ?_
    refine V_icmp_ge C (pc := 30) (tgt := 100) dX7_reach_30 (by decide) hf (fun hf => ?_) (fun hf => ?_)
    · refine V_iload3 C (pc := 100) dX7_reach_100 ?_
      exact V_iret C (pc := 101) rfl (Nat.le_refl 0) dX7_reach_101 (pqW hf)
    · refine V_iconst C (pc := 33) (v := (0 : Int32)) (by decide) dX7_reach_33 ?_
      refine V_istore5 C (pc := 34) dX7_reach_34 (by rw [hm]; decide) ?_
      refine V_iconst C (pc := 36) (v := (0 : Int32)) (by decide) dX7_reach_36 ?_
      refine V_istore6 C (pc := 37) dX7_reach_37 (by rw [hm]; decide) ?_
      exact V.mono [true, false, false, true, true, true, true] rfl (t_X7_reach_39 C hm ih N _ _ _ _ c1 c2 M hf)
def f_X7_reach (N : Nat) (x1 : Int32) (M : Mm) : Option (Int32 × Mm) := (if x1 < (1 : Int32) then (some ((-2 : Int32), M)) else (if x1 ≤ (18 : Int32) then (bd2 (f_X7_spread N x1 M) (fun r16 M16 => (f_X7_reach_25 N N (0 : Int32) (0 : Int32) M16))) else (some ((-2 : Int32), M))))
set_option maxRecDepth 100000 in
set_option maxHeartbeats 4000000 in
theorem t_X7_reach {Z : Zz} {G : Gm} {a : Nat → Nat} {N : Nat} {o : (Int32 × Mm)} {c1 c2 : Nat} {M : Mm} {x1 : Int32} (C : CX (wM Z a) Z tE G cX7_reach RX7 6 (some .int) (PqW o.1 o.2) 0) (hm : (Gc G).maxLocals = 7) (hf : f_X7_reach N x1 M = some o) : V (wM Z a) Z G 0 0 [some (.ref (a 0)), some (.int x1), none, none, none, none, none] [] (c1, c2, M) := by
  unfold f_X7_reach at hf
  refine V_iload1 C (pc := 0) dX7_reach_0 ?_
  refine V_iconst C (pc := 1) (v := (1 : Int32)) (by decide) dX7_reach_1 ?_
  refine V_icmp_lt C (pc := 2) (tgt := 11) dX7_reach_2 (by decide) hf (fun hf => ?_) (fun hf => ?_)
  · refine V_bipush C (pc := 11) (v := (-2 : Int32)) (by decide) dX7_reach_11 ?_
    exact V_iret C (pc := 13) rfl (Nat.le_refl 0) dX7_reach_13 (pqW hf)
  · refine V_iload1 C (pc := 5) dX7_reach_5 ?_
    refine V_bipush C (pc := 6) (v := (18 : Int32)) (by decide) dX7_reach_6 ?_
    refine V_icmp_le C (pc := 8) (tgt := 14) dX7_reach_8 (by decide) hf (fun hf => ?_) (fun hf => ?_)
    · refine V_aload0 C (pc := 14) dX7_reach_14 ?_
      refine V_iload1 C (pc := 15) dX7_reach_15 ?_
      refine V_cW C (pc := 16) (dep2 := 5) (As := [.int x1]) (rest := []) (fun r0 M0 h0 => c_X7_spread h0) lb_X7_spread lk_RX7_169 wm_t (by decide) (Nat.le_refl 0) 0 7 rfl rfl rfl rfl (Nat.le_of_ble_eq_true rfl) dX7_reach_16 hf (fun r16 c1 c2 M16 hf => ?_)
      refine V_istore2 C (pc := 19) dX7_reach_19 (by rw [hm]; decide) ?_
      refine V_iconst C (pc := 20) (v := (0 : Int32)) (by decide) dX7_reach_20 ?_
      refine V_istore3 C (pc := 21) dX7_reach_21 (by rw [hm]; decide) ?_
      refine V_iconst C (pc := 22) (v := (0 : Int32)) (by decide) dX7_reach_22 ?_
      refine V_istore4 C (pc := 23) dX7_reach_23 (by rw [hm]; decide) ?_
      exact V.mono [true, false, false, true, true, false, false] rfl (t_X7_reach_25 C hm N _ _ c1 c2 M16 hf)
    · refine V_bipush C (pc := 11) (v := (-2 : Int32)) (by decide) dX7_reach_11 ?_
      exact V_iret C (pc := 13) rfl (Nat.le_refl 0) dX7_reach_13 (pqW hf)
set_option maxRecDepth 100000 in
theorem c_X7_reach {Z : Zz} {a : Nat → Nat} {N : Nat} {c1 c2 : Nat} {M : Mm} {x1 : Int32} {r0 : Int32} {M0 : Mm} (hf : f_X7_reach N x1 M = some (r0, M0)) : CtI (wM Z a) Z tE yX7_reach cX7_reach 7 (some .int) 6 0 [.ref (a 0), .int x1] (c1, c2, M) (PqW r0 M0) := CtI_of (by decide +kernel) (Or.inl rfl) (List.forall_mem_cons.mpr ⟨rfl, List.forall_mem_cons.mpr ⟨rfl, fun _ h9 => nomatch h9⟩⟩) (Nat.le_of_ble_eq_true rfl) (fun G C hm => t_X7_reach (o := (r0, M0)) C hm hf)
def f_X7_recipe_56 (N : Nat) : Nat → Int32 → Int32 → Int32 → Mm → Option (Int32 × Mm)
  | 0, _, _, _, _ => none
  | n + 1, x1, x3, x4, M => (if (4 : Int32) ≤ x4 then (some (x3, (sI M 6 (0 : Int32)))) else (if inb (((4 : Int32) * x1) + x4) 36 then ((f_X7_recipe_56 N n) x1 x3 (x4 + (1 : Int32)) (sA M 4 (((4 : Int32) * x1) + x4) (-1 : Int32))) else none))
set_option maxRecDepth 100000 in
set_option maxHeartbeats 4000000 in
theorem t_X7_recipe_56 {Z : Zz} {G : Gm} {a : Nat → Nat} {N : Nat} {o : (Int32 × Mm)} (C : CX (wM Z a) Z tE G cX7_recipe RX7 1 (some .int) (PqW o.1 o.2) 0) (hm : (Gc G).maxLocals = 5) : ∀ (n : Nat) (x1 x3 x4 : Int32) (c1 c2 : Nat) (M : Mm), f_X7_recipe_56 N n x1 x3 x4 M = some o → V (wM Z a) Z G 0 56 [some (.ref (a 0)), some (.int x1), none, some (.int x3), some (.int x4)] [] (c1, c2, M) := by
  intro n
  induction n with
  | zero => intro x1 x3 x4 c1 c2 M hf; rw [f_X7_recipe_56] at hf; cases hf
  | succ n ih =>
    intro x1 x3 x4 c1 c2 M hf
    rw [f_X7_recipe_56] at hf
    refine V_iload4 C (pc := 56) dX7_recipe_56 ?_
    refine V_iconst C (pc := 58) (v := (4 : Int32)) (by decide) dX7_recipe_58 ?_
    refine V_icmp_ge C (pc := 59) (tgt := 80) dX7_recipe_59 (by decide) hf (fun hf => ?_) (fun hf => ?_)
    · refine V_aload0 C (pc := 80) dX7_recipe_80 ?_
      refine V_iconst C (pc := 81) (v := (0 : Int32)) (by decide) dX7_recipe_81 ?_
      refine pf_RX7_92 C (pc := 82) dX7_recipe_82 ?_
      refine V_iload3 C (pc := 85) dX7_recipe_85 ?_
      exact V_iret C (pc := 86) rfl (Nat.le_refl 0) dX7_recipe_86 (pqW hf)
    · refine V_aload0 C (pc := 62) dX7_recipe_62 ?_
      refine gf_RX7_19 C (pc := 63) dX7_recipe_63 ?_
      refine V_iconst C (pc := 66) (v := (4 : Int32)) (by decide) dX7_recipe_66 ?_
      refine V_iload1 C (pc := 67) dX7_recipe_67 ?_
      refine V_imul C (pc := 68) dX7_recipe_68 ?_
      refine V_iload4 C (pc := 69) dX7_recipe_69 ?_
      refine V_iadd C (pc := 71) dX7_recipe_71 ?_
      refine V_iconst C (pc := 72) (v := (-1 : Int32)) (by decide) dX7_recipe_72 ?_
      refine asM_4 C (pc := 73) dX7_recipe_73 hf (fun hf => ?_)
      refine V_iinc4 C (pc := 74) (c1 := (1 : Int32)) dX7_recipe_74 (by decide) (by rw [hm]; decide) ?_
      refine V_goto C (pc := 77) (tgt := 56) dX7_recipe_77 (by decide) ?_
      exact V.mono [true, true, false, true, true] rfl (ih _ _ _ c1 c2 (sA M 4 (((4 : Int32) * x1) + x4) (-1 : Int32)) hf)
def f_X7_recipe (N : Nat) (x1 : Int32) (x2 : Int32) (x3 : Int32) (M : Mm) : Option (Int32 × Mm) := (bd (f_X7_isBath M x1) (fun r2 => (if r2 = 0 then (some ((-2 : Int32), M)) else (if x2 < 0 then (some ((-2 : Int32), M)) else (if (2 : Int32) < x2 then (some ((-2 : Int32), M)) else (if (gI M 2) = 0 then (if x3 ≤ (4 : Int32) then (if 0 ≤ x3 then (if inb x1 9 then (if inb x1 9 then (f_X7_recipe_56 N N x1 x3 (0 : Int32) (sA (sA M 2 x1 x2) 3 x1 x3)) else none) else none) else (some ((-13 : Int32), M))) else (some ((-2 : Int32), M))) else (some ((-2 : Int32), M))))))))
set_option maxRecDepth 100000 in
set_option maxHeartbeats 4000000 in
theorem t_X7_recipe {Z : Zz} {G : Gm} {a : Nat → Nat} {N : Nat} {o : (Int32 × Mm)} {c1 c2 : Nat} {M : Mm} {x1 x2 x3 : Int32} (C : CX (wM Z a) Z tE G cX7_recipe RX7 1 (some .int) (PqW o.1 o.2) 0) (hm : (Gc G).maxLocals = 5) (hf : f_X7_recipe N x1 x2 x3 M = some o) : V (wM Z a) Z G 0 0 [some (.ref (a 0)), some (.int x1), some (.int x2), some (.int x3), none] [] (c1, c2, M) := by
  unfold f_X7_recipe at hf
  refine V_aload0 C (pc := 0) dX7_recipe_0 ?_
  refine V_iload1 C (pc := 1) dX7_recipe_1 ?_
  refine V_cR C (pc := 2) (dep2 := 0) (As := [.int x1]) (rest := []) (fun r0 h0 => c_X7_isBath h0) lb_X7_isBath lk_RX7_101 wm_t (by decide) (Nat.le_refl 0) 0 7 rfl rfl rfl rfl (Nat.le_of_ble_eq_true rfl) dX7_recipe_2 hf (fun r2 hf => ?_)
  refine V_if_eq C (pc := 5) (tgt := 29) dX7_recipe_5 (by decide) hf (fun hf => ?_) (fun hf => ?_)
  · refine V_bipush C (pc := 29) (v := (-2 : Int32)) (by decide) dX7_recipe_29 ?_
    exact V_iret C (pc := 31) rfl (Nat.le_refl 0) dX7_recipe_31 (pqW hf)
  · refine V_iload2 C (pc := 8) dX7_recipe_8 ?_
    refine V_if_lt C (pc := 9) (tgt := 29) dX7_recipe_9 (by decide) hf (fun hf => ?_) (fun hf => ?_)
    · refine V_bipush C (pc := 29) (v := (-2 : Int32)) (by decide) dX7_recipe_29 ?_
      exact V_iret C (pc := 31) rfl (Nat.le_refl 0) dX7_recipe_31 (pqW hf)
    · refine V_iload2 C (pc := 12) dX7_recipe_12 ?_
      refine V_iconst C (pc := 13) (v := (2 : Int32)) (by decide) dX7_recipe_13 ?_
      refine V_icmp_gt C (pc := 14) (tgt := 29) dX7_recipe_14 (by decide) hf (fun hf => ?_) (fun hf => ?_)
      · refine V_bipush C (pc := 29) (v := (-2 : Int32)) (by decide) dX7_recipe_29 ?_
        exact V_iret C (pc := 31) rfl (Nat.le_refl 0) dX7_recipe_31 (pqW hf)
      · refine V_aload0 C (pc := 17) dX7_recipe_17 ?_
        refine gf_RX7_95 C (pc := 18) dX7_recipe_18 ?_
        refine V_if_ne C (pc := 21) (tgt := 29) dX7_recipe_21 (by decide) hf (fun hf => ?_) (fun hf => ?_)
        · refine V_bipush C (pc := 29) (v := (-2 : Int32)) (by decide) dX7_recipe_29 ?_
          exact V_iret C (pc := 31) rfl (Nat.le_refl 0) dX7_recipe_31 (pqW hf)
        · refine V_iload3 C (pc := 24) dX7_recipe_24 ?_
          refine V_iconst C (pc := 25) (v := (4 : Int32)) (by decide) dX7_recipe_25 ?_
          refine V_icmp_le C (pc := 26) (tgt := 32) dX7_recipe_26 (by decide) hf (fun hf => ?_) (fun hf => ?_)
          · refine V_iload3 C (pc := 32) dX7_recipe_32 ?_
            refine V_if_ge C (pc := 33) (tgt := 39) dX7_recipe_33 (by decide) hf (fun hf => ?_) (fun hf => ?_)
            · refine V_aload0 C (pc := 39) dX7_recipe_39 ?_
              refine gf_RX7_13 C (pc := 40) dX7_recipe_40 ?_
              refine V_iload1 C (pc := 43) dX7_recipe_43 ?_
              refine V_iload2 C (pc := 44) dX7_recipe_44 ?_
              refine asM_2 C (pc := 45) dX7_recipe_45 hf (fun hf => ?_)
              refine V_aload0 C (pc := 46) dX7_recipe_46 ?_
              refine gf_RX7_16 C (pc := 47) dX7_recipe_47 ?_
              refine V_iload1 C (pc := 50) dX7_recipe_50 ?_
              refine V_iload3 C (pc := 51) dX7_recipe_51 ?_
              refine asM_3 C (pc := 52) dX7_recipe_52 hf (fun hf => ?_)
              refine V_iconst C (pc := 53) (v := (0 : Int32)) (by decide) dX7_recipe_53 ?_
              refine V_istore4 C (pc := 54) dX7_recipe_54 (by rw [hm]; decide) ?_
              exact V.mono [true, true, false, true, true] rfl (t_X7_recipe_56 C hm N _ _ _ c1 c2 (sA (sA M 2 x1 x2) 3 x1 x3) hf)
            · refine V_bipush C (pc := 36) (v := (-13 : Int32)) (by decide) dX7_recipe_36 ?_
              exact V_iret C (pc := 38) rfl (Nat.le_refl 0) dX7_recipe_38 (pqW hf)
          · refine V_bipush C (pc := 29) (v := (-2 : Int32)) (by decide) dX7_recipe_29 ?_
            exact V_iret C (pc := 31) rfl (Nat.le_refl 0) dX7_recipe_31 (pqW hf)
set_option maxRecDepth 100000 in
theorem c_X7_recipe {Z : Zz} {a : Nat → Nat} {N : Nat} {c1 c2 : Nat} {M : Mm} {x1 x2 x3 : Int32} {r0 : Int32} {M0 : Mm} (hf : f_X7_recipe N x1 x2 x3 M = some (r0, M0)) : CtI (wM Z a) Z tE yX7_recipe cX7_recipe 5 (some .int) 1 0 [.ref (a 0), .int x1, .int x2, .int x3] (c1, c2, M) (PqW r0 M0) := CtI_of (by decide +kernel) (Or.inl rfl) (List.forall_mem_cons.mpr ⟨rfl, List.forall_mem_cons.mpr ⟨rfl, List.forall_mem_cons.mpr ⟨rfl, List.forall_mem_cons.mpr ⟨rfl, fun _ h9 => nomatch h9⟩⟩⟩⟩) (Nat.le_of_ble_eq_true rfl) (fun G C hm => t_X7_recipe (o := (r0, M0)) C hm hf)
def f_X7_ring (M : Mm) (x1 : Int32) : Option Int32 := (if x1 < 0 then (some (-1 : Int32)) else (if x1 < (gI M 7) then (if inb x1 9 then (some (gA M 11 x1)) else none) else (some (-1 : Int32))))
set_option maxRecDepth 100000 in
set_option maxHeartbeats 4000000 in
theorem t_X7_ring {Z : Zz} {G : Gm} {a : Nat → Nat} {o : Int32} {c1 c2 : Nat} {M : Mm} {x1 : Int32} (C : CX (wM Z a) Z tE G cX7_ring RX7 0 (some .int) (PqR o (c1, c2, M)) 0) (hm : (Gc G).maxLocals = 2) (hf : f_X7_ring M x1 = some o) : V (wM Z a) Z G 0 0 [some (.ref (a 0)), some (.int x1)] [] (c1, c2, M) := by
  unfold f_X7_ring at hf
  refine V_iload1 C (pc := 0) dX7_ring_0 ?_
  refine V_if_lt C (pc := 1) (tgt := 12) dX7_ring_1 (by decide) hf (fun hf => ?_) (fun hf => ?_)
  · refine V_iconst C (pc := 12) (v := (-1 : Int32)) (by decide) dX7_ring_12 ?_
    refine V_goto C (pc := 13) (tgt := 22) dX7_ring_13 (by decide) ?_
    exact V_iret C (pc := 22) rfl (Nat.le_refl 0) dX7_ring_22 ⟨hf, rfl⟩
  · refine V_iload1 C (pc := 4) dX7_ring_4 ?_
    refine V_aload0 C (pc := 5) dX7_ring_5 ?_
    refine gf_RX7_108 C (pc := 6) dX7_ring_6 ?_
    refine V_icmp_lt C (pc := 9) (tgt := 16) dX7_ring_9 (by decide) hf (fun hf => ?_) (fun hf => ?_)
    · refine V_aload0 C (pc := 16) dX7_ring_16 ?_
      refine gf_RX7_45 C (pc := 17) dX7_ring_17 ?_
      refine V_iload1 C (pc := 20) dX7_ring_20 ?_
      refine alM_11 C (pc := 21) dX7_ring_21 hf (fun hf => ?_)
      exact V_iret C (pc := 22) rfl (Nat.le_refl 0) dX7_ring_22 ⟨hf, rfl⟩
    · refine V_iconst C (pc := 12) (v := (-1 : Int32)) (by decide) dX7_ring_12 ?_
      refine V_goto C (pc := 13) (tgt := 22) dX7_ring_13 (by decide) ?_
      exact V_iret C (pc := 22) rfl (Nat.le_refl 0) dX7_ring_22 ⟨hf, rfl⟩
set_option maxRecDepth 100000 in
theorem c_X7_ring {Z : Zz} {a : Nat → Nat} {c1 c2 : Nat} {M : Mm} {x1 : Int32} {r0 : Int32} (hf : f_X7_ring M x1 = some r0) : CtI (wM Z a) Z tE yX7_ring cX7_ring 2 (some .int) 0 0 [.ref (a 0), .int x1] (c1, c2, M) (PqR r0 (c1, c2, M)) := CtI_of (by decide +kernel) (Or.inl rfl) (List.forall_mem_cons.mpr ⟨rfl, List.forall_mem_cons.mpr ⟨rfl, fun _ h9 => nomatch h9⟩⟩) (Nat.le_of_ble_eq_true rfl) (fun G C hm => t_X7_ring (o := r0) C hm hf)
def f_X7_row_44 (N : Nat) (k23 : Int32 → Int32 → Mm → Option (Int32 × Mm)) (x1 : Int32) (x2 : Int32) (t1 : Int32) (t2 : Int32) (M : Mm) : Option (Int32 × Mm) := (if inb t1 4096 then (k23 x1 (x2 + (1 : Int32)) (sA M 7 t1 (vp_nar .boolean t2))) else none)
set_option maxRecDepth 100000 in
set_option maxHeartbeats 4000000 in
theorem t_X7_row_44 {Z : Zz} {G : Gm} {a : Nat → Nat} {N : Nat} {o : (Int32 × Mm)} {c1 c2 : Nat} {M : Mm} {k23 : Int32 → Int32 → Mm → Option (Int32 × Mm)} {x1 x2 t1 t2 : Int32} (C : CX (wM Z a) Z tE G cX7_row RX7 6 (some .int) (PqW o.1 o.2) 0) (hm : (Gc G).maxLocals = 6) (hk23 : ∀ (x1 x2 : Int32) (c1 c2 : Nat) (M : Mm), k23 x1 x2 M = some o → V (wM Z a) Z G 0 23 [some (.ref (a 0)), some (.int x1), some (.int x2), none, none, none] [] (c1, c2, M)) (hf : f_X7_row_44 N k23 x1 x2 t1 t2 M = some o) : V (wM Z a) Z G 0 44 [some (.ref (a 0)), some (.int x1), some (.int x2), none, none, none] [.int t2, .int t1, .ref (a 7)] (c1, c2, M) := by
  unfold f_X7_row_44 at hf
  refine asM_7 C (pc := 44) dX7_row_44 hf (fun hf => ?_)
  refine V_iinc2 C (pc := 45) (c1 := (1 : Int32)) dX7_row_45 (by decide) (by rw [hm]; decide) ?_
  refine V_goto C (pc := 48) (tgt := 23) dX7_row_48 (by decide) ?_
  exact V.mono [true, true, true, false, false, false] rfl (hk23 _ _ c1 c2 (sA M 7 t1 (vp_nar .boolean t2)) hf)
def f_X7_row_71 (N : Nat) (k53 : Int32 → Int32 → Mm → Option (Int32 × Mm)) (k61 : Int32 → Int32 → Int32 → Mm → Option (Int32 × Mm)) : Nat → Int32 → Int32 → Int32 → Int32 → Mm → Option (Int32 × Mm)
  | 0, _, _, _, _, _ => none
  | n + 1, x1, x2, x3, x4, M => (if (18 : Int32) ≤ x4 then (k61 x1 x2 (x3 + (1 : Int32)) M) else (if inb x3 4096 then (if (gA M 7 x3) = 0 then (k61 x1 x2 (x3 + (1 : Int32)) M) else (bd (f_X7_bitBehind N M x3 x4 x1) (fun r92 => (if r92 < 0 then ((f_X7_row_71 N k53 k61 n) x1 x2 x3 (x4 + (1 : Int32)) M) else (if inb r92 4096 then (if (gA M 7 r92) = 0 then (if inb r92 4096 then ((f_X7_row_71 N k53 k61 n) x1 (1 : Int32) x3 (x4 + (1 : Int32)) (sA M 7 r92 (vp_nar .boolean (1 : Int32)))) else none) else ((f_X7_row_71 N k53 k61 n) x1 x2 x3 (x4 + (1 : Int32)) M)) else none))))) else none))
set_option maxRecDepth 100000 in
set_option maxHeartbeats 4000000 in
theorem t_X7_row_71 {Z : Zz} {G : Gm} {a : Nat → Nat} {N : Nat} {o : (Int32 × Mm)} {k53 : Int32 → Int32 → Mm → Option (Int32 × Mm)} {k61 : Int32 → Int32 → Int32 → Mm → Option (Int32 × Mm)} (C : CX (wM Z a) Z tE G cX7_row RX7 6 (some .int) (PqW o.1 o.2) 0) (hm : (Gc G).maxLocals = 6) (hk53 : ∀ (x1 x2 : Int32) (c1 c2 : Nat) (M : Mm), k53 x1 x2 M = some o → V (wM Z a) Z G 0 53 [some (.ref (a 0)), some (.int x1), some (.int x2), none, none, none] [] (c1, c2, M)) (hk61 : ∀ (x1 x2 x3 : Int32) (c1 c2 : Nat) (M : Mm), k61 x1 x2 x3 M = some o → V (wM Z a) Z G 0 61 [some (.ref (a 0)), some (.int x1), some (.int x2), some (.int x3), none, none] [] (c1, c2, M)) : ∀ (n : Nat) (x1 x2 x3 x4 : Int32) (c1 c2 : Nat) (M : Mm), f_X7_row_71 N k53 k61 n x1 x2 x3 x4 M = some o → V (wM Z a) Z G 0 71 [some (.ref (a 0)), some (.int x1), some (.int x2), some (.int x3), some (.int x4), none] [] (c1, c2, M) := by
  intro n
  induction n with
  | zero => intro x1 x2 x3 x4 c1 c2 M hf; rw [f_X7_row_71] at hf; cases hf
  | succ n ih =>
    intro x1 x2 x3 x4 c1 c2 M hf
    rw [f_X7_row_71] at hf
    refine V_iload4 C (pc := 71) dX7_row_71 ?_
    refine V_bipush C (pc := 73) (v := (18 : Int32)) (by decide) dX7_row_73 ?_
    refine V_icmp_ge C (pc := 75) (tgt := 128) dX7_row_75 (by decide) hf (fun hf => ?_) (fun hf => ?_)
    · refine V_iinc3 C (pc := 128) (c1 := (1 : Int32)) dX7_row_128 (by decide) (by rw [hm]; decide) ?_
      refine V_goto C (pc := 131) (tgt := 61) dX7_row_131 (by decide) ?_
      exact V.mono [true, true, true, true, false, false] rfl (hk61 _ _ _ c1 c2 M hf)
    · refine V_aload0 C (pc := 78) dX7_row_78 ?_
      refine gf_RX7_32 C (pc := 79) dX7_row_79 ?_
      refine V_iload3 C (pc := 82) dX7_row_82 ?_
      refine alM_7 C (pc := 83) dX7_row_83 hf (fun hf => ?_)
      refine V_if_eq C (pc := 84) (tgt := 128) dX7_row_84 (by decide) hf (fun hf => ?_) (fun hf => ?_)
      · refine V_iinc3 C (pc := 128) (c1 := (1 : Int32)) dX7_row_128 (by decide) (by rw [hm]; decide) ?_
        refine V_goto C (pc := 131) (tgt := 61) dX7_row_131 (by decide) ?_
        exact V.mono [true, true, true, true, false, false] rfl (hk61 _ _ _ c1 c2 M hf)
      · refine V_aload0 C (pc := 87) dX7_row_87 ?_
        refine V_iload3 C (pc := 88) dX7_row_88 ?_
        refine V_iload4 C (pc := 89) dX7_row_89 ?_
        refine V_iload1 C (pc := 91) dX7_row_91 ?_
        refine V_cR C (pc := 92) (dep2 := 5) (As := [.int x3, .int x4, .int x1]) (rest := []) (fun r0 h0 => c_X7_bitBehind h0) lb_X7_bitBehind lk_RX7_179 wm_t (by decide) (Nat.le_refl 0) 0 7 rfl rfl rfl rfl (Nat.le_of_ble_eq_true rfl) dX7_row_92 hf (fun r92 hf => ?_)
        refine V_istore5 C (pc := 95) dX7_row_95 (by rw [hm]; decide) ?_
        refine V_iload5 C (pc := 97) dX7_row_97 ?_
        refine V_if_lt C (pc := 99) (tgt := 122) dX7_row_99 (by decide) hf (fun hf => ?_) (fun hf => ?_)
        · refine V_iinc4 C (pc := 122) (c1 := (1 : Int32)) dX7_row_122 (by decide) (by rw [hm]; decide) ?_
          refine V_goto C (pc := 125) (tgt := 71) dX7_row_125 (by decide) ?_
          exact V.mono [true, true, true, true, true, false] rfl (ih _ _ _ _ c1 c2 M hf)
        · refine V_aload0 C (pc := 102) dX7_row_102 ?_
          refine gf_RX7_32 C (pc := 103) dX7_row_103 ?_
          refine V_iload5 C (pc := 106) dX7_row_106 ?_
          refine alM_7 C (pc := 108) dX7_row_108 hf (fun hf => ?_)
          refine V_if_ne C (pc := 109) (tgt := 122) dX7_row_109 (by decide) hf (fun hf => ?_) (fun hf => ?_)
          · refine V_iinc4 C (pc := 122) (c1 := (1 : Int32)) dX7_row_122 (by decide) (by rw [hm]; decide) ?_
            refine V_goto C (pc := 125) (tgt := 71) dX7_row_125 (by decide) ?_
            exact V.mono [true, true, true, true, true, false] rfl (ih _ _ _ _ c1 c2 M hf)
          · refine V_aload0 C (pc := 112) dX7_row_112 ?_
            refine gf_RX7_32 C (pc := 113) dX7_row_113 ?_
            refine V_iload5 C (pc := 116) dX7_row_116 ?_
            refine V_iconst C (pc := 118) (v := (1 : Int32)) (by decide) dX7_row_118 ?_
            refine asM_7 C (pc := 119) dX7_row_119 hf (fun hf => ?_)
            refine V_iconst C (pc := 120) (v := (1 : Int32)) (by decide) dX7_row_120 ?_
            refine V_istore2 C (pc := 121) dX7_row_121 (by rw [hm]; decide) ?_
            refine V_iinc4 C (pc := 122) (c1 := (1 : Int32)) dX7_row_122 (by decide) (by rw [hm]; decide) ?_
            refine V_goto C (pc := 125) (tgt := 71) dX7_row_125 (by decide) ?_
            exact V.mono [true, true, true, true, true, false] rfl (ih _ _ _ _ c1 c2 (sA M 7 r92 (vp_nar .boolean (1 : Int32))) hf)
def f_X7_row_61 (N : Nat) (k53 : Int32 → Int32 → Mm → Option (Int32 × Mm)) : Nat → Int32 → Int32 → Int32 → Mm → Option (Int32 × Mm)
  | 0, _, _, _, _ => none
  | n + 1, x1, x2, x3, M => (if (4096 : Int32) ≤ x3 then (k53 x1 x2 M) else (f_X7_row_71 N k53 (f_X7_row_61 N k53 n) N x1 x2 x3 (0 : Int32) M))
set_option maxRecDepth 100000 in
set_option maxHeartbeats 4000000 in
theorem t_X7_row_61 {Z : Zz} {G : Gm} {a : Nat → Nat} {N : Nat} {o : (Int32 × Mm)} {k53 : Int32 → Int32 → Mm → Option (Int32 × Mm)} (C : CX (wM Z a) Z tE G cX7_row RX7 6 (some .int) (PqW o.1 o.2) 0) (hm : (Gc G).maxLocals = 6) (hk53 : ∀ (x1 x2 : Int32) (c1 c2 : Nat) (M : Mm), k53 x1 x2 M = some o → V (wM Z a) Z G 0 53 [some (.ref (a 0)), some (.int x1), some (.int x2), none, none, none] [] (c1, c2, M)) : ∀ (n : Nat) (x1 x2 x3 : Int32) (c1 c2 : Nat) (M : Mm), f_X7_row_61 N k53 n x1 x2 x3 M = some o → V (wM Z a) Z G 0 61 [some (.ref (a 0)), some (.int x1), some (.int x2), some (.int x3), none, none] [] (c1, c2, M) := by
  intro n
  induction n with
  | zero => intro x1 x2 x3 c1 c2 M hf; rw [f_X7_row_61] at hf; cases hf
  | succ n ih =>
    intro x1 x2 x3 c1 c2 M hf
    rw [f_X7_row_61] at hf
    refine V_iload3 C (pc := 61) dX7_row_61 ?_
    refine V_sipush C (pc := 62) (v := (4096 : Int32)) (by decide) dX7_row_62 ?_
    refine V_icmp_ge C (pc := 65) (tgt := 134) dX7_row_65 (by decide) hf (fun hf => ?_) (fun hf => ?_)
    · refine V_goto C (pc := 134) (tgt := 53) dX7_row_134 (by decide) ?_
      exact V.mono [true, true, true, false, false, false] rfl (hk53 _ _ c1 c2 M hf)
    · refine V_iconst C (pc := 68) (v := (0 : Int32)) (by decide) dX7_row_68 ?_
      refine V_istore4 C (pc := 69) dX7_row_69 (by rw [hm]; decide) ?_
      exact V.mono [true, true, true, true, true, false] rfl (t_X7_row_71 C hm hk53 ih N _ _ _ _ c1 c2 M hf)
def f_X7_row_53 (N : Nat) : Nat → Int32 → Int32 → Mm → Option (Int32 × Mm)
  | 0, _, _, _ => none
  | n + 1, x1, x2, M => (if x2 = 0 then (bd (f_X7_ones N M) (fun r138 => (some (r138, M)))) else (f_X7_row_61 N (f_X7_row_53 N n) N x1 (0 : Int32) (0 : Int32) M))
set_option maxRecDepth 100000 in
set_option maxHeartbeats 4000000 in
theorem t_X7_row_53 {Z : Zz} {G : Gm} {a : Nat → Nat} {N : Nat} {o : (Int32 × Mm)} (C : CX (wM Z a) Z tE G cX7_row RX7 6 (some .int) (PqW o.1 o.2) 0) (hm : (Gc G).maxLocals = 6) : ∀ (n : Nat) (x1 x2 : Int32) (c1 c2 : Nat) (M : Mm), f_X7_row_53 N n x1 x2 M = some o → V (wM Z a) Z G 0 53 [some (.ref (a 0)), some (.int x1), some (.int x2), none, none, none] [] (c1, c2, M) := by
  intro n
  induction n with
  | zero => intro x1 x2 c1 c2 M hf; rw [f_X7_row_53] at hf; cases hf
  | succ n ih =>
    intro x1 x2 c1 c2 M hf
    rw [f_X7_row_53] at hf
    refine V_iload2 C (pc := 53) dX7_row_53 ?_
    refine V_if_eq C (pc := 54) (tgt := 137) dX7_row_54 (by decide) hf (fun hf => ?_) (fun hf => ?_)
    · refine V_aload0 C (pc := 137) dX7_row_137 ?_
      refine V_cR C (pc := 138) (dep2 := 0) (As := []) (rest := []) (fun r0 h0 => c_X7_ones h0) lb_X7_ones lk_RX7_146 wm_t (by decide) (Nat.le_refl 0) 0 7 rfl rfl rfl rfl (Nat.le_of_ble_eq_true rfl) dX7_row_138 hf (fun r138 hf => ?_)
      exact V_iret C (pc := 141) rfl (Nat.le_refl 0) dX7_row_141 (pqW hf)
    · refine V_iconst C (pc := 57) (v := (0 : Int32)) (by decide) dX7_row_57 ?_
      refine V_istore2 C (pc := 58) dX7_row_58 (by rw [hm]; decide) ?_
      refine V_iconst C (pc := 59) (v := (0 : Int32)) (by decide) dX7_row_59 ?_
      refine V_istore3 C (pc := 60) dX7_row_60 (by rw [hm]; decide) ?_
      exact V.mono [true, true, true, true, false, false] rfl (t_X7_row_61 C hm ih N _ _ _ c1 c2 M hf)
def f_X7_row_23 (N : Nat) : Nat → Int32 → Int32 → Mm → Option (Int32 × Mm)
  | 0, _, _, _ => none
  | n + 1, x1, x2, M => (if (4096 : Int32) ≤ x2 then (f_X7_row_53 N N x1 (1 : Int32) M) else (if x2 = 0 then (f_X7_row_44 N (f_X7_row_23 N n) x1 x2 x2 (1 : Int32) M) else (f_X7_row_44 N (f_X7_row_23 N n) x1 x2 x2 (0 : Int32) M)))
set_option maxRecDepth 100000 in
set_option maxHeartbeats 4000000 in
theorem t_X7_row_23 {Z : Zz} {G : Gm} {a : Nat → Nat} {N : Nat} {o : (Int32 × Mm)} (C : CX (wM Z a) Z tE G cX7_row RX7 6 (some .int) (PqW o.1 o.2) 0) (hm : (Gc G).maxLocals = 6) : ∀ (n : Nat) (x1 x2 : Int32) (c1 c2 : Nat) (M : Mm), f_X7_row_23 N n x1 x2 M = some o → V (wM Z a) Z G 0 23 [some (.ref (a 0)), some (.int x1), some (.int x2), none, none, none] [] (c1, c2, M) := by
  intro n
  induction n with
  | zero => intro x1 x2 c1 c2 M hf; rw [f_X7_row_23] at hf; cases hf
  | succ n ih =>
    intro x1 x2 c1 c2 M hf
    rw [f_X7_row_23] at hf
    refine V_iload2 C (pc := 23) dX7_row_23 ?_
    refine V_sipush C (pc := 24) (v := (4096 : Int32)) (by decide) dX7_row_24 ?_
    refine V_icmp_ge C (pc := 27) (tgt := 51) dX7_row_27 (by decide) hf (fun hf => ?_) (fun hf => ?_)
    · refine V_iconst C (pc := 51) (v := (1 : Int32)) (by decide) dX7_row_51 ?_
      refine V_istore2 C (pc := 52) dX7_row_52 (by rw [hm]; decide) ?_
      exact V.mono [true, true, true, false, false, false] rfl (t_X7_row_53 C hm N _ _ c1 c2 M hf)
    · refine V_aload0 C (pc := 30) dX7_row_30 ?_
      refine gf_RX7_32 C (pc := 31) dX7_row_31 ?_
      refine V_iload2 C (pc := 34) dX7_row_34 ?_
      refine V_iload2 C (pc := 35) dX7_row_35 ?_
      refine V_if_ne C (pc := 36) (tgt := 43) dX7_row_36 (by decide) hf (fun hf => ?_) (fun hf => ?_)
      · refine V_iconst C (pc := 43) (v := (0 : Int32)) (by decide) dX7_row_43 ?_
        exact V.mono [true, true, true, false, false, false] rfl (t_X7_row_44 C hm ih hf)
      · refine V_iconst C (pc := 39) (v := (1 : Int32)) (by decide) dX7_row_39 ?_
        refine V_goto C (pc := 40) (tgt := 44) dX7_row_40 (by decide) ?_
        exact V.mono [true, true, true, false, false, false] rfl (t_X7_row_44 C hm ih hf)
def f_X7_row (N : Nat) (x1 : Int32) (M : Mm) : Option (Int32 × Mm) := (if x1 < (1 : Int32) then (some ((-2 : Int32), M)) else (if (18 : Int32) < x1 then (some ((-2 : Int32), M)) else (bd (f_X7_isPlain N M) (fun r12 => (if r12 = 0 then (some ((-2 : Int32), M)) else (f_X7_row_23 N N x1 (0 : Int32) M))))))
set_option maxRecDepth 100000 in
set_option maxHeartbeats 4000000 in
theorem t_X7_row {Z : Zz} {G : Gm} {a : Nat → Nat} {N : Nat} {o : (Int32 × Mm)} {c1 c2 : Nat} {M : Mm} {x1 : Int32} (C : CX (wM Z a) Z tE G cX7_row RX7 6 (some .int) (PqW o.1 o.2) 0) (hm : (Gc G).maxLocals = 6) (hf : f_X7_row N x1 M = some o) : V (wM Z a) Z G 0 0 [some (.ref (a 0)), some (.int x1), none, none, none, none] [] (c1, c2, M) := by
  unfold f_X7_row at hf
  refine V_iload1 C (pc := 0) dX7_row_0 ?_
  refine V_iconst C (pc := 1) (v := (1 : Int32)) (by decide) dX7_row_1 ?_
  refine V_icmp_lt C (pc := 2) (tgt := 18) dX7_row_2 (by decide) hf (fun hf => ?_) (fun hf => ?_)
  · refine V_bipush C (pc := 18) (v := (-2 : Int32)) (by decide) dX7_row_18 ?_
    exact V_iret C (pc := 20) rfl (Nat.le_refl 0) dX7_row_20 (pqW hf)
  · refine V_iload1 C (pc := 5) dX7_row_5 ?_
    refine V_bipush C (pc := 6) (v := (18 : Int32)) (by decide) dX7_row_6 ?_
    refine V_icmp_gt C (pc := 8) (tgt := 18) dX7_row_8 (by decide) hf (fun hf => ?_) (fun hf => ?_)
    · refine V_bipush C (pc := 18) (v := (-2 : Int32)) (by decide) dX7_row_18 ?_
      exact V_iret C (pc := 20) rfl (Nat.le_refl 0) dX7_row_20 (pqW hf)
    · refine V_aload0 C (pc := 11) dX7_row_11 ?_
      refine V_cR C (pc := 12) (dep2 := 0) (As := []) (rest := []) (fun r0 h0 => c_X7_isPlain h0) lb_X7_isPlain lk_RX7_175 wm_t (by decide) (Nat.le_refl 0) 0 7 rfl rfl rfl rfl (Nat.le_of_ble_eq_true rfl) dX7_row_12 hf (fun r12 hf => ?_)
      refine V_if_ne C (pc := 15) (tgt := 21) dX7_row_15 (by decide) hf (fun hf => ?_) (fun hf => ?_)
      · refine V_iconst C (pc := 21) (v := (0 : Int32)) (by decide) dX7_row_21 ?_
        refine V_istore2 C (pc := 22) dX7_row_22 (by rw [hm]; decide) ?_
        exact V.mono [true, true, true, false, false, false] rfl (t_X7_row_23 C hm N _ _ c1 c2 M hf)
      · refine V_bipush C (pc := 18) (v := (-2 : Int32)) (by decide) dX7_row_18 ?_
        exact V_iret C (pc := 20) rfl (Nat.le_refl 0) dX7_row_20 (pqW hf)
set_option maxRecDepth 100000 in
theorem c_X7_row {Z : Zz} {a : Nat → Nat} {N : Nat} {c1 c2 : Nat} {M : Mm} {x1 : Int32} {r0 : Int32} {M0 : Mm} (hf : f_X7_row N x1 M = some (r0, M0)) : CtI (wM Z a) Z tE yX7_row cX7_row 6 (some .int) 6 0 [.ref (a 0), .int x1] (c1, c2, M) (PqW r0 M0) := CtI_of (by decide +kernel) (Or.inl rfl) (List.forall_mem_cons.mpr ⟨rfl, List.forall_mem_cons.mpr ⟨rfl, fun _ h9 => nomatch h9⟩⟩) (Nat.le_of_ble_eq_true rfl) (fun G C hm => t_X7_row (o := (r0, M0)) C hm hf)
def f_X7_together (x1 : Int32) (M : Mm) : Option (Int32 × Mm) := (if (gI M 5) = 0 then (if isB x1 then (some ((0 : Int32), (sI M 5 x1))) else none) else (if isB x1 then (some ((1 : Int32), (sI M 5 x1))) else none))
set_option maxRecDepth 100000 in
set_option maxHeartbeats 4000000 in
theorem t_X7_together {Z : Zz} {G : Gm} {a : Nat → Nat} {o : (Int32 × Mm)} {c1 c2 : Nat} {M : Mm} {x1 : Int32} (C : CX (wM Z a) Z tE G cX7_together RX7 0 (some .int) (PqW o.1 o.2) 0) (hm : (Gc G).maxLocals = 3) (hf : f_X7_together x1 M = some o) : V (wM Z a) Z G 0 0 [some (.ref (a 0)), some (.int x1), none] [] (c1, c2, M) := by
  unfold f_X7_together at hf
  refine V_aload0 C (pc := 0) dX7_together_0 ?_
  refine gf_RX7_122 C (pc := 1) dX7_together_1 ?_
  refine V_if_eq C (pc := 4) (tgt := 11) dX7_together_4 (by decide) hf (fun hf => ?_) (fun hf => ?_)
  · refine V_iconst C (pc := 11) (v := (0 : Int32)) (by decide) dX7_together_11 ?_
    refine V_istore2 C (pc := 12) dX7_together_12 (by rw [hm]; decide) ?_
    refine V_aload0 C (pc := 13) dX7_together_13 ?_
    refine V_iload1 C (pc := 14) dX7_together_14 ?_
    refine pf_RX7_122 C (pc := 15) dX7_together_15 hf (fun hf => ?_)
    refine V_iload2 C (pc := 18) dX7_together_18 ?_
    exact V_iret C (pc := 19) rfl (Nat.le_refl 0) dX7_together_19 (pqW hf)
  · refine V_iconst C (pc := 7) (v := (1 : Int32)) (by decide) dX7_together_7 ?_
    refine V_goto C (pc := 8) (tgt := 12) dX7_together_8 (by decide) ?_
    refine V_istore2 C (pc := 12) dX7_together_12 (by rw [hm]; decide) ?_
    refine V_aload0 C (pc := 13) dX7_together_13 ?_
    refine V_iload1 C (pc := 14) dX7_together_14 ?_
    refine pf_RX7_122 C (pc := 15) dX7_together_15 hf (fun hf => ?_)
    refine V_iload2 C (pc := 18) dX7_together_18 ?_
    exact V_iret C (pc := 19) rfl (Nat.le_refl 0) dX7_together_19 (pqW hf)
set_option maxRecDepth 100000 in
theorem c_X7_together {Z : Zz} {a : Nat → Nat} {c1 c2 : Nat} {M : Mm} {x1 : Int32} {r0 : Int32} {M0 : Mm} (hf : f_X7_together x1 M = some (r0, M0)) : CtI (wM Z a) Z tE yX7_together cX7_together 3 (some .int) 0 0 [.ref (a 0), .int x1] (c1, c2, M) (PqW r0 M0) := CtI_of (by decide +kernel) (Or.inl rfl) (List.forall_mem_cons.mpr ⟨rfl, List.forall_mem_cons.mpr ⟨rfl, fun _ h9 => nomatch h9⟩⟩) (Nat.le_of_ble_eq_true rfl) (fun G C hm => t_X7_together (o := (r0, M0)) C hm hf)
def f_X7_undo  (M : Mm) : Option (Int32 × Mm) := (if (gI M 6) = 0 then (some ((-2 : Int32), M)) else (if inb (gI (sI M 6 ((gI M 6) - (1 : Int32))) 6) 100 then (if inb (gI (sI (sI M 6 ((gI M 6) - (1 : Int32))) 2 (gA (sI M 6 ((gI M 6) - (1 : Int32))) 8 (gI (sI M 6 ((gI M 6) - (1 : Int32))) 6))) 6) 100 then (if inb (gI (sI (sI (sI M 6 ((gI M 6) - (1 : Int32))) 2 (gA (sI M 6 ((gI M 6) - (1 : Int32))) 8 (gI (sI M 6 ((gI M 6) - (1 : Int32))) 6))) 3 (gA (sI (sI M 6 ((gI M 6) - (1 : Int32))) 2 (gA (sI M 6 ((gI M 6) - (1 : Int32))) 8 (gI (sI M 6 ((gI M 6) - (1 : Int32))) 6))) 9 (gI (sI (sI M 6 ((gI M 6) - (1 : Int32))) 2 (gA (sI M 6 ((gI M 6) - (1 : Int32))) 8 (gI (sI M 6 ((gI M 6) - (1 : Int32))) 6))) 6))) 6) 100 then (if (gA (sI (sI (sI M 6 ((gI M 6) - (1 : Int32))) 2 (gA (sI M 6 ((gI M 6) - (1 : Int32))) 8 (gI (sI M 6 ((gI M 6) - (1 : Int32))) 6))) 3 (gA (sI (sI M 6 ((gI M 6) - (1 : Int32))) 2 (gA (sI M 6 ((gI M 6) - (1 : Int32))) 8 (gI (sI M 6 ((gI M 6) - (1 : Int32))) 6))) 9 (gI (sI (sI M 6 ((gI M 6) - (1 : Int32))) 2 (gA (sI M 6 ((gI M 6) - (1 : Int32))) 8 (gI (sI M 6 ((gI M 6) - (1 : Int32))) 6))) 6))) 10 (gI (sI (sI (sI M 6 ((gI M 6) - (1 : Int32))) 2 (gA (sI M 6 ((gI M 6) - (1 : Int32))) 8 (gI (sI M 6 ((gI M 6) - (1 : Int32))) 6))) 3 (gA (sI (sI M 6 ((gI M 6) - (1 : Int32))) 2 (gA (sI M 6 ((gI M 6) - (1 : Int32))) 8 (gI (sI M 6 ((gI M 6) - (1 : Int32))) 6))) 9 (gI (sI (sI M 6 ((gI M 6) - (1 : Int32))) 2 (gA (sI M 6 ((gI M 6) - (1 : Int32))) 8 (gI (sI M 6 ((gI M 6) - (1 : Int32))) 6))) 6))) 6)) < 0 then (some ((gI (sI (sI (sI M 6 ((gI M 6) - (1 : Int32))) 2 (gA (sI M 6 ((gI M 6) - (1 : Int32))) 8 (gI (sI M 6 ((gI M 6) - (1 : Int32))) 6))) 3 (gA (sI (sI M 6 ((gI M 6) - (1 : Int32))) 2 (gA (sI M 6 ((gI M 6) - (1 : Int32))) 8 (gI (sI M 6 ((gI M 6) - (1 : Int32))) 6))) 9 (gI (sI (sI M 6 ((gI M 6) - (1 : Int32))) 2 (gA (sI M 6 ((gI M 6) - (1 : Int32))) 8 (gI (sI M 6 ((gI M 6) - (1 : Int32))) 6))) 6))) 6), (sI (sI (sI M 6 ((gI M 6) - (1 : Int32))) 2 (gA (sI M 6 ((gI M 6) - (1 : Int32))) 8 (gI (sI M 6 ((gI M 6) - (1 : Int32))) 6))) 3 (gA (sI (sI M 6 ((gI M 6) - (1 : Int32))) 2 (gA (sI M 6 ((gI M 6) - (1 : Int32))) 8 (gI (sI M 6 ((gI M 6) - (1 : Int32))) 6))) 9 (gI (sI (sI M 6 ((gI M 6) - (1 : Int32))) 2 (gA (sI M 6 ((gI M 6) - (1 : Int32))) 8 (gI (sI M 6 ((gI M 6) - (1 : Int32))) 6))) 6))))) else (if inb (gI (sI (sI (sI M 6 ((gI M 6) - (1 : Int32))) 2 (gA (sI M 6 ((gI M 6) - (1 : Int32))) 8 (gI (sI M 6 ((gI M 6) - (1 : Int32))) 6))) 3 (gA (sI (sI M 6 ((gI M 6) - (1 : Int32))) 2 (gA (sI M 6 ((gI M 6) - (1 : Int32))) 8 (gI (sI M 6 ((gI M 6) - (1 : Int32))) 6))) 9 (gI (sI (sI M 6 ((gI M 6) - (1 : Int32))) 2 (gA (sI M 6 ((gI M 6) - (1 : Int32))) 8 (gI (sI M 6 ((gI M 6) - (1 : Int32))) 6))) 6))) 6) 100 then (if inb (gA (sI (sI (sI M 6 ((gI M 6) - (1 : Int32))) 2 (gA (sI M 6 ((gI M 6) - (1 : Int32))) 8 (gI (sI M 6 ((gI M 6) - (1 : Int32))) 6))) 3 (gA (sI (sI M 6 ((gI M 6) - (1 : Int32))) 2 (gA (sI M 6 ((gI M 6) - (1 : Int32))) 8 (gI (sI M 6 ((gI M 6) - (1 : Int32))) 6))) 9 (gI (sI (sI M 6 ((gI M 6) - (1 : Int32))) 2 (gA (sI M 6 ((gI M 6) - (1 : Int32))) 8 (gI (sI M 6 ((gI M 6) - (1 : Int32))) 6))) 6))) 10 (gI (sI (sI (sI M 6 ((gI M 6) - (1 : Int32))) 2 (gA (sI M 6 ((gI M 6) - (1 : Int32))) 8 (gI (sI M 6 ((gI M 6) - (1 : Int32))) 6))) 3 (gA (sI (sI M 6 ((gI M 6) - (1 : Int32))) 2 (gA (sI M 6 ((gI M 6) - (1 : Int32))) 8 (gI (sI M 6 ((gI M 6) - (1 : Int32))) 6))) 9 (gI (sI (sI M 6 ((gI M 6) - (1 : Int32))) 2 (gA (sI M 6 ((gI M 6) - (1 : Int32))) 8 (gI (sI M 6 ((gI M 6) - (1 : Int32))) 6))) 6))) 6)) 9 then (if inb (gA (sI (sI (sI M 6 ((gI M 6) - (1 : Int32))) 2 (gA (sI M 6 ((gI M 6) - (1 : Int32))) 8 (gI (sI M 6 ((gI M 6) - (1 : Int32))) 6))) 3 (gA (sI (sI M 6 ((gI M 6) - (1 : Int32))) 2 (gA (sI M 6 ((gI M 6) - (1 : Int32))) 8 (gI (sI M 6 ((gI M 6) - (1 : Int32))) 6))) 9 (gI (sI (sI M 6 ((gI M 6) - (1 : Int32))) 2 (gA (sI M 6 ((gI M 6) - (1 : Int32))) 8 (gI (sI M 6 ((gI M 6) - (1 : Int32))) 6))) 6))) 10 (gI (sI (sI (sI M 6 ((gI M 6) - (1 : Int32))) 2 (gA (sI M 6 ((gI M 6) - (1 : Int32))) 8 (gI (sI M 6 ((gI M 6) - (1 : Int32))) 6))) 3 (gA (sI (sI M 6 ((gI M 6) - (1 : Int32))) 2 (gA (sI M 6 ((gI M 6) - (1 : Int32))) 8 (gI (sI M 6 ((gI M 6) - (1 : Int32))) 6))) 9 (gI (sI (sI M 6 ((gI M 6) - (1 : Int32))) 2 (gA (sI M 6 ((gI M 6) - (1 : Int32))) 8 (gI (sI M 6 ((gI M 6) - (1 : Int32))) 6))) 6))) 6)) 9 then (some ((gI (sA (sI (sI (sI M 6 ((gI M 6) - (1 : Int32))) 2 (gA (sI M 6 ((gI M 6) - (1 : Int32))) 8 (gI (sI M 6 ((gI M 6) - (1 : Int32))) 6))) 3 (gA (sI (sI M 6 ((gI M 6) - (1 : Int32))) 2 (gA (sI M 6 ((gI M 6) - (1 : Int32))) 8 (gI (sI M 6 ((gI M 6) - (1 : Int32))) 6))) 9 (gI (sI (sI M 6 ((gI M 6) - (1 : Int32))) 2 (gA (sI M 6 ((gI M 6) - (1 : Int32))) 8 (gI (sI M 6 ((gI M 6) - (1 : Int32))) 6))) 6))) 5 (gA (sI (sI (sI M 6 ((gI M 6) - (1 : Int32))) 2 (gA (sI M 6 ((gI M 6) - (1 : Int32))) 8 (gI (sI M 6 ((gI M 6) - (1 : Int32))) 6))) 3 (gA (sI (sI M 6 ((gI M 6) - (1 : Int32))) 2 (gA (sI M 6 ((gI M 6) - (1 : Int32))) 8 (gI (sI M 6 ((gI M 6) - (1 : Int32))) 6))) 9 (gI (sI (sI M 6 ((gI M 6) - (1 : Int32))) 2 (gA (sI M 6 ((gI M 6) - (1 : Int32))) 8 (gI (sI M 6 ((gI M 6) - (1 : Int32))) 6))) 6))) 10 (gI (sI (sI (sI M 6 ((gI M 6) - (1 : Int32))) 2 (gA (sI M 6 ((gI M 6) - (1 : Int32))) 8 (gI (sI M 6 ((gI M 6) - (1 : Int32))) 6))) 3 (gA (sI (sI M 6 ((gI M 6) - (1 : Int32))) 2 (gA (sI M 6 ((gI M 6) - (1 : Int32))) 8 (gI (sI M 6 ((gI M 6) - (1 : Int32))) 6))) 9 (gI (sI (sI M 6 ((gI M 6) - (1 : Int32))) 2 (gA (sI M 6 ((gI M 6) - (1 : Int32))) 8 (gI (sI M 6 ((gI M 6) - (1 : Int32))) 6))) 6))) 6)) ((gA (sI (sI (sI M 6 ((gI M 6) - (1 : Int32))) 2 (gA (sI M 6 ((gI M 6) - (1 : Int32))) 8 (gI (sI M 6 ((gI M 6) - (1 : Int32))) 6))) 3 (gA (sI (sI M 6 ((gI M 6) - (1 : Int32))) 2 (gA (sI M 6 ((gI M 6) - (1 : Int32))) 8 (gI (sI M 6 ((gI M 6) - (1 : Int32))) 6))) 9 (gI (sI (sI M 6 ((gI M 6) - (1 : Int32))) 2 (gA (sI M 6 ((gI M 6) - (1 : Int32))) 8 (gI (sI M 6 ((gI M 6) - (1 : Int32))) 6))) 6))) 5 (gA (sI (sI (sI M 6 ((gI M 6) - (1 : Int32))) 2 (gA (sI M 6 ((gI M 6) - (1 : Int32))) 8 (gI (sI M 6 ((gI M 6) - (1 : Int32))) 6))) 3 (gA (sI (sI M 6 ((gI M 6) - (1 : Int32))) 2 (gA (sI M 6 ((gI M 6) - (1 : Int32))) 8 (gI (sI M 6 ((gI M 6) - (1 : Int32))) 6))) 9 (gI (sI (sI M 6 ((gI M 6) - (1 : Int32))) 2 (gA (sI M 6 ((gI M 6) - (1 : Int32))) 8 (gI (sI M 6 ((gI M 6) - (1 : Int32))) 6))) 6))) 10 (gI (sI (sI (sI M 6 ((gI M 6) - (1 : Int32))) 2 (gA (sI M 6 ((gI M 6) - (1 : Int32))) 8 (gI (sI M 6 ((gI M 6) - (1 : Int32))) 6))) 3 (gA (sI (sI M 6 ((gI M 6) - (1 : Int32))) 2 (gA (sI M 6 ((gI M 6) - (1 : Int32))) 8 (gI (sI M 6 ((gI M 6) - (1 : Int32))) 6))) 9 (gI (sI (sI M 6 ((gI M 6) - (1 : Int32))) 2 (gA (sI M 6 ((gI M 6) - (1 : Int32))) 8 (gI (sI M 6 ((gI M 6) - (1 : Int32))) 6))) 6))) 6))) - (1 : Int32))) 6), (sA (sI (sI (sI M 6 ((gI M 6) - (1 : Int32))) 2 (gA (sI M 6 ((gI M 6) - (1 : Int32))) 8 (gI (sI M 6 ((gI M 6) - (1 : Int32))) 6))) 3 (gA (sI (sI M 6 ((gI M 6) - (1 : Int32))) 2 (gA (sI M 6 ((gI M 6) - (1 : Int32))) 8 (gI (sI M 6 ((gI M 6) - (1 : Int32))) 6))) 9 (gI (sI (sI M 6 ((gI M 6) - (1 : Int32))) 2 (gA (sI M 6 ((gI M 6) - (1 : Int32))) 8 (gI (sI M 6 ((gI M 6) - (1 : Int32))) 6))) 6))) 5 (gA (sI (sI (sI M 6 ((gI M 6) - (1 : Int32))) 2 (gA (sI M 6 ((gI M 6) - (1 : Int32))) 8 (gI (sI M 6 ((gI M 6) - (1 : Int32))) 6))) 3 (gA (sI (sI M 6 ((gI M 6) - (1 : Int32))) 2 (gA (sI M 6 ((gI M 6) - (1 : Int32))) 8 (gI (sI M 6 ((gI M 6) - (1 : Int32))) 6))) 9 (gI (sI (sI M 6 ((gI M 6) - (1 : Int32))) 2 (gA (sI M 6 ((gI M 6) - (1 : Int32))) 8 (gI (sI M 6 ((gI M 6) - (1 : Int32))) 6))) 6))) 10 (gI (sI (sI (sI M 6 ((gI M 6) - (1 : Int32))) 2 (gA (sI M 6 ((gI M 6) - (1 : Int32))) 8 (gI (sI M 6 ((gI M 6) - (1 : Int32))) 6))) 3 (gA (sI (sI M 6 ((gI M 6) - (1 : Int32))) 2 (gA (sI M 6 ((gI M 6) - (1 : Int32))) 8 (gI (sI M 6 ((gI M 6) - (1 : Int32))) 6))) 9 (gI (sI (sI M 6 ((gI M 6) - (1 : Int32))) 2 (gA (sI M 6 ((gI M 6) - (1 : Int32))) 8 (gI (sI M 6 ((gI M 6) - (1 : Int32))) 6))) 6))) 6)) ((gA (sI (sI (sI M 6 ((gI M 6) - (1 : Int32))) 2 (gA (sI M 6 ((gI M 6) - (1 : Int32))) 8 (gI (sI M 6 ((gI M 6) - (1 : Int32))) 6))) 3 (gA (sI (sI M 6 ((gI M 6) - (1 : Int32))) 2 (gA (sI M 6 ((gI M 6) - (1 : Int32))) 8 (gI (sI M 6 ((gI M 6) - (1 : Int32))) 6))) 9 (gI (sI (sI M 6 ((gI M 6) - (1 : Int32))) 2 (gA (sI M 6 ((gI M 6) - (1 : Int32))) 8 (gI (sI M 6 ((gI M 6) - (1 : Int32))) 6))) 6))) 5 (gA (sI (sI (sI M 6 ((gI M 6) - (1 : Int32))) 2 (gA (sI M 6 ((gI M 6) - (1 : Int32))) 8 (gI (sI M 6 ((gI M 6) - (1 : Int32))) 6))) 3 (gA (sI (sI M 6 ((gI M 6) - (1 : Int32))) 2 (gA (sI M 6 ((gI M 6) - (1 : Int32))) 8 (gI (sI M 6 ((gI M 6) - (1 : Int32))) 6))) 9 (gI (sI (sI M 6 ((gI M 6) - (1 : Int32))) 2 (gA (sI M 6 ((gI M 6) - (1 : Int32))) 8 (gI (sI M 6 ((gI M 6) - (1 : Int32))) 6))) 6))) 10 (gI (sI (sI (sI M 6 ((gI M 6) - (1 : Int32))) 2 (gA (sI M 6 ((gI M 6) - (1 : Int32))) 8 (gI (sI M 6 ((gI M 6) - (1 : Int32))) 6))) 3 (gA (sI (sI M 6 ((gI M 6) - (1 : Int32))) 2 (gA (sI M 6 ((gI M 6) - (1 : Int32))) 8 (gI (sI M 6 ((gI M 6) - (1 : Int32))) 6))) 9 (gI (sI (sI M 6 ((gI M 6) - (1 : Int32))) 2 (gA (sI M 6 ((gI M 6) - (1 : Int32))) 8 (gI (sI M 6 ((gI M 6) - (1 : Int32))) 6))) 6))) 6))) - (1 : Int32))))) else none) else none) else none)) else none) else none) else none))
set_option maxRecDepth 100000 in
set_option maxHeartbeats 4000000 in
theorem t_X7_undo {Z : Zz} {G : Gm} {a : Nat → Nat} {o : (Int32 × Mm)} {c1 c2 : Nat} {M : Mm} (C : CX (wM Z a) Z tE G cX7_undo RX7 0 (some .int) (PqW o.1 o.2) 0) (hm : (Gc G).maxLocals = 1) (hf : f_X7_undo  M = some o) : V (wM Z a) Z G 0 0 [some (.ref (a 0))] [] (c1, c2, M) := by
  unfold f_X7_undo at hf
  refine V_aload0 C (pc := 0) dX7_undo_0 ?_
  refine gf_RX7_92 C (pc := 1) dX7_undo_1 ?_
  refine V_if_ne C (pc := 4) (tgt := 10) dX7_undo_4 (by decide) hf (fun hf => ?_) (fun hf => ?_)
  · refine V_aload0 C (pc := 10) dX7_undo_10 ?_
    refine V_dupr C (pc := 11) dX7_undo_11 ?_
    refine gf_RX7_92 C (pc := 12) dX7_undo_12 ?_
    refine V_iconst C (pc := 15) (v := (1 : Int32)) (by decide) dX7_undo_15 ?_
    refine V_isub C (pc := 16) dX7_undo_16 ?_
    refine pf_RX7_92 C (pc := 17) dX7_undo_17 ?_
    refine V_aload0 C (pc := 20) dX7_undo_20 ?_
    refine V_aload0 C (pc := 21) dX7_undo_21 ?_
    refine gf_RX7_36 C (pc := 22) dX7_undo_22 ?_
    refine V_aload0 C (pc := 25) dX7_undo_25 ?_
    refine gf_RX7_92 C (pc := 26) dX7_undo_26 ?_
    refine alM_8 C (pc := 29) dX7_undo_29 hf (fun hf => ?_)
    refine pf_RX7_95 C (pc := 30) dX7_undo_30 ?_
    refine V_aload0 C (pc := 33) dX7_undo_33 ?_
    refine V_aload0 C (pc := 34) dX7_undo_34 ?_
    refine gf_RX7_39 C (pc := 35) dX7_undo_35 ?_
    refine V_aload0 C (pc := 38) dX7_undo_38 ?_
    refine gf_RX7_92 C (pc := 39) dX7_undo_39 ?_
    refine alM_9 C (pc := 42) dX7_undo_42 hf (fun hf => ?_)
    refine pf_RX7_98 C (pc := 43) dX7_undo_43 ?_
    refine V_aload0 C (pc := 46) dX7_undo_46 ?_
    refine gf_RX7_42 C (pc := 47) dX7_undo_47 ?_
    refine V_aload0 C (pc := 50) dX7_undo_50 ?_
    refine gf_RX7_92 C (pc := 51) dX7_undo_51 ?_
    refine alM_10 C (pc := 54) dX7_undo_54 hf (fun hf => ?_)
    refine V_if_lt C (pc := 55) (tgt := 76) dX7_undo_55 (by decide) hf (fun hf => ?_) (fun hf => ?_)
    · refine V_aload0 C (pc := 76) dX7_undo_76 ?_
      refine gf_RX7_92 C (pc := 77) dX7_undo_77 ?_
      exact V_iret C (pc := 80) rfl (Nat.le_refl 0) dX7_undo_80 (pqW hf)
    · refine V_aload0 C (pc := 58) dX7_undo_58 ?_
      refine gf_RX7_22 C (pc := 59) dX7_undo_59 ?_
      refine V_aload0 C (pc := 62) dX7_undo_62 ?_
      refine gf_RX7_42 C (pc := 63) dX7_undo_63 ?_
      refine V_aload0 C (pc := 66) dX7_undo_66 ?_
      refine gf_RX7_92 C (pc := 67) dX7_undo_67 ?_
      refine alM_10 C (pc := 70) dX7_undo_70 hf (fun hf => ?_)
      refine V_dup2 C (pc := 71) dX7_undo_71 ?_
      refine alM_5 C (pc := 72) dX7_undo_72 hf (fun hf => ?_)
      refine V_iconst C (pc := 73) (v := (1 : Int32)) (by decide) dX7_undo_73 ?_
      refine V_isub C (pc := 74) dX7_undo_74 ?_
      refine asM_5 C (pc := 75) dX7_undo_75 hf (fun hf => ?_)
      refine V_aload0 C (pc := 76) dX7_undo_76 ?_
      refine gf_RX7_92 C (pc := 77) dX7_undo_77 ?_
      exact V_iret C (pc := 80) rfl (Nat.le_refl 0) dX7_undo_80 (pqW hf)
  · refine V_bipush C (pc := 7) (v := (-2 : Int32)) (by decide) dX7_undo_7 ?_
    exact V_iret C (pc := 9) rfl (Nat.le_refl 0) dX7_undo_9 (pqW hf)
set_option maxRecDepth 100000 in
theorem c_X7_undo {Z : Zz} {a : Nat → Nat} {c1 c2 : Nat} {M : Mm} {r0 : Int32} {M0 : Mm} (hf : f_X7_undo  M = some (r0, M0)) : CtI (wM Z a) Z tE yX7_undo cX7_undo 1 (some .int) 0 0 [.ref (a 0)] (c1, c2, M) (PqW r0 M0) := CtI_of (by decide +kernel) (Or.inl rfl) (List.forall_mem_cons.mpr ⟨rfl, fun _ h9 => nomatch h9⟩) (Nat.le_of_ble_eq_true rfl) (fun G C hm => t_X7_undo (o := (r0, M0)) C hm hf)
def f_X7_vats (N : Nat) (x1 : Int32) (M : Mm) : Option (Int32 × Mm) := (if x1 < (1 : Int32) then (some ((-2 : Int32), M)) else (if (18 : Int32) < x1 then (some ((-2 : Int32), M)) else (bd (f_X7_filled N M (gI M 2) (gI M 3)) (fun r21 => (if r21 ≤ x1 then (some ((gI M 1), (sI (sI M 1 x1) 6 (0 : Int32)))) else (some ((-2 : Int32), M)))))))
set_option maxRecDepth 100000 in
set_option maxHeartbeats 4000000 in
theorem t_X7_vats {Z : Zz} {G : Gm} {a : Nat → Nat} {N : Nat} {o : (Int32 × Mm)} {c1 c2 : Nat} {M : Mm} {x1 : Int32} (C : CX (wM Z a) Z tE G cX7_vats RX7 3 (some .int) (PqW o.1 o.2) 0) (hm : (Gc G).maxLocals = 3) (hf : f_X7_vats N x1 M = some o) : V (wM Z a) Z G 0 0 [some (.ref (a 0)), some (.int x1), none] [] (c1, c2, M) := by
  unfold f_X7_vats at hf
  refine V_iload1 C (pc := 0) dX7_vats_0 ?_
  refine V_iconst C (pc := 1) (v := (1 : Int32)) (by decide) dX7_vats_1 ?_
  refine V_icmp_lt C (pc := 2) (tgt := 27) dX7_vats_2 (by decide) hf (fun hf => ?_) (fun hf => ?_)
  · refine V_bipush C (pc := 27) (v := (-2 : Int32)) (by decide) dX7_vats_27 ?_
    exact V_iret C (pc := 29) rfl (Nat.le_refl 0) dX7_vats_29 (pqW hf)
  · refine V_iload1 C (pc := 5) dX7_vats_5 ?_
    refine V_bipush C (pc := 6) (v := (18 : Int32)) (by decide) dX7_vats_6 ?_
    refine V_icmp_gt C (pc := 8) (tgt := 27) dX7_vats_8 (by decide) hf (fun hf => ?_) (fun hf => ?_)
    · refine V_bipush C (pc := 27) (v := (-2 : Int32)) (by decide) dX7_vats_27 ?_
      exact V_iret C (pc := 29) rfl (Nat.le_refl 0) dX7_vats_29 (pqW hf)
    · refine V_iload1 C (pc := 11) dX7_vats_11 ?_
      refine V_aload0 C (pc := 12) dX7_vats_12 ?_
      refine V_aload0 C (pc := 13) dX7_vats_13 ?_
      refine gf_RX7_95 C (pc := 14) dX7_vats_14 ?_
      refine V_aload0 C (pc := 17) dX7_vats_17 ?_
      refine gf_RX7_98 C (pc := 18) dX7_vats_18 ?_
      refine V_cR C (pc := 21) (dep2 := 2) (As := [.int (gI M 2), .int (gI M 3)]) (rest := [.int x1]) (fun r0 h0 => c_X7_filled h0) lb_X7_filled lk_RX7_88 wm_t (by decide) (Nat.le_refl 0) 0 7 rfl rfl rfl rfl (Nat.le_of_ble_eq_true rfl) dX7_vats_21 hf (fun r21 hf => ?_)
      refine V_icmp_ge C (pc := 24) (tgt := 30) dX7_vats_24 (by decide) hf (fun hf => ?_) (fun hf => ?_)
      · refine V_aload0 C (pc := 30) dX7_vats_30 ?_
        refine gf_RX7_25 C (pc := 31) dX7_vats_31 ?_
        refine V_istore2 C (pc := 34) dX7_vats_34 (by rw [hm]; decide) ?_
        refine V_aload0 C (pc := 35) dX7_vats_35 ?_
        refine V_iload1 C (pc := 36) dX7_vats_36 ?_
        refine pf_RX7_25 C (pc := 37) dX7_vats_37 ?_
        refine V_aload0 C (pc := 40) dX7_vats_40 ?_
        refine V_iconst C (pc := 41) (v := (0 : Int32)) (by decide) dX7_vats_41 ?_
        refine pf_RX7_92 C (pc := 42) dX7_vats_42 ?_
        refine V_iload2 C (pc := 45) dX7_vats_45 ?_
        exact V_iret C (pc := 46) rfl (Nat.le_refl 0) dX7_vats_46 (pqW hf)
      · refine V_bipush C (pc := 27) (v := (-2 : Int32)) (by decide) dX7_vats_27 ?_
        exact V_iret C (pc := 29) rfl (Nat.le_refl 0) dX7_vats_29 (pqW hf)
set_option maxRecDepth 100000 in
theorem c_X7_vats {Z : Zz} {a : Nat → Nat} {N : Nat} {c1 c2 : Nat} {M : Mm} {x1 : Int32} {r0 : Int32} {M0 : Mm} (hf : f_X7_vats N x1 M = some (r0, M0)) : CtI (wM Z a) Z tE yX7_vats cX7_vats 3 (some .int) 3 0 [.ref (a 0), .int x1] (c1, c2, M) (PqW r0 M0) := CtI_of (by decide +kernel) (Or.inl rfl) (List.forall_mem_cons.mpr ⟨rfl, List.forall_mem_cons.mpr ⟨rfl, fun _ h9 => nomatch h9⟩⟩) (Nat.le_of_ble_eq_true rfl) (fun G C hm => t_X7_vats (o := (r0, M0)) C hm hf)
def f_X7_where (M : Mm)  : Option Int32 := (some (gI M 8))
set_option maxRecDepth 100000 in
set_option maxHeartbeats 4000000 in
theorem t_X7_where {Z : Zz} {G : Gm} {a : Nat → Nat} {o : Int32} {c1 c2 : Nat} {M : Mm} (C : CX (wM Z a) Z tE G cX7_where RX7 0 (some .int) (PqR o (c1, c2, M)) 0) (hm : (Gc G).maxLocals = 1) (hf : f_X7_where M  = some o) : V (wM Z a) Z G 0 0 [some (.ref (a 0))] [] (c1, c2, M) := by
  unfold f_X7_where at hf
  refine V_aload0 C (pc := 0) dX7_where_0 ?_
  refine gf_RX7_48 C (pc := 1) dX7_where_1 ?_
  exact V_iret C (pc := 4) rfl (Nat.le_refl 0) dX7_where_4 ⟨hf, rfl⟩
set_option maxRecDepth 100000 in
theorem c_X7_where {Z : Zz} {a : Nat → Nat} {c1 c2 : Nat} {M : Mm} {r0 : Int32} (hf : f_X7_where M  = some r0) : CtI (wM Z a) Z tE yX7_where cX7_where 1 (some .int) 0 0 [.ref (a 0)] (c1, c2, M) (PqR r0 (c1, c2, M)) := CtI_of (by decide +kernel) (Or.inl rfl) (List.forall_mem_cons.mpr ⟨rfl, fun _ h9 => nomatch h9⟩) (Nat.le_of_ble_eq_true rfl) (fun G C hm => t_X7_where (o := r0) C hm hf)
def f_X7_why (N : Nat) (M : Mm) (x1 : Int32) : Option Int32 := (bd (f_X7_isBath M x1) (fun r2 => (if r2 = 0 then (some (-2 : Int32)) else (bd (f_X7_reason N M (gI M 2) (gI M 3) x1 (gI M 1)) (fun r22 => (some r22))))))
set_option maxRecDepth 100000 in
set_option maxHeartbeats 4000000 in
theorem t_X7_why {Z : Zz} {G : Gm} {a : Nat → Nat} {N : Nat} {o : Int32} {c1 c2 : Nat} {M : Mm} {x1 : Int32} (C : CX (wM Z a) Z tE G cX7_why RX7 4 (some .int) (PqR o (c1, c2, M)) 0) (hm : (Gc G).maxLocals = 2) (hf : f_X7_why N M x1 = some o) : V (wM Z a) Z G 0 0 [some (.ref (a 0)), some (.int x1)] [] (c1, c2, M) := by
  unfold f_X7_why at hf
  refine V_aload0 C (pc := 0) dX7_why_0 ?_
  refine V_iload1 C (pc := 1) dX7_why_1 ?_
  refine V_cR C (pc := 2) (dep2 := 0) (As := [.int x1]) (rest := []) (fun r0 h0 => c_X7_isBath h0) lb_X7_isBath lk_RX7_101 wm_t (by decide) (Nat.le_refl 0) 0 7 rfl rfl rfl rfl (Nat.le_of_ble_eq_true rfl) dX7_why_2 hf (fun r2 hf => ?_)
  refine V_if_eq C (pc := 5) (tgt := 28) dX7_why_5 (by decide) hf (fun hf => ?_) (fun hf => ?_)
  · refine V_bipush C (pc := 28) (v := (-2 : Int32)) (by decide) dX7_why_28 ?_
    exact V_iret C (pc := 30) rfl (Nat.le_refl 0) dX7_why_30 ⟨hf, rfl⟩
  · refine V_aload0 C (pc := 8) dX7_why_8 ?_
    refine V_aload0 C (pc := 9) dX7_why_9 ?_
    refine gf_RX7_95 C (pc := 10) dX7_why_10 ?_
    refine V_aload0 C (pc := 13) dX7_why_13 ?_
    refine gf_RX7_98 C (pc := 14) dX7_why_14 ?_
    refine V_iload1 C (pc := 17) dX7_why_17 ?_
    refine V_aload0 C (pc := 18) dX7_why_18 ?_
    refine gf_RX7_25 C (pc := 19) dX7_why_19 ?_
    refine V_cR C (pc := 22) (dep2 := 3) (As := [.int (gI M 2), .int (gI M 3), .int x1, .int (gI M 1)]) (rest := []) (fun r0 h0 => c_X7_reason h0) lb_X7_reason lk_RX7_126 wm_t (by decide) (Nat.le_refl 0) 0 7 rfl rfl rfl rfl (Nat.le_of_ble_eq_true rfl) dX7_why_22 hf (fun r22 hf => ?_)
    refine V_goto C (pc := 25) (tgt := 30) dX7_why_25 (by decide) ?_
    exact V_iret C (pc := 30) rfl (Nat.le_refl 0) dX7_why_30 ⟨hf, rfl⟩
set_option maxRecDepth 100000 in
theorem c_X7_why {Z : Zz} {a : Nat → Nat} {N : Nat} {c1 c2 : Nat} {M : Mm} {x1 : Int32} {r0 : Int32} (hf : f_X7_why N M x1 = some r0) : CtI (wM Z a) Z tE yX7_why cX7_why 2 (some .int) 4 0 [.ref (a 0), .int x1] (c1, c2, M) (PqR r0 (c1, c2, M)) := CtI_of (by decide +kernel) (Or.inl rfl) (List.forall_mem_cons.mpr ⟨rfl, List.forall_mem_cons.mpr ⟨rfl, fun _ h9 => nomatch h9⟩⟩) (Nat.le_of_ble_eq_true rfl) (fun G C hm => t_X7_why (o := r0) C hm hf)
