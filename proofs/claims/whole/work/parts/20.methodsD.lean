/-! functions and walks, by program (wip/gen) -/
def f_J6_bitCount_0f7a4 (x0 : Int32) : Option Int32 := (some ((((((((x0 - (((x0).toUInt32 >>> (((1 : Int32)).toUInt32 &&& Int32.toUInt32 31)).toInt32 &&& (1431655765 : Int32))) &&& (858993459 : Int32)) + ((((x0 - (((x0).toUInt32 >>> (((1 : Int32)).toUInt32 &&& Int32.toUInt32 31)).toInt32 &&& (1431655765 : Int32)))).toUInt32 >>> (((2 : Int32)).toUInt32 &&& Int32.toUInt32 31)).toInt32 &&& (858993459 : Int32))) + (((((x0 - (((x0).toUInt32 >>> (((1 : Int32)).toUInt32 &&& Int32.toUInt32 31)).toInt32 &&& (1431655765 : Int32))) &&& (858993459 : Int32)) + ((((x0 - (((x0).toUInt32 >>> (((1 : Int32)).toUInt32 &&& Int32.toUInt32 31)).toInt32 &&& (1431655765 : Int32)))).toUInt32 >>> (((2 : Int32)).toUInt32 &&& Int32.toUInt32 31)).toInt32 &&& (858993459 : Int32)))).toUInt32 >>> (((4 : Int32)).toUInt32 &&& Int32.toUInt32 31)).toInt32) &&& (252645135 : Int32)) + (((((((x0 - (((x0).toUInt32 >>> (((1 : Int32)).toUInt32 &&& Int32.toUInt32 31)).toInt32 &&& (1431655765 : Int32))) &&& (858993459 : Int32)) + ((((x0 - (((x0).toUInt32 >>> (((1 : Int32)).toUInt32 &&& Int32.toUInt32 31)).toInt32 &&& (1431655765 : Int32)))).toUInt32 >>> (((2 : Int32)).toUInt32 &&& Int32.toUInt32 31)).toInt32 &&& (858993459 : Int32))) + (((((x0 - (((x0).toUInt32 >>> (((1 : Int32)).toUInt32 &&& Int32.toUInt32 31)).toInt32 &&& (1431655765 : Int32))) &&& (858993459 : Int32)) + ((((x0 - (((x0).toUInt32 >>> (((1 : Int32)).toUInt32 &&& Int32.toUInt32 31)).toInt32 &&& (1431655765 : Int32)))).toUInt32 >>> (((2 : Int32)).toUInt32 &&& Int32.toUInt32 31)).toInt32 &&& (858993459 : Int32)))).toUInt32 >>> (((4 : Int32)).toUInt32 &&& Int32.toUInt32 31)).toInt32) &&& (252645135 : Int32))).toUInt32 >>> (((8 : Int32)).toUInt32 &&& Int32.toUInt32 31)).toInt32) + ((((((((x0 - (((x0).toUInt32 >>> (((1 : Int32)).toUInt32 &&& Int32.toUInt32 31)).toInt32 &&& (1431655765 : Int32))) &&& (858993459 : Int32)) + ((((x0 - (((x0).toUInt32 >>> (((1 : Int32)).toUInt32 &&& Int32.toUInt32 31)).toInt32 &&& (1431655765 : Int32)))).toUInt32 >>> (((2 : Int32)).toUInt32 &&& Int32.toUInt32 31)).toInt32 &&& (858993459 : Int32))) + (((((x0 - (((x0).toUInt32 >>> (((1 : Int32)).toUInt32 &&& Int32.toUInt32 31)).toInt32 &&& (1431655765 : Int32))) &&& (858993459 : Int32)) + ((((x0 - (((x0).toUInt32 >>> (((1 : Int32)).toUInt32 &&& Int32.toUInt32 31)).toInt32 &&& (1431655765 : Int32)))).toUInt32 >>> (((2 : Int32)).toUInt32 &&& Int32.toUInt32 31)).toInt32 &&& (858993459 : Int32)))).toUInt32 >>> (((4 : Int32)).toUInt32 &&& Int32.toUInt32 31)).toInt32) &&& (252645135 : Int32)) + (((((((x0 - (((x0).toUInt32 >>> (((1 : Int32)).toUInt32 &&& Int32.toUInt32 31)).toInt32 &&& (1431655765 : Int32))) &&& (858993459 : Int32)) + ((((x0 - (((x0).toUInt32 >>> (((1 : Int32)).toUInt32 &&& Int32.toUInt32 31)).toInt32 &&& (1431655765 : Int32)))).toUInt32 >>> (((2 : Int32)).toUInt32 &&& Int32.toUInt32 31)).toInt32 &&& (858993459 : Int32))) + (((((x0 - (((x0).toUInt32 >>> (((1 : Int32)).toUInt32 &&& Int32.toUInt32 31)).toInt32 &&& (1431655765 : Int32))) &&& (858993459 : Int32)) + ((((x0 - (((x0).toUInt32 >>> (((1 : Int32)).toUInt32 &&& Int32.toUInt32 31)).toInt32 &&& (1431655765 : Int32)))).toUInt32 >>> (((2 : Int32)).toUInt32 &&& Int32.toUInt32 31)).toInt32 &&& (858993459 : Int32)))).toUInt32 >>> (((4 : Int32)).toUInt32 &&& Int32.toUInt32 31)).toInt32) &&& (252645135 : Int32))).toUInt32 >>> (((8 : Int32)).toUInt32 &&& Int32.toUInt32 31)).toInt32)).toUInt32 >>> (((16 : Int32)).toUInt32 &&& Int32.toUInt32 31)).toInt32) &&& (63 : Int32)))
set_option maxRecDepth 100000 in
set_option maxHeartbeats 4000000 in
theorem t_J6_bitCount_0f7a4 {Z : Zz} {G : Gm} {ws : va_W} {o : Int32} {x0 : Int32} (C : CX (fun _ : Unit => ws) Z tE G cJ6_bitCount_0f7a4 RJ6 0 (some .int) (PqR o ()) 0) (hm : (Gc G).maxLocals = 1) (hf : f_J6_bitCount_0f7a4 x0 = some o) : V (fun _ : Unit => ws) Z G 0 0 [some (.int x0)] [] () := by
  unfold f_J6_bitCount_0f7a4 at hf
  refine V_iload0 C (pc := 0) dJ6_bitCount_0f7a4_0 ?_
  refine V_iload0 C (pc := 1) dJ6_bitCount_0f7a4_1 ?_
  refine V_iconst C (pc := 2) (v := (1 : Int32)) (by decide) dJ6_bitCount_0f7a4_2 ?_
  refine V_iushr C (pc := 3) dJ6_bitCount_0f7a4_3 ?_
  refine V_ldcw C (pc := 4) wk_RJ6_265 dJ6_bitCount_0f7a4_4 ?_
  refine V_iand C (pc := 7) dJ6_bitCount_0f7a4_7 ?_
  refine V_isub C (pc := 8) dJ6_bitCount_0f7a4_8 ?_
  refine V_istore0 C (pc := 9) dJ6_bitCount_0f7a4_9 (by rw [hm]; decide) ?_
  refine V_iload0 C (pc := 10) dJ6_bitCount_0f7a4_10 ?_
  refine V_ldcw C (pc := 11) wk_RJ6_266 dJ6_bitCount_0f7a4_11 ?_
  refine V_iand C (pc := 14) dJ6_bitCount_0f7a4_14 ?_
  refine V_iload0 C (pc := 15) dJ6_bitCount_0f7a4_15 ?_
  refine V_iconst C (pc := 16) (v := (2 : Int32)) (by decide) dJ6_bitCount_0f7a4_16 ?_
  refine V_iushr C (pc := 17) dJ6_bitCount_0f7a4_17 ?_
  refine V_ldcw C (pc := 18) wk_RJ6_266 dJ6_bitCount_0f7a4_18 ?_
  refine V_iand C (pc := 21) dJ6_bitCount_0f7a4_21 ?_
  refine V_iadd C (pc := 22) dJ6_bitCount_0f7a4_22 ?_
  refine V_istore0 C (pc := 23) dJ6_bitCount_0f7a4_23 (by rw [hm]; decide) ?_
  refine V_iload0 C (pc := 24) dJ6_bitCount_0f7a4_24 ?_
  refine V_iload0 C (pc := 25) dJ6_bitCount_0f7a4_25 ?_
  refine V_iconst C (pc := 26) (v := (4 : Int32)) (by decide) dJ6_bitCount_0f7a4_26 ?_
  refine V_iushr C (pc := 27) dJ6_bitCount_0f7a4_27 ?_
  refine V_iadd C (pc := 28) dJ6_bitCount_0f7a4_28 ?_
  refine V_ldcw C (pc := 29) wk_RJ6_267 dJ6_bitCount_0f7a4_29 ?_
  refine V_iand C (pc := 32) dJ6_bitCount_0f7a4_32 ?_
  refine V_istore0 C (pc := 33) dJ6_bitCount_0f7a4_33 (by rw [hm]; decide) ?_
  refine V_iload0 C (pc := 34) dJ6_bitCount_0f7a4_34 ?_
  refine V_iload0 C (pc := 35) dJ6_bitCount_0f7a4_35 ?_
  refine V_bipush C (pc := 36) (v := (8 : Int32)) (by decide) dJ6_bitCount_0f7a4_36 ?_
  refine V_iushr C (pc := 38) dJ6_bitCount_0f7a4_38 ?_
  refine V_iadd C (pc := 39) dJ6_bitCount_0f7a4_39 ?_
  refine V_istore0 C (pc := 40) dJ6_bitCount_0f7a4_40 (by rw [hm]; decide) ?_
  refine V_iload0 C (pc := 41) dJ6_bitCount_0f7a4_41 ?_
  refine V_iload0 C (pc := 42) dJ6_bitCount_0f7a4_42 ?_
  refine V_bipush C (pc := 43) (v := (16 : Int32)) (by decide) dJ6_bitCount_0f7a4_43 ?_
  refine V_iushr C (pc := 45) dJ6_bitCount_0f7a4_45 ?_
  refine V_iadd C (pc := 46) dJ6_bitCount_0f7a4_46 ?_
  refine V_istore0 C (pc := 47) dJ6_bitCount_0f7a4_47 (by rw [hm]; decide) ?_
  refine V_iload0 C (pc := 48) dJ6_bitCount_0f7a4_48 ?_
  refine V_bipush C (pc := 49) (v := (63 : Int32)) (by decide) dJ6_bitCount_0f7a4_49 ?_
  refine V_iand C (pc := 51) dJ6_bitCount_0f7a4_51 ?_
  exact V_iret C (pc := 52) rfl (Nat.le_refl 0) dJ6_bitCount_0f7a4_52 ⟨hf, rfl⟩
set_option maxRecDepth 100000 in
theorem c_J6_bitCount_0f7a4 {Z : Zz} {ws : va_W} {x0 : Int32} {r0 : Int32} (hf : f_J6_bitCount_0f7a4 x0 = some r0) : CtI (fun _ : Unit => ws) Z tE yJ6_bitCount_0f7a4 cJ6_bitCount_0f7a4 1 (some .int) 0 0 [.int x0] () (PqR r0 ()) := CtI_of (by decide +kernel) (Or.inl rfl) (List.forall_mem_cons.mpr ⟨rfl, fun _ h9 => nomatch h9⟩) (Nat.le_of_ble_eq_true rfl) (fun G C hm => t_J6_bitCount_0f7a4 (o := r0) C hm hf)
def f_X0_clear  (M : Mm) : Option Mm := (some (sI M 11 (0 : Int32)))
set_option maxRecDepth 100000 in
set_option maxHeartbeats 4000000 in
theorem t_X0_clear {Z : Zz} {G : Gm} {a : Nat → Nat} {o : Mm} {c1 c2 : Nat} {M : Mm} (C : CX (wD Z a) Z nE G cX0_clear RX0 0 none (PqV o) 0) (hm : (Gc G).maxLocals = 1) (hf : f_X0_clear  M = some o) : V (wD Z a) Z G 0 0 [some (.ref (a 4))] [] (c1, c2, M) := by
  unfold f_X0_clear at hf
  refine V_aload0 C (pc := 0) dX0_clear_0 ?_
  refine V_iconst C (pc := 1) (v := (0 : Int32)) (by decide) dX0_clear_1 ?_
  refine pf_RX0_9 C (pc := 2) dX0_clear_2 ?_
  exact V_vret C (pc := 5) rfl (Nat.le_refl 0) dX0_clear_5 (pqV hf)
set_option maxRecDepth 100000 in
theorem c_X0_clear {Z : Zz} {a : Nat → Nat} {c1 c2 : Nat} {M : Mm} {M0 : Mm} (hf : f_X0_clear  M = some M0) : CtV (wD Z a) Z nE yX0_clear cX0_clear 1 0 0 [.ref (a 4)] (c1, c2, M) (PqV M0) := CtV_of (by decide +kernel) (List.forall_mem_cons.mpr ⟨rfl, fun _ h9 => nomatch h9⟩) (Nat.le_of_ble_eq_true rfl) (fun G C hm => t_X0_clear (o := M0) C hm hf)
def f_X0_keep_42 (t1 : Int32) (M : Mm) : Option Mm := (some (sI (sI M 12 t1) 11 (if (100 : Int32) < ((gI (sI M 12 t1) 11) + (1 : Int32)) then (100 : Int32) else ((gI (sI M 12 t1) 11) + (1 : Int32)))))
set_option maxRecDepth 100000 in
set_option maxHeartbeats 4000000 in
theorem t_X0_keep_42 {Z : Zz} {G : Gm} {a : Nat → Nat} {o : Mm} {c1 c2 : Nat} {M : Mm} {t1 : Int32} (C : CX (wD Z a) Z nE G cX0_keep RX0 1 none (PqV o) 0) (hm : (Gc G).maxLocals = 3) (hf : f_X0_keep_42 t1 M = some o) : V (wD Z a) Z G 0 42 [some (.ref (a 4)), none, none] [.int t1, .ref (a 4)] (c1, c2, M) := by
  unfold f_X0_keep_42 at hf
  refine pf_RX0_15 C (pc := 42) dX0_keep_42 ?_
  refine V_aload0 C (pc := 45) dX0_keep_45 ?_
  refine V_aload0 C (pc := 46) dX0_keep_46 ?_
  refine gf_RX0_9 C (pc := 47) dX0_keep_47 ?_
  refine V_iconst C (pc := 50) (v := (1 : Int32)) (by decide) dX0_keep_50 ?_
  refine V_iadd C (pc := 51) dX0_keep_51 ?_
  refine V_bipush C (pc := 52) (v := (100 : Int32)) (by decide) dX0_keep_52 ?_
  refine V_mmin C (pc := 54) lk_RX0_25 (by decide) (Nat.le_refl 0) dX0_keep_54 (Nat.le_of_ble_eq_true rfl) ?_
  refine pf_RX0_9 C (pc := 57) dX0_keep_57 ?_
  exact V_vret C (pc := 60) rfl (Nat.le_refl 0) dX0_keep_60 (pqV hf)
def f_X0_keep (x1 : Int32) (x2 : Int32) (M : Mm) : Option Mm := (if inb (gI M 12) 100 then (if inb (gI (sA M 17 (gI M 12) x1) 12) 100 then (if (100 : Int32) ≤ ((gI (sA (sA M 17 (gI M 12) x1) 18 (gI (sA M 17 (gI M 12) x1) 12) x2) 12) + (1 : Int32)) then (f_X0_keep_42 (0 : Int32) (sA (sA M 17 (gI M 12) x1) 18 (gI (sA M 17 (gI M 12) x1) 12) x2)) else (f_X0_keep_42 ((gI (sA (sA M 17 (gI M 12) x1) 18 (gI (sA M 17 (gI M 12) x1) 12) x2) 12) + (1 : Int32)) (sA (sA M 17 (gI M 12) x1) 18 (gI (sA M 17 (gI M 12) x1) 12) x2))) else none) else none)
set_option maxRecDepth 100000 in
set_option maxHeartbeats 4000000 in
theorem t_X0_keep {Z : Zz} {G : Gm} {a : Nat → Nat} {o : Mm} {c1 c2 : Nat} {M : Mm} {x1 x2 : Int32} (C : CX (wD Z a) Z nE G cX0_keep RX0 1 none (PqV o) 0) (hm : (Gc G).maxLocals = 3) (hf : f_X0_keep x1 x2 M = some o) : V (wD Z a) Z G 0 0 [some (.ref (a 4)), some (.int x1), some (.int x2)] [] (c1, c2, M) := by
  unfold f_X0_keep at hf
  refine V_aload0 C (pc := 0) dX0_keep_0 ?_
  refine gf_RX0_18 C (pc := 1) dX0_keep_1 ?_
  refine V_aload0 C (pc := 4) dX0_keep_4 ?_
  refine gf_RX0_15 C (pc := 5) dX0_keep_5 ?_
  refine V_iload1 C (pc := 8) dX0_keep_8 ?_
  refine asD_17 C (pc := 9) dX0_keep_9 hf (fun hf => ?_)
  refine V_aload0 C (pc := 10) dX0_keep_10 ?_
  refine gf_RX0_22 C (pc := 11) dX0_keep_11 ?_
  refine V_aload0 C (pc := 14) dX0_keep_14 ?_
  refine gf_RX0_15 C (pc := 15) dX0_keep_15 ?_
  refine V_iload2 C (pc := 18) dX0_keep_18 ?_
  refine asD_18 C (pc := 19) dX0_keep_19 hf (fun hf => ?_)
  refine V_aload0 C (pc := 20) dX0_keep_20 ?_
  refine V_aload0 C (pc := 21) dX0_keep_21 ?_
  refine gf_RX0_15 C (pc := 22) dX0_keep_22 ?_
  refine V_iconst C (pc := 25) (v := (1 : Int32)) (by decide) dX0_keep_25 ?_
  refine V_iadd C (pc := 26) dX0_keep_26 ?_
  refine V_bipush C (pc := 27) (v := (100 : Int32)) (by decide) dX0_keep_27 ?_
  refine V_icmp_ge C (pc := 29) (tgt := 41) dX0_keep_29 (by decide) hf (fun hf => ?_) (fun hf => ?_)
  · refine V_iconst C (pc := 41) (v := (0 : Int32)) (by decide) dX0_keep_41 ?_
    exact V.mono [true, false, false] rfl (t_X0_keep_42 C hm hf)
  · refine V_aload0 C (pc := 32) dX0_keep_32 ?_
    refine gf_RX0_15 C (pc := 33) dX0_keep_33 ?_
    refine V_iconst C (pc := 36) (v := (1 : Int32)) (by decide) dX0_keep_36 ?_
    refine V_iadd C (pc := 37) dX0_keep_37 ?_
    refine V_goto C (pc := 38) (tgt := 42) dX0_keep_38 (by decide) ?_
    exact V.mono [true, false, false] rfl (t_X0_keep_42 C hm hf)
set_option maxRecDepth 100000 in
theorem c_X0_keep {Z : Zz} {a : Nat → Nat} {c1 c2 : Nat} {M : Mm} {x1 x2 : Int32} {M0 : Mm} (hf : f_X0_keep x1 x2 M = some M0) : CtV (wD Z a) Z nE yX0_keep cX0_keep 3 1 0 [.ref (a 4), .int x1, .int x2] (c1, c2, M) (PqV M0) := CtV_of (by decide +kernel) (List.forall_mem_cons.mpr ⟨rfl, List.forall_mem_cons.mpr ⟨rfl, List.forall_mem_cons.mpr ⟨rfl, fun _ h9 => nomatch h9⟩⟩⟩) (Nat.le_of_ble_eq_true rfl) (fun G C hm => t_X0_keep (o := M0) C hm hf)
def f_X0_madeThere (M : Mm)  : Option Int32 := (if inb (gI M 12) 100 then (some (gA M 18 (gI M 12))) else none)
set_option maxRecDepth 100000 in
set_option maxHeartbeats 4000000 in
theorem t_X0_madeThere {Z : Zz} {G : Gm} {a : Nat → Nat} {o : Int32} {c1 c2 : Nat} {M : Mm} (C : CX (wD Z a) Z nE G cX0_madeThere RX0 0 (some .int) (PqR o (c1, c2, M)) 0) (hm : (Gc G).maxLocals = 1) (hf : f_X0_madeThere M  = some o) : V (wD Z a) Z G 0 0 [some (.ref (a 4))] [] (c1, c2, M) := by
  unfold f_X0_madeThere at hf
  refine V_aload0 C (pc := 0) dX0_madeThere_0 ?_
  refine gf_RX0_22 C (pc := 1) dX0_madeThere_1 ?_
  refine V_aload0 C (pc := 4) dX0_madeThere_4 ?_
  refine gf_RX0_15 C (pc := 5) dX0_madeThere_5 ?_
  refine alD_18 C (pc := 8) dX0_madeThere_8 hf (fun hf => ?_)
  exact V_iret C (pc := 9) rfl (Nat.le_refl 0) dX0_madeThere_9 ⟨hf, rfl⟩
set_option maxRecDepth 100000 in
theorem c_X0_madeThere {Z : Zz} {a : Nat → Nat} {c1 c2 : Nat} {M : Mm} {r0 : Int32} (hf : f_X0_madeThere M  = some r0) : CtI (wD Z a) Z nE yX0_madeThere cX0_madeThere 1 (some .int) 0 0 [.ref (a 4)] (c1, c2, M) (PqR r0 (c1, c2, M)) := CtI_of (by decide +kernel) (Or.inl rfl) (List.forall_mem_cons.mpr ⟨rfl, fun _ h9 => nomatch h9⟩) (Nat.le_of_ble_eq_true rfl) (fun G C hm => t_X0_madeThere (o := r0) C hm hf)
def f_X0_sceneThere (M : Mm)  : Option Int32 := (if inb (gI M 12) 100 then (some (gA M 17 (gI M 12))) else none)
set_option maxRecDepth 100000 in
set_option maxHeartbeats 4000000 in
theorem t_X0_sceneThere {Z : Zz} {G : Gm} {a : Nat → Nat} {o : Int32} {c1 c2 : Nat} {M : Mm} (C : CX (wD Z a) Z nE G cX0_sceneThere RX0 0 (some .int) (PqR o (c1, c2, M)) 0) (hm : (Gc G).maxLocals = 1) (hf : f_X0_sceneThere M  = some o) : V (wD Z a) Z G 0 0 [some (.ref (a 4))] [] (c1, c2, M) := by
  unfold f_X0_sceneThere at hf
  refine V_aload0 C (pc := 0) dX0_sceneThere_0 ?_
  refine gf_RX0_18 C (pc := 1) dX0_sceneThere_1 ?_
  refine V_aload0 C (pc := 4) dX0_sceneThere_4 ?_
  refine gf_RX0_15 C (pc := 5) dX0_sceneThere_5 ?_
  refine alD_17 C (pc := 8) dX0_sceneThere_8 hf (fun hf => ?_)
  exact V_iret C (pc := 9) rfl (Nat.le_refl 0) dX0_sceneThere_9 ⟨hf, rfl⟩
set_option maxRecDepth 100000 in
theorem c_X0_sceneThere {Z : Zz} {a : Nat → Nat} {c1 c2 : Nat} {M : Mm} {r0 : Int32} (hf : f_X0_sceneThere M  = some r0) : CtI (wD Z a) Z nE yX0_sceneThere cX0_sceneThere 1 (some .int) 0 0 [.ref (a 4)] (c1, c2, M) (PqR r0 (c1, c2, M)) := CtI_of (by decide +kernel) (Or.inl rfl) (List.forall_mem_cons.mpr ⟨rfl, fun _ h9 => nomatch h9⟩) (Nat.le_of_ble_eq_true rfl) (fun G C hm => t_X0_sceneThere (o := r0) C hm hf)
def f_X0_stepBack_19 (t1 : Int32) (M : Mm) : Option Mm := (some (sI (sI M 12 t1) 11 (if ((gI (sI M 12 t1) 11) - (1 : Int32)) < (0 : Int32) then (0 : Int32) else ((gI (sI M 12 t1) 11) - (1 : Int32)))))
set_option maxRecDepth 100000 in
set_option maxHeartbeats 4000000 in
theorem t_X0_stepBack_19 {Z : Zz} {G : Gm} {a : Nat → Nat} {o : Mm} {c1 c2 : Nat} {M : Mm} {t1 : Int32} (C : CX (wD Z a) Z nE G cX0_stepBack RX0 1 none (PqV o) 0) (hm : (Gc G).maxLocals = 1) (hf : f_X0_stepBack_19 t1 M = some o) : V (wD Z a) Z G 0 19 [some (.ref (a 4))] [.int t1, .ref (a 4)] (c1, c2, M) := by
  unfold f_X0_stepBack_19 at hf
  refine pf_RX0_15 C (pc := 19) dX0_stepBack_19 ?_
  refine V_aload0 C (pc := 22) dX0_stepBack_22 ?_
  refine V_aload0 C (pc := 23) dX0_stepBack_23 ?_
  refine gf_RX0_9 C (pc := 24) dX0_stepBack_24 ?_
  refine V_iconst C (pc := 27) (v := (1 : Int32)) (by decide) dX0_stepBack_27 ?_
  refine V_isub C (pc := 28) dX0_stepBack_28 ?_
  refine V_iconst C (pc := 29) (v := (0 : Int32)) (by decide) dX0_stepBack_29 ?_
  refine V_mmax C (pc := 30) lk_RX0_31 (by decide) (Nat.le_refl 0) dX0_stepBack_30 (Nat.le_of_ble_eq_true rfl) ?_
  refine pf_RX0_9 C (pc := 33) dX0_stepBack_33 ?_
  exact V_vret C (pc := 36) rfl (Nat.le_refl 0) dX0_stepBack_36 (pqV hf)
def f_X0_stepBack  (M : Mm) : Option Mm := (if (gI M 12) ≤ 0 then (f_X0_stepBack_19 (99 : Int32) M) else (f_X0_stepBack_19 ((gI M 12) - (1 : Int32)) M))
set_option maxRecDepth 100000 in
set_option maxHeartbeats 4000000 in
theorem t_X0_stepBack {Z : Zz} {G : Gm} {a : Nat → Nat} {o : Mm} {c1 c2 : Nat} {M : Mm} (C : CX (wD Z a) Z nE G cX0_stepBack RX0 1 none (PqV o) 0) (hm : (Gc G).maxLocals = 1) (hf : f_X0_stepBack  M = some o) : V (wD Z a) Z G 0 0 [some (.ref (a 4))] [] (c1, c2, M) := by
  unfold f_X0_stepBack at hf
  refine V_aload0 C (pc := 0) dX0_stepBack_0 ?_
  refine V_aload0 C (pc := 1) dX0_stepBack_1 ?_
  refine gf_RX0_15 C (pc := 2) dX0_stepBack_2 ?_
  refine V_if_le C (pc := 5) (tgt := 17) dX0_stepBack_5 (by decide) hf (fun hf => ?_) (fun hf => ?_)
  · refine V_bipush C (pc := 17) (v := (99 : Int32)) (by decide) dX0_stepBack_17 ?_
    exact V.mono [true] rfl (t_X0_stepBack_19 C hm hf)
  · refine V_aload0 C (pc := 8) dX0_stepBack_8 ?_
    refine gf_RX0_15 C (pc := 9) dX0_stepBack_9 ?_
    refine V_iconst C (pc := 12) (v := (1 : Int32)) (by decide) dX0_stepBack_12 ?_
    refine V_isub C (pc := 13) dX0_stepBack_13 ?_
    refine V_goto C (pc := 14) (tgt := 19) dX0_stepBack_14 (by decide) ?_
    exact V.mono [true] rfl (t_X0_stepBack_19 C hm hf)
set_option maxRecDepth 100000 in
theorem c_X0_stepBack {Z : Zz} {a : Nat → Nat} {c1 c2 : Nat} {M : Mm} {M0 : Mm} (hf : f_X0_stepBack  M = some M0) : CtV (wD Z a) Z nE yX0_stepBack cX0_stepBack 1 1 0 [.ref (a 4)] (c1, c2, M) (PqV M0) := CtV_of (by decide +kernel) (List.forall_mem_cons.mpr ⟨rfl, fun _ h9 => nomatch h9⟩) (Nat.le_of_ble_eq_true rfl) (fun G C hm => t_X0_stepBack (o := M0) C hm hf)
def f_X1_actAt (M : Mm) (x1 : Int32) : Option Int32 := (if x1 < 0 then (some (-1 : Int32)) else (if (Int32.ofNat (gL M)) ≤ x1 then (some (-1 : Int32)) else (if inb x1 (gL M) then (some (gA M 22 x1)) else none)))
set_option maxRecDepth 100000 in
set_option maxHeartbeats 4000000 in
theorem t_X1_actAt {Z : Zz} {G : Gm} {a : Nat → Nat} {o : Int32} {c1 c2 : Nat} {M : Mm} {x1 : Int32} (C : CX (wD Z a) Z nE G cX1_actAt RX1 0 (some .int) (PqR o (c1, c2, M)) 0) (hm : (Gc G).maxLocals = 2) (hf : f_X1_actAt M x1 = some o) : V (wD Z a) Z G 0 0 [some (.ref (a 5)), some (.int x1)] [] (c1, c2, M) := by
  unfold f_X1_actAt at hf
  refine V_iload1 C (pc := 0) dX1_actAt_0 ?_
  refine V_if_lt C (pc := 1) (tgt := 22) dX1_actAt_1 (by decide) hf (fun hf => ?_) (fun hf => ?_)
  · refine V_iconst C (pc := 22) (v := (-1 : Int32)) (by decide) dX1_actAt_22 ?_
    exact V_iret C (pc := 23) rfl (Nat.le_refl 0) dX1_actAt_23 ⟨hf, rfl⟩
  · refine V_iload1 C (pc := 4) dX1_actAt_4 ?_
    refine V_aload0 C (pc := 5) dX1_actAt_5 ?_
    refine gf_RX1_21 C (pc := 6) dX1_actAt_6 ?_
    refine anD_22 C (pc := 9) dX1_actAt_9 ?_
    refine V_icmp_ge C (pc := 10) (tgt := 22) dX1_actAt_10 (by decide) hf (fun hf => ?_) (fun hf => ?_)
    · refine V_iconst C (pc := 22) (v := (-1 : Int32)) (by decide) dX1_actAt_22 ?_
      exact V_iret C (pc := 23) rfl (Nat.le_refl 0) dX1_actAt_23 ⟨hf, rfl⟩
    · refine V_aload0 C (pc := 13) dX1_actAt_13 ?_
      refine gf_RX1_21 C (pc := 14) dX1_actAt_14 ?_
      refine V_iload1 C (pc := 17) dX1_actAt_17 ?_
      refine alD_22 C (pc := 18) dX1_actAt_18 hf (fun hf => ?_)
      refine V_goto C (pc := 19) (tgt := 23) dX1_actAt_19 (by decide) ?_
      exact V_iret C (pc := 23) rfl (Nat.le_refl 0) dX1_actAt_23 ⟨hf, rfl⟩
set_option maxRecDepth 100000 in
theorem c_X1_actAt {Z : Zz} {a : Nat → Nat} {c1 c2 : Nat} {M : Mm} {x1 : Int32} {r0 : Int32} (hf : f_X1_actAt M x1 = some r0) : CtI (wD Z a) Z nE yX1_actAt cX1_actAt 2 (some .int) 0 0 [.ref (a 5), .int x1] (c1, c2, M) (PqR r0 (c1, c2, M)) := CtI_of (by decide +kernel) (Or.inl rfl) (List.forall_mem_cons.mpr ⟨rfl, List.forall_mem_cons.mpr ⟨rfl, fun _ h9 => nomatch h9⟩⟩) (Nat.le_of_ble_eq_true rfl) (fun G C hm => t_X1_actAt (o := r0) C hm hf)
def f_X5_reaches_25 (M : Mm) (x1 : Int32) (t0 : Int32) : Option Int32 := (if (x1 &&& t0) = t0 then (some (1 : Int32)) else (some (0 : Int32)))
set_option maxRecDepth 100000 in
set_option maxHeartbeats 4000000 in
theorem t_X5_reaches_25 {Z : Zz} {G : Gm} {a : Nat → Nat} {o : Int32} {c1 c2 : Nat} {M : Mm} {x1 t0 : Int32} (C : CX (wD Z a) Z nE G cX5_reaches RX5 0 (some .boolean) (PqR o (c1, c2, M)) 0) (hm : (Gc G).maxLocals = 3) (hf : f_X5_reaches_25 M x1 t0 = some o) : V (wD Z a) Z G 0 25 [none, some (.int x1), none] [.int t0] (c1, c2, M) := by
  unfold f_X5_reaches_25 at hf
  refine V_istore2 C (pc := 25) dX5_reaches_25 (by rw [hm]; decide) ?_
  refine V_iload1 C (pc := 26) dX5_reaches_26 ?_
  refine V_iload2 C (pc := 27) dX5_reaches_27 ?_
  refine V_iand C (pc := 28) dX5_reaches_28 ?_
  refine V_iload2 C (pc := 29) dX5_reaches_29 ?_
  refine V_icmp_ne C (pc := 30) (tgt := 37) dX5_reaches_30 (by decide) hf (fun hf => ?_) (fun hf => ?_)
  · refine V_iconst C (pc := 37) (v := (0 : Int32)) (by decide) dX5_reaches_37 ?_
    exact V_zret C (pc := 38) rfl (Nat.le_refl 0) (by decide) dX5_reaches_38 ⟨hf, rfl⟩
  · refine V_iconst C (pc := 33) (v := (1 : Int32)) (by decide) dX5_reaches_33 ?_
    refine V_goto C (pc := 34) (tgt := 38) dX5_reaches_34 (by decide) ?_
    exact V_zret C (pc := 38) rfl (Nat.le_refl 0) (by decide) dX5_reaches_38 ⟨hf, rfl⟩
def f_X5_reaches (M : Mm) (x1 : Int32) : Option Int32 := (if (gI M 9) = 0 then (f_X5_reaches_25 M x1 ((((1 : Int32) <<< ((gI M 7) &&& 31)) - (1 : Int32)) <<< ((9 : Int32) &&& 31))) else (f_X5_reaches_25 M x1 (gI M 8)))
set_option maxRecDepth 100000 in
set_option maxHeartbeats 4000000 in
theorem t_X5_reaches {Z : Zz} {G : Gm} {a : Nat → Nat} {o : Int32} {c1 c2 : Nat} {M : Mm} {x1 : Int32} (C : CX (wD Z a) Z nE G cX5_reaches RX5 0 (some .boolean) (PqR o (c1, c2, M)) 0) (hm : (Gc G).maxLocals = 3) (hf : f_X5_reaches M x1 = some o) : V (wD Z a) Z G 0 0 [some (.ref (a 2)), some (.int x1), none] [] (c1, c2, M) := by
  unfold f_X5_reaches at hf
  refine V_aload0 C (pc := 0) dX5_reaches_0 ?_
  refine gf_RX5_46 C (pc := 1) dX5_reaches_1 ?_
  refine V_if_eq C (pc := 4) (tgt := 14) dX5_reaches_4 (by decide) hf (fun hf => ?_) (fun hf => ?_)
  · refine V_iconst C (pc := 14) (v := (1 : Int32)) (by decide) dX5_reaches_14 ?_
    refine V_aload0 C (pc := 15) dX5_reaches_15 ?_
    refine gf_RX5_37 C (pc := 16) dX5_reaches_16 ?_
    refine V_ishl C (pc := 19) dX5_reaches_19 ?_
    refine V_iconst C (pc := 20) (v := (1 : Int32)) (by decide) dX5_reaches_20 ?_
    refine V_isub C (pc := 21) dX5_reaches_21 ?_
    refine V_bipush C (pc := 22) (v := (9 : Int32)) (by decide) dX5_reaches_22 ?_
    refine V_ishl C (pc := 24) dX5_reaches_24 ?_
    exact V.mono [false, true, false] rfl (t_X5_reaches_25 C hm hf)
  · refine V_aload0 C (pc := 7) dX5_reaches_7 ?_
    refine gf_RX5_43 C (pc := 8) dX5_reaches_8 ?_
    refine V_goto C (pc := 11) (tgt := 25) dX5_reaches_11 (by decide) ?_
    exact V.mono [false, true, false] rfl (t_X5_reaches_25 C hm hf)
set_option maxRecDepth 100000 in
theorem c_X5_reaches {Z : Zz} {a : Nat → Nat} {c1 c2 : Nat} {M : Mm} {x1 : Int32} {r0 : Int32} (hf : f_X5_reaches M x1 = some r0) : CtI (wD Z a) Z nE yX5_reaches cX5_reaches 3 (some .boolean) 0 0 [.ref (a 2), .int x1] (c1, c2, M) (PqR r0 (c1, c2, M)) := CtI_of (by decide +kernel) (Or.inr rfl) (List.forall_mem_cons.mpr ⟨rfl, List.forall_mem_cons.mpr ⟨rfl, fun _ h9 => nomatch h9⟩⟩) (Nat.le_of_ble_eq_true rfl) (fun G C hm => t_X5_reaches (o := r0) C hm hf)
def f_X5_freshBit (x0 : Int32) : Option Int32 := (some (((1 : Int32) <<< ((x0 >>> ((12 : Int32) &&& 31)) &&& 31)) >>> ((1 : Int32) &&& 31)))
set_option maxRecDepth 100000 in
set_option maxHeartbeats 4000000 in
theorem t_X5_freshBit {Z : Zz} {G : Gm} {ws : va_W} {o : Int32} {x0 : Int32} (C : CX (fun _ : Unit => ws) Z tE G cX5_freshBit RX5 0 (some .int) (PqR o ()) 0) (hm : (Gc G).maxLocals = 1) (hf : f_X5_freshBit x0 = some o) : V (fun _ : Unit => ws) Z G 0 0 [some (.int x0)] [] () := by
  unfold f_X5_freshBit at hf
  refine V_iconst C (pc := 0) (v := (1 : Int32)) (by decide) dX5_freshBit_0 ?_
  refine V_iload0 C (pc := 1) dX5_freshBit_1 ?_
  refine V_bipush C (pc := 2) (v := (12 : Int32)) (by decide) dX5_freshBit_2 ?_
  refine V_ishr C (pc := 4) dX5_freshBit_4 ?_
  refine V_ishl C (pc := 5) dX5_freshBit_5 ?_
  refine V_iconst C (pc := 6) (v := (1 : Int32)) (by decide) dX5_freshBit_6 ?_
  refine V_ishr C (pc := 7) dX5_freshBit_7 ?_
  exact V_iret C (pc := 8) rfl (Nat.le_refl 0) dX5_freshBit_8 ⟨hf, rfl⟩
set_option maxRecDepth 100000 in
theorem c_X5_freshBit {Z : Zz} {ws : va_W} {x0 : Int32} {r0 : Int32} (hf : f_X5_freshBit x0 = some r0) : CtI (fun _ : Unit => ws) Z tE yX5_freshBit cX5_freshBit 1 (some .int) 0 0 [.int x0] () (PqR r0 ()) := CtI_of (by decide +kernel) (Or.inl rfl) (List.forall_mem_cons.mpr ⟨rfl, fun _ h9 => nomatch h9⟩) (Nat.le_of_ble_eq_true rfl) (fun G C hm => t_X5_freshBit (o := r0) C hm hf)
def f_X5_filledBy (M : Mm) (x1 : Int32) (x2 : Int32) : Option Int32 := (bd (f_X5_freshBit x2) (fun r5 => (bd (f_J6_bitCount_0f7a4 x1) (fun r11 => (bd (f_J6_bitCount_0f7a4 (x1 &&& ((gI M 5) ||| r5))) (fun r17 => (some (r11 + r17))))))))
set_option maxRecDepth 100000 in
set_option maxHeartbeats 4000000 in
theorem t_X5_filledBy {Z : Zz} {G : Gm} {a : Nat → Nat} {o : Int32} {c1 c2 : Nat} {M : Mm} {x1 x2 : Int32} (C : CX (wD Z a) Z nE G cX5_filledBy RX5 1 (some .int) (PqR o (c1, c2, M)) 0) (hm : (Gc G).maxLocals = 4) (hf : f_X5_filledBy M x1 x2 = some o) : V (wD Z a) Z G 0 0 [some (.ref (a 2)), some (.int x1), some (.int x2), none] [] (c1, c2, M) := by
  unfold f_X5_filledBy at hf
  refine V_aload0 C (pc := 0) dX5_filledBy_0 ?_
  refine gf_RX5_31 C (pc := 1) dX5_filledBy_1 ?_
  refine V_iload2 C (pc := 4) dX5_filledBy_4 ?_
  refine V_cS C (pc := 5) (dep2 := 0) (As := [.int x2]) (rest := [.int (gI M 5)]) (fun r0 h0 => c_X5_freshBit h0) lb_X5_freshBit lk_RX5_67 (by decide) (Nat.le_refl 0) rfl rfl (Nat.le_of_ble_eq_true rfl) dX5_filledBy_5 hf (fun r5 hf => ?_)
  refine V_ior C (pc := 8) dX5_filledBy_8 ?_
  refine V_istore3 C (pc := 9) dX5_filledBy_9 (by rw [hm]; decide) ?_
  refine V_iload1 C (pc := 10) dX5_filledBy_10 ?_
  refine V_cS C (pc := 11) (dep2 := 0) (As := [.int x1]) (rest := []) (fun r0 h0 => c_J6_bitCount_0f7a4 h0) lb_J6_bitCount_0f7a4 lk_RX5_70 (by decide) (Nat.le_refl 0) rfl rfl (Nat.le_of_ble_eq_true rfl) dX5_filledBy_11 hf (fun r11 hf => ?_)
  refine V_iload1 C (pc := 14) dX5_filledBy_14 ?_
  refine V_iload3 C (pc := 15) dX5_filledBy_15 ?_
  refine V_iand C (pc := 16) dX5_filledBy_16 ?_
  refine V_cS C (pc := 17) (dep2 := 0) (As := [.int (x1 &&& ((gI M 5) ||| r5))]) (rest := [.int r11]) (fun r0 h0 => c_J6_bitCount_0f7a4 h0) lb_J6_bitCount_0f7a4 lk_RX5_70 (by decide) (Nat.le_refl 0) rfl rfl (Nat.le_of_ble_eq_true rfl) dX5_filledBy_17 hf (fun r17 hf => ?_)
  refine V_iadd C (pc := 20) dX5_filledBy_20 ?_
  exact V_iret C (pc := 21) rfl (Nat.le_refl 0) dX5_filledBy_21 ⟨hf, rfl⟩
set_option maxRecDepth 100000 in
theorem c_X5_filledBy {Z : Zz} {a : Nat → Nat} {c1 c2 : Nat} {M : Mm} {x1 x2 : Int32} {r0 : Int32} (hf : f_X5_filledBy M x1 x2 = some r0) : CtI (wD Z a) Z nE yX5_filledBy cX5_filledBy 4 (some .int) 1 0 [.ref (a 2), .int x1, .int x2] (c1, c2, M) (PqR r0 (c1, c2, M)) := CtI_of (by decide +kernel) (Or.inl rfl) (List.forall_mem_cons.mpr ⟨rfl, List.forall_mem_cons.mpr ⟨rfl, List.forall_mem_cons.mpr ⟨rfl, fun _ h9 => nomatch h9⟩⟩⟩) (Nat.le_of_ble_eq_true rfl) (fun G C hm => t_X5_filledBy (o := r0) C hm hf)
def f_X5_hindrance_105 (M : Mm) (x2 : Int32) (x3 : Int32) (x6 : Int32) (t0 : Int32) : Option Int32 := (bd (f_X5_filledBy M x6 x2) (fun r112 => (if t0 ≤ (x3 - r112) then (some (0 : Int32)) else (some (5 : Int32)))))
set_option maxRecDepth 100000 in
set_option maxHeartbeats 4000000 in
theorem t_X5_hindrance_105 {Z : Zz} {G : Gm} {a : Nat → Nat} {o : Int32} {c1 c2 : Nat} {M : Mm} {x2 x3 x6 t0 : Int32} (C : CX (wD Z a) Z nE G cX5_hindrance RX5 2 (some .int) (PqR o (c1, c2, M)) 0) (hm : (Gc G).maxLocals = 8) (hf : f_X5_hindrance_105 M x2 x3 x6 t0 = some o) : V (wD Z a) Z G 0 105 [some (.ref (a 2)), none, some (.int x2), some (.int x3), none, none, some (.int x6), none] [.int t0] (c1, c2, M) := by
  unfold f_X5_hindrance_105 at hf
  refine V_istore7 C (pc := 105) dX5_hindrance_105 (by rw [hm]; decide) ?_
  refine V_iload3 C (pc := 107) dX5_hindrance_107 ?_
  refine V_aload0 C (pc := 108) dX5_hindrance_108 ?_
  refine V_iload6 C (pc := 109) dX5_hindrance_109 ?_
  refine V_iload2 C (pc := 111) dX5_hindrance_111 ?_
  refine V_cR C (pc := 112) (dep2 := 1) (As := [.int x6, .int x2]) (rest := [.int x3]) (fun r0 h0 => c_X5_filledBy h0) lb_X5_filledBy lk_RX5_63 wm_n (by decide) (Nat.le_refl 0) 2 5 rfl rfl rfl rfl (Nat.le_of_ble_eq_true rfl) dX5_hindrance_112 hf (fun r112 hf => ?_)
  refine V_isub C (pc := 115) dX5_hindrance_115 ?_
  refine V_iload7 C (pc := 116) dX5_hindrance_116 ?_
  refine V_icmp_ge C (pc := 118) (tgt := 125) dX5_hindrance_118 (by decide) hf (fun hf => ?_) (fun hf => ?_)
  · refine V_iconst C (pc := 125) (v := (0 : Int32)) (by decide) dX5_hindrance_125 ?_
    exact V_iret C (pc := 126) rfl (Nat.le_refl 0) dX5_hindrance_126 ⟨hf, rfl⟩
  · refine V_iconst C (pc := 121) (v := (5 : Int32)) (by decide) dX5_hindrance_121 ?_
    refine V_goto C (pc := 122) (tgt := 126) dX5_hindrance_122 (by decide) ?_
    exact V_iret C (pc := 126) rfl (Nat.le_refl 0) dX5_hindrance_126 ⟨hf, rfl⟩
def f_X5_hindrance_85 (M : Mm) (x2 : Int32) (x3 : Int32) (x5 : Int32) (x6 : Int32) : Option Int32 := (if (((gI M 5) ||| (gI M 6)) &&& x5) = 0 then (f_X5_hindrance_105 M x2 x3 x6 (1 : Int32)) else (f_X5_hindrance_105 M x2 x3 x6 (2 : Int32)))
set_option maxRecDepth 100000 in
set_option maxHeartbeats 4000000 in
theorem t_X5_hindrance_85 {Z : Zz} {G : Gm} {a : Nat → Nat} {o : Int32} {c1 c2 : Nat} {M : Mm} {x2 x3 x5 x6 : Int32} (C : CX (wD Z a) Z nE G cX5_hindrance RX5 2 (some .int) (PqR o (c1, c2, M)) 0) (hm : (Gc G).maxLocals = 8) (hf : f_X5_hindrance_85 M x2 x3 x5 x6 = some o) : V (wD Z a) Z G 0 85 [some (.ref (a 2)), none, some (.int x2), some (.int x3), none, some (.int x5), some (.int x6), none] [] (c1, c2, M) := by
  unfold f_X5_hindrance_85 at hf
  refine V_aload0 C (pc := 85) dX5_hindrance_85 ?_
  refine gf_RX5_31 C (pc := 86) dX5_hindrance_86 ?_
  refine V_aload0 C (pc := 89) dX5_hindrance_89 ?_
  refine gf_RX5_34 C (pc := 90) dX5_hindrance_90 ?_
  refine V_ior C (pc := 93) dX5_hindrance_93 ?_
  refine V_iload5 C (pc := 94) dX5_hindrance_94 ?_
  refine V_iand C (pc := 96) dX5_hindrance_96 ?_
  refine V_if_eq C (pc := 97) (tgt := 104) dX5_hindrance_97 (by decide) hf (fun hf => ?_) (fun hf => ?_)
  · refine V_iconst C (pc := 104) (v := (1 : Int32)) (by decide) dX5_hindrance_104 ?_
    exact V.mono [true, false, true, true, false, false, true, false] rfl (t_X5_hindrance_105 C hm hf)
  · refine V_iconst C (pc := 100) (v := (2 : Int32)) (by decide) dX5_hindrance_100 ?_
    refine V_goto C (pc := 101) (tgt := 105) dX5_hindrance_101 (by decide) ?_
    exact V.mono [true, false, true, true, false, false, true, false] rfl (t_X5_hindrance_105 C hm hf)
def f_X5_hindrance (M : Mm) (x1 : Int32) (x2 : Int32) (x3 : Int32) : Option Int32 := (if ((gI M 3) &&& ((1 : Int32) <<< (x1 &&& 31))) = 0 then (some (1 : Int32)) else (if ((x2 &&& (511 : Int32)) &&& ((1 : Int32) <<< (x1 &&& 31))) = 0 then (if inb x1 9 then (if ((gA M 12 x1) &&& ((x2 &&& (511 : Int32)) ^^^ (-1 : Int32))) = 0 then (if inb x1 9 then (if ((gI M 4) &&& ((1 : Int32) <<< (x1 &&& 31))) = 0 then (f_X5_hindrance_85 M x2 x3 ((1 : Int32) <<< (x1 &&& 31)) ((x2 &&& (511 : Int32)) &&& ((gA M 13 x1) ^^^ (-1 : Int32)))) else (if ((gI M 4) &&& ((x2 &&& (511 : Int32)) &&& ((gA M 13 x1) ^^^ (-1 : Int32)))) = 0 then (f_X5_hindrance_85 M x2 x3 ((1 : Int32) <<< (x1 &&& 31)) ((x2 &&& (511 : Int32)) &&& ((gA M 13 x1) ^^^ (-1 : Int32)))) else (some (4 : Int32)))) else none) else (some (3 : Int32))) else none) else (some (2 : Int32))))
set_option maxRecDepth 100000 in
set_option maxHeartbeats 4000000 in
theorem t_X5_hindrance {Z : Zz} {G : Gm} {a : Nat → Nat} {o : Int32} {c1 c2 : Nat} {M : Mm} {x1 x2 x3 : Int32} (C : CX (wD Z a) Z nE G cX5_hindrance RX5 2 (some .int) (PqR o (c1, c2, M)) 0) (hm : (Gc G).maxLocals = 8) (hf : f_X5_hindrance M x1 x2 x3 = some o) : V (wD Z a) Z G 0 0 [some (.ref (a 2)), some (.int x1), some (.int x2), some (.int x3), none, none, none, none] [] (c1, c2, M) := by
  unfold f_X5_hindrance at hf
  refine V_iload2 C (pc := 0) dX5_hindrance_0 ?_
  refine V_sipush C (pc := 1) (v := (511 : Int32)) (by decide) dX5_hindrance_1 ?_
  refine V_iand C (pc := 4) dX5_hindrance_4 ?_
  refine V_istore4 C (pc := 5) dX5_hindrance_5 (by rw [hm]; decide) ?_
  refine V_iconst C (pc := 7) (v := (1 : Int32)) (by decide) dX5_hindrance_7 ?_
  refine V_iload1 C (pc := 8) dX5_hindrance_8 ?_
  refine V_ishl C (pc := 9) dX5_hindrance_9 ?_
  refine V_istore5 C (pc := 10) dX5_hindrance_10 (by rw [hm]; decide) ?_
  refine V_aload0 C (pc := 12) dX5_hindrance_12 ?_
  refine gf_RX5_25 C (pc := 13) dX5_hindrance_13 ?_
  refine V_iload5 C (pc := 16) dX5_hindrance_16 ?_
  refine V_iand C (pc := 18) dX5_hindrance_18 ?_
  refine V_if_ne C (pc := 19) (tgt := 24) dX5_hindrance_19 (by decide) hf (fun hf => ?_) (fun hf => ?_)
  · refine V_iload4 C (pc := 24) dX5_hindrance_24 ?_
    refine V_iload5 C (pc := 26) dX5_hindrance_26 ?_
    refine V_iand C (pc := 28) dX5_hindrance_28 ?_
    refine V_if_eq C (pc := 29) (tgt := 34) dX5_hindrance_29 (by decide) hf (fun hf => ?_) (fun hf => ?_)
    · refine V_aload0 C (pc := 34) dX5_hindrance_34 ?_
      refine gf_RX5_19 C (pc := 35) dX5_hindrance_35 ?_
      refine V_iload1 C (pc := 38) dX5_hindrance_38 ?_
      refine alD_12 C (pc := 39) dX5_hindrance_39 hf (fun hf => ?_)
      refine V_iload4 C (pc := 40) dX5_hindrance_40 ?_
      refine V_iconst C (pc := 42) (v := (-1 : Int32)) (by decide) dX5_hindrance_42 ?_
      refine V_ixor C (pc := 43) dX5_hindrance_43 ?_
      refine V_iand C (pc := 44) dX5_hindrance_44 ?_
      refine V_if_eq C (pc := 45) (tgt := 50) dX5_hindrance_45 (by decide) hf (fun hf => ?_) (fun hf => ?_)
      · refine V_iload4 C (pc := 50) dX5_hindrance_50 ?_
        refine V_aload0 C (pc := 52) dX5_hindrance_52 ?_
        refine gf_RX5_22 C (pc := 53) dX5_hindrance_53 ?_
        refine V_iload1 C (pc := 56) dX5_hindrance_56 ?_
        refine alD_13 C (pc := 57) dX5_hindrance_57 hf (fun hf => ?_)
        refine V_iconst C (pc := 58) (v := (-1 : Int32)) (by decide) dX5_hindrance_58 ?_
        refine V_ixor C (pc := 59) dX5_hindrance_59 ?_
        refine V_iand C (pc := 60) dX5_hindrance_60 ?_
        refine V_istore6 C (pc := 61) dX5_hindrance_61 (by rw [hm]; decide) ?_
        refine V_aload0 C (pc := 63) dX5_hindrance_63 ?_
        refine gf_RX5_28 C (pc := 64) dX5_hindrance_64 ?_
        refine V_iload5 C (pc := 67) dX5_hindrance_67 ?_
        refine V_iand C (pc := 69) dX5_hindrance_69 ?_
        refine V_if_eq C (pc := 70) (tgt := 85) dX5_hindrance_70 (by decide) hf (fun hf => ?_) (fun hf => ?_)
        · exact V.mono [true, false, true, true, false, true, true, false] rfl (t_X5_hindrance_85 C hm hf)
        · refine V_aload0 C (pc := 73) dX5_hindrance_73 ?_
          refine gf_RX5_28 C (pc := 74) dX5_hindrance_74 ?_
          refine V_iload6 C (pc := 77) dX5_hindrance_77 ?_
          refine V_iand C (pc := 79) dX5_hindrance_79 ?_
          refine V_if_eq C (pc := 80) (tgt := 85) dX5_hindrance_80 (by decide) hf (fun hf => ?_) (fun hf => ?_)
          · exact V.mono [true, false, true, true, false, true, true, false] rfl (t_X5_hindrance_85 C hm hf)
          · refine V_iconst C (pc := 83) (v := (4 : Int32)) (by decide) dX5_hindrance_83 ?_
            exact V_iret C (pc := 84) rfl (Nat.le_refl 0) dX5_hindrance_84 ⟨hf, rfl⟩
      · refine V_iconst C (pc := 48) (v := (3 : Int32)) (by decide) dX5_hindrance_48 ?_
        exact V_iret C (pc := 49) rfl (Nat.le_refl 0) dX5_hindrance_49 ⟨hf, rfl⟩
    · refine V_iconst C (pc := 32) (v := (2 : Int32)) (by decide) dX5_hindrance_32 ?_
      exact V_iret C (pc := 33) rfl (Nat.le_refl 0) dX5_hindrance_33 ⟨hf, rfl⟩
  · refine V_iconst C (pc := 22) (v := (1 : Int32)) (by decide) dX5_hindrance_22 ?_
    exact V_iret C (pc := 23) rfl (Nat.le_refl 0) dX5_hindrance_23 ⟨hf, rfl⟩
set_option maxRecDepth 100000 in
theorem c_X5_hindrance {Z : Zz} {a : Nat → Nat} {c1 c2 : Nat} {M : Mm} {x1 x2 x3 : Int32} {r0 : Int32} (hf : f_X5_hindrance M x1 x2 x3 = some r0) : CtI (wD Z a) Z nE yX5_hindrance cX5_hindrance 8 (some .int) 2 0 [.ref (a 2), .int x1, .int x2, .int x3] (c1, c2, M) (PqR r0 (c1, c2, M)) := CtI_of (by decide +kernel) (Or.inl rfl) (List.forall_mem_cons.mpr ⟨rfl, List.forall_mem_cons.mpr ⟨rfl, List.forall_mem_cons.mpr ⟨rfl, List.forall_mem_cons.mpr ⟨rfl, fun _ h9 => nomatch h9⟩⟩⟩⟩) (Nat.le_of_ble_eq_true rfl) (fun G C hm => t_X5_hindrance (o := r0) C hm hf)
def f_X5_whenMade_32 (M : Mm) (x1 : Int32) (x3 : Int32) (t0 : Int32) : Option Int32 := (some ((x3 ||| ((1 : Int32) <<< (x1 &&& 31))) ||| (t0 <<< ((12 : Int32) &&& 31))))
set_option maxRecDepth 100000 in
set_option maxHeartbeats 4000000 in
theorem t_X5_whenMade_32 {Z : Zz} {G : Gm} {a : Nat → Nat} {o : Int32} {c1 c2 : Nat} {M : Mm} {x1 x3 t0 : Int32} (C : CX (wD Z a) Z nE G cX5_whenMade RX5 0 (some .int) (PqR o (c1, c2, M)) 0) (hm : (Gc G).maxLocals = 5) (hf : f_X5_whenMade_32 M x1 x3 t0 = some o) : V (wD Z a) Z G 0 32 [none, some (.int x1), none, some (.int x3), none] [.int t0] (c1, c2, M) := by
  unfold f_X5_whenMade_32 at hf
  refine V_istore4 C (pc := 32) dX5_whenMade_32 (by rw [hm]; decide) ?_
  refine V_iload3 C (pc := 34) dX5_whenMade_34 ?_
  refine V_iconst C (pc := 35) (v := (1 : Int32)) (by decide) dX5_whenMade_35 ?_
  refine V_iload1 C (pc := 36) dX5_whenMade_36 ?_
  refine V_ishl C (pc := 37) dX5_whenMade_37 ?_
  refine V_ior C (pc := 38) dX5_whenMade_38 ?_
  refine V_iload4 C (pc := 39) dX5_whenMade_39 ?_
  refine V_bipush C (pc := 41) (v := (12 : Int32)) (by decide) dX5_whenMade_41 ?_
  refine V_ishl C (pc := 43) dX5_whenMade_43 ?_
  refine V_ior C (pc := 44) dX5_whenMade_44 ?_
  exact V_iret C (pc := 45) rfl (Nat.le_refl 0) dX5_whenMade_45 ⟨hf, rfl⟩
def f_X5_whenMade (M : Mm) (x1 : Int32) (x2 : Int32) : Option Int32 := (if inb x1 9 then (if inb x1 9 then (if (gA M 11 x1) = (4 : Int32) then (f_X5_whenMade_32 M x1 ((x2 &&& ((gA M 13 x1) ^^^ (-1 : Int32))) &&& (4095 : Int32)) (x1 + (1 : Int32))) else (f_X5_whenMade_32 M x1 ((x2 &&& ((gA M 13 x1) ^^^ (-1 : Int32))) &&& (4095 : Int32)) (0 : Int32))) else none) else none)
set_option maxRecDepth 100000 in
set_option maxHeartbeats 4000000 in
theorem t_X5_whenMade {Z : Zz} {G : Gm} {a : Nat → Nat} {o : Int32} {c1 c2 : Nat} {M : Mm} {x1 x2 : Int32} (C : CX (wD Z a) Z nE G cX5_whenMade RX5 0 (some .int) (PqR o (c1, c2, M)) 0) (hm : (Gc G).maxLocals = 5) (hf : f_X5_whenMade M x1 x2 = some o) : V (wD Z a) Z G 0 0 [some (.ref (a 2)), some (.int x1), some (.int x2), none, none] [] (c1, c2, M) := by
  unfold f_X5_whenMade at hf
  refine V_iload2 C (pc := 0) dX5_whenMade_0 ?_
  refine V_aload0 C (pc := 1) dX5_whenMade_1 ?_
  refine gf_RX5_22 C (pc := 2) dX5_whenMade_2 ?_
  refine V_iload1 C (pc := 5) dX5_whenMade_5 ?_
  refine alD_13 C (pc := 6) dX5_whenMade_6 hf (fun hf => ?_)
  refine V_iconst C (pc := 7) (v := (-1 : Int32)) (by decide) dX5_whenMade_7 ?_
  refine V_ixor C (pc := 8) dX5_whenMade_8 ?_
  refine V_iand C (pc := 9) dX5_whenMade_9 ?_
  refine V_sipush C (pc := 10) (v := (4095 : Int32)) (by decide) dX5_whenMade_10 ?_
  refine V_iand C (pc := 13) dX5_whenMade_13 ?_
  refine V_istore3 C (pc := 14) dX5_whenMade_14 (by rw [hm]; decide) ?_
  refine V_aload0 C (pc := 15) dX5_whenMade_15 ?_
  refine gf_RX5_15 C (pc := 16) dX5_whenMade_16 ?_
  refine V_iload1 C (pc := 19) dX5_whenMade_19 ?_
  refine alD_11 C (pc := 20) dX5_whenMade_20 hf (fun hf => ?_)
  refine V_iconst C (pc := 21) (v := (4 : Int32)) (by decide) dX5_whenMade_21 ?_
  refine V_icmp_ne C (pc := 22) (tgt := 31) dX5_whenMade_22 (by decide) hf (fun hf => ?_) (fun hf => ?_)
  · refine V_iconst C (pc := 31) (v := (0 : Int32)) (by decide) dX5_whenMade_31 ?_
    exact V.mono [false, true, false, true, false] rfl (t_X5_whenMade_32 C hm hf)
  · refine V_iload1 C (pc := 25) dX5_whenMade_25 ?_
    refine V_iconst C (pc := 26) (v := (1 : Int32)) (by decide) dX5_whenMade_26 ?_
    refine V_iadd C (pc := 27) dX5_whenMade_27 ?_
    refine V_goto C (pc := 28) (tgt := 32) dX5_whenMade_28 (by decide) ?_
    exact V.mono [false, true, false, true, false] rfl (t_X5_whenMade_32 C hm hf)
set_option maxRecDepth 100000 in
theorem c_X5_whenMade {Z : Zz} {a : Nat → Nat} {c1 c2 : Nat} {M : Mm} {x1 x2 : Int32} {r0 : Int32} (hf : f_X5_whenMade M x1 x2 = some r0) : CtI (wD Z a) Z nE yX5_whenMade cX5_whenMade 5 (some .int) 0 0 [.ref (a 2), .int x1, .int x2] (c1, c2, M) (PqR r0 (c1, c2, M)) := CtI_of (by decide +kernel) (Or.inl rfl) (List.forall_mem_cons.mpr ⟨rfl, List.forall_mem_cons.mpr ⟨rfl, List.forall_mem_cons.mpr ⟨rfl, fun _ h9 => nomatch h9⟩⟩⟩) (Nat.le_of_ble_eq_true rfl) (fun G C hm => t_X5_whenMade (o := r0) C hm hf)
def f_X5_stands (x0 : Int32) (x1 : Int32) : Option Int32 := (if (x1 &&& ((1 : Int32) <<< (x0 &&& 31))) = 0 then (some (0 : Int32)) else (some (1 : Int32)))
set_option maxRecDepth 100000 in
set_option maxHeartbeats 4000000 in
theorem t_X5_stands {Z : Zz} {G : Gm} {ws : va_W} {o : Int32} {x0 x1 : Int32} (C : CX (fun _ : Unit => ws) Z tE G cX5_stands RX5 0 (some .boolean) (PqR o ()) 0) (hm : (Gc G).maxLocals = 2) (hf : f_X5_stands x0 x1 = some o) : V (fun _ : Unit => ws) Z G 0 0 [some (.int x0), some (.int x1)] [] () := by
  unfold f_X5_stands at hf
  refine V_iload1 C (pc := 0) dX5_stands_0 ?_
  refine V_iconst C (pc := 1) (v := (1 : Int32)) (by decide) dX5_stands_1 ?_
  refine V_iload0 C (pc := 2) dX5_stands_2 ?_
  refine V_ishl C (pc := 3) dX5_stands_3 ?_
  refine V_iand C (pc := 4) dX5_stands_4 ?_
  refine V_if_eq C (pc := 5) (tgt := 12) dX5_stands_5 (by decide) hf (fun hf => ?_) (fun hf => ?_)
  · refine V_iconst C (pc := 12) (v := (0 : Int32)) (by decide) dX5_stands_12 ?_
    exact V_zret C (pc := 13) rfl (Nat.le_refl 0) (by decide) dX5_stands_13 ⟨hf, rfl⟩
  · refine V_iconst C (pc := 8) (v := (1 : Int32)) (by decide) dX5_stands_8 ?_
    refine V_goto C (pc := 9) (tgt := 13) dX5_stands_9 (by decide) ?_
    exact V_zret C (pc := 13) rfl (Nat.le_refl 0) (by decide) dX5_stands_13 ⟨hf, rfl⟩
set_option maxRecDepth 100000 in
theorem c_X5_stands {Z : Zz} {ws : va_W} {x0 x1 : Int32} {r0 : Int32} (hf : f_X5_stands x0 x1 = some r0) : CtI (fun _ : Unit => ws) Z tE yX5_stands cX5_stands 2 (some .boolean) 0 0 [.int x0, .int x1] () (PqR r0 ()) := CtI_of (by decide +kernel) (Or.inr rfl) (List.forall_mem_cons.mpr ⟨rfl, List.forall_mem_cons.mpr ⟨rfl, fun _ h9 => nomatch h9⟩⟩) (Nat.le_of_ble_eq_true rfl) (fun G C hm => t_X5_stands (o := r0) C hm hf)
def f_X5_withStood_22 (N : Nat) (M : Mm) : Nat → Int32 → Int32 → Int32 → Option Int32
  | 0, _, _, _ => none
  | n + 1, x1, x2, x3 => (if (gI M 7) ≤ x3 then (some x2) else (if inb x3 3 then (bd (f_X5_stands (gA M 14 x3) x1) (fun r37 => (if r37 = 0 then ((f_X5_withStood_22 N M n) x1 x2 (x3 + (1 : Int32))) else ((f_X5_withStood_22 N M n) x1 (x2 ||| ((1 : Int32) <<< (((9 : Int32) + x3) &&& 31))) (x3 + (1 : Int32)))))) else none))
set_option maxRecDepth 100000 in
set_option maxHeartbeats 4000000 in
theorem t_X5_withStood_22 {Z : Zz} {G : Gm} {a : Nat → Nat} {N : Nat} {o : Int32} {c1 c2 : Nat} {M : Mm} (C : CX (wD Z a) Z nE G cX5_withStood RX5 1 (some .int) (PqR o (c1, c2, M)) 0) (hm : (Gc G).maxLocals = 4) : ∀ (n : Nat) (x1 x2 x3 : Int32) , f_X5_withStood_22 N M n x1 x2 x3 = some o → V (wD Z a) Z G 0 22 [some (.ref (a 2)), some (.int x1), some (.int x2), some (.int x3)] [] (c1, c2, M) := by
  intro n
  induction n with
  | zero => intro x1 x2 x3 hf; rw [f_X5_withStood_22] at hf; cases hf
  | succ n ih =>
    intro x1 x2 x3 hf
    rw [f_X5_withStood_22] at hf
    refine V_iload3 C (pc := 22) dX5_withStood_22 ?_
    refine V_aload0 C (pc := 23) dX5_withStood_23 ?_
    refine gf_RX5_37 C (pc := 24) dX5_withStood_24 ?_
    refine V_icmp_ge C (pc := 27) (tgt := 58) dX5_withStood_27 (by decide) hf (fun hf => ?_) (fun hf => ?_)
    · refine V_iload2 C (pc := 58) dX5_withStood_58 ?_
      exact V_iret C (pc := 59) rfl (Nat.le_refl 0) dX5_withStood_59 ⟨hf, rfl⟩
    · refine V_aload0 C (pc := 30) dX5_withStood_30 ?_
      refine gf_RX5_40 C (pc := 31) dX5_withStood_31 ?_
      refine V_iload3 C (pc := 34) dX5_withStood_34 ?_
      refine alD_14 C (pc := 35) dX5_withStood_35 hf (fun hf => ?_)
      refine V_iload1 C (pc := 36) dX5_withStood_36 ?_
      refine V_cS C (pc := 37) (dep2 := 0) (As := [.int (gA M 14 x3), .int x1]) (rest := []) (fun r0 h0 => c_X5_stands h0) lb_X5_stands lk_RX5_85 (by decide) (Nat.le_refl 0) rfl rfl (Nat.le_of_ble_eq_true rfl) dX5_withStood_37 hf (fun r37 hf => ?_)
      refine V_if_eq C (pc := 40) (tgt := 52) dX5_withStood_40 (by decide) hf (fun hf => ?_) (fun hf => ?_)
      · refine V_iinc3 C (pc := 52) (c1 := (1 : Int32)) dX5_withStood_52 (by decide) (by rw [hm]; decide) ?_
        refine V_goto C (pc := 55) (tgt := 22) dX5_withStood_55 (by decide) ?_
        exact V.mono [true, true, true, true] rfl (ih _ _ _ hf)
      · refine V_iload2 C (pc := 43) dX5_withStood_43 ?_
        refine V_iconst C (pc := 44) (v := (1 : Int32)) (by decide) dX5_withStood_44 ?_
        refine V_bipush C (pc := 45) (v := (9 : Int32)) (by decide) dX5_withStood_45 ?_
        refine V_iload3 C (pc := 47) dX5_withStood_47 ?_
        refine V_iadd C (pc := 48) dX5_withStood_48 ?_
        refine V_ishl C (pc := 49) dX5_withStood_49 ?_
        refine V_ior C (pc := 50) dX5_withStood_50 ?_
        refine V_istore2 C (pc := 51) dX5_withStood_51 (by rw [hm]; decide) ?_
        refine V_iinc3 C (pc := 52) (c1 := (1 : Int32)) dX5_withStood_52 (by decide) (by rw [hm]; decide) ?_
        refine V_goto C (pc := 55) (tgt := 22) dX5_withStood_55 (by decide) ?_
        exact V.mono [true, true, true, true] rfl (ih _ _ _ hf)
def f_X5_withStood (N : Nat) (M : Mm) (x1 : Int32) : Option Int32 := (if (gI M 9) = 0 then (if (x1 &&& (gI M 8)) = 0 then (some x1) else (f_X5_withStood_22 N M N x1 x1 (0 : Int32))) else (some x1))
set_option maxRecDepth 100000 in
set_option maxHeartbeats 4000000 in
theorem t_X5_withStood {Z : Zz} {G : Gm} {a : Nat → Nat} {N : Nat} {o : Int32} {c1 c2 : Nat} {M : Mm} {x1 : Int32} (C : CX (wD Z a) Z nE G cX5_withStood RX5 1 (some .int) (PqR o (c1, c2, M)) 0) (hm : (Gc G).maxLocals = 4) (hf : f_X5_withStood N M x1 = some o) : V (wD Z a) Z G 0 0 [some (.ref (a 2)), some (.int x1), none, none] [] (c1, c2, M) := by
  unfold f_X5_withStood at hf
  refine V_aload0 C (pc := 0) dX5_withStood_0 ?_
  refine gf_RX5_46 C (pc := 1) dX5_withStood_1 ?_
  refine V_if_ne C (pc := 4) (tgt := 16) dX5_withStood_4 (by decide) hf (fun hf => ?_) (fun hf => ?_)
  · refine V_iload1 C (pc := 16) dX5_withStood_16 ?_
    exact V_iret C (pc := 17) rfl (Nat.le_refl 0) dX5_withStood_17 ⟨hf, rfl⟩
  · refine V_iload1 C (pc := 7) dX5_withStood_7 ?_
    refine V_aload0 C (pc := 8) dX5_withStood_8 ?_
    refine gf_RX5_43 C (pc := 9) dX5_withStood_9 ?_
    refine V_iand C (pc := 12) dX5_withStood_12 ?_
    refine V_if_ne C (pc := 13) (tgt := 18) dX5_withStood_13 (by decide) hf (fun hf => ?_) (fun hf => ?_)
    · refine V_iload1 C (pc := 18) dX5_withStood_18 ?_
      refine V_istore2 C (pc := 19) dX5_withStood_19 (by rw [hm]; decide) ?_
      refine V_iconst C (pc := 20) (v := (0 : Int32)) (by decide) dX5_withStood_20 ?_
      refine V_istore3 C (pc := 21) dX5_withStood_21 (by rw [hm]; decide) ?_
      exact V.mono [true, true, true, true] rfl (t_X5_withStood_22 C hm N _ _ _ hf)
    · refine V_iload1 C (pc := 16) dX5_withStood_16 ?_
      exact V_iret C (pc := 17) rfl (Nat.le_refl 0) dX5_withStood_17 ⟨hf, rfl⟩
set_option maxRecDepth 100000 in
theorem c_X5_withStood {Z : Zz} {a : Nat → Nat} {N : Nat} {c1 c2 : Nat} {M : Mm} {x1 : Int32} {r0 : Int32} (hf : f_X5_withStood N M x1 = some r0) : CtI (wD Z a) Z nE yX5_withStood cX5_withStood 4 (some .int) 1 0 [.ref (a 2), .int x1] (c1, c2, M) (PqR r0 (c1, c2, M)) := CtI_of (by decide +kernel) (Or.inl rfl) (List.forall_mem_cons.mpr ⟨rfl, List.forall_mem_cons.mpr ⟨rfl, fun _ h9 => nomatch h9⟩⟩) (Nat.le_of_ble_eq_true rfl) (fun G C hm => t_X5_withStood (o := r0) C hm hf)
def f_X5_whenPoured (x0 : Int32) (x1 : Int32) : Option Int32 := (bd (f_X5_freshBit x1) (fun r9 => (if r9 = ((1 : Int32) <<< (x0 &&& 31)) then (some ((x1 &&& (((1 : Int32) <<< (x0 &&& 31)) ^^^ (-1 : Int32))) &&& (4095 : Int32))) else (some (x1 &&& (((1 : Int32) <<< (x0 &&& 31)) ^^^ (-1 : Int32)))))))
set_option maxRecDepth 100000 in
set_option maxHeartbeats 4000000 in
theorem t_X5_whenPoured {Z : Zz} {G : Gm} {ws : va_W} {o : Int32} {x0 x1 : Int32} (C : CX (fun _ : Unit => ws) Z tE G cX5_whenPoured RX5 1 (some .int) (PqR o ()) 0) (hm : (Gc G).maxLocals = 3) (hf : f_X5_whenPoured x0 x1 = some o) : V (fun _ : Unit => ws) Z G 0 0 [some (.int x0), some (.int x1), none] [] () := by
  unfold f_X5_whenPoured at hf
  refine V_iload1 C (pc := 0) dX5_whenPoured_0 ?_
  refine V_iconst C (pc := 1) (v := (1 : Int32)) (by decide) dX5_whenPoured_1 ?_
  refine V_iload0 C (pc := 2) dX5_whenPoured_2 ?_
  refine V_ishl C (pc := 3) dX5_whenPoured_3 ?_
  refine V_iconst C (pc := 4) (v := (-1 : Int32)) (by decide) dX5_whenPoured_4 ?_
  refine V_ixor C (pc := 5) dX5_whenPoured_5 ?_
  refine V_iand C (pc := 6) dX5_whenPoured_6 ?_
  refine V_istore2 C (pc := 7) dX5_whenPoured_7 (by rw [hm]; decide) ?_
  refine V_iload1 C (pc := 8) dX5_whenPoured_8 ?_
  refine V_cSS C (pc := 9) (dep2 := 0) (As := [.int x1]) (rest := []) (fun r0 h0 => c_X5_freshBit h0) lb_X5_freshBit lk_RX5_67 (by decide) (Nat.le_refl 0) rfl rfl (Nat.le_of_ble_eq_true rfl) dX5_whenPoured_9 hf (fun r9 hf => ?_)
  refine V_iconst C (pc := 12) (v := (1 : Int32)) (by decide) dX5_whenPoured_12 ?_
  refine V_iload0 C (pc := 13) dX5_whenPoured_13 ?_
  refine V_ishl C (pc := 14) dX5_whenPoured_14 ?_
  refine V_icmp_ne C (pc := 15) (tgt := 26) dX5_whenPoured_15 (by decide) hf (fun hf => ?_) (fun hf => ?_)
  · refine V_iload2 C (pc := 26) dX5_whenPoured_26 ?_
    exact V_iret C (pc := 27) rfl (Nat.le_refl 0) dX5_whenPoured_27 ⟨hf, rfl⟩
  · refine V_iload2 C (pc := 18) dX5_whenPoured_18 ?_
    refine V_sipush C (pc := 19) (v := (4095 : Int32)) (by decide) dX5_whenPoured_19 ?_
    refine V_iand C (pc := 22) dX5_whenPoured_22 ?_
    refine V_goto C (pc := 23) (tgt := 27) dX5_whenPoured_23 (by decide) ?_
    exact V_iret C (pc := 27) rfl (Nat.le_refl 0) dX5_whenPoured_27 ⟨hf, rfl⟩
set_option maxRecDepth 100000 in
theorem c_X5_whenPoured {Z : Zz} {ws : va_W} {x0 x1 : Int32} {r0 : Int32} (hf : f_X5_whenPoured x0 x1 = some r0) : CtI (fun _ : Unit => ws) Z tE yX5_whenPoured cX5_whenPoured 3 (some .int) 1 0 [.int x0, .int x1] () (PqR r0 ()) := CtI_of (by decide +kernel) (Or.inl rfl) (List.forall_mem_cons.mpr ⟨rfl, List.forall_mem_cons.mpr ⟨rfl, fun _ h9 => nomatch h9⟩⟩) (Nat.le_of_ble_eq_true rfl) (fun G C hm => t_X5_whenPoured (o := r0) C hm hf)
def f_X5_lead (N : Nat) (M : Mm) (x1 : Int32) (x2 : Int32) (x3 : Int32) : Option Int32 := (if (9 : Int32) ≤ x2 then (bd (f_X5_stands (x2 - (9 : Int32)) x1) (fun r40 => (if r40 = 0 then (some (-1 : Int32)) else (bd (f_X5_whenPoured (x2 - (9 : Int32)) x1) (fun r50 => (bd (f_X5_withStood N M r50) (fun r53 => (some r53)))))))) else (bd (f_X5_hindrance M x2 x1 x3) (fun r10 => (if r10 = 0 then (bd (f_X5_whenMade M x2 x1) (fun r20 => (bd (f_X5_withStood N M r20) (fun r23 => (some r23))))) else (some (-1 : Int32))))))
set_option maxRecDepth 100000 in
set_option maxHeartbeats 4000000 in
theorem t_X5_lead {Z : Zz} {G : Gm} {a : Nat → Nat} {N : Nat} {o : Int32} {c1 c2 : Nat} {M : Mm} {x1 x2 x3 : Int32} (C : CX (wD Z a) Z nE G cX5_lead RX5 3 (some .int) (PqR o (c1, c2, M)) 0) (hm : (Gc G).maxLocals = 5) (hf : f_X5_lead N M x1 x2 x3 = some o) : V (wD Z a) Z G 0 0 [some (.ref (a 2)), some (.int x1), some (.int x2), some (.int x3), none] [] (c1, c2, M) := by
  unfold f_X5_lead at hf
  refine V_iload2 C (pc := 0) dX5_lead_0 ?_
  refine V_bipush C (pc := 1) (v := (9 : Int32)) (by decide) dX5_lead_1 ?_
  refine V_icmp_ge C (pc := 3) (tgt := 31) dX5_lead_3 (by decide) hf (fun hf => ?_) (fun hf => ?_)
  · refine V_iload2 C (pc := 31) dX5_lead_31 ?_
    refine V_bipush C (pc := 32) (v := (9 : Int32)) (by decide) dX5_lead_32 ?_
    refine V_isub C (pc := 34) dX5_lead_34 ?_
    refine V_istore4 C (pc := 35) dX5_lead_35 (by rw [hm]; decide) ?_
    refine V_iload4 C (pc := 37) dX5_lead_37 ?_
    refine V_iload1 C (pc := 39) dX5_lead_39 ?_
    refine V_cS C (pc := 40) (dep2 := 0) (As := [.int (x2 - (9 : Int32)), .int x1]) (rest := []) (fun r0 h0 => c_X5_stands h0) lb_X5_stands lk_RX5_85 (by decide) (Nat.le_refl 0) rfl rfl (Nat.le_of_ble_eq_true rfl) dX5_lead_40 hf (fun r40 hf => ?_)
    refine V_if_eq C (pc := 43) (tgt := 59) dX5_lead_43 (by decide) hf (fun hf => ?_) (fun hf => ?_)
    · refine V_iconst C (pc := 59) (v := (-1 : Int32)) (by decide) dX5_lead_59 ?_
      exact V_iret C (pc := 60) rfl (Nat.le_refl 0) dX5_lead_60 ⟨hf, rfl⟩
    · refine V_aload0 C (pc := 46) dX5_lead_46 ?_
      refine V_iload4 C (pc := 47) dX5_lead_47 ?_
      refine V_iload1 C (pc := 49) dX5_lead_49 ?_
      refine V_cS C (pc := 50) (dep2 := 1) (As := [.int (x2 - (9 : Int32)), .int x1]) (rest := [.ref (a 2)]) (fun r0 h0 => c_X5_whenPoured h0) lb_X5_whenPoured lk_RX5_89 (by decide) (Nat.le_refl 0) rfl rfl (Nat.le_of_ble_eq_true rfl) dX5_lead_50 hf (fun r50 hf => ?_)
      refine V_cR C (pc := 53) (dep2 := 1) (As := [.int r50]) (rest := []) (fun r0 h0 => c_X5_withStood h0) lb_X5_withStood lk_RX5_82 wm_n (by decide) (Nat.le_refl 0) 2 5 rfl rfl rfl rfl (Nat.le_of_ble_eq_true rfl) dX5_lead_53 hf (fun r53 hf => ?_)
      refine V_goto C (pc := 56) (tgt := 60) dX5_lead_56 (by decide) ?_
      exact V_iret C (pc := 60) rfl (Nat.le_refl 0) dX5_lead_60 ⟨hf, rfl⟩
  · refine V_aload0 C (pc := 6) dX5_lead_6 ?_
    refine V_iload2 C (pc := 7) dX5_lead_7 ?_
    refine V_iload1 C (pc := 8) dX5_lead_8 ?_
    refine V_iload3 C (pc := 9) dX5_lead_9 ?_
    refine V_cR C (pc := 10) (dep2 := 2) (As := [.int x2, .int x1, .int x3]) (rest := []) (fun r0 h0 => c_X5_hindrance h0) lb_X5_hindrance lk_RX5_75 wm_n (by decide) (Nat.le_refl 0) 2 5 rfl rfl rfl rfl (Nat.le_of_ble_eq_true rfl) dX5_lead_10 hf (fun r10 hf => ?_)
    refine V_if_ne C (pc := 13) (tgt := 29) dX5_lead_13 (by decide) hf (fun hf => ?_) (fun hf => ?_)
    · refine V_iconst C (pc := 29) (v := (-1 : Int32)) (by decide) dX5_lead_29 ?_
      exact V_iret C (pc := 30) rfl (Nat.le_refl 0) dX5_lead_30 ⟨hf, rfl⟩
    · refine V_aload0 C (pc := 16) dX5_lead_16 ?_
      refine V_aload0 C (pc := 17) dX5_lead_17 ?_
      refine V_iload2 C (pc := 18) dX5_lead_18 ?_
      refine V_iload1 C (pc := 19) dX5_lead_19 ?_
      refine V_cR C (pc := 20) (dep2 := 0) (As := [.int x2, .int x1]) (rest := [.ref (a 2)]) (fun r0 h0 => c_X5_whenMade h0) lb_X5_whenMade lk_RX5_79 wm_n (by decide) (Nat.le_refl 0) 2 5 rfl rfl rfl rfl (Nat.le_of_ble_eq_true rfl) dX5_lead_20 hf (fun r20 hf => ?_)
      refine V_cR C (pc := 23) (dep2 := 1) (As := [.int r20]) (rest := []) (fun r0 h0 => c_X5_withStood h0) lb_X5_withStood lk_RX5_82 wm_n (by decide) (Nat.le_refl 0) 2 5 rfl rfl rfl rfl (Nat.le_of_ble_eq_true rfl) dX5_lead_23 hf (fun r23 hf => ?_)
      refine V_goto C (pc := 26) (tgt := 30) dX5_lead_26 (by decide) ?_
      exact V_iret C (pc := 30) rfl (Nat.le_refl 0) dX5_lead_30 ⟨hf, rfl⟩
set_option maxRecDepth 100000 in
theorem c_X5_lead {Z : Zz} {a : Nat → Nat} {N : Nat} {c1 c2 : Nat} {M : Mm} {x1 x2 x3 : Int32} {r0 : Int32} (hf : f_X5_lead N M x1 x2 x3 = some r0) : CtI (wD Z a) Z nE yX5_lead cX5_lead 5 (some .int) 3 0 [.ref (a 2), .int x1, .int x2, .int x3] (c1, c2, M) (PqR r0 (c1, c2, M)) := CtI_of (by decide +kernel) (Or.inl rfl) (List.forall_mem_cons.mpr ⟨rfl, List.forall_mem_cons.mpr ⟨rfl, List.forall_mem_cons.mpr ⟨rfl, List.forall_mem_cons.mpr ⟨rfl, fun _ h9 => nomatch h9⟩⟩⟩⟩) (Nat.le_of_ble_eq_true rfl) (fun G C hm => t_X5_lead (o := r0) C hm hf)
def f_X1_firstActOn_32 (N : Nat) (M : Mm) (k2 : Int32 → Int32 → Int32 → Option Int32) (x1 : Int32) (x2 : Int32) (x3 : Int32) (x4 : Int32) (t0 : Int32) : Option Int32 := (if x4 = (-1 : Int32) then (k2 x1 x2 (x3 + (1 : Int32))) else (if inb x4 (gL M) then (if inb x1 (gL M) then (if (gA M 21 x4) = ((gA M 21 x1) + t0) then (some x3) else (k2 x1 x2 (x3 + (1 : Int32)))) else none) else none))
set_option maxRecDepth 100000 in
set_option maxHeartbeats 4000000 in
theorem t_X1_firstActOn_32 {Z : Zz} {G : Gm} {a : Nat → Nat} {N : Nat} {o : Int32} {c1 c2 : Nat} {M : Mm} {k2 : Int32 → Int32 → Int32 → Option Int32} {x1 x2 x3 x4 t0 : Int32} (C : CX (wD Z a) Z nE G cX1_firstActOn RX1 4 (some .int) (PqR o (c1, c2, M)) 0) (hm : (Gc G).maxLocals = 6) (hk2 : ∀ (x1 x2 x3 : Int32) , k2 x1 x2 x3 = some o → V (wD Z a) Z G 0 2 [some (.ref (a 5)), some (.int x1), some (.int x2), some (.int x3), none, none] [] (c1, c2, M)) (hf : f_X1_firstActOn_32 N M k2 x1 x2 x3 x4 t0 = some o) : V (wD Z a) Z G 0 32 [some (.ref (a 5)), some (.int x1), some (.int x2), some (.int x3), some (.int x4), none] [.int t0] (c1, c2, M) := by
  unfold f_X1_firstActOn_32 at hf
  refine V_istore5 C (pc := 32) dX1_firstActOn_32 (by rw [hm]; decide) ?_
  refine V_iload4 C (pc := 34) dX1_firstActOn_34 ?_
  refine V_iconst C (pc := 36) (v := (-1 : Int32)) (by decide) dX1_firstActOn_36 ?_
  refine V_icmp_eq C (pc := 37) (tgt := 61) dX1_firstActOn_37 (by decide) hf (fun hf => ?_) (fun hf => ?_)
  · refine V_iinc3 C (pc := 61) (c1 := (1 : Int32)) dX1_firstActOn_61 (by decide) (by rw [hm]; decide) ?_
    refine V_goto C (pc := 64) (tgt := 2) dX1_firstActOn_64 (by decide) ?_
    exact V.mono [true, true, true, true, false, false] rfl (hk2 _ _ _ hf)
  · refine V_aload0 C (pc := 40) dX1_firstActOn_40 ?_
    refine gf_RX1_18 C (pc := 41) dX1_firstActOn_41 ?_
    refine V_iload4 C (pc := 44) dX1_firstActOn_44 ?_
    refine alD_21 C (pc := 46) dX1_firstActOn_46 hf (fun hf => ?_)
    refine V_aload0 C (pc := 47) dX1_firstActOn_47 ?_
    refine gf_RX1_18 C (pc := 48) dX1_firstActOn_48 ?_
    refine V_iload1 C (pc := 51) dX1_firstActOn_51 ?_
    refine alD_21 C (pc := 52) dX1_firstActOn_52 hf (fun hf => ?_)
    refine V_iload5 C (pc := 53) dX1_firstActOn_53 ?_
    refine V_iadd C (pc := 55) dX1_firstActOn_55 ?_
    refine V_icmp_ne C (pc := 56) (tgt := 61) dX1_firstActOn_56 (by decide) hf (fun hf => ?_) (fun hf => ?_)
    · refine V_iinc3 C (pc := 61) (c1 := (1 : Int32)) dX1_firstActOn_61 (by decide) (by rw [hm]; decide) ?_
      refine V_goto C (pc := 64) (tgt := 2) dX1_firstActOn_64 (by decide) ?_
      exact V.mono [true, true, true, true, false, false] rfl (hk2 _ _ _ hf)
    · refine V_iload3 C (pc := 59) dX1_firstActOn_59 ?_
      exact V_iret C (pc := 60) rfl (Nat.le_refl 0) dX1_firstActOn_60 ⟨hf, rfl⟩
def f_X1_firstActOn_2 (N : Nat) (M : Mm) : Nat → Int32 → Int32 → Int32 → Option Int32
  | 0, _, _, _ => none
  | n + 1, x1, x2, x3 => (if (18 : Int32) ≤ x3 then (some (-1 : Int32)) else (bd (f_X5_lead N M x1 x3 x2) (fun r15 => (if (9 : Int32) ≤ x3 then (f_X1_firstActOn_32 N M (f_X1_firstActOn_2 N M n) x1 x2 x3 r15 (1 : Int32)) else (f_X1_firstActOn_32 N M (f_X1_firstActOn_2 N M n) x1 x2 x3 r15 (65537 : Int32))))))
set_option maxRecDepth 100000 in
set_option maxHeartbeats 4000000 in
theorem t_X1_firstActOn_2 {Z : Zz} {G : Gm} {a : Nat → Nat} {N : Nat} {o : Int32} {c1 c2 : Nat} {M : Mm} (C : CX (wD Z a) Z nE G cX1_firstActOn RX1 4 (some .int) (PqR o (c1, c2, M)) 0) (hm : (Gc G).maxLocals = 6) : ∀ (n : Nat) (x1 x2 x3 : Int32) , f_X1_firstActOn_2 N M n x1 x2 x3 = some o → V (wD Z a) Z G 0 2 [some (.ref (a 5)), some (.int x1), some (.int x2), some (.int x3), none, none] [] (c1, c2, M) := by
  intro n
  induction n with
  | zero => intro x1 x2 x3 hf; rw [f_X1_firstActOn_2] at hf; cases hf
  | succ n ih =>
    intro x1 x2 x3 hf
    rw [f_X1_firstActOn_2] at hf
    refine V_iload3 C (pc := 2) dX1_firstActOn_2 ?_
    refine V_bipush C (pc := 3) (v := (18 : Int32)) (by decide) dX1_firstActOn_3 ?_
    refine V_icmp_ge C (pc := 5) (tgt := 67) dX1_firstActOn_5 (by decide) hf (fun hf => ?_) (fun hf => ?_)
    · refine V_iconst C (pc := 67) (v := (-1 : Int32)) (by decide) dX1_firstActOn_67 ?_
      exact V_iret C (pc := 68) rfl (Nat.le_refl 0) dX1_firstActOn_68 ⟨hf, rfl⟩
    · refine V_aload0 C (pc := 8) dX1_firstActOn_8 ?_
      refine gf_RX1_37 C (pc := 9) dX1_firstActOn_9 ?_
      refine V_iload1 C (pc := 12) dX1_firstActOn_12 ?_
      refine V_iload3 C (pc := 13) dX1_firstActOn_13 ?_
      refine V_iload2 C (pc := 14) dX1_firstActOn_14 ?_
      refine V_cR C (pc := 15) (dep2 := 3) (As := [.int x1, .int x3, .int x2]) (rest := []) (fun r0 h0 => c_X5_lead h0) lb_X5_lead lk_RX1_65 wm_n (by decide) (Nat.le_refl 0) 2 5 rfl rfl rfl rfl (Nat.le_of_ble_eq_true rfl) dX1_firstActOn_15 hf (fun r15 hf => ?_)
      refine V_istore4 C (pc := 18) dX1_firstActOn_18 (by rw [hm]; decide) ?_
      refine V_iload3 C (pc := 20) dX1_firstActOn_20 ?_
      refine V_bipush C (pc := 21) (v := (9 : Int32)) (by decide) dX1_firstActOn_21 ?_
      refine V_icmp_ge C (pc := 23) (tgt := 31) dX1_firstActOn_23 (by decide) hf (fun hf => ?_) (fun hf => ?_)
      · refine V_iconst C (pc := 31) (v := (1 : Int32)) (by decide) dX1_firstActOn_31 ?_
        exact V.mono [true, true, true, true, true, false] rfl (t_X1_firstActOn_32 C hm ih hf)
      · refine V_ldc C (pc := 26) wk_RX1_85 dX1_firstActOn_26 ?_
        refine V_goto C (pc := 28) (tgt := 32) dX1_firstActOn_28 (by decide) ?_
        exact V.mono [true, true, true, true, true, false] rfl (t_X1_firstActOn_32 C hm ih hf)
def f_X1_firstActOn (N : Nat) (M : Mm) (x1 : Int32) (x2 : Int32) : Option Int32 := (f_X1_firstActOn_2 N M N x1 x2 (0 : Int32))
set_option maxRecDepth 100000 in
set_option maxHeartbeats 4000000 in
theorem t_X1_firstActOn {Z : Zz} {G : Gm} {a : Nat → Nat} {N : Nat} {o : Int32} {c1 c2 : Nat} {M : Mm} {x1 x2 : Int32} (C : CX (wD Z a) Z nE G cX1_firstActOn RX1 4 (some .int) (PqR o (c1, c2, M)) 0) (hm : (Gc G).maxLocals = 6) (hf : f_X1_firstActOn N M x1 x2 = some o) : V (wD Z a) Z G 0 0 [some (.ref (a 5)), some (.int x1), some (.int x2), none, none, none] [] (c1, c2, M) := by
  unfold f_X1_firstActOn at hf
  refine V_iconst C (pc := 0) (v := (0 : Int32)) (by decide) dX1_firstActOn_0 ?_
  refine V_istore3 C (pc := 1) dX1_firstActOn_1 (by rw [hm]; decide) ?_
  exact V.mono [true, true, true, true, false, false] rfl (t_X1_firstActOn_2 C hm N _ _ _ hf)
set_option maxRecDepth 100000 in
theorem c_X1_firstActOn {Z : Zz} {a : Nat → Nat} {N : Nat} {c1 c2 : Nat} {M : Mm} {x1 x2 : Int32} {r0 : Int32} (hf : f_X1_firstActOn N M x1 x2 = some r0) : CtI (wD Z a) Z nE yX1_firstActOn cX1_firstActOn 6 (some .int) 4 0 [.ref (a 5), .int x1, .int x2] (c1, c2, M) (PqR r0 (c1, c2, M)) := CtI_of (by decide +kernel) (Or.inl rfl) (List.forall_mem_cons.mpr ⟨rfl, List.forall_mem_cons.mpr ⟨rfl, List.forall_mem_cons.mpr ⟨rfl, fun _ h9 => nomatch h9⟩⟩⟩) (Nat.le_of_ble_eq_true rfl) (fun G C hm => t_X1_firstActOn (o := r0) C hm hf)
def f_X1_dropDetours_47 (N : Nat) (k7 : Int32 → Int32 → Mm → Option Mm) (x1 : Int32) (x2 : Int32) (x3 : Int32) (t0 : Int32) (M : Mm) : Option Mm := (if t0 = 0 then (bd (f_X1_firstActOn N M x3 x1) (fun r57 => (if r57 = (-1 : Int32) then (if inb x3 (gL M) then (k7 x1 (x2 + (-1 : Int32)) (sA M 21 x3 (-1 : Int32))) else none) else (k7 x1 (x2 + (-1 : Int32)) M)))) else (k7 x1 (x2 + (-1 : Int32)) M))
set_option maxRecDepth 100000 in
set_option maxHeartbeats 4000000 in
theorem t_X1_dropDetours_47 {Z : Zz} {G : Gm} {a : Nat → Nat} {N : Nat} {o : Mm} {c1 c2 : Nat} {M : Mm} {k7 : Int32 → Int32 → Mm → Option Mm} {x1 x2 x3 t0 : Int32} (C : CX (wD Z a) Z nE G cX1_dropDetours RX1 5 none (PqV o) 0) (hm : (Gc G).maxLocals = 5) (hk7 : ∀ (x1 x2 : Int32) (c1 c2 : Nat) (M : Mm), k7 x1 x2 M = some o → V (wD Z a) Z G 0 7 [some (.ref (a 5)), some (.int x1), some (.int x2), none, none] [] (c1, c2, M)) (hf : f_X1_dropDetours_47 N k7 x1 x2 x3 t0 M = some o) : V (wD Z a) Z G 0 47 [some (.ref (a 5)), some (.int x1), some (.int x2), some (.int x3), none] [.int t0] (c1, c2, M) := by
  unfold f_X1_dropDetours_47 at hf
  refine V_istore4 C (pc := 47) dX1_dropDetours_47 (by rw [hm]; decide) ?_
  refine V_iload4 C (pc := 49) dX1_dropDetours_49 ?_
  refine V_if_ne C (pc := 51) (tgt := 71) dX1_dropDetours_51 (by decide) hf (fun hf => ?_) (fun hf => ?_)
  · refine V_iinc2 C (pc := 71) (c1 := (-1 : Int32)) dX1_dropDetours_71 (by decide) (by rw [hm]; decide) ?_
    refine V_goto C (pc := 74) (tgt := 7) dX1_dropDetours_74 (by decide) ?_
    exact V.mono [true, true, true, false, false] rfl (hk7 _ _ c1 c2 M hf)
  · refine V_aload0 C (pc := 54) dX1_dropDetours_54 ?_
    refine V_iload3 C (pc := 55) dX1_dropDetours_55 ?_
    refine V_iload1 C (pc := 56) dX1_dropDetours_56 ?_
    refine V_cR C (pc := 57) (dep2 := 4) (As := [.int x3, .int x1]) (rest := []) (fun r0 h0 => c_X1_firstActOn h0) lb_X1_firstActOn lk_RX1_99 wm_n (by decide) (Nat.le_refl 0) 5 1 rfl rfl rfl rfl (Nat.le_of_ble_eq_true rfl) dX1_dropDetours_57 hf (fun r57 hf => ?_)
    refine V_iconst C (pc := 60) (v := (-1 : Int32)) (by decide) dX1_dropDetours_60 ?_
    refine V_icmp_ne C (pc := 61) (tgt := 71) dX1_dropDetours_61 (by decide) hf (fun hf => ?_) (fun hf => ?_)
    · refine V_iinc2 C (pc := 71) (c1 := (-1 : Int32)) dX1_dropDetours_71 (by decide) (by rw [hm]; decide) ?_
      refine V_goto C (pc := 74) (tgt := 7) dX1_dropDetours_74 (by decide) ?_
      exact V.mono [true, true, true, false, false] rfl (hk7 _ _ c1 c2 M hf)
    · refine V_aload0 C (pc := 64) dX1_dropDetours_64 ?_
      refine gf_RX1_18 C (pc := 65) dX1_dropDetours_65 ?_
      refine V_iload3 C (pc := 68) dX1_dropDetours_68 ?_
      refine V_iconst C (pc := 69) (v := (-1 : Int32)) (by decide) dX1_dropDetours_69 ?_
      refine asD_21 C (pc := 70) dX1_dropDetours_70 hf (fun hf => ?_)
      refine V_iinc2 C (pc := 71) (c1 := (-1 : Int32)) dX1_dropDetours_71 (by decide) (by rw [hm]; decide) ?_
      refine V_goto C (pc := 74) (tgt := 7) dX1_dropDetours_74 (by decide) ?_
      exact V.mono [true, true, true, false, false] rfl (hk7 _ _ c1 c2 (sA M 21 x3 (-1 : Int32)) hf)
def f_X1_dropDetours_46 (N : Nat) (k7 : Int32 → Int32 → Mm → Option Mm) (x1 : Int32) (x2 : Int32) (x3 : Int32) (M : Mm) : Option Mm := (f_X1_dropDetours_47 N k7 x1 x2 x3 (0 : Int32) M)
set_option maxRecDepth 100000 in
set_option maxHeartbeats 4000000 in
theorem t_X1_dropDetours_46 {Z : Zz} {G : Gm} {a : Nat → Nat} {N : Nat} {o : Mm} {c1 c2 : Nat} {M : Mm} {k7 : Int32 → Int32 → Mm → Option Mm} {x1 x2 x3 : Int32} (C : CX (wD Z a) Z nE G cX1_dropDetours RX1 5 none (PqV o) 0) (hm : (Gc G).maxLocals = 5) (hk7 : ∀ (x1 x2 : Int32) (c1 c2 : Nat) (M : Mm), k7 x1 x2 M = some o → V (wD Z a) Z G 0 7 [some (.ref (a 5)), some (.int x1), some (.int x2), none, none] [] (c1, c2, M)) (hf : f_X1_dropDetours_46 N k7 x1 x2 x3 M = some o) : V (wD Z a) Z G 0 46 [some (.ref (a 5)), some (.int x1), some (.int x2), some (.int x3), none] [] (c1, c2, M) := by
  unfold f_X1_dropDetours_46 at hf
  refine V_iconst C (pc := 46) (v := (0 : Int32)) (by decide) dX1_dropDetours_46 ?_
  exact V.mono [true, true, true, true, false] rfl (t_X1_dropDetours_47 C hm hk7 hf)
def f_X1_dropDetours_7 (N : Nat) : Nat → Int32 → Int32 → Mm → Option Mm
  | 0, _, _, _ => none
  | n + 1, x1, x2, M => (if x2 < 0 then (some M) else (if inb x2 (gL M) then (if inb (gA M 22 x2) (gL M) then (if (gA M 21 (gA M 22 x2)) = (gI M 14) then (bd (f_X5_reaches M (gA M 22 x2)) (fun r36 => (if r36 = 0 then (f_X1_dropDetours_46 N (f_X1_dropDetours_7 N n) x1 x2 (gA M 22 x2) M) else (f_X1_dropDetours_47 N (f_X1_dropDetours_7 N n) x1 x2 (gA M 22 x2) (1 : Int32) M)))) else (f_X1_dropDetours_46 N (f_X1_dropDetours_7 N n) x1 x2 (gA M 22 x2) M)) else none) else none))
set_option maxRecDepth 100000 in
set_option maxHeartbeats 4000000 in
theorem t_X1_dropDetours_7 {Z : Zz} {G : Gm} {a : Nat → Nat} {N : Nat} {o : Mm} (C : CX (wD Z a) Z nE G cX1_dropDetours RX1 5 none (PqV o) 0) (hm : (Gc G).maxLocals = 5) : ∀ (n : Nat) (x1 x2 : Int32) (c1 c2 : Nat) (M : Mm), f_X1_dropDetours_7 N n x1 x2 M = some o → V (wD Z a) Z G 0 7 [some (.ref (a 5)), some (.int x1), some (.int x2), none, none] [] (c1, c2, M) := by
  intro n
  induction n with
  | zero => intro x1 x2 c1 c2 M hf; rw [f_X1_dropDetours_7] at hf; cases hf
  | succ n ih =>
    intro x1 x2 c1 c2 M hf
    rw [f_X1_dropDetours_7] at hf
    refine V_iload2 C (pc := 7) dX1_dropDetours_7 ?_
    refine V_if_lt C (pc := 8) (tgt := 77) dX1_dropDetours_8 (by decide) hf (fun hf => ?_) (fun hf => ?_)
    · exact V_vret C (pc := 77) rfl (Nat.le_refl 0) dX1_dropDetours_77 (pqV hf)
    · refine V_aload0 C (pc := 11) dX1_dropDetours_11 ?_
      refine gf_RX1_21 C (pc := 12) dX1_dropDetours_12 ?_
      refine V_iload2 C (pc := 15) dX1_dropDetours_15 ?_
      refine alD_22 C (pc := 16) dX1_dropDetours_16 hf (fun hf => ?_)
      refine V_istore3 C (pc := 17) dX1_dropDetours_17 (by rw [hm]; decide) ?_
      refine V_aload0 C (pc := 18) dX1_dropDetours_18 ?_
      refine gf_RX1_18 C (pc := 19) dX1_dropDetours_19 ?_
      refine V_iload3 C (pc := 22) dX1_dropDetours_22 ?_
      refine alD_21 C (pc := 23) dX1_dropDetours_23 hf (fun hf => ?_)
      refine V_aload0 C (pc := 24) dX1_dropDetours_24 ?_
      refine gf_RX1_28 C (pc := 25) dX1_dropDetours_25 ?_
      refine V_icmp_ne C (pc := 28) (tgt := 46) dX1_dropDetours_28 (by decide) hf (fun hf => ?_) (fun hf => ?_)
      · exact V.mono [true, true, true, true, false] rfl (t_X1_dropDetours_46 C hm ih hf)
      · refine V_aload0 C (pc := 31) dX1_dropDetours_31 ?_
        refine gf_RX1_37 C (pc := 32) dX1_dropDetours_32 ?_
        refine V_iload3 C (pc := 35) dX1_dropDetours_35 ?_
        refine V_cR C (pc := 36) (dep2 := 0) (As := [.int (gA M 22 x2)]) (rest := []) (fun r0 h0 => c_X5_reaches h0) lb_X5_reaches lk_RX1_80 wm_n (by decide) (Nat.le_refl 0) 2 5 rfl rfl rfl rfl (Nat.le_of_ble_eq_true rfl) dX1_dropDetours_36 hf (fun r36 hf => ?_)
        refine V_if_eq C (pc := 39) (tgt := 46) dX1_dropDetours_39 (by decide) hf (fun hf => ?_) (fun hf => ?_)
        · exact V.mono [true, true, true, true, false] rfl (t_X1_dropDetours_46 C hm ih hf)
        · refine V_iconst C (pc := 42) (v := (1 : Int32)) (by decide) dX1_dropDetours_42 ?_
          refine V_goto C (pc := 43) (tgt := 47) dX1_dropDetours_43 (by decide) ?_
          exact V.mono [true, true, true, true, false] rfl (t_X1_dropDetours_47 C hm ih hf)
def f_X1_dropDetours (N : Nat) (x1 : Int32) (M : Mm) : Option Mm := (f_X1_dropDetours_7 N N x1 ((gI M 13) - (1 : Int32)) M)
set_option maxRecDepth 100000 in
set_option maxHeartbeats 4000000 in
theorem t_X1_dropDetours {Z : Zz} {G : Gm} {a : Nat → Nat} {N : Nat} {o : Mm} {c1 c2 : Nat} {M : Mm} {x1 : Int32} (C : CX (wD Z a) Z nE G cX1_dropDetours RX1 5 none (PqV o) 0) (hm : (Gc G).maxLocals = 5) (hf : f_X1_dropDetours N x1 M = some o) : V (wD Z a) Z G 0 0 [some (.ref (a 5)), some (.int x1), none, none, none] [] (c1, c2, M) := by
  unfold f_X1_dropDetours at hf
  refine V_aload0 C (pc := 0) dX1_dropDetours_0 ?_
  refine gf_RX1_24 C (pc := 1) dX1_dropDetours_1 ?_
  refine V_iconst C (pc := 4) (v := (1 : Int32)) (by decide) dX1_dropDetours_4 ?_
  refine V_isub C (pc := 5) dX1_dropDetours_5 ?_
  refine V_istore2 C (pc := 6) dX1_dropDetours_6 (by rw [hm]; decide) ?_
  exact V.mono [true, true, true, false, false] rfl (t_X1_dropDetours_7 C hm N _ _ c1 c2 M hf)
set_option maxRecDepth 100000 in
theorem c_X1_dropDetours {Z : Zz} {a : Nat → Nat} {N : Nat} {c1 c2 : Nat} {M : Mm} {x1 : Int32} {M0 : Mm} (hf : f_X1_dropDetours N x1 M = some M0) : CtV (wD Z a) Z nE yX1_dropDetours cX1_dropDetours 5 5 0 [.ref (a 5), .int x1] (c1, c2, M) (PqV M0) := CtV_of (by decide +kernel) (List.forall_mem_cons.mpr ⟨rfl, List.forall_mem_cons.mpr ⟨rfl, fun _ h9 => nomatch h9⟩⟩) (Nat.le_of_ble_eq_true rfl) (fun G C hm => t_X1_dropDetours (o := M0) C hm hf)
def f_X1_join (x1 : Int32) (x2 : Int32) (M : Mm) : Option Mm := (if x1 < 0 then (some M) else (if (Int32.ofNat (gL M)) ≤ x1 then (some M) else (if (gI M 13) < (Int32.ofNat (gL M)) then (if inb x1 (gL M) then (if (gA M 21 x1) = (-1 : Int32) then (if inb x1 (gL M) then (if inb (gI (sA M 21 x1 x2) 13) (gL (sI (sA M 21 x1 x2) 13 ((gI (sA M 21 x1 x2) 13) + (1 : Int32)))) then (some (sA (sI (sA M 21 x1 x2) 13 ((gI (sA M 21 x1 x2) 13) + (1 : Int32))) 22 (gI (sA M 21 x1 x2) 13) x1)) else none) else none) else (some M)) else none) else (some M))))
set_option maxRecDepth 100000 in
set_option maxHeartbeats 4000000 in
theorem t_X1_join {Z : Zz} {G : Gm} {a : Nat → Nat} {o : Mm} {c1 c2 : Nat} {M : Mm} {x1 x2 : Int32} (C : CX (wD Z a) Z nE G cX1_join RX1 0 none (PqV o) 0) (hm : (Gc G).maxLocals = 3) (hf : f_X1_join x1 x2 M = some o) : V (wD Z a) Z G 0 0 [some (.ref (a 5)), some (.int x1), some (.int x2)] [] (c1, c2, M) := by
  unfold f_X1_join at hf
  refine V_iload1 C (pc := 0) dX1_join_0 ?_
  refine V_if_lt C (pc := 1) (tgt := 25) dX1_join_1 (by decide) hf (fun hf => ?_) (fun hf => ?_)
  · exact V_vret C (pc := 25) rfl (Nat.le_refl 0) dX1_join_25 (pqV hf)
  · refine V_iload1 C (pc := 4) dX1_join_4 ?_
    refine V_aload0 C (pc := 5) dX1_join_5 ?_
    refine gf_RX1_18 C (pc := 6) dX1_join_6 ?_
    refine anD_21 C (pc := 9) dX1_join_9 ?_
    refine V_icmp_ge C (pc := 10) (tgt := 25) dX1_join_10 (by decide) hf (fun hf => ?_) (fun hf => ?_)
    · exact V_vret C (pc := 25) rfl (Nat.le_refl 0) dX1_join_25 (pqV hf)
    · refine V_aload0 C (pc := 13) dX1_join_13 ?_
      refine gf_RX1_24 C (pc := 14) dX1_join_14 ?_
      refine V_aload0 C (pc := 17) dX1_join_17 ?_
      refine gf_RX1_21 C (pc := 18) dX1_join_18 ?_
      refine anD_22 C (pc := 21) dX1_join_21 ?_
      refine V_icmp_lt C (pc := 22) (tgt := 26) dX1_join_22 (by decide) hf (fun hf => ?_) (fun hf => ?_)
      · refine V_aload0 C (pc := 26) dX1_join_26 ?_
        refine gf_RX1_18 C (pc := 27) dX1_join_27 ?_
        refine V_iload1 C (pc := 30) dX1_join_30 ?_
        refine alD_21 C (pc := 31) dX1_join_31 hf (fun hf => ?_)
        refine V_iconst C (pc := 32) (v := (-1 : Int32)) (by decide) dX1_join_32 ?_
        refine V_icmp_ne C (pc := 33) (tgt := 60) dX1_join_33 (by decide) hf (fun hf => ?_) (fun hf => ?_)
        · exact V_vret C (pc := 60) rfl (Nat.le_refl 0) dX1_join_60 (pqV hf)
        · refine V_aload0 C (pc := 36) dX1_join_36 ?_
          refine gf_RX1_18 C (pc := 37) dX1_join_37 ?_
          refine V_iload1 C (pc := 40) dX1_join_40 ?_
          refine V_iload2 C (pc := 41) dX1_join_41 ?_
          refine asD_21 C (pc := 42) dX1_join_42 hf (fun hf => ?_)
          refine V_aload0 C (pc := 43) dX1_join_43 ?_
          refine gf_RX1_21 C (pc := 44) dX1_join_44 ?_
          refine V_aload0 C (pc := 47) dX1_join_47 ?_
          refine V_dupr C (pc := 48) dX1_join_48 ?_
          refine gf_RX1_24 C (pc := 49) dX1_join_49 ?_
          refine V_dup_x1 C (pc := 52) dX1_join_52 ?_
          refine V_iconst C (pc := 53) (v := (1 : Int32)) (by decide) dX1_join_53 ?_
          refine V_iadd C (pc := 54) dX1_join_54 ?_
          refine pf_RX1_24 C (pc := 55) dX1_join_55 ?_
          refine V_iload1 C (pc := 58) dX1_join_58 ?_
          refine asD_22 C (pc := 59) dX1_join_59 hf (fun hf => ?_)
          exact V_vret C (pc := 60) rfl (Nat.le_refl 0) dX1_join_60 (pqV hf)
      · exact V_vret C (pc := 25) rfl (Nat.le_refl 0) dX1_join_25 (pqV hf)
set_option maxRecDepth 100000 in
theorem c_X1_join {Z : Zz} {a : Nat → Nat} {c1 c2 : Nat} {M : Mm} {x1 x2 : Int32} {M0 : Mm} (hf : f_X1_join x1 x2 M = some M0) : CtV (wD Z a) Z nE yX1_join cX1_join 3 0 0 [.ref (a 5), .int x1, .int x2] (c1, c2, M) (PqV M0) := CtV_of (by decide +kernel) (List.forall_mem_cons.mpr ⟨rfl, List.forall_mem_cons.mpr ⟨rfl, List.forall_mem_cons.mpr ⟨rfl, fun _ h9 => nomatch h9⟩⟩⟩) (Nat.le_of_ble_eq_true rfl) (fun G C hm => t_X1_join (o := M0) C hm hf)
def f_X1_outdate  (M : Mm) : Option Mm := (some (sI (sI (sF (sF M 19 19 (-9 : Int32)) 20 19 (-9 : Int32)) 15 (-1 : Int32)) 16 (-1 : Int32)))
set_option maxRecDepth 100000 in
set_option maxHeartbeats 4000000 in
theorem t_X1_outdate {Z : Zz} {G : Gm} {a : Nat → Nat} {o : Mm} {c1 c2 : Nat} {M : Mm} (C : CX (wD Z a) Z nE G cX1_outdate RX1 1 none (PqV o) 0) (hm : (Gc G).maxLocals = 1) (hf : f_X1_outdate  M = some o) : V (wD Z a) Z G 0 0 [some (.ref (a 5))] [] (c1, c2, M) := by
  unfold f_X1_outdate at hf
  refine V_aload0 C (pc := 0) dX1_outdate_0 ?_
  refine gf_RX1_11 C (pc := 1) dX1_outdate_1 ?_
  refine V_bipush C (pc := 4) (v := (-9 : Int32)) (by decide) dX1_outdate_4 ?_
  refine fiD_19 C (pc := 6) lk_RX1_41 (by decide) (Nat.le_refl 0) dX1_outdate_6 (Nat.le_of_ble_eq_true rfl) ?_
  refine V_aload0 C (pc := 9) dX1_outdate_9 ?_
  refine gf_RX1_15 C (pc := 10) dX1_outdate_10 ?_
  refine V_bipush C (pc := 13) (v := (-9 : Int32)) (by decide) dX1_outdate_13 ?_
  refine fiD_20 C (pc := 15) lk_RX1_41 (by decide) (Nat.le_refl 0) dX1_outdate_15 (Nat.le_of_ble_eq_true rfl) ?_
  refine V_aload0 C (pc := 18) dX1_outdate_18 ?_
  refine V_iconst C (pc := 19) (v := (-1 : Int32)) (by decide) dX1_outdate_19 ?_
  refine pf_RX1_31 C (pc := 20) dX1_outdate_20 ?_
  refine V_aload0 C (pc := 23) dX1_outdate_23 ?_
  refine V_iconst C (pc := 24) (v := (-1 : Int32)) (by decide) dX1_outdate_24 ?_
  refine pf_RX1_34 C (pc := 25) dX1_outdate_25 ?_
  exact V_vret C (pc := 28) rfl (Nat.le_refl 0) dX1_outdate_28 (pqV hf)
set_option maxRecDepth 100000 in
theorem c_X1_outdate {Z : Zz} {a : Nat → Nat} {c1 c2 : Nat} {M : Mm} {M0 : Mm} (hf : f_X1_outdate  M = some M0) : CtV (wD Z a) Z nE yX1_outdate cX1_outdate 1 1 0 [.ref (a 5)] (c1, c2, M) (PqV M0) := CtV_of (by decide +kernel) (List.forall_mem_cons.mpr ⟨rfl, fun _ h9 => nomatch h9⟩) (Nat.le_of_ble_eq_true rfl) (fun G C hm => t_X1_outdate (o := M0) C hm hf)
def f_X1_sceneAt (M : Mm) (x1 : Int32) : Option Int32 := (if x1 < 0 then (some (-1 : Int32)) else (if (gI M 13) ≤ x1 then (some (-1 : Int32)) else (if inb x1 (gL M) then (some (gA M 22 x1)) else none)))
set_option maxRecDepth 100000 in
set_option maxHeartbeats 4000000 in
theorem t_X1_sceneAt {Z : Zz} {G : Gm} {a : Nat → Nat} {o : Int32} {c1 c2 : Nat} {M : Mm} {x1 : Int32} (C : CX (wD Z a) Z nE G cX1_sceneAt RX1 0 (some .int) (PqR o (c1, c2, M)) 0) (hm : (Gc G).maxLocals = 2) (hf : f_X1_sceneAt M x1 = some o) : V (wD Z a) Z G 0 0 [some (.ref (a 5)), some (.int x1)] [] (c1, c2, M) := by
  unfold f_X1_sceneAt at hf
  refine V_iload1 C (pc := 0) dX1_sceneAt_0 ?_
  refine V_if_lt C (pc := 1) (tgt := 21) dX1_sceneAt_1 (by decide) hf (fun hf => ?_) (fun hf => ?_)
  · refine V_iconst C (pc := 21) (v := (-1 : Int32)) (by decide) dX1_sceneAt_21 ?_
    exact V_iret C (pc := 22) rfl (Nat.le_refl 0) dX1_sceneAt_22 ⟨hf, rfl⟩
  · refine V_iload1 C (pc := 4) dX1_sceneAt_4 ?_
    refine V_aload0 C (pc := 5) dX1_sceneAt_5 ?_
    refine gf_RX1_24 C (pc := 6) dX1_sceneAt_6 ?_
    refine V_icmp_ge C (pc := 9) (tgt := 21) dX1_sceneAt_9 (by decide) hf (fun hf => ?_) (fun hf => ?_)
    · refine V_iconst C (pc := 21) (v := (-1 : Int32)) (by decide) dX1_sceneAt_21 ?_
      exact V_iret C (pc := 22) rfl (Nat.le_refl 0) dX1_sceneAt_22 ⟨hf, rfl⟩
    · refine V_aload0 C (pc := 12) dX1_sceneAt_12 ?_
      refine gf_RX1_21 C (pc := 13) dX1_sceneAt_13 ?_
      refine V_iload1 C (pc := 16) dX1_sceneAt_16 ?_
      refine alD_22 C (pc := 17) dX1_sceneAt_17 hf (fun hf => ?_)
      refine V_goto C (pc := 18) (tgt := 22) dX1_sceneAt_18 (by decide) ?_
      exact V_iret C (pc := 22) rfl (Nat.le_refl 0) dX1_sceneAt_22 ⟨hf, rfl⟩
set_option maxRecDepth 100000 in
theorem c_X1_sceneAt {Z : Zz} {a : Nat → Nat} {c1 c2 : Nat} {M : Mm} {x1 : Int32} {r0 : Int32} (hf : f_X1_sceneAt M x1 = some r0) : CtI (wD Z a) Z nE yX1_sceneAt cX1_sceneAt 2 (some .int) 0 0 [.ref (a 5), .int x1] (c1, c2, M) (PqR r0 (c1, c2, M)) := CtI_of (by decide +kernel) (Or.inl rfl) (List.forall_mem_cons.mpr ⟨rfl, List.forall_mem_cons.mpr ⟨rfl, fun _ h9 => nomatch h9⟩⟩) (Nat.le_of_ble_eq_true rfl) (fun G C hm => t_X1_sceneAt (o := r0) C hm hf)
def f_X1_spread_3 (N : Nat) : Nat → Int32 → Int32 → Int32 → Int32 → Int32 → Mm → Option Mm
  | 0, _, _, _, _, _, _ => none
  | n + 1, x1, x2, x3, x4, x5, M => (if (gI M 2) ≤ x5 then (some M) else (bd (f_X5_lead N M x1 (x2 + x5) x4) (fun r26 => (bd (f_X1_join r26 x3 M) (fun M35 => (if r26 = (-1 : Int32) then ((f_X1_spread_3 N n) x1 x2 x3 x4 (x5 + (1 : Int32)) M35) else (if (gI M35 14) = (-1 : Int32) then (bd (f_X5_reaches M35 r26) (fun r58 => (if r58 = 0 then ((f_X1_spread_3 N n) x1 x2 x3 x4 (x5 + (1 : Int32)) M35) else ((f_X1_spread_3 N n) x1 x2 x3 x4 (x5 + (1 : Int32)) (sI M35 14 x3))))) else ((f_X1_spread_3 N n) x1 x2 x3 x4 (x5 + (1 : Int32)) M35))))))))
set_option maxRecDepth 100000 in
set_option maxHeartbeats 4000000 in
theorem t_X1_spread_3 {Z : Zz} {G : Gm} {a : Nat → Nat} {N : Nat} {o : Mm} (C : CX (wD Z a) Z nE G cX1_spread RX1 4 none (PqV o) 0) (hm : (Gc G).maxLocals = 7) : ∀ (n : Nat) (x1 x2 x3 x4 x5 : Int32) (c1 c2 : Nat) (M : Mm), f_X1_spread_3 N n x1 x2 x3 x4 x5 M = some o → V (wD Z a) Z G 0 3 [some (.ref (a 5)), some (.int x1), some (.int x2), some (.int x3), some (.int x4), some (.int x5), none] [] (c1, c2, M) := by
  intro n
  induction n with
  | zero => intro x1 x2 x3 x4 x5 c1 c2 M hf; rw [f_X1_spread_3] at hf; cases hf
  | succ n ih =>
    intro x1 x2 x3 x4 x5 c1 c2 M hf
    rw [f_X1_spread_3] at hf
    refine V_iload5 C (pc := 3) dX1_spread_3 ?_
    refine V_aload0 C (pc := 5) dX1_spread_5 ?_
    refine gf_RX1_37 C (pc := 6) dX1_spread_6 ?_
    refine gf_RX1_96 C (pc := 9) dX1_spread_9 ?_
    refine V_icmp_ge C (pc := 12) (tgt := 75) dX1_spread_12 (by decide) hf (fun hf => ?_) (fun hf => ?_)
    · exact V_vret C (pc := 75) rfl (Nat.le_refl 0) dX1_spread_75 (pqV hf)
    · refine V_aload0 C (pc := 15) dX1_spread_15 ?_
      refine gf_RX1_37 C (pc := 16) dX1_spread_16 ?_
      refine V_iload1 C (pc := 19) dX1_spread_19 ?_
      refine V_iload2 C (pc := 20) dX1_spread_20 ?_
      refine V_iload5 C (pc := 21) dX1_spread_21 ?_
      refine V_iadd C (pc := 23) dX1_spread_23 ?_
      refine V_iload4 C (pc := 24) dX1_spread_24 ?_
      refine V_cR C (pc := 26) (dep2 := 3) (As := [.int x1, .int (x2 + x5), .int x4]) (rest := []) (fun r0 h0 => c_X5_lead h0) lb_X5_lead lk_RX1_65 wm_n (by decide) (Nat.le_refl 0) 2 5 rfl rfl rfl rfl (Nat.le_of_ble_eq_true rfl) dX1_spread_26 hf (fun r26 hf => ?_)
      refine V_istore6 C (pc := 29) dX1_spread_29 (by rw [hm]; decide) ?_
      refine V_aload0 C (pc := 31) dX1_spread_31 ?_
      refine V_iload6 C (pc := 32) dX1_spread_32 ?_
      refine V_iload3 C (pc := 34) dX1_spread_34 ?_
      refine V_cV C (pc := 35) (dep2 := 0) (As := [.int r26, .int x3]) (rest := []) (fun M0 h0 => c_X1_join h0) lb_X1_join lk_RX1_71 wm_n (by decide) (Nat.le_refl 0) 5 1 rfl rfl rfl rfl (Nat.le_of_ble_eq_true rfl) dX1_spread_35 hf (fun c1 c2 M35 hf => ?_)
      refine V_iload6 C (pc := 38) dX1_spread_38 ?_
      refine V_iconst C (pc := 40) (v := (-1 : Int32)) (by decide) dX1_spread_40 ?_
      refine V_icmp_eq C (pc := 41) (tgt := 69) dX1_spread_41 (by decide) hf (fun hf => ?_) (fun hf => ?_)
      · refine V_iinc5 C (pc := 69) (c1 := (1 : Int32)) dX1_spread_69 (by decide) (by rw [hm]; decide) ?_
        refine V_goto C (pc := 72) (tgt := 3) dX1_spread_72 (by decide) ?_
        exact V.mono [true, true, true, true, true, true, false] rfl (ih _ _ _ _ _ c1 c2 M35 hf)
      · refine V_aload0 C (pc := 44) dX1_spread_44 ?_
        refine gf_RX1_28 C (pc := 45) dX1_spread_45 ?_
        refine V_iconst C (pc := 48) (v := (-1 : Int32)) (by decide) dX1_spread_48 ?_
        refine V_icmp_ne C (pc := 49) (tgt := 69) dX1_spread_49 (by decide) hf (fun hf => ?_) (fun hf => ?_)
        · refine V_iinc5 C (pc := 69) (c1 := (1 : Int32)) dX1_spread_69 (by decide) (by rw [hm]; decide) ?_
          refine V_goto C (pc := 72) (tgt := 3) dX1_spread_72 (by decide) ?_
          exact V.mono [true, true, true, true, true, true, false] rfl (ih _ _ _ _ _ c1 c2 M35 hf)
        · refine V_aload0 C (pc := 52) dX1_spread_52 ?_
          refine gf_RX1_37 C (pc := 53) dX1_spread_53 ?_
          refine V_iload6 C (pc := 56) dX1_spread_56 ?_
          refine V_cR C (pc := 58) (dep2 := 0) (As := [.int r26]) (rest := []) (fun r0 h0 => c_X5_reaches h0) lb_X5_reaches lk_RX1_80 wm_n (by decide) (Nat.le_refl 0) 2 5 rfl rfl rfl rfl (Nat.le_of_ble_eq_true rfl) dX1_spread_58 hf (fun r58 hf => ?_)
          refine V_if_eq C (pc := 61) (tgt := 69) dX1_spread_61 (by decide) hf (fun hf => ?_) (fun hf => ?_)
          · refine V_iinc5 C (pc := 69) (c1 := (1 : Int32)) dX1_spread_69 (by decide) (by rw [hm]; decide) ?_
            refine V_goto C (pc := 72) (tgt := 3) dX1_spread_72 (by decide) ?_
            exact V.mono [true, true, true, true, true, true, false] rfl (ih _ _ _ _ _ c1 c2 M35 hf)
          · refine V_aload0 C (pc := 64) dX1_spread_64 ?_
            refine V_iload3 C (pc := 65) dX1_spread_65 ?_
            refine pf_RX1_28 C (pc := 66) dX1_spread_66 ?_
            refine V_iinc5 C (pc := 69) (c1 := (1 : Int32)) dX1_spread_69 (by decide) (by rw [hm]; decide) ?_
            refine V_goto C (pc := 72) (tgt := 3) dX1_spread_72 (by decide) ?_
            exact V.mono [true, true, true, true, true, true, false] rfl (ih _ _ _ _ _ c1 c2 (sI M35 14 x3) hf)
def f_X1_spread (N : Nat) (x1 : Int32) (x2 : Int32) (x3 : Int32) (x4 : Int32) (M : Mm) : Option Mm := (f_X1_spread_3 N N x1 x2 x3 x4 (0 : Int32) M)
set_option maxRecDepth 100000 in
set_option maxHeartbeats 4000000 in
theorem t_X1_spread {Z : Zz} {G : Gm} {a : Nat → Nat} {N : Nat} {o : Mm} {c1 c2 : Nat} {M : Mm} {x1 x2 x3 x4 : Int32} (C : CX (wD Z a) Z nE G cX1_spread RX1 4 none (PqV o) 0) (hm : (Gc G).maxLocals = 7) (hf : f_X1_spread N x1 x2 x3 x4 M = some o) : V (wD Z a) Z G 0 0 [some (.ref (a 5)), some (.int x1), some (.int x2), some (.int x3), some (.int x4), none, none] [] (c1, c2, M) := by
  unfold f_X1_spread at hf
  refine V_iconst C (pc := 0) (v := (0 : Int32)) (by decide) dX1_spread_0 ?_
  refine V_istore5 C (pc := 1) dX1_spread_1 (by rw [hm]; decide) ?_
  exact V.mono [true, true, true, true, true, true, false] rfl (t_X1_spread_3 C hm N _ _ _ _ _ c1 c2 M hf)
set_option maxRecDepth 100000 in
theorem c_X1_spread {Z : Zz} {a : Nat → Nat} {N : Nat} {c1 c2 : Nat} {M : Mm} {x1 x2 x3 x4 : Int32} {M0 : Mm} (hf : f_X1_spread N x1 x2 x3 x4 M = some M0) : CtV (wD Z a) Z nE yX1_spread cX1_spread 7 4 0 [.ref (a 5), .int x1, .int x2, .int x3, .int x4] (c1, c2, M) (PqV M0) := CtV_of (by decide +kernel) (List.forall_mem_cons.mpr ⟨rfl, List.forall_mem_cons.mpr ⟨rfl, List.forall_mem_cons.mpr ⟨rfl, List.forall_mem_cons.mpr ⟨rfl, List.forall_mem_cons.mpr ⟨rfl, fun _ h9 => nomatch h9⟩⟩⟩⟩⟩) (Nat.le_of_ble_eq_true rfl) (fun G C hm => t_X1_spread (o := M0) C hm hf)
def f_X1_writePlan_13 (N : Nat) : Nat → Int32 → Int32 → Int32 → Int32 → Mm → Option Mm
  | 0, _, _, _, _, _ => none
  | n + 1, x1, x2, x3, x4, M => (if x3 ≤ x4 then (some M) else (if (Int32.ofNat (gL M)) ≤ x4 then (some M) else (bd (f_X1_firstActOn N M x2 x1) (fun r32 => (if r32 = (-1 : Int32) then (some M) else (if inb x4 (gL M) then (bd (f_X5_lead N (sA M 22 x4 r32) x2 r32 x1) (fun r63 => ((f_X1_writePlan_13 N n) x1 r63 x3 (x4 + (1 : Int32)) (sA M 22 x4 r32)))) else none))))))
set_option maxRecDepth 100000 in
set_option maxHeartbeats 4000000 in
theorem t_X1_writePlan_13 {Z : Zz} {G : Gm} {a : Nat → Nat} {N : Nat} {o : Mm} (C : CX (wD Z a) Z nE G cX1_writePlan RX1 5 none (PqV o) 0) (hm : (Gc G).maxLocals = 6) : ∀ (n : Nat) (x1 x2 x3 x4 : Int32) (c1 c2 : Nat) (M : Mm), f_X1_writePlan_13 N n x1 x2 x3 x4 M = some o → V (wD Z a) Z G 0 13 [some (.ref (a 5)), some (.int x1), some (.int x2), some (.int x3), some (.int x4), none] [] (c1, c2, M) := by
  intro n
  induction n with
  | zero => intro x1 x2 x3 x4 c1 c2 M hf; rw [f_X1_writePlan_13] at hf; cases hf
  | succ n ih =>
    intro x1 x2 x3 x4 c1 c2 M hf
    rw [f_X1_writePlan_13] at hf
    refine V_iload4 C (pc := 13) dX1_writePlan_13 ?_
    refine V_iload3 C (pc := 15) dX1_writePlan_15 ?_
    refine V_icmp_ge C (pc := 16) (tgt := 73) dX1_writePlan_16 (by decide) hf (fun hf => ?_) (fun hf => ?_)
    · exact V_vret C (pc := 73) rfl (Nat.le_refl 0) dX1_writePlan_73 (pqV hf)
    · refine V_iload4 C (pc := 19) dX1_writePlan_19 ?_
      refine V_aload0 C (pc := 21) dX1_writePlan_21 ?_
      refine gf_RX1_21 C (pc := 22) dX1_writePlan_22 ?_
      refine anD_22 C (pc := 25) dX1_writePlan_25 ?_
      refine V_icmp_ge C (pc := 26) (tgt := 73) dX1_writePlan_26 (by decide) hf (fun hf => ?_) (fun hf => ?_)
      · exact V_vret C (pc := 73) rfl (Nat.le_refl 0) dX1_writePlan_73 (pqV hf)
      · refine V_aload0 C (pc := 29) dX1_writePlan_29 ?_
        refine V_iload2 C (pc := 30) dX1_writePlan_30 ?_
        refine V_iload1 C (pc := 31) dX1_writePlan_31 ?_
        refine V_cR C (pc := 32) (dep2 := 4) (As := [.int x2, .int x1]) (rest := []) (fun r0 h0 => c_X1_firstActOn h0) lb_X1_firstActOn lk_RX1_99 wm_n (by decide) (Nat.le_refl 0) 5 1 rfl rfl rfl rfl (Nat.le_of_ble_eq_true rfl) dX1_writePlan_32 hf (fun r32 hf => ?_)
        refine V_istore5 C (pc := 35) dX1_writePlan_35 (by rw [hm]; decide) ?_
        refine V_iload5 C (pc := 37) dX1_writePlan_37 ?_
        refine V_iconst C (pc := 39) (v := (-1 : Int32)) (by decide) dX1_writePlan_39 ?_
        refine V_icmp_ne C (pc := 40) (tgt := 46) dX1_writePlan_40 (by decide) hf (fun hf => ?_) (fun hf => ?_)
        · refine V_aload0 C (pc := 46) dX1_writePlan_46 ?_
          refine gf_RX1_21 C (pc := 47) dX1_writePlan_47 ?_
          refine V_iload4 C (pc := 50) dX1_writePlan_50 ?_
          refine V_iload5 C (pc := 52) dX1_writePlan_52 ?_
          refine asD_22 C (pc := 54) dX1_writePlan_54 hf (fun hf => ?_)
          refine V_aload0 C (pc := 55) dX1_writePlan_55 ?_
          refine gf_RX1_37 C (pc := 56) dX1_writePlan_56 ?_
          refine V_iload2 C (pc := 59) dX1_writePlan_59 ?_
          refine V_iload5 C (pc := 60) dX1_writePlan_60 ?_
          refine V_iload1 C (pc := 62) dX1_writePlan_62 ?_
          refine V_cR C (pc := 63) (dep2 := 3) (As := [.int x2, .int r32, .int x1]) (rest := []) (fun r0 h0 => c_X5_lead h0) lb_X5_lead lk_RX1_65 wm_n (by decide) (Nat.le_refl 0) 2 5 rfl rfl rfl rfl (Nat.le_of_ble_eq_true rfl) dX1_writePlan_63 hf (fun r63 hf => ?_)
          refine V_istore2 C (pc := 66) dX1_writePlan_66 (by rw [hm]; decide) ?_
          refine V_iinc4 C (pc := 67) (c1 := (1 : Int32)) dX1_writePlan_67 (by decide) (by rw [hm]; decide) ?_
          refine V_goto C (pc := 70) (tgt := 13) dX1_writePlan_70 (by decide) ?_
          exact V.mono [true, true, true, true, true, false] rfl (ih _ _ _ _ c1 c2 (sA M 22 x4 r32) hf)
        · refine V_goto C (pc := 43) (tgt := 73) dX1_writePlan_43 (by decide) ?_
          exact V_vret C (pc := 73) rfl (Nat.le_refl 0) dX1_writePlan_73 (pqV hf)
def f_X1_writePlan (N : Nat) (x1 : Int32) (M : Mm) : Option Mm := (f_X1_writePlan_13 N N x1 (0 : Int32) ((gI M 14) &&& (65535 : Int32)) (0 : Int32) M)
set_option maxRecDepth 100000 in
set_option maxHeartbeats 4000000 in
theorem t_X1_writePlan {Z : Zz} {G : Gm} {a : Nat → Nat} {N : Nat} {o : Mm} {c1 c2 : Nat} {M : Mm} {x1 : Int32} (C : CX (wD Z a) Z nE G cX1_writePlan RX1 5 none (PqV o) 0) (hm : (Gc G).maxLocals = 6) (hf : f_X1_writePlan N x1 M = some o) : V (wD Z a) Z G 0 0 [some (.ref (a 5)), some (.int x1), none, none, none, none] [] (c1, c2, M) := by
  unfold f_X1_writePlan at hf
  refine V_iconst C (pc := 0) (v := (0 : Int32)) (by decide) dX1_writePlan_0 ?_
  refine V_istore2 C (pc := 1) dX1_writePlan_1 (by rw [hm]; decide) ?_
  refine V_aload0 C (pc := 2) dX1_writePlan_2 ?_
  refine gf_RX1_28 C (pc := 3) dX1_writePlan_3 ?_
  refine V_ldc C (pc := 6) wk_RX1_57 dX1_writePlan_6 ?_
  refine V_iand C (pc := 8) dX1_writePlan_8 ?_
  refine V_istore3 C (pc := 9) dX1_writePlan_9 (by rw [hm]; decide) ?_
  refine V_iconst C (pc := 10) (v := (0 : Int32)) (by decide) dX1_writePlan_10 ?_
  refine V_istore4 C (pc := 11) dX1_writePlan_11 (by rw [hm]; decide) ?_
  exact V.mono [true, true, true, true, true, false] rfl (t_X1_writePlan_13 C hm N _ _ _ _ c1 c2 M hf)
set_option maxRecDepth 100000 in
theorem c_X1_writePlan {Z : Zz} {a : Nat → Nat} {N : Nat} {c1 c2 : Nat} {M : Mm} {x1 : Int32} {M0 : Mm} (hf : f_X1_writePlan N x1 M = some M0) : CtV (wD Z a) Z nE yX1_writePlan cX1_writePlan 6 5 0 [.ref (a 5), .int x1] (c1, c2, M) (PqV M0) := CtV_of (by decide +kernel) (List.forall_mem_cons.mpr ⟨rfl, List.forall_mem_cons.mpr ⟨rfl, fun _ h9 => nomatch h9⟩⟩) (Nat.le_of_ble_eq_true rfl) (fun G C hm => t_X1_writePlan (o := M0) C hm hf)
def f_X5_known_36 (M : Mm) (t0 : Int32) (t1 : Int32) : Option Int32 := (if (t0 >>> (t1 &&& 31)) = 0 then (some (1 : Int32)) else (some (0 : Int32)))
set_option maxRecDepth 100000 in
set_option maxHeartbeats 4000000 in
theorem t_X5_known_36 {Z : Zz} {G : Gm} {a : Nat → Nat} {o : Int32} {c1 c2 : Nat} {M : Mm} {t0 t1 : Int32} (C : CX (wD Z a) Z nE G cX5_known RX5 0 (some .boolean) (PqR o (c1, c2, M)) 0) (hm : (Gc G).maxLocals = 4) (hf : f_X5_known_36 M t0 t1 = some o) : V (wD Z a) Z G 0 36 [none, none, none, none] [.int t1, .int t0] (c1, c2, M) := by
  unfold f_X5_known_36 at hf
  refine V_ishr C (pc := 36) dX5_known_36 ?_
  refine V_if_ne C (pc := 37) (tgt := 44) dX5_known_37 (by decide) hf (fun hf => ?_) (fun hf => ?_)
  · refine V_iconst C (pc := 44) (v := (0 : Int32)) (by decide) dX5_known_44 ?_
    exact V_zret C (pc := 45) rfl (Nat.le_refl 0) (by decide) dX5_known_45 ⟨hf, rfl⟩
  · refine V_iconst C (pc := 40) (v := (1 : Int32)) (by decide) dX5_known_40 ?_
    refine V_goto C (pc := 41) (tgt := 45) dX5_known_41 (by decide) ?_
    exact V_zret C (pc := 45) rfl (Nat.le_refl 0) (by decide) dX5_known_45 ⟨hf, rfl⟩
def f_X5_known (M : Mm) (x1 : Int32) : Option Int32 := (if ((x1 &&& (511 : Int32)) >>> ((gI M 2) &&& 31)) = 0 then (if (gI M 9) = 0 then (f_X5_known_36 M (x1 >>> ((9 : Int32) &&& 31)) (gI M 7)) else (f_X5_known_36 M (x1 >>> ((9 : Int32) &&& 31)) (0 : Int32))) else (some (0 : Int32)))
set_option maxRecDepth 100000 in
set_option maxHeartbeats 4000000 in
theorem t_X5_known {Z : Zz} {G : Gm} {a : Nat → Nat} {o : Int32} {c1 c2 : Nat} {M : Mm} {x1 : Int32} (C : CX (wD Z a) Z nE G cX5_known RX5 0 (some .boolean) (PqR o (c1, c2, M)) 0) (hm : (Gc G).maxLocals = 4) (hf : f_X5_known M x1 = some o) : V (wD Z a) Z G 0 0 [some (.ref (a 2)), some (.int x1), none, none] [] (c1, c2, M) := by
  unfold f_X5_known at hf
  refine V_iload1 C (pc := 0) dX5_known_0 ?_
  refine V_sipush C (pc := 1) (v := (511 : Int32)) (by decide) dX5_known_1 ?_
  refine V_iand C (pc := 4) dX5_known_4 ?_
  refine V_istore2 C (pc := 5) dX5_known_5 (by rw [hm]; decide) ?_
  refine V_iload1 C (pc := 6) dX5_known_6 ?_
  refine V_bipush C (pc := 7) (v := (9 : Int32)) (by decide) dX5_known_7 ?_
  refine V_ishr C (pc := 9) dX5_known_9 ?_
  refine V_istore3 C (pc := 10) dX5_known_10 (by rw [hm]; decide) ?_
  refine V_iload2 C (pc := 11) dX5_known_11 ?_
  refine V_aload0 C (pc := 12) dX5_known_12 ?_
  refine gf_RX5_9 C (pc := 13) dX5_known_13 ?_
  refine V_ishr C (pc := 16) dX5_known_16 ?_
  refine V_if_ne C (pc := 17) (tgt := 44) dX5_known_17 (by decide) hf (fun hf => ?_) (fun hf => ?_)
  · refine V_iconst C (pc := 44) (v := (0 : Int32)) (by decide) dX5_known_44 ?_
    exact V_zret C (pc := 45) rfl (Nat.le_refl 0) (by decide) dX5_known_45 ⟨hf, rfl⟩
  · refine V_iload3 C (pc := 20) dX5_known_20 ?_
    refine V_aload0 C (pc := 21) dX5_known_21 ?_
    refine gf_RX5_46 C (pc := 22) dX5_known_22 ?_
    refine V_if_eq C (pc := 25) (tgt := 32) dX5_known_25 (by decide) hf (fun hf => ?_) (fun hf => ?_)
    · refine V_aload0 C (pc := 32) dX5_known_32 ?_
      refine gf_RX5_37 C (pc := 33) dX5_known_33 ?_
      exact V.mono [false, false, false, false] rfl (t_X5_known_36 C hm hf)
    · refine V_iconst C (pc := 28) (v := (0 : Int32)) (by decide) dX5_known_28 ?_
      refine V_goto C (pc := 29) (tgt := 36) dX5_known_29 (by decide) ?_
      exact V.mono [false, false, false, false] rfl (t_X5_known_36 C hm hf)
set_option maxRecDepth 100000 in
theorem c_X5_known {Z : Zz} {a : Nat → Nat} {c1 c2 : Nat} {M : Mm} {x1 : Int32} {r0 : Int32} (hf : f_X5_known M x1 = some r0) : CtI (wD Z a) Z nE yX5_known cX5_known 4 (some .boolean) 0 0 [.ref (a 2), .int x1] (c1, c2, M) (PqR r0 (c1, c2, M)) := CtI_of (by decide +kernel) (Or.inr rfl) (List.forall_mem_cons.mpr ⟨rfl, List.forall_mem_cons.mpr ⟨rfl, fun _ h9 => nomatch h9⟩⟩) (Nat.le_of_ble_eq_true rfl) (fun G C hm => t_X5_known (o := r0) C hm hf)
def f_X6_isRowBit (x0 : Int32) : Option Int32 := (if x0 < 0 then (some (0 : Int32)) else (if (4096 : Int32) ≤ x0 then (some (0 : Int32)) else (some (1 : Int32))))
set_option maxRecDepth 100000 in
set_option maxHeartbeats 4000000 in
theorem t_X6_isRowBit {Z : Zz} {G : Gm} {ws : va_W} {o : Int32} {x0 : Int32} (C : CX (fun _ : Unit => ws) Z tE G cX6_isRowBit RX6 0 (some .boolean) (PqR o ()) 0) (hm : (Gc G).maxLocals = 1) (hf : f_X6_isRowBit x0 = some o) : V (fun _ : Unit => ws) Z G 0 0 [some (.int x0)] [] () := by
  unfold f_X6_isRowBit at hf
  refine V_iload0 C (pc := 0) dX6_isRowBit_0 ?_
  refine V_if_lt C (pc := 1) (tgt := 15) dX6_isRowBit_1 (by decide) hf (fun hf => ?_) (fun hf => ?_)
  · refine V_iconst C (pc := 15) (v := (0 : Int32)) (by decide) dX6_isRowBit_15 ?_
    exact V_zret C (pc := 16) rfl (Nat.le_refl 0) (by decide) dX6_isRowBit_16 ⟨hf, rfl⟩
  · refine V_iload0 C (pc := 4) dX6_isRowBit_4 ?_
    refine V_sipush C (pc := 5) (v := (4096 : Int32)) (by decide) dX6_isRowBit_5 ?_
    refine V_icmp_ge C (pc := 8) (tgt := 15) dX6_isRowBit_8 (by decide) hf (fun hf => ?_) (fun hf => ?_)
    · refine V_iconst C (pc := 15) (v := (0 : Int32)) (by decide) dX6_isRowBit_15 ?_
      exact V_zret C (pc := 16) rfl (Nat.le_refl 0) (by decide) dX6_isRowBit_16 ⟨hf, rfl⟩
    · refine V_iconst C (pc := 11) (v := (1 : Int32)) (by decide) dX6_isRowBit_11 ?_
      refine V_goto C (pc := 12) (tgt := 16) dX6_isRowBit_12 (by decide) ?_
      exact V_zret C (pc := 16) rfl (Nat.le_refl 0) (by decide) dX6_isRowBit_16 ⟨hf, rfl⟩
set_option maxRecDepth 100000 in
theorem c_X6_isRowBit {Z : Zz} {ws : va_W} {x0 : Int32} {r0 : Int32} (hf : f_X6_isRowBit x0 = some r0) : CtI (fun _ : Unit => ws) Z tE yX6_isRowBit cX6_isRowBit 1 (some .boolean) 0 0 [.int x0] () (PqR r0 ()) := CtI_of (by decide +kernel) (Or.inr rfl) (List.forall_mem_cons.mpr ⟨rfl, fun _ h9 => nomatch h9⟩) (Nat.le_of_ble_eq_true rfl) (fun G C hm => t_X6_isRowBit (o := r0) C hm hf)
def f_X2_faultOf_28 (N : Nat) (M : Mm) : Nat → Int32 → Int32 → Int32 → Option Int32
  | 0, _, _, _ => none
  | n + 1, x1, x2, x3 => (if (18 : Int32) ≤ x3 then (some (0 : Int32)) else (bd (f_X5_lead N M x1 x3 x2) (fun r41 => (bd (f_X6_isRowBit r41) (fun r48 => (if r48 = 0 then ((f_X2_faultOf_28 N M n) x1 x2 (x3 + (1 : Int32))) else (if inb r41 4096 then (if (gA M 23 r41) = 0 then (some (4 : Int32)) else ((f_X2_faultOf_28 N M n) x1 x2 (x3 + (1 : Int32)))) else none)))))))
set_option maxRecDepth 100000 in
set_option maxHeartbeats 4000000 in
theorem t_X2_faultOf_28 {Z : Zz} {G : Gm} {a : Nat → Nat} {N : Nat} {o : Int32} {c1 c2 : Nat} {M : Mm} (C : CX (wD Z a) Z nE G cX2_faultOf RX2 4 (some .int) (PqR o (c1, c2, M)) 0) (hm : (Gc G).maxLocals = 5) : ∀ (n : Nat) (x1 x2 x3 : Int32) , f_X2_faultOf_28 N M n x1 x2 x3 = some o → V (wD Z a) Z G 0 28 [some (.ref (a 6)), some (.int x1), some (.int x2), some (.int x3), none] [] (c1, c2, M) := by
  intro n
  induction n with
  | zero => intro x1 x2 x3 hf; rw [f_X2_faultOf_28] at hf; cases hf
  | succ n ih =>
    intro x1 x2 x3 hf
    rw [f_X2_faultOf_28] at hf
    refine V_iload3 C (pc := 28) dX2_faultOf_28 ?_
    refine V_bipush C (pc := 29) (v := (18 : Int32)) (by decide) dX2_faultOf_29 ?_
    refine V_icmp_ge C (pc := 31) (tgt := 72) dX2_faultOf_31 (by decide) hf (fun hf => ?_) (fun hf => ?_)
    · refine V_iconst C (pc := 72) (v := (0 : Int32)) (by decide) dX2_faultOf_72 ?_
      exact V_iret C (pc := 73) rfl (Nat.le_refl 0) dX2_faultOf_73 ⟨hf, rfl⟩
    · refine V_aload0 C (pc := 34) dX2_faultOf_34 ?_
      refine gf_RX2_22 C (pc := 35) dX2_faultOf_35 ?_
      refine V_iload1 C (pc := 38) dX2_faultOf_38 ?_
      refine V_iload3 C (pc := 39) dX2_faultOf_39 ?_
      refine V_iload2 C (pc := 40) dX2_faultOf_40 ?_
      refine V_cR C (pc := 41) (dep2 := 3) (As := [.int x1, .int x3, .int x2]) (rest := []) (fun r0 h0 => c_X5_lead h0) lb_X5_lead lk_RX2_64 wm_n (by decide) (Nat.le_refl 0) 2 5 rfl rfl rfl rfl (Nat.le_of_ble_eq_true rfl) dX2_faultOf_41 hf (fun r41 hf => ?_)
      refine V_istore4 C (pc := 44) dX2_faultOf_44 (by rw [hm]; decide) ?_
      refine V_iload4 C (pc := 46) dX2_faultOf_46 ?_
      refine V_cSN C (pc := 48) (dep2 := 0) (As := [.int r41]) (rest := []) (fun r0 h0 => c_X6_isRowBit h0) lb_X6_isRowBit ws_X6_isRowBit (by decide) (Nat.le_refl 0) rfl rfl (Nat.le_of_ble_eq_true rfl) dX2_faultOf_48 hf (fun r48 hf => ?_)
      refine V_if_eq C (pc := 51) (tgt := 66) dX2_faultOf_51 (by decide) hf (fun hf => ?_) (fun hf => ?_)
      · refine V_iinc3 C (pc := 66) (c1 := (1 : Int32)) dX2_faultOf_66 (by decide) (by rw [hm]; decide) ?_
        refine V_goto C (pc := 69) (tgt := 28) dX2_faultOf_69 (by decide) ?_
        exact V.mono [true, true, true, true, false] rfl (ih _ _ _ hf)
      · refine V_aload0 C (pc := 54) dX2_faultOf_54 ?_
        refine gf_RX2_9 C (pc := 55) dX2_faultOf_55 ?_
        refine V_iload4 C (pc := 58) dX2_faultOf_58 ?_
        refine alD_23 C (pc := 60) dX2_faultOf_60 hf (fun hf => ?_)
        refine V_if_ne C (pc := 61) (tgt := 66) dX2_faultOf_61 (by decide) hf (fun hf => ?_) (fun hf => ?_)
        · refine V_iinc3 C (pc := 66) (c1 := (1 : Int32)) dX2_faultOf_66 (by decide) (by rw [hm]; decide) ?_
          refine V_goto C (pc := 69) (tgt := 28) dX2_faultOf_69 (by decide) ?_
          exact V.mono [true, true, true, true, false] rfl (ih _ _ _ hf)
        · refine V_iconst C (pc := 64) (v := (4 : Int32)) (by decide) dX2_faultOf_64 ?_
          exact V_iret C (pc := 65) rfl (Nat.le_refl 0) dX2_faultOf_65 ⟨hf, rfl⟩
def f_X2_faultOf (N : Nat) (M : Mm) (x1 : Int32) (x2 : Int32) : Option Int32 := (bd (f_X5_reaches M x1) (fun r5 => (if r5 = 0 then (bd (f_X5_known M x1) (fun r18 => (if r18 = 0 then (some (3 : Int32)) else (f_X2_faultOf_28 N M N x1 x2 (0 : Int32))))) else (some (2 : Int32)))))
set_option maxRecDepth 100000 in
set_option maxHeartbeats 4000000 in
theorem t_X2_faultOf {Z : Zz} {G : Gm} {a : Nat → Nat} {N : Nat} {o : Int32} {c1 c2 : Nat} {M : Mm} {x1 x2 : Int32} (C : CX (wD Z a) Z nE G cX2_faultOf RX2 4 (some .int) (PqR o (c1, c2, M)) 0) (hm : (Gc G).maxLocals = 5) (hf : f_X2_faultOf N M x1 x2 = some o) : V (wD Z a) Z G 0 0 [some (.ref (a 6)), some (.int x1), some (.int x2), none, none] [] (c1, c2, M) := by
  unfold f_X2_faultOf at hf
  refine V_aload0 C (pc := 0) dX2_faultOf_0 ?_
  refine gf_RX2_22 C (pc := 1) dX2_faultOf_1 ?_
  refine V_iload1 C (pc := 4) dX2_faultOf_4 ?_
  refine V_cR C (pc := 5) (dep2 := 0) (As := [.int x1]) (rest := []) (fun r0 h0 => c_X5_reaches h0) lb_X5_reaches lk_RX2_56 wm_n (by decide) (Nat.le_refl 0) 2 5 rfl rfl rfl rfl (Nat.le_of_ble_eq_true rfl) dX2_faultOf_5 hf (fun r5 hf => ?_)
  refine V_if_eq C (pc := 8) (tgt := 13) dX2_faultOf_8 (by decide) hf (fun hf => ?_) (fun hf => ?_)
  · refine V_aload0 C (pc := 13) dX2_faultOf_13 ?_
    refine gf_RX2_22 C (pc := 14) dX2_faultOf_14 ?_
    refine V_iload1 C (pc := 17) dX2_faultOf_17 ?_
    refine V_cR C (pc := 18) (dep2 := 0) (As := [.int x1]) (rest := []) (fun r0 h0 => c_X5_known h0) lb_X5_known lk_RX2_61 wm_n (by decide) (Nat.le_refl 0) 2 5 rfl rfl rfl rfl (Nat.le_of_ble_eq_true rfl) dX2_faultOf_18 hf (fun r18 hf => ?_)
    refine V_if_ne C (pc := 21) (tgt := 26) dX2_faultOf_21 (by decide) hf (fun hf => ?_) (fun hf => ?_)
    · refine V_iconst C (pc := 26) (v := (0 : Int32)) (by decide) dX2_faultOf_26 ?_
      refine V_istore3 C (pc := 27) dX2_faultOf_27 (by rw [hm]; decide) ?_
      exact V.mono [true, true, true, true, false] rfl (t_X2_faultOf_28 C hm N _ _ _ hf)
    · refine V_iconst C (pc := 24) (v := (3 : Int32)) (by decide) dX2_faultOf_24 ?_
      exact V_iret C (pc := 25) rfl (Nat.le_refl 0) dX2_faultOf_25 ⟨hf, rfl⟩
  · refine V_iconst C (pc := 11) (v := (2 : Int32)) (by decide) dX2_faultOf_11 ?_
    exact V_iret C (pc := 12) rfl (Nat.le_refl 0) dX2_faultOf_12 ⟨hf, rfl⟩
set_option maxRecDepth 100000 in
theorem c_X2_faultOf {Z : Zz} {a : Nat → Nat} {N : Nat} {c1 c2 : Nat} {M : Mm} {x1 x2 : Int32} {r0 : Int32} (hf : f_X2_faultOf N M x1 x2 = some r0) : CtI (wD Z a) Z nE yX2_faultOf cX2_faultOf 5 (some .int) 4 0 [.ref (a 6), .int x1, .int x2] (c1, c2, M) (PqR r0 (c1, c2, M)) := CtI_of (by decide +kernel) (Or.inl rfl) (List.forall_mem_cons.mpr ⟨rfl, List.forall_mem_cons.mpr ⟨rfl, List.forall_mem_cons.mpr ⟨rfl, fun _ h9 => nomatch h9⟩⟩⟩) (Nat.le_of_ble_eq_true rfl) (fun G C hm => t_X2_faultOf (o := r0) C hm hf)
def f_X2_examine_45 (N : Nat) (k18 : Int32 → Int32 → Mm → Option (Int32 × Mm)) (x1 : Int32) (x2 : Int32) (t0 : Int32) (M : Mm) : Option (Int32 × Mm) := (if t0 = 0 then (k18 x1 (x2 + (1 : Int32)) M) else (some (t0, (sI M 18 x2))))
set_option maxRecDepth 100000 in
set_option maxHeartbeats 4000000 in
theorem t_X2_examine_45 {Z : Zz} {G : Gm} {a : Nat → Nat} {N : Nat} {o : (Int32 × Mm)} {c1 c2 : Nat} {M : Mm} {k18 : Int32 → Int32 → Mm → Option (Int32 × Mm)} {x1 x2 t0 : Int32} (C : CX (wD Z a) Z nE G cX2_examine RX2 5 (some .int) (PqW o.1 o.2) 0) (hm : (Gc G).maxLocals = 4) (hk18 : ∀ (x1 x2 : Int32) (c1 c2 : Nat) (M : Mm), k18 x1 x2 M = some o → V (wD Z a) Z G 0 18 [some (.ref (a 6)), some (.int x1), some (.int x2), none] [] (c1, c2, M)) (hf : f_X2_examine_45 N k18 x1 x2 t0 M = some o) : V (wD Z a) Z G 0 45 [some (.ref (a 6)), some (.int x1), some (.int x2), none] [.int t0] (c1, c2, M) := by
  unfold f_X2_examine_45 at hf
  refine V_istore3 C (pc := 45) dX2_examine_45 (by rw [hm]; decide) ?_
  refine V_iload3 C (pc := 46) dX2_examine_46 ?_
  refine V_if_eq C (pc := 47) (tgt := 57) dX2_examine_47 (by decide) hf (fun hf => ?_) (fun hf => ?_)
  · refine V_iinc2 C (pc := 57) (c1 := (1 : Int32)) dX2_examine_57 (by decide) (by rw [hm]; decide) ?_
    refine V_goto C (pc := 60) (tgt := 18) dX2_examine_60 (by decide) ?_
    exact V.mono [true, true, true, false] rfl (hk18 _ _ c1 c2 M hf)
  · refine V_aload0 C (pc := 50) dX2_examine_50 ?_
    refine V_iload2 C (pc := 51) dX2_examine_51 ?_
    refine pf_RX2_19 C (pc := 52) dX2_examine_52 ?_
    refine V_iload3 C (pc := 55) dX2_examine_55 ?_
    exact V_iret C (pc := 56) rfl (Nat.le_refl 0) dX2_examine_56 (pqW hf)
def f_X2_examine_18 (N : Nat) : Nat → Int32 → Int32 → Mm → Option (Int32 × Mm)
  | 0, _, _, _ => none
  | n + 1, x1, x2, M => (if (4096 : Int32) ≤ x2 then (some ((0 : Int32), (sI M 18 (-1 : Int32)))) else (if inb x2 4096 then (if (gA M 23 x2) = (1 : Int32) then (bd (f_X2_faultOf N M x2 x1) (fun r38 => (f_X2_examine_45 N (f_X2_examine_18 N n) x1 x2 r38 M))) else (f_X2_examine_45 N (f_X2_examine_18 N n) x1 x2 (0 : Int32) M)) else none))
set_option maxRecDepth 100000 in
set_option maxHeartbeats 4000000 in
theorem t_X2_examine_18 {Z : Zz} {G : Gm} {a : Nat → Nat} {N : Nat} {o : (Int32 × Mm)} (C : CX (wD Z a) Z nE G cX2_examine RX2 5 (some .int) (PqW o.1 o.2) 0) (hm : (Gc G).maxLocals = 4) : ∀ (n : Nat) (x1 x2 : Int32) (c1 c2 : Nat) (M : Mm), f_X2_examine_18 N n x1 x2 M = some o → V (wD Z a) Z G 0 18 [some (.ref (a 6)), some (.int x1), some (.int x2), none] [] (c1, c2, M) := by
  intro n
  induction n with
  | zero => intro x1 x2 c1 c2 M hf; rw [f_X2_examine_18] at hf; cases hf
  | succ n ih =>
    intro x1 x2 c1 c2 M hf
    rw [f_X2_examine_18] at hf
    refine V_iload2 C (pc := 18) dX2_examine_18 ?_
    refine V_sipush C (pc := 19) (v := (4096 : Int32)) (by decide) dX2_examine_19 ?_
    refine V_icmp_ge C (pc := 22) (tgt := 63) dX2_examine_22 (by decide) hf (fun hf => ?_) (fun hf => ?_)
    · refine V_aload0 C (pc := 63) dX2_examine_63 ?_
      refine V_iconst C (pc := 64) (v := (-1 : Int32)) (by decide) dX2_examine_64 ?_
      refine pf_RX2_19 C (pc := 65) dX2_examine_65 ?_
      refine V_iconst C (pc := 68) (v := (0 : Int32)) (by decide) dX2_examine_68 ?_
      exact V_iret C (pc := 69) rfl (Nat.le_refl 0) dX2_examine_69 (pqW hf)
    · refine V_aload0 C (pc := 25) dX2_examine_25 ?_
      refine gf_RX2_9 C (pc := 26) dX2_examine_26 ?_
      refine V_iload2 C (pc := 29) dX2_examine_29 ?_
      refine alD_23 C (pc := 30) dX2_examine_30 hf (fun hf => ?_)
      refine V_iconst C (pc := 31) (v := (1 : Int32)) (by decide) dX2_examine_31 ?_
      refine V_icmp_ne C (pc := 32) (tgt := 44) dX2_examine_32 (by decide) hf (fun hf => ?_) (fun hf => ?_)
      · refine V_iconst C (pc := 44) (v := (0 : Int32)) (by decide) dX2_examine_44 ?_
        exact V.mono [true, true, true, false] rfl (t_X2_examine_45 C hm ih hf)
      · refine V_aload0 C (pc := 35) dX2_examine_35 ?_
        refine V_iload2 C (pc := 36) dX2_examine_36 ?_
        refine V_iload1 C (pc := 37) dX2_examine_37 ?_
        refine V_cR C (pc := 38) (dep2 := 4) (As := [.int x2, .int x1]) (rest := []) (fun r0 h0 => c_X2_faultOf h0) lb_X2_faultOf lk_RX2_53 wm_n (by decide) (Nat.le_refl 0) 6 2 rfl rfl rfl rfl (Nat.le_of_ble_eq_true rfl) dX2_examine_38 hf (fun r38 hf => ?_)
        refine V_goto C (pc := 41) (tgt := 45) dX2_examine_41 (by decide) ?_
        exact V.mono [true, true, true, false] rfl (t_X2_examine_45 C hm ih hf)
def f_X2_examine (N : Nat) (x1 : Int32) (M : Mm) : Option (Int32 × Mm) := (if inb (0 : Int32) 4096 then (if (gA (sI M 18 (0 : Int32)) 23 (0 : Int32)) = 0 then (some ((1 : Int32), (sI M 18 (0 : Int32)))) else (f_X2_examine_18 N N x1 (0 : Int32) (sI M 18 (0 : Int32)))) else none)
set_option maxRecDepth 100000 in
set_option maxHeartbeats 4000000 in
theorem t_X2_examine {Z : Zz} {G : Gm} {a : Nat → Nat} {N : Nat} {o : (Int32 × Mm)} {c1 c2 : Nat} {M : Mm} {x1 : Int32} (C : CX (wD Z a) Z nE G cX2_examine RX2 5 (some .int) (PqW o.1 o.2) 0) (hm : (Gc G).maxLocals = 4) (hf : f_X2_examine N x1 M = some o) : V (wD Z a) Z G 0 0 [some (.ref (a 6)), some (.int x1), none, none] [] (c1, c2, M) := by
  unfold f_X2_examine at hf
  refine V_aload0 C (pc := 0) dX2_examine_0 ?_
  refine V_iconst C (pc := 1) (v := (0 : Int32)) (by decide) dX2_examine_1 ?_
  refine pf_RX2_19 C (pc := 2) dX2_examine_2 ?_
  refine V_aload0 C (pc := 5) dX2_examine_5 ?_
  refine gf_RX2_9 C (pc := 6) dX2_examine_6 ?_
  refine V_iconst C (pc := 9) (v := (0 : Int32)) (by decide) dX2_examine_9 ?_
  refine alD_23 C (pc := 10) dX2_examine_10 hf (fun hf => ?_)
  refine V_if_ne C (pc := 11) (tgt := 16) dX2_examine_11 (by decide) hf (fun hf => ?_) (fun hf => ?_)
  · refine V_iconst C (pc := 16) (v := (0 : Int32)) (by decide) dX2_examine_16 ?_
    refine V_istore2 C (pc := 17) dX2_examine_17 (by rw [hm]; decide) ?_
    exact V.mono [true, true, true, false] rfl (t_X2_examine_18 C hm N _ _ c1 c2 (sI M 18 (0 : Int32)) hf)
  · refine V_iconst C (pc := 14) (v := (1 : Int32)) (by decide) dX2_examine_14 ?_
    exact V_iret C (pc := 15) rfl (Nat.le_refl 0) dX2_examine_15 (pqW hf)
set_option maxRecDepth 100000 in
theorem c_X2_examine {Z : Zz} {a : Nat → Nat} {N : Nat} {c1 c2 : Nat} {M : Mm} {x1 : Int32} {r0 : Int32} {M0 : Mm} (hf : f_X2_examine N x1 M = some (r0, M0)) : CtI (wD Z a) Z nE yX2_examine cX2_examine 4 (some .int) 5 0 [.ref (a 6), .int x1] (c1, c2, M) (PqW r0 M0) := CtI_of (by decide +kernel) (Or.inl rfl) (List.forall_mem_cons.mpr ⟨rfl, List.forall_mem_cons.mpr ⟨rfl, fun _ h9 => nomatch h9⟩⟩) (Nat.le_of_ble_eq_true rfl) (fun G C hm => t_X2_examine (o := (r0, M0)) C hm hf)
def f_X2_turn (x1 : Int32) (M : Mm) : Option (Int32 × Mm) := (if inb x1 4096 then (if inb x1 4096 then (if inb x1 4096 then (if (gA (sA M 23 x1 (vp_nar .byte (((gA M 23 x1) ^^^ (1 : Int32))).toInt8.toInt32)) 23 x1) = (1 : Int32) then (if inb x1 4096 then (some ((gA (sI (sA M 23 x1 (vp_nar .byte (((gA M 23 x1) ^^^ (1 : Int32))).toInt8.toInt32)) 17 ((gI (sA M 23 x1 (vp_nar .byte (((gA M 23 x1) ^^^ (1 : Int32))).toInt8.toInt32)) 17) + (1 : Int32))) 23 x1), (sI (sA M 23 x1 (vp_nar .byte (((gA M 23 x1) ^^^ (1 : Int32))).toInt8.toInt32)) 17 ((gI (sA M 23 x1 (vp_nar .byte (((gA M 23 x1) ^^^ (1 : Int32))).toInt8.toInt32)) 17) + (1 : Int32))))) else none) else (if inb x1 4096 then (some ((gA (sI (sA M 23 x1 (vp_nar .byte (((gA M 23 x1) ^^^ (1 : Int32))).toInt8.toInt32)) 17 ((gI (sA M 23 x1 (vp_nar .byte (((gA M 23 x1) ^^^ (1 : Int32))).toInt8.toInt32)) 17) + (-1 : Int32))) 23 x1), (sI (sA M 23 x1 (vp_nar .byte (((gA M 23 x1) ^^^ (1 : Int32))).toInt8.toInt32)) 17 ((gI (sA M 23 x1 (vp_nar .byte (((gA M 23 x1) ^^^ (1 : Int32))).toInt8.toInt32)) 17) + (-1 : Int32))))) else none)) else none) else none) else none)
set_option maxRecDepth 100000 in
set_option maxHeartbeats 4000000 in
theorem t_X2_turn {Z : Zz} {G : Gm} {a : Nat → Nat} {o : (Int32 × Mm)} {c1 c2 : Nat} {M : Mm} {x1 : Int32} (C : CX (wD Z a) Z nE G cX2_turn RX2 0 (some .int) (PqW o.1 o.2) 0) (hm : (Gc G).maxLocals = 2) (hf : f_X2_turn x1 M = some o) : V (wD Z a) Z G 0 0 [some (.ref (a 6)), some (.int x1)] [] (c1, c2, M) := by
  unfold f_X2_turn at hf
  refine V_aload0 C (pc := 0) dX2_turn_0 ?_
  refine gf_RX2_9 C (pc := 1) dX2_turn_1 ?_
  refine V_iload1 C (pc := 4) dX2_turn_4 ?_
  refine V_dup2 C (pc := 5) dX2_turn_5 ?_
  refine alD_23 C (pc := 6) dX2_turn_6 hf (fun hf => ?_)
  refine V_iconst C (pc := 7) (v := (1 : Int32)) (by decide) dX2_turn_7 ?_
  refine V_ixor C (pc := 8) dX2_turn_8 ?_
  refine V_i2b C (pc := 9) dX2_turn_9 ?_
  refine asD_23 C (pc := 10) dX2_turn_10 hf (fun hf => ?_)
  refine V_aload0 C (pc := 11) dX2_turn_11 ?_
  refine V_dupr C (pc := 12) dX2_turn_12 ?_
  refine gf_RX2_15 C (pc := 13) dX2_turn_13 ?_
  refine V_aload0 C (pc := 16) dX2_turn_16 ?_
  refine gf_RX2_9 C (pc := 17) dX2_turn_17 ?_
  refine V_iload1 C (pc := 20) dX2_turn_20 ?_
  refine alD_23 C (pc := 21) dX2_turn_21 hf (fun hf => ?_)
  refine V_iconst C (pc := 22) (v := (1 : Int32)) (by decide) dX2_turn_22 ?_
  refine V_icmp_ne C (pc := 23) (tgt := 30) dX2_turn_23 (by decide) hf (fun hf => ?_) (fun hf => ?_)
  · refine V_iconst C (pc := 30) (v := (-1 : Int32)) (by decide) dX2_turn_30 ?_
    refine V_iadd C (pc := 31) dX2_turn_31 ?_
    refine pf_RX2_15 C (pc := 32) dX2_turn_32 ?_
    refine V_aload0 C (pc := 35) dX2_turn_35 ?_
    refine gf_RX2_9 C (pc := 36) dX2_turn_36 ?_
    refine V_iload1 C (pc := 39) dX2_turn_39 ?_
    refine alD_23 C (pc := 40) dX2_turn_40 hf (fun hf => ?_)
    exact V_iret C (pc := 41) rfl (Nat.le_refl 0) dX2_turn_41 (pqW hf)
  · refine V_iconst C (pc := 26) (v := (1 : Int32)) (by decide) dX2_turn_26 ?_
    refine V_goto C (pc := 27) (tgt := 31) dX2_turn_27 (by decide) ?_
    refine V_iadd C (pc := 31) dX2_turn_31 ?_
    refine pf_RX2_15 C (pc := 32) dX2_turn_32 ?_
    refine V_aload0 C (pc := 35) dX2_turn_35 ?_
    refine gf_RX2_9 C (pc := 36) dX2_turn_36 ?_
    refine V_iload1 C (pc := 39) dX2_turn_39 ?_
    refine alD_23 C (pc := 40) dX2_turn_40 hf (fun hf => ?_)
    exact V_iret C (pc := 41) rfl (Nat.le_refl 0) dX2_turn_41 (pqW hf)
set_option maxRecDepth 100000 in
theorem c_X2_turn {Z : Zz} {a : Nat → Nat} {c1 c2 : Nat} {M : Mm} {x1 : Int32} {r0 : Int32} {M0 : Mm} (hf : f_X2_turn x1 M = some (r0, M0)) : CtI (wD Z a) Z nE yX2_turn cX2_turn 2 (some .int) 0 0 [.ref (a 6), .int x1] (c1, c2, M) (PqW r0 M0) := CtI_of (by decide +kernel) (Or.inl rfl) (List.forall_mem_cons.mpr ⟨rfl, List.forall_mem_cons.mpr ⟨rfl, fun _ h9 => nomatch h9⟩⟩) (Nat.le_of_ble_eq_true rfl) (fun G C hm => t_X2_turn (o := (r0, M0)) C hm hf)
def f_X3_setName (x1 : Int32) (x2 : Int32) (x3 : Int32) (M : Mm) : Option Mm := (if inb ((x1 * (4 : Int32)) + x2) 36 then (some (sA M 10 ((x1 * (4 : Int32)) + x2) x3)) else none)
set_option maxRecDepth 100000 in
set_option maxHeartbeats 4000000 in
theorem t_X3_setName {Z : Zz} {G : Gm} {a : Nat → Nat} {o : Mm} {c1 c2 : Nat} {M : Mm} {x1 x2 x3 : Int32} (C : CX (wD Z a) Z nE G cX3_setName RX3 0 none (PqV o) 0) (hm : (Gc G).maxLocals = 4) (hf : f_X3_setName x1 x2 x3 M = some o) : V (wD Z a) Z G 0 0 [some (.ref (a 1)), some (.int x1), some (.int x2), some (.int x3)] [] (c1, c2, M) := by
  unfold f_X3_setName at hf
  refine V_aload0 C (pc := 0) dX3_setName_0 ?_
  refine gf_RX3_18 C (pc := 1) dX3_setName_1 ?_
  refine V_iload1 C (pc := 4) dX3_setName_4 ?_
  refine V_iconst C (pc := 5) (v := (4 : Int32)) (by decide) dX3_setName_5 ?_
  refine V_imul C (pc := 6) dX3_setName_6 ?_
  refine V_iload2 C (pc := 7) dX3_setName_7 ?_
  refine V_iadd C (pc := 8) dX3_setName_8 ?_
  refine V_iload3 C (pc := 9) dX3_setName_9 ?_
  refine asD_10 C (pc := 10) dX3_setName_10 hf (fun hf => ?_)
  exact V_vret C (pc := 11) rfl (Nat.le_refl 0) dX3_setName_11 (pqV hf)
set_option maxRecDepth 100000 in
theorem c_X3_setName {Z : Zz} {a : Nat → Nat} {c1 c2 : Nat} {M : Mm} {x1 x2 x3 : Int32} {M0 : Mm} (hf : f_X3_setName x1 x2 x3 M = some M0) : CtV (wD Z a) Z nE yX3_setName cX3_setName 4 0 0 [.ref (a 1), .int x1, .int x2, .int x3] (c1, c2, M) (PqV M0) := CtV_of (by decide +kernel) (List.forall_mem_cons.mpr ⟨rfl, List.forall_mem_cons.mpr ⟨rfl, List.forall_mem_cons.mpr ⟨rfl, List.forall_mem_cons.mpr ⟨rfl, fun _ h9 => nomatch h9⟩⟩⟩⟩) (Nat.le_of_ble_eq_true rfl) (fun G C hm => t_X3_setName (o := M0) C hm hf)
def f_X3_begin_17 (N : Nat) : Nat → Int32 → Int32 → Mm → Option Mm
  | 0, _, _, _ => none
  | n + 1, x1, x4, M => (if (4 : Int32) ≤ x4 then (some M) else (bd (f_X3_setName x1 x4 (-1 : Int32) M) (fun M28 => ((f_X3_begin_17 N n) x1 (x4 + (1 : Int32)) M28))))
set_option maxRecDepth 100000 in
set_option maxHeartbeats 4000000 in
theorem t_X3_begin_17 {Z : Zz} {G : Gm} {a : Nat → Nat} {N : Nat} {o : Mm} (C : CX (wD Z a) Z nE G cX3_begin RX3 1 none (PqV o) 0) (hm : (Gc G).maxLocals = 5) : ∀ (n : Nat) (x1 x4 : Int32) (c1 c2 : Nat) (M : Mm), f_X3_begin_17 N n x1 x4 M = some o → V (wD Z a) Z G 0 17 [some (.ref (a 1)), some (.int x1), none, none, some (.int x4)] [] (c1, c2, M) := by
  intro n
  induction n with
  | zero => intro x1 x4 c1 c2 M hf; rw [f_X3_begin_17] at hf; cases hf
  | succ n ih =>
    intro x1 x4 c1 c2 M hf
    rw [f_X3_begin_17] at hf
    refine V_iload4 C (pc := 17) dX3_begin_17 ?_
    refine V_iconst C (pc := 19) (v := (4 : Int32)) (by decide) dX3_begin_19 ?_
    refine V_icmp_ge C (pc := 20) (tgt := 37) dX3_begin_20 (by decide) hf (fun hf => ?_) (fun hf => ?_)
    · exact V_vret C (pc := 37) rfl (Nat.le_refl 0) dX3_begin_37 (pqV hf)
    · refine V_aload0 C (pc := 23) dX3_begin_23 ?_
      refine V_iload1 C (pc := 24) dX3_begin_24 ?_
      refine V_iload4 C (pc := 25) dX3_begin_25 ?_
      refine V_iconst C (pc := 27) (v := (-1 : Int32)) (by decide) dX3_begin_27 ?_
      refine V_cV C (pc := 28) (dep2 := 0) (As := [.int x1, .int x4, .int (-1 : Int32)]) (rest := []) (fun M0 h0 => c_X3_setName h0) lb_X3_setName lk_RX3_27 wm_n (by decide) (Nat.le_refl 0) 1 3 rfl rfl rfl rfl (Nat.le_of_ble_eq_true rfl) dX3_begin_28 hf (fun c1 c2 M28 hf => ?_)
      refine V_iinc4 C (pc := 31) (c1 := (1 : Int32)) dX3_begin_31 (by decide) (by rw [hm]; decide) ?_
      refine V_goto C (pc := 34) (tgt := 17) dX3_begin_34 (by decide) ?_
      exact V.mono [true, true, false, false, true] rfl (ih _ _ c1 c2 M28 hf)
def f_X3_begin (N : Nat) (x1 : Int32) (x2 : Int32) (x3 : Int32) (M : Mm) : Option Mm := (if inb x1 9 then (if inb x1 9 then (f_X3_begin_17 N N x1 (0 : Int32) (sA (sA M 8 x1 x3) 9 x1 x2)) else none) else none)
set_option maxRecDepth 100000 in
set_option maxHeartbeats 4000000 in
theorem t_X3_begin {Z : Zz} {G : Gm} {a : Nat → Nat} {N : Nat} {o : Mm} {c1 c2 : Nat} {M : Mm} {x1 x2 x3 : Int32} (C : CX (wD Z a) Z nE G cX3_begin RX3 1 none (PqV o) 0) (hm : (Gc G).maxLocals = 5) (hf : f_X3_begin N x1 x2 x3 M = some o) : V (wD Z a) Z G 0 0 [some (.ref (a 1)), some (.int x1), some (.int x2), some (.int x3), none] [] (c1, c2, M) := by
  unfold f_X3_begin at hf
  refine V_aload0 C (pc := 0) dX3_begin_0 ?_
  refine gf_RX3_9 C (pc := 1) dX3_begin_1 ?_
  refine V_iload1 C (pc := 4) dX3_begin_4 ?_
  refine V_iload3 C (pc := 5) dX3_begin_5 ?_
  refine asD_8 C (pc := 6) dX3_begin_6 hf (fun hf => ?_)
  refine V_aload0 C (pc := 7) dX3_begin_7 ?_
  refine gf_RX3_15 C (pc := 8) dX3_begin_8 ?_
  refine V_iload1 C (pc := 11) dX3_begin_11 ?_
  refine V_iload2 C (pc := 12) dX3_begin_12 ?_
  refine asD_9 C (pc := 13) dX3_begin_13 hf (fun hf => ?_)
  refine V_iconst C (pc := 14) (v := (0 : Int32)) (by decide) dX3_begin_14 ?_
  refine V_istore4 C (pc := 15) dX3_begin_15 (by rw [hm]; decide) ?_
  exact V.mono [true, true, false, false, true] rfl (t_X3_begin_17 C hm N _ _ c1 c2 (sA (sA M 8 x1 x3) 9 x1 x2) hf)
set_option maxRecDepth 100000 in
theorem c_X3_begin {Z : Zz} {a : Nat → Nat} {N : Nat} {c1 c2 : Nat} {M : Mm} {x1 x2 x3 : Int32} {M0 : Mm} (hf : f_X3_begin N x1 x2 x3 M = some M0) : CtV (wD Z a) Z nE yX3_begin cX3_begin 5 1 0 [.ref (a 1), .int x1, .int x2, .int x3] (c1, c2, M) (PqV M0) := CtV_of (by decide +kernel) (List.forall_mem_cons.mpr ⟨rfl, List.forall_mem_cons.mpr ⟨rfl, List.forall_mem_cons.mpr ⟨rfl, List.forall_mem_cons.mpr ⟨rfl, fun _ h9 => nomatch h9⟩⟩⟩⟩) (Nat.le_of_ble_eq_true rfl) (fun G C hm => t_X3_begin (o := M0) C hm hf)
def f_X3_bitOf (x0 : Int32) : Option Int32 := (if x0 = (-1 : Int32) then (some (0 : Int32)) else (some ((1 : Int32) <<< (x0 &&& 31))))
set_option maxRecDepth 100000 in
set_option maxHeartbeats 4000000 in
theorem t_X3_bitOf {Z : Zz} {G : Gm} {ws : va_W} {o : Int32} {x0 : Int32} (C : CX (fun _ : Unit => ws) Z tE G cX3_bitOf RX3 0 (some .int) (PqR o ()) 0) (hm : (Gc G).maxLocals = 1) (hf : f_X3_bitOf x0 = some o) : V (fun _ : Unit => ws) Z G 0 0 [some (.int x0)] [] () := by
  unfold f_X3_bitOf at hf
  refine V_iload0 C (pc := 0) dX3_bitOf_0 ?_
  refine V_iconst C (pc := 1) (v := (-1 : Int32)) (by decide) dX3_bitOf_1 ?_
  refine V_icmp_ne C (pc := 2) (tgt := 9) dX3_bitOf_2 (by decide) hf (fun hf => ?_) (fun hf => ?_)
  · refine V_iconst C (pc := 9) (v := (1 : Int32)) (by decide) dX3_bitOf_9 ?_
    refine V_iload0 C (pc := 10) dX3_bitOf_10 ?_
    refine V_ishl C (pc := 11) dX3_bitOf_11 ?_
    exact V_iret C (pc := 12) rfl (Nat.le_refl 0) dX3_bitOf_12 ⟨hf, rfl⟩
  · refine V_iconst C (pc := 5) (v := (0 : Int32)) (by decide) dX3_bitOf_5 ?_
    refine V_goto C (pc := 6) (tgt := 12) dX3_bitOf_6 (by decide) ?_
    exact V_iret C (pc := 12) rfl (Nat.le_refl 0) dX3_bitOf_12 ⟨hf, rfl⟩
set_option maxRecDepth 100000 in
theorem c_X3_bitOf {Z : Zz} {ws : va_W} {x0 : Int32} {r0 : Int32} (hf : f_X3_bitOf x0 = some r0) : CtI (fun _ : Unit => ws) Z tE yX3_bitOf cX3_bitOf 1 (some .int) 0 0 [.int x0] () (PqR r0 ()) := CtI_of (by decide +kernel) (Or.inl rfl) (List.forall_mem_cons.mpr ⟨rfl, fun _ h9 => nomatch h9⟩) (Nat.le_of_ble_eq_true rfl) (fun G C hm => t_X3_bitOf (o := r0) C hm hf)
def f_X3_drop (x1 : Int32) (M : Mm) : Option Mm := (if inb x1 9 then (if inb x1 9 then (some (sA (sA M 8 x1 (-1 : Int32)) 9 x1 (-1 : Int32))) else none) else none)
set_option maxRecDepth 100000 in
set_option maxHeartbeats 4000000 in
theorem t_X3_drop {Z : Zz} {G : Gm} {a : Nat → Nat} {o : Mm} {c1 c2 : Nat} {M : Mm} {x1 : Int32} (C : CX (wD Z a) Z nE G cX3_drop RX3 0 none (PqV o) 0) (hm : (Gc G).maxLocals = 2) (hf : f_X3_drop x1 M = some o) : V (wD Z a) Z G 0 0 [some (.ref (a 1)), some (.int x1)] [] (c1, c2, M) := by
  unfold f_X3_drop at hf
  refine V_aload0 C (pc := 0) dX3_drop_0 ?_
  refine gf_RX3_9 C (pc := 1) dX3_drop_1 ?_
  refine V_iload1 C (pc := 4) dX3_drop_4 ?_
  refine V_iconst C (pc := 5) (v := (-1 : Int32)) (by decide) dX3_drop_5 ?_
  refine asD_8 C (pc := 6) dX3_drop_6 hf (fun hf => ?_)
  refine V_aload0 C (pc := 7) dX3_drop_7 ?_
  refine gf_RX3_15 C (pc := 8) dX3_drop_8 ?_
  refine V_iload1 C (pc := 11) dX3_drop_11 ?_
  refine V_iconst C (pc := 12) (v := (-1 : Int32)) (by decide) dX3_drop_12 ?_
  refine asD_9 C (pc := 13) dX3_drop_13 hf (fun hf => ?_)
  exact V_vret C (pc := 14) rfl (Nat.le_refl 0) dX3_drop_14 (pqV hf)
set_option maxRecDepth 100000 in
theorem c_X3_drop {Z : Zz} {a : Nat → Nat} {c1 c2 : Nat} {M : Mm} {x1 : Int32} {M0 : Mm} (hf : f_X3_drop x1 M = some M0) : CtV (wD Z a) Z nE yX3_drop cX3_drop 2 0 0 [.ref (a 1), .int x1] (c1, c2, M) (PqV M0) := CtV_of (by decide +kernel) (List.forall_mem_cons.mpr ⟨rfl, List.forall_mem_cons.mpr ⟨rfl, fun _ h9 => nomatch h9⟩⟩) (Nat.le_of_ble_eq_true rfl) (fun G C hm => t_X3_drop (o := M0) C hm hf)
def f_X3_nameAt (M : Mm) (x1 : Int32) (x2 : Int32) : Option Int32 := (if inb ((x1 * (4 : Int32)) + x2) 36 then (some (gA M 10 ((x1 * (4 : Int32)) + x2))) else none)
set_option maxRecDepth 100000 in
set_option maxHeartbeats 4000000 in
theorem t_X3_nameAt {Z : Zz} {G : Gm} {a : Nat → Nat} {o : Int32} {c1 c2 : Nat} {M : Mm} {x1 x2 : Int32} (C : CX (wD Z a) Z nE G cX3_nameAt RX3 0 (some .int) (PqR o (c1, c2, M)) 0) (hm : (Gc G).maxLocals = 3) (hf : f_X3_nameAt M x1 x2 = some o) : V (wD Z a) Z G 0 0 [some (.ref (a 1)), some (.int x1), some (.int x2)] [] (c1, c2, M) := by
  unfold f_X3_nameAt at hf
  refine V_aload0 C (pc := 0) dX3_nameAt_0 ?_
  refine gf_RX3_18 C (pc := 1) dX3_nameAt_1 ?_
  refine V_iload1 C (pc := 4) dX3_nameAt_4 ?_
  refine V_iconst C (pc := 5) (v := (4 : Int32)) (by decide) dX3_nameAt_5 ?_
  refine V_imul C (pc := 6) dX3_nameAt_6 ?_
  refine V_iload2 C (pc := 7) dX3_nameAt_7 ?_
  refine V_iadd C (pc := 8) dX3_nameAt_8 ?_
  refine alD_10 C (pc := 9) dX3_nameAt_9 hf (fun hf => ?_)
  exact V_iret C (pc := 10) rfl (Nat.le_refl 0) dX3_nameAt_10 ⟨hf, rfl⟩
set_option maxRecDepth 100000 in
theorem c_X3_nameAt {Z : Zz} {a : Nat → Nat} {c1 c2 : Nat} {M : Mm} {x1 x2 : Int32} {r0 : Int32} (hf : f_X3_nameAt M x1 x2 = some r0) : CtI (wD Z a) Z nE yX3_nameAt cX3_nameAt 3 (some .int) 0 0 [.ref (a 1), .int x1, .int x2] (c1, c2, M) (PqR r0 (c1, c2, M)) := CtI_of (by decide +kernel) (Or.inl rfl) (List.forall_mem_cons.mpr ⟨rfl, List.forall_mem_cons.mpr ⟨rfl, List.forall_mem_cons.mpr ⟨rfl, fun _ h9 => nomatch h9⟩⟩⟩) (Nat.le_of_ble_eq_true rfl) (fun G C hm => t_X3_nameAt (o := r0) C hm hf)
def f_X3_firstNamedBit_2 (N : Nat) (M : Mm) : Nat → Int32 → Int32 → Option Int32
  | 0, _, _ => none
  | n + 1, x1, x2 => (if inb x1 9 then (if (gA M 8 x1) ≤ x2 then (some (0 : Int32)) else (bd (f_X3_nameAt M x1 x2) (fun r15 => (if r15 = (-1 : Int32) then ((f_X3_firstNamedBit_2 N M n) x1 (x2 + (1 : Int32))) else (bd (f_X3_nameAt M x1 x2) (fun r25 => (bd (f_X3_bitOf r25) (fun r28 => (some r28))))))))) else none)
set_option maxRecDepth 100000 in
set_option maxHeartbeats 4000000 in
theorem t_X3_firstNamedBit_2 {Z : Zz} {G : Gm} {a : Nat → Nat} {N : Nat} {o : Int32} {c1 c2 : Nat} {M : Mm} (C : CX (wD Z a) Z nE G cX3_firstNamedBit RX3 1 (some .int) (PqR o (c1, c2, M)) 0) (hm : (Gc G).maxLocals = 3) : ∀ (n : Nat) (x1 x2 : Int32) , f_X3_firstNamedBit_2 N M n x1 x2 = some o → V (wD Z a) Z G 0 2 [some (.ref (a 1)), some (.int x1), some (.int x2)] [] (c1, c2, M) := by
  intro n
  induction n with
  | zero => intro x1 x2 hf; rw [f_X3_firstNamedBit_2] at hf; cases hf
  | succ n ih =>
    intro x1 x2 hf
    rw [f_X3_firstNamedBit_2] at hf
    refine V_iload2 C (pc := 2) dX3_firstNamedBit_2 ?_
    refine V_aload0 C (pc := 3) dX3_firstNamedBit_3 ?_
    refine gf_RX3_9 C (pc := 4) dX3_firstNamedBit_4 ?_
    refine V_iload1 C (pc := 7) dX3_firstNamedBit_7 ?_
    refine alD_8 C (pc := 8) dX3_firstNamedBit_8 hf (fun hf => ?_)
    refine V_icmp_ge C (pc := 9) (tgt := 38) dX3_firstNamedBit_9 (by decide) hf (fun hf => ?_) (fun hf => ?_)
    · refine V_iconst C (pc := 38) (v := (0 : Int32)) (by decide) dX3_firstNamedBit_38 ?_
      exact V_iret C (pc := 39) rfl (Nat.le_refl 0) dX3_firstNamedBit_39 ⟨hf, rfl⟩
    · refine V_aload0 C (pc := 12) dX3_firstNamedBit_12 ?_
      refine V_iload1 C (pc := 13) dX3_firstNamedBit_13 ?_
      refine V_iload2 C (pc := 14) dX3_firstNamedBit_14 ?_
      refine V_cR C (pc := 15) (dep2 := 0) (As := [.int x1, .int x2]) (rest := []) (fun r0 h0 => c_X3_nameAt h0) lb_X3_nameAt lk_RX3_31 wm_n (by decide) (Nat.le_refl 0) 1 3 rfl rfl rfl rfl (Nat.le_of_ble_eq_true rfl) dX3_firstNamedBit_15 hf (fun r15 hf => ?_)
      refine V_iconst C (pc := 18) (v := (-1 : Int32)) (by decide) dX3_firstNamedBit_18 ?_
      refine V_icmp_eq C (pc := 19) (tgt := 32) dX3_firstNamedBit_19 (by decide) hf (fun hf => ?_) (fun hf => ?_)
      · refine V_iinc2 C (pc := 32) (c1 := (1 : Int32)) dX3_firstNamedBit_32 (by decide) (by rw [hm]; decide) ?_
        refine V_goto C (pc := 35) (tgt := 2) dX3_firstNamedBit_35 (by decide) ?_
        exact V.mono [true, true, true] rfl (ih _ _ hf)
      · refine V_aload0 C (pc := 22) dX3_firstNamedBit_22 ?_
        refine V_iload1 C (pc := 23) dX3_firstNamedBit_23 ?_
        refine V_iload2 C (pc := 24) dX3_firstNamedBit_24 ?_
        refine V_cR C (pc := 25) (dep2 := 0) (As := [.int x1, .int x2]) (rest := []) (fun r0 h0 => c_X3_nameAt h0) lb_X3_nameAt lk_RX3_31 wm_n (by decide) (Nat.le_refl 0) 1 3 rfl rfl rfl rfl (Nat.le_of_ble_eq_true rfl) dX3_firstNamedBit_25 hf (fun r25 hf => ?_)
        refine V_cS C (pc := 28) (dep2 := 0) (As := [.int r25]) (rest := []) (fun r0 h0 => c_X3_bitOf h0) lb_X3_bitOf lk_RX3_35 (by decide) (Nat.le_refl 0) rfl rfl (Nat.le_of_ble_eq_true rfl) dX3_firstNamedBit_28 hf (fun r28 hf => ?_)
        exact V_iret C (pc := 31) rfl (Nat.le_refl 0) dX3_firstNamedBit_31 ⟨hf, rfl⟩
def f_X3_firstNamedBit (N : Nat) (M : Mm) (x1 : Int32) : Option Int32 := (f_X3_firstNamedBit_2 N M N x1 (0 : Int32))
set_option maxRecDepth 100000 in
set_option maxHeartbeats 4000000 in
theorem t_X3_firstNamedBit {Z : Zz} {G : Gm} {a : Nat → Nat} {N : Nat} {o : Int32} {c1 c2 : Nat} {M : Mm} {x1 : Int32} (C : CX (wD Z a) Z nE G cX3_firstNamedBit RX3 1 (some .int) (PqR o (c1, c2, M)) 0) (hm : (Gc G).maxLocals = 3) (hf : f_X3_firstNamedBit N M x1 = some o) : V (wD Z a) Z G 0 0 [some (.ref (a 1)), some (.int x1), none] [] (c1, c2, M) := by
  unfold f_X3_firstNamedBit at hf
  refine V_iconst C (pc := 0) (v := (0 : Int32)) (by decide) dX3_firstNamedBit_0 ?_
  refine V_istore2 C (pc := 1) dX3_firstNamedBit_1 (by rw [hm]; decide) ?_
  exact V.mono [true, true, true] rfl (t_X3_firstNamedBit_2 C hm N _ _ hf)
set_option maxRecDepth 100000 in
theorem c_X3_firstNamedBit {Z : Zz} {a : Nat → Nat} {N : Nat} {c1 c2 : Nat} {M : Mm} {x1 : Int32} {r0 : Int32} (hf : f_X3_firstNamedBit N M x1 = some r0) : CtI (wD Z a) Z nE yX3_firstNamedBit cX3_firstNamedBit 3 (some .int) 1 0 [.ref (a 1), .int x1] (c1, c2, M) (PqR r0 (c1, c2, M)) := CtI_of (by decide +kernel) (Or.inl rfl) (List.forall_mem_cons.mpr ⟨rfl, List.forall_mem_cons.mpr ⟨rfl, fun _ h9 => nomatch h9⟩⟩) (Nat.le_of_ble_eq_true rfl) (fun G C hm => t_X3_firstNamedBit (o := r0) C hm hf)
def f_X3_has (M : Mm) (x1 : Int32) : Option Int32 := (if inb x1 9 then (if (gA M 8 x1) = (-1 : Int32) then (some (0 : Int32)) else (some (1 : Int32))) else none)
set_option maxRecDepth 100000 in
set_option maxHeartbeats 4000000 in
theorem t_X3_has {Z : Zz} {G : Gm} {a : Nat → Nat} {o : Int32} {c1 c2 : Nat} {M : Mm} {x1 : Int32} (C : CX (wD Z a) Z nE G cX3_has RX3 0 (some .boolean) (PqR o (c1, c2, M)) 0) (hm : (Gc G).maxLocals = 2) (hf : f_X3_has M x1 = some o) : V (wD Z a) Z G 0 0 [some (.ref (a 1)), some (.int x1)] [] (c1, c2, M) := by
  unfold f_X3_has at hf
  refine V_aload0 C (pc := 0) dX3_has_0 ?_
  refine gf_RX3_9 C (pc := 1) dX3_has_1 ?_
  refine V_iload1 C (pc := 4) dX3_has_4 ?_
  refine alD_8 C (pc := 5) dX3_has_5 hf (fun hf => ?_)
  refine V_iconst C (pc := 6) (v := (-1 : Int32)) (by decide) dX3_has_6 ?_
  refine V_icmp_eq C (pc := 7) (tgt := 14) dX3_has_7 (by decide) hf (fun hf => ?_) (fun hf => ?_)
  · refine V_iconst C (pc := 14) (v := (0 : Int32)) (by decide) dX3_has_14 ?_
    exact V_zret C (pc := 15) rfl (Nat.le_refl 0) (by decide) dX3_has_15 ⟨hf, rfl⟩
  · refine V_iconst C (pc := 10) (v := (1 : Int32)) (by decide) dX3_has_10 ?_
    refine V_goto C (pc := 11) (tgt := 15) dX3_has_11 (by decide) ?_
    exact V_zret C (pc := 15) rfl (Nat.le_refl 0) (by decide) dX3_has_15 ⟨hf, rfl⟩
set_option maxRecDepth 100000 in
theorem c_X3_has {Z : Zz} {a : Nat → Nat} {c1 c2 : Nat} {M : Mm} {x1 : Int32} {r0 : Int32} (hf : f_X3_has M x1 = some r0) : CtI (wD Z a) Z nE yX3_has cX3_has 2 (some .boolean) 0 0 [.ref (a 1), .int x1] (c1, c2, M) (PqR r0 (c1, c2, M)) := CtI_of (by decide +kernel) (Or.inr rfl) (List.forall_mem_cons.mpr ⟨rfl, List.forall_mem_cons.mpr ⟨rfl, fun _ h9 => nomatch h9⟩⟩) (Nat.le_of_ble_eq_true rfl) (fun G C hm => t_X3_has (o := r0) C hm hf)
def f_X3_hasPlace (M : Mm) (x1 : Int32) (x2 : Int32) : Option Int32 := (if x2 < 0 then (some (0 : Int32)) else (if inb x1 9 then (if (gA M 8 x1) ≤ x2 then (some (0 : Int32)) else (some (1 : Int32))) else none))
set_option maxRecDepth 100000 in
set_option maxHeartbeats 4000000 in
theorem t_X3_hasPlace {Z : Zz} {G : Gm} {a : Nat → Nat} {o : Int32} {c1 c2 : Nat} {M : Mm} {x1 x2 : Int32} (C : CX (wD Z a) Z nE G cX3_hasPlace RX3 0 (some .boolean) (PqR o (c1, c2, M)) 0) (hm : (Gc G).maxLocals = 3) (hf : f_X3_hasPlace M x1 x2 = some o) : V (wD Z a) Z G 0 0 [some (.ref (a 1)), some (.int x1), some (.int x2)] [] (c1, c2, M) := by
  unfold f_X3_hasPlace at hf
  refine V_iload2 C (pc := 0) dX3_hasPlace_0 ?_
  refine V_if_lt C (pc := 1) (tgt := 18) dX3_hasPlace_1 (by decide) hf (fun hf => ?_) (fun hf => ?_)
  · refine V_iconst C (pc := 18) (v := (0 : Int32)) (by decide) dX3_hasPlace_18 ?_
    exact V_zret C (pc := 19) rfl (Nat.le_refl 0) (by decide) dX3_hasPlace_19 ⟨hf, rfl⟩
  · refine V_iload2 C (pc := 4) dX3_hasPlace_4 ?_
    refine V_aload0 C (pc := 5) dX3_hasPlace_5 ?_
    refine gf_RX3_9 C (pc := 6) dX3_hasPlace_6 ?_
    refine V_iload1 C (pc := 9) dX3_hasPlace_9 ?_
    refine alD_8 C (pc := 10) dX3_hasPlace_10 hf (fun hf => ?_)
    refine V_icmp_ge C (pc := 11) (tgt := 18) dX3_hasPlace_11 (by decide) hf (fun hf => ?_) (fun hf => ?_)
    · refine V_iconst C (pc := 18) (v := (0 : Int32)) (by decide) dX3_hasPlace_18 ?_
      exact V_zret C (pc := 19) rfl (Nat.le_refl 0) (by decide) dX3_hasPlace_19 ⟨hf, rfl⟩
    · refine V_iconst C (pc := 14) (v := (1 : Int32)) (by decide) dX3_hasPlace_14 ?_
      refine V_goto C (pc := 15) (tgt := 19) dX3_hasPlace_15 (by decide) ?_
      exact V_zret C (pc := 19) rfl (Nat.le_refl 0) (by decide) dX3_hasPlace_19 ⟨hf, rfl⟩
set_option maxRecDepth 100000 in
theorem c_X3_hasPlace {Z : Zz} {a : Nat → Nat} {c1 c2 : Nat} {M : Mm} {x1 x2 : Int32} {r0 : Int32} (hf : f_X3_hasPlace M x1 x2 = some r0) : CtI (wD Z a) Z nE yX3_hasPlace cX3_hasPlace 3 (some .boolean) 0 0 [.ref (a 1), .int x1, .int x2] (c1, c2, M) (PqR r0 (c1, c2, M)) := CtI_of (by decide +kernel) (Or.inr rfl) (List.forall_mem_cons.mpr ⟨rfl, List.forall_mem_cons.mpr ⟨rfl, List.forall_mem_cons.mpr ⟨rfl, fun _ h9 => nomatch h9⟩⟩⟩) (Nat.le_of_ble_eq_true rfl) (fun G C hm => t_X3_hasPlace (o := r0) C hm hf)
def f_X3_namedBits_4 (N : Nat) (M : Mm) : Nat → Int32 → Int32 → Int32 → Option Int32
  | 0, _, _, _ => none
  | n + 1, x1, x2, x3 => (if inb x1 9 then (if (gA M 8 x1) ≤ x3 then (some x2) else (bd (f_X3_nameAt M x1 x3) (fun r18 => (bd (f_X3_bitOf r18) (fun r21 => ((f_X3_namedBits_4 N M n) x1 (x2 ||| r21) (x3 + (1 : Int32)))))))) else none)
set_option maxRecDepth 100000 in
set_option maxHeartbeats 4000000 in
theorem t_X3_namedBits_4 {Z : Zz} {G : Gm} {a : Nat → Nat} {N : Nat} {o : Int32} {c1 c2 : Nat} {M : Mm} (C : CX (wD Z a) Z nE G cX3_namedBits RX3 1 (some .int) (PqR o (c1, c2, M)) 0) (hm : (Gc G).maxLocals = 4) : ∀ (n : Nat) (x1 x2 x3 : Int32) , f_X3_namedBits_4 N M n x1 x2 x3 = some o → V (wD Z a) Z G 0 4 [some (.ref (a 1)), some (.int x1), some (.int x2), some (.int x3)] [] (c1, c2, M) := by
  intro n
  induction n with
  | zero => intro x1 x2 x3 hf; rw [f_X3_namedBits_4] at hf; cases hf
  | succ n ih =>
    intro x1 x2 x3 hf
    rw [f_X3_namedBits_4] at hf
    refine V_iload3 C (pc := 4) dX3_namedBits_4 ?_
    refine V_aload0 C (pc := 5) dX3_namedBits_5 ?_
    refine gf_RX3_9 C (pc := 6) dX3_namedBits_6 ?_
    refine V_iload1 C (pc := 9) dX3_namedBits_9 ?_
    refine alD_8 C (pc := 10) dX3_namedBits_10 hf (fun hf => ?_)
    refine V_icmp_ge C (pc := 11) (tgt := 32) dX3_namedBits_11 (by decide) hf (fun hf => ?_) (fun hf => ?_)
    · refine V_iload2 C (pc := 32) dX3_namedBits_32 ?_
      exact V_iret C (pc := 33) rfl (Nat.le_refl 0) dX3_namedBits_33 ⟨hf, rfl⟩
    · refine V_iload2 C (pc := 14) dX3_namedBits_14 ?_
      refine V_aload0 C (pc := 15) dX3_namedBits_15 ?_
      refine V_iload1 C (pc := 16) dX3_namedBits_16 ?_
      refine V_iload3 C (pc := 17) dX3_namedBits_17 ?_
      refine V_cR C (pc := 18) (dep2 := 0) (As := [.int x1, .int x3]) (rest := [.int x2]) (fun r0 h0 => c_X3_nameAt h0) lb_X3_nameAt lk_RX3_31 wm_n (by decide) (Nat.le_refl 0) 1 3 rfl rfl rfl rfl (Nat.le_of_ble_eq_true rfl) dX3_namedBits_18 hf (fun r18 hf => ?_)
      refine V_cS C (pc := 21) (dep2 := 0) (As := [.int r18]) (rest := [.int x2]) (fun r0 h0 => c_X3_bitOf h0) lb_X3_bitOf lk_RX3_35 (by decide) (Nat.le_refl 0) rfl rfl (Nat.le_of_ble_eq_true rfl) dX3_namedBits_21 hf (fun r21 hf => ?_)
      refine V_ior C (pc := 24) dX3_namedBits_24 ?_
      refine V_istore2 C (pc := 25) dX3_namedBits_25 (by rw [hm]; decide) ?_
      refine V_iinc3 C (pc := 26) (c1 := (1 : Int32)) dX3_namedBits_26 (by decide) (by rw [hm]; decide) ?_
      refine V_goto C (pc := 29) (tgt := 4) dX3_namedBits_29 (by decide) ?_
      exact V.mono [true, true, true, true] rfl (ih _ _ _ hf)
def f_X3_namedBits (N : Nat) (M : Mm) (x1 : Int32) : Option Int32 := (f_X3_namedBits_4 N M N x1 (0 : Int32) (0 : Int32))
set_option maxRecDepth 100000 in
set_option maxHeartbeats 4000000 in
theorem t_X3_namedBits {Z : Zz} {G : Gm} {a : Nat → Nat} {N : Nat} {o : Int32} {c1 c2 : Nat} {M : Mm} {x1 : Int32} (C : CX (wD Z a) Z nE G cX3_namedBits RX3 1 (some .int) (PqR o (c1, c2, M)) 0) (hm : (Gc G).maxLocals = 4) (hf : f_X3_namedBits N M x1 = some o) : V (wD Z a) Z G 0 0 [some (.ref (a 1)), some (.int x1), none, none] [] (c1, c2, M) := by
  unfold f_X3_namedBits at hf
  refine V_iconst C (pc := 0) (v := (0 : Int32)) (by decide) dX3_namedBits_0 ?_
  refine V_istore2 C (pc := 1) dX3_namedBits_1 (by rw [hm]; decide) ?_
  refine V_iconst C (pc := 2) (v := (0 : Int32)) (by decide) dX3_namedBits_2 ?_
  refine V_istore3 C (pc := 3) dX3_namedBits_3 (by rw [hm]; decide) ?_
  exact V.mono [true, true, true, true] rfl (t_X3_namedBits_4 C hm N _ _ _ hf)
set_option maxRecDepth 100000 in
theorem c_X3_namedBits {Z : Zz} {a : Nat → Nat} {N : Nat} {c1 c2 : Nat} {M : Mm} {x1 : Int32} {r0 : Int32} (hf : f_X3_namedBits N M x1 = some r0) : CtI (wD Z a) Z nE yX3_namedBits cX3_namedBits 4 (some .int) 1 0 [.ref (a 1), .int x1] (c1, c2, M) (PqR r0 (c1, c2, M)) := CtI_of (by decide +kernel) (Or.inl rfl) (List.forall_mem_cons.mpr ⟨rfl, List.forall_mem_cons.mpr ⟨rfl, fun _ h9 => nomatch h9⟩⟩) (Nat.le_of_ble_eq_true rfl) (fun G C hm => t_X3_namedBits (o := r0) C hm hf)
def f_X4_measure_35 (N : Nat) (k22 : Int32 → Int32 → Mm → Option Mm) : Nat → Int32 → Int32 → Int32 → Int32 → Mm → Option Mm
  | 0, _, _, _, _, _ => none
  | n + 1, x3, x4, x5, x6, M => (if (9 : Int32) ≤ x6 then (k22 x5 (x4 + (1 : Int32)) M) else (if inb x6 9 then (if (gA M 16 x6) = (-1 : Int32) then (if inb x6 9 then (if ((gA M 12 x6) &&& x3) = 0 then ((f_X4_measure_35 N k22 n) x3 x4 x5 (x6 + (1 : Int32)) M) else (if inb x6 9 then ((f_X4_measure_35 N k22 n) x3 x4 (x5 ||| ((1 : Int32) <<< (x6 &&& 31))) (x6 + (1 : Int32)) (sA M 16 x6 x4)) else none)) else none) else ((f_X4_measure_35 N k22 n) x3 x4 x5 (x6 + (1 : Int32)) M)) else none))
set_option maxRecDepth 100000 in
set_option maxHeartbeats 4000000 in
theorem t_X4_measure_35 {Z : Zz} {G : Gm} {a : Nat → Nat} {N : Nat} {o : Mm} {k22 : Int32 → Int32 → Mm → Option Mm} (C : CX (wD Z a) Z nE G cX4_measure RX4 1 none (PqV o) 0) (hm : (Gc G).maxLocals = 7) (hk22 : ∀ (x3 x4 : Int32) (c1 c2 : Nat) (M : Mm), k22 x3 x4 M = some o → V (wD Z a) Z G 0 22 [some (.ref (a 3)), some (.ref (a 12)), none, some (.int x3), some (.int x4), none, none] [] (c1, c2, M)) : ∀ (n : Nat) (x3 x4 x5 x6 : Int32) (c1 c2 : Nat) (M : Mm), f_X4_measure_35 N k22 n x3 x4 x5 x6 M = some o → V (wD Z a) Z G 0 35 [some (.ref (a 3)), some (.ref (a 12)), none, some (.int x3), some (.int x4), some (.int x5), some (.int x6)] [] (c1, c2, M) := by
  intro n
  induction n with
  | zero => intro x3 x4 x5 x6 c1 c2 M hf; rw [f_X4_measure_35] at hf; cases hf
  | succ n ih =>
    intro x3 x4 x5 x6 c1 c2 M hf
    rw [f_X4_measure_35] at hf
    refine V_iload6 C (pc := 35) dX4_measure_35 ?_
    refine V_bipush C (pc := 37) (v := (9 : Int32)) (by decide) dX4_measure_37 ?_
    refine V_icmp_ge C (pc := 39) (tgt := 86) dX4_measure_39 (by decide) hf (fun hf => ?_) (fun hf => ?_)
    · refine V_iload5 C (pc := 86) dX4_measure_86 ?_
      refine V_istore3 C (pc := 88) dX4_measure_88 (by rw [hm]; decide) ?_
      refine V_iinc4 C (pc := 89) (c1 := (1 : Int32)) dX4_measure_89 (by decide) (by rw [hm]; decide) ?_
      refine V_goto C (pc := 92) (tgt := 22) dX4_measure_92 (by decide) ?_
      exact V.mono [true, true, false, true, true, false, false] rfl (hk22 _ _ c1 c2 M hf)
    · refine V_aload0 C (pc := 42) dX4_measure_42 ?_
      refine gf_RX4_19 C (pc := 43) dX4_measure_43 ?_
      refine V_iload6 C (pc := 46) dX4_measure_46 ?_
      refine alD_16 C (pc := 48) dX4_measure_48 hf (fun hf => ?_)
      refine V_iconst C (pc := 49) (v := (-1 : Int32)) (by decide) dX4_measure_49 ?_
      refine V_icmp_ne C (pc := 50) (tgt := 80) dX4_measure_50 (by decide) hf (fun hf => ?_) (fun hf => ?_)
      · refine V_iinc6 C (pc := 80) (c1 := (1 : Int32)) dX4_measure_80 (by decide) (by rw [hm]; decide) ?_
        refine V_goto C (pc := 83) (tgt := 35) dX4_measure_83 (by decide) ?_
        exact V.mono [true, true, false, true, true, true, true] rfl (ih _ _ _ _ c1 c2 M hf)
      · refine V_aload1 C (pc := 53) dX4_measure_53 ?_
        refine V_iload6 C (pc := 54) dX4_measure_54 ?_
        refine alD_12 C (pc := 56) dX4_measure_56 hf (fun hf => ?_)
        refine V_iload3 C (pc := 57) dX4_measure_57 ?_
        refine V_iand C (pc := 58) dX4_measure_58 ?_
        refine V_if_eq C (pc := 59) (tgt := 80) dX4_measure_59 (by decide) hf (fun hf => ?_) (fun hf => ?_)
        · refine V_iinc6 C (pc := 80) (c1 := (1 : Int32)) dX4_measure_80 (by decide) (by rw [hm]; decide) ?_
          refine V_goto C (pc := 83) (tgt := 35) dX4_measure_83 (by decide) ?_
          exact V.mono [true, true, false, true, true, true, true] rfl (ih _ _ _ _ c1 c2 M hf)
        · refine V_aload0 C (pc := 62) dX4_measure_62 ?_
          refine gf_RX4_19 C (pc := 63) dX4_measure_63 ?_
          refine V_iload6 C (pc := 66) dX4_measure_66 ?_
          refine V_iload4 C (pc := 68) dX4_measure_68 ?_
          refine asD_16 C (pc := 70) dX4_measure_70 hf (fun hf => ?_)
          refine V_iload5 C (pc := 71) dX4_measure_71 ?_
          refine V_iconst C (pc := 73) (v := (1 : Int32)) (by decide) dX4_measure_73 ?_
          refine V_iload6 C (pc := 74) dX4_measure_74 ?_
          refine V_ishl C (pc := 76) dX4_measure_76 ?_
          refine V_ior C (pc := 77) dX4_measure_77 ?_
          refine V_istore5 C (pc := 78) dX4_measure_78 (by rw [hm]; decide) ?_
          refine V_iinc6 C (pc := 80) (c1 := (1 : Int32)) dX4_measure_80 (by decide) (by rw [hm]; decide) ?_
          refine V_goto C (pc := 83) (tgt := 35) dX4_measure_83 (by decide) ?_
          exact V.mono [true, true, false, true, true, true, true] rfl (ih _ _ _ _ c1 c2 (sA M 16 x6 x4) hf)
def f_X4_measure_22 (N : Nat) : Nat → Int32 → Int32 → Mm → Option Mm
  | 0, _, _, _ => none
  | n + 1, x3, x4, M => (if (9 : Int32) ≤ x4 then (some M) else (f_X4_measure_35 N (f_X4_measure_22 N n) N x3 x4 (0 : Int32) (0 : Int32) M))
set_option maxRecDepth 100000 in
set_option maxHeartbeats 4000000 in
theorem t_X4_measure_22 {Z : Zz} {G : Gm} {a : Nat → Nat} {N : Nat} {o : Mm} (C : CX (wD Z a) Z nE G cX4_measure RX4 1 none (PqV o) 0) (hm : (Gc G).maxLocals = 7) : ∀ (n : Nat) (x3 x4 : Int32) (c1 c2 : Nat) (M : Mm), f_X4_measure_22 N n x3 x4 M = some o → V (wD Z a) Z G 0 22 [some (.ref (a 3)), some (.ref (a 12)), none, some (.int x3), some (.int x4), none, none] [] (c1, c2, M) := by
  intro n
  induction n with
  | zero => intro x3 x4 c1 c2 M hf; rw [f_X4_measure_22] at hf; cases hf
  | succ n ih =>
    intro x3 x4 c1 c2 M hf
    rw [f_X4_measure_22] at hf
    refine V_iload4 C (pc := 22) dX4_measure_22 ?_
    refine V_bipush C (pc := 24) (v := (9 : Int32)) (by decide) dX4_measure_24 ?_
    refine V_icmp_ge C (pc := 26) (tgt := 95) dX4_measure_26 (by decide) hf (fun hf => ?_) (fun hf => ?_)
    · exact V_vret C (pc := 95) rfl (Nat.le_refl 0) dX4_measure_95 (pqV hf)
    · refine V_iconst C (pc := 29) (v := (0 : Int32)) (by decide) dX4_measure_29 ?_
      refine V_istore5 C (pc := 30) dX4_measure_30 (by rw [hm]; decide) ?_
      refine V_iconst C (pc := 32) (v := (0 : Int32)) (by decide) dX4_measure_32 ?_
      refine V_istore6 C (pc := 33) dX4_measure_33 (by rw [hm]; decide) ?_
      exact V.mono [true, true, false, true, true, true, true] rfl (t_X4_measure_35 C hm ih N _ _ _ _ c1 c2 M hf)
def f_X4_measure (N : Nat) (x2 : Int32) (M : Mm) : Option Mm := (if inb x2 9 then (f_X4_measure_22 N N ((1 : Int32) <<< (x2 &&& 31)) (1 : Int32) (sA (sF M 16 9 (-1 : Int32)) 16 x2 (0 : Int32))) else none)
set_option maxRecDepth 100000 in
set_option maxHeartbeats 4000000 in
theorem t_X4_measure {Z : Zz} {G : Gm} {a : Nat → Nat} {N : Nat} {o : Mm} {c1 c2 : Nat} {M : Mm} {x2 : Int32} (C : CX (wD Z a) Z nE G cX4_measure RX4 1 none (PqV o) 0) (hm : (Gc G).maxLocals = 7) (hf : f_X4_measure N x2 M = some o) : V (wD Z a) Z G 0 0 [some (.ref (a 3)), some (.ref (a 12)), some (.int x2), none, none, none, none] [] (c1, c2, M) := by
  unfold f_X4_measure at hf
  refine V_aload0 C (pc := 0) dX4_measure_0 ?_
  refine gf_RX4_19 C (pc := 1) dX4_measure_1 ?_
  refine V_iconst C (pc := 4) (v := (-1 : Int32)) (by decide) dX4_measure_4 ?_
  refine fiD_16 C (pc := 5) lk_RX4_30 (by decide) (Nat.le_refl 0) dX4_measure_5 (Nat.le_of_ble_eq_true rfl) ?_
  refine V_aload0 C (pc := 8) dX4_measure_8 ?_
  refine gf_RX4_19 C (pc := 9) dX4_measure_9 ?_
  refine V_iload2 C (pc := 12) dX4_measure_12 ?_
  refine V_iconst C (pc := 13) (v := (0 : Int32)) (by decide) dX4_measure_13 ?_
  refine asD_16 C (pc := 14) dX4_measure_14 hf (fun hf => ?_)
  refine V_iconst C (pc := 15) (v := (1 : Int32)) (by decide) dX4_measure_15 ?_
  refine V_iload2 C (pc := 16) dX4_measure_16 ?_
  refine V_ishl C (pc := 17) dX4_measure_17 ?_
  refine V_istore3 C (pc := 18) dX4_measure_18 (by rw [hm]; decide) ?_
  refine V_iconst C (pc := 19) (v := (1 : Int32)) (by decide) dX4_measure_19 ?_
  refine V_istore4 C (pc := 20) dX4_measure_20 (by rw [hm]; decide) ?_
  exact V.mono [true, true, false, true, true, false, false] rfl (t_X4_measure_22 C hm N _ _ c1 c2 (sA (sF M 16 9 (-1 : Int32)) 16 x2 (0 : Int32)) hf)
set_option maxRecDepth 100000 in
theorem c_X4_measure {Z : Zz} {a : Nat → Nat} {N : Nat} {c1 c2 : Nat} {M : Mm} {x2 : Int32} {M0 : Mm} (hf : f_X4_measure N x2 M = some M0) : CtV (wD Z a) Z nE yX4_measure cX4_measure 7 1 0 [.ref (a 3), .ref (a 12), .int x2] (c1, c2, M) (PqV M0) := CtV_of (by decide +kernel) (List.forall_mem_cons.mpr ⟨rfl, List.forall_mem_cons.mpr ⟨rfl, List.forall_mem_cons.mpr ⟨rfl, fun _ h9 => nomatch h9⟩⟩⟩) (Nat.le_of_ble_eq_true rfl) (fun G C hm => t_X4_measure (o := M0) C hm hf)
def f_X4_nearer_3 (N : Nat) (M : Mm) : Nat → Int32 → Int32 → Int32 → Int32 → Option Int32
  | 0, _, _, _, _ => none
  | n + 1, x1, x2, x3, x4 => (if (9 : Int32) ≤ x4 then (some x3) else (if ((x1 >>> (x4 &&& 31)) &&& (1 : Int32)) = (1 : Int32) then (if inb x4 9 then (if (gA M 16 x4) = x2 then (some x4) else ((f_X4_nearer_3 N M n) x1 x2 x3 (x4 + (1 : Int32)))) else none) else ((f_X4_nearer_3 N M n) x1 x2 x3 (x4 + (1 : Int32)))))
set_option maxRecDepth 100000 in
set_option maxHeartbeats 4000000 in
theorem t_X4_nearer_3 {Z : Zz} {G : Gm} {a : Nat → Nat} {N : Nat} {o : Int32} {c1 c2 : Nat} {M : Mm} (C : CX (wD Z a) Z nE G cX4_nearer RX4 0 (some .int) (PqR o (c1, c2, M)) 0) (hm : (Gc G).maxLocals = 5) : ∀ (n : Nat) (x1 x2 x3 x4 : Int32) , f_X4_nearer_3 N M n x1 x2 x3 x4 = some o → V (wD Z a) Z G 0 3 [some (.ref (a 3)), some (.int x1), some (.int x2), some (.int x3), some (.int x4)] [] (c1, c2, M) := by
  intro n
  induction n with
  | zero => intro x1 x2 x3 x4 hf; rw [f_X4_nearer_3] at hf; cases hf
  | succ n ih =>
    intro x1 x2 x3 x4 hf
    rw [f_X4_nearer_3] at hf
    refine V_iload4 C (pc := 3) dX4_nearer_3 ?_
    refine V_bipush C (pc := 5) (v := (9 : Int32)) (by decide) dX4_nearer_5 ?_
    refine V_icmp_ge C (pc := 7) (tgt := 40) dX4_nearer_7 (by decide) hf (fun hf => ?_) (fun hf => ?_)
    · refine V_iload3 C (pc := 40) dX4_nearer_40 ?_
      exact V_iret C (pc := 41) rfl (Nat.le_refl 0) dX4_nearer_41 ⟨hf, rfl⟩
    · refine V_iload1 C (pc := 10) dX4_nearer_10 ?_
      refine V_iload4 C (pc := 11) dX4_nearer_11 ?_
      refine V_ishr C (pc := 13) dX4_nearer_13 ?_
      refine V_iconst C (pc := 14) (v := (1 : Int32)) (by decide) dX4_nearer_14 ?_
      refine V_iand C (pc := 15) dX4_nearer_15 ?_
      refine V_iconst C (pc := 16) (v := (1 : Int32)) (by decide) dX4_nearer_16 ?_
      refine V_icmp_ne C (pc := 17) (tgt := 34) dX4_nearer_17 (by decide) hf (fun hf => ?_) (fun hf => ?_)
      · refine V_iinc4 C (pc := 34) (c1 := (1 : Int32)) dX4_nearer_34 (by decide) (by rw [hm]; decide) ?_
        refine V_goto C (pc := 37) (tgt := 3) dX4_nearer_37 (by decide) ?_
        exact V.mono [true, true, true, true, true] rfl (ih _ _ _ _ hf)
      · refine V_aload0 C (pc := 20) dX4_nearer_20 ?_
        refine gf_RX4_19 C (pc := 21) dX4_nearer_21 ?_
        refine V_iload4 C (pc := 24) dX4_nearer_24 ?_
        refine alD_16 C (pc := 26) dX4_nearer_26 hf (fun hf => ?_)
        refine V_iload2 C (pc := 27) dX4_nearer_27 ?_
        refine V_icmp_ne C (pc := 28) (tgt := 34) dX4_nearer_28 (by decide) hf (fun hf => ?_) (fun hf => ?_)
        · refine V_iinc4 C (pc := 34) (c1 := (1 : Int32)) dX4_nearer_34 (by decide) (by rw [hm]; decide) ?_
          refine V_goto C (pc := 37) (tgt := 3) dX4_nearer_37 (by decide) ?_
          exact V.mono [true, true, true, true, true] rfl (ih _ _ _ _ hf)
        · refine V_iload4 C (pc := 31) dX4_nearer_31 ?_
          exact V_iret C (pc := 33) rfl (Nat.le_refl 0) dX4_nearer_33 ⟨hf, rfl⟩
def f_X4_nearer (N : Nat) (M : Mm) (x1 : Int32) (x2 : Int32) (x3 : Int32) : Option Int32 := (f_X4_nearer_3 N M N x1 x2 x3 (0 : Int32))
set_option maxRecDepth 100000 in
set_option maxHeartbeats 4000000 in
theorem t_X4_nearer {Z : Zz} {G : Gm} {a : Nat → Nat} {N : Nat} {o : Int32} {c1 c2 : Nat} {M : Mm} {x1 x2 x3 : Int32} (C : CX (wD Z a) Z nE G cX4_nearer RX4 0 (some .int) (PqR o (c1, c2, M)) 0) (hm : (Gc G).maxLocals = 5) (hf : f_X4_nearer N M x1 x2 x3 = some o) : V (wD Z a) Z G 0 0 [some (.ref (a 3)), some (.int x1), some (.int x2), some (.int x3), none] [] (c1, c2, M) := by
  unfold f_X4_nearer at hf
  refine V_iconst C (pc := 0) (v := (0 : Int32)) (by decide) dX4_nearer_0 ?_
  refine V_istore4 C (pc := 1) dX4_nearer_1 (by rw [hm]; decide) ?_
  exact V.mono [true, true, true, true, true] rfl (t_X4_nearer_3 C hm N _ _ _ _ hf)
set_option maxRecDepth 100000 in
theorem c_X4_nearer {Z : Zz} {a : Nat → Nat} {N : Nat} {c1 c2 : Nat} {M : Mm} {x1 x2 x3 : Int32} {r0 : Int32} (hf : f_X4_nearer N M x1 x2 x3 = some r0) : CtI (wD Z a) Z nE yX4_nearer cX4_nearer 5 (some .int) 0 0 [.ref (a 3), .int x1, .int x2, .int x3] (c1, c2, M) (PqR r0 (c1, c2, M)) := CtI_of (by decide +kernel) (Or.inl rfl) (List.forall_mem_cons.mpr ⟨rfl, List.forall_mem_cons.mpr ⟨rfl, List.forall_mem_cons.mpr ⟨rfl, List.forall_mem_cons.mpr ⟨rfl, fun _ h9 => nomatch h9⟩⟩⟩⟩) (Nat.le_of_ble_eq_true rfl) (fun G C hm => t_X4_nearer (o := r0) C hm hf)
def f_X4_closes_36 (N : Nat) : Nat → Int32 → Int32 → Int32 → Mm → Option (Int32 × Mm)
  | 0, _, _, _, _ => none
  | n + 1, x2, x4, x5, M => (if (9 : Int32) ≤ x5 then (some ((1 : Int32), M)) else (if x4 = x2 then (some ((1 : Int32), M)) else (if inb x5 9 then (if inb x4 9 then (if inb x4 9 then (bd (f_X4_nearer N (sI (sA M 15 x5 x4) 10 ((gI (sA M 15 x5 x4) 10) + (1 : Int32))) (gA (sI (sA M 15 x5 x4) 10 ((gI (sA M 15 x5 x4) 10) + (1 : Int32))) 12 x4) ((gA (sI (sA M 15 x5 x4) 10 ((gI (sA M 15 x5 x4) 10) + (1 : Int32))) 16 x4) - (1 : Int32)) x2) (fun r83 => ((f_X4_closes_36 N n) x2 r83 (x5 + (1 : Int32)) (sI (sA M 15 x5 x4) 10 ((gI (sA M 15 x5 x4) 10) + (1 : Int32)))))) else none) else none) else none)))
set_option maxRecDepth 100000 in
set_option maxHeartbeats 4000000 in
theorem t_X4_closes_36 {Z : Zz} {G : Gm} {a : Nat → Nat} {N : Nat} {o : (Int32 × Mm)} (C : CX (wD Z a) Z nE G cX4_closes RX4 2 (some .boolean) (PqW o.1 o.2) 0) (hm : (Gc G).maxLocals = 6) : ∀ (n : Nat) (x2 x4 x5 : Int32) (c1 c2 : Nat) (M : Mm), f_X4_closes_36 N n x2 x4 x5 M = some o → V (wD Z a) Z G 0 36 [some (.ref (a 3)), some (.ref (a 12)), some (.int x2), none, some (.int x4), some (.int x5)] [] (c1, c2, M) := by
  intro n
  induction n with
  | zero => intro x2 x4 x5 c1 c2 M hf; rw [f_X4_closes_36] at hf; cases hf
  | succ n ih =>
    intro x2 x4 x5 c1 c2 M hf
    rw [f_X4_closes_36] at hf
    refine V_iload5 C (pc := 36) dX4_closes_36 ?_
    refine V_bipush C (pc := 38) (v := (9 : Int32)) (by decide) dX4_closes_38 ?_
    refine V_icmp_ge C (pc := 40) (tgt := 94) dX4_closes_40 (by decide) hf (fun hf => ?_) (fun hf => ?_)
    · refine V_iconst C (pc := 94) (v := (1 : Int32)) (by decide) dX4_closes_94 ?_
      exact V_zret C (pc := 95) rfl (Nat.le_refl 0) (by decide) dX4_closes_95 (pqW hf)
    · refine V_iload4 C (pc := 43) dX4_closes_43 ?_
      refine V_iload2 C (pc := 45) dX4_closes_45 ?_
      refine V_icmp_eq C (pc := 46) (tgt := 94) dX4_closes_46 (by decide) hf (fun hf => ?_) (fun hf => ?_)
      · refine V_iconst C (pc := 94) (v := (1 : Int32)) (by decide) dX4_closes_94 ?_
        exact V_zret C (pc := 95) rfl (Nat.le_refl 0) (by decide) dX4_closes_95 (pqW hf)
      · refine V_aload0 C (pc := 49) dX4_closes_49 ?_
        refine gf_RX4_9 C (pc := 50) dX4_closes_50 ?_
        refine V_iload5 C (pc := 53) dX4_closes_53 ?_
        refine V_iload4 C (pc := 55) dX4_closes_55 ?_
        refine asD_15 C (pc := 57) dX4_closes_57 hf (fun hf => ?_)
        refine V_aload0 C (pc := 58) dX4_closes_58 ?_
        refine V_dupr C (pc := 59) dX4_closes_59 ?_
        refine gf_RX4_15 C (pc := 60) dX4_closes_60 ?_
        refine V_iconst C (pc := 63) (v := (1 : Int32)) (by decide) dX4_closes_63 ?_
        refine V_iadd C (pc := 64) dX4_closes_64 ?_
        refine pf_RX4_15 C (pc := 65) dX4_closes_65 ?_
        refine V_aload0 C (pc := 68) dX4_closes_68 ?_
        refine V_aload1 C (pc := 69) dX4_closes_69 ?_
        refine V_iload4 C (pc := 70) dX4_closes_70 ?_
        refine alD_12 C (pc := 72) dX4_closes_72 hf (fun hf => ?_)
        refine V_aload0 C (pc := 73) dX4_closes_73 ?_
        refine gf_RX4_19 C (pc := 74) dX4_closes_74 ?_
        refine V_iload4 C (pc := 77) dX4_closes_77 ?_
        refine alD_16 C (pc := 79) dX4_closes_79 hf (fun hf => ?_)
        refine V_iconst C (pc := 80) (v := (1 : Int32)) (by decide) dX4_closes_80 ?_
        refine V_isub C (pc := 81) dX4_closes_81 ?_
        refine V_iload2 C (pc := 82) dX4_closes_82 ?_
        refine V_cR C (pc := 83) (dep2 := 0) (As := [.int (gA (sI (sA M 15 x5 x4) 10 ((gI (sA M 15 x5 x4) 10) + (1 : Int32))) 12 x4), .int ((gA (sI (sA M 15 x5 x4) 10 ((gI (sA M 15 x5 x4) 10) + (1 : Int32))) 16 x4) - (1 : Int32)), .int x2]) (rest := []) (fun r0 h0 => c_X4_nearer h0) lb_X4_nearer lk_RX4_26 wm_n (by decide) (Nat.le_refl 0) 3 4 rfl rfl rfl rfl (Nat.le_of_ble_eq_true rfl) dX4_closes_83 hf (fun r83 hf => ?_)
        refine V_istore4 C (pc := 86) dX4_closes_86 (by rw [hm]; decide) ?_
        refine V_iinc5 C (pc := 88) (c1 := (1 : Int32)) dX4_closes_88 (by decide) (by rw [hm]; decide) ?_
        refine V_goto C (pc := 91) (tgt := 36) dX4_closes_91 (by decide) ?_
        exact V.mono [true, true, true, false, true, true] rfl (ih _ _ _ c1 c2 (sI (sA M 15 x5 x4) 10 ((gI (sA M 15 x5 x4) 10) + (1 : Int32))) hf)
def f_X4_closes (N : Nat) (x2 : Int32) (x3 : Int32) (M : Mm) : Option (Int32 × Mm) := (bd (f_X4_measure N x2 M) (fun M3 => (if inb x3 9 then (if (gA M3 16 x3) = (-1 : Int32) then (some ((0 : Int32), M3)) else (if inb (0 : Int32) 9 then (f_X4_closes_36 N N x2 x3 (1 : Int32) (sI (sA M3 15 (0 : Int32) x2) 10 (1 : Int32))) else none)) else none)))
set_option maxRecDepth 100000 in
set_option maxHeartbeats 4000000 in
theorem t_X4_closes {Z : Zz} {G : Gm} {a : Nat → Nat} {N : Nat} {o : (Int32 × Mm)} {c1 c2 : Nat} {M : Mm} {x2 x3 : Int32} (C : CX (wD Z a) Z nE G cX4_closes RX4 2 (some .boolean) (PqW o.1 o.2) 0) (hm : (Gc G).maxLocals = 6) (hf : f_X4_closes N x2 x3 M = some o) : V (wD Z a) Z G 0 0 [some (.ref (a 3)), some (.ref (a 12)), some (.int x2), some (.int x3), none, none] [] (c1, c2, M) := by
  unfold f_X4_closes at hf
  refine V_aload0 C (pc := 0) dX4_closes_0 ?_
  refine V_aload1 C (pc := 1) dX4_closes_1 ?_
  refine V_iload2 C (pc := 2) dX4_closes_2 ?_
  refine V_cV C (pc := 3) (dep2 := 1) (As := [.ref (a 12), .int x2]) (rest := []) (fun M0 h0 => c_X4_measure h0) lb_X4_measure lk_RX4_22 wm_n (by decide) (Nat.le_refl 0) 3 4 rfl rfl rfl rfl (Nat.le_of_ble_eq_true rfl) dX4_closes_3 hf (fun c1 c2 M3 hf => ?_)
  refine V_aload0 C (pc := 6) dX4_closes_6 ?_
  refine gf_RX4_19 C (pc := 7) dX4_closes_7 ?_
  refine V_iload3 C (pc := 10) dX4_closes_10 ?_
  refine alD_16 C (pc := 11) dX4_closes_11 hf (fun hf => ?_)
  refine V_iconst C (pc := 12) (v := (-1 : Int32)) (by decide) dX4_closes_12 ?_
  refine V_icmp_ne C (pc := 13) (tgt := 18) dX4_closes_13 (by decide) hf (fun hf => ?_) (fun hf => ?_)
  · refine V_aload0 C (pc := 18) dX4_closes_18 ?_
    refine gf_RX4_9 C (pc := 19) dX4_closes_19 ?_
    refine V_iconst C (pc := 22) (v := (0 : Int32)) (by decide) dX4_closes_22 ?_
    refine V_iload2 C (pc := 23) dX4_closes_23 ?_
    refine asD_15 C (pc := 24) dX4_closes_24 hf (fun hf => ?_)
    refine V_aload0 C (pc := 25) dX4_closes_25 ?_
    refine V_iconst C (pc := 26) (v := (1 : Int32)) (by decide) dX4_closes_26 ?_
    refine pf_RX4_15 C (pc := 27) dX4_closes_27 ?_
    refine V_iload3 C (pc := 30) dX4_closes_30 ?_
    refine V_istore4 C (pc := 31) dX4_closes_31 (by rw [hm]; decide) ?_
    refine V_iconst C (pc := 33) (v := (1 : Int32)) (by decide) dX4_closes_33 ?_
    refine V_istore5 C (pc := 34) dX4_closes_34 (by rw [hm]; decide) ?_
    exact V.mono [true, true, true, false, true, true] rfl (t_X4_closes_36 C hm N _ _ _ c1 c2 (sI (sA M3 15 (0 : Int32) x2) 10 (1 : Int32)) hf)
  · refine V_iconst C (pc := 16) (v := (0 : Int32)) (by decide) dX4_closes_16 ?_
    exact V_zret C (pc := 17) rfl (Nat.le_refl 0) (by decide) dX4_closes_17 (pqW hf)
set_option maxRecDepth 100000 in
theorem c_X4_closes {Z : Zz} {a : Nat → Nat} {N : Nat} {c1 c2 : Nat} {M : Mm} {x2 x3 : Int32} {r0 : Int32} {M0 : Mm} (hf : f_X4_closes N x2 x3 M = some (r0, M0)) : CtI (wD Z a) Z nE yX4_closes cX4_closes 6 (some .boolean) 2 0 [.ref (a 3), .ref (a 12), .int x2, .int x3] (c1, c2, M) (PqW r0 M0) := CtI_of (by decide +kernel) (Or.inr rfl) (List.forall_mem_cons.mpr ⟨rfl, List.forall_mem_cons.mpr ⟨rfl, List.forall_mem_cons.mpr ⟨rfl, List.forall_mem_cons.mpr ⟨rfl, fun _ h9 => nomatch h9⟩⟩⟩⟩) (Nat.le_of_ble_eq_true rfl) (fun G C hm => t_X4_closes (o := (r0, M0)) C hm hf)
def f_X5_addBath_57 (x1 : Int32) (x2 : Int32) (t1 : Int32) (t2 : Int32) (M : Mm) : Option (Int32 × Mm) := (if x1 = (4 : Int32) then (some (x2, (sI (sI M 5 (t1 ||| t2)) 6 ((gI (sI M 5 (t1 ||| t2)) 6) ||| ((1 : Int32) <<< (x2 &&& 31)))))) else (some (x2, (sI (sI M 5 (t1 ||| t2)) 6 ((gI (sI M 5 (t1 ||| t2)) 6) ||| (0 : Int32))))))
set_option maxRecDepth 100000 in
set_option maxHeartbeats 4000000 in
theorem t_X5_addBath_57 {Z : Zz} {G : Gm} {a : Nat → Nat} {o : (Int32 × Mm)} {c1 c2 : Nat} {M : Mm} {x1 x2 t1 t2 : Int32} (C : CX (wD Z a) Z nE G cX5_addBath RX5 0 (some .int) (PqW o.1 o.2) 0) (hm : (Gc G).maxLocals = 3) (hf : f_X5_addBath_57 x1 x2 t1 t2 M = some o) : V (wD Z a) Z G 0 57 [some (.ref (a 2)), some (.int x1), some (.int x2)] [.int t2, .int t1, .ref (a 2)] (c1, c2, M) := by
  unfold f_X5_addBath_57 at hf
  refine V_ior C (pc := 57) dX5_addBath_57 ?_
  refine pf_RX5_31 C (pc := 58) dX5_addBath_58 ?_
  refine V_aload0 C (pc := 61) dX5_addBath_61 ?_
  refine V_dupr C (pc := 62) dX5_addBath_62 ?_
  refine gf_RX5_34 C (pc := 63) dX5_addBath_63 ?_
  refine V_iload1 C (pc := 66) dX5_addBath_66 ?_
  refine V_iconst C (pc := 67) (v := (4 : Int32)) (by decide) dX5_addBath_67 ?_
  refine V_icmp_ne C (pc := 68) (tgt := 77) dX5_addBath_68 (by decide) hf (fun hf => ?_) (fun hf => ?_)
  · refine V_iconst C (pc := 77) (v := (0 : Int32)) (by decide) dX5_addBath_77 ?_
    refine V_ior C (pc := 78) dX5_addBath_78 ?_
    refine pf_RX5_34 C (pc := 79) dX5_addBath_79 ?_
    refine V_iload2 C (pc := 82) dX5_addBath_82 ?_
    exact V_iret C (pc := 83) rfl (Nat.le_refl 0) dX5_addBath_83 (pqW hf)
  · refine V_iconst C (pc := 71) (v := (1 : Int32)) (by decide) dX5_addBath_71 ?_
    refine V_iload2 C (pc := 72) dX5_addBath_72 ?_
    refine V_ishl C (pc := 73) dX5_addBath_73 ?_
    refine V_goto C (pc := 74) (tgt := 78) dX5_addBath_74 (by decide) ?_
    refine V_ior C (pc := 78) dX5_addBath_78 ?_
    refine pf_RX5_34 C (pc := 79) dX5_addBath_79 ?_
    refine V_iload2 C (pc := 82) dX5_addBath_82 ?_
    exact V_iret C (pc := 83) rfl (Nat.le_refl 0) dX5_addBath_83 (pqW hf)
def f_X5_addBath_36 (x1 : Int32) (x2 : Int32) (t1 : Int32) (t2 : Int32) (M : Mm) : Option (Int32 × Mm) := (if x1 = (2 : Int32) then (f_X5_addBath_57 x1 x2 (gI (sI M 4 (t1 ||| t2)) 5) ((1 : Int32) <<< (x2 &&& 31)) (sI M 4 (t1 ||| t2))) else (f_X5_addBath_57 x1 x2 (gI (sI M 4 (t1 ||| t2)) 5) (0 : Int32) (sI M 4 (t1 ||| t2))))
set_option maxRecDepth 100000 in
set_option maxHeartbeats 4000000 in
theorem t_X5_addBath_36 {Z : Zz} {G : Gm} {a : Nat → Nat} {o : (Int32 × Mm)} {c1 c2 : Nat} {M : Mm} {x1 x2 t1 t2 : Int32} (C : CX (wD Z a) Z nE G cX5_addBath RX5 0 (some .int) (PqW o.1 o.2) 0) (hm : (Gc G).maxLocals = 3) (hf : f_X5_addBath_36 x1 x2 t1 t2 M = some o) : V (wD Z a) Z G 0 36 [some (.ref (a 2)), some (.int x1), some (.int x2)] [.int t2, .int t1, .ref (a 2)] (c1, c2, M) := by
  unfold f_X5_addBath_36 at hf
  refine V_ior C (pc := 36) dX5_addBath_36 ?_
  refine pf_RX5_28 C (pc := 37) dX5_addBath_37 ?_
  refine V_aload0 C (pc := 40) dX5_addBath_40 ?_
  refine V_dupr C (pc := 41) dX5_addBath_41 ?_
  refine gf_RX5_31 C (pc := 42) dX5_addBath_42 ?_
  refine V_iload1 C (pc := 45) dX5_addBath_45 ?_
  refine V_iconst C (pc := 46) (v := (2 : Int32)) (by decide) dX5_addBath_46 ?_
  refine V_icmp_ne C (pc := 47) (tgt := 56) dX5_addBath_47 (by decide) hf (fun hf => ?_) (fun hf => ?_)
  · refine V_iconst C (pc := 56) (v := (0 : Int32)) (by decide) dX5_addBath_56 ?_
    exact V.mono [true, true, true] rfl (t_X5_addBath_57 C hm hf)
  · refine V_iconst C (pc := 50) (v := (1 : Int32)) (by decide) dX5_addBath_50 ?_
    refine V_iload2 C (pc := 51) dX5_addBath_51 ?_
    refine V_ishl C (pc := 52) dX5_addBath_52 ?_
    refine V_goto C (pc := 53) (tgt := 57) dX5_addBath_53 (by decide) ?_
    exact V.mono [true, true, true] rfl (t_X5_addBath_57 C hm hf)
def f_X5_addBath (x1 : Int32) (M : Mm) : Option (Int32 × Mm) := (if inb (gI M 2) 9 then (if x1 = (3 : Int32) then (f_X5_addBath_36 x1 (gI M 2) (gI (sA (sI M 2 ((gI M 2) + (1 : Int32))) 11 (gI M 2) x1) 4) ((1 : Int32) <<< ((gI M 2) &&& 31)) (sA (sI M 2 ((gI M 2) + (1 : Int32))) 11 (gI M 2) x1)) else (f_X5_addBath_36 x1 (gI M 2) (gI (sA (sI M 2 ((gI M 2) + (1 : Int32))) 11 (gI M 2) x1) 4) (0 : Int32) (sA (sI M 2 ((gI M 2) + (1 : Int32))) 11 (gI M 2) x1))) else none)
set_option maxRecDepth 100000 in
set_option maxHeartbeats 4000000 in
theorem t_X5_addBath {Z : Zz} {G : Gm} {a : Nat → Nat} {o : (Int32 × Mm)} {c1 c2 : Nat} {M : Mm} {x1 : Int32} (C : CX (wD Z a) Z nE G cX5_addBath RX5 0 (some .int) (PqW o.1 o.2) 0) (hm : (Gc G).maxLocals = 3) (hf : f_X5_addBath x1 M = some o) : V (wD Z a) Z G 0 0 [some (.ref (a 2)), some (.int x1), none] [] (c1, c2, M) := by
  unfold f_X5_addBath at hf
  refine V_aload0 C (pc := 0) dX5_addBath_0 ?_
  refine V_dupr C (pc := 1) dX5_addBath_1 ?_
  refine gf_RX5_9 C (pc := 2) dX5_addBath_2 ?_
  refine V_dup_x1 C (pc := 5) dX5_addBath_5 ?_
  refine V_iconst C (pc := 6) (v := (1 : Int32)) (by decide) dX5_addBath_6 ?_
  refine V_iadd C (pc := 7) dX5_addBath_7 ?_
  refine pf_RX5_9 C (pc := 8) dX5_addBath_8 ?_
  refine V_istore2 C (pc := 11) dX5_addBath_11 (by rw [hm]; decide) ?_
  refine V_aload0 C (pc := 12) dX5_addBath_12 ?_
  refine gf_RX5_15 C (pc := 13) dX5_addBath_13 ?_
  refine V_iload2 C (pc := 16) dX5_addBath_16 ?_
  refine V_iload1 C (pc := 17) dX5_addBath_17 ?_
  refine asD_11 C (pc := 18) dX5_addBath_18 hf (fun hf => ?_)
  refine V_aload0 C (pc := 19) dX5_addBath_19 ?_
  refine V_dupr C (pc := 20) dX5_addBath_20 ?_
  refine gf_RX5_28 C (pc := 21) dX5_addBath_21 ?_
  refine V_iload1 C (pc := 24) dX5_addBath_24 ?_
  refine V_iconst C (pc := 25) (v := (3 : Int32)) (by decide) dX5_addBath_25 ?_
  refine V_icmp_ne C (pc := 26) (tgt := 35) dX5_addBath_26 (by decide) hf (fun hf => ?_) (fun hf => ?_)
  · refine V_iconst C (pc := 35) (v := (0 : Int32)) (by decide) dX5_addBath_35 ?_
    exact V.mono [true, true, true] rfl (t_X5_addBath_36 C hm hf)
  · refine V_iconst C (pc := 29) (v := (1 : Int32)) (by decide) dX5_addBath_29 ?_
    refine V_iload2 C (pc := 30) dX5_addBath_30 ?_
    refine V_ishl C (pc := 31) dX5_addBath_31 ?_
    refine V_goto C (pc := 32) (tgt := 36) dX5_addBath_32 (by decide) ?_
    exact V.mono [true, true, true] rfl (t_X5_addBath_36 C hm hf)
set_option maxRecDepth 100000 in
theorem c_X5_addBath {Z : Zz} {a : Nat → Nat} {c1 c2 : Nat} {M : Mm} {x1 : Int32} {r0 : Int32} {M0 : Mm} (hf : f_X5_addBath x1 M = some (r0, M0)) : CtI (wD Z a) Z nE yX5_addBath cX5_addBath 3 (some .int) 0 0 [.ref (a 2), .int x1] (c1, c2, M) (PqW r0 M0) := CtI_of (by decide +kernel) (Or.inl rfl) (List.forall_mem_cons.mpr ⟨rfl, List.forall_mem_cons.mpr ⟨rfl, fun _ h9 => nomatch h9⟩⟩) (Nat.le_of_ble_eq_true rfl) (fun G C hm => t_X5_addBath (o := (r0, M0)) C hm hf)
def f_X5_addGoal (x1 : Int32) (M : Mm) : Option (Int32 × Mm) := (if inb (gI M 7) 3 then (some ((gI (sI (sA (sI M 7 ((gI M 7) + (1 : Int32))) 14 (gI M 7) x1) 8 ((gI (sA (sI M 7 ((gI M 7) + (1 : Int32))) 14 (gI M 7) x1) 8) ||| ((1 : Int32) <<< (x1 &&& 31)))) 7), (sI (sA (sI M 7 ((gI M 7) + (1 : Int32))) 14 (gI M 7) x1) 8 ((gI (sA (sI M 7 ((gI M 7) + (1 : Int32))) 14 (gI M 7) x1) 8) ||| ((1 : Int32) <<< (x1 &&& 31)))))) else none)
set_option maxRecDepth 100000 in
set_option maxHeartbeats 4000000 in
theorem t_X5_addGoal {Z : Zz} {G : Gm} {a : Nat → Nat} {o : (Int32 × Mm)} {c1 c2 : Nat} {M : Mm} {x1 : Int32} (C : CX (wD Z a) Z nE G cX5_addGoal RX5 0 (some .int) (PqW o.1 o.2) 0) (hm : (Gc G).maxLocals = 2) (hf : f_X5_addGoal x1 M = some o) : V (wD Z a) Z G 0 0 [some (.ref (a 2)), some (.int x1)] [] (c1, c2, M) := by
  unfold f_X5_addGoal at hf
  refine V_aload0 C (pc := 0) dX5_addGoal_0 ?_
  refine gf_RX5_40 C (pc := 1) dX5_addGoal_1 ?_
  refine V_aload0 C (pc := 4) dX5_addGoal_4 ?_
  refine V_dupr C (pc := 5) dX5_addGoal_5 ?_
  refine gf_RX5_37 C (pc := 6) dX5_addGoal_6 ?_
  refine V_dup_x1 C (pc := 9) dX5_addGoal_9 ?_
  refine V_iconst C (pc := 10) (v := (1 : Int32)) (by decide) dX5_addGoal_10 ?_
  refine V_iadd C (pc := 11) dX5_addGoal_11 ?_
  refine pf_RX5_37 C (pc := 12) dX5_addGoal_12 ?_
  refine V_iload1 C (pc := 15) dX5_addGoal_15 ?_
  refine asD_14 C (pc := 16) dX5_addGoal_16 hf (fun hf => ?_)
  refine V_aload0 C (pc := 17) dX5_addGoal_17 ?_
  refine V_dupr C (pc := 18) dX5_addGoal_18 ?_
  refine gf_RX5_43 C (pc := 19) dX5_addGoal_19 ?_
  refine V_iconst C (pc := 22) (v := (1 : Int32)) (by decide) dX5_addGoal_22 ?_
  refine V_iload1 C (pc := 23) dX5_addGoal_23 ?_
  refine V_ishl C (pc := 24) dX5_addGoal_24 ?_
  refine V_ior C (pc := 25) dX5_addGoal_25 ?_
  refine pf_RX5_43 C (pc := 26) dX5_addGoal_26 ?_
  refine V_aload0 C (pc := 29) dX5_addGoal_29 ?_
  refine gf_RX5_37 C (pc := 30) dX5_addGoal_30 ?_
  exact V_iret C (pc := 33) rfl (Nat.le_refl 0) dX5_addGoal_33 (pqW hf)
set_option maxRecDepth 100000 in
theorem c_X5_addGoal {Z : Zz} {a : Nat → Nat} {c1 c2 : Nat} {M : Mm} {x1 : Int32} {r0 : Int32} {M0 : Mm} (hf : f_X5_addGoal x1 M = some (r0, M0)) : CtI (wD Z a) Z nE yX5_addGoal cX5_addGoal 2 (some .int) 0 0 [.ref (a 2), .int x1] (c1, c2, M) (PqW r0 M0) := CtI_of (by decide +kernel) (Or.inl rfl) (List.forall_mem_cons.mpr ⟨rfl, List.forall_mem_cons.mpr ⟨rfl, fun _ h9 => nomatch h9⟩⟩) (Nat.le_of_ble_eq_true rfl) (fun G C hm => t_X5_addGoal (o := (r0, M0)) C hm hf)
def f_X5_allFillOne (M : Mm)  : Option Int32 := (if ((gI M 5) ||| (gI M 6)) = 0 then (some (1 : Int32)) else (some (0 : Int32)))
set_option maxRecDepth 100000 in
set_option maxHeartbeats 4000000 in
theorem t_X5_allFillOne {Z : Zz} {G : Gm} {a : Nat → Nat} {o : Int32} {c1 c2 : Nat} {M : Mm} (C : CX (wD Z a) Z nE G cX5_allFillOne RX5 0 (some .boolean) (PqR o (c1, c2, M)) 0) (hm : (Gc G).maxLocals = 1) (hf : f_X5_allFillOne M  = some o) : V (wD Z a) Z G 0 0 [some (.ref (a 2))] [] (c1, c2, M) := by
  unfold f_X5_allFillOne at hf
  refine V_aload0 C (pc := 0) dX5_allFillOne_0 ?_
  refine gf_RX5_31 C (pc := 1) dX5_allFillOne_1 ?_
  refine V_aload0 C (pc := 4) dX5_allFillOne_4 ?_
  refine gf_RX5_34 C (pc := 5) dX5_allFillOne_5 ?_
  refine V_ior C (pc := 8) dX5_allFillOne_8 ?_
  refine V_if_ne C (pc := 9) (tgt := 16) dX5_allFillOne_9 (by decide) hf (fun hf => ?_) (fun hf => ?_)
  · refine V_iconst C (pc := 16) (v := (0 : Int32)) (by decide) dX5_allFillOne_16 ?_
    exact V_zret C (pc := 17) rfl (Nat.le_refl 0) (by decide) dX5_allFillOne_17 ⟨hf, rfl⟩
  · refine V_iconst C (pc := 12) (v := (1 : Int32)) (by decide) dX5_allFillOne_12 ?_
    refine V_goto C (pc := 13) (tgt := 17) dX5_allFillOne_13 (by decide) ?_
    exact V_zret C (pc := 17) rfl (Nat.le_refl 0) (by decide) dX5_allFillOne_17 ⟨hf, rfl⟩
set_option maxRecDepth 100000 in
theorem c_X5_allFillOne {Z : Zz} {a : Nat → Nat} {c1 c2 : Nat} {M : Mm} {r0 : Int32} (hf : f_X5_allFillOne M  = some r0) : CtI (wD Z a) Z nE yX5_allFillOne cX5_allFillOne 1 (some .boolean) 0 0 [.ref (a 2)] (c1, c2, M) (PqR r0 (c1, c2, M)) := CtI_of (by decide +kernel) (Or.inr rfl) (List.forall_mem_cons.mpr ⟨rfl, fun _ h9 => nomatch h9⟩) (Nat.le_of_ble_eq_true rfl) (fun G C hm => t_X5_allFillOne (o := r0) C hm hf)
def f_X5_dropGoals  (M : Mm) : Option Mm := (some (sI (sI M 7 (0 : Int32)) 8 (0 : Int32)))
set_option maxRecDepth 100000 in
set_option maxHeartbeats 4000000 in
theorem t_X5_dropGoals {Z : Zz} {G : Gm} {a : Nat → Nat} {o : Mm} {c1 c2 : Nat} {M : Mm} (C : CX (wD Z a) Z nE G cX5_dropGoals RX5 0 none (PqV o) 0) (hm : (Gc G).maxLocals = 1) (hf : f_X5_dropGoals  M = some o) : V (wD Z a) Z G 0 0 [some (.ref (a 2))] [] (c1, c2, M) := by
  unfold f_X5_dropGoals at hf
  refine V_aload0 C (pc := 0) dX5_dropGoals_0 ?_
  refine V_iconst C (pc := 1) (v := (0 : Int32)) (by decide) dX5_dropGoals_1 ?_
  refine pf_RX5_37 C (pc := 2) dX5_dropGoals_2 ?_
  refine V_aload0 C (pc := 5) dX5_dropGoals_5 ?_
  refine V_iconst C (pc := 6) (v := (0 : Int32)) (by decide) dX5_dropGoals_6 ?_
  refine pf_RX5_43 C (pc := 7) dX5_dropGoals_7 ?_
  exact V_vret C (pc := 10) rfl (Nat.le_refl 0) dX5_dropGoals_10 (pqV hf)
set_option maxRecDepth 100000 in
theorem c_X5_dropGoals {Z : Zz} {a : Nat → Nat} {c1 c2 : Nat} {M : Mm} {M0 : Mm} (hf : f_X5_dropGoals  M = some M0) : CtV (wD Z a) Z nE yX5_dropGoals cX5_dropGoals 1 0 0 [.ref (a 2)] (c1, c2, M) (PqV M0) := CtV_of (by decide +kernel) (List.forall_mem_cons.mpr ⟨rfl, fun _ h9 => nomatch h9⟩) (Nat.le_of_ble_eq_true rfl) (fun G C hm => t_X5_dropGoals (o := M0) C hm hf)
def f_X5_filled (M : Mm) (x1 : Int32) : Option Int32 := (bd (f_X5_filledBy M (x1 &&& (511 : Int32)) x1) (fun r7 => (some r7)))
set_option maxRecDepth 100000 in
set_option maxHeartbeats 4000000 in
theorem t_X5_filled {Z : Zz} {G : Gm} {a : Nat → Nat} {o : Int32} {c1 c2 : Nat} {M : Mm} {x1 : Int32} (C : CX (wD Z a) Z nE G cX5_filled RX5 2 (some .int) (PqR o (c1, c2, M)) 0) (hm : (Gc G).maxLocals = 2) (hf : f_X5_filled M x1 = some o) : V (wD Z a) Z G 0 0 [some (.ref (a 2)), some (.int x1)] [] (c1, c2, M) := by
  unfold f_X5_filled at hf
  refine V_aload0 C (pc := 0) dX5_filled_0 ?_
  refine V_iload1 C (pc := 1) dX5_filled_1 ?_
  refine V_sipush C (pc := 2) (v := (511 : Int32)) (by decide) dX5_filled_2 ?_
  refine V_iand C (pc := 5) dX5_filled_5 ?_
  refine V_iload1 C (pc := 6) dX5_filled_6 ?_
  refine V_cR C (pc := 7) (dep2 := 1) (As := [.int (x1 &&& (511 : Int32)), .int x1]) (rest := []) (fun r0 h0 => c_X5_filledBy h0) lb_X5_filledBy lk_RX5_63 wm_n (by decide) (Nat.le_refl 0) 2 5 rfl rfl rfl rfl (Nat.le_of_ble_eq_true rfl) dX5_filled_7 hf (fun r7 hf => ?_)
  exact V_iret C (pc := 10) rfl (Nat.le_refl 0) dX5_filled_10 ⟨hf, rfl⟩
set_option maxRecDepth 100000 in
theorem c_X5_filled {Z : Zz} {a : Nat → Nat} {c1 c2 : Nat} {M : Mm} {x1 : Int32} {r0 : Int32} (hf : f_X5_filled M x1 = some r0) : CtI (wD Z a) Z nE yX5_filled cX5_filled 2 (some .int) 2 0 [.ref (a 2), .int x1] (c1, c2, M) (PqR r0 (c1, c2, M)) := CtI_of (by decide +kernel) (Or.inl rfl) (List.forall_mem_cons.mpr ⟨rfl, List.forall_mem_cons.mpr ⟨rfl, fun _ h9 => nomatch h9⟩⟩) (Nat.le_of_ble_eq_true rfl) (fun G C hm => t_X5_filled (o := r0) C hm hf)
def f_X5_hasFrail (M : Mm)  : Option Int32 := (if (gI M 6) = 0 then (some (0 : Int32)) else (some (1 : Int32)))
set_option maxRecDepth 100000 in
set_option maxHeartbeats 4000000 in
theorem t_X5_hasFrail {Z : Zz} {G : Gm} {a : Nat → Nat} {o : Int32} {c1 c2 : Nat} {M : Mm} (C : CX (wD Z a) Z nE G cX5_hasFrail RX5 0 (some .boolean) (PqR o (c1, c2, M)) 0) (hm : (Gc G).maxLocals = 1) (hf : f_X5_hasFrail M  = some o) : V (wD Z a) Z G 0 0 [some (.ref (a 2))] [] (c1, c2, M) := by
  unfold f_X5_hasFrail at hf
  refine V_aload0 C (pc := 0) dX5_hasFrail_0 ?_
  refine gf_RX5_34 C (pc := 1) dX5_hasFrail_1 ?_
  refine V_if_eq C (pc := 4) (tgt := 11) dX5_hasFrail_4 (by decide) hf (fun hf => ?_) (fun hf => ?_)
  · refine V_iconst C (pc := 11) (v := (0 : Int32)) (by decide) dX5_hasFrail_11 ?_
    exact V_zret C (pc := 12) rfl (Nat.le_refl 0) (by decide) dX5_hasFrail_12 ⟨hf, rfl⟩
  · refine V_iconst C (pc := 7) (v := (1 : Int32)) (by decide) dX5_hasFrail_7 ?_
    refine V_goto C (pc := 8) (tgt := 12) dX5_hasFrail_8 (by decide) ?_
    exact V_zret C (pc := 12) rfl (Nat.le_refl 0) (by decide) dX5_hasFrail_12 ⟨hf, rfl⟩
set_option maxRecDepth 100000 in
theorem c_X5_hasFrail {Z : Zz} {a : Nat → Nat} {c1 c2 : Nat} {M : Mm} {r0 : Int32} (hf : f_X5_hasFrail M  = some r0) : CtI (wD Z a) Z nE yX5_hasFrail cX5_hasFrail 1 (some .boolean) 0 0 [.ref (a 2)] (c1, c2, M) (PqR r0 (c1, c2, M)) := CtI_of (by decide +kernel) (Or.inr rfl) (List.forall_mem_cons.mpr ⟨rfl, fun _ h9 => nomatch h9⟩) (Nat.le_of_ble_eq_true rfl) (fun G C hm => t_X5_hasFrail (o := r0) C hm hf)
def f_X5_isBath (M : Mm) (x1 : Int32) : Option Int32 := (if x1 < 0 then (some (0 : Int32)) else (if (gI M 2) ≤ x1 then (some (0 : Int32)) else (some (1 : Int32))))
set_option maxRecDepth 100000 in
set_option maxHeartbeats 4000000 in
theorem t_X5_isBath {Z : Zz} {G : Gm} {a : Nat → Nat} {o : Int32} {c1 c2 : Nat} {M : Mm} {x1 : Int32} (C : CX (wD Z a) Z nE G cX5_isBath RX5 0 (some .boolean) (PqR o (c1, c2, M)) 0) (hm : (Gc G).maxLocals = 2) (hf : f_X5_isBath M x1 = some o) : V (wD Z a) Z G 0 0 [some (.ref (a 2)), some (.int x1)] [] (c1, c2, M) := by
  unfold f_X5_isBath at hf
  refine V_iload1 C (pc := 0) dX5_isBath_0 ?_
  refine V_if_lt C (pc := 1) (tgt := 16) dX5_isBath_1 (by decide) hf (fun hf => ?_) (fun hf => ?_)
  · refine V_iconst C (pc := 16) (v := (0 : Int32)) (by decide) dX5_isBath_16 ?_
    exact V_zret C (pc := 17) rfl (Nat.le_refl 0) (by decide) dX5_isBath_17 ⟨hf, rfl⟩
  · refine V_iload1 C (pc := 4) dX5_isBath_4 ?_
    refine V_aload0 C (pc := 5) dX5_isBath_5 ?_
    refine gf_RX5_9 C (pc := 6) dX5_isBath_6 ?_
    refine V_icmp_ge C (pc := 9) (tgt := 16) dX5_isBath_9 (by decide) hf (fun hf => ?_) (fun hf => ?_)
    · refine V_iconst C (pc := 16) (v := (0 : Int32)) (by decide) dX5_isBath_16 ?_
      exact V_zret C (pc := 17) rfl (Nat.le_refl 0) (by decide) dX5_isBath_17 ⟨hf, rfl⟩
    · refine V_iconst C (pc := 12) (v := (1 : Int32)) (by decide) dX5_isBath_12 ?_
      refine V_goto C (pc := 13) (tgt := 17) dX5_isBath_13 (by decide) ?_
      exact V_zret C (pc := 17) rfl (Nat.le_refl 0) (by decide) dX5_isBath_17 ⟨hf, rfl⟩
set_option maxRecDepth 100000 in
theorem c_X5_isBath {Z : Zz} {a : Nat → Nat} {c1 c2 : Nat} {M : Mm} {x1 : Int32} {r0 : Int32} (hf : f_X5_isBath M x1 = some r0) : CtI (wD Z a) Z nE yX5_isBath cX5_isBath 2 (some .boolean) 0 0 [.ref (a 2), .int x1] (c1, c2, M) (PqR r0 (c1, c2, M)) := CtI_of (by decide +kernel) (Or.inr rfl) (List.forall_mem_cons.mpr ⟨rfl, List.forall_mem_cons.mpr ⟨rfl, fun _ h9 => nomatch h9⟩⟩) (Nat.le_of_ble_eq_true rfl) (fun G C hm => t_X5_isBath (o := r0) C hm hf)
def f_X5_isGoal (M : Mm) (x1 : Int32) : Option Int32 := (if (((gI M 8) >>> (x1 &&& 31)) &&& (1 : Int32)) = (1 : Int32) then (some (1 : Int32)) else (some (0 : Int32)))
set_option maxRecDepth 100000 in
set_option maxHeartbeats 4000000 in
theorem t_X5_isGoal {Z : Zz} {G : Gm} {a : Nat → Nat} {o : Int32} {c1 c2 : Nat} {M : Mm} {x1 : Int32} (C : CX (wD Z a) Z nE G cX5_isGoal RX5 0 (some .boolean) (PqR o (c1, c2, M)) 0) (hm : (Gc G).maxLocals = 2) (hf : f_X5_isGoal M x1 = some o) : V (wD Z a) Z G 0 0 [some (.ref (a 2)), some (.int x1)] [] (c1, c2, M) := by
  unfold f_X5_isGoal at hf
  refine V_aload0 C (pc := 0) dX5_isGoal_0 ?_
  refine gf_RX5_43 C (pc := 1) dX5_isGoal_1 ?_
  refine V_iload1 C (pc := 4) dX5_isGoal_4 ?_
  refine V_ishr C (pc := 5) dX5_isGoal_5 ?_
  refine V_iconst C (pc := 6) (v := (1 : Int32)) (by decide) dX5_isGoal_6 ?_
  refine V_iand C (pc := 7) dX5_isGoal_7 ?_
  refine V_iconst C (pc := 8) (v := (1 : Int32)) (by decide) dX5_isGoal_8 ?_
  refine V_icmp_ne C (pc := 9) (tgt := 16) dX5_isGoal_9 (by decide) hf (fun hf => ?_) (fun hf => ?_)
  · refine V_iconst C (pc := 16) (v := (0 : Int32)) (by decide) dX5_isGoal_16 ?_
    exact V_zret C (pc := 17) rfl (Nat.le_refl 0) (by decide) dX5_isGoal_17 ⟨hf, rfl⟩
  · refine V_iconst C (pc := 12) (v := (1 : Int32)) (by decide) dX5_isGoal_12 ?_
    refine V_goto C (pc := 13) (tgt := 17) dX5_isGoal_13 (by decide) ?_
    exact V_zret C (pc := 17) rfl (Nat.le_refl 0) (by decide) dX5_isGoal_17 ⟨hf, rfl⟩
set_option maxRecDepth 100000 in
theorem c_X5_isGoal {Z : Zz} {a : Nat → Nat} {c1 c2 : Nat} {M : Mm} {x1 : Int32} {r0 : Int32} (hf : f_X5_isGoal M x1 = some r0) : CtI (wD Z a) Z nE yX5_isGoal cX5_isGoal 2 (some .boolean) 0 0 [.ref (a 2), .int x1] (c1, c2, M) (PqR r0 (c1, c2, M)) := CtI_of (by decide +kernel) (Or.inr rfl) (List.forall_mem_cons.mpr ⟨rfl, List.forall_mem_cons.mpr ⟨rfl, fun _ h9 => nomatch h9⟩⟩) (Nat.le_of_ble_eq_true rfl) (fun G C hm => t_X5_isGoal (o := r0) C hm hf)
def f_X5_learn_88 (N : Nat) (t1 : Int32) (t2 : Int32) (M : Mm) : Option Mm := (if inb t1 9 then (some (sA M 13 t1 t2)) else none)
set_option maxRecDepth 100000 in
set_option maxHeartbeats 4000000 in
theorem t_X5_learn_88 {Z : Zz} {G : Gm} {a : Nat → Nat} {N : Nat} {o : Mm} {c1 c2 : Nat} {M : Mm} {t1 t2 : Int32} (C : CX (wD Z a) Z nE G cX5_learn RX5 2 none (PqV o) 0) (hm : (Gc G).maxLocals = 4) (hf : f_X5_learn_88 N t1 t2 M = some o) : V (wD Z a) Z G 0 88 [none, none, none, none] [.int t2, .int t1, .ref (a 13)] (c1, c2, M) := by
  unfold f_X5_learn_88 at hf
  refine asD_13 C (pc := 88) dX5_learn_88 hf (fun hf => ?_)
  exact V_vret C (pc := 89) rfl (Nat.le_refl 0) dX5_learn_89 (pqV hf)
def f_X5_learn_69 (N : Nat) (x1 : Int32) (t0 : Int32) (M : Mm) : Option Mm := (if t0 = 0 then (f_X5_learn_88 N x1 (0 : Int32) M) else (bd (f_X3_firstNamedBit N M x1) (fun r81 => (f_X5_learn_88 N x1 r81 M))))
set_option maxRecDepth 100000 in
set_option maxHeartbeats 4000000 in
theorem t_X5_learn_69 {Z : Zz} {G : Gm} {a : Nat → Nat} {N : Nat} {o : Mm} {c1 c2 : Nat} {M : Mm} {x1 t0 : Int32} (C : CX (wD Z a) Z nE G cX5_learn RX5 2 none (PqV o) 0) (hm : (Gc G).maxLocals = 4) (hf : f_X5_learn_69 N x1 t0 M = some o) : V (wD Z a) Z G 0 69 [some (.ref (a 2)), some (.int x1), some (.ref (a 1)), none] [.int t0] (c1, c2, M) := by
  unfold f_X5_learn_69 at hf
  refine V_istore3 C (pc := 69) dX5_learn_69 (by rw [hm]; decide) ?_
  refine V_aload0 C (pc := 70) dX5_learn_70 ?_
  refine gf_RX5_22 C (pc := 71) dX5_learn_71 ?_
  refine V_iload1 C (pc := 74) dX5_learn_74 ?_
  refine V_iload3 C (pc := 75) dX5_learn_75 ?_
  refine V_if_eq C (pc := 76) (tgt := 87) dX5_learn_76 (by decide) hf (fun hf => ?_) (fun hf => ?_)
  · refine V_iconst C (pc := 87) (v := (0 : Int32)) (by decide) dX5_learn_87 ?_
    exact V.mono [false, false, false, false] rfl (t_X5_learn_88 C hm hf)
  · refine V_aload2 C (pc := 79) dX5_learn_79 ?_
    refine V_iload1 C (pc := 80) dX5_learn_80 ?_
    refine V_cR C (pc := 81) (dep2 := 1) (As := [.int x1]) (rest := [.int x1, .ref (a 13)]) (fun r0 h0 => c_X3_firstNamedBit h0) lb_X3_firstNamedBit lk_RX5_60 wm_n (by decide) (Nat.le_refl 0) 1 3 rfl rfl rfl rfl (Nat.le_of_ble_eq_true rfl) dX5_learn_81 hf (fun r81 hf => ?_)
    refine V_goto C (pc := 84) (tgt := 88) dX5_learn_84 (by decide) ?_
    exact V.mono [false, false, false, false] rfl (t_X5_learn_88 C hm hf)
def f_X5_learn_64 (N : Nat) (x1 : Int32) (M : Mm) : Option Mm := (f_X5_learn_69 N x1 (1 : Int32) M)
set_option maxRecDepth 100000 in
set_option maxHeartbeats 4000000 in
theorem t_X5_learn_64 {Z : Zz} {G : Gm} {a : Nat → Nat} {N : Nat} {o : Mm} {c1 c2 : Nat} {M : Mm} {x1 : Int32} (C : CX (wD Z a) Z nE G cX5_learn RX5 2 none (PqV o) 0) (hm : (Gc G).maxLocals = 4) (hf : f_X5_learn_64 N x1 M = some o) : V (wD Z a) Z G 0 64 [some (.ref (a 2)), some (.int x1), some (.ref (a 1)), none] [] (c1, c2, M) := by
  unfold f_X5_learn_64 at hf
  refine V_iconst C (pc := 64) (v := (1 : Int32)) (by decide) dX5_learn_64 ?_
  refine V_goto C (pc := 65) (tgt := 69) dX5_learn_65 (by decide) ?_
  exact V.mono [true, true, true, false] rfl (t_X5_learn_69 C hm hf)
def f_X5_learn_30 (N : Nat) (x1 : Int32) (t1 : Int32) (M : Mm) : Option Mm := (bd (f_X3_namedBits N (sI M 3 t1) x1) (fun r40 => (if inb x1 9 then (if inb x1 9 then (if (gA (sA (sI M 3 t1) 12 x1 r40) 11 x1) = (1 : Int32) then (f_X5_learn_64 N x1 (sA (sI M 3 t1) 12 x1 r40)) else (if inb x1 9 then (if (gA (sA (sI M 3 t1) 12 x1 r40) 11 x1) = (3 : Int32) then (f_X5_learn_64 N x1 (sA (sI M 3 t1) 12 x1 r40)) else (f_X5_learn_69 N x1 (0 : Int32) (sA (sI M 3 t1) 12 x1 r40))) else none)) else none) else none)))
set_option maxRecDepth 100000 in
set_option maxHeartbeats 4000000 in
theorem t_X5_learn_30 {Z : Zz} {G : Gm} {a : Nat → Nat} {N : Nat} {o : Mm} {c1 c2 : Nat} {M : Mm} {x1 t1 : Int32} (C : CX (wD Z a) Z nE G cX5_learn RX5 2 none (PqV o) 0) (hm : (Gc G).maxLocals = 4) (hf : f_X5_learn_30 N x1 t1 M = some o) : V (wD Z a) Z G 0 30 [some (.ref (a 2)), some (.int x1), some (.ref (a 1)), none] [.int t1, .ref (a 2)] (c1, c2, M) := by
  unfold f_X5_learn_30 at hf
  refine pf_RX5_25 C (pc := 30) dX5_learn_30 ?_
  refine V_aload0 C (pc := 33) dX5_learn_33 ?_
  refine gf_RX5_19 C (pc := 34) dX5_learn_34 ?_
  refine V_iload1 C (pc := 37) dX5_learn_37 ?_
  refine V_aload2 C (pc := 38) dX5_learn_38 ?_
  refine V_iload1 C (pc := 39) dX5_learn_39 ?_
  refine V_cR C (pc := 40) (dep2 := 1) (As := [.int x1]) (rest := [.int x1, .ref (a 12)]) (fun r0 h0 => c_X3_namedBits h0) lb_X3_namedBits lk_RX5_56 wm_n (by decide) (Nat.le_refl 0) 1 3 rfl rfl rfl rfl (Nat.le_of_ble_eq_true rfl) dX5_learn_40 hf (fun r40 hf => ?_)
  refine asD_12 C (pc := 43) dX5_learn_43 hf (fun hf => ?_)
  refine V_aload0 C (pc := 44) dX5_learn_44 ?_
  refine gf_RX5_15 C (pc := 45) dX5_learn_45 ?_
  refine V_iload1 C (pc := 48) dX5_learn_48 ?_
  refine alD_11 C (pc := 49) dX5_learn_49 hf (fun hf => ?_)
  refine V_iconst C (pc := 50) (v := (1 : Int32)) (by decide) dX5_learn_50 ?_
  refine V_icmp_eq C (pc := 51) (tgt := 64) dX5_learn_51 (by decide) hf (fun hf => ?_) (fun hf => ?_)
  · exact V.mono [true, true, true, false] rfl (t_X5_learn_64 C hm hf)
  · refine V_aload0 C (pc := 54) dX5_learn_54 ?_
    refine gf_RX5_15 C (pc := 55) dX5_learn_55 ?_
    refine V_iload1 C (pc := 58) dX5_learn_58 ?_
    refine alD_11 C (pc := 59) dX5_learn_59 hf (fun hf => ?_)
    refine V_iconst C (pc := 60) (v := (3 : Int32)) (by decide) dX5_learn_60 ?_
    refine V_icmp_ne C (pc := 61) (tgt := 68) dX5_learn_61 (by decide) hf (fun hf => ?_) (fun hf => ?_)
    · refine V_iconst C (pc := 68) (v := (0 : Int32)) (by decide) dX5_learn_68 ?_
      exact V.mono [true, true, true, false] rfl (t_X5_learn_69 C hm hf)
    · exact V.mono [true, true, true, false] rfl (t_X5_learn_64 C hm hf)
def f_X5_learn (N : Nat) (x1 : Int32) (M : Mm) : Option Mm := (bd (f_X3_has M x1) (fun r3 => (if r3 = 0 then (f_X5_learn_30 N x1 ((gI M 3) &&& (((1 : Int32) <<< (x1 &&& 31)) ^^^ (-1 : Int32))) M) else (f_X5_learn_30 N x1 ((gI M 3) ||| ((1 : Int32) <<< (x1 &&& 31))) M))))
set_option maxRecDepth 100000 in
set_option maxHeartbeats 4000000 in
theorem t_X5_learn {Z : Zz} {G : Gm} {a : Nat → Nat} {N : Nat} {o : Mm} {c1 c2 : Nat} {M : Mm} {x1 : Int32} (C : CX (wD Z a) Z nE G cX5_learn RX5 2 none (PqV o) 0) (hm : (Gc G).maxLocals = 4) (hf : f_X5_learn N x1 M = some o) : V (wD Z a) Z G 0 0 [some (.ref (a 2)), some (.int x1), some (.ref (a 1)), none] [] (c1, c2, M) := by
  unfold f_X5_learn at hf
  refine V_aload0 C (pc := 0) dX5_learn_0 ?_
  refine V_aload2 C (pc := 1) dX5_learn_1 ?_
  refine V_iload1 C (pc := 2) dX5_learn_2 ?_
  refine V_cR C (pc := 3) (dep2 := 0) (As := [.int x1]) (rest := [.ref (a 2)]) (fun r0 h0 => c_X3_has h0) lb_X3_has lk_RX5_50 wm_n (by decide) (Nat.le_refl 0) 1 3 rfl rfl rfl rfl (Nat.le_of_ble_eq_true rfl) dX5_learn_3 hf (fun r3 hf => ?_)
  refine V_if_eq C (pc := 6) (tgt := 20) dX5_learn_6 (by decide) hf (fun hf => ?_) (fun hf => ?_)
  · refine V_aload0 C (pc := 20) dX5_learn_20 ?_
    refine gf_RX5_25 C (pc := 21) dX5_learn_21 ?_
    refine V_iconst C (pc := 24) (v := (1 : Int32)) (by decide) dX5_learn_24 ?_
    refine V_iload1 C (pc := 25) dX5_learn_25 ?_
    refine V_ishl C (pc := 26) dX5_learn_26 ?_
    refine V_iconst C (pc := 27) (v := (-1 : Int32)) (by decide) dX5_learn_27 ?_
    refine V_ixor C (pc := 28) dX5_learn_28 ?_
    refine V_iand C (pc := 29) dX5_learn_29 ?_
    exact V.mono [true, true, true, false] rfl (t_X5_learn_30 C hm hf)
  · refine V_aload0 C (pc := 9) dX5_learn_9 ?_
    refine gf_RX5_25 C (pc := 10) dX5_learn_10 ?_
    refine V_iconst C (pc := 13) (v := (1 : Int32)) (by decide) dX5_learn_13 ?_
    refine V_iload1 C (pc := 14) dX5_learn_14 ?_
    refine V_ishl C (pc := 15) dX5_learn_15 ?_
    refine V_ior C (pc := 16) dX5_learn_16 ?_
    refine V_goto C (pc := 17) (tgt := 30) dX5_learn_17 (by decide) ?_
    exact V.mono [true, true, true, false] rfl (t_X5_learn_30 C hm hf)
set_option maxRecDepth 100000 in
theorem c_X5_learn {Z : Zz} {a : Nat → Nat} {N : Nat} {c1 c2 : Nat} {M : Mm} {x1 : Int32} {M0 : Mm} (hf : f_X5_learn N x1 M = some M0) : CtV (wD Z a) Z nE yX5_learn cX5_learn 4 2 0 [.ref (a 2), .int x1, .ref (a 1)] (c1, c2, M) (PqV M0) := CtV_of (by decide +kernel) (List.forall_mem_cons.mpr ⟨rfl, List.forall_mem_cons.mpr ⟨rfl, List.forall_mem_cons.mpr ⟨rfl, fun _ h9 => nomatch h9⟩⟩⟩) (Nat.le_of_ble_eq_true rfl) (fun G C hm => t_X5_learn (o := M0) C hm hf)
def f_X5_nextTold_30 (N : Nat) (M : Mm) (k2 : Int32 → Int32 → Option Int32) (x1 : Int32) (x2 : Int32) (t0 : Int32) : Option Int32 := (if t0 = 0 then (k2 x1 (x2 + (1 : Int32))) else (if inb x2 9 then (if ((gA M 12 x2) &&& (x1 ^^^ (-1 : Int32))) = 0 then (some x2) else (k2 x1 (x2 + (1 : Int32)))) else none))
set_option maxRecDepth 100000 in
set_option maxHeartbeats 4000000 in
theorem t_X5_nextTold_30 {Z : Zz} {G : Gm} {a : Nat → Nat} {N : Nat} {o : Int32} {c1 c2 : Nat} {M : Mm} {k2 : Int32 → Int32 → Option Int32} {x1 x2 t0 : Int32} (C : CX (wD Z a) Z nE G cX5_nextTold RX5 0 (some .int) (PqR o (c1, c2, M)) 0) (hm : (Gc G).maxLocals = 4) (hk2 : ∀ (x1 x2 : Int32) , k2 x1 x2 = some o → V (wD Z a) Z G 0 2 [some (.ref (a 2)), some (.int x1), some (.int x2), none] [] (c1, c2, M)) (hf : f_X5_nextTold_30 N M k2 x1 x2 t0 = some o) : V (wD Z a) Z G 0 30 [some (.ref (a 2)), some (.int x1), some (.int x2), none] [.int t0] (c1, c2, M) := by
  unfold f_X5_nextTold_30 at hf
  refine V_istore3 C (pc := 30) dX5_nextTold_30 (by rw [hm]; decide) ?_
  refine V_iload3 C (pc := 31) dX5_nextTold_31 ?_
  refine V_if_eq C (pc := 32) (tgt := 50) dX5_nextTold_32 (by decide) hf (fun hf => ?_) (fun hf => ?_)
  · refine V_iinc2 C (pc := 50) (c1 := (1 : Int32)) dX5_nextTold_50 (by decide) (by rw [hm]; decide) ?_
    refine V_goto C (pc := 53) (tgt := 2) dX5_nextTold_53 (by decide) ?_
    exact V.mono [true, true, true, false] rfl (hk2 _ _ hf)
  · refine V_aload0 C (pc := 35) dX5_nextTold_35 ?_
    refine gf_RX5_19 C (pc := 36) dX5_nextTold_36 ?_
    refine V_iload2 C (pc := 39) dX5_nextTold_39 ?_
    refine alD_12 C (pc := 40) dX5_nextTold_40 hf (fun hf => ?_)
    refine V_iload1 C (pc := 41) dX5_nextTold_41 ?_
    refine V_iconst C (pc := 42) (v := (-1 : Int32)) (by decide) dX5_nextTold_42 ?_
    refine V_ixor C (pc := 43) dX5_nextTold_43 ?_
    refine V_iand C (pc := 44) dX5_nextTold_44 ?_
    refine V_if_ne C (pc := 45) (tgt := 50) dX5_nextTold_45 (by decide) hf (fun hf => ?_) (fun hf => ?_)
    · refine V_iinc2 C (pc := 50) (c1 := (1 : Int32)) dX5_nextTold_50 (by decide) (by rw [hm]; decide) ?_
      refine V_goto C (pc := 53) (tgt := 2) dX5_nextTold_53 (by decide) ?_
      exact V.mono [true, true, true, false] rfl (hk2 _ _ hf)
    · refine V_iload2 C (pc := 48) dX5_nextTold_48 ?_
      exact V_iret C (pc := 49) rfl (Nat.le_refl 0) dX5_nextTold_49 ⟨hf, rfl⟩
def f_X5_nextTold_2 (N : Nat) (M : Mm) : Nat → Int32 → Int32 → Option Int32
  | 0, _, _ => none
  | n + 1, x1, x2 => (if (gI M 2) ≤ x2 then (some (-1 : Int32)) else (if (((gI M 3) &&& (x1 ^^^ (-1 : Int32))) &&& ((1 : Int32) <<< (x2 &&& 31))) = 0 then (f_X5_nextTold_30 N M (f_X5_nextTold_2 N M n) x1 x2 (0 : Int32)) else (f_X5_nextTold_30 N M (f_X5_nextTold_2 N M n) x1 x2 (1 : Int32))))
set_option maxRecDepth 100000 in
set_option maxHeartbeats 4000000 in
theorem t_X5_nextTold_2 {Z : Zz} {G : Gm} {a : Nat → Nat} {N : Nat} {o : Int32} {c1 c2 : Nat} {M : Mm} (C : CX (wD Z a) Z nE G cX5_nextTold RX5 0 (some .int) (PqR o (c1, c2, M)) 0) (hm : (Gc G).maxLocals = 4) : ∀ (n : Nat) (x1 x2 : Int32) , f_X5_nextTold_2 N M n x1 x2 = some o → V (wD Z a) Z G 0 2 [some (.ref (a 2)), some (.int x1), some (.int x2), none] [] (c1, c2, M) := by
  intro n
  induction n with
  | zero => intro x1 x2 hf; rw [f_X5_nextTold_2] at hf; cases hf
  | succ n ih =>
    intro x1 x2 hf
    rw [f_X5_nextTold_2] at hf
    refine V_iload2 C (pc := 2) dX5_nextTold_2 ?_
    refine V_aload0 C (pc := 3) dX5_nextTold_3 ?_
    refine gf_RX5_9 C (pc := 4) dX5_nextTold_4 ?_
    refine V_icmp_ge C (pc := 7) (tgt := 56) dX5_nextTold_7 (by decide) hf (fun hf => ?_) (fun hf => ?_)
    · refine V_iconst C (pc := 56) (v := (-1 : Int32)) (by decide) dX5_nextTold_56 ?_
      exact V_iret C (pc := 57) rfl (Nat.le_refl 0) dX5_nextTold_57 ⟨hf, rfl⟩
    · refine V_aload0 C (pc := 10) dX5_nextTold_10 ?_
      refine gf_RX5_25 C (pc := 11) dX5_nextTold_11 ?_
      refine V_iload1 C (pc := 14) dX5_nextTold_14 ?_
      refine V_iconst C (pc := 15) (v := (-1 : Int32)) (by decide) dX5_nextTold_15 ?_
      refine V_ixor C (pc := 16) dX5_nextTold_16 ?_
      refine V_iand C (pc := 17) dX5_nextTold_17 ?_
      refine V_iconst C (pc := 18) (v := (1 : Int32)) (by decide) dX5_nextTold_18 ?_
      refine V_iload2 C (pc := 19) dX5_nextTold_19 ?_
      refine V_ishl C (pc := 20) dX5_nextTold_20 ?_
      refine V_iand C (pc := 21) dX5_nextTold_21 ?_
      refine V_if_eq C (pc := 22) (tgt := 29) dX5_nextTold_22 (by decide) hf (fun hf => ?_) (fun hf => ?_)
      · refine V_iconst C (pc := 29) (v := (0 : Int32)) (by decide) dX5_nextTold_29 ?_
        exact V.mono [true, true, true, false] rfl (t_X5_nextTold_30 C hm ih hf)
      · refine V_iconst C (pc := 25) (v := (1 : Int32)) (by decide) dX5_nextTold_25 ?_
        refine V_goto C (pc := 26) (tgt := 30) dX5_nextTold_26 (by decide) ?_
        exact V.mono [true, true, true, false] rfl (t_X5_nextTold_30 C hm ih hf)
def f_X5_nextTold (N : Nat) (M : Mm) (x1 : Int32) : Option Int32 := (f_X5_nextTold_2 N M N x1 (0 : Int32))
set_option maxRecDepth 100000 in
set_option maxHeartbeats 4000000 in
theorem t_X5_nextTold {Z : Zz} {G : Gm} {a : Nat → Nat} {N : Nat} {o : Int32} {c1 c2 : Nat} {M : Mm} {x1 : Int32} (C : CX (wD Z a) Z nE G cX5_nextTold RX5 0 (some .int) (PqR o (c1, c2, M)) 0) (hm : (Gc G).maxLocals = 4) (hf : f_X5_nextTold N M x1 = some o) : V (wD Z a) Z G 0 0 [some (.ref (a 2)), some (.int x1), none, none] [] (c1, c2, M) := by
  unfold f_X5_nextTold at hf
  refine V_iconst C (pc := 0) (v := (0 : Int32)) (by decide) dX5_nextTold_0 ?_
  refine V_istore2 C (pc := 1) dX5_nextTold_1 (by rw [hm]; decide) ?_
  exact V.mono [true, true, true, false] rfl (t_X5_nextTold_2 C hm N _ _ hf)
set_option maxRecDepth 100000 in
theorem c_X5_nextTold {Z : Zz} {a : Nat → Nat} {N : Nat} {c1 c2 : Nat} {M : Mm} {x1 : Int32} {r0 : Int32} (hf : f_X5_nextTold N M x1 = some r0) : CtI (wD Z a) Z nE yX5_nextTold cX5_nextTold 4 (some .int) 0 0 [.ref (a 2), .int x1] (c1, c2, M) (PqR r0 (c1, c2, M)) := CtI_of (by decide +kernel) (Or.inl rfl) (List.forall_mem_cons.mpr ⟨rfl, List.forall_mem_cons.mpr ⟨rfl, fun _ h9 => nomatch h9⟩⟩) (Nat.le_of_ble_eq_true rfl) (fun G C hm => t_X5_nextTold (o := r0) C hm hf)
def f_X6_anyStands (M : Mm)  : Option Int32 := (if ((gI M 1) &&& (511 : Int32)) = 0 then (some (0 : Int32)) else (some (1 : Int32)))
set_option maxRecDepth 100000 in
set_option maxHeartbeats 4000000 in
theorem t_X6_anyStands {Z : Zz} {G : Gm} {a : Nat → Nat} {o : Int32} {c1 c2 : Nat} {M : Mm} (C : CX (wD Z a) Z nE G cX6_anyStands RX6 0 (some .boolean) (PqR o (c1, c2, M)) 0) (hm : (Gc G).maxLocals = 1) (hf : f_X6_anyStands M  = some o) : V (wD Z a) Z G 0 0 [some (.ref (a 0))] [] (c1, c2, M) := by
  unfold f_X6_anyStands at hf
  refine V_aload0 C (pc := 0) dX6_anyStands_0 ?_
  refine gf_RX6_63 C (pc := 1) dX6_anyStands_1 ?_
  refine V_sipush C (pc := 4) (v := (511 : Int32)) (by decide) dX6_anyStands_4 ?_
  refine V_iand C (pc := 7) dX6_anyStands_7 ?_
  refine V_if_eq C (pc := 8) (tgt := 15) dX6_anyStands_8 (by decide) hf (fun hf => ?_) (fun hf => ?_)
  · refine V_iconst C (pc := 15) (v := (0 : Int32)) (by decide) dX6_anyStands_15 ?_
    exact V_zret C (pc := 16) rfl (Nat.le_refl 0) (by decide) dX6_anyStands_16 ⟨hf, rfl⟩
  · refine V_iconst C (pc := 11) (v := (1 : Int32)) (by decide) dX6_anyStands_11 ?_
    refine V_goto C (pc := 12) (tgt := 16) dX6_anyStands_12 (by decide) ?_
    exact V_zret C (pc := 16) rfl (Nat.le_refl 0) (by decide) dX6_anyStands_16 ⟨hf, rfl⟩
set_option maxRecDepth 100000 in
theorem c_X6_anyStands {Z : Zz} {a : Nat → Nat} {c1 c2 : Nat} {M : Mm} {r0 : Int32} (hf : f_X6_anyStands M  = some r0) : CtI (wD Z a) Z nE yX6_anyStands cX6_anyStands 1 (some .boolean) 0 0 [.ref (a 0)] (c1, c2, M) (PqR r0 (c1, c2, M)) := CtI_of (by decide +kernel) (Or.inr rfl) (List.forall_mem_cons.mpr ⟨rfl, fun _ h9 => nomatch h9⟩) (Nat.le_of_ble_eq_true rfl) (fun G C hm => t_X6_anyStands (o := r0) C hm hf)
def f_X6_bit (M : Mm) (x1 : Int32) : Option Int32 := (bd (f_X6_isRowBit x1) (fun r1 => (if r1 = 0 then (some (-2 : Int32)) else (if inb x1 4096 then (some (gA M 23 x1)) else none))))
set_option maxRecDepth 100000 in
set_option maxHeartbeats 4000000 in
theorem t_X6_bit {Z : Zz} {G : Gm} {a : Nat → Nat} {o : Int32} {c1 c2 : Nat} {M : Mm} {x1 : Int32} (C : CX (wD Z a) Z nE G cX6_bit RX6 1 (some .int) (PqR o (c1, c2, M)) 0) (hm : (Gc G).maxLocals = 2) (hf : f_X6_bit M x1 = some o) : V (wD Z a) Z G 0 0 [some (.ref (a 0)), some (.int x1)] [] (c1, c2, M) := by
  unfold f_X6_bit at hf
  refine V_iload1 C (pc := 0) dX6_bit_0 ?_
  refine V_cS C (pc := 1) (dep2 := 0) (As := [.int x1]) (rest := []) (fun r0 h0 => c_X6_isRowBit h0) lb_X6_isRowBit lk_RX6_226 (by decide) (Nat.le_refl 0) rfl rfl (Nat.le_of_ble_eq_true rfl) dX6_bit_1 hf (fun r1 hf => ?_)
  refine V_if_eq C (pc := 4) (tgt := 19) dX6_bit_4 (by decide) hf (fun hf => ?_) (fun hf => ?_)
  · refine V_bipush C (pc := 19) (v := (-2 : Int32)) (by decide) dX6_bit_19 ?_
    exact V_iret C (pc := 21) rfl (Nat.le_refl 0) dX6_bit_21 ⟨hf, rfl⟩
  · refine V_aload0 C (pc := 7) dX6_bit_7 ?_
    refine gf_RX6_51 C (pc := 8) dX6_bit_8 ?_
    refine gf_RX6_229 C (pc := 11) dX6_bit_11 ?_
    refine V_iload1 C (pc := 14) dX6_bit_14 ?_
    refine alD_23 C (pc := 15) dX6_bit_15 hf (fun hf => ?_)
    refine V_goto C (pc := 16) (tgt := 21) dX6_bit_16 (by decide) ?_
    exact V_iret C (pc := 21) rfl (Nat.le_refl 0) dX6_bit_21 ⟨hf, rfl⟩
set_option maxRecDepth 100000 in
theorem c_X6_bit {Z : Zz} {a : Nat → Nat} {c1 c2 : Nat} {M : Mm} {x1 : Int32} {r0 : Int32} (hf : f_X6_bit M x1 = some r0) : CtI (wD Z a) Z nE yX6_bit cX6_bit 2 (some .int) 1 0 [.ref (a 0), .int x1] (c1, c2, M) (PqR r0 (c1, c2, M)) := CtI_of (by decide +kernel) (Or.inl rfl) (List.forall_mem_cons.mpr ⟨rfl, List.forall_mem_cons.mpr ⟨rfl, fun _ h9 => nomatch h9⟩⟩) (Nat.le_of_ble_eq_true rfl) (fun G C hm => t_X6_bit (o := r0) C hm hf)
def f_X6_isVatCount (x0 : Int32) : Option Int32 := (if x0 < (1 : Int32) then (some (0 : Int32)) else (if (18 : Int32) < x0 then (some (0 : Int32)) else (some (1 : Int32))))
set_option maxRecDepth 100000 in
set_option maxHeartbeats 4000000 in
theorem t_X6_isVatCount {Z : Zz} {G : Gm} {ws : va_W} {o : Int32} {x0 : Int32} (C : CX (fun _ : Unit => ws) Z tE G cX6_isVatCount RX6 0 (some .boolean) (PqR o ()) 0) (hm : (Gc G).maxLocals = 1) (hf : f_X6_isVatCount x0 = some o) : V (fun _ : Unit => ws) Z G 0 0 [some (.int x0)] [] () := by
  unfold f_X6_isVatCount at hf
  refine V_iload0 C (pc := 0) dX6_isVatCount_0 ?_
  refine V_iconst C (pc := 1) (v := (1 : Int32)) (by decide) dX6_isVatCount_1 ?_
  refine V_icmp_lt C (pc := 2) (tgt := 15) dX6_isVatCount_2 (by decide) hf (fun hf => ?_) (fun hf => ?_)
  · refine V_iconst C (pc := 15) (v := (0 : Int32)) (by decide) dX6_isVatCount_15 ?_
    exact V_zret C (pc := 16) rfl (Nat.le_refl 0) (by decide) dX6_isVatCount_16 ⟨hf, rfl⟩
  · refine V_iload0 C (pc := 5) dX6_isVatCount_5 ?_
    refine V_bipush C (pc := 6) (v := (18 : Int32)) (by decide) dX6_isVatCount_6 ?_
    refine V_icmp_gt C (pc := 8) (tgt := 15) dX6_isVatCount_8 (by decide) hf (fun hf => ?_) (fun hf => ?_)
    · refine V_iconst C (pc := 15) (v := (0 : Int32)) (by decide) dX6_isVatCount_15 ?_
      exact V_zret C (pc := 16) rfl (Nat.le_refl 0) (by decide) dX6_isVatCount_16 ⟨hf, rfl⟩
    · refine V_iconst C (pc := 11) (v := (1 : Int32)) (by decide) dX6_isVatCount_11 ?_
      refine V_goto C (pc := 12) (tgt := 16) dX6_isVatCount_12 (by decide) ?_
      exact V_zret C (pc := 16) rfl (Nat.le_refl 0) (by decide) dX6_isVatCount_16 ⟨hf, rfl⟩
set_option maxRecDepth 100000 in
theorem c_X6_isVatCount {Z : Zz} {ws : va_W} {x0 : Int32} {r0 : Int32} (hf : f_X6_isVatCount x0 = some r0) : CtI (fun _ : Unit => ws) Z tE yX6_isVatCount cX6_isVatCount 1 (some .boolean) 0 0 [.int x0] () (PqR r0 ()) := CtI_of (by decide +kernel) (Or.inr rfl) (List.forall_mem_cons.mpr ⟨rfl, fun _ h9 => nomatch h9⟩) (Nat.le_of_ble_eq_true rfl) (fun G C hm => t_X6_isVatCount (o := r0) C hm hf)
def f_X6_check (N : Nat) (x1 : Int32) (M : Mm) : Option (Int32 × Mm) := (bd (f_X6_isVatCount x1) (fun r1 => (if r1 = 0 then (some ((-2 : Int32), M)) else (bd (f_X5_allFillOne M) (fun r11 => (if r11 = 0 then (some ((-2 : Int32), M)) else (bd2 (f_X2_examine N x1 M) (fun r22 M22 => (some (r22, M22))))))))))
set_option maxRecDepth 100000 in
set_option maxHeartbeats 4000000 in
theorem t_X6_check {Z : Zz} {G : Gm} {a : Nat → Nat} {N : Nat} {o : (Int32 × Mm)} {c1 c2 : Nat} {M : Mm} {x1 : Int32} (C : CX (wD Z a) Z nE G cX6_check RX6 6 (some .int) (PqW o.1 o.2) 0) (hm : (Gc G).maxLocals = 2) (hf : f_X6_check N x1 M = some o) : V (wD Z a) Z G 0 0 [some (.ref (a 0)), some (.int x1)] [] (c1, c2, M) := by
  unfold f_X6_check at hf
  refine V_iload1 C (pc := 0) dX6_check_0 ?_
  refine V_cS C (pc := 1) (dep2 := 0) (As := [.int x1]) (rest := []) (fun r0 h0 => c_X6_isVatCount h0) lb_X6_isVatCount lk_RX6_66 (by decide) (Nat.le_refl 0) rfl rfl (Nat.le_of_ble_eq_true rfl) dX6_check_1 hf (fun r1 hf => ?_)
  refine V_if_eq C (pc := 4) (tgt := 28) dX6_check_4 (by decide) hf (fun hf => ?_) (fun hf => ?_)
  · refine V_bipush C (pc := 28) (v := (-2 : Int32)) (by decide) dX6_check_28 ?_
    exact V_iret C (pc := 30) rfl (Nat.le_refl 0) dX6_check_30 (pqW hf)
  · refine V_aload0 C (pc := 7) dX6_check_7 ?_
    refine gf_RX6_19 C (pc := 8) dX6_check_8 ?_
    refine V_cR C (pc := 11) (dep2 := 0) (As := []) (rest := []) (fun r0 h0 => c_X5_allFillOne h0) lb_X5_allFillOne lk_RX6_220 wm_n (by decide) (Nat.le_refl 0) 2 5 rfl rfl rfl rfl (Nat.le_of_ble_eq_true rfl) dX6_check_11 hf (fun r11 hf => ?_)
    refine V_if_eq C (pc := 14) (tgt := 28) dX6_check_14 (by decide) hf (fun hf => ?_) (fun hf => ?_)
    · refine V_bipush C (pc := 28) (v := (-2 : Int32)) (by decide) dX6_check_28 ?_
      exact V_iret C (pc := 30) rfl (Nat.le_refl 0) dX6_check_30 (pqW hf)
    · refine V_aload0 C (pc := 17) dX6_check_17 ?_
      refine gf_RX6_51 C (pc := 18) dX6_check_18 ?_
      refine V_iload1 C (pc := 21) dX6_check_21 ?_
      refine V_cW C (pc := 22) (dep2 := 5) (As := [.int x1]) (rest := []) (fun r0 M0 h0 => c_X2_examine h0) lb_X2_examine lk_RX6_236 wm_n (by decide) (Nat.le_refl 0) 6 2 rfl rfl rfl rfl (Nat.le_of_ble_eq_true rfl) dX6_check_22 hf (fun r22 c1 c2 M22 hf => ?_)
      refine V_goto C (pc := 25) (tgt := 30) dX6_check_25 (by decide) ?_
      exact V_iret C (pc := 30) rfl (Nat.le_refl 0) dX6_check_30 (pqW hf)
set_option maxRecDepth 100000 in
theorem c_X6_check {Z : Zz} {a : Nat → Nat} {N : Nat} {c1 c2 : Nat} {M : Mm} {x1 : Int32} {r0 : Int32} {M0 : Mm} (hf : f_X6_check N x1 M = some (r0, M0)) : CtI (wD Z a) Z nE yX6_check cX6_check 2 (some .int) 6 0 [.ref (a 0), .int x1] (c1, c2, M) (PqW r0 M0) := CtI_of (by decide +kernel) (Or.inl rfl) (List.forall_mem_cons.mpr ⟨rfl, List.forall_mem_cons.mpr ⟨rfl, fun _ h9 => nomatch h9⟩⟩) (Nat.le_of_ble_eq_true rfl) (fun G C hm => t_X6_check (o := (r0, M0)) C hm hf)
def f_X6_freeVats (M : Mm)  : Option Int32 := (bd (f_X5_filled M (gI M 1)) (fun r12 => (some ((gI M 0) - r12))))
set_option maxRecDepth 100000 in
set_option maxHeartbeats 4000000 in
theorem t_X6_freeVats {Z : Zz} {G : Gm} {a : Nat → Nat} {o : Int32} {c1 c2 : Nat} {M : Mm} (C : CX (wD Z a) Z nE G cX6_freeVats RX6 3 (some .int) (PqR o (c1, c2, M)) 0) (hm : (Gc G).maxLocals = 1) (hf : f_X6_freeVats M  = some o) : V (wD Z a) Z G 0 0 [some (.ref (a 0))] [] (c1, c2, M) := by
  unfold f_X6_freeVats at hf
  refine V_aload0 C (pc := 0) dX6_freeVats_0 ?_
  refine gf_RX6_59 C (pc := 1) dX6_freeVats_1 ?_
  refine V_aload0 C (pc := 4) dX6_freeVats_4 ?_
  refine gf_RX6_19 C (pc := 5) dX6_freeVats_5 ?_
  refine V_aload0 C (pc := 8) dX6_freeVats_8 ?_
  refine gf_RX6_63 C (pc := 9) dX6_freeVats_9 ?_
  refine V_cR C (pc := 12) (dep2 := 2) (As := [.int (gI M 1)]) (rest := [.int (gI M 0)]) (fun r0 h0 => c_X5_filled h0) lb_X5_filled lk_RX6_70 wm_n (by decide) (Nat.le_refl 0) 2 5 rfl rfl rfl rfl (Nat.le_of_ble_eq_true rfl) dX6_freeVats_12 hf (fun r12 hf => ?_)
  refine V_isub C (pc := 15) dX6_freeVats_15 ?_
  exact V_iret C (pc := 16) rfl (Nat.le_refl 0) dX6_freeVats_16 ⟨hf, rfl⟩
set_option maxRecDepth 100000 in
theorem c_X6_freeVats {Z : Zz} {a : Nat → Nat} {c1 c2 : Nat} {M : Mm} {r0 : Int32} (hf : f_X6_freeVats M  = some r0) : CtI (wD Z a) Z nE yX6_freeVats cX6_freeVats 1 (some .int) 3 0 [.ref (a 0)] (c1, c2, M) (PqR r0 (c1, c2, M)) := CtI_of (by decide +kernel) (Or.inl rfl) (List.forall_mem_cons.mpr ⟨rfl, fun _ h9 => nomatch h9⟩) (Nat.le_of_ble_eq_true rfl) (fun G C hm => t_X6_freeVats (o := r0) C hm hf)
def f_X6_count (M : Mm) (x1 : Int32) : Option Int32 := (if x1 = 0 then (some (gI M 2)) else (if x1 = 1 then (bd (f_J6_bitCount_0f7a4 ((gI M 1) &&& (511 : Int32))) (fun r60 => (some r60))) else (if x1 = 2 then (some (gI M 0)) else (if x1 = 3 then (bd (f_X6_freeVats M) (fun r70 => (some r70))) else (if x1 = 4 then (some (gI M 7)) else (if x1 = 5 then (some (gI M 11)) else (if x1 = 6 then (some (gI M 17)) else (some (-2 : Int32)))))))))
set_option maxRecDepth 100000 in
set_option maxHeartbeats 4000000 in
theorem t_X6_count {Z : Zz} {G : Gm} {a : Nat → Nat} {o : Int32} {c1 c2 : Nat} {M : Mm} {x1 : Int32} (C : CX (wD Z a) Z nE G cX6_count RX6 4 (some .int) (PqR o (c1, c2, M)) 0) (hm : (Gc G).maxLocals = 2) (hf : f_X6_count M x1 = some o) : V (wD Z a) Z G 0 0 [some (.ref (a 0)), some (.int x1)] [] (c1, c2, M) := by
  unfold f_X6_count at hf
  refine V_iload1 C (pc := 0) dX6_count_0 ?_
  refine V_ts7 C (pc := 1) (t0 := 44) (t1 := 52) (t2 := 64) (t3 := 69) (t4 := 74) (t5 := 82) (t6 := 90) (td := 98) dX6_count_1 (by decide) (by decide) (by decide) (by decide) (by decide) (by decide) (by decide) (by decide) hf (fun hf => ?_) (fun hf => ?_) (fun hf => ?_) (fun hf => ?_) (fun hf => ?_) (fun hf => ?_) (fun hf => ?_) (fun hf => ?_)
  · refine V_aload0 C (pc := 44) dX6_count_44 ?_
    refine gf_RX6_19 C (pc := 45) dX6_count_45 ?_
    refine gf_RX6_80 C (pc := 48) dX6_count_48 ?_
    exact V_iret C (pc := 51) rfl (Nat.le_refl 0) dX6_count_51 ⟨hf, rfl⟩
  · refine V_aload0 C (pc := 52) dX6_count_52 ?_
    refine gf_RX6_63 C (pc := 53) dX6_count_53 ?_
    refine V_sipush C (pc := 56) (v := (511 : Int32)) (by decide) dX6_count_56 ?_
    refine V_iand C (pc := 59) dX6_count_59 ?_
    refine V_cS C (pc := 60) (dep2 := 0) (As := [.int ((gI M 1) &&& (511 : Int32))]) (rest := []) (fun r0 h0 => c_J6_bitCount_0f7a4 h0) lb_J6_bitCount_0f7a4 lk_RX6_200 (by decide) (Nat.le_refl 0) rfl rfl (Nat.le_of_ble_eq_true rfl) dX6_count_60 hf (fun r60 hf => ?_)
    exact V_iret C (pc := 63) rfl (Nat.le_refl 0) dX6_count_63 ⟨hf, rfl⟩
  · refine V_aload0 C (pc := 64) dX6_count_64 ?_
    refine gf_RX6_59 C (pc := 65) dX6_count_65 ?_
    exact V_iret C (pc := 68) rfl (Nat.le_refl 0) dX6_count_68 ⟨hf, rfl⟩
  · refine V_aload0 C (pc := 69) dX6_count_69 ?_
    refine V_cR C (pc := 70) (dep2 := 3) (As := []) (rest := []) (fun r0 h0 => c_X6_freeVats h0) lb_X6_freeVats lk_RX6_169 wm_n (by decide) (Nat.le_refl 0) 0 6 rfl rfl rfl rfl (Nat.le_of_ble_eq_true rfl) dX6_count_70 hf (fun r70 hf => ?_)
    exact V_iret C (pc := 73) rfl (Nat.le_refl 0) dX6_count_73 ⟨hf, rfl⟩
  · refine V_aload0 C (pc := 74) dX6_count_74 ?_
    refine gf_RX6_19 C (pc := 75) dX6_count_75 ?_
    refine gf_RX6_145 C (pc := 78) dX6_count_78 ?_
    exact V_iret C (pc := 81) rfl (Nat.le_refl 0) dX6_count_81 ⟨hf, rfl⟩
  · refine V_aload0 C (pc := 82) dX6_count_82 ?_
    refine gf_RX6_33 C (pc := 83) dX6_count_83 ?_
    refine gf_RX6_179 C (pc := 86) dX6_count_86 ?_
    exact V_iret C (pc := 89) rfl (Nat.le_refl 0) dX6_count_89 ⟨hf, rfl⟩
  · refine V_aload0 C (pc := 90) dX6_count_90 ?_
    refine gf_RX6_51 C (pc := 91) dX6_count_91 ?_
    refine gf_RX6_205 C (pc := 94) dX6_count_94 ?_
    exact V_iret C (pc := 97) rfl (Nat.le_refl 0) dX6_count_97 ⟨hf, rfl⟩
  · refine V_bipush C (pc := 98) (v := (-2 : Int32)) (by decide) dX6_count_98 ?_
    exact V_iret C (pc := 100) rfl (Nat.le_refl 0) dX6_count_100 ⟨hf, rfl⟩
set_option maxRecDepth 100000 in
theorem c_X6_count {Z : Zz} {a : Nat → Nat} {c1 c2 : Nat} {M : Mm} {x1 : Int32} {r0 : Int32} (hf : f_X6_count M x1 = some r0) : CtI (wD Z a) Z nE yX6_count cX6_count 2 (some .int) 4 0 [.ref (a 0), .int x1] (c1, c2, M) (PqR r0 (c1, c2, M)) := CtI_of (by decide +kernel) (Or.inl rfl) (List.forall_mem_cons.mpr ⟨rfl, List.forall_mem_cons.mpr ⟨rfl, fun _ h9 => nomatch h9⟩⟩) (Nat.le_of_ble_eq_true rfl) (fun G C hm => t_X6_count (o := r0) C hm hf)
def f_X6_flip (x1 : Int32) (M : Mm) : Option (Int32 × Mm) := (bd (f_X6_isRowBit x1) (fun r1 => (if r1 = 0 then (some ((-2 : Int32), M)) else (bd2 (f_X2_turn x1 M) (fun r12 M12 => (some (r12, M12)))))))
set_option maxRecDepth 100000 in
set_option maxHeartbeats 4000000 in
theorem t_X6_flip {Z : Zz} {G : Gm} {a : Nat → Nat} {o : (Int32 × Mm)} {c1 c2 : Nat} {M : Mm} {x1 : Int32} (C : CX (wD Z a) Z nE G cX6_flip RX6 1 (some .int) (PqW o.1 o.2) 0) (hm : (Gc G).maxLocals = 2) (hf : f_X6_flip x1 M = some o) : V (wD Z a) Z G 0 0 [some (.ref (a 0)), some (.int x1)] [] (c1, c2, M) := by
  unfold f_X6_flip at hf
  refine V_iload1 C (pc := 0) dX6_flip_0 ?_
  refine V_cS C (pc := 1) (dep2 := 0) (As := [.int x1]) (rest := []) (fun r0 h0 => c_X6_isRowBit h0) lb_X6_isRowBit lk_RX6_226 (by decide) (Nat.le_refl 0) rfl rfl (Nat.le_of_ble_eq_true rfl) dX6_flip_1 hf (fun r1 hf => ?_)
  refine V_if_eq C (pc := 4) (tgt := 18) dX6_flip_4 (by decide) hf (fun hf => ?_) (fun hf => ?_)
  · refine V_bipush C (pc := 18) (v := (-2 : Int32)) (by decide) dX6_flip_18 ?_
    exact V_iret C (pc := 20) rfl (Nat.le_refl 0) dX6_flip_20 (pqW hf)
  · refine V_aload0 C (pc := 7) dX6_flip_7 ?_
    refine gf_RX6_51 C (pc := 8) dX6_flip_8 ?_
    refine V_iload1 C (pc := 11) dX6_flip_11 ?_
    refine V_cW C (pc := 12) (dep2 := 0) (As := [.int x1]) (rest := []) (fun r0 M0 h0 => c_X2_turn h0) lb_X2_turn lk_RX6_233 wm_n (by decide) (Nat.le_refl 0) 6 2 rfl rfl rfl rfl (Nat.le_of_ble_eq_true rfl) dX6_flip_12 hf (fun r12 c1 c2 M12 hf => ?_)
    refine V_goto C (pc := 15) (tgt := 20) dX6_flip_15 (by decide) ?_
    exact V_iret C (pc := 20) rfl (Nat.le_refl 0) dX6_flip_20 (pqW hf)
set_option maxRecDepth 100000 in
theorem c_X6_flip {Z : Zz} {a : Nat → Nat} {c1 c2 : Nat} {M : Mm} {x1 : Int32} {r0 : Int32} {M0 : Mm} (hf : f_X6_flip x1 M = some (r0, M0)) : CtI (wD Z a) Z nE yX6_flip cX6_flip 2 (some .int) 1 0 [.ref (a 0), .int x1] (c1, c2, M) (PqW r0 M0) := CtI_of (by decide +kernel) (Or.inl rfl) (List.forall_mem_cons.mpr ⟨rfl, List.forall_mem_cons.mpr ⟨rfl, fun _ h9 => nomatch h9⟩⟩) (Nat.le_of_ble_eq_true rfl) (fun G C hm => t_X6_flip (o := (r0, M0)) C hm hf)
def f_X6_forget  (M : Mm) : Option (Int32 × Mm) := (bd (f_X5_dropGoals M) (fun M12 => (bd (f_X1_outdate M12) (fun M19 => (some ((gI M 7), M19))))))
set_option maxRecDepth 100000 in
set_option maxHeartbeats 4000000 in
theorem t_X6_forget {Z : Zz} {G : Gm} {a : Nat → Nat} {o : (Int32 × Mm)} {c1 c2 : Nat} {M : Mm} (C : CX (wD Z a) Z nE G cX6_forget RX6 2 (some .int) (PqW o.1 o.2) 0) (hm : (Gc G).maxLocals = 2) (hf : f_X6_forget  M = some o) : V (wD Z a) Z G 0 0 [some (.ref (a 0)), none] [] (c1, c2, M) := by
  unfold f_X6_forget at hf
  refine V_aload0 C (pc := 0) dX6_forget_0 ?_
  refine gf_RX6_19 C (pc := 1) dX6_forget_1 ?_
  refine gf_RX6_145 C (pc := 4) dX6_forget_4 ?_
  refine V_istore1 C (pc := 7) dX6_forget_7 (by rw [hm]; decide) ?_
  refine V_aload0 C (pc := 8) dX6_forget_8 ?_
  refine gf_RX6_19 C (pc := 9) dX6_forget_9 ?_
  refine V_cV C (pc := 12) (dep2 := 0) (As := []) (rest := []) (fun M0 h0 => c_X5_dropGoals h0) lb_X5_dropGoals lk_RX6_151 wm_n (by decide) (Nat.le_refl 0) 2 5 rfl rfl rfl rfl (Nat.le_of_ble_eq_true rfl) dX6_forget_12 hf (fun c1 c2 M12 hf => ?_)
  refine V_aload0 C (pc := 15) dX6_forget_15 ?_
  refine gf_RX6_42 C (pc := 16) dX6_forget_16 ?_
  refine V_cV C (pc := 19) (dep2 := 1) (As := []) (rest := []) (fun M0 h0 => c_X1_outdate h0) lb_X1_outdate lk_RX6_83 wm_n (by decide) (Nat.le_refl 0) 5 1 rfl rfl rfl rfl (Nat.le_of_ble_eq_true rfl) dX6_forget_19 hf (fun c1 c2 M19 hf => ?_)
  refine V_iload1 C (pc := 22) dX6_forget_22 ?_
  exact V_iret C (pc := 23) rfl (Nat.le_refl 0) dX6_forget_23 (pqW hf)
set_option maxRecDepth 100000 in
theorem c_X6_forget {Z : Zz} {a : Nat → Nat} {c1 c2 : Nat} {M : Mm} {r0 : Int32} {M0 : Mm} (hf : f_X6_forget  M = some (r0, M0)) : CtI (wD Z a) Z nE yX6_forget cX6_forget 2 (some .int) 2 0 [.ref (a 0)] (c1, c2, M) (PqW r0 M0) := CtI_of (by decide +kernel) (Or.inl rfl) (List.forall_mem_cons.mpr ⟨rfl, fun _ h9 => nomatch h9⟩) (Nat.le_of_ble_eq_true rfl) (fun G C hm => t_X6_forget (o := (r0, M0)) C hm hf)
def f_X6_goal (x1 : Int32) (M : Mm) : Option (Int32 × Mm) := (bd (f_X5_isBath M x1) (fun r5 => (if r5 = 0 then (some ((-2 : Int32), M)) else (bd (f_X5_isGoal M x1) (fun r16 => (if r16 = 0 then (if (gI M 7) < (3 : Int32) then (bd (f_X1_outdate M) (fun M40 => (bd2 (f_X5_addGoal x1 M40) (fun r48 M48 => (some (r48, M48)))))) else (some ((-2 : Int32), M))) else (some ((-2 : Int32), M))))))))
set_option maxRecDepth 100000 in
set_option maxHeartbeats 4000000 in
theorem t_X6_goal {Z : Zz} {G : Gm} {a : Nat → Nat} {o : (Int32 × Mm)} {c1 c2 : Nat} {M : Mm} {x1 : Int32} (C : CX (wD Z a) Z nE G cX6_goal RX6 2 (some .int) (PqW o.1 o.2) 0) (hm : (Gc G).maxLocals = 2) (hf : f_X6_goal x1 M = some o) : V (wD Z a) Z G 0 0 [some (.ref (a 0)), some (.int x1)] [] (c1, c2, M) := by
  unfold f_X6_goal at hf
  refine V_aload0 C (pc := 0) dX6_goal_0 ?_
  refine gf_RX6_19 C (pc := 1) dX6_goal_1 ?_
  refine V_iload1 C (pc := 4) dX6_goal_4 ?_
  refine V_cR C (pc := 5) (dep2 := 0) (As := [.int x1]) (rest := []) (fun r0 h0 => c_X5_isBath h0) lb_X5_isBath lk_RX6_89 wm_n (by decide) (Nat.le_refl 0) 2 5 rfl rfl rfl rfl (Nat.le_of_ble_eq_true rfl) dX6_goal_5 hf (fun r5 hf => ?_)
  refine V_if_eq C (pc := 8) (tgt := 33) dX6_goal_8 (by decide) hf (fun hf => ?_) (fun hf => ?_)
  · refine V_bipush C (pc := 33) (v := (-2 : Int32)) (by decide) dX6_goal_33 ?_
    exact V_iret C (pc := 35) rfl (Nat.le_refl 0) dX6_goal_35 (pqW hf)
  · refine V_aload0 C (pc := 11) dX6_goal_11 ?_
    refine gf_RX6_19 C (pc := 12) dX6_goal_12 ?_
    refine V_iload1 C (pc := 15) dX6_goal_15 ?_
    refine V_cR C (pc := 16) (dep2 := 0) (As := [.int x1]) (rest := []) (fun r0 h0 => c_X5_isGoal h0) lb_X5_isGoal lk_RX6_142 wm_n (by decide) (Nat.le_refl 0) 2 5 rfl rfl rfl rfl (Nat.le_of_ble_eq_true rfl) dX6_goal_16 hf (fun r16 hf => ?_)
    refine V_if_ne C (pc := 19) (tgt := 33) dX6_goal_19 (by decide) hf (fun hf => ?_) (fun hf => ?_)
    · refine V_bipush C (pc := 33) (v := (-2 : Int32)) (by decide) dX6_goal_33 ?_
      exact V_iret C (pc := 35) rfl (Nat.le_refl 0) dX6_goal_35 (pqW hf)
    · refine V_aload0 C (pc := 22) dX6_goal_22 ?_
      refine gf_RX6_19 C (pc := 23) dX6_goal_23 ?_
      refine gf_RX6_145 C (pc := 26) dX6_goal_26 ?_
      refine V_iconst C (pc := 29) (v := (3 : Int32)) (by decide) dX6_goal_29 ?_
      refine V_icmp_lt C (pc := 30) (tgt := 36) dX6_goal_30 (by decide) hf (fun hf => ?_) (fun hf => ?_)
      · refine V_aload0 C (pc := 36) dX6_goal_36 ?_
        refine gf_RX6_42 C (pc := 37) dX6_goal_37 ?_
        refine V_cV C (pc := 40) (dep2 := 1) (As := []) (rest := []) (fun M0 h0 => c_X1_outdate h0) lb_X1_outdate lk_RX6_83 wm_n (by decide) (Nat.le_refl 0) 5 1 rfl rfl rfl rfl (Nat.le_of_ble_eq_true rfl) dX6_goal_40 hf (fun c1 c2 M40 hf => ?_)
        refine V_aload0 C (pc := 43) dX6_goal_43 ?_
        refine gf_RX6_19 C (pc := 44) dX6_goal_44 ?_
        refine V_iload1 C (pc := 47) dX6_goal_47 ?_
        refine V_cW C (pc := 48) (dep2 := 0) (As := [.int x1]) (rest := []) (fun r0 M0 h0 => c_X5_addGoal h0) lb_X5_addGoal lk_RX6_148 wm_n (by decide) (Nat.le_refl 0) 2 5 rfl rfl rfl rfl (Nat.le_of_ble_eq_true rfl) dX6_goal_48 hf (fun r48 c1 c2 M48 hf => ?_)
        exact V_iret C (pc := 51) rfl (Nat.le_refl 0) dX6_goal_51 (pqW hf)
      · refine V_bipush C (pc := 33) (v := (-2 : Int32)) (by decide) dX6_goal_33 ?_
        exact V_iret C (pc := 35) rfl (Nat.le_refl 0) dX6_goal_35 (pqW hf)
set_option maxRecDepth 100000 in
theorem c_X6_goal {Z : Zz} {a : Nat → Nat} {c1 c2 : Nat} {M : Mm} {x1 : Int32} {r0 : Int32} {M0 : Mm} (hf : f_X6_goal x1 M = some (r0, M0)) : CtI (wD Z a) Z nE yX6_goal cX6_goal 2 (some .int) 2 0 [.ref (a 0), .int x1] (c1, c2, M) (PqW r0 M0) := CtI_of (by decide +kernel) (Or.inl rfl) (List.forall_mem_cons.mpr ⟨rfl, List.forall_mem_cons.mpr ⟨rfl, fun _ h9 => nomatch h9⟩⟩) (Nat.le_of_ble_eq_true rfl) (fun G C hm => t_X6_goal (o := (r0, M0)) C hm hf)
def f_X6_isType (x0 : Int32) : Option Int32 := (if x0 < 0 then (some (0 : Int32)) else (if (3 : Int32) ≤ x0 then (some (0 : Int32)) else (some (1 : Int32))))
set_option maxRecDepth 100000 in
set_option maxHeartbeats 4000000 in
theorem t_X6_isType {Z : Zz} {G : Gm} {ws : va_W} {o : Int32} {x0 : Int32} (C : CX (fun _ : Unit => ws) Z tE G cX6_isType RX6 0 (some .boolean) (PqR o ()) 0) (hm : (Gc G).maxLocals = 1) (hf : f_X6_isType x0 = some o) : V (fun _ : Unit => ws) Z G 0 0 [some (.int x0)] [] () := by
  unfold f_X6_isType at hf
  refine V_iload0 C (pc := 0) dX6_isType_0 ?_
  refine V_if_lt C (pc := 1) (tgt := 13) dX6_isType_1 (by decide) hf (fun hf => ?_) (fun hf => ?_)
  · refine V_iconst C (pc := 13) (v := (0 : Int32)) (by decide) dX6_isType_13 ?_
    exact V_zret C (pc := 14) rfl (Nat.le_refl 0) (by decide) dX6_isType_14 ⟨hf, rfl⟩
  · refine V_iload0 C (pc := 4) dX6_isType_4 ?_
    refine V_iconst C (pc := 5) (v := (3 : Int32)) (by decide) dX6_isType_5 ?_
    refine V_icmp_ge C (pc := 6) (tgt := 13) dX6_isType_6 (by decide) hf (fun hf => ?_) (fun hf => ?_)
    · refine V_iconst C (pc := 13) (v := (0 : Int32)) (by decide) dX6_isType_13 ?_
      exact V_zret C (pc := 14) rfl (Nat.le_refl 0) (by decide) dX6_isType_14 ⟨hf, rfl⟩
    · refine V_iconst C (pc := 9) (v := (1 : Int32)) (by decide) dX6_isType_9 ?_
      refine V_goto C (pc := 10) (tgt := 14) dX6_isType_10 (by decide) ?_
      exact V_zret C (pc := 14) rfl (Nat.le_refl 0) (by decide) dX6_isType_14 ⟨hf, rfl⟩
set_option maxRecDepth 100000 in
theorem c_X6_isType {Z : Zz} {ws : va_W} {x0 : Int32} {r0 : Int32} (hf : f_X6_isType x0 = some r0) : CtI (fun _ : Unit => ws) Z tE yX6_isType cX6_isType 1 (some .boolean) 0 0 [.int x0] () (PqR r0 ()) := CtI_of (by decide +kernel) (Or.inr rfl) (List.forall_mem_cons.mpr ⟨rfl, fun _ h9 => nomatch h9⟩) (Nat.le_of_ble_eq_true rfl) (fun G C hm => t_X6_isType (o := r0) C hm hf)
def f_X6_recipeChanged (N : Nat) (x1 : Int32) (M : Mm) : Option Mm := (bd (f_X5_learn N x1 M) (fun M9 => (bd (f_X0_clear M9) (fun M16 => (bd (f_X1_outdate M16) (fun M23 => (some M23)))))))
set_option maxRecDepth 100000 in
set_option maxHeartbeats 4000000 in
theorem t_X6_recipeChanged {Z : Zz} {G : Gm} {a : Nat → Nat} {N : Nat} {o : Mm} {c1 c2 : Nat} {M : Mm} {x1 : Int32} (C : CX (wD Z a) Z nE G cX6_recipeChanged RX6 3 none (PqV o) 0) (hm : (Gc G).maxLocals = 2) (hf : f_X6_recipeChanged N x1 M = some o) : V (wD Z a) Z G 0 0 [some (.ref (a 0)), some (.int x1)] [] (c1, c2, M) := by
  unfold f_X6_recipeChanged at hf
  refine V_aload0 C (pc := 0) dX6_recipeChanged_0 ?_
  refine gf_RX6_19 C (pc := 1) dX6_recipeChanged_1 ?_
  refine V_iload1 C (pc := 4) dX6_recipeChanged_4 ?_
  refine V_aload0 C (pc := 5) dX6_recipeChanged_5 ?_
  refine gf_RX6_12 C (pc := 6) dX6_recipeChanged_6 ?_
  refine V_cV C (pc := 9) (dep2 := 2) (As := [.int x1, .ref (a 1)]) (rest := []) (fun M0 h0 => c_X5_learn h0) lb_X5_learn lk_RX6_242 wm_n (by decide) (Nat.le_refl 0) 2 5 rfl rfl rfl rfl (Nat.le_of_ble_eq_true rfl) dX6_recipeChanged_9 hf (fun c1 c2 M9 hf => ?_)
  refine V_aload0 C (pc := 12) dX6_recipeChanged_12 ?_
  refine gf_RX6_33 C (pc := 13) dX6_recipeChanged_13 ?_
  refine V_cV C (pc := 16) (dep2 := 0) (As := []) (rest := []) (fun M0 h0 => c_X0_clear h0) lb_X0_clear lk_RX6_74 wm_n (by decide) (Nat.le_refl 0) 4 0 rfl rfl rfl rfl (Nat.le_of_ble_eq_true rfl) dX6_recipeChanged_16 hf (fun c1 c2 M16 hf => ?_)
  refine V_aload0 C (pc := 19) dX6_recipeChanged_19 ?_
  refine gf_RX6_42 C (pc := 20) dX6_recipeChanged_20 ?_
  refine V_cV C (pc := 23) (dep2 := 1) (As := []) (rest := []) (fun M0 h0 => c_X1_outdate h0) lb_X1_outdate lk_RX6_83 wm_n (by decide) (Nat.le_refl 0) 5 1 rfl rfl rfl rfl (Nat.le_of_ble_eq_true rfl) dX6_recipeChanged_23 hf (fun c1 c2 M23 hf => ?_)
  exact V_vret C (pc := 26) rfl (Nat.le_refl 0) dX6_recipeChanged_26 (pqV hf)
set_option maxRecDepth 100000 in
theorem c_X6_recipeChanged {Z : Zz} {a : Nat → Nat} {N : Nat} {c1 c2 : Nat} {M : Mm} {x1 : Int32} {M0 : Mm} (hf : f_X6_recipeChanged N x1 M = some M0) : CtV (wD Z a) Z nE yX6_recipeChanged cX6_recipeChanged 2 3 0 [.ref (a 0), .int x1] (c1, c2, M) (PqV M0) := CtV_of (by decide +kernel) (List.forall_mem_cons.mpr ⟨rfl, List.forall_mem_cons.mpr ⟨rfl, fun _ h9 => nomatch h9⟩⟩) (Nat.le_of_ble_eq_true rfl) (fun G C hm => t_X6_recipeChanged (o := M0) C hm hf)
def f_X6_lose_37 (N : Nat) (x1 : Int32) (t0 : Int32) (M : Mm) : Option (Int32 × Mm) := (bd (f_X3_drop x1 M) (fun M43 => (bd (f_X6_recipeChanged N x1 M43) (fun M48 => (some (t0, M48))))))
set_option maxRecDepth 100000 in
set_option maxHeartbeats 4000000 in
theorem t_X6_lose_37 {Z : Zz} {G : Gm} {a : Nat → Nat} {N : Nat} {o : (Int32 × Mm)} {c1 c2 : Nat} {M : Mm} {x1 t0 : Int32} (C : CX (wD Z a) Z nE G cX6_lose RX6 4 (some .int) (PqW o.1 o.2) 0) (hm : (Gc G).maxLocals = 3) (hf : f_X6_lose_37 N x1 t0 M = some o) : V (wD Z a) Z G 0 37 [some (.ref (a 0)), some (.int x1), none] [.int t0] (c1, c2, M) := by
  unfold f_X6_lose_37 at hf
  refine V_istore2 C (pc := 37) dX6_lose_37 (by rw [hm]; decide) ?_
  refine V_aload0 C (pc := 38) dX6_lose_38 ?_
  refine gf_RX6_12 C (pc := 39) dX6_lose_39 ?_
  refine V_iload1 C (pc := 42) dX6_lose_42 ?_
  refine V_cV C (pc := 43) (dep2 := 0) (As := [.int x1]) (rest := []) (fun M0 h0 => c_X3_drop h0) lb_X3_drop lk_RX6_110 wm_n (by decide) (Nat.le_refl 0) 1 3 rfl rfl rfl rfl (Nat.le_of_ble_eq_true rfl) dX6_lose_43 hf (fun c1 c2 M43 hf => ?_)
  refine V_aload0 C (pc := 46) dX6_lose_46 ?_
  refine V_iload1 C (pc := 47) dX6_lose_47 ?_
  refine V_cV C (pc := 48) (dep2 := 3) (As := [.int x1]) (rest := []) (fun M0 h0 => c_X6_recipeChanged h0) lb_X6_recipeChanged lk_RX6_103 wm_n (by decide) (Nat.le_refl 0) 0 6 rfl rfl rfl rfl (Nat.le_of_ble_eq_true rfl) dX6_lose_48 hf (fun c1 c2 M48 hf => ?_)
  refine V_iload2 C (pc := 51) dX6_lose_51 ?_
  exact V_iret C (pc := 52) rfl (Nat.le_refl 0) dX6_lose_52 (pqW hf)
def f_X6_lose (N : Nat) (x1 : Int32) (M : Mm) : Option (Int32 × Mm) := (bd (f_X5_isBath M x1) (fun r5 => (if r5 = 0 then (some ((-2 : Int32), M)) else (bd (f_X6_anyStands M) (fun r12 => (if r12 = 0 then (bd (f_X3_has M x1) (fun r26 => (if r26 = 0 then (f_X6_lose_37 N x1 (0 : Int32) M) else (f_X6_lose_37 N x1 (1 : Int32) M)))) else (some ((-2 : Int32), M))))))))
set_option maxRecDepth 100000 in
set_option maxHeartbeats 4000000 in
theorem t_X6_lose {Z : Zz} {G : Gm} {a : Nat → Nat} {N : Nat} {o : (Int32 × Mm)} {c1 c2 : Nat} {M : Mm} {x1 : Int32} (C : CX (wD Z a) Z nE G cX6_lose RX6 4 (some .int) (PqW o.1 o.2) 0) (hm : (Gc G).maxLocals = 3) (hf : f_X6_lose N x1 M = some o) : V (wD Z a) Z G 0 0 [some (.ref (a 0)), some (.int x1), none] [] (c1, c2, M) := by
  unfold f_X6_lose at hf
  refine V_aload0 C (pc := 0) dX6_lose_0 ?_
  refine gf_RX6_19 C (pc := 1) dX6_lose_1 ?_
  refine V_iload1 C (pc := 4) dX6_lose_4 ?_
  refine V_cR C (pc := 5) (dep2 := 0) (As := [.int x1]) (rest := []) (fun r0 h0 => c_X5_isBath h0) lb_X5_isBath lk_RX6_89 wm_n (by decide) (Nat.le_refl 0) 2 5 rfl rfl rfl rfl (Nat.le_of_ble_eq_true rfl) dX6_lose_5 hf (fun r5 hf => ?_)
  refine V_if_eq C (pc := 8) (tgt := 18) dX6_lose_8 (by decide) hf (fun hf => ?_) (fun hf => ?_)
  · refine V_bipush C (pc := 18) (v := (-2 : Int32)) (by decide) dX6_lose_18 ?_
    exact V_iret C (pc := 20) rfl (Nat.le_refl 0) dX6_lose_20 (pqW hf)
  · refine V_aload0 C (pc := 11) dX6_lose_11 ?_
    refine V_cR C (pc := 12) (dep2 := 0) (As := []) (rest := []) (fun r0 h0 => c_X6_anyStands h0) lb_X6_anyStands lk_RX6_95 wm_n (by decide) (Nat.le_refl 0) 0 6 rfl rfl rfl rfl (Nat.le_of_ble_eq_true rfl) dX6_lose_12 hf (fun r12 hf => ?_)
    refine V_if_eq C (pc := 15) (tgt := 21) dX6_lose_15 (by decide) hf (fun hf => ?_) (fun hf => ?_)
    · refine V_aload0 C (pc := 21) dX6_lose_21 ?_
      refine gf_RX6_12 C (pc := 22) dX6_lose_22 ?_
      refine V_iload1 C (pc := 25) dX6_lose_25 ?_
      refine V_cR C (pc := 26) (dep2 := 0) (As := [.int x1]) (rest := []) (fun r0 h0 => c_X3_has h0) lb_X3_has lk_RX6_107 wm_n (by decide) (Nat.le_refl 0) 1 3 rfl rfl rfl rfl (Nat.le_of_ble_eq_true rfl) dX6_lose_26 hf (fun r26 hf => ?_)
      refine V_if_eq C (pc := 29) (tgt := 36) dX6_lose_29 (by decide) hf (fun hf => ?_) (fun hf => ?_)
      · refine V_iconst C (pc := 36) (v := (0 : Int32)) (by decide) dX6_lose_36 ?_
        exact V.mono [true, true, false] rfl (t_X6_lose_37 C hm hf)
      · refine V_iconst C (pc := 32) (v := (1 : Int32)) (by decide) dX6_lose_32 ?_
        refine V_goto C (pc := 33) (tgt := 37) dX6_lose_33 (by decide) ?_
        exact V.mono [true, true, false] rfl (t_X6_lose_37 C hm hf)
    · refine V_bipush C (pc := 18) (v := (-2 : Int32)) (by decide) dX6_lose_18 ?_
      exact V_iret C (pc := 20) rfl (Nat.le_refl 0) dX6_lose_20 (pqW hf)
set_option maxRecDepth 100000 in
theorem c_X6_lose {Z : Zz} {a : Nat → Nat} {N : Nat} {c1 c2 : Nat} {M : Mm} {x1 : Int32} {r0 : Int32} {M0 : Mm} (hf : f_X6_lose N x1 M = some (r0, M0)) : CtI (wD Z a) Z nE yX6_lose cX6_lose 3 (some .int) 4 0 [.ref (a 0), .int x1] (c1, c2, M) (PqW r0 M0) := CtI_of (by decide +kernel) (Or.inl rfl) (List.forall_mem_cons.mpr ⟨rfl, List.forall_mem_cons.mpr ⟨rfl, fun _ h9 => nomatch h9⟩⟩) (Nat.le_of_ble_eq_true rfl) (fun G C hm => t_X6_lose (o := (r0, M0)) C hm hf)
def f_X6_make (x1 : Int32) (M : Mm) : Option (Int32 × Mm) := (bd (f_X5_isBath M x1) (fun r5 => (if r5 = 0 then (some ((-2 : Int32), M)) else (bd (f_X5_hindrance M x1 (gI M 1) (gI M 0)) (fun r24 => (if r24 = 0 then (bd (f_X0_keep (gI M 1) x1 M) (fun M42 => (if inb x1 9 then (if inb x1 9 then (bd (f_X5_whenMade (sA M42 7 x1 ((gA M42 7 x1) + (1 : Int32))) x1 (gI (sA M42 7 x1 ((gA M42 7 x1) + (1 : Int32))) 1)) (fun r65 => (bd (f_X6_freeVats (sI (sA M42 7 x1 ((gA M42 7 x1) + (1 : Int32))) 1 r65)) (fun r72 => (some (r72, (sI (sA M42 7 x1 ((gA M42 7 x1) + (1 : Int32))) 1 r65))))))) else none) else none))) else (some ((-2 : Int32), M))))))))
set_option maxRecDepth 100000 in
set_option maxHeartbeats 4000000 in
theorem t_X6_make {Z : Zz} {G : Gm} {a : Nat → Nat} {o : (Int32 × Mm)} {c1 c2 : Nat} {M : Mm} {x1 : Int32} (C : CX (wD Z a) Z nE G cX6_make RX6 4 (some .int) (PqW o.1 o.2) 0) (hm : (Gc G).maxLocals = 2) (hf : f_X6_make x1 M = some o) : V (wD Z a) Z G 0 0 [some (.ref (a 0)), some (.int x1)] [] (c1, c2, M) := by
  unfold f_X6_make at hf
  refine V_aload0 C (pc := 0) dX6_make_0 ?_
  refine gf_RX6_19 C (pc := 1) dX6_make_1 ?_
  refine V_iload1 C (pc := 4) dX6_make_4 ?_
  refine V_cR C (pc := 5) (dep2 := 0) (As := [.int x1]) (rest := []) (fun r0 h0 => c_X5_isBath h0) lb_X5_isBath lk_RX6_89 wm_n (by decide) (Nat.le_refl 0) 2 5 rfl rfl rfl rfl (Nat.le_of_ble_eq_true rfl) dX6_make_5 hf (fun r5 hf => ?_)
  refine V_if_eq C (pc := 8) (tgt := 30) dX6_make_8 (by decide) hf (fun hf => ?_) (fun hf => ?_)
  · refine V_bipush C (pc := 30) (v := (-2 : Int32)) (by decide) dX6_make_30 ?_
    exact V_iret C (pc := 32) rfl (Nat.le_refl 0) dX6_make_32 (pqW hf)
  · refine V_aload0 C (pc := 11) dX6_make_11 ?_
    refine gf_RX6_19 C (pc := 12) dX6_make_12 ?_
    refine V_iload1 C (pc := 15) dX6_make_15 ?_
    refine V_aload0 C (pc := 16) dX6_make_16 ?_
    refine gf_RX6_63 C (pc := 17) dX6_make_17 ?_
    refine V_aload0 C (pc := 20) dX6_make_20 ?_
    refine gf_RX6_59 C (pc := 21) dX6_make_21 ?_
    refine V_cR C (pc := 24) (dep2 := 2) (As := [.int x1, .int (gI M 1), .int (gI M 0)]) (rest := []) (fun r0 h0 => c_X5_hindrance h0) lb_X5_hindrance lk_RX6_158 wm_n (by decide) (Nat.le_refl 0) 2 5 rfl rfl rfl rfl (Nat.le_of_ble_eq_true rfl) dX6_make_24 hf (fun r24 hf => ?_)
    refine V_if_eq C (pc := 27) (tgt := 33) dX6_make_27 (by decide) hf (fun hf => ?_) (fun hf => ?_)
    · refine V_aload0 C (pc := 33) dX6_make_33 ?_
      refine gf_RX6_33 C (pc := 34) dX6_make_34 ?_
      refine V_aload0 C (pc := 37) dX6_make_37 ?_
      refine gf_RX6_63 C (pc := 38) dX6_make_38 ?_
      refine V_iload1 C (pc := 41) dX6_make_41 ?_
      refine V_cV C (pc := 42) (dep2 := 1) (As := [.int (gI M 1), .int x1]) (rest := []) (fun M0 h0 => c_X0_keep h0) lb_X0_keep lk_RX6_162 wm_n (by decide) (Nat.le_refl 0) 4 0 rfl rfl rfl rfl (Nat.le_of_ble_eq_true rfl) dX6_make_42 hf (fun c1 c2 M42 hf => ?_)
      refine V_aload0 C (pc := 45) dX6_make_45 ?_
      refine gf_RX6_55 C (pc := 46) dX6_make_46 ?_
      refine V_iload1 C (pc := 49) dX6_make_49 ?_
      refine V_dup2 C (pc := 50) dX6_make_50 ?_
      refine alD_7 C (pc := 51) dX6_make_51 hf (fun hf => ?_)
      refine V_iconst C (pc := 52) (v := (1 : Int32)) (by decide) dX6_make_52 ?_
      refine V_iadd C (pc := 53) dX6_make_53 ?_
      refine asD_7 C (pc := 54) dX6_make_54 hf (fun hf => ?_)
      refine V_aload0 C (pc := 55) dX6_make_55 ?_
      refine V_aload0 C (pc := 56) dX6_make_56 ?_
      refine gf_RX6_19 C (pc := 57) dX6_make_57 ?_
      refine V_iload1 C (pc := 60) dX6_make_60 ?_
      refine V_aload0 C (pc := 61) dX6_make_61 ?_
      refine gf_RX6_63 C (pc := 62) dX6_make_62 ?_
      refine V_cR C (pc := 65) (dep2 := 0) (As := [.int x1, .int (gI (sA M42 7 x1 ((gA M42 7 x1) + (1 : Int32))) 1)]) (rest := [.ref (a 0)]) (fun r0 h0 => c_X5_whenMade h0) lb_X5_whenMade lk_RX6_166 wm_n (by decide) (Nat.le_refl 0) 2 5 rfl rfl rfl rfl (Nat.le_of_ble_eq_true rfl) dX6_make_65 hf (fun r65 hf => ?_)
      refine pf_RX6_63 C (pc := 68) dX6_make_68 ?_
      refine V_aload0 C (pc := 71) dX6_make_71 ?_
      refine V_cR C (pc := 72) (dep2 := 3) (As := []) (rest := []) (fun r0 h0 => c_X6_freeVats h0) lb_X6_freeVats lk_RX6_169 wm_n (by decide) (Nat.le_refl 0) 0 6 rfl rfl rfl rfl (Nat.le_of_ble_eq_true rfl) dX6_make_72 hf (fun r72 hf => ?_)
      exact V_iret C (pc := 75) rfl (Nat.le_refl 0) dX6_make_75 (pqW hf)
    · refine V_bipush C (pc := 30) (v := (-2 : Int32)) (by decide) dX6_make_30 ?_
      exact V_iret C (pc := 32) rfl (Nat.le_refl 0) dX6_make_32 (pqW hf)
set_option maxRecDepth 100000 in
theorem c_X6_make {Z : Zz} {a : Nat → Nat} {c1 c2 : Nat} {M : Mm} {x1 : Int32} {r0 : Int32} {M0 : Mm} (hf : f_X6_make x1 M = some (r0, M0)) : CtI (wD Z a) Z nE yX6_make cX6_make 2 (some .int) 4 0 [.ref (a 0), .int x1] (c1, c2, M) (PqW r0 M0) := CtI_of (by decide +kernel) (Or.inl rfl) (List.forall_mem_cons.mpr ⟨rfl, List.forall_mem_cons.mpr ⟨rfl, fun _ h9 => nomatch h9⟩⟩) (Nat.le_of_ble_eq_true rfl) (fun G C hm => t_X6_make (o := (r0, M0)) C hm hf)
def f_X6_named (M : Mm) (x1 : Int32) (x2 : Int32) (x3 : Int32) : Option Int32 := (bd (f_X5_isBath M x1) (fun r5 => (if r5 = 0 then (some (-2 : Int32)) else (bd (f_X6_isType x2) (fun r12 => (if r12 = 0 then (some (-2 : Int32)) else (bd (f_X3_has M x1) (fun r26 => (if r26 = 0 then (some (-10 : Int32)) else (if inb x1 9 then (if (gA M 9 x1) = x2 then (bd (f_X3_hasPlace M x1 x3) (fun r57 => (if r57 = 0 then (some (-11 : Int32)) else (bd (f_X3_nameAt M x1 x3) (fun r69 => (some r69)))))) else (some (-12 : Int32))) else none))))))))))
set_option maxRecDepth 100000 in
set_option maxHeartbeats 4000000 in
theorem t_X6_named {Z : Zz} {G : Gm} {a : Nat → Nat} {o : Int32} {c1 c2 : Nat} {M : Mm} {x1 x2 x3 : Int32} (C : CX (wD Z a) Z nE G cX6_named RX6 1 (some .int) (PqR o (c1, c2, M)) 0) (hm : (Gc G).maxLocals = 4) (hf : f_X6_named M x1 x2 x3 = some o) : V (wD Z a) Z G 0 0 [some (.ref (a 0)), some (.int x1), some (.int x2), some (.int x3)] [] (c1, c2, M) := by
  unfold f_X6_named at hf
  refine V_aload0 C (pc := 0) dX6_named_0 ?_
  refine gf_RX6_19 C (pc := 1) dX6_named_1 ?_
  refine V_iload1 C (pc := 4) dX6_named_4 ?_
  refine V_cR C (pc := 5) (dep2 := 0) (As := [.int x1]) (rest := []) (fun r0 h0 => c_X5_isBath h0) lb_X5_isBath lk_RX6_89 wm_n (by decide) (Nat.le_refl 0) 2 5 rfl rfl rfl rfl (Nat.le_of_ble_eq_true rfl) dX6_named_5 hf (fun r5 hf => ?_)
  refine V_if_eq C (pc := 8) (tgt := 18) dX6_named_8 (by decide) hf (fun hf => ?_) (fun hf => ?_)
  · refine V_bipush C (pc := 18) (v := (-2 : Int32)) (by decide) dX6_named_18 ?_
    exact V_iret C (pc := 20) rfl (Nat.le_refl 0) dX6_named_20 ⟨hf, rfl⟩
  · refine V_iload2 C (pc := 11) dX6_named_11 ?_
    refine V_cS C (pc := 12) (dep2 := 0) (As := [.int x2]) (rest := []) (fun r0 h0 => c_X6_isType h0) lb_X6_isType lk_RX6_92 (by decide) (Nat.le_refl 0) rfl rfl (Nat.le_of_ble_eq_true rfl) dX6_named_12 hf (fun r12 hf => ?_)
    refine V_if_ne C (pc := 15) (tgt := 21) dX6_named_15 (by decide) hf (fun hf => ?_) (fun hf => ?_)
    · refine V_aload0 C (pc := 21) dX6_named_21 ?_
      refine gf_RX6_12 C (pc := 22) dX6_named_22 ?_
      refine V_iload1 C (pc := 25) dX6_named_25 ?_
      refine V_cR C (pc := 26) (dep2 := 0) (As := [.int x1]) (rest := []) (fun r0 h0 => c_X3_has h0) lb_X3_has lk_RX6_107 wm_n (by decide) (Nat.le_refl 0) 1 3 rfl rfl rfl rfl (Nat.le_of_ble_eq_true rfl) dX6_named_26 hf (fun r26 hf => ?_)
      refine V_if_ne C (pc := 29) (tgt := 35) dX6_named_29 (by decide) hf (fun hf => ?_) (fun hf => ?_)
      · refine V_aload0 C (pc := 35) dX6_named_35 ?_
        refine gf_RX6_12 C (pc := 36) dX6_named_36 ?_
        refine gf_RX6_131 C (pc := 39) dX6_named_39 ?_
        refine V_iload1 C (pc := 42) dX6_named_42 ?_
        refine alD_9 C (pc := 43) dX6_named_43 hf (fun hf => ?_)
        refine V_iload2 C (pc := 44) dX6_named_44 ?_
        refine V_icmp_eq C (pc := 45) (tgt := 51) dX6_named_45 (by decide) hf (fun hf => ?_) (fun hf => ?_)
        · refine V_aload0 C (pc := 51) dX6_named_51 ?_
          refine gf_RX6_12 C (pc := 52) dX6_named_52 ?_
          refine V_iload1 C (pc := 55) dX6_named_55 ?_
          refine V_iload3 C (pc := 56) dX6_named_56 ?_
          refine V_cR C (pc := 57) (dep2 := 0) (As := [.int x1, .int x3]) (rest := []) (fun r0 h0 => c_X3_hasPlace h0) lb_X3_hasPlace lk_RX6_113 wm_n (by decide) (Nat.le_refl 0) 1 3 rfl rfl rfl rfl (Nat.le_of_ble_eq_true rfl) dX6_named_57 hf (fun r57 hf => ?_)
          refine V_if_eq C (pc := 60) (tgt := 75) dX6_named_60 (by decide) hf (fun hf => ?_) (fun hf => ?_)
          · refine V_bipush C (pc := 75) (v := (-11 : Int32)) (by decide) dX6_named_75 ?_
            exact V_iret C (pc := 77) rfl (Nat.le_refl 0) dX6_named_77 ⟨hf, rfl⟩
          · refine V_aload0 C (pc := 63) dX6_named_63 ?_
            refine gf_RX6_12 C (pc := 64) dX6_named_64 ?_
            refine V_iload1 C (pc := 67) dX6_named_67 ?_
            refine V_iload3 C (pc := 68) dX6_named_68 ?_
            refine V_cR C (pc := 69) (dep2 := 0) (As := [.int x1, .int x3]) (rest := []) (fun r0 h0 => c_X3_nameAt h0) lb_X3_nameAt lk_RX6_124 wm_n (by decide) (Nat.le_refl 0) 1 3 rfl rfl rfl rfl (Nat.le_of_ble_eq_true rfl) dX6_named_69 hf (fun r69 hf => ?_)
            refine V_goto C (pc := 72) (tgt := 77) dX6_named_72 (by decide) ?_
            exact V_iret C (pc := 77) rfl (Nat.le_refl 0) dX6_named_77 ⟨hf, rfl⟩
        · refine V_bipush C (pc := 48) (v := (-12 : Int32)) (by decide) dX6_named_48 ?_
          exact V_iret C (pc := 50) rfl (Nat.le_refl 0) dX6_named_50 ⟨hf, rfl⟩
      · refine V_bipush C (pc := 32) (v := (-10 : Int32)) (by decide) dX6_named_32 ?_
        exact V_iret C (pc := 34) rfl (Nat.le_refl 0) dX6_named_34 ⟨hf, rfl⟩
    · refine V_bipush C (pc := 18) (v := (-2 : Int32)) (by decide) dX6_named_18 ?_
      exact V_iret C (pc := 20) rfl (Nat.le_refl 0) dX6_named_20 ⟨hf, rfl⟩
set_option maxRecDepth 100000 in
theorem c_X6_named {Z : Zz} {a : Nat → Nat} {c1 c2 : Nat} {M : Mm} {x1 x2 x3 : Int32} {r0 : Int32} (hf : f_X6_named M x1 x2 x3 = some r0) : CtI (wD Z a) Z nE yX6_named cX6_named 4 (some .int) 1 0 [.ref (a 0), .int x1, .int x2, .int x3] (c1, c2, M) (PqR r0 (c1, c2, M)) := CtI_of (by decide +kernel) (Or.inl rfl) (List.forall_mem_cons.mpr ⟨rfl, List.forall_mem_cons.mpr ⟨rfl, List.forall_mem_cons.mpr ⟨rfl, List.forall_mem_cons.mpr ⟨rfl, fun _ h9 => nomatch h9⟩⟩⟩⟩) (Nat.le_of_ble_eq_true rfl) (fun G C hm => t_X6_named (o := r0) C hm hf)
def f_X6_need_93 (N : Nat) (x1 : Int32) (x2 : Int32) (x3 : Int32) (M : Mm) : Option (Int32 × Mm) := (bd (f_X3_nameAt M x1 x2) (fun r99 => (bd (f_X3_setName x1 x2 x3 M) (fun M111 => (bd (f_X6_recipeChanged N x1 M111) (fun M116 => (some (r99, M116))))))))
set_option maxRecDepth 100000 in
set_option maxHeartbeats 4000000 in
theorem t_X6_need_93 {Z : Zz} {G : Gm} {a : Nat → Nat} {N : Nat} {o : (Int32 × Mm)} {c1 c2 : Nat} {M : Mm} {x1 x2 x3 : Int32} (C : CX (wD Z a) Z nE G cX6_need RX6 4 (some .int) (PqW o.1 o.2) 0) (hm : (Gc G).maxLocals = 5) (hf : f_X6_need_93 N x1 x2 x3 M = some o) : V (wD Z a) Z G 0 93 [some (.ref (a 0)), some (.int x1), some (.int x2), some (.int x3), none] [] (c1, c2, M) := by
  unfold f_X6_need_93 at hf
  refine V_aload0 C (pc := 93) dX6_need_93 ?_
  refine gf_RX6_12 C (pc := 94) dX6_need_94 ?_
  refine V_iload1 C (pc := 97) dX6_need_97 ?_
  refine V_iload2 C (pc := 98) dX6_need_98 ?_
  refine V_cR C (pc := 99) (dep2 := 0) (As := [.int x1, .int x2]) (rest := []) (fun r0 h0 => c_X3_nameAt h0) lb_X3_nameAt lk_RX6_124 wm_n (by decide) (Nat.le_refl 0) 1 3 rfl rfl rfl rfl (Nat.le_of_ble_eq_true rfl) dX6_need_99 hf (fun r99 hf => ?_)
  refine V_istore4 C (pc := 102) dX6_need_102 (by rw [hm]; decide) ?_
  refine V_aload0 C (pc := 104) dX6_need_104 ?_
  refine gf_RX6_12 C (pc := 105) dX6_need_105 ?_
  refine V_iload1 C (pc := 108) dX6_need_108 ?_
  refine V_iload2 C (pc := 109) dX6_need_109 ?_
  refine V_iload3 C (pc := 110) dX6_need_110 ?_
  refine V_cV C (pc := 111) (dep2 := 0) (As := [.int x1, .int x2, .int x3]) (rest := []) (fun M0 h0 => c_X3_setName h0) lb_X3_setName lk_RX6_128 wm_n (by decide) (Nat.le_refl 0) 1 3 rfl rfl rfl rfl (Nat.le_of_ble_eq_true rfl) dX6_need_111 hf (fun c1 c2 M111 hf => ?_)
  refine V_aload0 C (pc := 114) dX6_need_114 ?_
  refine V_iload1 C (pc := 115) dX6_need_115 ?_
  refine V_cV C (pc := 116) (dep2 := 3) (As := [.int x1]) (rest := []) (fun M0 h0 => c_X6_recipeChanged h0) lb_X6_recipeChanged lk_RX6_103 wm_n (by decide) (Nat.le_refl 0) 0 6 rfl rfl rfl rfl (Nat.le_of_ble_eq_true rfl) dX6_need_116 hf (fun c1 c2 M116 hf => ?_)
  refine V_iload4 C (pc := 119) dX6_need_119 ?_
  exact V_iret C (pc := 121) rfl (Nat.le_refl 0) dX6_need_121 (pqW hf)
def f_X6_need_27 (N : Nat) (x1 : Int32) (x2 : Int32) (x3 : Int32) (M : Mm) : Option (Int32 × Mm) := (bd (f_X6_anyStands M) (fun r28 => (if r28 = 0 then (bd (f_X3_has M x1) (fun r42 => (if r42 = 0 then (some ((-10 : Int32), M)) else (bd (f_X3_hasPlace M x1 x2) (fun r57 => (if r57 = 0 then (some ((-11 : Int32), M)) else (if x3 = (-1 : Int32) then (f_X6_need_93 N x1 x2 x3 M) else (bd2 (f_X4_closes N x1 x3 M) (fun r84 M84 => (if r84 = 0 then (f_X6_need_93 N x1 x2 x3 M84) else (some ((-3 : Int32), M84)))))))))))) else (some ((-2 : Int32), M)))))
set_option maxRecDepth 100000 in
set_option maxHeartbeats 4000000 in
theorem t_X6_need_27 {Z : Zz} {G : Gm} {a : Nat → Nat} {N : Nat} {o : (Int32 × Mm)} {c1 c2 : Nat} {M : Mm} {x1 x2 x3 : Int32} (C : CX (wD Z a) Z nE G cX6_need RX6 4 (some .int) (PqW o.1 o.2) 0) (hm : (Gc G).maxLocals = 5) (hf : f_X6_need_27 N x1 x2 x3 M = some o) : V (wD Z a) Z G 0 27 [some (.ref (a 0)), some (.int x1), some (.int x2), some (.int x3), none] [] (c1, c2, M) := by
  unfold f_X6_need_27 at hf
  refine V_aload0 C (pc := 27) dX6_need_27 ?_
  refine V_cR C (pc := 28) (dep2 := 0) (As := []) (rest := []) (fun r0 h0 => c_X6_anyStands h0) lb_X6_anyStands lk_RX6_95 wm_n (by decide) (Nat.le_refl 0) 0 6 rfl rfl rfl rfl (Nat.le_of_ble_eq_true rfl) dX6_need_28 hf (fun r28 hf => ?_)
  refine V_if_eq C (pc := 31) (tgt := 37) dX6_need_31 (by decide) hf (fun hf => ?_) (fun hf => ?_)
  · refine V_aload0 C (pc := 37) dX6_need_37 ?_
    refine gf_RX6_12 C (pc := 38) dX6_need_38 ?_
    refine V_iload1 C (pc := 41) dX6_need_41 ?_
    refine V_cR C (pc := 42) (dep2 := 0) (As := [.int x1]) (rest := []) (fun r0 h0 => c_X3_has h0) lb_X3_has lk_RX6_107 wm_n (by decide) (Nat.le_refl 0) 1 3 rfl rfl rfl rfl (Nat.le_of_ble_eq_true rfl) dX6_need_42 hf (fun r42 hf => ?_)
    refine V_if_ne C (pc := 45) (tgt := 51) dX6_need_45 (by decide) hf (fun hf => ?_) (fun hf => ?_)
    · refine V_aload0 C (pc := 51) dX6_need_51 ?_
      refine gf_RX6_12 C (pc := 52) dX6_need_52 ?_
      refine V_iload1 C (pc := 55) dX6_need_55 ?_
      refine V_iload2 C (pc := 56) dX6_need_56 ?_
      refine V_cR C (pc := 57) (dep2 := 0) (As := [.int x1, .int x2]) (rest := []) (fun r0 h0 => c_X3_hasPlace h0) lb_X3_hasPlace lk_RX6_113 wm_n (by decide) (Nat.le_refl 0) 1 3 rfl rfl rfl rfl (Nat.le_of_ble_eq_true rfl) dX6_need_57 hf (fun r57 hf => ?_)
      refine V_if_ne C (pc := 60) (tgt := 66) dX6_need_60 (by decide) hf (fun hf => ?_) (fun hf => ?_)
      · refine V_iload3 C (pc := 66) dX6_need_66 ?_
        refine V_iconst C (pc := 67) (v := (-1 : Int32)) (by decide) dX6_need_67 ?_
        refine V_icmp_eq C (pc := 68) (tgt := 93) dX6_need_68 (by decide) hf (fun hf => ?_) (fun hf => ?_)
        · exact V.mono [true, true, true, true, false] rfl (t_X6_need_93 C hm hf)
        · refine V_aload0 C (pc := 71) dX6_need_71 ?_
          refine gf_RX6_26 C (pc := 72) dX6_need_72 ?_
          refine V_aload0 C (pc := 75) dX6_need_75 ?_
          refine gf_RX6_19 C (pc := 76) dX6_need_76 ?_
          refine gf_RX6_117 C (pc := 79) dX6_need_79 ?_
          refine V_iload1 C (pc := 82) dX6_need_82 ?_
          refine V_iload3 C (pc := 83) dX6_need_83 ?_
          refine V_cW C (pc := 84) (dep2 := 2) (As := [.ref (a 12), .int x1, .int x3]) (rest := []) (fun r0 M0 h0 => c_X4_closes h0) lb_X4_closes lk_RX6_120 wm_n (by decide) (Nat.le_refl 0) 3 4 rfl rfl rfl rfl (Nat.le_of_ble_eq_true rfl) dX6_need_84 hf (fun r84 c1 c2 M84 hf => ?_)
          refine V_if_eq C (pc := 87) (tgt := 93) dX6_need_87 (by decide) hf (fun hf => ?_) (fun hf => ?_)
          · exact V.mono [true, true, true, true, false] rfl (t_X6_need_93 C hm hf)
          · refine V_bipush C (pc := 90) (v := (-3 : Int32)) (by decide) dX6_need_90 ?_
            exact V_iret C (pc := 92) rfl (Nat.le_refl 0) dX6_need_92 (pqW hf)
      · refine V_bipush C (pc := 63) (v := (-11 : Int32)) (by decide) dX6_need_63 ?_
        exact V_iret C (pc := 65) rfl (Nat.le_refl 0) dX6_need_65 (pqW hf)
    · refine V_bipush C (pc := 48) (v := (-10 : Int32)) (by decide) dX6_need_48 ?_
      exact V_iret C (pc := 50) rfl (Nat.le_refl 0) dX6_need_50 (pqW hf)
  · refine V_bipush C (pc := 34) (v := (-2 : Int32)) (by decide) dX6_need_34 ?_
    exact V_iret C (pc := 36) rfl (Nat.le_refl 0) dX6_need_36 (pqW hf)
def f_X6_need (N : Nat) (x1 : Int32) (x2 : Int32) (x3 : Int32) (M : Mm) : Option (Int32 × Mm) := (bd (f_X5_isBath M x1) (fun r5 => (if r5 = 0 then (some ((-2 : Int32), M)) else (if x3 = (-1 : Int32) then (f_X6_need_27 N x1 x2 x3 M) else (bd (f_X5_isBath M x3) (fun r21 => (if r21 = 0 then (some ((-2 : Int32), M)) else (f_X6_need_27 N x1 x2 x3 M))))))))
set_option maxRecDepth 100000 in
set_option maxHeartbeats 4000000 in
theorem t_X6_need {Z : Zz} {G : Gm} {a : Nat → Nat} {N : Nat} {o : (Int32 × Mm)} {c1 c2 : Nat} {M : Mm} {x1 x2 x3 : Int32} (C : CX (wD Z a) Z nE G cX6_need RX6 4 (some .int) (PqW o.1 o.2) 0) (hm : (Gc G).maxLocals = 5) (hf : f_X6_need N x1 x2 x3 M = some o) : V (wD Z a) Z G 0 0 [some (.ref (a 0)), some (.int x1), some (.int x2), some (.int x3), none] [] (c1, c2, M) := by
  unfold f_X6_need at hf
  refine V_aload0 C (pc := 0) dX6_need_0 ?_
  refine gf_RX6_19 C (pc := 1) dX6_need_1 ?_
  refine V_iload1 C (pc := 4) dX6_need_4 ?_
  refine V_cR C (pc := 5) (dep2 := 0) (As := [.int x1]) (rest := []) (fun r0 h0 => c_X5_isBath h0) lb_X5_isBath lk_RX6_89 wm_n (by decide) (Nat.le_refl 0) 2 5 rfl rfl rfl rfl (Nat.le_of_ble_eq_true rfl) dX6_need_5 hf (fun r5 hf => ?_)
  refine V_if_eq C (pc := 8) (tgt := 34) dX6_need_8 (by decide) hf (fun hf => ?_) (fun hf => ?_)
  · refine V_bipush C (pc := 34) (v := (-2 : Int32)) (by decide) dX6_need_34 ?_
    exact V_iret C (pc := 36) rfl (Nat.le_refl 0) dX6_need_36 (pqW hf)
  · refine V_iload3 C (pc := 11) dX6_need_11 ?_
    refine V_iconst C (pc := 12) (v := (-1 : Int32)) (by decide) dX6_need_12 ?_
    refine V_icmp_eq C (pc := 13) (tgt := 27) dX6_need_13 (by decide) hf (fun hf => ?_) (fun hf => ?_)
    · exact V.mono [true, true, true, true, false] rfl (t_X6_need_27 C hm hf)
    · refine V_aload0 C (pc := 16) dX6_need_16 ?_
      refine gf_RX6_19 C (pc := 17) dX6_need_17 ?_
      refine V_iload3 C (pc := 20) dX6_need_20 ?_
      refine V_cR C (pc := 21) (dep2 := 0) (As := [.int x3]) (rest := []) (fun r0 h0 => c_X5_isBath h0) lb_X5_isBath lk_RX6_89 wm_n (by decide) (Nat.le_refl 0) 2 5 rfl rfl rfl rfl (Nat.le_of_ble_eq_true rfl) dX6_need_21 hf (fun r21 hf => ?_)
      refine V_if_eq C (pc := 24) (tgt := 34) dX6_need_24 (by decide) hf (fun hf => ?_) (fun hf => ?_)
      · refine V_bipush C (pc := 34) (v := (-2 : Int32)) (by decide) dX6_need_34 ?_
        exact V_iret C (pc := 36) rfl (Nat.le_refl 0) dX6_need_36 (pqW hf)
      · exact V.mono [true, true, true, true, false] rfl (t_X6_need_27 C hm hf)
set_option maxRecDepth 100000 in
theorem c_X6_need {Z : Zz} {a : Nat → Nat} {N : Nat} {c1 c2 : Nat} {M : Mm} {x1 x2 x3 : Int32} {r0 : Int32} {M0 : Mm} (hf : f_X6_need N x1 x2 x3 M = some (r0, M0)) : CtI (wD Z a) Z nE yX6_need cX6_need 5 (some .int) 4 0 [.ref (a 0), .int x1, .int x2, .int x3] (c1, c2, M) (PqW r0 M0) := CtI_of (by decide +kernel) (Or.inl rfl) (List.forall_mem_cons.mpr ⟨rfl, List.forall_mem_cons.mpr ⟨rfl, List.forall_mem_cons.mpr ⟨rfl, List.forall_mem_cons.mpr ⟨rfl, fun _ h9 => nomatch h9⟩⟩⟩⟩) (Nat.le_of_ble_eq_true rfl) (fun G C hm => t_X6_need (o := (r0, M0)) C hm hf)
def f_X6_order_20 (N : Nat) (M : Mm) : Nat → Int32 → Int32 → Int32 → Int32 → Option Int32
  | 0, _, _, _, _ => none
  | n + 1, x1, x2, x3, x4 => (if x1 < x4 then (some x3) else (bd (f_X5_nextTold N M x2) (fun r31 => (if r31 = (-1 : Int32) then (some (-1 : Int32)) else ((f_X6_order_20 N M n) x1 (x2 ||| ((1 : Int32) <<< (r31 &&& 31))) r31 (x4 + (1 : Int32)))))))
set_option maxRecDepth 100000 in
set_option maxHeartbeats 4000000 in
theorem t_X6_order_20 {Z : Zz} {G : Gm} {a : Nat → Nat} {N : Nat} {o : Int32} {c1 c2 : Nat} {M : Mm} (C : CX (wD Z a) Z nE G cX6_order RX6 1 (some .int) (PqR o (c1, c2, M)) 0) (hm : (Gc G).maxLocals = 5) : ∀ (n : Nat) (x1 x2 x3 x4 : Int32) , f_X6_order_20 N M n x1 x2 x3 x4 = some o → V (wD Z a) Z G 0 20 [some (.ref (a 0)), some (.int x1), some (.int x2), some (.int x3), some (.int x4)] [] (c1, c2, M) := by
  intro n
  induction n with
  | zero => intro x1 x2 x3 x4 hf; rw [f_X6_order_20] at hf; cases hf
  | succ n ih =>
    intro x1 x2 x3 x4 hf
    rw [f_X6_order_20] at hf
    refine V_iload4 C (pc := 20) dX6_order_20 ?_
    refine V_iload1 C (pc := 22) dX6_order_22 ?_
    refine V_icmp_gt C (pc := 23) (tgt := 54) dX6_order_23 (by decide) hf (fun hf => ?_) (fun hf => ?_)
    · refine V_iload3 C (pc := 54) dX6_order_54 ?_
      exact V_iret C (pc := 55) rfl (Nat.le_refl 0) dX6_order_55 ⟨hf, rfl⟩
    · refine V_aload0 C (pc := 26) dX6_order_26 ?_
      refine gf_RX6_19 C (pc := 27) dX6_order_27 ?_
      refine V_iload2 C (pc := 30) dX6_order_30 ?_
      refine V_cR C (pc := 31) (dep2 := 0) (As := [.int x2]) (rest := []) (fun r0 h0 => c_X5_nextTold h0) lb_X5_nextTold lk_RX6_139 wm_n (by decide) (Nat.le_refl 0) 2 5 rfl rfl rfl rfl (Nat.le_of_ble_eq_true rfl) dX6_order_31 hf (fun r31 hf => ?_)
      refine V_istore3 C (pc := 34) dX6_order_34 (by rw [hm]; decide) ?_
      refine V_iload3 C (pc := 35) dX6_order_35 ?_
      refine V_iconst C (pc := 36) (v := (-1 : Int32)) (by decide) dX6_order_36 ?_
      refine V_icmp_ne C (pc := 37) (tgt := 42) dX6_order_37 (by decide) hf (fun hf => ?_) (fun hf => ?_)
      · refine V_iload2 C (pc := 42) dX6_order_42 ?_
        refine V_iconst C (pc := 43) (v := (1 : Int32)) (by decide) dX6_order_43 ?_
        refine V_iload3 C (pc := 44) dX6_order_44 ?_
        refine V_ishl C (pc := 45) dX6_order_45 ?_
        refine V_ior C (pc := 46) dX6_order_46 ?_
        refine V_istore2 C (pc := 47) dX6_order_47 (by rw [hm]; decide) ?_
        refine V_iinc4 C (pc := 48) (c1 := (1 : Int32)) dX6_order_48 (by decide) (by rw [hm]; decide) ?_
        refine V_goto C (pc := 51) (tgt := 20) dX6_order_51 (by decide) ?_
        exact V.mono [true, true, true, true, true] rfl (ih _ _ _ _ hf)
      · refine V_iconst C (pc := 40) (v := (-1 : Int32)) (by decide) dX6_order_40 ?_
        exact V_iret C (pc := 41) rfl (Nat.le_refl 0) dX6_order_41 ⟨hf, rfl⟩
def f_X6_order (N : Nat) (M : Mm) (x1 : Int32) : Option Int32 := (bd (f_X5_isBath M x1) (fun r5 => (if r5 = 0 then (some (-1 : Int32)) else (f_X6_order_20 N M N x1 (0 : Int32) (-1 : Int32) (0 : Int32)))))
set_option maxRecDepth 100000 in
set_option maxHeartbeats 4000000 in
theorem t_X6_order {Z : Zz} {G : Gm} {a : Nat → Nat} {N : Nat} {o : Int32} {c1 c2 : Nat} {M : Mm} {x1 : Int32} (C : CX (wD Z a) Z nE G cX6_order RX6 1 (some .int) (PqR o (c1, c2, M)) 0) (hm : (Gc G).maxLocals = 5) (hf : f_X6_order N M x1 = some o) : V (wD Z a) Z G 0 0 [some (.ref (a 0)), some (.int x1), none, none, none] [] (c1, c2, M) := by
  unfold f_X6_order at hf
  refine V_aload0 C (pc := 0) dX6_order_0 ?_
  refine gf_RX6_19 C (pc := 1) dX6_order_1 ?_
  refine V_iload1 C (pc := 4) dX6_order_4 ?_
  refine V_cR C (pc := 5) (dep2 := 0) (As := [.int x1]) (rest := []) (fun r0 h0 => c_X5_isBath h0) lb_X5_isBath lk_RX6_89 wm_n (by decide) (Nat.le_refl 0) 2 5 rfl rfl rfl rfl (Nat.le_of_ble_eq_true rfl) dX6_order_5 hf (fun r5 hf => ?_)
  refine V_if_ne C (pc := 8) (tgt := 13) dX6_order_8 (by decide) hf (fun hf => ?_) (fun hf => ?_)
  · refine V_iconst C (pc := 13) (v := (0 : Int32)) (by decide) dX6_order_13 ?_
    refine V_istore2 C (pc := 14) dX6_order_14 (by rw [hm]; decide) ?_
    refine V_iconst C (pc := 15) (v := (-1 : Int32)) (by decide) dX6_order_15 ?_
    refine V_istore3 C (pc := 16) dX6_order_16 (by rw [hm]; decide) ?_
    refine V_iconst C (pc := 17) (v := (0 : Int32)) (by decide) dX6_order_17 ?_
    refine V_istore4 C (pc := 18) dX6_order_18 (by rw [hm]; decide) ?_
    exact V.mono [true, true, true, true, true] rfl (t_X6_order_20 C hm N _ _ _ _ hf)
  · refine V_iconst C (pc := 11) (v := (-1 : Int32)) (by decide) dX6_order_11 ?_
    exact V_iret C (pc := 12) rfl (Nat.le_refl 0) dX6_order_12 ⟨hf, rfl⟩
set_option maxRecDepth 100000 in
theorem c_X6_order {Z : Zz} {a : Nat → Nat} {N : Nat} {c1 c2 : Nat} {M : Mm} {x1 : Int32} {r0 : Int32} (hf : f_X6_order N M x1 = some r0) : CtI (wD Z a) Z nE yX6_order cX6_order 5 (some .int) 1 0 [.ref (a 0), .int x1] (c1, c2, M) (PqR r0 (c1, c2, M)) := CtI_of (by decide +kernel) (Or.inl rfl) (List.forall_mem_cons.mpr ⟨rfl, List.forall_mem_cons.mpr ⟨rfl, fun _ h9 => nomatch h9⟩⟩) (Nat.le_of_ble_eq_true rfl) (fun G C hm => t_X6_order (o := r0) C hm hf)
def f_X6_pour (x1 : Int32) (M : Mm) : Option (Int32 × Mm) := (bd (f_X5_isBath M x1) (fun r5 => (if r5 = 0 then (some ((-2 : Int32), M)) else (bd (f_X5_stands x1 (gI M 1)) (fun r16 => (if r16 = 0 then (some ((-2 : Int32), M)) else (bd (f_X0_keep (gI M 1) (-1 : Int32) M) (fun M34 => (bd (f_X5_whenPoured x1 (gI M34 1)) (fun r43 => (bd (f_X6_freeVats (sI M34 1 r43)) (fun r50 => (some (r50, (sI M34 1 r43)))))))))))))))
set_option maxRecDepth 100000 in
set_option maxHeartbeats 4000000 in
theorem t_X6_pour {Z : Zz} {G : Gm} {a : Nat → Nat} {o : (Int32 × Mm)} {c1 c2 : Nat} {M : Mm} {x1 : Int32} (C : CX (wD Z a) Z nE G cX6_pour RX6 4 (some .int) (PqW o.1 o.2) 0) (hm : (Gc G).maxLocals = 2) (hf : f_X6_pour x1 M = some o) : V (wD Z a) Z G 0 0 [some (.ref (a 0)), some (.int x1)] [] (c1, c2, M) := by
  unfold f_X6_pour at hf
  refine V_aload0 C (pc := 0) dX6_pour_0 ?_
  refine gf_RX6_19 C (pc := 1) dX6_pour_1 ?_
  refine V_iload1 C (pc := 4) dX6_pour_4 ?_
  refine V_cR C (pc := 5) (dep2 := 0) (As := [.int x1]) (rest := []) (fun r0 h0 => c_X5_isBath h0) lb_X5_isBath lk_RX6_89 wm_n (by decide) (Nat.le_refl 0) 2 5 rfl rfl rfl rfl (Nat.le_of_ble_eq_true rfl) dX6_pour_5 hf (fun r5 hf => ?_)
  refine V_if_eq C (pc := 8) (tgt := 22) dX6_pour_8 (by decide) hf (fun hf => ?_) (fun hf => ?_)
  · refine V_bipush C (pc := 22) (v := (-2 : Int32)) (by decide) dX6_pour_22 ?_
    exact V_iret C (pc := 24) rfl (Nat.le_refl 0) dX6_pour_24 (pqW hf)
  · refine V_iload1 C (pc := 11) dX6_pour_11 ?_
    refine V_aload0 C (pc := 12) dX6_pour_12 ?_
    refine gf_RX6_63 C (pc := 13) dX6_pour_13 ?_
    refine V_cS C (pc := 16) (dep2 := 0) (As := [.int x1, .int (gI M 1)]) (rest := []) (fun r0 h0 => c_X5_stands h0) lb_X5_stands lk_RX6_173 (by decide) (Nat.le_refl 0) rfl rfl (Nat.le_of_ble_eq_true rfl) dX6_pour_16 hf (fun r16 hf => ?_)
    refine V_if_ne C (pc := 19) (tgt := 25) dX6_pour_19 (by decide) hf (fun hf => ?_) (fun hf => ?_)
    · refine V_aload0 C (pc := 25) dX6_pour_25 ?_
      refine gf_RX6_33 C (pc := 26) dX6_pour_26 ?_
      refine V_aload0 C (pc := 29) dX6_pour_29 ?_
      refine gf_RX6_63 C (pc := 30) dX6_pour_30 ?_
      refine V_iconst C (pc := 33) (v := (-1 : Int32)) (by decide) dX6_pour_33 ?_
      refine V_cV C (pc := 34) (dep2 := 1) (As := [.int (gI M 1), .int (-1 : Int32)]) (rest := []) (fun M0 h0 => c_X0_keep h0) lb_X0_keep lk_RX6_162 wm_n (by decide) (Nat.le_refl 0) 4 0 rfl rfl rfl rfl (Nat.le_of_ble_eq_true rfl) dX6_pour_34 hf (fun c1 c2 M34 hf => ?_)
      refine V_aload0 C (pc := 37) dX6_pour_37 ?_
      refine V_iload1 C (pc := 38) dX6_pour_38 ?_
      refine V_aload0 C (pc := 39) dX6_pour_39 ?_
      refine gf_RX6_63 C (pc := 40) dX6_pour_40 ?_
      refine V_cS C (pc := 43) (dep2 := 1) (As := [.int x1, .int (gI M34 1)]) (rest := [.ref (a 0)]) (fun r0 h0 => c_X5_whenPoured h0) lb_X5_whenPoured lk_RX6_176 (by decide) (Nat.le_refl 0) rfl rfl (Nat.le_of_ble_eq_true rfl) dX6_pour_43 hf (fun r43 hf => ?_)
      refine pf_RX6_63 C (pc := 46) dX6_pour_46 ?_
      refine V_aload0 C (pc := 49) dX6_pour_49 ?_
      refine V_cR C (pc := 50) (dep2 := 3) (As := []) (rest := []) (fun r0 h0 => c_X6_freeVats h0) lb_X6_freeVats lk_RX6_169 wm_n (by decide) (Nat.le_refl 0) 0 6 rfl rfl rfl rfl (Nat.le_of_ble_eq_true rfl) dX6_pour_50 hf (fun r50 hf => ?_)
      exact V_iret C (pc := 53) rfl (Nat.le_refl 0) dX6_pour_53 (pqW hf)
    · refine V_bipush C (pc := 22) (v := (-2 : Int32)) (by decide) dX6_pour_22 ?_
      exact V_iret C (pc := 24) rfl (Nat.le_refl 0) dX6_pour_24 (pqW hf)
set_option maxRecDepth 100000 in
theorem c_X6_pour {Z : Zz} {a : Nat → Nat} {c1 c2 : Nat} {M : Mm} {x1 : Int32} {r0 : Int32} {M0 : Mm} (hf : f_X6_pour x1 M = some (r0, M0)) : CtI (wD Z a) Z nE yX6_pour cX6_pour 2 (some .int) 4 0 [.ref (a 0), .int x1] (c1, c2, M) (PqW r0 M0) := CtI_of (by decide +kernel) (Or.inl rfl) (List.forall_mem_cons.mpr ⟨rfl, List.forall_mem_cons.mpr ⟨rfl, fun _ h9 => nomatch h9⟩⟩) (Nat.le_of_ble_eq_true rfl) (fun G C hm => t_X6_pour (o := (r0, M0)) C hm hf)
def f_X6_recipe (N : Nat) (x1 : Int32) (x2 : Int32) (x3 : Int32) (M : Mm) : Option (Int32 × Mm) := (bd (f_X5_isBath M x1) (fun r5 => (if r5 = 0 then (some ((-2 : Int32), M)) else (bd (f_X6_isType x2) (fun r12 => (if r12 = 0 then (some ((-2 : Int32), M)) else (bd (f_X6_anyStands M) (fun r19 => (if r19 = 0 then (if x3 ≤ (4 : Int32) then (if 0 ≤ x3 then (bd (f_X3_begin N x1 x2 x3 M) (fun M47 => (bd (f_X6_recipeChanged N x1 M47) (fun M52 => (some (x3, M52)))))) else (some ((-13 : Int32), M))) else (some ((-2 : Int32), M))) else (some ((-2 : Int32), M)))))))))))
set_option maxRecDepth 100000 in
set_option maxHeartbeats 4000000 in
theorem t_X6_recipe {Z : Zz} {G : Gm} {a : Nat → Nat} {N : Nat} {o : (Int32 × Mm)} {c1 c2 : Nat} {M : Mm} {x1 x2 x3 : Int32} (C : CX (wD Z a) Z nE G cX6_recipe RX6 4 (some .int) (PqW o.1 o.2) 0) (hm : (Gc G).maxLocals = 4) (hf : f_X6_recipe N x1 x2 x3 M = some o) : V (wD Z a) Z G 0 0 [some (.ref (a 0)), some (.int x1), some (.int x2), some (.int x3)] [] (c1, c2, M) := by
  unfold f_X6_recipe at hf
  refine V_aload0 C (pc := 0) dX6_recipe_0 ?_
  refine gf_RX6_19 C (pc := 1) dX6_recipe_1 ?_
  refine V_iload1 C (pc := 4) dX6_recipe_4 ?_
  refine V_cR C (pc := 5) (dep2 := 0) (As := [.int x1]) (rest := []) (fun r0 h0 => c_X5_isBath h0) lb_X5_isBath lk_RX6_89 wm_n (by decide) (Nat.le_refl 0) 2 5 rfl rfl rfl rfl (Nat.le_of_ble_eq_true rfl) dX6_recipe_5 hf (fun r5 hf => ?_)
  refine V_if_eq C (pc := 8) (tgt := 30) dX6_recipe_8 (by decide) hf (fun hf => ?_) (fun hf => ?_)
  · refine V_bipush C (pc := 30) (v := (-2 : Int32)) (by decide) dX6_recipe_30 ?_
    exact V_iret C (pc := 32) rfl (Nat.le_refl 0) dX6_recipe_32 (pqW hf)
  · refine V_iload2 C (pc := 11) dX6_recipe_11 ?_
    refine V_cS C (pc := 12) (dep2 := 0) (As := [.int x2]) (rest := []) (fun r0 h0 => c_X6_isType h0) lb_X6_isType lk_RX6_92 (by decide) (Nat.le_refl 0) rfl rfl (Nat.le_of_ble_eq_true rfl) dX6_recipe_12 hf (fun r12 hf => ?_)
    refine V_if_eq C (pc := 15) (tgt := 30) dX6_recipe_15 (by decide) hf (fun hf => ?_) (fun hf => ?_)
    · refine V_bipush C (pc := 30) (v := (-2 : Int32)) (by decide) dX6_recipe_30 ?_
      exact V_iret C (pc := 32) rfl (Nat.le_refl 0) dX6_recipe_32 (pqW hf)
    · refine V_aload0 C (pc := 18) dX6_recipe_18 ?_
      refine V_cR C (pc := 19) (dep2 := 0) (As := []) (rest := []) (fun r0 h0 => c_X6_anyStands h0) lb_X6_anyStands lk_RX6_95 wm_n (by decide) (Nat.le_refl 0) 0 6 rfl rfl rfl rfl (Nat.le_of_ble_eq_true rfl) dX6_recipe_19 hf (fun r19 hf => ?_)
      refine V_if_ne C (pc := 22) (tgt := 30) dX6_recipe_22 (by decide) hf (fun hf => ?_) (fun hf => ?_)
      · refine V_bipush C (pc := 30) (v := (-2 : Int32)) (by decide) dX6_recipe_30 ?_
        exact V_iret C (pc := 32) rfl (Nat.le_refl 0) dX6_recipe_32 (pqW hf)
      · refine V_iload3 C (pc := 25) dX6_recipe_25 ?_
        refine V_iconst C (pc := 26) (v := (4 : Int32)) (by decide) dX6_recipe_26 ?_
        refine V_icmp_le C (pc := 27) (tgt := 33) dX6_recipe_27 (by decide) hf (fun hf => ?_) (fun hf => ?_)
        · refine V_iload3 C (pc := 33) dX6_recipe_33 ?_
          refine V_if_ge C (pc := 34) (tgt := 40) dX6_recipe_34 (by decide) hf (fun hf => ?_) (fun hf => ?_)
          · refine V_aload0 C (pc := 40) dX6_recipe_40 ?_
            refine gf_RX6_12 C (pc := 41) dX6_recipe_41 ?_
            refine V_iload1 C (pc := 44) dX6_recipe_44 ?_
            refine V_iload2 C (pc := 45) dX6_recipe_45 ?_
            refine V_iload3 C (pc := 46) dX6_recipe_46 ?_
            refine V_cV C (pc := 47) (dep2 := 1) (As := [.int x1, .int x2, .int x3]) (rest := []) (fun M0 h0 => c_X3_begin h0) lb_X3_begin lk_RX6_99 wm_n (by decide) (Nat.le_refl 0) 1 3 rfl rfl rfl rfl (Nat.le_of_ble_eq_true rfl) dX6_recipe_47 hf (fun c1 c2 M47 hf => ?_)
            refine V_aload0 C (pc := 50) dX6_recipe_50 ?_
            refine V_iload1 C (pc := 51) dX6_recipe_51 ?_
            refine V_cV C (pc := 52) (dep2 := 3) (As := [.int x1]) (rest := []) (fun M0 h0 => c_X6_recipeChanged h0) lb_X6_recipeChanged lk_RX6_103 wm_n (by decide) (Nat.le_refl 0) 0 6 rfl rfl rfl rfl (Nat.le_of_ble_eq_true rfl) dX6_recipe_52 hf (fun c1 c2 M52 hf => ?_)
            refine V_iload3 C (pc := 55) dX6_recipe_55 ?_
            exact V_iret C (pc := 56) rfl (Nat.le_refl 0) dX6_recipe_56 (pqW hf)
          · refine V_bipush C (pc := 37) (v := (-13 : Int32)) (by decide) dX6_recipe_37 ?_
            exact V_iret C (pc := 39) rfl (Nat.le_refl 0) dX6_recipe_39 (pqW hf)
        · refine V_bipush C (pc := 30) (v := (-2 : Int32)) (by decide) dX6_recipe_30 ?_
          exact V_iret C (pc := 32) rfl (Nat.le_refl 0) dX6_recipe_32 (pqW hf)
set_option maxRecDepth 100000 in
theorem c_X6_recipe {Z : Zz} {a : Nat → Nat} {N : Nat} {c1 c2 : Nat} {M : Mm} {x1 x2 x3 : Int32} {r0 : Int32} {M0 : Mm} (hf : f_X6_recipe N x1 x2 x3 M = some (r0, M0)) : CtI (wD Z a) Z nE yX6_recipe cX6_recipe 4 (some .int) 4 0 [.ref (a 0), .int x1, .int x2, .int x3] (c1, c2, M) (PqW r0 M0) := CtI_of (by decide +kernel) (Or.inl rfl) (List.forall_mem_cons.mpr ⟨rfl, List.forall_mem_cons.mpr ⟨rfl, List.forall_mem_cons.mpr ⟨rfl, List.forall_mem_cons.mpr ⟨rfl, fun _ h9 => nomatch h9⟩⟩⟩⟩) (Nat.le_of_ble_eq_true rfl) (fun G C hm => t_X6_recipe (o := (r0, M0)) C hm hf)
def f_X6_ring (M : Mm) (x1 : Int32) : Option Int32 := (if x1 < 0 then (some (-1 : Int32)) else (if x1 < (gI M 10) then (if inb x1 9 then (some (gA M 15 x1)) else none) else (some (-1 : Int32))))
set_option maxRecDepth 100000 in
set_option maxHeartbeats 4000000 in
theorem t_X6_ring {Z : Zz} {G : Gm} {a : Nat → Nat} {o : Int32} {c1 c2 : Nat} {M : Mm} {x1 : Int32} (C : CX (wD Z a) Z nE G cX6_ring RX6 0 (some .int) (PqR o (c1, c2, M)) 0) (hm : (Gc G).maxLocals = 2) (hf : f_X6_ring M x1 = some o) : V (wD Z a) Z G 0 0 [some (.ref (a 0)), some (.int x1)] [] (c1, c2, M) := by
  unfold f_X6_ring at hf
  refine V_iload1 C (pc := 0) dX6_ring_0 ?_
  refine V_if_lt C (pc := 1) (tgt := 15) dX6_ring_1 (by decide) hf (fun hf => ?_) (fun hf => ?_)
  · refine V_iconst C (pc := 15) (v := (-1 : Int32)) (by decide) dX6_ring_15 ?_
    refine V_goto C (pc := 16) (tgt := 28) dX6_ring_16 (by decide) ?_
    exact V_iret C (pc := 28) rfl (Nat.le_refl 0) dX6_ring_28 ⟨hf, rfl⟩
  · refine V_iload1 C (pc := 4) dX6_ring_4 ?_
    refine V_aload0 C (pc := 5) dX6_ring_5 ?_
    refine gf_RX6_26 C (pc := 6) dX6_ring_6 ?_
    refine gf_RX6_134 C (pc := 9) dX6_ring_9 ?_
    refine V_icmp_lt C (pc := 12) (tgt := 19) dX6_ring_12 (by decide) hf (fun hf => ?_) (fun hf => ?_)
    · refine V_aload0 C (pc := 19) dX6_ring_19 ?_
      refine gf_RX6_26 C (pc := 20) dX6_ring_20 ?_
      refine gf_RX6_137 C (pc := 23) dX6_ring_23 ?_
      refine V_iload1 C (pc := 26) dX6_ring_26 ?_
      refine alD_15 C (pc := 27) dX6_ring_27 hf (fun hf => ?_)
      exact V_iret C (pc := 28) rfl (Nat.le_refl 0) dX6_ring_28 ⟨hf, rfl⟩
    · refine V_iconst C (pc := 15) (v := (-1 : Int32)) (by decide) dX6_ring_15 ?_
      refine V_goto C (pc := 16) (tgt := 28) dX6_ring_16 (by decide) ?_
      exact V_iret C (pc := 28) rfl (Nat.le_refl 0) dX6_ring_28 ⟨hf, rfl⟩
set_option maxRecDepth 100000 in
theorem c_X6_ring {Z : Zz} {a : Nat → Nat} {c1 c2 : Nat} {M : Mm} {x1 : Int32} {r0 : Int32} (hf : f_X6_ring M x1 = some r0) : CtI (wD Z a) Z nE yX6_ring cX6_ring 2 (some .int) 0 0 [.ref (a 0), .int x1] (c1, c2, M) (PqR r0 (c1, c2, M)) := CtI_of (by decide +kernel) (Or.inl rfl) (List.forall_mem_cons.mpr ⟨rfl, List.forall_mem_cons.mpr ⟨rfl, fun _ h9 => nomatch h9⟩⟩) (Nat.le_of_ble_eq_true rfl) (fun G C hm => t_X6_ring (o := r0) C hm hf)
def f_X6_together_15 (x1 : Int32) (t0 : Int32) (M : Mm) : Option (Int32 × Mm) := (if isB x1 then (bd (f_X1_outdate (sI M 9 x1)) (fun M28 => (some (t0, M28)))) else none)
set_option maxRecDepth 100000 in
set_option maxHeartbeats 4000000 in
theorem t_X6_together_15 {Z : Zz} {G : Gm} {a : Nat → Nat} {o : (Int32 × Mm)} {c1 c2 : Nat} {M : Mm} {x1 t0 : Int32} (C : CX (wD Z a) Z nE G cX6_together RX6 2 (some .int) (PqW o.1 o.2) 0) (hm : (Gc G).maxLocals = 3) (hf : f_X6_together_15 x1 t0 M = some o) : V (wD Z a) Z G 0 15 [some (.ref (a 0)), some (.int x1), none] [.int t0] (c1, c2, M) := by
  unfold f_X6_together_15 at hf
  refine V_istore2 C (pc := 15) dX6_together_15 (by rw [hm]; decide) ?_
  refine V_aload0 C (pc := 16) dX6_together_16 ?_
  refine gf_RX6_19 C (pc := 17) dX6_together_17 ?_
  refine V_iload1 C (pc := 20) dX6_together_20 ?_
  refine pf_RX6_154 C (pc := 21) dX6_together_21 hf (fun hf => ?_)
  refine V_aload0 C (pc := 24) dX6_together_24 ?_
  refine gf_RX6_42 C (pc := 25) dX6_together_25 ?_
  refine V_cV C (pc := 28) (dep2 := 1) (As := []) (rest := []) (fun M0 h0 => c_X1_outdate h0) lb_X1_outdate lk_RX6_83 wm_n (by decide) (Nat.le_refl 0) 5 1 rfl rfl rfl rfl (Nat.le_of_ble_eq_true rfl) dX6_together_28 hf (fun c1 c2 M28 hf => ?_)
  refine V_iload2 C (pc := 31) dX6_together_31 ?_
  exact V_iret C (pc := 32) rfl (Nat.le_refl 0) dX6_together_32 (pqW hf)
def f_X6_together (x1 : Int32) (M : Mm) : Option (Int32 × Mm) := (if (gI M 9) = 0 then (f_X6_together_15 x1 (0 : Int32) M) else (f_X6_together_15 x1 (1 : Int32) M))
set_option maxRecDepth 100000 in
set_option maxHeartbeats 4000000 in
theorem t_X6_together {Z : Zz} {G : Gm} {a : Nat → Nat} {o : (Int32 × Mm)} {c1 c2 : Nat} {M : Mm} {x1 : Int32} (C : CX (wD Z a) Z nE G cX6_together RX6 2 (some .int) (PqW o.1 o.2) 0) (hm : (Gc G).maxLocals = 3) (hf : f_X6_together x1 M = some o) : V (wD Z a) Z G 0 0 [some (.ref (a 0)), some (.int x1), none] [] (c1, c2, M) := by
  unfold f_X6_together at hf
  refine V_aload0 C (pc := 0) dX6_together_0 ?_
  refine gf_RX6_19 C (pc := 1) dX6_together_1 ?_
  refine gf_RX6_154 C (pc := 4) dX6_together_4 ?_
  refine V_if_eq C (pc := 7) (tgt := 14) dX6_together_7 (by decide) hf (fun hf => ?_) (fun hf => ?_)
  · refine V_iconst C (pc := 14) (v := (0 : Int32)) (by decide) dX6_together_14 ?_
    exact V.mono [true, true, false] rfl (t_X6_together_15 C hm hf)
  · refine V_iconst C (pc := 10) (v := (1 : Int32)) (by decide) dX6_together_10 ?_
    refine V_goto C (pc := 11) (tgt := 15) dX6_together_11 (by decide) ?_
    exact V.mono [true, true, false] rfl (t_X6_together_15 C hm hf)
set_option maxRecDepth 100000 in
theorem c_X6_together {Z : Zz} {a : Nat → Nat} {c1 c2 : Nat} {M : Mm} {x1 : Int32} {r0 : Int32} {M0 : Mm} (hf : f_X6_together x1 M = some (r0, M0)) : CtI (wD Z a) Z nE yX6_together cX6_together 3 (some .int) 2 0 [.ref (a 0), .int x1] (c1, c2, M) (PqW r0 M0) := CtI_of (by decide +kernel) (Or.inl rfl) (List.forall_mem_cons.mpr ⟨rfl, List.forall_mem_cons.mpr ⟨rfl, fun _ h9 => nomatch h9⟩⟩) (Nat.le_of_ble_eq_true rfl) (fun G C hm => t_X6_together (o := (r0, M0)) C hm hf)
def f_X6_undo_43  (M : Mm) : Option (Int32 × Mm) := (bd (f_X0_sceneThere M) (fun r48 => (some ((gI (sI M 1 r48) 11), (sI M 1 r48)))))
set_option maxRecDepth 100000 in
set_option maxHeartbeats 4000000 in
theorem t_X6_undo_43 {Z : Zz} {G : Gm} {a : Nat → Nat} {o : (Int32 × Mm)} {c1 c2 : Nat} {M : Mm} (C : CX (wD Z a) Z nE G cX6_undo RX6 2 (some .int) (PqW o.1 o.2) 0) (hm : (Gc G).maxLocals = 2) (hf : f_X6_undo_43  M = some o) : V (wD Z a) Z G 0 43 [some (.ref (a 0)), none] [] (c1, c2, M) := by
  unfold f_X6_undo_43 at hf
  refine V_aload0 C (pc := 43) dX6_undo_43 ?_
  refine V_aload0 C (pc := 44) dX6_undo_44 ?_
  refine gf_RX6_33 C (pc := 45) dX6_undo_45 ?_
  refine V_cR C (pc := 48) (dep2 := 0) (As := []) (rest := [.ref (a 0)]) (fun r0 h0 => c_X0_sceneThere h0) lb_X0_sceneThere lk_RX6_188 wm_n (by decide) (Nat.le_refl 0) 4 0 rfl rfl rfl rfl (Nat.le_of_ble_eq_true rfl) dX6_undo_48 hf (fun r48 hf => ?_)
  refine pf_RX6_63 C (pc := 51) dX6_undo_51 ?_
  refine V_aload0 C (pc := 54) dX6_undo_54 ?_
  refine gf_RX6_33 C (pc := 55) dX6_undo_55 ?_
  refine gf_RX6_179 C (pc := 58) dX6_undo_58 ?_
  exact V_iret C (pc := 61) rfl (Nat.le_refl 0) dX6_undo_61 (pqW hf)
def f_X6_undo  (M : Mm) : Option (Int32 × Mm) := (if (gI M 11) = 0 then (some ((-2 : Int32), M)) else (bd (f_X0_stepBack M) (fun M17 => (bd (f_X0_madeThere M17) (fun r24 => (if r24 = (-1 : Int32) then (f_X6_undo_43 M17) else (if inb r24 9 then (if inb r24 9 then (f_X6_undo_43 (sA M17 7 r24 ((gA M17 7 r24) - (1 : Int32)))) else none) else none)))))))
set_option maxRecDepth 100000 in
set_option maxHeartbeats 4000000 in
theorem t_X6_undo {Z : Zz} {G : Gm} {a : Nat → Nat} {o : (Int32 × Mm)} {c1 c2 : Nat} {M : Mm} (C : CX (wD Z a) Z nE G cX6_undo RX6 2 (some .int) (PqW o.1 o.2) 0) (hm : (Gc G).maxLocals = 2) (hf : f_X6_undo  M = some o) : V (wD Z a) Z G 0 0 [some (.ref (a 0)), none] [] (c1, c2, M) := by
  unfold f_X6_undo at hf
  refine V_aload0 C (pc := 0) dX6_undo_0 ?_
  refine gf_RX6_33 C (pc := 1) dX6_undo_1 ?_
  refine gf_RX6_179 C (pc := 4) dX6_undo_4 ?_
  refine V_if_ne C (pc := 7) (tgt := 13) dX6_undo_7 (by decide) hf (fun hf => ?_) (fun hf => ?_)
  · refine V_aload0 C (pc := 13) dX6_undo_13 ?_
    refine gf_RX6_33 C (pc := 14) dX6_undo_14 ?_
    refine V_cV C (pc := 17) (dep2 := 1) (As := []) (rest := []) (fun M0 h0 => c_X0_stepBack h0) lb_X0_stepBack lk_RX6_182 wm_n (by decide) (Nat.le_refl 0) 4 0 rfl rfl rfl rfl (Nat.le_of_ble_eq_true rfl) dX6_undo_17 hf (fun c1 c2 M17 hf => ?_)
    refine V_aload0 C (pc := 20) dX6_undo_20 ?_
    refine gf_RX6_33 C (pc := 21) dX6_undo_21 ?_
    refine V_cR C (pc := 24) (dep2 := 0) (As := []) (rest := []) (fun r0 h0 => c_X0_madeThere h0) lb_X0_madeThere lk_RX6_185 wm_n (by decide) (Nat.le_refl 0) 4 0 rfl rfl rfl rfl (Nat.le_of_ble_eq_true rfl) dX6_undo_24 hf (fun r24 hf => ?_)
    refine V_istore1 C (pc := 27) dX6_undo_27 (by rw [hm]; decide) ?_
    refine V_iload1 C (pc := 28) dX6_undo_28 ?_
    refine V_iconst C (pc := 29) (v := (-1 : Int32)) (by decide) dX6_undo_29 ?_
    refine V_icmp_eq C (pc := 30) (tgt := 43) dX6_undo_30 (by decide) hf (fun hf => ?_) (fun hf => ?_)
    · exact V.mono [true, false] rfl (t_X6_undo_43 C hm hf)
    · refine V_aload0 C (pc := 33) dX6_undo_33 ?_
      refine gf_RX6_55 C (pc := 34) dX6_undo_34 ?_
      refine V_iload1 C (pc := 37) dX6_undo_37 ?_
      refine V_dup2 C (pc := 38) dX6_undo_38 ?_
      refine alD_7 C (pc := 39) dX6_undo_39 hf (fun hf => ?_)
      refine V_iconst C (pc := 40) (v := (1 : Int32)) (by decide) dX6_undo_40 ?_
      refine V_isub C (pc := 41) dX6_undo_41 ?_
      refine asD_7 C (pc := 42) dX6_undo_42 hf (fun hf => ?_)
      exact V.mono [true, false] rfl (t_X6_undo_43 C hm hf)
  · refine V_bipush C (pc := 10) (v := (-2 : Int32)) (by decide) dX6_undo_10 ?_
    exact V_iret C (pc := 12) rfl (Nat.le_refl 0) dX6_undo_12 (pqW hf)
set_option maxRecDepth 100000 in
theorem c_X6_undo {Z : Zz} {a : Nat → Nat} {c1 c2 : Nat} {M : Mm} {r0 : Int32} {M0 : Mm} (hf : f_X6_undo  M = some (r0, M0)) : CtI (wD Z a) Z nE yX6_undo cX6_undo 2 (some .int) 2 0 [.ref (a 0)] (c1, c2, M) (PqW r0 M0) := CtI_of (by decide +kernel) (Or.inl rfl) (List.forall_mem_cons.mpr ⟨rfl, fun _ h9 => nomatch h9⟩) (Nat.le_of_ble_eq_true rfl) (fun G C hm => t_X6_undo (o := (r0, M0)) C hm hf)
def f_X6_vats (x1 : Int32) (M : Mm) : Option (Int32 × Mm) := (bd (f_X6_isVatCount x1) (fun r1 => (if r1 = 0 then (some ((-2 : Int32), M)) else (bd (f_X5_filled M (gI M 1)) (fun r16 => (if r16 ≤ x1 then (bd (f_X0_clear (sI M 0 x1)) (fun M39 => (some ((gI M 0), M39)))) else (some ((-2 : Int32), M))))))))
set_option maxRecDepth 100000 in
set_option maxHeartbeats 4000000 in
theorem t_X6_vats {Z : Zz} {G : Gm} {a : Nat → Nat} {o : (Int32 × Mm)} {c1 c2 : Nat} {M : Mm} {x1 : Int32} (C : CX (wD Z a) Z nE G cX6_vats RX6 3 (some .int) (PqW o.1 o.2) 0) (hm : (Gc G).maxLocals = 3) (hf : f_X6_vats x1 M = some o) : V (wD Z a) Z G 0 0 [some (.ref (a 0)), some (.int x1), none] [] (c1, c2, M) := by
  unfold f_X6_vats at hf
  refine V_iload1 C (pc := 0) dX6_vats_0 ?_
  refine V_cS C (pc := 1) (dep2 := 0) (As := [.int x1]) (rest := []) (fun r0 h0 => c_X6_isVatCount h0) lb_X6_isVatCount lk_RX6_66 (by decide) (Nat.le_refl 0) rfl rfl (Nat.le_of_ble_eq_true rfl) dX6_vats_1 hf (fun r1 hf => ?_)
  refine V_if_eq C (pc := 4) (tgt := 22) dX6_vats_4 (by decide) hf (fun hf => ?_) (fun hf => ?_)
  · refine V_bipush C (pc := 22) (v := (-2 : Int32)) (by decide) dX6_vats_22 ?_
    exact V_iret C (pc := 24) rfl (Nat.le_refl 0) dX6_vats_24 (pqW hf)
  · refine V_iload1 C (pc := 7) dX6_vats_7 ?_
    refine V_aload0 C (pc := 8) dX6_vats_8 ?_
    refine gf_RX6_19 C (pc := 9) dX6_vats_9 ?_
    refine V_aload0 C (pc := 12) dX6_vats_12 ?_
    refine gf_RX6_63 C (pc := 13) dX6_vats_13 ?_
    refine V_cR C (pc := 16) (dep2 := 2) (As := [.int (gI M 1)]) (rest := [.int x1]) (fun r0 h0 => c_X5_filled h0) lb_X5_filled lk_RX6_70 wm_n (by decide) (Nat.le_refl 0) 2 5 rfl rfl rfl rfl (Nat.le_of_ble_eq_true rfl) dX6_vats_16 hf (fun r16 hf => ?_)
    refine V_icmp_ge C (pc := 19) (tgt := 25) dX6_vats_19 (by decide) hf (fun hf => ?_) (fun hf => ?_)
    · refine V_aload0 C (pc := 25) dX6_vats_25 ?_
      refine gf_RX6_59 C (pc := 26) dX6_vats_26 ?_
      refine V_istore2 C (pc := 29) dX6_vats_29 (by rw [hm]; decide) ?_
      refine V_aload0 C (pc := 30) dX6_vats_30 ?_
      refine V_iload1 C (pc := 31) dX6_vats_31 ?_
      refine pf_RX6_59 C (pc := 32) dX6_vats_32 ?_
      refine V_aload0 C (pc := 35) dX6_vats_35 ?_
      refine gf_RX6_33 C (pc := 36) dX6_vats_36 ?_
      refine V_cV C (pc := 39) (dep2 := 0) (As := []) (rest := []) (fun M0 h0 => c_X0_clear h0) lb_X0_clear lk_RX6_74 wm_n (by decide) (Nat.le_refl 0) 4 0 rfl rfl rfl rfl (Nat.le_of_ble_eq_true rfl) dX6_vats_39 hf (fun c1 c2 M39 hf => ?_)
      refine V_iload2 C (pc := 42) dX6_vats_42 ?_
      exact V_iret C (pc := 43) rfl (Nat.le_refl 0) dX6_vats_43 (pqW hf)
    · refine V_bipush C (pc := 22) (v := (-2 : Int32)) (by decide) dX6_vats_22 ?_
      exact V_iret C (pc := 24) rfl (Nat.le_refl 0) dX6_vats_24 (pqW hf)
set_option maxRecDepth 100000 in
theorem c_X6_vats {Z : Zz} {a : Nat → Nat} {c1 c2 : Nat} {M : Mm} {x1 : Int32} {r0 : Int32} {M0 : Mm} (hf : f_X6_vats x1 M = some (r0, M0)) : CtI (wD Z a) Z nE yX6_vats cX6_vats 3 (some .int) 3 0 [.ref (a 0), .int x1] (c1, c2, M) (PqW r0 M0) := CtI_of (by decide +kernel) (Or.inl rfl) (List.forall_mem_cons.mpr ⟨rfl, List.forall_mem_cons.mpr ⟨rfl, fun _ h9 => nomatch h9⟩⟩) (Nat.le_of_ble_eq_true rfl) (fun G C hm => t_X6_vats (o := (r0, M0)) C hm hf)
def f_X6_where (M : Mm)  : Option Int32 := (some (gI M 18))
set_option maxRecDepth 100000 in
set_option maxHeartbeats 4000000 in
theorem t_X6_where {Z : Zz} {G : Gm} {a : Nat → Nat} {o : Int32} {c1 c2 : Nat} {M : Mm} (C : CX (wD Z a) Z nE G cX6_where RX6 0 (some .int) (PqR o (c1, c2, M)) 0) (hm : (Gc G).maxLocals = 1) (hf : f_X6_where M  = some o) : V (wD Z a) Z G 0 0 [some (.ref (a 0))] [] (c1, c2, M) := by
  unfold f_X6_where at hf
  refine V_aload0 C (pc := 0) dX6_where_0 ?_
  refine gf_RX6_51 C (pc := 1) dX6_where_1 ?_
  refine gf_RX6_239 C (pc := 4) dX6_where_4 ?_
  exact V_iret C (pc := 7) rfl (Nat.le_refl 0) dX6_where_7 ⟨hf, rfl⟩
set_option maxRecDepth 100000 in
theorem c_X6_where {Z : Zz} {a : Nat → Nat} {c1 c2 : Nat} {M : Mm} {r0 : Int32} (hf : f_X6_where M  = some r0) : CtI (wD Z a) Z nE yX6_where cX6_where 1 (some .int) 0 0 [.ref (a 0)] (c1, c2, M) (PqR r0 (c1, c2, M)) := CtI_of (by decide +kernel) (Or.inl rfl) (List.forall_mem_cons.mpr ⟨rfl, fun _ h9 => nomatch h9⟩) (Nat.le_of_ble_eq_true rfl) (fun G C hm => t_X6_where (o := r0) C hm hf)
def f_X6_why (M : Mm) (x1 : Int32) : Option Int32 := (bd (f_X5_isBath M x1) (fun r5 => (if r5 = 0 then (some (-2 : Int32)) else (bd (f_X5_hindrance M x1 (gI M 1) (gI M 0)) (fun r24 => (some r24))))))
set_option maxRecDepth 100000 in
set_option maxHeartbeats 4000000 in
theorem t_X6_why {Z : Zz} {G : Gm} {a : Nat → Nat} {o : Int32} {c1 c2 : Nat} {M : Mm} {x1 : Int32} (C : CX (wD Z a) Z nE G cX6_why RX6 3 (some .int) (PqR o (c1, c2, M)) 0) (hm : (Gc G).maxLocals = 2) (hf : f_X6_why M x1 = some o) : V (wD Z a) Z G 0 0 [some (.ref (a 0)), some (.int x1)] [] (c1, c2, M) := by
  unfold f_X6_why at hf
  refine V_aload0 C (pc := 0) dX6_why_0 ?_
  refine gf_RX6_19 C (pc := 1) dX6_why_1 ?_
  refine V_iload1 C (pc := 4) dX6_why_4 ?_
  refine V_cR C (pc := 5) (dep2 := 0) (As := [.int x1]) (rest := []) (fun r0 h0 => c_X5_isBath h0) lb_X5_isBath lk_RX6_89 wm_n (by decide) (Nat.le_refl 0) 2 5 rfl rfl rfl rfl (Nat.le_of_ble_eq_true rfl) dX6_why_5 hf (fun r5 hf => ?_)
  refine V_if_eq C (pc := 8) (tgt := 30) dX6_why_8 (by decide) hf (fun hf => ?_) (fun hf => ?_)
  · refine V_bipush C (pc := 30) (v := (-2 : Int32)) (by decide) dX6_why_30 ?_
    exact V_iret C (pc := 32) rfl (Nat.le_refl 0) dX6_why_32 ⟨hf, rfl⟩
  · refine V_aload0 C (pc := 11) dX6_why_11 ?_
    refine gf_RX6_19 C (pc := 12) dX6_why_12 ?_
    refine V_iload1 C (pc := 15) dX6_why_15 ?_
    refine V_aload0 C (pc := 16) dX6_why_16 ?_
    refine gf_RX6_63 C (pc := 17) dX6_why_17 ?_
    refine V_aload0 C (pc := 20) dX6_why_20 ?_
    refine gf_RX6_59 C (pc := 21) dX6_why_21 ?_
    refine V_cR C (pc := 24) (dep2 := 2) (As := [.int x1, .int (gI M 1), .int (gI M 0)]) (rest := []) (fun r0 h0 => c_X5_hindrance h0) lb_X5_hindrance lk_RX6_158 wm_n (by decide) (Nat.le_refl 0) 2 5 rfl rfl rfl rfl (Nat.le_of_ble_eq_true rfl) dX6_why_24 hf (fun r24 hf => ?_)
    refine V_goto C (pc := 27) (tgt := 32) dX6_why_27 (by decide) ?_
    exact V_iret C (pc := 32) rfl (Nat.le_refl 0) dX6_why_32 ⟨hf, rfl⟩
set_option maxRecDepth 100000 in
theorem c_X6_why {Z : Zz} {a : Nat → Nat} {c1 c2 : Nat} {M : Mm} {x1 : Int32} {r0 : Int32} (hf : f_X6_why M x1 = some r0) : CtI (wD Z a) Z nE yX6_why cX6_why 2 (some .int) 3 0 [.ref (a 0), .int x1] (c1, c2, M) (PqR r0 (c1, c2, M)) := CtI_of (by decide +kernel) (Or.inl rfl) (List.forall_mem_cons.mpr ⟨rfl, List.forall_mem_cons.mpr ⟨rfl, fun _ h9 => nomatch h9⟩⟩) (Nat.le_of_ble_eq_true rfl) (fun G C hm => t_X6_why (o := r0) C hm hf)
