/-! Planner.startLine: the one place where rows are made behind the constructors -/
def kap (M : Mm) : Nat := if gL M < 40960 ∧ ¬ gI M 6 = 0 then 1 else 0
def sN (M : Mm) : Mm := (M.1, va_up (va_up M.2.1 21 (fun _ => 0)) 22 (fun _ => 0), 40960)
theorem gL_sN {M : Mm} : gL (sN M) = 40960 := rfl
theorem Vi_eq {X : Type} {wf : X → va_W} {Z : Zz} {Ev : State → Prop} {G : Gm} {cc : ByteArray} {ow : String} {dep : Nat} {ret : Option FieldType} {Pq : Option Int32 → X → Prop} {csF cs : Nat} {x : X} {st : List Value} {lv : List (Option Value)} (C : CX wf Z Ev G cc ow dep ret Pq csF) {pc : Nat} {x1 : Int32} {off : Int} {tgt : Nat} (d : decode cc pc = .ok (.ifCond .eq off, 3)) (ht : (pc : Int) + off = (tgt : Int)) (kt : x1 = 0 → V wf Z G cs tgt lv st x) (kf : ¬ x1 = 0 → V wf Z G cs (pc + 3) lv st x) : V wf Z G cs pc lv (.int x1 :: st) x := fun H locs ls hl hP hD hS => lv_if_eq C.exec C.bytes d ht (fun h => kt h H locs ls hl hP hD hS) (fun h => kf h H locs ls hl hP hD hS)
theorem CX.int (Z : Zz) {s : State} {cA : ClassId} (h : va_K (ZD Z) vwCl (Zt Z ++ [(cA, .int)]) s) : cA = ZI Z := by
  have h1 := (h.2 3 (cA, .int) rfl).2
  have h2 := (h.2 0 (ZI Z, .int) rfl).2
  exact Option.some.inj (h1.symm.trans h2)
set_option maxRecDepth 100000 in
set_option maxHeartbeats 4000000 in
theorem V_alloc {Z : Zz} {a : Nat → Nat} {G : Gm} {dep : Nat} {Pq : Option Int32 → Xx → Prop} {csF c1 c2 : Nat} {M : Mm} (C : CX (wD Z a) Z nE G cX1_startLine RX1 dep none Pq csF) (hcs : 1 ≤ csF) (k : ∀ d1 d2, V (wD Z a) Z G 1 42 [some (.ref (a 5)), some (.int 40960)] [] (d1, d2, sN M)) : V (wD Z a) Z G 0 28 [some (.ref (a 5)), some (.int 40960)] [] (c1, c2, M) := by
  intro H locs ls hl hP hD hS
  have hcl := C.R.2.2.1
  have hsl := C.R.2.2.2
  refine lv_aload_n C.exec C.bytes dX1_startLine_28 rfl (hl.get 0 rfl) ?_
  refine lv_iload_n C.exec C.bytes dX1_startLine_29 rfl (hl.get 1 rfl) ?_
  refine va_newa (atype := .int) (ty := .int) C.exec C.bytes (C.hts _ wa_int) rfl C.K hP hD hS C.A (N' := 40960) (a0 := (40960, .inl (fun _ => 0))) (fun _ => rfl) (by decide) (by decide) (by decide) (by omega) (by omega) dX1_startLine_30 (fun q1 cA H hK hP hD hS => ?_)
  obtain rfl := CX.int Z hK
  refine va_put (D := ZD Z) (ci := 1) (v := .ref q1) (ty := .array .int) (C := RX1) (T := TX1) (N := 9) C.exec C.bytes C.hts inX1 tyX1 tyX1_ok nmX1 C.own C.K hP hD hS 5 rfl rfl 3 (by decide) (C.hts _ wf_RX1_18) (fun _ h9 => h9) rfl (tyX1_ok 3 (by decide)) rfl rfl (Nat.le_of_ble_eq_true rfl) dX1_startLine_32 (fun H locs hP hD hS => ?_)
  refine lv_aload_n C.exec C.bytes dX1_startLine_35 rfl (hl.get 0 rfl) ?_
  refine lv_iload_n C.exec C.bytes dX1_startLine_36 rfl (hl.get 1 rfl) ?_
  refine va_newa (atype := .int) (ty := .int) C.exec C.bytes (C.hts _ wa_int) rfl C.K hP hD hS C.A (N' := 40960) (a0 := (40960, .inl (fun _ => 0))) (fun _ => rfl) (by decide) (by decide) (by decide) (by omega) (by omega) dX1_startLine_37 (fun q2 cA H hK hP hD hS => ?_)
  obtain rfl := CX.int Z hK
  refine va_put (D := ZD Z) (ci := 1) (v := .ref q2) (ty := .array .int) (C := RX1) (T := TX1) (N := 9) C.exec C.bytes C.hts inX1 tyX1 tyX1_ok nmX1 C.own C.K hP hD hS 5 rfl rfl 4 (by decide) (C.hts _ wf_RX1_21) (fun _ h9 => h9) rfl (tyX1_ok 4 (by decide)) rfl rfl (Nat.le_of_ble_eq_true rfl) dX1_startLine_39 (fun H locs hP hD hS => ?_)
  have hP9 := hP.sub (ws' := wD Z a (q1, q2, sN M)) [0, 1, 2, 3, 4, 5, 6, 7, 8, 9, 10, 11, 12, 13, 14, 15, 16, 17, 18, 19, 20, 24, 25, 23] rfl
  have hD9 := hD.sub (ws' := wD Z a (q1, q2, sN M)) [0, 1, 2, 3, 4, 5, 6, 7, 8, 9, 10, 11, 12, 13, 14, 15, 16, 17, 18, 19, 20, 24, 25, 23] (by decide) rfl
  exact k q1 q2 H locs ls hl hP9 hD9 hS
def f_X1_startLine_42 (M : Mm) : Option Mm := bd (f_X1_join 0 0 (sI (sI (sI (sF M 21 (gL M) (-1)) 15 (-1)) 16 (-1)) 13 0)) (fun M68 => some M68)
def f_X1_startLine_18 (t0 : Int32) (M : Mm) : Option Mm := if gL M ≤ 40960 then (if t0 ≤ Int32.ofNat (gL M) then f_X1_startLine_42 M else (if t0 = 40960 then f_X1_startLine_42 (sN M) else none)) else none
def f_X1_startLine (M : Mm) : Option Mm := bd (f_X5_hasFrail M) (fun r4 => if r4 = 0 then f_X1_startLine_18 4096 M else f_X1_startLine_18 40960 M)
set_option maxRecDepth 100000 in
set_option maxHeartbeats 4000000 in
theorem t_X1_startLine_42 {Z : Zz} {G : Gm} {a : Nat → Nat} {o : Mm} {cs csF c1 c2 : Nat} {M : Mm} {x1 : Int32} (C : CX (wD Z a) Z nE G cX1_startLine RX1 1 none (PqV o) csF) (hcs : cs ≤ csF) (hL : gL M ≤ 40960) (hf : f_X1_startLine_42 M = some o) : V (wD Z a) Z G cs 42 [some (.ref (a 5)), some (.int x1)] [] (c1, c2, M) := by
  unfold f_X1_startLine_42 at hf
  refine V_aload0 C (pc := 42) dX1_startLine_42 ?_
  refine gf_RX1_18 C (pc := 43) dX1_startLine_43 ?_
  refine V_iconst C (pc := 46) (v := (-1 : Int32)) (by decide) dX1_startLine_46 ?_
  refine fiD_21 C (pc := 47) (by omega) lk_RX1_41 (by decide) hcs dX1_startLine_47 (Nat.le_of_ble_eq_true rfl) ?_
  refine V_aload0 C (pc := 50) dX1_startLine_50 ?_
  refine V_iconst C (pc := 51) (v := (-1 : Int32)) (by decide) dX1_startLine_51 ?_
  refine pf_RX1_31 C (pc := 52) dX1_startLine_52 ?_
  refine V_aload0 C (pc := 55) dX1_startLine_55 ?_
  refine V_iconst C (pc := 56) (v := (-1 : Int32)) (by decide) dX1_startLine_56 ?_
  refine pf_RX1_34 C (pc := 57) dX1_startLine_57 ?_
  refine V_aload0 C (pc := 60) dX1_startLine_60 ?_
  refine V_iconst C (pc := 61) (v := (0 : Int32)) (by decide) dX1_startLine_61 ?_
  refine pf_RX1_24 C (pc := 62) dX1_startLine_62 ?_
  refine V_aload0 C (pc := 65) dX1_startLine_65 ?_
  refine V_iconst C (pc := 66) (v := (0 : Int32)) (by decide) dX1_startLine_66 ?_
  refine V_iconst C (pc := 67) (v := (0 : Int32)) (by decide) dX1_startLine_67 ?_
  refine V_cV C (pc := 68) (dep2 := 0) (As := [.int 0, .int 0]) (rest := []) (fun M0 h0 => c_X1_join h0) lb_X1_join lk_RX1_71 wm_n (by decide) hcs 5 1 rfl rfl rfl rfl (Nat.le_of_ble_eq_true rfl) dX1_startLine_68 hf (fun c1 c2 M68 hf => ?_)
  exact V_vret C (pc := 71) rfl hcs dX1_startLine_71 (pqV hf)
theorem ofNat_le_i {n : Nat} (h : n ≤ 40960) : (40960 : Int32) ≤ Int32.ofNat n ↔ 40960 ≤ n := by
  show nI 40960 ≤ nI n ↔ _
  exact nI_leI (by decide) (by omega)
set_option maxRecDepth 100000 in
set_option maxHeartbeats 4000000 in
theorem t_X1_startLine_18 {Z : Zz} {G : Gm} {a : Nat → Nat} {o : Mm} {csF c1 c2 : Nat} {M : Mm} {t0 : Int32} (C : CX (wD Z a) Z nE G cX1_startLine RX1 1 none (PqV o) csF) (hm : (Gc G).maxLocals = 2) (hk : kap M ≤ csF) (hfr : t0 = 40960 → ¬ gI M 6 = 0) (hf : f_X1_startLine_18 t0 M = some o) : V (wD Z a) Z G 0 18 [some (.ref (a 5)), none] [.int t0] (c1, c2, M) := by
  unfold f_X1_startLine_18 at hf
  obtain ⟨hL, hf⟩ := bgd hf
  refine V_istore1 C (pc := 18) dX1_startLine_18 (by rw [hm]; decide) ?_
  refine V_aload0 C (pc := 19) dX1_startLine_19 ?_
  refine gf_RX1_18 C (pc := 20) dX1_startLine_20 ?_
  refine anD_21 C (pc := 23) dX1_startLine_23 ?_
  refine V_iload1 C (pc := 24) dX1_startLine_24 ?_
  refine Vc_ge C (pc := 25) (tgt := 42) dX1_startLine_25 (by decide) (fun h => ?_) (fun h => ?_)
  · exact t_X1_startLine_42 C (Nat.zero_le _) hL (bpos hf h)
  · have hf3 := bneg hf h
    by_cases h1 : t0 = 40960
    · rw [if_pos h1] at hf3
      have hlt : gL M < 40960 := Nat.lt_of_not_le (fun q => h (by rw [h1]; exact (ofNat_le_i hL).mpr q))
      have hk1 : 1 ≤ csF := by
        have : kap M = 1 := if_pos ⟨hlt, hfr h1⟩
        omega
      have hL2 : gL (sN M) ≤ 40960 := Nat.le_of_eq (gL_sN (M := M))
      rw [h1]
      exact V_alloc C hk1 (fun d1 d2 => t_X1_startLine_42 C hk1 hL2 hf3)
    · rw [if_neg h1] at hf3
      cases hf3
set_option maxRecDepth 100000 in
set_option maxHeartbeats 4000000 in
theorem t_X1_startLine {Z : Zz} {G : Gm} {a : Nat → Nat} {o : Mm} {csF c1 c2 : Nat} {M : Mm} (C : CX (wD Z a) Z nE G cX1_startLine RX1 1 none (PqV o) csF) (hm : (Gc G).maxLocals = 2) (hk : kap M ≤ csF) (hf : f_X1_startLine M = some o) : V (wD Z a) Z G 0 0 [some (.ref (a 5)), none] [] (c1, c2, M) := by
  unfold f_X1_startLine at hf
  have hh : ∀ r, f_X5_hasFrail M = some r → ¬ r = 0 → ¬ gI M 6 = 0 := by
    intro r h hr h6
    unfold f_X5_hasFrail at h
    rw [h6] at h
    simp at h
    exact hr h.symm
  refine V_aload0 C (pc := 0) dX1_startLine_0 ?_
  refine gf_RX1_37 C (pc := 1) dX1_startLine_1 ?_
  obtain ⟨r4, h4, hf⟩ := bdd hf
  refine V_cR (q := f_X5_hasFrail M) (kf := fun r => if r = r4 then some () else none) (o := ()) C (pc := 4) (dep2 := 0) (As := []) (rest := []) (fun r0 h0 => c_X5_hasFrail h0) lb_X5_hasFrail lk_RX1_75 wm_n (by decide) (Nat.zero_le _) 2 5 rfl rfl rfl rfl (Nat.le_of_ble_eq_true rfl) dX1_startLine_4 (by rw [h4]; exact if_pos rfl) (fun r hr => ?_)
  obtain ⟨hr, -⟩ := bgd hr
  subst hr
  refine Vi_eq C (pc := 7) (tgt := 15) dX1_startLine_7 (by decide) (fun h => ?_) (fun h => ?_)
  · refine V_sipush C (pc := 15) (v := (4096 : Int32)) (by decide) dX1_startLine_15 ?_
    exact t_X1_startLine_18 C hm hk (fun h => by exact absurd h (by decide)) (bpos hf h)
  · refine V_ldc C (pc := 10) wk_RX1_79 dX1_startLine_10 ?_
    refine V_goto C (pc := 12) (tgt := 18) dX1_startLine_12 (by decide) ?_
    exact t_X1_startLine_18 C hm hk (fun _ => hh r h4 h) (bneg hf h)
theorem c_X1_startLine {Z : Zz} {a : Nat → Nat} {c1 c2 : Nat} {M : Mm} {M0 : Mm} (hf : f_X1_startLine M = some M0) : CtV (wD Z a) Z nE yX1_startLine cX1_startLine 2 1 (kap M) [.ref (a 5)] (c1, c2, M) (PqV M0) := CtV_of (by decide +kernel) (List.forall_mem_cons.mpr ⟨rfl, fun _ h9 => nomatch h9⟩) (Nat.le_of_ble_eq_true rfl) (fun G C hm => t_X1_startLine (o := M0) C hm (Nat.le_refl _) hf)
