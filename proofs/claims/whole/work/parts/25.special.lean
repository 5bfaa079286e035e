/-! DyeVats.bath and DyeVats.of, which read the static row WORTH; DyeVats.least, which calls the planner again and again -/
def worth (j : Nat) : Int32 := if j = 0 then 1 else if j = 1 then 3 else if j = 2 then 2 else if j = 3 then 4 else 3
def wth (i : Int32) : Int32 := worth i.toNatClampNeg
def wE (w : va_W) : State → Prop := fun U => nE U ∧ ∃ tW : Nat, va_Z "DyeVats" "WORTH" "[I" (.ref tW) (va_A w U.heap.size) U U.heap ∧ va_T .int tW 5 (fun j => .int (worth j)) (va_A w U.heap.size) U U.heap
theorem wm_w {w : va_W} : Wm (wE w) nE := ⟨wm_n.1, fun s U hW h => wm_n.2 s U hW h.1⟩
section WR
variable {X : Type} {wf : X → va_W} {Z : Zz} {Ev : State → Prop} {G : Gm} {cc : ByteArray} {dep : Nat} {ret : Option FieldType} {Pq : Option Int32 → X → Prop} {csF cs tW : Nat} {x : X} {st : List Value} {lv : List (Option Value)} {β : Type} {o : β}
theorem V_gets (C : CX wf Z Ev G cc RX6 dep ret Pq csF) {pc : Nat} (hZ : va_Z "DyeVats" "WORTH" "[I" (.ref tW) (GA G) (Gs G) (Gs G).heap) (d : decode cc pc = .ok (.getstatic 77, 3)) (k : V wf Z G cs (pc + 3) lv (.ref tW :: st) x) : V wf Z G cs pc lv st x := fun H locs ls hl hP hD hS => va_gets C.exec C.bytes hZ hS C.own (C.hts _ wf_RX6_77) (fun _ h => h) d (k H locs ls hl hP hD hS)
theorem V_tlen (C : CX wf Z Ev G cc RX6 dep ret Pq csF) {pc : Nat} (hT : va_T .int tW 5 (fun j => .int (worth j)) (GA G) (Gs G) (Gs G).heap) (d : decode cc pc = .ok (.arraylength, 1)) (k : V wf Z G cs (pc + 1) lv (.int (5 : Int32) :: st) x) : V wf Z G cs pc lv (.ref tW :: st) x := fun H locs ls hl hP hD hS => va_tlen C.exec C.bytes hT hS (by decide) d (k H locs ls hl hP hD hS)
theorem V_tald (C : CX wf Z Ev G cc RX6 dep ret Pq csF) {pc : Nat} {i : Int32} (hT : va_T .int tW 5 (fun j => .int (worth j)) (GA G) (Gs G) (Gs G).heap) (d : decode cc pc = .ok (.iaload, 1)) {fa : Option β} (hf : (if inb i 5 then fa else none) = some o) (k : fa = some o → V wf Z G cs (pc + 1) lv (.int (wth i) :: st) x) : V wf Z G cs pc lv (.int i :: .ref tW :: st) x := fun H locs ls hl hP hD hS => va_ti C.exec C.bytes hT hS (bgd hf).1 rfl d (k (bgd hf).2 H locs ls hl hP hD hS)
end WR
def f_X6_bath (x1 : Int32) (M : Mm) : Option (Int32 × Mm) := (if x1 < 0 then (some ((-2 : Int32), M)) else (if (5 : Int32) ≤ x1 then (some ((-2 : Int32), M)) else (if (gI M 2) < (9 : Int32) then (bd (f_X1_outdate M) (fun M31 => (bd2 (f_X5_addBath x1 M31) (fun r39 M39 => (some (r39, M39)))))) else (some ((-2 : Int32), M)))))
set_option maxRecDepth 100000 in
set_option maxHeartbeats 4000000 in
theorem t_X6_bath {Z : Zz} {G : Gm} {a : Nat → Nat} {w0 : va_W} {tW : Nat} {o : (Int32 × Mm)} {c1 c2 : Nat} {M : Mm} {x1 : Int32} (C : CX (wD Z a) Z (wE w0) G cX6_bath RX6 2 (some .int) (PqW o.1 o.2) 0) (hm : (Gc G).maxLocals = 2) (hZ : va_Z "DyeVats" "WORTH" "[I" (.ref tW) (GA G) (Gs G) (Gs G).heap) (hT : va_T .int tW 5 (fun j => .int (worth j)) (GA G) (Gs G) (Gs G).heap) (hf : f_X6_bath x1 M = some o) : V (wD Z a) Z G 0 0 [some (.ref (a 0)), some (.int x1)] [] (c1, c2, M) := by
  unfold f_X6_bath at hf
  refine V_iload1 C (pc := 0) dX6_bath_0 ?_
  refine V_if_lt C (pc := 1) (tgt := 24) dX6_bath_1 (by decide) hf (fun hf => ?_) (fun hf => ?_)
  · refine V_bipush C (pc := 24) (v := (-2 : Int32)) (by decide) dX6_bath_24 ?_
    exact V_iret C (pc := 26) rfl (Nat.le_refl 0) dX6_bath_26 (pqW hf)
  · refine V_iload1 C (pc := 4) dX6_bath_4 ?_
    refine V_gets C (pc := 5) hZ dX6_bath_5 ?_
    refine V_tlen C (pc := 8) hT dX6_bath_8 ?_
    refine V_icmp_ge C (pc := 9) (tgt := 24) dX6_bath_9 (by decide) hf (fun hf => ?_) (fun hf => ?_)
    · refine V_bipush C (pc := 24) (v := (-2 : Int32)) (by decide) dX6_bath_24 ?_
      exact V_iret C (pc := 26) rfl (Nat.le_refl 0) dX6_bath_26 (pqW hf)
    · refine V_aload0 C (pc := 12) dX6_bath_12 ?_
      refine gf_RX6_19 C (pc := 13) dX6_bath_13 ?_
      refine gf_RX6_80 C (pc := 16) dX6_bath_16 ?_
      refine V_bipush C (pc := 19) (v := (9 : Int32)) (by decide) dX6_bath_19 ?_
      refine V_icmp_lt C (pc := 21) (tgt := 27) dX6_bath_21 (by decide) hf (fun hf => ?_) (fun hf => ?_)
      · refine V_aload0 C (pc := 27) dX6_bath_27 ?_
        refine gf_RX6_42 C (pc := 28) dX6_bath_28 ?_
        refine V_cV C (pc := 31) (dep2 := 1) (As := []) (rest := []) (fun M0 h0 => c_X1_outdate h0) lb_X1_outdate lk_RX6_83 wm_w (by decide) (Nat.le_refl 0) 5 1 rfl rfl rfl rfl (Nat.le_of_ble_eq_true rfl) dX6_bath_31 hf (fun c1 c2 M31 hf => ?_)
        refine V_aload0 C (pc := 34) dX6_bath_34 ?_
        refine gf_RX6_19 C (pc := 35) dX6_bath_35 ?_
        refine V_iload1 C (pc := 38) dX6_bath_38 ?_
        refine V_cW C (pc := 39) (dep2 := 0) (As := [.int x1]) (rest := []) (fun r0 M0 h0 => c_X5_addBath h0) lb_X5_addBath lk_RX6_86 wm_w (by decide) (Nat.le_refl 0) 2 5 rfl rfl rfl rfl (Nat.le_of_ble_eq_true rfl) dX6_bath_39 hf (fun r39 c1 c2 M39 hf => ?_)
        exact V_iret C (pc := 42) rfl (Nat.le_refl 0) dX6_bath_42 (pqW hf)
      · refine V_bipush C (pc := 24) (v := (-2 : Int32)) (by decide) dX6_bath_24 ?_
        exact V_iret C (pc := 26) rfl (Nat.le_refl 0) dX6_bath_26 (pqW hf)
set_option maxRecDepth 100000 in
theorem c_X6_bath {Z : Zz} {a : Nat → Nat} {c1 c2 : Nat} {M : Mm} {x1 : Int32} {r0 : Int32} {M0 : Mm} (hf : f_X6_bath x1 M = some (r0, M0)) : CtI (wD Z a) Z (wE (wD Z a (c1, c2, M))) yX6_bath cX6_bath 2 (some .int) 2 0 [.ref (a 0), .int x1] (c1, c2, M) (PqW r0 M0) := CtI_ofX (by decide +kernel) (Or.inl rfl) (List.forall_mem_cons.mpr ⟨rfl, List.forall_mem_cons.mpr ⟨rfl, fun _ h9 => nomatch h9⟩⟩) (Nat.le_of_ble_eq_true rfl) (fun G C hm hin hA0 => by
  obtain ⟨tW, hZ, hT⟩ := C.E.2
  rw [← hA0] at hZ hT
  exact t_X6_bath (o := (r0, M0)) C hm hZ hT hf)
def f_X6_of (M : Mm) (x1 : Int32) (x2 : Int32) : Option Int32 := (bd (f_X5_isBath M x1) (fun r5 => (if r5 = 0 then (some (-2 : Int32)) else (if x2 = 0 then (if inb x1 9 then (some (gA M 11 x1)) else none) else (if x2 = 1 then (bd (f_X5_stands x1 (gI M 1)) (fun r71 => (if r71 = 0 then (some (0 : Int32)) else (some (1 : Int32))))) else (if x2 = 2 then (bd (f_X5_filledBy M ((gI M 1) &&& ((1 : Int32) <<< (x1 &&& 31))) (gI M 1)) (fun r99 => (some r99))) else (if x2 = 3 then (if inb x1 9 then (some (gA M 8 x1)) else none) else (if x2 = 4 then (if inb x1 9 then (some (gA M 9 x1)) else none) else (if x2 = 5 then (if inb x1 9 then (some (gA M 7 x1)) else none) else (if x2 = 6 then (if inb x1 9 then (if inb (gA M 11 x1) 5 then (some (wth (gA M 11 x1))) else none) else none) else (some (-2 : Int32))))))))))))
set_option maxRecDepth 100000 in
set_option maxHeartbeats 4000000 in
theorem t_X6_of {Z : Zz} {G : Gm} {a : Nat → Nat} {w0 : va_W} {tW : Nat} {o : Int32} {c1 c2 : Nat} {M : Mm} {x1 x2 : Int32} (C : CX (wD Z a) Z (wE w0) G cX6_of RX6 2 (some .int) (PqR o (c1, c2, M)) 0) (hm : (Gc G).maxLocals = 3) (hZ : va_Z "DyeVats" "WORTH" "[I" (.ref tW) (GA G) (Gs G) (Gs G).heap) (hT : va_T .int tW 5 (fun j => .int (worth j)) (GA G) (Gs G) (Gs G).heap) (hf : f_X6_of M x1 x2 = some o) : V (wD Z a) Z G 0 0 [some (.ref (a 0)), some (.int x1), some (.int x2)] [] (c1, c2, M) := by
  unfold f_X6_of at hf
  refine V_aload0 C (pc := 0) dX6_of_0 ?_
  refine gf_RX6_19 C (pc := 1) dX6_of_1 ?_
  refine V_iload1 C (pc := 4) dX6_of_4 ?_
  refine V_cR C (pc := 5) (dep2 := 0) (As := [.int x1]) (rest := []) (fun r0 h0 => c_X5_isBath h0) lb_X5_isBath lk_RX6_89 wm_w (by decide) (Nat.le_refl 0) 2 5 rfl rfl rfl rfl (Nat.le_of_ble_eq_true rfl) dX6_of_5 hf (fun r5 hf => ?_)
  refine V_if_ne C (pc := 8) (tgt := 14) dX6_of_8 (by decide) hf (fun hf => ?_) (fun hf => ?_)
  · refine V_iload2 C (pc := 14) dX6_of_14 ?_
    refine V_ts7 C (pc := 15) (t0 := 56) (t1 := 66) (t2 := 83) (t3 := 103) (t4 := 113) (t5 := 123) (t6 := 130) (td := 144) dX6_of_15 (by decide) (by decide) (by decide) (by decide) (by decide) (by decide) (by decide) (by decide) hf (fun hf => ?_) (fun hf => ?_) (fun hf => ?_) (fun hf => ?_) (fun hf => ?_) (fun hf => ?_) (fun hf => ?_) (fun hf => ?_)
    · refine V_aload0 C (pc := 56) dX6_of_56 ?_
      refine gf_RX6_19 C (pc := 57) dX6_of_57 ?_
      refine gf_RX6_191 C (pc := 60) dX6_of_60 ?_
      refine V_iload1 C (pc := 63) dX6_of_63 ?_
      refine alD_11 C (pc := 64) dX6_of_64 hf (fun hf => ?_)
      exact V_iret C (pc := 65) rfl (Nat.le_refl 0) dX6_of_65 ⟨hf, rfl⟩
    · refine V_iload1 C (pc := 66) dX6_of_66 ?_
      refine V_aload0 C (pc := 67) dX6_of_67 ?_
      refine gf_RX6_63 C (pc := 68) dX6_of_68 ?_
      refine V_cS C (pc := 71) (dep2 := 0) (As := [.int x1, .int (gI M 1)]) (rest := []) (fun r0 h0 => c_X5_stands h0) lb_X5_stands lk_RX6_173 (by decide) (Nat.le_refl 0) rfl rfl (Nat.le_of_ble_eq_true rfl) dX6_of_71 hf (fun r71 hf => ?_)
      refine V_if_eq C (pc := 74) (tgt := 81) dX6_of_74 (by decide) hf (fun hf => ?_) (fun hf => ?_)
      · refine V_iconst C (pc := 81) (v := (0 : Int32)) (by decide) dX6_of_81 ?_
        exact V_iret C (pc := 82) rfl (Nat.le_refl 0) dX6_of_82 ⟨hf, rfl⟩
      · refine V_iconst C (pc := 77) (v := (1 : Int32)) (by decide) dX6_of_77 ?_
        refine V_goto C (pc := 78) (tgt := 82) dX6_of_78 (by decide) ?_
        exact V_iret C (pc := 82) rfl (Nat.le_refl 0) dX6_of_82 ⟨hf, rfl⟩
    · refine V_aload0 C (pc := 83) dX6_of_83 ?_
      refine gf_RX6_19 C (pc := 84) dX6_of_84 ?_
      refine V_aload0 C (pc := 87) dX6_of_87 ?_
      refine gf_RX6_63 C (pc := 88) dX6_of_88 ?_
      refine V_iconst C (pc := 91) (v := (1 : Int32)) (by decide) dX6_of_91 ?_
      refine V_iload1 C (pc := 92) dX6_of_92 ?_
      refine V_ishl C (pc := 93) dX6_of_93 ?_
      refine V_iand C (pc := 94) dX6_of_94 ?_
      refine V_aload0 C (pc := 95) dX6_of_95 ?_
      refine gf_RX6_63 C (pc := 96) dX6_of_96 ?_
      refine V_cR C (pc := 99) (dep2 := 1) (As := [.int ((gI M 1) &&& ((1 : Int32) <<< (x1 &&& 31))), .int (gI M 1)]) (rest := []) (fun r0 h0 => c_X5_filledBy h0) lb_X5_filledBy lk_RX6_194 wm_w (by decide) (Nat.le_refl 0) 2 5 rfl rfl rfl rfl (Nat.le_of_ble_eq_true rfl) dX6_of_99 hf (fun r99 hf => ?_)
      exact V_iret C (pc := 102) rfl (Nat.le_refl 0) dX6_of_102 ⟨hf, rfl⟩
    · refine V_aload0 C (pc := 103) dX6_of_103 ?_
      refine gf_RX6_12 C (pc := 104) dX6_of_104 ?_
      refine gf_RX6_197 C (pc := 107) dX6_of_107 ?_
      refine V_iload1 C (pc := 110) dX6_of_110 ?_
      refine alD_8 C (pc := 111) dX6_of_111 hf (fun hf => ?_)
      exact V_iret C (pc := 112) rfl (Nat.le_refl 0) dX6_of_112 ⟨hf, rfl⟩
    · refine V_aload0 C (pc := 113) dX6_of_113 ?_
      refine gf_RX6_12 C (pc := 114) dX6_of_114 ?_
      refine gf_RX6_131 C (pc := 117) dX6_of_117 ?_
      refine V_iload1 C (pc := 120) dX6_of_120 ?_
      refine alD_9 C (pc := 121) dX6_of_121 hf (fun hf => ?_)
      exact V_iret C (pc := 122) rfl (Nat.le_refl 0) dX6_of_122 ⟨hf, rfl⟩
    · refine V_aload0 C (pc := 123) dX6_of_123 ?_
      refine gf_RX6_55 C (pc := 124) dX6_of_124 ?_
      refine V_iload1 C (pc := 127) dX6_of_127 ?_
      refine alD_7 C (pc := 128) dX6_of_128 hf (fun hf => ?_)
      exact V_iret C (pc := 129) rfl (Nat.le_refl 0) dX6_of_129 ⟨hf, rfl⟩
    · refine V_gets C (pc := 130) hZ dX6_of_130 ?_
      refine V_aload0 C (pc := 133) dX6_of_133 ?_
      refine gf_RX6_19 C (pc := 134) dX6_of_134 ?_
      refine gf_RX6_191 C (pc := 137) dX6_of_137 ?_
      refine V_iload1 C (pc := 140) dX6_of_140 ?_
      refine alD_11 C (pc := 141) dX6_of_141 hf (fun hf => ?_)
      refine V_tald C (pc := 142) hT dX6_of_142 hf (fun hf => ?_)
      exact V_iret C (pc := 143) rfl (Nat.le_refl 0) dX6_of_143 ⟨hf, rfl⟩
    · refine V_bipush C (pc := 144) (v := (-2 : Int32)) (by decide) dX6_of_144 ?_
      exact V_iret C (pc := 146) rfl (Nat.le_refl 0) dX6_of_146 ⟨hf, rfl⟩
  · refine V_bipush C (pc := 11) (v := (-2 : Int32)) (by decide) dX6_of_11 ?_
    exact V_iret C (pc := 13) rfl (Nat.le_refl 0) dX6_of_13 ⟨hf, rfl⟩
set_option maxRecDepth 100000 in
theorem c_X6_of {Z : Zz} {a : Nat → Nat} {c1 c2 : Nat} {M : Mm} {x1 x2 : Int32} {r0 : Int32} (hf : f_X6_of M x1 x2 = some r0) : CtI (wD Z a) Z (wE (wD Z a (c1, c2, M))) yX6_of cX6_of 3 (some .int) 2 0 [.ref (a 0), .int x1, .int x2] (c1, c2, M) (PqR r0 (c1, c2, M)) := CtI_ofX (by decide +kernel) (Or.inl rfl) (List.forall_mem_cons.mpr ⟨rfl, List.forall_mem_cons.mpr ⟨rfl, List.forall_mem_cons.mpr ⟨rfl, fun _ h9 => nomatch h9⟩⟩⟩) (Nat.le_of_ble_eq_true rfl) (fun G C hm hin hA0 => by
  obtain ⟨tW, hZ, hT⟩ := C.E.2
  rw [← hA0] at hZ hT
  exact t_X6_of (o := r0) C hm hZ hT hf)

def f_X6_least_17 (N : Nat) : Nat → Int32 → Mm → Option (Int32 × Mm)
  | 0, _, _ => none
  | n + 1, x1, M => if (18 : Int32) ≤ x1 then some ((18 : Int32), M) else bd2 (f_X1_makesFor N x1 M) (fun r28 M28 => if r28 = (-1 : Int32) then f_X6_least_17 N n (x1 + (1 : Int32)) M28 else some (x1, M28))
def f_X6_least (N : Nat) (M : Mm) : Option (Int32 × Mm) := bd2 (f_X1_makesFor N (18 : Int32) M) (fun r6 M6 => if r6 = (-1 : Int32) then some ((-1 : Int32), M6) else f_X6_least_17 N N (1 : Int32) M6)
set_option maxRecDepth 100000 in
set_option maxHeartbeats 4000000 in
theorem t_X6_least_17 {Z : Zz} {G : Gm} {cs csF : Nat} {a : Nat → Nat} {N : Nat} {o : Int32 × Mm} (h1 : ∀ (v : Int32) (M M' : Mm) (r : Int32), kap M = 0 → f_X1_makesFor N v M = some (r, M') → kap M' = 0) (C : CX (wD Z a) Z nE G cX6_least RX6 7 (some .int) (PqW o.1 o.2) csF) (hm : (Gc G).maxLocals = 2) (hcs : cs ≤ csF) : ∀ (n : Nat) (x1 : Int32) (c1 c2 : Nat) (M : Mm), kap M = 0 → f_X6_least_17 N n x1 M = some o → V (wD Z a) Z G cs 17 [some (.ref (a 0)), some (.int x1)] [] (c1, c2, M) := by
  intro n
  induction n with
  | zero => intro x1 c1 c2 M hk hf; rw [f_X6_least_17] at hf; cases hf
  | succ n ih =>
    intro x1 c1 c2 M hk hf
    rw [f_X6_least_17] at hf
    refine V_iload1 C (pc := 17) dX6_least_17 ?_
    refine V_bipush C (pc := 18) (v := (18 : Int32)) (by decide) dX6_least_18 ?_
    refine V_icmp_ge C (pc := 20) (tgt := 43) dX6_least_20 (by decide) hf (fun hf => ?_) (fun hf => ?_)
    · refine V_bipush C (pc := 43) (v := (18 : Int32)) (by decide) dX6_least_43 ?_
      exact V_iret C (pc := 45) rfl hcs dX6_least_45 (pqW hf)
    · refine V_aload0 C (pc := 23) dX6_least_23 ?_
      refine gf_RX6_42 C (pc := 24) dX6_least_24 ?_
      refine V_iload1 C (pc := 27) dX6_least_27 ?_
      obtain ⟨r0, M0, h0, hf⟩ := bdd2 hf
      refine V_callVI C (pc := 28) (dep2 := 6) (As := [.int x1]) (rest := []) (cs2 := kap M) (c_X1_makesFor h0) lb_X1_makesFor lk_RX6_208 wm_n rfl (by decide) (by rw [hk]; exact hcs) 5 1 rfl rfl rfl rfl (Nat.le_of_ble_eq_true rfl) dX6_least_28 (fun r x9 h9 => ?_)
      obtain ⟨c1, c2, M28⟩ := x9
      obtain ⟨e1, e2⟩ := h9; cases e1; cases e2
      refine ⟨_, rfl, ?_⟩
      have hk2 := h1 _ _ _ _ hk h0
      rw [hk, Nat.add_zero]
      refine V_iconst C (pc := 31) (v := (-1 : Int32)) (by decide) dX6_least_31 ?_
      refine V_icmp_eq C (pc := 32) (tgt := 37) dX6_least_32 (by decide) hf (fun hf => ?_) (fun hf => ?_)
      · refine V_iinc1 C (pc := 37) (c1 := (1 : Int32)) dX6_least_37 (by decide) (by rw [hm]; decide) ?_
        refine V_goto C (pc := 40) (tgt := 17) dX6_least_40 (by decide) ?_
        exact ih _ _ _ _ hk2 hf
      · refine V_iload1 C (pc := 35) dX6_least_35 ?_
        exact V_iret C (pc := 36) rfl hcs dX6_least_36 (pqW hf)
set_option maxRecDepth 100000 in
set_option maxHeartbeats 4000000 in
theorem t_X6_least {Z : Zz} {G : Gm} {a : Nat → Nat} {N : Nat} {o : Int32 × Mm} {c1 c2 : Nat} {M : Mm} (h0 : ∀ (M' : Mm) (r : Int32), f_X1_makesFor N 18 M = some (r, M') → kap M' = 0) (h1 : ∀ (v : Int32) (M M' : Mm) (r : Int32), kap M = 0 → f_X1_makesFor N v M = some (r, M') → kap M' = 0) (C : CX (wD Z a) Z nE G cX6_least RX6 7 (some .int) (PqW o.1 o.2) (kap M)) (hm : (Gc G).maxLocals = 2) (hf : f_X6_least N M = some o) : V (wD Z a) Z G 0 0 [some (.ref (a 0)), none] [] (c1, c2, M) := by
  unfold f_X6_least at hf
  refine V_aload0 C (pc := 0) dX6_least_0 ?_
  refine gf_RX6_42 C (pc := 1) dX6_least_1 ?_
  refine V_bipush C (pc := 4) (v := (18 : Int32)) (by decide) dX6_least_4 ?_
  obtain ⟨r0, M0, hq, hf⟩ := bdd2 hf
  refine V_callVI C (pc := 6) (dep2 := 6) (As := [.int 18]) (rest := []) (cs2 := kap M) (c_X1_makesFor hq) lb_X1_makesFor lk_RX6_208 wm_n rfl (by decide) (Nat.le_of_eq (Nat.zero_add _)) 5 1 rfl rfl rfl rfl (Nat.le_of_ble_eq_true rfl) dX6_least_6 (fun r x9 h9 => ?_)
  obtain ⟨c1, c2, M6⟩ := x9
  obtain ⟨e1, e2⟩ := h9; cases e1; cases e2
  refine ⟨_, rfl, ?_⟩
  have hcs : 0 + kap M ≤ kap M := Nat.le_of_eq (Nat.zero_add _)
  refine V_iconst C (pc := 9) (v := (-1 : Int32)) (by decide) dX6_least_9 ?_
  refine V_icmp_ne C (pc := 10) (tgt := 15) dX6_least_10 (by decide) hf (fun hf => ?_) (fun hf => ?_)
  · refine V_iconst C (pc := 15) (v := (1 : Int32)) (by decide) dX6_least_15 ?_
    refine V_istore1 C (pc := 16) dX6_least_16 (by rw [hm]; decide) ?_
    exact t_X6_least_17 h1 C hm hcs N _ _ _ _ (h0 _ _ hq) hf
  · refine V_iconst C (pc := 13) (v := (-1 : Int32)) (by decide) dX6_least_13 ?_
    exact V_iret C (pc := 14) rfl hcs dX6_least_14 (pqW hf)
theorem c_X6_least {Z : Zz} {a : Nat → Nat} {N : Nat} {c1 c2 : Nat} {M : Mm} {r0 : Int32} {M0 : Mm} (h0 : ∀ (M' : Mm) (r : Int32), f_X1_makesFor N 18 M = some (r, M') → kap M' = 0) (h1 : ∀ (v : Int32) (M M' : Mm) (r : Int32), kap M = 0 → f_X1_makesFor N v M = some (r, M') → kap M' = 0) (hf : f_X6_least N M = some (r0, M0)) : CtI (wD Z a) Z nE yX6_least cX6_least 2 (some .int) 7 (kap M) [.ref (a 0)] (c1, c2, M) (PqW r0 M0) := CtI_of (by decide +kernel) (Or.inl rfl) (List.forall_mem_cons.mpr ⟨rfl, fun _ h9 => nomatch h9⟩) (Nat.le_of_ble_eq_true rfl) (fun G C hm => t_X6_least (o := (r0, M0)) h0 h1 C hm hf)
