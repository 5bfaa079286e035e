/-! the law from its entry, over Sim -/
theorem arr_known {ty : FieldType} {args : Array Value} {s : State} (h : (Cond.arrayClass ty).before args s = true) : ∃ cA : ClassId, ArrOfT s cA ty ∧ s.vm.findClass ("[" ++ ty.toString) = some cA := by
  obtain ⟨c, k, comp, h1, h2, h3⟩ := Cond.arrayClass_spec h
  exact ⟨c, fun n z => ⟨fun k h => (by cases h), k, h2, comp, h3⟩, h1⟩
theorem wm_i : Wm iE iE := ⟨fun _ _ _ _ h => ⟨va_Nw.same rfl rfl h.1, va_Nw.same rfl rfl h.2.1, va_Nw.same rfl rfl h.2.2⟩, fun _ _ hW h => ⟨va_Nw.warmM hW h.1, va_Nw.warmM hW h.2.1, va_Nw.warmM hW h.2.2⟩⟩
set_option maxHeartbeats 8000000 in
set_option maxRecDepth 100000 in
theorem whole_open {N : Nat} {Rel : Mm → Mm → Prop} (S : Sim N Rel) (hR0 : Rel MD0 MM0) {p : Program} {e : Env} {s : State} {m : MethodId} {below : List Frame} {meth : Method} {c : Code} (l : Launch) {b L : Nat} {xs : Nat → Int32} (hL : L ≤ 2048) (C0 : lw_At p s m meth c b L xs) : W p l e room_1 s m #[Value.ref b] below meth c s.heap [] 0 0 (lw_Z below #[Value.ref b] s) (entryFrame m ([Value.ref b] : List Value).toArray 4) := by
  obtain ⟨hx, hb, hr, hml, hown, hts0, hX, hbl, hlocks, hgv⟩ := id C0
  have hts : ∀ w ∈ ux, w.before #[Value.ref b] s = true := fun w hw => hts0 w (List.mem_filter.mp hw).1
  obtain ⟨c0, iS0, hKn0⟩ := u_known (C := RX0) (T := TX0) (N := 4) (n := 4) hts inX0 (hts _ wt_RX0)
  obtain ⟨c1, iS1, hKn1⟩ := u_known (C := RX1) (T := TX1) (N := 9) (n := 9) hts inX1 (hts _ wt_RX1)
  obtain ⟨c2, iS2, hKn2⟩ := u_known (C := RX2) (T := TX2) (N := 5) (n := 5) hts inX2 (hts _ wt_RX2)
  obtain ⟨c3, iS3, hKn3⟩ := u_known (C := RX3) (T := TX3) (N := 3) (n := 3) hts inX3 (hts _ wt_RX3)
  obtain ⟨c4, iS4, hKn4⟩ := u_known (C := RX4) (T := TX4) (N := 3) (n := 3) hts inX4 (hts _ wt_RX4)
  obtain ⟨c5, iS5, hKn5⟩ := u_known (C := RX5) (T := TX5) (N := 12) (n := 12) hts inX5 (hts _ wt_RX5)
  obtain ⟨c6, iS6, hKn6⟩ := u_known (C := RX6) (T := TX6) (N := 9) (n := 9) hts inX6 (hts _ wt_RX6)
  obtain ⟨c7, iS7, hKn7⟩ := u_known (C := RX7) (T := TX7) (N := 28) (n := 28) hts inX7 (hts _ wt_RX7)
  obtain ⟨dC, dI, hKc⟩ : ∃ (dC : Nat → ClassId) (dI : Nat → Nat → Nat), ∀ (k : Nat) (q : vw_C), vwCl[k]? = some q → u_Kn s q.1 q.2.1 q.2.2 (dC k) (dI k) := by
    refine ⟨fun k => if k = 0 then c0 else if k = 1 then c1 else if k = 2 then c2 else if k = 3 then c3 else if k = 4 then c4 else if k = 5 then c5 else if k = 6 then c6 else c7, fun k => if k = 0 then iS0 else if k = 1 then iS1 else if k = 2 then iS2 else if k = 3 then iS3 else if k = 4 then iS4 else if k = 5 then iS5 else if k = 6 then iS6 else iS7, ?_⟩
    intro k q hq
    match k, hq with
    | 0, hq => cases hq; exact hKn0
    | 1, hq => cases hq; exact hKn1
    | 2, hq => cases hq; exact hKn2
    | 3, hq => cases hq; exact hKn3
    | 4, hq => cases hq; exact hKn4
    | 5, hq => cases hq; exact hKn5
    | 6, hq => cases hq; exact hKn6
    | 7, hq => cases hq; exact hKn7
    | k + 8, hq => simp [vwCl] at hq
  obtain ⟨cI, hI1, hI2⟩ := arr_known (hts _ wa_int)
  obtain ⟨cB, hB1, hB2⟩ := arr_known (hts _ wa_byte)
  obtain ⟨cZ, hZ1, hZ2⟩ := arr_known (hts _ wa_boolean)
  obtain ⟨Z, hZe⟩ : ∃ Z : Zz, Z = (l, (dC, dI), cI, cB, cZ) := ⟨_, rfl⟩
  obtain ⟨A, hAe⟩ : ∃ A : Nat → Prop, A = fun q : Nat => s.heap.size ≤ q := ⟨_, rfl⟩
  have hlt : ∀ q : Nat, q < s.heap.size → ¬ A q := fun q h => by rw [hAe]; exact Nat.not_le.mpr h
  have hK : va_K (ZD Z) vwCl (Zt Z) s := by
    rw [hZe]
    refine ⟨hKc, fun k q hq => ?_⟩
    match k, hq with
    | 0, hq => cases hq; exact ⟨hI1, hI2⟩
    | 1, hq => cases hq; exact ⟨hB1, hB2⟩
    | 2, hq => cases hq; exact ⟨hZ1, hZ2⟩
    | k + 3, hq => simp at hq
  have hflat := flat_of_before _ hgv
  obtain ⟨tW, htW, hT⟩ := va_Tof (tm := .static "DyeVats" "WORTH" "[I") (ty := .int) (N := 5) (f := fun j => .int (worth j)) (A := A) (by decide) (hflat _ (by decide +kernel)) (va_eqt (hflat (Cond.eq (.length (.static "DyeVats" "WORTH" "[I")) (.int 5)) (by decide +kernel))) (fun j hj => by
    match j, hj with
    | 0, _ => exact va_eqt (hflat (Cond.eq (.elem (.static "DyeVats" "WORTH" "[I") (.int 0)) (.int 1)) (by decide +kernel))
    | 1, _ => exact va_eqt (hflat (Cond.eq (.elem (.static "DyeVats" "WORTH" "[I") (.int 1)) (.int 3)) (by decide +kernel))
    | 2, _ => exact va_eqt (hflat (Cond.eq (.elem (.static "DyeVats" "WORTH" "[I") (.int 2)) (.int 2)) (by decide +kernel))
    | 3, _ => exact va_eqt (hflat (Cond.eq (.elem (.static "DyeVats" "WORTH" "[I") (.int 3)) (.int 4)) (by decide +kernel))
    | 4, _ => exact va_eqt (hflat (Cond.eq (.elem (.static "DyeVats" "WORTH" "[I") (.int 4)) (.int 3)) (by decide +kernel))
    | j + 5, hj => exact absurd hj (by omega)) hlt
  have hZw : va_Z "DyeVats" "WORTH" "[I" (.ref tW) A s s.heap := va_Zof (hts0 _ wz_WORTH) (hts _ wn_RX6) htW hlt
  have hnE : nE s := va_Nw.of rfl (hts0 _ wm_RX2_46)
  have hiE : iE s := ⟨va_Nw.of rfl (hts0 _ wm_RX6_18), va_Nw.of rfl (hts0 _ wm_RX6_25), va_Nw.of rfl (hts0 _ wm_RX6_32)⟩
  obtain ⟨G, hG⟩ : ∃ G : Gm, G = (p, e, room_1, s, m, #[Value.ref b], below, meth, c, lw_Z below #[Value.ref b] s, A) := ⟨_, rfl⟩
  have hret : ∀ (pc : Nat) (H : Heap) (locs : List Loc) (ls : Array Slot), decode cL_law pc = .ok (.ireturn, 1) → va_S A s.heap H locs → W p l e room_1 s m #[Value.ref b] below meth c H locs (2 * 45) (81920 * 45) (lw_Z below #[Value.ref b] s) (F0 m pc ls [.int 1]) := by
    intro pc H locs ls d hS
    refine va_forget (fun q hq => by have := hS.2.2 q hq; rw [hAe] at this; exact this) ?_
    refine W.widen (k := 600000) (n := 7302250) (by decide) (by decide) ?_
    exact lw_ret hx hb hr hlocks d
  have hC : ∀ {X : Type} {wf : X → va_W} {E : State → Prop}, E s → CX wf Z E G cL_law RL 9 (some .boolean) (fun o _ => o = some 1) 45 := by
    intro X wf E hEs
    rw [hG]
    refine ⟨hx, hb, hown, hts, hK, fun q h => by rw [hAe]; exact h, ⟨(by show 9 ≤ room_1.frames; decide), (by show 40 * 9 ≤ room_1.locals; decide), (by show 2 * 45 ≤ room_1.cells; decide), (by show 81920 * 45 ≤ room_1.slots; decide)⟩, hEs, ⟨fun h => (nomatch h), fun _ pc r x H locs ls d _ hq _ _ hS => ?_, fun h => (nomatch h)⟩⟩
    cases hq
    rw [hZe]
    exact hret pc H locs ls d hS
  have hm : (Gc G).maxLocals = 4 := by rw [hG]; exact hml
  have hXG : va_X b L xs (Gs G) (Gs G).heap := by rw [hG]; exact hX
  have hblG : b < (Gs G).heap.size := by rw [hG]; exact hbl
  have hbAG : ¬ GA G b := by rw [hG]; exact hlt b hbl
  have C : CX wI Z iE G cL_law RL 9 (some .boolean) (fun o _ => o = some 1) 45 := hC hiE
  have C2 : ∀ a b', CX (wL Z a b') Z (lE tW (GA G)) G cL_law RL 9 (some .boolean) (fun o _ => o = some 1) 45 := fun a b' => by
    refine hC ?_
    rw [hG]
    exact ⟨hnE, hZw, hT⟩
  have key : V wI Z G 0 0 [some (.ref b), none, none, none] [] [] := by
    refine V_newO C (pc := 0) (ci := 6) (fs := [.null, .null, .null, .null, .null, .null, .null, .int 0, .int 0]) tyX6 rfl inX6 tyX6_ok wg_RL_7 wt_RX6 wn_RX6 (by decide +kernel) (by decide) (by decide) dL_law_0 (fun q0 => ?_)
    show V wI Z G _ _ _ _ [(q0, .inr (6, [.null, .null, .null, .null, .null, .null, .null, .int 0, .int 0]))]
    refine V_dupr C (pc := 3) dL_law_3 ?_
    refine V_initI C (pc := 4) (dep2 := 2) (cs2 := 23) (As := []) (rest := [.ref q0]) (wr := []) (c_X6_init (h0 := q0)) lb_X6_init wl_RL_9 wi_X6_init rfl wm_i (by decide) (by decide) [0] [] (by decide) rfl rfl rfl (by decide) (by decide) rfl rfl (Nat.le_of_ble_eq_true rfl) dL_law_4 (fun w1 h1 => ?_)
    obtain ⟨a, d1, d2, ha, rfl⟩ := h1
    subst ha
    refine V_astore1 C (pc := 7) dL_law_7 (by rw [hm]; decide) ?_
    refine V_newO C (pc := 8) (ci := 7) (fs := [.int 0, .null, .null, .null, .null, .null, .int 0, .int 0, .int 0, .int 0, .null, .int 0, .null, .int 0, .null, .null, .null, .int 0, .null, .int 0, .null, .null, .null, .null, .null, .null, .null, .int 0]) tyX7 rfl inX7 tyX7_ok wg_RL_10 wt_RX7 wn_RX7 (by decide +kernel) (by decide) (by decide) dL_law_8 (fun q1 => ?_)
    refine V_dupr C (pc := 11) dL_law_11 ?_
    refine V_initI C (pc := 12) (dep2 := 1) (cs2 := 18) (As := []) (rest := [.ref q1]) (wr := wD Z a (d1, d2, MD0)) (c_X7_init (h0 := q1)) lb_X7_init wl_RL_12 wi_X7_init rfl wm_t (by decide) (by decide) [24] [0, 1, 2, 3, 4, 5, 6, 7, 8, 9, 10, 11, 12, 13, 14, 15, 16, 17, 18, 19, 20, 21, 22, 23] (by decide) rfl rfl rfl (by decide) (by decide) rfl rfl (Nat.le_of_ble_eq_true rfl) dL_law_12 (fun w1 h1 => ?_)
    obtain ⟨a2, ha2, rfl⟩ := h1
    subst ha2
    refine V_astore2 C (pc := 15) dL_law_15 (by rw [hm]; decide) ?_
    refine V_iconst C (pc := 16) (v := (0 : Int32)) (by decide) dL_law_16 ?_
    refine V_istore3 C (pc := 17) dL_law_17 (by rw [hm]; decide) ?_
    exact law_loop S (C2 a a2) hm hXG hblG hbAG hL (L + 1) 0 43 (d1, d2, MD0) (0, 0, MM0) (by omega) (by omega) hR0 (show 43 + kp MD0 ≤ 45 by decide)
  have hP : va_P (ZD Z) vwCl ([] : va_W) s.heap := fun k q h => by simp at h
  have hD : va_D A ([] : va_W) := ⟨fun i j p q h => by simp at h, fun k q h => by simp at h⟩
  have hl := entry_lvh (av := [.ref b]) (maxL := 4) (List.forall_mem_cons.mpr ⟨rfl, fun _ h9 => nomatch h9⟩) (Nat.le_of_ble_eq_true rfl)
  rw [lg_entry_eq]
  rw [hG, hZe] at key
  exact key s.heap [] _ (by show lvh _ c.maxLocals _; rw [hml]; exact hl) (by rw [hZe] at hP; exact hP) hD va_S.rf
