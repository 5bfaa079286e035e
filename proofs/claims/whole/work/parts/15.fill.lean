/-! Arrays.fill; branches by their own conditions; switches -/
theorem pqW {r : Int32} {M : Mm} {o : Int32 × Mm} {c1 c2 : Nat} (hf : some (r, M) = some o) : PqW o.1 o.2 (some r) (c1, c2, M) := by cases hf; exact ⟨rfl, rfl⟩
theorem pqV {M o : Mm} {c1 c2 : Nat} (hf : some M = some o) : PqV o none (c1, c2, M) := by cases hf; exact ⟨rfl, rfl⟩
theorem fl_zero (f : Nat → Int32) (v : Int32) : fl f 0 v = f := by funext j; simp [fl]
theorem fl_succ (f : Nat → Int32) (i : Nat) (v : Int32) : upd (fl f i v) i v = fl f (i + 1) v := by
  funext j
  simp only [upd, fl]
  by_cases h : j = i
  · subst h; simp
  · rw [if_neg h]
    by_cases h2 : j < i
    · rw [if_pos h2, if_pos (by omega)]
    · rw [if_neg h2, if_neg (by omega)]
section FI
variable {X : Type} {wf : X → va_W} {Z : Zz} {Ev : State → Prop} {G : Gm} {cc : ByteArray} {ow : String} {dep : Nat} {ret : Option FieldType} {Pq : Option Int32 → X → Prop} {csF cs : Nat} {x : X} {st : List Value} {lv : List (Option Value)}
theorem Vc_ge (C : CX wf Z Ev G cc ow dep ret Pq csF) {pc : Nat} {x1 y1 : Int32} {off : Int} {tgt : Nat} (d : decode cc pc = .ok (.if_icmp .ge off, 3)) (ht : (pc : Int) + off = (tgt : Int)) (kt : y1 ≤ x1 → V wf Z G cs tgt lv st x) (kf : ¬ y1 ≤ x1 → V wf Z G cs (pc + 3) lv st x) : V wf Z G cs pc lv (.int y1 :: .int x1 :: st) x := fun H locs ls hl hP hD hS => lv_icmp_ge C.exec C.bytes d ht (fun h => kt h H locs ls hl hP hD hS) (fun h => kf h H locs ls hl hP hD hS)

abbrev wFI (Z : Zz) (ws : va_W) (q0 b n : Nat) (f : Nat → Int32) : va_W := ws.set q0 (b, .inl (ZI Z, n, .inl f))
theorem wFI_get {Z : Zz} {ws : va_W} {q0 b n : Nat} {f0 f : Nat → Int32} (hb : ws[q0]? = some (b, .inl (ZI Z, n, .inl f0))) : (wFI Z ws q0 b n f)[q0]? = some (b, .inl (ZI Z, n, .inl f)) := by
  have h := (List.getElem?_eq_some_iff.mp hb).1
  simp [wFI, h]
theorem t_fillI {Z : Zz} {G : Gm} {ws : va_W} {q0 b n : Nat} {f0 : Nat → Int32} {v : Int32} (hb : ws[q0]? = some (b, .inl (ZI Z, n, .inl f0))) (hn : n < 2 ^ 31) (C : CX (wFI Z ws q0 b n) Z tE G cJ7_fill_53178 RJ7 0 none (fun o f => o = none ∧ f = fl f0 n v) 0) (hm : (Gc G).maxLocals = 4) : ∀ (k i : Nat), i + k = n → V (wFI Z ws q0 b n) Z G 0 5 [some (.ref b), some (.int v), some (.int (nI i)), some (.int (nI n))] [] (fl f0 i v) := by
  intro k
  induction k with
  | zero =>
    intro i hi
    refine V_iload2 C (pc := 5) dJ7_fill_53178_5 ?_
    refine V_iload3 C (pc := 6) dJ7_fill_53178_6 ?_
    refine Vc_ge C (pc := 7) (tgt := 20) dJ7_fill_53178_7 (by decide) (fun h => ?_) (fun h => ?_)
    · exact V_vret C (pc := 20) rfl (Nat.le_refl 0) dJ7_fill_53178_20 ⟨rfl, by rw [show i = n by omega]⟩
    · exact absurd (nI_le (by omega) (by omega)) h
  | succ k ih =>
    intro i hi
    refine V_iload2 C (pc := 5) dJ7_fill_53178_5 ?_
    refine V_iload3 C (pc := 6) dJ7_fill_53178_6 ?_
    refine Vc_ge C (pc := 7) (tgt := 20) dJ7_fill_53178_7 (by decide) (fun h => ?_) (fun h => ?_)
    · exact absurd h (nI_ge (by omega) hn)
    · refine V_aload0 C (pc := 10) dJ7_fill_53178_10 ?_
      refine V_iload2 C (pc := 11) dJ7_fill_53178_11 ?_
      refine V_iload1 C (pc := 12) dJ7_fill_53178_12 ?_
      refine V_iast (β := Unit) (o := ()) (fa := some ()) C (pc := 13) q0 (wFI_get hb) dJ7_fill_53178_13 (if_pos (nI_in (by omega) hn)) (x' := fl f0 (i + 1) v) (by rw [nI_clamp (by omega), fl_succ, List.set_set]) (fun _ => ?_)
      refine V_iinc2 C (pc := 14) (c1 := (1 : Int32)) dJ7_fill_53178_14 (by decide) (by rw [hm]; decide) ?_
      refine V_goto C (pc := 17) (tgt := 5) dJ7_fill_53178_17 (by decide) ?_
      rw [nI_1]
      exact ih (i + 1) (by omega)
theorem c_fillI {Z : Zz} {ws : va_W} {q0 b n : Nat} {f0 : Nat → Int32} {v : Int32} (hb : ws[q0]? = some (b, .inl (ZI Z, n, .inl f0))) (hn : n < 2 ^ 31) : CtV (wFI Z ws q0 b n) Z tE yJ7_fill_53178 cJ7_fill_53178 4 0 0 [.ref b, .int v] f0 (fun o f => o = none ∧ f = fl f0 n v) := by
  refine CtV_of (by decide +kernel) (List.forall_mem_cons.mpr ⟨rfl, List.forall_mem_cons.mpr ⟨rfl, fun _ h9 => nomatch h9⟩⟩) (Nat.le_of_ble_eq_true rfl) (fun G C hm => ?_)
  have C : CX (wFI Z ws q0 b n) Z tE G cJ7_fill_53178 RJ7 0 none (fun o f => o = none ∧ f = fl f0 n v) 0 := C
  show V (wFI Z ws q0 b n) Z G 0 0 [some (.ref b), some (.int v), none, none] [] f0
  refine V_iconst C (pc := 0) (v := nI 0) (by rw [nI_0]; decide) dJ7_fill_53178_0 ?_
  refine V_istore2 C (pc := 1) dJ7_fill_53178_1 (by rw [hm]; decide) ?_
  refine V_aload0 C (pc := 2) dJ7_fill_53178_2 ?_
  refine V_alen C (pc := 3) q0 0 (wFI_get hb) rfl (v := nI n) rfl dJ7_fill_53178_3 ?_
  refine V_istore3 C (pc := 4) dJ7_fill_53178_4 (by rw [hm]; decide) ?_
  have h := t_fillI hb hn C hm n 0 (by omega)
  rw [fl_zero] at h
  exact h
abbrev wFB (Z : Zz) (ws : va_W) (q0 b n : Nat) (f : Nat → Int32) : va_W := ws.set q0 (b, .inl (ZB Z, n, .inl f))
theorem wFB_get {Z : Zz} {ws : va_W} {q0 b n : Nat} {f0 f : Nat → Int32} (hb : ws[q0]? = some (b, .inl (ZB Z, n, .inl f0))) : (wFB Z ws q0 b n f)[q0]? = some (b, .inl (ZB Z, n, .inl f)) := by
  have h := (List.getElem?_eq_some_iff.mp hb).1
  simp [wFB, h]
theorem t_fillB {Z : Zz} {G : Gm} {ws : va_W} {q0 b n : Nat} {f0 : Nat → Int32} {v : Int32} (hb : ws[q0]? = some (b, .inl (ZB Z, n, .inl f0))) (hn : n < 2 ^ 31) (C : CX (wFB Z ws q0 b n) Z tE G cJ7_fill_031fb RJ7 0 none (fun o f => o = none ∧ f = fl f0 n (vp_nar .byte v)) 0) (hm : (Gc G).maxLocals = 4) : ∀ (k i : Nat), i + k = n → V (wFB Z ws q0 b n) Z G 0 5 [some (.ref b), some (.int v), some (.int (nI i)), some (.int (nI n))] [] (fl f0 i (vp_nar .byte v)) := by
  intro k
  induction k with
  | zero =>
    intro i hi
    refine V_iload2 C (pc := 5) dJ7_fill_031fb_5 ?_
    refine V_iload3 C (pc := 6) dJ7_fill_031fb_6 ?_
    refine Vc_ge C (pc := 7) (tgt := 20) dJ7_fill_031fb_7 (by decide) (fun h => ?_) (fun h => ?_)
    · exact V_vret C (pc := 20) rfl (Nat.le_refl 0) dJ7_fill_031fb_20 ⟨rfl, by rw [show i = n by omega]⟩
    · exact absurd (nI_le (by omega) (by omega)) h
  | succ k ih =>
    intro i hi
    refine V_iload2 C (pc := 5) dJ7_fill_031fb_5 ?_
    refine V_iload3 C (pc := 6) dJ7_fill_031fb_6 ?_
    refine Vc_ge C (pc := 7) (tgt := 20) dJ7_fill_031fb_7 (by decide) (fun h => ?_) (fun h => ?_)
    · exact absurd h (nI_ge (by omega) hn)
    · refine V_aload0 C (pc := 10) dJ7_fill_031fb_10 ?_
      refine V_iload2 C (pc := 11) dJ7_fill_031fb_11 ?_
      refine V_iload1 C (pc := 12) dJ7_fill_031fb_12 ?_
      refine V_bast (β := Unit) (o := ()) (fa := some ()) C (pc := 13) q0 (wFB_get hb) dJ7_fill_031fb_13 (if_pos (nI_in (by omega) hn)) (x' := fl f0 (i + 1) (vp_nar .byte v)) (by rw [nI_clamp (by omega), fl_succ, List.set_set]) (fun _ => ?_)
      refine V_iinc2 C (pc := 14) (c1 := (1 : Int32)) dJ7_fill_031fb_14 (by decide) (by rw [hm]; decide) ?_
      refine V_goto C (pc := 17) (tgt := 5) dJ7_fill_031fb_17 (by decide) ?_
      rw [nI_1]
      exact ih (i + 1) (by omega)
theorem c_fillB {Z : Zz} {ws : va_W} {q0 b n : Nat} {f0 : Nat → Int32} {v : Int32} (hb : ws[q0]? = some (b, .inl (ZB Z, n, .inl f0))) (hn : n < 2 ^ 31) : CtV (wFB Z ws q0 b n) Z tE yJ7_fill_031fb cJ7_fill_031fb 4 0 0 [.ref b, .int v] f0 (fun o f => o = none ∧ f = fl f0 n (vp_nar .byte v)) := by
  refine CtV_of (by decide +kernel) (List.forall_mem_cons.mpr ⟨rfl, List.forall_mem_cons.mpr ⟨rfl, fun _ h9 => nomatch h9⟩⟩) (Nat.le_of_ble_eq_true rfl) (fun G C hm => ?_)
  have C : CX (wFB Z ws q0 b n) Z tE G cJ7_fill_031fb RJ7 0 none (fun o f => o = none ∧ f = fl f0 n (vp_nar .byte v)) 0 := C
  show V (wFB Z ws q0 b n) Z G 0 0 [some (.ref b), some (.int v), none, none] [] f0
  refine V_iconst C (pc := 0) (v := nI 0) (by rw [nI_0]; decide) dJ7_fill_031fb_0 ?_
  refine V_istore2 C (pc := 1) dJ7_fill_031fb_1 (by rw [hm]; decide) ?_
  refine V_aload0 C (pc := 2) dJ7_fill_031fb_2 ?_
  refine V_alen C (pc := 3) q0 1 (wFB_get hb) rfl (v := nI n) rfl dJ7_fill_031fb_3 ?_
  refine V_istore3 C (pc := 4) dJ7_fill_031fb_4 (by rw [hm]; decide) ?_
  have h := t_fillB hb hn C hm n 0 (by omega)
  rw [fl_zero] at h
  exact h
end FI
section FJ
variable {Z : Zz} {a : Nat → Nat} {Ev : State → Prop} {G : Gm} {cc : ByteArray} {ow : String} {dep : Nat} {ret : Option FieldType} {Pq : Option Int32 → Xx → Prop} {csF cs c1 c2 idx : Nat} {M : Mm} {st : List Value} {lv : List (Option Value)}
theorem fiD_8 (C : CX (wD Z a) Z Ev G cc ow dep ret Pq csF) {pc : Nat} {v : Int32} (lk : LkS ow idx yJ7_fill_53178) (hd : 0 + 1 ≤ dep) (hcs : cs ≤ csF) (d : decode cc pc = .ok (.invokestatic idx, 3)) (hr : (st.map fun v => v.category).sum ≤ 8) (k : V (wD Z a) Z G cs (pc + 3) lv st (c1, c2, sF M 8 9 v)) : V (wD Z a) Z G cs pc lv (.int v :: .ref (a 8) :: st) (c1, c2, M) := by
  refine V_callSV C (c_fillI (Z := Z) (ws := wD Z a (c1, c2, M)) (q0 := 8) (b := (a 8)) (n := 9) (f0 := M.2.1 8) (v := v) rfl (by decide)) lb_J7_fill_53178 lk wm_t rfl hd hcs rfl rfl hr d (fun f h => ?_)
  obtain ⟨-, rfl⟩ := h
  exact ⟨_, rfl, k⟩
theorem fiD_9 (C : CX (wD Z a) Z Ev G cc ow dep ret Pq csF) {pc : Nat} {v : Int32} (lk : LkS ow idx yJ7_fill_53178) (hd : 0 + 1 ≤ dep) (hcs : cs ≤ csF) (d : decode cc pc = .ok (.invokestatic idx, 3)) (hr : (st.map fun v => v.category).sum ≤ 8) (k : V (wD Z a) Z G cs (pc + 3) lv st (c1, c2, sF M 9 9 v)) : V (wD Z a) Z G cs pc lv (.int v :: .ref (a 9) :: st) (c1, c2, M) := by
  refine V_callSV C (c_fillI (Z := Z) (ws := wD Z a (c1, c2, M)) (q0 := 9) (b := (a 9)) (n := 9) (f0 := M.2.1 9) (v := v) rfl (by decide)) lb_J7_fill_53178 lk wm_t rfl hd hcs rfl rfl hr d (fun f h => ?_)
  obtain ⟨-, rfl⟩ := h
  exact ⟨_, rfl, k⟩
theorem fiD_16 (C : CX (wD Z a) Z Ev G cc ow dep ret Pq csF) {pc : Nat} {v : Int32} (lk : LkS ow idx yJ7_fill_53178) (hd : 0 + 1 ≤ dep) (hcs : cs ≤ csF) (d : decode cc pc = .ok (.invokestatic idx, 3)) (hr : (st.map fun v => v.category).sum ≤ 8) (k : V (wD Z a) Z G cs (pc + 3) lv st (c1, c2, sF M 16 9 v)) : V (wD Z a) Z G cs pc lv (.int v :: .ref (a 16) :: st) (c1, c2, M) := by
  refine V_callSV C (c_fillI (Z := Z) (ws := wD Z a (c1, c2, M)) (q0 := 16) (b := (a 16)) (n := 9) (f0 := M.2.1 16) (v := v) rfl (by decide)) lb_J7_fill_53178 lk wm_t rfl hd hcs rfl rfl hr d (fun f h => ?_)
  obtain ⟨-, rfl⟩ := h
  exact ⟨_, rfl, k⟩
theorem fiD_19 (C : CX (wD Z a) Z Ev G cc ow dep ret Pq csF) {pc : Nat} {v : Int32} (lk : LkS ow idx yJ7_fill_53178) (hd : 0 + 1 ≤ dep) (hcs : cs ≤ csF) (d : decode cc pc = .ok (.invokestatic idx, 3)) (hr : (st.map fun v => v.category).sum ≤ 8) (k : V (wD Z a) Z G cs (pc + 3) lv st (c1, c2, sF M 19 19 v)) : V (wD Z a) Z G cs pc lv (.int v :: .ref (a 19) :: st) (c1, c2, M) := by
  refine V_callSV C (c_fillI (Z := Z) (ws := wD Z a (c1, c2, M)) (q0 := 19) (b := (a 19)) (n := 19) (f0 := M.2.1 19) (v := v) rfl (by decide)) lb_J7_fill_53178 lk wm_t rfl hd hcs rfl rfl hr d (fun f h => ?_)
  obtain ⟨-, rfl⟩ := h
  exact ⟨_, rfl, k⟩
theorem fiD_20 (C : CX (wD Z a) Z Ev G cc ow dep ret Pq csF) {pc : Nat} {v : Int32} (lk : LkS ow idx yJ7_fill_53178) (hd : 0 + 1 ≤ dep) (hcs : cs ≤ csF) (d : decode cc pc = .ok (.invokestatic idx, 3)) (hr : (st.map fun v => v.category).sum ≤ 8) (k : V (wD Z a) Z G cs (pc + 3) lv st (c1, c2, sF M 20 19 v)) : V (wD Z a) Z G cs pc lv (.int v :: .ref (a 20) :: st) (c1, c2, M) := by
  refine V_callSV C (c_fillI (Z := Z) (ws := wD Z a (c1, c2, M)) (q0 := 20) (b := (a 20)) (n := 19) (f0 := M.2.1 20) (v := v) rfl (by decide)) lb_J7_fill_53178 lk wm_t rfl hd hcs rfl rfl hr d (fun f h => ?_)
  obtain ⟨-, rfl⟩ := h
  exact ⟨_, rfl, k⟩
theorem fiD_23 (C : CX (wD Z a) Z Ev G cc ow dep ret Pq csF) {pc : Nat} {v : Int32} (lk : LkS ow idx yJ7_fill_031fb) (hd : 0 + 1 ≤ dep) (hcs : cs ≤ csF) (d : decode cc pc = .ok (.invokestatic idx, 3)) (hr : (st.map fun v => v.category).sum ≤ 8) (k : V (wD Z a) Z G cs (pc + 3) lv st (c1, c2, sF M 23 4096 (vp_nar .byte v))) : V (wD Z a) Z G cs pc lv (.int v :: .ref (a 23) :: st) (c1, c2, M) := by
  refine V_callSV C (c_fillB (Z := Z) (ws := wD Z a (c1, c2, M)) (q0 := 23) (b := (a 23)) (n := 4096) (f0 := M.2.1 23) (v := v) rfl (by decide)) lb_J7_fill_031fb lk wm_t rfl hd hcs rfl rfl hr d (fun f h => ?_)
  obtain ⟨-, rfl⟩ := h
  exact ⟨_, rfl, k⟩
theorem fiD_21 (C : CX (wD Z a) Z Ev G cc ow dep ret Pq csF) {pc : Nat} {v : Int32} (hL : gL M < 2 ^ 31) (lk : LkS ow idx yJ7_fill_53178) (hd : 0 + 1 ≤ dep) (hcs : cs ≤ csF) (d : decode cc pc = .ok (.invokestatic idx, 3)) (hr : (st.map fun v => v.category).sum ≤ 8) (k : V (wD Z a) Z G cs (pc + 3) lv st (c1, c2, sF M 21 (gL M) v)) : V (wD Z a) Z G cs pc lv (.int v :: .ref c1 :: st) (c1, c2, M) := by
  refine V_callSV C (c_fillI (Z := Z) (ws := wD Z a (c1, c2, M)) (q0 := 21) (b := c1) (n := (gL M)) (f0 := M.2.1 21) (v := v) rfl hL) lb_J7_fill_53178 lk wm_t rfl hd hcs rfl rfl hr d (fun f h => ?_)
  obtain ⟨-, rfl⟩ := h
  exact ⟨_, rfl, k⟩
end FJ
section MM
variable {X : Type} {wf : X → va_W} {Z : Zz} {Ev : State → Prop} {G : Gm} {cc : ByteArray} {ow : String} {dep : Nat} {ret : Option FieldType} {Pq : Option Int32 → X → Prop} {csF cs idx : Nat} {x : X} {st : List Value} {lv : List (Option Value)}
theorem V_mmin (C : CX wf Z Ev G cc ow dep ret Pq csF) {pc : Nat} {x1 y1 : Int32} (lk : LkS ow idx yJ9_min_7cf53) (hd : 1 ≤ dep) (hcs : cs ≤ csF) (d : decode cc pc = .ok (.invokestatic idx, 3)) (hr : (st.map fun v => v.category).sum ≤ 8) (k : V wf Z G cs (pc + 3) lv (.int (if y1 < x1 then y1 else x1) :: st) x) : V wf Z G cs pc lv (.int y1 :: .int x1 :: st) x := fun H locs ls hl hP hD hS => va_mmin C.exec C.bytes hl.1.symm C.own (C.hts _ lk.1) (C.hts _ lk.2) (C.hts _ wn_RJ9) (C.hts _ wc_J9_min_7cf53) (Nat.le_trans hd C.R.1) (by have := C.R.2.1; omega) (by have := C.R.2.2.1; omega) (by have := C.R.2.2.2; omega) d (k H locs ls hl hP hD hS)
theorem V_mmax (C : CX wf Z Ev G cc ow dep ret Pq csF) {pc : Nat} {x1 y1 : Int32} (lk : LkS ow idx yJ9_max_7cf53) (hd : 1 ≤ dep) (hcs : cs ≤ csF) (d : decode cc pc = .ok (.invokestatic idx, 3)) (hr : (st.map fun v => v.category).sum ≤ 8) (k : V wf Z G cs (pc + 3) lv (.int (if x1 < y1 then y1 else x1) :: st) x) : V wf Z G cs pc lv (.int y1 :: .int x1 :: st) x := fun H locs ls hl hP hD hS => va_mmax C.exec C.bytes hl.1.symm C.own (C.hts _ lk.1) (C.hts _ lk.2) (C.hts _ wn_RJ9) (C.hts _ wc_J9_max_7cf53) (Nat.le_trans hd C.R.1) (by have := C.R.2.1; omega) (by have := C.R.2.2.1; omega) (by have := C.R.2.2.2; omega) d (k H locs ls hl hP hD hS)
end MM
section TS
variable {X : Type} {wf : X → va_W} {Z : Zz} {Ev : State → Prop} {G : Gm} {cc : ByteArray} {ow : String} {dep : Nat} {ret : Option FieldType} {Pq : Option Int32 → X → Prop} {csF cs : Nat} {x : X} {st : List Value} {lv : List (Option Value)}
variable {β : Type} {o : β}
theorem V_ts7 (C : CX wf Z Ev G cc ow dep ret Pq csF) {pc : Nat} {t0 t1 t2 t3 t4 t5 t6 td len : Nat} {o0 o1 o2 o3 o4 o5 o6 od : Int} {f0 f1 f2 f3 f4 f5 f6 fd : Option β} {x1 : Int32} (d : decode cc pc = .ok (.tableswitch od 0 6 #[o0, o1, o2, o3, o4, o5, o6], len)) (ht0 : (pc : Int) + o0 = (t0 : Int)) (ht1 : (pc : Int) + o1 = (t1 : Int)) (ht2 : (pc : Int) + o2 = (t2 : Int)) (ht3 : (pc : Int) + o3 = (t3 : Int)) (ht4 : (pc : Int) + o4 = (t4 : Int)) (ht5 : (pc : Int) + o5 = (t5 : Int)) (ht6 : (pc : Int) + o6 = (t6 : Int)) (htd : (pc : Int) + od = (td : Int)) (hf : (if x1 = 0 then f0 else (if x1 = 1 then f1 else (if x1 = 2 then f2 else (if x1 = 3 then f3 else (if x1 = 4 then f4 else (if x1 = 5 then f5 else (if x1 = 6 then f6 else fd))))))) = some o) (k0 : f0 = some o → V wf Z G cs t0 lv st x) (k1 : f1 = some o → V wf Z G cs t1 lv st x) (k2 : f2 = some o → V wf Z G cs t2 lv st x) (k3 : f3 = some o → V wf Z G cs t3 lv st x) (k4 : f4 = some o → V wf Z G cs t4 lv st x) (k5 : f5 = some o → V wf Z G cs t5 lv st x) (k6 : f6 = some o → V wf Z G cs t6 lv st x) (kd : fd = some o → V wf Z G cs td lv st x) : V wf Z G cs pc lv (.int x1 :: st) x := fun H locs ls hl hP hD hS => by
  by_cases h0 : x1 = 0
  · subst h0
    exact lv_tableIn C.exec C.bytes d (by decide) (by decide) rfl ht0 (k0 (bpos hf rfl) H locs ls hl hP hD hS)
  replace hf := bneg hf h0
  by_cases h1 : x1 = 1
  · subst h1
    exact lv_tableIn C.exec C.bytes d (by decide) (by decide) rfl ht1 (k1 (bpos hf rfl) H locs ls hl hP hD hS)
  replace hf := bneg hf h1
  by_cases h2 : x1 = 2
  · subst h2
    exact lv_tableIn C.exec C.bytes d (by decide) (by decide) rfl ht2 (k2 (bpos hf rfl) H locs ls hl hP hD hS)
  replace hf := bneg hf h2
  by_cases h3 : x1 = 3
  · subst h3
    exact lv_tableIn C.exec C.bytes d (by decide) (by decide) rfl ht3 (k3 (bpos hf rfl) H locs ls hl hP hD hS)
  replace hf := bneg hf h3
  by_cases h4 : x1 = 4
  · subst h4
    exact lv_tableIn C.exec C.bytes d (by decide) (by decide) rfl ht4 (k4 (bpos hf rfl) H locs ls hl hP hD hS)
  replace hf := bneg hf h4
  by_cases h5 : x1 = 5
  · subst h5
    exact lv_tableIn C.exec C.bytes d (by decide) (by decide) rfl ht5 (k5 (bpos hf rfl) H locs ls hl hP hD hS)
  replace hf := bneg hf h5
  by_cases h6 : x1 = 6
  · subst h6
    exact lv_tableIn C.exec C.bytes d (by decide) (by decide) rfl ht6 (k6 (bpos hf rfl) H locs ls hl hP hD hS)
  replace hf := bneg hf h6
  refine lv_tableOut C.exec C.bytes d ?_ htd (kd hf H locs ls hl hP hD hS)
  have g0 : x1.toInt ≠ 0 := fun e => h0 (Int32.toInt_inj.mp (e.trans (by decide)))
  have g1 : x1.toInt ≠ 1 := fun e => h1 (Int32.toInt_inj.mp (e.trans (by decide)))
  have g2 : x1.toInt ≠ 2 := fun e => h2 (Int32.toInt_inj.mp (e.trans (by decide)))
  have g3 : x1.toInt ≠ 3 := fun e => h3 (Int32.toInt_inj.mp (e.trans (by decide)))
  have g4 : x1.toInt ≠ 4 := fun e => h4 (Int32.toInt_inj.mp (e.trans (by decide)))
  have g5 : x1.toInt ≠ 5 := fun e => h5 (Int32.toInt_inj.mp (e.trans (by decide)))
  have g6 : x1.toInt ≠ 6 := fun e => h6 (Int32.toInt_inj.mp (e.trans (by decide)))
  omega
end TS
