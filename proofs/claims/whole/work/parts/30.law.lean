/-! the law: its loop, over what is asked of the two sides (Sim) -/
def kp (M : Mm) : Nat := if gL M < 40960 then 1 else 0
def wL (Z : Zz) (a b : Nat → Nat) (x : Xx × Xx) : va_W := wD Z a x.1 ++ wM Z b x.2
theorem va_P.le {D : va_G} {cl : List vw_C} {w1 w2 : va_W} {H : Heap} (h : va_P D cl (w1 ++ w2) H) : va_P D cl w1 H := fun k q hq => h k q (by rw [List.getElem?_append_left (List.getElem?_eq_some_iff.mp hq).1]; exact hq)
theorem va_P.ri {D : va_G} {cl : List vw_C} {w1 w2 : va_W} {H : Heap} (h : va_P D cl (w1 ++ w2) H) : va_P D cl w2 H := fun k q hq => h (w1.length + k) q (by rw [List.getElem?_append_right (by omega), Nat.add_sub_cancel_left]; exact hq)
theorem va_D.le {A : Nat → Prop} {w1 w2 : va_W} (h : va_D A (w1 ++ w2)) : va_D A w1 := by
  have e : ∀ (k : Nat) (q : Nat × va_E), w1[k]? = some q → (w1 ++ w2)[k]? = some q := fun k q hq => by rw [List.getElem?_append_left (List.getElem?_eq_some_iff.mp hq).1]; exact hq
  exact ⟨fun i j p q hp hq => h.1 i j p q (e i p hp) (e j q hq), fun k q hq => h.2 k q (e k q hq)⟩
theorem va_D.ri {A : Nat → Prop} {w1 w2 : va_W} (h : va_D A (w1 ++ w2)) : va_D A w2 := by
  have e : ∀ (k : Nat) (q : Nat × va_E), w2[k]? = some q → (w1 ++ w2)[w1.length + k]? = some q := fun k q hq => by rw [List.getElem?_append_right (by omega), Nat.add_sub_cancel_left]; exact hq
  exact ⟨fun i j p q hp hq hpq => by have := h.1 _ _ p q (e i p hp) (e j q hq) hpq; omega, fun k q hq => h.2 _ q (e k q hq)⟩
theorem va_D.di {A : Nat → Prop} {w1 w2 : va_W} (h : va_D A (w1 ++ w2)) : ∀ (i j : Nat) (p q : Nat × va_E), w1[i]? = some p → w2[j]? = some q → p.1 ≠ q.1 := fun i j p q hp hq hpq => by
  have hi := (List.getElem?_eq_some_iff.mp hp).1
  have := h.1 i (w1.length + j) p q (by rw [List.getElem?_append_left hi]; exact hp) (by rw [List.getElem?_append_right (by omega), Nat.add_sub_cancel_left]; exact hq) hpq
  omega
/-- behind a call that knows one part of the world: the other part is as it was -/
theorem join_le {A0 : Nat → Prop} {D : va_G} {cl : List vw_C} {w1 w2 w' : va_W} {H H1 : Heap} (hP : va_P D cl (w1 ++ w2) H) (hD : va_D A0 (w1 ++ w2)) (hk : ∀ q : Nat, q < H.size → ¬ va_A w1 H.size q → H1[q]? = H[q]?) (hF : ∀ q, va_A w1 H.size q → A0 q) (hP1 : va_P D cl w' H1) (hD1 : va_D (va_A w1 H.size) w') : va_P D cl (w' ++ w2) H1 ∧ va_D A0 (w' ++ w2) := by
  have out : ∀ (j : Nat) (q : Nat × va_E), w2[j]? = some q → q.1 < H.size ∧ ¬ va_A w1 H.size q.1 := fun j q hq => by
    have hl := (hP.ri j q hq).lt
    refine ⟨hl, fun h => ?_⟩
    rcases h with ⟨k, e, h⟩ | h
    · exact hD.di k j (q.1, e) q h hq rfl
    · omega
  refine ⟨hP1.app (fun k q hq => (hP.ri k q hq).kept (hk q.1 (out k q hq).1 (out k q hq).2)), va_D.app (hD1.weaken (fun k q _ h => hF q.1 h)) hD.ri (fun i j p q hp hq hpq => ?_)⟩
  exact (out j q hq).2 (by rw [← hpq]; exact hD1.2 i p hp)
theorem join_ri {A0 : Nat → Prop} {D : va_G} {cl : List vw_C} {w1 w2 w' : va_W} {H H1 : Heap} (hP : va_P D cl (w1 ++ w2) H) (hD : va_D A0 (w1 ++ w2)) (hk : ∀ q : Nat, q < H.size → ¬ va_A w2 H.size q → H1[q]? = H[q]?) (hF : ∀ q, va_A w2 H.size q → A0 q) (hP1 : va_P D cl w' H1) (hD1 : va_D (va_A w2 H.size) w') : va_P D cl (w1 ++ w') H1 ∧ va_D A0 (w1 ++ w') := by
  have out : ∀ (j : Nat) (q : Nat × va_E), w1[j]? = some q → q.1 < H.size ∧ ¬ va_A w2 H.size q.1 := fun j q hq => by
    have hl := (hP.le j q hq).lt
    refine ⟨hl, fun h => ?_⟩
    rcases h with ⟨k, e, h⟩ | h
    · exact hD.di j k q (q.1, e) hq h rfl
    · omega
  refine ⟨va_P.app (fun k q hq => (hP.le k q hq).kept (hk q.1 (out k q hq).1 (out k q hq).2)) hP1, va_D.app hD.le (hD1.weaken (fun k q _ h => hF q.1 h)) (fun i j p q hp hq hpq => ?_)⟩
  exact (out i p hp).2 (by rw [hpq]; exact hD1.2 j q hq)
section LW
variable {Z : Zz} {a b : Nat → Nat} {Ev E2 : State → Prop} {G : Gm} {cc : ByteArray} {dep : Nat} {ret : Option FieldType} {Pq : Option Int32 → Xx × Xx → Prop} {csF cs : Nat} {xD xM : Xx} {st0 rest : List Value} {lv : List (Option Value)}
variable {y : MethodName} {bytes : ByteArray} {maxL n dep2 cs2 idx : Nat} {rt : Option FieldType} {As : List Value} {Pq2 : Option Int32 → Xx → Prop}
theorem V_lD (C : CX (wL Z a b) Z Ev G cc RL dep ret Pq csF) {pc : Nat} (hM : CtI (wD Z a) Z E2 y bytes maxL rt dep2 cs2 (.ref (a 0) :: As) xD Pq2) (lb : LkB y bytes maxL n rt) (lk : LkV RL idx y) (hEb : FB E2) (hE : ∀ (H : Heap) (locs : List Loc) (U : State), va_S (GA G) (Gs G).heap H locs → (∀ q, va_A (wD Z a xD) H.size q → GA G q) → U.heap = H → (Gs G).WarmedH U.vm → E2 U) (hd : dep2 + 1 ≤ dep) (hcs : cs + cs2 ≤ csF) (hc : y.cls = RX6) (hn : As.length = n) (hst : st0 = As.reverse ++ .ref (a 0) :: rest) (hr : (rest.map fun v => v.category).sum ≤ 8) (d : decode cc pc = .ok (.invokevirtual idx, 3))
    (k : ∀ (r : Int32) (xD' : Xx), Pq2 (some r) xD' → V (wL Z a b) Z G (cs + cs2) (pc + 3) lv (.int r :: rest) (xD', xM)) : V (wL Z a b) Z G cs pc lv st0 (xD, xM) := fun H locs ls hl hP hD hS => by
  subst hst
  have hP : va_P (ZD Z) vwCl (wD Z a xD ++ wM Z b xM) H := hP
  have hD : va_D (GA G) (wD Z a xD ++ wM Z b xM) := hD
  have hFc : ∀ q, va_A (wD Z a xD) H.size q → GA G q := by
    intro q h
    rcases h with ⟨k, e, h⟩ | h
    · exact hD.le.2 k _ h
    · exact C.A q (Nat.le_trans hS.1 h)
  refine va_calli (va_runV (As := As) (rest := rest) (b := a 0) ⟨C.exec, C.bytes, rfl, C.own, C.hts⟩ (hM H.size) ⟨C.callB lb lk.1 hd, C.hts _ lk.2.1, C.hts _ lk.2.2⟩ ⟨Pre0.blind hEb, va_recv (q := (y.cls, TX6, 9)) (ci := 6) (q0 := 0) C.K hP.le (show vwCl[6]? = some (y.cls, TX6, 9) by rw [hc]; rfl) rfl, fun U hU hW => ⟨rfl, by rw [hU], by rw [hU]; exact hP.le, va_K.moved hW.alike C.K, hD.le.weaken (fun _ _ _ _ => trivial), hE H locs U hS hFc hU hW⟩⟩ rfl hn hl.1 rfl (lv_room hr) d (C.fit hcs)) hS (fun q _ h => hFc q h) hFc (fun r u t H1 locs1 ht hvm hw hB hz1 hk1 hS1 => ?_)
  obtain ⟨hPn, hKn, hDn⟩ := hB
  rw [ht] at hPn
  obtain ⟨hP9, hD9⟩ := join_le hP hD hk1 hFc hPn hDn
  have e1 : 2 * cs + 2 * cs2 = 2 * (cs + cs2) := by omega
  have e2 : 81920 * cs + 81920 * cs2 = 81920 * (cs + cs2) := by omega
  rw [e1, e2]
  exact k r u hw H1 locs1 ls hl hP9 hD9 hS1
theorem V_lM (C : CX (wL Z a b) Z Ev G cc RL dep ret Pq csF) {pc : Nat} (hM : CtI (wM Z b) Z tE y bytes maxL rt dep2 0 (.ref (b 0) :: As) xM Pq2) (lb : LkB y bytes maxL n rt) (lk : LkV RL idx y) (hd : dep2 + 1 ≤ dep) (hcs : cs ≤ csF) (hc : y.cls = RX7) (hn : As.length = n) (hst : st0 = As.reverse ++ .ref (b 0) :: rest) (hr : (rest.map fun v => v.category).sum ≤ 8) (d : decode cc pc = .ok (.invokevirtual idx, 3))
    (k : ∀ (r : Int32) (xM' : Xx), Pq2 (some r) xM' → V (wL Z a b) Z G cs (pc + 3) lv (.int r :: rest) (xD, xM')) : V (wL Z a b) Z G cs pc lv st0 (xD, xM) := fun H locs ls hl hP hD hS => by
  subst hst
  have hP : va_P (ZD Z) vwCl (wD Z a xD ++ wM Z b xM) H := hP
  have hD : va_D (GA G) (wD Z a xD ++ wM Z b xM) := hD
  have hFc : ∀ q, va_A (wM Z b xM) H.size q → GA G q := by
    intro q h
    rcases h with ⟨k, e, h⟩ | h
    · exact hD.ri.2 k _ h
    · exact C.A q (Nat.le_trans hS.1 h)
  refine va_calli (va_runV (As := As) (rest := rest) (b := b 0) ⟨C.exec, C.bytes, rfl, C.own, C.hts⟩ (hM H.size) ⟨C.callB lb lk.1 hd, C.hts _ lk.2.1, C.hts _ lk.2.2⟩ ⟨Pre0.blind (wm_t (E := tE)).1, va_recv (q := (y.cls, TX7, 28)) (ci := 7) (q0 := 0) C.K hP.ri (show vwCl[7]? = some (y.cls, TX7, 28) by rw [hc]; rfl) rfl, fun U hU hW => ⟨rfl, by rw [hU], by rw [hU]; exact hP.ri, va_K.moved hW.alike C.K, hD.ri.weaken (fun _ _ _ _ => trivial), trivial⟩⟩ rfl hn hl.1 rfl (lv_room hr) d (C.fit (cs2 := 0) hcs)) hS (fun q _ h => hFc q h) hFc (fun r u t H1 locs1 ht hvm hw hB hz1 hk1 hS1 => ?_)
  obtain ⟨hPn, hKn, hDn⟩ := hB
  rw [ht] at hPn
  obtain ⟨hP9, hD9⟩ := join_ri hP hD hk1 hFc hPn hDn
  exact k r u hw H1 locs1 ls hl hP9 hD9 hS1
end LW
section LX
variable {X : Type} {wf : X → va_W} {Z : Zz} {Ev : State → Prop} {G : Gm} {cc : ByteArray} {ow : String} {dep : Nat} {ret : Option FieldType} {Pq : Option Int32 → X → Prop} {csF cs : Nat} {x : X} {st : List Value} {lv : List (Option Value)}
theorem Vc_gt (C : CX wf Z Ev G cc ow dep ret Pq csF) {pc : Nat} {x1 y1 : Int32} {off : Int} {tgt : Nat} (d : decode cc pc = .ok (.if_icmp .gt off, 3)) (ht : (pc : Int) + off = (tgt : Int)) (kt : y1 < x1 → V wf Z G cs tgt lv st x) (kf : ¬ y1 < x1 → V wf Z G cs (pc + 3) lv st x) : V wf Z G cs pc lv (.int y1 :: .int x1 :: st) x := fun H locs ls hl hP hD hS => lv_icmp_gt C.exec C.bytes d ht (fun h => kt h H locs ls hl hP hD hS) (fun h => kf h H locs ls hl hP hD hS)
theorem Vc_same (C : CX wf Z Ev G cc ow dep ret Pq csF) {pc : Nat} {x1 : Int32} {off : Int} {tgt : Nat} (d : decode cc pc = .ok (.if_icmp .eq off, 3)) (ht : (pc : Int) + off = (tgt : Int)) (kt : V wf Z G cs tgt lv st x) : V wf Z G cs pc lv (.int x1 :: .int x1 :: st) x := fun H locs ls hl hP hD hS => lv_icmp_eq C.exec C.bytes d ht (fun _ => kt H locs ls hl hP hD hS) (fun h => absurd rfl h)
theorem V_iaddE (C : CX wf Z Ev G cc ow dep ret Pq csF) {pc : Nat} {x1 y1 z1 : Int32} (h : x1 + y1 = z1) (d : decode cc pc = .ok (.iadd, 1)) (k : V wf Z G cs (pc + 1) lv (.int z1 :: st) x) : V wf Z G cs pc lv (.int y1 :: .int x1 :: st) x := by subst h; exact V_iadd C d k
theorem V_sld (C : CX wf Z Ev G cc ow dep ret Pq csF) {pc q L j : Nat} {xs : Nat → Int32} (hX : va_X q L xs (Gs G) (Gs G).heap) (hbl : q < (Gs G).heap.size) (hbA : ¬ GA G q) (hL : L ≤ 2048) (hj : j < L) (d : decode cc pc = .ok (.iaload, 1)) (k : V wf Z G cs (pc + 1) lv (.int (xs j) :: st) x) : V wf Z G cs pc lv (.int (nI j) :: .ref q :: st) x := fun H locs ls hl hP hD hS => va_sld C.exec C.bytes hX hbl hbA hS (vp_in_nI hj (by omega)) d (by rw [nI_clamp (by omega)]; exact k H locs ls hl hP hD hS)
theorem V_slen (C : CX wf Z Ev G cc ow dep ret Pq csF) {pc q L : Nat} {xs : Nat → Int32} (hX : va_X q L xs (Gs G) (Gs G).heap) (hbl : q < (Gs G).heap.size) (hbA : ¬ GA G q) (d : decode cc pc = .ok (.arraylength, 1)) (k : V wf Z G cs (pc + 1) lv (.int (nI L) :: st) x) : V wf Z G cs pc lv (.ref q :: st) x := fun H locs ls hl hP hD hS => va_slen C.exec C.bytes hX hbl hbA hS d (k H locs ls hl hP hD hS)
theorem V_astore1 (C : CX wf Z Ev G cc ow dep ret Pq csF) {pc : Nat} {o0 ol : Option Value} {rest : List (Option Value)} {v : Nat} (d : decode cc pc = .ok (.astore_n 1, 1)) (hn : 1 < (Gc G).maxLocals) (k : V wf Z G cs (pc + 1) (o0 :: some (.ref v) :: rest) st x) : V wf Z G cs pc (o0 :: ol :: rest) (.ref v :: st) x := fun H locs ls hl hP hD hS => lv_astore_n C.exec C.bytes d rfl hl.has hn rfl (fun ls' h' => k H locs ls' (hl.set rfl h') hP hD hS)
theorem V_astore2 (C : CX wf Z Ev G cc ow dep ret Pq csF) {pc : Nat} {o0 o1 ol : Option Value} {rest : List (Option Value)} {v : Nat} (d : decode cc pc = .ok (.astore_n 2, 1)) (hn : 2 < (Gc G).maxLocals) (k : V wf Z G cs (pc + 1) (o0 :: o1 :: some (.ref v) :: rest) st x) : V wf Z G cs pc (o0 :: o1 :: ol :: rest) (.ref v :: st) x := fun H locs ls hl hP hD hS => lv_astore_n C.exec C.bytes d rfl hl.has hn rfl (fun ls' h' => k H locs ls' (hl.set rfl h') hP hD hS)
theorem V_tsP (C : CX wf Z Ev G cc ow dep ret Pq csF) {pc : Nat} {t0 t1 t2 t3 t4 t5 t6 t7 t8 t9 t10 t11 t12 t13 t14 t15 t16 t17 t18 t19 t20 t21 t22 t23 t24 t25 td len : Nat} {o0 o1 o2 o3 o4 o5 o6 o7 o8 o9 o10 o11 o12 o13 o14 o15 o16 o17 o18 o19 o20 o21 o22 o23 o24 o25 od : Int} {x1 : Int32} (d : decode cc pc = .ok (.tableswitch od 0 25 #[o0, o1, o2, o3, o4, o5, o6, o7, o8, o9, o10, o11, o12, o13, o14, o15, o16, o17, o18, o19, o20, o21, o22, o23, o24, o25], len)) (ht0 : (pc : Int) + o0 = (t0 : Int)) (ht1 : (pc : Int) + o1 = (t1 : Int)) (ht2 : (pc : Int) + o2 = (t2 : Int)) (ht3 : (pc : Int) + o3 = (t3 : Int)) (ht4 : (pc : Int) + o4 = (t4 : Int)) (ht5 : (pc : Int) + o5 = (t5 : Int)) (ht6 : (pc : Int) + o6 = (t6 : Int)) (ht7 : (pc : Int) + o7 = (t7 : Int)) (ht8 : (pc : Int) + o8 = (t8 : Int)) (ht9 : (pc : Int) + o9 = (t9 : Int)) (ht10 : (pc : Int) + o10 = (t10 : Int)) (ht11 : (pc : Int) + o11 = (t11 : Int)) (ht12 : (pc : Int) + o12 = (t12 : Int)) (ht13 : (pc : Int) + o13 = (t13 : Int)) (ht14 : (pc : Int) + o14 = (t14 : Int)) (ht15 : (pc : Int) + o15 = (t15 : Int)) (ht16 : (pc : Int) + o16 = (t16 : Int)) (ht17 : (pc : Int) + o17 = (t17 : Int)) (ht18 : (pc : Int) + o18 = (t18 : Int)) (ht19 : (pc : Int) + o19 = (t19 : Int)) (ht20 : (pc : Int) + o20 = (t20 : Int)) (ht21 : (pc : Int) + o21 = (t21 : Int)) (ht22 : (pc : Int) + o22 = (t22 : Int)) (ht23 : (pc : Int) + o23 = (t23 : Int)) (ht24 : (pc : Int) + o24 = (t24 : Int)) (ht25 : (pc : Int) + o25 = (t25 : Int)) (htd : (pc : Int) + od = (td : Int)) (k0 : V wf Z G cs t0 lv st x) (k1 : V wf Z G cs t1 lv st x) (k2 : V wf Z G cs t2 lv st x) (k3 : V wf Z G cs t3 lv st x) (k4 : V wf Z G cs t4 lv st x) (k5 : V wf Z G cs t5 lv st x) (k6 : V wf Z G cs t6 lv st x) (k7 : V wf Z G cs t7 lv st x) (k8 : V wf Z G cs t8 lv st x) (k9 : V wf Z G cs t9 lv st x) (k10 : V wf Z G cs t10 lv st x) (k11 : V wf Z G cs t11 lv st x) (k12 : V wf Z G cs t12 lv st x) (k13 : V wf Z G cs t13 lv st x) (k14 : V wf Z G cs t14 lv st x) (k15 : V wf Z G cs t15 lv st x) (k16 : V wf Z G cs t16 lv st x) (k17 : V wf Z G cs t17 lv st x) (k18 : V wf Z G cs t18 lv st x) (k19 : V wf Z G cs t19 lv st x) (k20 : V wf Z G cs t20 lv st x) (k21 : V wf Z G cs t21 lv st x) (k22 : V wf Z G cs t22 lv st x) (k23 : V wf Z G cs t23 lv st x) (k24 : V wf Z G cs t24 lv st x) (k25 : V wf Z G cs t25 lv st x) (kd : V wf Z G cs td lv st x) : V wf Z G cs pc lv (.int x1 :: st) x := fun H locs ls hl hP hD hS => by
  by_cases h0 : x1 = 0
  · subst h0
    exact lv_tableIn C.exec C.bytes d (by decide) (by decide) rfl ht0 (k0 H locs ls hl hP hD hS)
  by_cases h1 : x1 = 1
  · subst h1
    exact lv_tableIn C.exec C.bytes d (by decide) (by decide) rfl ht1 (k1 H locs ls hl hP hD hS)
  by_cases h2 : x1 = 2
  · subst h2
    exact lv_tableIn C.exec C.bytes d (by decide) (by decide) rfl ht2 (k2 H locs ls hl hP hD hS)
  by_cases h3 : x1 = 3
  · subst h3
    exact lv_tableIn C.exec C.bytes d (by decide) (by decide) rfl ht3 (k3 H locs ls hl hP hD hS)
  by_cases h4 : x1 = 4
  · subst h4
    exact lv_tableIn C.exec C.bytes d (by decide) (by decide) rfl ht4 (k4 H locs ls hl hP hD hS)
  by_cases h5 : x1 = 5
  · subst h5
    exact lv_tableIn C.exec C.bytes d (by decide) (by decide) rfl ht5 (k5 H locs ls hl hP hD hS)
  by_cases h6 : x1 = 6
  · subst h6
    exact lv_tableIn C.exec C.bytes d (by decide) (by decide) rfl ht6 (k6 H locs ls hl hP hD hS)
  by_cases h7 : x1 = 7
  · subst h7
    exact lv_tableIn C.exec C.bytes d (by decide) (by decide) rfl ht7 (k7 H locs ls hl hP hD hS)
  by_cases h8 : x1 = 8
  · subst h8
    exact lv_tableIn C.exec C.bytes d (by decide) (by decide) rfl ht8 (k8 H locs ls hl hP hD hS)
  by_cases h9 : x1 = 9
  · subst h9
    exact lv_tableIn C.exec C.bytes d (by decide) (by decide) rfl ht9 (k9 H locs ls hl hP hD hS)
  by_cases h10 : x1 = 10
  · subst h10
    exact lv_tableIn C.exec C.bytes d (by decide) (by decide) rfl ht10 (k10 H locs ls hl hP hD hS)
  by_cases h11 : x1 = 11
  · subst h11
    exact lv_tableIn C.exec C.bytes d (by decide) (by decide) rfl ht11 (k11 H locs ls hl hP hD hS)
  by_cases h12 : x1 = 12
  · subst h12
    exact lv_tableIn C.exec C.bytes d (by decide) (by decide) rfl ht12 (k12 H locs ls hl hP hD hS)
  by_cases h13 : x1 = 13
  · subst h13
    exact lv_tableIn C.exec C.bytes d (by decide) (by decide) rfl ht13 (k13 H locs ls hl hP hD hS)
  by_cases h14 : x1 = 14
  · subst h14
    exact lv_tableIn C.exec C.bytes d (by decide) (by decide) rfl ht14 (k14 H locs ls hl hP hD hS)
  by_cases h15 : x1 = 15
  · subst h15
    exact lv_tableIn C.exec C.bytes d (by decide) (by decide) rfl ht15 (k15 H locs ls hl hP hD hS)
  by_cases h16 : x1 = 16
  · subst h16
    exact lv_tableIn C.exec C.bytes d (by decide) (by decide) rfl ht16 (k16 H locs ls hl hP hD hS)
  by_cases h17 : x1 = 17
  · subst h17
    exact lv_tableIn C.exec C.bytes d (by decide) (by decide) rfl ht17 (k17 H locs ls hl hP hD hS)
  by_cases h18 : x1 = 18
  · subst h18
    exact lv_tableIn C.exec C.bytes d (by decide) (by decide) rfl ht18 (k18 H locs ls hl hP hD hS)
  by_cases h19 : x1 = 19
  · subst h19
    exact lv_tableIn C.exec C.bytes d (by decide) (by decide) rfl ht19 (k19 H locs ls hl hP hD hS)
  by_cases h20 : x1 = 20
  · subst h20
    exact lv_tableIn C.exec C.bytes d (by decide) (by decide) rfl ht20 (k20 H locs ls hl hP hD hS)
  by_cases h21 : x1 = 21
  · subst h21
    exact lv_tableIn C.exec C.bytes d (by decide) (by decide) rfl ht21 (k21 H locs ls hl hP hD hS)
  by_cases h22 : x1 = 22
  · subst h22
    exact lv_tableIn C.exec C.bytes d (by decide) (by decide) rfl ht22 (k22 H locs ls hl hP hD hS)
  by_cases h23 : x1 = 23
  · subst h23
    exact lv_tableIn C.exec C.bytes d (by decide) (by decide) rfl ht23 (k23 H locs ls hl hP hD hS)
  by_cases h24 : x1 = 24
  · subst h24
    exact lv_tableIn C.exec C.bytes d (by decide) (by decide) rfl ht24 (k24 H locs ls hl hP hD hS)
  by_cases h25 : x1 = 25
  · subst h25
    exact lv_tableIn C.exec C.bytes d (by decide) (by decide) rfl ht25 (k25 H locs ls hl hP hD hS)
  refine lv_tableOut C.exec C.bytes d ?_ htd (kd H locs ls hl hP hD hS)
  have g0 : x1.toInt ≠ 0 := fun e => h0 (Int32.toInt_inj.mp (e.trans (by decide)))
  have g1 : x1.toInt ≠ 1 := fun e => h1 (Int32.toInt_inj.mp (e.trans (by decide)))
  have g2 : x1.toInt ≠ 2 := fun e => h2 (Int32.toInt_inj.mp (e.trans (by decide)))
  have g3 : x1.toInt ≠ 3 := fun e => h3 (Int32.toInt_inj.mp (e.trans (by decide)))
  have g4 : x1.toInt ≠ 4 := fun e => h4 (Int32.toInt_inj.mp (e.trans (by decide)))
  have g5 : x1.toInt ≠ 5 := fun e => h5 (Int32.toInt_inj.mp (e.trans (by decide)))
  have g6 : x1.toInt ≠ 6 := fun e => h6 (Int32.toInt_inj.mp (e.trans (by decide)))
  have g7 : x1.toInt ≠ 7 := fun e => h7 (Int32.toInt_inj.mp (e.trans (by decide)))
  have g8 : x1.toInt ≠ 8 := fun e => h8 (Int32.toInt_inj.mp (e.trans (by decide)))
  have g9 : x1.toInt ≠ 9 := fun e => h9 (Int32.toInt_inj.mp (e.trans (by decide)))
  have g10 : x1.toInt ≠ 10 := fun e => h10 (Int32.toInt_inj.mp (e.trans (by decide)))
  have g11 : x1.toInt ≠ 11 := fun e => h11 (Int32.toInt_inj.mp (e.trans (by decide)))
  have g12 : x1.toInt ≠ 12 := fun e => h12 (Int32.toInt_inj.mp (e.trans (by decide)))
  have g13 : x1.toInt ≠ 13 := fun e => h13 (Int32.toInt_inj.mp (e.trans (by decide)))
  have g14 : x1.toInt ≠ 14 := fun e => h14 (Int32.toInt_inj.mp (e.trans (by decide)))
  have g15 : x1.toInt ≠ 15 := fun e => h15 (Int32.toInt_inj.mp (e.trans (by decide)))
  have g16 : x1.toInt ≠ 16 := fun e => h16 (Int32.toInt_inj.mp (e.trans (by decide)))
  have g17 : x1.toInt ≠ 17 := fun e => h17 (Int32.toInt_inj.mp (e.trans (by decide)))
  have g18 : x1.toInt ≠ 18 := fun e => h18 (Int32.toInt_inj.mp (e.trans (by decide)))
  have g19 : x1.toInt ≠ 19 := fun e => h19 (Int32.toInt_inj.mp (e.trans (by decide)))
  have g20 : x1.toInt ≠ 20 := fun e => h20 (Int32.toInt_inj.mp (e.trans (by decide)))
  have g21 : x1.toInt ≠ 21 := fun e => h21 (Int32.toInt_inj.mp (e.trans (by decide)))
  have g22 : x1.toInt ≠ 22 := fun e => h22 (Int32.toInt_inj.mp (e.trans (by decide)))
  have g23 : x1.toInt ≠ 23 := fun e => h23 (Int32.toInt_inj.mp (e.trans (by decide)))
  have g24 : x1.toInt ≠ 24 := fun e => h24 (Int32.toInt_inj.mp (e.trans (by decide)))
  have g25 : x1.toInt ≠ 25 := fun e => h25 (Int32.toInt_inj.mp (e.trans (by decide)))
  omega
end LX
/-! what is asked of the two sides, call by call -/
def Q_vats (N : Nat) (Rel : Mm → Mm → Prop) : Prop := ∀ (p1 : Int32) (D M : Mm), Rel D M → ∃ r D' M', f_X6_vats p1 D = some (r, D') ∧ f_X7_vats N p1 M = some (r, M') ∧ Rel D' M' ∧ 0 + kp D' ≤ kp D
def Q_bath (N : Nat) (Rel : Mm → Mm → Prop) : Prop := ∀ (p1 : Int32) (D M : Mm), Rel D M → ∃ r D' M', f_X6_bath p1 D = some (r, D') ∧ f_X7_bath p1 M = some (r, M') ∧ Rel D' M' ∧ 0 + kp D' ≤ kp D
def Q_recipe (N : Nat) (Rel : Mm → Mm → Prop) : Prop := ∀ (p1 p2 p3 : Int32) (D M : Mm), Rel D M → ∃ r D' M', f_X6_recipe N p1 p2 p3 D = some (r, D') ∧ f_X7_recipe N p1 p2 p3 M = some (r, M') ∧ Rel D' M' ∧ 0 + kp D' ≤ kp D
def Q_lose (N : Nat) (Rel : Mm → Mm → Prop) : Prop := ∀ (p1 : Int32) (D M : Mm), Rel D M → ∃ r D' M', f_X6_lose N p1 D = some (r, D') ∧ f_X7_lose p1 M = some (r, M') ∧ Rel D' M' ∧ 0 + kp D' ≤ kp D
def Q_need (N : Nat) (Rel : Mm → Mm → Prop) : Prop := ∀ (p1 p2 p3 : Int32) (D M : Mm), Rel D M → ∃ r D' M', f_X6_need N p1 p2 p3 D = some (r, D') ∧ f_X7_need N p1 p2 p3 M = some (r, M') ∧ Rel D' M' ∧ 0 + kp D' ≤ kp D
def Q_named (N : Nat) (Rel : Mm → Mm → Prop) : Prop := ∀ (p1 p2 p3 : Int32) (D M : Mm), Rel D M → ∃ r, f_X6_named D p1 p2 p3 = some r ∧ f_X7_named M p1 p2 p3 = some r
def Q_ring (N : Nat) (Rel : Mm → Mm → Prop) : Prop := ∀ (p1 : Int32) (D M : Mm), Rel D M → ∃ r, f_X6_ring D p1 = some r ∧ f_X7_ring M p1 = some r
def Q_order (N : Nat) (Rel : Mm → Mm → Prop) : Prop := ∀ (p1 : Int32) (D M : Mm), Rel D M → ∃ r, f_X6_order N D p1 = some r ∧ f_X7_order N M p1 = some r
def Q_goal (N : Nat) (Rel : Mm → Mm → Prop) : Prop := ∀ (p1 : Int32) (D M : Mm), Rel D M → ∃ r D' M', f_X6_goal p1 D = some (r, D') ∧ f_X7_goal N p1 M = some (r, M') ∧ Rel D' M' ∧ 0 + kp D' ≤ kp D
def Q_forget (N : Nat) (Rel : Mm → Mm → Prop) : Prop := ∀ (D M : Mm), Rel D M → ∃ r D' M', f_X6_forget  D = some (r, D') ∧ f_X7_forget  M = some (r, M') ∧ Rel D' M' ∧ 0 + kp D' ≤ kp D
def Q_together (N : Nat) (Rel : Mm → Mm → Prop) : Prop := ∀ (p1 : Int32) (D M : Mm), Rel D M → isB p1 → ∃ r D' M', f_X6_together p1 D = some (r, D') ∧ f_X7_together p1 M = some (r, M') ∧ Rel D' M' ∧ 0 + kp D' ≤ kp D
def Q_make (N : Nat) (Rel : Mm → Mm → Prop) : Prop := ∀ (p1 : Int32) (D M : Mm), Rel D M → ∃ r D' M', f_X6_make p1 D = some (r, D') ∧ f_X7_make N p1 M = some (r, M') ∧ Rel D' M' ∧ 0 + kp D' ≤ kp D
def Q_why (N : Nat) (Rel : Mm → Mm → Prop) : Prop := ∀ (p1 : Int32) (D M : Mm), Rel D M → ∃ r, f_X6_why D p1 = some r ∧ f_X7_why N M p1 = some r
def Q_pour (N : Nat) (Rel : Mm → Mm → Prop) : Prop := ∀ (p1 : Int32) (D M : Mm), Rel D M → ∃ r D' M', f_X6_pour p1 D = some (r, D') ∧ f_X7_pour N p1 M = some (r, M') ∧ Rel D' M' ∧ 0 + kp D' ≤ kp D
def Q_undo (N : Nat) (Rel : Mm → Mm → Prop) : Prop := ∀ (D M : Mm), Rel D M → ∃ r D' M', f_X6_undo  D = some (r, D') ∧ f_X7_undo  M = some (r, M') ∧ Rel D' M' ∧ 0 + kp D' ≤ kp D
def Q_of (N : Nat) (Rel : Mm → Mm → Prop) : Prop := ∀ (p1 p2 : Int32) (D M : Mm), Rel D M → ∃ r, f_X6_of D p1 p2 = some r ∧ f_X7_of M p1 p2 = some r
def Q_count (N : Nat) (Rel : Mm → Mm → Prop) : Prop := ∀ (p1 : Int32) (D M : Mm), Rel D M → ∃ r, f_X6_count D p1 = some r ∧ f_X7_count N M p1 = some r
def Q_least (N : Nat) (Rel : Mm → Mm → Prop) : Prop := ∀ (D M : Mm), Rel D M → ∃ r D' M', f_X6_least N  D = some (r, D') ∧ f_X7_least N  M = some (r, M') ∧ Rel D' M' ∧ kap D + kp D' ≤ kp D
def Q_fewest (N : Nat) (Rel : Mm → Mm → Prop) : Prop := ∀ (p1 : Int32) (D M : Mm), Rel D M → ∃ r D' M', f_X6_fewest N p1 D = some (r, D') ∧ f_X7_fewest N p1 M = some (r, M') ∧ Rel D' M' ∧ ((f_X6_isVatCount p1 = some 0) ∧ 0 + kp D' ≤ kp D ∨ kap D + kp D' ≤ kp D)
def Q_plan (N : Nat) (Rel : Mm → Mm → Prop) : Prop := ∀ (p1 p2 : Int32) (D M : Mm), Rel D M → ∃ r D' M', f_X6_plan N p1 p2 D = some (r, D') ∧ f_X7_plan N p1 p2 M = some (r, M') ∧ Rel D' M' ∧ ((f_X6_isVatCount p1 = some 0 ∨ f_X6_isVatCount p1 = some 1 ∧ ¬ (-1 : Int32) ≤ p2) ∧ 0 + kp D' ≤ kp D ∨ kap D + kp D' ≤ kp D)
def Q_reach (N : Nat) (Rel : Mm → Mm → Prop) : Prop := ∀ (p1 : Int32) (D M : Mm), Rel D M → ∃ r D' M', f_X6_reach N p1 D = some (r, D') ∧ f_X7_reach N p1 M = some (r, M') ∧ Rel D' M' ∧ ((f_X6_isVatCount p1 = some 0) ∧ 0 + kp D' ≤ kp D ∨ kap D + kp D' ≤ kp D)
def Q_row (N : Nat) (Rel : Mm → Mm → Prop) : Prop := ∀ (p1 : Int32) (D M : Mm), Rel D M → ∃ r D' M', f_X6_row N p1 D = some (r, D') ∧ f_X7_row N p1 M = some (r, M') ∧ Rel D' M' ∧ ((f_X6_isVatCount p1 = some 0 ∨ f_X6_isVatCount p1 = some 1 ∧ f_X5_allFillOne D = some 0) ∧ 0 + kp D' ≤ kp D ∨ kap D + kp D' ≤ kp D)
def Q_bit (N : Nat) (Rel : Mm → Mm → Prop) : Prop := ∀ (p1 : Int32) (D M : Mm), Rel D M → ∃ r, f_X6_bit D p1 = some r ∧ f_X7_bit M p1 = some r
def Q_flip (N : Nat) (Rel : Mm → Mm → Prop) : Prop := ∀ (p1 : Int32) (D M : Mm), Rel D M → ∃ r D' M', f_X6_flip p1 D = some (r, D') ∧ f_X7_flip p1 M = some (r, M') ∧ Rel D' M' ∧ 0 + kp D' ≤ kp D
def Q_check (N : Nat) (Rel : Mm → Mm → Prop) : Prop := ∀ (p1 : Int32) (D M : Mm), Rel D M → ∃ r D' M', f_X6_check N p1 D = some (r, D') ∧ f_X7_check N p1 M = some (r, M') ∧ Rel D' M' ∧ 0 + kp D' ≤ kp D
def Q_where (N : Nat) (Rel : Mm → Mm → Prop) : Prop := ∀ (D M : Mm), Rel D M → ∃ r, f_X6_where D = some r ∧ f_X7_where M = some r
def Q_kap (N : Nat) (Rel : Mm → Mm → Prop) : Prop := (∀ (D M D' : Mm) (r : Int32), Rel D M → f_X1_makesFor N 18 D = some (r, D') → kap D' = 0) ∧ ∀ (v : Int32) (D D' : Mm) (r : Int32), kap D = 0 → f_X1_makesFor N v D = some (r, D') → kap D' = 0
def Sim (N : Nat) (Rel : Mm → Mm → Prop) : Prop := Q_vats N Rel ∧ Q_bath N Rel ∧ Q_recipe N Rel ∧ Q_lose N Rel ∧ Q_need N Rel ∧ Q_named N Rel ∧ Q_ring N Rel ∧ Q_order N Rel ∧ Q_goal N Rel ∧ Q_forget N Rel ∧ Q_together N Rel ∧ Q_make N Rel ∧ Q_why N Rel ∧ Q_pour N Rel ∧ Q_undo N Rel ∧ Q_of N Rel ∧ Q_count N Rel ∧ Q_least N Rel ∧ Q_fewest N Rel ∧ Q_plan N Rel ∧ Q_reach N Rel ∧ Q_row N Rel ∧ Q_bit N Rel ∧ Q_flip N Rel ∧ Q_check N Rel ∧ Q_where N Rel ∧ Q_kap N Rel
def lE (tW : Nat) (A : Nat → Prop) : State → Prop := fun U => nE U ∧ va_Z "DyeVats" "WORTH" "[I" (.ref tW) A U U.heap ∧ va_T .int tW 5 (fun j => .int (worth j)) A U U.heap
theorem wE_of {w : va_W} {tW : Nat} {A : Nat → Prop} {s U : State} {H : Heap} {locs : List Loc} (h : lE tW A s) (hS : va_S A s.heap H locs) (hF : ∀ q, va_A w H.size q → A q) (hU : U.heap = H) (hW : s.WarmedH U.vm) : wE w U := by
  obtain ⟨h1, h2, h3⟩ := h
  refine ⟨wm_n.2 s U hW h1, tW, ?_, ?_⟩
  · rw [hU]
    exact ((h2.kept (fun q h9 h8 => hS.2.1 q h9 h8)).narrow hF).moved hW.alike
  · rw [hU]
    exact ((h3.kept (fun q h9 h8 => hS.2.1 q h9 h8)).narrow hF).moved hW.alike
theorem fb_w {w : va_W} : FB (wE w) := fun U g mk a h => by
  obtain ⟨h1, tW, h2, h3⟩ := h
  exact ⟨wm_n.1 U g mk a h1, tW, va_Z.moved (u := U) (U := U.calling g mk a) (Vm.Alike.refl U.vm) h2, va_T.moved (u := U) (U := U.calling g mk a) (Vm.Alike.refl U.vm) h3⟩
theorem nI_2 (i : Nat) : nI i + 2 = nI (i + 2) := nI_add i 2
theorem nI_3 (i : Nat) : nI i + 3 = nI (i + 3) := nI_add i 3
theorem nI_4 (i : Nat) : nI i + 4 = nI (i + 4) := nI_add i 4
set_option maxRecDepth 100000 in
set_option maxHeartbeats 4000000 in
theorem law_0_vats {Z : Zz} {a b : Nat → Nat} {G : Gm} {N q L tW : Nat} {xs : Nat → Int32} {Rel : Mm → Mm → Prop} (S : Sim N Rel) (C : CX (wL Z a b) Z (lE tW (GA G)) G cL_law RL 9 (some .boolean) (fun o _ => o = some 1) 45) (hm : (Gc G).maxLocals = 4) (hX : va_X q L xs (Gs G) (Gs G).heap) (hbl : q < (Gs G).heap.size) (hbA : ¬ GA G q) (hL : L ≤ 2048) {i cs : Nat} {xD xM : Xx} (hi : i + 4 ≤ L) (hR : Rel xD.2.2 xM.2.2) (hk : cs + kp xD.2.2 ≤ 45) (k : ∀ (cs : Nat) (xD xM : Xx), Rel xD.2.2 xM.2.2 → cs + kp xD.2.2 ≤ 45 → V (wL Z a b) Z G cs 806 [some (.ref q), some (.ref (a 0)), some (.ref (b 0)), some (.int (nI i))] [] (xD, xM)) : V (wL Z a b) Z G cs 152 [some (.ref q), some (.ref (a 0)), some (.ref (b 0)), some (.int (nI i))] [] (xD, xM) := by
  refine V_aload1 C (pc := 152) dL_law_152 ?_
  refine V_aload0 C (pc := 153) dL_law_153 ?_
  refine V_iload3 C (pc := 154) dL_law_154 ?_
  refine V_iconst C (pc := 155) (v := (1 : Int32)) (by decide) dL_law_155 ?_
  refine V_iaddE C (pc := 156) (nI_1 i) dL_law_156 ?_
  refine V_sld C (pc := 157) hX hbl hbA hL (by omega) dL_law_157 ?_
  obtain ⟨r, D', M', hd, hmm, hR2, hk2⟩ := S.1 (xs (i + 1)) _ _ hR
  refine V_lD C (pc := 158) (dep2 := 3) (cs2 := 0) (As := [.int (xs (i + 1))]) (rest := []) (c_X6_vats hd) lb_X6_vats lk_RL_13 wm_n.1 (fun H locs U h1 h2 h3 h4 => wm_n.2 _ U h4 C.E.1) (by decide) (by omega) rfl rfl rfl (Nat.le_of_ble_eq_true rfl) dL_law_158 (fun r9 x9 h9 => ?_)
  obtain ⟨e1, e2⟩ := h9; cases e1
  refine V_aload2 C (pc := 161) dL_law_161 ?_
  refine V_aload0 C (pc := 162) dL_law_162 ?_
  refine V_iload3 C (pc := 163) dL_law_163 ?_
  refine V_iconst C (pc := 164) (v := (1 : Int32)) (by decide) dL_law_164 ?_
  refine V_iaddE C (pc := 165) (nI_1 i) dL_law_165 ?_
  refine V_sld C (pc := 166) hX hbl hbA hL (by omega) dL_law_166 ?_
  refine V_lM C (pc := 167) (dep2 := 3) (As := [.int (xs (i + 1))]) (rest := [.int r]) (c_X7_vats hmm) lb_X7_vats lk_RL_17 (by decide) (by omega) rfl rfl rfl (Nat.le_of_ble_eq_true rfl) dL_law_167 (fun r8 x8 h8 => ?_)
  obtain ⟨e3, e4⟩ := h8; cases e3
  refine Vc_same C (pc := 170) (tgt := 806) dL_law_170 (by decide) ?_
  rw [← e2, ← e4] at hR2
  rw [← e2] at hk2
  exact k _ x9 x8 hR2 (by omega)
set_option maxRecDepth 100000 in
set_option maxHeartbeats 4000000 in
theorem law_1_bath {Z : Zz} {a b : Nat → Nat} {G : Gm} {N q L tW : Nat} {xs : Nat → Int32} {Rel : Mm → Mm → Prop} (S : Sim N Rel) (C : CX (wL Z a b) Z (lE tW (GA G)) G cL_law RL 9 (some .boolean) (fun o _ => o = some 1) 45) (hm : (Gc G).maxLocals = 4) (hX : va_X q L xs (Gs G) (Gs G).heap) (hbl : q < (Gs G).heap.size) (hbA : ¬ GA G q) (hL : L ≤ 2048) {i cs : Nat} {xD xM : Xx} (hi : i + 4 ≤ L) (hR : Rel xD.2.2 xM.2.2) (hk : cs + kp xD.2.2 ≤ 45) (k : ∀ (cs : Nat) (xD xM : Xx), Rel xD.2.2 xM.2.2 → cs + kp xD.2.2 ≤ 45 → V (wL Z a b) Z G cs 806 [some (.ref q), some (.ref (a 0)), some (.ref (b 0)), some (.int (nI i))] [] (xD, xM)) : V (wL Z a b) Z G cs 175 [some (.ref q), some (.ref (a 0)), some (.ref (b 0)), some (.int (nI i))] [] (xD, xM) := by
  refine V_aload1 C (pc := 175) dL_law_175 ?_
  refine V_aload0 C (pc := 176) dL_law_176 ?_
  refine V_iload3 C (pc := 177) dL_law_177 ?_
  refine V_iconst C (pc := 178) (v := (1 : Int32)) (by decide) dL_law_178 ?_
  refine V_iaddE C (pc := 179) (nI_1 i) dL_law_179 ?_
  refine V_sld C (pc := 180) hX hbl hbA hL (by omega) dL_law_180 ?_
  obtain ⟨r, D', M', hd, hmm, hR2, hk2⟩ := S.2.1 (xs (i + 1)) _ _ hR
  refine V_lD C (pc := 181) (dep2 := 2) (cs2 := 0) (As := [.int (xs (i + 1))]) (rest := []) (c_X6_bath hd) lb_X6_bath lk_RL_18 fb_w (fun H locs U h1 h2 h3 h4 => wE_of C.E h1 h2 h3 h4) (by decide) (by omega) rfl rfl rfl (Nat.le_of_ble_eq_true rfl) dL_law_181 (fun r9 x9 h9 => ?_)
  obtain ⟨e1, e2⟩ := h9; cases e1
  refine V_aload2 C (pc := 184) dL_law_184 ?_
  refine V_aload0 C (pc := 185) dL_law_185 ?_
  refine V_iload3 C (pc := 186) dL_law_186 ?_
  refine V_iconst C (pc := 187) (v := (1 : Int32)) (by decide) dL_law_187 ?_
  refine V_iaddE C (pc := 188) (nI_1 i) dL_law_188 ?_
  refine V_sld C (pc := 189) hX hbl hbA hL (by omega) dL_law_189 ?_
  refine V_lM C (pc := 190) (dep2 := 0) (As := [.int (xs (i + 1))]) (rest := [.int r]) (c_X7_bath hmm) lb_X7_bath lk_RL_21 (by decide) (by omega) rfl rfl rfl (Nat.le_of_ble_eq_true rfl) dL_law_190 (fun r8 x8 h8 => ?_)
  obtain ⟨e3, e4⟩ := h8; cases e3
  refine Vc_same C (pc := 193) (tgt := 806) dL_law_193 (by decide) ?_
  rw [← e2, ← e4] at hR2
  rw [← e2] at hk2
  exact k _ x9 x8 hR2 (by omega)
set_option maxRecDepth 100000 in
set_option maxHeartbeats 4000000 in
theorem law_2_recipe {Z : Zz} {a b : Nat → Nat} {G : Gm} {N q L tW : Nat} {xs : Nat → Int32} {Rel : Mm → Mm → Prop} (S : Sim N Rel) (C : CX (wL Z a b) Z (lE tW (GA G)) G cL_law RL 9 (some .boolean) (fun o _ => o = some 1) 45) (hm : (Gc G).maxLocals = 4) (hX : va_X q L xs (Gs G) (Gs G).heap) (hbl : q < (Gs G).heap.size) (hbA : ¬ GA G q) (hL : L ≤ 2048) {i cs : Nat} {xD xM : Xx} (hi : i + 4 ≤ L) (hR : Rel xD.2.2 xM.2.2) (hk : cs + kp xD.2.2 ≤ 45) (k : ∀ (cs : Nat) (xD xM : Xx), Rel xD.2.2 xM.2.2 → cs + kp xD.2.2 ≤ 45 → V (wL Z a b) Z G cs 806 [some (.ref q), some (.ref (a 0)), some (.ref (b 0)), some (.int (nI i))] [] (xD, xM)) : V (wL Z a b) Z G cs 198 [some (.ref q), some (.ref (a 0)), some (.ref (b 0)), some (.int (nI i))] [] (xD, xM) := by
  refine V_aload1 C (pc := 198) dL_law_198 ?_
  refine V_aload0 C (pc := 199) dL_law_199 ?_
  refine V_iload3 C (pc := 200) dL_law_200 ?_
  refine V_iconst C (pc := 201) (v := (1 : Int32)) (by decide) dL_law_201 ?_
  refine V_iaddE C (pc := 202) (nI_1 i) dL_law_202 ?_
  refine V_sld C (pc := 203) hX hbl hbA hL (by omega) dL_law_203 ?_
  refine V_aload0 C (pc := 204) dL_law_204 ?_
  refine V_iload3 C (pc := 205) dL_law_205 ?_
  refine V_iconst C (pc := 206) (v := (2 : Int32)) (by decide) dL_law_206 ?_
  refine V_iaddE C (pc := 207) (nI_2 i) dL_law_207 ?_
  refine V_sld C (pc := 208) hX hbl hbA hL (by omega) dL_law_208 ?_
  refine V_aload0 C (pc := 209) dL_law_209 ?_
  refine V_iload3 C (pc := 210) dL_law_210 ?_
  refine V_iconst C (pc := 211) (v := (3 : Int32)) (by decide) dL_law_211 ?_
  refine V_iaddE C (pc := 212) (nI_3 i) dL_law_212 ?_
  refine V_sld C (pc := 213) hX hbl hbA hL (by omega) dL_law_213 ?_
  obtain ⟨r, D', M', hd, hmm, hR2, hk2⟩ := S.2.2.1 (xs (i + 1)) (xs (i + 2)) (xs (i + 3)) _ _ hR
  refine V_lD C (pc := 214) (dep2 := 4) (cs2 := 0) (As := [.int (xs (i + 1)), .int (xs (i + 2)), .int (xs (i + 3))]) (rest := []) (c_X6_recipe hd) lb_X6_recipe lk_RL_22 wm_n.1 (fun H locs U h1 h2 h3 h4 => wm_n.2 _ U h4 C.E.1) (by decide) (by omega) rfl rfl rfl (Nat.le_of_ble_eq_true rfl) dL_law_214 (fun r9 x9 h9 => ?_)
  obtain ⟨e1, e2⟩ := h9; cases e1
  refine V_aload2 C (pc := 217) dL_law_217 ?_
  refine V_aload0 C (pc := 218) dL_law_218 ?_
  refine V_iload3 C (pc := 219) dL_law_219 ?_
  refine V_iconst C (pc := 220) (v := (1 : Int32)) (by decide) dL_law_220 ?_
  refine V_iaddE C (pc := 221) (nI_1 i) dL_law_221 ?_
  refine V_sld C (pc := 222) hX hbl hbA hL (by omega) dL_law_222 ?_
  refine V_aload0 C (pc := 223) dL_law_223 ?_
  refine V_iload3 C (pc := 224) dL_law_224 ?_
  refine V_iconst C (pc := 225) (v := (2 : Int32)) (by decide) dL_law_225 ?_
  refine V_iaddE C (pc := 226) (nI_2 i) dL_law_226 ?_
  refine V_sld C (pc := 227) hX hbl hbA hL (by omega) dL_law_227 ?_
  refine V_aload0 C (pc := 228) dL_law_228 ?_
  refine V_iload3 C (pc := 229) dL_law_229 ?_
  refine V_iconst C (pc := 230) (v := (3 : Int32)) (by decide) dL_law_230 ?_
  refine V_iaddE C (pc := 231) (nI_3 i) dL_law_231 ?_
  refine V_sld C (pc := 232) hX hbl hbA hL (by omega) dL_law_232 ?_
  refine V_lM C (pc := 233) (dep2 := 1) (As := [.int (xs (i + 1)), .int (xs (i + 2)), .int (xs (i + 3))]) (rest := [.int r]) (c_X7_recipe hmm) lb_X7_recipe lk_RL_26 (by decide) (by omega) rfl rfl rfl (Nat.le_of_ble_eq_true rfl) dL_law_233 (fun r8 x8 h8 => ?_)
  obtain ⟨e3, e4⟩ := h8; cases e3
  refine Vc_same C (pc := 236) (tgt := 806) dL_law_236 (by decide) ?_
  rw [← e2, ← e4] at hR2
  rw [← e2] at hk2
  exact k _ x9 x8 hR2 (by omega)
set_option maxRecDepth 100000 in
set_option maxHeartbeats 4000000 in
theorem law_3_lose {Z : Zz} {a b : Nat → Nat} {G : Gm} {N q L tW : Nat} {xs : Nat → Int32} {Rel : Mm → Mm → Prop} (S : Sim N Rel) (C : CX (wL Z a b) Z (lE tW (GA G)) G cL_law RL 9 (some .boolean) (fun o _ => o = some 1) 45) (hm : (Gc G).maxLocals = 4) (hX : va_X q L xs (Gs G) (Gs G).heap) (hbl : q < (Gs G).heap.size) (hbA : ¬ GA G q) (hL : L ≤ 2048) {i cs : Nat} {xD xM : Xx} (hi : i + 4 ≤ L) (hR : Rel xD.2.2 xM.2.2) (hk : cs + kp xD.2.2 ≤ 45) (k : ∀ (cs : Nat) (xD xM : Xx), Rel xD.2.2 xM.2.2 → cs + kp xD.2.2 ≤ 45 → V (wL Z a b) Z G cs 806 [some (.ref q), some (.ref (a 0)), some (.ref (b 0)), some (.int (nI i))] [] (xD, xM)) : V (wL Z a b) Z G cs 241 [some (.ref q), some (.ref (a 0)), some (.ref (b 0)), some (.int (nI i))] [] (xD, xM) := by
  refine V_aload1 C (pc := 241) dL_law_241 ?_
  refine V_aload0 C (pc := 242) dL_law_242 ?_
  refine V_iload3 C (pc := 243) dL_law_243 ?_
  refine V_iconst C (pc := 244) (v := (1 : Int32)) (by decide) dL_law_244 ?_
  refine V_iaddE C (pc := 245) (nI_1 i) dL_law_245 ?_
  refine V_sld C (pc := 246) hX hbl hbA hL (by omega) dL_law_246 ?_
  obtain ⟨r, D', M', hd, hmm, hR2, hk2⟩ := S.2.2.2.1 (xs (i + 1)) _ _ hR
  refine V_lD C (pc := 247) (dep2 := 4) (cs2 := 0) (As := [.int (xs (i + 1))]) (rest := []) (c_X6_lose hd) lb_X6_lose lk_RL_27 wm_n.1 (fun H locs U h1 h2 h3 h4 => wm_n.2 _ U h4 C.E.1) (by decide) (by omega) rfl rfl rfl (Nat.le_of_ble_eq_true rfl) dL_law_247 (fun r9 x9 h9 => ?_)
  obtain ⟨e1, e2⟩ := h9; cases e1
  refine V_aload2 C (pc := 250) dL_law_250 ?_
  refine V_aload0 C (pc := 251) dL_law_251 ?_
  refine V_iload3 C (pc := 252) dL_law_252 ?_
  refine V_iconst C (pc := 253) (v := (1 : Int32)) (by decide) dL_law_253 ?_
  refine V_iaddE C (pc := 254) (nI_1 i) dL_law_254 ?_
  refine V_sld C (pc := 255) hX hbl hbA hL (by omega) dL_law_255 ?_
  refine V_lM C (pc := 256) (dep2 := 1) (As := [.int (xs (i + 1))]) (rest := [.int r]) (c_X7_lose hmm) lb_X7_lose lk_RL_30 (by decide) (by omega) rfl rfl rfl (Nat.le_of_ble_eq_true rfl) dL_law_256 (fun r8 x8 h8 => ?_)
  obtain ⟨e3, e4⟩ := h8; cases e3
  refine Vc_same C (pc := 259) (tgt := 806) dL_law_259 (by decide) ?_
  rw [← e2, ← e4] at hR2
  rw [← e2] at hk2
  exact k _ x9 x8 hR2 (by omega)
set_option maxRecDepth 100000 in
set_option maxHeartbeats 4000000 in
theorem law_4_need {Z : Zz} {a b : Nat → Nat} {G : Gm} {N q L tW : Nat} {xs : Nat → Int32} {Rel : Mm → Mm → Prop} (S : Sim N Rel) (C : CX (wL Z a b) Z (lE tW (GA G)) G cL_law RL 9 (some .boolean) (fun o _ => o = some 1) 45) (hm : (Gc G).maxLocals = 4) (hX : va_X q L xs (Gs G) (Gs G).heap) (hbl : q < (Gs G).heap.size) (hbA : ¬ GA G q) (hL : L ≤ 2048) {i cs : Nat} {xD xM : Xx} (hi : i + 4 ≤ L) (hR : Rel xD.2.2 xM.2.2) (hk : cs + kp xD.2.2 ≤ 45) (k : ∀ (cs : Nat) (xD xM : Xx), Rel xD.2.2 xM.2.2 → cs + kp xD.2.2 ≤ 45 → V (wL Z a b) Z G cs 806 [some (.ref q), some (.ref (a 0)), some (.ref (b 0)), some (.int (nI i))] [] (xD, xM)) : V (wL Z a b) Z G cs 264 [some (.ref q), some (.ref (a 0)), some (.ref (b 0)), some (.int (nI i))] [] (xD, xM) := by
  refine V_aload1 C (pc := 264) dL_law_264 ?_
  refine V_aload0 C (pc := 265) dL_law_265 ?_
  refine V_iload3 C (pc := 266) dL_law_266 ?_
  refine V_iconst C (pc := 267) (v := (1 : Int32)) (by decide) dL_law_267 ?_
  refine V_iaddE C (pc := 268) (nI_1 i) dL_law_268 ?_
  refine V_sld C (pc := 269) hX hbl hbA hL (by omega) dL_law_269 ?_
  refine V_aload0 C (pc := 270) dL_law_270 ?_
  refine V_iload3 C (pc := 271) dL_law_271 ?_
  refine V_iconst C (pc := 272) (v := (2 : Int32)) (by decide) dL_law_272 ?_
  refine V_iaddE C (pc := 273) (nI_2 i) dL_law_273 ?_
  refine V_sld C (pc := 274) hX hbl hbA hL (by omega) dL_law_274 ?_
  refine V_aload0 C (pc := 275) dL_law_275 ?_
  refine V_iload3 C (pc := 276) dL_law_276 ?_
  refine V_iconst C (pc := 277) (v := (3 : Int32)) (by decide) dL_law_277 ?_
  refine V_iaddE C (pc := 278) (nI_3 i) dL_law_278 ?_
  refine V_sld C (pc := 279) hX hbl hbA hL (by omega) dL_law_279 ?_
  obtain ⟨r, D', M', hd, hmm, hR2, hk2⟩ := S.2.2.2.2.1 (xs (i + 1)) (xs (i + 2)) (xs (i + 3)) _ _ hR
  refine V_lD C (pc := 280) (dep2 := 4) (cs2 := 0) (As := [.int (xs (i + 1)), .int (xs (i + 2)), .int (xs (i + 3))]) (rest := []) (c_X6_need hd) lb_X6_need lk_RL_31 wm_n.1 (fun H locs U h1 h2 h3 h4 => wm_n.2 _ U h4 C.E.1) (by decide) (by omega) rfl rfl rfl (Nat.le_of_ble_eq_true rfl) dL_law_280 (fun r9 x9 h9 => ?_)
  obtain ⟨e1, e2⟩ := h9; cases e1
  refine V_aload2 C (pc := 283) dL_law_283 ?_
  refine V_aload0 C (pc := 284) dL_law_284 ?_
  refine V_iload3 C (pc := 285) dL_law_285 ?_
  refine V_iconst C (pc := 286) (v := (1 : Int32)) (by decide) dL_law_286 ?_
  refine V_iaddE C (pc := 287) (nI_1 i) dL_law_287 ?_
  refine V_sld C (pc := 288) hX hbl hbA hL (by omega) dL_law_288 ?_
  refine V_aload0 C (pc := 289) dL_law_289 ?_
  refine V_iload3 C (pc := 290) dL_law_290 ?_
  refine V_iconst C (pc := 291) (v := (2 : Int32)) (by decide) dL_law_291 ?_
  refine V_iaddE C (pc := 292) (nI_2 i) dL_law_292 ?_
  refine V_sld C (pc := 293) hX hbl hbA hL (by omega) dL_law_293 ?_
  refine V_aload0 C (pc := 294) dL_law_294 ?_
  refine V_iload3 C (pc := 295) dL_law_295 ?_
  refine V_iconst C (pc := 296) (v := (3 : Int32)) (by decide) dL_law_296 ?_
  refine V_iaddE C (pc := 297) (nI_3 i) dL_law_297 ?_
  refine V_sld C (pc := 298) hX hbl hbA hL (by omega) dL_law_298 ?_
  refine V_lM C (pc := 299) (dep2 := 2) (As := [.int (xs (i + 1)), .int (xs (i + 2)), .int (xs (i + 3))]) (rest := [.int r]) (c_X7_need hmm) lb_X7_need lk_RL_34 (by decide) (by omega) rfl rfl rfl (Nat.le_of_ble_eq_true rfl) dL_law_299 (fun r8 x8 h8 => ?_)
  obtain ⟨e3, e4⟩ := h8; cases e3
  refine Vc_same C (pc := 302) (tgt := 806) dL_law_302 (by decide) ?_
  rw [← e2, ← e4] at hR2
  rw [← e2] at hk2
  exact k _ x9 x8 hR2 (by omega)
set_option maxRecDepth 100000 in
set_option maxHeartbeats 4000000 in
theorem law_5_named {Z : Zz} {a b : Nat → Nat} {G : Gm} {N q L tW : Nat} {xs : Nat → Int32} {Rel : Mm → Mm → Prop} (S : Sim N Rel) (C : CX (wL Z a b) Z (lE tW (GA G)) G cL_law RL 9 (some .boolean) (fun o _ => o = some 1) 45) (hm : (Gc G).maxLocals = 4) (hX : va_X q L xs (Gs G) (Gs G).heap) (hbl : q < (Gs G).heap.size) (hbA : ¬ GA G q) (hL : L ≤ 2048) {i cs : Nat} {xD xM : Xx} (hi : i + 4 ≤ L) (hR : Rel xD.2.2 xM.2.2) (hk : cs + kp xD.2.2 ≤ 45) (k : ∀ (cs : Nat) (xD xM : Xx), Rel xD.2.2 xM.2.2 → cs + kp xD.2.2 ≤ 45 → V (wL Z a b) Z G cs 806 [some (.ref q), some (.ref (a 0)), some (.ref (b 0)), some (.int (nI i))] [] (xD, xM)) : V (wL Z a b) Z G cs 307 [some (.ref q), some (.ref (a 0)), some (.ref (b 0)), some (.int (nI i))] [] (xD, xM) := by
  refine V_aload1 C (pc := 307) dL_law_307 ?_
  refine V_aload0 C (pc := 308) dL_law_308 ?_
  refine V_iload3 C (pc := 309) dL_law_309 ?_
  refine V_iconst C (pc := 310) (v := (1 : Int32)) (by decide) dL_law_310 ?_
  refine V_iaddE C (pc := 311) (nI_1 i) dL_law_311 ?_
  refine V_sld C (pc := 312) hX hbl hbA hL (by omega) dL_law_312 ?_
  refine V_aload0 C (pc := 313) dL_law_313 ?_
  refine V_iload3 C (pc := 314) dL_law_314 ?_
  refine V_iconst C (pc := 315) (v := (2 : Int32)) (by decide) dL_law_315 ?_
  refine V_iaddE C (pc := 316) (nI_2 i) dL_law_316 ?_
  refine V_sld C (pc := 317) hX hbl hbA hL (by omega) dL_law_317 ?_
  refine V_aload0 C (pc := 318) dL_law_318 ?_
  refine V_iload3 C (pc := 319) dL_law_319 ?_
  refine V_iconst C (pc := 320) (v := (3 : Int32)) (by decide) dL_law_320 ?_
  refine V_iaddE C (pc := 321) (nI_3 i) dL_law_321 ?_
  refine V_sld C (pc := 322) hX hbl hbA hL (by omega) dL_law_322 ?_
  obtain ⟨r, hd, hmm⟩ := S.2.2.2.2.2.1 (xs (i + 1)) (xs (i + 2)) (xs (i + 3)) _ _ hR
  refine V_lD C (pc := 323) (dep2 := 1) (cs2 := 0) (As := [.int (xs (i + 1)), .int (xs (i + 2)), .int (xs (i + 3))]) (rest := []) (c_X6_named hd) lb_X6_named lk_RL_35 wm_n.1 (fun H locs U h1 h2 h3 h4 => wm_n.2 _ U h4 C.E.1) (by decide) (by omega) rfl rfl rfl (Nat.le_of_ble_eq_true rfl) dL_law_323 (fun r9 x9 h9 => ?_)
  obtain ⟨e1, e2⟩ := h9; cases e1
  refine V_aload2 C (pc := 326) dL_law_326 ?_
  refine V_aload0 C (pc := 327) dL_law_327 ?_
  refine V_iload3 C (pc := 328) dL_law_328 ?_
  refine V_iconst C (pc := 329) (v := (1 : Int32)) (by decide) dL_law_329 ?_
  refine V_iaddE C (pc := 330) (nI_1 i) dL_law_330 ?_
  refine V_sld C (pc := 331) hX hbl hbA hL (by omega) dL_law_331 ?_
  refine V_aload0 C (pc := 332) dL_law_332 ?_
  refine V_iload3 C (pc := 333) dL_law_333 ?_
  refine V_iconst C (pc := 334) (v := (2 : Int32)) (by decide) dL_law_334 ?_
  refine V_iaddE C (pc := 335) (nI_2 i) dL_law_335 ?_
  refine V_sld C (pc := 336) hX hbl hbA hL (by omega) dL_law_336 ?_
  refine V_aload0 C (pc := 337) dL_law_337 ?_
  refine V_iload3 C (pc := 338) dL_law_338 ?_
  refine V_iconst C (pc := 339) (v := (3 : Int32)) (by decide) dL_law_339 ?_
  refine V_iaddE C (pc := 340) (nI_3 i) dL_law_340 ?_
  refine V_sld C (pc := 341) hX hbl hbA hL (by omega) dL_law_341 ?_
  refine V_lM C (pc := 342) (dep2 := 1) (As := [.int (xs (i + 1)), .int (xs (i + 2)), .int (xs (i + 3))]) (rest := [.int r]) (c_X7_named hmm) lb_X7_named lk_RL_38 (by decide) (by omega) rfl rfl rfl (Nat.le_of_ble_eq_true rfl) dL_law_342 (fun r8 x8 h8 => ?_)
  obtain ⟨e3, e4⟩ := h8; cases e3
  refine Vc_same C (pc := 345) (tgt := 806) dL_law_345 (by decide) ?_
  subst e2; subst e4
  exact k cs xD xM hR hk
set_option maxRecDepth 100000 in
set_option maxHeartbeats 4000000 in
theorem law_6_ring {Z : Zz} {a b : Nat → Nat} {G : Gm} {N q L tW : Nat} {xs : Nat → Int32} {Rel : Mm → Mm → Prop} (S : Sim N Rel) (C : CX (wL Z a b) Z (lE tW (GA G)) G cL_law RL 9 (some .boolean) (fun o _ => o = some 1) 45) (hm : (Gc G).maxLocals = 4) (hX : va_X q L xs (Gs G) (Gs G).heap) (hbl : q < (Gs G).heap.size) (hbA : ¬ GA G q) (hL : L ≤ 2048) {i cs : Nat} {xD xM : Xx} (hi : i + 4 ≤ L) (hR : Rel xD.2.2 xM.2.2) (hk : cs + kp xD.2.2 ≤ 45) (k : ∀ (cs : Nat) (xD xM : Xx), Rel xD.2.2 xM.2.2 → cs + kp xD.2.2 ≤ 45 → V (wL Z a b) Z G cs 806 [some (.ref q), some (.ref (a 0)), some (.ref (b 0)), some (.int (nI i))] [] (xD, xM)) : V (wL Z a b) Z G cs 350 [some (.ref q), some (.ref (a 0)), some (.ref (b 0)), some (.int (nI i))] [] (xD, xM) := by
  refine V_aload1 C (pc := 350) dL_law_350 ?_
  refine V_aload0 C (pc := 351) dL_law_351 ?_
  refine V_iload3 C (pc := 352) dL_law_352 ?_
  refine V_iconst C (pc := 353) (v := (1 : Int32)) (by decide) dL_law_353 ?_
  refine V_iaddE C (pc := 354) (nI_1 i) dL_law_354 ?_
  refine V_sld C (pc := 355) hX hbl hbA hL (by omega) dL_law_355 ?_
  obtain ⟨r, hd, hmm⟩ := S.2.2.2.2.2.2.1 (xs (i + 1)) _ _ hR
  refine V_lD C (pc := 356) (dep2 := 0) (cs2 := 0) (As := [.int (xs (i + 1))]) (rest := []) (c_X6_ring hd) lb_X6_ring lk_RL_39 wm_n.1 (fun H locs U h1 h2 h3 h4 => wm_n.2 _ U h4 C.E.1) (by decide) (by omega) rfl rfl rfl (Nat.le_of_ble_eq_true rfl) dL_law_356 (fun r9 x9 h9 => ?_)
  obtain ⟨e1, e2⟩ := h9; cases e1
  refine V_aload2 C (pc := 359) dL_law_359 ?_
  refine V_aload0 C (pc := 360) dL_law_360 ?_
  refine V_iload3 C (pc := 361) dL_law_361 ?_
  refine V_iconst C (pc := 362) (v := (1 : Int32)) (by decide) dL_law_362 ?_
  refine V_iaddE C (pc := 363) (nI_1 i) dL_law_363 ?_
  refine V_sld C (pc := 364) hX hbl hbA hL (by omega) dL_law_364 ?_
  refine V_lM C (pc := 365) (dep2 := 0) (As := [.int (xs (i + 1))]) (rest := [.int r]) (c_X7_ring hmm) lb_X7_ring lk_RL_42 (by decide) (by omega) rfl rfl rfl (Nat.le_of_ble_eq_true rfl) dL_law_365 (fun r8 x8 h8 => ?_)
  obtain ⟨e3, e4⟩ := h8; cases e3
  refine Vc_same C (pc := 368) (tgt := 806) dL_law_368 (by decide) ?_
  subst e2; subst e4
  exact k cs xD xM hR hk
set_option maxRecDepth 100000 in
set_option maxHeartbeats 4000000 in
theorem law_7_order {Z : Zz} {a b : Nat → Nat} {G : Gm} {N q L tW : Nat} {xs : Nat → Int32} {Rel : Mm → Mm → Prop} (S : Sim N Rel) (C : CX (wL Z a b) Z (lE tW (GA G)) G cL_law RL 9 (some .boolean) (fun o _ => o = some 1) 45) (hm : (Gc G).maxLocals = 4) (hX : va_X q L xs (Gs G) (Gs G).heap) (hbl : q < (Gs G).heap.size) (hbA : ¬ GA G q) (hL : L ≤ 2048) {i cs : Nat} {xD xM : Xx} (hi : i + 4 ≤ L) (hR : Rel xD.2.2 xM.2.2) (hk : cs + kp xD.2.2 ≤ 45) (k : ∀ (cs : Nat) (xD xM : Xx), Rel xD.2.2 xM.2.2 → cs + kp xD.2.2 ≤ 45 → V (wL Z a b) Z G cs 806 [some (.ref q), some (.ref (a 0)), some (.ref (b 0)), some (.int (nI i))] [] (xD, xM)) : V (wL Z a b) Z G cs 373 [some (.ref q), some (.ref (a 0)), some (.ref (b 0)), some (.int (nI i))] [] (xD, xM) := by
  refine V_aload1 C (pc := 373) dL_law_373 ?_
  refine V_aload0 C (pc := 374) dL_law_374 ?_
  refine V_iload3 C (pc := 375) dL_law_375 ?_
  refine V_iconst C (pc := 376) (v := (1 : Int32)) (by decide) dL_law_376 ?_
  refine V_iaddE C (pc := 377) (nI_1 i) dL_law_377 ?_
  refine V_sld C (pc := 378) hX hbl hbA hL (by omega) dL_law_378 ?_
  obtain ⟨r, hd, hmm⟩ := S.2.2.2.2.2.2.2.1 (xs (i + 1)) _ _ hR
  refine V_lD C (pc := 379) (dep2 := 1) (cs2 := 0) (As := [.int (xs (i + 1))]) (rest := []) (c_X6_order hd) lb_X6_order lk_RL_43 wm_n.1 (fun H locs U h1 h2 h3 h4 => wm_n.2 _ U h4 C.E.1) (by decide) (by omega) rfl rfl rfl (Nat.le_of_ble_eq_true rfl) dL_law_379 (fun r9 x9 h9 => ?_)
  obtain ⟨e1, e2⟩ := h9; cases e1
  refine V_aload2 C (pc := 382) dL_law_382 ?_
  refine V_aload0 C (pc := 383) dL_law_383 ?_
  refine V_iload3 C (pc := 384) dL_law_384 ?_
  refine V_iconst C (pc := 385) (v := (1 : Int32)) (by decide) dL_law_385 ?_
  refine V_iaddE C (pc := 386) (nI_1 i) dL_law_386 ?_
  refine V_sld C (pc := 387) hX hbl hbA hL (by omega) dL_law_387 ?_
  refine V_lM C (pc := 388) (dep2 := 1) (As := [.int (xs (i + 1))]) (rest := [.int r]) (c_X7_order hmm) lb_X7_order lk_RL_46 (by decide) (by omega) rfl rfl rfl (Nat.le_of_ble_eq_true rfl) dL_law_388 (fun r8 x8 h8 => ?_)
  obtain ⟨e3, e4⟩ := h8; cases e3
  refine Vc_same C (pc := 391) (tgt := 806) dL_law_391 (by decide) ?_
  subst e2; subst e4
  exact k cs xD xM hR hk
set_option maxRecDepth 100000 in
set_option maxHeartbeats 4000000 in
theorem law_8_goal {Z : Zz} {a b : Nat → Nat} {G : Gm} {N q L tW : Nat} {xs : Nat → Int32} {Rel : Mm → Mm → Prop} (S : Sim N Rel) (C : CX (wL Z a b) Z (lE tW (GA G)) G cL_law RL 9 (some .boolean) (fun o _ => o = some 1) 45) (hm : (Gc G).maxLocals = 4) (hX : va_X q L xs (Gs G) (Gs G).heap) (hbl : q < (Gs G).heap.size) (hbA : ¬ GA G q) (hL : L ≤ 2048) {i cs : Nat} {xD xM : Xx} (hi : i + 4 ≤ L) (hR : Rel xD.2.2 xM.2.2) (hk : cs + kp xD.2.2 ≤ 45) (k : ∀ (cs : Nat) (xD xM : Xx), Rel xD.2.2 xM.2.2 → cs + kp xD.2.2 ≤ 45 → V (wL Z a b) Z G cs 806 [some (.ref q), some (.ref (a 0)), some (.ref (b 0)), some (.int (nI i))] [] (xD, xM)) : V (wL Z a b) Z G cs 396 [some (.ref q), some (.ref (a 0)), some (.ref (b 0)), some (.int (nI i))] [] (xD, xM) := by
  refine V_aload1 C (pc := 396) dL_law_396 ?_
  refine V_aload0 C (pc := 397) dL_law_397 ?_
  refine V_iload3 C (pc := 398) dL_law_398 ?_
  refine V_iconst C (pc := 399) (v := (1 : Int32)) (by decide) dL_law_399 ?_
  refine V_iaddE C (pc := 400) (nI_1 i) dL_law_400 ?_
  refine V_sld C (pc := 401) hX hbl hbA hL (by omega) dL_law_401 ?_
  obtain ⟨r, D', M', hd, hmm, hR2, hk2⟩ := S.2.2.2.2.2.2.2.2.1 (xs (i + 1)) _ _ hR
  refine V_lD C (pc := 402) (dep2 := 2) (cs2 := 0) (As := [.int (xs (i + 1))]) (rest := []) (c_X6_goal hd) lb_X6_goal lk_RL_47 wm_n.1 (fun H locs U h1 h2 h3 h4 => wm_n.2 _ U h4 C.E.1) (by decide) (by omega) rfl rfl rfl (Nat.le_of_ble_eq_true rfl) dL_law_402 (fun r9 x9 h9 => ?_)
  obtain ⟨e1, e2⟩ := h9; cases e1
  refine V_aload2 C (pc := 405) dL_law_405 ?_
  refine V_aload0 C (pc := 406) dL_law_406 ?_
  refine V_iload3 C (pc := 407) dL_law_407 ?_
  refine V_iconst C (pc := 408) (v := (1 : Int32)) (by decide) dL_law_408 ?_
  refine V_iaddE C (pc := 409) (nI_1 i) dL_law_409 ?_
  refine V_sld C (pc := 410) hX hbl hbA hL (by omega) dL_law_410 ?_
  refine V_lM C (pc := 411) (dep2 := 1) (As := [.int (xs (i + 1))]) (rest := [.int r]) (c_X7_goal hmm) lb_X7_goal lk_RL_50 (by decide) (by omega) rfl rfl rfl (Nat.le_of_ble_eq_true rfl) dL_law_411 (fun r8 x8 h8 => ?_)
  obtain ⟨e3, e4⟩ := h8; cases e3
  refine Vc_same C (pc := 414) (tgt := 806) dL_law_414 (by decide) ?_
  rw [← e2, ← e4] at hR2
  rw [← e2] at hk2
  exact k _ x9 x8 hR2 (by omega)
set_option maxRecDepth 100000 in
set_option maxHeartbeats 4000000 in
theorem law_9_forget {Z : Zz} {a b : Nat → Nat} {G : Gm} {N q L tW : Nat} {xs : Nat → Int32} {Rel : Mm → Mm → Prop} (S : Sim N Rel) (C : CX (wL Z a b) Z (lE tW (GA G)) G cL_law RL 9 (some .boolean) (fun o _ => o = some 1) 45) (hm : (Gc G).maxLocals = 4) (hX : va_X q L xs (Gs G) (Gs G).heap) (hbl : q < (Gs G).heap.size) (hbA : ¬ GA G q) (hL : L ≤ 2048) {i cs : Nat} {xD xM : Xx} (hi : i + 4 ≤ L) (hR : Rel xD.2.2 xM.2.2) (hk : cs + kp xD.2.2 ≤ 45) (k : ∀ (cs : Nat) (xD xM : Xx), Rel xD.2.2 xM.2.2 → cs + kp xD.2.2 ≤ 45 → V (wL Z a b) Z G cs 806 [some (.ref q), some (.ref (a 0)), some (.ref (b 0)), some (.int (nI i))] [] (xD, xM)) : V (wL Z a b) Z G cs 419 [some (.ref q), some (.ref (a 0)), some (.ref (b 0)), some (.int (nI i))] [] (xD, xM) := by
  refine V_aload1 C (pc := 419) dL_law_419 ?_
  obtain ⟨r, D', M', hd, hmm, hR2, hk2⟩ := S.2.2.2.2.2.2.2.2.2.1  _ _ hR
  refine V_lD C (pc := 420) (dep2 := 2) (cs2 := 0) (As := []) (rest := []) (c_X6_forget hd) lb_X6_forget lk_RL_51 wm_n.1 (fun H locs U h1 h2 h3 h4 => wm_n.2 _ U h4 C.E.1) (by decide) (by omega) rfl rfl rfl (Nat.le_of_ble_eq_true rfl) dL_law_420 (fun r9 x9 h9 => ?_)
  obtain ⟨e1, e2⟩ := h9; cases e1
  refine V_aload2 C (pc := 423) dL_law_423 ?_
  refine V_lM C (pc := 424) (dep2 := 0) (As := []) (rest := [.int r]) (c_X7_forget hmm) lb_X7_forget lk_RL_55 (by decide) (by omega) rfl rfl rfl (Nat.le_of_ble_eq_true rfl) dL_law_424 (fun r8 x8 h8 => ?_)
  obtain ⟨e3, e4⟩ := h8; cases e3
  refine Vc_same C (pc := 427) (tgt := 806) dL_law_427 (by decide) ?_
  rw [← e2, ← e4] at hR2
  rw [← e2] at hk2
  exact k _ x9 x8 hR2 (by omega)
set_option maxRecDepth 100000 in
set_option maxHeartbeats 4000000 in
theorem law_10_together {Z : Zz} {a b : Nat → Nat} {G : Gm} {N q L tW : Nat} {xs : Nat → Int32} {Rel : Mm → Mm → Prop} (S : Sim N Rel) (C : CX (wL Z a b) Z (lE tW (GA G)) G cL_law RL 9 (some .boolean) (fun o _ => o = some 1) 45) (hm : (Gc G).maxLocals = 4) (hX : va_X q L xs (Gs G) (Gs G).heap) (hbl : q < (Gs G).heap.size) (hbA : ¬ GA G q) (hL : L ≤ 2048) {i cs : Nat} {xD xM : Xx} (hi : i + 4 ≤ L) (hR : Rel xD.2.2 xM.2.2) (hk : cs + kp xD.2.2 ≤ 45) (k : ∀ (cs : Nat) (xD xM : Xx), Rel xD.2.2 xM.2.2 → cs + kp xD.2.2 ≤ 45 → V (wL Z a b) Z G cs 806 [some (.ref q), some (.ref (a 0)), some (.ref (b 0)), some (.int (nI i))] [] (xD, xM)) : V (wL Z a b) Z G cs 432 [some (.ref q), some (.ref (a 0)), some (.ref (b 0)), some (.int (nI i))] [] (xD, xM) := by
  refine V_aload1 C (pc := 432) dL_law_432 ?_
  refine V_aload0 C (pc := 433) dL_law_433 ?_
  refine V_iload3 C (pc := 434) dL_law_434 ?_
  refine V_iconst C (pc := 435) (v := (1 : Int32)) (by decide) dL_law_435 ?_
  refine V_iaddE C (pc := 436) (nI_1 i) dL_law_436 ?_
  refine V_sld C (pc := 437) hX hbl hbA hL (by omega) dL_law_437 ?_
  refine Vi_eq C (pc := 438) (tgt := 445) dL_law_438 (by decide) (fun h7 => ?_) (fun h7 => ?_)
  · refine V_iconst C (pc := 445) (v := (0 : Int32)) (by decide) dL_law_445 ?_
    obtain ⟨r, D', M', hd, hmm, hR2, hk2⟩ := S.2.2.2.2.2.2.2.2.2.2.1 (0 : Int32) _ _ hR (by decide)
    refine V_lD C (pc := 446) (dep2 := 2) (cs2 := 0) (As := [.int (0 : Int32)]) (rest := []) (c_X6_together hd) lb_X6_together lk_RL_56 wm_n.1 (fun H locs U h1 h2 h3 h4 => wm_n.2 _ U h4 C.E.1) (by decide) (by omega) rfl rfl rfl (Nat.le_of_ble_eq_true rfl) dL_law_446 (fun r9 x9 h9 => ?_)
    obtain ⟨e1, e2⟩ := h9; cases e1
    refine V_aload2 C (pc := 449) dL_law_449 ?_
    refine V_aload0 C (pc := 450) dL_law_450 ?_
    refine V_iload3 C (pc := 451) dL_law_451 ?_
    refine V_iconst C (pc := 452) (v := (1 : Int32)) (by decide) dL_law_452 ?_
    refine V_iaddE C (pc := 453) (nI_1 i) dL_law_453 ?_
    refine V_sld C (pc := 454) hX hbl hbA hL (by omega) dL_law_454 ?_
    refine Vi_eq C (pc := 455) (tgt := 462) dL_law_455 (by decide) (fun h6 => ?_) (fun h6 => ?_)
    · refine V_iconst C (pc := 462) (v := (0 : Int32)) (by decide) dL_law_462 ?_
      refine V_lM C (pc := 463) (dep2 := 0) (As := [.int (0 : Int32)]) (rest := [.int r]) (c_X7_together hmm) lb_X7_together lk_RL_60 (by decide) (by omega) rfl rfl rfl (Nat.le_of_ble_eq_true rfl) dL_law_463 (fun r8 x8 h8 => ?_)
      obtain ⟨e3, e4⟩ := h8; cases e3
      refine Vc_same C (pc := 466) (tgt := 806) dL_law_466 (by decide) ?_
      rw [← e2, ← e4] at hR2
      rw [← e2] at hk2
      exact k _ x9 x8 hR2 (by omega)
    · exact absurd h7 h6
  · refine V_iconst C (pc := 441) (v := (1 : Int32)) (by decide) dL_law_441 ?_
    refine V_goto C (pc := 442) (tgt := 446) dL_law_442 (by decide) ?_
    obtain ⟨r, D', M', hd, hmm, hR2, hk2⟩ := S.2.2.2.2.2.2.2.2.2.2.1 (1 : Int32) _ _ hR (by decide)
    refine V_lD C (pc := 446) (dep2 := 2) (cs2 := 0) (As := [.int (1 : Int32)]) (rest := []) (c_X6_together hd) lb_X6_together lk_RL_56 wm_n.1 (fun H locs U h1 h2 h3 h4 => wm_n.2 _ U h4 C.E.1) (by decide) (by omega) rfl rfl rfl (Nat.le_of_ble_eq_true rfl) dL_law_446 (fun r9 x9 h9 => ?_)
    obtain ⟨e1, e2⟩ := h9; cases e1
    refine V_aload2 C (pc := 449) dL_law_449 ?_
    refine V_aload0 C (pc := 450) dL_law_450 ?_
    refine V_iload3 C (pc := 451) dL_law_451 ?_
    refine V_iconst C (pc := 452) (v := (1 : Int32)) (by decide) dL_law_452 ?_
    refine V_iaddE C (pc := 453) (nI_1 i) dL_law_453 ?_
    refine V_sld C (pc := 454) hX hbl hbA hL (by omega) dL_law_454 ?_
    refine Vi_eq C (pc := 455) (tgt := 462) dL_law_455 (by decide) (fun h6 => ?_) (fun h6 => ?_)
    · exact absurd h6 h7
    · refine V_iconst C (pc := 458) (v := (1 : Int32)) (by decide) dL_law_458 ?_
      refine V_goto C (pc := 459) (tgt := 463) dL_law_459 (by decide) ?_
      refine V_lM C (pc := 463) (dep2 := 0) (As := [.int (1 : Int32)]) (rest := [.int r]) (c_X7_together hmm) lb_X7_together lk_RL_60 (by decide) (by omega) rfl rfl rfl (Nat.le_of_ble_eq_true rfl) dL_law_463 (fun r8 x8 h8 => ?_)
      obtain ⟨e3, e4⟩ := h8; cases e3
      refine Vc_same C (pc := 466) (tgt := 806) dL_law_466 (by decide) ?_
      rw [← e2, ← e4] at hR2
      rw [← e2] at hk2
      exact k _ x9 x8 hR2 (by omega)
set_option maxRecDepth 100000 in
set_option maxHeartbeats 4000000 in
theorem law_11_make {Z : Zz} {a b : Nat → Nat} {G : Gm} {N q L tW : Nat} {xs : Nat → Int32} {Rel : Mm → Mm → Prop} (S : Sim N Rel) (C : CX (wL Z a b) Z (lE tW (GA G)) G cL_law RL 9 (some .boolean) (fun o _ => o = some 1) 45) (hm : (Gc G).maxLocals = 4) (hX : va_X q L xs (Gs G) (Gs G).heap) (hbl : q < (Gs G).heap.size) (hbA : ¬ GA G q) (hL : L ≤ 2048) {i cs : Nat} {xD xM : Xx} (hi : i + 4 ≤ L) (hR : Rel xD.2.2 xM.2.2) (hk : cs + kp xD.2.2 ≤ 45) (k : ∀ (cs : Nat) (xD xM : Xx), Rel xD.2.2 xM.2.2 → cs + kp xD.2.2 ≤ 45 → V (wL Z a b) Z G cs 806 [some (.ref q), some (.ref (a 0)), some (.ref (b 0)), some (.int (nI i))] [] (xD, xM)) : V (wL Z a b) Z G cs 471 [some (.ref q), some (.ref (a 0)), some (.ref (b 0)), some (.int (nI i))] [] (xD, xM) := by
  refine V_aload1 C (pc := 471) dL_law_471 ?_
  refine V_aload0 C (pc := 472) dL_law_472 ?_
  refine V_iload3 C (pc := 473) dL_law_473 ?_
  refine V_iconst C (pc := 474) (v := (1 : Int32)) (by decide) dL_law_474 ?_
  refine V_iaddE C (pc := 475) (nI_1 i) dL_law_475 ?_
  refine V_sld C (pc := 476) hX hbl hbA hL (by omega) dL_law_476 ?_
  obtain ⟨r, D', M', hd, hmm, hR2, hk2⟩ := S.2.2.2.2.2.2.2.2.2.2.2.1 (xs (i + 1)) _ _ hR
  refine V_lD C (pc := 477) (dep2 := 4) (cs2 := 0) (As := [.int (xs (i + 1))]) (rest := []) (c_X6_make hd) lb_X6_make lk_RL_61 wm_n.1 (fun H locs U h1 h2 h3 h4 => wm_n.2 _ U h4 C.E.1) (by decide) (by omega) rfl rfl rfl (Nat.le_of_ble_eq_true rfl) dL_law_477 (fun r9 x9 h9 => ?_)
  obtain ⟨e1, e2⟩ := h9; cases e1
  refine V_aload2 C (pc := 480) dL_law_480 ?_
  refine V_aload0 C (pc := 481) dL_law_481 ?_
  refine V_iload3 C (pc := 482) dL_law_482 ?_
  refine V_iconst C (pc := 483) (v := (1 : Int32)) (by decide) dL_law_483 ?_
  refine V_iaddE C (pc := 484) (nI_1 i) dL_law_484 ?_
  refine V_sld C (pc := 485) hX hbl hbA hL (by omega) dL_law_485 ?_
  refine V_lM C (pc := 486) (dep2 := 4) (As := [.int (xs (i + 1))]) (rest := [.int r]) (c_X7_make hmm) lb_X7_make lk_RL_64 (by decide) (by omega) rfl rfl rfl (Nat.le_of_ble_eq_true rfl) dL_law_486 (fun r8 x8 h8 => ?_)
  obtain ⟨e3, e4⟩ := h8; cases e3
  refine Vc_same C (pc := 489) (tgt := 806) dL_law_489 (by decide) ?_
  rw [← e2, ← e4] at hR2
  rw [← e2] at hk2
  exact k _ x9 x8 hR2 (by omega)
set_option maxRecDepth 100000 in
set_option maxHeartbeats 4000000 in
theorem law_12_why {Z : Zz} {a b : Nat → Nat} {G : Gm} {N q L tW : Nat} {xs : Nat → Int32} {Rel : Mm → Mm → Prop} (S : Sim N Rel) (C : CX (wL Z a b) Z (lE tW (GA G)) G cL_law RL 9 (some .boolean) (fun o _ => o = some 1) 45) (hm : (Gc G).maxLocals = 4) (hX : va_X q L xs (Gs G) (Gs G).heap) (hbl : q < (Gs G).heap.size) (hbA : ¬ GA G q) (hL : L ≤ 2048) {i cs : Nat} {xD xM : Xx} (hi : i + 4 ≤ L) (hR : Rel xD.2.2 xM.2.2) (hk : cs + kp xD.2.2 ≤ 45) (k : ∀ (cs : Nat) (xD xM : Xx), Rel xD.2.2 xM.2.2 → cs + kp xD.2.2 ≤ 45 → V (wL Z a b) Z G cs 806 [some (.ref q), some (.ref (a 0)), some (.ref (b 0)), some (.int (nI i))] [] (xD, xM)) : V (wL Z a b) Z G cs 494 [some (.ref q), some (.ref (a 0)), some (.ref (b 0)), some (.int (nI i))] [] (xD, xM) := by
  refine V_aload1 C (pc := 494) dL_law_494 ?_
  refine V_aload0 C (pc := 495) dL_law_495 ?_
  refine V_iload3 C (pc := 496) dL_law_496 ?_
  refine V_iconst C (pc := 497) (v := (1 : Int32)) (by decide) dL_law_497 ?_
  refine V_iaddE C (pc := 498) (nI_1 i) dL_law_498 ?_
  refine V_sld C (pc := 499) hX hbl hbA hL (by omega) dL_law_499 ?_
  obtain ⟨r, hd, hmm⟩ := S.2.2.2.2.2.2.2.2.2.2.2.2.1 (xs (i + 1)) _ _ hR
  refine V_lD C (pc := 500) (dep2 := 3) (cs2 := 0) (As := [.int (xs (i + 1))]) (rest := []) (c_X6_why hd) lb_X6_why lk_RL_65 wm_n.1 (fun H locs U h1 h2 h3 h4 => wm_n.2 _ U h4 C.E.1) (by decide) (by omega) rfl rfl rfl (Nat.le_of_ble_eq_true rfl) dL_law_500 (fun r9 x9 h9 => ?_)
  obtain ⟨e1, e2⟩ := h9; cases e1
  refine V_aload2 C (pc := 503) dL_law_503 ?_
  refine V_aload0 C (pc := 504) dL_law_504 ?_
  refine V_iload3 C (pc := 505) dL_law_505 ?_
  refine V_iconst C (pc := 506) (v := (1 : Int32)) (by decide) dL_law_506 ?_
  refine V_iaddE C (pc := 507) (nI_1 i) dL_law_507 ?_
  refine V_sld C (pc := 508) hX hbl hbA hL (by omega) dL_law_508 ?_
  refine V_lM C (pc := 509) (dep2 := 4) (As := [.int (xs (i + 1))]) (rest := [.int r]) (c_X7_why hmm) lb_X7_why lk_RL_68 (by decide) (by omega) rfl rfl rfl (Nat.le_of_ble_eq_true rfl) dL_law_509 (fun r8 x8 h8 => ?_)
  obtain ⟨e3, e4⟩ := h8; cases e3
  refine Vc_same C (pc := 512) (tgt := 806) dL_law_512 (by decide) ?_
  subst e2; subst e4
  exact k cs xD xM hR hk
set_option maxRecDepth 100000 in
set_option maxHeartbeats 4000000 in
theorem law_13_pour {Z : Zz} {a b : Nat → Nat} {G : Gm} {N q L tW : Nat} {xs : Nat → Int32} {Rel : Mm → Mm → Prop} (S : Sim N Rel) (C : CX (wL Z a b) Z (lE tW (GA G)) G cL_law RL 9 (some .boolean) (fun o _ => o = some 1) 45) (hm : (Gc G).maxLocals = 4) (hX : va_X q L xs (Gs G) (Gs G).heap) (hbl : q < (Gs G).heap.size) (hbA : ¬ GA G q) (hL : L ≤ 2048) {i cs : Nat} {xD xM : Xx} (hi : i + 4 ≤ L) (hR : Rel xD.2.2 xM.2.2) (hk : cs + kp xD.2.2 ≤ 45) (k : ∀ (cs : Nat) (xD xM : Xx), Rel xD.2.2 xM.2.2 → cs + kp xD.2.2 ≤ 45 → V (wL Z a b) Z G cs 806 [some (.ref q), some (.ref (a 0)), some (.ref (b 0)), some (.int (nI i))] [] (xD, xM)) : V (wL Z a b) Z G cs 517 [some (.ref q), some (.ref (a 0)), some (.ref (b 0)), some (.int (nI i))] [] (xD, xM) := by
  refine V_aload1 C (pc := 517) dL_law_517 ?_
  refine V_aload0 C (pc := 518) dL_law_518 ?_
  refine V_iload3 C (pc := 519) dL_law_519 ?_
  refine V_iconst C (pc := 520) (v := (1 : Int32)) (by decide) dL_law_520 ?_
  refine V_iaddE C (pc := 521) (nI_1 i) dL_law_521 ?_
  refine V_sld C (pc := 522) hX hbl hbA hL (by omega) dL_law_522 ?_
  obtain ⟨r, D', M', hd, hmm, hR2, hk2⟩ := S.2.2.2.2.2.2.2.2.2.2.2.2.2.1 (xs (i + 1)) _ _ hR
  refine V_lD C (pc := 523) (dep2 := 4) (cs2 := 0) (As := [.int (xs (i + 1))]) (rest := []) (c_X6_pour hd) lb_X6_pour lk_RL_69 wm_n.1 (fun H locs U h1 h2 h3 h4 => wm_n.2 _ U h4 C.E.1) (by decide) (by omega) rfl rfl rfl (Nat.le_of_ble_eq_true rfl) dL_law_523 (fun r9 x9 h9 => ?_)
  obtain ⟨e1, e2⟩ := h9; cases e1
  refine V_aload2 C (pc := 526) dL_law_526 ?_
  refine V_aload0 C (pc := 527) dL_law_527 ?_
  refine V_iload3 C (pc := 528) dL_law_528 ?_
  refine V_iconst C (pc := 529) (v := (1 : Int32)) (by decide) dL_law_529 ?_
  refine V_iaddE C (pc := 530) (nI_1 i) dL_law_530 ?_
  refine V_sld C (pc := 531) hX hbl hbA hL (by omega) dL_law_531 ?_
  refine V_lM C (pc := 532) (dep2 := 4) (As := [.int (xs (i + 1))]) (rest := [.int r]) (c_X7_pour hmm) lb_X7_pour lk_RL_72 (by decide) (by omega) rfl rfl rfl (Nat.le_of_ble_eq_true rfl) dL_law_532 (fun r8 x8 h8 => ?_)
  obtain ⟨e3, e4⟩ := h8; cases e3
  refine Vc_same C (pc := 535) (tgt := 806) dL_law_535 (by decide) ?_
  rw [← e2, ← e4] at hR2
  rw [← e2] at hk2
  exact k _ x9 x8 hR2 (by omega)
set_option maxRecDepth 100000 in
set_option maxHeartbeats 4000000 in
theorem law_14_undo {Z : Zz} {a b : Nat → Nat} {G : Gm} {N q L tW : Nat} {xs : Nat → Int32} {Rel : Mm → Mm → Prop} (S : Sim N Rel) (C : CX (wL Z a b) Z (lE tW (GA G)) G cL_law RL 9 (some .boolean) (fun o _ => o = some 1) 45) (hm : (Gc G).maxLocals = 4) (hX : va_X q L xs (Gs G) (Gs G).heap) (hbl : q < (Gs G).heap.size) (hbA : ¬ GA G q) (hL : L ≤ 2048) {i cs : Nat} {xD xM : Xx} (hi : i + 4 ≤ L) (hR : Rel xD.2.2 xM.2.2) (hk : cs + kp xD.2.2 ≤ 45) (k : ∀ (cs : Nat) (xD xM : Xx), Rel xD.2.2 xM.2.2 → cs + kp xD.2.2 ≤ 45 → V (wL Z a b) Z G cs 806 [some (.ref q), some (.ref (a 0)), some (.ref (b 0)), some (.int (nI i))] [] (xD, xM)) : V (wL Z a b) Z G cs 540 [some (.ref q), some (.ref (a 0)), some (.ref (b 0)), some (.int (nI i))] [] (xD, xM) := by
  refine V_aload1 C (pc := 540) dL_law_540 ?_
  obtain ⟨r, D', M', hd, hmm, hR2, hk2⟩ := S.2.2.2.2.2.2.2.2.2.2.2.2.2.2.1  _ _ hR
  refine V_lD C (pc := 541) (dep2 := 2) (cs2 := 0) (As := []) (rest := []) (c_X6_undo hd) lb_X6_undo lk_RL_73 wm_n.1 (fun H locs U h1 h2 h3 h4 => wm_n.2 _ U h4 C.E.1) (by decide) (by omega) rfl rfl rfl (Nat.le_of_ble_eq_true rfl) dL_law_541 (fun r9 x9 h9 => ?_)
  obtain ⟨e1, e2⟩ := h9; cases e1
  refine V_aload2 C (pc := 544) dL_law_544 ?_
  refine V_lM C (pc := 545) (dep2 := 0) (As := []) (rest := [.int r]) (c_X7_undo hmm) lb_X7_undo lk_RL_76 (by decide) (by omega) rfl rfl rfl (Nat.le_of_ble_eq_true rfl) dL_law_545 (fun r8 x8 h8 => ?_)
  obtain ⟨e3, e4⟩ := h8; cases e3
  refine Vc_same C (pc := 548) (tgt := 806) dL_law_548 (by decide) ?_
  rw [← e2, ← e4] at hR2
  rw [← e2] at hk2
  exact k _ x9 x8 hR2 (by omega)
set_option maxRecDepth 100000 in
set_option maxHeartbeats 4000000 in
theorem law_15_of {Z : Zz} {a b : Nat → Nat} {G : Gm} {N q L tW : Nat} {xs : Nat → Int32} {Rel : Mm → Mm → Prop} (S : Sim N Rel) (C : CX (wL Z a b) Z (lE tW (GA G)) G cL_law RL 9 (some .boolean) (fun o _ => o = some 1) 45) (hm : (Gc G).maxLocals = 4) (hX : va_X q L xs (Gs G) (Gs G).heap) (hbl : q < (Gs G).heap.size) (hbA : ¬ GA G q) (hL : L ≤ 2048) {i cs : Nat} {xD xM : Xx} (hi : i + 4 ≤ L) (hR : Rel xD.2.2 xM.2.2) (hk : cs + kp xD.2.2 ≤ 45) (k : ∀ (cs : Nat) (xD xM : Xx), Rel xD.2.2 xM.2.2 → cs + kp xD.2.2 ≤ 45 → V (wL Z a b) Z G cs 806 [some (.ref q), some (.ref (a 0)), some (.ref (b 0)), some (.int (nI i))] [] (xD, xM)) : V (wL Z a b) Z G cs 553 [some (.ref q), some (.ref (a 0)), some (.ref (b 0)), some (.int (nI i))] [] (xD, xM) := by
  refine V_aload1 C (pc := 553) dL_law_553 ?_
  refine V_aload0 C (pc := 554) dL_law_554 ?_
  refine V_iload3 C (pc := 555) dL_law_555 ?_
  refine V_iconst C (pc := 556) (v := (1 : Int32)) (by decide) dL_law_556 ?_
  refine V_iaddE C (pc := 557) (nI_1 i) dL_law_557 ?_
  refine V_sld C (pc := 558) hX hbl hbA hL (by omega) dL_law_558 ?_
  refine V_aload0 C (pc := 559) dL_law_559 ?_
  refine V_iload3 C (pc := 560) dL_law_560 ?_
  refine V_iconst C (pc := 561) (v := (2 : Int32)) (by decide) dL_law_561 ?_
  refine V_iaddE C (pc := 562) (nI_2 i) dL_law_562 ?_
  refine V_sld C (pc := 563) hX hbl hbA hL (by omega) dL_law_563 ?_
  obtain ⟨r, hd, hmm⟩ := S.2.2.2.2.2.2.2.2.2.2.2.2.2.2.2.1 (xs (i + 1)) (xs (i + 2)) _ _ hR
  refine V_lD C (pc := 564) (dep2 := 2) (cs2 := 0) (As := [.int (xs (i + 1)), .int (xs (i + 2))]) (rest := []) (c_X6_of hd) lb_X6_of lk_RL_77 fb_w (fun H locs U h1 h2 h3 h4 => wE_of C.E h1 h2 h3 h4) (by decide) (by omega) rfl rfl rfl (Nat.le_of_ble_eq_true rfl) dL_law_564 (fun r9 x9 h9 => ?_)
  obtain ⟨e1, e2⟩ := h9; cases e1
  refine V_aload2 C (pc := 567) dL_law_567 ?_
  refine V_aload0 C (pc := 568) dL_law_568 ?_
  refine V_iload3 C (pc := 569) dL_law_569 ?_
  refine V_iconst C (pc := 570) (v := (1 : Int32)) (by decide) dL_law_570 ?_
  refine V_iaddE C (pc := 571) (nI_1 i) dL_law_571 ?_
  refine V_sld C (pc := 572) hX hbl hbA hL (by omega) dL_law_572 ?_
  refine V_aload0 C (pc := 573) dL_law_573 ?_
  refine V_iload3 C (pc := 574) dL_law_574 ?_
  refine V_iconst C (pc := 575) (v := (2 : Int32)) (by decide) dL_law_575 ?_
  refine V_iaddE C (pc := 576) (nI_2 i) dL_law_576 ?_
  refine V_sld C (pc := 577) hX hbl hbA hL (by omega) dL_law_577 ?_
  refine V_lM C (pc := 578) (dep2 := 2) (As := [.int (xs (i + 1)), .int (xs (i + 2))]) (rest := [.int r]) (c_X7_of hmm) lb_X7_of lk_RL_81 (by decide) (by omega) rfl rfl rfl (Nat.le_of_ble_eq_true rfl) dL_law_578 (fun r8 x8 h8 => ?_)
  obtain ⟨e3, e4⟩ := h8; cases e3
  refine Vc_same C (pc := 581) (tgt := 806) dL_law_581 (by decide) ?_
  subst e2; subst e4
  exact k cs xD xM hR hk
set_option maxRecDepth 100000 in
set_option maxHeartbeats 4000000 in
theorem law_16_count {Z : Zz} {a b : Nat → Nat} {G : Gm} {N q L tW : Nat} {xs : Nat → Int32} {Rel : Mm → Mm → Prop} (S : Sim N Rel) (C : CX (wL Z a b) Z (lE tW (GA G)) G cL_law RL 9 (some .boolean) (fun o _ => o = some 1) 45) (hm : (Gc G).maxLocals = 4) (hX : va_X q L xs (Gs G) (Gs G).heap) (hbl : q < (Gs G).heap.size) (hbA : ¬ GA G q) (hL : L ≤ 2048) {i cs : Nat} {xD xM : Xx} (hi : i + 4 ≤ L) (hR : Rel xD.2.2 xM.2.2) (hk : cs + kp xD.2.2 ≤ 45) (k : ∀ (cs : Nat) (xD xM : Xx), Rel xD.2.2 xM.2.2 → cs + kp xD.2.2 ≤ 45 → V (wL Z a b) Z G cs 806 [some (.ref q), some (.ref (a 0)), some (.ref (b 0)), some (.int (nI i))] [] (xD, xM)) : V (wL Z a b) Z G cs 586 [some (.ref q), some (.ref (a 0)), some (.ref (b 0)), some (.int (nI i))] [] (xD, xM) := by
  refine V_aload1 C (pc := 586) dL_law_586 ?_
  refine V_aload0 C (pc := 587) dL_law_587 ?_
  refine V_iload3 C (pc := 588) dL_law_588 ?_
  refine V_iconst C (pc := 589) (v := (1 : Int32)) (by decide) dL_law_589 ?_
  refine V_iaddE C (pc := 590) (nI_1 i) dL_law_590 ?_
  refine V_sld C (pc := 591) hX hbl hbA hL (by omega) dL_law_591 ?_
  obtain ⟨r, hd, hmm⟩ := S.2.2.2.2.2.2.2.2.2.2.2.2.2.2.2.2.1 (xs (i + 1)) _ _ hR
  refine V_lD C (pc := 592) (dep2 := 4) (cs2 := 0) (As := [.int (xs (i + 1))]) (rest := []) (c_X6_count hd) lb_X6_count lk_RL_82 wm_n.1 (fun H locs U h1 h2 h3 h4 => wm_n.2 _ U h4 C.E.1) (by decide) (by omega) rfl rfl rfl (Nat.le_of_ble_eq_true rfl) dL_law_592 (fun r9 x9 h9 => ?_)
  obtain ⟨e1, e2⟩ := h9; cases e1
  refine V_aload2 C (pc := 595) dL_law_595 ?_
  refine V_aload0 C (pc := 596) dL_law_596 ?_
  refine V_iload3 C (pc := 597) dL_law_597 ?_
  refine V_iconst C (pc := 598) (v := (1 : Int32)) (by decide) dL_law_598 ?_
  refine V_iaddE C (pc := 599) (nI_1 i) dL_law_599 ?_
  refine V_sld C (pc := 600) hX hbl hbA hL (by omega) dL_law_600 ?_
  refine V_lM C (pc := 601) (dep2 := 4) (As := [.int (xs (i + 1))]) (rest := [.int r]) (c_X7_count hmm) lb_X7_count lk_RL_85 (by decide) (by omega) rfl rfl rfl (Nat.le_of_ble_eq_true rfl) dL_law_601 (fun r8 x8 h8 => ?_)
  obtain ⟨e3, e4⟩ := h8; cases e3
  refine Vc_same C (pc := 604) (tgt := 806) dL_law_604 (by decide) ?_
  subst e2; subst e4
  exact k cs xD xM hR hk
set_option maxRecDepth 100000 in
set_option maxHeartbeats 4000000 in
theorem law_17_least {Z : Zz} {a b : Nat → Nat} {G : Gm} {N q L tW : Nat} {xs : Nat → Int32} {Rel : Mm → Mm → Prop} (S : Sim N Rel) (C : CX (wL Z a b) Z (lE tW (GA G)) G cL_law RL 9 (some .boolean) (fun o _ => o = some 1) 45) (hm : (Gc G).maxLocals = 4) (hX : va_X q L xs (Gs G) (Gs G).heap) (hbl : q < (Gs G).heap.size) (hbA : ¬ GA G q) (hL : L ≤ 2048) {i cs : Nat} {xD xM : Xx} (hi : i + 4 ≤ L) (hR : Rel xD.2.2 xM.2.2) (hk : cs + kp xD.2.2 ≤ 45) (k : ∀ (cs : Nat) (xD xM : Xx), Rel xD.2.2 xM.2.2 → cs + kp xD.2.2 ≤ 45 → V (wL Z a b) Z G cs 806 [some (.ref q), some (.ref (a 0)), some (.ref (b 0)), some (.int (nI i))] [] (xD, xM)) : V (wL Z a b) Z G cs 609 [some (.ref q), some (.ref (a 0)), some (.ref (b 0)), some (.int (nI i))] [] (xD, xM) := by
  have hka : kap xD.2.2 ≤ kp xD.2.2 := by unfold kap kp; split <;> split <;> first | omega | (rename_i h5 h6; exact absurd h5.1 h6)
  refine V_aload1 C (pc := 609) dL_law_609 ?_
  obtain ⟨r, D', M', hd, hmm, hR2, hk2⟩ := S.2.2.2.2.2.2.2.2.2.2.2.2.2.2.2.2.2.1  _ _ hR
  refine V_lD C (pc := 610) (dep2 := 7) (cs2 := kap xD.2.2) (As := []) (rest := []) (c_X6_least (fun _ _ => S.2.2.2.2.2.2.2.2.2.2.2.2.2.2.2.2.2.2.2.2.2.2.2.2.2.2.1 _ _ _ _ hR) (S.2.2.2.2.2.2.2.2.2.2.2.2.2.2.2.2.2.2.2.2.2.2.2.2.2.2.2) hd) lb_X6_least lk_RL_86 wm_n.1 (fun H locs U h1 h2 h3 h4 => wm_n.2 _ U h4 C.E.1) (by decide) (by omega) rfl rfl rfl (Nat.le_of_ble_eq_true rfl) dL_law_610 (fun r9 x9 h9 => ?_)
  obtain ⟨e1, e2⟩ := h9; cases e1
  refine V_aload2 C (pc := 613) dL_law_613 ?_
  refine V_lM C (pc := 614) (dep2 := 6) (As := []) (rest := [.int r]) (c_X7_least hmm) lb_X7_least lk_RL_89 (by decide) (by omega) rfl rfl rfl (Nat.le_of_ble_eq_true rfl) dL_law_614 (fun r8 x8 h8 => ?_)
  obtain ⟨e3, e4⟩ := h8; cases e3
  refine Vc_same C (pc := 617) (tgt := 806) dL_law_617 (by decide) ?_
  rw [← e2, ← e4] at hR2
  rw [← e2] at hk2
  exact k _ x9 x8 hR2 (by omega)
set_option maxRecDepth 100000 in
set_option maxHeartbeats 4000000 in
theorem law_18_fewest {Z : Zz} {a b : Nat → Nat} {G : Gm} {N q L tW : Nat} {xs : Nat → Int32} {Rel : Mm → Mm → Prop} (S : Sim N Rel) (C : CX (wL Z a b) Z (lE tW (GA G)) G cL_law RL 9 (some .boolean) (fun o _ => o = some 1) 45) (hm : (Gc G).maxLocals = 4) (hX : va_X q L xs (Gs G) (Gs G).heap) (hbl : q < (Gs G).heap.size) (hbA : ¬ GA G q) (hL : L ≤ 2048) {i cs : Nat} {xD xM : Xx} (hi : i + 4 ≤ L) (hR : Rel xD.2.2 xM.2.2) (hk : cs + kp xD.2.2 ≤ 45) (k : ∀ (cs : Nat) (xD xM : Xx), Rel xD.2.2 xM.2.2 → cs + kp xD.2.2 ≤ 45 → V (wL Z a b) Z G cs 806 [some (.ref q), some (.ref (a 0)), some (.ref (b 0)), some (.int (nI i))] [] (xD, xM)) : V (wL Z a b) Z G cs 622 [some (.ref q), some (.ref (a 0)), some (.ref (b 0)), some (.int (nI i))] [] (xD, xM) := by
  have hka : kap xD.2.2 ≤ kp xD.2.2 := by unfold kap kp; split <;> split <;> first | omega | (rename_i h5 h6; exact absurd h5.1 h6)
  refine V_aload1 C (pc := 622) dL_law_622 ?_
  refine V_aload0 C (pc := 623) dL_law_623 ?_
  refine V_iload3 C (pc := 624) dL_law_624 ?_
  refine V_iconst C (pc := 625) (v := (1 : Int32)) (by decide) dL_law_625 ?_
  refine V_iaddE C (pc := 626) (nI_1 i) dL_law_626 ?_
  refine V_sld C (pc := 627) hX hbl hbA hL (by omega) dL_law_627 ?_
  obtain ⟨r, D', M', hd, hmm, hR2, hk2⟩ := S.2.2.2.2.2.2.2.2.2.2.2.2.2.2.2.2.2.2.1 (xs (i + 1)) _ _ hR
  obtain ⟨K, hct, hk2⟩ : ∃ K, CtI (wD Z a) Z nE yX6_fewest cX6_fewest 2 (some .int) 7 K (.ref (a 0) :: [.int (xs (i + 1))]) xD (PqW r D') ∧ K + kp D' ≤ kp xD.2.2 := by
    rcases hk2 with ⟨h, h'⟩ | h
    · exact ⟨0, c0_X6_fewest h hd, h'⟩
    · exact ⟨_, c_X6_fewest hd, h⟩
  have hK : K ≤ kp xD.2.2 := by omega
  refine V_lD C (pc := 628) (dep2 := 7) (cs2 := K) (As := [.int (xs (i + 1))]) (rest := []) hct lb_X6_fewest lk_RL_90 wm_n.1 (fun H locs U h1 h2 h3 h4 => wm_n.2 _ U h4 C.E.1) (by decide) (by omega) rfl rfl rfl (Nat.le_of_ble_eq_true rfl) dL_law_628 (fun r9 x9 h9 => ?_)
  obtain ⟨e1, e2⟩ := h9; cases e1
  refine V_aload2 C (pc := 631) dL_law_631 ?_
  refine V_aload0 C (pc := 632) dL_law_632 ?_
  refine V_iload3 C (pc := 633) dL_law_633 ?_
  refine V_iconst C (pc := 634) (v := (1 : Int32)) (by decide) dL_law_634 ?_
  refine V_iaddE C (pc := 635) (nI_1 i) dL_law_635 ?_
  refine V_sld C (pc := 636) hX hbl hbA hL (by omega) dL_law_636 ?_
  refine V_lM C (pc := 637) (dep2 := 6) (As := [.int (xs (i + 1))]) (rest := [.int r]) (c_X7_fewest hmm) lb_X7_fewest lk_RL_93 (by decide) (by omega) rfl rfl rfl (Nat.le_of_ble_eq_true rfl) dL_law_637 (fun r8 x8 h8 => ?_)
  obtain ⟨e3, e4⟩ := h8; cases e3
  refine Vc_same C (pc := 640) (tgt := 806) dL_law_640 (by decide) ?_
  rw [← e2, ← e4] at hR2
  rw [← e2] at hk2
  exact k _ x9 x8 hR2 (by omega)
set_option maxRecDepth 100000 in
set_option maxHeartbeats 4000000 in
theorem law_19_plan {Z : Zz} {a b : Nat → Nat} {G : Gm} {N q L tW : Nat} {xs : Nat → Int32} {Rel : Mm → Mm → Prop} (S : Sim N Rel) (C : CX (wL Z a b) Z (lE tW (GA G)) G cL_law RL 9 (some .boolean) (fun o _ => o = some 1) 45) (hm : (Gc G).maxLocals = 4) (hX : va_X q L xs (Gs G) (Gs G).heap) (hbl : q < (Gs G).heap.size) (hbA : ¬ GA G q) (hL : L ≤ 2048) {i cs : Nat} {xD xM : Xx} (hi : i + 4 ≤ L) (hR : Rel xD.2.2 xM.2.2) (hk : cs + kp xD.2.2 ≤ 45) (k : ∀ (cs : Nat) (xD xM : Xx), Rel xD.2.2 xM.2.2 → cs + kp xD.2.2 ≤ 45 → V (wL Z a b) Z G cs 806 [some (.ref q), some (.ref (a 0)), some (.ref (b 0)), some (.int (nI i))] [] (xD, xM)) : V (wL Z a b) Z G cs 645 [some (.ref q), some (.ref (a 0)), some (.ref (b 0)), some (.int (nI i))] [] (xD, xM) := by
  have hka : kap xD.2.2 ≤ kp xD.2.2 := by unfold kap kp; split <;> split <;> first | omega | (rename_i h5 h6; exact absurd h5.1 h6)
  refine V_aload1 C (pc := 645) dL_law_645 ?_
  refine V_aload0 C (pc := 646) dL_law_646 ?_
  refine V_iload3 C (pc := 647) dL_law_647 ?_
  refine V_iconst C (pc := 648) (v := (1 : Int32)) (by decide) dL_law_648 ?_
  refine V_iaddE C (pc := 649) (nI_1 i) dL_law_649 ?_
  refine V_sld C (pc := 650) hX hbl hbA hL (by omega) dL_law_650 ?_
  refine V_aload0 C (pc := 651) dL_law_651 ?_
  refine V_iload3 C (pc := 652) dL_law_652 ?_
  refine V_iconst C (pc := 653) (v := (2 : Int32)) (by decide) dL_law_653 ?_
  refine V_iaddE C (pc := 654) (nI_2 i) dL_law_654 ?_
  refine V_sld C (pc := 655) hX hbl hbA hL (by omega) dL_law_655 ?_
  obtain ⟨r, D', M', hd, hmm, hR2, hk2⟩ := S.2.2.2.2.2.2.2.2.2.2.2.2.2.2.2.2.2.2.2.1 (xs (i + 1)) (xs (i + 2)) _ _ hR
  obtain ⟨K, hct, hk2⟩ : ∃ K, CtI (wD Z a) Z nE yX6_plan cX6_plan 4 (some .int) 7 K (.ref (a 0) :: [.int (xs (i + 1)), .int (xs (i + 2))]) xD (PqW r D') ∧ K + kp D' ≤ kp xD.2.2 := by
    rcases hk2 with ⟨h, h'⟩ | h
    · exact ⟨0, c0_X6_plan h hd, h'⟩
    · exact ⟨_, c_X6_plan hd, h⟩
  have hK : K ≤ kp xD.2.2 := by omega
  refine V_lD C (pc := 656) (dep2 := 7) (cs2 := K) (As := [.int (xs (i + 1)), .int (xs (i + 2))]) (rest := []) hct lb_X6_plan lk_RL_94 wm_n.1 (fun H locs U h1 h2 h3 h4 => wm_n.2 _ U h4 C.E.1) (by decide) (by omega) rfl rfl rfl (Nat.le_of_ble_eq_true rfl) dL_law_656 (fun r9 x9 h9 => ?_)
  obtain ⟨e1, e2⟩ := h9; cases e1
  refine V_aload2 C (pc := 659) dL_law_659 ?_
  refine V_aload0 C (pc := 660) dL_law_660 ?_
  refine V_iload3 C (pc := 661) dL_law_661 ?_
  refine V_iconst C (pc := 662) (v := (1 : Int32)) (by decide) dL_law_662 ?_
  refine V_iaddE C (pc := 663) (nI_1 i) dL_law_663 ?_
  refine V_sld C (pc := 664) hX hbl hbA hL (by omega) dL_law_664 ?_
  refine V_aload0 C (pc := 665) dL_law_665 ?_
  refine V_iload3 C (pc := 666) dL_law_666 ?_
  refine V_iconst C (pc := 667) (v := (2 : Int32)) (by decide) dL_law_667 ?_
  refine V_iaddE C (pc := 668) (nI_2 i) dL_law_668 ?_
  refine V_sld C (pc := 669) hX hbl hbA hL (by omega) dL_law_669 ?_
  refine V_lM C (pc := 670) (dep2 := 6) (As := [.int (xs (i + 1)), .int (xs (i + 2))]) (rest := [.int r]) (c_X7_plan hmm) lb_X7_plan lk_RL_97 (by decide) (by omega) rfl rfl rfl (Nat.le_of_ble_eq_true rfl) dL_law_670 (fun r8 x8 h8 => ?_)
  obtain ⟨e3, e4⟩ := h8; cases e3
  refine Vc_same C (pc := 673) (tgt := 806) dL_law_673 (by decide) ?_
  rw [← e2, ← e4] at hR2
  rw [← e2] at hk2
  exact k _ x9 x8 hR2 (by omega)
set_option maxRecDepth 100000 in
set_option maxHeartbeats 4000000 in
theorem law_20_reach {Z : Zz} {a b : Nat → Nat} {G : Gm} {N q L tW : Nat} {xs : Nat → Int32} {Rel : Mm → Mm → Prop} (S : Sim N Rel) (C : CX (wL Z a b) Z (lE tW (GA G)) G cL_law RL 9 (some .boolean) (fun o _ => o = some 1) 45) (hm : (Gc G).maxLocals = 4) (hX : va_X q L xs (Gs G) (Gs G).heap) (hbl : q < (Gs G).heap.size) (hbA : ¬ GA G q) (hL : L ≤ 2048) {i cs : Nat} {xD xM : Xx} (hi : i + 4 ≤ L) (hR : Rel xD.2.2 xM.2.2) (hk : cs + kp xD.2.2 ≤ 45) (k : ∀ (cs : Nat) (xD xM : Xx), Rel xD.2.2 xM.2.2 → cs + kp xD.2.2 ≤ 45 → V (wL Z a b) Z G cs 806 [some (.ref q), some (.ref (a 0)), some (.ref (b 0)), some (.int (nI i))] [] (xD, xM)) : V (wL Z a b) Z G cs 678 [some (.ref q), some (.ref (a 0)), some (.ref (b 0)), some (.int (nI i))] [] (xD, xM) := by
  have hka : kap xD.2.2 ≤ kp xD.2.2 := by unfold kap kp; split <;> split <;> first | omega | (rename_i h5 h6; exact absurd h5.1 h6)
  refine V_aload1 C (pc := 678) dL_law_678 ?_
  refine V_aload0 C (pc := 679) dL_law_679 ?_
  refine V_iload3 C (pc := 680) dL_law_680 ?_
  refine V_iconst C (pc := 681) (v := (1 : Int32)) (by decide) dL_law_681 ?_
  refine V_iaddE C (pc := 682) (nI_1 i) dL_law_682 ?_
  refine V_sld C (pc := 683) hX hbl hbA hL (by omega) dL_law_683 ?_
  obtain ⟨r, D', M', hd, hmm, hR2, hk2⟩ := S.2.2.2.2.2.2.2.2.2.2.2.2.2.2.2.2.2.2.2.2.1 (xs (i + 1)) _ _ hR
  obtain ⟨K, hct, hk2⟩ : ∃ K, CtI (wD Z a) Z nE yX6_reach cX6_reach 2 (some .int) 6 K (.ref (a 0) :: [.int (xs (i + 1))]) xD (PqW r D') ∧ K + kp D' ≤ kp xD.2.2 := by
    rcases hk2 with ⟨h, h'⟩ | h
    · exact ⟨0, c0_X6_reach h hd, h'⟩
    · exact ⟨_, c_X6_reach hd, h⟩
  have hK : K ≤ kp xD.2.2 := by omega
  refine V_lD C (pc := 684) (dep2 := 6) (cs2 := K) (As := [.int (xs (i + 1))]) (rest := []) hct lb_X6_reach lk_RL_98 wm_n.1 (fun H locs U h1 h2 h3 h4 => wm_n.2 _ U h4 C.E.1) (by decide) (by omega) rfl rfl rfl (Nat.le_of_ble_eq_true rfl) dL_law_684 (fun r9 x9 h9 => ?_)
  obtain ⟨e1, e2⟩ := h9; cases e1
  refine V_aload2 C (pc := 687) dL_law_687 ?_
  refine V_aload0 C (pc := 688) dL_law_688 ?_
  refine V_iload3 C (pc := 689) dL_law_689 ?_
  refine V_iconst C (pc := 690) (v := (1 : Int32)) (by decide) dL_law_690 ?_
  refine V_iaddE C (pc := 691) (nI_1 i) dL_law_691 ?_
  refine V_sld C (pc := 692) hX hbl hbA hL (by omega) dL_law_692 ?_
  refine V_lM C (pc := 693) (dep2 := 6) (As := [.int (xs (i + 1))]) (rest := [.int r]) (c_X7_reach hmm) lb_X7_reach lk_RL_101 (by decide) (by omega) rfl rfl rfl (Nat.le_of_ble_eq_true rfl) dL_law_693 (fun r8 x8 h8 => ?_)
  obtain ⟨e3, e4⟩ := h8; cases e3
  refine Vc_same C (pc := 696) (tgt := 806) dL_law_696 (by decide) ?_
  rw [← e2, ← e4] at hR2
  rw [← e2] at hk2
  exact k _ x9 x8 hR2 (by omega)
set_option maxRecDepth 100000 in
set_option maxHeartbeats 4000000 in
theorem law_21_row {Z : Zz} {a b : Nat → Nat} {G : Gm} {N q L tW : Nat} {xs : Nat → Int32} {Rel : Mm → Mm → Prop} (S : Sim N Rel) (C : CX (wL Z a b) Z (lE tW (GA G)) G cL_law RL 9 (some .boolean) (fun o _ => o = some 1) 45) (hm : (Gc G).maxLocals = 4) (hX : va_X q L xs (Gs G) (Gs G).heap) (hbl : q < (Gs G).heap.size) (hbA : ¬ GA G q) (hL : L ≤ 2048) {i cs : Nat} {xD xM : Xx} (hi : i + 4 ≤ L) (hR : Rel xD.2.2 xM.2.2) (hk : cs + kp xD.2.2 ≤ 45) (k : ∀ (cs : Nat) (xD xM : Xx), Rel xD.2.2 xM.2.2 → cs + kp xD.2.2 ≤ 45 → V (wL Z a b) Z G cs 806 [some (.ref q), some (.ref (a 0)), some (.ref (b 0)), some (.int (nI i))] [] (xD, xM)) : V (wL Z a b) Z G cs 701 [some (.ref q), some (.ref (a 0)), some (.ref (b 0)), some (.int (nI i))] [] (xD, xM) := by
  have hka : kap xD.2.2 ≤ kp xD.2.2 := by unfold kap kp; split <;> split <;> first | omega | (rename_i h5 h6; exact absurd h5.1 h6)
  refine V_aload1 C (pc := 701) dL_law_701 ?_
  refine V_aload0 C (pc := 702) dL_law_702 ?_
  refine V_iload3 C (pc := 703) dL_law_703 ?_
  refine V_iconst C (pc := 704) (v := (1 : Int32)) (by decide) dL_law_704 ?_
  refine V_iaddE C (pc := 705) (nI_1 i) dL_law_705 ?_
  refine V_sld C (pc := 706) hX hbl hbA hL (by omega) dL_law_706 ?_
  obtain ⟨r, D', M', hd, hmm, hR2, hk2⟩ := S.2.2.2.2.2.2.2.2.2.2.2.2.2.2.2.2.2.2.2.2.2.1 (xs (i + 1)) _ _ hR
  obtain ⟨K, hct, hk2⟩ : ∃ K, CtI (wD Z a) Z nE yX6_row cX6_row 2 (some .int) 6 K (.ref (a 0) :: [.int (xs (i + 1))]) xD (PqW r D') ∧ K + kp D' ≤ kp xD.2.2 := by
    rcases hk2 with ⟨h, h'⟩ | h
    · exact ⟨0, c0_X6_row h hd, h'⟩
    · exact ⟨_, c_X6_row hd, h⟩
  have hK : K ≤ kp xD.2.2 := by omega
  refine V_lD C (pc := 707) (dep2 := 6) (cs2 := K) (As := [.int (xs (i + 1))]) (rest := []) hct lb_X6_row lk_RL_102 wm_n.1 (fun H locs U h1 h2 h3 h4 => wm_n.2 _ U h4 C.E.1) (by decide) (by omega) rfl rfl rfl (Nat.le_of_ble_eq_true rfl) dL_law_707 (fun r9 x9 h9 => ?_)
  obtain ⟨e1, e2⟩ := h9; cases e1
  refine V_aload2 C (pc := 710) dL_law_710 ?_
  refine V_aload0 C (pc := 711) dL_law_711 ?_
  refine V_iload3 C (pc := 712) dL_law_712 ?_
  refine V_iconst C (pc := 713) (v := (1 : Int32)) (by decide) dL_law_713 ?_
  refine V_iaddE C (pc := 714) (nI_1 i) dL_law_714 ?_
  refine V_sld C (pc := 715) hX hbl hbA hL (by omega) dL_law_715 ?_
  refine V_lM C (pc := 716) (dep2 := 6) (As := [.int (xs (i + 1))]) (rest := [.int r]) (c_X7_row hmm) lb_X7_row lk_RL_105 (by decide) (by omega) rfl rfl rfl (Nat.le_of_ble_eq_true rfl) dL_law_716 (fun r8 x8 h8 => ?_)
  obtain ⟨e3, e4⟩ := h8; cases e3
  refine Vc_same C (pc := 719) (tgt := 806) dL_law_719 (by decide) ?_
  rw [← e2, ← e4] at hR2
  rw [← e2] at hk2
  exact k _ x9 x8 hR2 (by omega)
set_option maxRecDepth 100000 in
set_option maxHeartbeats 4000000 in
theorem law_22_bit {Z : Zz} {a b : Nat → Nat} {G : Gm} {N q L tW : Nat} {xs : Nat → Int32} {Rel : Mm → Mm → Prop} (S : Sim N Rel) (C : CX (wL Z a b) Z (lE tW (GA G)) G cL_law RL 9 (some .boolean) (fun o _ => o = some 1) 45) (hm : (Gc G).maxLocals = 4) (hX : va_X q L xs (Gs G) (Gs G).heap) (hbl : q < (Gs G).heap.size) (hbA : ¬ GA G q) (hL : L ≤ 2048) {i cs : Nat} {xD xM : Xx} (hi : i + 4 ≤ L) (hR : Rel xD.2.2 xM.2.2) (hk : cs + kp xD.2.2 ≤ 45) (k : ∀ (cs : Nat) (xD xM : Xx), Rel xD.2.2 xM.2.2 → cs + kp xD.2.2 ≤ 45 → V (wL Z a b) Z G cs 806 [some (.ref q), some (.ref (a 0)), some (.ref (b 0)), some (.int (nI i))] [] (xD, xM)) : V (wL Z a b) Z G cs 724 [some (.ref q), some (.ref (a 0)), some (.ref (b 0)), some (.int (nI i))] [] (xD, xM) := by
  refine V_aload1 C (pc := 724) dL_law_724 ?_
  refine V_aload0 C (pc := 725) dL_law_725 ?_
  refine V_iload3 C (pc := 726) dL_law_726 ?_
  refine V_iconst C (pc := 727) (v := (1 : Int32)) (by decide) dL_law_727 ?_
  refine V_iaddE C (pc := 728) (nI_1 i) dL_law_728 ?_
  refine V_sld C (pc := 729) hX hbl hbA hL (by omega) dL_law_729 ?_
  obtain ⟨r, hd, hmm⟩ := S.2.2.2.2.2.2.2.2.2.2.2.2.2.2.2.2.2.2.2.2.2.2.1 (xs (i + 1)) _ _ hR
  refine V_lD C (pc := 730) (dep2 := 1) (cs2 := 0) (As := [.int (xs (i + 1))]) (rest := []) (c_X6_bit hd) lb_X6_bit lk_RL_106 wm_n.1 (fun H locs U h1 h2 h3 h4 => wm_n.2 _ U h4 C.E.1) (by decide) (by omega) rfl rfl rfl (Nat.le_of_ble_eq_true rfl) dL_law_730 (fun r9 x9 h9 => ?_)
  obtain ⟨e1, e2⟩ := h9; cases e1
  refine V_aload2 C (pc := 733) dL_law_733 ?_
  refine V_aload0 C (pc := 734) dL_law_734 ?_
  refine V_iload3 C (pc := 735) dL_law_735 ?_
  refine V_iconst C (pc := 736) (v := (1 : Int32)) (by decide) dL_law_736 ?_
  refine V_iaddE C (pc := 737) (nI_1 i) dL_law_737 ?_
  refine V_sld C (pc := 738) hX hbl hbA hL (by omega) dL_law_738 ?_
  refine V_lM C (pc := 739) (dep2 := 0) (As := [.int (xs (i + 1))]) (rest := [.int r]) (c_X7_bit hmm) lb_X7_bit lk_RL_109 (by decide) (by omega) rfl rfl rfl (Nat.le_of_ble_eq_true rfl) dL_law_739 (fun r8 x8 h8 => ?_)
  obtain ⟨e3, e4⟩ := h8; cases e3
  refine Vc_same C (pc := 742) (tgt := 806) dL_law_742 (by decide) ?_
  subst e2; subst e4
  exact k cs xD xM hR hk
set_option maxRecDepth 100000 in
set_option maxHeartbeats 4000000 in
theorem law_23_flip {Z : Zz} {a b : Nat → Nat} {G : Gm} {N q L tW : Nat} {xs : Nat → Int32} {Rel : Mm → Mm → Prop} (S : Sim N Rel) (C : CX (wL Z a b) Z (lE tW (GA G)) G cL_law RL 9 (some .boolean) (fun o _ => o = some 1) 45) (hm : (Gc G).maxLocals = 4) (hX : va_X q L xs (Gs G) (Gs G).heap) (hbl : q < (Gs G).heap.size) (hbA : ¬ GA G q) (hL : L ≤ 2048) {i cs : Nat} {xD xM : Xx} (hi : i + 4 ≤ L) (hR : Rel xD.2.2 xM.2.2) (hk : cs + kp xD.2.2 ≤ 45) (k : ∀ (cs : Nat) (xD xM : Xx), Rel xD.2.2 xM.2.2 → cs + kp xD.2.2 ≤ 45 → V (wL Z a b) Z G cs 806 [some (.ref q), some (.ref (a 0)), some (.ref (b 0)), some (.int (nI i))] [] (xD, xM)) : V (wL Z a b) Z G cs 747 [some (.ref q), some (.ref (a 0)), some (.ref (b 0)), some (.int (nI i))] [] (xD, xM) := by
  refine V_aload1 C (pc := 747) dL_law_747 ?_
  refine V_aload0 C (pc := 748) dL_law_748 ?_
  refine V_iload3 C (pc := 749) dL_law_749 ?_
  refine V_iconst C (pc := 750) (v := (1 : Int32)) (by decide) dL_law_750 ?_
  refine V_iaddE C (pc := 751) (nI_1 i) dL_law_751 ?_
  refine V_sld C (pc := 752) hX hbl hbA hL (by omega) dL_law_752 ?_
  obtain ⟨r, D', M', hd, hmm, hR2, hk2⟩ := S.2.2.2.2.2.2.2.2.2.2.2.2.2.2.2.2.2.2.2.2.2.2.2.1 (xs (i + 1)) _ _ hR
  refine V_lD C (pc := 753) (dep2 := 1) (cs2 := 0) (As := [.int (xs (i + 1))]) (rest := []) (c_X6_flip hd) lb_X6_flip lk_RL_110 wm_n.1 (fun H locs U h1 h2 h3 h4 => wm_n.2 _ U h4 C.E.1) (by decide) (by omega) rfl rfl rfl (Nat.le_of_ble_eq_true rfl) dL_law_753 (fun r9 x9 h9 => ?_)
  obtain ⟨e1, e2⟩ := h9; cases e1
  refine V_aload2 C (pc := 756) dL_law_756 ?_
  refine V_aload0 C (pc := 757) dL_law_757 ?_
  refine V_iload3 C (pc := 758) dL_law_758 ?_
  refine V_iconst C (pc := 759) (v := (1 : Int32)) (by decide) dL_law_759 ?_
  refine V_iaddE C (pc := 760) (nI_1 i) dL_law_760 ?_
  refine V_sld C (pc := 761) hX hbl hbA hL (by omega) dL_law_761 ?_
  refine V_lM C (pc := 762) (dep2 := 0) (As := [.int (xs (i + 1))]) (rest := [.int r]) (c_X7_flip hmm) lb_X7_flip lk_RL_113 (by decide) (by omega) rfl rfl rfl (Nat.le_of_ble_eq_true rfl) dL_law_762 (fun r8 x8 h8 => ?_)
  obtain ⟨e3, e4⟩ := h8; cases e3
  refine Vc_same C (pc := 765) (tgt := 806) dL_law_765 (by decide) ?_
  rw [← e2, ← e4] at hR2
  rw [← e2] at hk2
  exact k _ x9 x8 hR2 (by omega)
set_option maxRecDepth 100000 in
set_option maxHeartbeats 4000000 in
theorem law_24_check {Z : Zz} {a b : Nat → Nat} {G : Gm} {N q L tW : Nat} {xs : Nat → Int32} {Rel : Mm → Mm → Prop} (S : Sim N Rel) (C : CX (wL Z a b) Z (lE tW (GA G)) G cL_law RL 9 (some .boolean) (fun o _ => o = some 1) 45) (hm : (Gc G).maxLocals = 4) (hX : va_X q L xs (Gs G) (Gs G).heap) (hbl : q < (Gs G).heap.size) (hbA : ¬ GA G q) (hL : L ≤ 2048) {i cs : Nat} {xD xM : Xx} (hi : i + 4 ≤ L) (hR : Rel xD.2.2 xM.2.2) (hk : cs + kp xD.2.2 ≤ 45) (k : ∀ (cs : Nat) (xD xM : Xx), Rel xD.2.2 xM.2.2 → cs + kp xD.2.2 ≤ 45 → V (wL Z a b) Z G cs 806 [some (.ref q), some (.ref (a 0)), some (.ref (b 0)), some (.int (nI i))] [] (xD, xM)) : V (wL Z a b) Z G cs 770 [some (.ref q), some (.ref (a 0)), some (.ref (b 0)), some (.int (nI i))] [] (xD, xM) := by
  refine V_aload1 C (pc := 770) dL_law_770 ?_
  refine V_aload0 C (pc := 771) dL_law_771 ?_
  refine V_iload3 C (pc := 772) dL_law_772 ?_
  refine V_iconst C (pc := 773) (v := (1 : Int32)) (by decide) dL_law_773 ?_
  refine V_iaddE C (pc := 774) (nI_1 i) dL_law_774 ?_
  refine V_sld C (pc := 775) hX hbl hbA hL (by omega) dL_law_775 ?_
  obtain ⟨r, D', M', hd, hmm, hR2, hk2⟩ := S.2.2.2.2.2.2.2.2.2.2.2.2.2.2.2.2.2.2.2.2.2.2.2.2.1 (xs (i + 1)) _ _ hR
  refine V_lD C (pc := 776) (dep2 := 6) (cs2 := 0) (As := [.int (xs (i + 1))]) (rest := []) (c_X6_check hd) lb_X6_check lk_RL_114 wm_n.1 (fun H locs U h1 h2 h3 h4 => wm_n.2 _ U h4 C.E.1) (by decide) (by omega) rfl rfl rfl (Nat.le_of_ble_eq_true rfl) dL_law_776 (fun r9 x9 h9 => ?_)
  obtain ⟨e1, e2⟩ := h9; cases e1
  refine V_aload2 C (pc := 779) dL_law_779 ?_
  refine V_aload0 C (pc := 780) dL_law_780 ?_
  refine V_iload3 C (pc := 781) dL_law_781 ?_
  refine V_iconst C (pc := 782) (v := (1 : Int32)) (by decide) dL_law_782 ?_
  refine V_iaddE C (pc := 783) (nI_1 i) dL_law_783 ?_
  refine V_sld C (pc := 784) hX hbl hbA hL (by omega) dL_law_784 ?_
  refine V_lM C (pc := 785) (dep2 := 7) (As := [.int (xs (i + 1))]) (rest := [.int r]) (c_X7_check hmm) lb_X7_check lk_RL_117 (by decide) (by omega) rfl rfl rfl (Nat.le_of_ble_eq_true rfl) dL_law_785 (fun r8 x8 h8 => ?_)
  obtain ⟨e3, e4⟩ := h8; cases e3
  refine Vc_same C (pc := 788) (tgt := 806) dL_law_788 (by decide) ?_
  rw [← e2, ← e4] at hR2
  rw [← e2] at hk2
  exact k _ x9 x8 hR2 (by omega)
set_option maxRecDepth 100000 in
set_option maxHeartbeats 4000000 in
theorem law_25_where {Z : Zz} {a b : Nat → Nat} {G : Gm} {N q L tW : Nat} {xs : Nat → Int32} {Rel : Mm → Mm → Prop} (S : Sim N Rel) (C : CX (wL Z a b) Z (lE tW (GA G)) G cL_law RL 9 (some .boolean) (fun o _ => o = some 1) 45) (hm : (Gc G).maxLocals = 4) (hX : va_X q L xs (Gs G) (Gs G).heap) (hbl : q < (Gs G).heap.size) (hbA : ¬ GA G q) (hL : L ≤ 2048) {i cs : Nat} {xD xM : Xx} (hi : i + 4 ≤ L) (hR : Rel xD.2.2 xM.2.2) (hk : cs + kp xD.2.2 ≤ 45) (k : ∀ (cs : Nat) (xD xM : Xx), Rel xD.2.2 xM.2.2 → cs + kp xD.2.2 ≤ 45 → V (wL Z a b) Z G cs 806 [some (.ref q), some (.ref (a 0)), some (.ref (b 0)), some (.int (nI i))] [] (xD, xM)) : V (wL Z a b) Z G cs 793 [some (.ref q), some (.ref (a 0)), some (.ref (b 0)), some (.int (nI i))] [] (xD, xM) := by
  refine V_aload1 C (pc := 793) dL_law_793 ?_
  obtain ⟨r, hd, hmm⟩ := S.2.2.2.2.2.2.2.2.2.2.2.2.2.2.2.2.2.2.2.2.2.2.2.2.2.1  _ _ hR
  refine V_lD C (pc := 794) (dep2 := 0) (cs2 := 0) (As := []) (rest := []) (c_X6_where hd) lb_X6_where lk_RL_118 wm_n.1 (fun H locs U h1 h2 h3 h4 => wm_n.2 _ U h4 C.E.1) (by decide) (by omega) rfl rfl rfl (Nat.le_of_ble_eq_true rfl) dL_law_794 (fun r9 x9 h9 => ?_)
  obtain ⟨e1, e2⟩ := h9; cases e1
  refine V_aload2 C (pc := 797) dL_law_797 ?_
  refine V_lM C (pc := 798) (dep2 := 0) (As := []) (rest := [.int r]) (c_X7_where hmm) lb_X7_where lk_RL_121 (by decide) (by omega) rfl rfl rfl (Nat.le_of_ble_eq_true rfl) dL_law_798 (fun r8 x8 h8 => ?_)
  obtain ⟨e3, e4⟩ := h8; cases e3
  refine Vc_same C (pc := 801) (tgt := 806) dL_law_801 (by decide) ?_
  subst e2; subst e4
  exact k cs xD xM hR hk
theorem law_out {L i : Nat} (hL : L ≤ 2048) (h : L < i + 4) (hi : i ≤ L + 4) : nI L - 4 < nI i := by
  rw [Int32.lt_iff_toInt_lt, Int32.toInt_sub, nI_toInt (by omega), nI_toInt (by omega), show (4 : Int32).toInt = 4 from rfl]
  rw [Int.bmod_eq_of_le (by omega) (by omega)]
  omega
set_option maxRecDepth 100000 in
set_option maxHeartbeats 4000000 in
theorem law_loop {Z : Zz} {a b : Nat → Nat} {G : Gm} {N q L tW : Nat} {xs : Nat → Int32} {Rel : Mm → Mm → Prop} (S : Sim N Rel) (C : CX (wL Z a b) Z (lE tW (GA G)) G cL_law RL 9 (some .boolean) (fun o _ => o = some 1) 45) (hm : (Gc G).maxLocals = 4) (hX : va_X q L xs (Gs G) (Gs G).heap) (hbl : q < (Gs G).heap.size) (hbA : ¬ GA G q) (hL : L ≤ 2048) : ∀ (n i cs : Nat) (xD xM : Xx), i ≤ L + 4 → L + 1 ≤ i + 4 * n → Rel xD.2.2 xM.2.2 → cs + kp xD.2.2 ≤ 45 → V (wL Z a b) Z G cs 18 [some (.ref q), some (.ref (a 0)), some (.ref (b 0)), some (.int (nI i))] [] (xD, xM) := by
  intro n
  induction n with
  | zero =>
    intro i cs xD xM hi0 hi hR hk
    refine V_iload3 C (pc := 18) dL_law_18 ?_
    refine V_aload0 C (pc := 19) dL_law_19 ?_
    refine V_slen C (pc := 20) hX hbl hbA dL_law_20 ?_
    refine V_iconst C (pc := 21) (v := (4 : Int32)) (by decide) dL_law_21 ?_
    refine V_isub C (pc := 22) dL_law_22 ?_
    refine Vc_gt C (pc := 23) (tgt := 812) dL_law_23 (by decide) (fun _ => ?_) (fun h => ?_)
    · refine V_iconst C (pc := 812) (v := (1 : Int32)) (by decide) dL_law_812 ?_
      exact V_zret C (pc := 813) rfl (by omega) (Or.inr rfl) dL_law_813 rfl
    · exact absurd (law_out hL (by omega) (by omega)) h
  | succ n ih =>
    intro i cs xD xM hi0 hi hR hk
    refine V_iload3 C (pc := 18) dL_law_18 ?_
    refine V_aload0 C (pc := 19) dL_law_19 ?_
    refine V_slen C (pc := 20) hX hbl hbA dL_law_20 ?_
    refine V_iconst C (pc := 21) (v := (4 : Int32)) (by decide) dL_law_21 ?_
    refine V_isub C (pc := 22) dL_law_22 ?_
    refine Vc_gt C (pc := 23) (tgt := 812) dL_law_23 (by decide) (fun _ => ?_) (fun h => ?_)
    · refine V_iconst C (pc := 812) (v := (1 : Int32)) (by decide) dL_law_812 ?_
      exact V_zret C (pc := 813) rfl (by omega) (Or.inr rfl) dL_law_813 rfl
    · have hi4 : i + 4 ≤ L := by
        refine Nat.le_of_not_lt (fun q => h (law_out hL (by omega) hi0))
      have k : ∀ (cs : Nat) (xD xM : Xx), Rel xD.2.2 xM.2.2 → cs + kp xD.2.2 ≤ 45 → V (wL Z a b) Z G cs 806 [some (.ref q), some (.ref (a 0)), some (.ref (b 0)), some (.int (nI i))] [] (xD, xM) := by
        intro cs xD xM hR hk
        refine V_iinc3 C (pc := 806) (c1 := (4 : Int32)) dL_law_806 (by decide) (by rw [hm]; decide) ?_
        refine V_goto C (pc := 809) (tgt := 18) dL_law_809 (by decide) ?_
        rw [nI_4]
        exact ih (i + 4) cs xD xM (by omega) (by omega) hR hk
      refine V_aload0 C (pc := 26) dL_law_26 ?_
      refine V_iload3 C (pc := 27) dL_law_27 ?_
      refine V_sld C (pc := 28) hX hbl hbA hL (by omega) dL_law_28 ?_
      refine V_bipush C (pc := 29) (v := (31 : Int32)) (by decide) dL_law_29 ?_
      refine V_iand C (pc := 31) dL_law_31 ?_
      refine V_tsP C (pc := 32) (t0 := 152) (t1 := 175) (t2 := 198) (t3 := 241) (t4 := 264) (t5 := 307) (t6 := 350) (t7 := 373) (t8 := 396) (t9 := 419) (t10 := 432) (t11 := 471) (t12 := 494) (t13 := 517) (t14 := 540) (t15 := 553) (t16 := 586) (t17 := 609) (t18 := 622) (t19 := 645) (t20 := 678) (t21 := 701) (t22 := 724) (t23 := 747) (t24 := 770) (t25 := 793) (td := 806) dL_law_32 (by decide) (by decide) (by decide) (by decide) (by decide) (by decide) (by decide) (by decide) (by decide) (by decide) (by decide) (by decide) (by decide) (by decide) (by decide) (by decide) (by decide) (by decide) (by decide) (by decide) (by decide) (by decide) (by decide) (by decide) (by decide) (by decide) (by decide) (law_0_vats S C hm hX hbl hbA hL hi4 hR hk k) (law_1_bath S C hm hX hbl hbA hL hi4 hR hk k) (law_2_recipe S C hm hX hbl hbA hL hi4 hR hk k) (law_3_lose S C hm hX hbl hbA hL hi4 hR hk k) (law_4_need S C hm hX hbl hbA hL hi4 hR hk k) (law_5_named S C hm hX hbl hbA hL hi4 hR hk k) (law_6_ring S C hm hX hbl hbA hL hi4 hR hk k) (law_7_order S C hm hX hbl hbA hL hi4 hR hk k) (law_8_goal S C hm hX hbl hbA hL hi4 hR hk k) (law_9_forget S C hm hX hbl hbA hL hi4 hR hk k) (law_10_together S C hm hX hbl hbA hL hi4 hR hk k) (law_11_make S C hm hX hbl hbA hL hi4 hR hk k) (law_12_why S C hm hX hbl hbA hL hi4 hR hk k) (law_13_pour S C hm hX hbl hbA hL hi4 hR hk k) (law_14_undo S C hm hX hbl hbA hL hi4 hR hk k) (law_15_of S C hm hX hbl hbA hL hi4 hR hk k) (law_16_count S C hm hX hbl hbA hL hi4 hR hk k) (law_17_least S C hm hX hbl hbA hL hi4 hR hk k) (law_18_fewest S C hm hX hbl hbA hL hi4 hR hk k) (law_19_plan S C hm hX hbl hbA hL hi4 hR hk k) (law_20_reach S C hm hX hbl hbA hL hi4 hR hk k) (law_21_row S C hm hX hbl hbA hL hi4 hR hk k) (law_22_bit S C hm hX hbl hbA hL hi4 hR hk k) (law_23_flip S C hm hX hbl hbA hL hi4 hR hk k) (law_24_check S C hm hX hbl hbA hL hi4 hR hk k) (law_25_where S C hm hX hbl hbA hL hi4 hR hk k) (k cs xD xM hR hk)
