/-! calls -/
abbrev Xx : Type := Nat × Nat × Mm
def bd2 {α γ β : Type} (o : Option (α × γ)) (k : α → γ → Option β) : Option β := match o with
  | none => none
  | some (a, b) => k a b
theorem bdd2 {α γ δ : Type} {q : Option (α × γ)} {k : α → γ → Option δ} {u : δ} (hf : bd2 q k = some u) : ∃ a b, q = some (a, b) ∧ k a b = some u := by
  cases q with
  | none => cases hf
  | some a => exact ⟨a.1, a.2, rfl, hf⟩
def PqR {X : Type} (r0 : Int32) (x0 : X) : Option Int32 → X → Prop := fun o x => o = some r0 ∧ x = x0
def PqW (r0 : Int32) (M0 : Mm) : Option Int32 → Xx → Prop := fun o x => o = some r0 ∧ x.2.2 = M0
def PqV (M0 : Mm) : Option Int32 → Xx → Prop := fun o x => o = none ∧ x.2.2 = M0
def FB (E : State → Prop) : Prop := ∀ (U : State) (g : JFrame) (mk : MethodId) (a : Array Value), E U → E (U.calling g mk a)
def Wm (E1 E2 : State → Prop) : Prop := FB E2 ∧ ∀ (s U : State), s.WarmedH U.vm → E1 s → E2 U
def tE : State → Prop := fun _ => True
def nE : State → Prop := fun U => va_Nw (.methodLinkNest "DyeVats$Proof" 46 ⟨"DyeVats", "isRowBit", "(I)Z"⟩ "DyeVats") U
theorem wm_t {E : State → Prop} : Wm E tE := ⟨fun _ _ _ _ _ => trivial, fun _ _ _ _ => trivial⟩
theorem wm_n : Wm nE nE := ⟨fun _ _ _ _ h => va_Nw.same rfl rfl h, fun _ _ hW h => va_Nw.warmM hW h⟩
def LkB (y : MethodName) (bytes : ByteArray) (maxL n : Nat) (rt : Option FieldType) : Prop := Cond.initialized y.cls ∈ ux ∧ Cond.code y bytes maxL rt ∈ ux ∧ (y.cls ≠ "java/lang/invoke/MethodHandle" ∧ y.cls ≠ "java/lang/invoke/VarHandle" ∧ (parseMethodDescriptor y.desc).map (fun d => d.parameters.length) = some n) ∧ maxL ≤ 21
def LkV (ow : String) (idx : Nat) (y : MethodName) : Prop := Cond.methodLink ow idx y ∈ ux ∧ Cond.instanceMethod y ∈ ux ∧ Cond.selects y.cls y y ∈ ux
def LkS (ow : String) (idx : Nat) (y : MethodName) : Prop := Cond.methodLink ow idx y ∈ ux ∧ Cond.static y ∈ ux
section CL
variable {X X2 : Type} {wf : X → va_W} {wf2 : X2 → va_W} {Z : Zz} {Ev E2 : State → Prop} {G : Gm} {cc : ByteArray} {ow : String} {dep : Nat} {ret : Option FieldType} {Pq : Option Int32 → X → Prop} {csF cs : Nat} {x : X} {st0 rest : List Value} {lv : List (Option Value)}
variable {β : Type} {o : β}
variable {y : MethodName} {bytes : ByteArray} {maxL n dep2 cs2 idx b : Nat} {rt : Option FieldType} {As : List Value} {x2 : X2} {Pq2 : Option Int32 → X2 → Prop}
theorem CX.callB (C : CX wf Z Ev G cc ow dep ret Pq csF) (lb : LkB y bytes maxL n rt) (hl : Cond.methodLink ow idx y ∈ ux) (hd : dep2 + 1 ≤ dep) : CallB (GR G) (Gs G) (Ga G) ow idx y bytes maxL rt (Cond.code y bytes maxL rt :: ux) { frames := dep2, cells := 2 * cs2, slots := 81920 * cs2, locals := 40 * dep2 } (2 * cs2) (81920 * cs2) n := by
  obtain ⟨h1, h2, h3, h4⟩ := lb
  refine callB_of n C.hts (ux_good h2) rfl rfl rfl (C.hts _ h1) (C.hts _ hl) h3 ⟨?_, ?_⟩
  · exact Nat.le_trans hd C.R.1
  · have := C.R.2.1
    show 8 + (maxL + 11) + 40 * dep2 ≤ _
    omega
theorem CX.free (C : CX wf Z Ev G cc ow dep ret Pq csF) {H : Heap} {locs : List Loc} (hD : va_D (GA G) (wf x)) (hS : va_S (GA G) (Gs G).heap H locs) : ∀ q, va_A (wf x) H.size q → GA G q := by
  intro q h
  rcases h with ⟨k, e, h⟩ | h
  · exact hD.2 k _ h
  · exact C.A q (Nat.le_trans hS.1 h)
theorem Pre0.blind (hE : FB E2) {av : List Value} {sz : Nat} : FrameBlind (Pre0 wf2 Z E2 av x2 sz) := fun a U g mk q => by
  obtain ⟨q0, q1, qP, qK, qD, qE⟩ := q
  exact ⟨q0, q1, qP, va_K.moved (u := U) (U := U.calling g mk a) (Vm.Alike.refl U.vm) qK, qD, hE U g mk a qE⟩
theorem CX.pre (C : CX wf Z Ev G cc ow dep ret Pq csF) (hw : Wm Ev E2) (h2 : wf2 x2 = wf x) {av : List Value} {H : Heap} (hP : va_P (ZD Z) vwCl (wf x) H) (hD : va_D (GA G) (wf x)) : ∀ U : State, U.heap = H → (Gs G).WarmedH U.vm → Pre0 wf2 Z E2 av x2 H.size av.toArray U := fun U hU hW => ⟨rfl, by rw [hU], by rw [hU, h2]; exact hP, va_K.moved hW.alike C.K, by rw [h2]; exact hD.weaken (fun _ _ _ _ => trivial), hw.2 _ U hW C.E⟩
theorem CX.fit (C : CX wf Z Ev G cc ow dep ret Pq csF) (hcs : cs + cs2 ≤ csF) : 2 * cs + 2 * cs2 ≤ (GR G).cells ∧ 81920 * cs + 81920 * cs2 ≤ (GR G).slots := by
  have h1 := C.R.2.2.1
  have h2 := C.R.2.2.2
  omega
theorem V_backI (C : CX wf Z Ev G cc ow dep ret Pq csF) {pc : Nat} (h2 : wf2 x2 = wf x) {H : Heap} {locs : List Loc} {ls : Array Slot} {av : Array Value} (hl : lvh ls (Gc G).maxLocals lv) (hD : va_D (GA G) (wf x)) (hS : va_S (GA G) (Gs G).heap H locs)
    (hr : va_Run (Gp G) (Zl Z) (Ge G) (GR G) (Gs G) (Gi G) (Ga G) (Gb G) (Gme G) (Gc G) H locs (2 * cs) (81920 * cs) (2 * cs2) (81920 * cs2) (F0 (Gi G) pc ls st0) rest (va_Qi (fun r x => Pq2 (some r) x) (Bt wf2 Z x2 H.size) (va_A (wf2 x2) H.size) av) (va_A (wf2 x2) H.size))
    (k : ∀ (r : Int32) (x2' : X2), Pq2 (some r) x2' → ∃ x' : X, wf2 x2' = wf x' ∧ V wf Z G (cs + cs2) (pc + 3) lv (.int r :: rest) x') : W (Gp G) (Zl Z) (Ge G) (GR G) (Gs G) (Gi G) (Ga G) (Gb G) (Gme G) (Gc G) H locs (2 * cs) (81920 * cs) (GQ G) (F0 (Gi G) pc ls st0) := by
  have hFc := C.free hD hS
  rw [h2] at hr
  refine va_calli hr hS (fun q _ h => hFc q h) hFc (fun r u t H1 locs1 ht hvm hw hB hz1 hk1 hS1 => ?_)
  obtain ⟨hP1, hK1, hD1⟩ := hB
  rw [ht] at hP1
  obtain ⟨x', hx', hV⟩ := k r u hw
  rw [hx'] at hP1 hD1
  rw [h2] at hD1
  have e1 : 2 * cs + 2 * cs2 = 2 * (cs + cs2) := by omega
  have e2 : 81920 * cs + 81920 * cs2 = 81920 * (cs + cs2) := by omega
  rw [e1, e2]
  exact hV H1 locs1 ls hl hP1 (hD1.weaken (fun k q _ h => hFc q.1 h)) hS1
theorem V_backV (C : CX wf Z Ev G cc ow dep ret Pq csF) {pc : Nat} (h2 : wf2 x2 = wf x) {H : Heap} {locs : List Loc} {ls : Array Slot} {av : Array Value} (hl : lvh ls (Gc G).maxLocals lv) (hD : va_D (GA G) (wf x)) (hS : va_S (GA G) (Gs G).heap H locs)
    (hr : va_Run (Gp G) (Zl Z) (Ge G) (GR G) (Gs G) (Gi G) (Ga G) (Gb G) (Gme G) (Gc G) H locs (2 * cs) (81920 * cs) (2 * cs2) (81920 * cs2) (F0 (Gi G) pc ls st0) rest (va_Qv (fun x => Pq2 none x) (Bt wf2 Z x2 H.size) (va_A (wf2 x2) H.size) av) (va_A (wf2 x2) H.size))
    (k : ∀ (x2' : X2), Pq2 none x2' → ∃ x' : X, wf2 x2' = wf x' ∧ V wf Z G (cs + cs2) (pc + 3) lv rest x') : W (Gp G) (Zl Z) (Ge G) (GR G) (Gs G) (Gi G) (Ga G) (Gb G) (Gme G) (Gc G) H locs (2 * cs) (81920 * cs) (GQ G) (F0 (Gi G) pc ls st0) := by
  have hFc := C.free hD hS
  rw [h2] at hr
  refine va_callv hr hS (fun q _ h => hFc q h) hFc (fun u t H1 locs1 ht hvm hw hB hz1 hk1 hS1 => ?_)
  obtain ⟨hP1, hK1, hD1⟩ := hB
  rw [ht] at hP1
  obtain ⟨x', hx', hV⟩ := k u hw
  rw [hx'] at hP1 hD1
  rw [h2] at hD1
  have e1 : 2 * cs + 2 * cs2 = 2 * (cs + cs2) := by omega
  have e2 : 81920 * cs + 81920 * cs2 = 81920 * (cs + cs2) := by omega
  rw [e1, e2]
  exact hV H1 locs1 ls hl hP1 (hD1.weaken (fun k q _ h => hFc q.1 h)) hS1
/-- an instance method with an answer -/
theorem V_callVI (C : CX wf Z Ev G cc ow dep ret Pq csF) {pc : Nat} (hM : CtI wf2 Z E2 y bytes maxL rt dep2 cs2 (.ref b :: As) x2 Pq2) (lb : LkB y bytes maxL n rt) (lk : LkV ow idx y) (hw : Wm Ev E2) (h2 : wf2 x2 = wf x) (hd : dep2 + 1 ≤ dep) (hcs : cs + cs2 ≤ csF) (q0 ci : Nat) {fs : List Value} {T : u_T} {N : Nat} (he : (wf x)[q0]? = some (b, .inr (ci, fs))) (hc : vwCl[ci]? = some (y.cls, T, N)) (hn : As.length = n) (hst : st0 = As.reverse ++ .ref b :: rest) (hr : (rest.map fun v => v.category).sum ≤ 8) (d : decode cc pc = .ok (.invokevirtual idx, 3))
    (k : ∀ (r : Int32) (x2' : X2), Pq2 (some r) x2' → ∃ x' : X, wf2 x2' = wf x' ∧ V wf Z G (cs + cs2) (pc + 3) lv (.int r :: rest) x') : V wf Z G cs pc lv st0 x := fun H locs ls hl hP hD hS => by
  subst hst
  exact V_backI C h2 hl hD hS (va_runV (As := As) (rest := rest) (b := b) ⟨C.exec, C.bytes, rfl, C.own, C.hts⟩ (hM H.size) ⟨C.callB lb lk.1 hd, C.hts _ lk.2.1, C.hts _ lk.2.2⟩ ⟨Pre0.blind hw.1, va_recv C.K hP hc he, C.pre hw h2 hP hD⟩ rfl hn hl.1 rfl (lv_room hr) d (C.fit hcs)) k
theorem V_callVV (C : CX wf Z Ev G cc ow dep ret Pq csF) {pc : Nat} (hM : CtV wf2 Z E2 y bytes maxL dep2 cs2 (.ref b :: As) x2 Pq2) (lb : LkB y bytes maxL n none) (lk : LkV ow idx y) (hw : Wm Ev E2) (h2 : wf2 x2 = wf x) (hd : dep2 + 1 ≤ dep) (hcs : cs + cs2 ≤ csF) (q0 ci : Nat) {fs : List Value} {T : u_T} {N : Nat} (he : (wf x)[q0]? = some (b, .inr (ci, fs))) (hc : vwCl[ci]? = some (y.cls, T, N)) (hn : As.length = n) (hst : st0 = As.reverse ++ .ref b :: rest) (hr : (rest.map fun v => v.category).sum ≤ 8) (d : decode cc pc = .ok (.invokevirtual idx, 3))
    (k : ∀ (x2' : X2), Pq2 none x2' → ∃ x' : X, wf2 x2' = wf x' ∧ V wf Z G (cs + cs2) (pc + 3) lv rest x') : V wf Z G cs pc lv st0 x := fun H locs ls hl hP hD hS => by
  subst hst
  exact V_backV C h2 hl hD hS (va_runV (As := As) (rest := rest) (b := b) ⟨C.exec, C.bytes, rfl, C.own, C.hts⟩ (hM H.size) ⟨C.callB lb lk.1 hd, C.hts _ lk.2.1, C.hts _ lk.2.2⟩ ⟨Pre0.blind hw.1, va_recv C.K hP hc he, C.pre hw h2 hP hD⟩ rfl hn hl.1 rfl (lv_room hr) d (C.fit hcs)) k
/-- a static method -/
theorem V_callSI (C : CX wf Z Ev G cc ow dep ret Pq csF) {pc : Nat} (hM : CtI wf2 Z E2 y bytes maxL rt dep2 cs2 As x2 Pq2) (lb : LkB y bytes maxL n rt) (lk : LkS ow idx y) (hw : Wm Ev E2) (h2 : wf2 x2 = wf x) (hd : dep2 + 1 ≤ dep) (hcs : cs + cs2 ≤ csF) (hn : As.length = n) (hst : st0 = As.reverse ++ rest) (hr : (rest.map fun v => v.category).sum ≤ 8) (d : decode cc pc = .ok (.invokestatic idx, 3))
    (k : ∀ (r : Int32) (x2' : X2), Pq2 (some r) x2' → ∃ x' : X, wf2 x2' = wf x' ∧ V wf Z G (cs + cs2) (pc + 3) lv (.int r :: rest) x') : V wf Z G cs pc lv st0 x := fun H locs ls hl hP hD hS => by
  subst hst
  exact V_backI C h2 hl hD hS (va_runS (As := As) (rest := rest) ⟨C.exec, C.bytes, rfl, C.own, C.hts⟩ (hM H.size) ⟨C.callB lb lk.1 hd, C.hts _ lk.2⟩ ⟨Pre0.blind hw.1, C.pre hw h2 hP hD⟩ rfl hn hl.1 rfl (lv_room hr) d (C.fit hcs)) k
theorem V_callSV (C : CX wf Z Ev G cc ow dep ret Pq csF) {pc : Nat} (hM : CtV wf2 Z E2 y bytes maxL dep2 cs2 As x2 Pq2) (lb : LkB y bytes maxL n none) (lk : LkS ow idx y) (hw : Wm Ev E2) (h2 : wf2 x2 = wf x) (hd : dep2 + 1 ≤ dep) (hcs : cs + cs2 ≤ csF) (hn : As.length = n) (hst : st0 = As.reverse ++ rest) (hr : (rest.map fun v => v.category).sum ≤ 8) (d : decode cc pc = .ok (.invokestatic idx, 3))
    (k : ∀ (x2' : X2), Pq2 none x2' → ∃ x' : X, wf2 x2' = wf x' ∧ V wf Z G (cs + cs2) (pc + 3) lv rest x') : V wf Z G cs pc lv st0 x := fun H locs ls hl hP hD hS => by
  subst hst
  exact V_backV C h2 hl hD hS (va_runS (As := As) (rest := rest) ⟨C.exec, C.bytes, rfl, C.own, C.hts⟩ (hM H.size) ⟨C.callB lb lk.1 hd, C.hts _ lk.2⟩ ⟨Pre0.blind hw.1, C.pre hw h2 hP hD⟩ rfl hn hl.1 rfl (lv_room hr) d (C.fit hcs)) k
/-- a nest mate's static method -/
theorem V_callSNI (C : CX wf Z Ev G cc ow dep ret Pq csF) {pc : Nat} {host : String} (hM : CtI wf2 Z E2 y bytes maxL rt dep2 cs2 As x2 Pq2) (lb : LkB y bytes maxL n rt) (hl0 : va_Nw (.methodLinkNest ow idx y host) (Gs G)) (lk : Cond.static y ∈ ux) (hw : Wm Ev E2) (h2 : wf2 x2 = wf x) (hd : dep2 + 1 ≤ dep) (hcs : cs + cs2 ≤ csF) (hn : As.length = n) (hst : st0 = As.reverse ++ rest) (hr : (rest.map fun v => v.category).sum ≤ 8) (d : decode cc pc = .ok (.invokestatic idx, 3))
    (k : ∀ (r : Int32) (x2' : X2), Pq2 (some r) x2' → ∃ x' : X, wf2 x2' = wf x' ∧ V wf Z G (cs + cs2) (pc + 3) lv (.int r :: rest) x') : V wf Z G cs pc lv st0 x := fun H locs ls hl hP hD hS => by
  subst hst
  obtain ⟨b1, b2, b3, b4⟩ := lb
  exact V_backI C h2 hl hD hS (va_runSN (As := As) (rest := rest) ⟨C.exec, C.bytes, rfl, C.own, C.hts⟩ (hM H.size) ⟨va_cnB n C.hts (ux_good b2) rfl rfl rfl hl0 (C.hts _ b1) b3 ⟨Nat.le_trans hd C.R.1, by have := C.R.2.1; show 8 + (maxL + 11) + 40 * dep2 ≤ _; omega⟩, C.hts _ lk, trivial⟩ ⟨Pre0.blind hw.1, C.pre hw h2 hP hD⟩ rfl hn hl.1 rfl (lv_room hr) d (C.fit hcs)) k
end CL
/-! calls within one world, by what the callee's function gives -/
section CF
variable {wf : Xx → va_W} {Z : Zz} {Ev E2 : State → Prop} {G : Gm} {cc : ByteArray} {ow : String} {dep : Nat} {ret : Option FieldType} {Pq : Option Int32 → Xx → Prop} {csF cs : Nat} {c1 c2 : Nat} {M : Mm} {st0 rest : List Value} {lv : List (Option Value)}
variable {β : Type} {o : β}
variable {y : MethodName} {bytes : ByteArray} {maxL n dep2 idx b : Nat} {rt : Option FieldType} {As : List Value}
theorem V_cR (C : CX wf Z Ev G cc ow dep ret Pq csF) {pc : Nat} {q : Option Int32} {kf : Int32 → Option β} (hM : ∀ r0, q = some r0 → CtI wf Z E2 y bytes maxL rt dep2 0 (.ref b :: As) (c1, c2, M) (PqR r0 (c1, c2, M))) (lb : LkB y bytes maxL n rt) (lk : LkV ow idx y) (hw : Wm Ev E2) (hd : dep2 + 1 ≤ dep) (hcs : cs ≤ csF) (q0 ci : Nat) {fs : List Value} {T : u_T} {N : Nat} (he : (wf (c1, c2, M))[q0]? = some (b, .inr (ci, fs))) (hc : vwCl[ci]? = some (y.cls, T, N)) (hn : As.length = n) (hst : st0 = As.reverse ++ .ref b :: rest) (hr : (rest.map fun v => v.category).sum ≤ 8) (d : decode cc pc = .ok (.invokevirtual idx, 3)) (hf : bd q kf = some o)
    (k : ∀ r, kf r = some o → V wf Z G cs (pc + 3) lv (.int r :: rest) (c1, c2, M)) : V wf Z G cs pc lv st0 (c1, c2, M) := by
  obtain ⟨r0, h0, h1⟩ := bdd hf
  refine V_callVI C (hM r0 h0) lb lk hw rfl hd hcs q0 ci he hc hn hst hr d (fun r x' h => ?_)
  obtain ⟨e1, e2⟩ := h
  cases e1
  subst e2
  exact ⟨_, rfl, k r0 h1⟩
theorem V_cW (C : CX wf Z Ev G cc ow dep ret Pq csF) {pc : Nat} {q : Option (Int32 × Mm)} {kf : Int32 → Mm → Option β} (hM : ∀ r0 M0, q = some (r0, M0) → CtI wf Z E2 y bytes maxL rt dep2 0 (.ref b :: As) (c1, c2, M) (PqW r0 M0)) (lb : LkB y bytes maxL n rt) (lk : LkV ow idx y) (hw : Wm Ev E2) (hd : dep2 + 1 ≤ dep) (hcs : cs ≤ csF) (q0 ci : Nat) {fs : List Value} {T : u_T} {N : Nat} (he : (wf (c1, c2, M))[q0]? = some (b, .inr (ci, fs))) (hc : vwCl[ci]? = some (y.cls, T, N)) (hn : As.length = n) (hst : st0 = As.reverse ++ .ref b :: rest) (hr : (rest.map fun v => v.category).sum ≤ 8) (d : decode cc pc = .ok (.invokevirtual idx, 3)) (hf : bd2 q kf = some o)
    (k : ∀ r d1 d2 M', kf r M' = some o → V wf Z G cs (pc + 3) lv (.int r :: rest) (d1, d2, M')) : V wf Z G cs pc lv st0 (c1, c2, M) := by
  obtain ⟨r0, M0, h0, h1⟩ := bdd2 hf
  refine V_callVI C (hM r0 M0 h0) lb lk hw rfl hd hcs q0 ci he hc hn hst hr d (fun r x' h => ?_)
  obtain ⟨d1, d2, M'⟩ := x'
  obtain ⟨e1, e2⟩ := h
  cases e1
  cases e2
  exact ⟨_, rfl, k _ _ _ _ h1⟩
theorem V_cV (C : CX wf Z Ev G cc ow dep ret Pq csF) {pc : Nat} {q : Option Mm} {kf : Mm → Option β} (hM : ∀ M0, q = some M0 → CtV wf Z E2 y bytes maxL dep2 0 (.ref b :: As) (c1, c2, M) (PqV M0)) (lb : LkB y bytes maxL n none) (lk : LkV ow idx y) (hw : Wm Ev E2) (hd : dep2 + 1 ≤ dep) (hcs : cs ≤ csF) (q0 ci : Nat) {fs : List Value} {T : u_T} {N : Nat} (he : (wf (c1, c2, M))[q0]? = some (b, .inr (ci, fs))) (hc : vwCl[ci]? = some (y.cls, T, N)) (hn : As.length = n) (hst : st0 = As.reverse ++ .ref b :: rest) (hr : (rest.map fun v => v.category).sum ≤ 8) (d : decode cc pc = .ok (.invokevirtual idx, 3)) (hf : bd q kf = some o)
    (k : ∀ d1 d2 M', kf M' = some o → V wf Z G cs (pc + 3) lv rest (d1, d2, M')) : V wf Z G cs pc lv st0 (c1, c2, M) := by
  obtain ⟨M0, h0, h1⟩ := bdd hf
  refine V_callVV C (hM M0 h0) lb lk hw rfl hd hcs q0 ci he hc hn hst hr d (fun x' h => ?_)
  obtain ⟨d1, d2, M'⟩ := x'
  obtain ⟨e1, e2⟩ := h
  cases e2
  exact ⟨_, rfl, k _ _ _ h1⟩
/-- static ones, which know no world -/
theorem V_cS (C : CX wf Z Ev G cc ow dep ret Pq csF) {pc : Nat} {q : Option Int32} {kf : Int32 → Option β} (hM : ∀ r0, q = some r0 → CtI (fun _ : Unit => wf (c1, c2, M)) Z tE y bytes maxL rt dep2 0 As () (PqR r0 ())) (lb : LkB y bytes maxL n rt) (lk : LkS ow idx y) (hd : dep2 + 1 ≤ dep) (hcs : cs ≤ csF) (hn : As.length = n) (hst : st0 = As.reverse ++ rest) (hr : (rest.map fun v => v.category).sum ≤ 8) (d : decode cc pc = .ok (.invokestatic idx, 3)) (hf : bd q kf = some o)
    (k : ∀ r, kf r = some o → V wf Z G cs (pc + 3) lv (.int r :: rest) (c1, c2, M)) : V wf Z G cs pc lv st0 (c1, c2, M) := by
  obtain ⟨r0, h0, h1⟩ := bdd hf
  refine V_callSI C (hM r0 h0) lb lk wm_t rfl hd hcs hn hst hr d (fun r x' h => ?_)
  obtain ⟨e1, e2⟩ := h
  cases e1
  exact ⟨_, rfl, k r0 h1⟩
theorem V_cSN (C : CX wf Z nE G cc "DyeVats$Proof" dep ret Pq csF) {pc : Nat} {q : Option Int32} {kf : Int32 → Option β} (hM : ∀ r0, q = some r0 → CtI (fun _ : Unit => wf (c1, c2, M)) Z tE ⟨"DyeVats", "isRowBit", "(I)Z"⟩ bytes maxL rt dep2 0 As () (PqR r0 ())) (lb : LkB ⟨"DyeVats", "isRowBit", "(I)Z"⟩ bytes maxL n rt) (lk : Cond.static ⟨"DyeVats", "isRowBit", "(I)Z"⟩ ∈ ux) (hd : dep2 + 1 ≤ dep) (hcs : cs ≤ csF) (hn : As.length = n) (hst : st0 = As.reverse ++ rest) (hr : (rest.map fun v => v.category).sum ≤ 8) (d : decode cc pc = .ok (.invokestatic 46, 3)) (hf : bd q kf = some o)
    (k : ∀ r, kf r = some o → V wf Z G cs (pc + 3) lv (.int r :: rest) (c1, c2, M)) : V wf Z G cs pc lv st0 (c1, c2, M) := by
  obtain ⟨r0, h0, h1⟩ := bdd hf
  refine V_callSNI C (hM r0 h0) lb C.E lk wm_t rfl hd hcs hn hst hr d (fun r x' h => ?_)
  obtain ⟨e1, e2⟩ := h
  cases e1
  exact ⟨_, rfl, k r0 h1⟩
end CF
section CU
variable {wf : Unit → va_W} {Z : Zz} {Ev : State → Prop} {G : Gm} {cc : ByteArray} {ow : String} {dep : Nat} {ret : Option FieldType} {Pq : Option Int32 → Unit → Prop} {csF cs : Nat} {st0 rest : List Value} {lv : List (Option Value)}
variable {β : Type} {o : β}
variable {y : MethodName} {bytes : ByteArray} {maxL n dep2 idx : Nat} {rt : Option FieldType} {As : List Value}
theorem V_cSS (C : CX wf Z Ev G cc ow dep ret Pq csF) {pc : Nat} {q : Option Int32} {kf : Int32 → Option β} (hM : ∀ r0, q = some r0 → CtI (fun _ : Unit => wf ()) Z tE y bytes maxL rt dep2 0 As () (PqR r0 ())) (lb : LkB y bytes maxL n rt) (lk : LkS ow idx y) (hd : dep2 + 1 ≤ dep) (hcs : cs ≤ csF) (hn : As.length = n) (hst : st0 = As.reverse ++ rest) (hr : (rest.map fun v => v.category).sum ≤ 8) (d : decode cc pc = .ok (.invokestatic idx, 3)) (hf : bd q kf = some o)
    (k : ∀ r, kf r = some o → V wf Z G cs (pc + 3) lv (.int r :: rest) ()) : V wf Z G cs pc lv st0 () := by
  obtain ⟨r0, h0, h1⟩ := bdd hf
  refine V_callSI C (hM r0 h0) lb lk wm_t rfl hd hcs hn hst hr d (fun r x' h => ?_)
  obtain ⟨e1, e2⟩ := h
  cases e1
  exact ⟨_, rfl, k r0 h1⟩
end CU
