/-! a small machine over the kit's rows: memory Mm, the judgement V, the contracts CtI and CtV -/
abbrev Mm : Type := (Nat → Int32) × (Nat → Nat → Int32) × Nat
def gI (M : Mm) (k : Nat) : Int32 := M.1 k
def gA (M : Mm) (j : Nat) (i : Int32) : Int32 := M.2.1 j i.toNatClampNeg
def gL (M : Mm) : Nat := M.2.2
def sI (M : Mm) (k : Nat) (v : Int32) : Mm := (va_up M.1 k v, M.2)
def sA (M : Mm) (j : Nat) (i v : Int32) : Mm := (M.1, va_up M.2.1 j (upd (M.2.1 j) i.toNatClampNeg v), M.2.2)
def fl (f : Nat → Int32) (n : Nat) (v : Int32) : Nat → Int32 := fun j => if j < n then v else f j
def sF (M : Mm) (j n : Nat) (v : Int32) : Mm := (M.1, va_up M.2.1 j (fl (M.2.1 j) n v), M.2.2)
abbrev inb (i : Int32) (n : Nat) : Prop := ¬ (i < 0 ∨ n ≤ i.toNatClampNeg)
abbrev isB (v : Int32) : Prop := v = 0 ∨ v = 1
def bd {α β : Type} (o : Option α) (k : α → Option β) : Option β := match o with
  | none => none
  | some a => k a
/-! locals -/
def lvh (ls : Array Slot) (n : Nat) (lv : List (Option Value)) : Prop := ls.size = n ∧ lv_wf ls ∧ ∀ (i : Nat) (v : Value), lv[i]? = some (some v) → ls[i]? = some (.val v) ∧ v.category = 1
def lva (lv : List (Option Value)) : List (Nat × Value) := (List.range lv.length).filterMap (fun i => match lv[i]? with
  | some (some v) => some (i, v)
  | _ => none)
theorem lva_mem {lv : List (Option Value)} {i : Nat} {v : Value} (h : lv[i]? = some (some v)) : (i, v) ∈ lva lv := by
  refine List.mem_filterMap.mpr ⟨i, List.mem_range.mpr (List.getElem?_eq_some_iff.mp h).1, ?_⟩
  rw [h]
theorem lva_of {lv : List (Option Value)} {q : Nat × Value} (h : q ∈ lva lv) : lv[q.1]? = some (some q.2) := by
  obtain ⟨i, -, h2⟩ := List.mem_filterMap.mp h
  split at h2
  · next v hv =>
    cases h2
    exact hv
  · cases h2
theorem lvh.has {ls : Array Slot} {n : Nat} {lv : List (Option Value)} (h : lvh ls n lv) : lv_has ls n (lva lv) := ⟨h.1, h.2.1, fun q hq => (h.2.2 q.1 q.2 (lva_of hq)).1⟩
theorem lvh.set {ls ls' : Array Slot} {n i : Nat} {w : Value} {lv : List (Option Value)} (h : lvh ls n lv) (hw : w.category = 1) (h' : lv_has ls' n ((i, w) :: (lva lv).filter (fun q => !(q.1 == i) && !(q.1 + 1 == i && q.2.category == 2)))) : lvh ls' n (lv.set i (some w)) := by
  refine ⟨h'.1, h'.2.1, fun j v hj => ?_⟩
  by_cases hji : j = i
  · subst hji
    rw [List.getElem?_set] at hj
    simp only [if_true] at hj
    split at hj
    · cases hj
      exact ⟨h'.2.2 _ List.mem_cons_self, hw⟩
    · cases hj
  · rw [List.getElem?_set_ne (fun e => hji e.symm)] at hj
    have hc := (h.2.2 j v hj).2
    refine ⟨h'.2.2 (j, v) (List.mem_cons_of_mem _ (List.mem_filter.mpr ⟨lva_mem hj, ?_⟩)), hc⟩
    simp [hji, hc]
theorem lvh.mono {ls : Array Slot} {n : Nat} {lv lv' : List (Option Value)} (h : lvh ls n lv) (hm : ∀ (i : Nat) (v : Value), lv'[i]? = some (some v) → lv[i]? = some (some v)) : lvh ls n lv' := ⟨h.1, h.2.1, fun i v hi => h.2.2 i v (hm i v hi)⟩
/-- some of the locals forgotten -/
def lvw : List Bool → List (Option Value) → List (Option Value)
  | [], _ => []
  | _, [] => []
  | b :: bs, o :: os => (if b = true then o else none) :: lvw bs os
theorem lvw_le : ∀ (bs : List Bool) (lv : List (Option Value)) (i : Nat) (v : Value), (lvw bs lv)[i]? = some (some v) → lv[i]? = some (some v)
  | [], _, i, v, h => by simp [lvw] at h
  | b :: bs, [], i, v, h => by simp [lvw] at h
  | b :: bs, o :: os, 0, v, h => by
    cases b
    · simp [lvw] at h
    · simpa [lvw] using h
  | b :: bs, o :: os, i + 1, v, h => by
    have h1 : (lvw bs os)[i]? = some (some v) := by simpa [lvw] using h
    simpa using lvw_le bs os i v h1
theorem lv_args_mem : ∀ (av : List Value) (k i : Nat) (v : Value), (∀ w ∈ av, w.category = 1) → av[i]? = some v → (k + i, v) ∈ lv_args k av
  | [], _, i, v, _, h => by simp at h
  | w :: ws, k, 0, v, hc, h => by
    simp at h
    subst h
    simp [lv_args]
  | w :: ws, k, i + 1, v, hc, h => by
    have h1 : ws[i]? = some v := by simpa using h
    have hw : w.category = 1 := hc w List.mem_cons_self
    have h2 := lv_args_mem ws (k + 1) i v (fun u hu => hc u (List.mem_cons_of_mem _ hu)) h1
    refine List.mem_cons_of_mem _ ?_
    rw [if_neg (by rw [hw]; decide)]
    rw [show k + (i + 1) = k + 1 + i by omega]
    exact h2
/-! what is the same for all: the launch, the classes' numbers, the array classes -/
abbrev Zz : Type := Launch × va_G × ClassId × ClassId × ClassId
abbrev Zl (Z : Zz) : Launch := Z.1
abbrev ZD (Z : Zz) : va_G := Z.2.1
abbrev ZI (Z : Zz) : ClassId := Z.2.2.1
abbrev ZB (Z : Zz) : ClassId := Z.2.2.2.1
abbrev ZZ (Z : Zz) : ClassId := Z.2.2.2.2
abbrev Zt (Z : Zz) : List (ClassId × FieldType) := [(ZI Z, .int), (ZB Z, .byte), (ZZ Z, .boolean)]
/-! what is the same in one method's run -/
abbrev Gm : Type := Program × Env × Room × State × MethodId × Array Value × List Frame × Method × Code × (State → Prop) × (Nat → Prop)
abbrev Gp (G : Gm) : Program := G.1
abbrev Ge (G : Gm) : Env := G.2.1
abbrev GR (G : Gm) : Room := G.2.2.1
abbrev Gs (G : Gm) : State := G.2.2.2.1
abbrev Gi (G : Gm) : MethodId := G.2.2.2.2.1
abbrev Ga (G : Gm) : Array Value := G.2.2.2.2.2.1
abbrev Gb (G : Gm) : List Frame := G.2.2.2.2.2.2.1
abbrev Gme (G : Gm) : Method := G.2.2.2.2.2.2.2.1
abbrev Gc (G : Gm) : Code := G.2.2.2.2.2.2.2.2.1
abbrev GQ (G : Gm) : State → Prop := G.2.2.2.2.2.2.2.2.2.1
abbrev GA (G : Gm) : Nat → Prop := G.2.2.2.2.2.2.2.2.2.2
/-- the machine at pc, with these locals, this stack, the world of x: it comes to the end -/
def V {X : Type} (wf : X → va_W) (Z : Zz) (G : Gm) (cs pc : Nat) (lv : List (Option Value)) (st : List Value) (x : X) : Prop :=
  ∀ (H : Heap) (locs : List Loc) (ls : Array Slot), lvh ls (Gc G).maxLocals lv → va_P (ZD Z) vwCl (wf x) H → va_D (GA G) (wf x) → va_S (GA G) (Gs G).heap H locs →
    W (Gp G) (Zl Z) (Ge G) (GR G) (Gs G) (Gi G) (Ga G) (Gb G) (Gme G) (Gc G) H locs (2 * cs) (81920 * cs) (GQ G) (F0 (Gi G) pc ls st)
/-- a word of the tables that says what a return does -/
def RT {X : Type} (wf : X → va_W) (Z : Zz) (G : Gm) (cc : ByteArray) (ret : Option FieldType) (Pq : Option Int32 → X → Prop) (csF : Nat) : Prop :=
  (ret = some .int → ∀ (pc : Nat) (r : Int32) (x : X) (H : Heap) (locs : List Loc) (ls : Array Slot), decode cc pc = .ok (.ireturn, 1) → Pq (some r) x → va_P (ZD Z) vwCl (wf x) H → va_D (GA G) (wf x) → va_S (GA G) (Gs G).heap H locs →
    W (Gp G) (Zl Z) (Ge G) (GR G) (Gs G) (Gi G) (Ga G) (Gb G) (Gme G) (Gc G) H locs (2 * csF) (81920 * csF) (GQ G) (F0 (Gi G) pc ls [.int r])) ∧
  (ret = some .boolean → ∀ (pc : Nat) (r : Int32) (x : X) (H : Heap) (locs : List Loc) (ls : Array Slot), decode cc pc = .ok (.ireturn, 1) → isB r → Pq (some r) x → va_P (ZD Z) vwCl (wf x) H → va_D (GA G) (wf x) → va_S (GA G) (Gs G).heap H locs →
    W (Gp G) (Zl Z) (Ge G) (GR G) (Gs G) (Gi G) (Ga G) (Gb G) (Gme G) (Gc G) H locs (2 * csF) (81920 * csF) (GQ G) (F0 (Gi G) pc ls [.int r])) ∧
  (ret = none → ∀ (pc : Nat) (x : X) (H : Heap) (locs : List Loc) (ls : Array Slot), decode cc pc = .ok (.return_, 1) → Pq none x → va_P (ZD Z) vwCl (wf x) H → va_D (GA G) (wf x) → va_S (GA G) (Gs G).heap H locs →
    W (Gp G) (Zl Z) (Ge G) (GR G) (Gs G) (Gi G) (Ga G) (Gb G) (Gme G) (Gc G) H locs (2 * csF) (81920 * csF) (GQ G) (F0 (Gi G) pc ls []))
/-- what a method's walk may use -/
def CX {X : Type} (wf : X → va_W) (Z : Zz) (E : State → Prop) (G : Gm) (cc : ByteArray) (own : String) (dep : Nat) (ret : Option FieldType) (Pq : Option Int32 → X → Prop) (csF : Nat) : Prop :=
  (Gp G).tables.exec = Jvm.exec ∧ (Gc G).code = cc ∧ (Gs G).vm.findClass own = some (Gi G).cls ∧ (∀ w ∈ ux, w.before (Ga G) (Gs G) = true) ∧ va_K (ZD Z) vwCl (Zt Z) (Gs G) ∧ (∀ q, (Gs G).heap.size ≤ q → GA G q) ∧
  (dep ≤ (GR G).frames ∧ 40 * dep ≤ (GR G).locals ∧ 2 * csF ≤ (GR G).cells ∧ 81920 * csF ≤ (GR G).slots) ∧ E (Gs G) ∧ RT wf Z G cc ret Pq csF
section CXp
variable {X : Type} {wf : X → va_W} {Z : Zz} {Ev : State → Prop} {G : Gm} {cc : ByteArray} {ow : String} {dep : Nat} {ret : Option FieldType} {Pq : Option Int32 → X → Prop} {csF : Nat}
theorem CX.exec (C : CX wf Z Ev G cc ow dep ret Pq csF) : (Gp G).tables.exec = Jvm.exec := C.1
theorem CX.bytes (C : CX wf Z Ev G cc ow dep ret Pq csF) : (Gc G).code = cc := C.2.1
theorem CX.own (C : CX wf Z Ev G cc ow dep ret Pq csF) : (Gs G).vm.findClass ow = some (Gi G).cls := C.2.2.1
theorem CX.hts (C : CX wf Z Ev G cc ow dep ret Pq csF) : ∀ w ∈ ux, w.before (Ga G) (Gs G) = true := C.2.2.2.1
theorem CX.K (C : CX wf Z Ev G cc ow dep ret Pq csF) : va_K (ZD Z) vwCl (Zt Z) (Gs G) := C.2.2.2.2.1
theorem CX.A (C : CX wf Z Ev G cc ow dep ret Pq csF) : ∀ q, (Gs G).heap.size ≤ q → GA G q := C.2.2.2.2.2.1
theorem CX.R (C : CX wf Z Ev G cc ow dep ret Pq csF) : dep ≤ (GR G).frames ∧ 40 * dep ≤ (GR G).locals ∧ 2 * csF ≤ (GR G).cells ∧ 81920 * csF ≤ (GR G).slots := C.2.2.2.2.2.2.1
theorem CX.E (C : CX wf Z Ev G cc ow dep ret Pq csF) : Ev (Gs G) := C.2.2.2.2.2.2.2.1
theorem CX.rt (C : CX wf Z Ev G cc ow dep ret Pq csF) : RT wf Z G cc ret Pq csF := C.2.2.2.2.2.2.2.2
end CXp
def Pre0 {X : Type} (wf : X → va_W) (Z : Zz) (E : State → Prop) (av : List Value) (x0 : X) (sz : Nat) : Array Value → State → Prop := va_Pc av (fun U => U.heap.size = sz ∧ va_P (ZD Z) vwCl (wf x0) U.heap ∧ va_K (ZD Z) vwCl (Zt Z) U ∧ va_D (fun _ => True) (wf x0) ∧ E U)
abbrev Bt {X : Type} (wf : X → va_W) (Z : Zz) (x0 : X) (sz : Nat) : X → State → Prop := fun x t => va_P (ZD Z) vwCl (wf x) t.heap ∧ va_K (ZD Z) vwCl (Zt Z) t ∧ va_D (va_A (wf x0) sz) (wf x)
/-- a contract with an int for an answer -/
def CtI {X : Type} (wf : X → va_W) (Z : Zz) (E : State → Prop) (y : MethodName) (cc : ByteArray) (maxL : Nat) (ret : Option FieldType) (dep csF : Nat) (av : List Value) (x0 : X) (Pq : Option Int32 → X → Prop) : Prop :=
  ∀ sz : Nat, Met (Zl Z) y (Cond.code y cc maxL ret :: ux) { frames := dep, cells := 2 * csF, slots := 81920 * csF, locals := 40 * dep } (Pre0 wf Z E av x0 sz) (va_Qi (fun r x => Pq (some r) x) (Bt wf Z x0 sz) (va_A (wf x0) sz)) (2 * csF) (81920 * csF) (va_A (wf x0) sz)
/-- a contract without an answer -/
def CtV {X : Type} (wf : X → va_W) (Z : Zz) (E : State → Prop) (y : MethodName) (cc : ByteArray) (maxL : Nat) (dep csF : Nat) (av : List Value) (x0 : X) (Pq : Option Int32 → X → Prop) : Prop :=
  ∀ sz : Nat, Met (Zl Z) y (Cond.code y cc maxL none :: ux) { frames := dep, cells := 2 * csF, slots := 81920 * csF, locals := 40 * dep } (Pre0 wf Z E av x0 sz) (va_Qv (fun x => Pq none x) (Bt wf Z x0 sz) (va_A (wf x0) sz)) (2 * csF) (81920 * csF) (va_A (wf x0) sz)
theorem entry_lvh {av : List Value} {maxL : Nat} (hav : ∀ v ∈ av, v.category = 1) (hlen : av.length ≤ maxL) : lvh ((lg_sl av ++ List.replicate (maxL - (lg_sl av).length) Slot.unset).toArray) maxL (av.map some ++ List.replicate (maxL - av.length) none) := by
  have hsl : (lg_sl av).length = av.length := by
    clear hlen
    induction av with
    | nil => rfl
    | cons v vs ih =>
      have h1 : v.category = 1 := hav v List.mem_cons_self
      have h2 := ih (fun w hw => hav w (List.mem_cons_of_mem _ hw))
      simp only [lg_sl, List.flatMap_cons, List.length_append, List.length_cons] at h2 ⊢
      rw [h2, if_neg (by rw [h1]; decide)]
      simp only [List.length_cons, List.length_nil]
      omega
  have h := lv_entry av (n := maxL) (by rw [hsl]; exact hlen)
  refine ⟨h.1, h.2.1, fun i v hi => ?_⟩
  have h1 : av[i]? = some v := by
    by_cases hl : i < av.length
    · rw [List.getElem?_append_left (by simpa using hl), List.getElem?_map] at hi
      cases hx : av[i]? with
      | none => rw [hx] at hi; cases hi
      | some w => rw [hx] at hi; exact Option.some.inj hi
    · rw [List.getElem?_append_right (by simpa using hl)] at hi
      have := List.eq_of_mem_replicate (List.mem_of_getElem? hi)
      cases this
  have h2 := lv_args_mem av 0 i v hav h1
  rw [Nat.zero_add] at h2
  exact ⟨h.2.2 (i, v) h2, hav v (List.mem_of_getElem? h1)⟩
theorem CtI_of {X : Type} {wf : X → va_W} {Z : Zz} {E : State → Prop} {y : MethodName} {cc : ByteArray} {maxL : Nat} {ret : Option FieldType} {dep csF : Nat} {av : List Value} {x0 : X} {Pq : Option Int32 → X → Prop}
    (hy : plainName y.cls = true) (hret : ret = some .int ∨ ret = some .boolean) (hav : ∀ v ∈ av, v.category = 1) (hlen : av.length ≤ maxL)
    (body : ∀ G : Gm, CX wf Z E G cc y.cls dep ret Pq csF → (Gc G).maxLocals = maxL → V wf Z G 0 0 (av.map some ++ List.replicate (maxL - av.length) none) [] x0) : CtI wf Z E y cc maxL ret dep csF av x0 Pq := by
  intro sz
  refine Met.ofW (cc := cc) (maxL := maxL) (ret := ret) hy rfl ?_
  intro p e s m args below meth c s₁ B hml hv
  obtain ⟨rfl, hsz, hP, hK, hD0, hE⟩ := hv
  subst hsz
  have hts := atoms_spec (ws := Cond.code y cc maxL ret :: ux) B.pre
  have hown : s.vm.findClass y.cls = some m.cls := findClass_of_methodNamed B.named
  have hlocks := B.notSynchronized
  have hr := B.returns
  have hD := hD0.self (sz := s.heap.size)
  have hS : va_S (va_A (wf x0) s.heap.size) s.heap s.heap [] := va_S.rf
  rw [lg_entry_eq]
  have key := body (p, e, { frames := dep, cells := 2 * csF, slots := 81920 * csF, locals := 40 * dep }, s, m, av.toArray, below, meth, c, MQ below (va_Qi (fun r x => Pq (some r) x) (Bt wf Z x0 s.heap.size) (va_A (wf x0) s.heap.size)) av.toArray s (2 * csF) (81920 * csF) (va_A (wf x0) s.heap.size), va_A (wf x0) s.heap.size)
    ⟨B.exec, B.bytes, hown, fun w hw => hts w (List.mem_cons_of_mem _ hw), hK, fun q h => Or.inr h, ⟨Nat.le_refl _, Nat.le_refl _, Nat.le_refl _, Nat.le_refl _⟩, hE, ⟨fun he pc r x H locs ls d hq hP1 hD1 hS1 => ?_, fun he pc r x H locs ls d hbr hq hP1 hD1 hS1 => ?_, fun he => ?_⟩⟩
    hml s.heap [] _ (by show lvh _ c.maxLocals _; rw [hml]; exact entry_lvh hav hlen) hP hD hS
  · exact key
  · exact W.iret (v := r) B.exec B.bytes (hr.trans he) (fun t ht hW => ⟨⟨r, x, rfl, hq, by rw [ht]; exact hP1, va_K.moved hW.alike hK, hD1⟩, hS1.F ht⟩) hS1.2.2 d hlocks
  · refine W.zret (v := r) (ty := .boolean) B.exec B.bytes (hr.trans he) (by rcases hbr with h | h <;> subst h <;> rfl) (fun t ht hW => ⟨⟨r, x, rfl, hq, by rw [ht]; exact hP1, va_K.moved hW.alike hK, hD1⟩, hS1.F ht⟩) hS1.2.2 d hlocks
  · exfalso
    rcases hret with h | h <;> rw [he] at h <;> cases h
theorem CtV_of {X : Type} {wf : X → va_W} {Z : Zz} {E : State → Prop} {y : MethodName} {cc : ByteArray} {maxL : Nat} {dep csF : Nat} {av : List Value} {x0 : X} {Pq : Option Int32 → X → Prop}
    (hy : plainName y.cls = true) (hav : ∀ v ∈ av, v.category = 1) (hlen : av.length ≤ maxL)
    (body : ∀ G : Gm, CX wf Z E G cc y.cls dep none Pq csF → (Gc G).maxLocals = maxL → V wf Z G 0 0 (av.map some ++ List.replicate (maxL - av.length) none) [] x0) : CtV wf Z E y cc maxL dep csF av x0 Pq := by
  intro sz
  refine Met.ofW (cc := cc) (maxL := maxL) (ret := none) hy rfl ?_
  intro p e s m args below meth c s₁ B hml hv
  obtain ⟨rfl, hsz, hP, hK, hD0, hE⟩ := hv
  subst hsz
  have hts := atoms_spec (ws := Cond.code y cc maxL none :: ux) B.pre
  have hown : s.vm.findClass y.cls = some m.cls := findClass_of_methodNamed B.named
  have hlocks := B.notSynchronized
  have hr := B.returns
  have hD := hD0.self (sz := s.heap.size)
  have hS : va_S (va_A (wf x0) s.heap.size) s.heap s.heap [] := va_S.rf
  rw [lg_entry_eq]
  have key := body (p, e, { frames := dep, cells := 2 * csF, slots := 81920 * csF, locals := 40 * dep }, s, m, av.toArray, below, meth, c, MQ below (va_Qv (fun x => Pq none x) (Bt wf Z x0 s.heap.size) (va_A (wf x0) s.heap.size)) av.toArray s (2 * csF) (81920 * csF) (va_A (wf x0) s.heap.size), va_A (wf x0) s.heap.size)
    ⟨B.exec, B.bytes, hown, fun w hw => hts w (List.mem_cons_of_mem _ hw), hK, fun q h => Or.inr h, ⟨Nat.le_refl _, Nat.le_refl _, Nat.le_refl _, Nat.le_refl _⟩, hE, ⟨fun he => ?_, fun he => ?_, fun he pc x H locs ls d hq hP1 hD1 hS1 => ?_⟩⟩
    hml s.heap [] _ (by show lvh _ c.maxLocals _; rw [hml]; exact entry_lvh hav hlen) hP hD hS
  · exact key
  · cases he
  · cases he
  · exact W.vret B.exec B.bytes hr (fun t ht hW => ⟨⟨x, rfl, hq, by rw [ht]; exact hP1, va_K.moved hW.alike hK, hD1⟩, hS1.F ht⟩) hS1.2.2 d hlocks
theorem CtI_ofX {X : Type} {wf : X → va_W} {Z : Zz} {E : State → Prop} {y : MethodName} {cc : ByteArray} {maxL : Nat} {ret : Option FieldType} {dep csF : Nat} {av : List Value} {x0 : X} {Pq : Option Int32 → X → Prop}
    (hy : plainName y.cls = true) (hret : ret = some .int ∨ ret = some .boolean) (hav : ∀ v ∈ av, v.category = 1) (hlen : av.length ≤ maxL)
    (body : ∀ G : Gm, CX wf Z E G cc y.cls dep ret Pq csF → (Gc G).maxLocals = maxL → (Gme G).name = y.name → GA G = va_A (wf x0) (Gs G).heap.size → V wf Z G 0 0 (av.map some ++ List.replicate (maxL - av.length) none) [] x0) : CtI wf Z E y cc maxL ret dep csF av x0 Pq := by
  intro sz
  refine Met.ofW (cc := cc) (maxL := maxL) (ret := ret) hy rfl ?_
  intro p e s m args below meth c s₁ B hml hv
  obtain ⟨rfl, hsz, hP, hK, hD0, hE⟩ := hv
  subst hsz
  have hts := atoms_spec (ws := Cond.code y cc maxL ret :: ux) B.pre
  have hown : s.vm.findClass y.cls = some m.cls := findClass_of_methodNamed B.named
  have hlocks := B.notSynchronized
  have hr := B.returns
  have hD := hD0.self (sz := s.heap.size)
  have hS : va_S (va_A (wf x0) s.heap.size) s.heap s.heap [] := va_S.rf
  rw [lg_entry_eq]
  have key := body (p, e, { frames := dep, cells := 2 * csF, slots := 81920 * csF, locals := 40 * dep }, s, m, av.toArray, below, meth, c, MQ below (va_Qi (fun r x => Pq (some r) x) (Bt wf Z x0 s.heap.size) (va_A (wf x0) s.heap.size)) av.toArray s (2 * csF) (81920 * csF) (va_A (wf x0) s.heap.size), va_A (wf x0) s.heap.size)
    ⟨B.exec, B.bytes, hown, fun w hw => hts w (List.mem_cons_of_mem _ hw), hK, fun q h => Or.inr h, ⟨Nat.le_refl _, Nat.le_refl _, Nat.le_refl _, Nat.le_refl _⟩, hE, ⟨fun he pc r x H locs ls d hq hP1 hD1 hS1 => ?_, fun he pc r x H locs ls d hbr hq hP1 hD1 hS1 => ?_, fun he => ?_⟩⟩
    hml (name_of_methodNamed B.named B.method).1 rfl s.heap [] _ (by show lvh _ c.maxLocals _; rw [hml]; exact entry_lvh hav hlen) hP hD hS
  · exact key
  · exact W.iret (v := r) B.exec B.bytes (hr.trans he) (fun t ht hW => ⟨⟨r, x, rfl, hq, by rw [ht]; exact hP1, va_K.moved hW.alike hK, hD1⟩, hS1.F ht⟩) hS1.2.2 d hlocks
  · refine W.zret (v := r) (ty := .boolean) B.exec B.bytes (hr.trans he) (by rcases hbr with h | h <;> subst h <;> rfl) (fun t ht hW => ⟨⟨r, x, rfl, hq, by rw [ht]; exact hP1, va_K.moved hW.alike hK, hD1⟩, hS1.F ht⟩) hS1.2.2 d hlocks
  · exfalso
    rcases hret with h | h <;> rw [he] at h <;> cases h
theorem CtV_ofX {X : Type} {wf : X → va_W} {Z : Zz} {E : State → Prop} {y : MethodName} {cc : ByteArray} {maxL : Nat} {dep csF : Nat} {av : List Value} {x0 : X} {Pq : Option Int32 → X → Prop}
    (hy : plainName y.cls = true) (hav : ∀ v ∈ av, v.category = 1) (hlen : av.length ≤ maxL)
    (body : ∀ G : Gm, CX wf Z E G cc y.cls dep none Pq csF → (Gc G).maxLocals = maxL → (Gme G).name = y.name → GA G = va_A (wf x0) (Gs G).heap.size → V wf Z G 0 0 (av.map some ++ List.replicate (maxL - av.length) none) [] x0) : CtV wf Z E y cc maxL dep csF av x0 Pq := by
  intro sz
  refine Met.ofW (cc := cc) (maxL := maxL) (ret := none) hy rfl ?_
  intro p e s m args below meth c s₁ B hml hv
  obtain ⟨rfl, hsz, hP, hK, hD0, hE⟩ := hv
  subst hsz
  have hts := atoms_spec (ws := Cond.code y cc maxL none :: ux) B.pre
  have hown : s.vm.findClass y.cls = some m.cls := findClass_of_methodNamed B.named
  have hlocks := B.notSynchronized
  have hr := B.returns
  have hD := hD0.self (sz := s.heap.size)
  have hS : va_S (va_A (wf x0) s.heap.size) s.heap s.heap [] := va_S.rf
  rw [lg_entry_eq]
  have key := body (p, e, { frames := dep, cells := 2 * csF, slots := 81920 * csF, locals := 40 * dep }, s, m, av.toArray, below, meth, c, MQ below (va_Qv (fun x => Pq none x) (Bt wf Z x0 s.heap.size) (va_A (wf x0) s.heap.size)) av.toArray s (2 * csF) (81920 * csF) (va_A (wf x0) s.heap.size), va_A (wf x0) s.heap.size)
    ⟨B.exec, B.bytes, hown, fun w hw => hts w (List.mem_cons_of_mem _ hw), hK, fun q h => Or.inr h, ⟨Nat.le_refl _, Nat.le_refl _, Nat.le_refl _, Nat.le_refl _⟩, hE, ⟨fun he => ?_, fun he => ?_, fun he pc x H locs ls d hq hP1 hD1 hS1 => ?_⟩⟩
    hml (name_of_methodNamed B.named B.method).1 rfl s.heap [] _ (by show lvh _ c.maxLocals _; rw [hml]; exact entry_lvh hav hlen) hP hD hS
  · exact key
  · cases he
  · cases he
  · exact W.vret B.exec B.bytes hr (fun t ht hW => ⟨⟨x, rfl, hq, by rw [ht]; exact hP1, va_K.moved hW.alike hK, hD1⟩, hS1.F ht⟩) hS1.2.2 d hlocks
