section
-- ===== PART A: goes FIRST, ahead of the names: the tables' words, and 'selects' of the private methods out of them =====
/-- a private method of a class that the tables say can be made, by its rows of tables_1 -/
def lw_okq (q : MethodName × Nat) : Prop := (q.1.cls ≠ "java/lang/invoke/MethodHandle" ∧ q.1.cls ≠ "java/lang/invoke/VarHandle") ∧ Cond.instantiable q.1.cls q.2 ∈ tables_1 ∧ Cond.privateMethod q.1 ∈ tables_1 ∧ Cond.instanceMethod q.1 ∈ tables_1
theorem lw_p0 : lw_okq (⟨"DyeVats", "anyStands", "()Z"⟩, 9) := ⟨⟨by decide +kernel, by decide +kernel⟩, List.mem_of_getElem? (i := 13) (by decide +kernel), List.mem_of_getElem? (i := 272) (by decide +kernel), List.mem_of_getElem? (i := 273) (by decide +kernel)⟩
theorem lw_p1 : lw_okq (⟨"DyeVats", "recipeChanged", "(I)V"⟩, 9) := ⟨⟨by decide +kernel, by decide +kernel⟩, List.mem_of_getElem? (i := 13) (by decide +kernel), List.mem_of_getElem? (i := 284) (by decide +kernel), List.mem_of_getElem? (i := 285) (by decide +kernel)⟩
theorem lw_p2 : lw_okq (⟨"DyeVats$RingFinder", "measure", "([II)V"⟩, 3) := ⟨⟨by decide +kernel, by decide +kernel⟩, List.mem_of_getElem? (i := 92) (by decide +kernel), List.mem_of_getElem? (i := 332) (by decide +kernel), List.mem_of_getElem? (i := 333) (by decide +kernel)⟩
theorem lw_p3 : lw_okq (⟨"DyeVats$RingFinder", "nearer", "(III)I"⟩, 3) := ⟨⟨by decide +kernel, by decide +kernel⟩, List.mem_of_getElem? (i := 92) (by decide +kernel), List.mem_of_getElem? (i := 337) (by decide +kernel), List.mem_of_getElem? (i := 338) (by decide +kernel)⟩
theorem lw_p4 : lw_okq (⟨"DyeVats", "freeVats", "()I"⟩, 9) := ⟨⟨by decide +kernel, by decide +kernel⟩, List.mem_of_getElem? (i := 13) (by decide +kernel), List.mem_of_getElem? (i := 402) (by decide +kernel), List.mem_of_getElem? (i := 403) (by decide +kernel)⟩
theorem lw_p5 : lw_okq (⟨"DyeVats$Planner", "explore", "(I)V"⟩, 9) := ⟨⟨by decide +kernel, by decide +kernel⟩, List.mem_of_getElem? (i := 130) (by decide +kernel), List.mem_of_getElem? (i := 457) (by decide +kernel), List.mem_of_getElem? (i := 458) (by decide +kernel)⟩
theorem lw_p6 : lw_okq (⟨"DyeVats$Planner", "startLine", "()V"⟩, 9) := ⟨⟨by decide +kernel, by decide +kernel⟩, List.mem_of_getElem? (i := 130) (by decide +kernel), List.mem_of_getElem? (i := 461) (by decide +kernel), List.mem_of_getElem? (i := 462) (by decide +kernel)⟩
theorem lw_p7 : lw_okq (⟨"DyeVats$Planner", "join", "(II)V"⟩, 9) := ⟨⟨by decide +kernel, by decide +kernel⟩, List.mem_of_getElem? (i := 130) (by decide +kernel), List.mem_of_getElem? (i := 470) (by decide +kernel), List.mem_of_getElem? (i := 471) (by decide +kernel)⟩
theorem lw_p8 : lw_okq (⟨"DyeVats$Planner", "spread", "(IIII)V"⟩, 9) := ⟨⟨by decide +kernel, by decide +kernel⟩, List.mem_of_getElem? (i := 130) (by decide +kernel), List.mem_of_getElem? (i := 482) (by decide +kernel), List.mem_of_getElem? (i := 483) (by decide +kernel)⟩
theorem lw_p9 : lw_okq (⟨"DyeVats$Rules", "withStood", "(I)I"⟩, 12) := ⟨⟨by decide +kernel, by decide +kernel⟩, List.mem_of_getElem? (i := 43) (by decide +kernel), List.mem_of_getElem? (i := 492) (by decide +kernel), List.mem_of_getElem? (i := 493) (by decide +kernel)⟩
theorem lw_p10 : lw_okq (⟨"DyeVats$Planner", "dropDetours", "(I)V"⟩, 9) := ⟨⟨by decide +kernel, by decide +kernel⟩, List.mem_of_getElem? (i := 130) (by decide +kernel), List.mem_of_getElem? (i := 510) (by decide +kernel), List.mem_of_getElem? (i := 511) (by decide +kernel)⟩
theorem lw_p11 : lw_okq (⟨"DyeVats$Planner", "firstActOn", "(II)I"⟩, 9) := ⟨⟨by decide +kernel, by decide +kernel⟩, List.mem_of_getElem? (i := 130) (by decide +kernel), List.mem_of_getElem? (i := 514) (by decide +kernel), List.mem_of_getElem? (i := 515) (by decide +kernel)⟩
theorem lw_p12 : lw_okq (⟨"DyeVats$Planner", "writePlan", "(I)V"⟩, 9) := ⟨⟨by decide +kernel, by decide +kernel⟩, List.mem_of_getElem? (i := 130) (by decide +kernel), List.mem_of_getElem? (i := 518) (by decide +kernel), List.mem_of_getElem? (i := 519) (by decide +kernel)⟩
theorem lw_p13 : lw_okq (⟨"DyeVats$Proof", "join", "(I)V"⟩, 5) := ⟨⟨by decide +kernel, by decide +kernel⟩, List.mem_of_getElem? (i := 165) (by decide +kernel), List.mem_of_getElem? (i := 550) (by decide +kernel), List.mem_of_getElem? (i := 551) (by decide +kernel)⟩
theorem lw_p14 : lw_okq (⟨"DyeVats$Proof", "faultOf", "(II)I"⟩, 5) := ⟨⟨by decide +kernel, by decide +kernel⟩, List.mem_of_getElem? (i := 165) (by decide +kernel), List.mem_of_getElem? (i := 580) (by decide +kernel), List.mem_of_getElem? (i := 581) (by decide +kernel)⟩
theorem lw_p15 : lw_okq (⟨"DyeVatsModel", "filled", "(II)I"⟩, 28) := ⟨⟨by decide +kernel, by decide +kernel⟩, List.mem_of_getElem? (i := 593) (by decide +kernel), List.mem_of_getElem? (i := 690) (by decide +kernel), List.mem_of_getElem? (i := 691) (by decide +kernel)⟩
def lw_privs_1 : List (MethodName × Nat) := [(⟨"DyeVats", "anyStands", "()Z"⟩, 9), (⟨"DyeVats", "recipeChanged", "(I)V"⟩, 9), (⟨"DyeVats$RingFinder", "measure", "([II)V"⟩, 3), (⟨"DyeVats$RingFinder", "nearer", "(III)I"⟩, 3), (⟨"DyeVats", "freeVats", "()I"⟩, 9), (⟨"DyeVats$Planner", "explore", "(I)V"⟩, 9), (⟨"DyeVats$Planner", "startLine", "()V"⟩, 9), (⟨"DyeVats$Planner", "join", "(II)V"⟩, 9), (⟨"DyeVats$Planner", "spread", "(IIII)V"⟩, 9), (⟨"DyeVats$Rules", "withStood", "(I)I"⟩, 12), (⟨"DyeVats$Planner", "dropDetours", "(I)V"⟩, 9), (⟨"DyeVats$Planner", "firstActOn", "(II)I"⟩, 9), (⟨"DyeVats$Planner", "writePlan", "(I)V"⟩, 9), (⟨"DyeVats$Proof", "join", "(I)V"⟩, 5), (⟨"DyeVats$Proof", "faultOf", "(II)I"⟩, 5), (⟨"DyeVatsModel", "filled", "(II)I"⟩, 28)]
theorem lw_r1 : ∀ q ∈ lw_privs_1, lw_okq q := List.forall_mem_cons.mpr ⟨lw_p0, List.forall_mem_cons.mpr ⟨lw_p1, List.forall_mem_cons.mpr ⟨lw_p2, List.forall_mem_cons.mpr ⟨lw_p3, List.forall_mem_cons.mpr ⟨lw_p4, List.forall_mem_cons.mpr ⟨lw_p5, List.forall_mem_cons.mpr ⟨lw_p6, List.forall_mem_cons.mpr ⟨lw_p7, List.forall_mem_cons.mpr ⟨lw_p8, List.forall_mem_cons.mpr ⟨lw_p9, List.forall_mem_cons.mpr ⟨lw_p10, List.forall_mem_cons.mpr ⟨lw_p11, List.forall_mem_cons.mpr ⟨lw_p12, List.forall_mem_cons.mpr ⟨lw_p13, List.forall_mem_cons.mpr ⟨lw_p14, List.forall_mem_cons.mpr ⟨lw_p15, fun _ h => absurd h List.not_mem_nil⟩⟩⟩⟩⟩⟩⟩⟩⟩⟩⟩⟩⟩⟩⟩⟩
theorem lw_p16 : lw_okq (⟨"DyeVatsModel", "fills", "(III)I"⟩, 28) := ⟨⟨by decide +kernel, by decide +kernel⟩, List.mem_of_getElem? (i := 593) (by decide +kernel), List.mem_of_getElem? (i := 694) (by decide +kernel), List.mem_of_getElem? (i := 695) (by decide +kernel)⟩
theorem lw_p17 : lw_okq (⟨"DyeVatsModel", "isBath", "(I)Z"⟩, 28) := ⟨⟨by decide +kernel, by decide +kernel⟩, List.mem_of_getElem? (i := 593) (by decide +kernel), List.mem_of_getElem? (i := 709) (by decide +kernel), List.mem_of_getElem? (i := 710) (by decide +kernel)⟩
theorem lw_p18 : lw_okq (⟨"DyeVatsModel", "countSteps", "(I)V"⟩, 28) := ⟨⟨by decide +kernel, by decide +kernel⟩, List.mem_of_getElem? (i := 593) (by decide +kernel), List.mem_of_getElem? (i := 721) (by decide +kernel), List.mem_of_getElem? (i := 722) (by decide +kernel)⟩
theorem lw_p19 : lw_okq (⟨"DyeVatsModel", "needs", "(II)Z"⟩, 28) := ⟨⟨by decide +kernel, by decide +kernel⟩, List.mem_of_getElem? (i := 593) (by decide +kernel), List.mem_of_getElem? (i := 725) (by decide +kernel), List.mem_of_getElem? (i := 726) (by decide +kernel)⟩
theorem lw_p20 : lw_okq (⟨"DyeVatsModel", "tellRing", "(II)V"⟩, 28) := ⟨⟨by decide +kernel, by decide +kernel⟩, List.mem_of_getElem? (i := 593) (by decide +kernel), List.mem_of_getElem? (i := 729) (by decide +kernel), List.mem_of_getElem? (i := 730) (by decide +kernel)⟩
theorem lw_p21 : lw_okq (⟨"DyeVatsModel", "reason", "(IIII)I"⟩, 28) := ⟨⟨by decide +kernel, by decide +kernel⟩, List.mem_of_getElem? (i := 593) (by decide +kernel), List.mem_of_getElem? (i := 761) (by decide +kernel), List.mem_of_getElem? (i := 762) (by decide +kernel)⟩
theorem lw_p22 : lw_okq (⟨"DyeVatsModel", "used", "(I)I"⟩, 28) := ⟨⟨by decide +kernel, by decide +kernel⟩, List.mem_of_getElem? (i := 593) (by decide +kernel), List.mem_of_getElem? (i := 765) (by decide +kernel), List.mem_of_getElem? (i := 766) (by decide +kernel)⟩
theorem lw_p23 : lw_okq (⟨"DyeVatsModel", "keep", "(I)V"⟩, 28) := ⟨⟨by decide +kernel, by decide +kernel⟩, List.mem_of_getElem? (i := 593) (by decide +kernel), List.mem_of_getElem? (i := 773) (by decide +kernel), List.mem_of_getElem? (i := 774) (by decide +kernel)⟩
theorem lw_p24 : lw_okq (⟨"DyeVatsModel", "standsBehind", "(II)I"⟩, 28) := ⟨⟨by decide +kernel, by decide +kernel⟩, List.mem_of_getElem? (i := 593) (by decide +kernel), List.mem_of_getElem? (i := 777) (by decide +kernel), List.mem_of_getElem? (i := 778) (by decide +kernel)⟩
theorem lw_p25 : lw_okq (⟨"DyeVatsModel", "freshBehind", "(I)I"⟩, 28) := ⟨⟨by decide +kernel, by decide +kernel⟩, List.mem_of_getElem? (i := 593) (by decide +kernel), List.mem_of_getElem? (i := 781) (by decide +kernel), List.mem_of_getElem? (i := 782) (by decide +kernel)⟩
theorem lw_p26 : lw_okq (⟨"DyeVatsModel", "free", "()I"⟩, 28) := ⟨⟨by decide +kernel, by decide +kernel⟩, List.mem_of_getElem? (i := 593) (by decide +kernel), List.mem_of_getElem? (i := 785) (by decide +kernel), List.mem_of_getElem? (i := 786) (by decide +kernel)⟩
theorem lw_p27 : lw_okq (⟨"DyeVatsModel", "ones", "()I"⟩, 28) := ⟨⟨by decide +kernel, by decide +kernel⟩, List.mem_of_getElem? (i := 593) (by decide +kernel), List.mem_of_getElem? (i := 808) (by decide +kernel), List.mem_of_getElem? (i := 809) (by decide +kernel)⟩
theorem lw_p28 : lw_okq (⟨"DyeVatsModel", "spread", "(I)I"⟩, 28) := ⟨⟨by decide +kernel, by decide +kernel⟩, List.mem_of_getElem? (i := 593) (by decide +kernel), List.mem_of_getElem? (i := 816) (by decide +kernel), List.mem_of_getElem? (i := 817) (by decide +kernel)⟩
theorem lw_p29 : lw_okq (⟨"DyeVatsModel", "behind", "(III)I"⟩, 28) := ⟨⟨by decide +kernel, by decide +kernel⟩, List.mem_of_getElem? (i := 593) (by decide +kernel), List.mem_of_getElem? (i := 821) (by decide +kernel), List.mem_of_getElem? (i := 822) (by decide +kernel)⟩
theorem lw_p30 : lw_okq (⟨"DyeVatsModel", "stood", "(II)I"⟩, 28) := ⟨⟨by decide +kernel, by decide +kernel⟩, List.mem_of_getElem? (i := 593) (by decide +kernel), List.mem_of_getElem? (i := 825) (by decide +kernel), List.mem_of_getElem? (i := 826) (by decide +kernel)⟩
theorem lw_p31 : lw_okq (⟨"DyeVatsModel", "isEnd", "(II)Z"⟩, 28) := ⟨⟨by decide +kernel, by decide +kernel⟩, List.mem_of_getElem? (i := 593) (by decide +kernel), List.mem_of_getElem? (i := 833) (by decide +kernel), List.mem_of_getElem? (i := 834) (by decide +kernel)⟩
def lw_privs_2 : List (MethodName × Nat) := [(⟨"DyeVatsModel", "fills", "(III)I"⟩, 28), (⟨"DyeVatsModel", "isBath", "(I)Z"⟩, 28), (⟨"DyeVatsModel", "countSteps", "(I)V"⟩, 28), (⟨"DyeVatsModel", "needs", "(II)Z"⟩, 28), (⟨"DyeVatsModel", "tellRing", "(II)V"⟩, 28), (⟨"DyeVatsModel", "reason", "(IIII)I"⟩, 28), (⟨"DyeVatsModel", "used", "(I)I"⟩, 28), (⟨"DyeVatsModel", "keep", "(I)V"⟩, 28), (⟨"DyeVatsModel", "standsBehind", "(II)I"⟩, 28), (⟨"DyeVatsModel", "freshBehind", "(I)I"⟩, 28), (⟨"DyeVatsModel", "free", "()I"⟩, 28), (⟨"DyeVatsModel", "ones", "()I"⟩, 28), (⟨"DyeVatsModel", "spread", "(I)I"⟩, 28), (⟨"DyeVatsModel", "behind", "(III)I"⟩, 28), (⟨"DyeVatsModel", "stood", "(II)I"⟩, 28), (⟨"DyeVatsModel", "isEnd", "(II)Z"⟩, 28)]
theorem lw_r2 : ∀ q ∈ lw_privs_2, lw_okq q := List.forall_mem_cons.mpr ⟨lw_p16, List.forall_mem_cons.mpr ⟨lw_p17, List.forall_mem_cons.mpr ⟨lw_p18, List.forall_mem_cons.mpr ⟨lw_p19, List.forall_mem_cons.mpr ⟨lw_p20, List.forall_mem_cons.mpr ⟨lw_p21, List.forall_mem_cons.mpr ⟨lw_p22, List.forall_mem_cons.mpr ⟨lw_p23, List.forall_mem_cons.mpr ⟨lw_p24, List.forall_mem_cons.mpr ⟨lw_p25, List.forall_mem_cons.mpr ⟨lw_p26, List.forall_mem_cons.mpr ⟨lw_p27, List.forall_mem_cons.mpr ⟨lw_p28, List.forall_mem_cons.mpr ⟨lw_p29, List.forall_mem_cons.mpr ⟨lw_p30, List.forall_mem_cons.mpr ⟨lw_p31, fun _ h => absurd h List.not_mem_nil⟩⟩⟩⟩⟩⟩⟩⟩⟩⟩⟩⟩⟩⟩⟩⟩
theorem lw_p32 : lw_okq (⟨"DyeVatsModel", "stand", "(I)Z"⟩, 28) := ⟨⟨by decide +kernel, by decide +kernel⟩, List.mem_of_getElem? (i := 593) (by decide +kernel), List.mem_of_getElem? (i := 837) (by decide +kernel), List.mem_of_getElem? (i := 838) (by decide +kernel)⟩
theorem lw_p33 : lw_okq (⟨"DyeVatsModel", "trace", "(II)V"⟩, 28) := ⟨⟨by decide +kernel, by decide +kernel⟩, List.mem_of_getElem? (i := 593) (by decide +kernel), List.mem_of_getElem? (i := 849) (by decide +kernel), List.mem_of_getElem? (i := 850) (by decide +kernel)⟩
theorem lw_p34 : lw_okq (⟨"DyeVatsModel", "isPlain", "()Z"⟩, 28) := ⟨⟨by decide +kernel, by decide +kernel⟩, List.mem_of_getElem? (i := 593) (by decide +kernel), List.mem_of_getElem? (i := 861) (by decide +kernel), List.mem_of_getElem? (i := 862) (by decide +kernel)⟩
theorem lw_p35 : lw_okq (⟨"DyeVatsModel", "bitBehind", "(III)I"⟩, 28) := ⟨⟨by decide +kernel, by decide +kernel⟩, List.mem_of_getElem? (i := 593) (by decide +kernel), List.mem_of_getElem? (i := 865) (by decide +kernel), List.mem_of_getElem? (i := 866) (by decide +kernel)⟩
theorem lw_p36 : lw_okq (⟨"DyeVatsModel", "faultOf", "(II)I"⟩, 28) := ⟨⟨by decide +kernel, by decide +kernel⟩, List.mem_of_getElem? (i := 593) (by decide +kernel), List.mem_of_getElem? (i := 881) (by decide +kernel), List.mem_of_getElem? (i := 882) (by decide +kernel)⟩
def lw_privs_3 : List (MethodName × Nat) := [(⟨"DyeVatsModel", "stand", "(I)Z"⟩, 28), (⟨"DyeVatsModel", "trace", "(II)V"⟩, 28), (⟨"DyeVatsModel", "isPlain", "()Z"⟩, 28), (⟨"DyeVatsModel", "bitBehind", "(III)I"⟩, 28), (⟨"DyeVatsModel", "faultOf", "(II)I"⟩, 28)]
theorem lw_r3 : ∀ q ∈ lw_privs_3, lw_okq q := List.forall_mem_cons.mpr ⟨lw_p32, List.forall_mem_cons.mpr ⟨lw_p33, List.forall_mem_cons.mpr ⟨lw_p34, List.forall_mem_cons.mpr ⟨lw_p35, List.forall_mem_cons.mpr ⟨lw_p36, fun _ h => absurd h List.not_mem_nil⟩⟩⟩⟩⟩
def lw_privs : List (MethodName × Nat) := lw_privs_1 ++ (lw_privs_2 ++ (lw_privs_3))
def lw_tbl : List Cond := k2_sels lw_privs ++ tables_1
theorem lw_privs_ok : ∀ q ∈ lw_privs, lw_okq q := by
  show ∀ q ∈ lw_privs_1 ++ (lw_privs_2 ++ (lw_privs_3)), lw_okq q
  exact List.forall_mem_append.mpr ⟨lw_r1, List.forall_mem_append.mpr ⟨lw_r2, lw_r3⟩⟩
end
section
/-! ===== BEGIN words of one list among another's, by their places ===== -/
theorem goodIn_r {big : List Cond} (ws : List Cond) (ps : List Nat) (hp : ws = ps.filterMap (fun i => big[i]?)) (h : ws.all goodWord = true) : GoodIn big ws := by
  intro w hw
  have h1 := List.all_eq_true.mp h w hw
  rw [hp] at hw
  obtain ⟨i, -, hi⟩ := List.mem_filterMap.mp hw
  have hm : w ∈ big := by first | exact List.mem_of_getElem? hi | exact List.getElem?_mem hi
  exact ⟨hm, good_of_word h1⟩
theorem goodIn_app {big a b : List Cond} (ha : GoodIn big a) (hb : GoodIn big b) : GoodIn big (a ++ b) := fun w h => (List.mem_append.mp h).elim (ha w) (hb w)
theorem goodIn_ca {big a b : List Cond} {c : Cond} (ha : GoodIn big (c :: a)) (hb : GoodIn big b) : GoodIn big (c :: (a ++ b)) := fun w h => (List.mem_cons.mp h).elim (fun e => ha w (List.mem_cons.mpr (Or.inl e))) (fun h => (List.mem_append.mp h).elim (fun h => ha w (List.mem_cons.mpr (Or.inr h))) (hb w))
theorem goodIn_sub {big ws : List Cond} (hm : ∀ w ∈ ws, w ∈ big) (h : ws.all goodWord = true) : GoodIn big ws := fun w hw => ⟨hm w hw, good_of_word (List.all_eq_true.mp h w hw)⟩
/-! ===== END ===== -/

/-! ===== BEGIN printed: names, fields, word lists, decode rows ===== -/
def RX0 : String := "DyeVats$History"
def TX0 : u_T := fun k => match k with
  | 0 => ("DyeVats$History", "size", "I", false)
  | 1 => ("DyeVats$History", "next", "I", false)
  | 2 => ("DyeVats$History", "scenes", "[I", true)
  | _ => ("DyeVats$History", "made", "[I", true)
def tyX0 : Nat → FieldType := fun k => match k with
  | 0 => .int
  | 1 => .int
  | 2 => .array .int
  | _ => .array .int
abbrev wsX00 : List Cond := u_ws RX0 TX0 4
theorem nmX0 : ∀ a, a < 4 → ∀ b, b < 4 → a ≠ b → (TX0 a).2.1 ≠ (TX0 b).2.1 := by decide +kernel
theorem tyX0_ok : ∀ k, k < 4 → parseFieldDescriptor (TX0 k).2.2.1 = some (tyX0 k) := by decide +kernel
abbrev cX0_init : ByteArray := prog_2_method_1_code
def yX0_init : MethodName := ⟨RX0, "<init>", "()V"⟩
abbrev cX0_clear : ByteArray := prog_2_method_2_code
def yX0_clear : MethodName := ⟨RX0, "clear", "()V"⟩
abbrev cX0_keep : ByteArray := prog_2_method_3_code
def yX0_keep : MethodName := ⟨RX0, "keep", "(II)V"⟩
abbrev cX0_stepBack : ByteArray := prog_2_method_4_code
def yX0_stepBack : MethodName := ⟨RX0, "stepBack", "()V"⟩
abbrev cX0_sceneThere : ByteArray := prog_2_method_5_code
def yX0_sceneThere : MethodName := ⟨RX0, "sceneThere", "()I"⟩
abbrev cX0_madeThere : ByteArray := prog_2_method_6_code
def yX0_madeThere : MethodName := ⟨RX0, "madeThere", "()I"⟩
def RX1 : String := "DyeVats$Planner"
def TX1 : u_T := fun k => match k with
  | 0 => ("DyeVats$Planner", "rules", "LDyeVats$Rules;", true)
  | 1 => ("DyeVats$Planner", "makes", "[I", true)
  | 2 => ("DyeVats$Planner", "ways", "[I", true)
  | 3 => ("DyeVats$Planner", "cost", "[I", false)
  | 4 => ("DyeVats$Planner", "line", "[I", false)
  | 5 => ("DyeVats$Planner", "lineEnd", "I", false)
  | 6 => ("DyeVats$Planner", "best", "I", false)
  | 7 => ("DyeVats$Planner", "exploredFor", "I", false)
  | _ => ("DyeVats$Planner", "plannedFor", "I", false)
def tyX1 : Nat → FieldType := fun k => match k with
  | 0 => .object "DyeVats$Rules"
  | 1 => .array .int
  | 2 => .array .int
  | 3 => .array .int
  | 4 => .array .int
  | 5 => .int
  | 6 => .int
  | 7 => .int
  | _ => .int
abbrev wsX10 : List Cond := u_ws RX1 TX1 9
theorem nmX1 : ∀ a, a < 9 → ∀ b, b < 9 → a ≠ b → (TX1 a).2.1 ≠ (TX1 b).2.1 := by decide +kernel
theorem tyX1_ok : ∀ k, k < 9 → parseFieldDescriptor (TX1 k).2.2.1 = some (tyX1 k) := by decide +kernel
abbrev cX1_init : ByteArray := prog_3_method_1_code
def yX1_init : MethodName := ⟨RX1, "<init>", "(LDyeVats$Rules;)V"⟩
abbrev cX1_outdate : ByteArray := prog_3_method_2_code
def yX1_outdate : MethodName := ⟨RX1, "outdate", "()V"⟩
abbrev cX1_makesFor : ByteArray := prog_3_method_3_code
def yX1_makesFor : MethodName := ⟨RX1, "makesFor", "(I)I"⟩
abbrev cX1_actsFor : ByteArray := prog_3_method_4_code
def yX1_actsFor : MethodName := ⟨RX1, "actsFor", "(I)I"⟩
abbrev cX1_actAt : ByteArray := prog_3_method_5_code
def yX1_actAt : MethodName := ⟨RX1, "actAt", "(I)I"⟩
abbrev cX1_scenesFor : ByteArray := prog_3_method_6_code
def yX1_scenesFor : MethodName := ⟨RX1, "scenesFor", "(I)I"⟩
abbrev cX1_startLine : ByteArray := prog_3_method_7_code
def yX1_startLine : MethodName := ⟨RX1, "startLine", "()V"⟩
abbrev cX1_join : ByteArray := prog_3_method_8_code
def yX1_join : MethodName := ⟨RX1, "join", "(II)V"⟩
abbrev cX1_explore : ByteArray := prog_3_method_9_code
def yX1_explore : MethodName := ⟨RX1, "explore", "(I)V"⟩
abbrev cX1_spread : ByteArray := prog_3_method_10_code
def yX1_spread : MethodName := ⟨RX1, "spread", "(IIII)V"⟩
abbrev cX1_dropDetours : ByteArray := prog_3_method_11_code
def yX1_dropDetours : MethodName := ⟨RX1, "dropDetours", "(I)V"⟩
abbrev cX1_firstActOn : ByteArray := prog_3_method_12_code
def yX1_firstActOn : MethodName := ⟨RX1, "firstActOn", "(II)I"⟩
abbrev cX1_writePlan : ByteArray := prog_3_method_13_code
def yX1_writePlan : MethodName := ⟨RX1, "writePlan", "(I)V"⟩
def RX2 : String := "DyeVats$Proof"
def TX2 : u_T := fun k => match k with
  | 0 => ("DyeVats$Proof", "rules", "LDyeVats$Rules;", true)
  | 1 => ("DyeVats$Proof", "bits", "[B", true)
  | 2 => ("DyeVats$Proof", "line", "[I", true)
  | 3 => ("DyeVats$Proof", "ones", "I", false)
  | _ => ("DyeVats$Proof", "faultAt", "I", false)
def tyX2 : Nat → FieldType := fun k => match k with
  | 0 => .object "DyeVats$Rules"
  | 1 => .array .byte
  | 2 => .array .int
  | 3 => .int
  | _ => .int
abbrev wsX20 : List Cond := u_ws RX2 TX2 5
theorem nmX2 : ∀ a, a < 5 → ∀ b, b < 5 → a ≠ b → (TX2 a).2.1 ≠ (TX2 b).2.1 := by decide +kernel
theorem tyX2_ok : ∀ k, k < 5 → parseFieldDescriptor (TX2 k).2.2.1 = some (tyX2 k) := by decide +kernel
abbrev cX2_init : ByteArray := prog_4_method_1_code
def yX2_init : MethodName := ⟨RX2, "<init>", "(LDyeVats$Rules;)V"⟩
abbrev cX2_turn : ByteArray := prog_4_method_2_code
def yX2_turn : MethodName := ⟨RX2, "turn", "(I)I"⟩
abbrev cX2_build : ByteArray := prog_4_method_3_code
def yX2_build : MethodName := ⟨RX2, "build", "(I)I"⟩
abbrev cX2_join : ByteArray := prog_4_method_4_code
def yX2_join : MethodName := ⟨RX2, "join", "(I)V"⟩
abbrev cX2_examine : ByteArray := prog_4_method_5_code
def yX2_examine : MethodName := ⟨RX2, "examine", "(I)I"⟩
abbrev cX2_faultOf : ByteArray := prog_4_method_6_code
def yX2_faultOf : MethodName := ⟨RX2, "faultOf", "(II)I"⟩
def RX3 : String := "DyeVats$Recipes"
def TX3 : u_T := fun k => match k with
  | 0 => ("DyeVats$Recipes", "sizes", "[I", true)
  | 1 => ("DyeVats$Recipes", "types", "[I", true)
  | _ => ("DyeVats$Recipes", "names", "[I", true)
def tyX3 : Nat → FieldType := fun k => match k with
  | 0 => .array .int
  | 1 => .array .int
  | _ => .array .int
abbrev wsX30 : List Cond := u_ws RX3 TX3 3
theorem nmX3 : ∀ a, a < 3 → ∀ b, b < 3 → a ≠ b → (TX3 a).2.1 ≠ (TX3 b).2.1 := by decide +kernel
theorem tyX3_ok : ∀ k, k < 3 → parseFieldDescriptor (TX3 k).2.2.1 = some (tyX3 k) := by decide +kernel
abbrev cX3_init : ByteArray := prog_5_method_1_code
def yX3_init : MethodName := ⟨RX3, "<init>", "()V"⟩
abbrev cX3_begin : ByteArray := prog_5_method_2_code
def yX3_begin : MethodName := ⟨RX3, "begin", "(III)V"⟩
abbrev cX3_drop : ByteArray := prog_5_method_3_code
def yX3_drop : MethodName := ⟨RX3, "drop", "(I)V"⟩
abbrev cX3_has : ByteArray := prog_5_method_4_code
def yX3_has : MethodName := ⟨RX3, "has", "(I)Z"⟩
abbrev cX3_hasPlace : ByteArray := prog_5_method_5_code
def yX3_hasPlace : MethodName := ⟨RX3, "hasPlace", "(II)Z"⟩
abbrev cX3_nameAt : ByteArray := prog_5_method_6_code
def yX3_nameAt : MethodName := ⟨RX3, "nameAt", "(II)I"⟩
abbrev cX3_setName : ByteArray := prog_5_method_7_code
def yX3_setName : MethodName := ⟨RX3, "setName", "(III)V"⟩
abbrev cX3_namedBits : ByteArray := prog_5_method_8_code
def yX3_namedBits : MethodName := ⟨RX3, "namedBits", "(I)I"⟩
abbrev cX3_firstNamedBit : ByteArray := prog_5_method_9_code
def yX3_firstNamedBit : MethodName := ⟨RX3, "firstNamedBit", "(I)I"⟩
abbrev cX3_bitOf : ByteArray := prog_5_method_10_code
def yX3_bitOf : MethodName := ⟨RX3, "bitOf", "(I)I"⟩
def RX4 : String := "DyeVats$RingFinder"
def TX4 : u_T := fun k => match k with
  | 0 => ("DyeVats$RingFinder", "baths", "[I", true)
  | 1 => ("DyeVats$RingFinder", "length", "I", false)
  | _ => ("DyeVats$RingFinder", "away", "[I", true)
def tyX4 : Nat → FieldType := fun k => match k with
  | 0 => .array .int
  | 1 => .int
  | _ => .array .int
abbrev wsX40 : List Cond := u_ws RX4 TX4 3
theorem nmX4 : ∀ a, a < 3 → ∀ b, b < 3 → a ≠ b → (TX4 a).2.1 ≠ (TX4 b).2.1 := by decide +kernel
theorem tyX4_ok : ∀ k, k < 3 → parseFieldDescriptor (TX4 k).2.2.1 = some (tyX4 k) := by decide +kernel
abbrev cX4_init : ByteArray := prog_6_method_1_code
def yX4_init : MethodName := ⟨RX4, "<init>", "()V"⟩
abbrev cX4_closes : ByteArray := prog_6_method_2_code
def yX4_closes : MethodName := ⟨RX4, "closes", "([III)Z"⟩
abbrev cX4_measure : ByteArray := prog_6_method_3_code
def yX4_measure : MethodName := ⟨RX4, "measure", "([II)V"⟩
abbrev cX4_nearer : ByteArray := prog_6_method_4_code
def yX4_nearer : MethodName := ⟨RX4, "nearer", "(III)I"⟩
def RX5 : String := "DyeVats$Rules"
def TX5 : u_T := fun k => match k with
  | 0 => ("DyeVats$Rules", "baths", "I", false)
  | 1 => ("DyeVats$Rules", "kinds", "[I", true)
  | 2 => ("DyeVats$Rules", "needs", "[I", true)
  | 3 => ("DyeVats$Rules", "usedUp", "[I", true)
  | 4 => ("DyeVats$Rules", "withRecipe", "I", false)
  | 5 => ("DyeVats$Rules", "strongOnes", "I", false)
  | 6 => ("DyeVats$Rules", "doubleOnes", "I", false)
  | 7 => ("DyeVats$Rules", "frailOnes", "I", false)
  | 8 => ("DyeVats$Rules", "goalCount", "I", false)
  | 9 => ("DyeVats$Rules", "goals", "[I", true)
  | 10 => ("DyeVats$Rules", "goalBits", "I", false)
  | _ => ("DyeVats$Rules", "allAtOnce", "Z", false)
def tyX5 : Nat → FieldType := fun k => match k with
  | 0 => .int
  | 1 => .array .int
  | 2 => .array .int
  | 3 => .array .int
  | 4 => .int
  | 5 => .int
  | 6 => .int
  | 7 => .int
  | 8 => .int
  | 9 => .array .int
  | 10 => .int
  | _ => .boolean
abbrev wsX50 : List Cond := u_ws RX5 TX5 12
theorem nmX5 : ∀ a, a < 12 → ∀ b, b < 12 → a ≠ b → (TX5 a).2.1 ≠ (TX5 b).2.1 := by decide +kernel
theorem tyX5_ok : ∀ k, k < 12 → parseFieldDescriptor (TX5 k).2.2.1 = some (tyX5 k) := by decide +kernel
abbrev cX5_init : ByteArray := prog_7_method_1_code
def yX5_init : MethodName := ⟨RX5, "<init>", "()V"⟩
abbrev cX5_isBath : ByteArray := prog_7_method_2_code
def yX5_isBath : MethodName := ⟨RX5, "isBath", "(I)Z"⟩
abbrev cX5_isGoal : ByteArray := prog_7_method_3_code
def yX5_isGoal : MethodName := ⟨RX5, "isGoal", "(I)Z"⟩
abbrev cX5_addBath : ByteArray := prog_7_method_4_code
def yX5_addBath : MethodName := ⟨RX5, "addBath", "(I)I"⟩
abbrev cX5_addGoal : ByteArray := prog_7_method_5_code
def yX5_addGoal : MethodName := ⟨RX5, "addGoal", "(I)I"⟩
abbrev cX5_dropGoals : ByteArray := prog_7_method_6_code
def yX5_dropGoals : MethodName := ⟨RX5, "dropGoals", "()V"⟩
abbrev cX5_learn : ByteArray := prog_7_method_7_code
def yX5_learn : MethodName := ⟨RX5, "learn", "(ILDyeVats$Recipes;)V"⟩
abbrev cX5_hasFrail : ByteArray := prog_7_method_8_code
def yX5_hasFrail : MethodName := ⟨RX5, "hasFrail", "()Z"⟩
abbrev cX5_allFillOne : ByteArray := prog_7_method_9_code
def yX5_allFillOne : MethodName := ⟨RX5, "allFillOne", "()Z"⟩
abbrev cX5_nextTold : ByteArray := prog_7_method_10_code
def yX5_nextTold : MethodName := ⟨RX5, "nextTold", "(I)I"⟩
abbrev cX5_stands : ByteArray := prog_7_method_11_code
def yX5_stands : MethodName := ⟨RX5, "stands", "(II)Z"⟩
abbrev cX5_filled : ByteArray := prog_7_method_12_code
def yX5_filled : MethodName := ⟨RX5, "filled", "(I)I"⟩
abbrev cX5_filledBy : ByteArray := prog_7_method_13_code
def yX5_filledBy : MethodName := ⟨RX5, "filledBy", "(II)I"⟩
abbrev cX5_freshBit : ByteArray := prog_7_method_14_code
def yX5_freshBit : MethodName := ⟨RX5, "freshBit", "(I)I"⟩
abbrev cX5_hindrance : ByteArray := prog_7_method_15_code
def yX5_hindrance : MethodName := ⟨RX5, "hindrance", "(III)I"⟩
abbrev cX5_whenMade : ByteArray := prog_7_method_16_code
def yX5_whenMade : MethodName := ⟨RX5, "whenMade", "(II)I"⟩
abbrev cX5_whenPoured : ByteArray := prog_7_method_17_code
def yX5_whenPoured : MethodName := ⟨RX5, "whenPoured", "(II)I"⟩
abbrev cX5_lead : ByteArray := prog_7_method_18_code
def yX5_lead : MethodName := ⟨RX5, "lead", "(III)I"⟩
abbrev cX5_withStood : ByteArray := prog_7_method_19_code
def yX5_withStood : MethodName := ⟨RX5, "withStood", "(I)I"⟩
abbrev cX5_reaches : ByteArray := prog_7_method_20_code
def yX5_reaches : MethodName := ⟨RX5, "reaches", "(I)Z"⟩
abbrev cX5_known : ByteArray := prog_7_method_21_code
def yX5_known : MethodName := ⟨RX5, "known", "(I)Z"⟩
def RX6 : String := "DyeVats"
def TX6 : u_T := fun k => match k with
  | 0 => ("DyeVats", "recipes", "LDyeVats$Recipes;", true)
  | 1 => ("DyeVats", "rules", "LDyeVats$Rules;", true)
  | 2 => ("DyeVats", "rings", "LDyeVats$RingFinder;", true)
  | 3 => ("DyeVats", "history", "LDyeVats$History;", true)
  | 4 => ("DyeVats", "planner", "LDyeVats$Planner;", true)
  | 5 => ("DyeVats", "proof", "LDyeVats$Proof;", true)
  | 6 => ("DyeVats", "timesMade", "[I", true)
  | 7 => ("DyeVats", "vatCount", "I", false)
  | _ => ("DyeVats", "scene", "I", false)
def tyX6 : Nat → FieldType := fun k => match k with
  | 0 => .object "DyeVats$Recipes"
  | 1 => .object "DyeVats$Rules"
  | 2 => .object "DyeVats$RingFinder"
  | 3 => .object "DyeVats$History"
  | 4 => .object "DyeVats$Planner"
  | 5 => .object "DyeVats$Proof"
  | 6 => .array .int
  | 7 => .int
  | _ => .int
abbrev wsX60 : List Cond := u_ws RX6 TX6 9
theorem nmX6 : ∀ a, a < 9 → ∀ b, b < 9 → a ≠ b → (TX6 a).2.1 ≠ (TX6 b).2.1 := by decide +kernel
theorem tyX6_ok : ∀ k, k < 9 → parseFieldDescriptor (TX6 k).2.2.1 = some (tyX6 k) := by decide +kernel
abbrev cX6_init : ByteArray := prog_1_method_1_code
def yX6_init : MethodName := ⟨RX6, "<init>", "()V"⟩
abbrev cX6_vats : ByteArray := prog_1_method_2_code
def yX6_vats : MethodName := ⟨RX6, "vats", "(I)I"⟩
abbrev cX6_bath : ByteArray := prog_1_method_3_code
def yX6_bath : MethodName := ⟨RX6, "bath", "(I)I"⟩
abbrev cX6_recipe : ByteArray := prog_1_method_4_code
def yX6_recipe : MethodName := ⟨RX6, "recipe", "(III)I"⟩
abbrev cX6_lose : ByteArray := prog_1_method_5_code
def yX6_lose : MethodName := ⟨RX6, "lose", "(I)I"⟩
abbrev cX6_need : ByteArray := prog_1_method_6_code
def yX6_need : MethodName := ⟨RX6, "need", "(III)I"⟩
abbrev cX6_named : ByteArray := prog_1_method_7_code
def yX6_named : MethodName := ⟨RX6, "named", "(III)I"⟩
abbrev cX6_ring : ByteArray := prog_1_method_8_code
def yX6_ring : MethodName := ⟨RX6, "ring", "(I)I"⟩
abbrev cX6_order : ByteArray := prog_1_method_9_code
def yX6_order : MethodName := ⟨RX6, "order", "(I)I"⟩
abbrev cX6_goal : ByteArray := prog_1_method_10_code
def yX6_goal : MethodName := ⟨RX6, "goal", "(I)I"⟩
abbrev cX6_forget : ByteArray := prog_1_method_11_code
def yX6_forget : MethodName := ⟨RX6, "forget", "()I"⟩
abbrev cX6_together : ByteArray := prog_1_method_12_code
def yX6_together : MethodName := ⟨RX6, "together", "(Z)I"⟩
abbrev cX6_make : ByteArray := prog_1_method_13_code
def yX6_make : MethodName := ⟨RX6, "make", "(I)I"⟩
abbrev cX6_why : ByteArray := prog_1_method_14_code
def yX6_why : MethodName := ⟨RX6, "why", "(I)I"⟩
abbrev cX6_pour : ByteArray := prog_1_method_15_code
def yX6_pour : MethodName := ⟨RX6, "pour", "(I)I"⟩
abbrev cX6_undo : ByteArray := prog_1_method_16_code
def yX6_undo : MethodName := ⟨RX6, "undo", "()I"⟩
abbrev cX6_of : ByteArray := prog_1_method_17_code
def yX6_of : MethodName := ⟨RX6, "of", "(II)I"⟩
abbrev cX6_count : ByteArray := prog_1_method_18_code
def yX6_count : MethodName := ⟨RX6, "count", "(I)I"⟩
abbrev cX6_least : ByteArray := prog_1_method_19_code
def yX6_least : MethodName := ⟨RX6, "least", "()I"⟩
abbrev cX6_fewest : ByteArray := prog_1_method_20_code
def yX6_fewest : MethodName := ⟨RX6, "fewest", "(I)I"⟩
abbrev cX6_plan : ByteArray := prog_1_method_21_code
def yX6_plan : MethodName := ⟨RX6, "plan", "(II)I"⟩
abbrev cX6_reach : ByteArray := prog_1_method_22_code
def yX6_reach : MethodName := ⟨RX6, "reach", "(I)I"⟩
abbrev cX6_row : ByteArray := prog_1_method_23_code
def yX6_row : MethodName := ⟨RX6, "row", "(I)I"⟩
abbrev cX6_bit : ByteArray := prog_1_method_24_code
def yX6_bit : MethodName := ⟨RX6, "bit", "(I)I"⟩
abbrev cX6_flip : ByteArray := prog_1_method_25_code
def yX6_flip : MethodName := ⟨RX6, "flip", "(I)I"⟩
abbrev cX6_check : ByteArray := prog_1_method_26_code
def yX6_check : MethodName := ⟨RX6, "check", "(I)I"⟩
abbrev cX6_where : ByteArray := prog_1_method_27_code
def yX6_where : MethodName := ⟨RX6, "where", "()I"⟩
abbrev cX6_isVatCount : ByteArray := prog_1_method_28_code
def yX6_isVatCount : MethodName := ⟨RX6, "isVatCount", "(I)Z"⟩
abbrev cX6_isType : ByteArray := prog_1_method_29_code
def yX6_isType : MethodName := ⟨RX6, "isType", "(I)Z"⟩
abbrev cX6_isRowBit : ByteArray := prog_1_method_30_code
def yX6_isRowBit : MethodName := ⟨RX6, "isRowBit", "(I)Z"⟩
abbrev cX6_anyStands : ByteArray := prog_1_method_31_code
def yX6_anyStands : MethodName := ⟨RX6, "anyStands", "()Z"⟩
abbrev cX6_freeVats : ByteArray := prog_1_method_32_code
def yX6_freeVats : MethodName := ⟨RX6, "freeVats", "()I"⟩
abbrev cX6_recipeChanged : ByteArray := prog_1_method_33_code
def yX6_recipeChanged : MethodName := ⟨RX6, "recipeChanged", "(I)V"⟩
def RX7 : String := "DyeVatsModel"
def TX7 : u_T := fun k => match k with
  | 0 => ("DyeVatsModel", "baths", "I", false)
  | 1 => ("DyeVatsModel", "kind", "[I", true)
  | 2 => ("DyeVatsModel", "type", "[I", true)
  | 3 => ("DyeVatsModel", "size", "[I", true)
  | 4 => ("DyeVatsModel", "names", "[I", true)
  | 5 => ("DyeVatsModel", "made", "[I", true)
  | 6 => ("DyeVatsModel", "vats", "I", false)
  | 7 => ("DyeVatsModel", "stands", "I", false)
  | 8 => ("DyeVatsModel", "fresh", "I", false)
  | 9 => ("DyeVatsModel", "goals", "I", false)
  | 10 => ("DyeVatsModel", "goal", "[I", true)
  | 11 => ("DyeVatsModel", "isTogether", "Z", false)
  | 12 => ("DyeVatsModel", "row", "[Z", true)
  | 13 => ("DyeVatsModel", "kept", "I", false)
  | 14 => ("DyeVatsModel", "keptStands", "[I", true)
  | 15 => ("DyeVatsModel", "keptFresh", "[I", true)
  | 16 => ("DyeVatsModel", "keptMade", "[I", true)
  | 17 => ("DyeVatsModel", "rings", "I", false)
  | 18 => ("DyeVatsModel", "ring", "[I", true)
  | 19 => ("DyeVatsModel", "fault", "I", false)
  | 20 => ("DyeVatsModel", "steps", "[I", true)
  | 21 => ("DyeVatsModel", "cost", "[I", true)
  | 22 => ("DyeVatsModel", "waits", "[Z", true)
  | 23 => ("DyeVatsModel", "queue", "[I", true)
  | 24 => ("DyeVatsModel", "isVain", "[Z", true)
  | 25 => ("DyeVatsModel", "way", "[I", true)
  | 26 => ("DyeVatsModel", "at", "[I", true)
  | _ => ("DyeVatsModel", "acts", "I", false)
def tyX7 : Nat → FieldType := fun k => match k with
  | 0 => .int
  | 1 => .array .int
  | 2 => .array .int
  | 3 => .array .int
  | 4 => .array .int
  | 5 => .array .int
  | 6 => .int
  | 7 => .int
  | 8 => .int
  | 9 => .int
  | 10 => .array .int
  | 11 => .boolean
  | 12 => .array .boolean
  | 13 => .int
  | 14 => .array .int
  | 15 => .array .int
  | 16 => .array .int
  | 17 => .int
  | 18 => .array .int
  | 19 => .int
  | 20 => .array .int
  | 21 => .array .int
  | 22 => .array .boolean
  | 23 => .array .int
  | 24 => .array .boolean
  | 25 => .array .int
  | 26 => .array .int
  | _ => .int
abbrev wsX70 : List Cond := u_ws RX7 TX7 28
theorem nmX7 : ∀ a, a < 28 → ∀ b, b < 28 → a ≠ b → (TX7 a).2.1 ≠ (TX7 b).2.1 := by decide +kernel
theorem tyX7_ok : ∀ k, k < 28 → parseFieldDescriptor (TX7 k).2.2.1 = some (tyX7 k) := by decide +kernel
abbrev cX7_init : ByteArray := prog_9_method_1_code
def yX7_init : MethodName := ⟨RX7, "<init>", "()V"⟩
abbrev cX7_isBath : ByteArray := prog_9_method_2_code
def yX7_isBath : MethodName := ⟨RX7, "isBath", "(I)Z"⟩
abbrev cX7_has : ByteArray := prog_9_method_3_code
def yX7_has : MethodName := ⟨RX7, "has", "(II)Z"⟩
abbrev cX7_fills : ByteArray := prog_9_method_4_code
def yX7_fills : MethodName := ⟨RX7, "fills", "(III)I"⟩
abbrev cX7_filled : ByteArray := prog_9_method_5_code
def yX7_filled : MethodName := ⟨RX7, "filled", "(II)I"⟩
abbrev cX7_used : ByteArray := prog_9_method_6_code
def yX7_used : MethodName := ⟨RX7, "used", "(I)I"⟩
abbrev cX7_reason : ByteArray := prog_9_method_7_code
def yX7_reason : MethodName := ⟨RX7, "reason", "(IIII)I"⟩
abbrev cX7_standsBehind : ByteArray := prog_9_method_8_code
def yX7_standsBehind : MethodName := ⟨RX7, "standsBehind", "(II)I"⟩
abbrev cX7_freshBehind : ByteArray := prog_9_method_9_code
def yX7_freshBehind : MethodName := ⟨RX7, "freshBehind", "(I)I"⟩
abbrev cX7_freshPoured : ByteArray := prog_9_method_10_code
def yX7_freshPoured : MethodName := ⟨RX7, "freshPoured", "(II)I"⟩
abbrev cX7_keep : ByteArray := prog_9_method_11_code
def yX7_keep : MethodName := ⟨RX7, "keep", "(I)V"⟩
abbrev cX7_free : ByteArray := prog_9_method_12_code
def yX7_free : MethodName := ⟨RX7, "free", "()I"⟩
abbrev cX7_vats : ByteArray := prog_9_method_13_code
def yX7_vats : MethodName := ⟨RX7, "vats", "(I)I"⟩
abbrev cX7_bath : ByteArray := prog_9_method_14_code
def yX7_bath : MethodName := ⟨RX7, "bath", "(I)I"⟩
abbrev cX7_recipe : ByteArray := prog_9_method_15_code
def yX7_recipe : MethodName := ⟨RX7, "recipe", "(III)I"⟩
abbrev cX7_lose : ByteArray := prog_9_method_16_code
def yX7_lose : MethodName := ⟨RX7, "lose", "(I)I"⟩
abbrev cX7_needs : ByteArray := prog_9_method_17_code
def yX7_needs : MethodName := ⟨RX7, "needs", "(II)Z"⟩
abbrev cX7_countSteps : ByteArray := prog_9_method_18_code
def yX7_countSteps : MethodName := ⟨RX7, "countSteps", "(I)V"⟩
abbrev cX7_tellRing : ByteArray := prog_9_method_19_code
def yX7_tellRing : MethodName := ⟨RX7, "tellRing", "(II)V"⟩
abbrev cX7_need : ByteArray := prog_9_method_20_code
def yX7_need : MethodName := ⟨RX7, "need", "(III)I"⟩
abbrev cX7_named : ByteArray := prog_9_method_21_code
def yX7_named : MethodName := ⟨RX7, "named", "(III)I"⟩
abbrev cX7_ring : ByteArray := prog_9_method_22_code
def yX7_ring : MethodName := ⟨RX7, "ring", "(I)I"⟩
abbrev cX7_order : ByteArray := prog_9_method_23_code
def yX7_order : MethodName := ⟨RX7, "order", "(I)I"⟩
abbrev cX7_goal : ByteArray := prog_9_method_24_code
def yX7_goal : MethodName := ⟨RX7, "goal", "(I)I"⟩
abbrev cX7_forget : ByteArray := prog_9_method_25_code
def yX7_forget : MethodName := ⟨RX7, "forget", "()I"⟩
abbrev cX7_together : ByteArray := prog_9_method_26_code
def yX7_together : MethodName := ⟨RX7, "together", "(Z)I"⟩
abbrev cX7_why : ByteArray := prog_9_method_27_code
def yX7_why : MethodName := ⟨RX7, "why", "(I)I"⟩
abbrev cX7_make : ByteArray := prog_9_method_28_code
def yX7_make : MethodName := ⟨RX7, "make", "(I)I"⟩
abbrev cX7_pour : ByteArray := prog_9_method_29_code
def yX7_pour : MethodName := ⟨RX7, "pour", "(I)I"⟩
abbrev cX7_undo : ByteArray := prog_9_method_30_code
def yX7_undo : MethodName := ⟨RX7, "undo", "()I"⟩
abbrev cX7_of : ByteArray := prog_9_method_31_code
def yX7_of : MethodName := ⟨RX7, "of", "(II)I"⟩
abbrev cX7_count : ByteArray := prog_9_method_32_code
def yX7_count : MethodName := ⟨RX7, "count", "(I)I"⟩
abbrev cX7_ones : ByteArray := prog_9_method_33_code
def yX7_ones : MethodName := ⟨RX7, "ones", "()I"⟩
abbrev cX7_stood : ByteArray := prog_9_method_34_code
def yX7_stood : MethodName := ⟨RX7, "stood", "(II)I"⟩
abbrev cX7_stand : ByteArray := prog_9_method_35_code
def yX7_stand : MethodName := ⟨RX7, "stand", "(I)Z"⟩
abbrev cX7_isEnd : ByteArray := prog_9_method_36_code
def yX7_isEnd : MethodName := ⟨RX7, "isEnd", "(II)Z"⟩
abbrev cX7_behind : ByteArray := prog_9_method_37_code
def yX7_behind : MethodName := ⟨RX7, "behind", "(III)I"⟩
abbrev cX7_price : ByteArray := prog_9_method_38_code
def yX7_price : MethodName := ⟨RX7, "price", "(I)I"⟩
abbrev cX7_spread : ByteArray := prog_9_method_39_code
def yX7_spread : MethodName := ⟨RX7, "spread", "(I)I"⟩
abbrev cX7_trace : ByteArray := prog_9_method_40_code
def yX7_trace : MethodName := ⟨RX7, "trace", "(II)V"⟩
abbrev cX7_fewest : ByteArray := prog_9_method_41_code
def yX7_fewest : MethodName := ⟨RX7, "fewest", "(I)I"⟩
abbrev cX7_least : ByteArray := prog_9_method_42_code
def yX7_least : MethodName := ⟨RX7, "least", "()I"⟩
abbrev cX7_plan : ByteArray := prog_9_method_43_code
def yX7_plan : MethodName := ⟨RX7, "plan", "(II)I"⟩
abbrev cX7_reach : ByteArray := prog_9_method_44_code
def yX7_reach : MethodName := ⟨RX7, "reach", "(I)I"⟩
abbrev cX7_isPlain : ByteArray := prog_9_method_45_code
def yX7_isPlain : MethodName := ⟨RX7, "isPlain", "()Z"⟩
abbrev cX7_bitBehind : ByteArray := prog_9_method_46_code
def yX7_bitBehind : MethodName := ⟨RX7, "bitBehind", "(III)I"⟩
abbrev cX7_row : ByteArray := prog_9_method_47_code
def yX7_row : MethodName := ⟨RX7, "row", "(I)I"⟩
abbrev cX7_bit : ByteArray := prog_9_method_48_code
def yX7_bit : MethodName := ⟨RX7, "bit", "(I)I"⟩
abbrev cX7_flip : ByteArray := prog_9_method_49_code
def yX7_flip : MethodName := ⟨RX7, "flip", "(I)I"⟩
abbrev cX7_faultOf : ByteArray := prog_9_method_50_code
def yX7_faultOf : MethodName := ⟨RX7, "faultOf", "(II)I"⟩
abbrev cX7_check : ByteArray := prog_9_method_51_code
def yX7_check : MethodName := ⟨RX7, "check", "(I)I"⟩
abbrev cX7_where : ByteArray := prog_9_method_52_code
def yX7_where : MethodName := ⟨RX7, "where", "()I"⟩
def RJ6 : String := "java/lang/Integer"
def TJ6 : u_T := fun k => match k with
  | _ => ("", "", "", false)
def tyJ6 : Nat → FieldType := fun k => match k with
  | _ => .int
abbrev wsJ60 : List Cond := u_ws RJ6 TJ6 0
theorem nmJ6 : ∀ a, a < 0 → ∀ b, b < 0 → a ≠ b → (TJ6 a).2.1 ≠ (TJ6 b).2.1 := by decide +kernel
theorem tyJ6_ok : ∀ k, k < 0 → parseFieldDescriptor (TJ6 k).2.2.1 = some (tyJ6 k) := by decide +kernel
abbrev cJ6_bitCount_0f7a4 : ByteArray := prog_10_method_49_code
def yJ6_bitCount_0f7a4 : MethodName := ⟨RJ6, "bitCount", "(I)I"⟩
def RJ9 : String := "java/lang/Math"
def TJ9 : u_T := fun k => match k with
  | _ => ("", "", "", false)
def tyJ9 : Nat → FieldType := fun k => match k with
  | _ => .int
abbrev wsJ90 : List Cond := u_ws RJ9 TJ9 0
theorem nmJ9 : ∀ a, a < 0 → ∀ b, b < 0 → a ≠ b → (TJ9 a).2.1 ≠ (TJ9 b).2.1 := by decide +kernel
theorem tyJ9_ok : ∀ k, k < 0 → parseFieldDescriptor (TJ9 k).2.2.1 = some (tyJ9 k) := by decide +kernel
abbrev cJ9_max_7cf53 : ByteArray := prog_11_method_65_code
def yJ9_max_7cf53 : MethodName := ⟨RJ9, "max", "(II)I"⟩
abbrev cJ9_min_7cf53 : ByteArray := prog_11_method_69_code
def yJ9_min_7cf53 : MethodName := ⟨RJ9, "min", "(II)I"⟩
def RJ7 : String := "java/util/Arrays"
def TJ7 : u_T := fun k => match k with
  | _ => ("", "", "", false)
def tyJ7 : Nat → FieldType := fun k => match k with
  | _ => .int
abbrev wsJ70 : List Cond := u_ws RJ7 TJ7 0
theorem nmJ7 : ∀ a, a < 0 → ∀ b, b < 0 → a ≠ b → (TJ7 a).2.1 ≠ (TJ7 b).2.1 := by decide +kernel
theorem tyJ7_ok : ∀ k, k < 0 → parseFieldDescriptor (TJ7 k).2.2.1 = some (tyJ7 k) := by decide +kernel
abbrev cJ7_fill_53178 : ByteArray := prog_12_method_103_code
def yJ7_fill_53178 : MethodName := ⟨RJ7, "fill", "([II)V"⟩
abbrev cJ7_fill_031fb : ByteArray := prog_12_method_109_code
def yJ7_fill_031fb : MethodName := ⟨RJ7, "fill", "([BB)V"⟩
def RL : String := "DyeVatsLaw"
abbrev cL_law : ByteArray := code
def yL_law : MethodName := ⟨RL, "law", "([I)Z"⟩
abbrev vwCl : List vw_C := [(RX0, TX0, 4), (RX1, TX1, 9), (RX2, TX2, 5), (RX3, TX3, 3), (RX4, TX4, 3), (RX5, TX5, 12), (RX6, TX6, 9), (RX7, TX7, 28)]
end
section
theorem dJ6_bitCount_0f7a4_0 : decode cJ6_bitCount_0f7a4 0 = .ok (.iload_n 0, 1) := by decide +kernel
theorem dJ6_bitCount_0f7a4_1 : decode cJ6_bitCount_0f7a4 1 = .ok (.iload_n 0, 1) := by decide +kernel
theorem dJ6_bitCount_0f7a4_2 : decode cJ6_bitCount_0f7a4 2 = .ok (.iconst 1, 1) := by decide +kernel
theorem dJ6_bitCount_0f7a4_3 : decode cJ6_bitCount_0f7a4 3 = .ok (.iushr, 1) := by decide +kernel
theorem dJ6_bitCount_0f7a4_4 : decode cJ6_bitCount_0f7a4 4 = .ok (.ldc_w 265, 3) := by decide +kernel
theorem dJ6_bitCount_0f7a4_7 : decode cJ6_bitCount_0f7a4 7 = .ok (.iand, 1) := by decide +kernel
theorem dJ6_bitCount_0f7a4_8 : decode cJ6_bitCount_0f7a4 8 = .ok (.isub, 1) := by decide +kernel
theorem dJ6_bitCount_0f7a4_9 : decode cJ6_bitCount_0f7a4 9 = .ok (.istore_n 0, 1) := by decide +kernel
theorem dJ6_bitCount_0f7a4_10 : decode cJ6_bitCount_0f7a4 10 = .ok (.iload_n 0, 1) := by decide +kernel
theorem dJ6_bitCount_0f7a4_11 : decode cJ6_bitCount_0f7a4 11 = .ok (.ldc_w 266, 3) := by decide +kernel
theorem dJ6_bitCount_0f7a4_14 : decode cJ6_bitCount_0f7a4 14 = .ok (.iand, 1) := by decide +kernel
theorem dJ6_bitCount_0f7a4_15 : decode cJ6_bitCount_0f7a4 15 = .ok (.iload_n 0, 1) := by decide +kernel
theorem dJ6_bitCount_0f7a4_16 : decode cJ6_bitCount_0f7a4 16 = .ok (.iconst 2, 1) := by decide +kernel
theorem dJ6_bitCount_0f7a4_17 : decode cJ6_bitCount_0f7a4 17 = .ok (.iushr, 1) := by decide +kernel
theorem dJ6_bitCount_0f7a4_18 : decode cJ6_bitCount_0f7a4 18 = .ok (.ldc_w 266, 3) := by decide +kernel
theorem dJ6_bitCount_0f7a4_21 : decode cJ6_bitCount_0f7a4 21 = .ok (.iand, 1) := by decide +kernel
theorem dJ6_bitCount_0f7a4_22 : decode cJ6_bitCount_0f7a4 22 = .ok (.iadd, 1) := by decide +kernel
theorem dJ6_bitCount_0f7a4_23 : decode cJ6_bitCount_0f7a4 23 = .ok (.istore_n 0, 1) := by decide +kernel
theorem dJ6_bitCount_0f7a4_24 : decode cJ6_bitCount_0f7a4 24 = .ok (.iload_n 0, 1) := by decide +kernel
theorem dJ6_bitCount_0f7a4_25 : decode cJ6_bitCount_0f7a4 25 = .ok (.iload_n 0, 1) := by decide +kernel
theorem dJ6_bitCount_0f7a4_26 : decode cJ6_bitCount_0f7a4 26 = .ok (.iconst 4, 1) := by decide +kernel
theorem dJ6_bitCount_0f7a4_27 : decode cJ6_bitCount_0f7a4 27 = .ok (.iushr, 1) := by decide +kernel
theorem dJ6_bitCount_0f7a4_28 : decode cJ6_bitCount_0f7a4 28 = .ok (.iadd, 1) := by decide +kernel
theorem dJ6_bitCount_0f7a4_29 : decode cJ6_bitCount_0f7a4 29 = .ok (.ldc_w 267, 3) := by decide +kernel
theorem dJ6_bitCount_0f7a4_32 : decode cJ6_bitCount_0f7a4 32 = .ok (.iand, 1) := by decide +kernel
theorem dJ6_bitCount_0f7a4_33 : decode cJ6_bitCount_0f7a4 33 = .ok (.istore_n 0, 1) := by decide +kernel
theorem dJ6_bitCount_0f7a4_34 : decode cJ6_bitCount_0f7a4 34 = .ok (.iload_n 0, 1) := by decide +kernel
theorem dJ6_bitCount_0f7a4_35 : decode cJ6_bitCount_0f7a4 35 = .ok (.iload_n 0, 1) := by decide +kernel
theorem dJ6_bitCount_0f7a4_36 : decode cJ6_bitCount_0f7a4 36 = .ok (.bipush 8, 2) := by decide +kernel
theorem dJ6_bitCount_0f7a4_38 : decode cJ6_bitCount_0f7a4 38 = .ok (.iushr, 1) := by decide +kernel
theorem dJ6_bitCount_0f7a4_39 : decode cJ6_bitCount_0f7a4 39 = .ok (.iadd, 1) := by decide +kernel
theorem dJ6_bitCount_0f7a4_40 : decode cJ6_bitCount_0f7a4 40 = .ok (.istore_n 0, 1) := by decide +kernel
theorem dJ6_bitCount_0f7a4_41 : decode cJ6_bitCount_0f7a4 41 = .ok (.iload_n 0, 1) := by decide +kernel
theorem dJ6_bitCount_0f7a4_42 : decode cJ6_bitCount_0f7a4 42 = .ok (.iload_n 0, 1) := by decide +kernel
theorem dJ6_bitCount_0f7a4_43 : decode cJ6_bitCount_0f7a4 43 = .ok (.bipush 16, 2) := by decide +kernel
theorem dJ6_bitCount_0f7a4_45 : decode cJ6_bitCount_0f7a4 45 = .ok (.iushr, 1) := by decide +kernel
theorem dJ6_bitCount_0f7a4_46 : decode cJ6_bitCount_0f7a4 46 = .ok (.iadd, 1) := by decide +kernel
theorem dJ6_bitCount_0f7a4_47 : decode cJ6_bitCount_0f7a4 47 = .ok (.istore_n 0, 1) := by decide +kernel
theorem dJ6_bitCount_0f7a4_48 : decode cJ6_bitCount_0f7a4 48 = .ok (.iload_n 0, 1) := by decide +kernel
theorem dJ6_bitCount_0f7a4_49 : decode cJ6_bitCount_0f7a4 49 = .ok (.bipush 63, 2) := by decide +kernel
theorem dJ6_bitCount_0f7a4_51 : decode cJ6_bitCount_0f7a4 51 = .ok (.iand, 1) := by decide +kernel
theorem dJ6_bitCount_0f7a4_52 : decode cJ6_bitCount_0f7a4 52 = .ok (.ireturn, 1) := by decide +kernel
theorem dJ7_fill_53178_0 : decode cJ7_fill_53178 0 = .ok (.iconst 0, 1) := by decide +kernel
theorem dJ7_fill_53178_1 : decode cJ7_fill_53178 1 = .ok (.istore_n 2, 1) := by decide +kernel
theorem dJ7_fill_53178_2 : decode cJ7_fill_53178 2 = .ok (.aload_n 0, 1) := by decide +kernel
theorem dJ7_fill_53178_3 : decode cJ7_fill_53178 3 = .ok (.arraylength, 1) := by decide +kernel
theorem dJ7_fill_53178_4 : decode cJ7_fill_53178 4 = .ok (.istore_n 3, 1) := by decide +kernel
theorem dJ7_fill_53178_5 : decode cJ7_fill_53178 5 = .ok (.iload_n 2, 1) := by decide +kernel
theorem dJ7_fill_53178_6 : decode cJ7_fill_53178 6 = .ok (.iload_n 3, 1) := by decide +kernel
theorem dJ7_fill_53178_7 : decode cJ7_fill_53178 7 = .ok (.if_icmp .ge 13, 3) := by decide +kernel
theorem dJ7_fill_53178_10 : decode cJ7_fill_53178 10 = .ok (.aload_n 0, 1) := by decide +kernel
theorem dJ7_fill_53178_11 : decode cJ7_fill_53178 11 = .ok (.iload_n 2, 1) := by decide +kernel
theorem dJ7_fill_53178_12 : decode cJ7_fill_53178 12 = .ok (.iload_n 1, 1) := by decide +kernel
theorem dJ7_fill_53178_13 : decode cJ7_fill_53178 13 = .ok (.iastore, 1) := by decide +kernel
theorem dJ7_fill_53178_14 : decode cJ7_fill_53178 14 = .ok (.iinc 2 1, 3) := by decide +kernel
theorem dJ7_fill_53178_17 : decode cJ7_fill_53178 17 = .ok (.goto (-12), 3) := by decide +kernel
theorem dJ7_fill_53178_20 : decode cJ7_fill_53178 20 = .ok (.return_, 1) := by decide +kernel
theorem dJ7_fill_031fb_0 : decode cJ7_fill_031fb 0 = .ok (.iconst 0, 1) := by decide +kernel
theorem dJ7_fill_031fb_1 : decode cJ7_fill_031fb 1 = .ok (.istore_n 2, 1) := by decide +kernel
theorem dJ7_fill_031fb_2 : decode cJ7_fill_031fb 2 = .ok (.aload_n 0, 1) := by decide +kernel
theorem dJ7_fill_031fb_3 : decode cJ7_fill_031fb 3 = .ok (.arraylength, 1) := by decide +kernel
theorem dJ7_fill_031fb_4 : decode cJ7_fill_031fb 4 = .ok (.istore_n 3, 1) := by decide +kernel
theorem dJ7_fill_031fb_5 : decode cJ7_fill_031fb 5 = .ok (.iload_n 2, 1) := by decide +kernel
theorem dJ7_fill_031fb_6 : decode cJ7_fill_031fb 6 = .ok (.iload_n 3, 1) := by decide +kernel
theorem dJ7_fill_031fb_7 : decode cJ7_fill_031fb 7 = .ok (.if_icmp .ge 13, 3) := by decide +kernel
theorem dJ7_fill_031fb_10 : decode cJ7_fill_031fb 10 = .ok (.aload_n 0, 1) := by decide +kernel
theorem dJ7_fill_031fb_11 : decode cJ7_fill_031fb 11 = .ok (.iload_n 2, 1) := by decide +kernel
theorem dJ7_fill_031fb_12 : decode cJ7_fill_031fb 12 = .ok (.iload_n 1, 1) := by decide +kernel
theorem dJ7_fill_031fb_13 : decode cJ7_fill_031fb 13 = .ok (.bastore, 1) := by decide +kernel
theorem dJ7_fill_031fb_14 : decode cJ7_fill_031fb 14 = .ok (.iinc 2 1, 3) := by decide +kernel
theorem dJ7_fill_031fb_17 : decode cJ7_fill_031fb 17 = .ok (.goto (-12), 3) := by decide +kernel
theorem dJ7_fill_031fb_20 : decode cJ7_fill_031fb 20 = .ok (.return_, 1) := by decide +kernel
theorem dJ9_max_7cf53_0 : decode cJ9_max_7cf53 0 = .ok (.iload_n 0, 1) := by decide +kernel
theorem dJ9_max_7cf53_1 : decode cJ9_max_7cf53 1 = .ok (.iload_n 1, 1) := by decide +kernel
theorem dJ9_max_7cf53_2 : decode cJ9_max_7cf53 2 = .ok (.if_icmp .lt 7, 3) := by decide +kernel
theorem dJ9_max_7cf53_5 : decode cJ9_max_7cf53 5 = .ok (.iload_n 0, 1) := by decide +kernel
theorem dJ9_max_7cf53_6 : decode cJ9_max_7cf53 6 = .ok (.goto 4, 3) := by decide +kernel
theorem dJ9_max_7cf53_9 : decode cJ9_max_7cf53 9 = .ok (.iload_n 1, 1) := by decide +kernel
theorem dJ9_max_7cf53_10 : decode cJ9_max_7cf53 10 = .ok (.ireturn, 1) := by decide +kernel
theorem dJ9_min_7cf53_0 : decode cJ9_min_7cf53 0 = .ok (.iload_n 0, 1) := by decide +kernel
theorem dJ9_min_7cf53_1 : decode cJ9_min_7cf53 1 = .ok (.iload_n 1, 1) := by decide +kernel
theorem dJ9_min_7cf53_2 : decode cJ9_min_7cf53 2 = .ok (.if_icmp .gt 7, 3) := by decide +kernel
theorem dJ9_min_7cf53_5 : decode cJ9_min_7cf53 5 = .ok (.iload_n 0, 1) := by decide +kernel
theorem dJ9_min_7cf53_6 : decode cJ9_min_7cf53 6 = .ok (.goto 4, 3) := by decide +kernel
theorem dJ9_min_7cf53_9 : decode cJ9_min_7cf53 9 = .ok (.iload_n 1, 1) := by decide +kernel
theorem dJ9_min_7cf53_10 : decode cJ9_min_7cf53 10 = .ok (.ireturn, 1) := by decide +kernel
theorem dX0_init_0 : decode cX0_init 0 = .ok (.aload_n 0, 1) := by decide +kernel
theorem dX0_init_1 : decode cX0_init 1 = .ok (.invokespecial 3, 3) := by decide +kernel
theorem dX0_init_4 : decode cX0_init 4 = .ok (.aload_n 0, 1) := by decide +kernel
theorem dX0_init_5 : decode cX0_init 5 = .ok (.iconst 0, 1) := by decide +kernel
theorem dX0_init_6 : decode cX0_init 6 = .ok (.putfield 9, 3) := by decide +kernel
theorem dX0_init_9 : decode cX0_init 9 = .ok (.aload_n 0, 1) := by decide +kernel
theorem dX0_init_10 : decode cX0_init 10 = .ok (.iconst 0, 1) := by decide +kernel
theorem dX0_init_11 : decode cX0_init 11 = .ok (.putfield 15, 3) := by decide +kernel
theorem dX0_init_14 : decode cX0_init 14 = .ok (.aload_n 0, 1) := by decide +kernel
theorem dX0_init_15 : decode cX0_init 15 = .ok (.bipush 100, 2) := by decide +kernel
theorem dX0_init_17 : decode cX0_init 17 = .ok (.newarray .int, 2) := by decide +kernel
theorem dX0_init_19 : decode cX0_init 19 = .ok (.putfield 18, 3) := by decide +kernel
theorem dX0_init_22 : decode cX0_init 22 = .ok (.aload_n 0, 1) := by decide +kernel
theorem dX0_init_23 : decode cX0_init 23 = .ok (.bipush 100, 2) := by decide +kernel
theorem dX0_init_25 : decode cX0_init 25 = .ok (.newarray .int, 2) := by decide +kernel
theorem dX0_init_27 : decode cX0_init 27 = .ok (.putfield 22, 3) := by decide +kernel
theorem dX0_init_30 : decode cX0_init 30 = .ok (.return_, 1) := by decide +kernel
theorem dX0_clear_0 : decode cX0_clear 0 = .ok (.aload_n 0, 1) := by decide +kernel
theorem dX0_clear_1 : decode cX0_clear 1 = .ok (.iconst 0, 1) := by decide +kernel
theorem dX0_clear_2 : decode cX0_clear 2 = .ok (.putfield 9, 3) := by decide +kernel
theorem dX0_clear_5 : decode cX0_clear 5 = .ok (.return_, 1) := by decide +kernel
theorem dX0_keep_0 : decode cX0_keep 0 = .ok (.aload_n 0, 1) := by decide +kernel
theorem dX0_keep_1 : decode cX0_keep 1 = .ok (.getfield 18, 3) := by decide +kernel
theorem dX0_keep_4 : decode cX0_keep 4 = .ok (.aload_n 0, 1) := by decide +kernel
theorem dX0_keep_5 : decode cX0_keep 5 = .ok (.getfield 15, 3) := by decide +kernel
theorem dX0_keep_8 : decode cX0_keep 8 = .ok (.iload_n 1, 1) := by decide +kernel
theorem dX0_keep_9 : decode cX0_keep 9 = .ok (.iastore, 1) := by decide +kernel
theorem dX0_keep_10 : decode cX0_keep 10 = .ok (.aload_n 0, 1) := by decide +kernel
theorem dX0_keep_11 : decode cX0_keep 11 = .ok (.getfield 22, 3) := by decide +kernel
theorem dX0_keep_14 : decode cX0_keep 14 = .ok (.aload_n 0, 1) := by decide +kernel
theorem dX0_keep_15 : decode cX0_keep 15 = .ok (.getfield 15, 3) := by decide +kernel
theorem dX0_keep_18 : decode cX0_keep 18 = .ok (.iload_n 2, 1) := by decide +kernel
theorem dX0_keep_19 : decode cX0_keep 19 = .ok (.iastore, 1) := by decide +kernel
theorem dX0_keep_20 : decode cX0_keep 20 = .ok (.aload_n 0, 1) := by decide +kernel
theorem dX0_keep_21 : decode cX0_keep 21 = .ok (.aload_n 0, 1) := by decide +kernel
theorem dX0_keep_22 : decode cX0_keep 22 = .ok (.getfield 15, 3) := by decide +kernel
theorem dX0_keep_25 : decode cX0_keep 25 = .ok (.iconst 1, 1) := by decide +kernel
theorem dX0_keep_26 : decode cX0_keep 26 = .ok (.iadd, 1) := by decide +kernel
theorem dX0_keep_27 : decode cX0_keep 27 = .ok (.bipush 100, 2) := by decide +kernel
theorem dX0_keep_29 : decode cX0_keep 29 = .ok (.if_icmp .ge 12, 3) := by decide +kernel
theorem dX0_keep_32 : decode cX0_keep 32 = .ok (.aload_n 0, 1) := by decide +kernel
theorem dX0_keep_33 : decode cX0_keep 33 = .ok (.getfield 15, 3) := by decide +kernel
theorem dX0_keep_36 : decode cX0_keep 36 = .ok (.iconst 1, 1) := by decide +kernel
theorem dX0_keep_37 : decode cX0_keep 37 = .ok (.iadd, 1) := by decide +kernel
theorem dX0_keep_38 : decode cX0_keep 38 = .ok (.goto 4, 3) := by decide +kernel
theorem dX0_keep_41 : decode cX0_keep 41 = .ok (.iconst 0, 1) := by decide +kernel
theorem dX0_keep_42 : decode cX0_keep 42 = .ok (.putfield 15, 3) := by decide +kernel
theorem dX0_keep_45 : decode cX0_keep 45 = .ok (.aload_n 0, 1) := by decide +kernel
theorem dX0_keep_46 : decode cX0_keep 46 = .ok (.aload_n 0, 1) := by decide +kernel
theorem dX0_keep_47 : decode cX0_keep 47 = .ok (.getfield 9, 3) := by decide +kernel
theorem dX0_keep_50 : decode cX0_keep 50 = .ok (.iconst 1, 1) := by decide +kernel
theorem dX0_keep_51 : decode cX0_keep 51 = .ok (.iadd, 1) := by decide +kernel
theorem dX0_keep_52 : decode cX0_keep 52 = .ok (.bipush 100, 2) := by decide +kernel
theorem dX0_keep_54 : decode cX0_keep 54 = .ok (.invokestatic 25, 3) := by decide +kernel
theorem dX0_keep_57 : decode cX0_keep 57 = .ok (.putfield 9, 3) := by decide +kernel
theorem dX0_keep_60 : decode cX0_keep 60 = .ok (.return_, 1) := by decide +kernel
theorem dX0_stepBack_0 : decode cX0_stepBack 0 = .ok (.aload_n 0, 1) := by decide +kernel
theorem dX0_stepBack_1 : decode cX0_stepBack 1 = .ok (.aload_n 0, 1) := by decide +kernel
theorem dX0_stepBack_2 : decode cX0_stepBack 2 = .ok (.getfield 15, 3) := by decide +kernel
theorem dX0_stepBack_5 : decode cX0_stepBack 5 = .ok (.ifCond .le 12, 3) := by decide +kernel
theorem dX0_stepBack_8 : decode cX0_stepBack 8 = .ok (.aload_n 0, 1) := by decide +kernel
theorem dX0_stepBack_9 : decode cX0_stepBack 9 = .ok (.getfield 15, 3) := by decide +kernel
theorem dX0_stepBack_12 : decode cX0_stepBack 12 = .ok (.iconst 1, 1) := by decide +kernel
theorem dX0_stepBack_13 : decode cX0_stepBack 13 = .ok (.isub, 1) := by decide +kernel
theorem dX0_stepBack_14 : decode cX0_stepBack 14 = .ok (.goto 5, 3) := by decide +kernel
theorem dX0_stepBack_17 : decode cX0_stepBack 17 = .ok (.bipush 99, 2) := by decide +kernel
theorem dX0_stepBack_19 : decode cX0_stepBack 19 = .ok (.putfield 15, 3) := by decide +kernel
theorem dX0_stepBack_22 : decode cX0_stepBack 22 = .ok (.aload_n 0, 1) := by decide +kernel
theorem dX0_stepBack_23 : decode cX0_stepBack 23 = .ok (.aload_n 0, 1) := by decide +kernel
theorem dX0_stepBack_24 : decode cX0_stepBack 24 = .ok (.getfield 9, 3) := by decide +kernel
theorem dX0_stepBack_27 : decode cX0_stepBack 27 = .ok (.iconst 1, 1) := by decide +kernel
theorem dX0_stepBack_28 : decode cX0_stepBack 28 = .ok (.isub, 1) := by decide +kernel
theorem dX0_stepBack_29 : decode cX0_stepBack 29 = .ok (.iconst 0, 1) := by decide +kernel
theorem dX0_stepBack_30 : decode cX0_stepBack 30 = .ok (.invokestatic 31, 3) := by decide +kernel
theorem dX0_stepBack_33 : decode cX0_stepBack 33 = .ok (.putfield 9, 3) := by decide +kernel
theorem dX0_stepBack_36 : decode cX0_stepBack 36 = .ok (.return_, 1) := by decide +kernel
theorem dX0_sceneThere_0 : decode cX0_sceneThere 0 = .ok (.aload_n 0, 1) := by decide +kernel
theorem dX0_sceneThere_1 : decode cX0_sceneThere 1 = .ok (.getfield 18, 3) := by decide +kernel
theorem dX0_sceneThere_4 : decode cX0_sceneThere 4 = .ok (.aload_n 0, 1) := by decide +kernel
theorem dX0_sceneThere_5 : decode cX0_sceneThere 5 = .ok (.getfield 15, 3) := by decide +kernel
theorem dX0_sceneThere_8 : decode cX0_sceneThere 8 = .ok (.iaload, 1) := by decide +kernel
theorem dX0_sceneThere_9 : decode cX0_sceneThere 9 = .ok (.ireturn, 1) := by decide +kernel
theorem dX0_madeThere_0 : decode cX0_madeThere 0 = .ok (.aload_n 0, 1) := by decide +kernel
theorem dX0_madeThere_1 : decode cX0_madeThere 1 = .ok (.getfield 22, 3) := by decide +kernel
theorem dX0_madeThere_4 : decode cX0_madeThere 4 = .ok (.aload_n 0, 1) := by decide +kernel
theorem dX0_madeThere_5 : decode cX0_madeThere 5 = .ok (.getfield 15, 3) := by decide +kernel
theorem dX0_madeThere_8 : decode cX0_madeThere 8 = .ok (.iaload, 1) := by decide +kernel
theorem dX0_madeThere_9 : decode cX0_madeThere 9 = .ok (.ireturn, 1) := by decide +kernel
theorem dX1_init_0 : decode cX1_init 0 = .ok (.aload_n 0, 1) := by decide +kernel
theorem dX1_init_1 : decode cX1_init 1 = .ok (.invokespecial 7, 3) := by decide +kernel
theorem dX1_init_4 : decode cX1_init 4 = .ok (.aload_n 0, 1) := by decide +kernel
theorem dX1_init_5 : decode cX1_init 5 = .ok (.bipush 19, 2) := by decide +kernel
theorem dX1_init_7 : decode cX1_init 7 = .ok (.newarray .int, 2) := by decide +kernel
theorem dX1_init_9 : decode cX1_init 9 = .ok (.putfield 13, 3) := by decide +kernel
theorem dX1_init_12 : decode cX1_init 12 = .ok (.aload_n 0, 1) := by decide +kernel
theorem dX1_init_13 : decode cX1_init 13 = .ok (.bipush 19, 2) := by decide +kernel
theorem dX1_init_15 : decode cX1_init 15 = .ok (.newarray .int, 2) := by decide +kernel
theorem dX1_init_17 : decode cX1_init 17 = .ok (.putfield 17, 3) := by decide +kernel
theorem dX1_init_20 : decode cX1_init 20 = .ok (.aload_n 0, 1) := by decide +kernel
theorem dX1_init_21 : decode cX1_init 21 = .ok (.sipush 4096, 3) := by decide +kernel
theorem dX1_init_24 : decode cX1_init 24 = .ok (.newarray .int, 2) := by decide +kernel
theorem dX1_init_26 : decode cX1_init 26 = .ok (.putfield 20, 3) := by decide +kernel
theorem dX1_init_29 : decode cX1_init 29 = .ok (.aload_n 0, 1) := by decide +kernel
theorem dX1_init_30 : decode cX1_init 30 = .ok (.sipush 4096, 3) := by decide +kernel
theorem dX1_init_33 : decode cX1_init 33 = .ok (.newarray .int, 2) := by decide +kernel
theorem dX1_init_35 : decode cX1_init 35 = .ok (.putfield 23, 3) := by decide +kernel
theorem dX1_init_38 : decode cX1_init 38 = .ok (.aload_n 0, 1) := by decide +kernel
theorem dX1_init_39 : decode cX1_init 39 = .ok (.iconst 0, 1) := by decide +kernel
theorem dX1_init_40 : decode cX1_init 40 = .ok (.putfield 26, 3) := by decide +kernel
theorem dX1_init_43 : decode cX1_init 43 = .ok (.aload_n 0, 1) := by decide +kernel
theorem dX1_init_44 : decode cX1_init 44 = .ok (.iconst (-1), 1) := by decide +kernel
theorem dX1_init_45 : decode cX1_init 45 = .ok (.putfield 30, 3) := by decide +kernel
theorem dX1_init_48 : decode cX1_init 48 = .ok (.aload_n 0, 1) := by decide +kernel
theorem dX1_init_49 : decode cX1_init 49 = .ok (.iconst (-1), 1) := by decide +kernel
theorem dX1_init_50 : decode cX1_init 50 = .ok (.putfield 33, 3) := by decide +kernel
theorem dX1_init_53 : decode cX1_init 53 = .ok (.aload_n 0, 1) := by decide +kernel
theorem dX1_init_54 : decode cX1_init 54 = .ok (.iconst (-1), 1) := by decide +kernel
theorem dX1_init_55 : decode cX1_init 55 = .ok (.putfield 36, 3) := by decide +kernel
theorem dX1_init_58 : decode cX1_init 58 = .ok (.aload_n 0, 1) := by decide +kernel
theorem dX1_init_59 : decode cX1_init 59 = .ok (.aload_n 1, 1) := by decide +kernel
theorem dX1_init_60 : decode cX1_init 60 = .ok (.putfield 39, 3) := by decide +kernel
theorem dX1_init_63 : decode cX1_init 63 = .ok (.aload_n 0, 1) := by decide +kernel
theorem dX1_init_64 : decode cX1_init 64 = .ok (.getfield 13, 3) := by decide +kernel
theorem dX1_init_67 : decode cX1_init 67 = .ok (.bipush (-9), 2) := by decide +kernel
theorem dX1_init_69 : decode cX1_init 69 = .ok (.invokestatic 43, 3) := by decide +kernel
theorem dX1_init_72 : decode cX1_init 72 = .ok (.aload_n 0, 1) := by decide +kernel
theorem dX1_init_73 : decode cX1_init 73 = .ok (.getfield 17, 3) := by decide +kernel
theorem dX1_init_76 : decode cX1_init 76 = .ok (.bipush (-9), 2) := by decide +kernel
theorem dX1_init_78 : decode cX1_init 78 = .ok (.invokestatic 43, 3) := by decide +kernel
theorem dX1_init_81 : decode cX1_init 81 = .ok (.return_, 1) := by decide +kernel
theorem dX1_outdate_0 : decode cX1_outdate 0 = .ok (.aload_n 0, 1) := by decide +kernel
theorem dX1_outdate_1 : decode cX1_outdate 1 = .ok (.getfield 13, 3) := by decide +kernel
theorem dX1_outdate_4 : decode cX1_outdate 4 = .ok (.bipush (-9), 2) := by decide +kernel
theorem dX1_outdate_6 : decode cX1_outdate 6 = .ok (.invokestatic 43, 3) := by decide +kernel
theorem dX1_outdate_9 : decode cX1_outdate 9 = .ok (.aload_n 0, 1) := by decide +kernel
theorem dX1_outdate_10 : decode cX1_outdate 10 = .ok (.getfield 17, 3) := by decide +kernel
theorem dX1_outdate_13 : decode cX1_outdate 13 = .ok (.bipush (-9), 2) := by decide +kernel
theorem dX1_outdate_15 : decode cX1_outdate 15 = .ok (.invokestatic 43, 3) := by decide +kernel
theorem dX1_outdate_18 : decode cX1_outdate 18 = .ok (.aload_n 0, 1) := by decide +kernel
theorem dX1_outdate_19 : decode cX1_outdate 19 = .ok (.iconst (-1), 1) := by decide +kernel
theorem dX1_outdate_20 : decode cX1_outdate 20 = .ok (.putfield 33, 3) := by decide +kernel
theorem dX1_outdate_23 : decode cX1_outdate 23 = .ok (.aload_n 0, 1) := by decide +kernel
theorem dX1_outdate_24 : decode cX1_outdate 24 = .ok (.iconst (-1), 1) := by decide +kernel
theorem dX1_outdate_25 : decode cX1_outdate 25 = .ok (.putfield 36, 3) := by decide +kernel
theorem dX1_outdate_28 : decode cX1_outdate 28 = .ok (.return_, 1) := by decide +kernel
theorem dX1_makesFor_0 : decode cX1_makesFor 0 = .ok (.aload_n 0, 1) := by decide +kernel
theorem dX1_makesFor_1 : decode cX1_makesFor 1 = .ok (.getfield 13, 3) := by decide +kernel
theorem dX1_makesFor_4 : decode cX1_makesFor 4 = .ok (.iload_n 1, 1) := by decide +kernel
theorem dX1_makesFor_5 : decode cX1_makesFor 5 = .ok (.iaload, 1) := by decide +kernel
theorem dX1_makesFor_6 : decode cX1_makesFor 6 = .ok (.bipush (-9), 2) := by decide +kernel
theorem dX1_makesFor_8 : decode cX1_makesFor 8 = .ok (.if_icmp .ne 8, 3) := by decide +kernel
theorem dX1_makesFor_11 : decode cX1_makesFor 11 = .ok (.aload_n 0, 1) := by decide +kernel
theorem dX1_makesFor_12 : decode cX1_makesFor 12 = .ok (.iload_n 1, 1) := by decide +kernel
theorem dX1_makesFor_13 : decode cX1_makesFor 13 = .ok (.invokevirtual 49, 3) := by decide +kernel
theorem dX1_makesFor_16 : decode cX1_makesFor 16 = .ok (.aload_n 0, 1) := by decide +kernel
theorem dX1_makesFor_17 : decode cX1_makesFor 17 = .ok (.getfield 13, 3) := by decide +kernel
theorem dX1_makesFor_20 : decode cX1_makesFor 20 = .ok (.iload_n 1, 1) := by decide +kernel
theorem dX1_makesFor_21 : decode cX1_makesFor 21 = .ok (.iaload, 1) := by decide +kernel
theorem dX1_makesFor_22 : decode cX1_makesFor 22 = .ok (.ireturn, 1) := by decide +kernel
theorem dX1_actsFor_0 : decode cX1_actsFor 0 = .ok (.aload_n 0, 1) := by decide +kernel
theorem dX1_actsFor_1 : decode cX1_actsFor 1 = .ok (.getfield 36, 3) := by decide +kernel
theorem dX1_actsFor_4 : decode cX1_actsFor 4 = .ok (.iload_n 1, 1) := by decide +kernel
theorem dX1_actsFor_5 : decode cX1_actsFor 5 = .ok (.if_icmp .eq 44, 3) := by decide +kernel
theorem dX1_actsFor_8 : decode cX1_actsFor 8 = .ok (.aload_n 0, 1) := by decide +kernel
theorem dX1_actsFor_9 : decode cX1_actsFor 9 = .ok (.getfield 33, 3) := by decide +kernel
theorem dX1_actsFor_12 : decode cX1_actsFor 12 = .ok (.iload_n 1, 1) := by decide +kernel
theorem dX1_actsFor_13 : decode cX1_actsFor 13 = .ok (.if_icmp .eq 8, 3) := by decide +kernel
theorem dX1_actsFor_16 : decode cX1_actsFor 16 = .ok (.aload_n 0, 1) := by decide +kernel
theorem dX1_actsFor_17 : decode cX1_actsFor 17 = .ok (.iload_n 1, 1) := by decide +kernel
theorem dX1_actsFor_18 : decode cX1_actsFor 18 = .ok (.invokevirtual 49, 3) := by decide +kernel
theorem dX1_actsFor_21 : decode cX1_actsFor 21 = .ok (.aload_n 0, 1) := by decide +kernel
theorem dX1_actsFor_22 : decode cX1_actsFor 22 = .ok (.getfield 30, 3) := by decide +kernel
theorem dX1_actsFor_25 : decode cX1_actsFor 25 = .ok (.iconst (-1), 1) := by decide +kernel
theorem dX1_actsFor_26 : decode cX1_actsFor 26 = .ok (.if_icmp .eq 13, 3) := by decide +kernel
theorem dX1_actsFor_29 : decode cX1_actsFor 29 = .ok (.aload_n 0, 1) := by decide +kernel
theorem dX1_actsFor_30 : decode cX1_actsFor 30 = .ok (.iload_n 1, 1) := by decide +kernel
theorem dX1_actsFor_31 : decode cX1_actsFor 31 = .ok (.invokevirtual 53, 3) := by decide +kernel
theorem dX1_actsFor_34 : decode cX1_actsFor 34 = .ok (.aload_n 0, 1) := by decide +kernel
theorem dX1_actsFor_35 : decode cX1_actsFor 35 = .ok (.iload_n 1, 1) := by decide +kernel
theorem dX1_actsFor_36 : decode cX1_actsFor 36 = .ok (.invokevirtual 56, 3) := by decide +kernel
theorem dX1_actsFor_39 : decode cX1_actsFor 39 = .ok (.aload_n 0, 1) := by decide +kernel
theorem dX1_actsFor_40 : decode cX1_actsFor 40 = .ok (.iconst (-1), 1) := by decide +kernel
theorem dX1_actsFor_41 : decode cX1_actsFor 41 = .ok (.putfield 33, 3) := by decide +kernel
theorem dX1_actsFor_44 : decode cX1_actsFor 44 = .ok (.aload_n 0, 1) := by decide +kernel
theorem dX1_actsFor_45 : decode cX1_actsFor 45 = .ok (.iload_n 1, 1) := by decide +kernel
theorem dX1_actsFor_46 : decode cX1_actsFor 46 = .ok (.putfield 36, 3) := by decide +kernel
theorem dX1_actsFor_49 : decode cX1_actsFor 49 = .ok (.aload_n 0, 1) := by decide +kernel
theorem dX1_actsFor_50 : decode cX1_actsFor 50 = .ok (.getfield 30, 3) := by decide +kernel
theorem dX1_actsFor_53 : decode cX1_actsFor 53 = .ok (.iconst (-1), 1) := by decide +kernel
theorem dX1_actsFor_54 : decode cX1_actsFor 54 = .ok (.if_icmp .ne 7, 3) := by decide +kernel
theorem dX1_actsFor_57 : decode cX1_actsFor 57 = .ok (.iconst (-1), 1) := by decide +kernel
theorem dX1_actsFor_58 : decode cX1_actsFor 58 = .ok (.goto 10, 3) := by decide +kernel
theorem dX1_actsFor_61 : decode cX1_actsFor 61 = .ok (.aload_n 0, 1) := by decide +kernel
theorem dX1_actsFor_62 : decode cX1_actsFor 62 = .ok (.getfield 30, 3) := by decide +kernel
theorem dX1_actsFor_65 : decode cX1_actsFor 65 = .ok (.ldc 59, 2) := by decide +kernel
theorem dX1_actsFor_67 : decode cX1_actsFor 67 = .ok (.iand, 1) := by decide +kernel
theorem dX1_actsFor_68 : decode cX1_actsFor 68 = .ok (.ireturn, 1) := by decide +kernel
theorem dX1_actAt_0 : decode cX1_actAt 0 = .ok (.iload_n 1, 1) := by decide +kernel
theorem dX1_actAt_1 : decode cX1_actAt 1 = .ok (.ifCond .lt 21, 3) := by decide +kernel
theorem dX1_actAt_4 : decode cX1_actAt 4 = .ok (.iload_n 1, 1) := by decide +kernel
theorem dX1_actAt_5 : decode cX1_actAt 5 = .ok (.aload_n 0, 1) := by decide +kernel
theorem dX1_actAt_6 : decode cX1_actAt 6 = .ok (.getfield 23, 3) := by decide +kernel
theorem dX1_actAt_9 : decode cX1_actAt 9 = .ok (.arraylength, 1) := by decide +kernel
theorem dX1_actAt_10 : decode cX1_actAt 10 = .ok (.if_icmp .ge 12, 3) := by decide +kernel
theorem dX1_actAt_13 : decode cX1_actAt 13 = .ok (.aload_n 0, 1) := by decide +kernel
theorem dX1_actAt_14 : decode cX1_actAt 14 = .ok (.getfield 23, 3) := by decide +kernel
theorem dX1_actAt_17 : decode cX1_actAt 17 = .ok (.iload_n 1, 1) := by decide +kernel
theorem dX1_actAt_18 : decode cX1_actAt 18 = .ok (.iaload, 1) := by decide +kernel
theorem dX1_actAt_19 : decode cX1_actAt 19 = .ok (.goto 4, 3) := by decide +kernel
theorem dX1_actAt_22 : decode cX1_actAt 22 = .ok (.iconst (-1), 1) := by decide +kernel
theorem dX1_actAt_23 : decode cX1_actAt 23 = .ok (.ireturn, 1) := by decide +kernel
theorem dX1_scenesFor_0 : decode cX1_scenesFor 0 = .ok (.aload_n 0, 1) := by decide +kernel
theorem dX1_scenesFor_1 : decode cX1_scenesFor 1 = .ok (.getfield 17, 3) := by decide +kernel
theorem dX1_scenesFor_4 : decode cX1_scenesFor 4 = .ok (.iload_n 1, 1) := by decide +kernel
theorem dX1_scenesFor_5 : decode cX1_scenesFor 5 = .ok (.iaload, 1) := by decide +kernel
theorem dX1_scenesFor_6 : decode cX1_scenesFor 6 = .ok (.bipush (-9), 2) := by decide +kernel
theorem dX1_scenesFor_8 : decode cX1_scenesFor 8 = .ok (.if_icmp .ne 94, 3) := by decide +kernel
theorem dX1_scenesFor_11 : decode cX1_scenesFor 11 = .ok (.aload_n 0, 1) := by decide +kernel
theorem dX1_scenesFor_12 : decode cX1_scenesFor 12 = .ok (.invokevirtual 60, 3) := by decide +kernel
theorem dX1_scenesFor_15 : decode cX1_scenesFor 15 = .ok (.iconst 0, 1) := by decide +kernel
theorem dX1_scenesFor_16 : decode cX1_scenesFor 16 = .ok (.istore_n 2, 1) := by decide +kernel
theorem dX1_scenesFor_17 : decode cX1_scenesFor 17 = .ok (.iload_n 2, 1) := by decide +kernel
theorem dX1_scenesFor_18 : decode cX1_scenesFor 18 = .ok (.aload_n 0, 1) := by decide +kernel
theorem dX1_scenesFor_19 : decode cX1_scenesFor 19 = .ok (.getfield 23, 3) := by decide +kernel
theorem dX1_scenesFor_22 : decode cX1_scenesFor 22 = .ok (.arraylength, 1) := by decide +kernel
theorem dX1_scenesFor_23 : decode cX1_scenesFor 23 = .ok (.if_icmp .ge 69, 3) := by decide +kernel
theorem dX1_scenesFor_26 : decode cX1_scenesFor 26 = .ok (.iload_n 2, 1) := by decide +kernel
theorem dX1_scenesFor_27 : decode cX1_scenesFor 27 = .ok (.aload_n 0, 1) := by decide +kernel
theorem dX1_scenesFor_28 : decode cX1_scenesFor 28 = .ok (.getfield 26, 3) := by decide +kernel
theorem dX1_scenesFor_31 : decode cX1_scenesFor 31 = .ok (.if_icmp .ge 61, 3) := by decide +kernel
theorem dX1_scenesFor_34 : decode cX1_scenesFor 34 = .ok (.iconst 0, 1) := by decide +kernel
theorem dX1_scenesFor_35 : decode cX1_scenesFor 35 = .ok (.istore_n 3, 1) := by decide +kernel
theorem dX1_scenesFor_36 : decode cX1_scenesFor 36 = .ok (.iload_n 3, 1) := by decide +kernel
theorem dX1_scenesFor_37 : decode cX1_scenesFor 37 = .ok (.bipush 18, 2) := by decide +kernel
theorem dX1_scenesFor_39 : decode cX1_scenesFor 39 = .ok (.if_icmp .ge 47, 3) := by decide +kernel
theorem dX1_scenesFor_42 : decode cX1_scenesFor 42 = .ok (.aload_n 0, 1) := by decide +kernel
theorem dX1_scenesFor_43 : decode cX1_scenesFor 43 = .ok (.getfield 39, 3) := by decide +kernel
theorem dX1_scenesFor_46 : decode cX1_scenesFor 46 = .ok (.aload_n 0, 1) := by decide +kernel
theorem dX1_scenesFor_47 : decode cX1_scenesFor 47 = .ok (.getfield 23, 3) := by decide +kernel
theorem dX1_scenesFor_50 : decode cX1_scenesFor 50 = .ok (.iload_n 2, 1) := by decide +kernel
theorem dX1_scenesFor_51 : decode cX1_scenesFor 51 = .ok (.iaload, 1) := by decide +kernel
theorem dX1_scenesFor_52 : decode cX1_scenesFor 52 = .ok (.iload_n 3, 1) := by decide +kernel
theorem dX1_scenesFor_53 : decode cX1_scenesFor 53 = .ok (.iload_n 1, 1) := by decide +kernel
theorem dX1_scenesFor_54 : decode cX1_scenesFor 54 = .ok (.invokevirtual 63, 3) := by decide +kernel
theorem dX1_scenesFor_57 : decode cX1_scenesFor 57 = .ok (.istore 4, 2) := by decide +kernel
theorem dX1_scenesFor_59 : decode cX1_scenesFor 59 = .ok (.aload_n 0, 1) := by decide +kernel
theorem dX1_scenesFor_60 : decode cX1_scenesFor 60 = .ok (.iload 4, 2) := by decide +kernel
theorem dX1_scenesFor_62 : decode cX1_scenesFor 62 = .ok (.iconst (-1), 1) := by decide +kernel
theorem dX1_scenesFor_63 : decode cX1_scenesFor 63 = .ok (.if_icmp .ne 7, 3) := by decide +kernel
theorem dX1_scenesFor_66 : decode cX1_scenesFor 66 = .ok (.iconst (-1), 1) := by decide +kernel
theorem dX1_scenesFor_67 : decode cX1_scenesFor 67 = .ok (.goto 9, 3) := by decide +kernel
theorem dX1_scenesFor_70 : decode cX1_scenesFor 70 = .ok (.iload 4, 2) := by decide +kernel
theorem dX1_scenesFor_72 : decode cX1_scenesFor 72 = .ok (.sipush (-3585), 3) := by decide +kernel
theorem dX1_scenesFor_75 : decode cX1_scenesFor 75 = .ok (.iand, 1) := by decide +kernel
theorem dX1_scenesFor_76 : decode cX1_scenesFor 76 = .ok (.iconst 0, 1) := by decide +kernel
theorem dX1_scenesFor_77 : decode cX1_scenesFor 77 = .ok (.invokevirtual 69, 3) := by decide +kernel
theorem dX1_scenesFor_80 : decode cX1_scenesFor 80 = .ok (.iinc 3 1, 3) := by decide +kernel
theorem dX1_scenesFor_83 : decode cX1_scenesFor 83 = .ok (.goto (-47), 3) := by decide +kernel
theorem dX1_scenesFor_86 : decode cX1_scenesFor 86 = .ok (.iinc 2 1, 3) := by decide +kernel
theorem dX1_scenesFor_89 : decode cX1_scenesFor 89 = .ok (.goto (-72), 3) := by decide +kernel
theorem dX1_scenesFor_92 : decode cX1_scenesFor 92 = .ok (.aload_n 0, 1) := by decide +kernel
theorem dX1_scenesFor_93 : decode cX1_scenesFor 93 = .ok (.getfield 17, 3) := by decide +kernel
theorem dX1_scenesFor_96 : decode cX1_scenesFor 96 = .ok (.iload_n 1, 1) := by decide +kernel
theorem dX1_scenesFor_97 : decode cX1_scenesFor 97 = .ok (.aload_n 0, 1) := by decide +kernel
theorem dX1_scenesFor_98 : decode cX1_scenesFor 98 = .ok (.getfield 26, 3) := by decide +kernel
theorem dX1_scenesFor_101 : decode cX1_scenesFor 101 = .ok (.iastore, 1) := by decide +kernel
theorem dX1_scenesFor_102 : decode cX1_scenesFor 102 = .ok (.aload_n 0, 1) := by decide +kernel
theorem dX1_scenesFor_103 : decode cX1_scenesFor 103 = .ok (.getfield 17, 3) := by decide +kernel
theorem dX1_scenesFor_106 : decode cX1_scenesFor 106 = .ok (.iload_n 1, 1) := by decide +kernel
theorem dX1_scenesFor_107 : decode cX1_scenesFor 107 = .ok (.iaload, 1) := by decide +kernel
theorem dX1_scenesFor_108 : decode cX1_scenesFor 108 = .ok (.ireturn, 1) := by decide +kernel
theorem dX1_startLine_0 : decode cX1_startLine 0 = .ok (.aload_n 0, 1) := by decide +kernel
theorem dX1_startLine_1 : decode cX1_startLine 1 = .ok (.getfield 39, 3) := by decide +kernel
theorem dX1_startLine_4 : decode cX1_startLine 4 = .ok (.invokevirtual 73, 3) := by decide +kernel
theorem dX1_startLine_7 : decode cX1_startLine 7 = .ok (.ifCond .eq 8, 3) := by decide +kernel
theorem dX1_startLine_10 : decode cX1_startLine 10 = .ok (.ldc 77, 2) := by decide +kernel
theorem dX1_startLine_12 : decode cX1_startLine 12 = .ok (.goto 6, 3) := by decide +kernel
theorem dX1_startLine_15 : decode cX1_startLine 15 = .ok (.sipush 4096, 3) := by decide +kernel
theorem dX1_startLine_18 : decode cX1_startLine 18 = .ok (.istore_n 1, 1) := by decide +kernel
theorem dX1_startLine_19 : decode cX1_startLine 19 = .ok (.aload_n 0, 1) := by decide +kernel
theorem dX1_startLine_20 : decode cX1_startLine 20 = .ok (.getfield 20, 3) := by decide +kernel
theorem dX1_startLine_23 : decode cX1_startLine 23 = .ok (.arraylength, 1) := by decide +kernel
theorem dX1_startLine_24 : decode cX1_startLine 24 = .ok (.iload_n 1, 1) := by decide +kernel
theorem dX1_startLine_25 : decode cX1_startLine 25 = .ok (.if_icmp .ge 17, 3) := by decide +kernel
theorem dX1_startLine_28 : decode cX1_startLine 28 = .ok (.aload_n 0, 1) := by decide +kernel
theorem dX1_startLine_29 : decode cX1_startLine 29 = .ok (.iload_n 1, 1) := by decide +kernel
theorem dX1_startLine_30 : decode cX1_startLine 30 = .ok (.newarray .int, 2) := by decide +kernel
theorem dX1_startLine_32 : decode cX1_startLine 32 = .ok (.putfield 20, 3) := by decide +kernel
theorem dX1_startLine_35 : decode cX1_startLine 35 = .ok (.aload_n 0, 1) := by decide +kernel
theorem dX1_startLine_36 : decode cX1_startLine 36 = .ok (.iload_n 1, 1) := by decide +kernel
theorem dX1_startLine_37 : decode cX1_startLine 37 = .ok (.newarray .int, 2) := by decide +kernel
theorem dX1_startLine_39 : decode cX1_startLine 39 = .ok (.putfield 23, 3) := by decide +kernel
theorem dX1_startLine_42 : decode cX1_startLine 42 = .ok (.aload_n 0, 1) := by decide +kernel
theorem dX1_startLine_43 : decode cX1_startLine 43 = .ok (.getfield 20, 3) := by decide +kernel
theorem dX1_startLine_46 : decode cX1_startLine 46 = .ok (.iconst (-1), 1) := by decide +kernel
theorem dX1_startLine_47 : decode cX1_startLine 47 = .ok (.invokestatic 43, 3) := by decide +kernel
theorem dX1_startLine_50 : decode cX1_startLine 50 = .ok (.aload_n 0, 1) := by decide +kernel
theorem dX1_startLine_51 : decode cX1_startLine 51 = .ok (.iconst (-1), 1) := by decide +kernel
theorem dX1_startLine_52 : decode cX1_startLine 52 = .ok (.putfield 33, 3) := by decide +kernel
theorem dX1_startLine_55 : decode cX1_startLine 55 = .ok (.aload_n 0, 1) := by decide +kernel
theorem dX1_startLine_56 : decode cX1_startLine 56 = .ok (.iconst (-1), 1) := by decide +kernel
theorem dX1_startLine_57 : decode cX1_startLine 57 = .ok (.putfield 36, 3) := by decide +kernel
theorem dX1_startLine_60 : decode cX1_startLine 60 = .ok (.aload_n 0, 1) := by decide +kernel
theorem dX1_startLine_61 : decode cX1_startLine 61 = .ok (.iconst 0, 1) := by decide +kernel
theorem dX1_startLine_62 : decode cX1_startLine 62 = .ok (.putfield 26, 3) := by decide +kernel
theorem dX1_startLine_65 : decode cX1_startLine 65 = .ok (.aload_n 0, 1) := by decide +kernel
theorem dX1_startLine_66 : decode cX1_startLine 66 = .ok (.iconst 0, 1) := by decide +kernel
theorem dX1_startLine_67 : decode cX1_startLine 67 = .ok (.iconst 0, 1) := by decide +kernel
theorem dX1_startLine_68 : decode cX1_startLine 68 = .ok (.invokevirtual 69, 3) := by decide +kernel
theorem dX1_startLine_71 : decode cX1_startLine 71 = .ok (.return_, 1) := by decide +kernel
theorem dX1_join_0 : decode cX1_join 0 = .ok (.iload_n 1, 1) := by decide +kernel
theorem dX1_join_1 : decode cX1_join 1 = .ok (.ifCond .lt 24, 3) := by decide +kernel
theorem dX1_join_4 : decode cX1_join 4 = .ok (.iload_n 1, 1) := by decide +kernel
theorem dX1_join_5 : decode cX1_join 5 = .ok (.aload_n 0, 1) := by decide +kernel
theorem dX1_join_6 : decode cX1_join 6 = .ok (.getfield 20, 3) := by decide +kernel
theorem dX1_join_9 : decode cX1_join 9 = .ok (.arraylength, 1) := by decide +kernel
theorem dX1_join_10 : decode cX1_join 10 = .ok (.if_icmp .ge 15, 3) := by decide +kernel
theorem dX1_join_13 : decode cX1_join 13 = .ok (.aload_n 0, 1) := by decide +kernel
theorem dX1_join_14 : decode cX1_join 14 = .ok (.getfield 26, 3) := by decide +kernel
theorem dX1_join_17 : decode cX1_join 17 = .ok (.aload_n 0, 1) := by decide +kernel
theorem dX1_join_18 : decode cX1_join 18 = .ok (.getfield 23, 3) := by decide +kernel
theorem dX1_join_21 : decode cX1_join 21 = .ok (.arraylength, 1) := by decide +kernel
theorem dX1_join_22 : decode cX1_join 22 = .ok (.if_icmp .lt 4, 3) := by decide +kernel
theorem dX1_join_25 : decode cX1_join 25 = .ok (.return_, 1) := by decide +kernel
theorem dX1_join_26 : decode cX1_join 26 = .ok (.aload_n 0, 1) := by decide +kernel
theorem dX1_join_27 : decode cX1_join 27 = .ok (.getfield 20, 3) := by decide +kernel
theorem dX1_join_30 : decode cX1_join 30 = .ok (.iload_n 1, 1) := by decide +kernel
theorem dX1_join_31 : decode cX1_join 31 = .ok (.iaload, 1) := by decide +kernel
theorem dX1_join_32 : decode cX1_join 32 = .ok (.iconst (-1), 1) := by decide +kernel
theorem dX1_join_33 : decode cX1_join 33 = .ok (.if_icmp .ne 27, 3) := by decide +kernel
theorem dX1_join_36 : decode cX1_join 36 = .ok (.aload_n 0, 1) := by decide +kernel
theorem dX1_join_37 : decode cX1_join 37 = .ok (.getfield 20, 3) := by decide +kernel
theorem dX1_join_40 : decode cX1_join 40 = .ok (.iload_n 1, 1) := by decide +kernel
theorem dX1_join_41 : decode cX1_join 41 = .ok (.iload_n 2, 1) := by decide +kernel
theorem dX1_join_42 : decode cX1_join 42 = .ok (.iastore, 1) := by decide +kernel
theorem dX1_join_43 : decode cX1_join 43 = .ok (.aload_n 0, 1) := by decide +kernel
theorem dX1_join_44 : decode cX1_join 44 = .ok (.getfield 23, 3) := by decide +kernel
theorem dX1_join_47 : decode cX1_join 47 = .ok (.aload_n 0, 1) := by decide +kernel
theorem dX1_join_48 : decode cX1_join 48 = .ok (.dup, 1) := by decide +kernel
theorem dX1_join_49 : decode cX1_join 49 = .ok (.getfield 26, 3) := by decide +kernel
theorem dX1_join_52 : decode cX1_join 52 = .ok (.dup_x1, 1) := by decide +kernel
theorem dX1_join_53 : decode cX1_join 53 = .ok (.iconst 1, 1) := by decide +kernel
theorem dX1_join_54 : decode cX1_join 54 = .ok (.iadd, 1) := by decide +kernel
theorem dX1_join_55 : decode cX1_join 55 = .ok (.putfield 26, 3) := by decide +kernel
theorem dX1_join_58 : decode cX1_join 58 = .ok (.iload_n 1, 1) := by decide +kernel
theorem dX1_join_59 : decode cX1_join 59 = .ok (.iastore, 1) := by decide +kernel
theorem dX1_join_60 : decode cX1_join 60 = .ok (.return_, 1) := by decide +kernel
theorem dX1_explore_0 : decode cX1_explore 0 = .ok (.aload_n 0, 1) := by decide +kernel
theorem dX1_explore_1 : decode cX1_explore 1 = .ok (.invokevirtual 60, 3) := by decide +kernel
theorem dX1_explore_4 : decode cX1_explore 4 = .ok (.aload_n 0, 1) := by decide +kernel
theorem dX1_explore_5 : decode cX1_explore 5 = .ok (.aload_n 0, 1) := by decide +kernel
theorem dX1_explore_6 : decode cX1_explore 6 = .ok (.getfield 39, 3) := by decide +kernel
theorem dX1_explore_9 : decode cX1_explore 9 = .ok (.iconst 0, 1) := by decide +kernel
theorem dX1_explore_10 : decode cX1_explore 10 = .ok (.invokevirtual 78, 3) := by decide +kernel
theorem dX1_explore_13 : decode cX1_explore 13 = .ok (.ifCond .eq 7, 3) := by decide +kernel
theorem dX1_explore_16 : decode cX1_explore 16 = .ok (.iconst 0, 1) := by decide +kernel
theorem dX1_explore_17 : decode cX1_explore 17 = .ok (.goto 4, 3) := by decide +kernel
theorem dX1_explore_20 : decode cX1_explore 20 = .ok (.iconst (-1), 1) := by decide +kernel
theorem dX1_explore_21 : decode cX1_explore 21 = .ok (.putfield 30, 3) := by decide +kernel
theorem dX1_explore_24 : decode cX1_explore 24 = .ok (.iconst 0, 1) := by decide +kernel
theorem dX1_explore_25 : decode cX1_explore 25 = .ok (.istore_n 2, 1) := by decide +kernel
theorem dX1_explore_26 : decode cX1_explore 26 = .ok (.iconst 0, 1) := by decide +kernel
theorem dX1_explore_27 : decode cX1_explore 27 = .ok (.istore_n 3, 1) := by decide +kernel
theorem dX1_explore_28 : decode cX1_explore 28 = .ok (.iconst 0, 1) := by decide +kernel
theorem dX1_explore_29 : decode cX1_explore 29 = .ok (.istore 4, 2) := by decide +kernel
theorem dX1_explore_31 : decode cX1_explore 31 = .ok (.iload 4, 2) := by decide +kernel
theorem dX1_explore_33 : decode cX1_explore 33 = .ok (.ldc 82, 2) := by decide +kernel
theorem dX1_explore_35 : decode cX1_explore 35 = .ok (.if_icmp .ge 147, 3) := by decide +kernel
theorem dX1_explore_38 : decode cX1_explore 38 = .ok (.iload_n 2, 1) := by decide +kernel
theorem dX1_explore_39 : decode cX1_explore 39 = .ok (.aload_n 0, 1) := by decide +kernel
theorem dX1_explore_40 : decode cX1_explore 40 = .ok (.getfield 26, 3) := by decide +kernel
theorem dX1_explore_43 : decode cX1_explore 43 = .ok (.if_icmp .ge 20, 3) := by decide +kernel
theorem dX1_explore_46 : decode cX1_explore 46 = .ok (.aload_n 0, 1) := by decide +kernel
theorem dX1_explore_47 : decode cX1_explore 47 = .ok (.getfield 20, 3) := by decide +kernel
theorem dX1_explore_50 : decode cX1_explore 50 = .ok (.aload_n 0, 1) := by decide +kernel
theorem dX1_explore_51 : decode cX1_explore 51 = .ok (.getfield 23, 3) := by decide +kernel
theorem dX1_explore_54 : decode cX1_explore 54 = .ok (.iload_n 2, 1) := by decide +kernel
theorem dX1_explore_55 : decode cX1_explore 55 = .ok (.iaload, 1) := by decide +kernel
theorem dX1_explore_56 : decode cX1_explore 56 = .ok (.iaload, 1) := by decide +kernel
theorem dX1_explore_57 : decode cX1_explore 57 = .ok (.ldc 83, 2) := by decide +kernel
theorem dX1_explore_59 : decode cX1_explore 59 = .ok (.iadd, 1) := by decide +kernel
theorem dX1_explore_60 : decode cX1_explore 60 = .ok (.goto 5, 3) := by decide +kernel
theorem dX1_explore_63 : decode cX1_explore 63 = .ok (.ldc 84, 2) := by decide +kernel
theorem dX1_explore_65 : decode cX1_explore 65 = .ok (.istore 5, 2) := by decide +kernel
theorem dX1_explore_67 : decode cX1_explore 67 = .ok (.iload_n 3, 1) := by decide +kernel
theorem dX1_explore_68 : decode cX1_explore 68 = .ok (.aload_n 0, 1) := by decide +kernel
theorem dX1_explore_69 : decode cX1_explore 69 = .ok (.getfield 26, 3) := by decide +kernel
theorem dX1_explore_72 : decode cX1_explore 72 = .ok (.if_icmp .ge 19, 3) := by decide +kernel
theorem dX1_explore_75 : decode cX1_explore 75 = .ok (.aload_n 0, 1) := by decide +kernel
theorem dX1_explore_76 : decode cX1_explore 76 = .ok (.getfield 20, 3) := by decide +kernel
theorem dX1_explore_79 : decode cX1_explore 79 = .ok (.aload_n 0, 1) := by decide +kernel
theorem dX1_explore_80 : decode cX1_explore 80 = .ok (.getfield 23, 3) := by decide +kernel
theorem dX1_explore_83 : decode cX1_explore 83 = .ok (.iload_n 3, 1) := by decide +kernel
theorem dX1_explore_84 : decode cX1_explore 84 = .ok (.iaload, 1) := by decide +kernel
theorem dX1_explore_85 : decode cX1_explore 85 = .ok (.iaload, 1) := by decide +kernel
theorem dX1_explore_86 : decode cX1_explore 86 = .ok (.iconst 1, 1) := by decide +kernel
theorem dX1_explore_87 : decode cX1_explore 87 = .ok (.iadd, 1) := by decide +kernel
theorem dX1_explore_88 : decode cX1_explore 88 = .ok (.goto 5, 3) := by decide +kernel
theorem dX1_explore_91 : decode cX1_explore 91 = .ok (.ldc 84, 2) := by decide +kernel
theorem dX1_explore_93 : decode cX1_explore 93 = .ok (.istore 6, 2) := by decide +kernel
theorem dX1_explore_95 : decode cX1_explore 95 = .ok (.iload 5, 2) := by decide +kernel
theorem dX1_explore_97 : decode cX1_explore 97 = .ok (.iload 6, 2) := by decide +kernel
theorem dX1_explore_99 : decode cX1_explore 99 = .ok (.invokestatic 85, 3) := by decide +kernel
theorem dX1_explore_102 : decode cX1_explore 102 = .ok (.istore 7, 2) := by decide +kernel
theorem dX1_explore_104 : decode cX1_explore 104 = .ok (.iload 7, 2) := by decide +kernel
theorem dX1_explore_106 : decode cX1_explore 106 = .ok (.ldc 84, 2) := by decide +kernel
theorem dX1_explore_108 : decode cX1_explore 108 = .ok (.if_icmp .eq 74, 3) := by decide +kernel
theorem dX1_explore_111 : decode cX1_explore 111 = .ok (.aload_n 0, 1) := by decide +kernel
theorem dX1_explore_112 : decode cX1_explore 112 = .ok (.getfield 30, 3) := by decide +kernel
theorem dX1_explore_115 : decode cX1_explore 115 = .ok (.iconst (-1), 1) := by decide +kernel
theorem dX1_explore_116 : decode cX1_explore 116 = .ok (.if_icmp .eq 15, 3) := by decide +kernel
theorem dX1_explore_119 : decode cX1_explore 119 = .ok (.iload 7, 2) := by decide +kernel
theorem dX1_explore_121 : decode cX1_explore 121 = .ok (.aload_n 0, 1) := by decide +kernel
theorem dX1_explore_122 : decode cX1_explore 122 = .ok (.getfield 30, 3) := by decide +kernel
theorem dX1_explore_125 : decode cX1_explore 125 = .ok (.if_icmp .le 6, 3) := by decide +kernel
theorem dX1_explore_128 : decode cX1_explore 128 = .ok (.goto 54, 3) := by decide +kernel
theorem dX1_explore_131 : decode cX1_explore 131 = .ok (.iload 5, 2) := by decide +kernel
theorem dX1_explore_133 : decode cX1_explore 133 = .ok (.iload 6, 2) := by decide +kernel
theorem dX1_explore_135 : decode cX1_explore 135 = .ok (.if_icmp .ge 23, 3) := by decide +kernel
theorem dX1_explore_138 : decode cX1_explore 138 = .ok (.aload_n 0, 1) := by decide +kernel
theorem dX1_explore_139 : decode cX1_explore 139 = .ok (.aload_n 0, 1) := by decide +kernel
theorem dX1_explore_140 : decode cX1_explore 140 = .ok (.getfield 23, 3) := by decide +kernel
theorem dX1_explore_143 : decode cX1_explore 143 = .ok (.iload_n 2, 1) := by decide +kernel
theorem dX1_explore_144 : decode cX1_explore 144 = .ok (.iinc 2 1, 3) := by decide +kernel
theorem dX1_explore_147 : decode cX1_explore 147 = .ok (.iaload, 1) := by decide +kernel
theorem dX1_explore_148 : decode cX1_explore 148 = .ok (.iconst 0, 1) := by decide +kernel
theorem dX1_explore_149 : decode cX1_explore 149 = .ok (.iload 7, 2) := by decide +kernel
theorem dX1_explore_151 : decode cX1_explore 151 = .ok (.iload_n 1, 1) := by decide +kernel
theorem dX1_explore_152 : decode cX1_explore 152 = .ok (.invokevirtual 91, 3) := by decide +kernel
theorem dX1_explore_155 : decode cX1_explore 155 = .ok (.goto 21, 3) := by decide +kernel
theorem dX1_explore_158 : decode cX1_explore 158 = .ok (.aload_n 0, 1) := by decide +kernel
theorem dX1_explore_159 : decode cX1_explore 159 = .ok (.aload_n 0, 1) := by decide +kernel
theorem dX1_explore_160 : decode cX1_explore 160 = .ok (.getfield 23, 3) := by decide +kernel
theorem dX1_explore_163 : decode cX1_explore 163 = .ok (.iload_n 3, 1) := by decide +kernel
theorem dX1_explore_164 : decode cX1_explore 164 = .ok (.iinc 3 1, 3) := by decide +kernel
theorem dX1_explore_167 : decode cX1_explore 167 = .ok (.iaload, 1) := by decide +kernel
theorem dX1_explore_168 : decode cX1_explore 168 = .ok (.bipush 9, 2) := by decide +kernel
theorem dX1_explore_170 : decode cX1_explore 170 = .ok (.iload 7, 2) := by decide +kernel
theorem dX1_explore_172 : decode cX1_explore 172 = .ok (.iload_n 1, 1) := by decide +kernel
theorem dX1_explore_173 : decode cX1_explore 173 = .ok (.invokevirtual 91, 3) := by decide +kernel
theorem dX1_explore_176 : decode cX1_explore 176 = .ok (.iinc 4 1, 3) := by decide +kernel
theorem dX1_explore_179 : decode cX1_explore 179 = .ok (.goto (-148), 3) := by decide +kernel
theorem dX1_explore_182 : decode cX1_explore 182 = .ok (.aload_n 0, 1) := by decide +kernel
theorem dX1_explore_183 : decode cX1_explore 183 = .ok (.getfield 13, 3) := by decide +kernel
theorem dX1_explore_186 : decode cX1_explore 186 = .ok (.iload_n 1, 1) := by decide +kernel
theorem dX1_explore_187 : decode cX1_explore 187 = .ok (.aload_n 0, 1) := by decide +kernel
theorem dX1_explore_188 : decode cX1_explore 188 = .ok (.getfield 30, 3) := by decide +kernel
theorem dX1_explore_191 : decode cX1_explore 191 = .ok (.iconst (-1), 1) := by decide +kernel
theorem dX1_explore_192 : decode cX1_explore 192 = .ok (.if_icmp .ne 7, 3) := by decide +kernel
theorem dX1_explore_195 : decode cX1_explore 195 = .ok (.iconst (-1), 1) := by decide +kernel
theorem dX1_explore_196 : decode cX1_explore 196 = .ok (.goto 10, 3) := by decide +kernel
theorem dX1_explore_199 : decode cX1_explore 199 = .ok (.aload_n 0, 1) := by decide +kernel
theorem dX1_explore_200 : decode cX1_explore 200 = .ok (.getfield 30, 3) := by decide +kernel
theorem dX1_explore_203 : decode cX1_explore 203 = .ok (.bipush 16, 2) := by decide +kernel
theorem dX1_explore_205 : decode cX1_explore 205 = .ok (.ishr, 1) := by decide +kernel
theorem dX1_explore_206 : decode cX1_explore 206 = .ok (.iastore, 1) := by decide +kernel
theorem dX1_explore_207 : decode cX1_explore 207 = .ok (.aload_n 0, 1) := by decide +kernel
theorem dX1_explore_208 : decode cX1_explore 208 = .ok (.iload_n 1, 1) := by decide +kernel
theorem dX1_explore_209 : decode cX1_explore 209 = .ok (.putfield 33, 3) := by decide +kernel
theorem dX1_explore_212 : decode cX1_explore 212 = .ok (.return_, 1) := by decide +kernel
theorem dX1_spread_0 : decode cX1_spread 0 = .ok (.iconst 0, 1) := by decide +kernel
theorem dX1_spread_1 : decode cX1_spread 1 = .ok (.istore 5, 2) := by decide +kernel
theorem dX1_spread_3 : decode cX1_spread 3 = .ok (.iload 5, 2) := by decide +kernel
theorem dX1_spread_5 : decode cX1_spread 5 = .ok (.aload_n 0, 1) := by decide +kernel
theorem dX1_spread_6 : decode cX1_spread 6 = .ok (.getfield 39, 3) := by decide +kernel
theorem dX1_spread_9 : decode cX1_spread 9 = .ok (.getfield 95, 3) := by decide +kernel
theorem dX1_spread_12 : decode cX1_spread 12 = .ok (.if_icmp .ge 63, 3) := by decide +kernel
theorem dX1_spread_15 : decode cX1_spread 15 = .ok (.aload_n 0, 1) := by decide +kernel
theorem dX1_spread_16 : decode cX1_spread 16 = .ok (.getfield 39, 3) := by decide +kernel
theorem dX1_spread_19 : decode cX1_spread 19 = .ok (.iload_n 1, 1) := by decide +kernel
theorem dX1_spread_20 : decode cX1_spread 20 = .ok (.iload_n 2, 1) := by decide +kernel
theorem dX1_spread_21 : decode cX1_spread 21 = .ok (.iload 5, 2) := by decide +kernel
theorem dX1_spread_23 : decode cX1_spread 23 = .ok (.iadd, 1) := by decide +kernel
theorem dX1_spread_24 : decode cX1_spread 24 = .ok (.iload 4, 2) := by decide +kernel
theorem dX1_spread_26 : decode cX1_spread 26 = .ok (.invokevirtual 63, 3) := by decide +kernel
theorem dX1_spread_29 : decode cX1_spread 29 = .ok (.istore 6, 2) := by decide +kernel
theorem dX1_spread_31 : decode cX1_spread 31 = .ok (.aload_n 0, 1) := by decide +kernel
theorem dX1_spread_32 : decode cX1_spread 32 = .ok (.iload 6, 2) := by decide +kernel
theorem dX1_spread_34 : decode cX1_spread 34 = .ok (.iload_n 3, 1) := by decide +kernel
theorem dX1_spread_35 : decode cX1_spread 35 = .ok (.invokevirtual 69, 3) := by decide +kernel
theorem dX1_spread_38 : decode cX1_spread 38 = .ok (.iload 6, 2) := by decide +kernel
theorem dX1_spread_40 : decode cX1_spread 40 = .ok (.iconst (-1), 1) := by decide +kernel
theorem dX1_spread_41 : decode cX1_spread 41 = .ok (.if_icmp .eq 28, 3) := by decide +kernel
theorem dX1_spread_44 : decode cX1_spread 44 = .ok (.aload_n 0, 1) := by decide +kernel
theorem dX1_spread_45 : decode cX1_spread 45 = .ok (.getfield 30, 3) := by decide +kernel
theorem dX1_spread_48 : decode cX1_spread 48 = .ok (.iconst (-1), 1) := by decide +kernel
theorem dX1_spread_49 : decode cX1_spread 49 = .ok (.if_icmp .ne 20, 3) := by decide +kernel
theorem dX1_spread_52 : decode cX1_spread 52 = .ok (.aload_n 0, 1) := by decide +kernel
theorem dX1_spread_53 : decode cX1_spread 53 = .ok (.getfield 39, 3) := by decide +kernel
theorem dX1_spread_56 : decode cX1_spread 56 = .ok (.iload 6, 2) := by decide +kernel
theorem dX1_spread_58 : decode cX1_spread 58 = .ok (.invokevirtual 78, 3) := by decide +kernel
theorem dX1_spread_61 : decode cX1_spread 61 = .ok (.ifCond .eq 8, 3) := by decide +kernel
theorem dX1_spread_64 : decode cX1_spread 64 = .ok (.aload_n 0, 1) := by decide +kernel
theorem dX1_spread_65 : decode cX1_spread 65 = .ok (.iload_n 3, 1) := by decide +kernel
theorem dX1_spread_66 : decode cX1_spread 66 = .ok (.putfield 30, 3) := by decide +kernel
theorem dX1_spread_69 : decode cX1_spread 69 = .ok (.iinc 5 1, 3) := by decide +kernel
theorem dX1_spread_72 : decode cX1_spread 72 = .ok (.goto (-69), 3) := by decide +kernel
theorem dX1_spread_75 : decode cX1_spread 75 = .ok (.return_, 1) := by decide +kernel
theorem dX1_dropDetours_0 : decode cX1_dropDetours 0 = .ok (.aload_n 0, 1) := by decide +kernel
theorem dX1_dropDetours_1 : decode cX1_dropDetours 1 = .ok (.getfield 26, 3) := by decide +kernel
theorem dX1_dropDetours_4 : decode cX1_dropDetours 4 = .ok (.iconst 1, 1) := by decide +kernel
theorem dX1_dropDetours_5 : decode cX1_dropDetours 5 = .ok (.isub, 1) := by decide +kernel
theorem dX1_dropDetours_6 : decode cX1_dropDetours 6 = .ok (.istore_n 2, 1) := by decide +kernel
theorem dX1_dropDetours_7 : decode cX1_dropDetours 7 = .ok (.iload_n 2, 1) := by decide +kernel
theorem dX1_dropDetours_8 : decode cX1_dropDetours 8 = .ok (.ifCond .lt 69, 3) := by decide +kernel
theorem dX1_dropDetours_11 : decode cX1_dropDetours 11 = .ok (.aload_n 0, 1) := by decide +kernel
theorem dX1_dropDetours_12 : decode cX1_dropDetours 12 = .ok (.getfield 23, 3) := by decide +kernel
theorem dX1_dropDetours_15 : decode cX1_dropDetours 15 = .ok (.iload_n 2, 1) := by decide +kernel
theorem dX1_dropDetours_16 : decode cX1_dropDetours 16 = .ok (.iaload, 1) := by decide +kernel
theorem dX1_dropDetours_17 : decode cX1_dropDetours 17 = .ok (.istore_n 3, 1) := by decide +kernel
theorem dX1_dropDetours_18 : decode cX1_dropDetours 18 = .ok (.aload_n 0, 1) := by decide +kernel
theorem dX1_dropDetours_19 : decode cX1_dropDetours 19 = .ok (.getfield 20, 3) := by decide +kernel
theorem dX1_dropDetours_22 : decode cX1_dropDetours 22 = .ok (.iload_n 3, 1) := by decide +kernel
theorem dX1_dropDetours_23 : decode cX1_dropDetours 23 = .ok (.iaload, 1) := by decide +kernel
theorem dX1_dropDetours_24 : decode cX1_dropDetours 24 = .ok (.aload_n 0, 1) := by decide +kernel
theorem dX1_dropDetours_25 : decode cX1_dropDetours 25 = .ok (.getfield 30, 3) := by decide +kernel
theorem dX1_dropDetours_28 : decode cX1_dropDetours 28 = .ok (.if_icmp .ne 18, 3) := by decide +kernel
theorem dX1_dropDetours_31 : decode cX1_dropDetours 31 = .ok (.aload_n 0, 1) := by decide +kernel
theorem dX1_dropDetours_32 : decode cX1_dropDetours 32 = .ok (.getfield 39, 3) := by decide +kernel
theorem dX1_dropDetours_35 : decode cX1_dropDetours 35 = .ok (.iload_n 3, 1) := by decide +kernel
theorem dX1_dropDetours_36 : decode cX1_dropDetours 36 = .ok (.invokevirtual 78, 3) := by decide +kernel
theorem dX1_dropDetours_39 : decode cX1_dropDetours 39 = .ok (.ifCond .eq 7, 3) := by decide +kernel
theorem dX1_dropDetours_42 : decode cX1_dropDetours 42 = .ok (.iconst 1, 1) := by decide +kernel
theorem dX1_dropDetours_43 : decode cX1_dropDetours 43 = .ok (.goto 4, 3) := by decide +kernel
theorem dX1_dropDetours_46 : decode cX1_dropDetours 46 = .ok (.iconst 0, 1) := by decide +kernel
theorem dX1_dropDetours_47 : decode cX1_dropDetours 47 = .ok (.istore 4, 2) := by decide +kernel
theorem dX1_dropDetours_49 : decode cX1_dropDetours 49 = .ok (.iload 4, 2) := by decide +kernel
theorem dX1_dropDetours_51 : decode cX1_dropDetours 51 = .ok (.ifCond .ne 20, 3) := by decide +kernel
theorem dX1_dropDetours_54 : decode cX1_dropDetours 54 = .ok (.aload_n 0, 1) := by decide +kernel
theorem dX1_dropDetours_55 : decode cX1_dropDetours 55 = .ok (.iload_n 3, 1) := by decide +kernel
theorem dX1_dropDetours_56 : decode cX1_dropDetours 56 = .ok (.iload_n 1, 1) := by decide +kernel
theorem dX1_dropDetours_57 : decode cX1_dropDetours 57 = .ok (.invokevirtual 98, 3) := by decide +kernel
theorem dX1_dropDetours_60 : decode cX1_dropDetours 60 = .ok (.iconst (-1), 1) := by decide +kernel
theorem dX1_dropDetours_61 : decode cX1_dropDetours 61 = .ok (.if_icmp .ne 10, 3) := by decide +kernel
theorem dX1_dropDetours_64 : decode cX1_dropDetours 64 = .ok (.aload_n 0, 1) := by decide +kernel
theorem dX1_dropDetours_65 : decode cX1_dropDetours 65 = .ok (.getfield 20, 3) := by decide +kernel
theorem dX1_dropDetours_68 : decode cX1_dropDetours 68 = .ok (.iload_n 3, 1) := by decide +kernel
theorem dX1_dropDetours_69 : decode cX1_dropDetours 69 = .ok (.iconst (-1), 1) := by decide +kernel
theorem dX1_dropDetours_70 : decode cX1_dropDetours 70 = .ok (.iastore, 1) := by decide +kernel
theorem dX1_dropDetours_71 : decode cX1_dropDetours 71 = .ok (.iinc 2 (-1), 3) := by decide +kernel
theorem dX1_dropDetours_74 : decode cX1_dropDetours 74 = .ok (.goto (-67), 3) := by decide +kernel
theorem dX1_dropDetours_77 : decode cX1_dropDetours 77 = .ok (.return_, 1) := by decide +kernel
theorem dX1_firstActOn_0 : decode cX1_firstActOn 0 = .ok (.iconst 0, 1) := by decide +kernel
theorem dX1_firstActOn_1 : decode cX1_firstActOn 1 = .ok (.istore_n 3, 1) := by decide +kernel
theorem dX1_firstActOn_2 : decode cX1_firstActOn 2 = .ok (.iload_n 3, 1) := by decide +kernel
theorem dX1_firstActOn_3 : decode cX1_firstActOn 3 = .ok (.bipush 18, 2) := by decide +kernel
theorem dX1_firstActOn_5 : decode cX1_firstActOn 5 = .ok (.if_icmp .ge 62, 3) := by decide +kernel
theorem dX1_firstActOn_8 : decode cX1_firstActOn 8 = .ok (.aload_n 0, 1) := by decide +kernel
theorem dX1_firstActOn_9 : decode cX1_firstActOn 9 = .ok (.getfield 39, 3) := by decide +kernel
theorem dX1_firstActOn_12 : decode cX1_firstActOn 12 = .ok (.iload_n 1, 1) := by decide +kernel
theorem dX1_firstActOn_13 : decode cX1_firstActOn 13 = .ok (.iload_n 3, 1) := by decide +kernel
theorem dX1_firstActOn_14 : decode cX1_firstActOn 14 = .ok (.iload_n 2, 1) := by decide +kernel
theorem dX1_firstActOn_15 : decode cX1_firstActOn 15 = .ok (.invokevirtual 63, 3) := by decide +kernel
theorem dX1_firstActOn_18 : decode cX1_firstActOn 18 = .ok (.istore 4, 2) := by decide +kernel
theorem dX1_firstActOn_20 : decode cX1_firstActOn 20 = .ok (.iload_n 3, 1) := by decide +kernel
theorem dX1_firstActOn_21 : decode cX1_firstActOn 21 = .ok (.bipush 9, 2) := by decide +kernel
theorem dX1_firstActOn_23 : decode cX1_firstActOn 23 = .ok (.if_icmp .ge 8, 3) := by decide +kernel
theorem dX1_firstActOn_26 : decode cX1_firstActOn 26 = .ok (.ldc 83, 2) := by decide +kernel
theorem dX1_firstActOn_28 : decode cX1_firstActOn 28 = .ok (.goto 4, 3) := by decide +kernel
theorem dX1_firstActOn_31 : decode cX1_firstActOn 31 = .ok (.iconst 1, 1) := by decide +kernel
theorem dX1_firstActOn_32 : decode cX1_firstActOn 32 = .ok (.istore 5, 2) := by decide +kernel
theorem dX1_firstActOn_34 : decode cX1_firstActOn 34 = .ok (.iload 4, 2) := by decide +kernel
theorem dX1_firstActOn_36 : decode cX1_firstActOn 36 = .ok (.iconst (-1), 1) := by decide +kernel
theorem dX1_firstActOn_37 : decode cX1_firstActOn 37 = .ok (.if_icmp .eq 24, 3) := by decide +kernel
theorem dX1_firstActOn_40 : decode cX1_firstActOn 40 = .ok (.aload_n 0, 1) := by decide +kernel
theorem dX1_firstActOn_41 : decode cX1_firstActOn 41 = .ok (.getfield 20, 3) := by decide +kernel
theorem dX1_firstActOn_44 : decode cX1_firstActOn 44 = .ok (.iload 4, 2) := by decide +kernel
theorem dX1_firstActOn_46 : decode cX1_firstActOn 46 = .ok (.iaload, 1) := by decide +kernel
theorem dX1_firstActOn_47 : decode cX1_firstActOn 47 = .ok (.aload_n 0, 1) := by decide +kernel
theorem dX1_firstActOn_48 : decode cX1_firstActOn 48 = .ok (.getfield 20, 3) := by decide +kernel
theorem dX1_firstActOn_51 : decode cX1_firstActOn 51 = .ok (.iload_n 1, 1) := by decide +kernel
theorem dX1_firstActOn_52 : decode cX1_firstActOn 52 = .ok (.iaload, 1) := by decide +kernel
theorem dX1_firstActOn_53 : decode cX1_firstActOn 53 = .ok (.iload 5, 2) := by decide +kernel
theorem dX1_firstActOn_55 : decode cX1_firstActOn 55 = .ok (.iadd, 1) := by decide +kernel
theorem dX1_firstActOn_56 : decode cX1_firstActOn 56 = .ok (.if_icmp .ne 5, 3) := by decide +kernel
theorem dX1_firstActOn_59 : decode cX1_firstActOn 59 = .ok (.iload_n 3, 1) := by decide +kernel
theorem dX1_firstActOn_60 : decode cX1_firstActOn 60 = .ok (.ireturn, 1) := by decide +kernel
theorem dX1_firstActOn_61 : decode cX1_firstActOn 61 = .ok (.iinc 3 1, 3) := by decide +kernel
theorem dX1_firstActOn_64 : decode cX1_firstActOn 64 = .ok (.goto (-62), 3) := by decide +kernel
theorem dX1_firstActOn_67 : decode cX1_firstActOn 67 = .ok (.iconst (-1), 1) := by decide +kernel
theorem dX1_firstActOn_68 : decode cX1_firstActOn 68 = .ok (.ireturn, 1) := by decide +kernel
theorem dX1_writePlan_0 : decode cX1_writePlan 0 = .ok (.iconst 0, 1) := by decide +kernel
theorem dX1_writePlan_1 : decode cX1_writePlan 1 = .ok (.istore_n 2, 1) := by decide +kernel
theorem dX1_writePlan_2 : decode cX1_writePlan 2 = .ok (.aload_n 0, 1) := by decide +kernel
theorem dX1_writePlan_3 : decode cX1_writePlan 3 = .ok (.getfield 30, 3) := by decide +kernel
theorem dX1_writePlan_6 : decode cX1_writePlan 6 = .ok (.ldc 59, 2) := by decide +kernel
theorem dX1_writePlan_8 : decode cX1_writePlan 8 = .ok (.iand, 1) := by decide +kernel
theorem dX1_writePlan_9 : decode cX1_writePlan 9 = .ok (.istore_n 3, 1) := by decide +kernel
theorem dX1_writePlan_10 : decode cX1_writePlan 10 = .ok (.iconst 0, 1) := by decide +kernel
theorem dX1_writePlan_11 : decode cX1_writePlan 11 = .ok (.istore 4, 2) := by decide +kernel
theorem dX1_writePlan_13 : decode cX1_writePlan 13 = .ok (.iload 4, 2) := by decide +kernel
theorem dX1_writePlan_15 : decode cX1_writePlan 15 = .ok (.iload_n 3, 1) := by decide +kernel
theorem dX1_writePlan_16 : decode cX1_writePlan 16 = .ok (.if_icmp .ge 57, 3) := by decide +kernel
theorem dX1_writePlan_19 : decode cX1_writePlan 19 = .ok (.iload 4, 2) := by decide +kernel
theorem dX1_writePlan_21 : decode cX1_writePlan 21 = .ok (.aload_n 0, 1) := by decide +kernel
theorem dX1_writePlan_22 : decode cX1_writePlan 22 = .ok (.getfield 23, 3) := by decide +kernel
theorem dX1_writePlan_25 : decode cX1_writePlan 25 = .ok (.arraylength, 1) := by decide +kernel
theorem dX1_writePlan_26 : decode cX1_writePlan 26 = .ok (.if_icmp .ge 47, 3) := by decide +kernel
theorem dX1_writePlan_29 : decode cX1_writePlan 29 = .ok (.aload_n 0, 1) := by decide +kernel
theorem dX1_writePlan_30 : decode cX1_writePlan 30 = .ok (.iload_n 2, 1) := by decide +kernel
theorem dX1_writePlan_31 : decode cX1_writePlan 31 = .ok (.iload_n 1, 1) := by decide +kernel
theorem dX1_writePlan_32 : decode cX1_writePlan 32 = .ok (.invokevirtual 98, 3) := by decide +kernel
theorem dX1_writePlan_35 : decode cX1_writePlan 35 = .ok (.istore 5, 2) := by decide +kernel
theorem dX1_writePlan_37 : decode cX1_writePlan 37 = .ok (.iload 5, 2) := by decide +kernel
theorem dX1_writePlan_39 : decode cX1_writePlan 39 = .ok (.iconst (-1), 1) := by decide +kernel
theorem dX1_writePlan_40 : decode cX1_writePlan 40 = .ok (.if_icmp .ne 6, 3) := by decide +kernel
theorem dX1_writePlan_43 : decode cX1_writePlan 43 = .ok (.goto 30, 3) := by decide +kernel
theorem dX1_writePlan_46 : decode cX1_writePlan 46 = .ok (.aload_n 0, 1) := by decide +kernel
theorem dX1_writePlan_47 : decode cX1_writePlan 47 = .ok (.getfield 23, 3) := by decide +kernel
theorem dX1_writePlan_50 : decode cX1_writePlan 50 = .ok (.iload 4, 2) := by decide +kernel
theorem dX1_writePlan_52 : decode cX1_writePlan 52 = .ok (.iload 5, 2) := by decide +kernel
theorem dX1_writePlan_54 : decode cX1_writePlan 54 = .ok (.iastore, 1) := by decide +kernel
theorem dX1_writePlan_55 : decode cX1_writePlan 55 = .ok (.aload_n 0, 1) := by decide +kernel
theorem dX1_writePlan_56 : decode cX1_writePlan 56 = .ok (.getfield 39, 3) := by decide +kernel
theorem dX1_writePlan_59 : decode cX1_writePlan 59 = .ok (.iload_n 2, 1) := by decide +kernel
theorem dX1_writePlan_60 : decode cX1_writePlan 60 = .ok (.iload 5, 2) := by decide +kernel
theorem dX1_writePlan_62 : decode cX1_writePlan 62 = .ok (.iload_n 1, 1) := by decide +kernel
theorem dX1_writePlan_63 : decode cX1_writePlan 63 = .ok (.invokevirtual 63, 3) := by decide +kernel
theorem dX1_writePlan_66 : decode cX1_writePlan 66 = .ok (.istore_n 2, 1) := by decide +kernel
theorem dX1_writePlan_67 : decode cX1_writePlan 67 = .ok (.iinc 4 1, 3) := by decide +kernel
theorem dX1_writePlan_70 : decode cX1_writePlan 70 = .ok (.goto (-57), 3) := by decide +kernel
theorem dX1_writePlan_73 : decode cX1_writePlan 73 = .ok (.return_, 1) := by decide +kernel
theorem dX2_init_0 : decode cX2_init 0 = .ok (.aload_n 0, 1) := by decide +kernel
theorem dX2_init_1 : decode cX2_init 1 = .ok (.invokespecial 3, 3) := by decide +kernel
theorem dX2_init_4 : decode cX2_init 4 = .ok (.aload_n 0, 1) := by decide +kernel
theorem dX2_init_5 : decode cX2_init 5 = .ok (.sipush 4096, 3) := by decide +kernel
theorem dX2_init_8 : decode cX2_init 8 = .ok (.newarray .byte, 2) := by decide +kernel
theorem dX2_init_10 : decode cX2_init 10 = .ok (.putfield 9, 3) := by decide +kernel
theorem dX2_init_13 : decode cX2_init 13 = .ok (.aload_n 0, 1) := by decide +kernel
theorem dX2_init_14 : decode cX2_init 14 = .ok (.sipush 4096, 3) := by decide +kernel
theorem dX2_init_17 : decode cX2_init 17 = .ok (.newarray .int, 2) := by decide +kernel
theorem dX2_init_19 : decode cX2_init 19 = .ok (.putfield 15, 3) := by decide +kernel
theorem dX2_init_22 : decode cX2_init 22 = .ok (.aload_n 0, 1) := by decide +kernel
theorem dX2_init_23 : decode cX2_init 23 = .ok (.iconst 0, 1) := by decide +kernel
theorem dX2_init_24 : decode cX2_init 24 = .ok (.putfield 19, 3) := by decide +kernel
theorem dX2_init_27 : decode cX2_init 27 = .ok (.aload_n 0, 1) := by decide +kernel
theorem dX2_init_28 : decode cX2_init 28 = .ok (.iconst (-1), 1) := by decide +kernel
theorem dX2_init_29 : decode cX2_init 29 = .ok (.putfield 23, 3) := by decide +kernel
theorem dX2_init_32 : decode cX2_init 32 = .ok (.aload_n 0, 1) := by decide +kernel
theorem dX2_init_33 : decode cX2_init 33 = .ok (.aload_n 1, 1) := by decide +kernel
theorem dX2_init_34 : decode cX2_init 34 = .ok (.putfield 26, 3) := by decide +kernel
theorem dX2_init_37 : decode cX2_init 37 = .ok (.return_, 1) := by decide +kernel
theorem dX2_turn_0 : decode cX2_turn 0 = .ok (.aload_n 0, 1) := by decide +kernel
theorem dX2_turn_1 : decode cX2_turn 1 = .ok (.getfield 9, 3) := by decide +kernel
theorem dX2_turn_4 : decode cX2_turn 4 = .ok (.iload_n 1, 1) := by decide +kernel
theorem dX2_turn_5 : decode cX2_turn 5 = .ok (.dup2, 1) := by decide +kernel
theorem dX2_turn_6 : decode cX2_turn 6 = .ok (.baload, 1) := by decide +kernel
theorem dX2_turn_7 : decode cX2_turn 7 = .ok (.iconst 1, 1) := by decide +kernel
theorem dX2_turn_8 : decode cX2_turn 8 = .ok (.ixor, 1) := by decide +kernel
theorem dX2_turn_9 : decode cX2_turn 9 = .ok (.i2b, 1) := by decide +kernel
theorem dX2_turn_10 : decode cX2_turn 10 = .ok (.bastore, 1) := by decide +kernel
theorem dX2_turn_11 : decode cX2_turn 11 = .ok (.aload_n 0, 1) := by decide +kernel
theorem dX2_turn_12 : decode cX2_turn 12 = .ok (.dup, 1) := by decide +kernel
theorem dX2_turn_13 : decode cX2_turn 13 = .ok (.getfield 19, 3) := by decide +kernel
theorem dX2_turn_16 : decode cX2_turn 16 = .ok (.aload_n 0, 1) := by decide +kernel
theorem dX2_turn_17 : decode cX2_turn 17 = .ok (.getfield 9, 3) := by decide +kernel
theorem dX2_turn_20 : decode cX2_turn 20 = .ok (.iload_n 1, 1) := by decide +kernel
theorem dX2_turn_21 : decode cX2_turn 21 = .ok (.baload, 1) := by decide +kernel
theorem dX2_turn_22 : decode cX2_turn 22 = .ok (.iconst 1, 1) := by decide +kernel
theorem dX2_turn_23 : decode cX2_turn 23 = .ok (.if_icmp .ne 7, 3) := by decide +kernel
theorem dX2_turn_26 : decode cX2_turn 26 = .ok (.iconst 1, 1) := by decide +kernel
theorem dX2_turn_27 : decode cX2_turn 27 = .ok (.goto 4, 3) := by decide +kernel
theorem dX2_turn_30 : decode cX2_turn 30 = .ok (.iconst (-1), 1) := by decide +kernel
theorem dX2_turn_31 : decode cX2_turn 31 = .ok (.iadd, 1) := by decide +kernel
theorem dX2_turn_32 : decode cX2_turn 32 = .ok (.putfield 19, 3) := by decide +kernel
theorem dX2_turn_35 : decode cX2_turn 35 = .ok (.aload_n 0, 1) := by decide +kernel
theorem dX2_turn_36 : decode cX2_turn 36 = .ok (.getfield 9, 3) := by decide +kernel
theorem dX2_turn_39 : decode cX2_turn 39 = .ok (.iload_n 1, 1) := by decide +kernel
theorem dX2_turn_40 : decode cX2_turn 40 = .ok (.baload, 1) := by decide +kernel
theorem dX2_turn_41 : decode cX2_turn 41 = .ok (.ireturn, 1) := by decide +kernel
theorem dX2_build_0 : decode cX2_build 0 = .ok (.aload_n 0, 1) := by decide +kernel
theorem dX2_build_1 : decode cX2_build 1 = .ok (.getfield 9, 3) := by decide +kernel
theorem dX2_build_4 : decode cX2_build 4 = .ok (.iconst 0, 1) := by decide +kernel
theorem dX2_build_5 : decode cX2_build 5 = .ok (.invokestatic 30, 3) := by decide +kernel
theorem dX2_build_8 : decode cX2_build 8 = .ok (.aload_n 0, 1) := by decide +kernel
theorem dX2_build_9 : decode cX2_build 9 = .ok (.iconst 0, 1) := by decide +kernel
theorem dX2_build_10 : decode cX2_build 10 = .ok (.putfield 19, 3) := by decide +kernel
theorem dX2_build_13 : decode cX2_build 13 = .ok (.aload_n 0, 1) := by decide +kernel
theorem dX2_build_14 : decode cX2_build 14 = .ok (.iconst 0, 1) := by decide +kernel
theorem dX2_build_15 : decode cX2_build 15 = .ok (.invokevirtual 36, 3) := by decide +kernel
theorem dX2_build_18 : decode cX2_build 18 = .ok (.iconst 0, 1) := by decide +kernel
theorem dX2_build_19 : decode cX2_build 19 = .ok (.istore_n 2, 1) := by decide +kernel
theorem dX2_build_20 : decode cX2_build 20 = .ok (.iload_n 2, 1) := by decide +kernel
theorem dX2_build_21 : decode cX2_build 21 = .ok (.sipush 4096, 3) := by decide +kernel
theorem dX2_build_24 : decode cX2_build 24 = .ok (.if_icmp .ge 50, 3) := by decide +kernel
theorem dX2_build_27 : decode cX2_build 27 = .ok (.iload_n 2, 1) := by decide +kernel
theorem dX2_build_28 : decode cX2_build 28 = .ok (.aload_n 0, 1) := by decide +kernel
theorem dX2_build_29 : decode cX2_build 29 = .ok (.getfield 19, 3) := by decide +kernel
theorem dX2_build_32 : decode cX2_build 32 = .ok (.if_icmp .ge 42, 3) := by decide +kernel
theorem dX2_build_35 : decode cX2_build 35 = .ok (.iconst 0, 1) := by decide +kernel
theorem dX2_build_36 : decode cX2_build 36 = .ok (.istore_n 3, 1) := by decide +kernel
theorem dX2_build_37 : decode cX2_build 37 = .ok (.iload_n 3, 1) := by decide +kernel
theorem dX2_build_38 : decode cX2_build 38 = .ok (.bipush 18, 2) := by decide +kernel
theorem dX2_build_40 : decode cX2_build 40 = .ok (.if_icmp .ge 28, 3) := by decide +kernel
theorem dX2_build_43 : decode cX2_build 43 = .ok (.aload_n 0, 1) := by decide +kernel
theorem dX2_build_44 : decode cX2_build 44 = .ok (.aload_n 0, 1) := by decide +kernel
theorem dX2_build_45 : decode cX2_build 45 = .ok (.getfield 26, 3) := by decide +kernel
theorem dX2_build_48 : decode cX2_build 48 = .ok (.aload_n 0, 1) := by decide +kernel
theorem dX2_build_49 : decode cX2_build 49 = .ok (.getfield 15, 3) := by decide +kernel
theorem dX2_build_52 : decode cX2_build 52 = .ok (.iload_n 2, 1) := by decide +kernel
theorem dX2_build_53 : decode cX2_build 53 = .ok (.iaload, 1) := by decide +kernel
theorem dX2_build_54 : decode cX2_build 54 = .ok (.iload_n 3, 1) := by decide +kernel
theorem dX2_build_55 : decode cX2_build 55 = .ok (.iload_n 1, 1) := by decide +kernel
theorem dX2_build_56 : decode cX2_build 56 = .ok (.invokevirtual 40, 3) := by decide +kernel
theorem dX2_build_59 : decode cX2_build 59 = .ok (.invokevirtual 36, 3) := by decide +kernel
theorem dX2_build_62 : decode cX2_build 62 = .ok (.iinc 3 1, 3) := by decide +kernel
theorem dX2_build_65 : decode cX2_build 65 = .ok (.goto (-28), 3) := by decide +kernel
theorem dX2_build_68 : decode cX2_build 68 = .ok (.iinc 2 1, 3) := by decide +kernel
theorem dX2_build_71 : decode cX2_build 71 = .ok (.goto (-51), 3) := by decide +kernel
theorem dX2_build_74 : decode cX2_build 74 = .ok (.aload_n 0, 1) := by decide +kernel
theorem dX2_build_75 : decode cX2_build 75 = .ok (.getfield 19, 3) := by decide +kernel
theorem dX2_build_78 : decode cX2_build 78 = .ok (.ireturn, 1) := by decide +kernel
theorem dX2_join_0 : decode cX2_join 0 = .ok (.iload_n 1, 1) := by decide +kernel
theorem dX2_join_1 : decode cX2_join 1 = .ok (.invokestatic 46, 3) := by decide +kernel
theorem dX2_join_4 : decode cX2_join 4 = .ok (.ifCond .eq 38, 3) := by decide +kernel
theorem dX2_join_7 : decode cX2_join 7 = .ok (.aload_n 0, 1) := by decide +kernel
theorem dX2_join_8 : decode cX2_join 8 = .ok (.getfield 9, 3) := by decide +kernel
theorem dX2_join_11 : decode cX2_join 11 = .ok (.iload_n 1, 1) := by decide +kernel
theorem dX2_join_12 : decode cX2_join 12 = .ok (.baload, 1) := by decide +kernel
theorem dX2_join_13 : decode cX2_join 13 = .ok (.ifCond .ne 29, 3) := by decide +kernel
theorem dX2_join_16 : decode cX2_join 16 = .ok (.aload_n 0, 1) := by decide +kernel
theorem dX2_join_17 : decode cX2_join 17 = .ok (.getfield 19, 3) := by decide +kernel
theorem dX2_join_20 : decode cX2_join 20 = .ok (.invokestatic 46, 3) := by decide +kernel
theorem dX2_join_23 : decode cX2_join 23 = .ok (.ifCond .eq 19, 3) := by decide +kernel
theorem dX2_join_26 : decode cX2_join 26 = .ok (.aload_n 0, 1) := by decide +kernel
theorem dX2_join_27 : decode cX2_join 27 = .ok (.getfield 15, 3) := by decide +kernel
theorem dX2_join_30 : decode cX2_join 30 = .ok (.aload_n 0, 1) := by decide +kernel
theorem dX2_join_31 : decode cX2_join 31 = .ok (.getfield 19, 3) := by decide +kernel
theorem dX2_join_34 : decode cX2_join 34 = .ok (.iload_n 1, 1) := by decide +kernel
theorem dX2_join_35 : decode cX2_join 35 = .ok (.iastore, 1) := by decide +kernel
theorem dX2_join_36 : decode cX2_join 36 = .ok (.aload_n 0, 1) := by decide +kernel
theorem dX2_join_37 : decode cX2_join 37 = .ok (.iload_n 1, 1) := by decide +kernel
theorem dX2_join_38 : decode cX2_join 38 = .ok (.invokevirtual 50, 3) := by decide +kernel
theorem dX2_join_41 : decode cX2_join 41 = .ok (.pop, 1) := by decide +kernel
theorem dX2_join_42 : decode cX2_join 42 = .ok (.return_, 1) := by decide +kernel
theorem dX2_examine_0 : decode cX2_examine 0 = .ok (.aload_n 0, 1) := by decide +kernel
theorem dX2_examine_1 : decode cX2_examine 1 = .ok (.iconst 0, 1) := by decide +kernel
theorem dX2_examine_2 : decode cX2_examine 2 = .ok (.putfield 23, 3) := by decide +kernel
theorem dX2_examine_5 : decode cX2_examine 5 = .ok (.aload_n 0, 1) := by decide +kernel
theorem dX2_examine_6 : decode cX2_examine 6 = .ok (.getfield 9, 3) := by decide +kernel
theorem dX2_examine_9 : decode cX2_examine 9 = .ok (.iconst 0, 1) := by decide +kernel
theorem dX2_examine_10 : decode cX2_examine 10 = .ok (.baload, 1) := by decide +kernel
theorem dX2_examine_11 : decode cX2_examine 11 = .ok (.ifCond .ne 5, 3) := by decide +kernel
theorem dX2_examine_14 : decode cX2_examine 14 = .ok (.iconst 1, 1) := by decide +kernel
theorem dX2_examine_15 : decode cX2_examine 15 = .ok (.ireturn, 1) := by decide +kernel
theorem dX2_examine_16 : decode cX2_examine 16 = .ok (.iconst 0, 1) := by decide +kernel
theorem dX2_examine_17 : decode cX2_examine 17 = .ok (.istore_n 2, 1) := by decide +kernel
theorem dX2_examine_18 : decode cX2_examine 18 = .ok (.iload_n 2, 1) := by decide +kernel
theorem dX2_examine_19 : decode cX2_examine 19 = .ok (.sipush 4096, 3) := by decide +kernel
theorem dX2_examine_22 : decode cX2_examine 22 = .ok (.if_icmp .ge 41, 3) := by decide +kernel
theorem dX2_examine_25 : decode cX2_examine 25 = .ok (.aload_n 0, 1) := by decide +kernel
theorem dX2_examine_26 : decode cX2_examine 26 = .ok (.getfield 9, 3) := by decide +kernel
theorem dX2_examine_29 : decode cX2_examine 29 = .ok (.iload_n 2, 1) := by decide +kernel
theorem dX2_examine_30 : decode cX2_examine 30 = .ok (.baload, 1) := by decide +kernel
theorem dX2_examine_31 : decode cX2_examine 31 = .ok (.iconst 1, 1) := by decide +kernel
theorem dX2_examine_32 : decode cX2_examine 32 = .ok (.if_icmp .ne 12, 3) := by decide +kernel
theorem dX2_examine_35 : decode cX2_examine 35 = .ok (.aload_n 0, 1) := by decide +kernel
theorem dX2_examine_36 : decode cX2_examine 36 = .ok (.iload_n 2, 1) := by decide +kernel
theorem dX2_examine_37 : decode cX2_examine 37 = .ok (.iload_n 1, 1) := by decide +kernel
theorem dX2_examine_38 : decode cX2_examine 38 = .ok (.invokevirtual 54, 3) := by decide +kernel
theorem dX2_examine_41 : decode cX2_examine 41 = .ok (.goto 4, 3) := by decide +kernel
theorem dX2_examine_44 : decode cX2_examine 44 = .ok (.iconst 0, 1) := by decide +kernel
theorem dX2_examine_45 : decode cX2_examine 45 = .ok (.istore_n 3, 1) := by decide +kernel
theorem dX2_examine_46 : decode cX2_examine 46 = .ok (.iload_n 3, 1) := by decide +kernel
theorem dX2_examine_47 : decode cX2_examine 47 = .ok (.ifCond .eq 10, 3) := by decide +kernel
theorem dX2_examine_50 : decode cX2_examine 50 = .ok (.aload_n 0, 1) := by decide +kernel
theorem dX2_examine_51 : decode cX2_examine 51 = .ok (.iload_n 2, 1) := by decide +kernel
theorem dX2_examine_52 : decode cX2_examine 52 = .ok (.putfield 23, 3) := by decide +kernel
theorem dX2_examine_55 : decode cX2_examine 55 = .ok (.iload_n 3, 1) := by decide +kernel
theorem dX2_examine_56 : decode cX2_examine 56 = .ok (.ireturn, 1) := by decide +kernel
theorem dX2_examine_57 : decode cX2_examine 57 = .ok (.iinc 2 1, 3) := by decide +kernel
theorem dX2_examine_60 : decode cX2_examine 60 = .ok (.goto (-42), 3) := by decide +kernel
theorem dX2_examine_63 : decode cX2_examine 63 = .ok (.aload_n 0, 1) := by decide +kernel
theorem dX2_examine_64 : decode cX2_examine 64 = .ok (.iconst (-1), 1) := by decide +kernel
theorem dX2_examine_65 : decode cX2_examine 65 = .ok (.putfield 23, 3) := by decide +kernel
theorem dX2_examine_68 : decode cX2_examine 68 = .ok (.iconst 0, 1) := by decide +kernel
theorem dX2_examine_69 : decode cX2_examine 69 = .ok (.ireturn, 1) := by decide +kernel
theorem dX2_faultOf_0 : decode cX2_faultOf 0 = .ok (.aload_n 0, 1) := by decide +kernel
theorem dX2_faultOf_1 : decode cX2_faultOf 1 = .ok (.getfield 26, 3) := by decide +kernel
theorem dX2_faultOf_4 : decode cX2_faultOf 4 = .ok (.iload_n 1, 1) := by decide +kernel
theorem dX2_faultOf_5 : decode cX2_faultOf 5 = .ok (.invokevirtual 58, 3) := by decide +kernel
theorem dX2_faultOf_8 : decode cX2_faultOf 8 = .ok (.ifCond .eq 5, 3) := by decide +kernel
theorem dX2_faultOf_11 : decode cX2_faultOf 11 = .ok (.iconst 2, 1) := by decide +kernel
theorem dX2_faultOf_12 : decode cX2_faultOf 12 = .ok (.ireturn, 1) := by decide +kernel
theorem dX2_faultOf_13 : decode cX2_faultOf 13 = .ok (.aload_n 0, 1) := by decide +kernel
theorem dX2_faultOf_14 : decode cX2_faultOf 14 = .ok (.getfield 26, 3) := by decide +kernel
theorem dX2_faultOf_17 : decode cX2_faultOf 17 = .ok (.iload_n 1, 1) := by decide +kernel
theorem dX2_faultOf_18 : decode cX2_faultOf 18 = .ok (.invokevirtual 61, 3) := by decide +kernel
theorem dX2_faultOf_21 : decode cX2_faultOf 21 = .ok (.ifCond .ne 5, 3) := by decide +kernel
theorem dX2_faultOf_24 : decode cX2_faultOf 24 = .ok (.iconst 3, 1) := by decide +kernel
theorem dX2_faultOf_25 : decode cX2_faultOf 25 = .ok (.ireturn, 1) := by decide +kernel
theorem dX2_faultOf_26 : decode cX2_faultOf 26 = .ok (.iconst 0, 1) := by decide +kernel
theorem dX2_faultOf_27 : decode cX2_faultOf 27 = .ok (.istore_n 3, 1) := by decide +kernel
theorem dX2_faultOf_28 : decode cX2_faultOf 28 = .ok (.iload_n 3, 1) := by decide +kernel
theorem dX2_faultOf_29 : decode cX2_faultOf 29 = .ok (.bipush 18, 2) := by decide +kernel
theorem dX2_faultOf_31 : decode cX2_faultOf 31 = .ok (.if_icmp .ge 41, 3) := by decide +kernel
theorem dX2_faultOf_34 : decode cX2_faultOf 34 = .ok (.aload_n 0, 1) := by decide +kernel
theorem dX2_faultOf_35 : decode cX2_faultOf 35 = .ok (.getfield 26, 3) := by decide +kernel
theorem dX2_faultOf_38 : decode cX2_faultOf 38 = .ok (.iload_n 1, 1) := by decide +kernel
theorem dX2_faultOf_39 : decode cX2_faultOf 39 = .ok (.iload_n 3, 1) := by decide +kernel
theorem dX2_faultOf_40 : decode cX2_faultOf 40 = .ok (.iload_n 2, 1) := by decide +kernel
theorem dX2_faultOf_41 : decode cX2_faultOf 41 = .ok (.invokevirtual 40, 3) := by decide +kernel
theorem dX2_faultOf_44 : decode cX2_faultOf 44 = .ok (.istore 4, 2) := by decide +kernel
theorem dX2_faultOf_46 : decode cX2_faultOf 46 = .ok (.iload 4, 2) := by decide +kernel
theorem dX2_faultOf_48 : decode cX2_faultOf 48 = .ok (.invokestatic 46, 3) := by decide +kernel
theorem dX2_faultOf_51 : decode cX2_faultOf 51 = .ok (.ifCond .eq 15, 3) := by decide +kernel
theorem dX2_faultOf_54 : decode cX2_faultOf 54 = .ok (.aload_n 0, 1) := by decide +kernel
theorem dX2_faultOf_55 : decode cX2_faultOf 55 = .ok (.getfield 9, 3) := by decide +kernel
theorem dX2_faultOf_58 : decode cX2_faultOf 58 = .ok (.iload 4, 2) := by decide +kernel
theorem dX2_faultOf_60 : decode cX2_faultOf 60 = .ok (.baload, 1) := by decide +kernel
theorem dX2_faultOf_61 : decode cX2_faultOf 61 = .ok (.ifCond .ne 5, 3) := by decide +kernel
theorem dX2_faultOf_64 : decode cX2_faultOf 64 = .ok (.iconst 4, 1) := by decide +kernel
theorem dX2_faultOf_65 : decode cX2_faultOf 65 = .ok (.ireturn, 1) := by decide +kernel
theorem dX2_faultOf_66 : decode cX2_faultOf 66 = .ok (.iinc 3 1, 3) := by decide +kernel
theorem dX2_faultOf_69 : decode cX2_faultOf 69 = .ok (.goto (-41), 3) := by decide +kernel
theorem dX2_faultOf_72 : decode cX2_faultOf 72 = .ok (.iconst 0, 1) := by decide +kernel
theorem dX2_faultOf_73 : decode cX2_faultOf 73 = .ok (.ireturn, 1) := by decide +kernel
theorem dX3_init_0 : decode cX3_init 0 = .ok (.aload_n 0, 1) := by decide +kernel
theorem dX3_init_1 : decode cX3_init 1 = .ok (.invokespecial 3, 3) := by decide +kernel
theorem dX3_init_4 : decode cX3_init 4 = .ok (.aload_n 0, 1) := by decide +kernel
theorem dX3_init_5 : decode cX3_init 5 = .ok (.bipush 9, 2) := by decide +kernel
theorem dX3_init_7 : decode cX3_init 7 = .ok (.newarray .int, 2) := by decide +kernel
theorem dX3_init_9 : decode cX3_init 9 = .ok (.putfield 9, 3) := by decide +kernel
theorem dX3_init_12 : decode cX3_init 12 = .ok (.aload_n 0, 1) := by decide +kernel
theorem dX3_init_13 : decode cX3_init 13 = .ok (.bipush 9, 2) := by decide +kernel
theorem dX3_init_15 : decode cX3_init 15 = .ok (.newarray .int, 2) := by decide +kernel
theorem dX3_init_17 : decode cX3_init 17 = .ok (.putfield 15, 3) := by decide +kernel
theorem dX3_init_20 : decode cX3_init 20 = .ok (.aload_n 0, 1) := by decide +kernel
theorem dX3_init_21 : decode cX3_init 21 = .ok (.bipush 36, 2) := by decide +kernel
theorem dX3_init_23 : decode cX3_init 23 = .ok (.newarray .int, 2) := by decide +kernel
theorem dX3_init_25 : decode cX3_init 25 = .ok (.putfield 18, 3) := by decide +kernel
theorem dX3_init_28 : decode cX3_init 28 = .ok (.aload_n 0, 1) := by decide +kernel
theorem dX3_init_29 : decode cX3_init 29 = .ok (.getfield 9, 3) := by decide +kernel
theorem dX3_init_32 : decode cX3_init 32 = .ok (.iconst (-1), 1) := by decide +kernel
theorem dX3_init_33 : decode cX3_init 33 = .ok (.invokestatic 21, 3) := by decide +kernel
theorem dX3_init_36 : decode cX3_init 36 = .ok (.aload_n 0, 1) := by decide +kernel
theorem dX3_init_37 : decode cX3_init 37 = .ok (.getfield 15, 3) := by decide +kernel
theorem dX3_init_40 : decode cX3_init 40 = .ok (.iconst (-1), 1) := by decide +kernel
theorem dX3_init_41 : decode cX3_init 41 = .ok (.invokestatic 21, 3) := by decide +kernel
theorem dX3_init_44 : decode cX3_init 44 = .ok (.return_, 1) := by decide +kernel
theorem dX3_begin_0 : decode cX3_begin 0 = .ok (.aload_n 0, 1) := by decide +kernel
theorem dX3_begin_1 : decode cX3_begin 1 = .ok (.getfield 9, 3) := by decide +kernel
theorem dX3_begin_4 : decode cX3_begin 4 = .ok (.iload_n 1, 1) := by decide +kernel
theorem dX3_begin_5 : decode cX3_begin 5 = .ok (.iload_n 3, 1) := by decide +kernel
theorem dX3_begin_6 : decode cX3_begin 6 = .ok (.iastore, 1) := by decide +kernel
theorem dX3_begin_7 : decode cX3_begin 7 = .ok (.aload_n 0, 1) := by decide +kernel
theorem dX3_begin_8 : decode cX3_begin 8 = .ok (.getfield 15, 3) := by decide +kernel
theorem dX3_begin_11 : decode cX3_begin 11 = .ok (.iload_n 1, 1) := by decide +kernel
theorem dX3_begin_12 : decode cX3_begin 12 = .ok (.iload_n 2, 1) := by decide +kernel
theorem dX3_begin_13 : decode cX3_begin 13 = .ok (.iastore, 1) := by decide +kernel
theorem dX3_begin_14 : decode cX3_begin 14 = .ok (.iconst 0, 1) := by decide +kernel
theorem dX3_begin_15 : decode cX3_begin 15 = .ok (.istore 4, 2) := by decide +kernel
theorem dX3_begin_17 : decode cX3_begin 17 = .ok (.iload 4, 2) := by decide +kernel
theorem dX3_begin_19 : decode cX3_begin 19 = .ok (.iconst 4, 1) := by decide +kernel
theorem dX3_begin_20 : decode cX3_begin 20 = .ok (.if_icmp .ge 17, 3) := by decide +kernel
theorem dX3_begin_23 : decode cX3_begin 23 = .ok (.aload_n 0, 1) := by decide +kernel
theorem dX3_begin_24 : decode cX3_begin 24 = .ok (.iload_n 1, 1) := by decide +kernel
theorem dX3_begin_25 : decode cX3_begin 25 = .ok (.iload 4, 2) := by decide +kernel
theorem dX3_begin_27 : decode cX3_begin 27 = .ok (.iconst (-1), 1) := by decide +kernel
theorem dX3_begin_28 : decode cX3_begin 28 = .ok (.invokevirtual 27, 3) := by decide +kernel
theorem dX3_begin_31 : decode cX3_begin 31 = .ok (.iinc 4 1, 3) := by decide +kernel
theorem dX3_begin_34 : decode cX3_begin 34 = .ok (.goto (-17), 3) := by decide +kernel
theorem dX3_begin_37 : decode cX3_begin 37 = .ok (.return_, 1) := by decide +kernel
theorem dX3_drop_0 : decode cX3_drop 0 = .ok (.aload_n 0, 1) := by decide +kernel
theorem dX3_drop_1 : decode cX3_drop 1 = .ok (.getfield 9, 3) := by decide +kernel
theorem dX3_drop_4 : decode cX3_drop 4 = .ok (.iload_n 1, 1) := by decide +kernel
theorem dX3_drop_5 : decode cX3_drop 5 = .ok (.iconst (-1), 1) := by decide +kernel
theorem dX3_drop_6 : decode cX3_drop 6 = .ok (.iastore, 1) := by decide +kernel
theorem dX3_drop_7 : decode cX3_drop 7 = .ok (.aload_n 0, 1) := by decide +kernel
theorem dX3_drop_8 : decode cX3_drop 8 = .ok (.getfield 15, 3) := by decide +kernel
theorem dX3_drop_11 : decode cX3_drop 11 = .ok (.iload_n 1, 1) := by decide +kernel
theorem dX3_drop_12 : decode cX3_drop 12 = .ok (.iconst (-1), 1) := by decide +kernel
theorem dX3_drop_13 : decode cX3_drop 13 = .ok (.iastore, 1) := by decide +kernel
theorem dX3_drop_14 : decode cX3_drop 14 = .ok (.return_, 1) := by decide +kernel
theorem dX3_has_0 : decode cX3_has 0 = .ok (.aload_n 0, 1) := by decide +kernel
theorem dX3_has_1 : decode cX3_has 1 = .ok (.getfield 9, 3) := by decide +kernel
theorem dX3_has_4 : decode cX3_has 4 = .ok (.iload_n 1, 1) := by decide +kernel
theorem dX3_has_5 : decode cX3_has 5 = .ok (.iaload, 1) := by decide +kernel
theorem dX3_has_6 : decode cX3_has 6 = .ok (.iconst (-1), 1) := by decide +kernel
theorem dX3_has_7 : decode cX3_has 7 = .ok (.if_icmp .eq 7, 3) := by decide +kernel
theorem dX3_has_10 : decode cX3_has 10 = .ok (.iconst 1, 1) := by decide +kernel
theorem dX3_has_11 : decode cX3_has 11 = .ok (.goto 4, 3) := by decide +kernel
theorem dX3_has_14 : decode cX3_has 14 = .ok (.iconst 0, 1) := by decide +kernel
theorem dX3_has_15 : decode cX3_has 15 = .ok (.ireturn, 1) := by decide +kernel
theorem dX3_hasPlace_0 : decode cX3_hasPlace 0 = .ok (.iload_n 2, 1) := by decide +kernel
theorem dX3_hasPlace_1 : decode cX3_hasPlace 1 = .ok (.ifCond .lt 17, 3) := by decide +kernel
theorem dX3_hasPlace_4 : decode cX3_hasPlace 4 = .ok (.iload_n 2, 1) := by decide +kernel
theorem dX3_hasPlace_5 : decode cX3_hasPlace 5 = .ok (.aload_n 0, 1) := by decide +kernel
theorem dX3_hasPlace_6 : decode cX3_hasPlace 6 = .ok (.getfield 9, 3) := by decide +kernel
theorem dX3_hasPlace_9 : decode cX3_hasPlace 9 = .ok (.iload_n 1, 1) := by decide +kernel
theorem dX3_hasPlace_10 : decode cX3_hasPlace 10 = .ok (.iaload, 1) := by decide +kernel
theorem dX3_hasPlace_11 : decode cX3_hasPlace 11 = .ok (.if_icmp .ge 7, 3) := by decide +kernel
theorem dX3_hasPlace_14 : decode cX3_hasPlace 14 = .ok (.iconst 1, 1) := by decide +kernel
theorem dX3_hasPlace_15 : decode cX3_hasPlace 15 = .ok (.goto 4, 3) := by decide +kernel
theorem dX3_hasPlace_18 : decode cX3_hasPlace 18 = .ok (.iconst 0, 1) := by decide +kernel
theorem dX3_hasPlace_19 : decode cX3_hasPlace 19 = .ok (.ireturn, 1) := by decide +kernel
theorem dX3_nameAt_0 : decode cX3_nameAt 0 = .ok (.aload_n 0, 1) := by decide +kernel
theorem dX3_nameAt_1 : decode cX3_nameAt 1 = .ok (.getfield 18, 3) := by decide +kernel
theorem dX3_nameAt_4 : decode cX3_nameAt 4 = .ok (.iload_n 1, 1) := by decide +kernel
theorem dX3_nameAt_5 : decode cX3_nameAt 5 = .ok (.iconst 4, 1) := by decide +kernel
theorem dX3_nameAt_6 : decode cX3_nameAt 6 = .ok (.imul, 1) := by decide +kernel
theorem dX3_nameAt_7 : decode cX3_nameAt 7 = .ok (.iload_n 2, 1) := by decide +kernel
theorem dX3_nameAt_8 : decode cX3_nameAt 8 = .ok (.iadd, 1) := by decide +kernel
theorem dX3_nameAt_9 : decode cX3_nameAt 9 = .ok (.iaload, 1) := by decide +kernel
theorem dX3_nameAt_10 : decode cX3_nameAt 10 = .ok (.ireturn, 1) := by decide +kernel
theorem dX3_setName_0 : decode cX3_setName 0 = .ok (.aload_n 0, 1) := by decide +kernel
theorem dX3_setName_1 : decode cX3_setName 1 = .ok (.getfield 18, 3) := by decide +kernel
theorem dX3_setName_4 : decode cX3_setName 4 = .ok (.iload_n 1, 1) := by decide +kernel
theorem dX3_setName_5 : decode cX3_setName 5 = .ok (.iconst 4, 1) := by decide +kernel
theorem dX3_setName_6 : decode cX3_setName 6 = .ok (.imul, 1) := by decide +kernel
theorem dX3_setName_7 : decode cX3_setName 7 = .ok (.iload_n 2, 1) := by decide +kernel
theorem dX3_setName_8 : decode cX3_setName 8 = .ok (.iadd, 1) := by decide +kernel
theorem dX3_setName_9 : decode cX3_setName 9 = .ok (.iload_n 3, 1) := by decide +kernel
theorem dX3_setName_10 : decode cX3_setName 10 = .ok (.iastore, 1) := by decide +kernel
theorem dX3_setName_11 : decode cX3_setName 11 = .ok (.return_, 1) := by decide +kernel
theorem dX3_namedBits_0 : decode cX3_namedBits 0 = .ok (.iconst 0, 1) := by decide +kernel
theorem dX3_namedBits_1 : decode cX3_namedBits 1 = .ok (.istore_n 2, 1) := by decide +kernel
theorem dX3_namedBits_2 : decode cX3_namedBits 2 = .ok (.iconst 0, 1) := by decide +kernel
theorem dX3_namedBits_3 : decode cX3_namedBits 3 = .ok (.istore_n 3, 1) := by decide +kernel
theorem dX3_namedBits_4 : decode cX3_namedBits 4 = .ok (.iload_n 3, 1) := by decide +kernel
theorem dX3_namedBits_5 : decode cX3_namedBits 5 = .ok (.aload_n 0, 1) := by decide +kernel
theorem dX3_namedBits_6 : decode cX3_namedBits 6 = .ok (.getfield 9, 3) := by decide +kernel
theorem dX3_namedBits_9 : decode cX3_namedBits 9 = .ok (.iload_n 1, 1) := by decide +kernel
theorem dX3_namedBits_10 : decode cX3_namedBits 10 = .ok (.iaload, 1) := by decide +kernel
theorem dX3_namedBits_11 : decode cX3_namedBits 11 = .ok (.if_icmp .ge 21, 3) := by decide +kernel
theorem dX3_namedBits_14 : decode cX3_namedBits 14 = .ok (.iload_n 2, 1) := by decide +kernel
theorem dX3_namedBits_15 : decode cX3_namedBits 15 = .ok (.aload_n 0, 1) := by decide +kernel
theorem dX3_namedBits_16 : decode cX3_namedBits 16 = .ok (.iload_n 1, 1) := by decide +kernel
theorem dX3_namedBits_17 : decode cX3_namedBits 17 = .ok (.iload_n 3, 1) := by decide +kernel
theorem dX3_namedBits_18 : decode cX3_namedBits 18 = .ok (.invokevirtual 31, 3) := by decide +kernel
theorem dX3_namedBits_21 : decode cX3_namedBits 21 = .ok (.invokestatic 35, 3) := by decide +kernel
theorem dX3_namedBits_24 : decode cX3_namedBits 24 = .ok (.ior, 1) := by decide +kernel
theorem dX3_namedBits_25 : decode cX3_namedBits 25 = .ok (.istore_n 2, 1) := by decide +kernel
theorem dX3_namedBits_26 : decode cX3_namedBits 26 = .ok (.iinc 3 1, 3) := by decide +kernel
theorem dX3_namedBits_29 : decode cX3_namedBits 29 = .ok (.goto (-25), 3) := by decide +kernel
theorem dX3_namedBits_32 : decode cX3_namedBits 32 = .ok (.iload_n 2, 1) := by decide +kernel
theorem dX3_namedBits_33 : decode cX3_namedBits 33 = .ok (.ireturn, 1) := by decide +kernel
theorem dX3_firstNamedBit_0 : decode cX3_firstNamedBit 0 = .ok (.iconst 0, 1) := by decide +kernel
theorem dX3_firstNamedBit_1 : decode cX3_firstNamedBit 1 = .ok (.istore_n 2, 1) := by decide +kernel
theorem dX3_firstNamedBit_2 : decode cX3_firstNamedBit 2 = .ok (.iload_n 2, 1) := by decide +kernel
theorem dX3_firstNamedBit_3 : decode cX3_firstNamedBit 3 = .ok (.aload_n 0, 1) := by decide +kernel
theorem dX3_firstNamedBit_4 : decode cX3_firstNamedBit 4 = .ok (.getfield 9, 3) := by decide +kernel
theorem dX3_firstNamedBit_7 : decode cX3_firstNamedBit 7 = .ok (.iload_n 1, 1) := by decide +kernel
theorem dX3_firstNamedBit_8 : decode cX3_firstNamedBit 8 = .ok (.iaload, 1) := by decide +kernel
theorem dX3_firstNamedBit_9 : decode cX3_firstNamedBit 9 = .ok (.if_icmp .ge 29, 3) := by decide +kernel
theorem dX3_firstNamedBit_12 : decode cX3_firstNamedBit 12 = .ok (.aload_n 0, 1) := by decide +kernel
theorem dX3_firstNamedBit_13 : decode cX3_firstNamedBit 13 = .ok (.iload_n 1, 1) := by decide +kernel
theorem dX3_firstNamedBit_14 : decode cX3_firstNamedBit 14 = .ok (.iload_n 2, 1) := by decide +kernel
theorem dX3_firstNamedBit_15 : decode cX3_firstNamedBit 15 = .ok (.invokevirtual 31, 3) := by decide +kernel
theorem dX3_firstNamedBit_18 : decode cX3_firstNamedBit 18 = .ok (.iconst (-1), 1) := by decide +kernel
theorem dX3_firstNamedBit_19 : decode cX3_firstNamedBit 19 = .ok (.if_icmp .eq 13, 3) := by decide +kernel
theorem dX3_firstNamedBit_22 : decode cX3_firstNamedBit 22 = .ok (.aload_n 0, 1) := by decide +kernel
theorem dX3_firstNamedBit_23 : decode cX3_firstNamedBit 23 = .ok (.iload_n 1, 1) := by decide +kernel
theorem dX3_firstNamedBit_24 : decode cX3_firstNamedBit 24 = .ok (.iload_n 2, 1) := by decide +kernel
theorem dX3_firstNamedBit_25 : decode cX3_firstNamedBit 25 = .ok (.invokevirtual 31, 3) := by decide +kernel
theorem dX3_firstNamedBit_28 : decode cX3_firstNamedBit 28 = .ok (.invokestatic 35, 3) := by decide +kernel
theorem dX3_firstNamedBit_31 : decode cX3_firstNamedBit 31 = .ok (.ireturn, 1) := by decide +kernel
theorem dX3_firstNamedBit_32 : decode cX3_firstNamedBit 32 = .ok (.iinc 2 1, 3) := by decide +kernel
theorem dX3_firstNamedBit_35 : decode cX3_firstNamedBit 35 = .ok (.goto (-33), 3) := by decide +kernel
theorem dX3_firstNamedBit_38 : decode cX3_firstNamedBit 38 = .ok (.iconst 0, 1) := by decide +kernel
theorem dX3_firstNamedBit_39 : decode cX3_firstNamedBit 39 = .ok (.ireturn, 1) := by decide +kernel
theorem dX3_bitOf_0 : decode cX3_bitOf 0 = .ok (.iload_n 0, 1) := by decide +kernel
theorem dX3_bitOf_1 : decode cX3_bitOf 1 = .ok (.iconst (-1), 1) := by decide +kernel
theorem dX3_bitOf_2 : decode cX3_bitOf 2 = .ok (.if_icmp .ne 7, 3) := by decide +kernel
theorem dX3_bitOf_5 : decode cX3_bitOf 5 = .ok (.iconst 0, 1) := by decide +kernel
theorem dX3_bitOf_6 : decode cX3_bitOf 6 = .ok (.goto 6, 3) := by decide +kernel
theorem dX3_bitOf_9 : decode cX3_bitOf 9 = .ok (.iconst 1, 1) := by decide +kernel
theorem dX3_bitOf_10 : decode cX3_bitOf 10 = .ok (.iload_n 0, 1) := by decide +kernel
theorem dX3_bitOf_11 : decode cX3_bitOf 11 = .ok (.ishl, 1) := by decide +kernel
theorem dX3_bitOf_12 : decode cX3_bitOf 12 = .ok (.ireturn, 1) := by decide +kernel
theorem dX4_init_0 : decode cX4_init 0 = .ok (.aload_n 0, 1) := by decide +kernel
theorem dX4_init_1 : decode cX4_init 1 = .ok (.invokespecial 3, 3) := by decide +kernel
theorem dX4_init_4 : decode cX4_init 4 = .ok (.aload_n 0, 1) := by decide +kernel
theorem dX4_init_5 : decode cX4_init 5 = .ok (.bipush 9, 2) := by decide +kernel
theorem dX4_init_7 : decode cX4_init 7 = .ok (.newarray .int, 2) := by decide +kernel
theorem dX4_init_9 : decode cX4_init 9 = .ok (.putfield 9, 3) := by decide +kernel
theorem dX4_init_12 : decode cX4_init 12 = .ok (.aload_n 0, 1) := by decide +kernel
theorem dX4_init_13 : decode cX4_init 13 = .ok (.iconst 0, 1) := by decide +kernel
theorem dX4_init_14 : decode cX4_init 14 = .ok (.putfield 15, 3) := by decide +kernel
theorem dX4_init_17 : decode cX4_init 17 = .ok (.aload_n 0, 1) := by decide +kernel
theorem dX4_init_18 : decode cX4_init 18 = .ok (.bipush 9, 2) := by decide +kernel
theorem dX4_init_20 : decode cX4_init 20 = .ok (.newarray .int, 2) := by decide +kernel
theorem dX4_init_22 : decode cX4_init 22 = .ok (.putfield 19, 3) := by decide +kernel
theorem dX4_init_25 : decode cX4_init 25 = .ok (.return_, 1) := by decide +kernel
theorem dX4_closes_0 : decode cX4_closes 0 = .ok (.aload_n 0, 1) := by decide +kernel
theorem dX4_closes_1 : decode cX4_closes 1 = .ok (.aload_n 1, 1) := by decide +kernel
theorem dX4_closes_2 : decode cX4_closes 2 = .ok (.iload_n 2, 1) := by decide +kernel
theorem dX4_closes_3 : decode cX4_closes 3 = .ok (.invokevirtual 22, 3) := by decide +kernel
theorem dX4_closes_6 : decode cX4_closes 6 = .ok (.aload_n 0, 1) := by decide +kernel
theorem dX4_closes_7 : decode cX4_closes 7 = .ok (.getfield 19, 3) := by decide +kernel
theorem dX4_closes_10 : decode cX4_closes 10 = .ok (.iload_n 3, 1) := by decide +kernel
theorem dX4_closes_11 : decode cX4_closes 11 = .ok (.iaload, 1) := by decide +kernel
theorem dX4_closes_12 : decode cX4_closes 12 = .ok (.iconst (-1), 1) := by decide +kernel
theorem dX4_closes_13 : decode cX4_closes 13 = .ok (.if_icmp .ne 5, 3) := by decide +kernel
theorem dX4_closes_16 : decode cX4_closes 16 = .ok (.iconst 0, 1) := by decide +kernel
theorem dX4_closes_17 : decode cX4_closes 17 = .ok (.ireturn, 1) := by decide +kernel
theorem dX4_closes_18 : decode cX4_closes 18 = .ok (.aload_n 0, 1) := by decide +kernel
theorem dX4_closes_19 : decode cX4_closes 19 = .ok (.getfield 9, 3) := by decide +kernel
theorem dX4_closes_22 : decode cX4_closes 22 = .ok (.iconst 0, 1) := by decide +kernel
theorem dX4_closes_23 : decode cX4_closes 23 = .ok (.iload_n 2, 1) := by decide +kernel
theorem dX4_closes_24 : decode cX4_closes 24 = .ok (.iastore, 1) := by decide +kernel
theorem dX4_closes_25 : decode cX4_closes 25 = .ok (.aload_n 0, 1) := by decide +kernel
theorem dX4_closes_26 : decode cX4_closes 26 = .ok (.iconst 1, 1) := by decide +kernel
theorem dX4_closes_27 : decode cX4_closes 27 = .ok (.putfield 15, 3) := by decide +kernel
theorem dX4_closes_30 : decode cX4_closes 30 = .ok (.iload_n 3, 1) := by decide +kernel
theorem dX4_closes_31 : decode cX4_closes 31 = .ok (.istore 4, 2) := by decide +kernel
theorem dX4_closes_33 : decode cX4_closes 33 = .ok (.iconst 1, 1) := by decide +kernel
theorem dX4_closes_34 : decode cX4_closes 34 = .ok (.istore 5, 2) := by decide +kernel
theorem dX4_closes_36 : decode cX4_closes 36 = .ok (.iload 5, 2) := by decide +kernel
theorem dX4_closes_38 : decode cX4_closes 38 = .ok (.bipush 9, 2) := by decide +kernel
theorem dX4_closes_40 : decode cX4_closes 40 = .ok (.if_icmp .ge 54, 3) := by decide +kernel
theorem dX4_closes_43 : decode cX4_closes 43 = .ok (.iload 4, 2) := by decide +kernel
theorem dX4_closes_45 : decode cX4_closes 45 = .ok (.iload_n 2, 1) := by decide +kernel
theorem dX4_closes_46 : decode cX4_closes 46 = .ok (.if_icmp .eq 48, 3) := by decide +kernel
theorem dX4_closes_49 : decode cX4_closes 49 = .ok (.aload_n 0, 1) := by decide +kernel
theorem dX4_closes_50 : decode cX4_closes 50 = .ok (.getfield 9, 3) := by decide +kernel
theorem dX4_closes_53 : decode cX4_closes 53 = .ok (.iload 5, 2) := by decide +kernel
theorem dX4_closes_55 : decode cX4_closes 55 = .ok (.iload 4, 2) := by decide +kernel
theorem dX4_closes_57 : decode cX4_closes 57 = .ok (.iastore, 1) := by decide +kernel
theorem dX4_closes_58 : decode cX4_closes 58 = .ok (.aload_n 0, 1) := by decide +kernel
theorem dX4_closes_59 : decode cX4_closes 59 = .ok (.dup, 1) := by decide +kernel
theorem dX4_closes_60 : decode cX4_closes 60 = .ok (.getfield 15, 3) := by decide +kernel
theorem dX4_closes_63 : decode cX4_closes 63 = .ok (.iconst 1, 1) := by decide +kernel
theorem dX4_closes_64 : decode cX4_closes 64 = .ok (.iadd, 1) := by decide +kernel
theorem dX4_closes_65 : decode cX4_closes 65 = .ok (.putfield 15, 3) := by decide +kernel
theorem dX4_closes_68 : decode cX4_closes 68 = .ok (.aload_n 0, 1) := by decide +kernel
theorem dX4_closes_69 : decode cX4_closes 69 = .ok (.aload_n 1, 1) := by decide +kernel
theorem dX4_closes_70 : decode cX4_closes 70 = .ok (.iload 4, 2) := by decide +kernel
theorem dX4_closes_72 : decode cX4_closes 72 = .ok (.iaload, 1) := by decide +kernel
theorem dX4_closes_73 : decode cX4_closes 73 = .ok (.aload_n 0, 1) := by decide +kernel
theorem dX4_closes_74 : decode cX4_closes 74 = .ok (.getfield 19, 3) := by decide +kernel
theorem dX4_closes_77 : decode cX4_closes 77 = .ok (.iload 4, 2) := by decide +kernel
theorem dX4_closes_79 : decode cX4_closes 79 = .ok (.iaload, 1) := by decide +kernel
theorem dX4_closes_80 : decode cX4_closes 80 = .ok (.iconst 1, 1) := by decide +kernel
theorem dX4_closes_81 : decode cX4_closes 81 = .ok (.isub, 1) := by decide +kernel
theorem dX4_closes_82 : decode cX4_closes 82 = .ok (.iload_n 2, 1) := by decide +kernel
theorem dX4_closes_83 : decode cX4_closes 83 = .ok (.invokevirtual 26, 3) := by decide +kernel
theorem dX4_closes_86 : decode cX4_closes 86 = .ok (.istore 4, 2) := by decide +kernel
theorem dX4_closes_88 : decode cX4_closes 88 = .ok (.iinc 5 1, 3) := by decide +kernel
theorem dX4_closes_91 : decode cX4_closes 91 = .ok (.goto (-55), 3) := by decide +kernel
theorem dX4_closes_94 : decode cX4_closes 94 = .ok (.iconst 1, 1) := by decide +kernel
theorem dX4_closes_95 : decode cX4_closes 95 = .ok (.ireturn, 1) := by decide +kernel
theorem dX4_measure_0 : decode cX4_measure 0 = .ok (.aload_n 0, 1) := by decide +kernel
theorem dX4_measure_1 : decode cX4_measure 1 = .ok (.getfield 19, 3) := by decide +kernel
theorem dX4_measure_4 : decode cX4_measure 4 = .ok (.iconst (-1), 1) := by decide +kernel
theorem dX4_measure_5 : decode cX4_measure 5 = .ok (.invokestatic 30, 3) := by decide +kernel
theorem dX4_measure_8 : decode cX4_measure 8 = .ok (.aload_n 0, 1) := by decide +kernel
theorem dX4_measure_9 : decode cX4_measure 9 = .ok (.getfield 19, 3) := by decide +kernel
theorem dX4_measure_12 : decode cX4_measure 12 = .ok (.iload_n 2, 1) := by decide +kernel
theorem dX4_measure_13 : decode cX4_measure 13 = .ok (.iconst 0, 1) := by decide +kernel
theorem dX4_measure_14 : decode cX4_measure 14 = .ok (.iastore, 1) := by decide +kernel
theorem dX4_measure_15 : decode cX4_measure 15 = .ok (.iconst 1, 1) := by decide +kernel
theorem dX4_measure_16 : decode cX4_measure 16 = .ok (.iload_n 2, 1) := by decide +kernel
theorem dX4_measure_17 : decode cX4_measure 17 = .ok (.ishl, 1) := by decide +kernel
theorem dX4_measure_18 : decode cX4_measure 18 = .ok (.istore_n 3, 1) := by decide +kernel
theorem dX4_measure_19 : decode cX4_measure 19 = .ok (.iconst 1, 1) := by decide +kernel
theorem dX4_measure_20 : decode cX4_measure 20 = .ok (.istore 4, 2) := by decide +kernel
theorem dX4_measure_22 : decode cX4_measure 22 = .ok (.iload 4, 2) := by decide +kernel
theorem dX4_measure_24 : decode cX4_measure 24 = .ok (.bipush 9, 2) := by decide +kernel
theorem dX4_measure_26 : decode cX4_measure 26 = .ok (.if_icmp .ge 69, 3) := by decide +kernel
theorem dX4_measure_29 : decode cX4_measure 29 = .ok (.iconst 0, 1) := by decide +kernel
theorem dX4_measure_30 : decode cX4_measure 30 = .ok (.istore 5, 2) := by decide +kernel
theorem dX4_measure_32 : decode cX4_measure 32 = .ok (.iconst 0, 1) := by decide +kernel
theorem dX4_measure_33 : decode cX4_measure 33 = .ok (.istore 6, 2) := by decide +kernel
theorem dX4_measure_35 : decode cX4_measure 35 = .ok (.iload 6, 2) := by decide +kernel
theorem dX4_measure_37 : decode cX4_measure 37 = .ok (.bipush 9, 2) := by decide +kernel
theorem dX4_measure_39 : decode cX4_measure 39 = .ok (.if_icmp .ge 47, 3) := by decide +kernel
theorem dX4_measure_42 : decode cX4_measure 42 = .ok (.aload_n 0, 1) := by decide +kernel
theorem dX4_measure_43 : decode cX4_measure 43 = .ok (.getfield 19, 3) := by decide +kernel
theorem dX4_measure_46 : decode cX4_measure 46 = .ok (.iload 6, 2) := by decide +kernel
theorem dX4_measure_48 : decode cX4_measure 48 = .ok (.iaload, 1) := by decide +kernel
theorem dX4_measure_49 : decode cX4_measure 49 = .ok (.iconst (-1), 1) := by decide +kernel
theorem dX4_measure_50 : decode cX4_measure 50 = .ok (.if_icmp .ne 30, 3) := by decide +kernel
theorem dX4_measure_53 : decode cX4_measure 53 = .ok (.aload_n 1, 1) := by decide +kernel
theorem dX4_measure_54 : decode cX4_measure 54 = .ok (.iload 6, 2) := by decide +kernel
theorem dX4_measure_56 : decode cX4_measure 56 = .ok (.iaload, 1) := by decide +kernel
theorem dX4_measure_57 : decode cX4_measure 57 = .ok (.iload_n 3, 1) := by decide +kernel
theorem dX4_measure_58 : decode cX4_measure 58 = .ok (.iand, 1) := by decide +kernel
theorem dX4_measure_59 : decode cX4_measure 59 = .ok (.ifCond .eq 21, 3) := by decide +kernel
theorem dX4_measure_62 : decode cX4_measure 62 = .ok (.aload_n 0, 1) := by decide +kernel
theorem dX4_measure_63 : decode cX4_measure 63 = .ok (.getfield 19, 3) := by decide +kernel
theorem dX4_measure_66 : decode cX4_measure 66 = .ok (.iload 6, 2) := by decide +kernel
theorem dX4_measure_68 : decode cX4_measure 68 = .ok (.iload 4, 2) := by decide +kernel
theorem dX4_measure_70 : decode cX4_measure 70 = .ok (.iastore, 1) := by decide +kernel
theorem dX4_measure_71 : decode cX4_measure 71 = .ok (.iload 5, 2) := by decide +kernel
theorem dX4_measure_73 : decode cX4_measure 73 = .ok (.iconst 1, 1) := by decide +kernel
theorem dX4_measure_74 : decode cX4_measure 74 = .ok (.iload 6, 2) := by decide +kernel
theorem dX4_measure_76 : decode cX4_measure 76 = .ok (.ishl, 1) := by decide +kernel
theorem dX4_measure_77 : decode cX4_measure 77 = .ok (.ior, 1) := by decide +kernel
theorem dX4_measure_78 : decode cX4_measure 78 = .ok (.istore 5, 2) := by decide +kernel
theorem dX4_measure_80 : decode cX4_measure 80 = .ok (.iinc 6 1, 3) := by decide +kernel
theorem dX4_measure_83 : decode cX4_measure 83 = .ok (.goto (-48), 3) := by decide +kernel
theorem dX4_measure_86 : decode cX4_measure 86 = .ok (.iload 5, 2) := by decide +kernel
theorem dX4_measure_88 : decode cX4_measure 88 = .ok (.istore_n 3, 1) := by decide +kernel
theorem dX4_measure_89 : decode cX4_measure 89 = .ok (.iinc 4 1, 3) := by decide +kernel
theorem dX4_measure_92 : decode cX4_measure 92 = .ok (.goto (-70), 3) := by decide +kernel
theorem dX4_measure_95 : decode cX4_measure 95 = .ok (.return_, 1) := by decide +kernel
theorem dX4_nearer_0 : decode cX4_nearer 0 = .ok (.iconst 0, 1) := by decide +kernel
theorem dX4_nearer_1 : decode cX4_nearer 1 = .ok (.istore 4, 2) := by decide +kernel
theorem dX4_nearer_3 : decode cX4_nearer 3 = .ok (.iload 4, 2) := by decide +kernel
theorem dX4_nearer_5 : decode cX4_nearer 5 = .ok (.bipush 9, 2) := by decide +kernel
theorem dX4_nearer_7 : decode cX4_nearer 7 = .ok (.if_icmp .ge 33, 3) := by decide +kernel
theorem dX4_nearer_10 : decode cX4_nearer 10 = .ok (.iload_n 1, 1) := by decide +kernel
theorem dX4_nearer_11 : decode cX4_nearer 11 = .ok (.iload 4, 2) := by decide +kernel
theorem dX4_nearer_13 : decode cX4_nearer 13 = .ok (.ishr, 1) := by decide +kernel
theorem dX4_nearer_14 : decode cX4_nearer 14 = .ok (.iconst 1, 1) := by decide +kernel
theorem dX4_nearer_15 : decode cX4_nearer 15 = .ok (.iand, 1) := by decide +kernel
theorem dX4_nearer_16 : decode cX4_nearer 16 = .ok (.iconst 1, 1) := by decide +kernel
theorem dX4_nearer_17 : decode cX4_nearer 17 = .ok (.if_icmp .ne 17, 3) := by decide +kernel
theorem dX4_nearer_20 : decode cX4_nearer 20 = .ok (.aload_n 0, 1) := by decide +kernel
theorem dX4_nearer_21 : decode cX4_nearer 21 = .ok (.getfield 19, 3) := by decide +kernel
theorem dX4_nearer_24 : decode cX4_nearer 24 = .ok (.iload 4, 2) := by decide +kernel
theorem dX4_nearer_26 : decode cX4_nearer 26 = .ok (.iaload, 1) := by decide +kernel
theorem dX4_nearer_27 : decode cX4_nearer 27 = .ok (.iload_n 2, 1) := by decide +kernel
theorem dX4_nearer_28 : decode cX4_nearer 28 = .ok (.if_icmp .ne 6, 3) := by decide +kernel
theorem dX4_nearer_31 : decode cX4_nearer 31 = .ok (.iload 4, 2) := by decide +kernel
theorem dX4_nearer_33 : decode cX4_nearer 33 = .ok (.ireturn, 1) := by decide +kernel
theorem dX4_nearer_34 : decode cX4_nearer 34 = .ok (.iinc 4 1, 3) := by decide +kernel
theorem dX4_nearer_37 : decode cX4_nearer 37 = .ok (.goto (-34), 3) := by decide +kernel
theorem dX4_nearer_40 : decode cX4_nearer 40 = .ok (.iload_n 3, 1) := by decide +kernel
theorem dX4_nearer_41 : decode cX4_nearer 41 = .ok (.ireturn, 1) := by decide +kernel
theorem dX5_init_0 : decode cX5_init 0 = .ok (.aload_n 0, 1) := by decide +kernel
theorem dX5_init_1 : decode cX5_init 1 = .ok (.invokespecial 3, 3) := by decide +kernel
theorem dX5_init_4 : decode cX5_init 4 = .ok (.aload_n 0, 1) := by decide +kernel
theorem dX5_init_5 : decode cX5_init 5 = .ok (.iconst 0, 1) := by decide +kernel
theorem dX5_init_6 : decode cX5_init 6 = .ok (.putfield 9, 3) := by decide +kernel
theorem dX5_init_9 : decode cX5_init 9 = .ok (.aload_n 0, 1) := by decide +kernel
theorem dX5_init_10 : decode cX5_init 10 = .ok (.bipush 9, 2) := by decide +kernel
theorem dX5_init_12 : decode cX5_init 12 = .ok (.newarray .int, 2) := by decide +kernel
theorem dX5_init_14 : decode cX5_init 14 = .ok (.putfield 15, 3) := by decide +kernel
theorem dX5_init_17 : decode cX5_init 17 = .ok (.aload_n 0, 1) := by decide +kernel
theorem dX5_init_18 : decode cX5_init 18 = .ok (.bipush 9, 2) := by decide +kernel
theorem dX5_init_20 : decode cX5_init 20 = .ok (.newarray .int, 2) := by decide +kernel
theorem dX5_init_22 : decode cX5_init 22 = .ok (.putfield 19, 3) := by decide +kernel
theorem dX5_init_25 : decode cX5_init 25 = .ok (.aload_n 0, 1) := by decide +kernel
theorem dX5_init_26 : decode cX5_init 26 = .ok (.bipush 9, 2) := by decide +kernel
theorem dX5_init_28 : decode cX5_init 28 = .ok (.newarray .int, 2) := by decide +kernel
theorem dX5_init_30 : decode cX5_init 30 = .ok (.putfield 22, 3) := by decide +kernel
theorem dX5_init_33 : decode cX5_init 33 = .ok (.aload_n 0, 1) := by decide +kernel
theorem dX5_init_34 : decode cX5_init 34 = .ok (.iconst 0, 1) := by decide +kernel
theorem dX5_init_35 : decode cX5_init 35 = .ok (.putfield 25, 3) := by decide +kernel
theorem dX5_init_38 : decode cX5_init 38 = .ok (.aload_n 0, 1) := by decide +kernel
theorem dX5_init_39 : decode cX5_init 39 = .ok (.iconst 0, 1) := by decide +kernel
theorem dX5_init_40 : decode cX5_init 40 = .ok (.putfield 28, 3) := by decide +kernel
theorem dX5_init_43 : decode cX5_init 43 = .ok (.aload_n 0, 1) := by decide +kernel
theorem dX5_init_44 : decode cX5_init 44 = .ok (.iconst 0, 1) := by decide +kernel
theorem dX5_init_45 : decode cX5_init 45 = .ok (.putfield 31, 3) := by decide +kernel
theorem dX5_init_48 : decode cX5_init 48 = .ok (.aload_n 0, 1) := by decide +kernel
theorem dX5_init_49 : decode cX5_init 49 = .ok (.iconst 0, 1) := by decide +kernel
theorem dX5_init_50 : decode cX5_init 50 = .ok (.putfield 34, 3) := by decide +kernel
theorem dX5_init_53 : decode cX5_init 53 = .ok (.aload_n 0, 1) := by decide +kernel
theorem dX5_init_54 : decode cX5_init 54 = .ok (.iconst 0, 1) := by decide +kernel
theorem dX5_init_55 : decode cX5_init 55 = .ok (.putfield 37, 3) := by decide +kernel
theorem dX5_init_58 : decode cX5_init 58 = .ok (.aload_n 0, 1) := by decide +kernel
theorem dX5_init_59 : decode cX5_init 59 = .ok (.iconst 3, 1) := by decide +kernel
theorem dX5_init_60 : decode cX5_init 60 = .ok (.newarray .int, 2) := by decide +kernel
theorem dX5_init_62 : decode cX5_init 62 = .ok (.putfield 40, 3) := by decide +kernel
theorem dX5_init_65 : decode cX5_init 65 = .ok (.aload_n 0, 1) := by decide +kernel
theorem dX5_init_66 : decode cX5_init 66 = .ok (.iconst 0, 1) := by decide +kernel
theorem dX5_init_67 : decode cX5_init 67 = .ok (.putfield 43, 3) := by decide +kernel
theorem dX5_init_70 : decode cX5_init 70 = .ok (.aload_n 0, 1) := by decide +kernel
theorem dX5_init_71 : decode cX5_init 71 = .ok (.iconst 0, 1) := by decide +kernel
theorem dX5_init_72 : decode cX5_init 72 = .ok (.putfield 46, 3) := by decide +kernel
theorem dX5_init_75 : decode cX5_init 75 = .ok (.return_, 1) := by decide +kernel
theorem dX5_isBath_0 : decode cX5_isBath 0 = .ok (.iload_n 1, 1) := by decide +kernel
theorem dX5_isBath_1 : decode cX5_isBath 1 = .ok (.ifCond .lt 15, 3) := by decide +kernel
theorem dX5_isBath_4 : decode cX5_isBath 4 = .ok (.iload_n 1, 1) := by decide +kernel
theorem dX5_isBath_5 : decode cX5_isBath 5 = .ok (.aload_n 0, 1) := by decide +kernel
theorem dX5_isBath_6 : decode cX5_isBath 6 = .ok (.getfield 9, 3) := by decide +kernel
theorem dX5_isBath_9 : decode cX5_isBath 9 = .ok (.if_icmp .ge 7, 3) := by decide +kernel
theorem dX5_isBath_12 : decode cX5_isBath 12 = .ok (.iconst 1, 1) := by decide +kernel
theorem dX5_isBath_13 : decode cX5_isBath 13 = .ok (.goto 4, 3) := by decide +kernel
theorem dX5_isBath_16 : decode cX5_isBath 16 = .ok (.iconst 0, 1) := by decide +kernel
theorem dX5_isBath_17 : decode cX5_isBath 17 = .ok (.ireturn, 1) := by decide +kernel
theorem dX5_isGoal_0 : decode cX5_isGoal 0 = .ok (.aload_n 0, 1) := by decide +kernel
theorem dX5_isGoal_1 : decode cX5_isGoal 1 = .ok (.getfield 43, 3) := by decide +kernel
theorem dX5_isGoal_4 : decode cX5_isGoal 4 = .ok (.iload_n 1, 1) := by decide +kernel
theorem dX5_isGoal_5 : decode cX5_isGoal 5 = .ok (.ishr, 1) := by decide +kernel
theorem dX5_isGoal_6 : decode cX5_isGoal 6 = .ok (.iconst 1, 1) := by decide +kernel
theorem dX5_isGoal_7 : decode cX5_isGoal 7 = .ok (.iand, 1) := by decide +kernel
theorem dX5_isGoal_8 : decode cX5_isGoal 8 = .ok (.iconst 1, 1) := by decide +kernel
theorem dX5_isGoal_9 : decode cX5_isGoal 9 = .ok (.if_icmp .ne 7, 3) := by decide +kernel
theorem dX5_isGoal_12 : decode cX5_isGoal 12 = .ok (.iconst 1, 1) := by decide +kernel
theorem dX5_isGoal_13 : decode cX5_isGoal 13 = .ok (.goto 4, 3) := by decide +kernel
theorem dX5_isGoal_16 : decode cX5_isGoal 16 = .ok (.iconst 0, 1) := by decide +kernel
theorem dX5_isGoal_17 : decode cX5_isGoal 17 = .ok (.ireturn, 1) := by decide +kernel
theorem dX5_addBath_0 : decode cX5_addBath 0 = .ok (.aload_n 0, 1) := by decide +kernel
theorem dX5_addBath_1 : decode cX5_addBath 1 = .ok (.dup, 1) := by decide +kernel
theorem dX5_addBath_2 : decode cX5_addBath 2 = .ok (.getfield 9, 3) := by decide +kernel
theorem dX5_addBath_5 : decode cX5_addBath 5 = .ok (.dup_x1, 1) := by decide +kernel
theorem dX5_addBath_6 : decode cX5_addBath 6 = .ok (.iconst 1, 1) := by decide +kernel
theorem dX5_addBath_7 : decode cX5_addBath 7 = .ok (.iadd, 1) := by decide +kernel
theorem dX5_addBath_8 : decode cX5_addBath 8 = .ok (.putfield 9, 3) := by decide +kernel
theorem dX5_addBath_11 : decode cX5_addBath 11 = .ok (.istore_n 2, 1) := by decide +kernel
theorem dX5_addBath_12 : decode cX5_addBath 12 = .ok (.aload_n 0, 1) := by decide +kernel
theorem dX5_addBath_13 : decode cX5_addBath 13 = .ok (.getfield 15, 3) := by decide +kernel
theorem dX5_addBath_16 : decode cX5_addBath 16 = .ok (.iload_n 2, 1) := by decide +kernel
theorem dX5_addBath_17 : decode cX5_addBath 17 = .ok (.iload_n 1, 1) := by decide +kernel
theorem dX5_addBath_18 : decode cX5_addBath 18 = .ok (.iastore, 1) := by decide +kernel
theorem dX5_addBath_19 : decode cX5_addBath 19 = .ok (.aload_n 0, 1) := by decide +kernel
theorem dX5_addBath_20 : decode cX5_addBath 20 = .ok (.dup, 1) := by decide +kernel
theorem dX5_addBath_21 : decode cX5_addBath 21 = .ok (.getfield 28, 3) := by decide +kernel
theorem dX5_addBath_24 : decode cX5_addBath 24 = .ok (.iload_n 1, 1) := by decide +kernel
theorem dX5_addBath_25 : decode cX5_addBath 25 = .ok (.iconst 3, 1) := by decide +kernel
theorem dX5_addBath_26 : decode cX5_addBath 26 = .ok (.if_icmp .ne 9, 3) := by decide +kernel
theorem dX5_addBath_29 : decode cX5_addBath 29 = .ok (.iconst 1, 1) := by decide +kernel
theorem dX5_addBath_30 : decode cX5_addBath 30 = .ok (.iload_n 2, 1) := by decide +kernel
theorem dX5_addBath_31 : decode cX5_addBath 31 = .ok (.ishl, 1) := by decide +kernel
theorem dX5_addBath_32 : decode cX5_addBath 32 = .ok (.goto 4, 3) := by decide +kernel
theorem dX5_addBath_35 : decode cX5_addBath 35 = .ok (.iconst 0, 1) := by decide +kernel
theorem dX5_addBath_36 : decode cX5_addBath 36 = .ok (.ior, 1) := by decide +kernel
theorem dX5_addBath_37 : decode cX5_addBath 37 = .ok (.putfield 28, 3) := by decide +kernel
theorem dX5_addBath_40 : decode cX5_addBath 40 = .ok (.aload_n 0, 1) := by decide +kernel
theorem dX5_addBath_41 : decode cX5_addBath 41 = .ok (.dup, 1) := by decide +kernel
theorem dX5_addBath_42 : decode cX5_addBath 42 = .ok (.getfield 31, 3) := by decide +kernel
theorem dX5_addBath_45 : decode cX5_addBath 45 = .ok (.iload_n 1, 1) := by decide +kernel
theorem dX5_addBath_46 : decode cX5_addBath 46 = .ok (.iconst 2, 1) := by decide +kernel
theorem dX5_addBath_47 : decode cX5_addBath 47 = .ok (.if_icmp .ne 9, 3) := by decide +kernel
theorem dX5_addBath_50 : decode cX5_addBath 50 = .ok (.iconst 1, 1) := by decide +kernel
theorem dX5_addBath_51 : decode cX5_addBath 51 = .ok (.iload_n 2, 1) := by decide +kernel
theorem dX5_addBath_52 : decode cX5_addBath 52 = .ok (.ishl, 1) := by decide +kernel
theorem dX5_addBath_53 : decode cX5_addBath 53 = .ok (.goto 4, 3) := by decide +kernel
theorem dX5_addBath_56 : decode cX5_addBath 56 = .ok (.iconst 0, 1) := by decide +kernel
theorem dX5_addBath_57 : decode cX5_addBath 57 = .ok (.ior, 1) := by decide +kernel
theorem dX5_addBath_58 : decode cX5_addBath 58 = .ok (.putfield 31, 3) := by decide +kernel
theorem dX5_addBath_61 : decode cX5_addBath 61 = .ok (.aload_n 0, 1) := by decide +kernel
theorem dX5_addBath_62 : decode cX5_addBath 62 = .ok (.dup, 1) := by decide +kernel
theorem dX5_addBath_63 : decode cX5_addBath 63 = .ok (.getfield 34, 3) := by decide +kernel
theorem dX5_addBath_66 : decode cX5_addBath 66 = .ok (.iload_n 1, 1) := by decide +kernel
theorem dX5_addBath_67 : decode cX5_addBath 67 = .ok (.iconst 4, 1) := by decide +kernel
theorem dX5_addBath_68 : decode cX5_addBath 68 = .ok (.if_icmp .ne 9, 3) := by decide +kernel
theorem dX5_addBath_71 : decode cX5_addBath 71 = .ok (.iconst 1, 1) := by decide +kernel
theorem dX5_addBath_72 : decode cX5_addBath 72 = .ok (.iload_n 2, 1) := by decide +kernel
theorem dX5_addBath_73 : decode cX5_addBath 73 = .ok (.ishl, 1) := by decide +kernel
theorem dX5_addBath_74 : decode cX5_addBath 74 = .ok (.goto 4, 3) := by decide +kernel
theorem dX5_addBath_77 : decode cX5_addBath 77 = .ok (.iconst 0, 1) := by decide +kernel
theorem dX5_addBath_78 : decode cX5_addBath 78 = .ok (.ior, 1) := by decide +kernel
theorem dX5_addBath_79 : decode cX5_addBath 79 = .ok (.putfield 34, 3) := by decide +kernel
theorem dX5_addBath_82 : decode cX5_addBath 82 = .ok (.iload_n 2, 1) := by decide +kernel
theorem dX5_addBath_83 : decode cX5_addBath 83 = .ok (.ireturn, 1) := by decide +kernel
theorem dX5_addGoal_0 : decode cX5_addGoal 0 = .ok (.aload_n 0, 1) := by decide +kernel
theorem dX5_addGoal_1 : decode cX5_addGoal 1 = .ok (.getfield 40, 3) := by decide +kernel
theorem dX5_addGoal_4 : decode cX5_addGoal 4 = .ok (.aload_n 0, 1) := by decide +kernel
theorem dX5_addGoal_5 : decode cX5_addGoal 5 = .ok (.dup, 1) := by decide +kernel
theorem dX5_addGoal_6 : decode cX5_addGoal 6 = .ok (.getfield 37, 3) := by decide +kernel
theorem dX5_addGoal_9 : decode cX5_addGoal 9 = .ok (.dup_x1, 1) := by decide +kernel
theorem dX5_addGoal_10 : decode cX5_addGoal 10 = .ok (.iconst 1, 1) := by decide +kernel
theorem dX5_addGoal_11 : decode cX5_addGoal 11 = .ok (.iadd, 1) := by decide +kernel
theorem dX5_addGoal_12 : decode cX5_addGoal 12 = .ok (.putfield 37, 3) := by decide +kernel
theorem dX5_addGoal_15 : decode cX5_addGoal 15 = .ok (.iload_n 1, 1) := by decide +kernel
theorem dX5_addGoal_16 : decode cX5_addGoal 16 = .ok (.iastore, 1) := by decide +kernel
theorem dX5_addGoal_17 : decode cX5_addGoal 17 = .ok (.aload_n 0, 1) := by decide +kernel
theorem dX5_addGoal_18 : decode cX5_addGoal 18 = .ok (.dup, 1) := by decide +kernel
theorem dX5_addGoal_19 : decode cX5_addGoal 19 = .ok (.getfield 43, 3) := by decide +kernel
theorem dX5_addGoal_22 : decode cX5_addGoal 22 = .ok (.iconst 1, 1) := by decide +kernel
theorem dX5_addGoal_23 : decode cX5_addGoal 23 = .ok (.iload_n 1, 1) := by decide +kernel
theorem dX5_addGoal_24 : decode cX5_addGoal 24 = .ok (.ishl, 1) := by decide +kernel
theorem dX5_addGoal_25 : decode cX5_addGoal 25 = .ok (.ior, 1) := by decide +kernel
theorem dX5_addGoal_26 : decode cX5_addGoal 26 = .ok (.putfield 43, 3) := by decide +kernel
theorem dX5_addGoal_29 : decode cX5_addGoal 29 = .ok (.aload_n 0, 1) := by decide +kernel
theorem dX5_addGoal_30 : decode cX5_addGoal 30 = .ok (.getfield 37, 3) := by decide +kernel
theorem dX5_addGoal_33 : decode cX5_addGoal 33 = .ok (.ireturn, 1) := by decide +kernel
theorem dX5_dropGoals_0 : decode cX5_dropGoals 0 = .ok (.aload_n 0, 1) := by decide +kernel
theorem dX5_dropGoals_1 : decode cX5_dropGoals 1 = .ok (.iconst 0, 1) := by decide +kernel
theorem dX5_dropGoals_2 : decode cX5_dropGoals 2 = .ok (.putfield 37, 3) := by decide +kernel
theorem dX5_dropGoals_5 : decode cX5_dropGoals 5 = .ok (.aload_n 0, 1) := by decide +kernel
theorem dX5_dropGoals_6 : decode cX5_dropGoals 6 = .ok (.iconst 0, 1) := by decide +kernel
theorem dX5_dropGoals_7 : decode cX5_dropGoals 7 = .ok (.putfield 43, 3) := by decide +kernel
theorem dX5_dropGoals_10 : decode cX5_dropGoals 10 = .ok (.return_, 1) := by decide +kernel
theorem dX5_learn_0 : decode cX5_learn 0 = .ok (.aload_n 0, 1) := by decide +kernel
theorem dX5_learn_1 : decode cX5_learn 1 = .ok (.aload_n 2, 1) := by decide +kernel
theorem dX5_learn_2 : decode cX5_learn 2 = .ok (.iload_n 1, 1) := by decide +kernel
theorem dX5_learn_3 : decode cX5_learn 3 = .ok (.invokevirtual 50, 3) := by decide +kernel
theorem dX5_learn_6 : decode cX5_learn 6 = .ok (.ifCond .eq 14, 3) := by decide +kernel
theorem dX5_learn_9 : decode cX5_learn 9 = .ok (.aload_n 0, 1) := by decide +kernel
theorem dX5_learn_10 : decode cX5_learn 10 = .ok (.getfield 25, 3) := by decide +kernel
theorem dX5_learn_13 : decode cX5_learn 13 = .ok (.iconst 1, 1) := by decide +kernel
theorem dX5_learn_14 : decode cX5_learn 14 = .ok (.iload_n 1, 1) := by decide +kernel
theorem dX5_learn_15 : decode cX5_learn 15 = .ok (.ishl, 1) := by decide +kernel
theorem dX5_learn_16 : decode cX5_learn 16 = .ok (.ior, 1) := by decide +kernel
theorem dX5_learn_17 : decode cX5_learn 17 = .ok (.goto 13, 3) := by decide +kernel
theorem dX5_learn_20 : decode cX5_learn 20 = .ok (.aload_n 0, 1) := by decide +kernel
theorem dX5_learn_21 : decode cX5_learn 21 = .ok (.getfield 25, 3) := by decide +kernel
theorem dX5_learn_24 : decode cX5_learn 24 = .ok (.iconst 1, 1) := by decide +kernel
theorem dX5_learn_25 : decode cX5_learn 25 = .ok (.iload_n 1, 1) := by decide +kernel
theorem dX5_learn_26 : decode cX5_learn 26 = .ok (.ishl, 1) := by decide +kernel
theorem dX5_learn_27 : decode cX5_learn 27 = .ok (.iconst (-1), 1) := by decide +kernel
theorem dX5_learn_28 : decode cX5_learn 28 = .ok (.ixor, 1) := by decide +kernel
theorem dX5_learn_29 : decode cX5_learn 29 = .ok (.iand, 1) := by decide +kernel
theorem dX5_learn_30 : decode cX5_learn 30 = .ok (.putfield 25, 3) := by decide +kernel
theorem dX5_learn_33 : decode cX5_learn 33 = .ok (.aload_n 0, 1) := by decide +kernel
theorem dX5_learn_34 : decode cX5_learn 34 = .ok (.getfield 19, 3) := by decide +kernel
theorem dX5_learn_37 : decode cX5_learn 37 = .ok (.iload_n 1, 1) := by decide +kernel
theorem dX5_learn_38 : decode cX5_learn 38 = .ok (.aload_n 2, 1) := by decide +kernel
theorem dX5_learn_39 : decode cX5_learn 39 = .ok (.iload_n 1, 1) := by decide +kernel
theorem dX5_learn_40 : decode cX5_learn 40 = .ok (.invokevirtual 56, 3) := by decide +kernel
theorem dX5_learn_43 : decode cX5_learn 43 = .ok (.iastore, 1) := by decide +kernel
theorem dX5_learn_44 : decode cX5_learn 44 = .ok (.aload_n 0, 1) := by decide +kernel
theorem dX5_learn_45 : decode cX5_learn 45 = .ok (.getfield 15, 3) := by decide +kernel
theorem dX5_learn_48 : decode cX5_learn 48 = .ok (.iload_n 1, 1) := by decide +kernel
theorem dX5_learn_49 : decode cX5_learn 49 = .ok (.iaload, 1) := by decide +kernel
theorem dX5_learn_50 : decode cX5_learn 50 = .ok (.iconst 1, 1) := by decide +kernel
theorem dX5_learn_51 : decode cX5_learn 51 = .ok (.if_icmp .eq 13, 3) := by decide +kernel
theorem dX5_learn_54 : decode cX5_learn 54 = .ok (.aload_n 0, 1) := by decide +kernel
theorem dX5_learn_55 : decode cX5_learn 55 = .ok (.getfield 15, 3) := by decide +kernel
theorem dX5_learn_58 : decode cX5_learn 58 = .ok (.iload_n 1, 1) := by decide +kernel
theorem dX5_learn_59 : decode cX5_learn 59 = .ok (.iaload, 1) := by decide +kernel
theorem dX5_learn_60 : decode cX5_learn 60 = .ok (.iconst 3, 1) := by decide +kernel
theorem dX5_learn_61 : decode cX5_learn 61 = .ok (.if_icmp .ne 7, 3) := by decide +kernel
theorem dX5_learn_64 : decode cX5_learn 64 = .ok (.iconst 1, 1) := by decide +kernel
theorem dX5_learn_65 : decode cX5_learn 65 = .ok (.goto 4, 3) := by decide +kernel
theorem dX5_learn_68 : decode cX5_learn 68 = .ok (.iconst 0, 1) := by decide +kernel
theorem dX5_learn_69 : decode cX5_learn 69 = .ok (.istore_n 3, 1) := by decide +kernel
theorem dX5_learn_70 : decode cX5_learn 70 = .ok (.aload_n 0, 1) := by decide +kernel
theorem dX5_learn_71 : decode cX5_learn 71 = .ok (.getfield 22, 3) := by decide +kernel
theorem dX5_learn_74 : decode cX5_learn 74 = .ok (.iload_n 1, 1) := by decide +kernel
theorem dX5_learn_75 : decode cX5_learn 75 = .ok (.iload_n 3, 1) := by decide +kernel
theorem dX5_learn_76 : decode cX5_learn 76 = .ok (.ifCond .eq 11, 3) := by decide +kernel
theorem dX5_learn_79 : decode cX5_learn 79 = .ok (.aload_n 2, 1) := by decide +kernel
theorem dX5_learn_80 : decode cX5_learn 80 = .ok (.iload_n 1, 1) := by decide +kernel
theorem dX5_learn_81 : decode cX5_learn 81 = .ok (.invokevirtual 60, 3) := by decide +kernel
theorem dX5_learn_84 : decode cX5_learn 84 = .ok (.goto 4, 3) := by decide +kernel
theorem dX5_learn_87 : decode cX5_learn 87 = .ok (.iconst 0, 1) := by decide +kernel
theorem dX5_learn_88 : decode cX5_learn 88 = .ok (.iastore, 1) := by decide +kernel
theorem dX5_learn_89 : decode cX5_learn 89 = .ok (.return_, 1) := by decide +kernel
theorem dX5_hasFrail_0 : decode cX5_hasFrail 0 = .ok (.aload_n 0, 1) := by decide +kernel
theorem dX5_hasFrail_1 : decode cX5_hasFrail 1 = .ok (.getfield 34, 3) := by decide +kernel
theorem dX5_hasFrail_4 : decode cX5_hasFrail 4 = .ok (.ifCond .eq 7, 3) := by decide +kernel
theorem dX5_hasFrail_7 : decode cX5_hasFrail 7 = .ok (.iconst 1, 1) := by decide +kernel
theorem dX5_hasFrail_8 : decode cX5_hasFrail 8 = .ok (.goto 4, 3) := by decide +kernel
theorem dX5_hasFrail_11 : decode cX5_hasFrail 11 = .ok (.iconst 0, 1) := by decide +kernel
theorem dX5_hasFrail_12 : decode cX5_hasFrail 12 = .ok (.ireturn, 1) := by decide +kernel
theorem dX5_allFillOne_0 : decode cX5_allFillOne 0 = .ok (.aload_n 0, 1) := by decide +kernel
theorem dX5_allFillOne_1 : decode cX5_allFillOne 1 = .ok (.getfield 31, 3) := by decide +kernel
theorem dX5_allFillOne_4 : decode cX5_allFillOne 4 = .ok (.aload_n 0, 1) := by decide +kernel
theorem dX5_allFillOne_5 : decode cX5_allFillOne 5 = .ok (.getfield 34, 3) := by decide +kernel
theorem dX5_allFillOne_8 : decode cX5_allFillOne 8 = .ok (.ior, 1) := by decide +kernel
theorem dX5_allFillOne_9 : decode cX5_allFillOne 9 = .ok (.ifCond .ne 7, 3) := by decide +kernel
theorem dX5_allFillOne_12 : decode cX5_allFillOne 12 = .ok (.iconst 1, 1) := by decide +kernel
theorem dX5_allFillOne_13 : decode cX5_allFillOne 13 = .ok (.goto 4, 3) := by decide +kernel
theorem dX5_allFillOne_16 : decode cX5_allFillOne 16 = .ok (.iconst 0, 1) := by decide +kernel
theorem dX5_allFillOne_17 : decode cX5_allFillOne 17 = .ok (.ireturn, 1) := by decide +kernel
theorem dX5_nextTold_0 : decode cX5_nextTold 0 = .ok (.iconst 0, 1) := by decide +kernel
theorem dX5_nextTold_1 : decode cX5_nextTold 1 = .ok (.istore_n 2, 1) := by decide +kernel
theorem dX5_nextTold_2 : decode cX5_nextTold 2 = .ok (.iload_n 2, 1) := by decide +kernel
theorem dX5_nextTold_3 : decode cX5_nextTold 3 = .ok (.aload_n 0, 1) := by decide +kernel
theorem dX5_nextTold_4 : decode cX5_nextTold 4 = .ok (.getfield 9, 3) := by decide +kernel
theorem dX5_nextTold_7 : decode cX5_nextTold 7 = .ok (.if_icmp .ge 49, 3) := by decide +kernel
theorem dX5_nextTold_10 : decode cX5_nextTold 10 = .ok (.aload_n 0, 1) := by decide +kernel
theorem dX5_nextTold_11 : decode cX5_nextTold 11 = .ok (.getfield 25, 3) := by decide +kernel
theorem dX5_nextTold_14 : decode cX5_nextTold 14 = .ok (.iload_n 1, 1) := by decide +kernel
theorem dX5_nextTold_15 : decode cX5_nextTold 15 = .ok (.iconst (-1), 1) := by decide +kernel
theorem dX5_nextTold_16 : decode cX5_nextTold 16 = .ok (.ixor, 1) := by decide +kernel
theorem dX5_nextTold_17 : decode cX5_nextTold 17 = .ok (.iand, 1) := by decide +kernel
theorem dX5_nextTold_18 : decode cX5_nextTold 18 = .ok (.iconst 1, 1) := by decide +kernel
theorem dX5_nextTold_19 : decode cX5_nextTold 19 = .ok (.iload_n 2, 1) := by decide +kernel
theorem dX5_nextTold_20 : decode cX5_nextTold 20 = .ok (.ishl, 1) := by decide +kernel
theorem dX5_nextTold_21 : decode cX5_nextTold 21 = .ok (.iand, 1) := by decide +kernel
theorem dX5_nextTold_22 : decode cX5_nextTold 22 = .ok (.ifCond .eq 7, 3) := by decide +kernel
theorem dX5_nextTold_25 : decode cX5_nextTold 25 = .ok (.iconst 1, 1) := by decide +kernel
theorem dX5_nextTold_26 : decode cX5_nextTold 26 = .ok (.goto 4, 3) := by decide +kernel
theorem dX5_nextTold_29 : decode cX5_nextTold 29 = .ok (.iconst 0, 1) := by decide +kernel
theorem dX5_nextTold_30 : decode cX5_nextTold 30 = .ok (.istore_n 3, 1) := by decide +kernel
theorem dX5_nextTold_31 : decode cX5_nextTold 31 = .ok (.iload_n 3, 1) := by decide +kernel
theorem dX5_nextTold_32 : decode cX5_nextTold 32 = .ok (.ifCond .eq 18, 3) := by decide +kernel
theorem dX5_nextTold_35 : decode cX5_nextTold 35 = .ok (.aload_n 0, 1) := by decide +kernel
theorem dX5_nextTold_36 : decode cX5_nextTold 36 = .ok (.getfield 19, 3) := by decide +kernel
theorem dX5_nextTold_39 : decode cX5_nextTold 39 = .ok (.iload_n 2, 1) := by decide +kernel
theorem dX5_nextTold_40 : decode cX5_nextTold 40 = .ok (.iaload, 1) := by decide +kernel
theorem dX5_nextTold_41 : decode cX5_nextTold 41 = .ok (.iload_n 1, 1) := by decide +kernel
theorem dX5_nextTold_42 : decode cX5_nextTold 42 = .ok (.iconst (-1), 1) := by decide +kernel
theorem dX5_nextTold_43 : decode cX5_nextTold 43 = .ok (.ixor, 1) := by decide +kernel
theorem dX5_nextTold_44 : decode cX5_nextTold 44 = .ok (.iand, 1) := by decide +kernel
theorem dX5_nextTold_45 : decode cX5_nextTold 45 = .ok (.ifCond .ne 5, 3) := by decide +kernel
theorem dX5_nextTold_48 : decode cX5_nextTold 48 = .ok (.iload_n 2, 1) := by decide +kernel
theorem dX5_nextTold_49 : decode cX5_nextTold 49 = .ok (.ireturn, 1) := by decide +kernel
theorem dX5_nextTold_50 : decode cX5_nextTold 50 = .ok (.iinc 2 1, 3) := by decide +kernel
theorem dX5_nextTold_53 : decode cX5_nextTold 53 = .ok (.goto (-51), 3) := by decide +kernel
theorem dX5_nextTold_56 : decode cX5_nextTold 56 = .ok (.iconst (-1), 1) := by decide +kernel
theorem dX5_nextTold_57 : decode cX5_nextTold 57 = .ok (.ireturn, 1) := by decide +kernel
theorem dX5_stands_0 : decode cX5_stands 0 = .ok (.iload_n 1, 1) := by decide +kernel
theorem dX5_stands_1 : decode cX5_stands 1 = .ok (.iconst 1, 1) := by decide +kernel
theorem dX5_stands_2 : decode cX5_stands 2 = .ok (.iload_n 0, 1) := by decide +kernel
theorem dX5_stands_3 : decode cX5_stands 3 = .ok (.ishl, 1) := by decide +kernel
theorem dX5_stands_4 : decode cX5_stands 4 = .ok (.iand, 1) := by decide +kernel
theorem dX5_stands_5 : decode cX5_stands 5 = .ok (.ifCond .eq 7, 3) := by decide +kernel
theorem dX5_stands_8 : decode cX5_stands 8 = .ok (.iconst 1, 1) := by decide +kernel
theorem dX5_stands_9 : decode cX5_stands 9 = .ok (.goto 4, 3) := by decide +kernel
theorem dX5_stands_12 : decode cX5_stands 12 = .ok (.iconst 0, 1) := by decide +kernel
theorem dX5_stands_13 : decode cX5_stands 13 = .ok (.ireturn, 1) := by decide +kernel
theorem dX5_filled_0 : decode cX5_filled 0 = .ok (.aload_n 0, 1) := by decide +kernel
theorem dX5_filled_1 : decode cX5_filled 1 = .ok (.iload_n 1, 1) := by decide +kernel
theorem dX5_filled_2 : decode cX5_filled 2 = .ok (.sipush 511, 3) := by decide +kernel
theorem dX5_filled_5 : decode cX5_filled 5 = .ok (.iand, 1) := by decide +kernel
theorem dX5_filled_6 : decode cX5_filled 6 = .ok (.iload_n 1, 1) := by decide +kernel
theorem dX5_filled_7 : decode cX5_filled 7 = .ok (.invokevirtual 63, 3) := by decide +kernel
theorem dX5_filled_10 : decode cX5_filled 10 = .ok (.ireturn, 1) := by decide +kernel
theorem dX5_filledBy_0 : decode cX5_filledBy 0 = .ok (.aload_n 0, 1) := by decide +kernel
theorem dX5_filledBy_1 : decode cX5_filledBy 1 = .ok (.getfield 31, 3) := by decide +kernel
theorem dX5_filledBy_4 : decode cX5_filledBy 4 = .ok (.iload_n 2, 1) := by decide +kernel
theorem dX5_filledBy_5 : decode cX5_filledBy 5 = .ok (.invokestatic 67, 3) := by decide +kernel
theorem dX5_filledBy_8 : decode cX5_filledBy 8 = .ok (.ior, 1) := by decide +kernel
theorem dX5_filledBy_9 : decode cX5_filledBy 9 = .ok (.istore_n 3, 1) := by decide +kernel
theorem dX5_filledBy_10 : decode cX5_filledBy 10 = .ok (.iload_n 1, 1) := by decide +kernel
theorem dX5_filledBy_11 : decode cX5_filledBy 11 = .ok (.invokestatic 70, 3) := by decide +kernel
theorem dX5_filledBy_14 : decode cX5_filledBy 14 = .ok (.iload_n 1, 1) := by decide +kernel
theorem dX5_filledBy_15 : decode cX5_filledBy 15 = .ok (.iload_n 3, 1) := by decide +kernel
theorem dX5_filledBy_16 : decode cX5_filledBy 16 = .ok (.iand, 1) := by decide +kernel
theorem dX5_filledBy_17 : decode cX5_filledBy 17 = .ok (.invokestatic 70, 3) := by decide +kernel
theorem dX5_filledBy_20 : decode cX5_filledBy 20 = .ok (.iadd, 1) := by decide +kernel
theorem dX5_filledBy_21 : decode cX5_filledBy 21 = .ok (.ireturn, 1) := by decide +kernel
theorem dX5_freshBit_0 : decode cX5_freshBit 0 = .ok (.iconst 1, 1) := by decide +kernel
theorem dX5_freshBit_1 : decode cX5_freshBit 1 = .ok (.iload_n 0, 1) := by decide +kernel
theorem dX5_freshBit_2 : decode cX5_freshBit 2 = .ok (.bipush 12, 2) := by decide +kernel
theorem dX5_freshBit_4 : decode cX5_freshBit 4 = .ok (.ishr, 1) := by decide +kernel
theorem dX5_freshBit_5 : decode cX5_freshBit 5 = .ok (.ishl, 1) := by decide +kernel
theorem dX5_freshBit_6 : decode cX5_freshBit 6 = .ok (.iconst 1, 1) := by decide +kernel
theorem dX5_freshBit_7 : decode cX5_freshBit 7 = .ok (.ishr, 1) := by decide +kernel
theorem dX5_freshBit_8 : decode cX5_freshBit 8 = .ok (.ireturn, 1) := by decide +kernel
theorem dX5_hindrance_0 : decode cX5_hindrance 0 = .ok (.iload_n 2, 1) := by decide +kernel
theorem dX5_hindrance_1 : decode cX5_hindrance 1 = .ok (.sipush 511, 3) := by decide +kernel
theorem dX5_hindrance_4 : decode cX5_hindrance 4 = .ok (.iand, 1) := by decide +kernel
theorem dX5_hindrance_5 : decode cX5_hindrance 5 = .ok (.istore 4, 2) := by decide +kernel
theorem dX5_hindrance_7 : decode cX5_hindrance 7 = .ok (.iconst 1, 1) := by decide +kernel
theorem dX5_hindrance_8 : decode cX5_hindrance 8 = .ok (.iload_n 1, 1) := by decide +kernel
theorem dX5_hindrance_9 : decode cX5_hindrance 9 = .ok (.ishl, 1) := by decide +kernel
theorem dX5_hindrance_10 : decode cX5_hindrance 10 = .ok (.istore 5, 2) := by decide +kernel
theorem dX5_hindrance_12 : decode cX5_hindrance 12 = .ok (.aload_n 0, 1) := by decide +kernel
theorem dX5_hindrance_13 : decode cX5_hindrance 13 = .ok (.getfield 25, 3) := by decide +kernel
theorem dX5_hindrance_16 : decode cX5_hindrance 16 = .ok (.iload 5, 2) := by decide +kernel
theorem dX5_hindrance_18 : decode cX5_hindrance 18 = .ok (.iand, 1) := by decide +kernel
theorem dX5_hindrance_19 : decode cX5_hindrance 19 = .ok (.ifCond .ne 5, 3) := by decide +kernel
theorem dX5_hindrance_22 : decode cX5_hindrance 22 = .ok (.iconst 1, 1) := by decide +kernel
theorem dX5_hindrance_23 : decode cX5_hindrance 23 = .ok (.ireturn, 1) := by decide +kernel
theorem dX5_hindrance_24 : decode cX5_hindrance 24 = .ok (.iload 4, 2) := by decide +kernel
theorem dX5_hindrance_26 : decode cX5_hindrance 26 = .ok (.iload 5, 2) := by decide +kernel
theorem dX5_hindrance_28 : decode cX5_hindrance 28 = .ok (.iand, 1) := by decide +kernel
theorem dX5_hindrance_29 : decode cX5_hindrance 29 = .ok (.ifCond .eq 5, 3) := by decide +kernel
theorem dX5_hindrance_32 : decode cX5_hindrance 32 = .ok (.iconst 2, 1) := by decide +kernel
theorem dX5_hindrance_33 : decode cX5_hindrance 33 = .ok (.ireturn, 1) := by decide +kernel
theorem dX5_hindrance_34 : decode cX5_hindrance 34 = .ok (.aload_n 0, 1) := by decide +kernel
theorem dX5_hindrance_35 : decode cX5_hindrance 35 = .ok (.getfield 19, 3) := by decide +kernel
theorem dX5_hindrance_38 : decode cX5_hindrance 38 = .ok (.iload_n 1, 1) := by decide +kernel
theorem dX5_hindrance_39 : decode cX5_hindrance 39 = .ok (.iaload, 1) := by decide +kernel
theorem dX5_hindrance_40 : decode cX5_hindrance 40 = .ok (.iload 4, 2) := by decide +kernel
theorem dX5_hindrance_42 : decode cX5_hindrance 42 = .ok (.iconst (-1), 1) := by decide +kernel
theorem dX5_hindrance_43 : decode cX5_hindrance 43 = .ok (.ixor, 1) := by decide +kernel
theorem dX5_hindrance_44 : decode cX5_hindrance 44 = .ok (.iand, 1) := by decide +kernel
theorem dX5_hindrance_45 : decode cX5_hindrance 45 = .ok (.ifCond .eq 5, 3) := by decide +kernel
theorem dX5_hindrance_48 : decode cX5_hindrance 48 = .ok (.iconst 3, 1) := by decide +kernel
theorem dX5_hindrance_49 : decode cX5_hindrance 49 = .ok (.ireturn, 1) := by decide +kernel
theorem dX5_hindrance_50 : decode cX5_hindrance 50 = .ok (.iload 4, 2) := by decide +kernel
theorem dX5_hindrance_52 : decode cX5_hindrance 52 = .ok (.aload_n 0, 1) := by decide +kernel
theorem dX5_hindrance_53 : decode cX5_hindrance 53 = .ok (.getfield 22, 3) := by decide +kernel
theorem dX5_hindrance_56 : decode cX5_hindrance 56 = .ok (.iload_n 1, 1) := by decide +kernel
theorem dX5_hindrance_57 : decode cX5_hindrance 57 = .ok (.iaload, 1) := by decide +kernel
theorem dX5_hindrance_58 : decode cX5_hindrance 58 = .ok (.iconst (-1), 1) := by decide +kernel
theorem dX5_hindrance_59 : decode cX5_hindrance 59 = .ok (.ixor, 1) := by decide +kernel
theorem dX5_hindrance_60 : decode cX5_hindrance 60 = .ok (.iand, 1) := by decide +kernel
theorem dX5_hindrance_61 : decode cX5_hindrance 61 = .ok (.istore 6, 2) := by decide +kernel
theorem dX5_hindrance_63 : decode cX5_hindrance 63 = .ok (.aload_n 0, 1) := by decide +kernel
theorem dX5_hindrance_64 : decode cX5_hindrance 64 = .ok (.getfield 28, 3) := by decide +kernel
theorem dX5_hindrance_67 : decode cX5_hindrance 67 = .ok (.iload 5, 2) := by decide +kernel
theorem dX5_hindrance_69 : decode cX5_hindrance 69 = .ok (.iand, 1) := by decide +kernel
theorem dX5_hindrance_70 : decode cX5_hindrance 70 = .ok (.ifCond .eq 15, 3) := by decide +kernel
theorem dX5_hindrance_73 : decode cX5_hindrance 73 = .ok (.aload_n 0, 1) := by decide +kernel
theorem dX5_hindrance_74 : decode cX5_hindrance 74 = .ok (.getfield 28, 3) := by decide +kernel
theorem dX5_hindrance_77 : decode cX5_hindrance 77 = .ok (.iload 6, 2) := by decide +kernel
theorem dX5_hindrance_79 : decode cX5_hindrance 79 = .ok (.iand, 1) := by decide +kernel
theorem dX5_hindrance_80 : decode cX5_hindrance 80 = .ok (.ifCond .eq 5, 3) := by decide +kernel
theorem dX5_hindrance_83 : decode cX5_hindrance 83 = .ok (.iconst 4, 1) := by decide +kernel
theorem dX5_hindrance_84 : decode cX5_hindrance 84 = .ok (.ireturn, 1) := by decide +kernel
theorem dX5_hindrance_85 : decode cX5_hindrance 85 = .ok (.aload_n 0, 1) := by decide +kernel
theorem dX5_hindrance_86 : decode cX5_hindrance 86 = .ok (.getfield 31, 3) := by decide +kernel
theorem dX5_hindrance_89 : decode cX5_hindrance 89 = .ok (.aload_n 0, 1) := by decide +kernel
theorem dX5_hindrance_90 : decode cX5_hindrance 90 = .ok (.getfield 34, 3) := by decide +kernel
theorem dX5_hindrance_93 : decode cX5_hindrance 93 = .ok (.ior, 1) := by decide +kernel
theorem dX5_hindrance_94 : decode cX5_hindrance 94 = .ok (.iload 5, 2) := by decide +kernel
theorem dX5_hindrance_96 : decode cX5_hindrance 96 = .ok (.iand, 1) := by decide +kernel
theorem dX5_hindrance_97 : decode cX5_hindrance 97 = .ok (.ifCond .eq 7, 3) := by decide +kernel
theorem dX5_hindrance_100 : decode cX5_hindrance 100 = .ok (.iconst 2, 1) := by decide +kernel
theorem dX5_hindrance_101 : decode cX5_hindrance 101 = .ok (.goto 4, 3) := by decide +kernel
theorem dX5_hindrance_104 : decode cX5_hindrance 104 = .ok (.iconst 1, 1) := by decide +kernel
theorem dX5_hindrance_105 : decode cX5_hindrance 105 = .ok (.istore 7, 2) := by decide +kernel
theorem dX5_hindrance_107 : decode cX5_hindrance 107 = .ok (.iload_n 3, 1) := by decide +kernel
theorem dX5_hindrance_108 : decode cX5_hindrance 108 = .ok (.aload_n 0, 1) := by decide +kernel
theorem dX5_hindrance_109 : decode cX5_hindrance 109 = .ok (.iload 6, 2) := by decide +kernel
theorem dX5_hindrance_111 : decode cX5_hindrance 111 = .ok (.iload_n 2, 1) := by decide +kernel
theorem dX5_hindrance_112 : decode cX5_hindrance 112 = .ok (.invokevirtual 63, 3) := by decide +kernel
theorem dX5_hindrance_115 : decode cX5_hindrance 115 = .ok (.isub, 1) := by decide +kernel
theorem dX5_hindrance_116 : decode cX5_hindrance 116 = .ok (.iload 7, 2) := by decide +kernel
theorem dX5_hindrance_118 : decode cX5_hindrance 118 = .ok (.if_icmp .ge 7, 3) := by decide +kernel
theorem dX5_hindrance_121 : decode cX5_hindrance 121 = .ok (.iconst 5, 1) := by decide +kernel
theorem dX5_hindrance_122 : decode cX5_hindrance 122 = .ok (.goto 4, 3) := by decide +kernel
theorem dX5_hindrance_125 : decode cX5_hindrance 125 = .ok (.iconst 0, 1) := by decide +kernel
theorem dX5_hindrance_126 : decode cX5_hindrance 126 = .ok (.ireturn, 1) := by decide +kernel
theorem dX5_whenMade_0 : decode cX5_whenMade 0 = .ok (.iload_n 2, 1) := by decide +kernel
theorem dX5_whenMade_1 : decode cX5_whenMade 1 = .ok (.aload_n 0, 1) := by decide +kernel
theorem dX5_whenMade_2 : decode cX5_whenMade 2 = .ok (.getfield 22, 3) := by decide +kernel
theorem dX5_whenMade_5 : decode cX5_whenMade 5 = .ok (.iload_n 1, 1) := by decide +kernel
theorem dX5_whenMade_6 : decode cX5_whenMade 6 = .ok (.iaload, 1) := by decide +kernel
theorem dX5_whenMade_7 : decode cX5_whenMade 7 = .ok (.iconst (-1), 1) := by decide +kernel
theorem dX5_whenMade_8 : decode cX5_whenMade 8 = .ok (.ixor, 1) := by decide +kernel
theorem dX5_whenMade_9 : decode cX5_whenMade 9 = .ok (.iand, 1) := by decide +kernel
theorem dX5_whenMade_10 : decode cX5_whenMade 10 = .ok (.sipush 4095, 3) := by decide +kernel
theorem dX5_whenMade_13 : decode cX5_whenMade 13 = .ok (.iand, 1) := by decide +kernel
theorem dX5_whenMade_14 : decode cX5_whenMade 14 = .ok (.istore_n 3, 1) := by decide +kernel
theorem dX5_whenMade_15 : decode cX5_whenMade 15 = .ok (.aload_n 0, 1) := by decide +kernel
theorem dX5_whenMade_16 : decode cX5_whenMade 16 = .ok (.getfield 15, 3) := by decide +kernel
theorem dX5_whenMade_19 : decode cX5_whenMade 19 = .ok (.iload_n 1, 1) := by decide +kernel
theorem dX5_whenMade_20 : decode cX5_whenMade 20 = .ok (.iaload, 1) := by decide +kernel
theorem dX5_whenMade_21 : decode cX5_whenMade 21 = .ok (.iconst 4, 1) := by decide +kernel
theorem dX5_whenMade_22 : decode cX5_whenMade 22 = .ok (.if_icmp .ne 9, 3) := by decide +kernel
theorem dX5_whenMade_25 : decode cX5_whenMade 25 = .ok (.iload_n 1, 1) := by decide +kernel
theorem dX5_whenMade_26 : decode cX5_whenMade 26 = .ok (.iconst 1, 1) := by decide +kernel
theorem dX5_whenMade_27 : decode cX5_whenMade 27 = .ok (.iadd, 1) := by decide +kernel
theorem dX5_whenMade_28 : decode cX5_whenMade 28 = .ok (.goto 4, 3) := by decide +kernel
theorem dX5_whenMade_31 : decode cX5_whenMade 31 = .ok (.iconst 0, 1) := by decide +kernel
theorem dX5_whenMade_32 : decode cX5_whenMade 32 = .ok (.istore 4, 2) := by decide +kernel
theorem dX5_whenMade_34 : decode cX5_whenMade 34 = .ok (.iload_n 3, 1) := by decide +kernel
theorem dX5_whenMade_35 : decode cX5_whenMade 35 = .ok (.iconst 1, 1) := by decide +kernel
theorem dX5_whenMade_36 : decode cX5_whenMade 36 = .ok (.iload_n 1, 1) := by decide +kernel
theorem dX5_whenMade_37 : decode cX5_whenMade 37 = .ok (.ishl, 1) := by decide +kernel
theorem dX5_whenMade_38 : decode cX5_whenMade 38 = .ok (.ior, 1) := by decide +kernel
theorem dX5_whenMade_39 : decode cX5_whenMade 39 = .ok (.iload 4, 2) := by decide +kernel
theorem dX5_whenMade_41 : decode cX5_whenMade 41 = .ok (.bipush 12, 2) := by decide +kernel
theorem dX5_whenMade_43 : decode cX5_whenMade 43 = .ok (.ishl, 1) := by decide +kernel
theorem dX5_whenMade_44 : decode cX5_whenMade 44 = .ok (.ior, 1) := by decide +kernel
theorem dX5_whenMade_45 : decode cX5_whenMade 45 = .ok (.ireturn, 1) := by decide +kernel
theorem dX5_whenPoured_0 : decode cX5_whenPoured 0 = .ok (.iload_n 1, 1) := by decide +kernel
theorem dX5_whenPoured_1 : decode cX5_whenPoured 1 = .ok (.iconst 1, 1) := by decide +kernel
theorem dX5_whenPoured_2 : decode cX5_whenPoured 2 = .ok (.iload_n 0, 1) := by decide +kernel
theorem dX5_whenPoured_3 : decode cX5_whenPoured 3 = .ok (.ishl, 1) := by decide +kernel
theorem dX5_whenPoured_4 : decode cX5_whenPoured 4 = .ok (.iconst (-1), 1) := by decide +kernel
theorem dX5_whenPoured_5 : decode cX5_whenPoured 5 = .ok (.ixor, 1) := by decide +kernel
theorem dX5_whenPoured_6 : decode cX5_whenPoured 6 = .ok (.iand, 1) := by decide +kernel
theorem dX5_whenPoured_7 : decode cX5_whenPoured 7 = .ok (.istore_n 2, 1) := by decide +kernel
theorem dX5_whenPoured_8 : decode cX5_whenPoured 8 = .ok (.iload_n 1, 1) := by decide +kernel
theorem dX5_whenPoured_9 : decode cX5_whenPoured 9 = .ok (.invokestatic 67, 3) := by decide +kernel
theorem dX5_whenPoured_12 : decode cX5_whenPoured 12 = .ok (.iconst 1, 1) := by decide +kernel
theorem dX5_whenPoured_13 : decode cX5_whenPoured 13 = .ok (.iload_n 0, 1) := by decide +kernel
theorem dX5_whenPoured_14 : decode cX5_whenPoured 14 = .ok (.ishl, 1) := by decide +kernel
theorem dX5_whenPoured_15 : decode cX5_whenPoured 15 = .ok (.if_icmp .ne 11, 3) := by decide +kernel
theorem dX5_whenPoured_18 : decode cX5_whenPoured 18 = .ok (.iload_n 2, 1) := by decide +kernel
theorem dX5_whenPoured_19 : decode cX5_whenPoured 19 = .ok (.sipush 4095, 3) := by decide +kernel
theorem dX5_whenPoured_22 : decode cX5_whenPoured 22 = .ok (.iand, 1) := by decide +kernel
theorem dX5_whenPoured_23 : decode cX5_whenPoured 23 = .ok (.goto 4, 3) := by decide +kernel
theorem dX5_whenPoured_26 : decode cX5_whenPoured 26 = .ok (.iload_n 2, 1) := by decide +kernel
theorem dX5_whenPoured_27 : decode cX5_whenPoured 27 = .ok (.ireturn, 1) := by decide +kernel
theorem dX5_lead_0 : decode cX5_lead 0 = .ok (.iload_n 2, 1) := by decide +kernel
theorem dX5_lead_1 : decode cX5_lead 1 = .ok (.bipush 9, 2) := by decide +kernel
theorem dX5_lead_3 : decode cX5_lead 3 = .ok (.if_icmp .ge 28, 3) := by decide +kernel
theorem dX5_lead_6 : decode cX5_lead 6 = .ok (.aload_n 0, 1) := by decide +kernel
theorem dX5_lead_7 : decode cX5_lead 7 = .ok (.iload_n 2, 1) := by decide +kernel
theorem dX5_lead_8 : decode cX5_lead 8 = .ok (.iload_n 1, 1) := by decide +kernel
theorem dX5_lead_9 : decode cX5_lead 9 = .ok (.iload_n 3, 1) := by decide +kernel
theorem dX5_lead_10 : decode cX5_lead 10 = .ok (.invokevirtual 75, 3) := by decide +kernel
theorem dX5_lead_13 : decode cX5_lead 13 = .ok (.ifCond .ne 16, 3) := by decide +kernel
theorem dX5_lead_16 : decode cX5_lead 16 = .ok (.aload_n 0, 1) := by decide +kernel
theorem dX5_lead_17 : decode cX5_lead 17 = .ok (.aload_n 0, 1) := by decide +kernel
theorem dX5_lead_18 : decode cX5_lead 18 = .ok (.iload_n 2, 1) := by decide +kernel
theorem dX5_lead_19 : decode cX5_lead 19 = .ok (.iload_n 1, 1) := by decide +kernel
theorem dX5_lead_20 : decode cX5_lead 20 = .ok (.invokevirtual 79, 3) := by decide +kernel
theorem dX5_lead_23 : decode cX5_lead 23 = .ok (.invokevirtual 82, 3) := by decide +kernel
theorem dX5_lead_26 : decode cX5_lead 26 = .ok (.goto 4, 3) := by decide +kernel
theorem dX5_lead_29 : decode cX5_lead 29 = .ok (.iconst (-1), 1) := by decide +kernel
theorem dX5_lead_30 : decode cX5_lead 30 = .ok (.ireturn, 1) := by decide +kernel
theorem dX5_lead_31 : decode cX5_lead 31 = .ok (.iload_n 2, 1) := by decide +kernel
theorem dX5_lead_32 : decode cX5_lead 32 = .ok (.bipush 9, 2) := by decide +kernel
theorem dX5_lead_34 : decode cX5_lead 34 = .ok (.isub, 1) := by decide +kernel
theorem dX5_lead_35 : decode cX5_lead 35 = .ok (.istore 4, 2) := by decide +kernel
theorem dX5_lead_37 : decode cX5_lead 37 = .ok (.iload 4, 2) := by decide +kernel
theorem dX5_lead_39 : decode cX5_lead 39 = .ok (.iload_n 1, 1) := by decide +kernel
theorem dX5_lead_40 : decode cX5_lead 40 = .ok (.invokestatic 85, 3) := by decide +kernel
theorem dX5_lead_43 : decode cX5_lead 43 = .ok (.ifCond .eq 16, 3) := by decide +kernel
theorem dX5_lead_46 : decode cX5_lead 46 = .ok (.aload_n 0, 1) := by decide +kernel
theorem dX5_lead_47 : decode cX5_lead 47 = .ok (.iload 4, 2) := by decide +kernel
theorem dX5_lead_49 : decode cX5_lead 49 = .ok (.iload_n 1, 1) := by decide +kernel
theorem dX5_lead_50 : decode cX5_lead 50 = .ok (.invokestatic 89, 3) := by decide +kernel
theorem dX5_lead_53 : decode cX5_lead 53 = .ok (.invokevirtual 82, 3) := by decide +kernel
theorem dX5_lead_56 : decode cX5_lead 56 = .ok (.goto 4, 3) := by decide +kernel
theorem dX5_lead_59 : decode cX5_lead 59 = .ok (.iconst (-1), 1) := by decide +kernel
theorem dX5_lead_60 : decode cX5_lead 60 = .ok (.ireturn, 1) := by decide +kernel
theorem dX5_withStood_0 : decode cX5_withStood 0 = .ok (.aload_n 0, 1) := by decide +kernel
theorem dX5_withStood_1 : decode cX5_withStood 1 = .ok (.getfield 46, 3) := by decide +kernel
theorem dX5_withStood_4 : decode cX5_withStood 4 = .ok (.ifCond .ne 12, 3) := by decide +kernel
theorem dX5_withStood_7 : decode cX5_withStood 7 = .ok (.iload_n 1, 1) := by decide +kernel
theorem dX5_withStood_8 : decode cX5_withStood 8 = .ok (.aload_n 0, 1) := by decide +kernel
theorem dX5_withStood_9 : decode cX5_withStood 9 = .ok (.getfield 43, 3) := by decide +kernel
theorem dX5_withStood_12 : decode cX5_withStood 12 = .ok (.iand, 1) := by decide +kernel
theorem dX5_withStood_13 : decode cX5_withStood 13 = .ok (.ifCond .ne 5, 3) := by decide +kernel
theorem dX5_withStood_16 : decode cX5_withStood 16 = .ok (.iload_n 1, 1) := by decide +kernel
theorem dX5_withStood_17 : decode cX5_withStood 17 = .ok (.ireturn, 1) := by decide +kernel
theorem dX5_withStood_18 : decode cX5_withStood 18 = .ok (.iload_n 1, 1) := by decide +kernel
theorem dX5_withStood_19 : decode cX5_withStood 19 = .ok (.istore_n 2, 1) := by decide +kernel
theorem dX5_withStood_20 : decode cX5_withStood 20 = .ok (.iconst 0, 1) := by decide +kernel
theorem dX5_withStood_21 : decode cX5_withStood 21 = .ok (.istore_n 3, 1) := by decide +kernel
theorem dX5_withStood_22 : decode cX5_withStood 22 = .ok (.iload_n 3, 1) := by decide +kernel
theorem dX5_withStood_23 : decode cX5_withStood 23 = .ok (.aload_n 0, 1) := by decide +kernel
theorem dX5_withStood_24 : decode cX5_withStood 24 = .ok (.getfield 37, 3) := by decide +kernel
theorem dX5_withStood_27 : decode cX5_withStood 27 = .ok (.if_icmp .ge 31, 3) := by decide +kernel
theorem dX5_withStood_30 : decode cX5_withStood 30 = .ok (.aload_n 0, 1) := by decide +kernel
theorem dX5_withStood_31 : decode cX5_withStood 31 = .ok (.getfield 40, 3) := by decide +kernel
theorem dX5_withStood_34 : decode cX5_withStood 34 = .ok (.iload_n 3, 1) := by decide +kernel
theorem dX5_withStood_35 : decode cX5_withStood 35 = .ok (.iaload, 1) := by decide +kernel
theorem dX5_withStood_36 : decode cX5_withStood 36 = .ok (.iload_n 1, 1) := by decide +kernel
theorem dX5_withStood_37 : decode cX5_withStood 37 = .ok (.invokestatic 85, 3) := by decide +kernel
theorem dX5_withStood_40 : decode cX5_withStood 40 = .ok (.ifCond .eq 12, 3) := by decide +kernel
theorem dX5_withStood_43 : decode cX5_withStood 43 = .ok (.iload_n 2, 1) := by decide +kernel
theorem dX5_withStood_44 : decode cX5_withStood 44 = .ok (.iconst 1, 1) := by decide +kernel
theorem dX5_withStood_45 : decode cX5_withStood 45 = .ok (.bipush 9, 2) := by decide +kernel
theorem dX5_withStood_47 : decode cX5_withStood 47 = .ok (.iload_n 3, 1) := by decide +kernel
theorem dX5_withStood_48 : decode cX5_withStood 48 = .ok (.iadd, 1) := by decide +kernel
theorem dX5_withStood_49 : decode cX5_withStood 49 = .ok (.ishl, 1) := by decide +kernel
theorem dX5_withStood_50 : decode cX5_withStood 50 = .ok (.ior, 1) := by decide +kernel
theorem dX5_withStood_51 : decode cX5_withStood 51 = .ok (.istore_n 2, 1) := by decide +kernel
theorem dX5_withStood_52 : decode cX5_withStood 52 = .ok (.iinc 3 1, 3) := by decide +kernel
theorem dX5_withStood_55 : decode cX5_withStood 55 = .ok (.goto (-33), 3) := by decide +kernel
theorem dX5_withStood_58 : decode cX5_withStood 58 = .ok (.iload_n 2, 1) := by decide +kernel
theorem dX5_withStood_59 : decode cX5_withStood 59 = .ok (.ireturn, 1) := by decide +kernel
theorem dX5_reaches_0 : decode cX5_reaches 0 = .ok (.aload_n 0, 1) := by decide +kernel
theorem dX5_reaches_1 : decode cX5_reaches 1 = .ok (.getfield 46, 3) := by decide +kernel
theorem dX5_reaches_4 : decode cX5_reaches 4 = .ok (.ifCond .eq 10, 3) := by decide +kernel
theorem dX5_reaches_7 : decode cX5_reaches 7 = .ok (.aload_n 0, 1) := by decide +kernel
theorem dX5_reaches_8 : decode cX5_reaches 8 = .ok (.getfield 43, 3) := by decide +kernel
theorem dX5_reaches_11 : decode cX5_reaches 11 = .ok (.goto 14, 3) := by decide +kernel
theorem dX5_reaches_14 : decode cX5_reaches 14 = .ok (.iconst 1, 1) := by decide +kernel
theorem dX5_reaches_15 : decode cX5_reaches 15 = .ok (.aload_n 0, 1) := by decide +kernel
theorem dX5_reaches_16 : decode cX5_reaches 16 = .ok (.getfield 37, 3) := by decide +kernel
theorem dX5_reaches_19 : decode cX5_reaches 19 = .ok (.ishl, 1) := by decide +kernel
theorem dX5_reaches_20 : decode cX5_reaches 20 = .ok (.iconst 1, 1) := by decide +kernel
theorem dX5_reaches_21 : decode cX5_reaches 21 = .ok (.isub, 1) := by decide +kernel
theorem dX5_reaches_22 : decode cX5_reaches 22 = .ok (.bipush 9, 2) := by decide +kernel
theorem dX5_reaches_24 : decode cX5_reaches 24 = .ok (.ishl, 1) := by decide +kernel
theorem dX5_reaches_25 : decode cX5_reaches 25 = .ok (.istore_n 2, 1) := by decide +kernel
theorem dX5_reaches_26 : decode cX5_reaches 26 = .ok (.iload_n 1, 1) := by decide +kernel
theorem dX5_reaches_27 : decode cX5_reaches 27 = .ok (.iload_n 2, 1) := by decide +kernel
theorem dX5_reaches_28 : decode cX5_reaches 28 = .ok (.iand, 1) := by decide +kernel
theorem dX5_reaches_29 : decode cX5_reaches 29 = .ok (.iload_n 2, 1) := by decide +kernel
theorem dX5_reaches_30 : decode cX5_reaches 30 = .ok (.if_icmp .ne 7, 3) := by decide +kernel
theorem dX5_reaches_33 : decode cX5_reaches 33 = .ok (.iconst 1, 1) := by decide +kernel
theorem dX5_reaches_34 : decode cX5_reaches 34 = .ok (.goto 4, 3) := by decide +kernel
theorem dX5_reaches_37 : decode cX5_reaches 37 = .ok (.iconst 0, 1) := by decide +kernel
theorem dX5_reaches_38 : decode cX5_reaches 38 = .ok (.ireturn, 1) := by decide +kernel
theorem dX5_known_0 : decode cX5_known 0 = .ok (.iload_n 1, 1) := by decide +kernel
theorem dX5_known_1 : decode cX5_known 1 = .ok (.sipush 511, 3) := by decide +kernel
theorem dX5_known_4 : decode cX5_known 4 = .ok (.iand, 1) := by decide +kernel
theorem dX5_known_5 : decode cX5_known 5 = .ok (.istore_n 2, 1) := by decide +kernel
theorem dX5_known_6 : decode cX5_known 6 = .ok (.iload_n 1, 1) := by decide +kernel
theorem dX5_known_7 : decode cX5_known 7 = .ok (.bipush 9, 2) := by decide +kernel
theorem dX5_known_9 : decode cX5_known 9 = .ok (.ishr, 1) := by decide +kernel
theorem dX5_known_10 : decode cX5_known 10 = .ok (.istore_n 3, 1) := by decide +kernel
theorem dX5_known_11 : decode cX5_known 11 = .ok (.iload_n 2, 1) := by decide +kernel
theorem dX5_known_12 : decode cX5_known 12 = .ok (.aload_n 0, 1) := by decide +kernel
theorem dX5_known_13 : decode cX5_known 13 = .ok (.getfield 9, 3) := by decide +kernel
theorem dX5_known_16 : decode cX5_known 16 = .ok (.ishr, 1) := by decide +kernel
theorem dX5_known_17 : decode cX5_known 17 = .ok (.ifCond .ne 27, 3) := by decide +kernel
theorem dX5_known_20 : decode cX5_known 20 = .ok (.iload_n 3, 1) := by decide +kernel
theorem dX5_known_21 : decode cX5_known 21 = .ok (.aload_n 0, 1) := by decide +kernel
theorem dX5_known_22 : decode cX5_known 22 = .ok (.getfield 46, 3) := by decide +kernel
theorem dX5_known_25 : decode cX5_known 25 = .ok (.ifCond .eq 7, 3) := by decide +kernel
theorem dX5_known_28 : decode cX5_known 28 = .ok (.iconst 0, 1) := by decide +kernel
theorem dX5_known_29 : decode cX5_known 29 = .ok (.goto 7, 3) := by decide +kernel
theorem dX5_known_32 : decode cX5_known 32 = .ok (.aload_n 0, 1) := by decide +kernel
theorem dX5_known_33 : decode cX5_known 33 = .ok (.getfield 37, 3) := by decide +kernel
theorem dX5_known_36 : decode cX5_known 36 = .ok (.ishr, 1) := by decide +kernel
theorem dX5_known_37 : decode cX5_known 37 = .ok (.ifCond .ne 7, 3) := by decide +kernel
theorem dX5_known_40 : decode cX5_known 40 = .ok (.iconst 1, 1) := by decide +kernel
theorem dX5_known_41 : decode cX5_known 41 = .ok (.goto 4, 3) := by decide +kernel
theorem dX5_known_44 : decode cX5_known 44 = .ok (.iconst 0, 1) := by decide +kernel
theorem dX5_known_45 : decode cX5_known 45 = .ok (.ireturn, 1) := by decide +kernel
theorem dX6_init_0 : decode cX6_init 0 = .ok (.aload_n 0, 1) := by decide +kernel
theorem dX6_init_1 : decode cX6_init 1 = .ok (.invokespecial 3, 3) := by decide +kernel
theorem dX6_init_4 : decode cX6_init 4 = .ok (.aload_n 0, 1) := by decide +kernel
theorem dX6_init_5 : decode cX6_init 5 = .ok (.new 9, 3) := by decide +kernel
theorem dX6_init_8 : decode cX6_init 8 = .ok (.dup, 1) := by decide +kernel
theorem dX6_init_9 : decode cX6_init 9 = .ok (.invokespecial 11, 3) := by decide +kernel
theorem dX6_init_12 : decode cX6_init 12 = .ok (.putfield 12, 3) := by decide +kernel
theorem dX6_init_15 : decode cX6_init 15 = .ok (.aload_n 0, 1) := by decide +kernel
theorem dX6_init_16 : decode cX6_init 16 = .ok (.new 16, 3) := by decide +kernel
theorem dX6_init_19 : decode cX6_init 19 = .ok (.dup, 1) := by decide +kernel
theorem dX6_init_20 : decode cX6_init 20 = .ok (.invokespecial 18, 3) := by decide +kernel
theorem dX6_init_23 : decode cX6_init 23 = .ok (.putfield 19, 3) := by decide +kernel
theorem dX6_init_26 : decode cX6_init 26 = .ok (.aload_n 0, 1) := by decide +kernel
theorem dX6_init_27 : decode cX6_init 27 = .ok (.new 23, 3) := by decide +kernel
theorem dX6_init_30 : decode cX6_init 30 = .ok (.dup, 1) := by decide +kernel
theorem dX6_init_31 : decode cX6_init 31 = .ok (.invokespecial 25, 3) := by decide +kernel
theorem dX6_init_34 : decode cX6_init 34 = .ok (.putfield 26, 3) := by decide +kernel
theorem dX6_init_37 : decode cX6_init 37 = .ok (.aload_n 0, 1) := by decide +kernel
theorem dX6_init_38 : decode cX6_init 38 = .ok (.new 30, 3) := by decide +kernel
theorem dX6_init_41 : decode cX6_init 41 = .ok (.dup, 1) := by decide +kernel
theorem dX6_init_42 : decode cX6_init 42 = .ok (.invokespecial 32, 3) := by decide +kernel
theorem dX6_init_45 : decode cX6_init 45 = .ok (.putfield 33, 3) := by decide +kernel
theorem dX6_init_48 : decode cX6_init 48 = .ok (.aload_n 0, 1) := by decide +kernel
theorem dX6_init_49 : decode cX6_init 49 = .ok (.new 37, 3) := by decide +kernel
theorem dX6_init_52 : decode cX6_init 52 = .ok (.dup, 1) := by decide +kernel
theorem dX6_init_53 : decode cX6_init 53 = .ok (.aload_n 0, 1) := by decide +kernel
theorem dX6_init_54 : decode cX6_init 54 = .ok (.getfield 19, 3) := by decide +kernel
theorem dX6_init_57 : decode cX6_init 57 = .ok (.invokespecial 39, 3) := by decide +kernel
theorem dX6_init_60 : decode cX6_init 60 = .ok (.putfield 42, 3) := by decide +kernel
theorem dX6_init_63 : decode cX6_init 63 = .ok (.aload_n 0, 1) := by decide +kernel
theorem dX6_init_64 : decode cX6_init 64 = .ok (.new 46, 3) := by decide +kernel
theorem dX6_init_67 : decode cX6_init 67 = .ok (.dup, 1) := by decide +kernel
theorem dX6_init_68 : decode cX6_init 68 = .ok (.aload_n 0, 1) := by decide +kernel
theorem dX6_init_69 : decode cX6_init 69 = .ok (.getfield 19, 3) := by decide +kernel
theorem dX6_init_72 : decode cX6_init 72 = .ok (.invokespecial 48, 3) := by decide +kernel
theorem dX6_init_75 : decode cX6_init 75 = .ok (.putfield 49, 3) := by decide +kernel
theorem dX6_init_78 : decode cX6_init 78 = .ok (.aload_n 0, 1) := by decide +kernel
theorem dX6_init_79 : decode cX6_init 79 = .ok (.bipush 9, 2) := by decide +kernel
theorem dX6_init_81 : decode cX6_init 81 = .ok (.newarray .int, 2) := by decide +kernel
theorem dX6_init_83 : decode cX6_init 83 = .ok (.putfield 53, 3) := by decide +kernel
theorem dX6_init_86 : decode cX6_init 86 = .ok (.aload_n 0, 1) := by decide +kernel
theorem dX6_init_87 : decode cX6_init 87 = .ok (.iconst 4, 1) := by decide +kernel
theorem dX6_init_88 : decode cX6_init 88 = .ok (.putfield 57, 3) := by decide +kernel
theorem dX6_init_91 : decode cX6_init 91 = .ok (.aload_n 0, 1) := by decide +kernel
theorem dX6_init_92 : decode cX6_init 92 = .ok (.iconst 0, 1) := by decide +kernel
theorem dX6_init_93 : decode cX6_init 93 = .ok (.putfield 61, 3) := by decide +kernel
theorem dX6_init_96 : decode cX6_init 96 = .ok (.return_, 1) := by decide +kernel
theorem dX6_vats_0 : decode cX6_vats 0 = .ok (.iload_n 1, 1) := by decide +kernel
theorem dX6_vats_1 : decode cX6_vats 1 = .ok (.invokestatic 64, 3) := by decide +kernel
theorem dX6_vats_4 : decode cX6_vats 4 = .ok (.ifCond .eq 18, 3) := by decide +kernel
theorem dX6_vats_7 : decode cX6_vats 7 = .ok (.iload_n 1, 1) := by decide +kernel
theorem dX6_vats_8 : decode cX6_vats 8 = .ok (.aload_n 0, 1) := by decide +kernel
theorem dX6_vats_9 : decode cX6_vats 9 = .ok (.getfield 19, 3) := by decide +kernel
theorem dX6_vats_12 : decode cX6_vats 12 = .ok (.aload_n 0, 1) := by decide +kernel
theorem dX6_vats_13 : decode cX6_vats 13 = .ok (.getfield 61, 3) := by decide +kernel
theorem dX6_vats_16 : decode cX6_vats 16 = .ok (.invokevirtual 68, 3) := by decide +kernel
theorem dX6_vats_19 : decode cX6_vats 19 = .ok (.if_icmp .ge 6, 3) := by decide +kernel
theorem dX6_vats_22 : decode cX6_vats 22 = .ok (.bipush (-2), 2) := by decide +kernel
theorem dX6_vats_24 : decode cX6_vats 24 = .ok (.ireturn, 1) := by decide +kernel
theorem dX6_vats_25 : decode cX6_vats 25 = .ok (.aload_n 0, 1) := by decide +kernel
theorem dX6_vats_26 : decode cX6_vats 26 = .ok (.getfield 57, 3) := by decide +kernel
theorem dX6_vats_29 : decode cX6_vats 29 = .ok (.istore_n 2, 1) := by decide +kernel
theorem dX6_vats_30 : decode cX6_vats 30 = .ok (.aload_n 0, 1) := by decide +kernel
theorem dX6_vats_31 : decode cX6_vats 31 = .ok (.iload_n 1, 1) := by decide +kernel
theorem dX6_vats_32 : decode cX6_vats 32 = .ok (.putfield 57, 3) := by decide +kernel
theorem dX6_vats_35 : decode cX6_vats 35 = .ok (.aload_n 0, 1) := by decide +kernel
theorem dX6_vats_36 : decode cX6_vats 36 = .ok (.getfield 33, 3) := by decide +kernel
theorem dX6_vats_39 : decode cX6_vats 39 = .ok (.invokevirtual 72, 3) := by decide +kernel
theorem dX6_vats_42 : decode cX6_vats 42 = .ok (.iload_n 2, 1) := by decide +kernel
theorem dX6_vats_43 : decode cX6_vats 43 = .ok (.ireturn, 1) := by decide +kernel
theorem dX6_bath_0 : decode cX6_bath 0 = .ok (.iload_n 1, 1) := by decide +kernel
theorem dX6_bath_1 : decode cX6_bath 1 = .ok (.ifCond .lt 23, 3) := by decide +kernel
theorem dX6_bath_4 : decode cX6_bath 4 = .ok (.iload_n 1, 1) := by decide +kernel
theorem dX6_bath_5 : decode cX6_bath 5 = .ok (.getstatic 75, 3) := by decide +kernel
theorem dX6_bath_8 : decode cX6_bath 8 = .ok (.arraylength, 1) := by decide +kernel
theorem dX6_bath_9 : decode cX6_bath 9 = .ok (.if_icmp .ge 15, 3) := by decide +kernel
theorem dX6_bath_12 : decode cX6_bath 12 = .ok (.aload_n 0, 1) := by decide +kernel
theorem dX6_bath_13 : decode cX6_bath 13 = .ok (.getfield 19, 3) := by decide +kernel
theorem dX6_bath_16 : decode cX6_bath 16 = .ok (.getfield 78, 3) := by decide +kernel
theorem dX6_bath_19 : decode cX6_bath 19 = .ok (.bipush 9, 2) := by decide +kernel
theorem dX6_bath_21 : decode cX6_bath 21 = .ok (.if_icmp .lt 6, 3) := by decide +kernel
theorem dX6_bath_24 : decode cX6_bath 24 = .ok (.bipush (-2), 2) := by decide +kernel
theorem dX6_bath_26 : decode cX6_bath 26 = .ok (.ireturn, 1) := by decide +kernel
theorem dX6_bath_27 : decode cX6_bath 27 = .ok (.aload_n 0, 1) := by decide +kernel
theorem dX6_bath_28 : decode cX6_bath 28 = .ok (.getfield 42, 3) := by decide +kernel
theorem dX6_bath_31 : decode cX6_bath 31 = .ok (.invokevirtual 81, 3) := by decide +kernel
theorem dX6_bath_34 : decode cX6_bath 34 = .ok (.aload_n 0, 1) := by decide +kernel
theorem dX6_bath_35 : decode cX6_bath 35 = .ok (.getfield 19, 3) := by decide +kernel
theorem dX6_bath_38 : decode cX6_bath 38 = .ok (.iload_n 1, 1) := by decide +kernel
theorem dX6_bath_39 : decode cX6_bath 39 = .ok (.invokevirtual 84, 3) := by decide +kernel
theorem dX6_bath_42 : decode cX6_bath 42 = .ok (.ireturn, 1) := by decide +kernel
theorem dX6_recipe_0 : decode cX6_recipe 0 = .ok (.aload_n 0, 1) := by decide +kernel
theorem dX6_recipe_1 : decode cX6_recipe 1 = .ok (.getfield 19, 3) := by decide +kernel
theorem dX6_recipe_4 : decode cX6_recipe 4 = .ok (.iload_n 1, 1) := by decide +kernel
theorem dX6_recipe_5 : decode cX6_recipe 5 = .ok (.invokevirtual 87, 3) := by decide +kernel
theorem dX6_recipe_8 : decode cX6_recipe 8 = .ok (.ifCond .eq 22, 3) := by decide +kernel
theorem dX6_recipe_11 : decode cX6_recipe 11 = .ok (.iload_n 2, 1) := by decide +kernel
theorem dX6_recipe_12 : decode cX6_recipe 12 = .ok (.invokestatic 90, 3) := by decide +kernel
theorem dX6_recipe_15 : decode cX6_recipe 15 = .ok (.ifCond .eq 15, 3) := by decide +kernel
theorem dX6_recipe_18 : decode cX6_recipe 18 = .ok (.aload_n 0, 1) := by decide +kernel
theorem dX6_recipe_19 : decode cX6_recipe 19 = .ok (.invokevirtual 93, 3) := by decide +kernel
theorem dX6_recipe_22 : decode cX6_recipe 22 = .ok (.ifCond .ne 8, 3) := by decide +kernel
theorem dX6_recipe_25 : decode cX6_recipe 25 = .ok (.iload_n 3, 1) := by decide +kernel
theorem dX6_recipe_26 : decode cX6_recipe 26 = .ok (.iconst 4, 1) := by decide +kernel
theorem dX6_recipe_27 : decode cX6_recipe 27 = .ok (.if_icmp .le 6, 3) := by decide +kernel
theorem dX6_recipe_30 : decode cX6_recipe 30 = .ok (.bipush (-2), 2) := by decide +kernel
theorem dX6_recipe_32 : decode cX6_recipe 32 = .ok (.ireturn, 1) := by decide +kernel
theorem dX6_recipe_33 : decode cX6_recipe 33 = .ok (.iload_n 3, 1) := by decide +kernel
theorem dX6_recipe_34 : decode cX6_recipe 34 = .ok (.ifCond .ge 6, 3) := by decide +kernel
theorem dX6_recipe_37 : decode cX6_recipe 37 = .ok (.bipush (-13), 2) := by decide +kernel
theorem dX6_recipe_39 : decode cX6_recipe 39 = .ok (.ireturn, 1) := by decide +kernel
theorem dX6_recipe_40 : decode cX6_recipe 40 = .ok (.aload_n 0, 1) := by decide +kernel
theorem dX6_recipe_41 : decode cX6_recipe 41 = .ok (.getfield 12, 3) := by decide +kernel
theorem dX6_recipe_44 : decode cX6_recipe 44 = .ok (.iload_n 1, 1) := by decide +kernel
theorem dX6_recipe_45 : decode cX6_recipe 45 = .ok (.iload_n 2, 1) := by decide +kernel
theorem dX6_recipe_46 : decode cX6_recipe 46 = .ok (.iload_n 3, 1) := by decide +kernel
theorem dX6_recipe_47 : decode cX6_recipe 47 = .ok (.invokevirtual 97, 3) := by decide +kernel
theorem dX6_recipe_50 : decode cX6_recipe 50 = .ok (.aload_n 0, 1) := by decide +kernel
theorem dX6_recipe_51 : decode cX6_recipe 51 = .ok (.iload_n 1, 1) := by decide +kernel
theorem dX6_recipe_52 : decode cX6_recipe 52 = .ok (.invokevirtual 101, 3) := by decide +kernel
theorem dX6_recipe_55 : decode cX6_recipe 55 = .ok (.iload_n 3, 1) := by decide +kernel
theorem dX6_recipe_56 : decode cX6_recipe 56 = .ok (.ireturn, 1) := by decide +kernel
theorem dX6_lose_0 : decode cX6_lose 0 = .ok (.aload_n 0, 1) := by decide +kernel
theorem dX6_lose_1 : decode cX6_lose 1 = .ok (.getfield 19, 3) := by decide +kernel
theorem dX6_lose_4 : decode cX6_lose 4 = .ok (.iload_n 1, 1) := by decide +kernel
theorem dX6_lose_5 : decode cX6_lose 5 = .ok (.invokevirtual 87, 3) := by decide +kernel
theorem dX6_lose_8 : decode cX6_lose 8 = .ok (.ifCond .eq 10, 3) := by decide +kernel
theorem dX6_lose_11 : decode cX6_lose 11 = .ok (.aload_n 0, 1) := by decide +kernel
theorem dX6_lose_12 : decode cX6_lose 12 = .ok (.invokevirtual 93, 3) := by decide +kernel
theorem dX6_lose_15 : decode cX6_lose 15 = .ok (.ifCond .eq 6, 3) := by decide +kernel
theorem dX6_lose_18 : decode cX6_lose 18 = .ok (.bipush (-2), 2) := by decide +kernel
theorem dX6_lose_20 : decode cX6_lose 20 = .ok (.ireturn, 1) := by decide +kernel
theorem dX6_lose_21 : decode cX6_lose 21 = .ok (.aload_n 0, 1) := by decide +kernel
theorem dX6_lose_22 : decode cX6_lose 22 = .ok (.getfield 12, 3) := by decide +kernel
theorem dX6_lose_25 : decode cX6_lose 25 = .ok (.iload_n 1, 1) := by decide +kernel
theorem dX6_lose_26 : decode cX6_lose 26 = .ok (.invokevirtual 105, 3) := by decide +kernel
theorem dX6_lose_29 : decode cX6_lose 29 = .ok (.ifCond .eq 7, 3) := by decide +kernel
theorem dX6_lose_32 : decode cX6_lose 32 = .ok (.iconst 1, 1) := by decide +kernel
theorem dX6_lose_33 : decode cX6_lose 33 = .ok (.goto 4, 3) := by decide +kernel
theorem dX6_lose_36 : decode cX6_lose 36 = .ok (.iconst 0, 1) := by decide +kernel
theorem dX6_lose_37 : decode cX6_lose 37 = .ok (.istore_n 2, 1) := by decide +kernel
theorem dX6_lose_38 : decode cX6_lose 38 = .ok (.aload_n 0, 1) := by decide +kernel
theorem dX6_lose_39 : decode cX6_lose 39 = .ok (.getfield 12, 3) := by decide +kernel
theorem dX6_lose_42 : decode cX6_lose 42 = .ok (.iload_n 1, 1) := by decide +kernel
theorem dX6_lose_43 : decode cX6_lose 43 = .ok (.invokevirtual 108, 3) := by decide +kernel
theorem dX6_lose_46 : decode cX6_lose 46 = .ok (.aload_n 0, 1) := by decide +kernel
theorem dX6_lose_47 : decode cX6_lose 47 = .ok (.iload_n 1, 1) := by decide +kernel
theorem dX6_lose_48 : decode cX6_lose 48 = .ok (.invokevirtual 101, 3) := by decide +kernel
theorem dX6_lose_51 : decode cX6_lose 51 = .ok (.iload_n 2, 1) := by decide +kernel
theorem dX6_lose_52 : decode cX6_lose 52 = .ok (.ireturn, 1) := by decide +kernel
theorem dX6_need_0 : decode cX6_need 0 = .ok (.aload_n 0, 1) := by decide +kernel
theorem dX6_need_1 : decode cX6_need 1 = .ok (.getfield 19, 3) := by decide +kernel
theorem dX6_need_4 : decode cX6_need 4 = .ok (.iload_n 1, 1) := by decide +kernel
theorem dX6_need_5 : decode cX6_need 5 = .ok (.invokevirtual 87, 3) := by decide +kernel
theorem dX6_need_8 : decode cX6_need 8 = .ok (.ifCond .eq 26, 3) := by decide +kernel
theorem dX6_need_11 : decode cX6_need 11 = .ok (.iload_n 3, 1) := by decide +kernel
theorem dX6_need_12 : decode cX6_need 12 = .ok (.iconst (-1), 1) := by decide +kernel
theorem dX6_need_13 : decode cX6_need 13 = .ok (.if_icmp .eq 14, 3) := by decide +kernel
theorem dX6_need_16 : decode cX6_need 16 = .ok (.aload_n 0, 1) := by decide +kernel
theorem dX6_need_17 : decode cX6_need 17 = .ok (.getfield 19, 3) := by decide +kernel
theorem dX6_need_20 : decode cX6_need 20 = .ok (.iload_n 3, 1) := by decide +kernel
theorem dX6_need_21 : decode cX6_need 21 = .ok (.invokevirtual 87, 3) := by decide +kernel
theorem dX6_need_24 : decode cX6_need 24 = .ok (.ifCond .eq 10, 3) := by decide +kernel
theorem dX6_need_27 : decode cX6_need 27 = .ok (.aload_n 0, 1) := by decide +kernel
theorem dX6_need_28 : decode cX6_need 28 = .ok (.invokevirtual 93, 3) := by decide +kernel
theorem dX6_need_31 : decode cX6_need 31 = .ok (.ifCond .eq 6, 3) := by decide +kernel
theorem dX6_need_34 : decode cX6_need 34 = .ok (.bipush (-2), 2) := by decide +kernel
theorem dX6_need_36 : decode cX6_need 36 = .ok (.ireturn, 1) := by decide +kernel
theorem dX6_need_37 : decode cX6_need 37 = .ok (.aload_n 0, 1) := by decide +kernel
theorem dX6_need_38 : decode cX6_need 38 = .ok (.getfield 12, 3) := by decide +kernel
theorem dX6_need_41 : decode cX6_need 41 = .ok (.iload_n 1, 1) := by decide +kernel
theorem dX6_need_42 : decode cX6_need 42 = .ok (.invokevirtual 105, 3) := by decide +kernel
theorem dX6_need_45 : decode cX6_need 45 = .ok (.ifCond .ne 6, 3) := by decide +kernel
theorem dX6_need_48 : decode cX6_need 48 = .ok (.bipush (-10), 2) := by decide +kernel
theorem dX6_need_50 : decode cX6_need 50 = .ok (.ireturn, 1) := by decide +kernel
theorem dX6_need_51 : decode cX6_need 51 = .ok (.aload_n 0, 1) := by decide +kernel
theorem dX6_need_52 : decode cX6_need 52 = .ok (.getfield 12, 3) := by decide +kernel
theorem dX6_need_55 : decode cX6_need 55 = .ok (.iload_n 1, 1) := by decide +kernel
theorem dX6_need_56 : decode cX6_need 56 = .ok (.iload_n 2, 1) := by decide +kernel
theorem dX6_need_57 : decode cX6_need 57 = .ok (.invokevirtual 111, 3) := by decide +kernel
theorem dX6_need_60 : decode cX6_need 60 = .ok (.ifCond .ne 6, 3) := by decide +kernel
theorem dX6_need_63 : decode cX6_need 63 = .ok (.bipush (-11), 2) := by decide +kernel
theorem dX6_need_65 : decode cX6_need 65 = .ok (.ireturn, 1) := by decide +kernel
theorem dX6_need_66 : decode cX6_need 66 = .ok (.iload_n 3, 1) := by decide +kernel
theorem dX6_need_67 : decode cX6_need 67 = .ok (.iconst (-1), 1) := by decide +kernel
theorem dX6_need_68 : decode cX6_need 68 = .ok (.if_icmp .eq 25, 3) := by decide +kernel
theorem dX6_need_71 : decode cX6_need 71 = .ok (.aload_n 0, 1) := by decide +kernel
theorem dX6_need_72 : decode cX6_need 72 = .ok (.getfield 26, 3) := by decide +kernel
theorem dX6_need_75 : decode cX6_need 75 = .ok (.aload_n 0, 1) := by decide +kernel
theorem dX6_need_76 : decode cX6_need 76 = .ok (.getfield 19, 3) := by decide +kernel
theorem dX6_need_79 : decode cX6_need 79 = .ok (.getfield 115, 3) := by decide +kernel
theorem dX6_need_82 : decode cX6_need 82 = .ok (.iload_n 1, 1) := by decide +kernel
theorem dX6_need_83 : decode cX6_need 83 = .ok (.iload_n 3, 1) := by decide +kernel
theorem dX6_need_84 : decode cX6_need 84 = .ok (.invokevirtual 118, 3) := by decide +kernel
theorem dX6_need_87 : decode cX6_need 87 = .ok (.ifCond .eq 6, 3) := by decide +kernel
theorem dX6_need_90 : decode cX6_need 90 = .ok (.bipush (-3), 2) := by decide +kernel
theorem dX6_need_92 : decode cX6_need 92 = .ok (.ireturn, 1) := by decide +kernel
theorem dX6_need_93 : decode cX6_need 93 = .ok (.aload_n 0, 1) := by decide +kernel
theorem dX6_need_94 : decode cX6_need 94 = .ok (.getfield 12, 3) := by decide +kernel
theorem dX6_need_97 : decode cX6_need 97 = .ok (.iload_n 1, 1) := by decide +kernel
theorem dX6_need_98 : decode cX6_need 98 = .ok (.iload_n 2, 1) := by decide +kernel
theorem dX6_need_99 : decode cX6_need 99 = .ok (.invokevirtual 122, 3) := by decide +kernel
theorem dX6_need_102 : decode cX6_need 102 = .ok (.istore 4, 2) := by decide +kernel
theorem dX6_need_104 : decode cX6_need 104 = .ok (.aload_n 0, 1) := by decide +kernel
theorem dX6_need_105 : decode cX6_need 105 = .ok (.getfield 12, 3) := by decide +kernel
theorem dX6_need_108 : decode cX6_need 108 = .ok (.iload_n 1, 1) := by decide +kernel
theorem dX6_need_109 : decode cX6_need 109 = .ok (.iload_n 2, 1) := by decide +kernel
theorem dX6_need_110 : decode cX6_need 110 = .ok (.iload_n 3, 1) := by decide +kernel
theorem dX6_need_111 : decode cX6_need 111 = .ok (.invokevirtual 126, 3) := by decide +kernel
theorem dX6_need_114 : decode cX6_need 114 = .ok (.aload_n 0, 1) := by decide +kernel
theorem dX6_need_115 : decode cX6_need 115 = .ok (.iload_n 1, 1) := by decide +kernel
theorem dX6_need_116 : decode cX6_need 116 = .ok (.invokevirtual 101, 3) := by decide +kernel
theorem dX6_need_119 : decode cX6_need 119 = .ok (.iload 4, 2) := by decide +kernel
theorem dX6_need_121 : decode cX6_need 121 = .ok (.ireturn, 1) := by decide +kernel
theorem dX6_named_0 : decode cX6_named 0 = .ok (.aload_n 0, 1) := by decide +kernel
theorem dX6_named_1 : decode cX6_named 1 = .ok (.getfield 19, 3) := by decide +kernel
theorem dX6_named_4 : decode cX6_named 4 = .ok (.iload_n 1, 1) := by decide +kernel
theorem dX6_named_5 : decode cX6_named 5 = .ok (.invokevirtual 87, 3) := by decide +kernel
theorem dX6_named_8 : decode cX6_named 8 = .ok (.ifCond .eq 10, 3) := by decide +kernel
theorem dX6_named_11 : decode cX6_named 11 = .ok (.iload_n 2, 1) := by decide +kernel
theorem dX6_named_12 : decode cX6_named 12 = .ok (.invokestatic 90, 3) := by decide +kernel
theorem dX6_named_15 : decode cX6_named 15 = .ok (.ifCond .ne 6, 3) := by decide +kernel
theorem dX6_named_18 : decode cX6_named 18 = .ok (.bipush (-2), 2) := by decide +kernel
theorem dX6_named_20 : decode cX6_named 20 = .ok (.ireturn, 1) := by decide +kernel
theorem dX6_named_21 : decode cX6_named 21 = .ok (.aload_n 0, 1) := by decide +kernel
theorem dX6_named_22 : decode cX6_named 22 = .ok (.getfield 12, 3) := by decide +kernel
theorem dX6_named_25 : decode cX6_named 25 = .ok (.iload_n 1, 1) := by decide +kernel
theorem dX6_named_26 : decode cX6_named 26 = .ok (.invokevirtual 105, 3) := by decide +kernel
theorem dX6_named_29 : decode cX6_named 29 = .ok (.ifCond .ne 6, 3) := by decide +kernel
theorem dX6_named_32 : decode cX6_named 32 = .ok (.bipush (-10), 2) := by decide +kernel
theorem dX6_named_34 : decode cX6_named 34 = .ok (.ireturn, 1) := by decide +kernel
theorem dX6_named_35 : decode cX6_named 35 = .ok (.aload_n 0, 1) := by decide +kernel
theorem dX6_named_36 : decode cX6_named 36 = .ok (.getfield 12, 3) := by decide +kernel
theorem dX6_named_39 : decode cX6_named 39 = .ok (.getfield 129, 3) := by decide +kernel
theorem dX6_named_42 : decode cX6_named 42 = .ok (.iload_n 1, 1) := by decide +kernel
theorem dX6_named_43 : decode cX6_named 43 = .ok (.iaload, 1) := by decide +kernel
theorem dX6_named_44 : decode cX6_named 44 = .ok (.iload_n 2, 1) := by decide +kernel
theorem dX6_named_45 : decode cX6_named 45 = .ok (.if_icmp .eq 6, 3) := by decide +kernel
theorem dX6_named_48 : decode cX6_named 48 = .ok (.bipush (-12), 2) := by decide +kernel
theorem dX6_named_50 : decode cX6_named 50 = .ok (.ireturn, 1) := by decide +kernel
theorem dX6_named_51 : decode cX6_named 51 = .ok (.aload_n 0, 1) := by decide +kernel
theorem dX6_named_52 : decode cX6_named 52 = .ok (.getfield 12, 3) := by decide +kernel
theorem dX6_named_55 : decode cX6_named 55 = .ok (.iload_n 1, 1) := by decide +kernel
theorem dX6_named_56 : decode cX6_named 56 = .ok (.iload_n 3, 1) := by decide +kernel
theorem dX6_named_57 : decode cX6_named 57 = .ok (.invokevirtual 111, 3) := by decide +kernel
theorem dX6_named_60 : decode cX6_named 60 = .ok (.ifCond .eq 15, 3) := by decide +kernel
theorem dX6_named_63 : decode cX6_named 63 = .ok (.aload_n 0, 1) := by decide +kernel
theorem dX6_named_64 : decode cX6_named 64 = .ok (.getfield 12, 3) := by decide +kernel
theorem dX6_named_67 : decode cX6_named 67 = .ok (.iload_n 1, 1) := by decide +kernel
theorem dX6_named_68 : decode cX6_named 68 = .ok (.iload_n 3, 1) := by decide +kernel
theorem dX6_named_69 : decode cX6_named 69 = .ok (.invokevirtual 122, 3) := by decide +kernel
theorem dX6_named_72 : decode cX6_named 72 = .ok (.goto 5, 3) := by decide +kernel
theorem dX6_named_75 : decode cX6_named 75 = .ok (.bipush (-11), 2) := by decide +kernel
theorem dX6_named_77 : decode cX6_named 77 = .ok (.ireturn, 1) := by decide +kernel
theorem dX6_ring_0 : decode cX6_ring 0 = .ok (.iload_n 1, 1) := by decide +kernel
theorem dX6_ring_1 : decode cX6_ring 1 = .ok (.ifCond .lt 14, 3) := by decide +kernel
theorem dX6_ring_4 : decode cX6_ring 4 = .ok (.iload_n 1, 1) := by decide +kernel
theorem dX6_ring_5 : decode cX6_ring 5 = .ok (.aload_n 0, 1) := by decide +kernel
theorem dX6_ring_6 : decode cX6_ring 6 = .ok (.getfield 26, 3) := by decide +kernel
theorem dX6_ring_9 : decode cX6_ring 9 = .ok (.getfield 132, 3) := by decide +kernel
theorem dX6_ring_12 : decode cX6_ring 12 = .ok (.if_icmp .lt 7, 3) := by decide +kernel
theorem dX6_ring_15 : decode cX6_ring 15 = .ok (.iconst (-1), 1) := by decide +kernel
theorem dX6_ring_16 : decode cX6_ring 16 = .ok (.goto 12, 3) := by decide +kernel
theorem dX6_ring_19 : decode cX6_ring 19 = .ok (.aload_n 0, 1) := by decide +kernel
theorem dX6_ring_20 : decode cX6_ring 20 = .ok (.getfield 26, 3) := by decide +kernel
theorem dX6_ring_23 : decode cX6_ring 23 = .ok (.getfield 135, 3) := by decide +kernel
theorem dX6_ring_26 : decode cX6_ring 26 = .ok (.iload_n 1, 1) := by decide +kernel
theorem dX6_ring_27 : decode cX6_ring 27 = .ok (.iaload, 1) := by decide +kernel
theorem dX6_ring_28 : decode cX6_ring 28 = .ok (.ireturn, 1) := by decide +kernel
theorem dX6_order_0 : decode cX6_order 0 = .ok (.aload_n 0, 1) := by decide +kernel
theorem dX6_order_1 : decode cX6_order 1 = .ok (.getfield 19, 3) := by decide +kernel
theorem dX6_order_4 : decode cX6_order 4 = .ok (.iload_n 1, 1) := by decide +kernel
theorem dX6_order_5 : decode cX6_order 5 = .ok (.invokevirtual 87, 3) := by decide +kernel
theorem dX6_order_8 : decode cX6_order 8 = .ok (.ifCond .ne 5, 3) := by decide +kernel
theorem dX6_order_11 : decode cX6_order 11 = .ok (.iconst (-1), 1) := by decide +kernel
theorem dX6_order_12 : decode cX6_order 12 = .ok (.ireturn, 1) := by decide +kernel
theorem dX6_order_13 : decode cX6_order 13 = .ok (.iconst 0, 1) := by decide +kernel
theorem dX6_order_14 : decode cX6_order 14 = .ok (.istore_n 2, 1) := by decide +kernel
theorem dX6_order_15 : decode cX6_order 15 = .ok (.iconst (-1), 1) := by decide +kernel
theorem dX6_order_16 : decode cX6_order 16 = .ok (.istore_n 3, 1) := by decide +kernel
theorem dX6_order_17 : decode cX6_order 17 = .ok (.iconst 0, 1) := by decide +kernel
theorem dX6_order_18 : decode cX6_order 18 = .ok (.istore 4, 2) := by decide +kernel
theorem dX6_order_20 : decode cX6_order 20 = .ok (.iload 4, 2) := by decide +kernel
theorem dX6_order_22 : decode cX6_order 22 = .ok (.iload_n 1, 1) := by decide +kernel
theorem dX6_order_23 : decode cX6_order 23 = .ok (.if_icmp .gt 31, 3) := by decide +kernel
theorem dX6_order_26 : decode cX6_order 26 = .ok (.aload_n 0, 1) := by decide +kernel
theorem dX6_order_27 : decode cX6_order 27 = .ok (.getfield 19, 3) := by decide +kernel
theorem dX6_order_30 : decode cX6_order 30 = .ok (.iload_n 2, 1) := by decide +kernel
theorem dX6_order_31 : decode cX6_order 31 = .ok (.invokevirtual 137, 3) := by decide +kernel
theorem dX6_order_34 : decode cX6_order 34 = .ok (.istore_n 3, 1) := by decide +kernel
theorem dX6_order_35 : decode cX6_order 35 = .ok (.iload_n 3, 1) := by decide +kernel
theorem dX6_order_36 : decode cX6_order 36 = .ok (.iconst (-1), 1) := by decide +kernel
theorem dX6_order_37 : decode cX6_order 37 = .ok (.if_icmp .ne 5, 3) := by decide +kernel
theorem dX6_order_40 : decode cX6_order 40 = .ok (.iconst (-1), 1) := by decide +kernel
theorem dX6_order_41 : decode cX6_order 41 = .ok (.ireturn, 1) := by decide +kernel
theorem dX6_order_42 : decode cX6_order 42 = .ok (.iload_n 2, 1) := by decide +kernel
theorem dX6_order_43 : decode cX6_order 43 = .ok (.iconst 1, 1) := by decide +kernel
theorem dX6_order_44 : decode cX6_order 44 = .ok (.iload_n 3, 1) := by decide +kernel
theorem dX6_order_45 : decode cX6_order 45 = .ok (.ishl, 1) := by decide +kernel
theorem dX6_order_46 : decode cX6_order 46 = .ok (.ior, 1) := by decide +kernel
theorem dX6_order_47 : decode cX6_order 47 = .ok (.istore_n 2, 1) := by decide +kernel
theorem dX6_order_48 : decode cX6_order 48 = .ok (.iinc 4 1, 3) := by decide +kernel
theorem dX6_order_51 : decode cX6_order 51 = .ok (.goto (-31), 3) := by decide +kernel
theorem dX6_order_54 : decode cX6_order 54 = .ok (.iload_n 3, 1) := by decide +kernel
theorem dX6_order_55 : decode cX6_order 55 = .ok (.ireturn, 1) := by decide +kernel
theorem dX6_goal_0 : decode cX6_goal 0 = .ok (.aload_n 0, 1) := by decide +kernel
theorem dX6_goal_1 : decode cX6_goal 1 = .ok (.getfield 19, 3) := by decide +kernel
theorem dX6_goal_4 : decode cX6_goal 4 = .ok (.iload_n 1, 1) := by decide +kernel
theorem dX6_goal_5 : decode cX6_goal 5 = .ok (.invokevirtual 87, 3) := by decide +kernel
theorem dX6_goal_8 : decode cX6_goal 8 = .ok (.ifCond .eq 25, 3) := by decide +kernel
theorem dX6_goal_11 : decode cX6_goal 11 = .ok (.aload_n 0, 1) := by decide +kernel
theorem dX6_goal_12 : decode cX6_goal 12 = .ok (.getfield 19, 3) := by decide +kernel
theorem dX6_goal_15 : decode cX6_goal 15 = .ok (.iload_n 1, 1) := by decide +kernel
theorem dX6_goal_16 : decode cX6_goal 16 = .ok (.invokevirtual 140, 3) := by decide +kernel
theorem dX6_goal_19 : decode cX6_goal 19 = .ok (.ifCond .ne 14, 3) := by decide +kernel
theorem dX6_goal_22 : decode cX6_goal 22 = .ok (.aload_n 0, 1) := by decide +kernel
theorem dX6_goal_23 : decode cX6_goal 23 = .ok (.getfield 19, 3) := by decide +kernel
theorem dX6_goal_26 : decode cX6_goal 26 = .ok (.getfield 143, 3) := by decide +kernel
theorem dX6_goal_29 : decode cX6_goal 29 = .ok (.iconst 3, 1) := by decide +kernel
theorem dX6_goal_30 : decode cX6_goal 30 = .ok (.if_icmp .lt 6, 3) := by decide +kernel
theorem dX6_goal_33 : decode cX6_goal 33 = .ok (.bipush (-2), 2) := by decide +kernel
theorem dX6_goal_35 : decode cX6_goal 35 = .ok (.ireturn, 1) := by decide +kernel
theorem dX6_goal_36 : decode cX6_goal 36 = .ok (.aload_n 0, 1) := by decide +kernel
theorem dX6_goal_37 : decode cX6_goal 37 = .ok (.getfield 42, 3) := by decide +kernel
theorem dX6_goal_40 : decode cX6_goal 40 = .ok (.invokevirtual 81, 3) := by decide +kernel
theorem dX6_goal_43 : decode cX6_goal 43 = .ok (.aload_n 0, 1) := by decide +kernel
theorem dX6_goal_44 : decode cX6_goal 44 = .ok (.getfield 19, 3) := by decide +kernel
theorem dX6_goal_47 : decode cX6_goal 47 = .ok (.iload_n 1, 1) := by decide +kernel
theorem dX6_goal_48 : decode cX6_goal 48 = .ok (.invokevirtual 146, 3) := by decide +kernel
theorem dX6_goal_51 : decode cX6_goal 51 = .ok (.ireturn, 1) := by decide +kernel
theorem dX6_forget_0 : decode cX6_forget 0 = .ok (.aload_n 0, 1) := by decide +kernel
theorem dX6_forget_1 : decode cX6_forget 1 = .ok (.getfield 19, 3) := by decide +kernel
theorem dX6_forget_4 : decode cX6_forget 4 = .ok (.getfield 143, 3) := by decide +kernel
theorem dX6_forget_7 : decode cX6_forget 7 = .ok (.istore_n 1, 1) := by decide +kernel
theorem dX6_forget_8 : decode cX6_forget 8 = .ok (.aload_n 0, 1) := by decide +kernel
theorem dX6_forget_9 : decode cX6_forget 9 = .ok (.getfield 19, 3) := by decide +kernel
theorem dX6_forget_12 : decode cX6_forget 12 = .ok (.invokevirtual 149, 3) := by decide +kernel
theorem dX6_forget_15 : decode cX6_forget 15 = .ok (.aload_n 0, 1) := by decide +kernel
theorem dX6_forget_16 : decode cX6_forget 16 = .ok (.getfield 42, 3) := by decide +kernel
theorem dX6_forget_19 : decode cX6_forget 19 = .ok (.invokevirtual 81, 3) := by decide +kernel
theorem dX6_forget_22 : decode cX6_forget 22 = .ok (.iload_n 1, 1) := by decide +kernel
theorem dX6_forget_23 : decode cX6_forget 23 = .ok (.ireturn, 1) := by decide +kernel
theorem dX6_together_0 : decode cX6_together 0 = .ok (.aload_n 0, 1) := by decide +kernel
theorem dX6_together_1 : decode cX6_together 1 = .ok (.getfield 19, 3) := by decide +kernel
theorem dX6_together_4 : decode cX6_together 4 = .ok (.getfield 152, 3) := by decide +kernel
theorem dX6_together_7 : decode cX6_together 7 = .ok (.ifCond .eq 7, 3) := by decide +kernel
theorem dX6_together_10 : decode cX6_together 10 = .ok (.iconst 1, 1) := by decide +kernel
theorem dX6_together_11 : decode cX6_together 11 = .ok (.goto 4, 3) := by decide +kernel
theorem dX6_together_14 : decode cX6_together 14 = .ok (.iconst 0, 1) := by decide +kernel
theorem dX6_together_15 : decode cX6_together 15 = .ok (.istore_n 2, 1) := by decide +kernel
theorem dX6_together_16 : decode cX6_together 16 = .ok (.aload_n 0, 1) := by decide +kernel
theorem dX6_together_17 : decode cX6_together 17 = .ok (.getfield 19, 3) := by decide +kernel
theorem dX6_together_20 : decode cX6_together 20 = .ok (.iload_n 1, 1) := by decide +kernel
theorem dX6_together_21 : decode cX6_together 21 = .ok (.putfield 152, 3) := by decide +kernel
theorem dX6_together_24 : decode cX6_together 24 = .ok (.aload_n 0, 1) := by decide +kernel
theorem dX6_together_25 : decode cX6_together 25 = .ok (.getfield 42, 3) := by decide +kernel
theorem dX6_together_28 : decode cX6_together 28 = .ok (.invokevirtual 81, 3) := by decide +kernel
theorem dX6_together_31 : decode cX6_together 31 = .ok (.iload_n 2, 1) := by decide +kernel
theorem dX6_together_32 : decode cX6_together 32 = .ok (.ireturn, 1) := by decide +kernel
theorem dX6_make_0 : decode cX6_make 0 = .ok (.aload_n 0, 1) := by decide +kernel
theorem dX6_make_1 : decode cX6_make 1 = .ok (.getfield 19, 3) := by decide +kernel
theorem dX6_make_4 : decode cX6_make 4 = .ok (.iload_n 1, 1) := by decide +kernel
theorem dX6_make_5 : decode cX6_make 5 = .ok (.invokevirtual 87, 3) := by decide +kernel
theorem dX6_make_8 : decode cX6_make 8 = .ok (.ifCond .eq 22, 3) := by decide +kernel
theorem dX6_make_11 : decode cX6_make 11 = .ok (.aload_n 0, 1) := by decide +kernel
theorem dX6_make_12 : decode cX6_make 12 = .ok (.getfield 19, 3) := by decide +kernel
theorem dX6_make_15 : decode cX6_make 15 = .ok (.iload_n 1, 1) := by decide +kernel
theorem dX6_make_16 : decode cX6_make 16 = .ok (.aload_n 0, 1) := by decide +kernel
theorem dX6_make_17 : decode cX6_make 17 = .ok (.getfield 61, 3) := by decide +kernel
theorem dX6_make_20 : decode cX6_make 20 = .ok (.aload_n 0, 1) := by decide +kernel
theorem dX6_make_21 : decode cX6_make 21 = .ok (.getfield 57, 3) := by decide +kernel
theorem dX6_make_24 : decode cX6_make 24 = .ok (.invokevirtual 156, 3) := by decide +kernel
theorem dX6_make_27 : decode cX6_make 27 = .ok (.ifCond .eq 6, 3) := by decide +kernel
theorem dX6_make_30 : decode cX6_make 30 = .ok (.bipush (-2), 2) := by decide +kernel
theorem dX6_make_32 : decode cX6_make 32 = .ok (.ireturn, 1) := by decide +kernel
theorem dX6_make_33 : decode cX6_make 33 = .ok (.aload_n 0, 1) := by decide +kernel
theorem dX6_make_34 : decode cX6_make 34 = .ok (.getfield 33, 3) := by decide +kernel
theorem dX6_make_37 : decode cX6_make 37 = .ok (.aload_n 0, 1) := by decide +kernel
theorem dX6_make_38 : decode cX6_make 38 = .ok (.getfield 61, 3) := by decide +kernel
theorem dX6_make_41 : decode cX6_make 41 = .ok (.iload_n 1, 1) := by decide +kernel
theorem dX6_make_42 : decode cX6_make 42 = .ok (.invokevirtual 160, 3) := by decide +kernel
theorem dX6_make_45 : decode cX6_make 45 = .ok (.aload_n 0, 1) := by decide +kernel
theorem dX6_make_46 : decode cX6_make 46 = .ok (.getfield 53, 3) := by decide +kernel
theorem dX6_make_49 : decode cX6_make 49 = .ok (.iload_n 1, 1) := by decide +kernel
theorem dX6_make_50 : decode cX6_make 50 = .ok (.dup2, 1) := by decide +kernel
theorem dX6_make_51 : decode cX6_make 51 = .ok (.iaload, 1) := by decide +kernel
theorem dX6_make_52 : decode cX6_make 52 = .ok (.iconst 1, 1) := by decide +kernel
theorem dX6_make_53 : decode cX6_make 53 = .ok (.iadd, 1) := by decide +kernel
theorem dX6_make_54 : decode cX6_make 54 = .ok (.iastore, 1) := by decide +kernel
theorem dX6_make_55 : decode cX6_make 55 = .ok (.aload_n 0, 1) := by decide +kernel
theorem dX6_make_56 : decode cX6_make 56 = .ok (.aload_n 0, 1) := by decide +kernel
theorem dX6_make_57 : decode cX6_make 57 = .ok (.getfield 19, 3) := by decide +kernel
theorem dX6_make_60 : decode cX6_make 60 = .ok (.iload_n 1, 1) := by decide +kernel
theorem dX6_make_61 : decode cX6_make 61 = .ok (.aload_n 0, 1) := by decide +kernel
theorem dX6_make_62 : decode cX6_make 62 = .ok (.getfield 61, 3) := by decide +kernel
theorem dX6_make_65 : decode cX6_make 65 = .ok (.invokevirtual 164, 3) := by decide +kernel
theorem dX6_make_68 : decode cX6_make 68 = .ok (.putfield 61, 3) := by decide +kernel
theorem dX6_make_71 : decode cX6_make 71 = .ok (.aload_n 0, 1) := by decide +kernel
theorem dX6_make_72 : decode cX6_make 72 = .ok (.invokevirtual 167, 3) := by decide +kernel
theorem dX6_make_75 : decode cX6_make 75 = .ok (.ireturn, 1) := by decide +kernel
theorem dX6_why_0 : decode cX6_why 0 = .ok (.aload_n 0, 1) := by decide +kernel
theorem dX6_why_1 : decode cX6_why 1 = .ok (.getfield 19, 3) := by decide +kernel
theorem dX6_why_4 : decode cX6_why 4 = .ok (.iload_n 1, 1) := by decide +kernel
theorem dX6_why_5 : decode cX6_why 5 = .ok (.invokevirtual 87, 3) := by decide +kernel
theorem dX6_why_8 : decode cX6_why 8 = .ok (.ifCond .eq 22, 3) := by decide +kernel
theorem dX6_why_11 : decode cX6_why 11 = .ok (.aload_n 0, 1) := by decide +kernel
theorem dX6_why_12 : decode cX6_why 12 = .ok (.getfield 19, 3) := by decide +kernel
theorem dX6_why_15 : decode cX6_why 15 = .ok (.iload_n 1, 1) := by decide +kernel
theorem dX6_why_16 : decode cX6_why 16 = .ok (.aload_n 0, 1) := by decide +kernel
theorem dX6_why_17 : decode cX6_why 17 = .ok (.getfield 61, 3) := by decide +kernel
theorem dX6_why_20 : decode cX6_why 20 = .ok (.aload_n 0, 1) := by decide +kernel
theorem dX6_why_21 : decode cX6_why 21 = .ok (.getfield 57, 3) := by decide +kernel
theorem dX6_why_24 : decode cX6_why 24 = .ok (.invokevirtual 156, 3) := by decide +kernel
theorem dX6_why_27 : decode cX6_why 27 = .ok (.goto 5, 3) := by decide +kernel
theorem dX6_why_30 : decode cX6_why 30 = .ok (.bipush (-2), 2) := by decide +kernel
theorem dX6_why_32 : decode cX6_why 32 = .ok (.ireturn, 1) := by decide +kernel
theorem dX6_pour_0 : decode cX6_pour 0 = .ok (.aload_n 0, 1) := by decide +kernel
theorem dX6_pour_1 : decode cX6_pour 1 = .ok (.getfield 19, 3) := by decide +kernel
theorem dX6_pour_4 : decode cX6_pour 4 = .ok (.iload_n 1, 1) := by decide +kernel
theorem dX6_pour_5 : decode cX6_pour 5 = .ok (.invokevirtual 87, 3) := by decide +kernel
theorem dX6_pour_8 : decode cX6_pour 8 = .ok (.ifCond .eq 14, 3) := by decide +kernel
theorem dX6_pour_11 : decode cX6_pour 11 = .ok (.iload_n 1, 1) := by decide +kernel
theorem dX6_pour_12 : decode cX6_pour 12 = .ok (.aload_n 0, 1) := by decide +kernel
theorem dX6_pour_13 : decode cX6_pour 13 = .ok (.getfield 61, 3) := by decide +kernel
theorem dX6_pour_16 : decode cX6_pour 16 = .ok (.invokestatic 171, 3) := by decide +kernel
theorem dX6_pour_19 : decode cX6_pour 19 = .ok (.ifCond .ne 6, 3) := by decide +kernel
theorem dX6_pour_22 : decode cX6_pour 22 = .ok (.bipush (-2), 2) := by decide +kernel
theorem dX6_pour_24 : decode cX6_pour 24 = .ok (.ireturn, 1) := by decide +kernel
theorem dX6_pour_25 : decode cX6_pour 25 = .ok (.aload_n 0, 1) := by decide +kernel
theorem dX6_pour_26 : decode cX6_pour 26 = .ok (.getfield 33, 3) := by decide +kernel
theorem dX6_pour_29 : decode cX6_pour 29 = .ok (.aload_n 0, 1) := by decide +kernel
theorem dX6_pour_30 : decode cX6_pour 30 = .ok (.getfield 61, 3) := by decide +kernel
theorem dX6_pour_33 : decode cX6_pour 33 = .ok (.iconst (-1), 1) := by decide +kernel
theorem dX6_pour_34 : decode cX6_pour 34 = .ok (.invokevirtual 160, 3) := by decide +kernel
theorem dX6_pour_37 : decode cX6_pour 37 = .ok (.aload_n 0, 1) := by decide +kernel
theorem dX6_pour_38 : decode cX6_pour 38 = .ok (.iload_n 1, 1) := by decide +kernel
theorem dX6_pour_39 : decode cX6_pour 39 = .ok (.aload_n 0, 1) := by decide +kernel
theorem dX6_pour_40 : decode cX6_pour 40 = .ok (.getfield 61, 3) := by decide +kernel
theorem dX6_pour_43 : decode cX6_pour 43 = .ok (.invokestatic 174, 3) := by decide +kernel
theorem dX6_pour_46 : decode cX6_pour 46 = .ok (.putfield 61, 3) := by decide +kernel
theorem dX6_pour_49 : decode cX6_pour 49 = .ok (.aload_n 0, 1) := by decide +kernel
theorem dX6_pour_50 : decode cX6_pour 50 = .ok (.invokevirtual 167, 3) := by decide +kernel
theorem dX6_pour_53 : decode cX6_pour 53 = .ok (.ireturn, 1) := by decide +kernel
theorem dX6_undo_0 : decode cX6_undo 0 = .ok (.aload_n 0, 1) := by decide +kernel
theorem dX6_undo_1 : decode cX6_undo 1 = .ok (.getfield 33, 3) := by decide +kernel
theorem dX6_undo_4 : decode cX6_undo 4 = .ok (.getfield 177, 3) := by decide +kernel
theorem dX6_undo_7 : decode cX6_undo 7 = .ok (.ifCond .ne 6, 3) := by decide +kernel
theorem dX6_undo_10 : decode cX6_undo 10 = .ok (.bipush (-2), 2) := by decide +kernel
theorem dX6_undo_12 : decode cX6_undo 12 = .ok (.ireturn, 1) := by decide +kernel
theorem dX6_undo_13 : decode cX6_undo 13 = .ok (.aload_n 0, 1) := by decide +kernel
theorem dX6_undo_14 : decode cX6_undo 14 = .ok (.getfield 33, 3) := by decide +kernel
theorem dX6_undo_17 : decode cX6_undo 17 = .ok (.invokevirtual 180, 3) := by decide +kernel
theorem dX6_undo_20 : decode cX6_undo 20 = .ok (.aload_n 0, 1) := by decide +kernel
theorem dX6_undo_21 : decode cX6_undo 21 = .ok (.getfield 33, 3) := by decide +kernel
theorem dX6_undo_24 : decode cX6_undo 24 = .ok (.invokevirtual 183, 3) := by decide +kernel
theorem dX6_undo_27 : decode cX6_undo 27 = .ok (.istore_n 1, 1) := by decide +kernel
theorem dX6_undo_28 : decode cX6_undo 28 = .ok (.iload_n 1, 1) := by decide +kernel
theorem dX6_undo_29 : decode cX6_undo 29 = .ok (.iconst (-1), 1) := by decide +kernel
theorem dX6_undo_30 : decode cX6_undo 30 = .ok (.if_icmp .eq 13, 3) := by decide +kernel
theorem dX6_undo_33 : decode cX6_undo 33 = .ok (.aload_n 0, 1) := by decide +kernel
theorem dX6_undo_34 : decode cX6_undo 34 = .ok (.getfield 53, 3) := by decide +kernel
theorem dX6_undo_37 : decode cX6_undo 37 = .ok (.iload_n 1, 1) := by decide +kernel
theorem dX6_undo_38 : decode cX6_undo 38 = .ok (.dup2, 1) := by decide +kernel
theorem dX6_undo_39 : decode cX6_undo 39 = .ok (.iaload, 1) := by decide +kernel
theorem dX6_undo_40 : decode cX6_undo 40 = .ok (.iconst 1, 1) := by decide +kernel
theorem dX6_undo_41 : decode cX6_undo 41 = .ok (.isub, 1) := by decide +kernel
theorem dX6_undo_42 : decode cX6_undo 42 = .ok (.iastore, 1) := by decide +kernel
theorem dX6_undo_43 : decode cX6_undo 43 = .ok (.aload_n 0, 1) := by decide +kernel
theorem dX6_undo_44 : decode cX6_undo 44 = .ok (.aload_n 0, 1) := by decide +kernel
theorem dX6_undo_45 : decode cX6_undo 45 = .ok (.getfield 33, 3) := by decide +kernel
theorem dX6_undo_48 : decode cX6_undo 48 = .ok (.invokevirtual 186, 3) := by decide +kernel
theorem dX6_undo_51 : decode cX6_undo 51 = .ok (.putfield 61, 3) := by decide +kernel
theorem dX6_undo_54 : decode cX6_undo 54 = .ok (.aload_n 0, 1) := by decide +kernel
theorem dX6_undo_55 : decode cX6_undo 55 = .ok (.getfield 33, 3) := by decide +kernel
theorem dX6_undo_58 : decode cX6_undo 58 = .ok (.getfield 177, 3) := by decide +kernel
theorem dX6_undo_61 : decode cX6_undo 61 = .ok (.ireturn, 1) := by decide +kernel
theorem dX6_of_0 : decode cX6_of 0 = .ok (.aload_n 0, 1) := by decide +kernel
theorem dX6_of_1 : decode cX6_of 1 = .ok (.getfield 19, 3) := by decide +kernel
theorem dX6_of_4 : decode cX6_of 4 = .ok (.iload_n 1, 1) := by decide +kernel
theorem dX6_of_5 : decode cX6_of 5 = .ok (.invokevirtual 87, 3) := by decide +kernel
theorem dX6_of_8 : decode cX6_of 8 = .ok (.ifCond .ne 6, 3) := by decide +kernel
theorem dX6_of_11 : decode cX6_of 11 = .ok (.bipush (-2), 2) := by decide +kernel
theorem dX6_of_13 : decode cX6_of 13 = .ok (.ireturn, 1) := by decide +kernel
theorem dX6_of_14 : decode cX6_of 14 = .ok (.iload_n 2, 1) := by decide +kernel
theorem dX6_of_15 : decode cX6_of 15 = .ok (.tableswitch 129 0 6 #[41, 51, 68, 88, 98, 108, 115], 41) := by decide +kernel
theorem dX6_of_56 : decode cX6_of 56 = .ok (.aload_n 0, 1) := by decide +kernel
theorem dX6_of_57 : decode cX6_of 57 = .ok (.getfield 19, 3) := by decide +kernel
theorem dX6_of_60 : decode cX6_of 60 = .ok (.getfield 189, 3) := by decide +kernel
theorem dX6_of_63 : decode cX6_of 63 = .ok (.iload_n 1, 1) := by decide +kernel
theorem dX6_of_64 : decode cX6_of 64 = .ok (.iaload, 1) := by decide +kernel
theorem dX6_of_65 : decode cX6_of 65 = .ok (.ireturn, 1) := by decide +kernel
theorem dX6_of_66 : decode cX6_of 66 = .ok (.iload_n 1, 1) := by decide +kernel
theorem dX6_of_67 : decode cX6_of 67 = .ok (.aload_n 0, 1) := by decide +kernel
theorem dX6_of_68 : decode cX6_of 68 = .ok (.getfield 61, 3) := by decide +kernel
theorem dX6_of_71 : decode cX6_of 71 = .ok (.invokestatic 171, 3) := by decide +kernel
theorem dX6_of_74 : decode cX6_of 74 = .ok (.ifCond .eq 7, 3) := by decide +kernel
theorem dX6_of_77 : decode cX6_of 77 = .ok (.iconst 1, 1) := by decide +kernel
theorem dX6_of_78 : decode cX6_of 78 = .ok (.goto 4, 3) := by decide +kernel
theorem dX6_of_81 : decode cX6_of 81 = .ok (.iconst 0, 1) := by decide +kernel
theorem dX6_of_82 : decode cX6_of 82 = .ok (.ireturn, 1) := by decide +kernel
theorem dX6_of_83 : decode cX6_of 83 = .ok (.aload_n 0, 1) := by decide +kernel
theorem dX6_of_84 : decode cX6_of 84 = .ok (.getfield 19, 3) := by decide +kernel
theorem dX6_of_87 : decode cX6_of 87 = .ok (.aload_n 0, 1) := by decide +kernel
theorem dX6_of_88 : decode cX6_of 88 = .ok (.getfield 61, 3) := by decide +kernel
theorem dX6_of_91 : decode cX6_of 91 = .ok (.iconst 1, 1) := by decide +kernel
theorem dX6_of_92 : decode cX6_of 92 = .ok (.iload_n 1, 1) := by decide +kernel
theorem dX6_of_93 : decode cX6_of 93 = .ok (.ishl, 1) := by decide +kernel
theorem dX6_of_94 : decode cX6_of 94 = .ok (.iand, 1) := by decide +kernel
theorem dX6_of_95 : decode cX6_of 95 = .ok (.aload_n 0, 1) := by decide +kernel
theorem dX6_of_96 : decode cX6_of 96 = .ok (.getfield 61, 3) := by decide +kernel
theorem dX6_of_99 : decode cX6_of 99 = .ok (.invokevirtual 192, 3) := by decide +kernel
theorem dX6_of_102 : decode cX6_of 102 = .ok (.ireturn, 1) := by decide +kernel
theorem dX6_of_103 : decode cX6_of 103 = .ok (.aload_n 0, 1) := by decide +kernel
theorem dX6_of_104 : decode cX6_of 104 = .ok (.getfield 12, 3) := by decide +kernel
theorem dX6_of_107 : decode cX6_of 107 = .ok (.getfield 195, 3) := by decide +kernel
theorem dX6_of_110 : decode cX6_of 110 = .ok (.iload_n 1, 1) := by decide +kernel
theorem dX6_of_111 : decode cX6_of 111 = .ok (.iaload, 1) := by decide +kernel
theorem dX6_of_112 : decode cX6_of 112 = .ok (.ireturn, 1) := by decide +kernel
theorem dX6_of_113 : decode cX6_of 113 = .ok (.aload_n 0, 1) := by decide +kernel
theorem dX6_of_114 : decode cX6_of 114 = .ok (.getfield 12, 3) := by decide +kernel
theorem dX6_of_117 : decode cX6_of 117 = .ok (.getfield 129, 3) := by decide +kernel
theorem dX6_of_120 : decode cX6_of 120 = .ok (.iload_n 1, 1) := by decide +kernel
theorem dX6_of_121 : decode cX6_of 121 = .ok (.iaload, 1) := by decide +kernel
theorem dX6_of_122 : decode cX6_of 122 = .ok (.ireturn, 1) := by decide +kernel
theorem dX6_of_123 : decode cX6_of 123 = .ok (.aload_n 0, 1) := by decide +kernel
theorem dX6_of_124 : decode cX6_of 124 = .ok (.getfield 53, 3) := by decide +kernel
theorem dX6_of_127 : decode cX6_of 127 = .ok (.iload_n 1, 1) := by decide +kernel
theorem dX6_of_128 : decode cX6_of 128 = .ok (.iaload, 1) := by decide +kernel
theorem dX6_of_129 : decode cX6_of 129 = .ok (.ireturn, 1) := by decide +kernel
theorem dX6_of_130 : decode cX6_of 130 = .ok (.getstatic 75, 3) := by decide +kernel
theorem dX6_of_133 : decode cX6_of 133 = .ok (.aload_n 0, 1) := by decide +kernel
theorem dX6_of_134 : decode cX6_of 134 = .ok (.getfield 19, 3) := by decide +kernel
theorem dX6_of_137 : decode cX6_of 137 = .ok (.getfield 189, 3) := by decide +kernel
theorem dX6_of_140 : decode cX6_of 140 = .ok (.iload_n 1, 1) := by decide +kernel
theorem dX6_of_141 : decode cX6_of 141 = .ok (.iaload, 1) := by decide +kernel
theorem dX6_of_142 : decode cX6_of 142 = .ok (.iaload, 1) := by decide +kernel
theorem dX6_of_143 : decode cX6_of 143 = .ok (.ireturn, 1) := by decide +kernel
theorem dX6_of_144 : decode cX6_of 144 = .ok (.bipush (-2), 2) := by decide +kernel
theorem dX6_of_146 : decode cX6_of 146 = .ok (.ireturn, 1) := by decide +kernel
theorem dX6_count_0 : decode cX6_count 0 = .ok (.iload_n 1, 1) := by decide +kernel
theorem dX6_count_1 : decode cX6_count 1 = .ok (.tableswitch 97 0 6 #[43, 51, 63, 68, 73, 81, 89], 43) := by decide +kernel
theorem dX6_count_44 : decode cX6_count 44 = .ok (.aload_n 0, 1) := by decide +kernel
theorem dX6_count_45 : decode cX6_count 45 = .ok (.getfield 19, 3) := by decide +kernel
theorem dX6_count_48 : decode cX6_count 48 = .ok (.getfield 78, 3) := by decide +kernel
theorem dX6_count_51 : decode cX6_count 51 = .ok (.ireturn, 1) := by decide +kernel
theorem dX6_count_52 : decode cX6_count 52 = .ok (.aload_n 0, 1) := by decide +kernel
theorem dX6_count_53 : decode cX6_count 53 = .ok (.getfield 61, 3) := by decide +kernel
theorem dX6_count_56 : decode cX6_count 56 = .ok (.sipush 511, 3) := by decide +kernel
theorem dX6_count_59 : decode cX6_count 59 = .ok (.iand, 1) := by decide +kernel
theorem dX6_count_60 : decode cX6_count 60 = .ok (.invokestatic 198, 3) := by decide +kernel
theorem dX6_count_63 : decode cX6_count 63 = .ok (.ireturn, 1) := by decide +kernel
theorem dX6_count_64 : decode cX6_count 64 = .ok (.aload_n 0, 1) := by decide +kernel
theorem dX6_count_65 : decode cX6_count 65 = .ok (.getfield 57, 3) := by decide +kernel
theorem dX6_count_68 : decode cX6_count 68 = .ok (.ireturn, 1) := by decide +kernel
theorem dX6_count_69 : decode cX6_count 69 = .ok (.aload_n 0, 1) := by decide +kernel
theorem dX6_count_70 : decode cX6_count 70 = .ok (.invokevirtual 167, 3) := by decide +kernel
theorem dX6_count_73 : decode cX6_count 73 = .ok (.ireturn, 1) := by decide +kernel
theorem dX6_count_74 : decode cX6_count 74 = .ok (.aload_n 0, 1) := by decide +kernel
theorem dX6_count_75 : decode cX6_count 75 = .ok (.getfield 19, 3) := by decide +kernel
theorem dX6_count_78 : decode cX6_count 78 = .ok (.getfield 143, 3) := by decide +kernel
theorem dX6_count_81 : decode cX6_count 81 = .ok (.ireturn, 1) := by decide +kernel
theorem dX6_count_82 : decode cX6_count 82 = .ok (.aload_n 0, 1) := by decide +kernel
theorem dX6_count_83 : decode cX6_count 83 = .ok (.getfield 33, 3) := by decide +kernel
theorem dX6_count_86 : decode cX6_count 86 = .ok (.getfield 177, 3) := by decide +kernel
theorem dX6_count_89 : decode cX6_count 89 = .ok (.ireturn, 1) := by decide +kernel
theorem dX6_count_90 : decode cX6_count 90 = .ok (.aload_n 0, 1) := by decide +kernel
theorem dX6_count_91 : decode cX6_count 91 = .ok (.getfield 49, 3) := by decide +kernel
theorem dX6_count_94 : decode cX6_count 94 = .ok (.getfield 203, 3) := by decide +kernel
theorem dX6_count_97 : decode cX6_count 97 = .ok (.ireturn, 1) := by decide +kernel
theorem dX6_count_98 : decode cX6_count 98 = .ok (.bipush (-2), 2) := by decide +kernel
theorem dX6_count_100 : decode cX6_count 100 = .ok (.ireturn, 1) := by decide +kernel
theorem dX6_least_0 : decode cX6_least 0 = .ok (.aload_n 0, 1) := by decide +kernel
theorem dX6_least_1 : decode cX6_least 1 = .ok (.getfield 42, 3) := by decide +kernel
theorem dX6_least_4 : decode cX6_least 4 = .ok (.bipush 18, 2) := by decide +kernel
theorem dX6_least_6 : decode cX6_least 6 = .ok (.invokevirtual 206, 3) := by decide +kernel
theorem dX6_least_9 : decode cX6_least 9 = .ok (.iconst (-1), 1) := by decide +kernel
theorem dX6_least_10 : decode cX6_least 10 = .ok (.if_icmp .ne 5, 3) := by decide +kernel
theorem dX6_least_13 : decode cX6_least 13 = .ok (.iconst (-1), 1) := by decide +kernel
theorem dX6_least_14 : decode cX6_least 14 = .ok (.ireturn, 1) := by decide +kernel
theorem dX6_least_15 : decode cX6_least 15 = .ok (.iconst 1, 1) := by decide +kernel
theorem dX6_least_16 : decode cX6_least 16 = .ok (.istore_n 1, 1) := by decide +kernel
theorem dX6_least_17 : decode cX6_least 17 = .ok (.iload_n 1, 1) := by decide +kernel
theorem dX6_least_18 : decode cX6_least 18 = .ok (.bipush 18, 2) := by decide +kernel
theorem dX6_least_20 : decode cX6_least 20 = .ok (.if_icmp .ge 23, 3) := by decide +kernel
theorem dX6_least_23 : decode cX6_least 23 = .ok (.aload_n 0, 1) := by decide +kernel
theorem dX6_least_24 : decode cX6_least 24 = .ok (.getfield 42, 3) := by decide +kernel
theorem dX6_least_27 : decode cX6_least 27 = .ok (.iload_n 1, 1) := by decide +kernel
theorem dX6_least_28 : decode cX6_least 28 = .ok (.invokevirtual 206, 3) := by decide +kernel
theorem dX6_least_31 : decode cX6_least 31 = .ok (.iconst (-1), 1) := by decide +kernel
theorem dX6_least_32 : decode cX6_least 32 = .ok (.if_icmp .eq 5, 3) := by decide +kernel
theorem dX6_least_35 : decode cX6_least 35 = .ok (.iload_n 1, 1) := by decide +kernel
theorem dX6_least_36 : decode cX6_least 36 = .ok (.ireturn, 1) := by decide +kernel
theorem dX6_least_37 : decode cX6_least 37 = .ok (.iinc 1 1, 3) := by decide +kernel
theorem dX6_least_40 : decode cX6_least 40 = .ok (.goto (-23), 3) := by decide +kernel
theorem dX6_least_43 : decode cX6_least 43 = .ok (.bipush 18, 2) := by decide +kernel
theorem dX6_least_45 : decode cX6_least 45 = .ok (.ireturn, 1) := by decide +kernel
theorem dX6_fewest_0 : decode cX6_fewest 0 = .ok (.iload_n 1, 1) := by decide +kernel
theorem dX6_fewest_1 : decode cX6_fewest 1 = .ok (.invokestatic 64, 3) := by decide +kernel
theorem dX6_fewest_4 : decode cX6_fewest 4 = .ok (.ifCond .eq 14, 3) := by decide +kernel
theorem dX6_fewest_7 : decode cX6_fewest 7 = .ok (.aload_n 0, 1) := by decide +kernel
theorem dX6_fewest_8 : decode cX6_fewest 8 = .ok (.getfield 42, 3) := by decide +kernel
theorem dX6_fewest_11 : decode cX6_fewest 11 = .ok (.iload_n 1, 1) := by decide +kernel
theorem dX6_fewest_12 : decode cX6_fewest 12 = .ok (.invokevirtual 206, 3) := by decide +kernel
theorem dX6_fewest_15 : decode cX6_fewest 15 = .ok (.goto 5, 3) := by decide +kernel
theorem dX6_fewest_18 : decode cX6_fewest 18 = .ok (.bipush (-2), 2) := by decide +kernel
theorem dX6_fewest_20 : decode cX6_fewest 20 = .ok (.ireturn, 1) := by decide +kernel
theorem dX6_plan_0 : decode cX6_plan 0 = .ok (.iload_n 1, 1) := by decide +kernel
theorem dX6_plan_1 : decode cX6_plan 1 = .ok (.invokestatic 64, 3) := by decide +kernel
theorem dX6_plan_4 : decode cX6_plan 4 = .ok (.ifCond .eq 8, 3) := by decide +kernel
theorem dX6_plan_7 : decode cX6_plan 7 = .ok (.iload_n 2, 1) := by decide +kernel
theorem dX6_plan_8 : decode cX6_plan 8 = .ok (.iconst (-1), 1) := by decide +kernel
theorem dX6_plan_9 : decode cX6_plan 9 = .ok (.if_icmp .ge 6, 3) := by decide +kernel
theorem dX6_plan_12 : decode cX6_plan 12 = .ok (.bipush (-2), 2) := by decide +kernel
theorem dX6_plan_14 : decode cX6_plan 14 = .ok (.ireturn, 1) := by decide +kernel
theorem dX6_plan_15 : decode cX6_plan 15 = .ok (.aload_n 0, 1) := by decide +kernel
theorem dX6_plan_16 : decode cX6_plan 16 = .ok (.getfield 42, 3) := by decide +kernel
theorem dX6_plan_19 : decode cX6_plan 19 = .ok (.iload_n 1, 1) := by decide +kernel
theorem dX6_plan_20 : decode cX6_plan 20 = .ok (.invokevirtual 209, 3) := by decide +kernel
theorem dX6_plan_23 : decode cX6_plan 23 = .ok (.istore_n 3, 1) := by decide +kernel
theorem dX6_plan_24 : decode cX6_plan 24 = .ok (.iload_n 2, 1) := by decide +kernel
theorem dX6_plan_25 : decode cX6_plan 25 = .ok (.iconst (-1), 1) := by decide +kernel
theorem dX6_plan_26 : decode cX6_plan 26 = .ok (.if_icmp .ne 5, 3) := by decide +kernel
theorem dX6_plan_29 : decode cX6_plan 29 = .ok (.iload_n 3, 1) := by decide +kernel
theorem dX6_plan_30 : decode cX6_plan 30 = .ok (.ireturn, 1) := by decide +kernel
theorem dX6_plan_31 : decode cX6_plan 31 = .ok (.iload_n 2, 1) := by decide +kernel
theorem dX6_plan_32 : decode cX6_plan 32 = .ok (.iload_n 3, 1) := by decide +kernel
theorem dX6_plan_33 : decode cX6_plan 33 = .ok (.if_icmp .ge 14, 3) := by decide +kernel
theorem dX6_plan_36 : decode cX6_plan 36 = .ok (.aload_n 0, 1) := by decide +kernel
theorem dX6_plan_37 : decode cX6_plan 37 = .ok (.getfield 42, 3) := by decide +kernel
theorem dX6_plan_40 : decode cX6_plan 40 = .ok (.iload_n 2, 1) := by decide +kernel
theorem dX6_plan_41 : decode cX6_plan 41 = .ok (.invokevirtual 212, 3) := by decide +kernel
theorem dX6_plan_44 : decode cX6_plan 44 = .ok (.goto 4, 3) := by decide +kernel
theorem dX6_plan_47 : decode cX6_plan 47 = .ok (.iconst (-1), 1) := by decide +kernel
theorem dX6_plan_48 : decode cX6_plan 48 = .ok (.ireturn, 1) := by decide +kernel
theorem dX6_reach_0 : decode cX6_reach 0 = .ok (.iload_n 1, 1) := by decide +kernel
theorem dX6_reach_1 : decode cX6_reach 1 = .ok (.invokestatic 64, 3) := by decide +kernel
theorem dX6_reach_4 : decode cX6_reach 4 = .ok (.ifCond .eq 14, 3) := by decide +kernel
theorem dX6_reach_7 : decode cX6_reach 7 = .ok (.aload_n 0, 1) := by decide +kernel
theorem dX6_reach_8 : decode cX6_reach 8 = .ok (.getfield 42, 3) := by decide +kernel
theorem dX6_reach_11 : decode cX6_reach 11 = .ok (.iload_n 1, 1) := by decide +kernel
theorem dX6_reach_12 : decode cX6_reach 12 = .ok (.invokevirtual 215, 3) := by decide +kernel
theorem dX6_reach_15 : decode cX6_reach 15 = .ok (.goto 5, 3) := by decide +kernel
theorem dX6_reach_18 : decode cX6_reach 18 = .ok (.bipush (-2), 2) := by decide +kernel
theorem dX6_reach_20 : decode cX6_reach 20 = .ok (.ireturn, 1) := by decide +kernel
theorem dX6_row_0 : decode cX6_row 0 = .ok (.iload_n 1, 1) := by decide +kernel
theorem dX6_row_1 : decode cX6_row 1 = .ok (.invokestatic 64, 3) := by decide +kernel
theorem dX6_row_4 : decode cX6_row 4 = .ok (.ifCond .eq 24, 3) := by decide +kernel
theorem dX6_row_7 : decode cX6_row 7 = .ok (.aload_n 0, 1) := by decide +kernel
theorem dX6_row_8 : decode cX6_row 8 = .ok (.getfield 19, 3) := by decide +kernel
theorem dX6_row_11 : decode cX6_row 11 = .ok (.invokevirtual 218, 3) := by decide +kernel
theorem dX6_row_14 : decode cX6_row 14 = .ok (.ifCond .eq 14, 3) := by decide +kernel
theorem dX6_row_17 : decode cX6_row 17 = .ok (.aload_n 0, 1) := by decide +kernel
theorem dX6_row_18 : decode cX6_row 18 = .ok (.getfield 49, 3) := by decide +kernel
theorem dX6_row_21 : decode cX6_row 21 = .ok (.iload_n 1, 1) := by decide +kernel
theorem dX6_row_22 : decode cX6_row 22 = .ok (.invokevirtual 221, 3) := by decide +kernel
theorem dX6_row_25 : decode cX6_row 25 = .ok (.goto 5, 3) := by decide +kernel
theorem dX6_row_28 : decode cX6_row 28 = .ok (.bipush (-2), 2) := by decide +kernel
theorem dX6_row_30 : decode cX6_row 30 = .ok (.ireturn, 1) := by decide +kernel
theorem dX6_bit_0 : decode cX6_bit 0 = .ok (.iload_n 1, 1) := by decide +kernel
theorem dX6_bit_1 : decode cX6_bit 1 = .ok (.invokestatic 224, 3) := by decide +kernel
theorem dX6_bit_4 : decode cX6_bit 4 = .ok (.ifCond .eq 15, 3) := by decide +kernel
theorem dX6_bit_7 : decode cX6_bit 7 = .ok (.aload_n 0, 1) := by decide +kernel
theorem dX6_bit_8 : decode cX6_bit 8 = .ok (.getfield 49, 3) := by decide +kernel
theorem dX6_bit_11 : decode cX6_bit 11 = .ok (.getfield 227, 3) := by decide +kernel
theorem dX6_bit_14 : decode cX6_bit 14 = .ok (.iload_n 1, 1) := by decide +kernel
theorem dX6_bit_15 : decode cX6_bit 15 = .ok (.baload, 1) := by decide +kernel
theorem dX6_bit_16 : decode cX6_bit 16 = .ok (.goto 5, 3) := by decide +kernel
theorem dX6_bit_19 : decode cX6_bit 19 = .ok (.bipush (-2), 2) := by decide +kernel
theorem dX6_bit_21 : decode cX6_bit 21 = .ok (.ireturn, 1) := by decide +kernel
theorem dX6_flip_0 : decode cX6_flip 0 = .ok (.iload_n 1, 1) := by decide +kernel
theorem dX6_flip_1 : decode cX6_flip 1 = .ok (.invokestatic 224, 3) := by decide +kernel
theorem dX6_flip_4 : decode cX6_flip 4 = .ok (.ifCond .eq 14, 3) := by decide +kernel
theorem dX6_flip_7 : decode cX6_flip 7 = .ok (.aload_n 0, 1) := by decide +kernel
theorem dX6_flip_8 : decode cX6_flip 8 = .ok (.getfield 49, 3) := by decide +kernel
theorem dX6_flip_11 : decode cX6_flip 11 = .ok (.iload_n 1, 1) := by decide +kernel
theorem dX6_flip_12 : decode cX6_flip 12 = .ok (.invokevirtual 231, 3) := by decide +kernel
theorem dX6_flip_15 : decode cX6_flip 15 = .ok (.goto 5, 3) := by decide +kernel
theorem dX6_flip_18 : decode cX6_flip 18 = .ok (.bipush (-2), 2) := by decide +kernel
theorem dX6_flip_20 : decode cX6_flip 20 = .ok (.ireturn, 1) := by decide +kernel
theorem dX6_check_0 : decode cX6_check 0 = .ok (.iload_n 1, 1) := by decide +kernel
theorem dX6_check_1 : decode cX6_check 1 = .ok (.invokestatic 64, 3) := by decide +kernel
theorem dX6_check_4 : decode cX6_check 4 = .ok (.ifCond .eq 24, 3) := by decide +kernel
theorem dX6_check_7 : decode cX6_check 7 = .ok (.aload_n 0, 1) := by decide +kernel
theorem dX6_check_8 : decode cX6_check 8 = .ok (.getfield 19, 3) := by decide +kernel
theorem dX6_check_11 : decode cX6_check 11 = .ok (.invokevirtual 218, 3) := by decide +kernel
theorem dX6_check_14 : decode cX6_check 14 = .ok (.ifCond .eq 14, 3) := by decide +kernel
theorem dX6_check_17 : decode cX6_check 17 = .ok (.aload_n 0, 1) := by decide +kernel
theorem dX6_check_18 : decode cX6_check 18 = .ok (.getfield 49, 3) := by decide +kernel
theorem dX6_check_21 : decode cX6_check 21 = .ok (.iload_n 1, 1) := by decide +kernel
theorem dX6_check_22 : decode cX6_check 22 = .ok (.invokevirtual 234, 3) := by decide +kernel
theorem dX6_check_25 : decode cX6_check 25 = .ok (.goto 5, 3) := by decide +kernel
theorem dX6_check_28 : decode cX6_check 28 = .ok (.bipush (-2), 2) := by decide +kernel
theorem dX6_check_30 : decode cX6_check 30 = .ok (.ireturn, 1) := by decide +kernel
theorem dX6_where_0 : decode cX6_where 0 = .ok (.aload_n 0, 1) := by decide +kernel
theorem dX6_where_1 : decode cX6_where 1 = .ok (.getfield 49, 3) := by decide +kernel
theorem dX6_where_4 : decode cX6_where 4 = .ok (.getfield 237, 3) := by decide +kernel
theorem dX6_where_7 : decode cX6_where 7 = .ok (.ireturn, 1) := by decide +kernel
theorem dX6_isVatCount_0 : decode cX6_isVatCount 0 = .ok (.iload_n 0, 1) := by decide +kernel
theorem dX6_isVatCount_1 : decode cX6_isVatCount 1 = .ok (.iconst 1, 1) := by decide +kernel
theorem dX6_isVatCount_2 : decode cX6_isVatCount 2 = .ok (.if_icmp .lt 13, 3) := by decide +kernel
theorem dX6_isVatCount_5 : decode cX6_isVatCount 5 = .ok (.iload_n 0, 1) := by decide +kernel
theorem dX6_isVatCount_6 : decode cX6_isVatCount 6 = .ok (.bipush 18, 2) := by decide +kernel
theorem dX6_isVatCount_8 : decode cX6_isVatCount 8 = .ok (.if_icmp .gt 7, 3) := by decide +kernel
theorem dX6_isVatCount_11 : decode cX6_isVatCount 11 = .ok (.iconst 1, 1) := by decide +kernel
theorem dX6_isVatCount_12 : decode cX6_isVatCount 12 = .ok (.goto 4, 3) := by decide +kernel
theorem dX6_isVatCount_15 : decode cX6_isVatCount 15 = .ok (.iconst 0, 1) := by decide +kernel
theorem dX6_isVatCount_16 : decode cX6_isVatCount 16 = .ok (.ireturn, 1) := by decide +kernel
theorem dX6_isType_0 : decode cX6_isType 0 = .ok (.iload_n 0, 1) := by decide +kernel
theorem dX6_isType_1 : decode cX6_isType 1 = .ok (.ifCond .lt 12, 3) := by decide +kernel
theorem dX6_isType_4 : decode cX6_isType 4 = .ok (.iload_n 0, 1) := by decide +kernel
theorem dX6_isType_5 : decode cX6_isType 5 = .ok (.iconst 3, 1) := by decide +kernel
theorem dX6_isType_6 : decode cX6_isType 6 = .ok (.if_icmp .ge 7, 3) := by decide +kernel
theorem dX6_isType_9 : decode cX6_isType 9 = .ok (.iconst 1, 1) := by decide +kernel
theorem dX6_isType_10 : decode cX6_isType 10 = .ok (.goto 4, 3) := by decide +kernel
theorem dX6_isType_13 : decode cX6_isType 13 = .ok (.iconst 0, 1) := by decide +kernel
theorem dX6_isType_14 : decode cX6_isType 14 = .ok (.ireturn, 1) := by decide +kernel
theorem dX6_isRowBit_0 : decode cX6_isRowBit 0 = .ok (.iload_n 0, 1) := by decide +kernel
theorem dX6_isRowBit_1 : decode cX6_isRowBit 1 = .ok (.ifCond .lt 14, 3) := by decide +kernel
theorem dX6_isRowBit_4 : decode cX6_isRowBit 4 = .ok (.iload_n 0, 1) := by decide +kernel
theorem dX6_isRowBit_5 : decode cX6_isRowBit 5 = .ok (.sipush 4096, 3) := by decide +kernel
theorem dX6_isRowBit_8 : decode cX6_isRowBit 8 = .ok (.if_icmp .ge 7, 3) := by decide +kernel
theorem dX6_isRowBit_11 : decode cX6_isRowBit 11 = .ok (.iconst 1, 1) := by decide +kernel
theorem dX6_isRowBit_12 : decode cX6_isRowBit 12 = .ok (.goto 4, 3) := by decide +kernel
theorem dX6_isRowBit_15 : decode cX6_isRowBit 15 = .ok (.iconst 0, 1) := by decide +kernel
theorem dX6_isRowBit_16 : decode cX6_isRowBit 16 = .ok (.ireturn, 1) := by decide +kernel
theorem dX6_anyStands_0 : decode cX6_anyStands 0 = .ok (.aload_n 0, 1) := by decide +kernel
theorem dX6_anyStands_1 : decode cX6_anyStands 1 = .ok (.getfield 61, 3) := by decide +kernel
theorem dX6_anyStands_4 : decode cX6_anyStands 4 = .ok (.sipush 511, 3) := by decide +kernel
theorem dX6_anyStands_7 : decode cX6_anyStands 7 = .ok (.iand, 1) := by decide +kernel
theorem dX6_anyStands_8 : decode cX6_anyStands 8 = .ok (.ifCond .eq 7, 3) := by decide +kernel
theorem dX6_anyStands_11 : decode cX6_anyStands 11 = .ok (.iconst 1, 1) := by decide +kernel
theorem dX6_anyStands_12 : decode cX6_anyStands 12 = .ok (.goto 4, 3) := by decide +kernel
theorem dX6_anyStands_15 : decode cX6_anyStands 15 = .ok (.iconst 0, 1) := by decide +kernel
theorem dX6_anyStands_16 : decode cX6_anyStands 16 = .ok (.ireturn, 1) := by decide +kernel
theorem dX6_freeVats_0 : decode cX6_freeVats 0 = .ok (.aload_n 0, 1) := by decide +kernel
theorem dX6_freeVats_1 : decode cX6_freeVats 1 = .ok (.getfield 57, 3) := by decide +kernel
theorem dX6_freeVats_4 : decode cX6_freeVats 4 = .ok (.aload_n 0, 1) := by decide +kernel
theorem dX6_freeVats_5 : decode cX6_freeVats 5 = .ok (.getfield 19, 3) := by decide +kernel
theorem dX6_freeVats_8 : decode cX6_freeVats 8 = .ok (.aload_n 0, 1) := by decide +kernel
theorem dX6_freeVats_9 : decode cX6_freeVats 9 = .ok (.getfield 61, 3) := by decide +kernel
theorem dX6_freeVats_12 : decode cX6_freeVats 12 = .ok (.invokevirtual 68, 3) := by decide +kernel
theorem dX6_freeVats_15 : decode cX6_freeVats 15 = .ok (.isub, 1) := by decide +kernel
theorem dX6_freeVats_16 : decode cX6_freeVats 16 = .ok (.ireturn, 1) := by decide +kernel
theorem dX6_recipeChanged_0 : decode cX6_recipeChanged 0 = .ok (.aload_n 0, 1) := by decide +kernel
theorem dX6_recipeChanged_1 : decode cX6_recipeChanged 1 = .ok (.getfield 19, 3) := by decide +kernel
theorem dX6_recipeChanged_4 : decode cX6_recipeChanged 4 = .ok (.iload_n 1, 1) := by decide +kernel
theorem dX6_recipeChanged_5 : decode cX6_recipeChanged 5 = .ok (.aload_n 0, 1) := by decide +kernel
theorem dX6_recipeChanged_6 : decode cX6_recipeChanged 6 = .ok (.getfield 12, 3) := by decide +kernel
theorem dX6_recipeChanged_9 : decode cX6_recipeChanged 9 = .ok (.invokevirtual 240, 3) := by decide +kernel
theorem dX6_recipeChanged_12 : decode cX6_recipeChanged 12 = .ok (.aload_n 0, 1) := by decide +kernel
theorem dX6_recipeChanged_13 : decode cX6_recipeChanged 13 = .ok (.getfield 33, 3) := by decide +kernel
theorem dX6_recipeChanged_16 : decode cX6_recipeChanged 16 = .ok (.invokevirtual 72, 3) := by decide +kernel
theorem dX6_recipeChanged_19 : decode cX6_recipeChanged 19 = .ok (.aload_n 0, 1) := by decide +kernel
theorem dX6_recipeChanged_20 : decode cX6_recipeChanged 20 = .ok (.getfield 42, 3) := by decide +kernel
theorem dX6_recipeChanged_23 : decode cX6_recipeChanged 23 = .ok (.invokevirtual 81, 3) := by decide +kernel
theorem dX6_recipeChanged_26 : decode cX6_recipeChanged 26 = .ok (.return_, 1) := by decide +kernel
end
section
theorem dX7_init_0 : decode cX7_init 0 = .ok (.aload_n 0, 1) := by decide +kernel
theorem dX7_init_1 : decode cX7_init 1 = .ok (.invokespecial 1, 3) := by decide +kernel
theorem dX7_init_4 : decode cX7_init 4 = .ok (.aload_n 0, 1) := by decide +kernel
theorem dX7_init_5 : decode cX7_init 5 = .ok (.bipush 9, 2) := by decide +kernel
theorem dX7_init_7 : decode cX7_init 7 = .ok (.newarray .int, 2) := by decide +kernel
theorem dX7_init_9 : decode cX7_init 9 = .ok (.putfield 9, 3) := by decide +kernel
theorem dX7_init_12 : decode cX7_init 12 = .ok (.aload_n 0, 1) := by decide +kernel
theorem dX7_init_13 : decode cX7_init 13 = .ok (.bipush 9, 2) := by decide +kernel
theorem dX7_init_15 : decode cX7_init 15 = .ok (.newarray .int, 2) := by decide +kernel
theorem dX7_init_17 : decode cX7_init 17 = .ok (.putfield 13, 3) := by decide +kernel
theorem dX7_init_20 : decode cX7_init 20 = .ok (.aload_n 0, 1) := by decide +kernel
theorem dX7_init_21 : decode cX7_init 21 = .ok (.bipush 9, 2) := by decide +kernel
theorem dX7_init_23 : decode cX7_init 23 = .ok (.newarray .int, 2) := by decide +kernel
theorem dX7_init_25 : decode cX7_init 25 = .ok (.putfield 16, 3) := by decide +kernel
theorem dX7_init_28 : decode cX7_init 28 = .ok (.aload_n 0, 1) := by decide +kernel
theorem dX7_init_29 : decode cX7_init 29 = .ok (.bipush 36, 2) := by decide +kernel
theorem dX7_init_31 : decode cX7_init 31 = .ok (.newarray .int, 2) := by decide +kernel
theorem dX7_init_33 : decode cX7_init 33 = .ok (.putfield 19, 3) := by decide +kernel
theorem dX7_init_36 : decode cX7_init 36 = .ok (.aload_n 0, 1) := by decide +kernel
theorem dX7_init_37 : decode cX7_init 37 = .ok (.bipush 9, 2) := by decide +kernel
theorem dX7_init_39 : decode cX7_init 39 = .ok (.newarray .int, 2) := by decide +kernel
theorem dX7_init_41 : decode cX7_init 41 = .ok (.putfield 22, 3) := by decide +kernel
theorem dX7_init_44 : decode cX7_init 44 = .ok (.aload_n 0, 1) := by decide +kernel
theorem dX7_init_45 : decode cX7_init 45 = .ok (.iconst 4, 1) := by decide +kernel
theorem dX7_init_46 : decode cX7_init 46 = .ok (.putfield 25, 3) := by decide +kernel
theorem dX7_init_49 : decode cX7_init 49 = .ok (.aload_n 0, 1) := by decide +kernel
theorem dX7_init_50 : decode cX7_init 50 = .ok (.iconst 3, 1) := by decide +kernel
theorem dX7_init_51 : decode cX7_init 51 = .ok (.newarray .int, 2) := by decide +kernel
theorem dX7_init_53 : decode cX7_init 53 = .ok (.putfield 29, 3) := by decide +kernel
theorem dX7_init_56 : decode cX7_init 56 = .ok (.aload_n 0, 1) := by decide +kernel
theorem dX7_init_57 : decode cX7_init 57 = .ok (.sipush 4096, 3) := by decide +kernel
theorem dX7_init_60 : decode cX7_init 60 = .ok (.newarray .boolean, 2) := by decide +kernel
theorem dX7_init_62 : decode cX7_init 62 = .ok (.putfield 32, 3) := by decide +kernel
theorem dX7_init_65 : decode cX7_init 65 = .ok (.aload_n 0, 1) := by decide +kernel
theorem dX7_init_66 : decode cX7_init 66 = .ok (.bipush 100, 2) := by decide +kernel
theorem dX7_init_68 : decode cX7_init 68 = .ok (.newarray .int, 2) := by decide +kernel
theorem dX7_init_70 : decode cX7_init 70 = .ok (.putfield 36, 3) := by decide +kernel
theorem dX7_init_73 : decode cX7_init 73 = .ok (.aload_n 0, 1) := by decide +kernel
theorem dX7_init_74 : decode cX7_init 74 = .ok (.bipush 100, 2) := by decide +kernel
theorem dX7_init_76 : decode cX7_init 76 = .ok (.newarray .int, 2) := by decide +kernel
theorem dX7_init_78 : decode cX7_init 78 = .ok (.putfield 39, 3) := by decide +kernel
theorem dX7_init_81 : decode cX7_init 81 = .ok (.aload_n 0, 1) := by decide +kernel
theorem dX7_init_82 : decode cX7_init 82 = .ok (.bipush 100, 2) := by decide +kernel
theorem dX7_init_84 : decode cX7_init 84 = .ok (.newarray .int, 2) := by decide +kernel
theorem dX7_init_86 : decode cX7_init 86 = .ok (.putfield 42, 3) := by decide +kernel
theorem dX7_init_89 : decode cX7_init 89 = .ok (.aload_n 0, 1) := by decide +kernel
theorem dX7_init_90 : decode cX7_init 90 = .ok (.bipush 9, 2) := by decide +kernel
theorem dX7_init_92 : decode cX7_init 92 = .ok (.newarray .int, 2) := by decide +kernel
theorem dX7_init_94 : decode cX7_init 94 = .ok (.putfield 45, 3) := by decide +kernel
theorem dX7_init_97 : decode cX7_init 97 = .ok (.aload_n 0, 1) := by decide +kernel
theorem dX7_init_98 : decode cX7_init 98 = .ok (.iconst (-1), 1) := by decide +kernel
theorem dX7_init_99 : decode cX7_init 99 = .ok (.putfield 48, 3) := by decide +kernel
theorem dX7_init_102 : decode cX7_init 102 = .ok (.aload_n 0, 1) := by decide +kernel
theorem dX7_init_103 : decode cX7_init 103 = .ok (.bipush 9, 2) := by decide +kernel
theorem dX7_init_105 : decode cX7_init 105 = .ok (.newarray .int, 2) := by decide +kernel
theorem dX7_init_107 : decode cX7_init 107 = .ok (.putfield 51, 3) := by decide +kernel
theorem dX7_init_110 : decode cX7_init 110 = .ok (.aload_n 0, 1) := by decide +kernel
theorem dX7_init_111 : decode cX7_init 111 = .ok (.ldc 54, 2) := by decide +kernel
theorem dX7_init_113 : decode cX7_init 113 = .ok (.newarray .int, 2) := by decide +kernel
theorem dX7_init_115 : decode cX7_init 115 = .ok (.putfield 55, 3) := by decide +kernel
theorem dX7_init_118 : decode cX7_init 118 = .ok (.aload_n 0, 1) := by decide +kernel
theorem dX7_init_119 : decode cX7_init 119 = .ok (.ldc 54, 2) := by decide +kernel
theorem dX7_init_121 : decode cX7_init 121 = .ok (.newarray .boolean, 2) := by decide +kernel
theorem dX7_init_123 : decode cX7_init 123 = .ok (.putfield 58, 3) := by decide +kernel
theorem dX7_init_126 : decode cX7_init 126 = .ok (.aload_n 0, 1) := by decide +kernel
theorem dX7_init_127 : decode cX7_init 127 = .ok (.ldc 54, 2) := by decide +kernel
theorem dX7_init_129 : decode cX7_init 129 = .ok (.newarray .int, 2) := by decide +kernel
theorem dX7_init_131 : decode cX7_init 131 = .ok (.putfield 61, 3) := by decide +kernel
theorem dX7_init_134 : decode cX7_init 134 = .ok (.aload_n 0, 1) := by decide +kernel
theorem dX7_init_135 : decode cX7_init 135 = .ok (.ldc 54, 2) := by decide +kernel
theorem dX7_init_137 : decode cX7_init 137 = .ok (.newarray .boolean, 2) := by decide +kernel
theorem dX7_init_139 : decode cX7_init 139 = .ok (.putfield 64, 3) := by decide +kernel
theorem dX7_init_142 : decode cX7_init 142 = .ok (.aload_n 0, 1) := by decide +kernel
theorem dX7_init_143 : decode cX7_init 143 = .ok (.ldc 54, 2) := by decide +kernel
theorem dX7_init_145 : decode cX7_init 145 = .ok (.newarray .int, 2) := by decide +kernel
theorem dX7_init_147 : decode cX7_init 147 = .ok (.putfield 67, 3) := by decide +kernel
theorem dX7_init_150 : decode cX7_init 150 = .ok (.aload_n 0, 1) := by decide +kernel
theorem dX7_init_151 : decode cX7_init 151 = .ok (.ldc 54, 2) := by decide +kernel
theorem dX7_init_153 : decode cX7_init 153 = .ok (.newarray .int, 2) := by decide +kernel
theorem dX7_init_155 : decode cX7_init 155 = .ok (.putfield 70, 3) := by decide +kernel
theorem dX7_init_158 : decode cX7_init 158 = .ok (.iconst 0, 1) := by decide +kernel
theorem dX7_init_159 : decode cX7_init 159 = .ok (.istore_n 1, 1) := by decide +kernel
theorem dX7_init_160 : decode cX7_init 160 = .ok (.iload_n 1, 1) := by decide +kernel
theorem dX7_init_161 : decode cX7_init 161 = .ok (.bipush 9, 2) := by decide +kernel
theorem dX7_init_163 : decode cX7_init 163 = .ok (.if_icmp .ge 16, 3) := by decide +kernel
theorem dX7_init_166 : decode cX7_init 166 = .ok (.aload_n 0, 1) := by decide +kernel
theorem dX7_init_167 : decode cX7_init 167 = .ok (.getfield 16, 3) := by decide +kernel
theorem dX7_init_170 : decode cX7_init 170 = .ok (.iload_n 1, 1) := by decide +kernel
theorem dX7_init_171 : decode cX7_init 171 = .ok (.iconst (-1), 1) := by decide +kernel
theorem dX7_init_172 : decode cX7_init 172 = .ok (.iastore, 1) := by decide +kernel
theorem dX7_init_173 : decode cX7_init 173 = .ok (.iinc 1 1, 3) := by decide +kernel
theorem dX7_init_176 : decode cX7_init 176 = .ok (.goto (-16), 3) := by decide +kernel
theorem dX7_init_179 : decode cX7_init 179 = .ok (.return_, 1) := by decide +kernel
theorem dX7_isBath_0 : decode cX7_isBath 0 = .ok (.iload_n 1, 1) := by decide +kernel
theorem dX7_isBath_1 : decode cX7_isBath 1 = .ok (.ifCond .lt 15, 3) := by decide +kernel
theorem dX7_isBath_4 : decode cX7_isBath 4 = .ok (.iload_n 1, 1) := by decide +kernel
theorem dX7_isBath_5 : decode cX7_isBath 5 = .ok (.aload_n 0, 1) := by decide +kernel
theorem dX7_isBath_6 : decode cX7_isBath 6 = .ok (.getfield 73, 3) := by decide +kernel
theorem dX7_isBath_9 : decode cX7_isBath 9 = .ok (.if_icmp .ge 7, 3) := by decide +kernel
theorem dX7_isBath_12 : decode cX7_isBath 12 = .ok (.iconst 1, 1) := by decide +kernel
theorem dX7_isBath_13 : decode cX7_isBath 13 = .ok (.goto 4, 3) := by decide +kernel
theorem dX7_isBath_16 : decode cX7_isBath 16 = .ok (.iconst 0, 1) := by decide +kernel
theorem dX7_isBath_17 : decode cX7_isBath 17 = .ok (.ireturn, 1) := by decide +kernel
theorem dX7_has_0 : decode cX7_has 0 = .ok (.iload_n 0, 1) := by decide +kernel
theorem dX7_has_1 : decode cX7_has 1 = .ok (.iload_n 1, 1) := by decide +kernel
theorem dX7_has_2 : decode cX7_has 2 = .ok (.ishr, 1) := by decide +kernel
theorem dX7_has_3 : decode cX7_has 3 = .ok (.iconst 1, 1) := by decide +kernel
theorem dX7_has_4 : decode cX7_has 4 = .ok (.iand, 1) := by decide +kernel
theorem dX7_has_5 : decode cX7_has 5 = .ok (.iconst 1, 1) := by decide +kernel
theorem dX7_has_6 : decode cX7_has 6 = .ok (.if_icmp .ne 7, 3) := by decide +kernel
theorem dX7_has_9 : decode cX7_has 9 = .ok (.iconst 1, 1) := by decide +kernel
theorem dX7_has_10 : decode cX7_has 10 = .ok (.goto 4, 3) := by decide +kernel
theorem dX7_has_13 : decode cX7_has 13 = .ok (.iconst 0, 1) := by decide +kernel
theorem dX7_has_14 : decode cX7_has 14 = .ok (.ireturn, 1) := by decide +kernel
theorem dX7_fills_0 : decode cX7_fills 0 = .ok (.iload_n 1, 1) := by decide +kernel
theorem dX7_fills_1 : decode cX7_fills 1 = .ok (.iload_n 3, 1) := by decide +kernel
theorem dX7_fills_2 : decode cX7_fills 2 = .ok (.invokestatic 76, 3) := by decide +kernel
theorem dX7_fills_5 : decode cX7_fills 5 = .ok (.ifCond .ne 7, 3) := by decide +kernel
theorem dX7_fills_8 : decode cX7_fills 8 = .ok (.iconst 0, 1) := by decide +kernel
theorem dX7_fills_9 : decode cX7_fills 9 = .ok (.goto 25, 3) := by decide +kernel
theorem dX7_fills_12 : decode cX7_fills 12 = .ok (.aload_n 0, 1) := by decide +kernel
theorem dX7_fills_13 : decode cX7_fills 13 = .ok (.getfield 9, 3) := by decide +kernel
theorem dX7_fills_16 : decode cX7_fills 16 = .ok (.iload_n 3, 1) := by decide +kernel
theorem dX7_fills_17 : decode cX7_fills 17 = .ok (.iaload, 1) := by decide +kernel
theorem dX7_fills_18 : decode cX7_fills 18 = .ok (.iconst 2, 1) := by decide +kernel
theorem dX7_fills_19 : decode cX7_fills 19 = .ok (.if_icmp .eq 10, 3) := by decide +kernel
theorem dX7_fills_22 : decode cX7_fills 22 = .ok (.iload_n 2, 1) := by decide +kernel
theorem dX7_fills_23 : decode cX7_fills 23 = .ok (.iload_n 3, 1) := by decide +kernel
theorem dX7_fills_24 : decode cX7_fills 24 = .ok (.iconst 1, 1) := by decide +kernel
theorem dX7_fills_25 : decode cX7_fills 25 = .ok (.iadd, 1) := by decide +kernel
theorem dX7_fills_26 : decode cX7_fills 26 = .ok (.if_icmp .ne 7, 3) := by decide +kernel
theorem dX7_fills_29 : decode cX7_fills 29 = .ok (.iconst 2, 1) := by decide +kernel
theorem dX7_fills_30 : decode cX7_fills 30 = .ok (.goto 4, 3) := by decide +kernel
theorem dX7_fills_33 : decode cX7_fills 33 = .ok (.iconst 1, 1) := by decide +kernel
theorem dX7_fills_34 : decode cX7_fills 34 = .ok (.ireturn, 1) := by decide +kernel
theorem dX7_filled_0 : decode cX7_filled 0 = .ok (.iconst 0, 1) := by decide +kernel
theorem dX7_filled_1 : decode cX7_filled 1 = .ok (.istore_n 3, 1) := by decide +kernel
theorem dX7_filled_2 : decode cX7_filled 2 = .ok (.iconst 0, 1) := by decide +kernel
theorem dX7_filled_3 : decode cX7_filled 3 = .ok (.istore 4, 2) := by decide +kernel
theorem dX7_filled_5 : decode cX7_filled 5 = .ok (.iload 4, 2) := by decide +kernel
theorem dX7_filled_7 : decode cX7_filled 7 = .ok (.bipush 9, 2) := by decide +kernel
theorem dX7_filled_9 : decode cX7_filled 9 = .ok (.if_icmp .ge 20, 3) := by decide +kernel
theorem dX7_filled_12 : decode cX7_filled 12 = .ok (.iload_n 3, 1) := by decide +kernel
theorem dX7_filled_13 : decode cX7_filled 13 = .ok (.aload_n 0, 1) := by decide +kernel
theorem dX7_filled_14 : decode cX7_filled 14 = .ok (.iload_n 1, 1) := by decide +kernel
theorem dX7_filled_15 : decode cX7_filled 15 = .ok (.iload_n 2, 1) := by decide +kernel
theorem dX7_filled_16 : decode cX7_filled 16 = .ok (.iload 4, 2) := by decide +kernel
theorem dX7_filled_18 : decode cX7_filled 18 = .ok (.invokevirtual 80, 3) := by decide +kernel
theorem dX7_filled_21 : decode cX7_filled 21 = .ok (.iadd, 1) := by decide +kernel
theorem dX7_filled_22 : decode cX7_filled 22 = .ok (.istore_n 3, 1) := by decide +kernel
theorem dX7_filled_23 : decode cX7_filled 23 = .ok (.iinc 4 1, 3) := by decide +kernel
theorem dX7_filled_26 : decode cX7_filled 26 = .ok (.goto (-21), 3) := by decide +kernel
theorem dX7_filled_29 : decode cX7_filled 29 = .ok (.iload_n 3, 1) := by decide +kernel
theorem dX7_filled_30 : decode cX7_filled 30 = .ok (.ireturn, 1) := by decide +kernel
theorem dX7_used_0 : decode cX7_used 0 = .ok (.aload_n 0, 1) := by decide +kernel
theorem dX7_used_1 : decode cX7_used 1 = .ok (.getfield 9, 3) := by decide +kernel
theorem dX7_used_4 : decode cX7_used 4 = .ok (.iload_n 1, 1) := by decide +kernel
theorem dX7_used_5 : decode cX7_used 5 = .ok (.iaload, 1) := by decide +kernel
theorem dX7_used_6 : decode cX7_used 6 = .ok (.iconst 1, 1) := by decide +kernel
theorem dX7_used_7 : decode cX7_used 7 = .ok (.if_icmp .eq 15, 3) := by decide +kernel
theorem dX7_used_10 : decode cX7_used 10 = .ok (.aload_n 0, 1) := by decide +kernel
theorem dX7_used_11 : decode cX7_used 11 = .ok (.getfield 9, 3) := by decide +kernel
theorem dX7_used_14 : decode cX7_used 14 = .ok (.iload_n 1, 1) := by decide +kernel
theorem dX7_used_15 : decode cX7_used 15 = .ok (.iaload, 1) := by decide +kernel
theorem dX7_used_16 : decode cX7_used 16 = .ok (.iconst 3, 1) := by decide +kernel
theorem dX7_used_17 : decode cX7_used 17 = .ok (.if_icmp .eq 5, 3) := by decide +kernel
theorem dX7_used_20 : decode cX7_used 20 = .ok (.iconst (-1), 1) := by decide +kernel
theorem dX7_used_21 : decode cX7_used 21 = .ok (.ireturn, 1) := by decide +kernel
theorem dX7_used_22 : decode cX7_used 22 = .ok (.iconst 0, 1) := by decide +kernel
theorem dX7_used_23 : decode cX7_used 23 = .ok (.istore_n 2, 1) := by decide +kernel
theorem dX7_used_24 : decode cX7_used 24 = .ok (.iload_n 2, 1) := by decide +kernel
theorem dX7_used_25 : decode cX7_used 25 = .ok (.aload_n 0, 1) := by decide +kernel
theorem dX7_used_26 : decode cX7_used 26 = .ok (.getfield 16, 3) := by decide +kernel
theorem dX7_used_29 : decode cX7_used 29 = .ok (.iload_n 1, 1) := by decide +kernel
theorem dX7_used_30 : decode cX7_used 30 = .ok (.iaload, 1) := by decide +kernel
theorem dX7_used_31 : decode cX7_used 31 = .ok (.if_icmp .ge 33, 3) := by decide +kernel
theorem dX7_used_34 : decode cX7_used 34 = .ok (.aload_n 0, 1) := by decide +kernel
theorem dX7_used_35 : decode cX7_used 35 = .ok (.getfield 19, 3) := by decide +kernel
theorem dX7_used_38 : decode cX7_used 38 = .ok (.iconst 4, 1) := by decide +kernel
theorem dX7_used_39 : decode cX7_used 39 = .ok (.iload_n 1, 1) := by decide +kernel
theorem dX7_used_40 : decode cX7_used 40 = .ok (.imul, 1) := by decide +kernel
theorem dX7_used_41 : decode cX7_used 41 = .ok (.iload_n 2, 1) := by decide +kernel
theorem dX7_used_42 : decode cX7_used 42 = .ok (.iadd, 1) := by decide +kernel
theorem dX7_used_43 : decode cX7_used 43 = .ok (.iaload, 1) := by decide +kernel
theorem dX7_used_44 : decode cX7_used 44 = .ok (.ifCond .lt 14, 3) := by decide +kernel
theorem dX7_used_47 : decode cX7_used 47 = .ok (.aload_n 0, 1) := by decide +kernel
theorem dX7_used_48 : decode cX7_used 48 = .ok (.getfield 19, 3) := by decide +kernel
theorem dX7_used_51 : decode cX7_used 51 = .ok (.iconst 4, 1) := by decide +kernel
theorem dX7_used_52 : decode cX7_used 52 = .ok (.iload_n 1, 1) := by decide +kernel
theorem dX7_used_53 : decode cX7_used 53 = .ok (.imul, 1) := by decide +kernel
theorem dX7_used_54 : decode cX7_used 54 = .ok (.iload_n 2, 1) := by decide +kernel
theorem dX7_used_55 : decode cX7_used 55 = .ok (.iadd, 1) := by decide +kernel
theorem dX7_used_56 : decode cX7_used 56 = .ok (.iaload, 1) := by decide +kernel
theorem dX7_used_57 : decode cX7_used 57 = .ok (.ireturn, 1) := by decide +kernel
theorem dX7_used_58 : decode cX7_used 58 = .ok (.iinc 2 1, 3) := by decide +kernel
theorem dX7_used_61 : decode cX7_used 61 = .ok (.goto (-37), 3) := by decide +kernel
theorem dX7_used_64 : decode cX7_used 64 = .ok (.iconst (-1), 1) := by decide +kernel
theorem dX7_used_65 : decode cX7_used 65 = .ok (.ireturn, 1) := by decide +kernel
theorem dX7_reason_0 : decode cX7_reason 0 = .ok (.aload_n 0, 1) := by decide +kernel
theorem dX7_reason_1 : decode cX7_reason 1 = .ok (.getfield 16, 3) := by decide +kernel
theorem dX7_reason_4 : decode cX7_reason 4 = .ok (.iload_n 3, 1) := by decide +kernel
theorem dX7_reason_5 : decode cX7_reason 5 = .ok (.iaload, 1) := by decide +kernel
theorem dX7_reason_6 : decode cX7_reason 6 = .ok (.ifCond .ge 5, 3) := by decide +kernel
theorem dX7_reason_9 : decode cX7_reason 9 = .ok (.iconst 1, 1) := by decide +kernel
theorem dX7_reason_10 : decode cX7_reason 10 = .ok (.ireturn, 1) := by decide +kernel
theorem dX7_reason_11 : decode cX7_reason 11 = .ok (.iload_n 1, 1) := by decide +kernel
theorem dX7_reason_12 : decode cX7_reason 12 = .ok (.iload_n 3, 1) := by decide +kernel
theorem dX7_reason_13 : decode cX7_reason 13 = .ok (.invokestatic 76, 3) := by decide +kernel
theorem dX7_reason_16 : decode cX7_reason 16 = .ok (.ifCond .eq 5, 3) := by decide +kernel
theorem dX7_reason_19 : decode cX7_reason 19 = .ok (.iconst 2, 1) := by decide +kernel
theorem dX7_reason_20 : decode cX7_reason 20 = .ok (.ireturn, 1) := by decide +kernel
theorem dX7_reason_21 : decode cX7_reason 21 = .ok (.iconst 0, 1) := by decide +kernel
theorem dX7_reason_22 : decode cX7_reason 22 = .ok (.istore 5, 2) := by decide +kernel
theorem dX7_reason_24 : decode cX7_reason 24 = .ok (.iload 5, 2) := by decide +kernel
theorem dX7_reason_26 : decode cX7_reason 26 = .ok (.aload_n 0, 1) := by decide +kernel
theorem dX7_reason_27 : decode cX7_reason 27 = .ok (.getfield 16, 3) := by decide +kernel
theorem dX7_reason_30 : decode cX7_reason 30 = .ok (.iload_n 3, 1) := by decide +kernel
theorem dX7_reason_31 : decode cX7_reason 31 = .ok (.iaload, 1) := by decide +kernel
theorem dX7_reason_32 : decode cX7_reason 32 = .ok (.if_icmp .ge 38, 3) := by decide +kernel
theorem dX7_reason_35 : decode cX7_reason 35 = .ok (.aload_n 0, 1) := by decide +kernel
theorem dX7_reason_36 : decode cX7_reason 36 = .ok (.getfield 19, 3) := by decide +kernel
theorem dX7_reason_39 : decode cX7_reason 39 = .ok (.iconst 4, 1) := by decide +kernel
theorem dX7_reason_40 : decode cX7_reason 40 = .ok (.iload_n 3, 1) := by decide +kernel
theorem dX7_reason_41 : decode cX7_reason 41 = .ok (.imul, 1) := by decide +kernel
theorem dX7_reason_42 : decode cX7_reason 42 = .ok (.iload 5, 2) := by decide +kernel
theorem dX7_reason_44 : decode cX7_reason 44 = .ok (.iadd, 1) := by decide +kernel
theorem dX7_reason_45 : decode cX7_reason 45 = .ok (.iaload, 1) := by decide +kernel
theorem dX7_reason_46 : decode cX7_reason 46 = .ok (.istore 6, 2) := by decide +kernel
theorem dX7_reason_48 : decode cX7_reason 48 = .ok (.iload 6, 2) := by decide +kernel
theorem dX7_reason_50 : decode cX7_reason 50 = .ok (.ifCond .lt 14, 3) := by decide +kernel
theorem dX7_reason_53 : decode cX7_reason 53 = .ok (.iload_n 1, 1) := by decide +kernel
theorem dX7_reason_54 : decode cX7_reason 54 = .ok (.iload 6, 2) := by decide +kernel
theorem dX7_reason_56 : decode cX7_reason 56 = .ok (.invokestatic 76, 3) := by decide +kernel
theorem dX7_reason_59 : decode cX7_reason 59 = .ok (.ifCond .ne 5, 3) := by decide +kernel
theorem dX7_reason_62 : decode cX7_reason 62 = .ok (.iconst 3, 1) := by decide +kernel
theorem dX7_reason_63 : decode cX7_reason 63 = .ok (.ireturn, 1) := by decide +kernel
theorem dX7_reason_64 : decode cX7_reason 64 = .ok (.iinc 5 1, 3) := by decide +kernel
theorem dX7_reason_67 : decode cX7_reason 67 = .ok (.goto (-43), 3) := by decide +kernel
theorem dX7_reason_70 : decode cX7_reason 70 = .ok (.aload_n 0, 1) := by decide +kernel
theorem dX7_reason_71 : decode cX7_reason 71 = .ok (.iload_n 3, 1) := by decide +kernel
theorem dX7_reason_72 : decode cX7_reason 72 = .ok (.invokevirtual 84, 3) := by decide +kernel
theorem dX7_reason_75 : decode cX7_reason 75 = .ok (.istore 5, 2) := by decide +kernel
theorem dX7_reason_77 : decode cX7_reason 77 = .ok (.iconst 0, 1) := by decide +kernel
theorem dX7_reason_78 : decode cX7_reason 78 = .ok (.istore 6, 2) := by decide +kernel
theorem dX7_reason_80 : decode cX7_reason 80 = .ok (.iload 6, 2) := by decide +kernel
theorem dX7_reason_82 : decode cX7_reason 82 = .ok (.aload_n 0, 1) := by decide +kernel
theorem dX7_reason_83 : decode cX7_reason 83 = .ok (.getfield 73, 3) := by decide +kernel
theorem dX7_reason_86 : decode cX7_reason 86 = .ok (.if_icmp .ge 48, 3) := by decide +kernel
theorem dX7_reason_89 : decode cX7_reason 89 = .ok (.aload_n 0, 1) := by decide +kernel
theorem dX7_reason_90 : decode cX7_reason 90 = .ok (.getfield 9, 3) := by decide +kernel
theorem dX7_reason_93 : decode cX7_reason 93 = .ok (.iload_n 3, 1) := by decide +kernel
theorem dX7_reason_94 : decode cX7_reason 94 = .ok (.iaload, 1) := by decide +kernel
theorem dX7_reason_95 : decode cX7_reason 95 = .ok (.iconst 3, 1) := by decide +kernel
theorem dX7_reason_96 : decode cX7_reason 96 = .ok (.if_icmp .ne 32, 3) := by decide +kernel
theorem dX7_reason_99 : decode cX7_reason 99 = .ok (.aload_n 0, 1) := by decide +kernel
theorem dX7_reason_100 : decode cX7_reason 100 = .ok (.getfield 9, 3) := by decide +kernel
theorem dX7_reason_103 : decode cX7_reason 103 = .ok (.iload 6, 2) := by decide +kernel
theorem dX7_reason_105 : decode cX7_reason 105 = .ok (.iaload, 1) := by decide +kernel
theorem dX7_reason_106 : decode cX7_reason 106 = .ok (.iconst 3, 1) := by decide +kernel
theorem dX7_reason_107 : decode cX7_reason 107 = .ok (.if_icmp .ne 21, 3) := by decide +kernel
theorem dX7_reason_110 : decode cX7_reason 110 = .ok (.iload_n 1, 1) := by decide +kernel
theorem dX7_reason_111 : decode cX7_reason 111 = .ok (.iload 6, 2) := by decide +kernel
theorem dX7_reason_113 : decode cX7_reason 113 = .ok (.invokestatic 76, 3) := by decide +kernel
theorem dX7_reason_116 : decode cX7_reason 116 = .ok (.ifCond .eq 12, 3) := by decide +kernel
theorem dX7_reason_119 : decode cX7_reason 119 = .ok (.iload 6, 2) := by decide +kernel
theorem dX7_reason_121 : decode cX7_reason 121 = .ok (.iload 5, 2) := by decide +kernel
theorem dX7_reason_123 : decode cX7_reason 123 = .ok (.if_icmp .eq 5, 3) := by decide +kernel
theorem dX7_reason_126 : decode cX7_reason 126 = .ok (.iconst 4, 1) := by decide +kernel
theorem dX7_reason_127 : decode cX7_reason 127 = .ok (.ireturn, 1) := by decide +kernel
theorem dX7_reason_128 : decode cX7_reason 128 = .ok (.iinc 6 1, 3) := by decide +kernel
theorem dX7_reason_131 : decode cX7_reason 131 = .ok (.goto (-51), 3) := by decide +kernel
theorem dX7_reason_134 : decode cX7_reason 134 = .ok (.iload 4, 2) := by decide +kernel
theorem dX7_reason_136 : decode cX7_reason 136 = .ok (.aload_n 0, 1) := by decide +kernel
theorem dX7_reason_137 : decode cX7_reason 137 = .ok (.iload_n 1, 1) := by decide +kernel
theorem dX7_reason_138 : decode cX7_reason 138 = .ok (.iload_n 2, 1) := by decide +kernel
theorem dX7_reason_139 : decode cX7_reason 139 = .ok (.invokevirtual 88, 3) := by decide +kernel
theorem dX7_reason_142 : decode cX7_reason 142 = .ok (.isub, 1) := by decide +kernel
theorem dX7_reason_143 : decode cX7_reason 143 = .ok (.iload 5, 2) := by decide +kernel
theorem dX7_reason_145 : decode cX7_reason 145 = .ok (.ifCond .ge 7, 3) := by decide +kernel
theorem dX7_reason_148 : decode cX7_reason 148 = .ok (.iconst 0, 1) := by decide +kernel
theorem dX7_reason_149 : decode cX7_reason 149 = .ok (.goto 11, 3) := by decide +kernel
theorem dX7_reason_152 : decode cX7_reason 152 = .ok (.aload_n 0, 1) := by decide +kernel
theorem dX7_reason_153 : decode cX7_reason 153 = .ok (.iload_n 1, 1) := by decide +kernel
theorem dX7_reason_154 : decode cX7_reason 154 = .ok (.iload_n 2, 1) := by decide +kernel
theorem dX7_reason_155 : decode cX7_reason 155 = .ok (.iload 5, 2) := by decide +kernel
theorem dX7_reason_157 : decode cX7_reason 157 = .ok (.invokevirtual 80, 3) := by decide +kernel
theorem dX7_reason_160 : decode cX7_reason 160 = .ok (.iadd, 1) := by decide +kernel
theorem dX7_reason_161 : decode cX7_reason 161 = .ok (.istore 6, 2) := by decide +kernel
theorem dX7_reason_163 : decode cX7_reason 163 = .ok (.iload 6, 2) := by decide +kernel
theorem dX7_reason_165 : decode cX7_reason 165 = .ok (.aload_n 0, 1) := by decide +kernel
theorem dX7_reason_166 : decode cX7_reason 166 = .ok (.getfield 9, 3) := by decide +kernel
theorem dX7_reason_169 : decode cX7_reason 169 = .ok (.iload_n 3, 1) := by decide +kernel
theorem dX7_reason_170 : decode cX7_reason 170 = .ok (.iaload, 1) := by decide +kernel
theorem dX7_reason_171 : decode cX7_reason 171 = .ok (.iconst 2, 1) := by decide +kernel
theorem dX7_reason_172 : decode cX7_reason 172 = .ok (.if_icmp .eq 13, 3) := by decide +kernel
theorem dX7_reason_175 : decode cX7_reason 175 = .ok (.aload_n 0, 1) := by decide +kernel
theorem dX7_reason_176 : decode cX7_reason 176 = .ok (.getfield 9, 3) := by decide +kernel
theorem dX7_reason_179 : decode cX7_reason 179 = .ok (.iload_n 3, 1) := by decide +kernel
theorem dX7_reason_180 : decode cX7_reason 180 = .ok (.iaload, 1) := by decide +kernel
theorem dX7_reason_181 : decode cX7_reason 181 = .ok (.iconst 4, 1) := by decide +kernel
theorem dX7_reason_182 : decode cX7_reason 182 = .ok (.if_icmp .ne 7, 3) := by decide +kernel
theorem dX7_reason_185 : decode cX7_reason 185 = .ok (.iconst 2, 1) := by decide +kernel
theorem dX7_reason_186 : decode cX7_reason 186 = .ok (.goto 4, 3) := by decide +kernel
theorem dX7_reason_189 : decode cX7_reason 189 = .ok (.iconst 1, 1) := by decide +kernel
theorem dX7_reason_190 : decode cX7_reason 190 = .ok (.if_icmp .ge 7, 3) := by decide +kernel
theorem dX7_reason_193 : decode cX7_reason 193 = .ok (.iconst 5, 1) := by decide +kernel
theorem dX7_reason_194 : decode cX7_reason 194 = .ok (.goto 4, 3) := by decide +kernel
theorem dX7_reason_197 : decode cX7_reason 197 = .ok (.iconst 0, 1) := by decide +kernel
theorem dX7_reason_198 : decode cX7_reason 198 = .ok (.ireturn, 1) := by decide +kernel
theorem dX7_standsBehind_0 : decode cX7_standsBehind 0 = .ok (.aload_n 0, 1) := by decide +kernel
theorem dX7_standsBehind_1 : decode cX7_standsBehind 1 = .ok (.iload_n 2, 1) := by decide +kernel
theorem dX7_standsBehind_2 : decode cX7_standsBehind 2 = .ok (.invokevirtual 84, 3) := by decide +kernel
theorem dX7_standsBehind_5 : decode cX7_standsBehind 5 = .ok (.istore_n 3, 1) := by decide +kernel
theorem dX7_standsBehind_6 : decode cX7_standsBehind 6 = .ok (.iload_n 3, 1) := by decide +kernel
theorem dX7_standsBehind_7 : decode cX7_standsBehind 7 = .ok (.ifCond .ge 7, 3) := by decide +kernel
theorem dX7_standsBehind_10 : decode cX7_standsBehind 10 = .ok (.iload_n 1, 1) := by decide +kernel
theorem dX7_standsBehind_11 : decode cX7_standsBehind 11 = .ok (.goto 10, 3) := by decide +kernel
theorem dX7_standsBehind_14 : decode cX7_standsBehind 14 = .ok (.iload_n 1, 1) := by decide +kernel
theorem dX7_standsBehind_15 : decode cX7_standsBehind 15 = .ok (.iconst 1, 1) := by decide +kernel
theorem dX7_standsBehind_16 : decode cX7_standsBehind 16 = .ok (.iload_n 3, 1) := by decide +kernel
theorem dX7_standsBehind_17 : decode cX7_standsBehind 17 = .ok (.ishl, 1) := by decide +kernel
theorem dX7_standsBehind_18 : decode cX7_standsBehind 18 = .ok (.iconst (-1), 1) := by decide +kernel
theorem dX7_standsBehind_19 : decode cX7_standsBehind 19 = .ok (.ixor, 1) := by decide +kernel
theorem dX7_standsBehind_20 : decode cX7_standsBehind 20 = .ok (.iand, 1) := by decide +kernel
theorem dX7_standsBehind_21 : decode cX7_standsBehind 21 = .ok (.iconst 1, 1) := by decide +kernel
theorem dX7_standsBehind_22 : decode cX7_standsBehind 22 = .ok (.iload_n 2, 1) := by decide +kernel
theorem dX7_standsBehind_23 : decode cX7_standsBehind 23 = .ok (.ishl, 1) := by decide +kernel
theorem dX7_standsBehind_24 : decode cX7_standsBehind 24 = .ok (.ior, 1) := by decide +kernel
theorem dX7_standsBehind_25 : decode cX7_standsBehind 25 = .ok (.ireturn, 1) := by decide +kernel
theorem dX7_freshBehind_0 : decode cX7_freshBehind 0 = .ok (.aload_n 0, 1) := by decide +kernel
theorem dX7_freshBehind_1 : decode cX7_freshBehind 1 = .ok (.getfield 9, 3) := by decide +kernel
theorem dX7_freshBehind_4 : decode cX7_freshBehind 4 = .ok (.iload_n 1, 1) := by decide +kernel
theorem dX7_freshBehind_5 : decode cX7_freshBehind 5 = .ok (.iaload, 1) := by decide +kernel
theorem dX7_freshBehind_6 : decode cX7_freshBehind 6 = .ok (.iconst 4, 1) := by decide +kernel
theorem dX7_freshBehind_7 : decode cX7_freshBehind 7 = .ok (.if_icmp .ne 9, 3) := by decide +kernel
theorem dX7_freshBehind_10 : decode cX7_freshBehind 10 = .ok (.iload_n 1, 1) := by decide +kernel
theorem dX7_freshBehind_11 : decode cX7_freshBehind 11 = .ok (.iconst 1, 1) := by decide +kernel
theorem dX7_freshBehind_12 : decode cX7_freshBehind 12 = .ok (.iadd, 1) := by decide +kernel
theorem dX7_freshBehind_13 : decode cX7_freshBehind 13 = .ok (.goto 4, 3) := by decide +kernel
theorem dX7_freshBehind_16 : decode cX7_freshBehind 16 = .ok (.iconst 0, 1) := by decide +kernel
theorem dX7_freshBehind_17 : decode cX7_freshBehind 17 = .ok (.ireturn, 1) := by decide +kernel
theorem dX7_freshPoured_0 : decode cX7_freshPoured 0 = .ok (.iload_n 0, 1) := by decide +kernel
theorem dX7_freshPoured_1 : decode cX7_freshPoured 1 = .ok (.iload_n 1, 1) := by decide +kernel
theorem dX7_freshPoured_2 : decode cX7_freshPoured 2 = .ok (.iconst 1, 1) := by decide +kernel
theorem dX7_freshPoured_3 : decode cX7_freshPoured 3 = .ok (.iadd, 1) := by decide +kernel
theorem dX7_freshPoured_4 : decode cX7_freshPoured 4 = .ok (.if_icmp .ne 7, 3) := by decide +kernel
theorem dX7_freshPoured_7 : decode cX7_freshPoured 7 = .ok (.iconst 0, 1) := by decide +kernel
theorem dX7_freshPoured_8 : decode cX7_freshPoured 8 = .ok (.goto 4, 3) := by decide +kernel
theorem dX7_freshPoured_11 : decode cX7_freshPoured 11 = .ok (.iload_n 0, 1) := by decide +kernel
theorem dX7_freshPoured_12 : decode cX7_freshPoured 12 = .ok (.ireturn, 1) := by decide +kernel
theorem dX7_keep_0 : decode cX7_keep 0 = .ok (.aload_n 0, 1) := by decide +kernel
theorem dX7_keep_1 : decode cX7_keep 1 = .ok (.getfield 92, 3) := by decide +kernel
theorem dX7_keep_4 : decode cX7_keep 4 = .ok (.bipush 100, 2) := by decide +kernel
theorem dX7_keep_6 : decode cX7_keep 6 = .ok (.if_icmp .ne 69, 3) := by decide +kernel
theorem dX7_keep_9 : decode cX7_keep 9 = .ok (.iconst 1, 1) := by decide +kernel
theorem dX7_keep_10 : decode cX7_keep 10 = .ok (.istore_n 2, 1) := by decide +kernel
theorem dX7_keep_11 : decode cX7_keep 11 = .ok (.iload_n 2, 1) := by decide +kernel
theorem dX7_keep_12 : decode cX7_keep 12 = .ok (.bipush 100, 2) := by decide +kernel
theorem dX7_keep_14 : decode cX7_keep 14 = .ok (.if_icmp .ge 51, 3) := by decide +kernel
theorem dX7_keep_17 : decode cX7_keep 17 = .ok (.aload_n 0, 1) := by decide +kernel
theorem dX7_keep_18 : decode cX7_keep 18 = .ok (.getfield 36, 3) := by decide +kernel
theorem dX7_keep_21 : decode cX7_keep 21 = .ok (.iload_n 2, 1) := by decide +kernel
theorem dX7_keep_22 : decode cX7_keep 22 = .ok (.iconst 1, 1) := by decide +kernel
theorem dX7_keep_23 : decode cX7_keep 23 = .ok (.isub, 1) := by decide +kernel
theorem dX7_keep_24 : decode cX7_keep 24 = .ok (.aload_n 0, 1) := by decide +kernel
theorem dX7_keep_25 : decode cX7_keep 25 = .ok (.getfield 36, 3) := by decide +kernel
theorem dX7_keep_28 : decode cX7_keep 28 = .ok (.iload_n 2, 1) := by decide +kernel
theorem dX7_keep_29 : decode cX7_keep 29 = .ok (.iaload, 1) := by decide +kernel
theorem dX7_keep_30 : decode cX7_keep 30 = .ok (.iastore, 1) := by decide +kernel
theorem dX7_keep_31 : decode cX7_keep 31 = .ok (.aload_n 0, 1) := by decide +kernel
theorem dX7_keep_32 : decode cX7_keep 32 = .ok (.getfield 39, 3) := by decide +kernel
theorem dX7_keep_35 : decode cX7_keep 35 = .ok (.iload_n 2, 1) := by decide +kernel
theorem dX7_keep_36 : decode cX7_keep 36 = .ok (.iconst 1, 1) := by decide +kernel
theorem dX7_keep_37 : decode cX7_keep 37 = .ok (.isub, 1) := by decide +kernel
theorem dX7_keep_38 : decode cX7_keep 38 = .ok (.aload_n 0, 1) := by decide +kernel
theorem dX7_keep_39 : decode cX7_keep 39 = .ok (.getfield 39, 3) := by decide +kernel
theorem dX7_keep_42 : decode cX7_keep 42 = .ok (.iload_n 2, 1) := by decide +kernel
theorem dX7_keep_43 : decode cX7_keep 43 = .ok (.iaload, 1) := by decide +kernel
theorem dX7_keep_44 : decode cX7_keep 44 = .ok (.iastore, 1) := by decide +kernel
theorem dX7_keep_45 : decode cX7_keep 45 = .ok (.aload_n 0, 1) := by decide +kernel
theorem dX7_keep_46 : decode cX7_keep 46 = .ok (.getfield 42, 3) := by decide +kernel
theorem dX7_keep_49 : decode cX7_keep 49 = .ok (.iload_n 2, 1) := by decide +kernel
theorem dX7_keep_50 : decode cX7_keep 50 = .ok (.iconst 1, 1) := by decide +kernel
theorem dX7_keep_51 : decode cX7_keep 51 = .ok (.isub, 1) := by decide +kernel
theorem dX7_keep_52 : decode cX7_keep 52 = .ok (.aload_n 0, 1) := by decide +kernel
theorem dX7_keep_53 : decode cX7_keep 53 = .ok (.getfield 42, 3) := by decide +kernel
theorem dX7_keep_56 : decode cX7_keep 56 = .ok (.iload_n 2, 1) := by decide +kernel
theorem dX7_keep_57 : decode cX7_keep 57 = .ok (.iaload, 1) := by decide +kernel
theorem dX7_keep_58 : decode cX7_keep 58 = .ok (.iastore, 1) := by decide +kernel
theorem dX7_keep_59 : decode cX7_keep 59 = .ok (.iinc 2 1, 3) := by decide +kernel
theorem dX7_keep_62 : decode cX7_keep 62 = .ok (.goto (-51), 3) := by decide +kernel
theorem dX7_keep_65 : decode cX7_keep 65 = .ok (.aload_n 0, 1) := by decide +kernel
theorem dX7_keep_66 : decode cX7_keep 66 = .ok (.dup, 1) := by decide +kernel
theorem dX7_keep_67 : decode cX7_keep 67 = .ok (.getfield 92, 3) := by decide +kernel
theorem dX7_keep_70 : decode cX7_keep 70 = .ok (.iconst 1, 1) := by decide +kernel
theorem dX7_keep_71 : decode cX7_keep 71 = .ok (.isub, 1) := by decide +kernel
theorem dX7_keep_72 : decode cX7_keep 72 = .ok (.putfield 92, 3) := by decide +kernel
theorem dX7_keep_75 : decode cX7_keep 75 = .ok (.aload_n 0, 1) := by decide +kernel
theorem dX7_keep_76 : decode cX7_keep 76 = .ok (.getfield 36, 3) := by decide +kernel
theorem dX7_keep_79 : decode cX7_keep 79 = .ok (.aload_n 0, 1) := by decide +kernel
theorem dX7_keep_80 : decode cX7_keep 80 = .ok (.getfield 92, 3) := by decide +kernel
theorem dX7_keep_83 : decode cX7_keep 83 = .ok (.aload_n 0, 1) := by decide +kernel
theorem dX7_keep_84 : decode cX7_keep 84 = .ok (.getfield 95, 3) := by decide +kernel
theorem dX7_keep_87 : decode cX7_keep 87 = .ok (.iastore, 1) := by decide +kernel
theorem dX7_keep_88 : decode cX7_keep 88 = .ok (.aload_n 0, 1) := by decide +kernel
theorem dX7_keep_89 : decode cX7_keep 89 = .ok (.getfield 39, 3) := by decide +kernel
theorem dX7_keep_92 : decode cX7_keep 92 = .ok (.aload_n 0, 1) := by decide +kernel
theorem dX7_keep_93 : decode cX7_keep 93 = .ok (.getfield 92, 3) := by decide +kernel
theorem dX7_keep_96 : decode cX7_keep 96 = .ok (.aload_n 0, 1) := by decide +kernel
theorem dX7_keep_97 : decode cX7_keep 97 = .ok (.getfield 98, 3) := by decide +kernel
theorem dX7_keep_100 : decode cX7_keep 100 = .ok (.iastore, 1) := by decide +kernel
theorem dX7_keep_101 : decode cX7_keep 101 = .ok (.aload_n 0, 1) := by decide +kernel
theorem dX7_keep_102 : decode cX7_keep 102 = .ok (.getfield 42, 3) := by decide +kernel
theorem dX7_keep_105 : decode cX7_keep 105 = .ok (.aload_n 0, 1) := by decide +kernel
theorem dX7_keep_106 : decode cX7_keep 106 = .ok (.getfield 92, 3) := by decide +kernel
theorem dX7_keep_109 : decode cX7_keep 109 = .ok (.iload_n 1, 1) := by decide +kernel
theorem dX7_keep_110 : decode cX7_keep 110 = .ok (.iastore, 1) := by decide +kernel
theorem dX7_keep_111 : decode cX7_keep 111 = .ok (.aload_n 0, 1) := by decide +kernel
theorem dX7_keep_112 : decode cX7_keep 112 = .ok (.dup, 1) := by decide +kernel
theorem dX7_keep_113 : decode cX7_keep 113 = .ok (.getfield 92, 3) := by decide +kernel
theorem dX7_keep_116 : decode cX7_keep 116 = .ok (.iconst 1, 1) := by decide +kernel
theorem dX7_keep_117 : decode cX7_keep 117 = .ok (.iadd, 1) := by decide +kernel
theorem dX7_keep_118 : decode cX7_keep 118 = .ok (.putfield 92, 3) := by decide +kernel
theorem dX7_keep_121 : decode cX7_keep 121 = .ok (.return_, 1) := by decide +kernel
theorem dX7_free_0 : decode cX7_free 0 = .ok (.aload_n 0, 1) := by decide +kernel
theorem dX7_free_1 : decode cX7_free 1 = .ok (.getfield 25, 3) := by decide +kernel
theorem dX7_free_4 : decode cX7_free 4 = .ok (.aload_n 0, 1) := by decide +kernel
theorem dX7_free_5 : decode cX7_free 5 = .ok (.aload_n 0, 1) := by decide +kernel
theorem dX7_free_6 : decode cX7_free 6 = .ok (.getfield 95, 3) := by decide +kernel
theorem dX7_free_9 : decode cX7_free 9 = .ok (.aload_n 0, 1) := by decide +kernel
theorem dX7_free_10 : decode cX7_free 10 = .ok (.getfield 98, 3) := by decide +kernel
theorem dX7_free_13 : decode cX7_free 13 = .ok (.invokevirtual 88, 3) := by decide +kernel
theorem dX7_free_16 : decode cX7_free 16 = .ok (.isub, 1) := by decide +kernel
theorem dX7_free_17 : decode cX7_free 17 = .ok (.ireturn, 1) := by decide +kernel
theorem dX7_vats_0 : decode cX7_vats 0 = .ok (.iload_n 1, 1) := by decide +kernel
theorem dX7_vats_1 : decode cX7_vats 1 = .ok (.iconst 1, 1) := by decide +kernel
theorem dX7_vats_2 : decode cX7_vats 2 = .ok (.if_icmp .lt 25, 3) := by decide +kernel
theorem dX7_vats_5 : decode cX7_vats 5 = .ok (.iload_n 1, 1) := by decide +kernel
theorem dX7_vats_6 : decode cX7_vats 6 = .ok (.bipush 18, 2) := by decide +kernel
theorem dX7_vats_8 : decode cX7_vats 8 = .ok (.if_icmp .gt 19, 3) := by decide +kernel
theorem dX7_vats_11 : decode cX7_vats 11 = .ok (.iload_n 1, 1) := by decide +kernel
theorem dX7_vats_12 : decode cX7_vats 12 = .ok (.aload_n 0, 1) := by decide +kernel
theorem dX7_vats_13 : decode cX7_vats 13 = .ok (.aload_n 0, 1) := by decide +kernel
theorem dX7_vats_14 : decode cX7_vats 14 = .ok (.getfield 95, 3) := by decide +kernel
theorem dX7_vats_17 : decode cX7_vats 17 = .ok (.aload_n 0, 1) := by decide +kernel
theorem dX7_vats_18 : decode cX7_vats 18 = .ok (.getfield 98, 3) := by decide +kernel
theorem dX7_vats_21 : decode cX7_vats 21 = .ok (.invokevirtual 88, 3) := by decide +kernel
theorem dX7_vats_24 : decode cX7_vats 24 = .ok (.if_icmp .ge 6, 3) := by decide +kernel
theorem dX7_vats_27 : decode cX7_vats 27 = .ok (.bipush (-2), 2) := by decide +kernel
theorem dX7_vats_29 : decode cX7_vats 29 = .ok (.ireturn, 1) := by decide +kernel
theorem dX7_vats_30 : decode cX7_vats 30 = .ok (.aload_n 0, 1) := by decide +kernel
theorem dX7_vats_31 : decode cX7_vats 31 = .ok (.getfield 25, 3) := by decide +kernel
theorem dX7_vats_34 : decode cX7_vats 34 = .ok (.istore_n 2, 1) := by decide +kernel
theorem dX7_vats_35 : decode cX7_vats 35 = .ok (.aload_n 0, 1) := by decide +kernel
theorem dX7_vats_36 : decode cX7_vats 36 = .ok (.iload_n 1, 1) := by decide +kernel
theorem dX7_vats_37 : decode cX7_vats 37 = .ok (.putfield 25, 3) := by decide +kernel
theorem dX7_vats_40 : decode cX7_vats 40 = .ok (.aload_n 0, 1) := by decide +kernel
theorem dX7_vats_41 : decode cX7_vats 41 = .ok (.iconst 0, 1) := by decide +kernel
theorem dX7_vats_42 : decode cX7_vats 42 = .ok (.putfield 92, 3) := by decide +kernel
theorem dX7_vats_45 : decode cX7_vats 45 = .ok (.iload_n 2, 1) := by decide +kernel
theorem dX7_vats_46 : decode cX7_vats 46 = .ok (.ireturn, 1) := by decide +kernel
theorem dX7_bath_0 : decode cX7_bath 0 = .ok (.iload_n 1, 1) := by decide +kernel
theorem dX7_bath_1 : decode cX7_bath 1 = .ok (.ifCond .lt 17, 3) := by decide +kernel
theorem dX7_bath_4 : decode cX7_bath 4 = .ok (.iload_n 1, 1) := by decide +kernel
theorem dX7_bath_5 : decode cX7_bath 5 = .ok (.iconst 4, 1) := by decide +kernel
theorem dX7_bath_6 : decode cX7_bath 6 = .ok (.if_icmp .gt 12, 3) := by decide +kernel
theorem dX7_bath_9 : decode cX7_bath 9 = .ok (.aload_n 0, 1) := by decide +kernel
theorem dX7_bath_10 : decode cX7_bath 10 = .ok (.getfield 73, 3) := by decide +kernel
theorem dX7_bath_13 : decode cX7_bath 13 = .ok (.bipush 9, 2) := by decide +kernel
theorem dX7_bath_15 : decode cX7_bath 15 = .ok (.if_icmp .ne 6, 3) := by decide +kernel
theorem dX7_bath_18 : decode cX7_bath 18 = .ok (.bipush (-2), 2) := by decide +kernel
theorem dX7_bath_20 : decode cX7_bath 20 = .ok (.ireturn, 1) := by decide +kernel
theorem dX7_bath_21 : decode cX7_bath 21 = .ok (.aload_n 0, 1) := by decide +kernel
theorem dX7_bath_22 : decode cX7_bath 22 = .ok (.getfield 9, 3) := by decide +kernel
theorem dX7_bath_25 : decode cX7_bath 25 = .ok (.aload_n 0, 1) := by decide +kernel
theorem dX7_bath_26 : decode cX7_bath 26 = .ok (.getfield 73, 3) := by decide +kernel
theorem dX7_bath_29 : decode cX7_bath 29 = .ok (.iload_n 1, 1) := by decide +kernel
theorem dX7_bath_30 : decode cX7_bath 30 = .ok (.iastore, 1) := by decide +kernel
theorem dX7_bath_31 : decode cX7_bath 31 = .ok (.aload_n 0, 1) := by decide +kernel
theorem dX7_bath_32 : decode cX7_bath 32 = .ok (.dup, 1) := by decide +kernel
theorem dX7_bath_33 : decode cX7_bath 33 = .ok (.getfield 73, 3) := by decide +kernel
theorem dX7_bath_36 : decode cX7_bath 36 = .ok (.iconst 1, 1) := by decide +kernel
theorem dX7_bath_37 : decode cX7_bath 37 = .ok (.iadd, 1) := by decide +kernel
theorem dX7_bath_38 : decode cX7_bath 38 = .ok (.putfield 73, 3) := by decide +kernel
theorem dX7_bath_41 : decode cX7_bath 41 = .ok (.aload_n 0, 1) := by decide +kernel
theorem dX7_bath_42 : decode cX7_bath 42 = .ok (.getfield 73, 3) := by decide +kernel
theorem dX7_bath_45 : decode cX7_bath 45 = .ok (.iconst 1, 1) := by decide +kernel
theorem dX7_bath_46 : decode cX7_bath 46 = .ok (.isub, 1) := by decide +kernel
theorem dX7_bath_47 : decode cX7_bath 47 = .ok (.ireturn, 1) := by decide +kernel
theorem dX7_recipe_0 : decode cX7_recipe 0 = .ok (.aload_n 0, 1) := by decide +kernel
theorem dX7_recipe_1 : decode cX7_recipe 1 = .ok (.iload_n 1, 1) := by decide +kernel
theorem dX7_recipe_2 : decode cX7_recipe 2 = .ok (.invokevirtual 101, 3) := by decide +kernel
theorem dX7_recipe_5 : decode cX7_recipe 5 = .ok (.ifCond .eq 24, 3) := by decide +kernel
theorem dX7_recipe_8 : decode cX7_recipe 8 = .ok (.iload_n 2, 1) := by decide +kernel
theorem dX7_recipe_9 : decode cX7_recipe 9 = .ok (.ifCond .lt 20, 3) := by decide +kernel
theorem dX7_recipe_12 : decode cX7_recipe 12 = .ok (.iload_n 2, 1) := by decide +kernel
theorem dX7_recipe_13 : decode cX7_recipe 13 = .ok (.iconst 2, 1) := by decide +kernel
theorem dX7_recipe_14 : decode cX7_recipe 14 = .ok (.if_icmp .gt 15, 3) := by decide +kernel
theorem dX7_recipe_17 : decode cX7_recipe 17 = .ok (.aload_n 0, 1) := by decide +kernel
theorem dX7_recipe_18 : decode cX7_recipe 18 = .ok (.getfield 95, 3) := by decide +kernel
theorem dX7_recipe_21 : decode cX7_recipe 21 = .ok (.ifCond .ne 8, 3) := by decide +kernel
theorem dX7_recipe_24 : decode cX7_recipe 24 = .ok (.iload_n 3, 1) := by decide +kernel
theorem dX7_recipe_25 : decode cX7_recipe 25 = .ok (.iconst 4, 1) := by decide +kernel
theorem dX7_recipe_26 : decode cX7_recipe 26 = .ok (.if_icmp .le 6, 3) := by decide +kernel
theorem dX7_recipe_29 : decode cX7_recipe 29 = .ok (.bipush (-2), 2) := by decide +kernel
theorem dX7_recipe_31 : decode cX7_recipe 31 = .ok (.ireturn, 1) := by decide +kernel
theorem dX7_recipe_32 : decode cX7_recipe 32 = .ok (.iload_n 3, 1) := by decide +kernel
theorem dX7_recipe_33 : decode cX7_recipe 33 = .ok (.ifCond .ge 6, 3) := by decide +kernel
theorem dX7_recipe_36 : decode cX7_recipe 36 = .ok (.bipush (-13), 2) := by decide +kernel
theorem dX7_recipe_38 : decode cX7_recipe 38 = .ok (.ireturn, 1) := by decide +kernel
theorem dX7_recipe_39 : decode cX7_recipe 39 = .ok (.aload_n 0, 1) := by decide +kernel
theorem dX7_recipe_40 : decode cX7_recipe 40 = .ok (.getfield 13, 3) := by decide +kernel
theorem dX7_recipe_43 : decode cX7_recipe 43 = .ok (.iload_n 1, 1) := by decide +kernel
theorem dX7_recipe_44 : decode cX7_recipe 44 = .ok (.iload_n 2, 1) := by decide +kernel
theorem dX7_recipe_45 : decode cX7_recipe 45 = .ok (.iastore, 1) := by decide +kernel
theorem dX7_recipe_46 : decode cX7_recipe 46 = .ok (.aload_n 0, 1) := by decide +kernel
theorem dX7_recipe_47 : decode cX7_recipe 47 = .ok (.getfield 16, 3) := by decide +kernel
theorem dX7_recipe_50 : decode cX7_recipe 50 = .ok (.iload_n 1, 1) := by decide +kernel
theorem dX7_recipe_51 : decode cX7_recipe 51 = .ok (.iload_n 3, 1) := by decide +kernel
theorem dX7_recipe_52 : decode cX7_recipe 52 = .ok (.iastore, 1) := by decide +kernel
theorem dX7_recipe_53 : decode cX7_recipe 53 = .ok (.iconst 0, 1) := by decide +kernel
theorem dX7_recipe_54 : decode cX7_recipe 54 = .ok (.istore 4, 2) := by decide +kernel
theorem dX7_recipe_56 : decode cX7_recipe 56 = .ok (.iload 4, 2) := by decide +kernel
theorem dX7_recipe_58 : decode cX7_recipe 58 = .ok (.iconst 4, 1) := by decide +kernel
theorem dX7_recipe_59 : decode cX7_recipe 59 = .ok (.if_icmp .ge 21, 3) := by decide +kernel
theorem dX7_recipe_62 : decode cX7_recipe 62 = .ok (.aload_n 0, 1) := by decide +kernel
theorem dX7_recipe_63 : decode cX7_recipe 63 = .ok (.getfield 19, 3) := by decide +kernel
theorem dX7_recipe_66 : decode cX7_recipe 66 = .ok (.iconst 4, 1) := by decide +kernel
theorem dX7_recipe_67 : decode cX7_recipe 67 = .ok (.iload_n 1, 1) := by decide +kernel
theorem dX7_recipe_68 : decode cX7_recipe 68 = .ok (.imul, 1) := by decide +kernel
theorem dX7_recipe_69 : decode cX7_recipe 69 = .ok (.iload 4, 2) := by decide +kernel
theorem dX7_recipe_71 : decode cX7_recipe 71 = .ok (.iadd, 1) := by decide +kernel
theorem dX7_recipe_72 : decode cX7_recipe 72 = .ok (.iconst (-1), 1) := by decide +kernel
theorem dX7_recipe_73 : decode cX7_recipe 73 = .ok (.iastore, 1) := by decide +kernel
theorem dX7_recipe_74 : decode cX7_recipe 74 = .ok (.iinc 4 1, 3) := by decide +kernel
theorem dX7_recipe_77 : decode cX7_recipe 77 = .ok (.goto (-21), 3) := by decide +kernel
theorem dX7_recipe_80 : decode cX7_recipe 80 = .ok (.aload_n 0, 1) := by decide +kernel
theorem dX7_recipe_81 : decode cX7_recipe 81 = .ok (.iconst 0, 1) := by decide +kernel
theorem dX7_recipe_82 : decode cX7_recipe 82 = .ok (.putfield 92, 3) := by decide +kernel
theorem dX7_recipe_85 : decode cX7_recipe 85 = .ok (.iload_n 3, 1) := by decide +kernel
theorem dX7_recipe_86 : decode cX7_recipe 86 = .ok (.ireturn, 1) := by decide +kernel
theorem dX7_lose_0 : decode cX7_lose 0 = .ok (.aload_n 0, 1) := by decide +kernel
theorem dX7_lose_1 : decode cX7_lose 1 = .ok (.iload_n 1, 1) := by decide +kernel
theorem dX7_lose_2 : decode cX7_lose 2 = .ok (.invokevirtual 101, 3) := by decide +kernel
theorem dX7_lose_5 : decode cX7_lose 5 = .ok (.ifCond .eq 10, 3) := by decide +kernel
theorem dX7_lose_8 : decode cX7_lose 8 = .ok (.aload_n 0, 1) := by decide +kernel
theorem dX7_lose_9 : decode cX7_lose 9 = .ok (.getfield 95, 3) := by decide +kernel
theorem dX7_lose_12 : decode cX7_lose 12 = .ok (.ifCond .eq 6, 3) := by decide +kernel
theorem dX7_lose_15 : decode cX7_lose 15 = .ok (.bipush (-2), 2) := by decide +kernel
theorem dX7_lose_17 : decode cX7_lose 17 = .ok (.ireturn, 1) := by decide +kernel
theorem dX7_lose_18 : decode cX7_lose 18 = .ok (.aload_n 0, 1) := by decide +kernel
theorem dX7_lose_19 : decode cX7_lose 19 = .ok (.getfield 16, 3) := by decide +kernel
theorem dX7_lose_22 : decode cX7_lose 22 = .ok (.iload_n 1, 1) := by decide +kernel
theorem dX7_lose_23 : decode cX7_lose 23 = .ok (.iaload, 1) := by decide +kernel
theorem dX7_lose_24 : decode cX7_lose 24 = .ok (.ifCond .lt 7, 3) := by decide +kernel
theorem dX7_lose_27 : decode cX7_lose 27 = .ok (.iconst 1, 1) := by decide +kernel
theorem dX7_lose_28 : decode cX7_lose 28 = .ok (.goto 4, 3) := by decide +kernel
theorem dX7_lose_31 : decode cX7_lose 31 = .ok (.iconst 0, 1) := by decide +kernel
theorem dX7_lose_32 : decode cX7_lose 32 = .ok (.istore_n 2, 1) := by decide +kernel
theorem dX7_lose_33 : decode cX7_lose 33 = .ok (.aload_n 0, 1) := by decide +kernel
theorem dX7_lose_34 : decode cX7_lose 34 = .ok (.getfield 16, 3) := by decide +kernel
theorem dX7_lose_37 : decode cX7_lose 37 = .ok (.iload_n 1, 1) := by decide +kernel
theorem dX7_lose_38 : decode cX7_lose 38 = .ok (.iconst (-1), 1) := by decide +kernel
theorem dX7_lose_39 : decode cX7_lose 39 = .ok (.iastore, 1) := by decide +kernel
theorem dX7_lose_40 : decode cX7_lose 40 = .ok (.aload_n 0, 1) := by decide +kernel
theorem dX7_lose_41 : decode cX7_lose 41 = .ok (.iconst 0, 1) := by decide +kernel
theorem dX7_lose_42 : decode cX7_lose 42 = .ok (.putfield 92, 3) := by decide +kernel
theorem dX7_lose_45 : decode cX7_lose 45 = .ok (.iload_n 2, 1) := by decide +kernel
theorem dX7_lose_46 : decode cX7_lose 46 = .ok (.ireturn, 1) := by decide +kernel
theorem dX7_needs_0 : decode cX7_needs 0 = .ok (.iconst 0, 1) := by decide +kernel
theorem dX7_needs_1 : decode cX7_needs 1 = .ok (.istore_n 3, 1) := by decide +kernel
theorem dX7_needs_2 : decode cX7_needs 2 = .ok (.iconst 0, 1) := by decide +kernel
theorem dX7_needs_3 : decode cX7_needs 3 = .ok (.istore 4, 2) := by decide +kernel
theorem dX7_needs_5 : decode cX7_needs 5 = .ok (.iload 4, 2) := by decide +kernel
theorem dX7_needs_7 : decode cX7_needs 7 = .ok (.aload_n 0, 1) := by decide +kernel
theorem dX7_needs_8 : decode cX7_needs 8 = .ok (.getfield 16, 3) := by decide +kernel
theorem dX7_needs_11 : decode cX7_needs 11 = .ok (.iload_n 1, 1) := by decide +kernel
theorem dX7_needs_12 : decode cX7_needs 12 = .ok (.iaload, 1) := by decide +kernel
theorem dX7_needs_13 : decode cX7_needs 13 = .ok (.if_icmp .ge 32, 3) := by decide +kernel
theorem dX7_needs_16 : decode cX7_needs 16 = .ok (.iload_n 3, 1) := by decide +kernel
theorem dX7_needs_17 : decode cX7_needs 17 = .ok (.aload_n 0, 1) := by decide +kernel
theorem dX7_needs_18 : decode cX7_needs 18 = .ok (.getfield 19, 3) := by decide +kernel
theorem dX7_needs_21 : decode cX7_needs 21 = .ok (.iconst 4, 1) := by decide +kernel
theorem dX7_needs_22 : decode cX7_needs 22 = .ok (.iload_n 1, 1) := by decide +kernel
theorem dX7_needs_23 : decode cX7_needs 23 = .ok (.imul, 1) := by decide +kernel
theorem dX7_needs_24 : decode cX7_needs 24 = .ok (.iload 4, 2) := by decide +kernel
theorem dX7_needs_26 : decode cX7_needs 26 = .ok (.iadd, 1) := by decide +kernel
theorem dX7_needs_27 : decode cX7_needs 27 = .ok (.iaload, 1) := by decide +kernel
theorem dX7_needs_28 : decode cX7_needs 28 = .ok (.iload_n 2, 1) := by decide +kernel
theorem dX7_needs_29 : decode cX7_needs 29 = .ok (.if_icmp .ne 7, 3) := by decide +kernel
theorem dX7_needs_32 : decode cX7_needs 32 = .ok (.iconst 1, 1) := by decide +kernel
theorem dX7_needs_33 : decode cX7_needs 33 = .ok (.goto 4, 3) := by decide +kernel
theorem dX7_needs_36 : decode cX7_needs 36 = .ok (.iconst 0, 1) := by decide +kernel
theorem dX7_needs_37 : decode cX7_needs 37 = .ok (.ior, 1) := by decide +kernel
theorem dX7_needs_38 : decode cX7_needs 38 = .ok (.istore_n 3, 1) := by decide +kernel
theorem dX7_needs_39 : decode cX7_needs 39 = .ok (.iinc 4 1, 3) := by decide +kernel
theorem dX7_needs_42 : decode cX7_needs 42 = .ok (.goto (-37), 3) := by decide +kernel
theorem dX7_needs_45 : decode cX7_needs 45 = .ok (.iload_n 3, 1) := by decide +kernel
theorem dX7_needs_46 : decode cX7_needs 46 = .ok (.ireturn, 1) := by decide +kernel
theorem dX7_countSteps_0 : decode cX7_countSteps 0 = .ok (.iconst 0, 1) := by decide +kernel
theorem dX7_countSteps_1 : decode cX7_countSteps 1 = .ok (.istore_n 2, 1) := by decide +kernel
theorem dX7_countSteps_2 : decode cX7_countSteps 2 = .ok (.iload_n 2, 1) := by decide +kernel
theorem dX7_countSteps_3 : decode cX7_countSteps 3 = .ok (.bipush 9, 2) := by decide +kernel
theorem dX7_countSteps_5 : decode cX7_countSteps 5 = .ok (.if_icmp .ge 25, 3) := by decide +kernel
theorem dX7_countSteps_8 : decode cX7_countSteps 8 = .ok (.aload_n 0, 1) := by decide +kernel
theorem dX7_countSteps_9 : decode cX7_countSteps 9 = .ok (.getfield 51, 3) := by decide +kernel
theorem dX7_countSteps_12 : decode cX7_countSteps 12 = .ok (.iload_n 2, 1) := by decide +kernel
theorem dX7_countSteps_13 : decode cX7_countSteps 13 = .ok (.iload_n 2, 1) := by decide +kernel
theorem dX7_countSteps_14 : decode cX7_countSteps 14 = .ok (.iload_n 1, 1) := by decide +kernel
theorem dX7_countSteps_15 : decode cX7_countSteps 15 = .ok (.if_icmp .ne 7, 3) := by decide +kernel
theorem dX7_countSteps_18 : decode cX7_countSteps 18 = .ok (.iconst 0, 1) := by decide +kernel
theorem dX7_countSteps_19 : decode cX7_countSteps 19 = .ok (.goto 4, 3) := by decide +kernel
theorem dX7_countSteps_22 : decode cX7_countSteps 22 = .ok (.iconst (-1), 1) := by decide +kernel
theorem dX7_countSteps_23 : decode cX7_countSteps 23 = .ok (.iastore, 1) := by decide +kernel
theorem dX7_countSteps_24 : decode cX7_countSteps 24 = .ok (.iinc 2 1, 3) := by decide +kernel
theorem dX7_countSteps_27 : decode cX7_countSteps 27 = .ok (.goto (-25), 3) := by decide +kernel
theorem dX7_countSteps_30 : decode cX7_countSteps 30 = .ok (.iconst 1, 1) := by decide +kernel
theorem dX7_countSteps_31 : decode cX7_countSteps 31 = .ok (.istore_n 2, 1) := by decide +kernel
theorem dX7_countSteps_32 : decode cX7_countSteps 32 = .ok (.iload_n 2, 1) := by decide +kernel
theorem dX7_countSteps_33 : decode cX7_countSteps 33 = .ok (.bipush 9, 2) := by decide +kernel
theorem dX7_countSteps_35 : decode cX7_countSteps 35 = .ok (.if_icmp .ge 109, 3) := by decide +kernel
theorem dX7_countSteps_38 : decode cX7_countSteps 38 = .ok (.iconst 0, 1) := by decide +kernel
theorem dX7_countSteps_39 : decode cX7_countSteps 39 = .ok (.istore_n 3, 1) := by decide +kernel
theorem dX7_countSteps_40 : decode cX7_countSteps 40 = .ok (.iload_n 3, 1) := by decide +kernel
theorem dX7_countSteps_41 : decode cX7_countSteps 41 = .ok (.aload_n 0, 1) := by decide +kernel
theorem dX7_countSteps_42 : decode cX7_countSteps 42 = .ok (.getfield 73, 3) := by decide +kernel
theorem dX7_countSteps_45 : decode cX7_countSteps 45 = .ok (.if_icmp .ge 93, 3) := by decide +kernel
theorem dX7_countSteps_48 : decode cX7_countSteps 48 = .ok (.iconst 0, 1) := by decide +kernel
theorem dX7_countSteps_49 : decode cX7_countSteps 49 = .ok (.istore 4, 2) := by decide +kernel
theorem dX7_countSteps_51 : decode cX7_countSteps 51 = .ok (.iconst 0, 1) := by decide +kernel
theorem dX7_countSteps_52 : decode cX7_countSteps 52 = .ok (.istore 5, 2) := by decide +kernel
theorem dX7_countSteps_54 : decode cX7_countSteps 54 = .ok (.iload 5, 2) := by decide +kernel
theorem dX7_countSteps_56 : decode cX7_countSteps 56 = .ok (.aload_n 0, 1) := by decide +kernel
theorem dX7_countSteps_57 : decode cX7_countSteps 57 = .ok (.getfield 73, 3) := by decide +kernel
theorem dX7_countSteps_60 : decode cX7_countSteps 60 = .ok (.if_icmp .ge 42, 3) := by decide +kernel
theorem dX7_countSteps_63 : decode cX7_countSteps 63 = .ok (.iload 4, 2) := by decide +kernel
theorem dX7_countSteps_65 : decode cX7_countSteps 65 = .ok (.aload_n 0, 1) := by decide +kernel
theorem dX7_countSteps_66 : decode cX7_countSteps 66 = .ok (.getfield 51, 3) := by decide +kernel
theorem dX7_countSteps_69 : decode cX7_countSteps 69 = .ok (.iload 5, 2) := by decide +kernel
theorem dX7_countSteps_71 : decode cX7_countSteps 71 = .ok (.iaload, 1) := by decide +kernel
theorem dX7_countSteps_72 : decode cX7_countSteps 72 = .ok (.iload_n 2, 1) := by decide +kernel
theorem dX7_countSteps_73 : decode cX7_countSteps 73 = .ok (.iconst 1, 1) := by decide +kernel
theorem dX7_countSteps_74 : decode cX7_countSteps 74 = .ok (.isub, 1) := by decide +kernel
theorem dX7_countSteps_75 : decode cX7_countSteps 75 = .ok (.if_icmp .ne 17, 3) := by decide +kernel
theorem dX7_countSteps_78 : decode cX7_countSteps 78 = .ok (.aload_n 0, 1) := by decide +kernel
theorem dX7_countSteps_79 : decode cX7_countSteps 79 = .ok (.iload_n 3, 1) := by decide +kernel
theorem dX7_countSteps_80 : decode cX7_countSteps 80 = .ok (.iload 5, 2) := by decide +kernel
theorem dX7_countSteps_82 : decode cX7_countSteps 82 = .ok (.invokevirtual 105, 3) := by decide +kernel
theorem dX7_countSteps_85 : decode cX7_countSteps 85 = .ok (.ifCond .eq 7, 3) := by decide +kernel
theorem dX7_countSteps_88 : decode cX7_countSteps 88 = .ok (.iconst 1, 1) := by decide +kernel
theorem dX7_countSteps_89 : decode cX7_countSteps 89 = .ok (.goto 4, 3) := by decide +kernel
theorem dX7_countSteps_92 : decode cX7_countSteps 92 = .ok (.iconst 0, 1) := by decide +kernel
theorem dX7_countSteps_93 : decode cX7_countSteps 93 = .ok (.ior, 1) := by decide +kernel
theorem dX7_countSteps_94 : decode cX7_countSteps 94 = .ok (.istore 4, 2) := by decide +kernel
theorem dX7_countSteps_96 : decode cX7_countSteps 96 = .ok (.iinc 5 1, 3) := by decide +kernel
theorem dX7_countSteps_99 : decode cX7_countSteps 99 = .ok (.goto (-45), 3) := by decide +kernel
theorem dX7_countSteps_102 : decode cX7_countSteps 102 = .ok (.aload_n 0, 1) := by decide +kernel
theorem dX7_countSteps_103 : decode cX7_countSteps 103 = .ok (.getfield 51, 3) := by decide +kernel
theorem dX7_countSteps_106 : decode cX7_countSteps 106 = .ok (.iload_n 3, 1) := by decide +kernel
theorem dX7_countSteps_107 : decode cX7_countSteps 107 = .ok (.aload_n 0, 1) := by decide +kernel
theorem dX7_countSteps_108 : decode cX7_countSteps 108 = .ok (.getfield 51, 3) := by decide +kernel
theorem dX7_countSteps_111 : decode cX7_countSteps 111 = .ok (.iload_n 3, 1) := by decide +kernel
theorem dX7_countSteps_112 : decode cX7_countSteps 112 = .ok (.iaload, 1) := by decide +kernel
theorem dX7_countSteps_113 : decode cX7_countSteps 113 = .ok (.ifCond .ge 12, 3) := by decide +kernel
theorem dX7_countSteps_116 : decode cX7_countSteps 116 = .ok (.iload 4, 2) := by decide +kernel
theorem dX7_countSteps_118 : decode cX7_countSteps 118 = .ok (.ifCond .eq 7, 3) := by decide +kernel
theorem dX7_countSteps_121 : decode cX7_countSteps 121 = .ok (.iload_n 2, 1) := by decide +kernel
theorem dX7_countSteps_122 : decode cX7_countSteps 122 = .ok (.goto 9, 3) := by decide +kernel
theorem dX7_countSteps_125 : decode cX7_countSteps 125 = .ok (.aload_n 0, 1) := by decide +kernel
theorem dX7_countSteps_126 : decode cX7_countSteps 126 = .ok (.getfield 51, 3) := by decide +kernel
theorem dX7_countSteps_129 : decode cX7_countSteps 129 = .ok (.iload_n 3, 1) := by decide +kernel
theorem dX7_countSteps_130 : decode cX7_countSteps 130 = .ok (.iaload, 1) := by decide +kernel
theorem dX7_countSteps_131 : decode cX7_countSteps 131 = .ok (.iastore, 1) := by decide +kernel
theorem dX7_countSteps_132 : decode cX7_countSteps 132 = .ok (.iinc 3 1, 3) := by decide +kernel
theorem dX7_countSteps_135 : decode cX7_countSteps 135 = .ok (.goto (-95), 3) := by decide +kernel
theorem dX7_countSteps_138 : decode cX7_countSteps 138 = .ok (.iinc 2 1, 3) := by decide +kernel
theorem dX7_countSteps_141 : decode cX7_countSteps 141 = .ok (.goto (-109), 3) := by decide +kernel
theorem dX7_countSteps_144 : decode cX7_countSteps 144 = .ok (.return_, 1) := by decide +kernel
theorem dX7_tellRing_0 : decode cX7_tellRing 0 = .ok (.aload_n 0, 1) := by decide +kernel
theorem dX7_tellRing_1 : decode cX7_tellRing 1 = .ok (.iconst 1, 1) := by decide +kernel
theorem dX7_tellRing_2 : decode cX7_tellRing 2 = .ok (.putfield 108, 3) := by decide +kernel
theorem dX7_tellRing_5 : decode cX7_tellRing 5 = .ok (.aload_n 0, 1) := by decide +kernel
theorem dX7_tellRing_6 : decode cX7_tellRing 6 = .ok (.getfield 45, 3) := by decide +kernel
theorem dX7_tellRing_9 : decode cX7_tellRing 9 = .ok (.iconst 0, 1) := by decide +kernel
theorem dX7_tellRing_10 : decode cX7_tellRing 10 = .ok (.iload_n 1, 1) := by decide +kernel
theorem dX7_tellRing_11 : decode cX7_tellRing 11 = .ok (.iastore, 1) := by decide +kernel
theorem dX7_tellRing_12 : decode cX7_tellRing 12 = .ok (.iload_n 2, 1) := by decide +kernel
theorem dX7_tellRing_13 : decode cX7_tellRing 13 = .ok (.istore_n 3, 1) := by decide +kernel
theorem dX7_tellRing_14 : decode cX7_tellRing 14 = .ok (.iload_n 3, 1) := by decide +kernel
theorem dX7_tellRing_15 : decode cX7_tellRing 15 = .ok (.iload_n 1, 1) := by decide +kernel
theorem dX7_tellRing_16 : decode cX7_tellRing 16 = .ok (.if_icmp .eq 66, 3) := by decide +kernel
theorem dX7_tellRing_19 : decode cX7_tellRing 19 = .ok (.aload_n 0, 1) := by decide +kernel
theorem dX7_tellRing_20 : decode cX7_tellRing 20 = .ok (.getfield 45, 3) := by decide +kernel
theorem dX7_tellRing_23 : decode cX7_tellRing 23 = .ok (.aload_n 0, 1) := by decide +kernel
theorem dX7_tellRing_24 : decode cX7_tellRing 24 = .ok (.getfield 108, 3) := by decide +kernel
theorem dX7_tellRing_27 : decode cX7_tellRing 27 = .ok (.iload_n 3, 1) := by decide +kernel
theorem dX7_tellRing_28 : decode cX7_tellRing 28 = .ok (.iastore, 1) := by decide +kernel
theorem dX7_tellRing_29 : decode cX7_tellRing 29 = .ok (.aload_n 0, 1) := by decide +kernel
theorem dX7_tellRing_30 : decode cX7_tellRing 30 = .ok (.dup, 1) := by decide +kernel
theorem dX7_tellRing_31 : decode cX7_tellRing 31 = .ok (.getfield 108, 3) := by decide +kernel
theorem dX7_tellRing_34 : decode cX7_tellRing 34 = .ok (.iconst 1, 1) := by decide +kernel
theorem dX7_tellRing_35 : decode cX7_tellRing 35 = .ok (.iadd, 1) := by decide +kernel
theorem dX7_tellRing_36 : decode cX7_tellRing 36 = .ok (.putfield 108, 3) := by decide +kernel
theorem dX7_tellRing_39 : decode cX7_tellRing 39 = .ok (.iconst 0, 1) := by decide +kernel
theorem dX7_tellRing_40 : decode cX7_tellRing 40 = .ok (.istore 4, 2) := by decide +kernel
theorem dX7_tellRing_42 : decode cX7_tellRing 42 = .ok (.aload_n 0, 1) := by decide +kernel
theorem dX7_tellRing_43 : decode cX7_tellRing 43 = .ok (.getfield 51, 3) := by decide +kernel
theorem dX7_tellRing_46 : decode cX7_tellRing 46 = .ok (.iload 4, 2) := by decide +kernel
theorem dX7_tellRing_48 : decode cX7_tellRing 48 = .ok (.iaload, 1) := by decide +kernel
theorem dX7_tellRing_49 : decode cX7_tellRing 49 = .ok (.aload_n 0, 1) := by decide +kernel
theorem dX7_tellRing_50 : decode cX7_tellRing 50 = .ok (.getfield 51, 3) := by decide +kernel
theorem dX7_tellRing_53 : decode cX7_tellRing 53 = .ok (.iload_n 3, 1) := by decide +kernel
theorem dX7_tellRing_54 : decode cX7_tellRing 54 = .ok (.iaload, 1) := by decide +kernel
theorem dX7_tellRing_55 : decode cX7_tellRing 55 = .ok (.iconst 1, 1) := by decide +kernel
theorem dX7_tellRing_56 : decode cX7_tellRing 56 = .ok (.isub, 1) := by decide +kernel
theorem dX7_tellRing_57 : decode cX7_tellRing 57 = .ok (.if_icmp .ne 13, 3) := by decide +kernel
theorem dX7_tellRing_60 : decode cX7_tellRing 60 = .ok (.aload_n 0, 1) := by decide +kernel
theorem dX7_tellRing_61 : decode cX7_tellRing 61 = .ok (.iload_n 3, 1) := by decide +kernel
theorem dX7_tellRing_62 : decode cX7_tellRing 62 = .ok (.iload 4, 2) := by decide +kernel
theorem dX7_tellRing_64 : decode cX7_tellRing 64 = .ok (.invokevirtual 105, 3) := by decide +kernel
theorem dX7_tellRing_67 : decode cX7_tellRing 67 = .ok (.ifCond .ne 9, 3) := by decide +kernel
theorem dX7_tellRing_70 : decode cX7_tellRing 70 = .ok (.iinc 4 1, 3) := by decide +kernel
theorem dX7_tellRing_73 : decode cX7_tellRing 73 = .ok (.goto (-31), 3) := by decide +kernel
theorem dX7_tellRing_76 : decode cX7_tellRing 76 = .ok (.iload 4, 2) := by decide +kernel
theorem dX7_tellRing_78 : decode cX7_tellRing 78 = .ok (.istore_n 3, 1) := by decide +kernel
theorem dX7_tellRing_79 : decode cX7_tellRing 79 = .ok (.goto (-65), 3) := by decide +kernel
theorem dX7_tellRing_82 : decode cX7_tellRing 82 = .ok (.return_, 1) := by decide +kernel
theorem dX7_need_0 : decode cX7_need 0 = .ok (.aload_n 0, 1) := by decide +kernel
theorem dX7_need_1 : decode cX7_need 1 = .ok (.iload_n 1, 1) := by decide +kernel
theorem dX7_need_2 : decode cX7_need 2 = .ok (.invokevirtual 101, 3) := by decide +kernel
theorem dX7_need_5 : decode cX7_need 5 = .ok (.ifCond .eq 23, 3) := by decide +kernel
theorem dX7_need_8 : decode cX7_need 8 = .ok (.iload_n 3, 1) := by decide +kernel
theorem dX7_need_9 : decode cX7_need 9 = .ok (.iconst (-1), 1) := by decide +kernel
theorem dX7_need_10 : decode cX7_need 10 = .ok (.if_icmp .eq 11, 3) := by decide +kernel
theorem dX7_need_13 : decode cX7_need 13 = .ok (.aload_n 0, 1) := by decide +kernel
theorem dX7_need_14 : decode cX7_need 14 = .ok (.iload_n 3, 1) := by decide +kernel
theorem dX7_need_15 : decode cX7_need 15 = .ok (.invokevirtual 101, 3) := by decide +kernel
theorem dX7_need_18 : decode cX7_need 18 = .ok (.ifCond .eq 10, 3) := by decide +kernel
theorem dX7_need_21 : decode cX7_need 21 = .ok (.aload_n 0, 1) := by decide +kernel
theorem dX7_need_22 : decode cX7_need 22 = .ok (.getfield 95, 3) := by decide +kernel
theorem dX7_need_25 : decode cX7_need 25 = .ok (.ifCond .eq 6, 3) := by decide +kernel
theorem dX7_need_28 : decode cX7_need 28 = .ok (.bipush (-2), 2) := by decide +kernel
theorem dX7_need_30 : decode cX7_need 30 = .ok (.ireturn, 1) := by decide +kernel
theorem dX7_need_31 : decode cX7_need 31 = .ok (.aload_n 0, 1) := by decide +kernel
theorem dX7_need_32 : decode cX7_need 32 = .ok (.getfield 16, 3) := by decide +kernel
theorem dX7_need_35 : decode cX7_need 35 = .ok (.iload_n 1, 1) := by decide +kernel
theorem dX7_need_36 : decode cX7_need 36 = .ok (.iaload, 1) := by decide +kernel
theorem dX7_need_37 : decode cX7_need 37 = .ok (.ifCond .ge 6, 3) := by decide +kernel
theorem dX7_need_40 : decode cX7_need 40 = .ok (.bipush (-10), 2) := by decide +kernel
theorem dX7_need_42 : decode cX7_need 42 = .ok (.ireturn, 1) := by decide +kernel
theorem dX7_need_43 : decode cX7_need 43 = .ok (.iload_n 2, 1) := by decide +kernel
theorem dX7_need_44 : decode cX7_need 44 = .ok (.ifCond .lt 13, 3) := by decide +kernel
theorem dX7_need_47 : decode cX7_need 47 = .ok (.iload_n 2, 1) := by decide +kernel
theorem dX7_need_48 : decode cX7_need 48 = .ok (.aload_n 0, 1) := by decide +kernel
theorem dX7_need_49 : decode cX7_need 49 = .ok (.getfield 16, 3) := by decide +kernel
theorem dX7_need_52 : decode cX7_need 52 = .ok (.iload_n 1, 1) := by decide +kernel
theorem dX7_need_53 : decode cX7_need 53 = .ok (.iaload, 1) := by decide +kernel
theorem dX7_need_54 : decode cX7_need 54 = .ok (.if_icmp .lt 6, 3) := by decide +kernel
theorem dX7_need_57 : decode cX7_need 57 = .ok (.bipush (-11), 2) := by decide +kernel
theorem dX7_need_59 : decode cX7_need 59 = .ok (.ireturn, 1) := by decide +kernel
theorem dX7_need_60 : decode cX7_need 60 = .ok (.aload_n 0, 1) := by decide +kernel
theorem dX7_need_61 : decode cX7_need 61 = .ok (.iload_n 1, 1) := by decide +kernel
theorem dX7_need_62 : decode cX7_need 62 = .ok (.invokevirtual 111, 3) := by decide +kernel
theorem dX7_need_65 : decode cX7_need 65 = .ok (.iload_n 3, 1) := by decide +kernel
theorem dX7_need_66 : decode cX7_need 66 = .ok (.ifCond .lt 21, 3) := by decide +kernel
theorem dX7_need_69 : decode cX7_need 69 = .ok (.aload_n 0, 1) := by decide +kernel
theorem dX7_need_70 : decode cX7_need 70 = .ok (.getfield 51, 3) := by decide +kernel
theorem dX7_need_73 : decode cX7_need 73 = .ok (.iload_n 3, 1) := by decide +kernel
theorem dX7_need_74 : decode cX7_need 74 = .ok (.iaload, 1) := by decide +kernel
theorem dX7_need_75 : decode cX7_need 75 = .ok (.ifCond .lt 12, 3) := by decide +kernel
theorem dX7_need_78 : decode cX7_need 78 = .ok (.aload_n 0, 1) := by decide +kernel
theorem dX7_need_79 : decode cX7_need 79 = .ok (.iload_n 1, 1) := by decide +kernel
theorem dX7_need_80 : decode cX7_need 80 = .ok (.iload_n 3, 1) := by decide +kernel
theorem dX7_need_81 : decode cX7_need 81 = .ok (.invokevirtual 115, 3) := by decide +kernel
theorem dX7_need_84 : decode cX7_need 84 = .ok (.bipush (-3), 2) := by decide +kernel
theorem dX7_need_86 : decode cX7_need 86 = .ok (.ireturn, 1) := by decide +kernel
theorem dX7_need_87 : decode cX7_need 87 = .ok (.aload_n 0, 1) := by decide +kernel
theorem dX7_need_88 : decode cX7_need 88 = .ok (.getfield 19, 3) := by decide +kernel
theorem dX7_need_91 : decode cX7_need 91 = .ok (.iconst 4, 1) := by decide +kernel
theorem dX7_need_92 : decode cX7_need 92 = .ok (.iload_n 1, 1) := by decide +kernel
theorem dX7_need_93 : decode cX7_need 93 = .ok (.imul, 1) := by decide +kernel
theorem dX7_need_94 : decode cX7_need 94 = .ok (.iload_n 2, 1) := by decide +kernel
theorem dX7_need_95 : decode cX7_need 95 = .ok (.iadd, 1) := by decide +kernel
theorem dX7_need_96 : decode cX7_need 96 = .ok (.iaload, 1) := by decide +kernel
theorem dX7_need_97 : decode cX7_need 97 = .ok (.istore 4, 2) := by decide +kernel
theorem dX7_need_99 : decode cX7_need 99 = .ok (.aload_n 0, 1) := by decide +kernel
theorem dX7_need_100 : decode cX7_need 100 = .ok (.getfield 19, 3) := by decide +kernel
theorem dX7_need_103 : decode cX7_need 103 = .ok (.iconst 4, 1) := by decide +kernel
theorem dX7_need_104 : decode cX7_need 104 = .ok (.iload_n 1, 1) := by decide +kernel
theorem dX7_need_105 : decode cX7_need 105 = .ok (.imul, 1) := by decide +kernel
theorem dX7_need_106 : decode cX7_need 106 = .ok (.iload_n 2, 1) := by decide +kernel
theorem dX7_need_107 : decode cX7_need 107 = .ok (.iadd, 1) := by decide +kernel
theorem dX7_need_108 : decode cX7_need 108 = .ok (.iload_n 3, 1) := by decide +kernel
theorem dX7_need_109 : decode cX7_need 109 = .ok (.iastore, 1) := by decide +kernel
theorem dX7_need_110 : decode cX7_need 110 = .ok (.aload_n 0, 1) := by decide +kernel
theorem dX7_need_111 : decode cX7_need 111 = .ok (.iconst 0, 1) := by decide +kernel
theorem dX7_need_112 : decode cX7_need 112 = .ok (.putfield 92, 3) := by decide +kernel
theorem dX7_need_115 : decode cX7_need 115 = .ok (.iload 4, 2) := by decide +kernel
theorem dX7_need_117 : decode cX7_need 117 = .ok (.ireturn, 1) := by decide +kernel
theorem dX7_named_0 : decode cX7_named 0 = .ok (.aload_n 0, 1) := by decide +kernel
theorem dX7_named_1 : decode cX7_named 1 = .ok (.iload_n 1, 1) := by decide +kernel
theorem dX7_named_2 : decode cX7_named 2 = .ok (.invokevirtual 101, 3) := by decide +kernel
theorem dX7_named_5 : decode cX7_named 5 = .ok (.ifCond .eq 12, 3) := by decide +kernel
theorem dX7_named_8 : decode cX7_named 8 = .ok (.iload_n 2, 1) := by decide +kernel
theorem dX7_named_9 : decode cX7_named 9 = .ok (.ifCond .lt 8, 3) := by decide +kernel
theorem dX7_named_12 : decode cX7_named 12 = .ok (.iload_n 2, 1) := by decide +kernel
theorem dX7_named_13 : decode cX7_named 13 = .ok (.iconst 2, 1) := by decide +kernel
theorem dX7_named_14 : decode cX7_named 14 = .ok (.if_icmp .le 6, 3) := by decide +kernel
theorem dX7_named_17 : decode cX7_named 17 = .ok (.bipush (-2), 2) := by decide +kernel
theorem dX7_named_19 : decode cX7_named 19 = .ok (.ireturn, 1) := by decide +kernel
theorem dX7_named_20 : decode cX7_named 20 = .ok (.aload_n 0, 1) := by decide +kernel
theorem dX7_named_21 : decode cX7_named 21 = .ok (.getfield 16, 3) := by decide +kernel
theorem dX7_named_24 : decode cX7_named 24 = .ok (.iload_n 1, 1) := by decide +kernel
theorem dX7_named_25 : decode cX7_named 25 = .ok (.iaload, 1) := by decide +kernel
theorem dX7_named_26 : decode cX7_named 26 = .ok (.ifCond .ge 6, 3) := by decide +kernel
theorem dX7_named_29 : decode cX7_named 29 = .ok (.bipush (-10), 2) := by decide +kernel
theorem dX7_named_31 : decode cX7_named 31 = .ok (.ireturn, 1) := by decide +kernel
theorem dX7_named_32 : decode cX7_named 32 = .ok (.aload_n 0, 1) := by decide +kernel
theorem dX7_named_33 : decode cX7_named 33 = .ok (.getfield 13, 3) := by decide +kernel
theorem dX7_named_36 : decode cX7_named 36 = .ok (.iload_n 1, 1) := by decide +kernel
theorem dX7_named_37 : decode cX7_named 37 = .ok (.iaload, 1) := by decide +kernel
theorem dX7_named_38 : decode cX7_named 38 = .ok (.iload_n 2, 1) := by decide +kernel
theorem dX7_named_39 : decode cX7_named 39 = .ok (.if_icmp .eq 6, 3) := by decide +kernel
theorem dX7_named_42 : decode cX7_named 42 = .ok (.bipush (-12), 2) := by decide +kernel
theorem dX7_named_44 : decode cX7_named 44 = .ok (.ireturn, 1) := by decide +kernel
theorem dX7_named_45 : decode cX7_named 45 = .ok (.iload_n 3, 1) := by decide +kernel
theorem dX7_named_46 : decode cX7_named 46 = .ok (.ifCond .lt 13, 3) := by decide +kernel
theorem dX7_named_49 : decode cX7_named 49 = .ok (.iload_n 3, 1) := by decide +kernel
theorem dX7_named_50 : decode cX7_named 50 = .ok (.aload_n 0, 1) := by decide +kernel
theorem dX7_named_51 : decode cX7_named 51 = .ok (.getfield 16, 3) := by decide +kernel
theorem dX7_named_54 : decode cX7_named 54 = .ok (.iload_n 1, 1) := by decide +kernel
theorem dX7_named_55 : decode cX7_named 55 = .ok (.iaload, 1) := by decide +kernel
theorem dX7_named_56 : decode cX7_named 56 = .ok (.if_icmp .lt 8, 3) := by decide +kernel
theorem dX7_named_59 : decode cX7_named 59 = .ok (.bipush (-11), 2) := by decide +kernel
theorem dX7_named_61 : decode cX7_named 61 = .ok (.goto 13, 3) := by decide +kernel
theorem dX7_named_64 : decode cX7_named 64 = .ok (.aload_n 0, 1) := by decide +kernel
theorem dX7_named_65 : decode cX7_named 65 = .ok (.getfield 19, 3) := by decide +kernel
theorem dX7_named_68 : decode cX7_named 68 = .ok (.iconst 4, 1) := by decide +kernel
theorem dX7_named_69 : decode cX7_named 69 = .ok (.iload_n 1, 1) := by decide +kernel
theorem dX7_named_70 : decode cX7_named 70 = .ok (.imul, 1) := by decide +kernel
theorem dX7_named_71 : decode cX7_named 71 = .ok (.iload_n 3, 1) := by decide +kernel
theorem dX7_named_72 : decode cX7_named 72 = .ok (.iadd, 1) := by decide +kernel
theorem dX7_named_73 : decode cX7_named 73 = .ok (.iaload, 1) := by decide +kernel
theorem dX7_named_74 : decode cX7_named 74 = .ok (.ireturn, 1) := by decide +kernel
theorem dX7_ring_0 : decode cX7_ring 0 = .ok (.iload_n 1, 1) := by decide +kernel
theorem dX7_ring_1 : decode cX7_ring 1 = .ok (.ifCond .lt 11, 3) := by decide +kernel
theorem dX7_ring_4 : decode cX7_ring 4 = .ok (.iload_n 1, 1) := by decide +kernel
theorem dX7_ring_5 : decode cX7_ring 5 = .ok (.aload_n 0, 1) := by decide +kernel
theorem dX7_ring_6 : decode cX7_ring 6 = .ok (.getfield 108, 3) := by decide +kernel
theorem dX7_ring_9 : decode cX7_ring 9 = .ok (.if_icmp .lt 7, 3) := by decide +kernel
theorem dX7_ring_12 : decode cX7_ring 12 = .ok (.iconst (-1), 1) := by decide +kernel
theorem dX7_ring_13 : decode cX7_ring 13 = .ok (.goto 9, 3) := by decide +kernel
theorem dX7_ring_16 : decode cX7_ring 16 = .ok (.aload_n 0, 1) := by decide +kernel
theorem dX7_ring_17 : decode cX7_ring 17 = .ok (.getfield 45, 3) := by decide +kernel
theorem dX7_ring_20 : decode cX7_ring 20 = .ok (.iload_n 1, 1) := by decide +kernel
theorem dX7_ring_21 : decode cX7_ring 21 = .ok (.iaload, 1) := by decide +kernel
theorem dX7_ring_22 : decode cX7_ring 22 = .ok (.ireturn, 1) := by decide +kernel
theorem dX7_order_0 : decode cX7_order 0 = .ok (.iconst 0, 1) := by decide +kernel
theorem dX7_order_1 : decode cX7_order 1 = .ok (.istore_n 2, 1) := by decide +kernel
theorem dX7_order_2 : decode cX7_order 2 = .ok (.iconst 0, 1) := by decide +kernel
theorem dX7_order_3 : decode cX7_order 3 = .ok (.istore_n 3, 1) := by decide +kernel
theorem dX7_order_4 : decode cX7_order 4 = .ok (.iconst 0, 1) := by decide +kernel
theorem dX7_order_5 : decode cX7_order 5 = .ok (.istore 4, 2) := by decide +kernel
theorem dX7_order_7 : decode cX7_order 7 = .ok (.iload 4, 2) := by decide +kernel
theorem dX7_order_9 : decode cX7_order 9 = .ok (.ifCond .lt 158, 3) := by decide +kernel
theorem dX7_order_12 : decode cX7_order 12 = .ok (.iload_n 1, 1) := by decide +kernel
theorem dX7_order_13 : decode cX7_order 13 = .ok (.ifCond .lt 154, 3) := by decide +kernel
theorem dX7_order_16 : decode cX7_order 16 = .ok (.iconst (-1), 1) := by decide +kernel
theorem dX7_order_17 : decode cX7_order 17 = .ok (.istore 4, 2) := by decide +kernel
theorem dX7_order_19 : decode cX7_order 19 = .ok (.aload_n 0, 1) := by decide +kernel
theorem dX7_order_20 : decode cX7_order 20 = .ok (.getfield 73, 3) := by decide +kernel
theorem dX7_order_23 : decode cX7_order 23 = .ok (.iconst 1, 1) := by decide +kernel
theorem dX7_order_24 : decode cX7_order 24 = .ok (.isub, 1) := by decide +kernel
theorem dX7_order_25 : decode cX7_order 25 = .ok (.istore 5, 2) := by decide +kernel
theorem dX7_order_27 : decode cX7_order 27 = .ok (.iload 5, 2) := by decide +kernel
theorem dX7_order_29 : decode cX7_order 29 = .ok (.ifCond .lt 108, 3) := by decide +kernel
theorem dX7_order_32 : decode cX7_order 32 = .ok (.aload_n 0, 1) := by decide +kernel
theorem dX7_order_33 : decode cX7_order 33 = .ok (.getfield 16, 3) := by decide +kernel
theorem dX7_order_36 : decode cX7_order 36 = .ok (.iload 5, 2) := by decide +kernel
theorem dX7_order_38 : decode cX7_order 38 = .ok (.iaload, 1) := by decide +kernel
theorem dX7_order_39 : decode cX7_order 39 = .ok (.ifCond .lt 16, 3) := by decide +kernel
theorem dX7_order_42 : decode cX7_order 42 = .ok (.iload_n 2, 1) := by decide +kernel
theorem dX7_order_43 : decode cX7_order 43 = .ok (.iload 5, 2) := by decide +kernel
theorem dX7_order_45 : decode cX7_order 45 = .ok (.invokestatic 76, 3) := by decide +kernel
theorem dX7_order_48 : decode cX7_order 48 = .ok (.ifCond .ne 7, 3) := by decide +kernel
theorem dX7_order_51 : decode cX7_order 51 = .ok (.iconst 1, 1) := by decide +kernel
theorem dX7_order_52 : decode cX7_order 52 = .ok (.goto 4, 3) := by decide +kernel
theorem dX7_order_55 : decode cX7_order 55 = .ok (.iconst 0, 1) := by decide +kernel
theorem dX7_order_56 : decode cX7_order 56 = .ok (.istore 6, 2) := by decide +kernel
theorem dX7_order_58 : decode cX7_order 58 = .ok (.iconst 0, 1) := by decide +kernel
theorem dX7_order_59 : decode cX7_order 59 = .ok (.istore 7, 2) := by decide +kernel
theorem dX7_order_61 : decode cX7_order 61 = .ok (.iload 7, 2) := by decide +kernel
theorem dX7_order_63 : decode cX7_order 63 = .ok (.aload_n 0, 1) := by decide +kernel
theorem dX7_order_64 : decode cX7_order 64 = .ok (.getfield 16, 3) := by decide +kernel
theorem dX7_order_67 : decode cX7_order 67 = .ok (.iload 5, 2) := by decide +kernel
theorem dX7_order_69 : decode cX7_order 69 = .ok (.iaload, 1) := by decide +kernel
theorem dX7_order_70 : decode cX7_order 70 = .ok (.if_icmp .ge 47, 3) := by decide +kernel
theorem dX7_order_73 : decode cX7_order 73 = .ok (.aload_n 0, 1) := by decide +kernel
theorem dX7_order_74 : decode cX7_order 74 = .ok (.getfield 19, 3) := by decide +kernel
theorem dX7_order_77 : decode cX7_order 77 = .ok (.iconst 4, 1) := by decide +kernel
theorem dX7_order_78 : decode cX7_order 78 = .ok (.iload 5, 2) := by decide +kernel
theorem dX7_order_80 : decode cX7_order 80 = .ok (.imul, 1) := by decide +kernel
theorem dX7_order_81 : decode cX7_order 81 = .ok (.iload 7, 2) := by decide +kernel
theorem dX7_order_83 : decode cX7_order 83 = .ok (.iadd, 1) := by decide +kernel
theorem dX7_order_84 : decode cX7_order 84 = .ok (.iaload, 1) := by decide +kernel
theorem dX7_order_85 : decode cX7_order 85 = .ok (.istore 8, 2) := by decide +kernel
theorem dX7_order_87 : decode cX7_order 87 = .ok (.iload 6, 2) := by decide +kernel
theorem dX7_order_89 : decode cX7_order 89 = .ok (.iload 8, 2) := by decide +kernel
theorem dX7_order_91 : decode cX7_order 91 = .ok (.ifCond .lt 12, 3) := by decide +kernel
theorem dX7_order_94 : decode cX7_order 94 = .ok (.iload_n 2, 1) := by decide +kernel
theorem dX7_order_95 : decode cX7_order 95 = .ok (.iload 8, 2) := by decide +kernel
theorem dX7_order_97 : decode cX7_order 97 = .ok (.invokestatic 76, 3) := by decide +kernel
theorem dX7_order_100 : decode cX7_order 100 = .ok (.ifCond .eq 7, 3) := by decide +kernel
theorem dX7_order_103 : decode cX7_order 103 = .ok (.iconst 1, 1) := by decide +kernel
theorem dX7_order_104 : decode cX7_order 104 = .ok (.goto 4, 3) := by decide +kernel
theorem dX7_order_107 : decode cX7_order 107 = .ok (.iconst 0, 1) := by decide +kernel
theorem dX7_order_108 : decode cX7_order 108 = .ok (.iand, 1) := by decide +kernel
theorem dX7_order_109 : decode cX7_order 109 = .ok (.istore 6, 2) := by decide +kernel
theorem dX7_order_111 : decode cX7_order 111 = .ok (.iinc 7 1, 3) := by decide +kernel
theorem dX7_order_114 : decode cX7_order 114 = .ok (.goto (-53), 3) := by decide +kernel
theorem dX7_order_117 : decode cX7_order 117 = .ok (.iload 6, 2) := by decide +kernel
theorem dX7_order_119 : decode cX7_order 119 = .ok (.ifCond .eq 8, 3) := by decide +kernel
theorem dX7_order_122 : decode cX7_order 122 = .ok (.iload 5, 2) := by decide +kernel
theorem dX7_order_124 : decode cX7_order 124 = .ok (.goto 5, 3) := by decide +kernel
theorem dX7_order_127 : decode cX7_order 127 = .ok (.iload 4, 2) := by decide +kernel
theorem dX7_order_129 : decode cX7_order 129 = .ok (.istore 4, 2) := by decide +kernel
theorem dX7_order_131 : decode cX7_order 131 = .ok (.iinc 5 (-1), 3) := by decide +kernel
theorem dX7_order_134 : decode cX7_order 134 = .ok (.goto (-107), 3) := by decide +kernel
theorem dX7_order_137 : decode cX7_order 137 = .ok (.iload_n 3, 1) := by decide +kernel
theorem dX7_order_138 : decode cX7_order 138 = .ok (.iload_n 1, 1) := by decide +kernel
theorem dX7_order_139 : decode cX7_order 139 = .ok (.if_icmp .ne 6, 3) := by decide +kernel
theorem dX7_order_142 : decode cX7_order 142 = .ok (.iload 4, 2) := by decide +kernel
theorem dX7_order_144 : decode cX7_order 144 = .ok (.ireturn, 1) := by decide +kernel
theorem dX7_order_145 : decode cX7_order 145 = .ok (.iinc 3 1, 3) := by decide +kernel
theorem dX7_order_148 : decode cX7_order 148 = .ok (.iload_n 2, 1) := by decide +kernel
theorem dX7_order_149 : decode cX7_order 149 = .ok (.iload 4, 2) := by decide +kernel
theorem dX7_order_151 : decode cX7_order 151 = .ok (.ifCond .ge 7, 3) := by decide +kernel
theorem dX7_order_154 : decode cX7_order 154 = .ok (.iconst 0, 1) := by decide +kernel
theorem dX7_order_155 : decode cX7_order 155 = .ok (.goto 7, 3) := by decide +kernel
theorem dX7_order_158 : decode cX7_order 158 = .ok (.iconst 1, 1) := by decide +kernel
theorem dX7_order_159 : decode cX7_order 159 = .ok (.iload 4, 2) := by decide +kernel
theorem dX7_order_161 : decode cX7_order 161 = .ok (.ishl, 1) := by decide +kernel
theorem dX7_order_162 : decode cX7_order 162 = .ok (.ior, 1) := by decide +kernel
theorem dX7_order_163 : decode cX7_order 163 = .ok (.istore_n 2, 1) := by decide +kernel
theorem dX7_order_164 : decode cX7_order 164 = .ok (.goto (-157), 3) := by decide +kernel
theorem dX7_order_167 : decode cX7_order 167 = .ok (.iconst (-1), 1) := by decide +kernel
theorem dX7_order_168 : decode cX7_order 168 = .ok (.ireturn, 1) := by decide +kernel
theorem dX7_goal_0 : decode cX7_goal 0 = .ok (.aload_n 0, 1) := by decide +kernel
theorem dX7_goal_1 : decode cX7_goal 1 = .ok (.iload_n 1, 1) := by decide +kernel
theorem dX7_goal_2 : decode cX7_goal 2 = .ok (.invokevirtual 101, 3) := by decide +kernel
theorem dX7_goal_5 : decode cX7_goal 5 = .ok (.ifCond .eq 15, 3) := by decide +kernel
theorem dX7_goal_8 : decode cX7_goal 8 = .ok (.aload_n 0, 1) := by decide +kernel
theorem dX7_goal_9 : decode cX7_goal 9 = .ok (.getfield 119, 3) := by decide +kernel
theorem dX7_goal_12 : decode cX7_goal 12 = .ok (.iconst 3, 1) := by decide +kernel
theorem dX7_goal_13 : decode cX7_goal 13 = .ok (.if_icmp .ge 7, 3) := by decide +kernel
theorem dX7_goal_16 : decode cX7_goal 16 = .ok (.iconst 1, 1) := by decide +kernel
theorem dX7_goal_17 : decode cX7_goal 17 = .ok (.goto 4, 3) := by decide +kernel
theorem dX7_goal_20 : decode cX7_goal 20 = .ok (.iconst 0, 1) := by decide +kernel
theorem dX7_goal_21 : decode cX7_goal 21 = .ok (.istore_n 2, 1) := by decide +kernel
theorem dX7_goal_22 : decode cX7_goal 22 = .ok (.iconst 0, 1) := by decide +kernel
theorem dX7_goal_23 : decode cX7_goal 23 = .ok (.istore_n 3, 1) := by decide +kernel
theorem dX7_goal_24 : decode cX7_goal 24 = .ok (.iload_n 3, 1) := by decide +kernel
theorem dX7_goal_25 : decode cX7_goal 25 = .ok (.aload_n 0, 1) := by decide +kernel
theorem dX7_goal_26 : decode cX7_goal 26 = .ok (.getfield 119, 3) := by decide +kernel
theorem dX7_goal_29 : decode cX7_goal 29 = .ok (.if_icmp .ge 27, 3) := by decide +kernel
theorem dX7_goal_32 : decode cX7_goal 32 = .ok (.iload_n 2, 1) := by decide +kernel
theorem dX7_goal_33 : decode cX7_goal 33 = .ok (.aload_n 0, 1) := by decide +kernel
theorem dX7_goal_34 : decode cX7_goal 34 = .ok (.getfield 29, 3) := by decide +kernel
theorem dX7_goal_37 : decode cX7_goal 37 = .ok (.iload_n 3, 1) := by decide +kernel
theorem dX7_goal_38 : decode cX7_goal 38 = .ok (.iaload, 1) := by decide +kernel
theorem dX7_goal_39 : decode cX7_goal 39 = .ok (.iload_n 1, 1) := by decide +kernel
theorem dX7_goal_40 : decode cX7_goal 40 = .ok (.if_icmp .eq 7, 3) := by decide +kernel
theorem dX7_goal_43 : decode cX7_goal 43 = .ok (.iconst 1, 1) := by decide +kernel
theorem dX7_goal_44 : decode cX7_goal 44 = .ok (.goto 4, 3) := by decide +kernel
theorem dX7_goal_47 : decode cX7_goal 47 = .ok (.iconst 0, 1) := by decide +kernel
theorem dX7_goal_48 : decode cX7_goal 48 = .ok (.iand, 1) := by decide +kernel
theorem dX7_goal_49 : decode cX7_goal 49 = .ok (.istore_n 2, 1) := by decide +kernel
theorem dX7_goal_50 : decode cX7_goal 50 = .ok (.iinc 3 1, 3) := by decide +kernel
theorem dX7_goal_53 : decode cX7_goal 53 = .ok (.goto (-29), 3) := by decide +kernel
theorem dX7_goal_56 : decode cX7_goal 56 = .ok (.iload_n 2, 1) := by decide +kernel
theorem dX7_goal_57 : decode cX7_goal 57 = .ok (.ifCond .ne 6, 3) := by decide +kernel
theorem dX7_goal_60 : decode cX7_goal 60 = .ok (.bipush (-2), 2) := by decide +kernel
theorem dX7_goal_62 : decode cX7_goal 62 = .ok (.ireturn, 1) := by decide +kernel
theorem dX7_goal_63 : decode cX7_goal 63 = .ok (.aload_n 0, 1) := by decide +kernel
theorem dX7_goal_64 : decode cX7_goal 64 = .ok (.getfield 29, 3) := by decide +kernel
theorem dX7_goal_67 : decode cX7_goal 67 = .ok (.aload_n 0, 1) := by decide +kernel
theorem dX7_goal_68 : decode cX7_goal 68 = .ok (.getfield 119, 3) := by decide +kernel
theorem dX7_goal_71 : decode cX7_goal 71 = .ok (.iload_n 1, 1) := by decide +kernel
theorem dX7_goal_72 : decode cX7_goal 72 = .ok (.iastore, 1) := by decide +kernel
theorem dX7_goal_73 : decode cX7_goal 73 = .ok (.aload_n 0, 1) := by decide +kernel
theorem dX7_goal_74 : decode cX7_goal 74 = .ok (.dup, 1) := by decide +kernel
theorem dX7_goal_75 : decode cX7_goal 75 = .ok (.getfield 119, 3) := by decide +kernel
theorem dX7_goal_78 : decode cX7_goal 78 = .ok (.iconst 1, 1) := by decide +kernel
theorem dX7_goal_79 : decode cX7_goal 79 = .ok (.iadd, 1) := by decide +kernel
theorem dX7_goal_80 : decode cX7_goal 80 = .ok (.putfield 119, 3) := by decide +kernel
theorem dX7_goal_83 : decode cX7_goal 83 = .ok (.aload_n 0, 1) := by decide +kernel
theorem dX7_goal_84 : decode cX7_goal 84 = .ok (.getfield 119, 3) := by decide +kernel
theorem dX7_goal_87 : decode cX7_goal 87 = .ok (.ireturn, 1) := by decide +kernel
theorem dX7_forget_0 : decode cX7_forget 0 = .ok (.aload_n 0, 1) := by decide +kernel
theorem dX7_forget_1 : decode cX7_forget 1 = .ok (.getfield 119, 3) := by decide +kernel
theorem dX7_forget_4 : decode cX7_forget 4 = .ok (.istore_n 1, 1) := by decide +kernel
theorem dX7_forget_5 : decode cX7_forget 5 = .ok (.aload_n 0, 1) := by decide +kernel
theorem dX7_forget_6 : decode cX7_forget 6 = .ok (.iconst 0, 1) := by decide +kernel
theorem dX7_forget_7 : decode cX7_forget 7 = .ok (.putfield 119, 3) := by decide +kernel
theorem dX7_forget_10 : decode cX7_forget 10 = .ok (.iload_n 1, 1) := by decide +kernel
theorem dX7_forget_11 : decode cX7_forget 11 = .ok (.ireturn, 1) := by decide +kernel
theorem dX7_together_0 : decode cX7_together 0 = .ok (.aload_n 0, 1) := by decide +kernel
theorem dX7_together_1 : decode cX7_together 1 = .ok (.getfield 122, 3) := by decide +kernel
theorem dX7_together_4 : decode cX7_together 4 = .ok (.ifCond .eq 7, 3) := by decide +kernel
theorem dX7_together_7 : decode cX7_together 7 = .ok (.iconst 1, 1) := by decide +kernel
theorem dX7_together_8 : decode cX7_together 8 = .ok (.goto 4, 3) := by decide +kernel
theorem dX7_together_11 : decode cX7_together 11 = .ok (.iconst 0, 1) := by decide +kernel
theorem dX7_together_12 : decode cX7_together 12 = .ok (.istore_n 2, 1) := by decide +kernel
theorem dX7_together_13 : decode cX7_together 13 = .ok (.aload_n 0, 1) := by decide +kernel
theorem dX7_together_14 : decode cX7_together 14 = .ok (.iload_n 1, 1) := by decide +kernel
theorem dX7_together_15 : decode cX7_together 15 = .ok (.putfield 122, 3) := by decide +kernel
theorem dX7_together_18 : decode cX7_together 18 = .ok (.iload_n 2, 1) := by decide +kernel
theorem dX7_together_19 : decode cX7_together 19 = .ok (.ireturn, 1) := by decide +kernel
theorem dX7_why_0 : decode cX7_why 0 = .ok (.aload_n 0, 1) := by decide +kernel
theorem dX7_why_1 : decode cX7_why 1 = .ok (.iload_n 1, 1) := by decide +kernel
theorem dX7_why_2 : decode cX7_why 2 = .ok (.invokevirtual 101, 3) := by decide +kernel
theorem dX7_why_5 : decode cX7_why 5 = .ok (.ifCond .eq 23, 3) := by decide +kernel
theorem dX7_why_8 : decode cX7_why 8 = .ok (.aload_n 0, 1) := by decide +kernel
theorem dX7_why_9 : decode cX7_why 9 = .ok (.aload_n 0, 1) := by decide +kernel
theorem dX7_why_10 : decode cX7_why 10 = .ok (.getfield 95, 3) := by decide +kernel
theorem dX7_why_13 : decode cX7_why 13 = .ok (.aload_n 0, 1) := by decide +kernel
theorem dX7_why_14 : decode cX7_why 14 = .ok (.getfield 98, 3) := by decide +kernel
theorem dX7_why_17 : decode cX7_why 17 = .ok (.iload_n 1, 1) := by decide +kernel
theorem dX7_why_18 : decode cX7_why 18 = .ok (.aload_n 0, 1) := by decide +kernel
theorem dX7_why_19 : decode cX7_why 19 = .ok (.getfield 25, 3) := by decide +kernel
theorem dX7_why_22 : decode cX7_why 22 = .ok (.invokevirtual 126, 3) := by decide +kernel
theorem dX7_why_25 : decode cX7_why 25 = .ok (.goto 5, 3) := by decide +kernel
theorem dX7_why_28 : decode cX7_why 28 = .ok (.bipush (-2), 2) := by decide +kernel
theorem dX7_why_30 : decode cX7_why 30 = .ok (.ireturn, 1) := by decide +kernel
theorem dX7_make_0 : decode cX7_make 0 = .ok (.aload_n 0, 1) := by decide +kernel
theorem dX7_make_1 : decode cX7_make 1 = .ok (.iload_n 1, 1) := by decide +kernel
theorem dX7_make_2 : decode cX7_make 2 = .ok (.invokevirtual 101, 3) := by decide +kernel
theorem dX7_make_5 : decode cX7_make 5 = .ok (.ifCond .eq 23, 3) := by decide +kernel
theorem dX7_make_8 : decode cX7_make 8 = .ok (.aload_n 0, 1) := by decide +kernel
theorem dX7_make_9 : decode cX7_make 9 = .ok (.aload_n 0, 1) := by decide +kernel
theorem dX7_make_10 : decode cX7_make 10 = .ok (.getfield 95, 3) := by decide +kernel
theorem dX7_make_13 : decode cX7_make 13 = .ok (.aload_n 0, 1) := by decide +kernel
theorem dX7_make_14 : decode cX7_make 14 = .ok (.getfield 98, 3) := by decide +kernel
theorem dX7_make_17 : decode cX7_make 17 = .ok (.iload_n 1, 1) := by decide +kernel
theorem dX7_make_18 : decode cX7_make 18 = .ok (.aload_n 0, 1) := by decide +kernel
theorem dX7_make_19 : decode cX7_make 19 = .ok (.getfield 25, 3) := by decide +kernel
theorem dX7_make_22 : decode cX7_make 22 = .ok (.invokevirtual 126, 3) := by decide +kernel
theorem dX7_make_25 : decode cX7_make 25 = .ok (.ifCond .eq 6, 3) := by decide +kernel
theorem dX7_make_28 : decode cX7_make 28 = .ok (.bipush (-2), 2) := by decide +kernel
theorem dX7_make_30 : decode cX7_make 30 = .ok (.ireturn, 1) := by decide +kernel
theorem dX7_make_31 : decode cX7_make 31 = .ok (.aload_n 0, 1) := by decide +kernel
theorem dX7_make_32 : decode cX7_make 32 = .ok (.iload_n 1, 1) := by decide +kernel
theorem dX7_make_33 : decode cX7_make 33 = .ok (.invokevirtual 130, 3) := by decide +kernel
theorem dX7_make_36 : decode cX7_make 36 = .ok (.aload_n 0, 1) := by decide +kernel
theorem dX7_make_37 : decode cX7_make 37 = .ok (.aload_n 0, 1) := by decide +kernel
theorem dX7_make_38 : decode cX7_make 38 = .ok (.aload_n 0, 1) := by decide +kernel
theorem dX7_make_39 : decode cX7_make 39 = .ok (.getfield 95, 3) := by decide +kernel
theorem dX7_make_42 : decode cX7_make 42 = .ok (.iload_n 1, 1) := by decide +kernel
theorem dX7_make_43 : decode cX7_make 43 = .ok (.invokevirtual 133, 3) := by decide +kernel
theorem dX7_make_46 : decode cX7_make 46 = .ok (.putfield 95, 3) := by decide +kernel
theorem dX7_make_49 : decode cX7_make 49 = .ok (.aload_n 0, 1) := by decide +kernel
theorem dX7_make_50 : decode cX7_make 50 = .ok (.aload_n 0, 1) := by decide +kernel
theorem dX7_make_51 : decode cX7_make 51 = .ok (.iload_n 1, 1) := by decide +kernel
theorem dX7_make_52 : decode cX7_make 52 = .ok (.invokevirtual 136, 3) := by decide +kernel
theorem dX7_make_55 : decode cX7_make 55 = .ok (.putfield 98, 3) := by decide +kernel
theorem dX7_make_58 : decode cX7_make 58 = .ok (.aload_n 0, 1) := by decide +kernel
theorem dX7_make_59 : decode cX7_make 59 = .ok (.getfield 22, 3) := by decide +kernel
theorem dX7_make_62 : decode cX7_make 62 = .ok (.iload_n 1, 1) := by decide +kernel
theorem dX7_make_63 : decode cX7_make 63 = .ok (.dup2, 1) := by decide +kernel
theorem dX7_make_64 : decode cX7_make 64 = .ok (.iaload, 1) := by decide +kernel
theorem dX7_make_65 : decode cX7_make 65 = .ok (.iconst 1, 1) := by decide +kernel
theorem dX7_make_66 : decode cX7_make 66 = .ok (.iadd, 1) := by decide +kernel
theorem dX7_make_67 : decode cX7_make 67 = .ok (.iastore, 1) := by decide +kernel
theorem dX7_make_68 : decode cX7_make 68 = .ok (.aload_n 0, 1) := by decide +kernel
theorem dX7_make_69 : decode cX7_make 69 = .ok (.invokevirtual 139, 3) := by decide +kernel
theorem dX7_make_72 : decode cX7_make 72 = .ok (.ireturn, 1) := by decide +kernel
theorem dX7_pour_0 : decode cX7_pour 0 = .ok (.aload_n 0, 1) := by decide +kernel
theorem dX7_pour_1 : decode cX7_pour 1 = .ok (.iload_n 1, 1) := by decide +kernel
theorem dX7_pour_2 : decode cX7_pour 2 = .ok (.invokevirtual 101, 3) := by decide +kernel
theorem dX7_pour_5 : decode cX7_pour 5 = .ok (.ifCond .eq 14, 3) := by decide +kernel
theorem dX7_pour_8 : decode cX7_pour 8 = .ok (.aload_n 0, 1) := by decide +kernel
theorem dX7_pour_9 : decode cX7_pour 9 = .ok (.getfield 95, 3) := by decide +kernel
theorem dX7_pour_12 : decode cX7_pour 12 = .ok (.iload_n 1, 1) := by decide +kernel
theorem dX7_pour_13 : decode cX7_pour 13 = .ok (.invokestatic 76, 3) := by decide +kernel
theorem dX7_pour_16 : decode cX7_pour 16 = .ok (.ifCond .ne 6, 3) := by decide +kernel
theorem dX7_pour_19 : decode cX7_pour 19 = .ok (.bipush (-2), 2) := by decide +kernel
theorem dX7_pour_21 : decode cX7_pour 21 = .ok (.ireturn, 1) := by decide +kernel
theorem dX7_pour_22 : decode cX7_pour 22 = .ok (.aload_n 0, 1) := by decide +kernel
theorem dX7_pour_23 : decode cX7_pour 23 = .ok (.iconst (-1), 1) := by decide +kernel
theorem dX7_pour_24 : decode cX7_pour 24 = .ok (.invokevirtual 130, 3) := by decide +kernel
theorem dX7_pour_27 : decode cX7_pour 27 = .ok (.aload_n 0, 1) := by decide +kernel
theorem dX7_pour_28 : decode cX7_pour 28 = .ok (.dup, 1) := by decide +kernel
theorem dX7_pour_29 : decode cX7_pour 29 = .ok (.getfield 95, 3) := by decide +kernel
theorem dX7_pour_32 : decode cX7_pour 32 = .ok (.iconst 1, 1) := by decide +kernel
theorem dX7_pour_33 : decode cX7_pour 33 = .ok (.iload_n 1, 1) := by decide +kernel
theorem dX7_pour_34 : decode cX7_pour 34 = .ok (.ishl, 1) := by decide +kernel
theorem dX7_pour_35 : decode cX7_pour 35 = .ok (.iconst (-1), 1) := by decide +kernel
theorem dX7_pour_36 : decode cX7_pour 36 = .ok (.ixor, 1) := by decide +kernel
theorem dX7_pour_37 : decode cX7_pour 37 = .ok (.iand, 1) := by decide +kernel
theorem dX7_pour_38 : decode cX7_pour 38 = .ok (.putfield 95, 3) := by decide +kernel
theorem dX7_pour_41 : decode cX7_pour 41 = .ok (.aload_n 0, 1) := by decide +kernel
theorem dX7_pour_42 : decode cX7_pour 42 = .ok (.aload_n 0, 1) := by decide +kernel
theorem dX7_pour_43 : decode cX7_pour 43 = .ok (.getfield 98, 3) := by decide +kernel
theorem dX7_pour_46 : decode cX7_pour 46 = .ok (.iload_n 1, 1) := by decide +kernel
theorem dX7_pour_47 : decode cX7_pour 47 = .ok (.invokestatic 143, 3) := by decide +kernel
theorem dX7_pour_50 : decode cX7_pour 50 = .ok (.putfield 98, 3) := by decide +kernel
theorem dX7_pour_53 : decode cX7_pour 53 = .ok (.aload_n 0, 1) := by decide +kernel
theorem dX7_pour_54 : decode cX7_pour 54 = .ok (.invokevirtual 139, 3) := by decide +kernel
theorem dX7_pour_57 : decode cX7_pour 57 = .ok (.ireturn, 1) := by decide +kernel
theorem dX7_undo_0 : decode cX7_undo 0 = .ok (.aload_n 0, 1) := by decide +kernel
theorem dX7_undo_1 : decode cX7_undo 1 = .ok (.getfield 92, 3) := by decide +kernel
theorem dX7_undo_4 : decode cX7_undo 4 = .ok (.ifCond .ne 6, 3) := by decide +kernel
theorem dX7_undo_7 : decode cX7_undo 7 = .ok (.bipush (-2), 2) := by decide +kernel
theorem dX7_undo_9 : decode cX7_undo 9 = .ok (.ireturn, 1) := by decide +kernel
theorem dX7_undo_10 : decode cX7_undo 10 = .ok (.aload_n 0, 1) := by decide +kernel
theorem dX7_undo_11 : decode cX7_undo 11 = .ok (.dup, 1) := by decide +kernel
theorem dX7_undo_12 : decode cX7_undo 12 = .ok (.getfield 92, 3) := by decide +kernel
theorem dX7_undo_15 : decode cX7_undo 15 = .ok (.iconst 1, 1) := by decide +kernel
theorem dX7_undo_16 : decode cX7_undo 16 = .ok (.isub, 1) := by decide +kernel
theorem dX7_undo_17 : decode cX7_undo 17 = .ok (.putfield 92, 3) := by decide +kernel
theorem dX7_undo_20 : decode cX7_undo 20 = .ok (.aload_n 0, 1) := by decide +kernel
theorem dX7_undo_21 : decode cX7_undo 21 = .ok (.aload_n 0, 1) := by decide +kernel
theorem dX7_undo_22 : decode cX7_undo 22 = .ok (.getfield 36, 3) := by decide +kernel
theorem dX7_undo_25 : decode cX7_undo 25 = .ok (.aload_n 0, 1) := by decide +kernel
theorem dX7_undo_26 : decode cX7_undo 26 = .ok (.getfield 92, 3) := by decide +kernel
theorem dX7_undo_29 : decode cX7_undo 29 = .ok (.iaload, 1) := by decide +kernel
theorem dX7_undo_30 : decode cX7_undo 30 = .ok (.putfield 95, 3) := by decide +kernel
theorem dX7_undo_33 : decode cX7_undo 33 = .ok (.aload_n 0, 1) := by decide +kernel
theorem dX7_undo_34 : decode cX7_undo 34 = .ok (.aload_n 0, 1) := by decide +kernel
theorem dX7_undo_35 : decode cX7_undo 35 = .ok (.getfield 39, 3) := by decide +kernel
theorem dX7_undo_38 : decode cX7_undo 38 = .ok (.aload_n 0, 1) := by decide +kernel
theorem dX7_undo_39 : decode cX7_undo 39 = .ok (.getfield 92, 3) := by decide +kernel
theorem dX7_undo_42 : decode cX7_undo 42 = .ok (.iaload, 1) := by decide +kernel
theorem dX7_undo_43 : decode cX7_undo 43 = .ok (.putfield 98, 3) := by decide +kernel
theorem dX7_undo_46 : decode cX7_undo 46 = .ok (.aload_n 0, 1) := by decide +kernel
theorem dX7_undo_47 : decode cX7_undo 47 = .ok (.getfield 42, 3) := by decide +kernel
theorem dX7_undo_50 : decode cX7_undo 50 = .ok (.aload_n 0, 1) := by decide +kernel
theorem dX7_undo_51 : decode cX7_undo 51 = .ok (.getfield 92, 3) := by decide +kernel
theorem dX7_undo_54 : decode cX7_undo 54 = .ok (.iaload, 1) := by decide +kernel
theorem dX7_undo_55 : decode cX7_undo 55 = .ok (.ifCond .lt 21, 3) := by decide +kernel
theorem dX7_undo_58 : decode cX7_undo 58 = .ok (.aload_n 0, 1) := by decide +kernel
theorem dX7_undo_59 : decode cX7_undo 59 = .ok (.getfield 22, 3) := by decide +kernel
theorem dX7_undo_62 : decode cX7_undo 62 = .ok (.aload_n 0, 1) := by decide +kernel
theorem dX7_undo_63 : decode cX7_undo 63 = .ok (.getfield 42, 3) := by decide +kernel
theorem dX7_undo_66 : decode cX7_undo 66 = .ok (.aload_n 0, 1) := by decide +kernel
theorem dX7_undo_67 : decode cX7_undo 67 = .ok (.getfield 92, 3) := by decide +kernel
theorem dX7_undo_70 : decode cX7_undo 70 = .ok (.iaload, 1) := by decide +kernel
theorem dX7_undo_71 : decode cX7_undo 71 = .ok (.dup2, 1) := by decide +kernel
theorem dX7_undo_72 : decode cX7_undo 72 = .ok (.iaload, 1) := by decide +kernel
theorem dX7_undo_73 : decode cX7_undo 73 = .ok (.iconst 1, 1) := by decide +kernel
theorem dX7_undo_74 : decode cX7_undo 74 = .ok (.isub, 1) := by decide +kernel
theorem dX7_undo_75 : decode cX7_undo 75 = .ok (.iastore, 1) := by decide +kernel
theorem dX7_undo_76 : decode cX7_undo 76 = .ok (.aload_n 0, 1) := by decide +kernel
theorem dX7_undo_77 : decode cX7_undo 77 = .ok (.getfield 92, 3) := by decide +kernel
theorem dX7_undo_80 : decode cX7_undo 80 = .ok (.ireturn, 1) := by decide +kernel
theorem dX7_of_0 : decode cX7_of 0 = .ok (.aload_n 0, 1) := by decide +kernel
theorem dX7_of_1 : decode cX7_of 1 = .ok (.iload_n 1, 1) := by decide +kernel
theorem dX7_of_2 : decode cX7_of 2 = .ok (.invokevirtual 101, 3) := by decide +kernel
theorem dX7_of_5 : decode cX7_of 5 = .ok (.ifCond .ne 6, 3) := by decide +kernel
theorem dX7_of_8 : decode cX7_of 8 = .ok (.bipush (-2), 2) := by decide +kernel
theorem dX7_of_10 : decode cX7_of 10 = .ok (.ireturn, 1) := by decide +kernel
theorem dX7_of_11 : decode cX7_of 11 = .ok (.iload_n 2, 1) := by decide +kernel
theorem dX7_of_12 : decode cX7_of 12 = .ok (.tableswitch 170 0 6 #[44, 51, 68, 82, 89, 109, 116], 44) := by decide +kernel
theorem dX7_of_56 : decode cX7_of 56 = .ok (.aload_n 0, 1) := by decide +kernel
theorem dX7_of_57 : decode cX7_of 57 = .ok (.getfield 9, 3) := by decide +kernel
theorem dX7_of_60 : decode cX7_of 60 = .ok (.iload_n 1, 1) := by decide +kernel
theorem dX7_of_61 : decode cX7_of 61 = .ok (.iaload, 1) := by decide +kernel
theorem dX7_of_62 : decode cX7_of 62 = .ok (.ireturn, 1) := by decide +kernel
theorem dX7_of_63 : decode cX7_of 63 = .ok (.aload_n 0, 1) := by decide +kernel
theorem dX7_of_64 : decode cX7_of 64 = .ok (.getfield 95, 3) := by decide +kernel
theorem dX7_of_67 : decode cX7_of 67 = .ok (.iload_n 1, 1) := by decide +kernel
theorem dX7_of_68 : decode cX7_of 68 = .ok (.invokestatic 76, 3) := by decide +kernel
theorem dX7_of_71 : decode cX7_of 71 = .ok (.ifCond .eq 7, 3) := by decide +kernel
theorem dX7_of_74 : decode cX7_of 74 = .ok (.iconst 1, 1) := by decide +kernel
theorem dX7_of_75 : decode cX7_of 75 = .ok (.goto 4, 3) := by decide +kernel
theorem dX7_of_78 : decode cX7_of 78 = .ok (.iconst 0, 1) := by decide +kernel
theorem dX7_of_79 : decode cX7_of 79 = .ok (.ireturn, 1) := by decide +kernel
theorem dX7_of_80 : decode cX7_of 80 = .ok (.aload_n 0, 1) := by decide +kernel
theorem dX7_of_81 : decode cX7_of 81 = .ok (.aload_n 0, 1) := by decide +kernel
theorem dX7_of_82 : decode cX7_of 82 = .ok (.getfield 95, 3) := by decide +kernel
theorem dX7_of_85 : decode cX7_of 85 = .ok (.aload_n 0, 1) := by decide +kernel
theorem dX7_of_86 : decode cX7_of 86 = .ok (.getfield 98, 3) := by decide +kernel
theorem dX7_of_89 : decode cX7_of 89 = .ok (.iload_n 1, 1) := by decide +kernel
theorem dX7_of_90 : decode cX7_of 90 = .ok (.invokevirtual 80, 3) := by decide +kernel
theorem dX7_of_93 : decode cX7_of 93 = .ok (.ireturn, 1) := by decide +kernel
theorem dX7_of_94 : decode cX7_of 94 = .ok (.aload_n 0, 1) := by decide +kernel
theorem dX7_of_95 : decode cX7_of 95 = .ok (.getfield 16, 3) := by decide +kernel
theorem dX7_of_98 : decode cX7_of 98 = .ok (.iload_n 1, 1) := by decide +kernel
theorem dX7_of_99 : decode cX7_of 99 = .ok (.iaload, 1) := by decide +kernel
theorem dX7_of_100 : decode cX7_of 100 = .ok (.ireturn, 1) := by decide +kernel
theorem dX7_of_101 : decode cX7_of 101 = .ok (.aload_n 0, 1) := by decide +kernel
theorem dX7_of_102 : decode cX7_of 102 = .ok (.getfield 16, 3) := by decide +kernel
theorem dX7_of_105 : decode cX7_of 105 = .ok (.iload_n 1, 1) := by decide +kernel
theorem dX7_of_106 : decode cX7_of 106 = .ok (.iaload, 1) := by decide +kernel
theorem dX7_of_107 : decode cX7_of 107 = .ok (.ifCond .ge 7, 3) := by decide +kernel
theorem dX7_of_110 : decode cX7_of 110 = .ok (.iconst (-1), 1) := by decide +kernel
theorem dX7_of_111 : decode cX7_of 111 = .ok (.goto 9, 3) := by decide +kernel
theorem dX7_of_114 : decode cX7_of 114 = .ok (.aload_n 0, 1) := by decide +kernel
theorem dX7_of_115 : decode cX7_of 115 = .ok (.getfield 13, 3) := by decide +kernel
theorem dX7_of_118 : decode cX7_of 118 = .ok (.iload_n 1, 1) := by decide +kernel
theorem dX7_of_119 : decode cX7_of 119 = .ok (.iaload, 1) := by decide +kernel
theorem dX7_of_120 : decode cX7_of 120 = .ok (.ireturn, 1) := by decide +kernel
theorem dX7_of_121 : decode cX7_of 121 = .ok (.aload_n 0, 1) := by decide +kernel
theorem dX7_of_122 : decode cX7_of 122 = .ok (.getfield 22, 3) := by decide +kernel
theorem dX7_of_125 : decode cX7_of 125 = .ok (.iload_n 1, 1) := by decide +kernel
theorem dX7_of_126 : decode cX7_of 126 = .ok (.iaload, 1) := by decide +kernel
theorem dX7_of_127 : decode cX7_of 127 = .ok (.ireturn, 1) := by decide +kernel
theorem dX7_of_128 : decode cX7_of 128 = .ok (.aload_n 0, 1) := by decide +kernel
theorem dX7_of_129 : decode cX7_of 129 = .ok (.getfield 9, 3) := by decide +kernel
theorem dX7_of_132 : decode cX7_of 132 = .ok (.iload_n 1, 1) := by decide +kernel
theorem dX7_of_133 : decode cX7_of 133 = .ok (.iaload, 1) := by decide +kernel
theorem dX7_of_134 : decode cX7_of 134 = .ok (.iconst 1, 1) := by decide +kernel
theorem dX7_of_135 : decode cX7_of 135 = .ok (.if_icmp .eq 13, 3) := by decide +kernel
theorem dX7_of_138 : decode cX7_of 138 = .ok (.aload_n 0, 1) := by decide +kernel
theorem dX7_of_139 : decode cX7_of 139 = .ok (.getfield 9, 3) := by decide +kernel
theorem dX7_of_142 : decode cX7_of 142 = .ok (.iload_n 1, 1) := by decide +kernel
theorem dX7_of_143 : decode cX7_of 143 = .ok (.iaload, 1) := by decide +kernel
theorem dX7_of_144 : decode cX7_of 144 = .ok (.iconst 4, 1) := by decide +kernel
theorem dX7_of_145 : decode cX7_of 145 = .ok (.if_icmp .ne 7, 3) := by decide +kernel
theorem dX7_of_148 : decode cX7_of 148 = .ok (.iconst 3, 1) := by decide +kernel
theorem dX7_of_149 : decode cX7_of 149 = .ok (.goto 32, 3) := by decide +kernel
theorem dX7_of_152 : decode cX7_of 152 = .ok (.aload_n 0, 1) := by decide +kernel
theorem dX7_of_153 : decode cX7_of 153 = .ok (.getfield 9, 3) := by decide +kernel
theorem dX7_of_156 : decode cX7_of 156 = .ok (.iload_n 1, 1) := by decide +kernel
theorem dX7_of_157 : decode cX7_of 157 = .ok (.iaload, 1) := by decide +kernel
theorem dX7_of_158 : decode cX7_of 158 = .ok (.iconst 2, 1) := by decide +kernel
theorem dX7_of_159 : decode cX7_of 159 = .ok (.if_icmp .ne 7, 3) := by decide +kernel
theorem dX7_of_162 : decode cX7_of 162 = .ok (.iconst 2, 1) := by decide +kernel
theorem dX7_of_163 : decode cX7_of 163 = .ok (.goto 18, 3) := by decide +kernel
theorem dX7_of_166 : decode cX7_of 166 = .ok (.aload_n 0, 1) := by decide +kernel
theorem dX7_of_167 : decode cX7_of 167 = .ok (.getfield 9, 3) := by decide +kernel
theorem dX7_of_170 : decode cX7_of 170 = .ok (.iload_n 1, 1) := by decide +kernel
theorem dX7_of_171 : decode cX7_of 171 = .ok (.iaload, 1) := by decide +kernel
theorem dX7_of_172 : decode cX7_of 172 = .ok (.iconst 3, 1) := by decide +kernel
theorem dX7_of_173 : decode cX7_of 173 = .ok (.if_icmp .ne 7, 3) := by decide +kernel
theorem dX7_of_176 : decode cX7_of 176 = .ok (.iconst 4, 1) := by decide +kernel
theorem dX7_of_177 : decode cX7_of 177 = .ok (.goto 4, 3) := by decide +kernel
theorem dX7_of_180 : decode cX7_of 180 = .ok (.iconst 1, 1) := by decide +kernel
theorem dX7_of_181 : decode cX7_of 181 = .ok (.ireturn, 1) := by decide +kernel
theorem dX7_of_182 : decode cX7_of 182 = .ok (.bipush (-2), 2) := by decide +kernel
theorem dX7_of_184 : decode cX7_of 184 = .ok (.ireturn, 1) := by decide +kernel
theorem dX7_count_0 : decode cX7_count 0 = .ok (.iconst 0, 1) := by decide +kernel
theorem dX7_count_1 : decode cX7_count 1 = .ok (.istore_n 2, 1) := by decide +kernel
theorem dX7_count_2 : decode cX7_count 2 = .ok (.iload_n 1, 1) := by decide +kernel
theorem dX7_count_3 : decode cX7_count 3 = .ok (.tableswitch 108 0 6 #[41, 46, 83, 88, 93, 98, 103], 41) := by decide +kernel
theorem dX7_count_44 : decode cX7_count 44 = .ok (.aload_n 0, 1) := by decide +kernel
theorem dX7_count_45 : decode cX7_count 45 = .ok (.getfield 73, 3) := by decide +kernel
theorem dX7_count_48 : decode cX7_count 48 = .ok (.ireturn, 1) := by decide +kernel
theorem dX7_count_49 : decode cX7_count 49 = .ok (.iconst 0, 1) := by decide +kernel
theorem dX7_count_50 : decode cX7_count 50 = .ok (.istore_n 3, 1) := by decide +kernel
theorem dX7_count_51 : decode cX7_count 51 = .ok (.iload_n 3, 1) := by decide +kernel
theorem dX7_count_52 : decode cX7_count 52 = .ok (.aload_n 0, 1) := by decide +kernel
theorem dX7_count_53 : decode cX7_count 53 = .ok (.getfield 73, 3) := by decide +kernel
theorem dX7_count_56 : decode cX7_count 56 = .ok (.if_icmp .ge 28, 3) := by decide +kernel
theorem dX7_count_59 : decode cX7_count 59 = .ok (.iload_n 2, 1) := by decide +kernel
theorem dX7_count_60 : decode cX7_count 60 = .ok (.aload_n 0, 1) := by decide +kernel
theorem dX7_count_61 : decode cX7_count 61 = .ok (.getfield 95, 3) := by decide +kernel
theorem dX7_count_64 : decode cX7_count 64 = .ok (.iload_n 3, 1) := by decide +kernel
theorem dX7_count_65 : decode cX7_count 65 = .ok (.invokestatic 76, 3) := by decide +kernel
theorem dX7_count_68 : decode cX7_count 68 = .ok (.ifCond .eq 7, 3) := by decide +kernel
theorem dX7_count_71 : decode cX7_count 71 = .ok (.iconst 1, 1) := by decide +kernel
theorem dX7_count_72 : decode cX7_count 72 = .ok (.goto 4, 3) := by decide +kernel
theorem dX7_count_75 : decode cX7_count 75 = .ok (.iconst 0, 1) := by decide +kernel
theorem dX7_count_76 : decode cX7_count 76 = .ok (.iadd, 1) := by decide +kernel
theorem dX7_count_77 : decode cX7_count 77 = .ok (.istore_n 2, 1) := by decide +kernel
theorem dX7_count_78 : decode cX7_count 78 = .ok (.iinc 3 1, 3) := by decide +kernel
theorem dX7_count_81 : decode cX7_count 81 = .ok (.goto (-30), 3) := by decide +kernel
theorem dX7_count_84 : decode cX7_count 84 = .ok (.iload_n 2, 1) := by decide +kernel
theorem dX7_count_85 : decode cX7_count 85 = .ok (.ireturn, 1) := by decide +kernel
theorem dX7_count_86 : decode cX7_count 86 = .ok (.aload_n 0, 1) := by decide +kernel
theorem dX7_count_87 : decode cX7_count 87 = .ok (.getfield 25, 3) := by decide +kernel
theorem dX7_count_90 : decode cX7_count 90 = .ok (.ireturn, 1) := by decide +kernel
theorem dX7_count_91 : decode cX7_count 91 = .ok (.aload_n 0, 1) := by decide +kernel
theorem dX7_count_92 : decode cX7_count 92 = .ok (.invokevirtual 139, 3) := by decide +kernel
theorem dX7_count_95 : decode cX7_count 95 = .ok (.ireturn, 1) := by decide +kernel
theorem dX7_count_96 : decode cX7_count 96 = .ok (.aload_n 0, 1) := by decide +kernel
theorem dX7_count_97 : decode cX7_count 97 = .ok (.getfield 119, 3) := by decide +kernel
theorem dX7_count_100 : decode cX7_count 100 = .ok (.ireturn, 1) := by decide +kernel
theorem dX7_count_101 : decode cX7_count 101 = .ok (.aload_n 0, 1) := by decide +kernel
theorem dX7_count_102 : decode cX7_count 102 = .ok (.getfield 92, 3) := by decide +kernel
theorem dX7_count_105 : decode cX7_count 105 = .ok (.ireturn, 1) := by decide +kernel
theorem dX7_count_106 : decode cX7_count 106 = .ok (.aload_n 0, 1) := by decide +kernel
theorem dX7_count_107 : decode cX7_count 107 = .ok (.invokevirtual 146, 3) := by decide +kernel
theorem dX7_count_110 : decode cX7_count 110 = .ok (.ireturn, 1) := by decide +kernel
theorem dX7_count_111 : decode cX7_count 111 = .ok (.bipush (-2), 2) := by decide +kernel
theorem dX7_count_113 : decode cX7_count 113 = .ok (.ireturn, 1) := by decide +kernel
theorem dX7_ones_0 : decode cX7_ones 0 = .ok (.iconst 0, 1) := by decide +kernel
theorem dX7_ones_1 : decode cX7_ones 1 = .ok (.istore_n 1, 1) := by decide +kernel
theorem dX7_ones_2 : decode cX7_ones 2 = .ok (.iconst 0, 1) := by decide +kernel
theorem dX7_ones_3 : decode cX7_ones 3 = .ok (.istore_n 2, 1) := by decide +kernel
theorem dX7_ones_4 : decode cX7_ones 4 = .ok (.iload_n 2, 1) := by decide +kernel
theorem dX7_ones_5 : decode cX7_ones 5 = .ok (.sipush 4096, 3) := by decide +kernel
theorem dX7_ones_8 : decode cX7_ones 8 = .ok (.if_icmp .ge 26, 3) := by decide +kernel
theorem dX7_ones_11 : decode cX7_ones 11 = .ok (.iload_n 1, 1) := by decide +kernel
theorem dX7_ones_12 : decode cX7_ones 12 = .ok (.aload_n 0, 1) := by decide +kernel
theorem dX7_ones_13 : decode cX7_ones 13 = .ok (.getfield 32, 3) := by decide +kernel
theorem dX7_ones_16 : decode cX7_ones 16 = .ok (.iload_n 2, 1) := by decide +kernel
theorem dX7_ones_17 : decode cX7_ones 17 = .ok (.baload, 1) := by decide +kernel
theorem dX7_ones_18 : decode cX7_ones 18 = .ok (.ifCond .eq 7, 3) := by decide +kernel
theorem dX7_ones_21 : decode cX7_ones 21 = .ok (.iconst 1, 1) := by decide +kernel
theorem dX7_ones_22 : decode cX7_ones 22 = .ok (.goto 4, 3) := by decide +kernel
theorem dX7_ones_25 : decode cX7_ones 25 = .ok (.iconst 0, 1) := by decide +kernel
theorem dX7_ones_26 : decode cX7_ones 26 = .ok (.iadd, 1) := by decide +kernel
theorem dX7_ones_27 : decode cX7_ones 27 = .ok (.istore_n 1, 1) := by decide +kernel
theorem dX7_ones_28 : decode cX7_ones 28 = .ok (.iinc 2 1, 3) := by decide +kernel
theorem dX7_ones_31 : decode cX7_ones 31 = .ok (.goto (-27), 3) := by decide +kernel
theorem dX7_ones_34 : decode cX7_ones 34 = .ok (.iload_n 1, 1) := by decide +kernel
theorem dX7_ones_35 : decode cX7_ones 35 = .ok (.ireturn, 1) := by decide +kernel
theorem dX7_stood_0 : decode cX7_stood 0 = .ok (.iload_n 1, 1) := by decide +kernel
theorem dX7_stood_1 : decode cX7_stood 1 = .ok (.istore_n 3, 1) := by decide +kernel
theorem dX7_stood_2 : decode cX7_stood 2 = .ok (.iconst 0, 1) := by decide +kernel
theorem dX7_stood_3 : decode cX7_stood 3 = .ok (.istore 4, 2) := by decide +kernel
theorem dX7_stood_5 : decode cX7_stood 5 = .ok (.iload 4, 2) := by decide +kernel
theorem dX7_stood_7 : decode cX7_stood 7 = .ok (.aload_n 0, 1) := by decide +kernel
theorem dX7_stood_8 : decode cX7_stood 8 = .ok (.getfield 119, 3) := by decide +kernel
theorem dX7_stood_11 : decode cX7_stood 11 = .ok (.if_icmp .ge 41, 3) := by decide +kernel
theorem dX7_stood_14 : decode cX7_stood 14 = .ok (.aload_n 0, 1) := by decide +kernel
theorem dX7_stood_15 : decode cX7_stood 15 = .ok (.getfield 122, 3) := by decide +kernel
theorem dX7_stood_18 : decode cX7_stood 18 = .ok (.ifCond .ne 34, 3) := by decide +kernel
theorem dX7_stood_21 : decode cX7_stood 21 = .ok (.iload_n 3, 1) := by decide +kernel
theorem dX7_stood_22 : decode cX7_stood 22 = .ok (.iload_n 2, 1) := by decide +kernel
theorem dX7_stood_23 : decode cX7_stood 23 = .ok (.aload_n 0, 1) := by decide +kernel
theorem dX7_stood_24 : decode cX7_stood 24 = .ok (.getfield 29, 3) := by decide +kernel
theorem dX7_stood_27 : decode cX7_stood 27 = .ok (.iload 4, 2) := by decide +kernel
theorem dX7_stood_29 : decode cX7_stood 29 = .ok (.iaload, 1) := by decide +kernel
theorem dX7_stood_30 : decode cX7_stood 30 = .ok (.invokestatic 76, 3) := by decide +kernel
theorem dX7_stood_33 : decode cX7_stood 33 = .ok (.ifCond .eq 10, 3) := by decide +kernel
theorem dX7_stood_36 : decode cX7_stood 36 = .ok (.iconst 1, 1) := by decide +kernel
theorem dX7_stood_37 : decode cX7_stood 37 = .ok (.iload 4, 2) := by decide +kernel
theorem dX7_stood_39 : decode cX7_stood 39 = .ok (.ishl, 1) := by decide +kernel
theorem dX7_stood_40 : decode cX7_stood 40 = .ok (.goto 4, 3) := by decide +kernel
theorem dX7_stood_43 : decode cX7_stood 43 = .ok (.iconst 0, 1) := by decide +kernel
theorem dX7_stood_44 : decode cX7_stood 44 = .ok (.ior, 1) := by decide +kernel
theorem dX7_stood_45 : decode cX7_stood 45 = .ok (.istore_n 3, 1) := by decide +kernel
theorem dX7_stood_46 : decode cX7_stood 46 = .ok (.iinc 4 1, 3) := by decide +kernel
theorem dX7_stood_49 : decode cX7_stood 49 = .ok (.goto (-44), 3) := by decide +kernel
theorem dX7_stood_52 : decode cX7_stood 52 = .ok (.iload_n 3, 1) := by decide +kernel
theorem dX7_stood_53 : decode cX7_stood 53 = .ok (.ireturn, 1) := by decide +kernel
theorem dX7_stand_0 : decode cX7_stand 0 = .ok (.iconst 1, 1) := by decide +kernel
theorem dX7_stand_1 : decode cX7_stand 1 = .ok (.istore_n 2, 1) := by decide +kernel
theorem dX7_stand_2 : decode cX7_stand 2 = .ok (.iconst 0, 1) := by decide +kernel
theorem dX7_stand_3 : decode cX7_stand 3 = .ok (.istore_n 3, 1) := by decide +kernel
theorem dX7_stand_4 : decode cX7_stand 4 = .ok (.iload_n 3, 1) := by decide +kernel
theorem dX7_stand_5 : decode cX7_stand 5 = .ok (.aload_n 0, 1) := by decide +kernel
theorem dX7_stand_6 : decode cX7_stand 6 = .ok (.getfield 119, 3) := by decide +kernel
theorem dX7_stand_9 : decode cX7_stand 9 = .ok (.if_icmp .ge 22, 3) := by decide +kernel
theorem dX7_stand_12 : decode cX7_stand 12 = .ok (.iload_n 2, 1) := by decide +kernel
theorem dX7_stand_13 : decode cX7_stand 13 = .ok (.iload_n 1, 1) := by decide +kernel
theorem dX7_stand_14 : decode cX7_stand 14 = .ok (.aload_n 0, 1) := by decide +kernel
theorem dX7_stand_15 : decode cX7_stand 15 = .ok (.getfield 29, 3) := by decide +kernel
theorem dX7_stand_18 : decode cX7_stand 18 = .ok (.iload_n 3, 1) := by decide +kernel
theorem dX7_stand_19 : decode cX7_stand 19 = .ok (.iaload, 1) := by decide +kernel
theorem dX7_stand_20 : decode cX7_stand 20 = .ok (.invokestatic 76, 3) := by decide +kernel
theorem dX7_stand_23 : decode cX7_stand 23 = .ok (.iand, 1) := by decide +kernel
theorem dX7_stand_24 : decode cX7_stand 24 = .ok (.istore_n 2, 1) := by decide +kernel
theorem dX7_stand_25 : decode cX7_stand 25 = .ok (.iinc 3 1, 3) := by decide +kernel
theorem dX7_stand_28 : decode cX7_stand 28 = .ok (.goto (-24), 3) := by decide +kernel
theorem dX7_stand_31 : decode cX7_stand 31 = .ok (.iload_n 2, 1) := by decide +kernel
theorem dX7_stand_32 : decode cX7_stand 32 = .ok (.ireturn, 1) := by decide +kernel
theorem dX7_isEnd_0 : decode cX7_isEnd 0 = .ok (.aload_n 0, 1) := by decide +kernel
theorem dX7_isEnd_1 : decode cX7_isEnd 1 = .ok (.getfield 122, 3) := by decide +kernel
theorem dX7_isEnd_4 : decode cX7_isEnd 4 = .ok (.ifCond .eq 11, 3) := by decide +kernel
theorem dX7_isEnd_7 : decode cX7_isEnd 7 = .ok (.aload_n 0, 1) := by decide +kernel
theorem dX7_isEnd_8 : decode cX7_isEnd 8 = .ok (.iload_n 1, 1) := by decide +kernel
theorem dX7_isEnd_9 : decode cX7_isEnd 9 = .ok (.invokevirtual 149, 3) := by decide +kernel
theorem dX7_isEnd_12 : decode cX7_isEnd 12 = .ok (.goto 20, 3) := by decide +kernel
theorem dX7_isEnd_15 : decode cX7_isEnd 15 = .ok (.iload_n 2, 1) := by decide +kernel
theorem dX7_isEnd_16 : decode cX7_isEnd 16 = .ok (.iconst 1, 1) := by decide +kernel
theorem dX7_isEnd_17 : decode cX7_isEnd 17 = .ok (.aload_n 0, 1) := by decide +kernel
theorem dX7_isEnd_18 : decode cX7_isEnd 18 = .ok (.getfield 119, 3) := by decide +kernel
theorem dX7_isEnd_21 : decode cX7_isEnd 21 = .ok (.ishl, 1) := by decide +kernel
theorem dX7_isEnd_22 : decode cX7_isEnd 22 = .ok (.iconst 1, 1) := by decide +kernel
theorem dX7_isEnd_23 : decode cX7_isEnd 23 = .ok (.isub, 1) := by decide +kernel
theorem dX7_isEnd_24 : decode cX7_isEnd 24 = .ok (.if_icmp .ne 7, 3) := by decide +kernel
theorem dX7_isEnd_27 : decode cX7_isEnd 27 = .ok (.iconst 1, 1) := by decide +kernel
theorem dX7_isEnd_28 : decode cX7_isEnd 28 = .ok (.goto 4, 3) := by decide +kernel
theorem dX7_isEnd_31 : decode cX7_isEnd 31 = .ok (.iconst 0, 1) := by decide +kernel
theorem dX7_isEnd_32 : decode cX7_isEnd 32 = .ok (.ireturn, 1) := by decide +kernel
theorem dX7_behind_0 : decode cX7_behind 0 = .ok (.iload_n 1, 1) := by decide +kernel
theorem dX7_behind_1 : decode cX7_behind 1 = .ok (.sipush 512, 3) := by decide +kernel
theorem dX7_behind_4 : decode cX7_behind 4 = .ok (.irem, 1) := by decide +kernel
theorem dX7_behind_5 : decode cX7_behind 5 = .ok (.istore 4, 2) := by decide +kernel
theorem dX7_behind_7 : decode cX7_behind 7 = .ok (.iload_n 1, 1) := by decide +kernel
theorem dX7_behind_8 : decode cX7_behind 8 = .ok (.sipush 512, 3) := by decide +kernel
theorem dX7_behind_11 : decode cX7_behind 11 = .ok (.idiv, 1) := by decide +kernel
theorem dX7_behind_12 : decode cX7_behind 12 = .ok (.bipush 10, 2) := by decide +kernel
theorem dX7_behind_14 : decode cX7_behind 14 = .ok (.irem, 1) := by decide +kernel
theorem dX7_behind_15 : decode cX7_behind 15 = .ok (.istore 5, 2) := by decide +kernel
theorem dX7_behind_17 : decode cX7_behind 17 = .ok (.iload_n 1, 1) := by decide +kernel
theorem dX7_behind_18 : decode cX7_behind 18 = .ok (.sipush 5120, 3) := by decide +kernel
theorem dX7_behind_21 : decode cX7_behind 21 = .ok (.idiv, 1) := by decide +kernel
theorem dX7_behind_22 : decode cX7_behind 22 = .ok (.istore 6, 2) := by decide +kernel
theorem dX7_behind_24 : decode cX7_behind 24 = .ok (.iload_n 2, 1) := by decide +kernel
theorem dX7_behind_25 : decode cX7_behind 25 = .ok (.bipush 9, 2) := by decide +kernel
theorem dX7_behind_27 : decode cX7_behind 27 = .ok (.irem, 1) := by decide +kernel
theorem dX7_behind_28 : decode cX7_behind 28 = .ok (.istore 7, 2) := by decide +kernel
theorem dX7_behind_30 : decode cX7_behind 30 = .ok (.iload 7, 2) := by decide +kernel
theorem dX7_behind_32 : decode cX7_behind 32 = .ok (.aload_n 0, 1) := by decide +kernel
theorem dX7_behind_33 : decode cX7_behind 33 = .ok (.getfield 73, 3) := by decide +kernel
theorem dX7_behind_36 : decode cX7_behind 36 = .ok (.if_icmp .lt 5, 3) := by decide +kernel
theorem dX7_behind_39 : decode cX7_behind 39 = .ok (.iconst (-1), 1) := by decide +kernel
theorem dX7_behind_40 : decode cX7_behind 40 = .ok (.ireturn, 1) := by decide +kernel
theorem dX7_behind_41 : decode cX7_behind 41 = .ok (.iload 4, 2) := by decide +kernel
theorem dX7_behind_43 : decode cX7_behind 43 = .ok (.istore 8, 2) := by decide +kernel
theorem dX7_behind_45 : decode cX7_behind 45 = .ok (.iload 5, 2) := by decide +kernel
theorem dX7_behind_47 : decode cX7_behind 47 = .ok (.istore 9, 2) := by decide +kernel
theorem dX7_behind_49 : decode cX7_behind 49 = .ok (.iload_n 2, 1) := by decide +kernel
theorem dX7_behind_50 : decode cX7_behind 50 = .ok (.bipush 9, 2) := by decide +kernel
theorem dX7_behind_52 : decode cX7_behind 52 = .ok (.if_icmp .ge 40, 3) := by decide +kernel
theorem dX7_behind_55 : decode cX7_behind 55 = .ok (.aload_n 0, 1) := by decide +kernel
theorem dX7_behind_56 : decode cX7_behind 56 = .ok (.iload 4, 2) := by decide +kernel
theorem dX7_behind_58 : decode cX7_behind 58 = .ok (.iload 5, 2) := by decide +kernel
theorem dX7_behind_60 : decode cX7_behind 60 = .ok (.iload 7, 2) := by decide +kernel
theorem dX7_behind_62 : decode cX7_behind 62 = .ok (.iload_n 3, 1) := by decide +kernel
theorem dX7_behind_63 : decode cX7_behind 63 = .ok (.invokevirtual 126, 3) := by decide +kernel
theorem dX7_behind_66 : decode cX7_behind 66 = .ok (.ifCond .eq 5, 3) := by decide +kernel
theorem dX7_behind_69 : decode cX7_behind 69 = .ok (.iconst (-1), 1) := by decide +kernel
theorem dX7_behind_70 : decode cX7_behind 70 = .ok (.ireturn, 1) := by decide +kernel
theorem dX7_behind_71 : decode cX7_behind 71 = .ok (.aload_n 0, 1) := by decide +kernel
theorem dX7_behind_72 : decode cX7_behind 72 = .ok (.iload 4, 2) := by decide +kernel
theorem dX7_behind_74 : decode cX7_behind 74 = .ok (.iload 7, 2) := by decide +kernel
theorem dX7_behind_76 : decode cX7_behind 76 = .ok (.invokevirtual 133, 3) := by decide +kernel
theorem dX7_behind_79 : decode cX7_behind 79 = .ok (.istore 8, 2) := by decide +kernel
theorem dX7_behind_81 : decode cX7_behind 81 = .ok (.aload_n 0, 1) := by decide +kernel
theorem dX7_behind_82 : decode cX7_behind 82 = .ok (.iload 7, 2) := by decide +kernel
theorem dX7_behind_84 : decode cX7_behind 84 = .ok (.invokevirtual 136, 3) := by decide +kernel
theorem dX7_behind_87 : decode cX7_behind 87 = .ok (.istore 9, 2) := by decide +kernel
theorem dX7_behind_89 : decode cX7_behind 89 = .ok (.goto 35, 3) := by decide +kernel
theorem dX7_behind_92 : decode cX7_behind 92 = .ok (.iload 4, 2) := by decide +kernel
theorem dX7_behind_94 : decode cX7_behind 94 = .ok (.iload 7, 2) := by decide +kernel
theorem dX7_behind_96 : decode cX7_behind 96 = .ok (.invokestatic 76, 3) := by decide +kernel
theorem dX7_behind_99 : decode cX7_behind 99 = .ok (.ifCond .ne 5, 3) := by decide +kernel
theorem dX7_behind_102 : decode cX7_behind 102 = .ok (.iconst (-1), 1) := by decide +kernel
theorem dX7_behind_103 : decode cX7_behind 103 = .ok (.ireturn, 1) := by decide +kernel
theorem dX7_behind_104 : decode cX7_behind 104 = .ok (.iload 4, 2) := by decide +kernel
theorem dX7_behind_106 : decode cX7_behind 106 = .ok (.iconst 1, 1) := by decide +kernel
theorem dX7_behind_107 : decode cX7_behind 107 = .ok (.iload 7, 2) := by decide +kernel
theorem dX7_behind_109 : decode cX7_behind 109 = .ok (.ishl, 1) := by decide +kernel
theorem dX7_behind_110 : decode cX7_behind 110 = .ok (.iconst (-1), 1) := by decide +kernel
theorem dX7_behind_111 : decode cX7_behind 111 = .ok (.ixor, 1) := by decide +kernel
theorem dX7_behind_112 : decode cX7_behind 112 = .ok (.iand, 1) := by decide +kernel
theorem dX7_behind_113 : decode cX7_behind 113 = .ok (.istore 8, 2) := by decide +kernel
theorem dX7_behind_115 : decode cX7_behind 115 = .ok (.iload 5, 2) := by decide +kernel
theorem dX7_behind_117 : decode cX7_behind 117 = .ok (.iload 7, 2) := by decide +kernel
theorem dX7_behind_119 : decode cX7_behind 119 = .ok (.invokestatic 143, 3) := by decide +kernel
theorem dX7_behind_122 : decode cX7_behind 122 = .ok (.istore 9, 2) := by decide +kernel
theorem dX7_behind_124 : decode cX7_behind 124 = .ok (.iload 8, 2) := by decide +kernel
theorem dX7_behind_126 : decode cX7_behind 126 = .ok (.sipush 512, 3) := by decide +kernel
theorem dX7_behind_129 : decode cX7_behind 129 = .ok (.iload 9, 2) := by decide +kernel
theorem dX7_behind_131 : decode cX7_behind 131 = .ok (.imul, 1) := by decide +kernel
theorem dX7_behind_132 : decode cX7_behind 132 = .ok (.iadd, 1) := by decide +kernel
theorem dX7_behind_133 : decode cX7_behind 133 = .ok (.sipush 5120, 3) := by decide +kernel
theorem dX7_behind_136 : decode cX7_behind 136 = .ok (.aload_n 0, 1) := by decide +kernel
theorem dX7_behind_137 : decode cX7_behind 137 = .ok (.iload 6, 2) := by decide +kernel
theorem dX7_behind_139 : decode cX7_behind 139 = .ok (.iload 8, 2) := by decide +kernel
theorem dX7_behind_141 : decode cX7_behind 141 = .ok (.invokevirtual 152, 3) := by decide +kernel
theorem dX7_behind_144 : decode cX7_behind 144 = .ok (.imul, 1) := by decide +kernel
theorem dX7_behind_145 : decode cX7_behind 145 = .ok (.iadd, 1) := by decide +kernel
theorem dX7_behind_146 : decode cX7_behind 146 = .ok (.ireturn, 1) := by decide +kernel
theorem dX7_price_0 : decode cX7_price 0 = .ok (.iload_n 0, 1) := by decide +kernel
theorem dX7_price_1 : decode cX7_price 1 = .ok (.bipush 9, 2) := by decide +kernel
theorem dX7_price_3 : decode cX7_price 3 = .ok (.if_icmp .ge 8, 3) := by decide +kernel
theorem dX7_price_6 : decode cX7_price 6 = .ok (.ldc 155, 2) := by decide +kernel
theorem dX7_price_8 : decode cX7_price 8 = .ok (.goto 4, 3) := by decide +kernel
theorem dX7_price_11 : decode cX7_price 11 = .ok (.iconst 1, 1) := by decide +kernel
theorem dX7_price_12 : decode cX7_price 12 = .ok (.ireturn, 1) := by decide +kernel
theorem dX7_spread_0 : decode cX7_spread 0 = .ok (.iconst 0, 1) := by decide +kernel
theorem dX7_spread_1 : decode cX7_spread 1 = .ok (.istore_n 2, 1) := by decide +kernel
theorem dX7_spread_2 : decode cX7_spread 2 = .ok (.iload_n 2, 1) := by decide +kernel
theorem dX7_spread_3 : decode cX7_spread 3 = .ok (.ldc 54, 2) := by decide +kernel
theorem dX7_spread_5 : decode cX7_spread 5 = .ok (.if_icmp .ge 24, 3) := by decide +kernel
theorem dX7_spread_8 : decode cX7_spread 8 = .ok (.aload_n 0, 1) := by decide +kernel
theorem dX7_spread_9 : decode cX7_spread 9 = .ok (.getfield 55, 3) := by decide +kernel
theorem dX7_spread_12 : decode cX7_spread 12 = .ok (.iload_n 2, 1) := by decide +kernel
theorem dX7_spread_13 : decode cX7_spread 13 = .ok (.ldc 156, 2) := by decide +kernel
theorem dX7_spread_15 : decode cX7_spread 15 = .ok (.iastore, 1) := by decide +kernel
theorem dX7_spread_16 : decode cX7_spread 16 = .ok (.aload_n 0, 1) := by decide +kernel
theorem dX7_spread_17 : decode cX7_spread 17 = .ok (.getfield 58, 3) := by decide +kernel
theorem dX7_spread_20 : decode cX7_spread 20 = .ok (.iload_n 2, 1) := by decide +kernel
theorem dX7_spread_21 : decode cX7_spread 21 = .ok (.iconst 0, 1) := by decide +kernel
theorem dX7_spread_22 : decode cX7_spread 22 = .ok (.bastore, 1) := by decide +kernel
theorem dX7_spread_23 : decode cX7_spread 23 = .ok (.iinc 2 1, 3) := by decide +kernel
theorem dX7_spread_26 : decode cX7_spread 26 = .ok (.goto (-24), 3) := by decide +kernel
theorem dX7_spread_29 : decode cX7_spread 29 = .ok (.aload_n 0, 1) := by decide +kernel
theorem dX7_spread_30 : decode cX7_spread 30 = .ok (.getfield 55, 3) := by decide +kernel
theorem dX7_spread_33 : decode cX7_spread 33 = .ok (.iconst 0, 1) := by decide +kernel
theorem dX7_spread_34 : decode cX7_spread 34 = .ok (.iconst 0, 1) := by decide +kernel
theorem dX7_spread_35 : decode cX7_spread 35 = .ok (.iastore, 1) := by decide +kernel
theorem dX7_spread_36 : decode cX7_spread 36 = .ok (.iconst 0, 1) := by decide +kernel
theorem dX7_spread_37 : decode cX7_spread 37 = .ok (.istore_n 2, 1) := by decide +kernel
theorem dX7_spread_38 : decode cX7_spread 38 = .ok (.iconst 1, 1) := by decide +kernel
theorem dX7_spread_39 : decode cX7_spread 39 = .ok (.istore_n 3, 1) := by decide +kernel
theorem dX7_spread_40 : decode cX7_spread 40 = .ok (.aload_n 0, 1) := by decide +kernel
theorem dX7_spread_41 : decode cX7_spread 41 = .ok (.getfield 61, 3) := by decide +kernel
theorem dX7_spread_44 : decode cX7_spread 44 = .ok (.iconst 0, 1) := by decide +kernel
theorem dX7_spread_45 : decode cX7_spread 45 = .ok (.iconst 0, 1) := by decide +kernel
theorem dX7_spread_46 : decode cX7_spread 46 = .ok (.iastore, 1) := by decide +kernel
theorem dX7_spread_47 : decode cX7_spread 47 = .ok (.iload_n 3, 1) := by decide +kernel
theorem dX7_spread_48 : decode cX7_spread 48 = .ok (.ifCond .le 141, 3) := by decide +kernel
theorem dX7_spread_51 : decode cX7_spread 51 = .ok (.aload_n 0, 1) := by decide +kernel
theorem dX7_spread_52 : decode cX7_spread 52 = .ok (.getfield 61, 3) := by decide +kernel
theorem dX7_spread_55 : decode cX7_spread 55 = .ok (.iload_n 2, 1) := by decide +kernel
theorem dX7_spread_56 : decode cX7_spread 56 = .ok (.iaload, 1) := by decide +kernel
theorem dX7_spread_57 : decode cX7_spread 57 = .ok (.istore 4, 2) := by decide +kernel
theorem dX7_spread_59 : decode cX7_spread 59 = .ok (.iload_n 2, 1) := by decide +kernel
theorem dX7_spread_60 : decode cX7_spread 60 = .ok (.iconst 1, 1) := by decide +kernel
theorem dX7_spread_61 : decode cX7_spread 61 = .ok (.iadd, 1) := by decide +kernel
theorem dX7_spread_62 : decode cX7_spread 62 = .ok (.ldc 54, 2) := by decide +kernel
theorem dX7_spread_64 : decode cX7_spread 64 = .ok (.irem, 1) := by decide +kernel
theorem dX7_spread_65 : decode cX7_spread 65 = .ok (.istore_n 2, 1) := by decide +kernel
theorem dX7_spread_66 : decode cX7_spread 66 = .ok (.iinc 3 (-1), 3) := by decide +kernel
theorem dX7_spread_69 : decode cX7_spread 69 = .ok (.aload_n 0, 1) := by decide +kernel
theorem dX7_spread_70 : decode cX7_spread 70 = .ok (.getfield 58, 3) := by decide +kernel
theorem dX7_spread_73 : decode cX7_spread 73 = .ok (.iload 4, 2) := by decide +kernel
theorem dX7_spread_75 : decode cX7_spread 75 = .ok (.iconst 0, 1) := by decide +kernel
theorem dX7_spread_76 : decode cX7_spread 76 = .ok (.bastore, 1) := by decide +kernel
theorem dX7_spread_77 : decode cX7_spread 77 = .ok (.iconst 0, 1) := by decide +kernel
theorem dX7_spread_78 : decode cX7_spread 78 = .ok (.istore 5, 2) := by decide +kernel
theorem dX7_spread_80 : decode cX7_spread 80 = .ok (.iload 5, 2) := by decide +kernel
theorem dX7_spread_82 : decode cX7_spread 82 = .ok (.bipush 18, 2) := by decide +kernel
theorem dX7_spread_84 : decode cX7_spread 84 = .ok (.if_icmp .ge 102, 3) := by decide +kernel
theorem dX7_spread_87 : decode cX7_spread 87 = .ok (.aload_n 0, 1) := by decide +kernel
theorem dX7_spread_88 : decode cX7_spread 88 = .ok (.iload 4, 2) := by decide +kernel
theorem dX7_spread_90 : decode cX7_spread 90 = .ok (.iload 5, 2) := by decide +kernel
theorem dX7_spread_92 : decode cX7_spread 92 = .ok (.iload_n 1, 1) := by decide +kernel
theorem dX7_spread_93 : decode cX7_spread 93 = .ok (.invokevirtual 157, 3) := by decide +kernel
theorem dX7_spread_96 : decode cX7_spread 96 = .ok (.istore 6, 2) := by decide +kernel
theorem dX7_spread_98 : decode cX7_spread 98 = .ok (.iload 6, 2) := by decide +kernel
theorem dX7_spread_100 : decode cX7_spread 100 = .ok (.ifCond .lt 80, 3) := by decide +kernel
theorem dX7_spread_103 : decode cX7_spread 103 = .ok (.aload_n 0, 1) := by decide +kernel
theorem dX7_spread_104 : decode cX7_spread 104 = .ok (.getfield 55, 3) := by decide +kernel
theorem dX7_spread_107 : decode cX7_spread 107 = .ok (.iload 4, 2) := by decide +kernel
theorem dX7_spread_109 : decode cX7_spread 109 = .ok (.iaload, 1) := by decide +kernel
theorem dX7_spread_110 : decode cX7_spread 110 = .ok (.iload 5, 2) := by decide +kernel
theorem dX7_spread_112 : decode cX7_spread 112 = .ok (.invokestatic 160, 3) := by decide +kernel
theorem dX7_spread_115 : decode cX7_spread 115 = .ok (.iadd, 1) := by decide +kernel
theorem dX7_spread_116 : decode cX7_spread 116 = .ok (.aload_n 0, 1) := by decide +kernel
theorem dX7_spread_117 : decode cX7_spread 117 = .ok (.getfield 55, 3) := by decide +kernel
theorem dX7_spread_120 : decode cX7_spread 120 = .ok (.iload 6, 2) := by decide +kernel
theorem dX7_spread_122 : decode cX7_spread 122 = .ok (.iaload, 1) := by decide +kernel
theorem dX7_spread_123 : decode cX7_spread 123 = .ok (.if_icmp .ge 57, 3) := by decide +kernel
theorem dX7_spread_126 : decode cX7_spread 126 = .ok (.aload_n 0, 1) := by decide +kernel
theorem dX7_spread_127 : decode cX7_spread 127 = .ok (.getfield 55, 3) := by decide +kernel
theorem dX7_spread_130 : decode cX7_spread 130 = .ok (.iload 6, 2) := by decide +kernel
theorem dX7_spread_132 : decode cX7_spread 132 = .ok (.aload_n 0, 1) := by decide +kernel
theorem dX7_spread_133 : decode cX7_spread 133 = .ok (.getfield 55, 3) := by decide +kernel
theorem dX7_spread_136 : decode cX7_spread 136 = .ok (.iload 4, 2) := by decide +kernel
theorem dX7_spread_138 : decode cX7_spread 138 = .ok (.iaload, 1) := by decide +kernel
theorem dX7_spread_139 : decode cX7_spread 139 = .ok (.iload 5, 2) := by decide +kernel
theorem dX7_spread_141 : decode cX7_spread 141 = .ok (.invokestatic 160, 3) := by decide +kernel
theorem dX7_spread_144 : decode cX7_spread 144 = .ok (.iadd, 1) := by decide +kernel
theorem dX7_spread_145 : decode cX7_spread 145 = .ok (.iastore, 1) := by decide +kernel
theorem dX7_spread_146 : decode cX7_spread 146 = .ok (.aload_n 0, 1) := by decide +kernel
theorem dX7_spread_147 : decode cX7_spread 147 = .ok (.getfield 58, 3) := by decide +kernel
theorem dX7_spread_150 : decode cX7_spread 150 = .ok (.iload 6, 2) := by decide +kernel
theorem dX7_spread_152 : decode cX7_spread 152 = .ok (.baload, 1) := by decide +kernel
theorem dX7_spread_153 : decode cX7_spread 153 = .ok (.ifCond .ne 27, 3) := by decide +kernel
theorem dX7_spread_156 : decode cX7_spread 156 = .ok (.aload_n 0, 1) := by decide +kernel
theorem dX7_spread_157 : decode cX7_spread 157 = .ok (.getfield 58, 3) := by decide +kernel
theorem dX7_spread_160 : decode cX7_spread 160 = .ok (.iload 6, 2) := by decide +kernel
theorem dX7_spread_162 : decode cX7_spread 162 = .ok (.iconst 1, 1) := by decide +kernel
theorem dX7_spread_163 : decode cX7_spread 163 = .ok (.bastore, 1) := by decide +kernel
theorem dX7_spread_164 : decode cX7_spread 164 = .ok (.aload_n 0, 1) := by decide +kernel
theorem dX7_spread_165 : decode cX7_spread 165 = .ok (.getfield 61, 3) := by decide +kernel
theorem dX7_spread_168 : decode cX7_spread 168 = .ok (.iload_n 2, 1) := by decide +kernel
theorem dX7_spread_169 : decode cX7_spread 169 = .ok (.iload_n 3, 1) := by decide +kernel
theorem dX7_spread_170 : decode cX7_spread 170 = .ok (.iadd, 1) := by decide +kernel
theorem dX7_spread_171 : decode cX7_spread 171 = .ok (.ldc 54, 2) := by decide +kernel
theorem dX7_spread_173 : decode cX7_spread 173 = .ok (.irem, 1) := by decide +kernel
theorem dX7_spread_174 : decode cX7_spread 174 = .ok (.iload 6, 2) := by decide +kernel
theorem dX7_spread_176 : decode cX7_spread 176 = .ok (.iastore, 1) := by decide +kernel
theorem dX7_spread_177 : decode cX7_spread 177 = .ok (.iinc 3 1, 3) := by decide +kernel
theorem dX7_spread_180 : decode cX7_spread 180 = .ok (.iinc 5 1, 3) := by decide +kernel
theorem dX7_spread_183 : decode cX7_spread 183 = .ok (.goto (-103), 3) := by decide +kernel
theorem dX7_spread_186 : decode cX7_spread 186 = .ok (.goto (-139), 3) := by decide +kernel
theorem dX7_spread_189 : decode cX7_spread 189 = .ok (.ldc 156, 2) := by decide +kernel
theorem dX7_spread_191 : decode cX7_spread 191 = .ok (.istore 4, 2) := by decide +kernel
theorem dX7_spread_193 : decode cX7_spread 193 = .ok (.iconst 0, 1) := by decide +kernel
theorem dX7_spread_194 : decode cX7_spread 194 = .ok (.istore 5, 2) := by decide +kernel
theorem dX7_spread_196 : decode cX7_spread 196 = .ok (.iload 5, 2) := by decide +kernel
theorem dX7_spread_198 : decode cX7_spread 198 = .ok (.ldc 54, 2) := by decide +kernel
theorem dX7_spread_200 : decode cX7_spread 200 = .ok (.if_icmp .ge 66, 3) := by decide +kernel
theorem dX7_spread_203 : decode cX7_spread 203 = .ok (.aload_n 0, 1) := by decide +kernel
theorem dX7_spread_204 : decode cX7_spread 204 = .ok (.getfield 55, 3) := by decide +kernel
theorem dX7_spread_207 : decode cX7_spread 207 = .ok (.iload 5, 2) := by decide +kernel
theorem dX7_spread_209 : decode cX7_spread 209 = .ok (.iaload, 1) := by decide +kernel
theorem dX7_spread_210 : decode cX7_spread 210 = .ok (.iload 4, 2) := by decide +kernel
theorem dX7_spread_212 : decode cX7_spread 212 = .ok (.if_icmp .ge 44, 3) := by decide +kernel
theorem dX7_spread_215 : decode cX7_spread 215 = .ok (.aload_n 0, 1) := by decide +kernel
theorem dX7_spread_216 : decode cX7_spread 216 = .ok (.iload 5, 2) := by decide +kernel
theorem dX7_spread_218 : decode cX7_spread 218 = .ok (.sipush 512, 3) := by decide +kernel
theorem dX7_spread_221 : decode cX7_spread 221 = .ok (.irem, 1) := by decide +kernel
theorem dX7_spread_222 : decode cX7_spread 222 = .ok (.iload 5, 2) := by decide +kernel
theorem dX7_spread_224 : decode cX7_spread 224 = .ok (.sipush 5120, 3) := by decide +kernel
theorem dX7_spread_227 : decode cX7_spread 227 = .ok (.idiv, 1) := by decide +kernel
theorem dX7_spread_228 : decode cX7_spread 228 = .ok (.invokevirtual 163, 3) := by decide +kernel
theorem dX7_spread_231 : decode cX7_spread 231 = .ok (.ifCond .eq 25, 3) := by decide +kernel
theorem dX7_spread_234 : decode cX7_spread 234 = .ok (.iload 5, 2) := by decide +kernel
theorem dX7_spread_236 : decode cX7_spread 236 = .ok (.ifCond .gt 10, 3) := by decide +kernel
theorem dX7_spread_239 : decode cX7_spread 239 = .ok (.aload_n 0, 1) := by decide +kernel
theorem dX7_spread_240 : decode cX7_spread 240 = .ok (.getfield 119, 3) := by decide +kernel
theorem dX7_spread_243 : decode cX7_spread 243 = .ok (.ifCond .ne 13, 3) := by decide +kernel
theorem dX7_spread_246 : decode cX7_spread 246 = .ok (.aload_n 0, 1) := by decide +kernel
theorem dX7_spread_247 : decode cX7_spread 247 = .ok (.getfield 55, 3) := by decide +kernel
theorem dX7_spread_250 : decode cX7_spread 250 = .ok (.iload 5, 2) := by decide +kernel
theorem dX7_spread_252 : decode cX7_spread 252 = .ok (.iaload, 1) := by decide +kernel
theorem dX7_spread_253 : decode cX7_spread 253 = .ok (.goto 5, 3) := by decide +kernel
theorem dX7_spread_256 : decode cX7_spread 256 = .ok (.iload 4, 2) := by decide +kernel
theorem dX7_spread_258 : decode cX7_spread 258 = .ok (.istore 4, 2) := by decide +kernel
theorem dX7_spread_260 : decode cX7_spread 260 = .ok (.iinc 5 1, 3) := by decide +kernel
theorem dX7_spread_263 : decode cX7_spread 263 = .ok (.goto (-67), 3) := by decide +kernel
theorem dX7_spread_266 : decode cX7_spread 266 = .ok (.iload 4, 2) := by decide +kernel
theorem dX7_spread_268 : decode cX7_spread 268 = .ok (.ireturn, 1) := by decide +kernel
theorem dX7_trace_0 : decode cX7_trace 0 = .ok (.iconst 0, 1) := by decide +kernel
theorem dX7_trace_1 : decode cX7_trace 1 = .ok (.istore_n 3, 1) := by decide +kernel
theorem dX7_trace_2 : decode cX7_trace 2 = .ok (.iload_n 3, 1) := by decide +kernel
theorem dX7_trace_3 : decode cX7_trace 3 = .ok (.ldc 54, 2) := by decide +kernel
theorem dX7_trace_5 : decode cX7_trace 5 = .ok (.if_icmp .ge 16, 3) := by decide +kernel
theorem dX7_trace_8 : decode cX7_trace 8 = .ok (.aload_n 0, 1) := by decide +kernel
theorem dX7_trace_9 : decode cX7_trace 9 = .ok (.getfield 64, 3) := by decide +kernel
theorem dX7_trace_12 : decode cX7_trace 12 = .ok (.iload_n 3, 1) := by decide +kernel
theorem dX7_trace_13 : decode cX7_trace 13 = .ok (.iconst 0, 1) := by decide +kernel
theorem dX7_trace_14 : decode cX7_trace 14 = .ok (.bastore, 1) := by decide +kernel
theorem dX7_trace_15 : decode cX7_trace 15 = .ok (.iinc 3 1, 3) := by decide +kernel
theorem dX7_trace_18 : decode cX7_trace 18 = .ok (.goto (-16), 3) := by decide +kernel
theorem dX7_trace_21 : decode cX7_trace 21 = .ok (.aload_n 0, 1) := by decide +kernel
theorem dX7_trace_22 : decode cX7_trace 22 = .ok (.iconst 0, 1) := by decide +kernel
theorem dX7_trace_23 : decode cX7_trace 23 = .ok (.putfield 166, 3) := by decide +kernel
theorem dX7_trace_26 : decode cX7_trace 26 = .ok (.iconst 0, 1) := by decide +kernel
theorem dX7_trace_27 : decode cX7_trace 27 = .ok (.istore_n 3, 1) := by decide +kernel
theorem dX7_trace_28 : decode cX7_trace 28 = .ok (.iconst 0, 1) := by decide +kernel
theorem dX7_trace_29 : decode cX7_trace 29 = .ok (.istore 4, 2) := by decide +kernel
theorem dX7_trace_31 : decode cX7_trace 31 = .ok (.aload_n 0, 1) := by decide +kernel
theorem dX7_trace_32 : decode cX7_trace 32 = .ok (.getfield 55, 3) := by decide +kernel
theorem dX7_trace_35 : decode cX7_trace 35 = .ok (.iload_n 3, 1) := by decide +kernel
theorem dX7_trace_36 : decode cX7_trace 36 = .ok (.iaload, 1) := by decide +kernel
theorem dX7_trace_37 : decode cX7_trace 37 = .ok (.iload_n 2, 1) := by decide +kernel
theorem dX7_trace_38 : decode cX7_trace 38 = .ok (.if_icmp .ne 20, 3) := by decide +kernel
theorem dX7_trace_41 : decode cX7_trace 41 = .ok (.aload_n 0, 1) := by decide +kernel
theorem dX7_trace_42 : decode cX7_trace 42 = .ok (.iload_n 3, 1) := by decide +kernel
theorem dX7_trace_43 : decode cX7_trace 43 = .ok (.sipush 512, 3) := by decide +kernel
theorem dX7_trace_46 : decode cX7_trace 46 = .ok (.irem, 1) := by decide +kernel
theorem dX7_trace_47 : decode cX7_trace 47 = .ok (.iload_n 3, 1) := by decide +kernel
theorem dX7_trace_48 : decode cX7_trace 48 = .ok (.sipush 5120, 3) := by decide +kernel
theorem dX7_trace_51 : decode cX7_trace 51 = .ok (.idiv, 1) := by decide +kernel
theorem dX7_trace_52 : decode cX7_trace 52 = .ok (.invokevirtual 163, 3) := by decide +kernel
theorem dX7_trace_55 : decode cX7_trace 55 = .ok (.ifCond .ne 168, 3) := by decide +kernel
theorem dX7_trace_58 : decode cX7_trace 58 = .ok (.iload 4, 2) := by decide +kernel
theorem dX7_trace_60 : decode cX7_trace 60 = .ok (.bipush 18, 2) := by decide +kernel
theorem dX7_trace_62 : decode cX7_trace 62 = .ok (.if_icmp .ge 14, 3) := by decide +kernel
theorem dX7_trace_65 : decode cX7_trace 65 = .ok (.aload_n 0, 1) := by decide +kernel
theorem dX7_trace_66 : decode cX7_trace 66 = .ok (.iload_n 3, 1) := by decide +kernel
theorem dX7_trace_67 : decode cX7_trace 67 = .ok (.iload 4, 2) := by decide +kernel
theorem dX7_trace_69 : decode cX7_trace 69 = .ok (.iload_n 1, 1) := by decide +kernel
theorem dX7_trace_70 : decode cX7_trace 70 = .ok (.invokevirtual 157, 3) := by decide +kernel
theorem dX7_trace_73 : decode cX7_trace 73 = .ok (.goto 4, 3) := by decide +kernel
theorem dX7_trace_76 : decode cX7_trace 76 = .ok (.iconst (-1), 1) := by decide +kernel
theorem dX7_trace_77 : decode cX7_trace 77 = .ok (.istore 5, 2) := by decide +kernel
theorem dX7_trace_79 : decode cX7_trace 79 = .ok (.iload 4, 2) := by decide +kernel
theorem dX7_trace_81 : decode cX7_trace 81 = .ok (.bipush 18, 2) := by decide +kernel
theorem dX7_trace_83 : decode cX7_trace 83 = .ok (.if_icmp .ne 46, 3) := by decide +kernel
theorem dX7_trace_86 : decode cX7_trace 86 = .ok (.aload_n 0, 1) := by decide +kernel
theorem dX7_trace_87 : decode cX7_trace 87 = .ok (.getfield 64, 3) := by decide +kernel
theorem dX7_trace_90 : decode cX7_trace 90 = .ok (.iload_n 3, 1) := by decide +kernel
theorem dX7_trace_91 : decode cX7_trace 91 = .ok (.iconst 1, 1) := by decide +kernel
theorem dX7_trace_92 : decode cX7_trace 92 = .ok (.bastore, 1) := by decide +kernel
theorem dX7_trace_93 : decode cX7_trace 93 = .ok (.aload_n 0, 1) := by decide +kernel
theorem dX7_trace_94 : decode cX7_trace 94 = .ok (.dup, 1) := by decide +kernel
theorem dX7_trace_95 : decode cX7_trace 95 = .ok (.getfield 166, 3) := by decide +kernel
theorem dX7_trace_98 : decode cX7_trace 98 = .ok (.iconst 1, 1) := by decide +kernel
theorem dX7_trace_99 : decode cX7_trace 99 = .ok (.isub, 1) := by decide +kernel
theorem dX7_trace_100 : decode cX7_trace 100 = .ok (.putfield 166, 3) := by decide +kernel
theorem dX7_trace_103 : decode cX7_trace 103 = .ok (.aload_n 0, 1) := by decide +kernel
theorem dX7_trace_104 : decode cX7_trace 104 = .ok (.getfield 70, 3) := by decide +kernel
theorem dX7_trace_107 : decode cX7_trace 107 = .ok (.aload_n 0, 1) := by decide +kernel
theorem dX7_trace_108 : decode cX7_trace 108 = .ok (.getfield 166, 3) := by decide +kernel
theorem dX7_trace_111 : decode cX7_trace 111 = .ok (.iaload, 1) := by decide +kernel
theorem dX7_trace_112 : decode cX7_trace 112 = .ok (.istore_n 3, 1) := by decide +kernel
theorem dX7_trace_113 : decode cX7_trace 113 = .ok (.aload_n 0, 1) := by decide +kernel
theorem dX7_trace_114 : decode cX7_trace 114 = .ok (.getfield 67, 3) := by decide +kernel
theorem dX7_trace_117 : decode cX7_trace 117 = .ok (.aload_n 0, 1) := by decide +kernel
theorem dX7_trace_118 : decode cX7_trace 118 = .ok (.getfield 166, 3) := by decide +kernel
theorem dX7_trace_121 : decode cX7_trace 121 = .ok (.iaload, 1) := by decide +kernel
theorem dX7_trace_122 : decode cX7_trace 122 = .ok (.iconst 1, 1) := by decide +kernel
theorem dX7_trace_123 : decode cX7_trace 123 = .ok (.iadd, 1) := by decide +kernel
theorem dX7_trace_124 : decode cX7_trace 124 = .ok (.istore 4, 2) := by decide +kernel
theorem dX7_trace_126 : decode cX7_trace 126 = .ok (.goto 94, 3) := by decide +kernel
theorem dX7_trace_129 : decode cX7_trace 129 = .ok (.iload 5, 2) := by decide +kernel
theorem dX7_trace_131 : decode cX7_trace 131 = .ok (.ifCond .lt 86, 3) := by decide +kernel
theorem dX7_trace_134 : decode cX7_trace 134 = .ok (.aload_n 0, 1) := by decide +kernel
theorem dX7_trace_135 : decode cX7_trace 135 = .ok (.getfield 55, 3) := by decide +kernel
theorem dX7_trace_138 : decode cX7_trace 138 = .ok (.iload 5, 2) := by decide +kernel
theorem dX7_trace_140 : decode cX7_trace 140 = .ok (.iaload, 1) := by decide +kernel
theorem dX7_trace_141 : decode cX7_trace 141 = .ok (.aload_n 0, 1) := by decide +kernel
theorem dX7_trace_142 : decode cX7_trace 142 = .ok (.getfield 55, 3) := by decide +kernel
theorem dX7_trace_145 : decode cX7_trace 145 = .ok (.iload_n 3, 1) := by decide +kernel
theorem dX7_trace_146 : decode cX7_trace 146 = .ok (.iaload, 1) := by decide +kernel
theorem dX7_trace_147 : decode cX7_trace 147 = .ok (.iload 4, 2) := by decide +kernel
theorem dX7_trace_149 : decode cX7_trace 149 = .ok (.invokestatic 160, 3) := by decide +kernel
theorem dX7_trace_152 : decode cX7_trace 152 = .ok (.iadd, 1) := by decide +kernel
theorem dX7_trace_153 : decode cX7_trace 153 = .ok (.if_icmp .ne 64, 3) := by decide +kernel
theorem dX7_trace_156 : decode cX7_trace 156 = .ok (.aload_n 0, 1) := by decide +kernel
theorem dX7_trace_157 : decode cX7_trace 157 = .ok (.getfield 55, 3) := by decide +kernel
theorem dX7_trace_160 : decode cX7_trace 160 = .ok (.iload 5, 2) := by decide +kernel
theorem dX7_trace_162 : decode cX7_trace 162 = .ok (.iaload, 1) := by decide +kernel
theorem dX7_trace_163 : decode cX7_trace 163 = .ok (.iload_n 2, 1) := by decide +kernel
theorem dX7_trace_164 : decode cX7_trace 164 = .ok (.if_icmp .gt 53, 3) := by decide +kernel
theorem dX7_trace_167 : decode cX7_trace 167 = .ok (.aload_n 0, 1) := by decide +kernel
theorem dX7_trace_168 : decode cX7_trace 168 = .ok (.getfield 64, 3) := by decide +kernel
theorem dX7_trace_171 : decode cX7_trace 171 = .ok (.iload 5, 2) := by decide +kernel
theorem dX7_trace_173 : decode cX7_trace 173 = .ok (.baload, 1) := by decide +kernel
theorem dX7_trace_174 : decode cX7_trace 174 = .ok (.ifCond .ne 43, 3) := by decide +kernel
theorem dX7_trace_177 : decode cX7_trace 177 = .ok (.aload_n 0, 1) := by decide +kernel
theorem dX7_trace_178 : decode cX7_trace 178 = .ok (.getfield 67, 3) := by decide +kernel
theorem dX7_trace_181 : decode cX7_trace 181 = .ok (.aload_n 0, 1) := by decide +kernel
theorem dX7_trace_182 : decode cX7_trace 182 = .ok (.getfield 166, 3) := by decide +kernel
theorem dX7_trace_185 : decode cX7_trace 185 = .ok (.iload 4, 2) := by decide +kernel
theorem dX7_trace_187 : decode cX7_trace 187 = .ok (.iastore, 1) := by decide +kernel
theorem dX7_trace_188 : decode cX7_trace 188 = .ok (.aload_n 0, 1) := by decide +kernel
theorem dX7_trace_189 : decode cX7_trace 189 = .ok (.getfield 70, 3) := by decide +kernel
theorem dX7_trace_192 : decode cX7_trace 192 = .ok (.aload_n 0, 1) := by decide +kernel
theorem dX7_trace_193 : decode cX7_trace 193 = .ok (.getfield 166, 3) := by decide +kernel
theorem dX7_trace_196 : decode cX7_trace 196 = .ok (.iload_n 3, 1) := by decide +kernel
theorem dX7_trace_197 : decode cX7_trace 197 = .ok (.iastore, 1) := by decide +kernel
theorem dX7_trace_198 : decode cX7_trace 198 = .ok (.aload_n 0, 1) := by decide +kernel
theorem dX7_trace_199 : decode cX7_trace 199 = .ok (.dup, 1) := by decide +kernel
theorem dX7_trace_200 : decode cX7_trace 200 = .ok (.getfield 166, 3) := by decide +kernel
theorem dX7_trace_203 : decode cX7_trace 203 = .ok (.iconst 1, 1) := by decide +kernel
theorem dX7_trace_204 : decode cX7_trace 204 = .ok (.iadd, 1) := by decide +kernel
theorem dX7_trace_205 : decode cX7_trace 205 = .ok (.putfield 166, 3) := by decide +kernel
theorem dX7_trace_208 : decode cX7_trace 208 = .ok (.iload 5, 2) := by decide +kernel
theorem dX7_trace_210 : decode cX7_trace 210 = .ok (.istore_n 3, 1) := by decide +kernel
theorem dX7_trace_211 : decode cX7_trace 211 = .ok (.iconst 0, 1) := by decide +kernel
theorem dX7_trace_212 : decode cX7_trace 212 = .ok (.istore 4, 2) := by decide +kernel
theorem dX7_trace_214 : decode cX7_trace 214 = .ok (.goto 6, 3) := by decide +kernel
theorem dX7_trace_217 : decode cX7_trace 217 = .ok (.iinc 4 1, 3) := by decide +kernel
theorem dX7_trace_220 : decode cX7_trace 220 = .ok (.goto (-189), 3) := by decide +kernel
theorem dX7_trace_223 : decode cX7_trace 223 = .ok (.return_, 1) := by decide +kernel
theorem dX7_fewest_0 : decode cX7_fewest 0 = .ok (.iload_n 1, 1) := by decide +kernel
theorem dX7_fewest_1 : decode cX7_fewest 1 = .ok (.iconst 1, 1) := by decide +kernel
theorem dX7_fewest_2 : decode cX7_fewest 2 = .ok (.if_icmp .lt 9, 3) := by decide +kernel
theorem dX7_fewest_5 : decode cX7_fewest 5 = .ok (.iload_n 1, 1) := by decide +kernel
theorem dX7_fewest_6 : decode cX7_fewest 6 = .ok (.bipush 18, 2) := by decide +kernel
theorem dX7_fewest_8 : decode cX7_fewest 8 = .ok (.if_icmp .le 6, 3) := by decide +kernel
theorem dX7_fewest_11 : decode cX7_fewest 11 = .ok (.bipush (-2), 2) := by decide +kernel
theorem dX7_fewest_13 : decode cX7_fewest 13 = .ok (.ireturn, 1) := by decide +kernel
theorem dX7_fewest_14 : decode cX7_fewest 14 = .ok (.aload_n 0, 1) := by decide +kernel
theorem dX7_fewest_15 : decode cX7_fewest 15 = .ok (.iload_n 1, 1) := by decide +kernel
theorem dX7_fewest_16 : decode cX7_fewest 16 = .ok (.invokevirtual 169, 3) := by decide +kernel
theorem dX7_fewest_19 : decode cX7_fewest 19 = .ok (.istore_n 2, 1) := by decide +kernel
theorem dX7_fewest_20 : decode cX7_fewest 20 = .ok (.iload_n 2, 1) := by decide +kernel
theorem dX7_fewest_21 : decode cX7_fewest 21 = .ok (.ldc 156, 2) := by decide +kernel
theorem dX7_fewest_23 : decode cX7_fewest 23 = .ok (.if_icmp .ne 7, 3) := by decide +kernel
theorem dX7_fewest_26 : decode cX7_fewest 26 = .ok (.iconst (-1), 1) := by decide +kernel
theorem dX7_fewest_27 : decode cX7_fewest 27 = .ok (.goto 7, 3) := by decide +kernel
theorem dX7_fewest_30 : decode cX7_fewest 30 = .ok (.iload_n 2, 1) := by decide +kernel
theorem dX7_fewest_31 : decode cX7_fewest 31 = .ok (.ldc 155, 2) := by decide +kernel
theorem dX7_fewest_33 : decode cX7_fewest 33 = .ok (.idiv, 1) := by decide +kernel
theorem dX7_fewest_34 : decode cX7_fewest 34 = .ok (.ireturn, 1) := by decide +kernel
theorem dX7_least_0 : decode cX7_least 0 = .ok (.iconst 1, 1) := by decide +kernel
theorem dX7_least_1 : decode cX7_least 1 = .ok (.istore_n 1, 1) := by decide +kernel
theorem dX7_least_2 : decode cX7_least 2 = .ok (.iload_n 1, 1) := by decide +kernel
theorem dX7_least_3 : decode cX7_least 3 = .ok (.bipush 18, 2) := by decide +kernel
theorem dX7_least_5 : decode cX7_least 5 = .ok (.if_icmp .gt 21, 3) := by decide +kernel
theorem dX7_least_8 : decode cX7_least 8 = .ok (.aload_n 0, 1) := by decide +kernel
theorem dX7_least_9 : decode cX7_least 9 = .ok (.iload_n 1, 1) := by decide +kernel
theorem dX7_least_10 : decode cX7_least 10 = .ok (.invokevirtual 169, 3) := by decide +kernel
theorem dX7_least_13 : decode cX7_least 13 = .ok (.ldc 156, 2) := by decide +kernel
theorem dX7_least_15 : decode cX7_least 15 = .ok (.if_icmp .eq 5, 3) := by decide +kernel
theorem dX7_least_18 : decode cX7_least 18 = .ok (.iload_n 1, 1) := by decide +kernel
theorem dX7_least_19 : decode cX7_least 19 = .ok (.ireturn, 1) := by decide +kernel
theorem dX7_least_20 : decode cX7_least 20 = .ok (.iinc 1 1, 3) := by decide +kernel
theorem dX7_least_23 : decode cX7_least 23 = .ok (.goto (-21), 3) := by decide +kernel
theorem dX7_least_26 : decode cX7_least 26 = .ok (.iconst (-1), 1) := by decide +kernel
theorem dX7_least_27 : decode cX7_least 27 = .ok (.ireturn, 1) := by decide +kernel
theorem dX7_plan_0 : decode cX7_plan 0 = .ok (.iload_n 1, 1) := by decide +kernel
theorem dX7_plan_1 : decode cX7_plan 1 = .ok (.iconst 1, 1) := by decide +kernel
theorem dX7_plan_2 : decode cX7_plan 2 = .ok (.if_icmp .lt 14, 3) := by decide +kernel
theorem dX7_plan_5 : decode cX7_plan 5 = .ok (.iload_n 1, 1) := by decide +kernel
theorem dX7_plan_6 : decode cX7_plan 6 = .ok (.bipush 18, 2) := by decide +kernel
theorem dX7_plan_8 : decode cX7_plan 8 = .ok (.if_icmp .gt 8, 3) := by decide +kernel
theorem dX7_plan_11 : decode cX7_plan 11 = .ok (.iload_n 2, 1) := by decide +kernel
theorem dX7_plan_12 : decode cX7_plan 12 = .ok (.iconst (-1), 1) := by decide +kernel
theorem dX7_plan_13 : decode cX7_plan 13 = .ok (.if_icmp .ge 6, 3) := by decide +kernel
theorem dX7_plan_16 : decode cX7_plan 16 = .ok (.bipush (-2), 2) := by decide +kernel
theorem dX7_plan_18 : decode cX7_plan 18 = .ok (.ireturn, 1) := by decide +kernel
theorem dX7_plan_19 : decode cX7_plan 19 = .ok (.aload_n 0, 1) := by decide +kernel
theorem dX7_plan_20 : decode cX7_plan 20 = .ok (.iload_n 1, 1) := by decide +kernel
theorem dX7_plan_21 : decode cX7_plan 21 = .ok (.invokevirtual 169, 3) := by decide +kernel
theorem dX7_plan_24 : decode cX7_plan 24 = .ok (.istore_n 3, 1) := by decide +kernel
theorem dX7_plan_25 : decode cX7_plan 25 = .ok (.iload_n 3, 1) := by decide +kernel
theorem dX7_plan_26 : decode cX7_plan 26 = .ok (.ldc 156, 2) := by decide +kernel
theorem dX7_plan_28 : decode cX7_plan 28 = .ok (.if_icmp .ne 5, 3) := by decide +kernel
theorem dX7_plan_31 : decode cX7_plan 31 = .ok (.iconst (-1), 1) := by decide +kernel
theorem dX7_plan_32 : decode cX7_plan 32 = .ok (.ireturn, 1) := by decide +kernel
theorem dX7_plan_33 : decode cX7_plan 33 = .ok (.aload_n 0, 1) := by decide +kernel
theorem dX7_plan_34 : decode cX7_plan 34 = .ok (.iload_n 1, 1) := by decide +kernel
theorem dX7_plan_35 : decode cX7_plan 35 = .ok (.iload_n 3, 1) := by decide +kernel
theorem dX7_plan_36 : decode cX7_plan 36 = .ok (.invokevirtual 172, 3) := by decide +kernel
theorem dX7_plan_39 : decode cX7_plan 39 = .ok (.iload_n 2, 1) := by decide +kernel
theorem dX7_plan_40 : decode cX7_plan 40 = .ok (.ifCond .ge 10, 3) := by decide +kernel
theorem dX7_plan_43 : decode cX7_plan 43 = .ok (.aload_n 0, 1) := by decide +kernel
theorem dX7_plan_44 : decode cX7_plan 44 = .ok (.getfield 166, 3) := by decide +kernel
theorem dX7_plan_47 : decode cX7_plan 47 = .ok (.goto 21, 3) := by decide +kernel
theorem dX7_plan_50 : decode cX7_plan 50 = .ok (.iload_n 2, 1) := by decide +kernel
theorem dX7_plan_51 : decode cX7_plan 51 = .ok (.aload_n 0, 1) := by decide +kernel
theorem dX7_plan_52 : decode cX7_plan 52 = .ok (.getfield 166, 3) := by decide +kernel
theorem dX7_plan_55 : decode cX7_plan 55 = .ok (.if_icmp .ge 12, 3) := by decide +kernel
theorem dX7_plan_58 : decode cX7_plan 58 = .ok (.aload_n 0, 1) := by decide +kernel
theorem dX7_plan_59 : decode cX7_plan 59 = .ok (.getfield 67, 3) := by decide +kernel
theorem dX7_plan_62 : decode cX7_plan 62 = .ok (.iload_n 2, 1) := by decide +kernel
theorem dX7_plan_63 : decode cX7_plan 63 = .ok (.iaload, 1) := by decide +kernel
theorem dX7_plan_64 : decode cX7_plan 64 = .ok (.goto 4, 3) := by decide +kernel
theorem dX7_plan_67 : decode cX7_plan 67 = .ok (.iconst (-1), 1) := by decide +kernel
theorem dX7_plan_68 : decode cX7_plan 68 = .ok (.ireturn, 1) := by decide +kernel
theorem dX7_reach_0 : decode cX7_reach 0 = .ok (.iload_n 1, 1) := by decide +kernel
theorem dX7_reach_1 : decode cX7_reach 1 = .ok (.iconst 1, 1) := by decide +kernel
theorem dX7_reach_2 : decode cX7_reach 2 = .ok (.if_icmp .lt 9, 3) := by decide +kernel
theorem dX7_reach_5 : decode cX7_reach 5 = .ok (.iload_n 1, 1) := by decide +kernel
theorem dX7_reach_6 : decode cX7_reach 6 = .ok (.bipush 18, 2) := by decide +kernel
theorem dX7_reach_8 : decode cX7_reach 8 = .ok (.if_icmp .le 6, 3) := by decide +kernel
theorem dX7_reach_11 : decode cX7_reach 11 = .ok (.bipush (-2), 2) := by decide +kernel
theorem dX7_reach_13 : decode cX7_reach 13 = .ok (.ireturn, 1) := by decide +kernel
theorem dX7_reach_14 : decode cX7_reach 14 = .ok (.aload_n 0, 1) := by decide +kernel
theorem dX7_reach_15 : decode cX7_reach 15 = .ok (.iload_n 1, 1) := by decide +kernel
theorem dX7_reach_16 : decode cX7_reach 16 = .ok (.invokevirtual 169, 3) := by decide +kernel
theorem dX7_reach_19 : decode cX7_reach 19 = .ok (.istore_n 2, 1) := by decide +kernel
theorem dX7_reach_20 : decode cX7_reach 20 = .ok (.iconst 0, 1) := by decide +kernel
theorem dX7_reach_21 : decode cX7_reach 21 = .ok (.istore_n 3, 1) := by decide +kernel
theorem dX7_reach_22 : decode cX7_reach 22 = .ok (.iconst 0, 1) := by decide +kernel
theorem dX7_reach_23 : decode cX7_reach 23 = .ok (.istore 4, 2) := by decide +kernel
theorem dX7_reach_25 : decode cX7_reach 25 = .ok (.iload 4, 2) := by decide +kernel
theorem dX7_reach_27 : decode cX7_reach 27 = .ok (.sipush 5120, 3) := by decide +kernel
theorem dX7_reach_30 : decode cX7_reach 30 = .ok (.if_icmp .ge 70, 3) := by decide +kernel
theorem dX7_reach_33 : decode cX7_reach 33 = .ok (.iconst 0, 1) := by decide +kernel
theorem dX7_reach_34 : decode cX7_reach 34 = .ok (.istore 5, 2) := by decide +kernel
theorem dX7_reach_36 : decode cX7_reach 36 = .ok (.iconst 0, 1) := by decide +kernel
theorem dX7_reach_37 : decode cX7_reach 37 = .ok (.istore 6, 2) := by decide +kernel
theorem dX7_reach_39 : decode cX7_reach 39 = .ok (.iload 6, 2) := by decide +kernel
theorem dX7_reach_41 : decode cX7_reach 41 = .ok (.bipush 8, 2) := by decide +kernel
theorem dX7_reach_43 : decode cX7_reach 43 = .ok (.if_icmp .ge 38, 3) := by decide +kernel
theorem dX7_reach_46 : decode cX7_reach 46 = .ok (.iload 5, 2) := by decide +kernel
theorem dX7_reach_48 : decode cX7_reach 48 = .ok (.aload_n 0, 1) := by decide +kernel
theorem dX7_reach_49 : decode cX7_reach 49 = .ok (.getfield 55, 3) := by decide +kernel
theorem dX7_reach_52 : decode cX7_reach 52 = .ok (.iload 4, 2) := by decide +kernel
theorem dX7_reach_54 : decode cX7_reach 54 = .ok (.sipush 5120, 3) := by decide +kernel
theorem dX7_reach_57 : decode cX7_reach 57 = .ok (.iload 6, 2) := by decide +kernel
theorem dX7_reach_59 : decode cX7_reach 59 = .ok (.imul, 1) := by decide +kernel
theorem dX7_reach_60 : decode cX7_reach 60 = .ok (.iadd, 1) := by decide +kernel
theorem dX7_reach_61 : decode cX7_reach 61 = .ok (.iaload, 1) := by decide +kernel
theorem dX7_reach_62 : decode cX7_reach 62 = .ok (.ldc 156, 2) := by decide +kernel
theorem dX7_reach_64 : decode cX7_reach 64 = .ok (.if_icmp .eq 7, 3) := by decide +kernel
theorem dX7_reach_67 : decode cX7_reach 67 = .ok (.iconst 1, 1) := by decide +kernel
theorem dX7_reach_68 : decode cX7_reach 68 = .ok (.goto 4, 3) := by decide +kernel
theorem dX7_reach_71 : decode cX7_reach 71 = .ok (.iconst 0, 1) := by decide +kernel
theorem dX7_reach_72 : decode cX7_reach 72 = .ok (.ior, 1) := by decide +kernel
theorem dX7_reach_73 : decode cX7_reach 73 = .ok (.istore 5, 2) := by decide +kernel
theorem dX7_reach_75 : decode cX7_reach 75 = .ok (.iinc 6 1, 3) := by decide +kernel
theorem dX7_reach_78 : decode cX7_reach 78 = .ok (.goto (-39), 3) := by decide +kernel
theorem dX7_reach_81 : decode cX7_reach 81 = .ok (.iload_n 3, 1) := by decide +kernel
theorem dX7_reach_82 : decode cX7_reach 82 = .ok (.iload 5, 2) := by decide +kernel
theorem dX7_reach_84 : decode cX7_reach 84 = .ok (.ifCond .eq 7, 3) := by decide +kernel
theorem dX7_reach_87 : decode cX7_reach 87 = .ok (.iconst 1, 1) := by decide +kernel
theorem dX7_reach_88 : decode cX7_reach 88 = .ok (.goto 4, 3) := by decide +kernel
theorem dX7_reach_91 : decode cX7_reach 91 = .ok (.iconst 0, 1) := by decide +kernel
theorem dX7_reach_92 : decode cX7_reach 92 = .ok (.iadd, 1) := by decide +kernel
theorem dX7_reach_93 : decode cX7_reach 93 = .ok (.istore_n 3, 1) := by decide +kernel
theorem dX7_reach_94 : decode cX7_reach 94 = .ok (.iinc 4 1, 3) := by decide +kernel
theorem dX7_reach_97 : decode cX7_reach 97 = .ok (.goto (-72), 3) := by decide +kernel
theorem dX7_reach_100 : decode cX7_reach 100 = .ok (.iload_n 3, 1) := by decide +kernel
theorem dX7_reach_101 : decode cX7_reach 101 = .ok (.ireturn, 1) := by decide +kernel
theorem dX7_isPlain_0 : decode cX7_isPlain 0 = .ok (.iconst 1, 1) := by decide +kernel
theorem dX7_isPlain_1 : decode cX7_isPlain 1 = .ok (.istore_n 1, 1) := by decide +kernel
theorem dX7_isPlain_2 : decode cX7_isPlain 2 = .ok (.iconst 0, 1) := by decide +kernel
theorem dX7_isPlain_3 : decode cX7_isPlain 3 = .ok (.istore_n 2, 1) := by decide +kernel
theorem dX7_isPlain_4 : decode cX7_isPlain 4 = .ok (.iload_n 2, 1) := by decide +kernel
theorem dX7_isPlain_5 : decode cX7_isPlain 5 = .ok (.aload_n 0, 1) := by decide +kernel
theorem dX7_isPlain_6 : decode cX7_isPlain 6 = .ok (.getfield 73, 3) := by decide +kernel
theorem dX7_isPlain_9 : decode cX7_isPlain 9 = .ok (.if_icmp .ge 37, 3) := by decide +kernel
theorem dX7_isPlain_12 : decode cX7_isPlain 12 = .ok (.iload_n 1, 1) := by decide +kernel
theorem dX7_isPlain_13 : decode cX7_isPlain 13 = .ok (.aload_n 0, 1) := by decide +kernel
theorem dX7_isPlain_14 : decode cX7_isPlain 14 = .ok (.getfield 9, 3) := by decide +kernel
theorem dX7_isPlain_17 : decode cX7_isPlain 17 = .ok (.iload_n 2, 1) := by decide +kernel
theorem dX7_isPlain_18 : decode cX7_isPlain 18 = .ok (.iaload, 1) := by decide +kernel
theorem dX7_isPlain_19 : decode cX7_isPlain 19 = .ok (.iconst 2, 1) := by decide +kernel
theorem dX7_isPlain_20 : decode cX7_isPlain 20 = .ok (.if_icmp .eq 17, 3) := by decide +kernel
theorem dX7_isPlain_23 : decode cX7_isPlain 23 = .ok (.aload_n 0, 1) := by decide +kernel
theorem dX7_isPlain_24 : decode cX7_isPlain 24 = .ok (.getfield 9, 3) := by decide +kernel
theorem dX7_isPlain_27 : decode cX7_isPlain 27 = .ok (.iload_n 2, 1) := by decide +kernel
theorem dX7_isPlain_28 : decode cX7_isPlain 28 = .ok (.iaload, 1) := by decide +kernel
theorem dX7_isPlain_29 : decode cX7_isPlain 29 = .ok (.iconst 4, 1) := by decide +kernel
theorem dX7_isPlain_30 : decode cX7_isPlain 30 = .ok (.if_icmp .eq 7, 3) := by decide +kernel
theorem dX7_isPlain_33 : decode cX7_isPlain 33 = .ok (.iconst 1, 1) := by decide +kernel
theorem dX7_isPlain_34 : decode cX7_isPlain 34 = .ok (.goto 4, 3) := by decide +kernel
theorem dX7_isPlain_37 : decode cX7_isPlain 37 = .ok (.iconst 0, 1) := by decide +kernel
theorem dX7_isPlain_38 : decode cX7_isPlain 38 = .ok (.iand, 1) := by decide +kernel
theorem dX7_isPlain_39 : decode cX7_isPlain 39 = .ok (.istore_n 1, 1) := by decide +kernel
theorem dX7_isPlain_40 : decode cX7_isPlain 40 = .ok (.iinc 2 1, 3) := by decide +kernel
theorem dX7_isPlain_43 : decode cX7_isPlain 43 = .ok (.goto (-39), 3) := by decide +kernel
theorem dX7_isPlain_46 : decode cX7_isPlain 46 = .ok (.iload_n 1, 1) := by decide +kernel
theorem dX7_isPlain_47 : decode cX7_isPlain 47 = .ok (.ireturn, 1) := by decide +kernel
theorem dX7_bitBehind_0 : decode cX7_bitBehind 0 = .ok (.aload_n 0, 1) := by decide +kernel
theorem dX7_bitBehind_1 : decode cX7_bitBehind 1 = .ok (.iload_n 1, 1) := by decide +kernel
theorem dX7_bitBehind_2 : decode cX7_bitBehind 2 = .ok (.sipush 512, 3) := by decide +kernel
theorem dX7_bitBehind_5 : decode cX7_bitBehind 5 = .ok (.irem, 1) := by decide +kernel
theorem dX7_bitBehind_6 : decode cX7_bitBehind 6 = .ok (.sipush 5120, 3) := by decide +kernel
theorem dX7_bitBehind_9 : decode cX7_bitBehind 9 = .ok (.iload_n 1, 1) := by decide +kernel
theorem dX7_bitBehind_10 : decode cX7_bitBehind 10 = .ok (.sipush 512, 3) := by decide +kernel
theorem dX7_bitBehind_13 : decode cX7_bitBehind 13 = .ok (.idiv, 1) := by decide +kernel
theorem dX7_bitBehind_14 : decode cX7_bitBehind 14 = .ok (.imul, 1) := by decide +kernel
theorem dX7_bitBehind_15 : decode cX7_bitBehind 15 = .ok (.iadd, 1) := by decide +kernel
theorem dX7_bitBehind_16 : decode cX7_bitBehind 16 = .ok (.iload_n 2, 1) := by decide +kernel
theorem dX7_bitBehind_17 : decode cX7_bitBehind 17 = .ok (.iload_n 3, 1) := by decide +kernel
theorem dX7_bitBehind_18 : decode cX7_bitBehind 18 = .ok (.invokevirtual 157, 3) := by decide +kernel
theorem dX7_bitBehind_21 : decode cX7_bitBehind 21 = .ok (.istore 4, 2) := by decide +kernel
theorem dX7_bitBehind_23 : decode cX7_bitBehind 23 = .ok (.iload 4, 2) := by decide +kernel
theorem dX7_bitBehind_25 : decode cX7_bitBehind 25 = .ok (.ifCond .ge 7, 3) := by decide +kernel
theorem dX7_bitBehind_28 : decode cX7_bitBehind 28 = .ok (.iconst (-1), 1) := by decide +kernel
theorem dX7_bitBehind_29 : decode cX7_bitBehind 29 = .ok (.goto 20, 3) := by decide +kernel
theorem dX7_bitBehind_32 : decode cX7_bitBehind 32 = .ok (.iload 4, 2) := by decide +kernel
theorem dX7_bitBehind_34 : decode cX7_bitBehind 34 = .ok (.sipush 512, 3) := by decide +kernel
theorem dX7_bitBehind_37 : decode cX7_bitBehind 37 = .ok (.irem, 1) := by decide +kernel
theorem dX7_bitBehind_38 : decode cX7_bitBehind 38 = .ok (.sipush 512, 3) := by decide +kernel
theorem dX7_bitBehind_41 : decode cX7_bitBehind 41 = .ok (.iload 4, 2) := by decide +kernel
theorem dX7_bitBehind_43 : decode cX7_bitBehind 43 = .ok (.sipush 5120, 3) := by decide +kernel
theorem dX7_bitBehind_46 : decode cX7_bitBehind 46 = .ok (.idiv, 1) := by decide +kernel
theorem dX7_bitBehind_47 : decode cX7_bitBehind 47 = .ok (.imul, 1) := by decide +kernel
theorem dX7_bitBehind_48 : decode cX7_bitBehind 48 = .ok (.iadd, 1) := by decide +kernel
theorem dX7_bitBehind_49 : decode cX7_bitBehind 49 = .ok (.ireturn, 1) := by decide +kernel
theorem dX7_row_0 : decode cX7_row 0 = .ok (.iload_n 1, 1) := by decide +kernel
theorem dX7_row_1 : decode cX7_row 1 = .ok (.iconst 1, 1) := by decide +kernel
theorem dX7_row_2 : decode cX7_row 2 = .ok (.if_icmp .lt 16, 3) := by decide +kernel
theorem dX7_row_5 : decode cX7_row 5 = .ok (.iload_n 1, 1) := by decide +kernel
theorem dX7_row_6 : decode cX7_row 6 = .ok (.bipush 18, 2) := by decide +kernel
theorem dX7_row_8 : decode cX7_row 8 = .ok (.if_icmp .gt 10, 3) := by decide +kernel
theorem dX7_row_11 : decode cX7_row 11 = .ok (.aload_n 0, 1) := by decide +kernel
theorem dX7_row_12 : decode cX7_row 12 = .ok (.invokevirtual 175, 3) := by decide +kernel
theorem dX7_row_15 : decode cX7_row 15 = .ok (.ifCond .ne 6, 3) := by decide +kernel
theorem dX7_row_18 : decode cX7_row 18 = .ok (.bipush (-2), 2) := by decide +kernel
theorem dX7_row_20 : decode cX7_row 20 = .ok (.ireturn, 1) := by decide +kernel
theorem dX7_row_21 : decode cX7_row 21 = .ok (.iconst 0, 1) := by decide +kernel
theorem dX7_row_22 : decode cX7_row 22 = .ok (.istore_n 2, 1) := by decide +kernel
theorem dX7_row_23 : decode cX7_row 23 = .ok (.iload_n 2, 1) := by decide +kernel
theorem dX7_row_24 : decode cX7_row 24 = .ok (.sipush 4096, 3) := by decide +kernel
theorem dX7_row_27 : decode cX7_row 27 = .ok (.if_icmp .ge 24, 3) := by decide +kernel
theorem dX7_row_30 : decode cX7_row 30 = .ok (.aload_n 0, 1) := by decide +kernel
theorem dX7_row_31 : decode cX7_row 31 = .ok (.getfield 32, 3) := by decide +kernel
theorem dX7_row_34 : decode cX7_row 34 = .ok (.iload_n 2, 1) := by decide +kernel
theorem dX7_row_35 : decode cX7_row 35 = .ok (.iload_n 2, 1) := by decide +kernel
theorem dX7_row_36 : decode cX7_row 36 = .ok (.ifCond .ne 7, 3) := by decide +kernel
theorem dX7_row_39 : decode cX7_row 39 = .ok (.iconst 1, 1) := by decide +kernel
theorem dX7_row_40 : decode cX7_row 40 = .ok (.goto 4, 3) := by decide +kernel
theorem dX7_row_43 : decode cX7_row 43 = .ok (.iconst 0, 1) := by decide +kernel
theorem dX7_row_44 : decode cX7_row 44 = .ok (.bastore, 1) := by decide +kernel
theorem dX7_row_45 : decode cX7_row 45 = .ok (.iinc 2 1, 3) := by decide +kernel
theorem dX7_row_48 : decode cX7_row 48 = .ok (.goto (-25), 3) := by decide +kernel
theorem dX7_row_51 : decode cX7_row 51 = .ok (.iconst 1, 1) := by decide +kernel
theorem dX7_row_52 : decode cX7_row 52 = .ok (.istore_n 2, 1) := by decide +kernel
theorem dX7_row_53 : decode cX7_row 53 = .ok (.iload_n 2, 1) := by decide +kernel
theorem dX7_row_54 : decode cX7_row 54 = .ok (.ifCond .eq 83, 3) := by decide +kernel
theorem dX7_row_57 : decode cX7_row 57 = .ok (.iconst 0, 1) := by decide +kernel
theorem dX7_row_58 : decode cX7_row 58 = .ok (.istore_n 2, 1) := by decide +kernel
theorem dX7_row_59 : decode cX7_row 59 = .ok (.iconst 0, 1) := by decide +kernel
theorem dX7_row_60 : decode cX7_row 60 = .ok (.istore_n 3, 1) := by decide +kernel
theorem dX7_row_61 : decode cX7_row 61 = .ok (.iload_n 3, 1) := by decide +kernel
theorem dX7_row_62 : decode cX7_row 62 = .ok (.sipush 4096, 3) := by decide +kernel
theorem dX7_row_65 : decode cX7_row 65 = .ok (.if_icmp .ge 69, 3) := by decide +kernel
theorem dX7_row_68 : decode cX7_row 68 = .ok (.iconst 0, 1) := by decide +kernel
theorem dX7_row_69 : decode cX7_row 69 = .ok (.istore 4, 2) := by decide +kernel
theorem dX7_row_71 : decode cX7_row 71 = .ok (.iload 4, 2) := by decide +kernel
theorem dX7_row_73 : decode cX7_row 73 = .ok (.bipush 18, 2) := by decide +kernel
theorem dX7_row_75 : decode cX7_row 75 = .ok (.if_icmp .ge 53, 3) := by decide +kernel
theorem dX7_row_78 : decode cX7_row 78 = .ok (.aload_n 0, 1) := by decide +kernel
theorem dX7_row_79 : decode cX7_row 79 = .ok (.getfield 32, 3) := by decide +kernel
theorem dX7_row_82 : decode cX7_row 82 = .ok (.iload_n 3, 1) := by decide +kernel
theorem dX7_row_83 : decode cX7_row 83 = .ok (.baload, 1) := by decide +kernel
theorem dX7_row_84 : decode cX7_row 84 = .ok (.ifCond .eq 44, 3) := by decide +kernel
theorem dX7_row_87 : decode cX7_row 87 = .ok (.aload_n 0, 1) := by decide +kernel
theorem dX7_row_88 : decode cX7_row 88 = .ok (.iload_n 3, 1) := by decide +kernel
theorem dX7_row_89 : decode cX7_row 89 = .ok (.iload 4, 2) := by decide +kernel
theorem dX7_row_91 : decode cX7_row 91 = .ok (.iload_n 1, 1) := by decide +kernel
theorem dX7_row_92 : decode cX7_row 92 = .ok (.invokevirtual 179, 3) := by decide +kernel
theorem dX7_row_95 : decode cX7_row 95 = .ok (.istore 5, 2) := by decide +kernel
theorem dX7_row_97 : decode cX7_row 97 = .ok (.iload 5, 2) := by decide +kernel
theorem dX7_row_99 : decode cX7_row 99 = .ok (.ifCond .lt 23, 3) := by decide +kernel
theorem dX7_row_102 : decode cX7_row 102 = .ok (.aload_n 0, 1) := by decide +kernel
theorem dX7_row_103 : decode cX7_row 103 = .ok (.getfield 32, 3) := by decide +kernel
theorem dX7_row_106 : decode cX7_row 106 = .ok (.iload 5, 2) := by decide +kernel
theorem dX7_row_108 : decode cX7_row 108 = .ok (.baload, 1) := by decide +kernel
theorem dX7_row_109 : decode cX7_row 109 = .ok (.ifCond .ne 13, 3) := by decide +kernel
theorem dX7_row_112 : decode cX7_row 112 = .ok (.aload_n 0, 1) := by decide +kernel
theorem dX7_row_113 : decode cX7_row 113 = .ok (.getfield 32, 3) := by decide +kernel
theorem dX7_row_116 : decode cX7_row 116 = .ok (.iload 5, 2) := by decide +kernel
theorem dX7_row_118 : decode cX7_row 118 = .ok (.iconst 1, 1) := by decide +kernel
theorem dX7_row_119 : decode cX7_row 119 = .ok (.bastore, 1) := by decide +kernel
theorem dX7_row_120 : decode cX7_row 120 = .ok (.iconst 1, 1) := by decide +kernel
theorem dX7_row_121 : decode cX7_row 121 = .ok (.istore_n 2, 1) := by decide +kernel
theorem dX7_row_122 : decode cX7_row 122 = .ok (.iinc 4 1, 3) := by decide +kernel
theorem dX7_row_125 : decode cX7_row 125 = .ok (.goto (-54), 3) := by decide +kernel
theorem dX7_row_128 : decode cX7_row 128 = .ok (.iinc 3 1, 3) := by decide +kernel
theorem dX7_row_131 : decode cX7_row 131 = .ok (.goto (-70), 3) := by decide +kernel
theorem dX7_row_134 : decode cX7_row 134 = .ok (.goto (-81), 3) := by decide +kernel
theorem dX7_row_137 : decode cX7_row 137 = .ok (.aload_n 0, 1) := by decide +kernel
theorem dX7_row_138 : decode cX7_row 138 = .ok (.invokevirtual 146, 3) := by decide +kernel
theorem dX7_row_141 : decode cX7_row 141 = .ok (.ireturn, 1) := by decide +kernel
theorem dX7_bit_0 : decode cX7_bit 0 = .ok (.iload_n 1, 1) := by decide +kernel
theorem dX7_bit_1 : decode cX7_bit 1 = .ok (.ifCond .lt 10, 3) := by decide +kernel
theorem dX7_bit_4 : decode cX7_bit 4 = .ok (.iload_n 1, 1) := by decide +kernel
theorem dX7_bit_5 : decode cX7_bit 5 = .ok (.sipush 4096, 3) := by decide +kernel
theorem dX7_bit_8 : decode cX7_bit 8 = .ok (.if_icmp .lt 8, 3) := by decide +kernel
theorem dX7_bit_11 : decode cX7_bit 11 = .ok (.bipush (-2), 2) := by decide +kernel
theorem dX7_bit_13 : decode cX7_bit 13 = .ok (.goto 17, 3) := by decide +kernel
theorem dX7_bit_16 : decode cX7_bit 16 = .ok (.aload_n 0, 1) := by decide +kernel
theorem dX7_bit_17 : decode cX7_bit 17 = .ok (.getfield 32, 3) := by decide +kernel
theorem dX7_bit_20 : decode cX7_bit 20 = .ok (.iload_n 1, 1) := by decide +kernel
theorem dX7_bit_21 : decode cX7_bit 21 = .ok (.baload, 1) := by decide +kernel
theorem dX7_bit_22 : decode cX7_bit 22 = .ok (.ifCond .eq 7, 3) := by decide +kernel
theorem dX7_bit_25 : decode cX7_bit 25 = .ok (.iconst 1, 1) := by decide +kernel
theorem dX7_bit_26 : decode cX7_bit 26 = .ok (.goto 4, 3) := by decide +kernel
theorem dX7_bit_29 : decode cX7_bit 29 = .ok (.iconst 0, 1) := by decide +kernel
theorem dX7_bit_30 : decode cX7_bit 30 = .ok (.ireturn, 1) := by decide +kernel
theorem dX7_flip_0 : decode cX7_flip 0 = .ok (.iload_n 1, 1) := by decide +kernel
theorem dX7_flip_1 : decode cX7_flip 1 = .ok (.ifCond .lt 10, 3) := by decide +kernel
theorem dX7_flip_4 : decode cX7_flip 4 = .ok (.iload_n 1, 1) := by decide +kernel
theorem dX7_flip_5 : decode cX7_flip 5 = .ok (.sipush 4096, 3) := by decide +kernel
theorem dX7_flip_8 : decode cX7_flip 8 = .ok (.if_icmp .lt 6, 3) := by decide +kernel
theorem dX7_flip_11 : decode cX7_flip 11 = .ok (.bipush (-2), 2) := by decide +kernel
theorem dX7_flip_13 : decode cX7_flip 13 = .ok (.ireturn, 1) := by decide +kernel
theorem dX7_flip_14 : decode cX7_flip 14 = .ok (.aload_n 0, 1) := by decide +kernel
theorem dX7_flip_15 : decode cX7_flip 15 = .ok (.getfield 32, 3) := by decide +kernel
theorem dX7_flip_18 : decode cX7_flip 18 = .ok (.iload_n 1, 1) := by decide +kernel
theorem dX7_flip_19 : decode cX7_flip 19 = .ok (.aload_n 0, 1) := by decide +kernel
theorem dX7_flip_20 : decode cX7_flip 20 = .ok (.getfield 32, 3) := by decide +kernel
theorem dX7_flip_23 : decode cX7_flip 23 = .ok (.iload_n 1, 1) := by decide +kernel
theorem dX7_flip_24 : decode cX7_flip 24 = .ok (.baload, 1) := by decide +kernel
theorem dX7_flip_25 : decode cX7_flip 25 = .ok (.ifCond .ne 7, 3) := by decide +kernel
theorem dX7_flip_28 : decode cX7_flip 28 = .ok (.iconst 1, 1) := by decide +kernel
theorem dX7_flip_29 : decode cX7_flip 29 = .ok (.goto 4, 3) := by decide +kernel
theorem dX7_flip_32 : decode cX7_flip 32 = .ok (.iconst 0, 1) := by decide +kernel
theorem dX7_flip_33 : decode cX7_flip 33 = .ok (.bastore, 1) := by decide +kernel
theorem dX7_flip_34 : decode cX7_flip 34 = .ok (.aload_n 0, 1) := by decide +kernel
theorem dX7_flip_35 : decode cX7_flip 35 = .ok (.getfield 32, 3) := by decide +kernel
theorem dX7_flip_38 : decode cX7_flip 38 = .ok (.iload_n 1, 1) := by decide +kernel
theorem dX7_flip_39 : decode cX7_flip 39 = .ok (.baload, 1) := by decide +kernel
theorem dX7_flip_40 : decode cX7_flip 40 = .ok (.ifCond .eq 7, 3) := by decide +kernel
theorem dX7_flip_43 : decode cX7_flip 43 = .ok (.iconst 1, 1) := by decide +kernel
theorem dX7_flip_44 : decode cX7_flip 44 = .ok (.goto 4, 3) := by decide +kernel
theorem dX7_flip_47 : decode cX7_flip 47 = .ok (.iconst 0, 1) := by decide +kernel
theorem dX7_flip_48 : decode cX7_flip 48 = .ok (.ireturn, 1) := by decide +kernel
theorem dX7_faultOf_0 : decode cX7_faultOf 0 = .ok (.iload_n 1, 1) := by decide +kernel
theorem dX7_faultOf_1 : decode cX7_faultOf 1 = .ok (.sipush 512, 3) := by decide +kernel
theorem dX7_faultOf_4 : decode cX7_faultOf 4 = .ok (.irem, 1) := by decide +kernel
theorem dX7_faultOf_5 : decode cX7_faultOf 5 = .ok (.istore_n 3, 1) := by decide +kernel
theorem dX7_faultOf_6 : decode cX7_faultOf 6 = .ok (.iload_n 1, 1) := by decide +kernel
theorem dX7_faultOf_7 : decode cX7_faultOf 7 = .ok (.sipush 512, 3) := by decide +kernel
theorem dX7_faultOf_10 : decode cX7_faultOf 10 = .ok (.idiv, 1) := by decide +kernel
theorem dX7_faultOf_11 : decode cX7_faultOf 11 = .ok (.istore 4, 2) := by decide +kernel
theorem dX7_faultOf_13 : decode cX7_faultOf 13 = .ok (.iconst 1, 1) := by decide +kernel
theorem dX7_faultOf_14 : decode cX7_faultOf 14 = .ok (.aload_n 0, 1) := by decide +kernel
theorem dX7_faultOf_15 : decode cX7_faultOf 15 = .ok (.getfield 119, 3) := by decide +kernel
theorem dX7_faultOf_18 : decode cX7_faultOf 18 = .ok (.ishl, 1) := by decide +kernel
theorem dX7_faultOf_19 : decode cX7_faultOf 19 = .ok (.iconst 1, 1) := by decide +kernel
theorem dX7_faultOf_20 : decode cX7_faultOf 20 = .ok (.isub, 1) := by decide +kernel
theorem dX7_faultOf_21 : decode cX7_faultOf 21 = .ok (.istore 5, 2) := by decide +kernel
theorem dX7_faultOf_23 : decode cX7_faultOf 23 = .ok (.aload_n 0, 1) := by decide +kernel
theorem dX7_faultOf_24 : decode cX7_faultOf 24 = .ok (.getfield 122, 3) := by decide +kernel
theorem dX7_faultOf_27 : decode cX7_faultOf 27 = .ok (.ifCond .eq 14, 3) := by decide +kernel
theorem dX7_faultOf_30 : decode cX7_faultOf 30 = .ok (.aload_n 0, 1) := by decide +kernel
theorem dX7_faultOf_31 : decode cX7_faultOf 31 = .ok (.iload_n 3, 1) := by decide +kernel
theorem dX7_faultOf_32 : decode cX7_faultOf 32 = .ok (.invokevirtual 149, 3) := by decide +kernel
theorem dX7_faultOf_35 : decode cX7_faultOf 35 = .ok (.ifCond .eq 18, 3) := by decide +kernel
theorem dX7_faultOf_38 : decode cX7_faultOf 38 = .ok (.goto 13, 3) := by decide +kernel
theorem dX7_faultOf_41 : decode cX7_faultOf 41 = .ok (.iload 4, 2) := by decide +kernel
theorem dX7_faultOf_43 : decode cX7_faultOf 43 = .ok (.iload 5, 2) := by decide +kernel
theorem dX7_faultOf_45 : decode cX7_faultOf 45 = .ok (.iand, 1) := by decide +kernel
theorem dX7_faultOf_46 : decode cX7_faultOf 46 = .ok (.iload 5, 2) := by decide +kernel
theorem dX7_faultOf_48 : decode cX7_faultOf 48 = .ok (.if_icmp .ne 5, 3) := by decide +kernel
theorem dX7_faultOf_51 : decode cX7_faultOf 51 = .ok (.iconst 2, 1) := by decide +kernel
theorem dX7_faultOf_52 : decode cX7_faultOf 52 = .ok (.ireturn, 1) := by decide +kernel
theorem dX7_faultOf_53 : decode cX7_faultOf 53 = .ok (.iload_n 3, 1) := by decide +kernel
theorem dX7_faultOf_54 : decode cX7_faultOf 54 = .ok (.iconst 1, 1) := by decide +kernel
theorem dX7_faultOf_55 : decode cX7_faultOf 55 = .ok (.aload_n 0, 1) := by decide +kernel
theorem dX7_faultOf_56 : decode cX7_faultOf 56 = .ok (.getfield 73, 3) := by decide +kernel
theorem dX7_faultOf_59 : decode cX7_faultOf 59 = .ok (.ishl, 1) := by decide +kernel
theorem dX7_faultOf_60 : decode cX7_faultOf 60 = .ok (.if_icmp .ge 25, 3) := by decide +kernel
theorem dX7_faultOf_63 : decode cX7_faultOf 63 = .ok (.aload_n 0, 1) := by decide +kernel
theorem dX7_faultOf_64 : decode cX7_faultOf 64 = .ok (.getfield 122, 3) := by decide +kernel
theorem dX7_faultOf_67 : decode cX7_faultOf 67 = .ok (.ifCond .eq 11, 3) := by decide +kernel
theorem dX7_faultOf_70 : decode cX7_faultOf 70 = .ok (.iload 4, 2) := by decide +kernel
theorem dX7_faultOf_72 : decode cX7_faultOf 72 = .ok (.ifCond .eq 15, 3) := by decide +kernel
theorem dX7_faultOf_75 : decode cX7_faultOf 75 = .ok (.goto 10, 3) := by decide +kernel
theorem dX7_faultOf_78 : decode cX7_faultOf 78 = .ok (.iload 4, 2) := by decide +kernel
theorem dX7_faultOf_80 : decode cX7_faultOf 80 = .ok (.iload 5, 2) := by decide +kernel
theorem dX7_faultOf_82 : decode cX7_faultOf 82 = .ok (.if_icmp .le 5, 3) := by decide +kernel
theorem dX7_faultOf_85 : decode cX7_faultOf 85 = .ok (.iconst 3, 1) := by decide +kernel
theorem dX7_faultOf_86 : decode cX7_faultOf 86 = .ok (.ireturn, 1) := by decide +kernel
theorem dX7_faultOf_87 : decode cX7_faultOf 87 = .ok (.iconst 0, 1) := by decide +kernel
theorem dX7_faultOf_88 : decode cX7_faultOf 88 = .ok (.istore 6, 2) := by decide +kernel
theorem dX7_faultOf_90 : decode cX7_faultOf 90 = .ok (.iload 6, 2) := by decide +kernel
theorem dX7_faultOf_92 : decode cX7_faultOf 92 = .ok (.bipush 18, 2) := by decide +kernel
theorem dX7_faultOf_94 : decode cX7_faultOf 94 = .ok (.if_icmp .ge 36, 3) := by decide +kernel
theorem dX7_faultOf_97 : decode cX7_faultOf 97 = .ok (.aload_n 0, 1) := by decide +kernel
theorem dX7_faultOf_98 : decode cX7_faultOf 98 = .ok (.iload_n 1, 1) := by decide +kernel
theorem dX7_faultOf_99 : decode cX7_faultOf 99 = .ok (.iload 6, 2) := by decide +kernel
theorem dX7_faultOf_101 : decode cX7_faultOf 101 = .ok (.iload_n 2, 1) := by decide +kernel
theorem dX7_faultOf_102 : decode cX7_faultOf 102 = .ok (.invokevirtual 179, 3) := by decide +kernel
theorem dX7_faultOf_105 : decode cX7_faultOf 105 = .ok (.istore 7, 2) := by decide +kernel
theorem dX7_faultOf_107 : decode cX7_faultOf 107 = .ok (.iload 7, 2) := by decide +kernel
theorem dX7_faultOf_109 : decode cX7_faultOf 109 = .ok (.ifCond .lt 15, 3) := by decide +kernel
theorem dX7_faultOf_112 : decode cX7_faultOf 112 = .ok (.aload_n 0, 1) := by decide +kernel
theorem dX7_faultOf_113 : decode cX7_faultOf 113 = .ok (.getfield 32, 3) := by decide +kernel
theorem dX7_faultOf_116 : decode cX7_faultOf 116 = .ok (.iload 7, 2) := by decide +kernel
theorem dX7_faultOf_118 : decode cX7_faultOf 118 = .ok (.baload, 1) := by decide +kernel
theorem dX7_faultOf_119 : decode cX7_faultOf 119 = .ok (.ifCond .ne 5, 3) := by decide +kernel
theorem dX7_faultOf_122 : decode cX7_faultOf 122 = .ok (.iconst 4, 1) := by decide +kernel
theorem dX7_faultOf_123 : decode cX7_faultOf 123 = .ok (.ireturn, 1) := by decide +kernel
theorem dX7_faultOf_124 : decode cX7_faultOf 124 = .ok (.iinc 6 1, 3) := by decide +kernel
theorem dX7_faultOf_127 : decode cX7_faultOf 127 = .ok (.goto (-37), 3) := by decide +kernel
theorem dX7_faultOf_130 : decode cX7_faultOf 130 = .ok (.iconst 0, 1) := by decide +kernel
theorem dX7_faultOf_131 : decode cX7_faultOf 131 = .ok (.ireturn, 1) := by decide +kernel
theorem dX7_check_0 : decode cX7_check 0 = .ok (.iload_n 1, 1) := by decide +kernel
theorem dX7_check_1 : decode cX7_check 1 = .ok (.iconst 1, 1) := by decide +kernel
theorem dX7_check_2 : decode cX7_check 2 = .ok (.if_icmp .lt 16, 3) := by decide +kernel
theorem dX7_check_5 : decode cX7_check 5 = .ok (.iload_n 1, 1) := by decide +kernel
theorem dX7_check_6 : decode cX7_check 6 = .ok (.bipush 18, 2) := by decide +kernel
theorem dX7_check_8 : decode cX7_check 8 = .ok (.if_icmp .gt 10, 3) := by decide +kernel
theorem dX7_check_11 : decode cX7_check 11 = .ok (.aload_n 0, 1) := by decide +kernel
theorem dX7_check_12 : decode cX7_check 12 = .ok (.invokevirtual 175, 3) := by decide +kernel
theorem dX7_check_15 : decode cX7_check 15 = .ok (.ifCond .ne 6, 3) := by decide +kernel
theorem dX7_check_18 : decode cX7_check 18 = .ok (.bipush (-2), 2) := by decide +kernel
theorem dX7_check_20 : decode cX7_check 20 = .ok (.ireturn, 1) := by decide +kernel
theorem dX7_check_21 : decode cX7_check 21 = .ok (.aload_n 0, 1) := by decide +kernel
theorem dX7_check_22 : decode cX7_check 22 = .ok (.iconst 0, 1) := by decide +kernel
theorem dX7_check_23 : decode cX7_check 23 = .ok (.putfield 48, 3) := by decide +kernel
theorem dX7_check_26 : decode cX7_check 26 = .ok (.aload_n 0, 1) := by decide +kernel
theorem dX7_check_27 : decode cX7_check 27 = .ok (.getfield 32, 3) := by decide +kernel
theorem dX7_check_30 : decode cX7_check 30 = .ok (.iconst 0, 1) := by decide +kernel
theorem dX7_check_31 : decode cX7_check 31 = .ok (.baload, 1) := by decide +kernel
theorem dX7_check_32 : decode cX7_check 32 = .ok (.ifCond .ne 5, 3) := by decide +kernel
theorem dX7_check_35 : decode cX7_check 35 = .ok (.iconst 1, 1) := by decide +kernel
theorem dX7_check_36 : decode cX7_check 36 = .ok (.ireturn, 1) := by decide +kernel
theorem dX7_check_37 : decode cX7_check 37 = .ok (.aload_n 0, 1) := by decide +kernel
theorem dX7_check_38 : decode cX7_check 38 = .ok (.iconst 0, 1) := by decide +kernel
theorem dX7_check_39 : decode cX7_check 39 = .ok (.putfield 48, 3) := by decide +kernel
theorem dX7_check_42 : decode cX7_check 42 = .ok (.aload_n 0, 1) := by decide +kernel
theorem dX7_check_43 : decode cX7_check 43 = .ok (.getfield 48, 3) := by decide +kernel
theorem dX7_check_46 : decode cX7_check 46 = .ok (.sipush 4096, 3) := by decide +kernel
theorem dX7_check_49 : decode cX7_check 49 = .ok (.if_icmp .ge 48, 3) := by decide +kernel
theorem dX7_check_52 : decode cX7_check 52 = .ok (.aload_n 0, 1) := by decide +kernel
theorem dX7_check_53 : decode cX7_check 53 = .ok (.getfield 32, 3) := by decide +kernel
theorem dX7_check_56 : decode cX7_check 56 = .ok (.aload_n 0, 1) := by decide +kernel
theorem dX7_check_57 : decode cX7_check 57 = .ok (.getfield 48, 3) := by decide +kernel
theorem dX7_check_60 : decode cX7_check 60 = .ok (.baload, 1) := by decide +kernel
theorem dX7_check_61 : decode cX7_check 61 = .ok (.ifCond .eq 15, 3) := by decide +kernel
theorem dX7_check_64 : decode cX7_check 64 = .ok (.aload_n 0, 1) := by decide +kernel
theorem dX7_check_65 : decode cX7_check 65 = .ok (.aload_n 0, 1) := by decide +kernel
theorem dX7_check_66 : decode cX7_check 66 = .ok (.getfield 48, 3) := by decide +kernel
theorem dX7_check_69 : decode cX7_check 69 = .ok (.iload_n 1, 1) := by decide +kernel
theorem dX7_check_70 : decode cX7_check 70 = .ok (.invokevirtual 182, 3) := by decide +kernel
theorem dX7_check_73 : decode cX7_check 73 = .ok (.goto 4, 3) := by decide +kernel
theorem dX7_check_76 : decode cX7_check 76 = .ok (.iconst 0, 1) := by decide +kernel
theorem dX7_check_77 : decode cX7_check 77 = .ok (.istore_n 2, 1) := by decide +kernel
theorem dX7_check_78 : decode cX7_check 78 = .ok (.iload_n 2, 1) := by decide +kernel
theorem dX7_check_79 : decode cX7_check 79 = .ok (.ifCond .eq 5, 3) := by decide +kernel
theorem dX7_check_82 : decode cX7_check 82 = .ok (.iload_n 2, 1) := by decide +kernel
theorem dX7_check_83 : decode cX7_check 83 = .ok (.ireturn, 1) := by decide +kernel
theorem dX7_check_84 : decode cX7_check 84 = .ok (.aload_n 0, 1) := by decide +kernel
theorem dX7_check_85 : decode cX7_check 85 = .ok (.dup, 1) := by decide +kernel
theorem dX7_check_86 : decode cX7_check 86 = .ok (.getfield 48, 3) := by decide +kernel
theorem dX7_check_89 : decode cX7_check 89 = .ok (.iconst 1, 1) := by decide +kernel
theorem dX7_check_90 : decode cX7_check 90 = .ok (.iadd, 1) := by decide +kernel
theorem dX7_check_91 : decode cX7_check 91 = .ok (.putfield 48, 3) := by decide +kernel
theorem dX7_check_94 : decode cX7_check 94 = .ok (.goto (-52), 3) := by decide +kernel
theorem dX7_check_97 : decode cX7_check 97 = .ok (.aload_n 0, 1) := by decide +kernel
theorem dX7_check_98 : decode cX7_check 98 = .ok (.iconst (-1), 1) := by decide +kernel
theorem dX7_check_99 : decode cX7_check 99 = .ok (.putfield 48, 3) := by decide +kernel
theorem dX7_check_102 : decode cX7_check 102 = .ok (.iconst 0, 1) := by decide +kernel
theorem dX7_check_103 : decode cX7_check 103 = .ok (.ireturn, 1) := by decide +kernel
theorem dX7_where_0 : decode cX7_where 0 = .ok (.aload_n 0, 1) := by decide +kernel
theorem dX7_where_1 : decode cX7_where 1 = .ok (.getfield 48, 3) := by decide +kernel
theorem dX7_where_4 : decode cX7_where 4 = .ok (.ireturn, 1) := by decide +kernel
end
section
theorem dL_law_0 : decode cL_law 0 = .ok (.new 7, 3) := by decide +kernel
theorem dL_law_3 : decode cL_law 3 = .ok (.dup, 1) := by decide +kernel
theorem dL_law_4 : decode cL_law 4 = .ok (.invokespecial 9, 3) := by decide +kernel
theorem dL_law_7 : decode cL_law 7 = .ok (.astore_n 1, 1) := by decide +kernel
theorem dL_law_8 : decode cL_law 8 = .ok (.new 10, 3) := by decide +kernel
theorem dL_law_11 : decode cL_law 11 = .ok (.dup, 1) := by decide +kernel
theorem dL_law_12 : decode cL_law 12 = .ok (.invokespecial 12, 3) := by decide +kernel
theorem dL_law_15 : decode cL_law 15 = .ok (.astore_n 2, 1) := by decide +kernel
theorem dL_law_16 : decode cL_law 16 = .ok (.iconst 0, 1) := by decide +kernel
theorem dL_law_17 : decode cL_law 17 = .ok (.istore_n 3, 1) := by decide +kernel
theorem dL_law_18 : decode cL_law 18 = .ok (.iload_n 3, 1) := by decide +kernel
theorem dL_law_19 : decode cL_law 19 = .ok (.aload_n 0, 1) := by decide +kernel
theorem dL_law_20 : decode cL_law 20 = .ok (.arraylength, 1) := by decide +kernel
theorem dL_law_21 : decode cL_law 21 = .ok (.iconst 4, 1) := by decide +kernel
theorem dL_law_22 : decode cL_law 22 = .ok (.isub, 1) := by decide +kernel
theorem dL_law_23 : decode cL_law 23 = .ok (.if_icmp .gt 789, 3) := by decide +kernel
theorem dL_law_26 : decode cL_law 26 = .ok (.aload_n 0, 1) := by decide +kernel
theorem dL_law_27 : decode cL_law 27 = .ok (.iload_n 3, 1) := by decide +kernel
theorem dL_law_28 : decode cL_law 28 = .ok (.iaload, 1) := by decide +kernel
theorem dL_law_29 : decode cL_law 29 = .ok (.bipush 31, 2) := by decide +kernel
theorem dL_law_31 : decode cL_law 31 = .ok (.iand, 1) := by decide +kernel
theorem dL_law_32 : decode cL_law 32 = .ok (.tableswitch 774 0 25 #[120, 143, 166, 209, 232, 275, 318, 341, 364, 387, 400, 439, 462, 485, 508, 521, 554, 577, 590, 613, 646, 669, 692, 715, 738, 761], 120) := by decide +kernel
theorem dL_law_152 : decode cL_law 152 = .ok (.aload_n 1, 1) := by decide +kernel
theorem dL_law_153 : decode cL_law 153 = .ok (.aload_n 0, 1) := by decide +kernel
theorem dL_law_154 : decode cL_law 154 = .ok (.iload_n 3, 1) := by decide +kernel
theorem dL_law_155 : decode cL_law 155 = .ok (.iconst 1, 1) := by decide +kernel
theorem dL_law_156 : decode cL_law 156 = .ok (.iadd, 1) := by decide +kernel
theorem dL_law_157 : decode cL_law 157 = .ok (.iaload, 1) := by decide +kernel
theorem dL_law_158 : decode cL_law 158 = .ok (.invokevirtual 13, 3) := by decide +kernel
theorem dL_law_161 : decode cL_law 161 = .ok (.aload_n 2, 1) := by decide +kernel
theorem dL_law_162 : decode cL_law 162 = .ok (.aload_n 0, 1) := by decide +kernel
theorem dL_law_163 : decode cL_law 163 = .ok (.iload_n 3, 1) := by decide +kernel
theorem dL_law_164 : decode cL_law 164 = .ok (.iconst 1, 1) := by decide +kernel
theorem dL_law_165 : decode cL_law 165 = .ok (.iadd, 1) := by decide +kernel
theorem dL_law_166 : decode cL_law 166 = .ok (.iaload, 1) := by decide +kernel
theorem dL_law_167 : decode cL_law 167 = .ok (.invokevirtual 17, 3) := by decide +kernel
theorem dL_law_170 : decode cL_law 170 = .ok (.if_icmp .eq 636, 3) := by decide +kernel
theorem dL_law_173 : decode cL_law 173 = .ok (.iconst 0, 1) := by decide +kernel
theorem dL_law_174 : decode cL_law 174 = .ok (.ireturn, 1) := by decide +kernel
theorem dL_law_175 : decode cL_law 175 = .ok (.aload_n 1, 1) := by decide +kernel
theorem dL_law_176 : decode cL_law 176 = .ok (.aload_n 0, 1) := by decide +kernel
theorem dL_law_177 : decode cL_law 177 = .ok (.iload_n 3, 1) := by decide +kernel
theorem dL_law_178 : decode cL_law 178 = .ok (.iconst 1, 1) := by decide +kernel
theorem dL_law_179 : decode cL_law 179 = .ok (.iadd, 1) := by decide +kernel
theorem dL_law_180 : decode cL_law 180 = .ok (.iaload, 1) := by decide +kernel
theorem dL_law_181 : decode cL_law 181 = .ok (.invokevirtual 18, 3) := by decide +kernel
theorem dL_law_184 : decode cL_law 184 = .ok (.aload_n 2, 1) := by decide +kernel
theorem dL_law_185 : decode cL_law 185 = .ok (.aload_n 0, 1) := by decide +kernel
theorem dL_law_186 : decode cL_law 186 = .ok (.iload_n 3, 1) := by decide +kernel
theorem dL_law_187 : decode cL_law 187 = .ok (.iconst 1, 1) := by decide +kernel
theorem dL_law_188 : decode cL_law 188 = .ok (.iadd, 1) := by decide +kernel
theorem dL_law_189 : decode cL_law 189 = .ok (.iaload, 1) := by decide +kernel
theorem dL_law_190 : decode cL_law 190 = .ok (.invokevirtual 21, 3) := by decide +kernel
theorem dL_law_193 : decode cL_law 193 = .ok (.if_icmp .eq 613, 3) := by decide +kernel
theorem dL_law_196 : decode cL_law 196 = .ok (.iconst 0, 1) := by decide +kernel
theorem dL_law_197 : decode cL_law 197 = .ok (.ireturn, 1) := by decide +kernel
theorem dL_law_198 : decode cL_law 198 = .ok (.aload_n 1, 1) := by decide +kernel
theorem dL_law_199 : decode cL_law 199 = .ok (.aload_n 0, 1) := by decide +kernel
theorem dL_law_200 : decode cL_law 200 = .ok (.iload_n 3, 1) := by decide +kernel
theorem dL_law_201 : decode cL_law 201 = .ok (.iconst 1, 1) := by decide +kernel
theorem dL_law_202 : decode cL_law 202 = .ok (.iadd, 1) := by decide +kernel
theorem dL_law_203 : decode cL_law 203 = .ok (.iaload, 1) := by decide +kernel
theorem dL_law_204 : decode cL_law 204 = .ok (.aload_n 0, 1) := by decide +kernel
theorem dL_law_205 : decode cL_law 205 = .ok (.iload_n 3, 1) := by decide +kernel
theorem dL_law_206 : decode cL_law 206 = .ok (.iconst 2, 1) := by decide +kernel
theorem dL_law_207 : decode cL_law 207 = .ok (.iadd, 1) := by decide +kernel
theorem dL_law_208 : decode cL_law 208 = .ok (.iaload, 1) := by decide +kernel
theorem dL_law_209 : decode cL_law 209 = .ok (.aload_n 0, 1) := by decide +kernel
theorem dL_law_210 : decode cL_law 210 = .ok (.iload_n 3, 1) := by decide +kernel
theorem dL_law_211 : decode cL_law 211 = .ok (.iconst 3, 1) := by decide +kernel
theorem dL_law_212 : decode cL_law 212 = .ok (.iadd, 1) := by decide +kernel
theorem dL_law_213 : decode cL_law 213 = .ok (.iaload, 1) := by decide +kernel
theorem dL_law_214 : decode cL_law 214 = .ok (.invokevirtual 22, 3) := by decide +kernel
theorem dL_law_217 : decode cL_law 217 = .ok (.aload_n 2, 1) := by decide +kernel
theorem dL_law_218 : decode cL_law 218 = .ok (.aload_n 0, 1) := by decide +kernel
theorem dL_law_219 : decode cL_law 219 = .ok (.iload_n 3, 1) := by decide +kernel
theorem dL_law_220 : decode cL_law 220 = .ok (.iconst 1, 1) := by decide +kernel
theorem dL_law_221 : decode cL_law 221 = .ok (.iadd, 1) := by decide +kernel
theorem dL_law_222 : decode cL_law 222 = .ok (.iaload, 1) := by decide +kernel
theorem dL_law_223 : decode cL_law 223 = .ok (.aload_n 0, 1) := by decide +kernel
theorem dL_law_224 : decode cL_law 224 = .ok (.iload_n 3, 1) := by decide +kernel
theorem dL_law_225 : decode cL_law 225 = .ok (.iconst 2, 1) := by decide +kernel
theorem dL_law_226 : decode cL_law 226 = .ok (.iadd, 1) := by decide +kernel
theorem dL_law_227 : decode cL_law 227 = .ok (.iaload, 1) := by decide +kernel
theorem dL_law_228 : decode cL_law 228 = .ok (.aload_n 0, 1) := by decide +kernel
theorem dL_law_229 : decode cL_law 229 = .ok (.iload_n 3, 1) := by decide +kernel
theorem dL_law_230 : decode cL_law 230 = .ok (.iconst 3, 1) := by decide +kernel
theorem dL_law_231 : decode cL_law 231 = .ok (.iadd, 1) := by decide +kernel
theorem dL_law_232 : decode cL_law 232 = .ok (.iaload, 1) := by decide +kernel
theorem dL_law_233 : decode cL_law 233 = .ok (.invokevirtual 26, 3) := by decide +kernel
theorem dL_law_236 : decode cL_law 236 = .ok (.if_icmp .eq 570, 3) := by decide +kernel
theorem dL_law_239 : decode cL_law 239 = .ok (.iconst 0, 1) := by decide +kernel
theorem dL_law_240 : decode cL_law 240 = .ok (.ireturn, 1) := by decide +kernel
theorem dL_law_241 : decode cL_law 241 = .ok (.aload_n 1, 1) := by decide +kernel
theorem dL_law_242 : decode cL_law 242 = .ok (.aload_n 0, 1) := by decide +kernel
theorem dL_law_243 : decode cL_law 243 = .ok (.iload_n 3, 1) := by decide +kernel
theorem dL_law_244 : decode cL_law 244 = .ok (.iconst 1, 1) := by decide +kernel
theorem dL_law_245 : decode cL_law 245 = .ok (.iadd, 1) := by decide +kernel
theorem dL_law_246 : decode cL_law 246 = .ok (.iaload, 1) := by decide +kernel
theorem dL_law_247 : decode cL_law 247 = .ok (.invokevirtual 27, 3) := by decide +kernel
theorem dL_law_250 : decode cL_law 250 = .ok (.aload_n 2, 1) := by decide +kernel
theorem dL_law_251 : decode cL_law 251 = .ok (.aload_n 0, 1) := by decide +kernel
theorem dL_law_252 : decode cL_law 252 = .ok (.iload_n 3, 1) := by decide +kernel
theorem dL_law_253 : decode cL_law 253 = .ok (.iconst 1, 1) := by decide +kernel
theorem dL_law_254 : decode cL_law 254 = .ok (.iadd, 1) := by decide +kernel
theorem dL_law_255 : decode cL_law 255 = .ok (.iaload, 1) := by decide +kernel
theorem dL_law_256 : decode cL_law 256 = .ok (.invokevirtual 30, 3) := by decide +kernel
theorem dL_law_259 : decode cL_law 259 = .ok (.if_icmp .eq 547, 3) := by decide +kernel
theorem dL_law_262 : decode cL_law 262 = .ok (.iconst 0, 1) := by decide +kernel
theorem dL_law_263 : decode cL_law 263 = .ok (.ireturn, 1) := by decide +kernel
theorem dL_law_264 : decode cL_law 264 = .ok (.aload_n 1, 1) := by decide +kernel
theorem dL_law_265 : decode cL_law 265 = .ok (.aload_n 0, 1) := by decide +kernel
theorem dL_law_266 : decode cL_law 266 = .ok (.iload_n 3, 1) := by decide +kernel
theorem dL_law_267 : decode cL_law 267 = .ok (.iconst 1, 1) := by decide +kernel
theorem dL_law_268 : decode cL_law 268 = .ok (.iadd, 1) := by decide +kernel
theorem dL_law_269 : decode cL_law 269 = .ok (.iaload, 1) := by decide +kernel
theorem dL_law_270 : decode cL_law 270 = .ok (.aload_n 0, 1) := by decide +kernel
theorem dL_law_271 : decode cL_law 271 = .ok (.iload_n 3, 1) := by decide +kernel
theorem dL_law_272 : decode cL_law 272 = .ok (.iconst 2, 1) := by decide +kernel
theorem dL_law_273 : decode cL_law 273 = .ok (.iadd, 1) := by decide +kernel
theorem dL_law_274 : decode cL_law 274 = .ok (.iaload, 1) := by decide +kernel
theorem dL_law_275 : decode cL_law 275 = .ok (.aload_n 0, 1) := by decide +kernel
theorem dL_law_276 : decode cL_law 276 = .ok (.iload_n 3, 1) := by decide +kernel
theorem dL_law_277 : decode cL_law 277 = .ok (.iconst 3, 1) := by decide +kernel
theorem dL_law_278 : decode cL_law 278 = .ok (.iadd, 1) := by decide +kernel
theorem dL_law_279 : decode cL_law 279 = .ok (.iaload, 1) := by decide +kernel
theorem dL_law_280 : decode cL_law 280 = .ok (.invokevirtual 31, 3) := by decide +kernel
theorem dL_law_283 : decode cL_law 283 = .ok (.aload_n 2, 1) := by decide +kernel
theorem dL_law_284 : decode cL_law 284 = .ok (.aload_n 0, 1) := by decide +kernel
theorem dL_law_285 : decode cL_law 285 = .ok (.iload_n 3, 1) := by decide +kernel
theorem dL_law_286 : decode cL_law 286 = .ok (.iconst 1, 1) := by decide +kernel
theorem dL_law_287 : decode cL_law 287 = .ok (.iadd, 1) := by decide +kernel
theorem dL_law_288 : decode cL_law 288 = .ok (.iaload, 1) := by decide +kernel
theorem dL_law_289 : decode cL_law 289 = .ok (.aload_n 0, 1) := by decide +kernel
theorem dL_law_290 : decode cL_law 290 = .ok (.iload_n 3, 1) := by decide +kernel
theorem dL_law_291 : decode cL_law 291 = .ok (.iconst 2, 1) := by decide +kernel
theorem dL_law_292 : decode cL_law 292 = .ok (.iadd, 1) := by decide +kernel
theorem dL_law_293 : decode cL_law 293 = .ok (.iaload, 1) := by decide +kernel
theorem dL_law_294 : decode cL_law 294 = .ok (.aload_n 0, 1) := by decide +kernel
theorem dL_law_295 : decode cL_law 295 = .ok (.iload_n 3, 1) := by decide +kernel
theorem dL_law_296 : decode cL_law 296 = .ok (.iconst 3, 1) := by decide +kernel
theorem dL_law_297 : decode cL_law 297 = .ok (.iadd, 1) := by decide +kernel
theorem dL_law_298 : decode cL_law 298 = .ok (.iaload, 1) := by decide +kernel
theorem dL_law_299 : decode cL_law 299 = .ok (.invokevirtual 34, 3) := by decide +kernel
theorem dL_law_302 : decode cL_law 302 = .ok (.if_icmp .eq 504, 3) := by decide +kernel
theorem dL_law_305 : decode cL_law 305 = .ok (.iconst 0, 1) := by decide +kernel
theorem dL_law_306 : decode cL_law 306 = .ok (.ireturn, 1) := by decide +kernel
theorem dL_law_307 : decode cL_law 307 = .ok (.aload_n 1, 1) := by decide +kernel
theorem dL_law_308 : decode cL_law 308 = .ok (.aload_n 0, 1) := by decide +kernel
theorem dL_law_309 : decode cL_law 309 = .ok (.iload_n 3, 1) := by decide +kernel
theorem dL_law_310 : decode cL_law 310 = .ok (.iconst 1, 1) := by decide +kernel
theorem dL_law_311 : decode cL_law 311 = .ok (.iadd, 1) := by decide +kernel
theorem dL_law_312 : decode cL_law 312 = .ok (.iaload, 1) := by decide +kernel
theorem dL_law_313 : decode cL_law 313 = .ok (.aload_n 0, 1) := by decide +kernel
theorem dL_law_314 : decode cL_law 314 = .ok (.iload_n 3, 1) := by decide +kernel
theorem dL_law_315 : decode cL_law 315 = .ok (.iconst 2, 1) := by decide +kernel
theorem dL_law_316 : decode cL_law 316 = .ok (.iadd, 1) := by decide +kernel
theorem dL_law_317 : decode cL_law 317 = .ok (.iaload, 1) := by decide +kernel
theorem dL_law_318 : decode cL_law 318 = .ok (.aload_n 0, 1) := by decide +kernel
theorem dL_law_319 : decode cL_law 319 = .ok (.iload_n 3, 1) := by decide +kernel
theorem dL_law_320 : decode cL_law 320 = .ok (.iconst 3, 1) := by decide +kernel
theorem dL_law_321 : decode cL_law 321 = .ok (.iadd, 1) := by decide +kernel
theorem dL_law_322 : decode cL_law 322 = .ok (.iaload, 1) := by decide +kernel
theorem dL_law_323 : decode cL_law 323 = .ok (.invokevirtual 35, 3) := by decide +kernel
theorem dL_law_326 : decode cL_law 326 = .ok (.aload_n 2, 1) := by decide +kernel
theorem dL_law_327 : decode cL_law 327 = .ok (.aload_n 0, 1) := by decide +kernel
theorem dL_law_328 : decode cL_law 328 = .ok (.iload_n 3, 1) := by decide +kernel
theorem dL_law_329 : decode cL_law 329 = .ok (.iconst 1, 1) := by decide +kernel
theorem dL_law_330 : decode cL_law 330 = .ok (.iadd, 1) := by decide +kernel
theorem dL_law_331 : decode cL_law 331 = .ok (.iaload, 1) := by decide +kernel
theorem dL_law_332 : decode cL_law 332 = .ok (.aload_n 0, 1) := by decide +kernel
theorem dL_law_333 : decode cL_law 333 = .ok (.iload_n 3, 1) := by decide +kernel
theorem dL_law_334 : decode cL_law 334 = .ok (.iconst 2, 1) := by decide +kernel
theorem dL_law_335 : decode cL_law 335 = .ok (.iadd, 1) := by decide +kernel
theorem dL_law_336 : decode cL_law 336 = .ok (.iaload, 1) := by decide +kernel
theorem dL_law_337 : decode cL_law 337 = .ok (.aload_n 0, 1) := by decide +kernel
theorem dL_law_338 : decode cL_law 338 = .ok (.iload_n 3, 1) := by decide +kernel
theorem dL_law_339 : decode cL_law 339 = .ok (.iconst 3, 1) := by decide +kernel
theorem dL_law_340 : decode cL_law 340 = .ok (.iadd, 1) := by decide +kernel
theorem dL_law_341 : decode cL_law 341 = .ok (.iaload, 1) := by decide +kernel
theorem dL_law_342 : decode cL_law 342 = .ok (.invokevirtual 38, 3) := by decide +kernel
theorem dL_law_345 : decode cL_law 345 = .ok (.if_icmp .eq 461, 3) := by decide +kernel
theorem dL_law_348 : decode cL_law 348 = .ok (.iconst 0, 1) := by decide +kernel
theorem dL_law_349 : decode cL_law 349 = .ok (.ireturn, 1) := by decide +kernel
theorem dL_law_350 : decode cL_law 350 = .ok (.aload_n 1, 1) := by decide +kernel
theorem dL_law_351 : decode cL_law 351 = .ok (.aload_n 0, 1) := by decide +kernel
theorem dL_law_352 : decode cL_law 352 = .ok (.iload_n 3, 1) := by decide +kernel
theorem dL_law_353 : decode cL_law 353 = .ok (.iconst 1, 1) := by decide +kernel
theorem dL_law_354 : decode cL_law 354 = .ok (.iadd, 1) := by decide +kernel
theorem dL_law_355 : decode cL_law 355 = .ok (.iaload, 1) := by decide +kernel
theorem dL_law_356 : decode cL_law 356 = .ok (.invokevirtual 39, 3) := by decide +kernel
theorem dL_law_359 : decode cL_law 359 = .ok (.aload_n 2, 1) := by decide +kernel
theorem dL_law_360 : decode cL_law 360 = .ok (.aload_n 0, 1) := by decide +kernel
theorem dL_law_361 : decode cL_law 361 = .ok (.iload_n 3, 1) := by decide +kernel
theorem dL_law_362 : decode cL_law 362 = .ok (.iconst 1, 1) := by decide +kernel
theorem dL_law_363 : decode cL_law 363 = .ok (.iadd, 1) := by decide +kernel
theorem dL_law_364 : decode cL_law 364 = .ok (.iaload, 1) := by decide +kernel
theorem dL_law_365 : decode cL_law 365 = .ok (.invokevirtual 42, 3) := by decide +kernel
theorem dL_law_368 : decode cL_law 368 = .ok (.if_icmp .eq 438, 3) := by decide +kernel
theorem dL_law_371 : decode cL_law 371 = .ok (.iconst 0, 1) := by decide +kernel
theorem dL_law_372 : decode cL_law 372 = .ok (.ireturn, 1) := by decide +kernel
theorem dL_law_373 : decode cL_law 373 = .ok (.aload_n 1, 1) := by decide +kernel
theorem dL_law_374 : decode cL_law 374 = .ok (.aload_n 0, 1) := by decide +kernel
theorem dL_law_375 : decode cL_law 375 = .ok (.iload_n 3, 1) := by decide +kernel
theorem dL_law_376 : decode cL_law 376 = .ok (.iconst 1, 1) := by decide +kernel
theorem dL_law_377 : decode cL_law 377 = .ok (.iadd, 1) := by decide +kernel
theorem dL_law_378 : decode cL_law 378 = .ok (.iaload, 1) := by decide +kernel
theorem dL_law_379 : decode cL_law 379 = .ok (.invokevirtual 43, 3) := by decide +kernel
theorem dL_law_382 : decode cL_law 382 = .ok (.aload_n 2, 1) := by decide +kernel
theorem dL_law_383 : decode cL_law 383 = .ok (.aload_n 0, 1) := by decide +kernel
theorem dL_law_384 : decode cL_law 384 = .ok (.iload_n 3, 1) := by decide +kernel
theorem dL_law_385 : decode cL_law 385 = .ok (.iconst 1, 1) := by decide +kernel
theorem dL_law_386 : decode cL_law 386 = .ok (.iadd, 1) := by decide +kernel
theorem dL_law_387 : decode cL_law 387 = .ok (.iaload, 1) := by decide +kernel
theorem dL_law_388 : decode cL_law 388 = .ok (.invokevirtual 46, 3) := by decide +kernel
theorem dL_law_391 : decode cL_law 391 = .ok (.if_icmp .eq 415, 3) := by decide +kernel
theorem dL_law_394 : decode cL_law 394 = .ok (.iconst 0, 1) := by decide +kernel
theorem dL_law_395 : decode cL_law 395 = .ok (.ireturn, 1) := by decide +kernel
theorem dL_law_396 : decode cL_law 396 = .ok (.aload_n 1, 1) := by decide +kernel
theorem dL_law_397 : decode cL_law 397 = .ok (.aload_n 0, 1) := by decide +kernel
theorem dL_law_398 : decode cL_law 398 = .ok (.iload_n 3, 1) := by decide +kernel
theorem dL_law_399 : decode cL_law 399 = .ok (.iconst 1, 1) := by decide +kernel
theorem dL_law_400 : decode cL_law 400 = .ok (.iadd, 1) := by decide +kernel
theorem dL_law_401 : decode cL_law 401 = .ok (.iaload, 1) := by decide +kernel
theorem dL_law_402 : decode cL_law 402 = .ok (.invokevirtual 47, 3) := by decide +kernel
theorem dL_law_405 : decode cL_law 405 = .ok (.aload_n 2, 1) := by decide +kernel
theorem dL_law_406 : decode cL_law 406 = .ok (.aload_n 0, 1) := by decide +kernel
theorem dL_law_407 : decode cL_law 407 = .ok (.iload_n 3, 1) := by decide +kernel
theorem dL_law_408 : decode cL_law 408 = .ok (.iconst 1, 1) := by decide +kernel
theorem dL_law_409 : decode cL_law 409 = .ok (.iadd, 1) := by decide +kernel
theorem dL_law_410 : decode cL_law 410 = .ok (.iaload, 1) := by decide +kernel
theorem dL_law_411 : decode cL_law 411 = .ok (.invokevirtual 50, 3) := by decide +kernel
theorem dL_law_414 : decode cL_law 414 = .ok (.if_icmp .eq 392, 3) := by decide +kernel
theorem dL_law_417 : decode cL_law 417 = .ok (.iconst 0, 1) := by decide +kernel
theorem dL_law_418 : decode cL_law 418 = .ok (.ireturn, 1) := by decide +kernel
theorem dL_law_419 : decode cL_law 419 = .ok (.aload_n 1, 1) := by decide +kernel
theorem dL_law_420 : decode cL_law 420 = .ok (.invokevirtual 51, 3) := by decide +kernel
theorem dL_law_423 : decode cL_law 423 = .ok (.aload_n 2, 1) := by decide +kernel
theorem dL_law_424 : decode cL_law 424 = .ok (.invokevirtual 55, 3) := by decide +kernel
theorem dL_law_427 : decode cL_law 427 = .ok (.if_icmp .eq 379, 3) := by decide +kernel
theorem dL_law_430 : decode cL_law 430 = .ok (.iconst 0, 1) := by decide +kernel
theorem dL_law_431 : decode cL_law 431 = .ok (.ireturn, 1) := by decide +kernel
theorem dL_law_432 : decode cL_law 432 = .ok (.aload_n 1, 1) := by decide +kernel
theorem dL_law_433 : decode cL_law 433 = .ok (.aload_n 0, 1) := by decide +kernel
theorem dL_law_434 : decode cL_law 434 = .ok (.iload_n 3, 1) := by decide +kernel
theorem dL_law_435 : decode cL_law 435 = .ok (.iconst 1, 1) := by decide +kernel
theorem dL_law_436 : decode cL_law 436 = .ok (.iadd, 1) := by decide +kernel
theorem dL_law_437 : decode cL_law 437 = .ok (.iaload, 1) := by decide +kernel
theorem dL_law_438 : decode cL_law 438 = .ok (.ifCond .eq 7, 3) := by decide +kernel
theorem dL_law_441 : decode cL_law 441 = .ok (.iconst 1, 1) := by decide +kernel
theorem dL_law_442 : decode cL_law 442 = .ok (.goto 4, 3) := by decide +kernel
theorem dL_law_445 : decode cL_law 445 = .ok (.iconst 0, 1) := by decide +kernel
theorem dL_law_446 : decode cL_law 446 = .ok (.invokevirtual 56, 3) := by decide +kernel
theorem dL_law_449 : decode cL_law 449 = .ok (.aload_n 2, 1) := by decide +kernel
theorem dL_law_450 : decode cL_law 450 = .ok (.aload_n 0, 1) := by decide +kernel
theorem dL_law_451 : decode cL_law 451 = .ok (.iload_n 3, 1) := by decide +kernel
theorem dL_law_452 : decode cL_law 452 = .ok (.iconst 1, 1) := by decide +kernel
theorem dL_law_453 : decode cL_law 453 = .ok (.iadd, 1) := by decide +kernel
theorem dL_law_454 : decode cL_law 454 = .ok (.iaload, 1) := by decide +kernel
theorem dL_law_455 : decode cL_law 455 = .ok (.ifCond .eq 7, 3) := by decide +kernel
theorem dL_law_458 : decode cL_law 458 = .ok (.iconst 1, 1) := by decide +kernel
theorem dL_law_459 : decode cL_law 459 = .ok (.goto 4, 3) := by decide +kernel
theorem dL_law_462 : decode cL_law 462 = .ok (.iconst 0, 1) := by decide +kernel
theorem dL_law_463 : decode cL_law 463 = .ok (.invokevirtual 60, 3) := by decide +kernel
theorem dL_law_466 : decode cL_law 466 = .ok (.if_icmp .eq 340, 3) := by decide +kernel
theorem dL_law_469 : decode cL_law 469 = .ok (.iconst 0, 1) := by decide +kernel
theorem dL_law_470 : decode cL_law 470 = .ok (.ireturn, 1) := by decide +kernel
theorem dL_law_471 : decode cL_law 471 = .ok (.aload_n 1, 1) := by decide +kernel
theorem dL_law_472 : decode cL_law 472 = .ok (.aload_n 0, 1) := by decide +kernel
theorem dL_law_473 : decode cL_law 473 = .ok (.iload_n 3, 1) := by decide +kernel
theorem dL_law_474 : decode cL_law 474 = .ok (.iconst 1, 1) := by decide +kernel
theorem dL_law_475 : decode cL_law 475 = .ok (.iadd, 1) := by decide +kernel
theorem dL_law_476 : decode cL_law 476 = .ok (.iaload, 1) := by decide +kernel
theorem dL_law_477 : decode cL_law 477 = .ok (.invokevirtual 61, 3) := by decide +kernel
theorem dL_law_480 : decode cL_law 480 = .ok (.aload_n 2, 1) := by decide +kernel
theorem dL_law_481 : decode cL_law 481 = .ok (.aload_n 0, 1) := by decide +kernel
theorem dL_law_482 : decode cL_law 482 = .ok (.iload_n 3, 1) := by decide +kernel
theorem dL_law_483 : decode cL_law 483 = .ok (.iconst 1, 1) := by decide +kernel
theorem dL_law_484 : decode cL_law 484 = .ok (.iadd, 1) := by decide +kernel
theorem dL_law_485 : decode cL_law 485 = .ok (.iaload, 1) := by decide +kernel
theorem dL_law_486 : decode cL_law 486 = .ok (.invokevirtual 64, 3) := by decide +kernel
theorem dL_law_489 : decode cL_law 489 = .ok (.if_icmp .eq 317, 3) := by decide +kernel
theorem dL_law_492 : decode cL_law 492 = .ok (.iconst 0, 1) := by decide +kernel
theorem dL_law_493 : decode cL_law 493 = .ok (.ireturn, 1) := by decide +kernel
theorem dL_law_494 : decode cL_law 494 = .ok (.aload_n 1, 1) := by decide +kernel
theorem dL_law_495 : decode cL_law 495 = .ok (.aload_n 0, 1) := by decide +kernel
theorem dL_law_496 : decode cL_law 496 = .ok (.iload_n 3, 1) := by decide +kernel
theorem dL_law_497 : decode cL_law 497 = .ok (.iconst 1, 1) := by decide +kernel
theorem dL_law_498 : decode cL_law 498 = .ok (.iadd, 1) := by decide +kernel
theorem dL_law_499 : decode cL_law 499 = .ok (.iaload, 1) := by decide +kernel
theorem dL_law_500 : decode cL_law 500 = .ok (.invokevirtual 65, 3) := by decide +kernel
theorem dL_law_503 : decode cL_law 503 = .ok (.aload_n 2, 1) := by decide +kernel
theorem dL_law_504 : decode cL_law 504 = .ok (.aload_n 0, 1) := by decide +kernel
theorem dL_law_505 : decode cL_law 505 = .ok (.iload_n 3, 1) := by decide +kernel
theorem dL_law_506 : decode cL_law 506 = .ok (.iconst 1, 1) := by decide +kernel
theorem dL_law_507 : decode cL_law 507 = .ok (.iadd, 1) := by decide +kernel
theorem dL_law_508 : decode cL_law 508 = .ok (.iaload, 1) := by decide +kernel
theorem dL_law_509 : decode cL_law 509 = .ok (.invokevirtual 68, 3) := by decide +kernel
theorem dL_law_512 : decode cL_law 512 = .ok (.if_icmp .eq 294, 3) := by decide +kernel
theorem dL_law_515 : decode cL_law 515 = .ok (.iconst 0, 1) := by decide +kernel
theorem dL_law_516 : decode cL_law 516 = .ok (.ireturn, 1) := by decide +kernel
theorem dL_law_517 : decode cL_law 517 = .ok (.aload_n 1, 1) := by decide +kernel
theorem dL_law_518 : decode cL_law 518 = .ok (.aload_n 0, 1) := by decide +kernel
theorem dL_law_519 : decode cL_law 519 = .ok (.iload_n 3, 1) := by decide +kernel
theorem dL_law_520 : decode cL_law 520 = .ok (.iconst 1, 1) := by decide +kernel
theorem dL_law_521 : decode cL_law 521 = .ok (.iadd, 1) := by decide +kernel
theorem dL_law_522 : decode cL_law 522 = .ok (.iaload, 1) := by decide +kernel
theorem dL_law_523 : decode cL_law 523 = .ok (.invokevirtual 69, 3) := by decide +kernel
theorem dL_law_526 : decode cL_law 526 = .ok (.aload_n 2, 1) := by decide +kernel
theorem dL_law_527 : decode cL_law 527 = .ok (.aload_n 0, 1) := by decide +kernel
theorem dL_law_528 : decode cL_law 528 = .ok (.iload_n 3, 1) := by decide +kernel
theorem dL_law_529 : decode cL_law 529 = .ok (.iconst 1, 1) := by decide +kernel
theorem dL_law_530 : decode cL_law 530 = .ok (.iadd, 1) := by decide +kernel
theorem dL_law_531 : decode cL_law 531 = .ok (.iaload, 1) := by decide +kernel
theorem dL_law_532 : decode cL_law 532 = .ok (.invokevirtual 72, 3) := by decide +kernel
theorem dL_law_535 : decode cL_law 535 = .ok (.if_icmp .eq 271, 3) := by decide +kernel
theorem dL_law_538 : decode cL_law 538 = .ok (.iconst 0, 1) := by decide +kernel
theorem dL_law_539 : decode cL_law 539 = .ok (.ireturn, 1) := by decide +kernel
theorem dL_law_540 : decode cL_law 540 = .ok (.aload_n 1, 1) := by decide +kernel
theorem dL_law_541 : decode cL_law 541 = .ok (.invokevirtual 73, 3) := by decide +kernel
theorem dL_law_544 : decode cL_law 544 = .ok (.aload_n 2, 1) := by decide +kernel
theorem dL_law_545 : decode cL_law 545 = .ok (.invokevirtual 76, 3) := by decide +kernel
theorem dL_law_548 : decode cL_law 548 = .ok (.if_icmp .eq 258, 3) := by decide +kernel
theorem dL_law_551 : decode cL_law 551 = .ok (.iconst 0, 1) := by decide +kernel
theorem dL_law_552 : decode cL_law 552 = .ok (.ireturn, 1) := by decide +kernel
theorem dL_law_553 : decode cL_law 553 = .ok (.aload_n 1, 1) := by decide +kernel
theorem dL_law_554 : decode cL_law 554 = .ok (.aload_n 0, 1) := by decide +kernel
theorem dL_law_555 : decode cL_law 555 = .ok (.iload_n 3, 1) := by decide +kernel
theorem dL_law_556 : decode cL_law 556 = .ok (.iconst 1, 1) := by decide +kernel
theorem dL_law_557 : decode cL_law 557 = .ok (.iadd, 1) := by decide +kernel
theorem dL_law_558 : decode cL_law 558 = .ok (.iaload, 1) := by decide +kernel
theorem dL_law_559 : decode cL_law 559 = .ok (.aload_n 0, 1) := by decide +kernel
theorem dL_law_560 : decode cL_law 560 = .ok (.iload_n 3, 1) := by decide +kernel
theorem dL_law_561 : decode cL_law 561 = .ok (.iconst 2, 1) := by decide +kernel
theorem dL_law_562 : decode cL_law 562 = .ok (.iadd, 1) := by decide +kernel
theorem dL_law_563 : decode cL_law 563 = .ok (.iaload, 1) := by decide +kernel
theorem dL_law_564 : decode cL_law 564 = .ok (.invokevirtual 77, 3) := by decide +kernel
theorem dL_law_567 : decode cL_law 567 = .ok (.aload_n 2, 1) := by decide +kernel
theorem dL_law_568 : decode cL_law 568 = .ok (.aload_n 0, 1) := by decide +kernel
theorem dL_law_569 : decode cL_law 569 = .ok (.iload_n 3, 1) := by decide +kernel
theorem dL_law_570 : decode cL_law 570 = .ok (.iconst 1, 1) := by decide +kernel
theorem dL_law_571 : decode cL_law 571 = .ok (.iadd, 1) := by decide +kernel
theorem dL_law_572 : decode cL_law 572 = .ok (.iaload, 1) := by decide +kernel
theorem dL_law_573 : decode cL_law 573 = .ok (.aload_n 0, 1) := by decide +kernel
theorem dL_law_574 : decode cL_law 574 = .ok (.iload_n 3, 1) := by decide +kernel
theorem dL_law_575 : decode cL_law 575 = .ok (.iconst 2, 1) := by decide +kernel
theorem dL_law_576 : decode cL_law 576 = .ok (.iadd, 1) := by decide +kernel
theorem dL_law_577 : decode cL_law 577 = .ok (.iaload, 1) := by decide +kernel
theorem dL_law_578 : decode cL_law 578 = .ok (.invokevirtual 81, 3) := by decide +kernel
theorem dL_law_581 : decode cL_law 581 = .ok (.if_icmp .eq 225, 3) := by decide +kernel
theorem dL_law_584 : decode cL_law 584 = .ok (.iconst 0, 1) := by decide +kernel
theorem dL_law_585 : decode cL_law 585 = .ok (.ireturn, 1) := by decide +kernel
theorem dL_law_586 : decode cL_law 586 = .ok (.aload_n 1, 1) := by decide +kernel
theorem dL_law_587 : decode cL_law 587 = .ok (.aload_n 0, 1) := by decide +kernel
theorem dL_law_588 : decode cL_law 588 = .ok (.iload_n 3, 1) := by decide +kernel
theorem dL_law_589 : decode cL_law 589 = .ok (.iconst 1, 1) := by decide +kernel
theorem dL_law_590 : decode cL_law 590 = .ok (.iadd, 1) := by decide +kernel
theorem dL_law_591 : decode cL_law 591 = .ok (.iaload, 1) := by decide +kernel
theorem dL_law_592 : decode cL_law 592 = .ok (.invokevirtual 82, 3) := by decide +kernel
theorem dL_law_595 : decode cL_law 595 = .ok (.aload_n 2, 1) := by decide +kernel
theorem dL_law_596 : decode cL_law 596 = .ok (.aload_n 0, 1) := by decide +kernel
theorem dL_law_597 : decode cL_law 597 = .ok (.iload_n 3, 1) := by decide +kernel
theorem dL_law_598 : decode cL_law 598 = .ok (.iconst 1, 1) := by decide +kernel
theorem dL_law_599 : decode cL_law 599 = .ok (.iadd, 1) := by decide +kernel
theorem dL_law_600 : decode cL_law 600 = .ok (.iaload, 1) := by decide +kernel
theorem dL_law_601 : decode cL_law 601 = .ok (.invokevirtual 85, 3) := by decide +kernel
theorem dL_law_604 : decode cL_law 604 = .ok (.if_icmp .eq 202, 3) := by decide +kernel
theorem dL_law_607 : decode cL_law 607 = .ok (.iconst 0, 1) := by decide +kernel
theorem dL_law_608 : decode cL_law 608 = .ok (.ireturn, 1) := by decide +kernel
theorem dL_law_609 : decode cL_law 609 = .ok (.aload_n 1, 1) := by decide +kernel
theorem dL_law_610 : decode cL_law 610 = .ok (.invokevirtual 86, 3) := by decide +kernel
theorem dL_law_613 : decode cL_law 613 = .ok (.aload_n 2, 1) := by decide +kernel
theorem dL_law_614 : decode cL_law 614 = .ok (.invokevirtual 89, 3) := by decide +kernel
theorem dL_law_617 : decode cL_law 617 = .ok (.if_icmp .eq 189, 3) := by decide +kernel
theorem dL_law_620 : decode cL_law 620 = .ok (.iconst 0, 1) := by decide +kernel
theorem dL_law_621 : decode cL_law 621 = .ok (.ireturn, 1) := by decide +kernel
theorem dL_law_622 : decode cL_law 622 = .ok (.aload_n 1, 1) := by decide +kernel
theorem dL_law_623 : decode cL_law 623 = .ok (.aload_n 0, 1) := by decide +kernel
theorem dL_law_624 : decode cL_law 624 = .ok (.iload_n 3, 1) := by decide +kernel
theorem dL_law_625 : decode cL_law 625 = .ok (.iconst 1, 1) := by decide +kernel
theorem dL_law_626 : decode cL_law 626 = .ok (.iadd, 1) := by decide +kernel
theorem dL_law_627 : decode cL_law 627 = .ok (.iaload, 1) := by decide +kernel
theorem dL_law_628 : decode cL_law 628 = .ok (.invokevirtual 90, 3) := by decide +kernel
theorem dL_law_631 : decode cL_law 631 = .ok (.aload_n 2, 1) := by decide +kernel
theorem dL_law_632 : decode cL_law 632 = .ok (.aload_n 0, 1) := by decide +kernel
theorem dL_law_633 : decode cL_law 633 = .ok (.iload_n 3, 1) := by decide +kernel
theorem dL_law_634 : decode cL_law 634 = .ok (.iconst 1, 1) := by decide +kernel
theorem dL_law_635 : decode cL_law 635 = .ok (.iadd, 1) := by decide +kernel
theorem dL_law_636 : decode cL_law 636 = .ok (.iaload, 1) := by decide +kernel
theorem dL_law_637 : decode cL_law 637 = .ok (.invokevirtual 93, 3) := by decide +kernel
theorem dL_law_640 : decode cL_law 640 = .ok (.if_icmp .eq 166, 3) := by decide +kernel
theorem dL_law_643 : decode cL_law 643 = .ok (.iconst 0, 1) := by decide +kernel
theorem dL_law_644 : decode cL_law 644 = .ok (.ireturn, 1) := by decide +kernel
theorem dL_law_645 : decode cL_law 645 = .ok (.aload_n 1, 1) := by decide +kernel
theorem dL_law_646 : decode cL_law 646 = .ok (.aload_n 0, 1) := by decide +kernel
theorem dL_law_647 : decode cL_law 647 = .ok (.iload_n 3, 1) := by decide +kernel
theorem dL_law_648 : decode cL_law 648 = .ok (.iconst 1, 1) := by decide +kernel
theorem dL_law_649 : decode cL_law 649 = .ok (.iadd, 1) := by decide +kernel
theorem dL_law_650 : decode cL_law 650 = .ok (.iaload, 1) := by decide +kernel
theorem dL_law_651 : decode cL_law 651 = .ok (.aload_n 0, 1) := by decide +kernel
theorem dL_law_652 : decode cL_law 652 = .ok (.iload_n 3, 1) := by decide +kernel
theorem dL_law_653 : decode cL_law 653 = .ok (.iconst 2, 1) := by decide +kernel
theorem dL_law_654 : decode cL_law 654 = .ok (.iadd, 1) := by decide +kernel
theorem dL_law_655 : decode cL_law 655 = .ok (.iaload, 1) := by decide +kernel
theorem dL_law_656 : decode cL_law 656 = .ok (.invokevirtual 94, 3) := by decide +kernel
theorem dL_law_659 : decode cL_law 659 = .ok (.aload_n 2, 1) := by decide +kernel
theorem dL_law_660 : decode cL_law 660 = .ok (.aload_n 0, 1) := by decide +kernel
theorem dL_law_661 : decode cL_law 661 = .ok (.iload_n 3, 1) := by decide +kernel
theorem dL_law_662 : decode cL_law 662 = .ok (.iconst 1, 1) := by decide +kernel
theorem dL_law_663 : decode cL_law 663 = .ok (.iadd, 1) := by decide +kernel
theorem dL_law_664 : decode cL_law 664 = .ok (.iaload, 1) := by decide +kernel
theorem dL_law_665 : decode cL_law 665 = .ok (.aload_n 0, 1) := by decide +kernel
theorem dL_law_666 : decode cL_law 666 = .ok (.iload_n 3, 1) := by decide +kernel
theorem dL_law_667 : decode cL_law 667 = .ok (.iconst 2, 1) := by decide +kernel
theorem dL_law_668 : decode cL_law 668 = .ok (.iadd, 1) := by decide +kernel
theorem dL_law_669 : decode cL_law 669 = .ok (.iaload, 1) := by decide +kernel
theorem dL_law_670 : decode cL_law 670 = .ok (.invokevirtual 97, 3) := by decide +kernel
theorem dL_law_673 : decode cL_law 673 = .ok (.if_icmp .eq 133, 3) := by decide +kernel
theorem dL_law_676 : decode cL_law 676 = .ok (.iconst 0, 1) := by decide +kernel
theorem dL_law_677 : decode cL_law 677 = .ok (.ireturn, 1) := by decide +kernel
theorem dL_law_678 : decode cL_law 678 = .ok (.aload_n 1, 1) := by decide +kernel
theorem dL_law_679 : decode cL_law 679 = .ok (.aload_n 0, 1) := by decide +kernel
theorem dL_law_680 : decode cL_law 680 = .ok (.iload_n 3, 1) := by decide +kernel
theorem dL_law_681 : decode cL_law 681 = .ok (.iconst 1, 1) := by decide +kernel
theorem dL_law_682 : decode cL_law 682 = .ok (.iadd, 1) := by decide +kernel
theorem dL_law_683 : decode cL_law 683 = .ok (.iaload, 1) := by decide +kernel
theorem dL_law_684 : decode cL_law 684 = .ok (.invokevirtual 98, 3) := by decide +kernel
theorem dL_law_687 : decode cL_law 687 = .ok (.aload_n 2, 1) := by decide +kernel
theorem dL_law_688 : decode cL_law 688 = .ok (.aload_n 0, 1) := by decide +kernel
theorem dL_law_689 : decode cL_law 689 = .ok (.iload_n 3, 1) := by decide +kernel
theorem dL_law_690 : decode cL_law 690 = .ok (.iconst 1, 1) := by decide +kernel
theorem dL_law_691 : decode cL_law 691 = .ok (.iadd, 1) := by decide +kernel
theorem dL_law_692 : decode cL_law 692 = .ok (.iaload, 1) := by decide +kernel
theorem dL_law_693 : decode cL_law 693 = .ok (.invokevirtual 101, 3) := by decide +kernel
theorem dL_law_696 : decode cL_law 696 = .ok (.if_icmp .eq 110, 3) := by decide +kernel
theorem dL_law_699 : decode cL_law 699 = .ok (.iconst 0, 1) := by decide +kernel
theorem dL_law_700 : decode cL_law 700 = .ok (.ireturn, 1) := by decide +kernel
theorem dL_law_701 : decode cL_law 701 = .ok (.aload_n 1, 1) := by decide +kernel
theorem dL_law_702 : decode cL_law 702 = .ok (.aload_n 0, 1) := by decide +kernel
theorem dL_law_703 : decode cL_law 703 = .ok (.iload_n 3, 1) := by decide +kernel
theorem dL_law_704 : decode cL_law 704 = .ok (.iconst 1, 1) := by decide +kernel
theorem dL_law_705 : decode cL_law 705 = .ok (.iadd, 1) := by decide +kernel
theorem dL_law_706 : decode cL_law 706 = .ok (.iaload, 1) := by decide +kernel
theorem dL_law_707 : decode cL_law 707 = .ok (.invokevirtual 102, 3) := by decide +kernel
theorem dL_law_710 : decode cL_law 710 = .ok (.aload_n 2, 1) := by decide +kernel
theorem dL_law_711 : decode cL_law 711 = .ok (.aload_n 0, 1) := by decide +kernel
theorem dL_law_712 : decode cL_law 712 = .ok (.iload_n 3, 1) := by decide +kernel
theorem dL_law_713 : decode cL_law 713 = .ok (.iconst 1, 1) := by decide +kernel
theorem dL_law_714 : decode cL_law 714 = .ok (.iadd, 1) := by decide +kernel
theorem dL_law_715 : decode cL_law 715 = .ok (.iaload, 1) := by decide +kernel
theorem dL_law_716 : decode cL_law 716 = .ok (.invokevirtual 105, 3) := by decide +kernel
theorem dL_law_719 : decode cL_law 719 = .ok (.if_icmp .eq 87, 3) := by decide +kernel
theorem dL_law_722 : decode cL_law 722 = .ok (.iconst 0, 1) := by decide +kernel
theorem dL_law_723 : decode cL_law 723 = .ok (.ireturn, 1) := by decide +kernel
theorem dL_law_724 : decode cL_law 724 = .ok (.aload_n 1, 1) := by decide +kernel
theorem dL_law_725 : decode cL_law 725 = .ok (.aload_n 0, 1) := by decide +kernel
theorem dL_law_726 : decode cL_law 726 = .ok (.iload_n 3, 1) := by decide +kernel
theorem dL_law_727 : decode cL_law 727 = .ok (.iconst 1, 1) := by decide +kernel
theorem dL_law_728 : decode cL_law 728 = .ok (.iadd, 1) := by decide +kernel
theorem dL_law_729 : decode cL_law 729 = .ok (.iaload, 1) := by decide +kernel
theorem dL_law_730 : decode cL_law 730 = .ok (.invokevirtual 106, 3) := by decide +kernel
theorem dL_law_733 : decode cL_law 733 = .ok (.aload_n 2, 1) := by decide +kernel
theorem dL_law_734 : decode cL_law 734 = .ok (.aload_n 0, 1) := by decide +kernel
theorem dL_law_735 : decode cL_law 735 = .ok (.iload_n 3, 1) := by decide +kernel
theorem dL_law_736 : decode cL_law 736 = .ok (.iconst 1, 1) := by decide +kernel
theorem dL_law_737 : decode cL_law 737 = .ok (.iadd, 1) := by decide +kernel
theorem dL_law_738 : decode cL_law 738 = .ok (.iaload, 1) := by decide +kernel
theorem dL_law_739 : decode cL_law 739 = .ok (.invokevirtual 109, 3) := by decide +kernel
theorem dL_law_742 : decode cL_law 742 = .ok (.if_icmp .eq 64, 3) := by decide +kernel
theorem dL_law_745 : decode cL_law 745 = .ok (.iconst 0, 1) := by decide +kernel
theorem dL_law_746 : decode cL_law 746 = .ok (.ireturn, 1) := by decide +kernel
theorem dL_law_747 : decode cL_law 747 = .ok (.aload_n 1, 1) := by decide +kernel
theorem dL_law_748 : decode cL_law 748 = .ok (.aload_n 0, 1) := by decide +kernel
theorem dL_law_749 : decode cL_law 749 = .ok (.iload_n 3, 1) := by decide +kernel
theorem dL_law_750 : decode cL_law 750 = .ok (.iconst 1, 1) := by decide +kernel
theorem dL_law_751 : decode cL_law 751 = .ok (.iadd, 1) := by decide +kernel
theorem dL_law_752 : decode cL_law 752 = .ok (.iaload, 1) := by decide +kernel
theorem dL_law_753 : decode cL_law 753 = .ok (.invokevirtual 110, 3) := by decide +kernel
theorem dL_law_756 : decode cL_law 756 = .ok (.aload_n 2, 1) := by decide +kernel
theorem dL_law_757 : decode cL_law 757 = .ok (.aload_n 0, 1) := by decide +kernel
theorem dL_law_758 : decode cL_law 758 = .ok (.iload_n 3, 1) := by decide +kernel
theorem dL_law_759 : decode cL_law 759 = .ok (.iconst 1, 1) := by decide +kernel
theorem dL_law_760 : decode cL_law 760 = .ok (.iadd, 1) := by decide +kernel
theorem dL_law_761 : decode cL_law 761 = .ok (.iaload, 1) := by decide +kernel
theorem dL_law_762 : decode cL_law 762 = .ok (.invokevirtual 113, 3) := by decide +kernel
theorem dL_law_765 : decode cL_law 765 = .ok (.if_icmp .eq 41, 3) := by decide +kernel
theorem dL_law_768 : decode cL_law 768 = .ok (.iconst 0, 1) := by decide +kernel
theorem dL_law_769 : decode cL_law 769 = .ok (.ireturn, 1) := by decide +kernel
theorem dL_law_770 : decode cL_law 770 = .ok (.aload_n 1, 1) := by decide +kernel
theorem dL_law_771 : decode cL_law 771 = .ok (.aload_n 0, 1) := by decide +kernel
theorem dL_law_772 : decode cL_law 772 = .ok (.iload_n 3, 1) := by decide +kernel
theorem dL_law_773 : decode cL_law 773 = .ok (.iconst 1, 1) := by decide +kernel
theorem dL_law_774 : decode cL_law 774 = .ok (.iadd, 1) := by decide +kernel
theorem dL_law_775 : decode cL_law 775 = .ok (.iaload, 1) := by decide +kernel
theorem dL_law_776 : decode cL_law 776 = .ok (.invokevirtual 114, 3) := by decide +kernel
theorem dL_law_779 : decode cL_law 779 = .ok (.aload_n 2, 1) := by decide +kernel
theorem dL_law_780 : decode cL_law 780 = .ok (.aload_n 0, 1) := by decide +kernel
theorem dL_law_781 : decode cL_law 781 = .ok (.iload_n 3, 1) := by decide +kernel
theorem dL_law_782 : decode cL_law 782 = .ok (.iconst 1, 1) := by decide +kernel
theorem dL_law_783 : decode cL_law 783 = .ok (.iadd, 1) := by decide +kernel
theorem dL_law_784 : decode cL_law 784 = .ok (.iaload, 1) := by decide +kernel
theorem dL_law_785 : decode cL_law 785 = .ok (.invokevirtual 117, 3) := by decide +kernel
theorem dL_law_788 : decode cL_law 788 = .ok (.if_icmp .eq 18, 3) := by decide +kernel
theorem dL_law_791 : decode cL_law 791 = .ok (.iconst 0, 1) := by decide +kernel
theorem dL_law_792 : decode cL_law 792 = .ok (.ireturn, 1) := by decide +kernel
theorem dL_law_793 : decode cL_law 793 = .ok (.aload_n 1, 1) := by decide +kernel
theorem dL_law_794 : decode cL_law 794 = .ok (.invokevirtual 118, 3) := by decide +kernel
theorem dL_law_797 : decode cL_law 797 = .ok (.aload_n 2, 1) := by decide +kernel
theorem dL_law_798 : decode cL_law 798 = .ok (.invokevirtual 121, 3) := by decide +kernel
theorem dL_law_801 : decode cL_law 801 = .ok (.if_icmp .eq 5, 3) := by decide +kernel
theorem dL_law_804 : decode cL_law 804 = .ok (.iconst 0, 1) := by decide +kernel
theorem dL_law_805 : decode cL_law 805 = .ok (.ireturn, 1) := by decide +kernel
theorem dL_law_806 : decode cL_law 806 = .ok (.iinc 3 4, 3) := by decide +kernel
theorem dL_law_809 : decode cL_law 809 = .ok (.goto (-791), 3) := by decide +kernel
theorem dL_law_812 : decode cL_law 812 = .ok (.iconst 1, 1) := by decide +kernel
theorem dL_law_813 : decode cL_law 813 = .ok (.ireturn, 1) := by decide +kernel
end
section
/-! a small machine over the kit's rows: memory Mm, the judgement V, the contracts CtI and CtV -/
abbrev Mm : Type := (Nat → Int32) × (Nat → Nat → Int32) × Nat
def gI (M : Mm) (k : Nat) : Int32 := M.1 k
def gA (M : Mm) (j : Nat) (i : Int32) : Int32 := M.2.1 j i.toNatClampNeg
def gL (M : Mm) : Nat := M.2.2
def sI (M : Mm) (k : Nat) (v : Int32) : Mm := (va_up M.1 k v, M.2)
def sA (M : Mm) (j : Nat) (i v : Int32) : Mm := (M.1, va_up M.2.1 j (upd (M.2.1 j) i.toNatClampNeg v), M.2.2)
def fl (f : Nat → Int32) (n : Nat) (v : Int32) : Nat → Int32 := fun j => if j < n then v else f j
def sF (M : Mm) (j n : Nat) (v : Int32) : Mm := (M.1, va_up M.2.1 j (fl (M.2.1 j) n v), M.2.2)
abbrev inb (i : Int32) (n : Nat) : Prop := ¬ (i < 0 ∨ n ≤ i.toNatClampNeg)
abbrev isB (v : Int32) : Prop := v = 0 ∨ v = 1
def bd {α β : Type} (o : Option α) (k : α → Option β) : Option β := match o with
  | none => none
  | some a => k a
def ux : List Cond := lw_tbl.filter goodWord
theorem ux_mem {w : Cond} (h : w ∈ lw_tbl) (g : goodWord w = true) : w ∈ ux := List.mem_filter.mpr ⟨h, g⟩
theorem ux_good {c1 : Cond} (h : c1 ∈ ux) : GoodIn ux (c1 :: ux) := by
  intro w hw
  have hw' : w ∈ ux := (List.mem_cons.mp hw).elim (fun e => e ▸ h) id
  exact ⟨hw', good_of_word (List.mem_filter.mp hw').2⟩
/-! locals -/
def lvh (ls : Array Slot) (n : Nat) (lv : List (Option Value)) : Prop := ls.size = n ∧ lv_wf ls ∧ ∀ (i : Nat) (v : Value), lv[i]? = some (some v) → ls[i]? = some (.val v) ∧ v.category = 1
def lva (lv : List (Option Value)) : List (Nat × Value) := (List.range lv.length).filterMap (fun i => match lv[i]? with
  | some (some v) => some (i, v)
  | _ => none)
theorem lva_mem {lv : List (Option Value)} {i : Nat} {v : Value} (h : lv[i]? = some (some v)) : (i, v) ∈ lva lv := by
  refine List.mem_filterMap.mpr ⟨i, List.mem_range.mpr (List.getElem?_eq_some_iff.mp h).1, ?_⟩
  rw [h]
theorem lva_of {lv : List (Option Value)} {q : Nat × Value} (h : q ∈ lva lv) : lv[q.1]? = some (some q.2) := by
  obtain ⟨i, -, h2⟩ := List.mem_filterMap.mp h
  split at h2
  · next v hv =>
    cases h2
    exact hv
  · cases h2
theorem lvh.has {ls : Array Slot} {n : Nat} {lv : List (Option Value)} (h : lvh ls n lv) : lv_has ls n (lva lv) := ⟨h.1, h.2.1, fun q hq => (h.2.2 q.1 q.2 (lva_of hq)).1⟩
theorem lvh.set {ls ls' : Array Slot} {n i : Nat} {w : Value} {lv : List (Option Value)} (h : lvh ls n lv) (hw : w.category = 1) (h' : lv_has ls' n ((i, w) :: (lva lv).filter (fun q => !(q.1 == i) && !(q.1 + 1 == i && q.2.category == 2)))) : lvh ls' n (lv.set i (some w)) := by
  refine ⟨h'.1, h'.2.1, fun j v hj => ?_⟩
  by_cases hji : j = i
  · subst hji
    rw [List.getElem?_set] at hj
    simp only [if_true] at hj
    split at hj
    · cases hj
      exact ⟨h'.2.2 _ List.mem_cons_self, hw⟩
    · cases hj
  · rw [List.getElem?_set_ne (fun e => hji e.symm)] at hj
    have hc := (h.2.2 j v hj).2
    refine ⟨h'.2.2 (j, v) (List.mem_cons_of_mem _ (List.mem_filter.mpr ⟨lva_mem hj, ?_⟩)), hc⟩
    simp [hji, hc]
theorem lvh.mono {ls : Array Slot} {n : Nat} {lv lv' : List (Option Value)} (h : lvh ls n lv) (hm : ∀ (i : Nat) (v : Value), lv'[i]? = some (some v) → lv[i]? = some (some v)) : lvh ls n lv' := ⟨h.1, h.2.1, fun i v hi => h.2.2 i v (hm i v hi)⟩
/-- some of the locals forgotten -/
def lvw : List Bool → List (Option Value) → List (Option Value)
  | [], _ => []
  | _, [] => []
  | b :: bs, o :: os => (if b = true then o else none) :: lvw bs os
theorem lvw_le : ∀ (bs : List Bool) (lv : List (Option Value)) (i : Nat) (v : Value), (lvw bs lv)[i]? = some (some v) → lv[i]? = some (some v)
  | [], _, i, v, h => by simp [lvw] at h
  | b :: bs, [], i, v, h => by simp [lvw] at h
  | b :: bs, o :: os, 0, v, h => by
    cases b
    · simp [lvw] at h
    · simpa [lvw] using h
  | b :: bs, o :: os, i + 1, v, h => by
    have h1 : (lvw bs os)[i]? = some (some v) := by simpa [lvw] using h
    simpa using lvw_le bs os i v h1
theorem lv_args_mem : ∀ (av : List Value) (k i : Nat) (v : Value), (∀ w ∈ av, w.category = 1) → av[i]? = some v → (k + i, v) ∈ lv_args k av
  | [], _, i, v, _, h => by simp at h
  | w :: ws, k, 0, v, hc, h => by
    simp at h
    subst h
    simp [lv_args]
  | w :: ws, k, i + 1, v, hc, h => by
    have h1 : ws[i]? = some v := by simpa using h
    have hw : w.category = 1 := hc w List.mem_cons_self
    have h2 := lv_args_mem ws (k + 1) i v (fun u hu => hc u (List.mem_cons_of_mem _ hu)) h1
    refine List.mem_cons_of_mem _ ?_
    rw [if_neg (by rw [hw]; decide)]
    rw [show k + (i + 1) = k + 1 + i by omega]
    exact h2
/-! what is the same for all: the launch, the classes' numbers, the array classes -/
abbrev Zz : Type := Launch × va_G × ClassId × ClassId × ClassId
abbrev Zl (Z : Zz) : Launch := Z.1
abbrev ZD (Z : Zz) : va_G := Z.2.1
abbrev ZI (Z : Zz) : ClassId := Z.2.2.1
abbrev ZB (Z : Zz) : ClassId := Z.2.2.2.1
abbrev ZZ (Z : Zz) : ClassId := Z.2.2.2.2
abbrev Zt (Z : Zz) : List (ClassId × FieldType) := [(ZI Z, .int), (ZB Z, .byte), (ZZ Z, .boolean)]
/-! what is the same in one method's run -/
abbrev Gm : Type := Program × Env × Room × State × MethodId × Array Value × List Frame × Method × Code × (State → Prop) × (Nat → Prop)
abbrev Gp (G : Gm) : Program := G.1
abbrev Ge (G : Gm) : Env := G.2.1
abbrev GR (G : Gm) : Room := G.2.2.1
abbrev Gs (G : Gm) : State := G.2.2.2.1
abbrev Gi (G : Gm) : MethodId := G.2.2.2.2.1
abbrev Ga (G : Gm) : Array Value := G.2.2.2.2.2.1
abbrev Gb (G : Gm) : List Frame := G.2.2.2.2.2.2.1
abbrev Gme (G : Gm) : Method := G.2.2.2.2.2.2.2.1
abbrev Gc (G : Gm) : Code := G.2.2.2.2.2.2.2.2.1
abbrev GQ (G : Gm) : State → Prop := G.2.2.2.2.2.2.2.2.2.1
abbrev GA (G : Gm) : Nat → Prop := G.2.2.2.2.2.2.2.2.2.2
/-- the machine at pc, with these locals, this stack, the world of x: it comes to the end -/
def V {X : Type} (wf : X → va_W) (Z : Zz) (G : Gm) (cs pc : Nat) (lv : List (Option Value)) (st : List Value) (x : X) : Prop :=
  ∀ (H : Heap) (locs : List Loc) (ls : Array Slot), lvh ls (Gc G).maxLocals lv → va_P (ZD Z) vwCl (wf x) H → va_D (GA G) (wf x) → va_S (GA G) (Gs G).heap H locs →
    W (Gp G) (Zl Z) (Ge G) (GR G) (Gs G) (Gi G) (Ga G) (Gb G) (Gme G) (Gc G) H locs (2 * cs) (81920 * cs) (GQ G) (F0 (Gi G) pc ls st)
/-- a word of the tables that says what a return does -/
def RT {X : Type} (wf : X → va_W) (Z : Zz) (G : Gm) (cc : ByteArray) (ret : Option FieldType) (Pq : Option Int32 → X → Prop) (csF : Nat) : Prop :=
  (ret = some .int → ∀ (pc : Nat) (r : Int32) (x : X) (H : Heap) (locs : List Loc) (ls : Array Slot), decode cc pc = .ok (.ireturn, 1) → Pq (some r) x → va_P (ZD Z) vwCl (wf x) H → va_D (GA G) (wf x) → va_S (GA G) (Gs G).heap H locs →
    W (Gp G) (Zl Z) (Ge G) (GR G) (Gs G) (Gi G) (Ga G) (Gb G) (Gme G) (Gc G) H locs (2 * csF) (81920 * csF) (GQ G) (F0 (Gi G) pc ls [.int r])) ∧
  (ret = some .boolean → ∀ (pc : Nat) (r : Int32) (x : X) (H : Heap) (locs : List Loc) (ls : Array Slot), decode cc pc = .ok (.ireturn, 1) → isB r → Pq (some r) x → va_P (ZD Z) vwCl (wf x) H → va_D (GA G) (wf x) → va_S (GA G) (Gs G).heap H locs →
    W (Gp G) (Zl Z) (Ge G) (GR G) (Gs G) (Gi G) (Ga G) (Gb G) (Gme G) (Gc G) H locs (2 * csF) (81920 * csF) (GQ G) (F0 (Gi G) pc ls [.int r])) ∧
  (ret = none → ∀ (pc : Nat) (x : X) (H : Heap) (locs : List Loc) (ls : Array Slot), decode cc pc = .ok (.return_, 1) → Pq none x → va_P (ZD Z) vwCl (wf x) H → va_D (GA G) (wf x) → va_S (GA G) (Gs G).heap H locs →
    W (Gp G) (Zl Z) (Ge G) (GR G) (Gs G) (Gi G) (Ga G) (Gb G) (Gme G) (Gc G) H locs (2 * csF) (81920 * csF) (GQ G) (F0 (Gi G) pc ls []))
/-- what a method's walk may use -/
def CX {X : Type} (wf : X → va_W) (Z : Zz) (E : State → Prop) (G : Gm) (cc : ByteArray) (own : String) (dep : Nat) (ret : Option FieldType) (Pq : Option Int32 → X → Prop) (csF : Nat) : Prop :=
  (Gp G).tables.exec = Jvm.exec ∧ (Gc G).code = cc ∧ (Gs G).vm.findClass own = some (Gi G).cls ∧ (∀ w ∈ ux, w.before (Ga G) (Gs G) = true) ∧ va_K (ZD Z) vwCl (Zt Z) (Gs G) ∧ (∀ q, (Gs G).heap.size ≤ q → GA G q) ∧
  GR G = { frames := dep, cells := 2 * csF, slots := 81920 * csF, locals := 40 * dep } ∧ E (Gs G) ∧ RT wf Z G cc ret Pq csF
section CXp
variable {X : Type} {wf : X → va_W} {Z : Zz} {Ev : State → Prop} {G : Gm} {cc : ByteArray} {ow : String} {dep : Nat} {ret : Option FieldType} {Pq : Option Int32 → X → Prop} {csF : Nat}
theorem CX.exec (C : CX wf Z Ev G cc ow dep ret Pq csF) : (Gp G).tables.exec = Jvm.exec := C.1
theorem CX.bytes (C : CX wf Z Ev G cc ow dep ret Pq csF) : (Gc G).code = cc := C.2.1
theorem CX.own (C : CX wf Z Ev G cc ow dep ret Pq csF) : (Gs G).vm.findClass ow = some (Gi G).cls := C.2.2.1
theorem CX.hts (C : CX wf Z Ev G cc ow dep ret Pq csF) : ∀ w ∈ ux, w.before (Ga G) (Gs G) = true := C.2.2.2.1
theorem CX.K (C : CX wf Z Ev G cc ow dep ret Pq csF) : va_K (ZD Z) vwCl (Zt Z) (Gs G) := C.2.2.2.2.1
theorem CX.A (C : CX wf Z Ev G cc ow dep ret Pq csF) : ∀ q, (Gs G).heap.size ≤ q → GA G q := C.2.2.2.2.2.1
theorem CX.R (C : CX wf Z Ev G cc ow dep ret Pq csF) : GR G = { frames := dep, cells := 2 * csF, slots := 81920 * csF, locals := 40 * dep } := C.2.2.2.2.2.2.1
theorem CX.E (C : CX wf Z Ev G cc ow dep ret Pq csF) : Ev (Gs G) := C.2.2.2.2.2.2.2.1
theorem CX.rt (C : CX wf Z Ev G cc ow dep ret Pq csF) : RT wf Z G cc ret Pq csF := C.2.2.2.2.2.2.2.2
end CXp
def Pre0 {X : Type} (wf : X → va_W) (Z : Zz) (E : State → Prop) (av : List Value) (x0 : X) (sz : Nat) : Array Value → State → Prop := va_Pc av (fun U => U.heap.size = sz ∧ va_P (ZD Z) vwCl (wf x0) U.heap ∧ va_K (ZD Z) vwCl (Zt Z) U ∧ va_D (fun _ => True) (wf x0) ∧ E U)
abbrev Bt {X : Type} (wf : X → va_W) (Z : Zz) (x0 : X) (sz : Nat) : X → State → Prop := fun x t => va_P (ZD Z) vwCl (wf x) t.heap ∧ va_K (ZD Z) vwCl (Zt Z) t ∧ va_D (va_A (wf x0) sz) (wf x)
/-- a contract with an int for an answer -/
def CtI {X : Type} (wf : X → va_W) (Z : Zz) (E : State → Prop) (y : MethodName) (cc : ByteArray) (maxL : Nat) (ret : Option FieldType) (dep csF : Nat) (av : List Value) (x0 : X) (Pq : Option Int32 → X → Prop) : Prop :=
  ∀ sz : Nat, Met (Zl Z) y (Cond.code y cc maxL ret :: ux) { frames := dep, cells := 2 * csF, slots := 81920 * csF, locals := 40 * dep } (Pre0 wf Z E av x0 sz) (va_Qi (fun r x => Pq (some r) x) (Bt wf Z x0 sz) (va_A (wf x0) sz)) (2 * csF) (81920 * csF) (va_A (wf x0) sz)
/-- a contract without an answer -/
def CtV {X : Type} (wf : X → va_W) (Z : Zz) (E : State → Prop) (y : MethodName) (cc : ByteArray) (maxL : Nat) (dep csF : Nat) (av : List Value) (x0 : X) (Pq : Option Int32 → X → Prop) : Prop :=
  ∀ sz : Nat, Met (Zl Z) y (Cond.code y cc maxL none :: ux) { frames := dep, cells := 2 * csF, slots := 81920 * csF, locals := 40 * dep } (Pre0 wf Z E av x0 sz) (va_Qv (fun x => Pq none x) (Bt wf Z x0 sz) (va_A (wf x0) sz)) (2 * csF) (81920 * csF) (va_A (wf x0) sz)
theorem entry_lvh {av : List Value} {maxL : Nat} (hav : ∀ v ∈ av, v.category = 1) (hlen : av.length ≤ maxL) : lvh ((lg_sl av ++ List.replicate (maxL - (lg_sl av).length) Slot.unset).toArray) maxL (av.map some ++ List.replicate (maxL - av.length) none) := by
  have hsl : (lg_sl av).length = av.length := by
    clear hlen
    induction av with
    | nil => rfl
    | cons v vs ih =>
      have h1 : v.category = 1 := hav v List.mem_cons_self
      have h2 := ih (fun w hw => hav w (List.mem_cons_of_mem _ hw))
      simp only [lg_sl, List.flatMap_cons, List.length_append, List.length_cons] at h2 ⊢
      rw [h2, if_neg (by rw [h1]; decide)]
      simp only [List.length_cons, List.length_nil]
      omega
  have h := lv_entry av (n := maxL) (by rw [hsl]; exact hlen)
  refine ⟨h.1, h.2.1, fun i v hi => ?_⟩
  have h1 : av[i]? = some v := by
    by_cases hl : i < av.length
    · rw [List.getElem?_append_left (by simpa using hl), List.getElem?_map] at hi
      cases hx : av[i]? with
      | none => rw [hx] at hi; cases hi
      | some w => rw [hx] at hi; exact Option.some.inj hi
    · rw [List.getElem?_append_right (by simpa using hl)] at hi
      have := List.eq_of_mem_replicate (List.mem_of_getElem? hi)
      cases this
  have h2 := lv_args_mem av 0 i v hav h1
  rw [Nat.zero_add] at h2
  exact ⟨h.2.2 (i, v) h2, hav v (List.mem_of_getElem? h1)⟩
theorem CtI_of {X : Type} {wf : X → va_W} {Z : Zz} {E : State → Prop} {y : MethodName} {cc : ByteArray} {maxL : Nat} {ret : Option FieldType} {dep csF : Nat} {av : List Value} {x0 : X} {Pq : Option Int32 → X → Prop}
    (hy : plainName y.cls = true) (hret : ret = some .int ∨ ret = some .boolean) (hav : ∀ v ∈ av, v.category = 1) (hlen : av.length ≤ maxL)
    (body : ∀ G : Gm, CX wf Z E G cc y.cls dep ret Pq csF → (Gc G).maxLocals = maxL → V wf Z G 0 0 (av.map some ++ List.replicate (maxL - av.length) none) [] x0) : CtI wf Z E y cc maxL ret dep csF av x0 Pq := by
  intro sz
  refine Met.ofW (cc := cc) (maxL := maxL) (ret := ret) hy rfl ?_
  intro p e s m args below meth c s₁ B hml hv
  obtain ⟨rfl, hsz, hP, hK, hD0, hE⟩ := hv
  subst hsz
  have hts := atoms_spec (ws := Cond.code y cc maxL ret :: ux) B.pre
  have hown : s.vm.findClass y.cls = some m.cls := findClass_of_methodNamed B.named
  have hlocks := B.notSynchronized
  have hr := B.returns
  have hD := hD0.self (sz := s.heap.size)
  have hS : va_S (va_A (wf x0) s.heap.size) s.heap s.heap [] := va_S.rf
  rw [lg_entry_eq]
  have key := body (p, e, { frames := dep, cells := 2 * csF, slots := 81920 * csF, locals := 40 * dep }, s, m, av.toArray, below, meth, c, MQ below (va_Qi (fun r x => Pq (some r) x) (Bt wf Z x0 s.heap.size) (va_A (wf x0) s.heap.size)) av.toArray s (2 * csF) (81920 * csF) (va_A (wf x0) s.heap.size), va_A (wf x0) s.heap.size)
    ⟨B.exec, B.bytes, hown, fun w hw => hts w (List.mem_cons_of_mem _ hw), hK, fun q h => Or.inr h, rfl, hE, ⟨fun he pc r x H locs ls d hq hP1 hD1 hS1 => ?_, fun he pc r x H locs ls d hbr hq hP1 hD1 hS1 => ?_, fun he => ?_⟩⟩
    hml s.heap [] _ (by show lvh _ c.maxLocals _; rw [hml]; exact entry_lvh hav hlen) hP hD hS
  · exact key
  · exact W.iret (v := r) B.exec B.bytes (hr.trans he) (fun t ht hW => ⟨⟨r, x, rfl, hq, by rw [ht]; exact hP1, va_K.moved hW.alike hK, hD1⟩, hS1.F ht⟩) hS1.2.2 d hlocks
  · refine W.zret (v := r) (ty := .boolean) B.exec B.bytes (hr.trans he) (by rcases hbr with h | h <;> subst h <;> rfl) (fun t ht hW => ⟨⟨r, x, rfl, hq, by rw [ht]; exact hP1, va_K.moved hW.alike hK, hD1⟩, hS1.F ht⟩) hS1.2.2 d hlocks
  · exfalso
    rcases hret with h | h <;> rw [he] at h <;> cases h
theorem CtV_of {X : Type} {wf : X → va_W} {Z : Zz} {E : State → Prop} {y : MethodName} {cc : ByteArray} {maxL : Nat} {dep csF : Nat} {av : List Value} {x0 : X} {Pq : Option Int32 → X → Prop}
    (hy : plainName y.cls = true) (hav : ∀ v ∈ av, v.category = 1) (hlen : av.length ≤ maxL)
    (body : ∀ G : Gm, CX wf Z E G cc y.cls dep none Pq csF → (Gc G).maxLocals = maxL → V wf Z G 0 0 (av.map some ++ List.replicate (maxL - av.length) none) [] x0) : CtV wf Z E y cc maxL dep csF av x0 Pq := by
  intro sz
  refine Met.ofW (cc := cc) (maxL := maxL) (ret := none) hy rfl ?_
  intro p e s m args below meth c s₁ B hml hv
  obtain ⟨rfl, hsz, hP, hK, hD0, hE⟩ := hv
  subst hsz
  have hts := atoms_spec (ws := Cond.code y cc maxL none :: ux) B.pre
  have hown : s.vm.findClass y.cls = some m.cls := findClass_of_methodNamed B.named
  have hlocks := B.notSynchronized
  have hr := B.returns
  have hD := hD0.self (sz := s.heap.size)
  have hS : va_S (va_A (wf x0) s.heap.size) s.heap s.heap [] := va_S.rf
  rw [lg_entry_eq]
  have key := body (p, e, { frames := dep, cells := 2 * csF, slots := 81920 * csF, locals := 40 * dep }, s, m, av.toArray, below, meth, c, MQ below (va_Qv (fun x => Pq none x) (Bt wf Z x0 s.heap.size) (va_A (wf x0) s.heap.size)) av.toArray s (2 * csF) (81920 * csF) (va_A (wf x0) s.heap.size), va_A (wf x0) s.heap.size)
    ⟨B.exec, B.bytes, hown, fun w hw => hts w (List.mem_cons_of_mem _ hw), hK, fun q h => Or.inr h, rfl, hE, ⟨fun he => ?_, fun he => ?_, fun he pc x H locs ls d hq hP1 hD1 hS1 => ?_⟩⟩
    hml s.heap [] _ (by show lvh _ c.maxLocals _; rw [hml]; exact entry_lvh hav hlen) hP hD hS
  · exact key
  · cases he
  · cases he
  · exact W.vret B.exec B.bytes hr (fun t ht hW => ⟨⟨x, rfl, hq, by rw [ht]; exact hP1, va_K.moved hW.alike hK, hD1⟩, hS1.F ht⟩) hS1.2.2 d hlocks
end
section
/-! one row of V for each instruction -/
section RW
variable {X : Type} {wf : X → va_W} {Z : Zz} {Ev : State → Prop} {G : Gm} {cc : ByteArray} {ow : String} {dep : Nat} {ret : Option FieldType} {Pq : Option Int32 → X → Prop} {csF cs : Nat} {x : X} {st : List Value} {lv : List (Option Value)}
variable {β : Type} {o : β}
theorem V.mono {pc : Nat} {lv' : List (Option Value)} (bs : List Bool) (he : lvw bs lv = lv') (k : V wf Z G cs pc lv' st x) : V wf Z G cs pc lv st x := fun H locs ls hl hP hD hS => k H locs ls (hl.mono (fun i v h => lvw_le bs lv i v (by rw [he]; exact h))) hP hD hS
theorem V.pc {pc pc' : Nat} (h : pc = pc') (k : V wf Z G cs pc' lv st x) : V wf Z G cs pc lv st x := h ▸ k
theorem bpos {γ : Type} {c : Prop} {hd : Decidable c} {a b : Option γ} {u : γ} (hf : (@ite _ c hd a b) = some u) (h : c) : a = some u := by rw [if_pos h] at hf; exact hf
theorem bneg {γ : Type} {c : Prop} {hd : Decidable c} {a b : Option γ} {u : γ} (hf : (@ite _ c hd a b) = some u) (h : ¬ c) : b = some u := by rw [if_neg h] at hf; exact hf
theorem bgd {γ : Type} {c : Prop} {hd : Decidable c} {a : Option γ} {u : γ} (hf : (@ite _ c hd a none) = some u) : c ∧ a = some u := by
  by_cases h : c
  · rw [if_pos h] at hf; exact ⟨h, hf⟩
  · rw [if_neg h] at hf; cases hf
theorem bdd {α γ : Type} {q : Option α} {k : α → Option γ} {u : γ} (hf : bd q k = some u) : ∃ a, q = some a ∧ k a = some u := by
  cases q with
  | none => cases hf
  | some a => exact ⟨a, rfl, hf⟩
theorem V_iconst (C : CX wf Z Ev G cc ow dep ret Pq csF) {pc : Nat} {n : Int} {v : Int32} (hv : Int32.ofInt n = v) (d : decode cc pc = .ok (.iconst n, 1)) (k : V wf Z G cs (pc + 1) lv (.int v :: st) x) : V wf Z G cs pc lv (st) x := fun H locs ls hl hP hD hS => lv_iconst C.exec C.bytes d hv (k H locs ls hl hP hD hS)
theorem V_bipush (C : CX wf Z Ev G cc ow dep ret Pq csF) {pc : Nat} {n : Int} {v : Int32} (hv : (Int8.ofInt n).toInt32 = v) (d : decode cc pc = .ok (.bipush n, 2)) (k : V wf Z G cs (pc + 2) lv (.int v :: st) x) : V wf Z G cs pc lv (st) x := fun H locs ls hl hP hD hS => lv_bipush C.exec C.bytes d hv (k H locs ls hl hP hD hS)
theorem V_sipush (C : CX wf Z Ev G cc ow dep ret Pq csF) {pc : Nat} {n : Int} {v : Int32} (hv : (Int16.ofInt n).toInt32 = v) (d : decode cc pc = .ok (.sipush n, 3)) (k : V wf Z G cs (pc + 3) lv (.int v :: st) x) : V wf Z G cs pc lv (st) x := fun H locs ls hl hP hD hS => lv_sipush C.exec C.bytes d hv (k H locs ls hl hP hD hS)
theorem V_iadd (C : CX wf Z Ev G cc ow dep ret Pq csF) {pc : Nat} {x1 y1 : Int32} (d : decode cc pc = .ok (.iadd, 1)) (k : V wf Z G cs (pc + 1) lv (.int (x1 + y1) :: st) x) : V wf Z G cs pc lv (.int y1 :: .int x1 :: st) x := fun H locs ls hl hP hD hS => lv_iadd C.exec C.bytes d (k H locs ls hl hP hD hS)
theorem V_isub (C : CX wf Z Ev G cc ow dep ret Pq csF) {pc : Nat} {x1 y1 : Int32} (d : decode cc pc = .ok (.isub, 1)) (k : V wf Z G cs (pc + 1) lv (.int (x1 - y1) :: st) x) : V wf Z G cs pc lv (.int y1 :: .int x1 :: st) x := fun H locs ls hl hP hD hS => lv_isub C.exec C.bytes d (k H locs ls hl hP hD hS)
theorem V_imul (C : CX wf Z Ev G cc ow dep ret Pq csF) {pc : Nat} {x1 y1 : Int32} (d : decode cc pc = .ok (.imul, 1)) (k : V wf Z G cs (pc + 1) lv (.int (x1 * y1) :: st) x) : V wf Z G cs pc lv (.int y1 :: .int x1 :: st) x := fun H locs ls hl hP hD hS => lv_imul C.exec C.bytes d (k H locs ls hl hP hD hS)
theorem V_iand (C : CX wf Z Ev G cc ow dep ret Pq csF) {pc : Nat} {x1 y1 : Int32} (d : decode cc pc = .ok (.iand, 1)) (k : V wf Z G cs (pc + 1) lv (.int (x1 &&& y1) :: st) x) : V wf Z G cs pc lv (.int y1 :: .int x1 :: st) x := fun H locs ls hl hP hD hS => lv_iand C.exec C.bytes d (k H locs ls hl hP hD hS)
theorem V_ior (C : CX wf Z Ev G cc ow dep ret Pq csF) {pc : Nat} {x1 y1 : Int32} (d : decode cc pc = .ok (.ior, 1)) (k : V wf Z G cs (pc + 1) lv (.int (x1 ||| y1) :: st) x) : V wf Z G cs pc lv (.int y1 :: .int x1 :: st) x := fun H locs ls hl hP hD hS => lv_ior C.exec C.bytes d (k H locs ls hl hP hD hS)
theorem V_ixor (C : CX wf Z Ev G cc ow dep ret Pq csF) {pc : Nat} {x1 y1 : Int32} (d : decode cc pc = .ok (.ixor, 1)) (k : V wf Z G cs (pc + 1) lv (.int (x1 ^^^ y1) :: st) x) : V wf Z G cs pc lv (.int y1 :: .int x1 :: st) x := fun H locs ls hl hP hD hS => lv_ixor C.exec C.bytes d (k H locs ls hl hP hD hS)
theorem V_ishl (C : CX wf Z Ev G cc ow dep ret Pq csF) {pc : Nat} {x1 y1 : Int32} (d : decode cc pc = .ok (.ishl, 1)) (k : V wf Z G cs (pc + 1) lv (.int (x1 <<< (y1 &&& 31)) :: st) x) : V wf Z G cs pc lv (.int y1 :: .int x1 :: st) x := fun H locs ls hl hP hD hS => lv_ishl C.exec C.bytes d (k H locs ls hl hP hD hS)
theorem V_ishr (C : CX wf Z Ev G cc ow dep ret Pq csF) {pc : Nat} {x1 y1 : Int32} (d : decode cc pc = .ok (.ishr, 1)) (k : V wf Z G cs (pc + 1) lv (.int (x1 >>> (y1 &&& 31)) :: st) x) : V wf Z G cs pc lv (.int y1 :: .int x1 :: st) x := fun H locs ls hl hP hD hS => lv_ishr C.exec C.bytes d (k H locs ls hl hP hD hS)
theorem V_iushr (C : CX wf Z Ev G cc ow dep ret Pq csF) {pc : Nat} {x1 y1 : Int32} (d : decode cc pc = .ok (.iushr, 1)) (k : V wf Z G cs (pc + 1) lv (.int ((x1.toUInt32 >>> (y1.toUInt32 &&& Int32.toUInt32 31)).toInt32) :: st) x) : V wf Z G cs pc lv (.int y1 :: .int x1 :: st) x := fun H locs ls hl hP hD hS => lv_iushr C.exec C.bytes d rfl (k H locs ls hl hP hD hS)
theorem V_idiv (C : CX wf Z Ev G cc ow dep ret Pq csF) {pc : Nat} {x1 y1 : Int32} (hne : ¬ y1 = 0) (d : decode cc pc = .ok (.idiv, 1)) (k : V wf Z G cs (pc + 1) lv (.int (x1 / y1) :: st) x) : V wf Z G cs pc lv (.int y1 :: .int x1 :: st) x := fun H locs ls hl hP hD hS => lv_idiv C.exec C.bytes d hne (k H locs ls hl hP hD hS)
theorem V_irem (C : CX wf Z Ev G cc ow dep ret Pq csF) {pc : Nat} {x1 y1 : Int32} (hne : ¬ y1 = 0) (d : decode cc pc = .ok (.irem, 1)) (k : V wf Z G cs (pc + 1) lv (.int (x1 - x1 / y1 * y1) :: st) x) : V wf Z G cs pc lv (.int y1 :: .int x1 :: st) x := fun H locs ls hl hP hD hS => lv_irem C.exec C.bytes d hne (k H locs ls hl hP hD hS)
theorem V_i2b (C : CX wf Z Ev G cc ow dep ret Pq csF) {pc : Nat} {x1 : Int32} (d : decode cc pc = .ok (.i2b, 1)) (k : V wf Z G cs (pc + 1) lv (.int (x1.toInt8.toInt32) :: st) x) : V wf Z G cs pc lv (.int x1 :: st) x := fun H locs ls hl hP hD hS => lv_i2b C.exec C.bytes d rfl (k H locs ls hl hP hD hS)
theorem V_dupi (C : CX wf Z Ev G cc ow dep ret Pq csF) {pc : Nat} {x1 : Int32} (d : decode cc pc = .ok (.dup, 1)) (k : V wf Z G cs (pc + 1) lv (.int x1 :: .int x1 :: st) x) : V wf Z G cs pc lv (.int x1 :: st) x := fun H locs ls hl hP hD hS => lv_dup C.exec C.bytes d rfl (k H locs ls hl hP hD hS)
theorem V_dupr (C : CX wf Z Ev G cc ow dep ret Pq csF) {pc : Nat} {x1 : Nat} (d : decode cc pc = .ok (.dup, 1)) (k : V wf Z G cs (pc + 1) lv (.ref x1 :: .ref x1 :: st) x) : V wf Z G cs pc lv (.ref x1 :: st) x := fun H locs ls hl hP hD hS => lv_dup C.exec C.bytes d rfl (k H locs ls hl hP hD hS)
theorem V_dup2 (C : CX wf Z Ev G cc ow dep ret Pq csF) {pc : Nat} {x1 : Int32} {y1 : Nat} (d : decode cc pc = .ok (.dup2, 1)) (k : V wf Z G cs (pc + 1) lv (.int x1 :: .ref y1 :: .int x1 :: .ref y1 :: st) x) : V wf Z G cs pc lv (.int x1 :: .ref y1 :: st) x := fun H locs ls hl hP hD hS => lv_dup2_11 C.exec C.bytes d rfl rfl (k H locs ls hl hP hD hS)
theorem V_dup_x1 (C : CX wf Z Ev G cc ow dep ret Pq csF) {pc : Nat} {x1 : Int32} {y1 : Nat} (d : decode cc pc = .ok (.dup_x1, 1)) (k : V wf Z G cs (pc + 1) lv (.int x1 :: .ref y1 :: .int x1 :: st) x) : V wf Z G cs pc lv (.int x1 :: .ref y1 :: st) x := fun H locs ls hl hP hD hS => lv_dup_x1 C.exec C.bytes d rfl rfl (k H locs ls hl hP hD hS)
theorem V_popi (C : CX wf Z Ev G cc ow dep ret Pq csF) {pc : Nat} {x1 : Int32} (d : decode cc pc = .ok (.pop, 1)) (k : V wf Z G cs (pc + 1) lv (st) x) : V wf Z G cs pc lv (.int x1 :: st) x := fun H locs ls hl hP hD hS => lv_pop C.exec C.bytes d rfl (k H locs ls hl hP hD hS)
theorem V_ldc (C : CX wf Z Ev G cc ow dep ret Pq csF) {pc : Nat} {i : Nat} {v : Int32} (hc : Cond.constant ow i v ∈ ux) (d : decode cc pc = .ok (.ldc i, 2)) (k : V wf Z G cs (pc + 2) lv (.int v :: st) x) : V wf Z G cs pc lv st x := fun H locs ls hl hP hD hS => lv_ldc C.exec C.bytes C.own (C.hts _ hc) d (k H locs ls hl hP hD hS)
theorem V_ldcw (C : CX wf Z Ev G cc ow dep ret Pq csF) {pc : Nat} {i : Nat} {v : Int32} (hc : Cond.constant ow i v ∈ ux) (d : decode cc pc = .ok (.ldc_w i, 3)) (k : V wf Z G cs (pc + 3) lv (.int v :: st) x) : V wf Z G cs pc lv st x := fun H locs ls hl hP hD hS => lv_ldcw C.exec C.bytes C.own (C.hts _ hc) d (k H locs ls hl hP hD hS)
theorem V_goto (C : CX wf Z Ev G cc ow dep ret Pq csF) {pc : Nat} {off : Int} {tgt : Nat} (d : decode cc pc = .ok (.goto off, 3)) (ht : (pc : Int) + off = (tgt : Int)) (k : V wf Z G cs tgt lv st x) : V wf Z G cs pc lv st x := fun H locs ls hl hP hD hS => lv_goto C.exec C.bytes d ht (k H locs ls hl hP hD hS)
theorem V_icmp_eq (C : CX wf Z Ev G cc ow dep ret Pq csF) {pc : Nat} {x1 y1 : Int32} {off : Int} {tgt : Nat} {fa fb : Option β} (d : decode cc pc = .ok (.if_icmp .eq off, 3)) (ht : (pc : Int) + off = (tgt : Int)) (hf : (if x1 = y1 then fa else fb) = some o) (kt : fa = some o → V wf Z G cs tgt lv st x) (kf : fb = some o → V wf Z G cs (pc + 3) lv st x) : V wf Z G cs pc lv (.int y1 :: .int x1 :: st) x := fun H locs ls hl hP hD hS => lv_icmp_eq C.exec C.bytes d ht (fun h => kt (bpos hf h) H locs ls hl hP hD hS) (fun h => kf (bneg hf h) H locs ls hl hP hD hS)
theorem V_if_eq (C : CX wf Z Ev G cc ow dep ret Pq csF) {pc : Nat} {x1 : Int32} {off : Int} {tgt : Nat} {fa fb : Option β} (d : decode cc pc = .ok (.ifCond .eq off, 3)) (ht : (pc : Int) + off = (tgt : Int)) (hf : (if x1 = 0 then fa else fb) = some o) (kt : fa = some o → V wf Z G cs tgt lv st x) (kf : fb = some o → V wf Z G cs (pc + 3) lv st x) : V wf Z G cs pc lv (.int x1 :: st) x := fun H locs ls hl hP hD hS => lv_if_eq C.exec C.bytes d ht (fun h => kt (bpos hf h) H locs ls hl hP hD hS) (fun h => kf (bneg hf h) H locs ls hl hP hD hS)
theorem V_icmp_ne (C : CX wf Z Ev G cc ow dep ret Pq csF) {pc : Nat} {x1 y1 : Int32} {off : Int} {tgt : Nat} {fa fb : Option β} (d : decode cc pc = .ok (.if_icmp .ne off, 3)) (ht : (pc : Int) + off = (tgt : Int)) (hf : (if x1 = y1 then fa else fb) = some o) (kt : fb = some o → V wf Z G cs tgt lv st x) (kf : fa = some o → V wf Z G cs (pc + 3) lv st x) : V wf Z G cs pc lv (.int y1 :: .int x1 :: st) x := fun H locs ls hl hP hD hS => lv_icmp_ne C.exec C.bytes d ht (fun h => kt (bneg hf h) H locs ls hl hP hD hS) (fun h => kf (bpos hf h) H locs ls hl hP hD hS)
theorem V_if_ne (C : CX wf Z Ev G cc ow dep ret Pq csF) {pc : Nat} {x1 : Int32} {off : Int} {tgt : Nat} {fa fb : Option β} (d : decode cc pc = .ok (.ifCond .ne off, 3)) (ht : (pc : Int) + off = (tgt : Int)) (hf : (if x1 = 0 then fa else fb) = some o) (kt : fb = some o → V wf Z G cs tgt lv st x) (kf : fa = some o → V wf Z G cs (pc + 3) lv st x) : V wf Z G cs pc lv (.int x1 :: st) x := fun H locs ls hl hP hD hS => lv_if_ne C.exec C.bytes d ht (fun h => kt (bneg hf h) H locs ls hl hP hD hS) (fun h => kf (bpos hf h) H locs ls hl hP hD hS)
theorem V_icmp_lt (C : CX wf Z Ev G cc ow dep ret Pq csF) {pc : Nat} {x1 y1 : Int32} {off : Int} {tgt : Nat} {fa fb : Option β} (d : decode cc pc = .ok (.if_icmp .lt off, 3)) (ht : (pc : Int) + off = (tgt : Int)) (hf : (if x1 < y1 then fa else fb) = some o) (kt : fa = some o → V wf Z G cs tgt lv st x) (kf : fb = some o → V wf Z G cs (pc + 3) lv st x) : V wf Z G cs pc lv (.int y1 :: .int x1 :: st) x := fun H locs ls hl hP hD hS => lv_icmp_lt C.exec C.bytes d ht (fun h => kt (bpos hf h) H locs ls hl hP hD hS) (fun h => kf (bneg hf h) H locs ls hl hP hD hS)
theorem V_if_lt (C : CX wf Z Ev G cc ow dep ret Pq csF) {pc : Nat} {x1 : Int32} {off : Int} {tgt : Nat} {fa fb : Option β} (d : decode cc pc = .ok (.ifCond .lt off, 3)) (ht : (pc : Int) + off = (tgt : Int)) (hf : (if x1 < 0 then fa else fb) = some o) (kt : fa = some o → V wf Z G cs tgt lv st x) (kf : fb = some o → V wf Z G cs (pc + 3) lv st x) : V wf Z G cs pc lv (.int x1 :: st) x := fun H locs ls hl hP hD hS => lv_if_lt C.exec C.bytes d ht (fun h => kt (bpos hf h) H locs ls hl hP hD hS) (fun h => kf (bneg hf h) H locs ls hl hP hD hS)
theorem V_icmp_ge (C : CX wf Z Ev G cc ow dep ret Pq csF) {pc : Nat} {x1 y1 : Int32} {off : Int} {tgt : Nat} {fa fb : Option β} (d : decode cc pc = .ok (.if_icmp .ge off, 3)) (ht : (pc : Int) + off = (tgt : Int)) (hf : (if y1 ≤ x1 then fa else fb) = some o) (kt : fa = some o → V wf Z G cs tgt lv st x) (kf : fb = some o → V wf Z G cs (pc + 3) lv st x) : V wf Z G cs pc lv (.int y1 :: .int x1 :: st) x := fun H locs ls hl hP hD hS => lv_icmp_ge C.exec C.bytes d ht (fun h => kt (bpos hf h) H locs ls hl hP hD hS) (fun h => kf (bneg hf h) H locs ls hl hP hD hS)
theorem V_if_ge (C : CX wf Z Ev G cc ow dep ret Pq csF) {pc : Nat} {x1 : Int32} {off : Int} {tgt : Nat} {fa fb : Option β} (d : decode cc pc = .ok (.ifCond .ge off, 3)) (ht : (pc : Int) + off = (tgt : Int)) (hf : (if 0 ≤ x1 then fa else fb) = some o) (kt : fa = some o → V wf Z G cs tgt lv st x) (kf : fb = some o → V wf Z G cs (pc + 3) lv st x) : V wf Z G cs pc lv (.int x1 :: st) x := fun H locs ls hl hP hD hS => lv_if_ge C.exec C.bytes d ht (fun h => kt (bpos hf h) H locs ls hl hP hD hS) (fun h => kf (bneg hf h) H locs ls hl hP hD hS)
theorem V_icmp_gt (C : CX wf Z Ev G cc ow dep ret Pq csF) {pc : Nat} {x1 y1 : Int32} {off : Int} {tgt : Nat} {fa fb : Option β} (d : decode cc pc = .ok (.if_icmp .gt off, 3)) (ht : (pc : Int) + off = (tgt : Int)) (hf : (if y1 < x1 then fa else fb) = some o) (kt : fa = some o → V wf Z G cs tgt lv st x) (kf : fb = some o → V wf Z G cs (pc + 3) lv st x) : V wf Z G cs pc lv (.int y1 :: .int x1 :: st) x := fun H locs ls hl hP hD hS => lv_icmp_gt C.exec C.bytes d ht (fun h => kt (bpos hf h) H locs ls hl hP hD hS) (fun h => kf (bneg hf h) H locs ls hl hP hD hS)
theorem V_if_gt (C : CX wf Z Ev G cc ow dep ret Pq csF) {pc : Nat} {x1 : Int32} {off : Int} {tgt : Nat} {fa fb : Option β} (d : decode cc pc = .ok (.ifCond .gt off, 3)) (ht : (pc : Int) + off = (tgt : Int)) (hf : (if 0 < x1 then fa else fb) = some o) (kt : fa = some o → V wf Z G cs tgt lv st x) (kf : fb = some o → V wf Z G cs (pc + 3) lv st x) : V wf Z G cs pc lv (.int x1 :: st) x := fun H locs ls hl hP hD hS => lv_if_gt C.exec C.bytes d ht (fun h => kt (bpos hf h) H locs ls hl hP hD hS) (fun h => kf (bneg hf h) H locs ls hl hP hD hS)
theorem V_icmp_le (C : CX wf Z Ev G cc ow dep ret Pq csF) {pc : Nat} {x1 y1 : Int32} {off : Int} {tgt : Nat} {fa fb : Option β} (d : decode cc pc = .ok (.if_icmp .le off, 3)) (ht : (pc : Int) + off = (tgt : Int)) (hf : (if x1 ≤ y1 then fa else fb) = some o) (kt : fa = some o → V wf Z G cs tgt lv st x) (kf : fb = some o → V wf Z G cs (pc + 3) lv st x) : V wf Z G cs pc lv (.int y1 :: .int x1 :: st) x := fun H locs ls hl hP hD hS => lv_icmp_le C.exec C.bytes d ht (fun h => kt (bpos hf h) H locs ls hl hP hD hS) (fun h => kf (bneg hf h) H locs ls hl hP hD hS)
theorem V_if_le (C : CX wf Z Ev G cc ow dep ret Pq csF) {pc : Nat} {x1 : Int32} {off : Int} {tgt : Nat} {fa fb : Option β} (d : decode cc pc = .ok (.ifCond .le off, 3)) (ht : (pc : Int) + off = (tgt : Int)) (hf : (if x1 ≤ 0 then fa else fb) = some o) (kt : fa = some o → V wf Z G cs tgt lv st x) (kf : fb = some o → V wf Z G cs (pc + 3) lv st x) : V wf Z G cs pc lv (.int x1 :: st) x := fun H locs ls hl hP hD hS => lv_if_le C.exec C.bytes d ht (fun h => kt (bpos hf h) H locs ls hl hP hD hS) (fun h => kf (bneg hf h) H locs ls hl hP hD hS)
theorem lvh.get {ls : Array Slot} {n : Nat} {lv : List (Option Value)} (h : lvh ls n lv) (i : Nat) {v : Value} (hi : lv[i]? = some (some v)) : ls[i]? = some (.val v) := (h.2.2 i v hi).1
theorem V_iload0 (C : CX wf Z Ev G cc ow dep ret Pq csF) {pc : Nat} {rest : List (Option Value)} {v : Int32} (d : decode cc pc = .ok (.iload_n 0, 1)) (k : V wf Z G cs (pc + 1) (some (.int v) :: rest) (.int v :: st) x) : V wf Z G cs pc (some (.int v) :: rest) st x := fun H locs ls hl hP hD hS => lv_iload_n C.exec C.bytes d rfl (hl.get 0 rfl) (k H locs ls hl hP hD hS)
theorem V_aload0 (C : CX wf Z Ev G cc ow dep ret Pq csF) {pc : Nat} {rest : List (Option Value)} {v : Nat} (d : decode cc pc = .ok (.aload_n 0, 1)) (k : V wf Z G cs (pc + 1) (some (.ref v) :: rest) (.ref v :: st) x) : V wf Z G cs pc (some (.ref v) :: rest) st x := fun H locs ls hl hP hD hS => lv_aload_n C.exec C.bytes d rfl (hl.get 0 rfl) (k H locs ls hl hP hD hS)
theorem V_istore0 (C : CX wf Z Ev G cc ow dep ret Pq csF) {pc : Nat} {ol : Option Value} {rest : List (Option Value)} {v : Int32} (d : decode cc pc = .ok (.istore_n 0, 1)) (hn : 0 < (Gc G).maxLocals) (k : V wf Z G cs (pc + 1) (some (.int v) :: rest) st x) : V wf Z G cs pc (ol :: rest) (.int v :: st) x := fun H locs ls hl hP hD hS => lv_istore_n C.exec C.bytes d rfl hl.has hn rfl (fun ls' h' => k H locs ls' (hl.set rfl h') hP hD hS)
theorem V_iload1 (C : CX wf Z Ev G cc ow dep ret Pq csF) {pc : Nat} {o0 : Option Value} {rest : List (Option Value)} {v : Int32} (d : decode cc pc = .ok (.iload_n 1, 1)) (k : V wf Z G cs (pc + 1) (o0 :: some (.int v) :: rest) (.int v :: st) x) : V wf Z G cs pc (o0 :: some (.int v) :: rest) st x := fun H locs ls hl hP hD hS => lv_iload_n C.exec C.bytes d rfl (hl.get 1 rfl) (k H locs ls hl hP hD hS)
theorem V_aload1 (C : CX wf Z Ev G cc ow dep ret Pq csF) {pc : Nat} {o0 : Option Value} {rest : List (Option Value)} {v : Nat} (d : decode cc pc = .ok (.aload_n 1, 1)) (k : V wf Z G cs (pc + 1) (o0 :: some (.ref v) :: rest) (.ref v :: st) x) : V wf Z G cs pc (o0 :: some (.ref v) :: rest) st x := fun H locs ls hl hP hD hS => lv_aload_n C.exec C.bytes d rfl (hl.get 1 rfl) (k H locs ls hl hP hD hS)
theorem V_istore1 (C : CX wf Z Ev G cc ow dep ret Pq csF) {pc : Nat} {o0 : Option Value} {ol : Option Value} {rest : List (Option Value)} {v : Int32} (d : decode cc pc = .ok (.istore_n 1, 1)) (hn : 1 < (Gc G).maxLocals) (k : V wf Z G cs (pc + 1) (o0 :: some (.int v) :: rest) st x) : V wf Z G cs pc (o0 :: ol :: rest) (.int v :: st) x := fun H locs ls hl hP hD hS => lv_istore_n C.exec C.bytes d rfl hl.has hn rfl (fun ls' h' => k H locs ls' (hl.set rfl h') hP hD hS)
theorem V_iload2 (C : CX wf Z Ev G cc ow dep ret Pq csF) {pc : Nat} {o0 o1 : Option Value} {rest : List (Option Value)} {v : Int32} (d : decode cc pc = .ok (.iload_n 2, 1)) (k : V wf Z G cs (pc + 1) (o0 :: o1 :: some (.int v) :: rest) (.int v :: st) x) : V wf Z G cs pc (o0 :: o1 :: some (.int v) :: rest) st x := fun H locs ls hl hP hD hS => lv_iload_n C.exec C.bytes d rfl (hl.get 2 rfl) (k H locs ls hl hP hD hS)
theorem V_aload2 (C : CX wf Z Ev G cc ow dep ret Pq csF) {pc : Nat} {o0 o1 : Option Value} {rest : List (Option Value)} {v : Nat} (d : decode cc pc = .ok (.aload_n 2, 1)) (k : V wf Z G cs (pc + 1) (o0 :: o1 :: some (.ref v) :: rest) (.ref v :: st) x) : V wf Z G cs pc (o0 :: o1 :: some (.ref v) :: rest) st x := fun H locs ls hl hP hD hS => lv_aload_n C.exec C.bytes d rfl (hl.get 2 rfl) (k H locs ls hl hP hD hS)
theorem V_istore2 (C : CX wf Z Ev G cc ow dep ret Pq csF) {pc : Nat} {o0 o1 : Option Value} {ol : Option Value} {rest : List (Option Value)} {v : Int32} (d : decode cc pc = .ok (.istore_n 2, 1)) (hn : 2 < (Gc G).maxLocals) (k : V wf Z G cs (pc + 1) (o0 :: o1 :: some (.int v) :: rest) st x) : V wf Z G cs pc (o0 :: o1 :: ol :: rest) (.int v :: st) x := fun H locs ls hl hP hD hS => lv_istore_n C.exec C.bytes d rfl hl.has hn rfl (fun ls' h' => k H locs ls' (hl.set rfl h') hP hD hS)
theorem V_iload3 (C : CX wf Z Ev G cc ow dep ret Pq csF) {pc : Nat} {o0 o1 o2 : Option Value} {rest : List (Option Value)} {v : Int32} (d : decode cc pc = .ok (.iload_n 3, 1)) (k : V wf Z G cs (pc + 1) (o0 :: o1 :: o2 :: some (.int v) :: rest) (.int v :: st) x) : V wf Z G cs pc (o0 :: o1 :: o2 :: some (.int v) :: rest) st x := fun H locs ls hl hP hD hS => lv_iload_n C.exec C.bytes d rfl (hl.get 3 rfl) (k H locs ls hl hP hD hS)
theorem V_aload3 (C : CX wf Z Ev G cc ow dep ret Pq csF) {pc : Nat} {o0 o1 o2 : Option Value} {rest : List (Option Value)} {v : Nat} (d : decode cc pc = .ok (.aload_n 3, 1)) (k : V wf Z G cs (pc + 1) (o0 :: o1 :: o2 :: some (.ref v) :: rest) (.ref v :: st) x) : V wf Z G cs pc (o0 :: o1 :: o2 :: some (.ref v) :: rest) st x := fun H locs ls hl hP hD hS => lv_aload_n C.exec C.bytes d rfl (hl.get 3 rfl) (k H locs ls hl hP hD hS)
theorem V_istore3 (C : CX wf Z Ev G cc ow dep ret Pq csF) {pc : Nat} {o0 o1 o2 : Option Value} {ol : Option Value} {rest : List (Option Value)} {v : Int32} (d : decode cc pc = .ok (.istore_n 3, 1)) (hn : 3 < (Gc G).maxLocals) (k : V wf Z G cs (pc + 1) (o0 :: o1 :: o2 :: some (.int v) :: rest) st x) : V wf Z G cs pc (o0 :: o1 :: o2 :: ol :: rest) (.int v :: st) x := fun H locs ls hl hP hD hS => lv_istore_n C.exec C.bytes d rfl hl.has hn rfl (fun ls' h' => k H locs ls' (hl.set rfl h') hP hD hS)
theorem V_iload4 (C : CX wf Z Ev G cc ow dep ret Pq csF) {pc : Nat} {o0 o1 o2 o3 : Option Value} {rest : List (Option Value)} {v : Int32} (d : decode cc pc = .ok (.iload 4, 2)) (k : V wf Z G cs (pc + 2) (o0 :: o1 :: o2 :: o3 :: some (.int v) :: rest) (.int v :: st) x) : V wf Z G cs pc (o0 :: o1 :: o2 :: o3 :: some (.int v) :: rest) st x := fun H locs ls hl hP hD hS => lv_iload C.exec C.bytes d (hl.get 4 rfl) (k H locs ls hl hP hD hS)
theorem V_istore4 (C : CX wf Z Ev G cc ow dep ret Pq csF) {pc : Nat} {o0 o1 o2 o3 : Option Value} {ol : Option Value} {rest : List (Option Value)} {v : Int32} (d : decode cc pc = .ok (.istore 4, 2)) (hn : 4 < (Gc G).maxLocals) (k : V wf Z G cs (pc + 2) (o0 :: o1 :: o2 :: o3 :: some (.int v) :: rest) st x) : V wf Z G cs pc (o0 :: o1 :: o2 :: o3 :: ol :: rest) (.int v :: st) x := fun H locs ls hl hP hD hS => lv_istore C.exec C.bytes d hl.has hn rfl (fun ls' h' => k H locs ls' (hl.set rfl h') hP hD hS)
theorem V_iload5 (C : CX wf Z Ev G cc ow dep ret Pq csF) {pc : Nat} {o0 o1 o2 o3 o4 : Option Value} {rest : List (Option Value)} {v : Int32} (d : decode cc pc = .ok (.iload 5, 2)) (k : V wf Z G cs (pc + 2) (o0 :: o1 :: o2 :: o3 :: o4 :: some (.int v) :: rest) (.int v :: st) x) : V wf Z G cs pc (o0 :: o1 :: o2 :: o3 :: o4 :: some (.int v) :: rest) st x := fun H locs ls hl hP hD hS => lv_iload C.exec C.bytes d (hl.get 5 rfl) (k H locs ls hl hP hD hS)
theorem V_istore5 (C : CX wf Z Ev G cc ow dep ret Pq csF) {pc : Nat} {o0 o1 o2 o3 o4 : Option Value} {ol : Option Value} {rest : List (Option Value)} {v : Int32} (d : decode cc pc = .ok (.istore 5, 2)) (hn : 5 < (Gc G).maxLocals) (k : V wf Z G cs (pc + 2) (o0 :: o1 :: o2 :: o3 :: o4 :: some (.int v) :: rest) st x) : V wf Z G cs pc (o0 :: o1 :: o2 :: o3 :: o4 :: ol :: rest) (.int v :: st) x := fun H locs ls hl hP hD hS => lv_istore C.exec C.bytes d hl.has hn rfl (fun ls' h' => k H locs ls' (hl.set rfl h') hP hD hS)
theorem V_iload6 (C : CX wf Z Ev G cc ow dep ret Pq csF) {pc : Nat} {o0 o1 o2 o3 o4 o5 : Option Value} {rest : List (Option Value)} {v : Int32} (d : decode cc pc = .ok (.iload 6, 2)) (k : V wf Z G cs (pc + 2) (o0 :: o1 :: o2 :: o3 :: o4 :: o5 :: some (.int v) :: rest) (.int v :: st) x) : V wf Z G cs pc (o0 :: o1 :: o2 :: o3 :: o4 :: o5 :: some (.int v) :: rest) st x := fun H locs ls hl hP hD hS => lv_iload C.exec C.bytes d (hl.get 6 rfl) (k H locs ls hl hP hD hS)
theorem V_istore6 (C : CX wf Z Ev G cc ow dep ret Pq csF) {pc : Nat} {o0 o1 o2 o3 o4 o5 : Option Value} {ol : Option Value} {rest : List (Option Value)} {v : Int32} (d : decode cc pc = .ok (.istore 6, 2)) (hn : 6 < (Gc G).maxLocals) (k : V wf Z G cs (pc + 2) (o0 :: o1 :: o2 :: o3 :: o4 :: o5 :: some (.int v) :: rest) st x) : V wf Z G cs pc (o0 :: o1 :: o2 :: o3 :: o4 :: o5 :: ol :: rest) (.int v :: st) x := fun H locs ls hl hP hD hS => lv_istore C.exec C.bytes d hl.has hn rfl (fun ls' h' => k H locs ls' (hl.set rfl h') hP hD hS)
theorem V_iload7 (C : CX wf Z Ev G cc ow dep ret Pq csF) {pc : Nat} {o0 o1 o2 o3 o4 o5 o6 : Option Value} {rest : List (Option Value)} {v : Int32} (d : decode cc pc = .ok (.iload 7, 2)) (k : V wf Z G cs (pc + 2) (o0 :: o1 :: o2 :: o3 :: o4 :: o5 :: o6 :: some (.int v) :: rest) (.int v :: st) x) : V wf Z G cs pc (o0 :: o1 :: o2 :: o3 :: o4 :: o5 :: o6 :: some (.int v) :: rest) st x := fun H locs ls hl hP hD hS => lv_iload C.exec C.bytes d (hl.get 7 rfl) (k H locs ls hl hP hD hS)
theorem V_istore7 (C : CX wf Z Ev G cc ow dep ret Pq csF) {pc : Nat} {o0 o1 o2 o3 o4 o5 o6 : Option Value} {ol : Option Value} {rest : List (Option Value)} {v : Int32} (d : decode cc pc = .ok (.istore 7, 2)) (hn : 7 < (Gc G).maxLocals) (k : V wf Z G cs (pc + 2) (o0 :: o1 :: o2 :: o3 :: o4 :: o5 :: o6 :: some (.int v) :: rest) st x) : V wf Z G cs pc (o0 :: o1 :: o2 :: o3 :: o4 :: o5 :: o6 :: ol :: rest) (.int v :: st) x := fun H locs ls hl hP hD hS => lv_istore C.exec C.bytes d hl.has hn rfl (fun ls' h' => k H locs ls' (hl.set rfl h') hP hD hS)
theorem V_iload8 (C : CX wf Z Ev G cc ow dep ret Pq csF) {pc : Nat} {o0 o1 o2 o3 o4 o5 o6 o7 : Option Value} {rest : List (Option Value)} {v : Int32} (d : decode cc pc = .ok (.iload 8, 2)) (k : V wf Z G cs (pc + 2) (o0 :: o1 :: o2 :: o3 :: o4 :: o5 :: o6 :: o7 :: some (.int v) :: rest) (.int v :: st) x) : V wf Z G cs pc (o0 :: o1 :: o2 :: o3 :: o4 :: o5 :: o6 :: o7 :: some (.int v) :: rest) st x := fun H locs ls hl hP hD hS => lv_iload C.exec C.bytes d (hl.get 8 rfl) (k H locs ls hl hP hD hS)
theorem V_istore8 (C : CX wf Z Ev G cc ow dep ret Pq csF) {pc : Nat} {o0 o1 o2 o3 o4 o5 o6 o7 : Option Value} {ol : Option Value} {rest : List (Option Value)} {v : Int32} (d : decode cc pc = .ok (.istore 8, 2)) (hn : 8 < (Gc G).maxLocals) (k : V wf Z G cs (pc + 2) (o0 :: o1 :: o2 :: o3 :: o4 :: o5 :: o6 :: o7 :: some (.int v) :: rest) st x) : V wf Z G cs pc (o0 :: o1 :: o2 :: o3 :: o4 :: o5 :: o6 :: o7 :: ol :: rest) (.int v :: st) x := fun H locs ls hl hP hD hS => lv_istore C.exec C.bytes d hl.has hn rfl (fun ls' h' => k H locs ls' (hl.set rfl h') hP hD hS)
theorem V_iload9 (C : CX wf Z Ev G cc ow dep ret Pq csF) {pc : Nat} {o0 o1 o2 o3 o4 o5 o6 o7 o8 : Option Value} {rest : List (Option Value)} {v : Int32} (d : decode cc pc = .ok (.iload 9, 2)) (k : V wf Z G cs (pc + 2) (o0 :: o1 :: o2 :: o3 :: o4 :: o5 :: o6 :: o7 :: o8 :: some (.int v) :: rest) (.int v :: st) x) : V wf Z G cs pc (o0 :: o1 :: o2 :: o3 :: o4 :: o5 :: o6 :: o7 :: o8 :: some (.int v) :: rest) st x := fun H locs ls hl hP hD hS => lv_iload C.exec C.bytes d (hl.get 9 rfl) (k H locs ls hl hP hD hS)
theorem V_istore9 (C : CX wf Z Ev G cc ow dep ret Pq csF) {pc : Nat} {o0 o1 o2 o3 o4 o5 o6 o7 o8 : Option Value} {ol : Option Value} {rest : List (Option Value)} {v : Int32} (d : decode cc pc = .ok (.istore 9, 2)) (hn : 9 < (Gc G).maxLocals) (k : V wf Z G cs (pc + 2) (o0 :: o1 :: o2 :: o3 :: o4 :: o5 :: o6 :: o7 :: o8 :: some (.int v) :: rest) st x) : V wf Z G cs pc (o0 :: o1 :: o2 :: o3 :: o4 :: o5 :: o6 :: o7 :: o8 :: ol :: rest) (.int v :: st) x := fun H locs ls hl hP hD hS => lv_istore C.exec C.bytes d hl.has hn rfl (fun ls' h' => k H locs ls' (hl.set rfl h') hP hD hS)
theorem V_iload10 (C : CX wf Z Ev G cc ow dep ret Pq csF) {pc : Nat} {o0 o1 o2 o3 o4 o5 o6 o7 o8 o9 : Option Value} {rest : List (Option Value)} {v : Int32} (d : decode cc pc = .ok (.iload 10, 2)) (k : V wf Z G cs (pc + 2) (o0 :: o1 :: o2 :: o3 :: o4 :: o5 :: o6 :: o7 :: o8 :: o9 :: some (.int v) :: rest) (.int v :: st) x) : V wf Z G cs pc (o0 :: o1 :: o2 :: o3 :: o4 :: o5 :: o6 :: o7 :: o8 :: o9 :: some (.int v) :: rest) st x := fun H locs ls hl hP hD hS => lv_iload C.exec C.bytes d (hl.get 10 rfl) (k H locs ls hl hP hD hS)
theorem V_istore10 (C : CX wf Z Ev G cc ow dep ret Pq csF) {pc : Nat} {o0 o1 o2 o3 o4 o5 o6 o7 o8 o9 : Option Value} {ol : Option Value} {rest : List (Option Value)} {v : Int32} (d : decode cc pc = .ok (.istore 10, 2)) (hn : 10 < (Gc G).maxLocals) (k : V wf Z G cs (pc + 2) (o0 :: o1 :: o2 :: o3 :: o4 :: o5 :: o6 :: o7 :: o8 :: o9 :: some (.int v) :: rest) st x) : V wf Z G cs pc (o0 :: o1 :: o2 :: o3 :: o4 :: o5 :: o6 :: o7 :: o8 :: o9 :: ol :: rest) (.int v :: st) x := fun H locs ls hl hP hD hS => lv_istore C.exec C.bytes d hl.has hn rfl (fun ls' h' => k H locs ls' (hl.set rfl h') hP hD hS)
theorem V_iload11 (C : CX wf Z Ev G cc ow dep ret Pq csF) {pc : Nat} {o0 o1 o2 o3 o4 o5 o6 o7 o8 o9 o10 : Option Value} {rest : List (Option Value)} {v : Int32} (d : decode cc pc = .ok (.iload 11, 2)) (k : V wf Z G cs (pc + 2) (o0 :: o1 :: o2 :: o3 :: o4 :: o5 :: o6 :: o7 :: o8 :: o9 :: o10 :: some (.int v) :: rest) (.int v :: st) x) : V wf Z G cs pc (o0 :: o1 :: o2 :: o3 :: o4 :: o5 :: o6 :: o7 :: o8 :: o9 :: o10 :: some (.int v) :: rest) st x := fun H locs ls hl hP hD hS => lv_iload C.exec C.bytes d (hl.get 11 rfl) (k H locs ls hl hP hD hS)
theorem V_istore11 (C : CX wf Z Ev G cc ow dep ret Pq csF) {pc : Nat} {o0 o1 o2 o3 o4 o5 o6 o7 o8 o9 o10 : Option Value} {ol : Option Value} {rest : List (Option Value)} {v : Int32} (d : decode cc pc = .ok (.istore 11, 2)) (hn : 11 < (Gc G).maxLocals) (k : V wf Z G cs (pc + 2) (o0 :: o1 :: o2 :: o3 :: o4 :: o5 :: o6 :: o7 :: o8 :: o9 :: o10 :: some (.int v) :: rest) st x) : V wf Z G cs pc (o0 :: o1 :: o2 :: o3 :: o4 :: o5 :: o6 :: o7 :: o8 :: o9 :: o10 :: ol :: rest) (.int v :: st) x := fun H locs ls hl hP hD hS => lv_istore C.exec C.bytes d hl.has hn rfl (fun ls' h' => k H locs ls' (hl.set rfl h') hP hD hS)
theorem lva_at {lv : List (Option Value)} {i : Nat} {v : Value} (h : lv[i]? = some (some v)) : ∃ k : Nat, (lva lv)[k]? = some (i, v) := by
  obtain ⟨k, hk⟩ := List.getElem?_of_mem (lva_mem h)
  exact ⟨k, hk⟩
theorem V_iinc0 (C : CX wf Z Ev G cc ow dep ret Pq csF) {pc : Nat} {rest : List (Option Value)} {v : Int32} {n : Int} {c1 : Int32} (d : decode cc pc = .ok (.iinc 0 n, 3)) (hv : Int32.ofInt n = c1) (hn : 0 < (Gc G).maxLocals) (kk : V wf Z G cs (pc + 3) (some (.int (v + c1)) :: rest) st x) : V wf Z G cs pc (some (.int v) :: rest) st x := fun H locs ls hl hP hD hS => by
  obtain ⟨j, hj⟩ := lva_at (lv := some (.int v) :: rest) (i := 0) (v := .int v) rfl
  exact lv_iinc C.exec C.bytes d hl.has hj (by rw [hv]) hn rfl (fun ls' h' => kk H locs ls' (hl.set rfl h') hP hD hS)
theorem V_iinc1 (C : CX wf Z Ev G cc ow dep ret Pq csF) {pc : Nat} {o0 : Option Value} {rest : List (Option Value)} {v : Int32} {n : Int} {c1 : Int32} (d : decode cc pc = .ok (.iinc 1 n, 3)) (hv : Int32.ofInt n = c1) (hn : 1 < (Gc G).maxLocals) (kk : V wf Z G cs (pc + 3) (o0 :: some (.int (v + c1)) :: rest) st x) : V wf Z G cs pc (o0 :: some (.int v) :: rest) st x := fun H locs ls hl hP hD hS => by
  obtain ⟨j, hj⟩ := lva_at (lv := o0 :: some (.int v) :: rest) (i := 1) (v := .int v) rfl
  exact lv_iinc C.exec C.bytes d hl.has hj (by rw [hv]) hn rfl (fun ls' h' => kk H locs ls' (hl.set rfl h') hP hD hS)
theorem V_iinc2 (C : CX wf Z Ev G cc ow dep ret Pq csF) {pc : Nat} {o0 o1 : Option Value} {rest : List (Option Value)} {v : Int32} {n : Int} {c1 : Int32} (d : decode cc pc = .ok (.iinc 2 n, 3)) (hv : Int32.ofInt n = c1) (hn : 2 < (Gc G).maxLocals) (kk : V wf Z G cs (pc + 3) (o0 :: o1 :: some (.int (v + c1)) :: rest) st x) : V wf Z G cs pc (o0 :: o1 :: some (.int v) :: rest) st x := fun H locs ls hl hP hD hS => by
  obtain ⟨j, hj⟩ := lva_at (lv := o0 :: o1 :: some (.int v) :: rest) (i := 2) (v := .int v) rfl
  exact lv_iinc C.exec C.bytes d hl.has hj (by rw [hv]) hn rfl (fun ls' h' => kk H locs ls' (hl.set rfl h') hP hD hS)
theorem V_iinc3 (C : CX wf Z Ev G cc ow dep ret Pq csF) {pc : Nat} {o0 o1 o2 : Option Value} {rest : List (Option Value)} {v : Int32} {n : Int} {c1 : Int32} (d : decode cc pc = .ok (.iinc 3 n, 3)) (hv : Int32.ofInt n = c1) (hn : 3 < (Gc G).maxLocals) (kk : V wf Z G cs (pc + 3) (o0 :: o1 :: o2 :: some (.int (v + c1)) :: rest) st x) : V wf Z G cs pc (o0 :: o1 :: o2 :: some (.int v) :: rest) st x := fun H locs ls hl hP hD hS => by
  obtain ⟨j, hj⟩ := lva_at (lv := o0 :: o1 :: o2 :: some (.int v) :: rest) (i := 3) (v := .int v) rfl
  exact lv_iinc C.exec C.bytes d hl.has hj (by rw [hv]) hn rfl (fun ls' h' => kk H locs ls' (hl.set rfl h') hP hD hS)
theorem V_iinc4 (C : CX wf Z Ev G cc ow dep ret Pq csF) {pc : Nat} {o0 o1 o2 o3 : Option Value} {rest : List (Option Value)} {v : Int32} {n : Int} {c1 : Int32} (d : decode cc pc = .ok (.iinc 4 n, 3)) (hv : Int32.ofInt n = c1) (hn : 4 < (Gc G).maxLocals) (kk : V wf Z G cs (pc + 3) (o0 :: o1 :: o2 :: o3 :: some (.int (v + c1)) :: rest) st x) : V wf Z G cs pc (o0 :: o1 :: o2 :: o3 :: some (.int v) :: rest) st x := fun H locs ls hl hP hD hS => by
  obtain ⟨j, hj⟩ := lva_at (lv := o0 :: o1 :: o2 :: o3 :: some (.int v) :: rest) (i := 4) (v := .int v) rfl
  exact lv_iinc C.exec C.bytes d hl.has hj (by rw [hv]) hn rfl (fun ls' h' => kk H locs ls' (hl.set rfl h') hP hD hS)
theorem V_iinc5 (C : CX wf Z Ev G cc ow dep ret Pq csF) {pc : Nat} {o0 o1 o2 o3 o4 : Option Value} {rest : List (Option Value)} {v : Int32} {n : Int} {c1 : Int32} (d : decode cc pc = .ok (.iinc 5 n, 3)) (hv : Int32.ofInt n = c1) (hn : 5 < (Gc G).maxLocals) (kk : V wf Z G cs (pc + 3) (o0 :: o1 :: o2 :: o3 :: o4 :: some (.int (v + c1)) :: rest) st x) : V wf Z G cs pc (o0 :: o1 :: o2 :: o3 :: o4 :: some (.int v) :: rest) st x := fun H locs ls hl hP hD hS => by
  obtain ⟨j, hj⟩ := lva_at (lv := o0 :: o1 :: o2 :: o3 :: o4 :: some (.int v) :: rest) (i := 5) (v := .int v) rfl
  exact lv_iinc C.exec C.bytes d hl.has hj (by rw [hv]) hn rfl (fun ls' h' => kk H locs ls' (hl.set rfl h') hP hD hS)
theorem V_iinc6 (C : CX wf Z Ev G cc ow dep ret Pq csF) {pc : Nat} {o0 o1 o2 o3 o4 o5 : Option Value} {rest : List (Option Value)} {v : Int32} {n : Int} {c1 : Int32} (d : decode cc pc = .ok (.iinc 6 n, 3)) (hv : Int32.ofInt n = c1) (hn : 6 < (Gc G).maxLocals) (kk : V wf Z G cs (pc + 3) (o0 :: o1 :: o2 :: o3 :: o4 :: o5 :: some (.int (v + c1)) :: rest) st x) : V wf Z G cs pc (o0 :: o1 :: o2 :: o3 :: o4 :: o5 :: some (.int v) :: rest) st x := fun H locs ls hl hP hD hS => by
  obtain ⟨j, hj⟩ := lva_at (lv := o0 :: o1 :: o2 :: o3 :: o4 :: o5 :: some (.int v) :: rest) (i := 6) (v := .int v) rfl
  exact lv_iinc C.exec C.bytes d hl.has hj (by rw [hv]) hn rfl (fun ls' h' => kk H locs ls' (hl.set rfl h') hP hD hS)
theorem V_iinc7 (C : CX wf Z Ev G cc ow dep ret Pq csF) {pc : Nat} {o0 o1 o2 o3 o4 o5 o6 : Option Value} {rest : List (Option Value)} {v : Int32} {n : Int} {c1 : Int32} (d : decode cc pc = .ok (.iinc 7 n, 3)) (hv : Int32.ofInt n = c1) (hn : 7 < (Gc G).maxLocals) (kk : V wf Z G cs (pc + 3) (o0 :: o1 :: o2 :: o3 :: o4 :: o5 :: o6 :: some (.int (v + c1)) :: rest) st x) : V wf Z G cs pc (o0 :: o1 :: o2 :: o3 :: o4 :: o5 :: o6 :: some (.int v) :: rest) st x := fun H locs ls hl hP hD hS => by
  obtain ⟨j, hj⟩ := lva_at (lv := o0 :: o1 :: o2 :: o3 :: o4 :: o5 :: o6 :: some (.int v) :: rest) (i := 7) (v := .int v) rfl
  exact lv_iinc C.exec C.bytes d hl.has hj (by rw [hv]) hn rfl (fun ls' h' => kk H locs ls' (hl.set rfl h') hP hD hS)
theorem V_iinc8 (C : CX wf Z Ev G cc ow dep ret Pq csF) {pc : Nat} {o0 o1 o2 o3 o4 o5 o6 o7 : Option Value} {rest : List (Option Value)} {v : Int32} {n : Int} {c1 : Int32} (d : decode cc pc = .ok (.iinc 8 n, 3)) (hv : Int32.ofInt n = c1) (hn : 8 < (Gc G).maxLocals) (kk : V wf Z G cs (pc + 3) (o0 :: o1 :: o2 :: o3 :: o4 :: o5 :: o6 :: o7 :: some (.int (v + c1)) :: rest) st x) : V wf Z G cs pc (o0 :: o1 :: o2 :: o3 :: o4 :: o5 :: o6 :: o7 :: some (.int v) :: rest) st x := fun H locs ls hl hP hD hS => by
  obtain ⟨j, hj⟩ := lva_at (lv := o0 :: o1 :: o2 :: o3 :: o4 :: o5 :: o6 :: o7 :: some (.int v) :: rest) (i := 8) (v := .int v) rfl
  exact lv_iinc C.exec C.bytes d hl.has hj (by rw [hv]) hn rfl (fun ls' h' => kk H locs ls' (hl.set rfl h') hP hD hS)
theorem V_iinc9 (C : CX wf Z Ev G cc ow dep ret Pq csF) {pc : Nat} {o0 o1 o2 o3 o4 o5 o6 o7 o8 : Option Value} {rest : List (Option Value)} {v : Int32} {n : Int} {c1 : Int32} (d : decode cc pc = .ok (.iinc 9 n, 3)) (hv : Int32.ofInt n = c1) (hn : 9 < (Gc G).maxLocals) (kk : V wf Z G cs (pc + 3) (o0 :: o1 :: o2 :: o3 :: o4 :: o5 :: o6 :: o7 :: o8 :: some (.int (v + c1)) :: rest) st x) : V wf Z G cs pc (o0 :: o1 :: o2 :: o3 :: o4 :: o5 :: o6 :: o7 :: o8 :: some (.int v) :: rest) st x := fun H locs ls hl hP hD hS => by
  obtain ⟨j, hj⟩ := lva_at (lv := o0 :: o1 :: o2 :: o3 :: o4 :: o5 :: o6 :: o7 :: o8 :: some (.int v) :: rest) (i := 9) (v := .int v) rfl
  exact lv_iinc C.exec C.bytes d hl.has hj (by rw [hv]) hn rfl (fun ls' h' => kk H locs ls' (hl.set rfl h') hP hD hS)
theorem V_iinc10 (C : CX wf Z Ev G cc ow dep ret Pq csF) {pc : Nat} {o0 o1 o2 o3 o4 o5 o6 o7 o8 o9 : Option Value} {rest : List (Option Value)} {v : Int32} {n : Int} {c1 : Int32} (d : decode cc pc = .ok (.iinc 10 n, 3)) (hv : Int32.ofInt n = c1) (hn : 10 < (Gc G).maxLocals) (kk : V wf Z G cs (pc + 3) (o0 :: o1 :: o2 :: o3 :: o4 :: o5 :: o6 :: o7 :: o8 :: o9 :: some (.int (v + c1)) :: rest) st x) : V wf Z G cs pc (o0 :: o1 :: o2 :: o3 :: o4 :: o5 :: o6 :: o7 :: o8 :: o9 :: some (.int v) :: rest) st x := fun H locs ls hl hP hD hS => by
  obtain ⟨j, hj⟩ := lva_at (lv := o0 :: o1 :: o2 :: o3 :: o4 :: o5 :: o6 :: o7 :: o8 :: o9 :: some (.int v) :: rest) (i := 10) (v := .int v) rfl
  exact lv_iinc C.exec C.bytes d hl.has hj (by rw [hv]) hn rfl (fun ls' h' => kk H locs ls' (hl.set rfl h') hP hD hS)
theorem V_iinc11 (C : CX wf Z Ev G cc ow dep ret Pq csF) {pc : Nat} {o0 o1 o2 o3 o4 o5 o6 o7 o8 o9 o10 : Option Value} {rest : List (Option Value)} {v : Int32} {n : Int} {c1 : Int32} (d : decode cc pc = .ok (.iinc 11 n, 3)) (hv : Int32.ofInt n = c1) (hn : 11 < (Gc G).maxLocals) (kk : V wf Z G cs (pc + 3) (o0 :: o1 :: o2 :: o3 :: o4 :: o5 :: o6 :: o7 :: o8 :: o9 :: o10 :: some (.int (v + c1)) :: rest) st x) : V wf Z G cs pc (o0 :: o1 :: o2 :: o3 :: o4 :: o5 :: o6 :: o7 :: o8 :: o9 :: o10 :: some (.int v) :: rest) st x := fun H locs ls hl hP hD hS => by
  obtain ⟨j, hj⟩ := lva_at (lv := o0 :: o1 :: o2 :: o3 :: o4 :: o5 :: o6 :: o7 :: o8 :: o9 :: o10 :: some (.int v) :: rest) (i := 11) (v := .int v) rfl
  exact lv_iinc C.exec C.bytes d hl.has hj (by rw [hv]) hn rfl (fun ls' h' => kk H locs ls' (hl.set rfl h') hP hD hS)
theorem V_iret (C : CX wf Z Ev G cc ow dep ret Pq csF) {pc : Nat} {r : Int32} (hret : ret = some .int) (hcs : cs ≤ csF) (d : decode cc pc = .ok (.ireturn, 1)) (hq : Pq (some r) x) : V wf Z G cs pc lv [.int r] x := fun H locs ls hl hP hD hS => W.widen (k := 2 * csF) (n := 81920 * csF) (by omega) (by omega) (C.rt.1 hret pc r x H locs ls d hq hP hD hS)
theorem V_zret (C : CX wf Z Ev G cc ow dep ret Pq csF) {pc : Nat} {r : Int32} (hret : ret = some .boolean) (hcs : cs ≤ csF) (hb : isB r) (d : decode cc pc = .ok (.ireturn, 1)) (hq : Pq (some r) x) : V wf Z G cs pc lv [.int r] x := fun H locs ls hl hP hD hS => W.widen (k := 2 * csF) (n := 81920 * csF) (by omega) (by omega) (C.rt.2.1 hret pc r x H locs ls d hb hq hP hD hS)
theorem V_vret (C : CX wf Z Ev G cc ow dep ret Pq csF) {pc : Nat} (hret : ret = none) (hcs : cs ≤ csF) (d : decode cc pc = .ok (.return_, 1)) (hq : Pq none x) : V wf Z G cs pc lv [] x := fun H locs ls hl hP hD hS => W.widen (k := 2 * csF) (n := 81920 * csF) (by omega) (by omega) (C.rt.2.2 hret pc x H locs ls d hq hP hD hS)
theorem V_get (C : CX wf Z Ev G cc ow dep ret Pq csF) {pc : Nat} (q0 ci : Nat) {a : Nat} {fs : List Value} {Cn : String} {T : u_T} {N : Nat} (he : (wf x)[q0]? = some (a, .inr (ci, fs))) (hc : vwCl[ci]? = some (Cn, T, N)) (hin : ∀ w ∈ u_ws Cn T N, w ∈ ux) (kf : Nat) (hk : kf < N) {idx : Nat} (hl0 : Cond.fieldLink ow idx (T kf).1 (T kf).2.1 (T kf).2.2.1 ∈ ux) {v : Value} (hv : fs[kf]? = some v) (d : decode cc pc = .ok (.getfield idx, 3)) (k : V wf Z G cs (pc + 3) lv (v :: st) x) : V wf Z G cs pc lv (.ref a :: st) x := fun H locs ls hl hP hD hS => va_get C.exec C.bytes C.hts hin C.own C.K hP q0 he hc kf hk (C.hts _ hl0) (fun _ h9 => h9) hv d (k H locs ls hl hP hD hS)
theorem V_put (C : CX wf Z Ev G cc ow dep ret Pq csF) {pc : Nat} (q0 ci : Nat) {a : Nat} {fs : List Value} {Cn : String} {T : u_T} {N : Nat} (he : (wf x)[q0]? = some (a, .inr (ci, fs))) (hc : vwCl[ci]? = some (Cn, T, N)) (hin : ∀ w ∈ u_ws Cn T N, w ∈ ux) (ty0 : Nat → FieldType) (hty : ∀ k, k < N → parseFieldDescriptor (T k).2.2.1 = some (ty0 k)) (hnm : ∀ a, a < N → ∀ b, b < N → a ≠ b → (T a).2.1 ≠ (T b).2.1) (kf : Nat) (hk : kf < N) {idx : Nat} (hl0 : Cond.fieldLink ow idx (T kf).1 (T kf).2.1 (T kf).2.2.1 ∈ ux) (hfin : (T kf).2.2.2 = false) {ty : FieldType} {v : Value} (hd : parseFieldDescriptor (T kf).2.2.1 = some ty) (hn : narrow ty v = v) (hfit : fits ty v = true) (hlen : kf < fs.length) (d : decode cc pc = .ok (.putfield idx, 3)) {x' : X} (hx : (wf x).set q0 (a, .inr (ci, fs.set kf v)) = wf x') (k : V wf Z G cs (pc + 3) lv st x') : V wf Z G cs pc lv (v :: .ref a :: st) x := fun H locs ls hl hP hD hS => va_put C.exec C.bytes C.hts hin ty0 hty hnm C.own C.K hP hD hS q0 he hc kf hk (C.hts _ hl0) (fun _ h9 => h9) hfin hd hn hfit hlen d (fun H1 locs1 hP1 hD1 hS1 => k H1 locs1 ls hl (hx ▸ hP1) (hx ▸ hD1) hS1)
theorem V_iald (C : CX wf Z Ev G cc ow dep ret Pq csF) {pc : Nat} (q0 : Nat) {a n : Nat} {f : Nat → Int32} (he : (wf x)[q0]? = some (a, .inl (ZI Z, n, .inl f))) {i : Int32} (d : decode cc pc = .ok (.iaload, 1)) {fa : Option β} (hf : (if inb i n then fa else none) = some o) (k : fa = some o → V wf Z G cs (pc + 1) lv (.int (f i.toNatClampNeg) :: st) x) : V wf Z G cs pc lv (.int i :: .ref a :: st) x := fun H locs ls hl hP hD hS => va_iald C.exec C.bytes C.K hP q0 0 he rfl (bgd hf).1 d (k (bgd hf).2 H locs ls hl hP hD hS)
theorem V_bald (C : CX wf Z Ev G cc ow dep ret Pq csF) {pc : Nat} (q0 : Nat) {a n : Nat} {f : Nat → Int32} (he : (wf x)[q0]? = some (a, .inl (ZB Z, n, .inl f))) {i : Int32} (d : decode cc pc = .ok (.baload, 1)) {fa : Option β} (hf : (if inb i n then fa else none) = some o) (k : fa = some o → V wf Z G cs (pc + 1) lv (.int (f i.toNatClampNeg) :: st) x) : V wf Z G cs pc lv (.int i :: .ref a :: st) x := fun H locs ls hl hP hD hS => va_bald C.exec C.bytes C.K hP q0 1 he rfl (bgd hf).1 d (k (bgd hf).2 H locs ls hl hP hD hS)
theorem V_zald (C : CX wf Z Ev G cc ow dep ret Pq csF) {pc : Nat} (q0 : Nat) {a n : Nat} {f : Nat → Int32} (he : (wf x)[q0]? = some (a, .inl (ZZ Z, n, .inl f))) {i : Int32} (d : decode cc pc = .ok (.baload, 1)) {fa : Option β} (hf : (if inb i n then fa else none) = some o) (k : fa = some o → V wf Z G cs (pc + 1) lv (.int (f i.toNatClampNeg) :: st) x) : V wf Z G cs pc lv (.int i :: .ref a :: st) x := fun H locs ls hl hP hD hS => va_zald C.exec C.bytes C.K hP q0 2 he rfl (bgd hf).1 d (k (bgd hf).2 H locs ls hl hP hD hS)
theorem V_iast (C : CX wf Z Ev G cc ow dep ret Pq csF) {pc : Nat} (q0 : Nat) {a n : Nat} {f : Nat → Int32} (he : (wf x)[q0]? = some (a, .inl (ZI Z, n, .inl f))) {i v : Int32} (d : decode cc pc = .ok (.iastore, 1)) {fa : Option β} (hf : (if inb i n then fa else none) = some o) {x' : X} (hx : (wf x).set q0 (a, .inl (ZI Z, n, .inl (upd f i.toNatClampNeg v))) = wf x') (k : fa = some o → V wf Z G cs (pc + 1) lv st x') : V wf Z G cs pc lv (.int v :: .int i :: .ref a :: st) x := fun H locs ls hl hP hD hS => va_iast C.exec C.bytes C.K hP hD hS q0 0 he rfl (bgd hf).1 d (fun H1 locs1 hP1 hD1 hS1 => k (bgd hf).2 H1 locs1 ls hl (hx ▸ hP1) (hx ▸ hD1) hS1)
theorem V_bast (C : CX wf Z Ev G cc ow dep ret Pq csF) {pc : Nat} (q0 : Nat) {a n : Nat} {f : Nat → Int32} (he : (wf x)[q0]? = some (a, .inl (ZB Z, n, .inl f))) {i v : Int32} (d : decode cc pc = .ok (.bastore, 1)) {fa : Option β} (hf : (if inb i n then fa else none) = some o) {x' : X} (hx : (wf x).set q0 (a, .inl (ZB Z, n, .inl (upd f i.toNatClampNeg (vp_nar .byte v)))) = wf x') (k : fa = some o → V wf Z G cs (pc + 1) lv st x') : V wf Z G cs pc lv (.int v :: .int i :: .ref a :: st) x := fun H locs ls hl hP hD hS => va_bast C.exec C.bytes C.K hP hD hS q0 1 he rfl (bgd hf).1 d (fun H1 locs1 hP1 hD1 hS1 => k (bgd hf).2 H1 locs1 ls hl (hx ▸ hP1) (hx ▸ hD1) hS1)
theorem V_zast (C : CX wf Z Ev G cc ow dep ret Pq csF) {pc : Nat} (q0 : Nat) {a n : Nat} {f : Nat → Int32} (he : (wf x)[q0]? = some (a, .inl (ZZ Z, n, .inl f))) {i v : Int32} (d : decode cc pc = .ok (.bastore, 1)) {fa : Option β} (hf : (if inb i n then fa else none) = some o) {x' : X} (hx : (wf x).set q0 (a, .inl (ZZ Z, n, .inl (upd f i.toNatClampNeg (vp_nar .boolean v)))) = wf x') (k : fa = some o → V wf Z G cs (pc + 1) lv st x') : V wf Z G cs pc lv (.int v :: .int i :: .ref a :: st) x := fun H locs ls hl hP hD hS => va_zast C.exec C.bytes C.K hP hD hS q0 2 he rfl (bgd hf).1 d (fun H1 locs1 hP1 hD1 hS1 => k (bgd hf).2 H1 locs1 ls hl (hx ▸ hP1) (hx ▸ hD1) hS1)
theorem V_alen (C : CX wf Z Ev G cc ow dep ret Pq csF) {pc : Nat} (q0 t0 : Nat) {a : Nat} {cA : ClassId} {y : vp_A} (he : (wf x)[q0]? = some (a, .inl (cA, y))) {ty : FieldType} (ht : (Zt Z)[t0]? = some (cA, ty)) {v : Int32} (hv : Int32.ofNat y.1 = v) (d : decode cc pc = .ok (.arraylength, 1)) (k : V wf Z G cs (pc + 1) lv (.int v :: st) x) : V wf Z G cs pc lv (.ref a :: st) x := fun H locs ls hl hP hD hS => va_alen C.exec C.bytes C.K hP q0 t0 he ht hv d (k H locs ls hl hP hD hS)
end RW
end
section
/-! calls -/
abbrev Xx : Type := Nat × Nat × Mm
def bd2 {α γ β : Type} (o : Option (α × γ)) (k : α → γ → Option β) : Option β := match o with
  | none => none
  | some (a, b) => k a b
theorem bdd2 {α γ δ : Type} {q : Option (α × γ)} {k : α → γ → Option δ} {u : δ} (hf : bd2 q k = some u) : ∃ a b, q = some (a, b) ∧ k a b = some u := by
  cases q with
  | none => cases hf
  | some a => exact ⟨a.1, a.2, rfl, hf⟩
def PqR {X : Type} (r0 : Int32) (x0 : X) : Option Int32 → X → Prop := fun o x => o = some r0 ∧ x = x0
def PqW (r0 : Int32) (M0 : Mm) : Option Int32 → Xx → Prop := fun o x => o = some r0 ∧ x.2.2 = M0
def PqV (M0 : Mm) : Option Int32 → Xx → Prop := fun o x => o = none ∧ x.2.2 = M0
def FB (E : State → Prop) : Prop := ∀ (U : State) (g : JFrame) (mk : MethodId) (a : Array Value), E U → E (U.calling g mk a)
def Wm (E1 E2 : State → Prop) : Prop := FB E2 ∧ ∀ (s U : State), s.WarmedH U.vm → E1 s → E2 U
def tE : State → Prop := fun _ => True
def nE : State → Prop := fun U => va_Nw (.methodLinkNest "DyeVats$Proof" 46 ⟨"DyeVats", "isRowBit", "(I)Z"⟩ "DyeVats") U
theorem wm_t {E : State → Prop} : Wm E tE := ⟨fun _ _ _ _ _ => trivial, fun _ _ _ _ => trivial⟩
theorem wm_n : Wm nE nE := ⟨fun _ _ _ _ h => va_Nw.same rfl rfl h, fun _ _ hW h => va_Nw.warmM hW h⟩
def LkB (y : MethodName) (bytes : ByteArray) (maxL n : Nat) (rt : Option FieldType) : Prop := Cond.initialized y.cls ∈ ux ∧ Cond.code y bytes maxL rt ∈ ux ∧ (y.cls ≠ "java/lang/invoke/MethodHandle" ∧ y.cls ≠ "java/lang/invoke/VarHandle" ∧ (parseMethodDescriptor y.desc).map (fun d => d.parameters.length) = some n) ∧ maxL ≤ 21
def LkV (ow : String) (idx : Nat) (y : MethodName) : Prop := Cond.methodLink ow idx y ∈ ux ∧ Cond.instanceMethod y ∈ ux ∧ Cond.selects y.cls y y ∈ ux
def LkS (ow : String) (idx : Nat) (y : MethodName) : Prop := Cond.methodLink ow idx y ∈ ux ∧ Cond.static y ∈ ux
section CL
variable {X X2 : Type} {wf : X → va_W} {wf2 : X2 → va_W} {Z : Zz} {Ev E2 : State → Prop} {G : Gm} {cc : ByteArray} {ow : String} {dep : Nat} {ret : Option FieldType} {Pq : Option Int32 → X → Prop} {csF cs : Nat} {x : X} {st0 rest : List Value} {lv : List (Option Value)}
variable {β : Type} {o : β}
variable {y : MethodName} {bytes : ByteArray} {maxL n dep2 cs2 idx b : Nat} {rt : Option FieldType} {As : List Value} {x2 : X2} {Pq2 : Option Int32 → X2 → Prop}
theorem CX.callB (C : CX wf Z Ev G cc ow dep ret Pq csF) (lb : LkB y bytes maxL n rt) (hl : Cond.methodLink ow idx y ∈ ux) (hd : dep2 + 1 ≤ dep) : CallB (GR G) (Gs G) (Ga G) ow idx y bytes maxL rt (Cond.code y bytes maxL rt :: ux) { frames := dep2, cells := 2 * cs2, slots := 81920 * cs2, locals := 40 * dep2 } (2 * cs2) (81920 * cs2) n := by
  obtain ⟨h1, h2, h3, h4⟩ := lb
  refine callB_of n C.hts (ux_good h2) rfl rfl rfl (C.hts _ h1) (C.hts _ hl) h3 ⟨?_, ?_⟩
  · rw [C.R]; exact hd
  · rw [C.R]; show 8 + (maxL + 11) + 40 * dep2 ≤ 40 * dep; omega
theorem CX.free (C : CX wf Z Ev G cc ow dep ret Pq csF) {H : Heap} {locs : List Loc} (hD : va_D (GA G) (wf x)) (hS : va_S (GA G) (Gs G).heap H locs) : ∀ q, va_A (wf x) H.size q → GA G q := by
  intro q h
  rcases h with ⟨k, e, h⟩ | h
  · exact hD.2 k _ h
  · exact C.A q (Nat.le_trans hS.1 h)
theorem Pre0.blind (hE : FB E2) {av : List Value} {sz : Nat} : FrameBlind (Pre0 wf2 Z E2 av x2 sz) := fun a U g mk q => by
  obtain ⟨q0, q1, qP, qK, qD, qE⟩ := q
  exact ⟨q0, q1, qP, va_K.moved (u := U) (U := U.calling g mk a) (Vm.Alike.refl U.vm) qK, qD, hE U g mk a qE⟩
theorem CX.pre (C : CX wf Z Ev G cc ow dep ret Pq csF) (hw : Wm Ev E2) (h2 : wf2 x2 = wf x) {av : List Value} {H : Heap} (hP : va_P (ZD Z) vwCl (wf x) H) (hD : va_D (GA G) (wf x)) : ∀ U : State, U.heap = H → (Gs G).WarmedH U.vm → Pre0 wf2 Z E2 av x2 H.size av.toArray U := fun U hU hW => ⟨rfl, by rw [hU], by rw [hU, h2]; exact hP, va_K.moved hW.alike C.K, by rw [h2]; exact hD.weaken (fun _ _ _ _ => trivial), hw.2 _ U hW C.E⟩
theorem CX.fit (C : CX wf Z Ev G cc ow dep ret Pq csF) (hcs : cs + cs2 ≤ csF) : 2 * cs + 2 * cs2 ≤ (GR G).cells ∧ 81920 * cs + 81920 * cs2 ≤ (GR G).slots := by
  rw [C.R]
  show 2 * cs + 2 * cs2 ≤ 2 * csF ∧ 81920 * cs + 81920 * cs2 ≤ 81920 * csF
  omega
theorem V_backI (C : CX wf Z Ev G cc ow dep ret Pq csF) {pc : Nat} (h2 : wf2 x2 = wf x) {H : Heap} {locs : List Loc} {ls : Array Slot} {av : Array Value} (hl : lvh ls (Gc G).maxLocals lv) (hD : va_D (GA G) (wf x)) (hS : va_S (GA G) (Gs G).heap H locs)
    (hr : va_Run (Gp G) (Zl Z) (Ge G) (GR G) (Gs G) (Gi G) (Ga G) (Gb G) (Gme G) (Gc G) H locs (2 * cs) (81920 * cs) (2 * cs2) (81920 * cs2) (F0 (Gi G) pc ls st0) rest (va_Qi (fun r x => Pq2 (some r) x) (Bt wf2 Z x2 H.size) (va_A (wf2 x2) H.size) av) (va_A (wf2 x2) H.size))
    (k : ∀ (r : Int32) (x2' : X2), Pq2 (some r) x2' → ∃ x' : X, wf2 x2' = wf x' ∧ V wf Z G (cs + cs2) (pc + 3) lv (.int r :: rest) x') : W (Gp G) (Zl Z) (Ge G) (GR G) (Gs G) (Gi G) (Ga G) (Gb G) (Gme G) (Gc G) H locs (2 * cs) (81920 * cs) (GQ G) (F0 (Gi G) pc ls st0) := by
  have hFc := C.free hD hS
  rw [h2] at hr
  refine va_calli hr hS (fun q _ h => hFc q h) hFc (fun r u t H1 locs1 ht hvm hw hB hz1 hk1 hS1 => ?_)
  obtain ⟨hP1, hK1, hD1⟩ := hB
  rw [ht] at hP1
  obtain ⟨x', hx', hV⟩ := k r u hw
  rw [hx'] at hP1 hD1
  rw [h2] at hD1
  have e1 : 2 * cs + 2 * cs2 = 2 * (cs + cs2) := by omega
  have e2 : 81920 * cs + 81920 * cs2 = 81920 * (cs + cs2) := by omega
  rw [e1, e2]
  exact hV H1 locs1 ls hl hP1 (hD1.weaken (fun k q _ h => hFc q.1 h)) hS1
theorem V_backV (C : CX wf Z Ev G cc ow dep ret Pq csF) {pc : Nat} (h2 : wf2 x2 = wf x) {H : Heap} {locs : List Loc} {ls : Array Slot} {av : Array Value} (hl : lvh ls (Gc G).maxLocals lv) (hD : va_D (GA G) (wf x)) (hS : va_S (GA G) (Gs G).heap H locs)
    (hr : va_Run (Gp G) (Zl Z) (Ge G) (GR G) (Gs G) (Gi G) (Ga G) (Gb G) (Gme G) (Gc G) H locs (2 * cs) (81920 * cs) (2 * cs2) (81920 * cs2) (F0 (Gi G) pc ls st0) rest (va_Qv (fun x => Pq2 none x) (Bt wf2 Z x2 H.size) (va_A (wf2 x2) H.size) av) (va_A (wf2 x2) H.size))
    (k : ∀ (x2' : X2), Pq2 none x2' → ∃ x' : X, wf2 x2' = wf x' ∧ V wf Z G (cs + cs2) (pc + 3) lv rest x') : W (Gp G) (Zl Z) (Ge G) (GR G) (Gs G) (Gi G) (Ga G) (Gb G) (Gme G) (Gc G) H locs (2 * cs) (81920 * cs) (GQ G) (F0 (Gi G) pc ls st0) := by
  have hFc := C.free hD hS
  rw [h2] at hr
  refine va_callv hr hS (fun q _ h => hFc q h) hFc (fun u t H1 locs1 ht hvm hw hB hz1 hk1 hS1 => ?_)
  obtain ⟨hP1, hK1, hD1⟩ := hB
  rw [ht] at hP1
  obtain ⟨x', hx', hV⟩ := k u hw
  rw [hx'] at hP1 hD1
  rw [h2] at hD1
  have e1 : 2 * cs + 2 * cs2 = 2 * (cs + cs2) := by omega
  have e2 : 81920 * cs + 81920 * cs2 = 81920 * (cs + cs2) := by omega
  rw [e1, e2]
  exact hV H1 locs1 ls hl hP1 (hD1.weaken (fun k q _ h => hFc q.1 h)) hS1
/-- an instance method with an answer -/
theorem V_callVI (C : CX wf Z Ev G cc ow dep ret Pq csF) {pc : Nat} (hM : CtI wf2 Z E2 y bytes maxL rt dep2 cs2 (.ref b :: As) x2 Pq2) (lb : LkB y bytes maxL n rt) (lk : LkV ow idx y) (hw : Wm Ev E2) (h2 : wf2 x2 = wf x) (hd : dep2 + 1 ≤ dep) (hcs : cs + cs2 ≤ csF) (q0 ci : Nat) {fs : List Value} {T : u_T} {N : Nat} (he : (wf x)[q0]? = some (b, .inr (ci, fs))) (hc : vwCl[ci]? = some (y.cls, T, N)) (hn : As.length = n) (hst : st0 = As.reverse ++ .ref b :: rest) (hr : (rest.map fun v => v.category).sum ≤ 8) (d : decode cc pc = .ok (.invokevirtual idx, 3))
    (k : ∀ (r : Int32) (x2' : X2), Pq2 (some r) x2' → ∃ x' : X, wf2 x2' = wf x' ∧ V wf Z G (cs + cs2) (pc + 3) lv (.int r :: rest) x') : V wf Z G cs pc lv st0 x := fun H locs ls hl hP hD hS => by
  subst hst
  exact V_backI C h2 hl hD hS (va_runV (As := As) (rest := rest) (b := b) ⟨C.exec, C.bytes, rfl, C.own, C.hts⟩ (hM H.size) ⟨C.callB lb lk.1 hd, C.hts _ lk.2.1, C.hts _ lk.2.2⟩ ⟨Pre0.blind hw.1, va_recv C.K hP hc he, C.pre hw h2 hP hD⟩ rfl hn hl.1 rfl (lv_room hr) d (C.fit hcs)) k
theorem V_callVV (C : CX wf Z Ev G cc ow dep ret Pq csF) {pc : Nat} (hM : CtV wf2 Z E2 y bytes maxL dep2 cs2 (.ref b :: As) x2 Pq2) (lb : LkB y bytes maxL n none) (lk : LkV ow idx y) (hw : Wm Ev E2) (h2 : wf2 x2 = wf x) (hd : dep2 + 1 ≤ dep) (hcs : cs + cs2 ≤ csF) (q0 ci : Nat) {fs : List Value} {T : u_T} {N : Nat} (he : (wf x)[q0]? = some (b, .inr (ci, fs))) (hc : vwCl[ci]? = some (y.cls, T, N)) (hn : As.length = n) (hst : st0 = As.reverse ++ .ref b :: rest) (hr : (rest.map fun v => v.category).sum ≤ 8) (d : decode cc pc = .ok (.invokevirtual idx, 3))
    (k : ∀ (x2' : X2), Pq2 none x2' → ∃ x' : X, wf2 x2' = wf x' ∧ V wf Z G (cs + cs2) (pc + 3) lv rest x') : V wf Z G cs pc lv st0 x := fun H locs ls hl hP hD hS => by
  subst hst
  exact V_backV C h2 hl hD hS (va_runV (As := As) (rest := rest) (b := b) ⟨C.exec, C.bytes, rfl, C.own, C.hts⟩ (hM H.size) ⟨C.callB lb lk.1 hd, C.hts _ lk.2.1, C.hts _ lk.2.2⟩ ⟨Pre0.blind hw.1, va_recv C.K hP hc he, C.pre hw h2 hP hD⟩ rfl hn hl.1 rfl (lv_room hr) d (C.fit hcs)) k
/-- a static method -/
theorem V_callSI (C : CX wf Z Ev G cc ow dep ret Pq csF) {pc : Nat} (hM : CtI wf2 Z E2 y bytes maxL rt dep2 cs2 As x2 Pq2) (lb : LkB y bytes maxL n rt) (lk : LkS ow idx y) (hw : Wm Ev E2) (h2 : wf2 x2 = wf x) (hd : dep2 + 1 ≤ dep) (hcs : cs + cs2 ≤ csF) (hn : As.length = n) (hst : st0 = As.reverse ++ rest) (hr : (rest.map fun v => v.category).sum ≤ 8) (d : decode cc pc = .ok (.invokestatic idx, 3))
    (k : ∀ (r : Int32) (x2' : X2), Pq2 (some r) x2' → ∃ x' : X, wf2 x2' = wf x' ∧ V wf Z G (cs + cs2) (pc + 3) lv (.int r :: rest) x') : V wf Z G cs pc lv st0 x := fun H locs ls hl hP hD hS => by
  subst hst
  exact V_backI C h2 hl hD hS (va_runS (As := As) (rest := rest) ⟨C.exec, C.bytes, rfl, C.own, C.hts⟩ (hM H.size) ⟨C.callB lb lk.1 hd, C.hts _ lk.2⟩ ⟨Pre0.blind hw.1, C.pre hw h2 hP hD⟩ rfl hn hl.1 rfl (lv_room hr) d (C.fit hcs)) k
theorem V_callSV (C : CX wf Z Ev G cc ow dep ret Pq csF) {pc : Nat} (hM : CtV wf2 Z E2 y bytes maxL dep2 cs2 As x2 Pq2) (lb : LkB y bytes maxL n none) (lk : LkS ow idx y) (hw : Wm Ev E2) (h2 : wf2 x2 = wf x) (hd : dep2 + 1 ≤ dep) (hcs : cs + cs2 ≤ csF) (hn : As.length = n) (hst : st0 = As.reverse ++ rest) (hr : (rest.map fun v => v.category).sum ≤ 8) (d : decode cc pc = .ok (.invokestatic idx, 3))
    (k : ∀ (x2' : X2), Pq2 none x2' → ∃ x' : X, wf2 x2' = wf x' ∧ V wf Z G (cs + cs2) (pc + 3) lv rest x') : V wf Z G cs pc lv st0 x := fun H locs ls hl hP hD hS => by
  subst hst
  exact V_backV C h2 hl hD hS (va_runS (As := As) (rest := rest) ⟨C.exec, C.bytes, rfl, C.own, C.hts⟩ (hM H.size) ⟨C.callB lb lk.1 hd, C.hts _ lk.2⟩ ⟨Pre0.blind hw.1, C.pre hw h2 hP hD⟩ rfl hn hl.1 rfl (lv_room hr) d (C.fit hcs)) k
/-- a nest mate's static method -/
theorem V_callSNI (C : CX wf Z Ev G cc ow dep ret Pq csF) {pc : Nat} {host : String} (hM : CtI wf2 Z E2 y bytes maxL rt dep2 cs2 As x2 Pq2) (lb : LkB y bytes maxL n rt) (hl0 : va_Nw (.methodLinkNest ow idx y host) (Gs G)) (lk : Cond.static y ∈ ux) (hw : Wm Ev E2) (h2 : wf2 x2 = wf x) (hd : dep2 + 1 ≤ dep) (hcs : cs + cs2 ≤ csF) (hn : As.length = n) (hst : st0 = As.reverse ++ rest) (hr : (rest.map fun v => v.category).sum ≤ 8) (d : decode cc pc = .ok (.invokestatic idx, 3))
    (k : ∀ (r : Int32) (x2' : X2), Pq2 (some r) x2' → ∃ x' : X, wf2 x2' = wf x' ∧ V wf Z G (cs + cs2) (pc + 3) lv (.int r :: rest) x') : V wf Z G cs pc lv st0 x := fun H locs ls hl hP hD hS => by
  subst hst
  obtain ⟨b1, b2, b3, b4⟩ := lb
  exact V_backI C h2 hl hD hS (va_runSN (As := As) (rest := rest) ⟨C.exec, C.bytes, rfl, C.own, C.hts⟩ (hM H.size) ⟨va_cnB n C.hts (ux_good b2) rfl rfl rfl hl0 (C.hts _ b1) b3 ⟨by rw [C.R]; exact hd, by rw [C.R]; show 8 + (maxL + 11) + 40 * dep2 ≤ 40 * dep; omega⟩, C.hts _ lk, trivial⟩ ⟨Pre0.blind hw.1, C.pre hw h2 hP hD⟩ rfl hn hl.1 rfl (lv_room hr) d (C.fit hcs)) k
end CL
/-! calls within one world, by what the callee's function gives -/
section CF
variable {wf : Xx → va_W} {Z : Zz} {Ev E2 : State → Prop} {G : Gm} {cc : ByteArray} {ow : String} {dep : Nat} {ret : Option FieldType} {Pq : Option Int32 → Xx → Prop} {csF cs : Nat} {c1 c2 : Nat} {M : Mm} {st0 rest : List Value} {lv : List (Option Value)}
variable {β : Type} {o : β}
variable {y : MethodName} {bytes : ByteArray} {maxL n dep2 idx b : Nat} {rt : Option FieldType} {As : List Value}
theorem V_cR (C : CX wf Z Ev G cc ow dep ret Pq csF) {pc : Nat} {q : Option Int32} {kf : Int32 → Option β} (hM : ∀ r0, q = some r0 → CtI wf Z E2 y bytes maxL rt dep2 0 (.ref b :: As) (c1, c2, M) (PqR r0 (c1, c2, M))) (lb : LkB y bytes maxL n rt) (lk : LkV ow idx y) (hw : Wm Ev E2) (hd : dep2 + 1 ≤ dep) (hcs : cs ≤ csF) (q0 ci : Nat) {fs : List Value} {T : u_T} {N : Nat} (he : (wf (c1, c2, M))[q0]? = some (b, .inr (ci, fs))) (hc : vwCl[ci]? = some (y.cls, T, N)) (hn : As.length = n) (hst : st0 = As.reverse ++ .ref b :: rest) (hr : (rest.map fun v => v.category).sum ≤ 8) (d : decode cc pc = .ok (.invokevirtual idx, 3)) (hf : bd q kf = some o)
    (k : ∀ r, kf r = some o → V wf Z G cs (pc + 3) lv (.int r :: rest) (c1, c2, M)) : V wf Z G cs pc lv st0 (c1, c2, M) := by
  obtain ⟨r0, h0, h1⟩ := bdd hf
  refine V_callVI C (hM r0 h0) lb lk hw rfl hd hcs q0 ci he hc hn hst hr d (fun r x' h => ?_)
  obtain ⟨e1, e2⟩ := h
  cases e1
  subst e2
  exact ⟨_, rfl, k r0 h1⟩
theorem V_cW (C : CX wf Z Ev G cc ow dep ret Pq csF) {pc : Nat} {q : Option (Int32 × Mm)} {kf : Int32 → Mm → Option β} (hM : ∀ r0 M0, q = some (r0, M0) → CtI wf Z E2 y bytes maxL rt dep2 0 (.ref b :: As) (c1, c2, M) (PqW r0 M0)) (lb : LkB y bytes maxL n rt) (lk : LkV ow idx y) (hw : Wm Ev E2) (hd : dep2 + 1 ≤ dep) (hcs : cs ≤ csF) (q0 ci : Nat) {fs : List Value} {T : u_T} {N : Nat} (he : (wf (c1, c2, M))[q0]? = some (b, .inr (ci, fs))) (hc : vwCl[ci]? = some (y.cls, T, N)) (hn : As.length = n) (hst : st0 = As.reverse ++ .ref b :: rest) (hr : (rest.map fun v => v.category).sum ≤ 8) (d : decode cc pc = .ok (.invokevirtual idx, 3)) (hf : bd2 q kf = some o)
    (k : ∀ r d1 d2 M', kf r M' = some o → V wf Z G cs (pc + 3) lv (.int r :: rest) (d1, d2, M')) : V wf Z G cs pc lv st0 (c1, c2, M) := by
  obtain ⟨r0, M0, h0, h1⟩ := bdd2 hf
  refine V_callVI C (hM r0 M0 h0) lb lk hw rfl hd hcs q0 ci he hc hn hst hr d (fun r x' h => ?_)
  obtain ⟨d1, d2, M'⟩ := x'
  obtain ⟨e1, e2⟩ := h
  cases e1
  cases e2
  exact ⟨_, rfl, k _ _ _ _ h1⟩
theorem V_cV (C : CX wf Z Ev G cc ow dep ret Pq csF) {pc : Nat} {q : Option Mm} {kf : Mm → Option β} (hM : ∀ M0, q = some M0 → CtV wf Z E2 y bytes maxL dep2 0 (.ref b :: As) (c1, c2, M) (PqV M0)) (lb : LkB y bytes maxL n none) (lk : LkV ow idx y) (hw : Wm Ev E2) (hd : dep2 + 1 ≤ dep) (hcs : cs ≤ csF) (q0 ci : Nat) {fs : List Value} {T : u_T} {N : Nat} (he : (wf (c1, c2, M))[q0]? = some (b, .inr (ci, fs))) (hc : vwCl[ci]? = some (y.cls, T, N)) (hn : As.length = n) (hst : st0 = As.reverse ++ .ref b :: rest) (hr : (rest.map fun v => v.category).sum ≤ 8) (d : decode cc pc = .ok (.invokevirtual idx, 3)) (hf : bd q kf = some o)
    (k : ∀ d1 d2 M', kf M' = some o → V wf Z G cs (pc + 3) lv rest (d1, d2, M')) : V wf Z G cs pc lv st0 (c1, c2, M) := by
  obtain ⟨M0, h0, h1⟩ := bdd hf
  refine V_callVV C (hM M0 h0) lb lk hw rfl hd hcs q0 ci he hc hn hst hr d (fun x' h => ?_)
  obtain ⟨d1, d2, M'⟩ := x'
  obtain ⟨e1, e2⟩ := h
  cases e2
  exact ⟨_, rfl, k _ _ _ h1⟩
/-- static ones, which know no world -/
theorem V_cS (C : CX wf Z Ev G cc ow dep ret Pq csF) {pc : Nat} {q : Option Int32} {kf : Int32 → Option β} (hM : ∀ r0, q = some r0 → CtI (fun _ : Unit => wf (c1, c2, M)) Z tE y bytes maxL rt dep2 0 As () (PqR r0 ())) (lb : LkB y bytes maxL n rt) (lk : LkS ow idx y) (hd : dep2 + 1 ≤ dep) (hcs : cs ≤ csF) (hn : As.length = n) (hst : st0 = As.reverse ++ rest) (hr : (rest.map fun v => v.category).sum ≤ 8) (d : decode cc pc = .ok (.invokestatic idx, 3)) (hf : bd q kf = some o)
    (k : ∀ r, kf r = some o → V wf Z G cs (pc + 3) lv (.int r :: rest) (c1, c2, M)) : V wf Z G cs pc lv st0 (c1, c2, M) := by
  obtain ⟨r0, h0, h1⟩ := bdd hf
  refine V_callSI C (hM r0 h0) lb lk wm_t rfl hd hcs hn hst hr d (fun r x' h => ?_)
  obtain ⟨e1, e2⟩ := h
  cases e1
  exact ⟨_, rfl, k r0 h1⟩
theorem V_cSN (C : CX wf Z nE G cc "DyeVats$Proof" dep ret Pq csF) {pc : Nat} {q : Option Int32} {kf : Int32 → Option β} (hM : ∀ r0, q = some r0 → CtI (fun _ : Unit => wf (c1, c2, M)) Z tE ⟨"DyeVats", "isRowBit", "(I)Z"⟩ bytes maxL rt dep2 0 As () (PqR r0 ())) (lb : LkB ⟨"DyeVats", "isRowBit", "(I)Z"⟩ bytes maxL n rt) (lk : Cond.static ⟨"DyeVats", "isRowBit", "(I)Z"⟩ ∈ ux) (hd : dep2 + 1 ≤ dep) (hcs : cs ≤ csF) (hn : As.length = n) (hst : st0 = As.reverse ++ rest) (hr : (rest.map fun v => v.category).sum ≤ 8) (d : decode cc pc = .ok (.invokestatic 46, 3)) (hf : bd q kf = some o)
    (k : ∀ r, kf r = some o → V wf Z G cs (pc + 3) lv (.int r :: rest) (c1, c2, M)) : V wf Z G cs pc lv st0 (c1, c2, M) := by
  obtain ⟨r0, h0, h1⟩ := bdd hf
  refine V_callSNI C (hM r0 h0) lb C.E lk wm_t rfl hd hcs hn hst hr d (fun r x' h => ?_)
  obtain ⟨e1, e2⟩ := h
  cases e1
  exact ⟨_, rfl, k r0 h1⟩
end CF
section CU
variable {wf : Unit → va_W} {Z : Zz} {Ev : State → Prop} {G : Gm} {cc : ByteArray} {ow : String} {dep : Nat} {ret : Option FieldType} {Pq : Option Int32 → Unit → Prop} {csF cs : Nat} {st0 rest : List Value} {lv : List (Option Value)}
variable {β : Type} {o : β}
variable {y : MethodName} {bytes : ByteArray} {maxL n dep2 idx : Nat} {rt : Option FieldType} {As : List Value}
theorem V_cSS (C : CX wf Z Ev G cc ow dep ret Pq csF) {pc : Nat} {q : Option Int32} {kf : Int32 → Option β} (hM : ∀ r0, q = some r0 → CtI (fun _ : Unit => wf ()) Z tE y bytes maxL rt dep2 0 As () (PqR r0 ())) (lb : LkB y bytes maxL n rt) (lk : LkS ow idx y) (hd : dep2 + 1 ≤ dep) (hcs : cs ≤ csF) (hn : As.length = n) (hst : st0 = As.reverse ++ rest) (hr : (rest.map fun v => v.category).sum ≤ 8) (d : decode cc pc = .ok (.invokestatic idx, 3)) (hf : bd q kf = some o)
    (k : ∀ r, kf r = some o → V wf Z G cs (pc + 3) lv (.int r :: rest) ()) : V wf Z G cs pc lv st0 () := by
  obtain ⟨r0, h0, h1⟩ := bdd hf
  refine V_callSI C (hM r0 h0) lb lk wm_t rfl hd hcs hn hst hr d (fun r x' h => ?_)
  obtain ⟨e1, e2⟩ := h
  cases e1
  exact ⟨_, rfl, k r0 h1⟩
end CU
end
section
/-! words of the tables, each once -/
theorem wf_RX0_9 : Cond.fieldLink RX0 9 "DyeVats$History" "size" "I" ∈ ux := ux_mem (by decide +kernel) (by decide +kernel)
theorem wf_RX0_15 : Cond.fieldLink RX0 15 "DyeVats$History" "next" "I" ∈ ux := ux_mem (by decide +kernel) (by decide +kernel)
theorem wf_RX0_18 : Cond.fieldLink RX0 18 "DyeVats$History" "scenes" "[I" ∈ ux := ux_mem (by decide +kernel) (by decide +kernel)
theorem wf_RX0_22 : Cond.fieldLink RX0 22 "DyeVats$History" "made" "[I" ∈ ux := ux_mem (by decide +kernel) (by decide +kernel)
theorem wf_RX1_13 : Cond.fieldLink RX1 13 "DyeVats$Planner" "makes" "[I" ∈ ux := ux_mem (by decide +kernel) (by decide +kernel)
theorem wf_RX1_17 : Cond.fieldLink RX1 17 "DyeVats$Planner" "ways" "[I" ∈ ux := ux_mem (by decide +kernel) (by decide +kernel)
theorem wf_RX1_20 : Cond.fieldLink RX1 20 "DyeVats$Planner" "cost" "[I" ∈ ux := ux_mem (by decide +kernel) (by decide +kernel)
theorem wf_RX1_23 : Cond.fieldLink RX1 23 "DyeVats$Planner" "line" "[I" ∈ ux := ux_mem (by decide +kernel) (by decide +kernel)
theorem wf_RX1_26 : Cond.fieldLink RX1 26 "DyeVats$Planner" "lineEnd" "I" ∈ ux := ux_mem (by decide +kernel) (by decide +kernel)
theorem wf_RX1_30 : Cond.fieldLink RX1 30 "DyeVats$Planner" "best" "I" ∈ ux := ux_mem (by decide +kernel) (by decide +kernel)
theorem wf_RX1_33 : Cond.fieldLink RX1 33 "DyeVats$Planner" "exploredFor" "I" ∈ ux := ux_mem (by decide +kernel) (by decide +kernel)
theorem wf_RX1_36 : Cond.fieldLink RX1 36 "DyeVats$Planner" "plannedFor" "I" ∈ ux := ux_mem (by decide +kernel) (by decide +kernel)
theorem wf_RX1_39 : Cond.fieldLink RX1 39 "DyeVats$Planner" "rules" "LDyeVats$Rules;" ∈ ux := ux_mem (by decide +kernel) (by decide +kernel)
theorem wf_RX5_34 : Cond.fieldLink RX5 34 "DyeVats$Rules" "frailOnes" "I" ∈ ux := ux_mem (by decide +kernel) (by decide +kernel)
theorem wf_RX5_46 : Cond.fieldLink RX5 46 "DyeVats$Rules" "allAtOnce" "Z" ∈ ux := ux_mem (by decide +kernel) (by decide +kernel)
theorem wf_RX5_43 : Cond.fieldLink RX5 43 "DyeVats$Rules" "goalBits" "I" ∈ ux := ux_mem (by decide +kernel) (by decide +kernel)
theorem wf_RX5_37 : Cond.fieldLink RX5 37 "DyeVats$Rules" "goalCount" "I" ∈ ux := ux_mem (by decide +kernel) (by decide +kernel)
theorem wf_RX5_31 : Cond.fieldLink RX5 31 "DyeVats$Rules" "doubleOnes" "I" ∈ ux := ux_mem (by decide +kernel) (by decide +kernel)
theorem wf_RX5_25 : Cond.fieldLink RX5 25 "DyeVats$Rules" "withRecipe" "I" ∈ ux := ux_mem (by decide +kernel) (by decide +kernel)
theorem wf_RX5_19 : Cond.fieldLink RX5 19 "DyeVats$Rules" "needs" "[I" ∈ ux := ux_mem (by decide +kernel) (by decide +kernel)
theorem wf_RX5_22 : Cond.fieldLink RX5 22 "DyeVats$Rules" "usedUp" "[I" ∈ ux := ux_mem (by decide +kernel) (by decide +kernel)
theorem wf_RX5_28 : Cond.fieldLink RX5 28 "DyeVats$Rules" "strongOnes" "I" ∈ ux := ux_mem (by decide +kernel) (by decide +kernel)
theorem wf_RX5_15 : Cond.fieldLink RX5 15 "DyeVats$Rules" "kinds" "[I" ∈ ux := ux_mem (by decide +kernel) (by decide +kernel)
theorem wf_RX5_40 : Cond.fieldLink RX5 40 "DyeVats$Rules" "goals" "[I" ∈ ux := ux_mem (by decide +kernel) (by decide +kernel)
theorem wf_RX1_95 : Cond.fieldLink RX1 95 "DyeVats$Rules" "baths" "I" ∈ ux := ux_mem (by decide +kernel) (by decide +kernel)
theorem wf_RX2_9 : Cond.fieldLink RX2 9 "DyeVats$Proof" "bits" "[B" ∈ ux := ux_mem (by decide +kernel) (by decide +kernel)
theorem wf_RX2_15 : Cond.fieldLink RX2 15 "DyeVats$Proof" "line" "[I" ∈ ux := ux_mem (by decide +kernel) (by decide +kernel)
theorem wf_RX2_19 : Cond.fieldLink RX2 19 "DyeVats$Proof" "ones" "I" ∈ ux := ux_mem (by decide +kernel) (by decide +kernel)
theorem wf_RX2_23 : Cond.fieldLink RX2 23 "DyeVats$Proof" "faultAt" "I" ∈ ux := ux_mem (by decide +kernel) (by decide +kernel)
theorem wf_RX2_26 : Cond.fieldLink RX2 26 "DyeVats$Proof" "rules" "LDyeVats$Rules;" ∈ ux := ux_mem (by decide +kernel) (by decide +kernel)
theorem wf_RX5_9 : Cond.fieldLink RX5 9 "DyeVats$Rules" "baths" "I" ∈ ux := ux_mem (by decide +kernel) (by decide +kernel)
theorem wf_RX3_9 : Cond.fieldLink RX3 9 "DyeVats$Recipes" "sizes" "[I" ∈ ux := ux_mem (by decide +kernel) (by decide +kernel)
theorem wf_RX3_15 : Cond.fieldLink RX3 15 "DyeVats$Recipes" "types" "[I" ∈ ux := ux_mem (by decide +kernel) (by decide +kernel)
theorem wf_RX3_18 : Cond.fieldLink RX3 18 "DyeVats$Recipes" "names" "[I" ∈ ux := ux_mem (by decide +kernel) (by decide +kernel)
theorem wf_RX4_9 : Cond.fieldLink RX4 9 "DyeVats$RingFinder" "baths" "[I" ∈ ux := ux_mem (by decide +kernel) (by decide +kernel)
theorem wf_RX4_15 : Cond.fieldLink RX4 15 "DyeVats$RingFinder" "length" "I" ∈ ux := ux_mem (by decide +kernel) (by decide +kernel)
theorem wf_RX4_19 : Cond.fieldLink RX4 19 "DyeVats$RingFinder" "away" "[I" ∈ ux := ux_mem (by decide +kernel) (by decide +kernel)
theorem wf_RX6_12 : Cond.fieldLink RX6 12 "DyeVats" "recipes" "LDyeVats$Recipes;" ∈ ux := ux_mem (by decide +kernel) (by decide +kernel)
theorem wf_RX6_19 : Cond.fieldLink RX6 19 "DyeVats" "rules" "LDyeVats$Rules;" ∈ ux := ux_mem (by decide +kernel) (by decide +kernel)
theorem wf_RX6_26 : Cond.fieldLink RX6 26 "DyeVats" "rings" "LDyeVats$RingFinder;" ∈ ux := ux_mem (by decide +kernel) (by decide +kernel)
theorem wf_RX6_33 : Cond.fieldLink RX6 33 "DyeVats" "history" "LDyeVats$History;" ∈ ux := ux_mem (by decide +kernel) (by decide +kernel)
theorem wf_RX6_42 : Cond.fieldLink RX6 42 "DyeVats" "planner" "LDyeVats$Planner;" ∈ ux := ux_mem (by decide +kernel) (by decide +kernel)
theorem wf_RX6_49 : Cond.fieldLink RX6 49 "DyeVats" "proof" "LDyeVats$Proof;" ∈ ux := ux_mem (by decide +kernel) (by decide +kernel)
theorem wf_RX6_53 : Cond.fieldLink RX6 53 "DyeVats" "timesMade" "[I" ∈ ux := ux_mem (by decide +kernel) (by decide +kernel)
theorem wf_RX6_57 : Cond.fieldLink RX6 57 "DyeVats" "vatCount" "I" ∈ ux := ux_mem (by decide +kernel) (by decide +kernel)
theorem wf_RX6_61 : Cond.fieldLink RX6 61 "DyeVats" "scene" "I" ∈ ux := ux_mem (by decide +kernel) (by decide +kernel)
theorem wf_RX6_78 : Cond.fieldLink RX6 78 "DyeVats$Rules" "baths" "I" ∈ ux := ux_mem (by decide +kernel) (by decide +kernel)
theorem wf_RX6_115 : Cond.fieldLink RX6 115 "DyeVats$Rules" "needs" "[I" ∈ ux := ux_mem (by decide +kernel) (by decide +kernel)
theorem wf_RX6_129 : Cond.fieldLink RX6 129 "DyeVats$Recipes" "types" "[I" ∈ ux := ux_mem (by decide +kernel) (by decide +kernel)
theorem wf_RX6_132 : Cond.fieldLink RX6 132 "DyeVats$RingFinder" "length" "I" ∈ ux := ux_mem (by decide +kernel) (by decide +kernel)
theorem wf_RX6_135 : Cond.fieldLink RX6 135 "DyeVats$RingFinder" "baths" "[I" ∈ ux := ux_mem (by decide +kernel) (by decide +kernel)
theorem wf_RX6_143 : Cond.fieldLink RX6 143 "DyeVats$Rules" "goalCount" "I" ∈ ux := ux_mem (by decide +kernel) (by decide +kernel)
theorem wf_RX6_152 : Cond.fieldLink RX6 152 "DyeVats$Rules" "allAtOnce" "Z" ∈ ux := ux_mem (by decide +kernel) (by decide +kernel)
theorem wf_RX6_177 : Cond.fieldLink RX6 177 "DyeVats$History" "size" "I" ∈ ux := ux_mem (by decide +kernel) (by decide +kernel)
theorem wf_RX6_189 : Cond.fieldLink RX6 189 "DyeVats$Rules" "kinds" "[I" ∈ ux := ux_mem (by decide +kernel) (by decide +kernel)
theorem wf_RX6_195 : Cond.fieldLink RX6 195 "DyeVats$Recipes" "sizes" "[I" ∈ ux := ux_mem (by decide +kernel) (by decide +kernel)
theorem wf_RX6_203 : Cond.fieldLink RX6 203 "DyeVats$Proof" "ones" "I" ∈ ux := ux_mem (by decide +kernel) (by decide +kernel)
theorem wf_RX6_227 : Cond.fieldLink RX6 227 "DyeVats$Proof" "bits" "[B" ∈ ux := ux_mem (by decide +kernel) (by decide +kernel)
theorem wf_RX6_237 : Cond.fieldLink RX6 237 "DyeVats$Proof" "faultAt" "I" ∈ ux := ux_mem (by decide +kernel) (by decide +kernel)
theorem wf_RX7_9 : Cond.fieldLink RX7 9 "DyeVatsModel" "kind" "[I" ∈ ux := ux_mem (by decide +kernel) (by decide +kernel)
theorem wf_RX7_13 : Cond.fieldLink RX7 13 "DyeVatsModel" "type" "[I" ∈ ux := ux_mem (by decide +kernel) (by decide +kernel)
theorem wf_RX7_16 : Cond.fieldLink RX7 16 "DyeVatsModel" "size" "[I" ∈ ux := ux_mem (by decide +kernel) (by decide +kernel)
theorem wf_RX7_19 : Cond.fieldLink RX7 19 "DyeVatsModel" "names" "[I" ∈ ux := ux_mem (by decide +kernel) (by decide +kernel)
theorem wf_RX7_22 : Cond.fieldLink RX7 22 "DyeVatsModel" "made" "[I" ∈ ux := ux_mem (by decide +kernel) (by decide +kernel)
theorem wf_RX7_25 : Cond.fieldLink RX7 25 "DyeVatsModel" "vats" "I" ∈ ux := ux_mem (by decide +kernel) (by decide +kernel)
theorem wf_RX7_29 : Cond.fieldLink RX7 29 "DyeVatsModel" "goal" "[I" ∈ ux := ux_mem (by decide +kernel) (by decide +kernel)
theorem wf_RX7_32 : Cond.fieldLink RX7 32 "DyeVatsModel" "row" "[Z" ∈ ux := ux_mem (by decide +kernel) (by decide +kernel)
theorem wf_RX7_36 : Cond.fieldLink RX7 36 "DyeVatsModel" "keptStands" "[I" ∈ ux := ux_mem (by decide +kernel) (by decide +kernel)
theorem wf_RX7_39 : Cond.fieldLink RX7 39 "DyeVatsModel" "keptFresh" "[I" ∈ ux := ux_mem (by decide +kernel) (by decide +kernel)
theorem wf_RX7_42 : Cond.fieldLink RX7 42 "DyeVatsModel" "keptMade" "[I" ∈ ux := ux_mem (by decide +kernel) (by decide +kernel)
theorem wf_RX7_45 : Cond.fieldLink RX7 45 "DyeVatsModel" "ring" "[I" ∈ ux := ux_mem (by decide +kernel) (by decide +kernel)
theorem wf_RX7_48 : Cond.fieldLink RX7 48 "DyeVatsModel" "fault" "I" ∈ ux := ux_mem (by decide +kernel) (by decide +kernel)
theorem wf_RX7_51 : Cond.fieldLink RX7 51 "DyeVatsModel" "steps" "[I" ∈ ux := ux_mem (by decide +kernel) (by decide +kernel)
theorem wf_RX7_55 : Cond.fieldLink RX7 55 "DyeVatsModel" "cost" "[I" ∈ ux := ux_mem (by decide +kernel) (by decide +kernel)
theorem wf_RX7_58 : Cond.fieldLink RX7 58 "DyeVatsModel" "waits" "[Z" ∈ ux := ux_mem (by decide +kernel) (by decide +kernel)
theorem wf_RX7_61 : Cond.fieldLink RX7 61 "DyeVatsModel" "queue" "[I" ∈ ux := ux_mem (by decide +kernel) (by decide +kernel)
theorem wf_RX7_64 : Cond.fieldLink RX7 64 "DyeVatsModel" "isVain" "[Z" ∈ ux := ux_mem (by decide +kernel) (by decide +kernel)
theorem wf_RX7_67 : Cond.fieldLink RX7 67 "DyeVatsModel" "way" "[I" ∈ ux := ux_mem (by decide +kernel) (by decide +kernel)
theorem wf_RX7_70 : Cond.fieldLink RX7 70 "DyeVatsModel" "at" "[I" ∈ ux := ux_mem (by decide +kernel) (by decide +kernel)
theorem wf_RX7_73 : Cond.fieldLink RX7 73 "DyeVatsModel" "baths" "I" ∈ ux := ux_mem (by decide +kernel) (by decide +kernel)
theorem wf_RX7_92 : Cond.fieldLink RX7 92 "DyeVatsModel" "kept" "I" ∈ ux := ux_mem (by decide +kernel) (by decide +kernel)
theorem wf_RX7_95 : Cond.fieldLink RX7 95 "DyeVatsModel" "stands" "I" ∈ ux := ux_mem (by decide +kernel) (by decide +kernel)
theorem wf_RX7_98 : Cond.fieldLink RX7 98 "DyeVatsModel" "fresh" "I" ∈ ux := ux_mem (by decide +kernel) (by decide +kernel)
theorem wf_RX7_108 : Cond.fieldLink RX7 108 "DyeVatsModel" "rings" "I" ∈ ux := ux_mem (by decide +kernel) (by decide +kernel)
theorem wf_RX7_119 : Cond.fieldLink RX7 119 "DyeVatsModel" "goals" "I" ∈ ux := ux_mem (by decide +kernel) (by decide +kernel)
theorem wf_RX7_122 : Cond.fieldLink RX7 122 "DyeVatsModel" "isTogether" "Z" ∈ ux := ux_mem (by decide +kernel) (by decide +kernel)
theorem wf_RX7_166 : Cond.fieldLink RX7 166 "DyeVatsModel" "acts" "I" ∈ ux := ux_mem (by decide +kernel) (by decide +kernel)
theorem wl_RX0_25 : Cond.methodLink RX0 25 yJ9_min_7cf53 ∈ ux := ux_mem (by decide +kernel) (by decide +kernel)
theorem wl_RX0_31 : Cond.methodLink RX0 31 yJ9_max_7cf53 ∈ ux := ux_mem (by decide +kernel) (by decide +kernel)
theorem wl_RX1_43 : Cond.methodLink RX1 43 yJ7_fill_53178 ∈ ux := ux_mem (by decide +kernel) (by decide +kernel)
theorem wl_RX1_73 : Cond.methodLink RX1 73 yX5_hasFrail ∈ ux := ux_mem (by decide +kernel) (by decide +kernel)
theorem wl_RX1_69 : Cond.methodLink RX1 69 yX1_join ∈ ux := ux_mem (by decide +kernel) (by decide +kernel)
theorem wl_RX5_67 : Cond.methodLink RX5 67 yX5_freshBit ∈ ux := ux_mem (by decide +kernel) (by decide +kernel)
theorem wl_RX5_70 : Cond.methodLink RX5 70 yJ6_bitCount_0f7a4 ∈ ux := ux_mem (by decide +kernel) (by decide +kernel)
theorem wl_RX5_63 : Cond.methodLink RX5 63 yX5_filledBy ∈ ux := ux_mem (by decide +kernel) (by decide +kernel)
theorem wl_RX5_85 : Cond.methodLink RX5 85 yX5_stands ∈ ux := ux_mem (by decide +kernel) (by decide +kernel)
theorem wl_RX5_75 : Cond.methodLink RX5 75 yX5_hindrance ∈ ux := ux_mem (by decide +kernel) (by decide +kernel)
theorem wl_RX5_79 : Cond.methodLink RX5 79 yX5_whenMade ∈ ux := ux_mem (by decide +kernel) (by decide +kernel)
theorem wl_RX5_82 : Cond.methodLink RX5 82 yX5_withStood ∈ ux := ux_mem (by decide +kernel) (by decide +kernel)
theorem wl_RX5_89 : Cond.methodLink RX5 89 yX5_whenPoured ∈ ux := ux_mem (by decide +kernel) (by decide +kernel)
theorem wl_RX1_63 : Cond.methodLink RX1 63 yX5_lead ∈ ux := ux_mem (by decide +kernel) (by decide +kernel)
theorem wl_RX1_78 : Cond.methodLink RX1 78 yX5_reaches ∈ ux := ux_mem (by decide +kernel) (by decide +kernel)
theorem wl_RX1_85 : Cond.methodLink RX1 85 yJ9_min_7cf53 ∈ ux := ux_mem (by decide +kernel) (by decide +kernel)
theorem wl_RX1_60 : Cond.methodLink RX1 60 yX1_startLine ∈ ux := ux_mem (by decide +kernel) (by decide +kernel)
theorem wl_RX1_91 : Cond.methodLink RX1 91 yX1_spread ∈ ux := ux_mem (by decide +kernel) (by decide +kernel)
theorem wl_RX1_49 : Cond.methodLink RX1 49 yX1_explore ∈ ux := ux_mem (by decide +kernel) (by decide +kernel)
theorem wl_RX1_98 : Cond.methodLink RX1 98 yX1_firstActOn ∈ ux := ux_mem (by decide +kernel) (by decide +kernel)
theorem wl_RX1_53 : Cond.methodLink RX1 53 yX1_dropDetours ∈ ux := ux_mem (by decide +kernel) (by decide +kernel)
theorem wl_RX1_56 : Cond.methodLink RX1 56 yX1_writePlan ∈ ux := ux_mem (by decide +kernel) (by decide +kernel)
theorem wl_RX2_50 : Cond.methodLink RX2 50 yX2_turn ∈ ux := ux_mem (by decide +kernel) (by decide +kernel)
theorem wl_RX2_30 : Cond.methodLink RX2 30 yJ7_fill_031fb ∈ ux := ux_mem (by decide +kernel) (by decide +kernel)
theorem wl_RX2_36 : Cond.methodLink RX2 36 yX2_join ∈ ux := ux_mem (by decide +kernel) (by decide +kernel)
theorem wl_RX2_40 : Cond.methodLink RX2 40 yX5_lead ∈ ux := ux_mem (by decide +kernel) (by decide +kernel)
theorem wl_RX2_58 : Cond.methodLink RX2 58 yX5_reaches ∈ ux := ux_mem (by decide +kernel) (by decide +kernel)
theorem wl_RX2_61 : Cond.methodLink RX2 61 yX5_known ∈ ux := ux_mem (by decide +kernel) (by decide +kernel)
theorem wl_RX2_54 : Cond.methodLink RX2 54 yX2_faultOf ∈ ux := ux_mem (by decide +kernel) (by decide +kernel)
theorem wl_RX3_21 : Cond.methodLink RX3 21 yJ7_fill_53178 ∈ ux := ux_mem (by decide +kernel) (by decide +kernel)
theorem wl_RX3_27 : Cond.methodLink RX3 27 yX3_setName ∈ ux := ux_mem (by decide +kernel) (by decide +kernel)
theorem wl_RX3_31 : Cond.methodLink RX3 31 yX3_nameAt ∈ ux := ux_mem (by decide +kernel) (by decide +kernel)
theorem wl_RX3_35 : Cond.methodLink RX3 35 yX3_bitOf ∈ ux := ux_mem (by decide +kernel) (by decide +kernel)
theorem wl_RX4_30 : Cond.methodLink RX4 30 yJ7_fill_53178 ∈ ux := ux_mem (by decide +kernel) (by decide +kernel)
theorem wl_RX4_22 : Cond.methodLink RX4 22 yX4_measure ∈ ux := ux_mem (by decide +kernel) (by decide +kernel)
theorem wl_RX4_26 : Cond.methodLink RX4 26 yX4_nearer ∈ ux := ux_mem (by decide +kernel) (by decide +kernel)
theorem wl_RX5_50 : Cond.methodLink RX5 50 yX3_has ∈ ux := ux_mem (by decide +kernel) (by decide +kernel)
theorem wl_RX5_56 : Cond.methodLink RX5 56 yX3_namedBits ∈ ux := ux_mem (by decide +kernel) (by decide +kernel)
theorem wl_RX5_60 : Cond.methodLink RX5 60 yX3_firstNamedBit ∈ ux := ux_mem (by decide +kernel) (by decide +kernel)
theorem wl_RX6_11 : Cond.methodLink RX6 11 yX3_init ∈ ux := ux_mem (by decide +kernel) (by decide +kernel)
theorem wl_RX6_39 : Cond.methodLink RX6 39 yX1_init ∈ ux := ux_mem (by decide +kernel) (by decide +kernel)
theorem wl_RX6_48 : Cond.methodLink RX6 48 yX2_init ∈ ux := ux_mem (by decide +kernel) (by decide +kernel)
theorem wl_RX6_64 : Cond.methodLink RX6 64 yX6_isVatCount ∈ ux := ux_mem (by decide +kernel) (by decide +kernel)
theorem wl_RX6_68 : Cond.methodLink RX6 68 yX5_filled ∈ ux := ux_mem (by decide +kernel) (by decide +kernel)
theorem wl_RX6_72 : Cond.methodLink RX6 72 yX0_clear ∈ ux := ux_mem (by decide +kernel) (by decide +kernel)
theorem wl_RX6_81 : Cond.methodLink RX6 81 yX1_outdate ∈ ux := ux_mem (by decide +kernel) (by decide +kernel)
theorem wl_RX6_84 : Cond.methodLink RX6 84 yX5_addBath ∈ ux := ux_mem (by decide +kernel) (by decide +kernel)
theorem wl_RX6_240 : Cond.methodLink RX6 240 yX5_learn ∈ ux := ux_mem (by decide +kernel) (by decide +kernel)
theorem wl_RX6_87 : Cond.methodLink RX6 87 yX5_isBath ∈ ux := ux_mem (by decide +kernel) (by decide +kernel)
theorem wl_RX6_90 : Cond.methodLink RX6 90 yX6_isType ∈ ux := ux_mem (by decide +kernel) (by decide +kernel)
theorem wl_RX6_93 : Cond.methodLink RX6 93 yX6_anyStands ∈ ux := ux_mem (by decide +kernel) (by decide +kernel)
theorem wl_RX6_97 : Cond.methodLink RX6 97 yX3_begin ∈ ux := ux_mem (by decide +kernel) (by decide +kernel)
theorem wl_RX6_101 : Cond.methodLink RX6 101 yX6_recipeChanged ∈ ux := ux_mem (by decide +kernel) (by decide +kernel)
theorem wl_RX6_105 : Cond.methodLink RX6 105 yX3_has ∈ ux := ux_mem (by decide +kernel) (by decide +kernel)
theorem wl_RX6_108 : Cond.methodLink RX6 108 yX3_drop ∈ ux := ux_mem (by decide +kernel) (by decide +kernel)
theorem wl_RX6_111 : Cond.methodLink RX6 111 yX3_hasPlace ∈ ux := ux_mem (by decide +kernel) (by decide +kernel)
theorem wl_RX6_118 : Cond.methodLink RX6 118 yX4_closes ∈ ux := ux_mem (by decide +kernel) (by decide +kernel)
theorem wl_RX6_122 : Cond.methodLink RX6 122 yX3_nameAt ∈ ux := ux_mem (by decide +kernel) (by decide +kernel)
theorem wl_RX6_126 : Cond.methodLink RX6 126 yX3_setName ∈ ux := ux_mem (by decide +kernel) (by decide +kernel)
theorem wl_RX6_137 : Cond.methodLink RX6 137 yX5_nextTold ∈ ux := ux_mem (by decide +kernel) (by decide +kernel)
theorem wl_RX6_140 : Cond.methodLink RX6 140 yX5_isGoal ∈ ux := ux_mem (by decide +kernel) (by decide +kernel)
theorem wl_RX6_146 : Cond.methodLink RX6 146 yX5_addGoal ∈ ux := ux_mem (by decide +kernel) (by decide +kernel)
theorem wl_RX6_149 : Cond.methodLink RX6 149 yX5_dropGoals ∈ ux := ux_mem (by decide +kernel) (by decide +kernel)
theorem wl_RX6_156 : Cond.methodLink RX6 156 yX5_hindrance ∈ ux := ux_mem (by decide +kernel) (by decide +kernel)
theorem wl_RX6_160 : Cond.methodLink RX6 160 yX0_keep ∈ ux := ux_mem (by decide +kernel) (by decide +kernel)
theorem wl_RX6_164 : Cond.methodLink RX6 164 yX5_whenMade ∈ ux := ux_mem (by decide +kernel) (by decide +kernel)
theorem wl_RX6_167 : Cond.methodLink RX6 167 yX6_freeVats ∈ ux := ux_mem (by decide +kernel) (by decide +kernel)
theorem wl_RX6_171 : Cond.methodLink RX6 171 yX5_stands ∈ ux := ux_mem (by decide +kernel) (by decide +kernel)
theorem wl_RX6_174 : Cond.methodLink RX6 174 yX5_whenPoured ∈ ux := ux_mem (by decide +kernel) (by decide +kernel)
theorem wl_RX6_180 : Cond.methodLink RX6 180 yX0_stepBack ∈ ux := ux_mem (by decide +kernel) (by decide +kernel)
theorem wl_RX6_183 : Cond.methodLink RX6 183 yX0_madeThere ∈ ux := ux_mem (by decide +kernel) (by decide +kernel)
theorem wl_RX6_186 : Cond.methodLink RX6 186 yX0_sceneThere ∈ ux := ux_mem (by decide +kernel) (by decide +kernel)
theorem wl_RX6_192 : Cond.methodLink RX6 192 yX5_filledBy ∈ ux := ux_mem (by decide +kernel) (by decide +kernel)
theorem wl_RX6_198 : Cond.methodLink RX6 198 yJ6_bitCount_0f7a4 ∈ ux := ux_mem (by decide +kernel) (by decide +kernel)
theorem wl_RX6_206 : Cond.methodLink RX6 206 yX1_makesFor ∈ ux := ux_mem (by decide +kernel) (by decide +kernel)
theorem wl_RX6_209 : Cond.methodLink RX6 209 yX1_actsFor ∈ ux := ux_mem (by decide +kernel) (by decide +kernel)
theorem wl_RX6_212 : Cond.methodLink RX6 212 yX1_actAt ∈ ux := ux_mem (by decide +kernel) (by decide +kernel)
theorem wl_RX6_215 : Cond.methodLink RX6 215 yX1_scenesFor ∈ ux := ux_mem (by decide +kernel) (by decide +kernel)
theorem wl_RX6_218 : Cond.methodLink RX6 218 yX5_allFillOne ∈ ux := ux_mem (by decide +kernel) (by decide +kernel)
theorem wl_RX6_221 : Cond.methodLink RX6 221 yX2_build ∈ ux := ux_mem (by decide +kernel) (by decide +kernel)
theorem wl_RX6_224 : Cond.methodLink RX6 224 yX6_isRowBit ∈ ux := ux_mem (by decide +kernel) (by decide +kernel)
theorem wl_RX6_231 : Cond.methodLink RX6 231 yX2_turn ∈ ux := ux_mem (by decide +kernel) (by decide +kernel)
theorem wl_RX6_234 : Cond.methodLink RX6 234 yX2_examine ∈ ux := ux_mem (by decide +kernel) (by decide +kernel)
theorem wl_RX7_76 : Cond.methodLink RX7 76 yX7_has ∈ ux := ux_mem (by decide +kernel) (by decide +kernel)
theorem wl_RX7_80 : Cond.methodLink RX7 80 yX7_fills ∈ ux := ux_mem (by decide +kernel) (by decide +kernel)
theorem wl_RX7_84 : Cond.methodLink RX7 84 yX7_used ∈ ux := ux_mem (by decide +kernel) (by decide +kernel)
theorem wl_RX7_88 : Cond.methodLink RX7 88 yX7_filled ∈ ux := ux_mem (by decide +kernel) (by decide +kernel)
theorem wl_RX7_101 : Cond.methodLink RX7 101 yX7_isBath ∈ ux := ux_mem (by decide +kernel) (by decide +kernel)
theorem wl_RX7_105 : Cond.methodLink RX7 105 yX7_needs ∈ ux := ux_mem (by decide +kernel) (by decide +kernel)
theorem wl_RX7_111 : Cond.methodLink RX7 111 yX7_countSteps ∈ ux := ux_mem (by decide +kernel) (by decide +kernel)
theorem wl_RX7_115 : Cond.methodLink RX7 115 yX7_tellRing ∈ ux := ux_mem (by decide +kernel) (by decide +kernel)
theorem wl_RX7_126 : Cond.methodLink RX7 126 yX7_reason ∈ ux := ux_mem (by decide +kernel) (by decide +kernel)
theorem wl_RX7_130 : Cond.methodLink RX7 130 yX7_keep ∈ ux := ux_mem (by decide +kernel) (by decide +kernel)
theorem wl_RX7_133 : Cond.methodLink RX7 133 yX7_standsBehind ∈ ux := ux_mem (by decide +kernel) (by decide +kernel)
theorem wl_RX7_136 : Cond.methodLink RX7 136 yX7_freshBehind ∈ ux := ux_mem (by decide +kernel) (by decide +kernel)
theorem wl_RX7_139 : Cond.methodLink RX7 139 yX7_free ∈ ux := ux_mem (by decide +kernel) (by decide +kernel)
theorem wl_RX7_143 : Cond.methodLink RX7 143 yX7_freshPoured ∈ ux := ux_mem (by decide +kernel) (by decide +kernel)
theorem wl_RX7_146 : Cond.methodLink RX7 146 yX7_ones ∈ ux := ux_mem (by decide +kernel) (by decide +kernel)
theorem wl_RX7_149 : Cond.methodLink RX7 149 yX7_stand ∈ ux := ux_mem (by decide +kernel) (by decide +kernel)
theorem wl_RX7_152 : Cond.methodLink RX7 152 yX7_stood ∈ ux := ux_mem (by decide +kernel) (by decide +kernel)
theorem wl_RX7_157 : Cond.methodLink RX7 157 yX7_behind ∈ ux := ux_mem (by decide +kernel) (by decide +kernel)
theorem wl_RX7_160 : Cond.methodLink RX7 160 yX7_price ∈ ux := ux_mem (by decide +kernel) (by decide +kernel)
theorem wl_RX7_163 : Cond.methodLink RX7 163 yX7_isEnd ∈ ux := ux_mem (by decide +kernel) (by decide +kernel)
theorem wl_RX7_169 : Cond.methodLink RX7 169 yX7_spread ∈ ux := ux_mem (by decide +kernel) (by decide +kernel)
theorem wl_RX7_172 : Cond.methodLink RX7 172 yX7_trace ∈ ux := ux_mem (by decide +kernel) (by decide +kernel)
theorem wl_RX7_175 : Cond.methodLink RX7 175 yX7_isPlain ∈ ux := ux_mem (by decide +kernel) (by decide +kernel)
theorem wl_RX7_179 : Cond.methodLink RX7 179 yX7_bitBehind ∈ ux := ux_mem (by decide +kernel) (by decide +kernel)
theorem wl_RX7_182 : Cond.methodLink RX7 182 yX7_faultOf ∈ ux := ux_mem (by decide +kernel) (by decide +kernel)
theorem wl_RL_9 : Cond.methodLink RL 9 yX6_init ∈ ux := ux_mem (by decide +kernel) (by decide +kernel)
theorem wl_RL_12 : Cond.methodLink RL 12 yX7_init ∈ ux := ux_mem (by decide +kernel) (by decide +kernel)
theorem wl_RL_13 : Cond.methodLink RL 13 yX6_vats ∈ ux := ux_mem (by decide +kernel) (by decide +kernel)
theorem wl_RL_17 : Cond.methodLink RL 17 yX7_vats ∈ ux := ux_mem (by decide +kernel) (by decide +kernel)
theorem wl_RL_18 : Cond.methodLink RL 18 yX6_bath ∈ ux := ux_mem (by decide +kernel) (by decide +kernel)
theorem wl_RL_21 : Cond.methodLink RL 21 yX7_bath ∈ ux := ux_mem (by decide +kernel) (by decide +kernel)
theorem wl_RL_22 : Cond.methodLink RL 22 yX6_recipe ∈ ux := ux_mem (by decide +kernel) (by decide +kernel)
theorem wl_RL_26 : Cond.methodLink RL 26 yX7_recipe ∈ ux := ux_mem (by decide +kernel) (by decide +kernel)
theorem wl_RL_27 : Cond.methodLink RL 27 yX6_lose ∈ ux := ux_mem (by decide +kernel) (by decide +kernel)
theorem wl_RL_30 : Cond.methodLink RL 30 yX7_lose ∈ ux := ux_mem (by decide +kernel) (by decide +kernel)
theorem wl_RL_31 : Cond.methodLink RL 31 yX6_need ∈ ux := ux_mem (by decide +kernel) (by decide +kernel)
theorem wl_RL_34 : Cond.methodLink RL 34 yX7_need ∈ ux := ux_mem (by decide +kernel) (by decide +kernel)
theorem wl_RL_35 : Cond.methodLink RL 35 yX6_named ∈ ux := ux_mem (by decide +kernel) (by decide +kernel)
theorem wl_RL_38 : Cond.methodLink RL 38 yX7_named ∈ ux := ux_mem (by decide +kernel) (by decide +kernel)
theorem wl_RL_39 : Cond.methodLink RL 39 yX6_ring ∈ ux := ux_mem (by decide +kernel) (by decide +kernel)
theorem wl_RL_42 : Cond.methodLink RL 42 yX7_ring ∈ ux := ux_mem (by decide +kernel) (by decide +kernel)
theorem wl_RL_43 : Cond.methodLink RL 43 yX6_order ∈ ux := ux_mem (by decide +kernel) (by decide +kernel)
theorem wl_RL_46 : Cond.methodLink RL 46 yX7_order ∈ ux := ux_mem (by decide +kernel) (by decide +kernel)
theorem wl_RL_47 : Cond.methodLink RL 47 yX6_goal ∈ ux := ux_mem (by decide +kernel) (by decide +kernel)
theorem wl_RL_50 : Cond.methodLink RL 50 yX7_goal ∈ ux := ux_mem (by decide +kernel) (by decide +kernel)
theorem wl_RL_51 : Cond.methodLink RL 51 yX6_forget ∈ ux := ux_mem (by decide +kernel) (by decide +kernel)
theorem wl_RL_55 : Cond.methodLink RL 55 yX7_forget ∈ ux := ux_mem (by decide +kernel) (by decide +kernel)
theorem wl_RL_56 : Cond.methodLink RL 56 yX6_together ∈ ux := ux_mem (by decide +kernel) (by decide +kernel)
theorem wl_RL_60 : Cond.methodLink RL 60 yX7_together ∈ ux := ux_mem (by decide +kernel) (by decide +kernel)
theorem wl_RL_61 : Cond.methodLink RL 61 yX6_make ∈ ux := ux_mem (by decide +kernel) (by decide +kernel)
theorem wl_RL_64 : Cond.methodLink RL 64 yX7_make ∈ ux := ux_mem (by decide +kernel) (by decide +kernel)
theorem wl_RL_65 : Cond.methodLink RL 65 yX6_why ∈ ux := ux_mem (by decide +kernel) (by decide +kernel)
theorem wl_RL_68 : Cond.methodLink RL 68 yX7_why ∈ ux := ux_mem (by decide +kernel) (by decide +kernel)
theorem wl_RL_69 : Cond.methodLink RL 69 yX6_pour ∈ ux := ux_mem (by decide +kernel) (by decide +kernel)
theorem wl_RL_72 : Cond.methodLink RL 72 yX7_pour ∈ ux := ux_mem (by decide +kernel) (by decide +kernel)
theorem wl_RL_73 : Cond.methodLink RL 73 yX6_undo ∈ ux := ux_mem (by decide +kernel) (by decide +kernel)
theorem wl_RL_76 : Cond.methodLink RL 76 yX7_undo ∈ ux := ux_mem (by decide +kernel) (by decide +kernel)
theorem wl_RL_77 : Cond.methodLink RL 77 yX6_of ∈ ux := ux_mem (by decide +kernel) (by decide +kernel)
theorem wl_RL_81 : Cond.methodLink RL 81 yX7_of ∈ ux := ux_mem (by decide +kernel) (by decide +kernel)
theorem wl_RL_82 : Cond.methodLink RL 82 yX6_count ∈ ux := ux_mem (by decide +kernel) (by decide +kernel)
theorem wl_RL_85 : Cond.methodLink RL 85 yX7_count ∈ ux := ux_mem (by decide +kernel) (by decide +kernel)
theorem wl_RL_86 : Cond.methodLink RL 86 yX6_least ∈ ux := ux_mem (by decide +kernel) (by decide +kernel)
theorem wl_RL_89 : Cond.methodLink RL 89 yX7_least ∈ ux := ux_mem (by decide +kernel) (by decide +kernel)
theorem wl_RL_90 : Cond.methodLink RL 90 yX6_fewest ∈ ux := ux_mem (by decide +kernel) (by decide +kernel)
theorem wl_RL_93 : Cond.methodLink RL 93 yX7_fewest ∈ ux := ux_mem (by decide +kernel) (by decide +kernel)
theorem wl_RL_94 : Cond.methodLink RL 94 yX6_plan ∈ ux := ux_mem (by decide +kernel) (by decide +kernel)
theorem wl_RL_97 : Cond.methodLink RL 97 yX7_plan ∈ ux := ux_mem (by decide +kernel) (by decide +kernel)
theorem wl_RL_98 : Cond.methodLink RL 98 yX6_reach ∈ ux := ux_mem (by decide +kernel) (by decide +kernel)
theorem wl_RL_101 : Cond.methodLink RL 101 yX7_reach ∈ ux := ux_mem (by decide +kernel) (by decide +kernel)
theorem wl_RL_102 : Cond.methodLink RL 102 yX6_row ∈ ux := ux_mem (by decide +kernel) (by decide +kernel)
theorem wl_RL_105 : Cond.methodLink RL 105 yX7_row ∈ ux := ux_mem (by decide +kernel) (by decide +kernel)
theorem wl_RL_106 : Cond.methodLink RL 106 yX6_bit ∈ ux := ux_mem (by decide +kernel) (by decide +kernel)
theorem wl_RL_109 : Cond.methodLink RL 109 yX7_bit ∈ ux := ux_mem (by decide +kernel) (by decide +kernel)
theorem wl_RL_110 : Cond.methodLink RL 110 yX6_flip ∈ ux := ux_mem (by decide +kernel) (by decide +kernel)
theorem wl_RL_113 : Cond.methodLink RL 113 yX7_flip ∈ ux := ux_mem (by decide +kernel) (by decide +kernel)
theorem wl_RL_114 : Cond.methodLink RL 114 yX6_check ∈ ux := ux_mem (by decide +kernel) (by decide +kernel)
theorem wl_RL_117 : Cond.methodLink RL 117 yX7_check ∈ ux := ux_mem (by decide +kernel) (by decide +kernel)
theorem wl_RL_118 : Cond.methodLink RL 118 yX6_where ∈ ux := ux_mem (by decide +kernel) (by decide +kernel)
theorem wl_RL_121 : Cond.methodLink RL 121 yX7_where ∈ ux := ux_mem (by decide +kernel) (by decide +kernel)
theorem wc_J6_bitCount_0f7a4 : Cond.code yJ6_bitCount_0f7a4 cJ6_bitCount_0f7a4 1 (some .int) ∈ ux := ux_mem (by decide +kernel) (by decide +kernel)
theorem ws_J6_bitCount_0f7a4 : Cond.static yJ6_bitCount_0f7a4 ∈ ux := ux_mem (by decide +kernel) (by decide +kernel)
theorem wc_J7_fill_031fb : Cond.code yJ7_fill_031fb cJ7_fill_031fb 4 none ∈ ux := ux_mem (by decide +kernel) (by decide +kernel)
theorem ws_J7_fill_031fb : Cond.static yJ7_fill_031fb ∈ ux := ux_mem (by decide +kernel) (by decide +kernel)
theorem wc_J7_fill_53178 : Cond.code yJ7_fill_53178 cJ7_fill_53178 4 none ∈ ux := ux_mem (by decide +kernel) (by decide +kernel)
theorem ws_J7_fill_53178 : Cond.static yJ7_fill_53178 ∈ ux := ux_mem (by decide +kernel) (by decide +kernel)
theorem wc_J9_max_7cf53 : Cond.code yJ9_max_7cf53 cJ9_max_7cf53 2 (some .int) ∈ ux := ux_mem (by decide +kernel) (by decide +kernel)
theorem ws_J9_max_7cf53 : Cond.static yJ9_max_7cf53 ∈ ux := ux_mem (by decide +kernel) (by decide +kernel)
theorem wc_J9_min_7cf53 : Cond.code yJ9_min_7cf53 cJ9_min_7cf53 2 (some .int) ∈ ux := ux_mem (by decide +kernel) (by decide +kernel)
theorem ws_J9_min_7cf53 : Cond.static yJ9_min_7cf53 ∈ ux := ux_mem (by decide +kernel) (by decide +kernel)
theorem wc_X0_clear : Cond.code yX0_clear cX0_clear 1 none ∈ ux := ux_mem (by decide +kernel) (by decide +kernel)
theorem wi_X0_clear : Cond.instanceMethod yX0_clear ∈ ux := ux_mem (by decide +kernel) (by decide +kernel)
theorem wv_X0_clear : Cond.selects RX0 yX0_clear yX0_clear ∈ ux := ux_mem (by decide +kernel) (by decide +kernel)
theorem wc_X0_keep : Cond.code yX0_keep cX0_keep 3 none ∈ ux := ux_mem (by decide +kernel) (by decide +kernel)
theorem wi_X0_keep : Cond.instanceMethod yX0_keep ∈ ux := ux_mem (by decide +kernel) (by decide +kernel)
theorem wv_X0_keep : Cond.selects RX0 yX0_keep yX0_keep ∈ ux := ux_mem (by decide +kernel) (by decide +kernel)
theorem wc_X0_madeThere : Cond.code yX0_madeThere cX0_madeThere 1 (some .int) ∈ ux := ux_mem (by decide +kernel) (by decide +kernel)
theorem wi_X0_madeThere : Cond.instanceMethod yX0_madeThere ∈ ux := ux_mem (by decide +kernel) (by decide +kernel)
theorem wv_X0_madeThere : Cond.selects RX0 yX0_madeThere yX0_madeThere ∈ ux := ux_mem (by decide +kernel) (by decide +kernel)
theorem wc_X0_sceneThere : Cond.code yX0_sceneThere cX0_sceneThere 1 (some .int) ∈ ux := ux_mem (by decide +kernel) (by decide +kernel)
theorem wi_X0_sceneThere : Cond.instanceMethod yX0_sceneThere ∈ ux := ux_mem (by decide +kernel) (by decide +kernel)
theorem wv_X0_sceneThere : Cond.selects RX0 yX0_sceneThere yX0_sceneThere ∈ ux := ux_mem (by decide +kernel) (by decide +kernel)
theorem wc_X0_stepBack : Cond.code yX0_stepBack cX0_stepBack 1 none ∈ ux := ux_mem (by decide +kernel) (by decide +kernel)
theorem wi_X0_stepBack : Cond.instanceMethod yX0_stepBack ∈ ux := ux_mem (by decide +kernel) (by decide +kernel)
theorem wv_X0_stepBack : Cond.selects RX0 yX0_stepBack yX0_stepBack ∈ ux := ux_mem (by decide +kernel) (by decide +kernel)
theorem wc_X1_actAt : Cond.code yX1_actAt cX1_actAt 2 (some .int) ∈ ux := ux_mem (by decide +kernel) (by decide +kernel)
theorem wi_X1_actAt : Cond.instanceMethod yX1_actAt ∈ ux := ux_mem (by decide +kernel) (by decide +kernel)
theorem wv_X1_actAt : Cond.selects RX1 yX1_actAt yX1_actAt ∈ ux := ux_mem (by decide +kernel) (by decide +kernel)
theorem wc_X1_actsFor : Cond.code yX1_actsFor cX1_actsFor 2 (some .int) ∈ ux := ux_mem (by decide +kernel) (by decide +kernel)
theorem wi_X1_actsFor : Cond.instanceMethod yX1_actsFor ∈ ux := ux_mem (by decide +kernel) (by decide +kernel)
theorem wv_X1_actsFor : Cond.selects RX1 yX1_actsFor yX1_actsFor ∈ ux := ux_mem (by decide +kernel) (by decide +kernel)
theorem wc_X1_dropDetours : Cond.code yX1_dropDetours cX1_dropDetours 5 none ∈ ux := ux_mem (by decide +kernel) (by decide +kernel)
theorem wi_X1_dropDetours : Cond.instanceMethod yX1_dropDetours ∈ ux := ux_mem (by decide +kernel) (by decide +kernel)
theorem wv_X1_dropDetours : Cond.selects RX1 yX1_dropDetours yX1_dropDetours ∈ ux := ux_mem (by decide +kernel) (by decide +kernel)
theorem wc_X1_explore : Cond.code yX1_explore cX1_explore 8 none ∈ ux := ux_mem (by decide +kernel) (by decide +kernel)
theorem wi_X1_explore : Cond.instanceMethod yX1_explore ∈ ux := ux_mem (by decide +kernel) (by decide +kernel)
theorem wv_X1_explore : Cond.selects RX1 yX1_explore yX1_explore ∈ ux := ux_mem (by decide +kernel) (by decide +kernel)
theorem wc_X1_firstActOn : Cond.code yX1_firstActOn cX1_firstActOn 6 (some .int) ∈ ux := ux_mem (by decide +kernel) (by decide +kernel)
theorem wi_X1_firstActOn : Cond.instanceMethod yX1_firstActOn ∈ ux := ux_mem (by decide +kernel) (by decide +kernel)
theorem wv_X1_firstActOn : Cond.selects RX1 yX1_firstActOn yX1_firstActOn ∈ ux := ux_mem (by decide +kernel) (by decide +kernel)
theorem wc_X1_init : Cond.code yX1_init cX1_init 2 none ∈ ux := ux_mem (by decide +kernel) (by decide +kernel)
theorem wi_X1_init : Cond.instanceMethod yX1_init ∈ ux := ux_mem (by decide +kernel) (by decide +kernel)
theorem wc_X1_join : Cond.code yX1_join cX1_join 3 none ∈ ux := ux_mem (by decide +kernel) (by decide +kernel)
theorem wi_X1_join : Cond.instanceMethod yX1_join ∈ ux := ux_mem (by decide +kernel) (by decide +kernel)
theorem wv_X1_join : Cond.selects RX1 yX1_join yX1_join ∈ ux := ux_mem (by decide +kernel) (by decide +kernel)
theorem wc_X1_makesFor : Cond.code yX1_makesFor cX1_makesFor 2 (some .int) ∈ ux := ux_mem (by decide +kernel) (by decide +kernel)
theorem wi_X1_makesFor : Cond.instanceMethod yX1_makesFor ∈ ux := ux_mem (by decide +kernel) (by decide +kernel)
theorem wv_X1_makesFor : Cond.selects RX1 yX1_makesFor yX1_makesFor ∈ ux := ux_mem (by decide +kernel) (by decide +kernel)
theorem wc_X1_outdate : Cond.code yX1_outdate cX1_outdate 1 none ∈ ux := ux_mem (by decide +kernel) (by decide +kernel)
theorem wi_X1_outdate : Cond.instanceMethod yX1_outdate ∈ ux := ux_mem (by decide +kernel) (by decide +kernel)
theorem wv_X1_outdate : Cond.selects RX1 yX1_outdate yX1_outdate ∈ ux := ux_mem (by decide +kernel) (by decide +kernel)
theorem wc_X1_scenesFor : Cond.code yX1_scenesFor cX1_scenesFor 5 (some .int) ∈ ux := ux_mem (by decide +kernel) (by decide +kernel)
theorem wi_X1_scenesFor : Cond.instanceMethod yX1_scenesFor ∈ ux := ux_mem (by decide +kernel) (by decide +kernel)
theorem wv_X1_scenesFor : Cond.selects RX1 yX1_scenesFor yX1_scenesFor ∈ ux := ux_mem (by decide +kernel) (by decide +kernel)
theorem wc_X1_spread : Cond.code yX1_spread cX1_spread 7 none ∈ ux := ux_mem (by decide +kernel) (by decide +kernel)
theorem wi_X1_spread : Cond.instanceMethod yX1_spread ∈ ux := ux_mem (by decide +kernel) (by decide +kernel)
theorem wv_X1_spread : Cond.selects RX1 yX1_spread yX1_spread ∈ ux := ux_mem (by decide +kernel) (by decide +kernel)
theorem wc_X1_startLine : Cond.code yX1_startLine cX1_startLine 2 none ∈ ux := ux_mem (by decide +kernel) (by decide +kernel)
theorem wi_X1_startLine : Cond.instanceMethod yX1_startLine ∈ ux := ux_mem (by decide +kernel) (by decide +kernel)
theorem wv_X1_startLine : Cond.selects RX1 yX1_startLine yX1_startLine ∈ ux := ux_mem (by decide +kernel) (by decide +kernel)
theorem wc_X1_writePlan : Cond.code yX1_writePlan cX1_writePlan 6 none ∈ ux := ux_mem (by decide +kernel) (by decide +kernel)
theorem wi_X1_writePlan : Cond.instanceMethod yX1_writePlan ∈ ux := ux_mem (by decide +kernel) (by decide +kernel)
theorem wv_X1_writePlan : Cond.selects RX1 yX1_writePlan yX1_writePlan ∈ ux := ux_mem (by decide +kernel) (by decide +kernel)
theorem wc_X2_build : Cond.code yX2_build cX2_build 4 (some .int) ∈ ux := ux_mem (by decide +kernel) (by decide +kernel)
theorem wi_X2_build : Cond.instanceMethod yX2_build ∈ ux := ux_mem (by decide +kernel) (by decide +kernel)
theorem wv_X2_build : Cond.selects RX2 yX2_build yX2_build ∈ ux := ux_mem (by decide +kernel) (by decide +kernel)
theorem wc_X2_examine : Cond.code yX2_examine cX2_examine 4 (some .int) ∈ ux := ux_mem (by decide +kernel) (by decide +kernel)
theorem wi_X2_examine : Cond.instanceMethod yX2_examine ∈ ux := ux_mem (by decide +kernel) (by decide +kernel)
theorem wv_X2_examine : Cond.selects RX2 yX2_examine yX2_examine ∈ ux := ux_mem (by decide +kernel) (by decide +kernel)
theorem wc_X2_faultOf : Cond.code yX2_faultOf cX2_faultOf 5 (some .int) ∈ ux := ux_mem (by decide +kernel) (by decide +kernel)
theorem wi_X2_faultOf : Cond.instanceMethod yX2_faultOf ∈ ux := ux_mem (by decide +kernel) (by decide +kernel)
theorem wv_X2_faultOf : Cond.selects RX2 yX2_faultOf yX2_faultOf ∈ ux := ux_mem (by decide +kernel) (by decide +kernel)
theorem wc_X2_init : Cond.code yX2_init cX2_init 2 none ∈ ux := ux_mem (by decide +kernel) (by decide +kernel)
theorem wi_X2_init : Cond.instanceMethod yX2_init ∈ ux := ux_mem (by decide +kernel) (by decide +kernel)
theorem wc_X2_join : Cond.code yX2_join cX2_join 2 none ∈ ux := ux_mem (by decide +kernel) (by decide +kernel)
theorem wi_X2_join : Cond.instanceMethod yX2_join ∈ ux := ux_mem (by decide +kernel) (by decide +kernel)
theorem wv_X2_join : Cond.selects RX2 yX2_join yX2_join ∈ ux := ux_mem (by decide +kernel) (by decide +kernel)
theorem wc_X2_turn : Cond.code yX2_turn cX2_turn 2 (some .int) ∈ ux := ux_mem (by decide +kernel) (by decide +kernel)
theorem wi_X2_turn : Cond.instanceMethod yX2_turn ∈ ux := ux_mem (by decide +kernel) (by decide +kernel)
theorem wv_X2_turn : Cond.selects RX2 yX2_turn yX2_turn ∈ ux := ux_mem (by decide +kernel) (by decide +kernel)
theorem wc_X3_begin : Cond.code yX3_begin cX3_begin 5 none ∈ ux := ux_mem (by decide +kernel) (by decide +kernel)
theorem wi_X3_begin : Cond.instanceMethod yX3_begin ∈ ux := ux_mem (by decide +kernel) (by decide +kernel)
theorem wv_X3_begin : Cond.selects RX3 yX3_begin yX3_begin ∈ ux := ux_mem (by decide +kernel) (by decide +kernel)
theorem wc_X3_bitOf : Cond.code yX3_bitOf cX3_bitOf 1 (some .int) ∈ ux := ux_mem (by decide +kernel) (by decide +kernel)
theorem ws_X3_bitOf : Cond.static yX3_bitOf ∈ ux := ux_mem (by decide +kernel) (by decide +kernel)
theorem wc_X3_drop : Cond.code yX3_drop cX3_drop 2 none ∈ ux := ux_mem (by decide +kernel) (by decide +kernel)
theorem wi_X3_drop : Cond.instanceMethod yX3_drop ∈ ux := ux_mem (by decide +kernel) (by decide +kernel)
theorem wv_X3_drop : Cond.selects RX3 yX3_drop yX3_drop ∈ ux := ux_mem (by decide +kernel) (by decide +kernel)
theorem wc_X3_firstNamedBit : Cond.code yX3_firstNamedBit cX3_firstNamedBit 3 (some .int) ∈ ux := ux_mem (by decide +kernel) (by decide +kernel)
theorem wi_X3_firstNamedBit : Cond.instanceMethod yX3_firstNamedBit ∈ ux := ux_mem (by decide +kernel) (by decide +kernel)
theorem wv_X3_firstNamedBit : Cond.selects RX3 yX3_firstNamedBit yX3_firstNamedBit ∈ ux := ux_mem (by decide +kernel) (by decide +kernel)
theorem wc_X3_has : Cond.code yX3_has cX3_has 2 (some .boolean) ∈ ux := ux_mem (by decide +kernel) (by decide +kernel)
theorem wi_X3_has : Cond.instanceMethod yX3_has ∈ ux := ux_mem (by decide +kernel) (by decide +kernel)
theorem wv_X3_has : Cond.selects RX3 yX3_has yX3_has ∈ ux := ux_mem (by decide +kernel) (by decide +kernel)
theorem wc_X3_hasPlace : Cond.code yX3_hasPlace cX3_hasPlace 3 (some .boolean) ∈ ux := ux_mem (by decide +kernel) (by decide +kernel)
theorem wi_X3_hasPlace : Cond.instanceMethod yX3_hasPlace ∈ ux := ux_mem (by decide +kernel) (by decide +kernel)
theorem wv_X3_hasPlace : Cond.selects RX3 yX3_hasPlace yX3_hasPlace ∈ ux := ux_mem (by decide +kernel) (by decide +kernel)
theorem wc_X3_init : Cond.code yX3_init cX3_init 1 none ∈ ux := ux_mem (by decide +kernel) (by decide +kernel)
theorem wi_X3_init : Cond.instanceMethod yX3_init ∈ ux := ux_mem (by decide +kernel) (by decide +kernel)
theorem wc_X3_nameAt : Cond.code yX3_nameAt cX3_nameAt 3 (some .int) ∈ ux := ux_mem (by decide +kernel) (by decide +kernel)
theorem wi_X3_nameAt : Cond.instanceMethod yX3_nameAt ∈ ux := ux_mem (by decide +kernel) (by decide +kernel)
theorem wv_X3_nameAt : Cond.selects RX3 yX3_nameAt yX3_nameAt ∈ ux := ux_mem (by decide +kernel) (by decide +kernel)
theorem wc_X3_namedBits : Cond.code yX3_namedBits cX3_namedBits 4 (some .int) ∈ ux := ux_mem (by decide +kernel) (by decide +kernel)
theorem wi_X3_namedBits : Cond.instanceMethod yX3_namedBits ∈ ux := ux_mem (by decide +kernel) (by decide +kernel)
theorem wv_X3_namedBits : Cond.selects RX3 yX3_namedBits yX3_namedBits ∈ ux := ux_mem (by decide +kernel) (by decide +kernel)
theorem wc_X3_setName : Cond.code yX3_setName cX3_setName 4 none ∈ ux := ux_mem (by decide +kernel) (by decide +kernel)
theorem wi_X3_setName : Cond.instanceMethod yX3_setName ∈ ux := ux_mem (by decide +kernel) (by decide +kernel)
theorem wv_X3_setName : Cond.selects RX3 yX3_setName yX3_setName ∈ ux := ux_mem (by decide +kernel) (by decide +kernel)
theorem wc_X4_closes : Cond.code yX4_closes cX4_closes 6 (some .boolean) ∈ ux := ux_mem (by decide +kernel) (by decide +kernel)
theorem wi_X4_closes : Cond.instanceMethod yX4_closes ∈ ux := ux_mem (by decide +kernel) (by decide +kernel)
theorem wv_X4_closes : Cond.selects RX4 yX4_closes yX4_closes ∈ ux := ux_mem (by decide +kernel) (by decide +kernel)
theorem wc_X4_measure : Cond.code yX4_measure cX4_measure 7 none ∈ ux := ux_mem (by decide +kernel) (by decide +kernel)
theorem wi_X4_measure : Cond.instanceMethod yX4_measure ∈ ux := ux_mem (by decide +kernel) (by decide +kernel)
theorem wv_X4_measure : Cond.selects RX4 yX4_measure yX4_measure ∈ ux := ux_mem (by decide +kernel) (by decide +kernel)
theorem wc_X4_nearer : Cond.code yX4_nearer cX4_nearer 5 (some .int) ∈ ux := ux_mem (by decide +kernel) (by decide +kernel)
theorem wi_X4_nearer : Cond.instanceMethod yX4_nearer ∈ ux := ux_mem (by decide +kernel) (by decide +kernel)
theorem wv_X4_nearer : Cond.selects RX4 yX4_nearer yX4_nearer ∈ ux := ux_mem (by decide +kernel) (by decide +kernel)
theorem wc_X5_addBath : Cond.code yX5_addBath cX5_addBath 3 (some .int) ∈ ux := ux_mem (by decide +kernel) (by decide +kernel)
theorem wi_X5_addBath : Cond.instanceMethod yX5_addBath ∈ ux := ux_mem (by decide +kernel) (by decide +kernel)
theorem wv_X5_addBath : Cond.selects RX5 yX5_addBath yX5_addBath ∈ ux := ux_mem (by decide +kernel) (by decide +kernel)
theorem wc_X5_addGoal : Cond.code yX5_addGoal cX5_addGoal 2 (some .int) ∈ ux := ux_mem (by decide +kernel) (by decide +kernel)
theorem wi_X5_addGoal : Cond.instanceMethod yX5_addGoal ∈ ux := ux_mem (by decide +kernel) (by decide +kernel)
theorem wv_X5_addGoal : Cond.selects RX5 yX5_addGoal yX5_addGoal ∈ ux := ux_mem (by decide +kernel) (by decide +kernel)
theorem wc_X5_allFillOne : Cond.code yX5_allFillOne cX5_allFillOne 1 (some .boolean) ∈ ux := ux_mem (by decide +kernel) (by decide +kernel)
theorem wi_X5_allFillOne : Cond.instanceMethod yX5_allFillOne ∈ ux := ux_mem (by decide +kernel) (by decide +kernel)
theorem wv_X5_allFillOne : Cond.selects RX5 yX5_allFillOne yX5_allFillOne ∈ ux := ux_mem (by decide +kernel) (by decide +kernel)
theorem wc_X5_dropGoals : Cond.code yX5_dropGoals cX5_dropGoals 1 none ∈ ux := ux_mem (by decide +kernel) (by decide +kernel)
theorem wi_X5_dropGoals : Cond.instanceMethod yX5_dropGoals ∈ ux := ux_mem (by decide +kernel) (by decide +kernel)
theorem wv_X5_dropGoals : Cond.selects RX5 yX5_dropGoals yX5_dropGoals ∈ ux := ux_mem (by decide +kernel) (by decide +kernel)
theorem wc_X5_filled : Cond.code yX5_filled cX5_filled 2 (some .int) ∈ ux := ux_mem (by decide +kernel) (by decide +kernel)
theorem wi_X5_filled : Cond.instanceMethod yX5_filled ∈ ux := ux_mem (by decide +kernel) (by decide +kernel)
theorem wv_X5_filled : Cond.selects RX5 yX5_filled yX5_filled ∈ ux := ux_mem (by decide +kernel) (by decide +kernel)
theorem wc_X5_filledBy : Cond.code yX5_filledBy cX5_filledBy 4 (some .int) ∈ ux := ux_mem (by decide +kernel) (by decide +kernel)
theorem wi_X5_filledBy : Cond.instanceMethod yX5_filledBy ∈ ux := ux_mem (by decide +kernel) (by decide +kernel)
theorem wv_X5_filledBy : Cond.selects RX5 yX5_filledBy yX5_filledBy ∈ ux := ux_mem (by decide +kernel) (by decide +kernel)
theorem wc_X5_freshBit : Cond.code yX5_freshBit cX5_freshBit 1 (some .int) ∈ ux := ux_mem (by decide +kernel) (by decide +kernel)
theorem ws_X5_freshBit : Cond.static yX5_freshBit ∈ ux := ux_mem (by decide +kernel) (by decide +kernel)
theorem wc_X5_hasFrail : Cond.code yX5_hasFrail cX5_hasFrail 1 (some .boolean) ∈ ux := ux_mem (by decide +kernel) (by decide +kernel)
theorem wi_X5_hasFrail : Cond.instanceMethod yX5_hasFrail ∈ ux := ux_mem (by decide +kernel) (by decide +kernel)
theorem wv_X5_hasFrail : Cond.selects RX5 yX5_hasFrail yX5_hasFrail ∈ ux := ux_mem (by decide +kernel) (by decide +kernel)
theorem wc_X5_hindrance : Cond.code yX5_hindrance cX5_hindrance 8 (some .int) ∈ ux := ux_mem (by decide +kernel) (by decide +kernel)
theorem wi_X5_hindrance : Cond.instanceMethod yX5_hindrance ∈ ux := ux_mem (by decide +kernel) (by decide +kernel)
theorem wv_X5_hindrance : Cond.selects RX5 yX5_hindrance yX5_hindrance ∈ ux := ux_mem (by decide +kernel) (by decide +kernel)
theorem wc_X5_isBath : Cond.code yX5_isBath cX5_isBath 2 (some .boolean) ∈ ux := ux_mem (by decide +kernel) (by decide +kernel)
theorem wi_X5_isBath : Cond.instanceMethod yX5_isBath ∈ ux := ux_mem (by decide +kernel) (by decide +kernel)
theorem wv_X5_isBath : Cond.selects RX5 yX5_isBath yX5_isBath ∈ ux := ux_mem (by decide +kernel) (by decide +kernel)
theorem wc_X5_isGoal : Cond.code yX5_isGoal cX5_isGoal 2 (some .boolean) ∈ ux := ux_mem (by decide +kernel) (by decide +kernel)
theorem wi_X5_isGoal : Cond.instanceMethod yX5_isGoal ∈ ux := ux_mem (by decide +kernel) (by decide +kernel)
theorem wv_X5_isGoal : Cond.selects RX5 yX5_isGoal yX5_isGoal ∈ ux := ux_mem (by decide +kernel) (by decide +kernel)
theorem wc_X5_known : Cond.code yX5_known cX5_known 4 (some .boolean) ∈ ux := ux_mem (by decide +kernel) (by decide +kernel)
theorem wi_X5_known : Cond.instanceMethod yX5_known ∈ ux := ux_mem (by decide +kernel) (by decide +kernel)
theorem wv_X5_known : Cond.selects RX5 yX5_known yX5_known ∈ ux := ux_mem (by decide +kernel) (by decide +kernel)
theorem wc_X5_lead : Cond.code yX5_lead cX5_lead 5 (some .int) ∈ ux := ux_mem (by decide +kernel) (by decide +kernel)
theorem wi_X5_lead : Cond.instanceMethod yX5_lead ∈ ux := ux_mem (by decide +kernel) (by decide +kernel)
theorem wv_X5_lead : Cond.selects RX5 yX5_lead yX5_lead ∈ ux := ux_mem (by decide +kernel) (by decide +kernel)
theorem wc_X5_learn : Cond.code yX5_learn cX5_learn 4 none ∈ ux := ux_mem (by decide +kernel) (by decide +kernel)
theorem wi_X5_learn : Cond.instanceMethod yX5_learn ∈ ux := ux_mem (by decide +kernel) (by decide +kernel)
theorem wv_X5_learn : Cond.selects RX5 yX5_learn yX5_learn ∈ ux := ux_mem (by decide +kernel) (by decide +kernel)
theorem wc_X5_nextTold : Cond.code yX5_nextTold cX5_nextTold 4 (some .int) ∈ ux := ux_mem (by decide +kernel) (by decide +kernel)
theorem wi_X5_nextTold : Cond.instanceMethod yX5_nextTold ∈ ux := ux_mem (by decide +kernel) (by decide +kernel)
theorem wv_X5_nextTold : Cond.selects RX5 yX5_nextTold yX5_nextTold ∈ ux := ux_mem (by decide +kernel) (by decide +kernel)
theorem wc_X5_reaches : Cond.code yX5_reaches cX5_reaches 3 (some .boolean) ∈ ux := ux_mem (by decide +kernel) (by decide +kernel)
theorem wi_X5_reaches : Cond.instanceMethod yX5_reaches ∈ ux := ux_mem (by decide +kernel) (by decide +kernel)
theorem wv_X5_reaches : Cond.selects RX5 yX5_reaches yX5_reaches ∈ ux := ux_mem (by decide +kernel) (by decide +kernel)
theorem wc_X5_stands : Cond.code yX5_stands cX5_stands 2 (some .boolean) ∈ ux := ux_mem (by decide +kernel) (by decide +kernel)
theorem ws_X5_stands : Cond.static yX5_stands ∈ ux := ux_mem (by decide +kernel) (by decide +kernel)
theorem wc_X5_whenMade : Cond.code yX5_whenMade cX5_whenMade 5 (some .int) ∈ ux := ux_mem (by decide +kernel) (by decide +kernel)
theorem wi_X5_whenMade : Cond.instanceMethod yX5_whenMade ∈ ux := ux_mem (by decide +kernel) (by decide +kernel)
theorem wv_X5_whenMade : Cond.selects RX5 yX5_whenMade yX5_whenMade ∈ ux := ux_mem (by decide +kernel) (by decide +kernel)
theorem wc_X5_whenPoured : Cond.code yX5_whenPoured cX5_whenPoured 3 (some .int) ∈ ux := ux_mem (by decide +kernel) (by decide +kernel)
theorem ws_X5_whenPoured : Cond.static yX5_whenPoured ∈ ux := ux_mem (by decide +kernel) (by decide +kernel)
theorem wc_X5_withStood : Cond.code yX5_withStood cX5_withStood 4 (some .int) ∈ ux := ux_mem (by decide +kernel) (by decide +kernel)
theorem wi_X5_withStood : Cond.instanceMethod yX5_withStood ∈ ux := ux_mem (by decide +kernel) (by decide +kernel)
theorem wv_X5_withStood : Cond.selects RX5 yX5_withStood yX5_withStood ∈ ux := ux_mem (by decide +kernel) (by decide +kernel)
theorem wc_X6_anyStands : Cond.code yX6_anyStands cX6_anyStands 1 (some .boolean) ∈ ux := ux_mem (by decide +kernel) (by decide +kernel)
theorem wi_X6_anyStands : Cond.instanceMethod yX6_anyStands ∈ ux := ux_mem (by decide +kernel) (by decide +kernel)
theorem wv_X6_anyStands : Cond.selects RX6 yX6_anyStands yX6_anyStands ∈ ux := ux_mem (by decide +kernel) (by decide +kernel)
theorem wc_X6_bath : Cond.code yX6_bath cX6_bath 2 (some .int) ∈ ux := ux_mem (by decide +kernel) (by decide +kernel)
theorem wi_X6_bath : Cond.instanceMethod yX6_bath ∈ ux := ux_mem (by decide +kernel) (by decide +kernel)
theorem wv_X6_bath : Cond.selects RX6 yX6_bath yX6_bath ∈ ux := ux_mem (by decide +kernel) (by decide +kernel)
theorem wc_X6_bit : Cond.code yX6_bit cX6_bit 2 (some .int) ∈ ux := ux_mem (by decide +kernel) (by decide +kernel)
theorem wi_X6_bit : Cond.instanceMethod yX6_bit ∈ ux := ux_mem (by decide +kernel) (by decide +kernel)
theorem wv_X6_bit : Cond.selects RX6 yX6_bit yX6_bit ∈ ux := ux_mem (by decide +kernel) (by decide +kernel)
theorem wc_X6_check : Cond.code yX6_check cX6_check 2 (some .int) ∈ ux := ux_mem (by decide +kernel) (by decide +kernel)
theorem wi_X6_check : Cond.instanceMethod yX6_check ∈ ux := ux_mem (by decide +kernel) (by decide +kernel)
theorem wv_X6_check : Cond.selects RX6 yX6_check yX6_check ∈ ux := ux_mem (by decide +kernel) (by decide +kernel)
theorem wc_X6_count : Cond.code yX6_count cX6_count 2 (some .int) ∈ ux := ux_mem (by decide +kernel) (by decide +kernel)
theorem wi_X6_count : Cond.instanceMethod yX6_count ∈ ux := ux_mem (by decide +kernel) (by decide +kernel)
theorem wv_X6_count : Cond.selects RX6 yX6_count yX6_count ∈ ux := ux_mem (by decide +kernel) (by decide +kernel)
theorem wc_X6_fewest : Cond.code yX6_fewest cX6_fewest 2 (some .int) ∈ ux := ux_mem (by decide +kernel) (by decide +kernel)
theorem wi_X6_fewest : Cond.instanceMethod yX6_fewest ∈ ux := ux_mem (by decide +kernel) (by decide +kernel)
theorem wv_X6_fewest : Cond.selects RX6 yX6_fewest yX6_fewest ∈ ux := ux_mem (by decide +kernel) (by decide +kernel)
theorem wc_X6_flip : Cond.code yX6_flip cX6_flip 2 (some .int) ∈ ux := ux_mem (by decide +kernel) (by decide +kernel)
theorem wi_X6_flip : Cond.instanceMethod yX6_flip ∈ ux := ux_mem (by decide +kernel) (by decide +kernel)
theorem wv_X6_flip : Cond.selects RX6 yX6_flip yX6_flip ∈ ux := ux_mem (by decide +kernel) (by decide +kernel)
theorem wc_X6_forget : Cond.code yX6_forget cX6_forget 2 (some .int) ∈ ux := ux_mem (by decide +kernel) (by decide +kernel)
theorem wi_X6_forget : Cond.instanceMethod yX6_forget ∈ ux := ux_mem (by decide +kernel) (by decide +kernel)
theorem wv_X6_forget : Cond.selects RX6 yX6_forget yX6_forget ∈ ux := ux_mem (by decide +kernel) (by decide +kernel)
theorem wc_X6_freeVats : Cond.code yX6_freeVats cX6_freeVats 1 (some .int) ∈ ux := ux_mem (by decide +kernel) (by decide +kernel)
theorem wi_X6_freeVats : Cond.instanceMethod yX6_freeVats ∈ ux := ux_mem (by decide +kernel) (by decide +kernel)
theorem wv_X6_freeVats : Cond.selects RX6 yX6_freeVats yX6_freeVats ∈ ux := ux_mem (by decide +kernel) (by decide +kernel)
theorem wc_X6_goal : Cond.code yX6_goal cX6_goal 2 (some .int) ∈ ux := ux_mem (by decide +kernel) (by decide +kernel)
theorem wi_X6_goal : Cond.instanceMethod yX6_goal ∈ ux := ux_mem (by decide +kernel) (by decide +kernel)
theorem wv_X6_goal : Cond.selects RX6 yX6_goal yX6_goal ∈ ux := ux_mem (by decide +kernel) (by decide +kernel)
theorem wc_X6_init : Cond.code yX6_init cX6_init 1 none ∈ ux := ux_mem (by decide +kernel) (by decide +kernel)
theorem wi_X6_init : Cond.instanceMethod yX6_init ∈ ux := ux_mem (by decide +kernel) (by decide +kernel)
theorem wc_X6_isRowBit : Cond.code yX6_isRowBit cX6_isRowBit 1 (some .boolean) ∈ ux := ux_mem (by decide +kernel) (by decide +kernel)
theorem ws_X6_isRowBit : Cond.static yX6_isRowBit ∈ ux := ux_mem (by decide +kernel) (by decide +kernel)
theorem wc_X6_isType : Cond.code yX6_isType cX6_isType 1 (some .boolean) ∈ ux := ux_mem (by decide +kernel) (by decide +kernel)
theorem ws_X6_isType : Cond.static yX6_isType ∈ ux := ux_mem (by decide +kernel) (by decide +kernel)
theorem wc_X6_isVatCount : Cond.code yX6_isVatCount cX6_isVatCount 1 (some .boolean) ∈ ux := ux_mem (by decide +kernel) (by decide +kernel)
theorem ws_X6_isVatCount : Cond.static yX6_isVatCount ∈ ux := ux_mem (by decide +kernel) (by decide +kernel)
theorem wc_X6_least : Cond.code yX6_least cX6_least 2 (some .int) ∈ ux := ux_mem (by decide +kernel) (by decide +kernel)
theorem wi_X6_least : Cond.instanceMethod yX6_least ∈ ux := ux_mem (by decide +kernel) (by decide +kernel)
theorem wv_X6_least : Cond.selects RX6 yX6_least yX6_least ∈ ux := ux_mem (by decide +kernel) (by decide +kernel)
theorem wc_X6_lose : Cond.code yX6_lose cX6_lose 3 (some .int) ∈ ux := ux_mem (by decide +kernel) (by decide +kernel)
theorem wi_X6_lose : Cond.instanceMethod yX6_lose ∈ ux := ux_mem (by decide +kernel) (by decide +kernel)
theorem wv_X6_lose : Cond.selects RX6 yX6_lose yX6_lose ∈ ux := ux_mem (by decide +kernel) (by decide +kernel)
theorem wc_X6_make : Cond.code yX6_make cX6_make 2 (some .int) ∈ ux := ux_mem (by decide +kernel) (by decide +kernel)
theorem wi_X6_make : Cond.instanceMethod yX6_make ∈ ux := ux_mem (by decide +kernel) (by decide +kernel)
theorem wv_X6_make : Cond.selects RX6 yX6_make yX6_make ∈ ux := ux_mem (by decide +kernel) (by decide +kernel)
theorem wc_X6_named : Cond.code yX6_named cX6_named 4 (some .int) ∈ ux := ux_mem (by decide +kernel) (by decide +kernel)
theorem wi_X6_named : Cond.instanceMethod yX6_named ∈ ux := ux_mem (by decide +kernel) (by decide +kernel)
theorem wv_X6_named : Cond.selects RX6 yX6_named yX6_named ∈ ux := ux_mem (by decide +kernel) (by decide +kernel)
theorem wc_X6_need : Cond.code yX6_need cX6_need 5 (some .int) ∈ ux := ux_mem (by decide +kernel) (by decide +kernel)
theorem wi_X6_need : Cond.instanceMethod yX6_need ∈ ux := ux_mem (by decide +kernel) (by decide +kernel)
theorem wv_X6_need : Cond.selects RX6 yX6_need yX6_need ∈ ux := ux_mem (by decide +kernel) (by decide +kernel)
theorem wc_X6_of : Cond.code yX6_of cX6_of 3 (some .int) ∈ ux := ux_mem (by decide +kernel) (by decide +kernel)
theorem wi_X6_of : Cond.instanceMethod yX6_of ∈ ux := ux_mem (by decide +kernel) (by decide +kernel)
theorem wv_X6_of : Cond.selects RX6 yX6_of yX6_of ∈ ux := ux_mem (by decide +kernel) (by decide +kernel)
theorem wc_X6_order : Cond.code yX6_order cX6_order 5 (some .int) ∈ ux := ux_mem (by decide +kernel) (by decide +kernel)
theorem wi_X6_order : Cond.instanceMethod yX6_order ∈ ux := ux_mem (by decide +kernel) (by decide +kernel)
theorem wv_X6_order : Cond.selects RX6 yX6_order yX6_order ∈ ux := ux_mem (by decide +kernel) (by decide +kernel)
theorem wc_X6_plan : Cond.code yX6_plan cX6_plan 4 (some .int) ∈ ux := ux_mem (by decide +kernel) (by decide +kernel)
theorem wi_X6_plan : Cond.instanceMethod yX6_plan ∈ ux := ux_mem (by decide +kernel) (by decide +kernel)
theorem wv_X6_plan : Cond.selects RX6 yX6_plan yX6_plan ∈ ux := ux_mem (by decide +kernel) (by decide +kernel)
theorem wc_X6_pour : Cond.code yX6_pour cX6_pour 2 (some .int) ∈ ux := ux_mem (by decide +kernel) (by decide +kernel)
theorem wi_X6_pour : Cond.instanceMethod yX6_pour ∈ ux := ux_mem (by decide +kernel) (by decide +kernel)
theorem wv_X6_pour : Cond.selects RX6 yX6_pour yX6_pour ∈ ux := ux_mem (by decide +kernel) (by decide +kernel)
theorem wc_X6_reach : Cond.code yX6_reach cX6_reach 2 (some .int) ∈ ux := ux_mem (by decide +kernel) (by decide +kernel)
theorem wi_X6_reach : Cond.instanceMethod yX6_reach ∈ ux := ux_mem (by decide +kernel) (by decide +kernel)
theorem wv_X6_reach : Cond.selects RX6 yX6_reach yX6_reach ∈ ux := ux_mem (by decide +kernel) (by decide +kernel)
theorem wc_X6_recipe : Cond.code yX6_recipe cX6_recipe 4 (some .int) ∈ ux := ux_mem (by decide +kernel) (by decide +kernel)
theorem wi_X6_recipe : Cond.instanceMethod yX6_recipe ∈ ux := ux_mem (by decide +kernel) (by decide +kernel)
theorem wv_X6_recipe : Cond.selects RX6 yX6_recipe yX6_recipe ∈ ux := ux_mem (by decide +kernel) (by decide +kernel)
theorem wc_X6_recipeChanged : Cond.code yX6_recipeChanged cX6_recipeChanged 2 none ∈ ux := ux_mem (by decide +kernel) (by decide +kernel)
theorem wi_X6_recipeChanged : Cond.instanceMethod yX6_recipeChanged ∈ ux := ux_mem (by decide +kernel) (by decide +kernel)
theorem wv_X6_recipeChanged : Cond.selects RX6 yX6_recipeChanged yX6_recipeChanged ∈ ux := ux_mem (by decide +kernel) (by decide +kernel)
theorem wc_X6_ring : Cond.code yX6_ring cX6_ring 2 (some .int) ∈ ux := ux_mem (by decide +kernel) (by decide +kernel)
theorem wi_X6_ring : Cond.instanceMethod yX6_ring ∈ ux := ux_mem (by decide +kernel) (by decide +kernel)
theorem wv_X6_ring : Cond.selects RX6 yX6_ring yX6_ring ∈ ux := ux_mem (by decide +kernel) (by decide +kernel)
theorem wc_X6_row : Cond.code yX6_row cX6_row 2 (some .int) ∈ ux := ux_mem (by decide +kernel) (by decide +kernel)
theorem wi_X6_row : Cond.instanceMethod yX6_row ∈ ux := ux_mem (by decide +kernel) (by decide +kernel)
theorem wv_X6_row : Cond.selects RX6 yX6_row yX6_row ∈ ux := ux_mem (by decide +kernel) (by decide +kernel)
theorem wc_X6_together : Cond.code yX6_together cX6_together 3 (some .int) ∈ ux := ux_mem (by decide +kernel) (by decide +kernel)
theorem wi_X6_together : Cond.instanceMethod yX6_together ∈ ux := ux_mem (by decide +kernel) (by decide +kernel)
theorem wv_X6_together : Cond.selects RX6 yX6_together yX6_together ∈ ux := ux_mem (by decide +kernel) (by decide +kernel)
theorem wc_X6_undo : Cond.code yX6_undo cX6_undo 2 (some .int) ∈ ux := ux_mem (by decide +kernel) (by decide +kernel)
theorem wi_X6_undo : Cond.instanceMethod yX6_undo ∈ ux := ux_mem (by decide +kernel) (by decide +kernel)
theorem wv_X6_undo : Cond.selects RX6 yX6_undo yX6_undo ∈ ux := ux_mem (by decide +kernel) (by decide +kernel)
theorem wc_X6_vats : Cond.code yX6_vats cX6_vats 3 (some .int) ∈ ux := ux_mem (by decide +kernel) (by decide +kernel)
theorem wi_X6_vats : Cond.instanceMethod yX6_vats ∈ ux := ux_mem (by decide +kernel) (by decide +kernel)
theorem wv_X6_vats : Cond.selects RX6 yX6_vats yX6_vats ∈ ux := ux_mem (by decide +kernel) (by decide +kernel)
theorem wc_X6_where : Cond.code yX6_where cX6_where 1 (some .int) ∈ ux := ux_mem (by decide +kernel) (by decide +kernel)
theorem wi_X6_where : Cond.instanceMethod yX6_where ∈ ux := ux_mem (by decide +kernel) (by decide +kernel)
theorem wv_X6_where : Cond.selects RX6 yX6_where yX6_where ∈ ux := ux_mem (by decide +kernel) (by decide +kernel)
theorem wc_X6_why : Cond.code yX6_why cX6_why 2 (some .int) ∈ ux := ux_mem (by decide +kernel) (by decide +kernel)
theorem wi_X6_why : Cond.instanceMethod yX6_why ∈ ux := ux_mem (by decide +kernel) (by decide +kernel)
theorem wv_X6_why : Cond.selects RX6 yX6_why yX6_why ∈ ux := ux_mem (by decide +kernel) (by decide +kernel)
theorem wc_X7_bath : Cond.code yX7_bath cX7_bath 2 (some .int) ∈ ux := ux_mem (by decide +kernel) (by decide +kernel)
theorem wi_X7_bath : Cond.instanceMethod yX7_bath ∈ ux := ux_mem (by decide +kernel) (by decide +kernel)
theorem wv_X7_bath : Cond.selects RX7 yX7_bath yX7_bath ∈ ux := ux_mem (by decide +kernel) (by decide +kernel)
theorem wc_X7_behind : Cond.code yX7_behind cX7_behind 10 (some .int) ∈ ux := ux_mem (by decide +kernel) (by decide +kernel)
theorem wi_X7_behind : Cond.instanceMethod yX7_behind ∈ ux := ux_mem (by decide +kernel) (by decide +kernel)
theorem wv_X7_behind : Cond.selects RX7 yX7_behind yX7_behind ∈ ux := ux_mem (by decide +kernel) (by decide +kernel)
theorem wc_X7_bit : Cond.code yX7_bit cX7_bit 2 (some .int) ∈ ux := ux_mem (by decide +kernel) (by decide +kernel)
theorem wi_X7_bit : Cond.instanceMethod yX7_bit ∈ ux := ux_mem (by decide +kernel) (by decide +kernel)
theorem wv_X7_bit : Cond.selects RX7 yX7_bit yX7_bit ∈ ux := ux_mem (by decide +kernel) (by decide +kernel)
theorem wc_X7_bitBehind : Cond.code yX7_bitBehind cX7_bitBehind 5 (some .int) ∈ ux := ux_mem (by decide +kernel) (by decide +kernel)
theorem wi_X7_bitBehind : Cond.instanceMethod yX7_bitBehind ∈ ux := ux_mem (by decide +kernel) (by decide +kernel)
theorem wv_X7_bitBehind : Cond.selects RX7 yX7_bitBehind yX7_bitBehind ∈ ux := ux_mem (by decide +kernel) (by decide +kernel)
theorem wc_X7_check : Cond.code yX7_check cX7_check 3 (some .int) ∈ ux := ux_mem (by decide +kernel) (by decide +kernel)
theorem wi_X7_check : Cond.instanceMethod yX7_check ∈ ux := ux_mem (by decide +kernel) (by decide +kernel)
theorem wv_X7_check : Cond.selects RX7 yX7_check yX7_check ∈ ux := ux_mem (by decide +kernel) (by decide +kernel)
theorem wc_X7_count : Cond.code yX7_count cX7_count 4 (some .int) ∈ ux := ux_mem (by decide +kernel) (by decide +kernel)
theorem wi_X7_count : Cond.instanceMethod yX7_count ∈ ux := ux_mem (by decide +kernel) (by decide +kernel)
theorem wv_X7_count : Cond.selects RX7 yX7_count yX7_count ∈ ux := ux_mem (by decide +kernel) (by decide +kernel)
theorem wc_X7_countSteps : Cond.code yX7_countSteps cX7_countSteps 6 none ∈ ux := ux_mem (by decide +kernel) (by decide +kernel)
theorem wi_X7_countSteps : Cond.instanceMethod yX7_countSteps ∈ ux := ux_mem (by decide +kernel) (by decide +kernel)
theorem wv_X7_countSteps : Cond.selects RX7 yX7_countSteps yX7_countSteps ∈ ux := ux_mem (by decide +kernel) (by decide +kernel)
theorem wc_X7_faultOf : Cond.code yX7_faultOf cX7_faultOf 8 (some .int) ∈ ux := ux_mem (by decide +kernel) (by decide +kernel)
theorem wi_X7_faultOf : Cond.instanceMethod yX7_faultOf ∈ ux := ux_mem (by decide +kernel) (by decide +kernel)
theorem wv_X7_faultOf : Cond.selects RX7 yX7_faultOf yX7_faultOf ∈ ux := ux_mem (by decide +kernel) (by decide +kernel)
theorem wc_X7_fewest : Cond.code yX7_fewest cX7_fewest 3 (some .int) ∈ ux := ux_mem (by decide +kernel) (by decide +kernel)
theorem wi_X7_fewest : Cond.instanceMethod yX7_fewest ∈ ux := ux_mem (by decide +kernel) (by decide +kernel)
theorem wv_X7_fewest : Cond.selects RX7 yX7_fewest yX7_fewest ∈ ux := ux_mem (by decide +kernel) (by decide +kernel)
theorem wc_X7_filled : Cond.code yX7_filled cX7_filled 5 (some .int) ∈ ux := ux_mem (by decide +kernel) (by decide +kernel)
theorem wi_X7_filled : Cond.instanceMethod yX7_filled ∈ ux := ux_mem (by decide +kernel) (by decide +kernel)
theorem wv_X7_filled : Cond.selects RX7 yX7_filled yX7_filled ∈ ux := ux_mem (by decide +kernel) (by decide +kernel)
theorem wc_X7_fills : Cond.code yX7_fills cX7_fills 4 (some .int) ∈ ux := ux_mem (by decide +kernel) (by decide +kernel)
theorem wi_X7_fills : Cond.instanceMethod yX7_fills ∈ ux := ux_mem (by decide +kernel) (by decide +kernel)
theorem wv_X7_fills : Cond.selects RX7 yX7_fills yX7_fills ∈ ux := ux_mem (by decide +kernel) (by decide +kernel)
theorem wc_X7_flip : Cond.code yX7_flip cX7_flip 2 (some .int) ∈ ux := ux_mem (by decide +kernel) (by decide +kernel)
theorem wi_X7_flip : Cond.instanceMethod yX7_flip ∈ ux := ux_mem (by decide +kernel) (by decide +kernel)
theorem wv_X7_flip : Cond.selects RX7 yX7_flip yX7_flip ∈ ux := ux_mem (by decide +kernel) (by decide +kernel)
theorem wc_X7_forget : Cond.code yX7_forget cX7_forget 2 (some .int) ∈ ux := ux_mem (by decide +kernel) (by decide +kernel)
theorem wi_X7_forget : Cond.instanceMethod yX7_forget ∈ ux := ux_mem (by decide +kernel) (by decide +kernel)
theorem wv_X7_forget : Cond.selects RX7 yX7_forget yX7_forget ∈ ux := ux_mem (by decide +kernel) (by decide +kernel)
theorem wc_X7_free : Cond.code yX7_free cX7_free 1 (some .int) ∈ ux := ux_mem (by decide +kernel) (by decide +kernel)
theorem wi_X7_free : Cond.instanceMethod yX7_free ∈ ux := ux_mem (by decide +kernel) (by decide +kernel)
theorem wv_X7_free : Cond.selects RX7 yX7_free yX7_free ∈ ux := ux_mem (by decide +kernel) (by decide +kernel)
theorem wc_X7_freshBehind : Cond.code yX7_freshBehind cX7_freshBehind 2 (some .int) ∈ ux := ux_mem (by decide +kernel) (by decide +kernel)
theorem wi_X7_freshBehind : Cond.instanceMethod yX7_freshBehind ∈ ux := ux_mem (by decide +kernel) (by decide +kernel)
theorem wv_X7_freshBehind : Cond.selects RX7 yX7_freshBehind yX7_freshBehind ∈ ux := ux_mem (by decide +kernel) (by decide +kernel)
theorem wc_X7_freshPoured : Cond.code yX7_freshPoured cX7_freshPoured 2 (some .int) ∈ ux := ux_mem (by decide +kernel) (by decide +kernel)
theorem ws_X7_freshPoured : Cond.static yX7_freshPoured ∈ ux := ux_mem (by decide +kernel) (by decide +kernel)
theorem wc_X7_goal : Cond.code yX7_goal cX7_goal 4 (some .int) ∈ ux := ux_mem (by decide +kernel) (by decide +kernel)
theorem wi_X7_goal : Cond.instanceMethod yX7_goal ∈ ux := ux_mem (by decide +kernel) (by decide +kernel)
theorem wv_X7_goal : Cond.selects RX7 yX7_goal yX7_goal ∈ ux := ux_mem (by decide +kernel) (by decide +kernel)
theorem wc_X7_has : Cond.code yX7_has cX7_has 2 (some .boolean) ∈ ux := ux_mem (by decide +kernel) (by decide +kernel)
theorem ws_X7_has : Cond.static yX7_has ∈ ux := ux_mem (by decide +kernel) (by decide +kernel)
theorem wc_X7_init : Cond.code yX7_init cX7_init 2 none ∈ ux := ux_mem (by decide +kernel) (by decide +kernel)
theorem wi_X7_init : Cond.instanceMethod yX7_init ∈ ux := ux_mem (by decide +kernel) (by decide +kernel)
theorem wc_X7_isBath : Cond.code yX7_isBath cX7_isBath 2 (some .boolean) ∈ ux := ux_mem (by decide +kernel) (by decide +kernel)
theorem wi_X7_isBath : Cond.instanceMethod yX7_isBath ∈ ux := ux_mem (by decide +kernel) (by decide +kernel)
theorem wv_X7_isBath : Cond.selects RX7 yX7_isBath yX7_isBath ∈ ux := ux_mem (by decide +kernel) (by decide +kernel)
theorem wc_X7_isEnd : Cond.code yX7_isEnd cX7_isEnd 3 (some .boolean) ∈ ux := ux_mem (by decide +kernel) (by decide +kernel)
theorem wi_X7_isEnd : Cond.instanceMethod yX7_isEnd ∈ ux := ux_mem (by decide +kernel) (by decide +kernel)
theorem wv_X7_isEnd : Cond.selects RX7 yX7_isEnd yX7_isEnd ∈ ux := ux_mem (by decide +kernel) (by decide +kernel)
theorem wc_X7_isPlain : Cond.code yX7_isPlain cX7_isPlain 3 (some .boolean) ∈ ux := ux_mem (by decide +kernel) (by decide +kernel)
theorem wi_X7_isPlain : Cond.instanceMethod yX7_isPlain ∈ ux := ux_mem (by decide +kernel) (by decide +kernel)
theorem wv_X7_isPlain : Cond.selects RX7 yX7_isPlain yX7_isPlain ∈ ux := ux_mem (by decide +kernel) (by decide +kernel)
theorem wc_X7_keep : Cond.code yX7_keep cX7_keep 3 none ∈ ux := ux_mem (by decide +kernel) (by decide +kernel)
theorem wi_X7_keep : Cond.instanceMethod yX7_keep ∈ ux := ux_mem (by decide +kernel) (by decide +kernel)
theorem wv_X7_keep : Cond.selects RX7 yX7_keep yX7_keep ∈ ux := ux_mem (by decide +kernel) (by decide +kernel)
theorem wc_X7_least : Cond.code yX7_least cX7_least 2 (some .int) ∈ ux := ux_mem (by decide +kernel) (by decide +kernel)
theorem wi_X7_least : Cond.instanceMethod yX7_least ∈ ux := ux_mem (by decide +kernel) (by decide +kernel)
theorem wv_X7_least : Cond.selects RX7 yX7_least yX7_least ∈ ux := ux_mem (by decide +kernel) (by decide +kernel)
theorem wc_X7_lose : Cond.code yX7_lose cX7_lose 3 (some .int) ∈ ux := ux_mem (by decide +kernel) (by decide +kernel)
theorem wi_X7_lose : Cond.instanceMethod yX7_lose ∈ ux := ux_mem (by decide +kernel) (by decide +kernel)
theorem wv_X7_lose : Cond.selects RX7 yX7_lose yX7_lose ∈ ux := ux_mem (by decide +kernel) (by decide +kernel)
theorem wc_X7_make : Cond.code yX7_make cX7_make 2 (some .int) ∈ ux := ux_mem (by decide +kernel) (by decide +kernel)
theorem wi_X7_make : Cond.instanceMethod yX7_make ∈ ux := ux_mem (by decide +kernel) (by decide +kernel)
theorem wv_X7_make : Cond.selects RX7 yX7_make yX7_make ∈ ux := ux_mem (by decide +kernel) (by decide +kernel)
theorem wc_X7_named : Cond.code yX7_named cX7_named 4 (some .int) ∈ ux := ux_mem (by decide +kernel) (by decide +kernel)
theorem wi_X7_named : Cond.instanceMethod yX7_named ∈ ux := ux_mem (by decide +kernel) (by decide +kernel)
theorem wv_X7_named : Cond.selects RX7 yX7_named yX7_named ∈ ux := ux_mem (by decide +kernel) (by decide +kernel)
theorem wc_X7_need : Cond.code yX7_need cX7_need 5 (some .int) ∈ ux := ux_mem (by decide +kernel) (by decide +kernel)
theorem wi_X7_need : Cond.instanceMethod yX7_need ∈ ux := ux_mem (by decide +kernel) (by decide +kernel)
theorem wv_X7_need : Cond.selects RX7 yX7_need yX7_need ∈ ux := ux_mem (by decide +kernel) (by decide +kernel)
theorem wc_X7_needs : Cond.code yX7_needs cX7_needs 5 (some .boolean) ∈ ux := ux_mem (by decide +kernel) (by decide +kernel)
theorem wi_X7_needs : Cond.instanceMethod yX7_needs ∈ ux := ux_mem (by decide +kernel) (by decide +kernel)
theorem wv_X7_needs : Cond.selects RX7 yX7_needs yX7_needs ∈ ux := ux_mem (by decide +kernel) (by decide +kernel)
theorem wc_X7_of : Cond.code yX7_of cX7_of 3 (some .int) ∈ ux := ux_mem (by decide +kernel) (by decide +kernel)
theorem wi_X7_of : Cond.instanceMethod yX7_of ∈ ux := ux_mem (by decide +kernel) (by decide +kernel)
theorem wv_X7_of : Cond.selects RX7 yX7_of yX7_of ∈ ux := ux_mem (by decide +kernel) (by decide +kernel)
theorem wc_X7_ones : Cond.code yX7_ones cX7_ones 3 (some .int) ∈ ux := ux_mem (by decide +kernel) (by decide +kernel)
theorem wi_X7_ones : Cond.instanceMethod yX7_ones ∈ ux := ux_mem (by decide +kernel) (by decide +kernel)
theorem wv_X7_ones : Cond.selects RX7 yX7_ones yX7_ones ∈ ux := ux_mem (by decide +kernel) (by decide +kernel)
theorem wc_X7_order : Cond.code yX7_order cX7_order 9 (some .int) ∈ ux := ux_mem (by decide +kernel) (by decide +kernel)
theorem wi_X7_order : Cond.instanceMethod yX7_order ∈ ux := ux_mem (by decide +kernel) (by decide +kernel)
theorem wv_X7_order : Cond.selects RX7 yX7_order yX7_order ∈ ux := ux_mem (by decide +kernel) (by decide +kernel)
theorem wc_X7_plan : Cond.code yX7_plan cX7_plan 4 (some .int) ∈ ux := ux_mem (by decide +kernel) (by decide +kernel)
theorem wi_X7_plan : Cond.instanceMethod yX7_plan ∈ ux := ux_mem (by decide +kernel) (by decide +kernel)
theorem wv_X7_plan : Cond.selects RX7 yX7_plan yX7_plan ∈ ux := ux_mem (by decide +kernel) (by decide +kernel)
theorem wc_X7_pour : Cond.code yX7_pour cX7_pour 2 (some .int) ∈ ux := ux_mem (by decide +kernel) (by decide +kernel)
theorem wi_X7_pour : Cond.instanceMethod yX7_pour ∈ ux := ux_mem (by decide +kernel) (by decide +kernel)
theorem wv_X7_pour : Cond.selects RX7 yX7_pour yX7_pour ∈ ux := ux_mem (by decide +kernel) (by decide +kernel)
theorem wc_X7_price : Cond.code yX7_price cX7_price 1 (some .int) ∈ ux := ux_mem (by decide +kernel) (by decide +kernel)
theorem ws_X7_price : Cond.static yX7_price ∈ ux := ux_mem (by decide +kernel) (by decide +kernel)
theorem wc_X7_reach : Cond.code yX7_reach cX7_reach 7 (some .int) ∈ ux := ux_mem (by decide +kernel) (by decide +kernel)
theorem wi_X7_reach : Cond.instanceMethod yX7_reach ∈ ux := ux_mem (by decide +kernel) (by decide +kernel)
theorem wv_X7_reach : Cond.selects RX7 yX7_reach yX7_reach ∈ ux := ux_mem (by decide +kernel) (by decide +kernel)
theorem wc_X7_reason : Cond.code yX7_reason cX7_reason 7 (some .int) ∈ ux := ux_mem (by decide +kernel) (by decide +kernel)
theorem wi_X7_reason : Cond.instanceMethod yX7_reason ∈ ux := ux_mem (by decide +kernel) (by decide +kernel)
theorem wv_X7_reason : Cond.selects RX7 yX7_reason yX7_reason ∈ ux := ux_mem (by decide +kernel) (by decide +kernel)
theorem wc_X7_recipe : Cond.code yX7_recipe cX7_recipe 5 (some .int) ∈ ux := ux_mem (by decide +kernel) (by decide +kernel)
theorem wi_X7_recipe : Cond.instanceMethod yX7_recipe ∈ ux := ux_mem (by decide +kernel) (by decide +kernel)
theorem wv_X7_recipe : Cond.selects RX7 yX7_recipe yX7_recipe ∈ ux := ux_mem (by decide +kernel) (by decide +kernel)
theorem wc_X7_ring : Cond.code yX7_ring cX7_ring 2 (some .int) ∈ ux := ux_mem (by decide +kernel) (by decide +kernel)
theorem wi_X7_ring : Cond.instanceMethod yX7_ring ∈ ux := ux_mem (by decide +kernel) (by decide +kernel)
theorem wv_X7_ring : Cond.selects RX7 yX7_ring yX7_ring ∈ ux := ux_mem (by decide +kernel) (by decide +kernel)
theorem wc_X7_row : Cond.code yX7_row cX7_row 6 (some .int) ∈ ux := ux_mem (by decide +kernel) (by decide +kernel)
theorem wi_X7_row : Cond.instanceMethod yX7_row ∈ ux := ux_mem (by decide +kernel) (by decide +kernel)
theorem wv_X7_row : Cond.selects RX7 yX7_row yX7_row ∈ ux := ux_mem (by decide +kernel) (by decide +kernel)
theorem wc_X7_spread : Cond.code yX7_spread cX7_spread 7 (some .int) ∈ ux := ux_mem (by decide +kernel) (by decide +kernel)
theorem wi_X7_spread : Cond.instanceMethod yX7_spread ∈ ux := ux_mem (by decide +kernel) (by decide +kernel)
theorem wv_X7_spread : Cond.selects RX7 yX7_spread yX7_spread ∈ ux := ux_mem (by decide +kernel) (by decide +kernel)
theorem wc_X7_stand : Cond.code yX7_stand cX7_stand 4 (some .boolean) ∈ ux := ux_mem (by decide +kernel) (by decide +kernel)
theorem wi_X7_stand : Cond.instanceMethod yX7_stand ∈ ux := ux_mem (by decide +kernel) (by decide +kernel)
theorem wv_X7_stand : Cond.selects RX7 yX7_stand yX7_stand ∈ ux := ux_mem (by decide +kernel) (by decide +kernel)
theorem wc_X7_standsBehind : Cond.code yX7_standsBehind cX7_standsBehind 4 (some .int) ∈ ux := ux_mem (by decide +kernel) (by decide +kernel)
theorem wi_X7_standsBehind : Cond.instanceMethod yX7_standsBehind ∈ ux := ux_mem (by decide +kernel) (by decide +kernel)
theorem wv_X7_standsBehind : Cond.selects RX7 yX7_standsBehind yX7_standsBehind ∈ ux := ux_mem (by decide +kernel) (by decide +kernel)
theorem wc_X7_stood : Cond.code yX7_stood cX7_stood 5 (some .int) ∈ ux := ux_mem (by decide +kernel) (by decide +kernel)
theorem wi_X7_stood : Cond.instanceMethod yX7_stood ∈ ux := ux_mem (by decide +kernel) (by decide +kernel)
theorem wv_X7_stood : Cond.selects RX7 yX7_stood yX7_stood ∈ ux := ux_mem (by decide +kernel) (by decide +kernel)
theorem wc_X7_tellRing : Cond.code yX7_tellRing cX7_tellRing 5 none ∈ ux := ux_mem (by decide +kernel) (by decide +kernel)
theorem wi_X7_tellRing : Cond.instanceMethod yX7_tellRing ∈ ux := ux_mem (by decide +kernel) (by decide +kernel)
theorem wv_X7_tellRing : Cond.selects RX7 yX7_tellRing yX7_tellRing ∈ ux := ux_mem (by decide +kernel) (by decide +kernel)
theorem wc_X7_together : Cond.code yX7_together cX7_together 3 (some .int) ∈ ux := ux_mem (by decide +kernel) (by decide +kernel)
theorem wi_X7_together : Cond.instanceMethod yX7_together ∈ ux := ux_mem (by decide +kernel) (by decide +kernel)
theorem wv_X7_together : Cond.selects RX7 yX7_together yX7_together ∈ ux := ux_mem (by decide +kernel) (by decide +kernel)
theorem wc_X7_trace : Cond.code yX7_trace cX7_trace 6 none ∈ ux := ux_mem (by decide +kernel) (by decide +kernel)
theorem wi_X7_trace : Cond.instanceMethod yX7_trace ∈ ux := ux_mem (by decide +kernel) (by decide +kernel)
theorem wv_X7_trace : Cond.selects RX7 yX7_trace yX7_trace ∈ ux := ux_mem (by decide +kernel) (by decide +kernel)
theorem wc_X7_undo : Cond.code yX7_undo cX7_undo 1 (some .int) ∈ ux := ux_mem (by decide +kernel) (by decide +kernel)
theorem wi_X7_undo : Cond.instanceMethod yX7_undo ∈ ux := ux_mem (by decide +kernel) (by decide +kernel)
theorem wv_X7_undo : Cond.selects RX7 yX7_undo yX7_undo ∈ ux := ux_mem (by decide +kernel) (by decide +kernel)
theorem wc_X7_used : Cond.code yX7_used cX7_used 3 (some .int) ∈ ux := ux_mem (by decide +kernel) (by decide +kernel)
theorem wi_X7_used : Cond.instanceMethod yX7_used ∈ ux := ux_mem (by decide +kernel) (by decide +kernel)
theorem wv_X7_used : Cond.selects RX7 yX7_used yX7_used ∈ ux := ux_mem (by decide +kernel) (by decide +kernel)
theorem wc_X7_vats : Cond.code yX7_vats cX7_vats 3 (some .int) ∈ ux := ux_mem (by decide +kernel) (by decide +kernel)
theorem wi_X7_vats : Cond.instanceMethod yX7_vats ∈ ux := ux_mem (by decide +kernel) (by decide +kernel)
theorem wv_X7_vats : Cond.selects RX7 yX7_vats yX7_vats ∈ ux := ux_mem (by decide +kernel) (by decide +kernel)
theorem wc_X7_where : Cond.code yX7_where cX7_where 1 (some .int) ∈ ux := ux_mem (by decide +kernel) (by decide +kernel)
theorem wi_X7_where : Cond.instanceMethod yX7_where ∈ ux := ux_mem (by decide +kernel) (by decide +kernel)
theorem wv_X7_where : Cond.selects RX7 yX7_where yX7_where ∈ ux := ux_mem (by decide +kernel) (by decide +kernel)
theorem wc_X7_why : Cond.code yX7_why cX7_why 2 (some .int) ∈ ux := ux_mem (by decide +kernel) (by decide +kernel)
theorem wi_X7_why : Cond.instanceMethod yX7_why ∈ ux := ux_mem (by decide +kernel) (by decide +kernel)
theorem wv_X7_why : Cond.selects RX7 yX7_why yX7_why ∈ ux := ux_mem (by decide +kernel) (by decide +kernel)
theorem wn_RX0 : Cond.initialized RX0 ∈ ux := ux_mem (by decide +kernel) (by decide +kernel)
theorem wn_RX1 : Cond.initialized RX1 ∈ ux := ux_mem (by decide +kernel) (by decide +kernel)
theorem wn_RX2 : Cond.initialized RX2 ∈ ux := ux_mem (by decide +kernel) (by decide +kernel)
theorem wn_RX3 : Cond.initialized RX3 ∈ ux := ux_mem (by decide +kernel) (by decide +kernel)
theorem wn_RX4 : Cond.initialized RX4 ∈ ux := ux_mem (by decide +kernel) (by decide +kernel)
theorem wn_RX5 : Cond.initialized RX5 ∈ ux := ux_mem (by decide +kernel) (by decide +kernel)
theorem wn_RX6 : Cond.initialized RX6 ∈ ux := ux_mem (by decide +kernel) (by decide +kernel)
theorem wn_RX7 : Cond.initialized RX7 ∈ ux := ux_mem (by decide +kernel) (by decide +kernel)
theorem wn_RJ6 : Cond.initialized RJ6 ∈ ux := ux_mem (by decide +kernel) (by decide +kernel)
theorem wn_RJ7 : Cond.initialized RJ7 ∈ ux := ux_mem (by decide +kernel) (by decide +kernel)
theorem wn_RJ9 : Cond.initialized RJ9 ∈ ux := ux_mem (by decide +kernel) (by decide +kernel)
theorem wk_RX1_77 : Cond.constant RX1 77 (40960) ∈ ux := ux_mem (by decide +kernel) (by decide +kernel)
theorem wk_RJ6_265 : Cond.constant RJ6 265 (1431655765) ∈ ux := ux_mem (by decide +kernel) (by decide +kernel)
theorem wk_RJ6_266 : Cond.constant RJ6 266 (858993459) ∈ ux := ux_mem (by decide +kernel) (by decide +kernel)
theorem wk_RJ6_267 : Cond.constant RJ6 267 (252645135) ∈ ux := ux_mem (by decide +kernel) (by decide +kernel)
theorem wk_RX1_82 : Cond.constant RX1 82 (81920) ∈ ux := ux_mem (by decide +kernel) (by decide +kernel)
theorem wk_RX1_83 : Cond.constant RX1 83 (65537) ∈ ux := ux_mem (by decide +kernel) (by decide +kernel)
theorem wk_RX1_84 : Cond.constant RX1 84 (2147483647) ∈ ux := ux_mem (by decide +kernel) (by decide +kernel)
theorem wk_RX1_59 : Cond.constant RX1 59 (65535) ∈ ux := ux_mem (by decide +kernel) (by decide +kernel)
theorem wk_RX7_54 : Cond.constant RX7 54 (40960) ∈ ux := ux_mem (by decide +kernel) (by decide +kernel)
theorem wk_RX7_155 : Cond.constant RX7 155 (65536) ∈ ux := ux_mem (by decide +kernel) (by decide +kernel)
theorem wk_RX7_156 : Cond.constant RX7 156 (1000000000) ∈ ux := ux_mem (by decide +kernel) (by decide +kernel)
theorem wa_int : Cond.arrayClass .int ∈ ux := ux_mem (by decide +kernel) (by decide +kernel)
theorem wa_byte : Cond.arrayClass .byte ∈ ux := ux_mem (by decide +kernel) (by decide +kernel)
theorem wa_boolean : Cond.arrayClass .boolean ∈ ux := ux_mem (by decide +kernel) (by decide +kernel)
theorem inX0 : ∀ w ∈ u_ws RX0 TX0 4, w ∈ ux := by decide +kernel
theorem inX1 : ∀ w ∈ u_ws RX1 TX1 9, w ∈ ux := by decide +kernel
theorem inX2 : ∀ w ∈ u_ws RX2 TX2 5, w ∈ ux := by decide +kernel
theorem inX3 : ∀ w ∈ u_ws RX3 TX3 3, w ∈ ux := by decide +kernel
theorem inX4 : ∀ w ∈ u_ws RX4 TX4 3, w ∈ ux := by decide +kernel
theorem inX5 : ∀ w ∈ u_ws RX5 TX5 12, w ∈ ux := by decide +kernel
theorem inX6 : ∀ w ∈ u_ws RX6 TX6 9, w ∈ ux := by decide +kernel
theorem inX7 : ∀ w ∈ u_ws RX7 TX7 28, w ∈ ux := by decide +kernel
end
section
/-! the two worlds -/
def wD (Z : Zz) (a : Nat → Nat) (x : Xx) : va_W := [
  (a 0, .inr (6, [.ref (a 1), .ref (a 2), .ref (a 3), .ref (a 4), .ref (a 5), .ref (a 6), .ref (a 7), .int (gI x.2.2 0), .int (gI x.2.2 1)])),
  (a 1, .inr (3, [.ref (a 8), .ref (a 9), .ref (a 10)])),
  (a 2, .inr (5, [.int (gI x.2.2 2), .ref (a 11), .ref (a 12), .ref (a 13), .int (gI x.2.2 3), .int (gI x.2.2 4), .int (gI x.2.2 5), .int (gI x.2.2 6), .int (gI x.2.2 7), .ref (a 14), .int (gI x.2.2 8), .int (gI x.2.2 9)])),
  (a 3, .inr (4, [.ref (a 15), .int (gI x.2.2 10), .ref (a 16)])),
  (a 4, .inr (0, [.int (gI x.2.2 11), .int (gI x.2.2 12), .ref (a 17), .ref (a 18)])),
  (a 5, .inr (1, [.ref (a 2), .ref (a 19), .ref (a 20), .ref x.1, .ref x.2.1, .int (gI x.2.2 13), .int (gI x.2.2 14), .int (gI x.2.2 15), .int (gI x.2.2 16)])),
  (a 6, .inr (2, [.ref (a 2), .ref (a 23), .ref (a 24), .int (gI x.2.2 17), .int (gI x.2.2 18)])),
  (a 7, .inl (ZI Z, 9, .inl (x.2.2.2.1 7))),
  (a 8, .inl (ZI Z, 9, .inl (x.2.2.2.1 8))),
  (a 9, .inl (ZI Z, 9, .inl (x.2.2.2.1 9))),
  (a 10, .inl (ZI Z, 36, .inl (x.2.2.2.1 10))),
  (a 11, .inl (ZI Z, 9, .inl (x.2.2.2.1 11))),
  (a 12, .inl (ZI Z, 9, .inl (x.2.2.2.1 12))),
  (a 13, .inl (ZI Z, 9, .inl (x.2.2.2.1 13))),
  (a 14, .inl (ZI Z, 3, .inl (x.2.2.2.1 14))),
  (a 15, .inl (ZI Z, 9, .inl (x.2.2.2.1 15))),
  (a 16, .inl (ZI Z, 9, .inl (x.2.2.2.1 16))),
  (a 17, .inl (ZI Z, 100, .inl (x.2.2.2.1 17))),
  (a 18, .inl (ZI Z, 100, .inl (x.2.2.2.1 18))),
  (a 19, .inl (ZI Z, 19, .inl (x.2.2.2.1 19))),
  (a 20, .inl (ZI Z, 19, .inl (x.2.2.2.1 20))),
  (x.1, .inl (ZI Z, gL x.2.2, .inl (x.2.2.2.1 21))),
  (x.2.1, .inl (ZI Z, gL x.2.2, .inl (x.2.2.2.1 22))),
  (a 23, .inl (ZB Z, 4096, .inl (x.2.2.2.1 23))),
  (a 24, .inl (ZI Z, 4096, .inl (x.2.2.2.1 24)))]
def wM (Z : Zz) (a : Nat → Nat) (x : Xx) : va_W := [
  (a 0, .inr (7, [.int (gI x.2.2 0), .ref (a 1), .ref (a 2), .ref (a 3), .ref (a 4), .ref (a 5), .int (gI x.2.2 1), .int (gI x.2.2 2), .int (gI x.2.2 3), .int (gI x.2.2 4), .ref (a 6), .int (gI x.2.2 5), .ref (a 7), .int (gI x.2.2 6), .ref (a 8), .ref (a 9), .ref (a 10), .int (gI x.2.2 7), .ref (a 11), .int (gI x.2.2 8), .ref (a 12), .ref (a 13), .ref (a 14), .ref (a 15), .ref (a 16), .ref (a 17), .ref (a 18), .int (gI x.2.2 9)])),
  (a 1, .inl (ZI Z, 9, .inl (x.2.2.2.1 1))),
  (a 2, .inl (ZI Z, 9, .inl (x.2.2.2.1 2))),
  (a 3, .inl (ZI Z, 9, .inl (x.2.2.2.1 3))),
  (a 4, .inl (ZI Z, 36, .inl (x.2.2.2.1 4))),
  (a 5, .inl (ZI Z, 9, .inl (x.2.2.2.1 5))),
  (a 6, .inl (ZI Z, 3, .inl (x.2.2.2.1 6))),
  (a 7, .inl (ZZ Z, 4096, .inl (x.2.2.2.1 7))),
  (a 8, .inl (ZI Z, 100, .inl (x.2.2.2.1 8))),
  (a 9, .inl (ZI Z, 100, .inl (x.2.2.2.1 9))),
  (a 10, .inl (ZI Z, 100, .inl (x.2.2.2.1 10))),
  (a 11, .inl (ZI Z, 9, .inl (x.2.2.2.1 11))),
  (a 12, .inl (ZI Z, 9, .inl (x.2.2.2.1 12))),
  (a 13, .inl (ZI Z, 40960, .inl (x.2.2.2.1 13))),
  (a 14, .inl (ZZ Z, 40960, .inl (x.2.2.2.1 14))),
  (a 15, .inl (ZI Z, 40960, .inl (x.2.2.2.1 15))),
  (a 16, .inl (ZZ Z, 40960, .inl (x.2.2.2.1 16))),
  (a 17, .inl (ZI Z, 40960, .inl (x.2.2.2.1 17))),
  (a 18, .inl (ZI Z, 40960, .inl (x.2.2.2.1 18)))]
theorem nar_z {v : Int32} (h : isB v) : narrow .boolean (.int v) = .int v := by rcases h with h | h <;> subst h <;> rfl
theorem fit_z {v : Int32} (h : isB v) : fits .boolean (.int v) = true := by rcases h with h | h <;> subst h <;> rfl
section FR
variable {Z : Zz} {a : Nat → Nat} {Ev : State → Prop} {G : Gm} {cc : ByteArray} {dep : Nat} {ret : Option FieldType} {Pq : Option Int32 → Xx → Prop} {csF cs c1 c2 : Nat} {M : Mm} {st : List Value} {lv : List (Option Value)}
variable {β : Type} {o : β}
theorem gf_RX0_9 (C : CX (wD Z a) Z Ev G cc RX0 dep ret Pq csF) {pc : Nat} (d : decode cc pc = .ok (.getfield 9, 3)) (k : V (wD Z a) Z G cs (pc + 3) lv (.int (gI M 11) :: st) (c1, c2, M)) : V (wD Z a) Z G cs pc lv (.ref (a 4) :: st) (c1, c2, M) := V_get C 4 0 rfl rfl inX0 0 (by decide) wf_RX0_9 rfl d k
theorem pf_RX0_9 (C : CX (wD Z a) Z Ev G cc RX0 dep ret Pq csF) {pc : Nat} {v : Int32} (d : decode cc pc = .ok (.putfield 9, 3)) (k : V (wD Z a) Z G cs (pc + 3) lv st (c1, c2, sI M 11 v)) : V (wD Z a) Z G cs pc lv (.int v :: .ref (a 4) :: st) (c1, c2, M) := V_put C 4 0 (fs := _) rfl rfl inX0 tyX0 tyX0_ok nmX0 0 (by decide) wf_RX0_9 rfl (tyX0_ok 0 (by decide)) rfl rfl (Nat.le_of_ble_eq_true rfl) d (x' := (c1, c2, sI M 11 v)) rfl k
theorem gf_RX0_15 (C : CX (wD Z a) Z Ev G cc RX0 dep ret Pq csF) {pc : Nat} (d : decode cc pc = .ok (.getfield 15, 3)) (k : V (wD Z a) Z G cs (pc + 3) lv (.int (gI M 12) :: st) (c1, c2, M)) : V (wD Z a) Z G cs pc lv (.ref (a 4) :: st) (c1, c2, M) := V_get C 4 0 rfl rfl inX0 1 (by decide) wf_RX0_15 rfl d k
theorem pf_RX0_15 (C : CX (wD Z a) Z Ev G cc RX0 dep ret Pq csF) {pc : Nat} {v : Int32} (d : decode cc pc = .ok (.putfield 15, 3)) (k : V (wD Z a) Z G cs (pc + 3) lv st (c1, c2, sI M 12 v)) : V (wD Z a) Z G cs pc lv (.int v :: .ref (a 4) :: st) (c1, c2, M) := V_put C 4 0 (fs := _) rfl rfl inX0 tyX0 tyX0_ok nmX0 1 (by decide) wf_RX0_15 rfl (tyX0_ok 1 (by decide)) rfl rfl (Nat.le_of_ble_eq_true rfl) d (x' := (c1, c2, sI M 12 v)) rfl k
theorem gf_RX0_18 (C : CX (wD Z a) Z Ev G cc RX0 dep ret Pq csF) {pc : Nat} (d : decode cc pc = .ok (.getfield 18, 3)) (k : V (wD Z a) Z G cs (pc + 3) lv (.ref (a 17) :: st) (c1, c2, M)) : V (wD Z a) Z G cs pc lv (.ref (a 4) :: st) (c1, c2, M) := V_get C 4 0 rfl rfl inX0 2 (by decide) wf_RX0_18 rfl d k
theorem gf_RX0_22 (C : CX (wD Z a) Z Ev G cc RX0 dep ret Pq csF) {pc : Nat} (d : decode cc pc = .ok (.getfield 22, 3)) (k : V (wD Z a) Z G cs (pc + 3) lv (.ref (a 18) :: st) (c1, c2, M)) : V (wD Z a) Z G cs pc lv (.ref (a 4) :: st) (c1, c2, M) := V_get C 4 0 rfl rfl inX0 3 (by decide) wf_RX0_22 rfl d k
theorem gf_RX1_13 (C : CX (wD Z a) Z Ev G cc RX1 dep ret Pq csF) {pc : Nat} (d : decode cc pc = .ok (.getfield 13, 3)) (k : V (wD Z a) Z G cs (pc + 3) lv (.ref (a 19) :: st) (c1, c2, M)) : V (wD Z a) Z G cs pc lv (.ref (a 5) :: st) (c1, c2, M) := V_get C 5 1 rfl rfl inX1 1 (by decide) wf_RX1_13 rfl d k
theorem gf_RX1_17 (C : CX (wD Z a) Z Ev G cc RX1 dep ret Pq csF) {pc : Nat} (d : decode cc pc = .ok (.getfield 17, 3)) (k : V (wD Z a) Z G cs (pc + 3) lv (.ref (a 20) :: st) (c1, c2, M)) : V (wD Z a) Z G cs pc lv (.ref (a 5) :: st) (c1, c2, M) := V_get C 5 1 rfl rfl inX1 2 (by decide) wf_RX1_17 rfl d k
theorem gf_RX1_20 (C : CX (wD Z a) Z Ev G cc RX1 dep ret Pq csF) {pc : Nat} (d : decode cc pc = .ok (.getfield 20, 3)) (k : V (wD Z a) Z G cs (pc + 3) lv (.ref c1 :: st) (c1, c2, M)) : V (wD Z a) Z G cs pc lv (.ref (a 5) :: st) (c1, c2, M) := V_get C 5 1 rfl rfl inX1 3 (by decide) wf_RX1_20 rfl d k
theorem gf_RX1_23 (C : CX (wD Z a) Z Ev G cc RX1 dep ret Pq csF) {pc : Nat} (d : decode cc pc = .ok (.getfield 23, 3)) (k : V (wD Z a) Z G cs (pc + 3) lv (.ref c2 :: st) (c1, c2, M)) : V (wD Z a) Z G cs pc lv (.ref (a 5) :: st) (c1, c2, M) := V_get C 5 1 rfl rfl inX1 4 (by decide) wf_RX1_23 rfl d k
theorem gf_RX1_26 (C : CX (wD Z a) Z Ev G cc RX1 dep ret Pq csF) {pc : Nat} (d : decode cc pc = .ok (.getfield 26, 3)) (k : V (wD Z a) Z G cs (pc + 3) lv (.int (gI M 13) :: st) (c1, c2, M)) : V (wD Z a) Z G cs pc lv (.ref (a 5) :: st) (c1, c2, M) := V_get C 5 1 rfl rfl inX1 5 (by decide) wf_RX1_26 rfl d k
theorem pf_RX1_26 (C : CX (wD Z a) Z Ev G cc RX1 dep ret Pq csF) {pc : Nat} {v : Int32} (d : decode cc pc = .ok (.putfield 26, 3)) (k : V (wD Z a) Z G cs (pc + 3) lv st (c1, c2, sI M 13 v)) : V (wD Z a) Z G cs pc lv (.int v :: .ref (a 5) :: st) (c1, c2, M) := V_put C 5 1 (fs := _) rfl rfl inX1 tyX1 tyX1_ok nmX1 5 (by decide) wf_RX1_26 rfl (tyX1_ok 5 (by decide)) rfl rfl (Nat.le_of_ble_eq_true rfl) d (x' := (c1, c2, sI M 13 v)) rfl k
theorem gf_RX1_30 (C : CX (wD Z a) Z Ev G cc RX1 dep ret Pq csF) {pc : Nat} (d : decode cc pc = .ok (.getfield 30, 3)) (k : V (wD Z a) Z G cs (pc + 3) lv (.int (gI M 14) :: st) (c1, c2, M)) : V (wD Z a) Z G cs pc lv (.ref (a 5) :: st) (c1, c2, M) := V_get C 5 1 rfl rfl inX1 6 (by decide) wf_RX1_30 rfl d k
theorem pf_RX1_30 (C : CX (wD Z a) Z Ev G cc RX1 dep ret Pq csF) {pc : Nat} {v : Int32} (d : decode cc pc = .ok (.putfield 30, 3)) (k : V (wD Z a) Z G cs (pc + 3) lv st (c1, c2, sI M 14 v)) : V (wD Z a) Z G cs pc lv (.int v :: .ref (a 5) :: st) (c1, c2, M) := V_put C 5 1 (fs := _) rfl rfl inX1 tyX1 tyX1_ok nmX1 6 (by decide) wf_RX1_30 rfl (tyX1_ok 6 (by decide)) rfl rfl (Nat.le_of_ble_eq_true rfl) d (x' := (c1, c2, sI M 14 v)) rfl k
theorem gf_RX1_33 (C : CX (wD Z a) Z Ev G cc RX1 dep ret Pq csF) {pc : Nat} (d : decode cc pc = .ok (.getfield 33, 3)) (k : V (wD Z a) Z G cs (pc + 3) lv (.int (gI M 15) :: st) (c1, c2, M)) : V (wD Z a) Z G cs pc lv (.ref (a 5) :: st) (c1, c2, M) := V_get C 5 1 rfl rfl inX1 7 (by decide) wf_RX1_33 rfl d k
theorem pf_RX1_33 (C : CX (wD Z a) Z Ev G cc RX1 dep ret Pq csF) {pc : Nat} {v : Int32} (d : decode cc pc = .ok (.putfield 33, 3)) (k : V (wD Z a) Z G cs (pc + 3) lv st (c1, c2, sI M 15 v)) : V (wD Z a) Z G cs pc lv (.int v :: .ref (a 5) :: st) (c1, c2, M) := V_put C 5 1 (fs := _) rfl rfl inX1 tyX1 tyX1_ok nmX1 7 (by decide) wf_RX1_33 rfl (tyX1_ok 7 (by decide)) rfl rfl (Nat.le_of_ble_eq_true rfl) d (x' := (c1, c2, sI M 15 v)) rfl k
theorem gf_RX1_36 (C : CX (wD Z a) Z Ev G cc RX1 dep ret Pq csF) {pc : Nat} (d : decode cc pc = .ok (.getfield 36, 3)) (k : V (wD Z a) Z G cs (pc + 3) lv (.int (gI M 16) :: st) (c1, c2, M)) : V (wD Z a) Z G cs pc lv (.ref (a 5) :: st) (c1, c2, M) := V_get C 5 1 rfl rfl inX1 8 (by decide) wf_RX1_36 rfl d k
theorem pf_RX1_36 (C : CX (wD Z a) Z Ev G cc RX1 dep ret Pq csF) {pc : Nat} {v : Int32} (d : decode cc pc = .ok (.putfield 36, 3)) (k : V (wD Z a) Z G cs (pc + 3) lv st (c1, c2, sI M 16 v)) : V (wD Z a) Z G cs pc lv (.int v :: .ref (a 5) :: st) (c1, c2, M) := V_put C 5 1 (fs := _) rfl rfl inX1 tyX1 tyX1_ok nmX1 8 (by decide) wf_RX1_36 rfl (tyX1_ok 8 (by decide)) rfl rfl (Nat.le_of_ble_eq_true rfl) d (x' := (c1, c2, sI M 16 v)) rfl k
theorem gf_RX1_39 (C : CX (wD Z a) Z Ev G cc RX1 dep ret Pq csF) {pc : Nat} (d : decode cc pc = .ok (.getfield 39, 3)) (k : V (wD Z a) Z G cs (pc + 3) lv (.ref (a 2) :: st) (c1, c2, M)) : V (wD Z a) Z G cs pc lv (.ref (a 5) :: st) (c1, c2, M) := V_get C 5 1 rfl rfl inX1 0 (by decide) wf_RX1_39 rfl d k
theorem gf_RX1_95 (C : CX (wD Z a) Z Ev G cc RX1 dep ret Pq csF) {pc : Nat} (d : decode cc pc = .ok (.getfield 95, 3)) (k : V (wD Z a) Z G cs (pc + 3) lv (.int (gI M 2) :: st) (c1, c2, M)) : V (wD Z a) Z G cs pc lv (.ref (a 2) :: st) (c1, c2, M) := V_get C 2 5 rfl rfl inX5 0 (by decide) wf_RX1_95 rfl d k
theorem gf_RX2_9 (C : CX (wD Z a) Z Ev G cc RX2 dep ret Pq csF) {pc : Nat} (d : decode cc pc = .ok (.getfield 9, 3)) (k : V (wD Z a) Z G cs (pc + 3) lv (.ref (a 23) :: st) (c1, c2, M)) : V (wD Z a) Z G cs pc lv (.ref (a 6) :: st) (c1, c2, M) := V_get C 6 2 rfl rfl inX2 1 (by decide) wf_RX2_9 rfl d k
theorem gf_RX2_15 (C : CX (wD Z a) Z Ev G cc RX2 dep ret Pq csF) {pc : Nat} (d : decode cc pc = .ok (.getfield 15, 3)) (k : V (wD Z a) Z G cs (pc + 3) lv (.ref (a 24) :: st) (c1, c2, M)) : V (wD Z a) Z G cs pc lv (.ref (a 6) :: st) (c1, c2, M) := V_get C 6 2 rfl rfl inX2 2 (by decide) wf_RX2_15 rfl d k
theorem gf_RX2_19 (C : CX (wD Z a) Z Ev G cc RX2 dep ret Pq csF) {pc : Nat} (d : decode cc pc = .ok (.getfield 19, 3)) (k : V (wD Z a) Z G cs (pc + 3) lv (.int (gI M 17) :: st) (c1, c2, M)) : V (wD Z a) Z G cs pc lv (.ref (a 6) :: st) (c1, c2, M) := V_get C 6 2 rfl rfl inX2 3 (by decide) wf_RX2_19 rfl d k
theorem pf_RX2_19 (C : CX (wD Z a) Z Ev G cc RX2 dep ret Pq csF) {pc : Nat} {v : Int32} (d : decode cc pc = .ok (.putfield 19, 3)) (k : V (wD Z a) Z G cs (pc + 3) lv st (c1, c2, sI M 17 v)) : V (wD Z a) Z G cs pc lv (.int v :: .ref (a 6) :: st) (c1, c2, M) := V_put C 6 2 (fs := _) rfl rfl inX2 tyX2 tyX2_ok nmX2 3 (by decide) wf_RX2_19 rfl (tyX2_ok 3 (by decide)) rfl rfl (Nat.le_of_ble_eq_true rfl) d (x' := (c1, c2, sI M 17 v)) rfl k
theorem pf_RX2_23 (C : CX (wD Z a) Z Ev G cc RX2 dep ret Pq csF) {pc : Nat} {v : Int32} (d : decode cc pc = .ok (.putfield 23, 3)) (k : V (wD Z a) Z G cs (pc + 3) lv st (c1, c2, sI M 18 v)) : V (wD Z a) Z G cs pc lv (.int v :: .ref (a 6) :: st) (c1, c2, M) := V_put C 6 2 (fs := _) rfl rfl inX2 tyX2 tyX2_ok nmX2 4 (by decide) wf_RX2_23 rfl (tyX2_ok 4 (by decide)) rfl rfl (Nat.le_of_ble_eq_true rfl) d (x' := (c1, c2, sI M 18 v)) rfl k
theorem gf_RX2_26 (C : CX (wD Z a) Z Ev G cc RX2 dep ret Pq csF) {pc : Nat} (d : decode cc pc = .ok (.getfield 26, 3)) (k : V (wD Z a) Z G cs (pc + 3) lv (.ref (a 2) :: st) (c1, c2, M)) : V (wD Z a) Z G cs pc lv (.ref (a 6) :: st) (c1, c2, M) := V_get C 6 2 rfl rfl inX2 0 (by decide) wf_RX2_26 rfl d k
theorem gf_RX3_9 (C : CX (wD Z a) Z Ev G cc RX3 dep ret Pq csF) {pc : Nat} (d : decode cc pc = .ok (.getfield 9, 3)) (k : V (wD Z a) Z G cs (pc + 3) lv (.ref (a 8) :: st) (c1, c2, M)) : V (wD Z a) Z G cs pc lv (.ref (a 1) :: st) (c1, c2, M) := V_get C 1 3 rfl rfl inX3 0 (by decide) wf_RX3_9 rfl d k
theorem gf_RX3_15 (C : CX (wD Z a) Z Ev G cc RX3 dep ret Pq csF) {pc : Nat} (d : decode cc pc = .ok (.getfield 15, 3)) (k : V (wD Z a) Z G cs (pc + 3) lv (.ref (a 9) :: st) (c1, c2, M)) : V (wD Z a) Z G cs pc lv (.ref (a 1) :: st) (c1, c2, M) := V_get C 1 3 rfl rfl inX3 1 (by decide) wf_RX3_15 rfl d k
theorem gf_RX3_18 (C : CX (wD Z a) Z Ev G cc RX3 dep ret Pq csF) {pc : Nat} (d : decode cc pc = .ok (.getfield 18, 3)) (k : V (wD Z a) Z G cs (pc + 3) lv (.ref (a 10) :: st) (c1, c2, M)) : V (wD Z a) Z G cs pc lv (.ref (a 1) :: st) (c1, c2, M) := V_get C 1 3 rfl rfl inX3 2 (by decide) wf_RX3_18 rfl d k
theorem gf_RX4_9 (C : CX (wD Z a) Z Ev G cc RX4 dep ret Pq csF) {pc : Nat} (d : decode cc pc = .ok (.getfield 9, 3)) (k : V (wD Z a) Z G cs (pc + 3) lv (.ref (a 15) :: st) (c1, c2, M)) : V (wD Z a) Z G cs pc lv (.ref (a 3) :: st) (c1, c2, M) := V_get C 3 4 rfl rfl inX4 0 (by decide) wf_RX4_9 rfl d k
theorem gf_RX4_15 (C : CX (wD Z a) Z Ev G cc RX4 dep ret Pq csF) {pc : Nat} (d : decode cc pc = .ok (.getfield 15, 3)) (k : V (wD Z a) Z G cs (pc + 3) lv (.int (gI M 10) :: st) (c1, c2, M)) : V (wD Z a) Z G cs pc lv (.ref (a 3) :: st) (c1, c2, M) := V_get C 3 4 rfl rfl inX4 1 (by decide) wf_RX4_15 rfl d k
theorem pf_RX4_15 (C : CX (wD Z a) Z Ev G cc RX4 dep ret Pq csF) {pc : Nat} {v : Int32} (d : decode cc pc = .ok (.putfield 15, 3)) (k : V (wD Z a) Z G cs (pc + 3) lv st (c1, c2, sI M 10 v)) : V (wD Z a) Z G cs pc lv (.int v :: .ref (a 3) :: st) (c1, c2, M) := V_put C 3 4 (fs := _) rfl rfl inX4 tyX4 tyX4_ok nmX4 1 (by decide) wf_RX4_15 rfl (tyX4_ok 1 (by decide)) rfl rfl (Nat.le_of_ble_eq_true rfl) d (x' := (c1, c2, sI M 10 v)) rfl k
theorem gf_RX4_19 (C : CX (wD Z a) Z Ev G cc RX4 dep ret Pq csF) {pc : Nat} (d : decode cc pc = .ok (.getfield 19, 3)) (k : V (wD Z a) Z G cs (pc + 3) lv (.ref (a 16) :: st) (c1, c2, M)) : V (wD Z a) Z G cs pc lv (.ref (a 3) :: st) (c1, c2, M) := V_get C 3 4 rfl rfl inX4 2 (by decide) wf_RX4_19 rfl d k
theorem gf_RX5_9 (C : CX (wD Z a) Z Ev G cc RX5 dep ret Pq csF) {pc : Nat} (d : decode cc pc = .ok (.getfield 9, 3)) (k : V (wD Z a) Z G cs (pc + 3) lv (.int (gI M 2) :: st) (c1, c2, M)) : V (wD Z a) Z G cs pc lv (.ref (a 2) :: st) (c1, c2, M) := V_get C 2 5 rfl rfl inX5 0 (by decide) wf_RX5_9 rfl d k
theorem pf_RX5_9 (C : CX (wD Z a) Z Ev G cc RX5 dep ret Pq csF) {pc : Nat} {v : Int32} (d : decode cc pc = .ok (.putfield 9, 3)) (k : V (wD Z a) Z G cs (pc + 3) lv st (c1, c2, sI M 2 v)) : V (wD Z a) Z G cs pc lv (.int v :: .ref (a 2) :: st) (c1, c2, M) := V_put C 2 5 (fs := _) rfl rfl inX5 tyX5 tyX5_ok nmX5 0 (by decide) wf_RX5_9 rfl (tyX5_ok 0 (by decide)) rfl rfl (Nat.le_of_ble_eq_true rfl) d (x' := (c1, c2, sI M 2 v)) rfl k
theorem gf_RX5_15 (C : CX (wD Z a) Z Ev G cc RX5 dep ret Pq csF) {pc : Nat} (d : decode cc pc = .ok (.getfield 15, 3)) (k : V (wD Z a) Z G cs (pc + 3) lv (.ref (a 11) :: st) (c1, c2, M)) : V (wD Z a) Z G cs pc lv (.ref (a 2) :: st) (c1, c2, M) := V_get C 2 5 rfl rfl inX5 1 (by decide) wf_RX5_15 rfl d k
theorem gf_RX5_19 (C : CX (wD Z a) Z Ev G cc RX5 dep ret Pq csF) {pc : Nat} (d : decode cc pc = .ok (.getfield 19, 3)) (k : V (wD Z a) Z G cs (pc + 3) lv (.ref (a 12) :: st) (c1, c2, M)) : V (wD Z a) Z G cs pc lv (.ref (a 2) :: st) (c1, c2, M) := V_get C 2 5 rfl rfl inX5 2 (by decide) wf_RX5_19 rfl d k
theorem gf_RX5_22 (C : CX (wD Z a) Z Ev G cc RX5 dep ret Pq csF) {pc : Nat} (d : decode cc pc = .ok (.getfield 22, 3)) (k : V (wD Z a) Z G cs (pc + 3) lv (.ref (a 13) :: st) (c1, c2, M)) : V (wD Z a) Z G cs pc lv (.ref (a 2) :: st) (c1, c2, M) := V_get C 2 5 rfl rfl inX5 3 (by decide) wf_RX5_22 rfl d k
theorem gf_RX5_25 (C : CX (wD Z a) Z Ev G cc RX5 dep ret Pq csF) {pc : Nat} (d : decode cc pc = .ok (.getfield 25, 3)) (k : V (wD Z a) Z G cs (pc + 3) lv (.int (gI M 3) :: st) (c1, c2, M)) : V (wD Z a) Z G cs pc lv (.ref (a 2) :: st) (c1, c2, M) := V_get C 2 5 rfl rfl inX5 4 (by decide) wf_RX5_25 rfl d k
theorem pf_RX5_25 (C : CX (wD Z a) Z Ev G cc RX5 dep ret Pq csF) {pc : Nat} {v : Int32} (d : decode cc pc = .ok (.putfield 25, 3)) (k : V (wD Z a) Z G cs (pc + 3) lv st (c1, c2, sI M 3 v)) : V (wD Z a) Z G cs pc lv (.int v :: .ref (a 2) :: st) (c1, c2, M) := V_put C 2 5 (fs := _) rfl rfl inX5 tyX5 tyX5_ok nmX5 4 (by decide) wf_RX5_25 rfl (tyX5_ok 4 (by decide)) rfl rfl (Nat.le_of_ble_eq_true rfl) d (x' := (c1, c2, sI M 3 v)) rfl k
theorem gf_RX5_28 (C : CX (wD Z a) Z Ev G cc RX5 dep ret Pq csF) {pc : Nat} (d : decode cc pc = .ok (.getfield 28, 3)) (k : V (wD Z a) Z G cs (pc + 3) lv (.int (gI M 4) :: st) (c1, c2, M)) : V (wD Z a) Z G cs pc lv (.ref (a 2) :: st) (c1, c2, M) := V_get C 2 5 rfl rfl inX5 5 (by decide) wf_RX5_28 rfl d k
theorem pf_RX5_28 (C : CX (wD Z a) Z Ev G cc RX5 dep ret Pq csF) {pc : Nat} {v : Int32} (d : decode cc pc = .ok (.putfield 28, 3)) (k : V (wD Z a) Z G cs (pc + 3) lv st (c1, c2, sI M 4 v)) : V (wD Z a) Z G cs pc lv (.int v :: .ref (a 2) :: st) (c1, c2, M) := V_put C 2 5 (fs := _) rfl rfl inX5 tyX5 tyX5_ok nmX5 5 (by decide) wf_RX5_28 rfl (tyX5_ok 5 (by decide)) rfl rfl (Nat.le_of_ble_eq_true rfl) d (x' := (c1, c2, sI M 4 v)) rfl k
theorem gf_RX5_31 (C : CX (wD Z a) Z Ev G cc RX5 dep ret Pq csF) {pc : Nat} (d : decode cc pc = .ok (.getfield 31, 3)) (k : V (wD Z a) Z G cs (pc + 3) lv (.int (gI M 5) :: st) (c1, c2, M)) : V (wD Z a) Z G cs pc lv (.ref (a 2) :: st) (c1, c2, M) := V_get C 2 5 rfl rfl inX5 6 (by decide) wf_RX5_31 rfl d k
theorem pf_RX5_31 (C : CX (wD Z a) Z Ev G cc RX5 dep ret Pq csF) {pc : Nat} {v : Int32} (d : decode cc pc = .ok (.putfield 31, 3)) (k : V (wD Z a) Z G cs (pc + 3) lv st (c1, c2, sI M 5 v)) : V (wD Z a) Z G cs pc lv (.int v :: .ref (a 2) :: st) (c1, c2, M) := V_put C 2 5 (fs := _) rfl rfl inX5 tyX5 tyX5_ok nmX5 6 (by decide) wf_RX5_31 rfl (tyX5_ok 6 (by decide)) rfl rfl (Nat.le_of_ble_eq_true rfl) d (x' := (c1, c2, sI M 5 v)) rfl k
theorem gf_RX5_34 (C : CX (wD Z a) Z Ev G cc RX5 dep ret Pq csF) {pc : Nat} (d : decode cc pc = .ok (.getfield 34, 3)) (k : V (wD Z a) Z G cs (pc + 3) lv (.int (gI M 6) :: st) (c1, c2, M)) : V (wD Z a) Z G cs pc lv (.ref (a 2) :: st) (c1, c2, M) := V_get C 2 5 rfl rfl inX5 7 (by decide) wf_RX5_34 rfl d k
theorem pf_RX5_34 (C : CX (wD Z a) Z Ev G cc RX5 dep ret Pq csF) {pc : Nat} {v : Int32} (d : decode cc pc = .ok (.putfield 34, 3)) (k : V (wD Z a) Z G cs (pc + 3) lv st (c1, c2, sI M 6 v)) : V (wD Z a) Z G cs pc lv (.int v :: .ref (a 2) :: st) (c1, c2, M) := V_put C 2 5 (fs := _) rfl rfl inX5 tyX5 tyX5_ok nmX5 7 (by decide) wf_RX5_34 rfl (tyX5_ok 7 (by decide)) rfl rfl (Nat.le_of_ble_eq_true rfl) d (x' := (c1, c2, sI M 6 v)) rfl k
theorem gf_RX5_37 (C : CX (wD Z a) Z Ev G cc RX5 dep ret Pq csF) {pc : Nat} (d : decode cc pc = .ok (.getfield 37, 3)) (k : V (wD Z a) Z G cs (pc + 3) lv (.int (gI M 7) :: st) (c1, c2, M)) : V (wD Z a) Z G cs pc lv (.ref (a 2) :: st) (c1, c2, M) := V_get C 2 5 rfl rfl inX5 8 (by decide) wf_RX5_37 rfl d k
theorem pf_RX5_37 (C : CX (wD Z a) Z Ev G cc RX5 dep ret Pq csF) {pc : Nat} {v : Int32} (d : decode cc pc = .ok (.putfield 37, 3)) (k : V (wD Z a) Z G cs (pc + 3) lv st (c1, c2, sI M 7 v)) : V (wD Z a) Z G cs pc lv (.int v :: .ref (a 2) :: st) (c1, c2, M) := V_put C 2 5 (fs := _) rfl rfl inX5 tyX5 tyX5_ok nmX5 8 (by decide) wf_RX5_37 rfl (tyX5_ok 8 (by decide)) rfl rfl (Nat.le_of_ble_eq_true rfl) d (x' := (c1, c2, sI M 7 v)) rfl k
theorem gf_RX5_40 (C : CX (wD Z a) Z Ev G cc RX5 dep ret Pq csF) {pc : Nat} (d : decode cc pc = .ok (.getfield 40, 3)) (k : V (wD Z a) Z G cs (pc + 3) lv (.ref (a 14) :: st) (c1, c2, M)) : V (wD Z a) Z G cs pc lv (.ref (a 2) :: st) (c1, c2, M) := V_get C 2 5 rfl rfl inX5 9 (by decide) wf_RX5_40 rfl d k
theorem gf_RX5_43 (C : CX (wD Z a) Z Ev G cc RX5 dep ret Pq csF) {pc : Nat} (d : decode cc pc = .ok (.getfield 43, 3)) (k : V (wD Z a) Z G cs (pc + 3) lv (.int (gI M 8) :: st) (c1, c2, M)) : V (wD Z a) Z G cs pc lv (.ref (a 2) :: st) (c1, c2, M) := V_get C 2 5 rfl rfl inX5 10 (by decide) wf_RX5_43 rfl d k
theorem pf_RX5_43 (C : CX (wD Z a) Z Ev G cc RX5 dep ret Pq csF) {pc : Nat} {v : Int32} (d : decode cc pc = .ok (.putfield 43, 3)) (k : V (wD Z a) Z G cs (pc + 3) lv st (c1, c2, sI M 8 v)) : V (wD Z a) Z G cs pc lv (.int v :: .ref (a 2) :: st) (c1, c2, M) := V_put C 2 5 (fs := _) rfl rfl inX5 tyX5 tyX5_ok nmX5 10 (by decide) wf_RX5_43 rfl (tyX5_ok 10 (by decide)) rfl rfl (Nat.le_of_ble_eq_true rfl) d (x' := (c1, c2, sI M 8 v)) rfl k
theorem gf_RX5_46 (C : CX (wD Z a) Z Ev G cc RX5 dep ret Pq csF) {pc : Nat} (d : decode cc pc = .ok (.getfield 46, 3)) (k : V (wD Z a) Z G cs (pc + 3) lv (.int (gI M 9) :: st) (c1, c2, M)) : V (wD Z a) Z G cs pc lv (.ref (a 2) :: st) (c1, c2, M) := V_get C 2 5 rfl rfl inX5 11 (by decide) wf_RX5_46 rfl d k
theorem pf_RX5_46 (C : CX (wD Z a) Z Ev G cc RX5 dep ret Pq csF) {pc : Nat} {v : Int32} (d : decode cc pc = .ok (.putfield 46, 3)) {fa : Option β} (hf : (if isB v then fa else none) = some o) (k : fa = some o → V (wD Z a) Z G cs (pc + 3) lv st (c1, c2, sI M 9 v)) : V (wD Z a) Z G cs pc lv (.int v :: .ref (a 2) :: st) (c1, c2, M) := V_put C 2 5 (fs := _) rfl rfl inX5 tyX5 tyX5_ok nmX5 11 (by decide) wf_RX5_46 rfl (tyX5_ok 11 (by decide)) (nar_z (bgd hf).1) (fit_z (bgd hf).1) (Nat.le_of_ble_eq_true rfl) d (x' := (c1, c2, sI M 9 v)) rfl (k (bgd hf).2)
theorem gf_RX6_12 (C : CX (wD Z a) Z Ev G cc RX6 dep ret Pq csF) {pc : Nat} (d : decode cc pc = .ok (.getfield 12, 3)) (k : V (wD Z a) Z G cs (pc + 3) lv (.ref (a 1) :: st) (c1, c2, M)) : V (wD Z a) Z G cs pc lv (.ref (a 0) :: st) (c1, c2, M) := V_get C 0 6 rfl rfl inX6 0 (by decide) wf_RX6_12 rfl d k
theorem gf_RX6_19 (C : CX (wD Z a) Z Ev G cc RX6 dep ret Pq csF) {pc : Nat} (d : decode cc pc = .ok (.getfield 19, 3)) (k : V (wD Z a) Z G cs (pc + 3) lv (.ref (a 2) :: st) (c1, c2, M)) : V (wD Z a) Z G cs pc lv (.ref (a 0) :: st) (c1, c2, M) := V_get C 0 6 rfl rfl inX6 1 (by decide) wf_RX6_19 rfl d k
theorem gf_RX6_26 (C : CX (wD Z a) Z Ev G cc RX6 dep ret Pq csF) {pc : Nat} (d : decode cc pc = .ok (.getfield 26, 3)) (k : V (wD Z a) Z G cs (pc + 3) lv (.ref (a 3) :: st) (c1, c2, M)) : V (wD Z a) Z G cs pc lv (.ref (a 0) :: st) (c1, c2, M) := V_get C 0 6 rfl rfl inX6 2 (by decide) wf_RX6_26 rfl d k
theorem gf_RX6_33 (C : CX (wD Z a) Z Ev G cc RX6 dep ret Pq csF) {pc : Nat} (d : decode cc pc = .ok (.getfield 33, 3)) (k : V (wD Z a) Z G cs (pc + 3) lv (.ref (a 4) :: st) (c1, c2, M)) : V (wD Z a) Z G cs pc lv (.ref (a 0) :: st) (c1, c2, M) := V_get C 0 6 rfl rfl inX6 3 (by decide) wf_RX6_33 rfl d k
theorem gf_RX6_42 (C : CX (wD Z a) Z Ev G cc RX6 dep ret Pq csF) {pc : Nat} (d : decode cc pc = .ok (.getfield 42, 3)) (k : V (wD Z a) Z G cs (pc + 3) lv (.ref (a 5) :: st) (c1, c2, M)) : V (wD Z a) Z G cs pc lv (.ref (a 0) :: st) (c1, c2, M) := V_get C 0 6 rfl rfl inX6 4 (by decide) wf_RX6_42 rfl d k
theorem gf_RX6_49 (C : CX (wD Z a) Z Ev G cc RX6 dep ret Pq csF) {pc : Nat} (d : decode cc pc = .ok (.getfield 49, 3)) (k : V (wD Z a) Z G cs (pc + 3) lv (.ref (a 6) :: st) (c1, c2, M)) : V (wD Z a) Z G cs pc lv (.ref (a 0) :: st) (c1, c2, M) := V_get C 0 6 rfl rfl inX6 5 (by decide) wf_RX6_49 rfl d k
theorem gf_RX6_53 (C : CX (wD Z a) Z Ev G cc RX6 dep ret Pq csF) {pc : Nat} (d : decode cc pc = .ok (.getfield 53, 3)) (k : V (wD Z a) Z G cs (pc + 3) lv (.ref (a 7) :: st) (c1, c2, M)) : V (wD Z a) Z G cs pc lv (.ref (a 0) :: st) (c1, c2, M) := V_get C 0 6 rfl rfl inX6 6 (by decide) wf_RX6_53 rfl d k
theorem gf_RX6_57 (C : CX (wD Z a) Z Ev G cc RX6 dep ret Pq csF) {pc : Nat} (d : decode cc pc = .ok (.getfield 57, 3)) (k : V (wD Z a) Z G cs (pc + 3) lv (.int (gI M 0) :: st) (c1, c2, M)) : V (wD Z a) Z G cs pc lv (.ref (a 0) :: st) (c1, c2, M) := V_get C 0 6 rfl rfl inX6 7 (by decide) wf_RX6_57 rfl d k
theorem pf_RX6_57 (C : CX (wD Z a) Z Ev G cc RX6 dep ret Pq csF) {pc : Nat} {v : Int32} (d : decode cc pc = .ok (.putfield 57, 3)) (k : V (wD Z a) Z G cs (pc + 3) lv st (c1, c2, sI M 0 v)) : V (wD Z a) Z G cs pc lv (.int v :: .ref (a 0) :: st) (c1, c2, M) := V_put C 0 6 (fs := _) rfl rfl inX6 tyX6 tyX6_ok nmX6 7 (by decide) wf_RX6_57 rfl (tyX6_ok 7 (by decide)) rfl rfl (Nat.le_of_ble_eq_true rfl) d (x' := (c1, c2, sI M 0 v)) rfl k
theorem gf_RX6_61 (C : CX (wD Z a) Z Ev G cc RX6 dep ret Pq csF) {pc : Nat} (d : decode cc pc = .ok (.getfield 61, 3)) (k : V (wD Z a) Z G cs (pc + 3) lv (.int (gI M 1) :: st) (c1, c2, M)) : V (wD Z a) Z G cs pc lv (.ref (a 0) :: st) (c1, c2, M) := V_get C 0 6 rfl rfl inX6 8 (by decide) wf_RX6_61 rfl d k
theorem pf_RX6_61 (C : CX (wD Z a) Z Ev G cc RX6 dep ret Pq csF) {pc : Nat} {v : Int32} (d : decode cc pc = .ok (.putfield 61, 3)) (k : V (wD Z a) Z G cs (pc + 3) lv st (c1, c2, sI M 1 v)) : V (wD Z a) Z G cs pc lv (.int v :: .ref (a 0) :: st) (c1, c2, M) := V_put C 0 6 (fs := _) rfl rfl inX6 tyX6 tyX6_ok nmX6 8 (by decide) wf_RX6_61 rfl (tyX6_ok 8 (by decide)) rfl rfl (Nat.le_of_ble_eq_true rfl) d (x' := (c1, c2, sI M 1 v)) rfl k
theorem gf_RX6_78 (C : CX (wD Z a) Z Ev G cc RX6 dep ret Pq csF) {pc : Nat} (d : decode cc pc = .ok (.getfield 78, 3)) (k : V (wD Z a) Z G cs (pc + 3) lv (.int (gI M 2) :: st) (c1, c2, M)) : V (wD Z a) Z G cs pc lv (.ref (a 2) :: st) (c1, c2, M) := V_get C 2 5 rfl rfl inX5 0 (by decide) wf_RX6_78 rfl d k
theorem gf_RX6_115 (C : CX (wD Z a) Z Ev G cc RX6 dep ret Pq csF) {pc : Nat} (d : decode cc pc = .ok (.getfield 115, 3)) (k : V (wD Z a) Z G cs (pc + 3) lv (.ref (a 12) :: st) (c1, c2, M)) : V (wD Z a) Z G cs pc lv (.ref (a 2) :: st) (c1, c2, M) := V_get C 2 5 rfl rfl inX5 2 (by decide) wf_RX6_115 rfl d k
theorem gf_RX6_129 (C : CX (wD Z a) Z Ev G cc RX6 dep ret Pq csF) {pc : Nat} (d : decode cc pc = .ok (.getfield 129, 3)) (k : V (wD Z a) Z G cs (pc + 3) lv (.ref (a 9) :: st) (c1, c2, M)) : V (wD Z a) Z G cs pc lv (.ref (a 1) :: st) (c1, c2, M) := V_get C 1 3 rfl rfl inX3 1 (by decide) wf_RX6_129 rfl d k
theorem gf_RX6_132 (C : CX (wD Z a) Z Ev G cc RX6 dep ret Pq csF) {pc : Nat} (d : decode cc pc = .ok (.getfield 132, 3)) (k : V (wD Z a) Z G cs (pc + 3) lv (.int (gI M 10) :: st) (c1, c2, M)) : V (wD Z a) Z G cs pc lv (.ref (a 3) :: st) (c1, c2, M) := V_get C 3 4 rfl rfl inX4 1 (by decide) wf_RX6_132 rfl d k
theorem gf_RX6_135 (C : CX (wD Z a) Z Ev G cc RX6 dep ret Pq csF) {pc : Nat} (d : decode cc pc = .ok (.getfield 135, 3)) (k : V (wD Z a) Z G cs (pc + 3) lv (.ref (a 15) :: st) (c1, c2, M)) : V (wD Z a) Z G cs pc lv (.ref (a 3) :: st) (c1, c2, M) := V_get C 3 4 rfl rfl inX4 0 (by decide) wf_RX6_135 rfl d k
theorem gf_RX6_143 (C : CX (wD Z a) Z Ev G cc RX6 dep ret Pq csF) {pc : Nat} (d : decode cc pc = .ok (.getfield 143, 3)) (k : V (wD Z a) Z G cs (pc + 3) lv (.int (gI M 7) :: st) (c1, c2, M)) : V (wD Z a) Z G cs pc lv (.ref (a 2) :: st) (c1, c2, M) := V_get C 2 5 rfl rfl inX5 8 (by decide) wf_RX6_143 rfl d k
theorem gf_RX6_152 (C : CX (wD Z a) Z Ev G cc RX6 dep ret Pq csF) {pc : Nat} (d : decode cc pc = .ok (.getfield 152, 3)) (k : V (wD Z a) Z G cs (pc + 3) lv (.int (gI M 9) :: st) (c1, c2, M)) : V (wD Z a) Z G cs pc lv (.ref (a 2) :: st) (c1, c2, M) := V_get C 2 5 rfl rfl inX5 11 (by decide) wf_RX6_152 rfl d k
theorem pf_RX6_152 (C : CX (wD Z a) Z Ev G cc RX6 dep ret Pq csF) {pc : Nat} {v : Int32} (d : decode cc pc = .ok (.putfield 152, 3)) {fa : Option β} (hf : (if isB v then fa else none) = some o) (k : fa = some o → V (wD Z a) Z G cs (pc + 3) lv st (c1, c2, sI M 9 v)) : V (wD Z a) Z G cs pc lv (.int v :: .ref (a 2) :: st) (c1, c2, M) := V_put C 2 5 (fs := _) rfl rfl inX5 tyX5 tyX5_ok nmX5 11 (by decide) wf_RX6_152 rfl (tyX5_ok 11 (by decide)) (nar_z (bgd hf).1) (fit_z (bgd hf).1) (Nat.le_of_ble_eq_true rfl) d (x' := (c1, c2, sI M 9 v)) rfl (k (bgd hf).2)
theorem gf_RX6_177 (C : CX (wD Z a) Z Ev G cc RX6 dep ret Pq csF) {pc : Nat} (d : decode cc pc = .ok (.getfield 177, 3)) (k : V (wD Z a) Z G cs (pc + 3) lv (.int (gI M 11) :: st) (c1, c2, M)) : V (wD Z a) Z G cs pc lv (.ref (a 4) :: st) (c1, c2, M) := V_get C 4 0 rfl rfl inX0 0 (by decide) wf_RX6_177 rfl d k
theorem gf_RX6_189 (C : CX (wD Z a) Z Ev G cc RX6 dep ret Pq csF) {pc : Nat} (d : decode cc pc = .ok (.getfield 189, 3)) (k : V (wD Z a) Z G cs (pc + 3) lv (.ref (a 11) :: st) (c1, c2, M)) : V (wD Z a) Z G cs pc lv (.ref (a 2) :: st) (c1, c2, M) := V_get C 2 5 rfl rfl inX5 1 (by decide) wf_RX6_189 rfl d k
theorem gf_RX6_195 (C : CX (wD Z a) Z Ev G cc RX6 dep ret Pq csF) {pc : Nat} (d : decode cc pc = .ok (.getfield 195, 3)) (k : V (wD Z a) Z G cs (pc + 3) lv (.ref (a 8) :: st) (c1, c2, M)) : V (wD Z a) Z G cs pc lv (.ref (a 1) :: st) (c1, c2, M) := V_get C 1 3 rfl rfl inX3 0 (by decide) wf_RX6_195 rfl d k
theorem gf_RX6_203 (C : CX (wD Z a) Z Ev G cc RX6 dep ret Pq csF) {pc : Nat} (d : decode cc pc = .ok (.getfield 203, 3)) (k : V (wD Z a) Z G cs (pc + 3) lv (.int (gI M 17) :: st) (c1, c2, M)) : V (wD Z a) Z G cs pc lv (.ref (a 6) :: st) (c1, c2, M) := V_get C 6 2 rfl rfl inX2 3 (by decide) wf_RX6_203 rfl d k
theorem gf_RX6_227 (C : CX (wD Z a) Z Ev G cc RX6 dep ret Pq csF) {pc : Nat} (d : decode cc pc = .ok (.getfield 227, 3)) (k : V (wD Z a) Z G cs (pc + 3) lv (.ref (a 23) :: st) (c1, c2, M)) : V (wD Z a) Z G cs pc lv (.ref (a 6) :: st) (c1, c2, M) := V_get C 6 2 rfl rfl inX2 1 (by decide) wf_RX6_227 rfl d k
theorem gf_RX6_237 (C : CX (wD Z a) Z Ev G cc RX6 dep ret Pq csF) {pc : Nat} (d : decode cc pc = .ok (.getfield 237, 3)) (k : V (wD Z a) Z G cs (pc + 3) lv (.int (gI M 18) :: st) (c1, c2, M)) : V (wD Z a) Z G cs pc lv (.ref (a 6) :: st) (c1, c2, M) := V_get C 6 2 rfl rfl inX2 4 (by decide) wf_RX6_237 rfl d k
theorem gf_RX7_9 (C : CX (wM Z a) Z Ev G cc RX7 dep ret Pq csF) {pc : Nat} (d : decode cc pc = .ok (.getfield 9, 3)) (k : V (wM Z a) Z G cs (pc + 3) lv (.ref (a 1) :: st) (c1, c2, M)) : V (wM Z a) Z G cs pc lv (.ref (a 0) :: st) (c1, c2, M) := V_get C 0 7 rfl rfl inX7 1 (by decide) wf_RX7_9 rfl d k
theorem gf_RX7_13 (C : CX (wM Z a) Z Ev G cc RX7 dep ret Pq csF) {pc : Nat} (d : decode cc pc = .ok (.getfield 13, 3)) (k : V (wM Z a) Z G cs (pc + 3) lv (.ref (a 2) :: st) (c1, c2, M)) : V (wM Z a) Z G cs pc lv (.ref (a 0) :: st) (c1, c2, M) := V_get C 0 7 rfl rfl inX7 2 (by decide) wf_RX7_13 rfl d k
theorem gf_RX7_16 (C : CX (wM Z a) Z Ev G cc RX7 dep ret Pq csF) {pc : Nat} (d : decode cc pc = .ok (.getfield 16, 3)) (k : V (wM Z a) Z G cs (pc + 3) lv (.ref (a 3) :: st) (c1, c2, M)) : V (wM Z a) Z G cs pc lv (.ref (a 0) :: st) (c1, c2, M) := V_get C 0 7 rfl rfl inX7 3 (by decide) wf_RX7_16 rfl d k
theorem gf_RX7_19 (C : CX (wM Z a) Z Ev G cc RX7 dep ret Pq csF) {pc : Nat} (d : decode cc pc = .ok (.getfield 19, 3)) (k : V (wM Z a) Z G cs (pc + 3) lv (.ref (a 4) :: st) (c1, c2, M)) : V (wM Z a) Z G cs pc lv (.ref (a 0) :: st) (c1, c2, M) := V_get C 0 7 rfl rfl inX7 4 (by decide) wf_RX7_19 rfl d k
theorem gf_RX7_22 (C : CX (wM Z a) Z Ev G cc RX7 dep ret Pq csF) {pc : Nat} (d : decode cc pc = .ok (.getfield 22, 3)) (k : V (wM Z a) Z G cs (pc + 3) lv (.ref (a 5) :: st) (c1, c2, M)) : V (wM Z a) Z G cs pc lv (.ref (a 0) :: st) (c1, c2, M) := V_get C 0 7 rfl rfl inX7 5 (by decide) wf_RX7_22 rfl d k
theorem gf_RX7_25 (C : CX (wM Z a) Z Ev G cc RX7 dep ret Pq csF) {pc : Nat} (d : decode cc pc = .ok (.getfield 25, 3)) (k : V (wM Z a) Z G cs (pc + 3) lv (.int (gI M 1) :: st) (c1, c2, M)) : V (wM Z a) Z G cs pc lv (.ref (a 0) :: st) (c1, c2, M) := V_get C 0 7 rfl rfl inX7 6 (by decide) wf_RX7_25 rfl d k
theorem pf_RX7_25 (C : CX (wM Z a) Z Ev G cc RX7 dep ret Pq csF) {pc : Nat} {v : Int32} (d : decode cc pc = .ok (.putfield 25, 3)) (k : V (wM Z a) Z G cs (pc + 3) lv st (c1, c2, sI M 1 v)) : V (wM Z a) Z G cs pc lv (.int v :: .ref (a 0) :: st) (c1, c2, M) := V_put C 0 7 (fs := _) rfl rfl inX7 tyX7 tyX7_ok nmX7 6 (by decide) wf_RX7_25 rfl (tyX7_ok 6 (by decide)) rfl rfl (Nat.le_of_ble_eq_true rfl) d (x' := (c1, c2, sI M 1 v)) rfl k
theorem gf_RX7_29 (C : CX (wM Z a) Z Ev G cc RX7 dep ret Pq csF) {pc : Nat} (d : decode cc pc = .ok (.getfield 29, 3)) (k : V (wM Z a) Z G cs (pc + 3) lv (.ref (a 6) :: st) (c1, c2, M)) : V (wM Z a) Z G cs pc lv (.ref (a 0) :: st) (c1, c2, M) := V_get C 0 7 rfl rfl inX7 10 (by decide) wf_RX7_29 rfl d k
theorem gf_RX7_32 (C : CX (wM Z a) Z Ev G cc RX7 dep ret Pq csF) {pc : Nat} (d : decode cc pc = .ok (.getfield 32, 3)) (k : V (wM Z a) Z G cs (pc + 3) lv (.ref (a 7) :: st) (c1, c2, M)) : V (wM Z a) Z G cs pc lv (.ref (a 0) :: st) (c1, c2, M) := V_get C 0 7 rfl rfl inX7 12 (by decide) wf_RX7_32 rfl d k
theorem gf_RX7_36 (C : CX (wM Z a) Z Ev G cc RX7 dep ret Pq csF) {pc : Nat} (d : decode cc pc = .ok (.getfield 36, 3)) (k : V (wM Z a) Z G cs (pc + 3) lv (.ref (a 8) :: st) (c1, c2, M)) : V (wM Z a) Z G cs pc lv (.ref (a 0) :: st) (c1, c2, M) := V_get C 0 7 rfl rfl inX7 14 (by decide) wf_RX7_36 rfl d k
theorem gf_RX7_39 (C : CX (wM Z a) Z Ev G cc RX7 dep ret Pq csF) {pc : Nat} (d : decode cc pc = .ok (.getfield 39, 3)) (k : V (wM Z a) Z G cs (pc + 3) lv (.ref (a 9) :: st) (c1, c2, M)) : V (wM Z a) Z G cs pc lv (.ref (a 0) :: st) (c1, c2, M) := V_get C 0 7 rfl rfl inX7 15 (by decide) wf_RX7_39 rfl d k
theorem gf_RX7_42 (C : CX (wM Z a) Z Ev G cc RX7 dep ret Pq csF) {pc : Nat} (d : decode cc pc = .ok (.getfield 42, 3)) (k : V (wM Z a) Z G cs (pc + 3) lv (.ref (a 10) :: st) (c1, c2, M)) : V (wM Z a) Z G cs pc lv (.ref (a 0) :: st) (c1, c2, M) := V_get C 0 7 rfl rfl inX7 16 (by decide) wf_RX7_42 rfl d k
theorem gf_RX7_45 (C : CX (wM Z a) Z Ev G cc RX7 dep ret Pq csF) {pc : Nat} (d : decode cc pc = .ok (.getfield 45, 3)) (k : V (wM Z a) Z G cs (pc + 3) lv (.ref (a 11) :: st) (c1, c2, M)) : V (wM Z a) Z G cs pc lv (.ref (a 0) :: st) (c1, c2, M) := V_get C 0 7 rfl rfl inX7 18 (by decide) wf_RX7_45 rfl d k
theorem gf_RX7_48 (C : CX (wM Z a) Z Ev G cc RX7 dep ret Pq csF) {pc : Nat} (d : decode cc pc = .ok (.getfield 48, 3)) (k : V (wM Z a) Z G cs (pc + 3) lv (.int (gI M 8) :: st) (c1, c2, M)) : V (wM Z a) Z G cs pc lv (.ref (a 0) :: st) (c1, c2, M) := V_get C 0 7 rfl rfl inX7 19 (by decide) wf_RX7_48 rfl d k
theorem pf_RX7_48 (C : CX (wM Z a) Z Ev G cc RX7 dep ret Pq csF) {pc : Nat} {v : Int32} (d : decode cc pc = .ok (.putfield 48, 3)) (k : V (wM Z a) Z G cs (pc + 3) lv st (c1, c2, sI M 8 v)) : V (wM Z a) Z G cs pc lv (.int v :: .ref (a 0) :: st) (c1, c2, M) := V_put C 0 7 (fs := _) rfl rfl inX7 tyX7 tyX7_ok nmX7 19 (by decide) wf_RX7_48 rfl (tyX7_ok 19 (by decide)) rfl rfl (Nat.le_of_ble_eq_true rfl) d (x' := (c1, c2, sI M 8 v)) rfl k
theorem gf_RX7_51 (C : CX (wM Z a) Z Ev G cc RX7 dep ret Pq csF) {pc : Nat} (d : decode cc pc = .ok (.getfield 51, 3)) (k : V (wM Z a) Z G cs (pc + 3) lv (.ref (a 12) :: st) (c1, c2, M)) : V (wM Z a) Z G cs pc lv (.ref (a 0) :: st) (c1, c2, M) := V_get C 0 7 rfl rfl inX7 20 (by decide) wf_RX7_51 rfl d k
theorem gf_RX7_55 (C : CX (wM Z a) Z Ev G cc RX7 dep ret Pq csF) {pc : Nat} (d : decode cc pc = .ok (.getfield 55, 3)) (k : V (wM Z a) Z G cs (pc + 3) lv (.ref (a 13) :: st) (c1, c2, M)) : V (wM Z a) Z G cs pc lv (.ref (a 0) :: st) (c1, c2, M) := V_get C 0 7 rfl rfl inX7 21 (by decide) wf_RX7_55 rfl d k
theorem gf_RX7_58 (C : CX (wM Z a) Z Ev G cc RX7 dep ret Pq csF) {pc : Nat} (d : decode cc pc = .ok (.getfield 58, 3)) (k : V (wM Z a) Z G cs (pc + 3) lv (.ref (a 14) :: st) (c1, c2, M)) : V (wM Z a) Z G cs pc lv (.ref (a 0) :: st) (c1, c2, M) := V_get C 0 7 rfl rfl inX7 22 (by decide) wf_RX7_58 rfl d k
theorem gf_RX7_61 (C : CX (wM Z a) Z Ev G cc RX7 dep ret Pq csF) {pc : Nat} (d : decode cc pc = .ok (.getfield 61, 3)) (k : V (wM Z a) Z G cs (pc + 3) lv (.ref (a 15) :: st) (c1, c2, M)) : V (wM Z a) Z G cs pc lv (.ref (a 0) :: st) (c1, c2, M) := V_get C 0 7 rfl rfl inX7 23 (by decide) wf_RX7_61 rfl d k
theorem gf_RX7_64 (C : CX (wM Z a) Z Ev G cc RX7 dep ret Pq csF) {pc : Nat} (d : decode cc pc = .ok (.getfield 64, 3)) (k : V (wM Z a) Z G cs (pc + 3) lv (.ref (a 16) :: st) (c1, c2, M)) : V (wM Z a) Z G cs pc lv (.ref (a 0) :: st) (c1, c2, M) := V_get C 0 7 rfl rfl inX7 24 (by decide) wf_RX7_64 rfl d k
theorem gf_RX7_67 (C : CX (wM Z a) Z Ev G cc RX7 dep ret Pq csF) {pc : Nat} (d : decode cc pc = .ok (.getfield 67, 3)) (k : V (wM Z a) Z G cs (pc + 3) lv (.ref (a 17) :: st) (c1, c2, M)) : V (wM Z a) Z G cs pc lv (.ref (a 0) :: st) (c1, c2, M) := V_get C 0 7 rfl rfl inX7 25 (by decide) wf_RX7_67 rfl d k
theorem gf_RX7_70 (C : CX (wM Z a) Z Ev G cc RX7 dep ret Pq csF) {pc : Nat} (d : decode cc pc = .ok (.getfield 70, 3)) (k : V (wM Z a) Z G cs (pc + 3) lv (.ref (a 18) :: st) (c1, c2, M)) : V (wM Z a) Z G cs pc lv (.ref (a 0) :: st) (c1, c2, M) := V_get C 0 7 rfl rfl inX7 26 (by decide) wf_RX7_70 rfl d k
theorem gf_RX7_73 (C : CX (wM Z a) Z Ev G cc RX7 dep ret Pq csF) {pc : Nat} (d : decode cc pc = .ok (.getfield 73, 3)) (k : V (wM Z a) Z G cs (pc + 3) lv (.int (gI M 0) :: st) (c1, c2, M)) : V (wM Z a) Z G cs pc lv (.ref (a 0) :: st) (c1, c2, M) := V_get C 0 7 rfl rfl inX7 0 (by decide) wf_RX7_73 rfl d k
theorem pf_RX7_73 (C : CX (wM Z a) Z Ev G cc RX7 dep ret Pq csF) {pc : Nat} {v : Int32} (d : decode cc pc = .ok (.putfield 73, 3)) (k : V (wM Z a) Z G cs (pc + 3) lv st (c1, c2, sI M 0 v)) : V (wM Z a) Z G cs pc lv (.int v :: .ref (a 0) :: st) (c1, c2, M) := V_put C 0 7 (fs := _) rfl rfl inX7 tyX7 tyX7_ok nmX7 0 (by decide) wf_RX7_73 rfl (tyX7_ok 0 (by decide)) rfl rfl (Nat.le_of_ble_eq_true rfl) d (x' := (c1, c2, sI M 0 v)) rfl k
theorem gf_RX7_92 (C : CX (wM Z a) Z Ev G cc RX7 dep ret Pq csF) {pc : Nat} (d : decode cc pc = .ok (.getfield 92, 3)) (k : V (wM Z a) Z G cs (pc + 3) lv (.int (gI M 6) :: st) (c1, c2, M)) : V (wM Z a) Z G cs pc lv (.ref (a 0) :: st) (c1, c2, M) := V_get C 0 7 rfl rfl inX7 13 (by decide) wf_RX7_92 rfl d k
theorem pf_RX7_92 (C : CX (wM Z a) Z Ev G cc RX7 dep ret Pq csF) {pc : Nat} {v : Int32} (d : decode cc pc = .ok (.putfield 92, 3)) (k : V (wM Z a) Z G cs (pc + 3) lv st (c1, c2, sI M 6 v)) : V (wM Z a) Z G cs pc lv (.int v :: .ref (a 0) :: st) (c1, c2, M) := V_put C 0 7 (fs := _) rfl rfl inX7 tyX7 tyX7_ok nmX7 13 (by decide) wf_RX7_92 rfl (tyX7_ok 13 (by decide)) rfl rfl (Nat.le_of_ble_eq_true rfl) d (x' := (c1, c2, sI M 6 v)) rfl k
theorem gf_RX7_95 (C : CX (wM Z a) Z Ev G cc RX7 dep ret Pq csF) {pc : Nat} (d : decode cc pc = .ok (.getfield 95, 3)) (k : V (wM Z a) Z G cs (pc + 3) lv (.int (gI M 2) :: st) (c1, c2, M)) : V (wM Z a) Z G cs pc lv (.ref (a 0) :: st) (c1, c2, M) := V_get C 0 7 rfl rfl inX7 7 (by decide) wf_RX7_95 rfl d k
theorem pf_RX7_95 (C : CX (wM Z a) Z Ev G cc RX7 dep ret Pq csF) {pc : Nat} {v : Int32} (d : decode cc pc = .ok (.putfield 95, 3)) (k : V (wM Z a) Z G cs (pc + 3) lv st (c1, c2, sI M 2 v)) : V (wM Z a) Z G cs pc lv (.int v :: .ref (a 0) :: st) (c1, c2, M) := V_put C 0 7 (fs := _) rfl rfl inX7 tyX7 tyX7_ok nmX7 7 (by decide) wf_RX7_95 rfl (tyX7_ok 7 (by decide)) rfl rfl (Nat.le_of_ble_eq_true rfl) d (x' := (c1, c2, sI M 2 v)) rfl k
theorem gf_RX7_98 (C : CX (wM Z a) Z Ev G cc RX7 dep ret Pq csF) {pc : Nat} (d : decode cc pc = .ok (.getfield 98, 3)) (k : V (wM Z a) Z G cs (pc + 3) lv (.int (gI M 3) :: st) (c1, c2, M)) : V (wM Z a) Z G cs pc lv (.ref (a 0) :: st) (c1, c2, M) := V_get C 0 7 rfl rfl inX7 8 (by decide) wf_RX7_98 rfl d k
theorem pf_RX7_98 (C : CX (wM Z a) Z Ev G cc RX7 dep ret Pq csF) {pc : Nat} {v : Int32} (d : decode cc pc = .ok (.putfield 98, 3)) (k : V (wM Z a) Z G cs (pc + 3) lv st (c1, c2, sI M 3 v)) : V (wM Z a) Z G cs pc lv (.int v :: .ref (a 0) :: st) (c1, c2, M) := V_put C 0 7 (fs := _) rfl rfl inX7 tyX7 tyX7_ok nmX7 8 (by decide) wf_RX7_98 rfl (tyX7_ok 8 (by decide)) rfl rfl (Nat.le_of_ble_eq_true rfl) d (x' := (c1, c2, sI M 3 v)) rfl k
theorem gf_RX7_108 (C : CX (wM Z a) Z Ev G cc RX7 dep ret Pq csF) {pc : Nat} (d : decode cc pc = .ok (.getfield 108, 3)) (k : V (wM Z a) Z G cs (pc + 3) lv (.int (gI M 7) :: st) (c1, c2, M)) : V (wM Z a) Z G cs pc lv (.ref (a 0) :: st) (c1, c2, M) := V_get C 0 7 rfl rfl inX7 17 (by decide) wf_RX7_108 rfl d k
theorem pf_RX7_108 (C : CX (wM Z a) Z Ev G cc RX7 dep ret Pq csF) {pc : Nat} {v : Int32} (d : decode cc pc = .ok (.putfield 108, 3)) (k : V (wM Z a) Z G cs (pc + 3) lv st (c1, c2, sI M 7 v)) : V (wM Z a) Z G cs pc lv (.int v :: .ref (a 0) :: st) (c1, c2, M) := V_put C 0 7 (fs := _) rfl rfl inX7 tyX7 tyX7_ok nmX7 17 (by decide) wf_RX7_108 rfl (tyX7_ok 17 (by decide)) rfl rfl (Nat.le_of_ble_eq_true rfl) d (x' := (c1, c2, sI M 7 v)) rfl k
theorem gf_RX7_119 (C : CX (wM Z a) Z Ev G cc RX7 dep ret Pq csF) {pc : Nat} (d : decode cc pc = .ok (.getfield 119, 3)) (k : V (wM Z a) Z G cs (pc + 3) lv (.int (gI M 4) :: st) (c1, c2, M)) : V (wM Z a) Z G cs pc lv (.ref (a 0) :: st) (c1, c2, M) := V_get C 0 7 rfl rfl inX7 9 (by decide) wf_RX7_119 rfl d k
theorem pf_RX7_119 (C : CX (wM Z a) Z Ev G cc RX7 dep ret Pq csF) {pc : Nat} {v : Int32} (d : decode cc pc = .ok (.putfield 119, 3)) (k : V (wM Z a) Z G cs (pc + 3) lv st (c1, c2, sI M 4 v)) : V (wM Z a) Z G cs pc lv (.int v :: .ref (a 0) :: st) (c1, c2, M) := V_put C 0 7 (fs := _) rfl rfl inX7 tyX7 tyX7_ok nmX7 9 (by decide) wf_RX7_119 rfl (tyX7_ok 9 (by decide)) rfl rfl (Nat.le_of_ble_eq_true rfl) d (x' := (c1, c2, sI M 4 v)) rfl k
theorem gf_RX7_122 (C : CX (wM Z a) Z Ev G cc RX7 dep ret Pq csF) {pc : Nat} (d : decode cc pc = .ok (.getfield 122, 3)) (k : V (wM Z a) Z G cs (pc + 3) lv (.int (gI M 5) :: st) (c1, c2, M)) : V (wM Z a) Z G cs pc lv (.ref (a 0) :: st) (c1, c2, M) := V_get C 0 7 rfl rfl inX7 11 (by decide) wf_RX7_122 rfl d k
theorem pf_RX7_122 (C : CX (wM Z a) Z Ev G cc RX7 dep ret Pq csF) {pc : Nat} {v : Int32} (d : decode cc pc = .ok (.putfield 122, 3)) {fa : Option β} (hf : (if isB v then fa else none) = some o) (k : fa = some o → V (wM Z a) Z G cs (pc + 3) lv st (c1, c2, sI M 5 v)) : V (wM Z a) Z G cs pc lv (.int v :: .ref (a 0) :: st) (c1, c2, M) := V_put C 0 7 (fs := _) rfl rfl inX7 tyX7 tyX7_ok nmX7 11 (by decide) wf_RX7_122 rfl (tyX7_ok 11 (by decide)) (nar_z (bgd hf).1) (fit_z (bgd hf).1) (Nat.le_of_ble_eq_true rfl) d (x' := (c1, c2, sI M 5 v)) rfl (k (bgd hf).2)
theorem gf_RX7_166 (C : CX (wM Z a) Z Ev G cc RX7 dep ret Pq csF) {pc : Nat} (d : decode cc pc = .ok (.getfield 166, 3)) (k : V (wM Z a) Z G cs (pc + 3) lv (.int (gI M 9) :: st) (c1, c2, M)) : V (wM Z a) Z G cs pc lv (.ref (a 0) :: st) (c1, c2, M) := V_get C 0 7 rfl rfl inX7 27 (by decide) wf_RX7_166 rfl d k
theorem pf_RX7_166 (C : CX (wM Z a) Z Ev G cc RX7 dep ret Pq csF) {pc : Nat} {v : Int32} (d : decode cc pc = .ok (.putfield 166, 3)) (k : V (wM Z a) Z G cs (pc + 3) lv st (c1, c2, sI M 9 v)) : V (wM Z a) Z G cs pc lv (.int v :: .ref (a 0) :: st) (c1, c2, M) := V_put C 0 7 (fs := _) rfl rfl inX7 tyX7 tyX7_ok nmX7 27 (by decide) wf_RX7_166 rfl (tyX7_ok 27 (by decide)) rfl rfl (Nat.le_of_ble_eq_true rfl) d (x' := (c1, c2, sI M 9 v)) rfl k
theorem alD_7 {ow : String} (C : CX (wD Z a) Z Ev G cc ow dep ret Pq csF) {pc : Nat} {i : Int32} (d : decode cc pc = .ok (.iaload, 1)) {fa : Option β} (hf : (if inb i 9 then fa else none) = some o) (k : fa = some o → V (wD Z a) Z G cs (pc + 1) lv (.int (gA M 7 i) :: st) (c1, c2, M)) : V (wD Z a) Z G cs pc lv (.int i :: .ref (a 7) :: st) (c1, c2, M) := V_iald C 7 rfl d hf k
theorem asD_7 {ow : String} (C : CX (wD Z a) Z Ev G cc ow dep ret Pq csF) {pc : Nat} {i v : Int32} (d : decode cc pc = .ok (.iastore, 1)) {fa : Option β} (hf : (if inb i 9 then fa else none) = some o) (k : fa = some o → V (wD Z a) Z G cs (pc + 1) lv st (c1, c2, sA M 7 i v)) : V (wD Z a) Z G cs pc lv (.int v :: .int i :: .ref (a 7) :: st) (c1, c2, M) := V_iast C 7 rfl d hf (x' := (c1, c2, sA M 7 i v)) rfl k
theorem alD_8 {ow : String} (C : CX (wD Z a) Z Ev G cc ow dep ret Pq csF) {pc : Nat} {i : Int32} (d : decode cc pc = .ok (.iaload, 1)) {fa : Option β} (hf : (if inb i 9 then fa else none) = some o) (k : fa = some o → V (wD Z a) Z G cs (pc + 1) lv (.int (gA M 8 i) :: st) (c1, c2, M)) : V (wD Z a) Z G cs pc lv (.int i :: .ref (a 8) :: st) (c1, c2, M) := V_iald C 8 rfl d hf k
theorem asD_8 {ow : String} (C : CX (wD Z a) Z Ev G cc ow dep ret Pq csF) {pc : Nat} {i v : Int32} (d : decode cc pc = .ok (.iastore, 1)) {fa : Option β} (hf : (if inb i 9 then fa else none) = some o) (k : fa = some o → V (wD Z a) Z G cs (pc + 1) lv st (c1, c2, sA M 8 i v)) : V (wD Z a) Z G cs pc lv (.int v :: .int i :: .ref (a 8) :: st) (c1, c2, M) := V_iast C 8 rfl d hf (x' := (c1, c2, sA M 8 i v)) rfl k
theorem alD_9 {ow : String} (C : CX (wD Z a) Z Ev G cc ow dep ret Pq csF) {pc : Nat} {i : Int32} (d : decode cc pc = .ok (.iaload, 1)) {fa : Option β} (hf : (if inb i 9 then fa else none) = some o) (k : fa = some o → V (wD Z a) Z G cs (pc + 1) lv (.int (gA M 9 i) :: st) (c1, c2, M)) : V (wD Z a) Z G cs pc lv (.int i :: .ref (a 9) :: st) (c1, c2, M) := V_iald C 9 rfl d hf k
theorem asD_9 {ow : String} (C : CX (wD Z a) Z Ev G cc ow dep ret Pq csF) {pc : Nat} {i v : Int32} (d : decode cc pc = .ok (.iastore, 1)) {fa : Option β} (hf : (if inb i 9 then fa else none) = some o) (k : fa = some o → V (wD Z a) Z G cs (pc + 1) lv st (c1, c2, sA M 9 i v)) : V (wD Z a) Z G cs pc lv (.int v :: .int i :: .ref (a 9) :: st) (c1, c2, M) := V_iast C 9 rfl d hf (x' := (c1, c2, sA M 9 i v)) rfl k
theorem alD_10 {ow : String} (C : CX (wD Z a) Z Ev G cc ow dep ret Pq csF) {pc : Nat} {i : Int32} (d : decode cc pc = .ok (.iaload, 1)) {fa : Option β} (hf : (if inb i 36 then fa else none) = some o) (k : fa = some o → V (wD Z a) Z G cs (pc + 1) lv (.int (gA M 10 i) :: st) (c1, c2, M)) : V (wD Z a) Z G cs pc lv (.int i :: .ref (a 10) :: st) (c1, c2, M) := V_iald C 10 rfl d hf k
theorem asD_10 {ow : String} (C : CX (wD Z a) Z Ev G cc ow dep ret Pq csF) {pc : Nat} {i v : Int32} (d : decode cc pc = .ok (.iastore, 1)) {fa : Option β} (hf : (if inb i 36 then fa else none) = some o) (k : fa = some o → V (wD Z a) Z G cs (pc + 1) lv st (c1, c2, sA M 10 i v)) : V (wD Z a) Z G cs pc lv (.int v :: .int i :: .ref (a 10) :: st) (c1, c2, M) := V_iast C 10 rfl d hf (x' := (c1, c2, sA M 10 i v)) rfl k
theorem alD_11 {ow : String} (C : CX (wD Z a) Z Ev G cc ow dep ret Pq csF) {pc : Nat} {i : Int32} (d : decode cc pc = .ok (.iaload, 1)) {fa : Option β} (hf : (if inb i 9 then fa else none) = some o) (k : fa = some o → V (wD Z a) Z G cs (pc + 1) lv (.int (gA M 11 i) :: st) (c1, c2, M)) : V (wD Z a) Z G cs pc lv (.int i :: .ref (a 11) :: st) (c1, c2, M) := V_iald C 11 rfl d hf k
theorem asD_11 {ow : String} (C : CX (wD Z a) Z Ev G cc ow dep ret Pq csF) {pc : Nat} {i v : Int32} (d : decode cc pc = .ok (.iastore, 1)) {fa : Option β} (hf : (if inb i 9 then fa else none) = some o) (k : fa = some o → V (wD Z a) Z G cs (pc + 1) lv st (c1, c2, sA M 11 i v)) : V (wD Z a) Z G cs pc lv (.int v :: .int i :: .ref (a 11) :: st) (c1, c2, M) := V_iast C 11 rfl d hf (x' := (c1, c2, sA M 11 i v)) rfl k
theorem alD_12 {ow : String} (C : CX (wD Z a) Z Ev G cc ow dep ret Pq csF) {pc : Nat} {i : Int32} (d : decode cc pc = .ok (.iaload, 1)) {fa : Option β} (hf : (if inb i 9 then fa else none) = some o) (k : fa = some o → V (wD Z a) Z G cs (pc + 1) lv (.int (gA M 12 i) :: st) (c1, c2, M)) : V (wD Z a) Z G cs pc lv (.int i :: .ref (a 12) :: st) (c1, c2, M) := V_iald C 12 rfl d hf k
theorem asD_12 {ow : String} (C : CX (wD Z a) Z Ev G cc ow dep ret Pq csF) {pc : Nat} {i v : Int32} (d : decode cc pc = .ok (.iastore, 1)) {fa : Option β} (hf : (if inb i 9 then fa else none) = some o) (k : fa = some o → V (wD Z a) Z G cs (pc + 1) lv st (c1, c2, sA M 12 i v)) : V (wD Z a) Z G cs pc lv (.int v :: .int i :: .ref (a 12) :: st) (c1, c2, M) := V_iast C 12 rfl d hf (x' := (c1, c2, sA M 12 i v)) rfl k
theorem alD_13 {ow : String} (C : CX (wD Z a) Z Ev G cc ow dep ret Pq csF) {pc : Nat} {i : Int32} (d : decode cc pc = .ok (.iaload, 1)) {fa : Option β} (hf : (if inb i 9 then fa else none) = some o) (k : fa = some o → V (wD Z a) Z G cs (pc + 1) lv (.int (gA M 13 i) :: st) (c1, c2, M)) : V (wD Z a) Z G cs pc lv (.int i :: .ref (a 13) :: st) (c1, c2, M) := V_iald C 13 rfl d hf k
theorem asD_13 {ow : String} (C : CX (wD Z a) Z Ev G cc ow dep ret Pq csF) {pc : Nat} {i v : Int32} (d : decode cc pc = .ok (.iastore, 1)) {fa : Option β} (hf : (if inb i 9 then fa else none) = some o) (k : fa = some o → V (wD Z a) Z G cs (pc + 1) lv st (c1, c2, sA M 13 i v)) : V (wD Z a) Z G cs pc lv (.int v :: .int i :: .ref (a 13) :: st) (c1, c2, M) := V_iast C 13 rfl d hf (x' := (c1, c2, sA M 13 i v)) rfl k
theorem alD_14 {ow : String} (C : CX (wD Z a) Z Ev G cc ow dep ret Pq csF) {pc : Nat} {i : Int32} (d : decode cc pc = .ok (.iaload, 1)) {fa : Option β} (hf : (if inb i 3 then fa else none) = some o) (k : fa = some o → V (wD Z a) Z G cs (pc + 1) lv (.int (gA M 14 i) :: st) (c1, c2, M)) : V (wD Z a) Z G cs pc lv (.int i :: .ref (a 14) :: st) (c1, c2, M) := V_iald C 14 rfl d hf k
theorem asD_14 {ow : String} (C : CX (wD Z a) Z Ev G cc ow dep ret Pq csF) {pc : Nat} {i v : Int32} (d : decode cc pc = .ok (.iastore, 1)) {fa : Option β} (hf : (if inb i 3 then fa else none) = some o) (k : fa = some o → V (wD Z a) Z G cs (pc + 1) lv st (c1, c2, sA M 14 i v)) : V (wD Z a) Z G cs pc lv (.int v :: .int i :: .ref (a 14) :: st) (c1, c2, M) := V_iast C 14 rfl d hf (x' := (c1, c2, sA M 14 i v)) rfl k
theorem alD_15 {ow : String} (C : CX (wD Z a) Z Ev G cc ow dep ret Pq csF) {pc : Nat} {i : Int32} (d : decode cc pc = .ok (.iaload, 1)) {fa : Option β} (hf : (if inb i 9 then fa else none) = some o) (k : fa = some o → V (wD Z a) Z G cs (pc + 1) lv (.int (gA M 15 i) :: st) (c1, c2, M)) : V (wD Z a) Z G cs pc lv (.int i :: .ref (a 15) :: st) (c1, c2, M) := V_iald C 15 rfl d hf k
theorem asD_15 {ow : String} (C : CX (wD Z a) Z Ev G cc ow dep ret Pq csF) {pc : Nat} {i v : Int32} (d : decode cc pc = .ok (.iastore, 1)) {fa : Option β} (hf : (if inb i 9 then fa else none) = some o) (k : fa = some o → V (wD Z a) Z G cs (pc + 1) lv st (c1, c2, sA M 15 i v)) : V (wD Z a) Z G cs pc lv (.int v :: .int i :: .ref (a 15) :: st) (c1, c2, M) := V_iast C 15 rfl d hf (x' := (c1, c2, sA M 15 i v)) rfl k
theorem alD_16 {ow : String} (C : CX (wD Z a) Z Ev G cc ow dep ret Pq csF) {pc : Nat} {i : Int32} (d : decode cc pc = .ok (.iaload, 1)) {fa : Option β} (hf : (if inb i 9 then fa else none) = some o) (k : fa = some o → V (wD Z a) Z G cs (pc + 1) lv (.int (gA M 16 i) :: st) (c1, c2, M)) : V (wD Z a) Z G cs pc lv (.int i :: .ref (a 16) :: st) (c1, c2, M) := V_iald C 16 rfl d hf k
theorem asD_16 {ow : String} (C : CX (wD Z a) Z Ev G cc ow dep ret Pq csF) {pc : Nat} {i v : Int32} (d : decode cc pc = .ok (.iastore, 1)) {fa : Option β} (hf : (if inb i 9 then fa else none) = some o) (k : fa = some o → V (wD Z a) Z G cs (pc + 1) lv st (c1, c2, sA M 16 i v)) : V (wD Z a) Z G cs pc lv (.int v :: .int i :: .ref (a 16) :: st) (c1, c2, M) := V_iast C 16 rfl d hf (x' := (c1, c2, sA M 16 i v)) rfl k
theorem alD_17 {ow : String} (C : CX (wD Z a) Z Ev G cc ow dep ret Pq csF) {pc : Nat} {i : Int32} (d : decode cc pc = .ok (.iaload, 1)) {fa : Option β} (hf : (if inb i 100 then fa else none) = some o) (k : fa = some o → V (wD Z a) Z G cs (pc + 1) lv (.int (gA M 17 i) :: st) (c1, c2, M)) : V (wD Z a) Z G cs pc lv (.int i :: .ref (a 17) :: st) (c1, c2, M) := V_iald C 17 rfl d hf k
theorem asD_17 {ow : String} (C : CX (wD Z a) Z Ev G cc ow dep ret Pq csF) {pc : Nat} {i v : Int32} (d : decode cc pc = .ok (.iastore, 1)) {fa : Option β} (hf : (if inb i 100 then fa else none) = some o) (k : fa = some o → V (wD Z a) Z G cs (pc + 1) lv st (c1, c2, sA M 17 i v)) : V (wD Z a) Z G cs pc lv (.int v :: .int i :: .ref (a 17) :: st) (c1, c2, M) := V_iast C 17 rfl d hf (x' := (c1, c2, sA M 17 i v)) rfl k
theorem alD_18 {ow : String} (C : CX (wD Z a) Z Ev G cc ow dep ret Pq csF) {pc : Nat} {i : Int32} (d : decode cc pc = .ok (.iaload, 1)) {fa : Option β} (hf : (if inb i 100 then fa else none) = some o) (k : fa = some o → V (wD Z a) Z G cs (pc + 1) lv (.int (gA M 18 i) :: st) (c1, c2, M)) : V (wD Z a) Z G cs pc lv (.int i :: .ref (a 18) :: st) (c1, c2, M) := V_iald C 18 rfl d hf k
theorem asD_18 {ow : String} (C : CX (wD Z a) Z Ev G cc ow dep ret Pq csF) {pc : Nat} {i v : Int32} (d : decode cc pc = .ok (.iastore, 1)) {fa : Option β} (hf : (if inb i 100 then fa else none) = some o) (k : fa = some o → V (wD Z a) Z G cs (pc + 1) lv st (c1, c2, sA M 18 i v)) : V (wD Z a) Z G cs pc lv (.int v :: .int i :: .ref (a 18) :: st) (c1, c2, M) := V_iast C 18 rfl d hf (x' := (c1, c2, sA M 18 i v)) rfl k
theorem alD_19 {ow : String} (C : CX (wD Z a) Z Ev G cc ow dep ret Pq csF) {pc : Nat} {i : Int32} (d : decode cc pc = .ok (.iaload, 1)) {fa : Option β} (hf : (if inb i 19 then fa else none) = some o) (k : fa = some o → V (wD Z a) Z G cs (pc + 1) lv (.int (gA M 19 i) :: st) (c1, c2, M)) : V (wD Z a) Z G cs pc lv (.int i :: .ref (a 19) :: st) (c1, c2, M) := V_iald C 19 rfl d hf k
theorem asD_19 {ow : String} (C : CX (wD Z a) Z Ev G cc ow dep ret Pq csF) {pc : Nat} {i v : Int32} (d : decode cc pc = .ok (.iastore, 1)) {fa : Option β} (hf : (if inb i 19 then fa else none) = some o) (k : fa = some o → V (wD Z a) Z G cs (pc + 1) lv st (c1, c2, sA M 19 i v)) : V (wD Z a) Z G cs pc lv (.int v :: .int i :: .ref (a 19) :: st) (c1, c2, M) := V_iast C 19 rfl d hf (x' := (c1, c2, sA M 19 i v)) rfl k
theorem alD_20 {ow : String} (C : CX (wD Z a) Z Ev G cc ow dep ret Pq csF) {pc : Nat} {i : Int32} (d : decode cc pc = .ok (.iaload, 1)) {fa : Option β} (hf : (if inb i 19 then fa else none) = some o) (k : fa = some o → V (wD Z a) Z G cs (pc + 1) lv (.int (gA M 20 i) :: st) (c1, c2, M)) : V (wD Z a) Z G cs pc lv (.int i :: .ref (a 20) :: st) (c1, c2, M) := V_iald C 20 rfl d hf k
theorem asD_20 {ow : String} (C : CX (wD Z a) Z Ev G cc ow dep ret Pq csF) {pc : Nat} {i v : Int32} (d : decode cc pc = .ok (.iastore, 1)) {fa : Option β} (hf : (if inb i 19 then fa else none) = some o) (k : fa = some o → V (wD Z a) Z G cs (pc + 1) lv st (c1, c2, sA M 20 i v)) : V (wD Z a) Z G cs pc lv (.int v :: .int i :: .ref (a 20) :: st) (c1, c2, M) := V_iast C 20 rfl d hf (x' := (c1, c2, sA M 20 i v)) rfl k
theorem alD_21 {ow : String} (C : CX (wD Z a) Z Ev G cc ow dep ret Pq csF) {pc : Nat} {i : Int32} (d : decode cc pc = .ok (.iaload, 1)) {fa : Option β} (hf : (if inb i (gL M) then fa else none) = some o) (k : fa = some o → V (wD Z a) Z G cs (pc + 1) lv (.int (gA M 21 i) :: st) (c1, c2, M)) : V (wD Z a) Z G cs pc lv (.int i :: .ref c1 :: st) (c1, c2, M) := V_iald C 21 rfl d hf k
theorem asD_21 {ow : String} (C : CX (wD Z a) Z Ev G cc ow dep ret Pq csF) {pc : Nat} {i v : Int32} (d : decode cc pc = .ok (.iastore, 1)) {fa : Option β} (hf : (if inb i (gL M) then fa else none) = some o) (k : fa = some o → V (wD Z a) Z G cs (pc + 1) lv st (c1, c2, sA M 21 i v)) : V (wD Z a) Z G cs pc lv (.int v :: .int i :: .ref c1 :: st) (c1, c2, M) := V_iast C 21 rfl d hf (x' := (c1, c2, sA M 21 i v)) rfl k
theorem anD_21 {ow : String} (C : CX (wD Z a) Z Ev G cc ow dep ret Pq csF) {pc : Nat} (d : decode cc pc = .ok (.arraylength, 1)) (k : V (wD Z a) Z G cs (pc + 1) lv (.int (Int32.ofNat (gL M)) :: st) (c1, c2, M)) : V (wD Z a) Z G cs pc lv (.ref c1 :: st) (c1, c2, M) := V_alen C 21 0 rfl rfl rfl d k
theorem alD_22 {ow : String} (C : CX (wD Z a) Z Ev G cc ow dep ret Pq csF) {pc : Nat} {i : Int32} (d : decode cc pc = .ok (.iaload, 1)) {fa : Option β} (hf : (if inb i (gL M) then fa else none) = some o) (k : fa = some o → V (wD Z a) Z G cs (pc + 1) lv (.int (gA M 22 i) :: st) (c1, c2, M)) : V (wD Z a) Z G cs pc lv (.int i :: .ref c2 :: st) (c1, c2, M) := V_iald C 22 rfl d hf k
theorem asD_22 {ow : String} (C : CX (wD Z a) Z Ev G cc ow dep ret Pq csF) {pc : Nat} {i v : Int32} (d : decode cc pc = .ok (.iastore, 1)) {fa : Option β} (hf : (if inb i (gL M) then fa else none) = some o) (k : fa = some o → V (wD Z a) Z G cs (pc + 1) lv st (c1, c2, sA M 22 i v)) : V (wD Z a) Z G cs pc lv (.int v :: .int i :: .ref c2 :: st) (c1, c2, M) := V_iast C 22 rfl d hf (x' := (c1, c2, sA M 22 i v)) rfl k
theorem anD_22 {ow : String} (C : CX (wD Z a) Z Ev G cc ow dep ret Pq csF) {pc : Nat} (d : decode cc pc = .ok (.arraylength, 1)) (k : V (wD Z a) Z G cs (pc + 1) lv (.int (Int32.ofNat (gL M)) :: st) (c1, c2, M)) : V (wD Z a) Z G cs pc lv (.ref c2 :: st) (c1, c2, M) := V_alen C 22 0 rfl rfl rfl d k
theorem alD_23 {ow : String} (C : CX (wD Z a) Z Ev G cc ow dep ret Pq csF) {pc : Nat} {i : Int32} (d : decode cc pc = .ok (.baload, 1)) {fa : Option β} (hf : (if inb i 4096 then fa else none) = some o) (k : fa = some o → V (wD Z a) Z G cs (pc + 1) lv (.int (gA M 23 i) :: st) (c1, c2, M)) : V (wD Z a) Z G cs pc lv (.int i :: .ref (a 23) :: st) (c1, c2, M) := V_bald C 23 rfl d hf k
theorem asD_23 {ow : String} (C : CX (wD Z a) Z Ev G cc ow dep ret Pq csF) {pc : Nat} {i v : Int32} (d : decode cc pc = .ok (.bastore, 1)) {fa : Option β} (hf : (if inb i 4096 then fa else none) = some o) (k : fa = some o → V (wD Z a) Z G cs (pc + 1) lv st (c1, c2, sA M 23 i (vp_nar .byte v))) : V (wD Z a) Z G cs pc lv (.int v :: .int i :: .ref (a 23) :: st) (c1, c2, M) := V_bast C 23 rfl d hf (x' := (c1, c2, sA M 23 i (vp_nar .byte v))) rfl k
theorem alD_24 {ow : String} (C : CX (wD Z a) Z Ev G cc ow dep ret Pq csF) {pc : Nat} {i : Int32} (d : decode cc pc = .ok (.iaload, 1)) {fa : Option β} (hf : (if inb i 4096 then fa else none) = some o) (k : fa = some o → V (wD Z a) Z G cs (pc + 1) lv (.int (gA M 24 i) :: st) (c1, c2, M)) : V (wD Z a) Z G cs pc lv (.int i :: .ref (a 24) :: st) (c1, c2, M) := V_iald C 24 rfl d hf k
theorem asD_24 {ow : String} (C : CX (wD Z a) Z Ev G cc ow dep ret Pq csF) {pc : Nat} {i v : Int32} (d : decode cc pc = .ok (.iastore, 1)) {fa : Option β} (hf : (if inb i 4096 then fa else none) = some o) (k : fa = some o → V (wD Z a) Z G cs (pc + 1) lv st (c1, c2, sA M 24 i v)) : V (wD Z a) Z G cs pc lv (.int v :: .int i :: .ref (a 24) :: st) (c1, c2, M) := V_iast C 24 rfl d hf (x' := (c1, c2, sA M 24 i v)) rfl k
theorem alM_1 {ow : String} (C : CX (wM Z a) Z Ev G cc ow dep ret Pq csF) {pc : Nat} {i : Int32} (d : decode cc pc = .ok (.iaload, 1)) {fa : Option β} (hf : (if inb i 9 then fa else none) = some o) (k : fa = some o → V (wM Z a) Z G cs (pc + 1) lv (.int (gA M 1 i) :: st) (c1, c2, M)) : V (wM Z a) Z G cs pc lv (.int i :: .ref (a 1) :: st) (c1, c2, M) := V_iald C 1 rfl d hf k
theorem asM_1 {ow : String} (C : CX (wM Z a) Z Ev G cc ow dep ret Pq csF) {pc : Nat} {i v : Int32} (d : decode cc pc = .ok (.iastore, 1)) {fa : Option β} (hf : (if inb i 9 then fa else none) = some o) (k : fa = some o → V (wM Z a) Z G cs (pc + 1) lv st (c1, c2, sA M 1 i v)) : V (wM Z a) Z G cs pc lv (.int v :: .int i :: .ref (a 1) :: st) (c1, c2, M) := V_iast C 1 rfl d hf (x' := (c1, c2, sA M 1 i v)) rfl k
theorem alM_2 {ow : String} (C : CX (wM Z a) Z Ev G cc ow dep ret Pq csF) {pc : Nat} {i : Int32} (d : decode cc pc = .ok (.iaload, 1)) {fa : Option β} (hf : (if inb i 9 then fa else none) = some o) (k : fa = some o → V (wM Z a) Z G cs (pc + 1) lv (.int (gA M 2 i) :: st) (c1, c2, M)) : V (wM Z a) Z G cs pc lv (.int i :: .ref (a 2) :: st) (c1, c2, M) := V_iald C 2 rfl d hf k
theorem asM_2 {ow : String} (C : CX (wM Z a) Z Ev G cc ow dep ret Pq csF) {pc : Nat} {i v : Int32} (d : decode cc pc = .ok (.iastore, 1)) {fa : Option β} (hf : (if inb i 9 then fa else none) = some o) (k : fa = some o → V (wM Z a) Z G cs (pc + 1) lv st (c1, c2, sA M 2 i v)) : V (wM Z a) Z G cs pc lv (.int v :: .int i :: .ref (a 2) :: st) (c1, c2, M) := V_iast C 2 rfl d hf (x' := (c1, c2, sA M 2 i v)) rfl k
theorem alM_3 {ow : String} (C : CX (wM Z a) Z Ev G cc ow dep ret Pq csF) {pc : Nat} {i : Int32} (d : decode cc pc = .ok (.iaload, 1)) {fa : Option β} (hf : (if inb i 9 then fa else none) = some o) (k : fa = some o → V (wM Z a) Z G cs (pc + 1) lv (.int (gA M 3 i) :: st) (c1, c2, M)) : V (wM Z a) Z G cs pc lv (.int i :: .ref (a 3) :: st) (c1, c2, M) := V_iald C 3 rfl d hf k
theorem asM_3 {ow : String} (C : CX (wM Z a) Z Ev G cc ow dep ret Pq csF) {pc : Nat} {i v : Int32} (d : decode cc pc = .ok (.iastore, 1)) {fa : Option β} (hf : (if inb i 9 then fa else none) = some o) (k : fa = some o → V (wM Z a) Z G cs (pc + 1) lv st (c1, c2, sA M 3 i v)) : V (wM Z a) Z G cs pc lv (.int v :: .int i :: .ref (a 3) :: st) (c1, c2, M) := V_iast C 3 rfl d hf (x' := (c1, c2, sA M 3 i v)) rfl k
theorem alM_4 {ow : String} (C : CX (wM Z a) Z Ev G cc ow dep ret Pq csF) {pc : Nat} {i : Int32} (d : decode cc pc = .ok (.iaload, 1)) {fa : Option β} (hf : (if inb i 36 then fa else none) = some o) (k : fa = some o → V (wM Z a) Z G cs (pc + 1) lv (.int (gA M 4 i) :: st) (c1, c2, M)) : V (wM Z a) Z G cs pc lv (.int i :: .ref (a 4) :: st) (c1, c2, M) := V_iald C 4 rfl d hf k
theorem asM_4 {ow : String} (C : CX (wM Z a) Z Ev G cc ow dep ret Pq csF) {pc : Nat} {i v : Int32} (d : decode cc pc = .ok (.iastore, 1)) {fa : Option β} (hf : (if inb i 36 then fa else none) = some o) (k : fa = some o → V (wM Z a) Z G cs (pc + 1) lv st (c1, c2, sA M 4 i v)) : V (wM Z a) Z G cs pc lv (.int v :: .int i :: .ref (a 4) :: st) (c1, c2, M) := V_iast C 4 rfl d hf (x' := (c1, c2, sA M 4 i v)) rfl k
theorem alM_5 {ow : String} (C : CX (wM Z a) Z Ev G cc ow dep ret Pq csF) {pc : Nat} {i : Int32} (d : decode cc pc = .ok (.iaload, 1)) {fa : Option β} (hf : (if inb i 9 then fa else none) = some o) (k : fa = some o → V (wM Z a) Z G cs (pc + 1) lv (.int (gA M 5 i) :: st) (c1, c2, M)) : V (wM Z a) Z G cs pc lv (.int i :: .ref (a 5) :: st) (c1, c2, M) := V_iald C 5 rfl d hf k
theorem asM_5 {ow : String} (C : CX (wM Z a) Z Ev G cc ow dep ret Pq csF) {pc : Nat} {i v : Int32} (d : decode cc pc = .ok (.iastore, 1)) {fa : Option β} (hf : (if inb i 9 then fa else none) = some o) (k : fa = some o → V (wM Z a) Z G cs (pc + 1) lv st (c1, c2, sA M 5 i v)) : V (wM Z a) Z G cs pc lv (.int v :: .int i :: .ref (a 5) :: st) (c1, c2, M) := V_iast C 5 rfl d hf (x' := (c1, c2, sA M 5 i v)) rfl k
theorem alM_6 {ow : String} (C : CX (wM Z a) Z Ev G cc ow dep ret Pq csF) {pc : Nat} {i : Int32} (d : decode cc pc = .ok (.iaload, 1)) {fa : Option β} (hf : (if inb i 3 then fa else none) = some o) (k : fa = some o → V (wM Z a) Z G cs (pc + 1) lv (.int (gA M 6 i) :: st) (c1, c2, M)) : V (wM Z a) Z G cs pc lv (.int i :: .ref (a 6) :: st) (c1, c2, M) := V_iald C 6 rfl d hf k
theorem asM_6 {ow : String} (C : CX (wM Z a) Z Ev G cc ow dep ret Pq csF) {pc : Nat} {i v : Int32} (d : decode cc pc = .ok (.iastore, 1)) {fa : Option β} (hf : (if inb i 3 then fa else none) = some o) (k : fa = some o → V (wM Z a) Z G cs (pc + 1) lv st (c1, c2, sA M 6 i v)) : V (wM Z a) Z G cs pc lv (.int v :: .int i :: .ref (a 6) :: st) (c1, c2, M) := V_iast C 6 rfl d hf (x' := (c1, c2, sA M 6 i v)) rfl k
theorem alM_7 {ow : String} (C : CX (wM Z a) Z Ev G cc ow dep ret Pq csF) {pc : Nat} {i : Int32} (d : decode cc pc = .ok (.baload, 1)) {fa : Option β} (hf : (if inb i 4096 then fa else none) = some o) (k : fa = some o → V (wM Z a) Z G cs (pc + 1) lv (.int (gA M 7 i) :: st) (c1, c2, M)) : V (wM Z a) Z G cs pc lv (.int i :: .ref (a 7) :: st) (c1, c2, M) := V_zald C 7 rfl d hf k
theorem asM_7 {ow : String} (C : CX (wM Z a) Z Ev G cc ow dep ret Pq csF) {pc : Nat} {i v : Int32} (d : decode cc pc = .ok (.bastore, 1)) {fa : Option β} (hf : (if inb i 4096 then fa else none) = some o) (k : fa = some o → V (wM Z a) Z G cs (pc + 1) lv st (c1, c2, sA M 7 i (vp_nar .boolean v))) : V (wM Z a) Z G cs pc lv (.int v :: .int i :: .ref (a 7) :: st) (c1, c2, M) := V_zast C 7 rfl d hf (x' := (c1, c2, sA M 7 i (vp_nar .boolean v))) rfl k
theorem alM_8 {ow : String} (C : CX (wM Z a) Z Ev G cc ow dep ret Pq csF) {pc : Nat} {i : Int32} (d : decode cc pc = .ok (.iaload, 1)) {fa : Option β} (hf : (if inb i 100 then fa else none) = some o) (k : fa = some o → V (wM Z a) Z G cs (pc + 1) lv (.int (gA M 8 i) :: st) (c1, c2, M)) : V (wM Z a) Z G cs pc lv (.int i :: .ref (a 8) :: st) (c1, c2, M) := V_iald C 8 rfl d hf k
theorem asM_8 {ow : String} (C : CX (wM Z a) Z Ev G cc ow dep ret Pq csF) {pc : Nat} {i v : Int32} (d : decode cc pc = .ok (.iastore, 1)) {fa : Option β} (hf : (if inb i 100 then fa else none) = some o) (k : fa = some o → V (wM Z a) Z G cs (pc + 1) lv st (c1, c2, sA M 8 i v)) : V (wM Z a) Z G cs pc lv (.int v :: .int i :: .ref (a 8) :: st) (c1, c2, M) := V_iast C 8 rfl d hf (x' := (c1, c2, sA M 8 i v)) rfl k
theorem alM_9 {ow : String} (C : CX (wM Z a) Z Ev G cc ow dep ret Pq csF) {pc : Nat} {i : Int32} (d : decode cc pc = .ok (.iaload, 1)) {fa : Option β} (hf : (if inb i 100 then fa else none) = some o) (k : fa = some o → V (wM Z a) Z G cs (pc + 1) lv (.int (gA M 9 i) :: st) (c1, c2, M)) : V (wM Z a) Z G cs pc lv (.int i :: .ref (a 9) :: st) (c1, c2, M) := V_iald C 9 rfl d hf k
theorem asM_9 {ow : String} (C : CX (wM Z a) Z Ev G cc ow dep ret Pq csF) {pc : Nat} {i v : Int32} (d : decode cc pc = .ok (.iastore, 1)) {fa : Option β} (hf : (if inb i 100 then fa else none) = some o) (k : fa = some o → V (wM Z a) Z G cs (pc + 1) lv st (c1, c2, sA M 9 i v)) : V (wM Z a) Z G cs pc lv (.int v :: .int i :: .ref (a 9) :: st) (c1, c2, M) := V_iast C 9 rfl d hf (x' := (c1, c2, sA M 9 i v)) rfl k
theorem alM_10 {ow : String} (C : CX (wM Z a) Z Ev G cc ow dep ret Pq csF) {pc : Nat} {i : Int32} (d : decode cc pc = .ok (.iaload, 1)) {fa : Option β} (hf : (if inb i 100 then fa else none) = some o) (k : fa = some o → V (wM Z a) Z G cs (pc + 1) lv (.int (gA M 10 i) :: st) (c1, c2, M)) : V (wM Z a) Z G cs pc lv (.int i :: .ref (a 10) :: st) (c1, c2, M) := V_iald C 10 rfl d hf k
theorem asM_10 {ow : String} (C : CX (wM Z a) Z Ev G cc ow dep ret Pq csF) {pc : Nat} {i v : Int32} (d : decode cc pc = .ok (.iastore, 1)) {fa : Option β} (hf : (if inb i 100 then fa else none) = some o) (k : fa = some o → V (wM Z a) Z G cs (pc + 1) lv st (c1, c2, sA M 10 i v)) : V (wM Z a) Z G cs pc lv (.int v :: .int i :: .ref (a 10) :: st) (c1, c2, M) := V_iast C 10 rfl d hf (x' := (c1, c2, sA M 10 i v)) rfl k
theorem alM_11 {ow : String} (C : CX (wM Z a) Z Ev G cc ow dep ret Pq csF) {pc : Nat} {i : Int32} (d : decode cc pc = .ok (.iaload, 1)) {fa : Option β} (hf : (if inb i 9 then fa else none) = some o) (k : fa = some o → V (wM Z a) Z G cs (pc + 1) lv (.int (gA M 11 i) :: st) (c1, c2, M)) : V (wM Z a) Z G cs pc lv (.int i :: .ref (a 11) :: st) (c1, c2, M) := V_iald C 11 rfl d hf k
theorem asM_11 {ow : String} (C : CX (wM Z a) Z Ev G cc ow dep ret Pq csF) {pc : Nat} {i v : Int32} (d : decode cc pc = .ok (.iastore, 1)) {fa : Option β} (hf : (if inb i 9 then fa else none) = some o) (k : fa = some o → V (wM Z a) Z G cs (pc + 1) lv st (c1, c2, sA M 11 i v)) : V (wM Z a) Z G cs pc lv (.int v :: .int i :: .ref (a 11) :: st) (c1, c2, M) := V_iast C 11 rfl d hf (x' := (c1, c2, sA M 11 i v)) rfl k
theorem alM_12 {ow : String} (C : CX (wM Z a) Z Ev G cc ow dep ret Pq csF) {pc : Nat} {i : Int32} (d : decode cc pc = .ok (.iaload, 1)) {fa : Option β} (hf : (if inb i 9 then fa else none) = some o) (k : fa = some o → V (wM Z a) Z G cs (pc + 1) lv (.int (gA M 12 i) :: st) (c1, c2, M)) : V (wM Z a) Z G cs pc lv (.int i :: .ref (a 12) :: st) (c1, c2, M) := V_iald C 12 rfl d hf k
theorem asM_12 {ow : String} (C : CX (wM Z a) Z Ev G cc ow dep ret Pq csF) {pc : Nat} {i v : Int32} (d : decode cc pc = .ok (.iastore, 1)) {fa : Option β} (hf : (if inb i 9 then fa else none) = some o) (k : fa = some o → V (wM Z a) Z G cs (pc + 1) lv st (c1, c2, sA M 12 i v)) : V (wM Z a) Z G cs pc lv (.int v :: .int i :: .ref (a 12) :: st) (c1, c2, M) := V_iast C 12 rfl d hf (x' := (c1, c2, sA M 12 i v)) rfl k
theorem alM_13 {ow : String} (C : CX (wM Z a) Z Ev G cc ow dep ret Pq csF) {pc : Nat} {i : Int32} (d : decode cc pc = .ok (.iaload, 1)) {fa : Option β} (hf : (if inb i 40960 then fa else none) = some o) (k : fa = some o → V (wM Z a) Z G cs (pc + 1) lv (.int (gA M 13 i) :: st) (c1, c2, M)) : V (wM Z a) Z G cs pc lv (.int i :: .ref (a 13) :: st) (c1, c2, M) := V_iald C 13 rfl d hf k
theorem asM_13 {ow : String} (C : CX (wM Z a) Z Ev G cc ow dep ret Pq csF) {pc : Nat} {i v : Int32} (d : decode cc pc = .ok (.iastore, 1)) {fa : Option β} (hf : (if inb i 40960 then fa else none) = some o) (k : fa = some o → V (wM Z a) Z G cs (pc + 1) lv st (c1, c2, sA M 13 i v)) : V (wM Z a) Z G cs pc lv (.int v :: .int i :: .ref (a 13) :: st) (c1, c2, M) := V_iast C 13 rfl d hf (x' := (c1, c2, sA M 13 i v)) rfl k
theorem alM_14 {ow : String} (C : CX (wM Z a) Z Ev G cc ow dep ret Pq csF) {pc : Nat} {i : Int32} (d : decode cc pc = .ok (.baload, 1)) {fa : Option β} (hf : (if inb i 40960 then fa else none) = some o) (k : fa = some o → V (wM Z a) Z G cs (pc + 1) lv (.int (gA M 14 i) :: st) (c1, c2, M)) : V (wM Z a) Z G cs pc lv (.int i :: .ref (a 14) :: st) (c1, c2, M) := V_zald C 14 rfl d hf k
theorem asM_14 {ow : String} (C : CX (wM Z a) Z Ev G cc ow dep ret Pq csF) {pc : Nat} {i v : Int32} (d : decode cc pc = .ok (.bastore, 1)) {fa : Option β} (hf : (if inb i 40960 then fa else none) = some o) (k : fa = some o → V (wM Z a) Z G cs (pc + 1) lv st (c1, c2, sA M 14 i (vp_nar .boolean v))) : V (wM Z a) Z G cs pc lv (.int v :: .int i :: .ref (a 14) :: st) (c1, c2, M) := V_zast C 14 rfl d hf (x' := (c1, c2, sA M 14 i (vp_nar .boolean v))) rfl k
theorem alM_15 {ow : String} (C : CX (wM Z a) Z Ev G cc ow dep ret Pq csF) {pc : Nat} {i : Int32} (d : decode cc pc = .ok (.iaload, 1)) {fa : Option β} (hf : (if inb i 40960 then fa else none) = some o) (k : fa = some o → V (wM Z a) Z G cs (pc + 1) lv (.int (gA M 15 i) :: st) (c1, c2, M)) : V (wM Z a) Z G cs pc lv (.int i :: .ref (a 15) :: st) (c1, c2, M) := V_iald C 15 rfl d hf k
theorem asM_15 {ow : String} (C : CX (wM Z a) Z Ev G cc ow dep ret Pq csF) {pc : Nat} {i v : Int32} (d : decode cc pc = .ok (.iastore, 1)) {fa : Option β} (hf : (if inb i 40960 then fa else none) = some o) (k : fa = some o → V (wM Z a) Z G cs (pc + 1) lv st (c1, c2, sA M 15 i v)) : V (wM Z a) Z G cs pc lv (.int v :: .int i :: .ref (a 15) :: st) (c1, c2, M) := V_iast C 15 rfl d hf (x' := (c1, c2, sA M 15 i v)) rfl k
theorem alM_16 {ow : String} (C : CX (wM Z a) Z Ev G cc ow dep ret Pq csF) {pc : Nat} {i : Int32} (d : decode cc pc = .ok (.baload, 1)) {fa : Option β} (hf : (if inb i 40960 then fa else none) = some o) (k : fa = some o → V (wM Z a) Z G cs (pc + 1) lv (.int (gA M 16 i) :: st) (c1, c2, M)) : V (wM Z a) Z G cs pc lv (.int i :: .ref (a 16) :: st) (c1, c2, M) := V_zald C 16 rfl d hf k
theorem asM_16 {ow : String} (C : CX (wM Z a) Z Ev G cc ow dep ret Pq csF) {pc : Nat} {i v : Int32} (d : decode cc pc = .ok (.bastore, 1)) {fa : Option β} (hf : (if inb i 40960 then fa else none) = some o) (k : fa = some o → V (wM Z a) Z G cs (pc + 1) lv st (c1, c2, sA M 16 i (vp_nar .boolean v))) : V (wM Z a) Z G cs pc lv (.int v :: .int i :: .ref (a 16) :: st) (c1, c2, M) := V_zast C 16 rfl d hf (x' := (c1, c2, sA M 16 i (vp_nar .boolean v))) rfl k
theorem alM_17 {ow : String} (C : CX (wM Z a) Z Ev G cc ow dep ret Pq csF) {pc : Nat} {i : Int32} (d : decode cc pc = .ok (.iaload, 1)) {fa : Option β} (hf : (if inb i 40960 then fa else none) = some o) (k : fa = some o → V (wM Z a) Z G cs (pc + 1) lv (.int (gA M 17 i) :: st) (c1, c2, M)) : V (wM Z a) Z G cs pc lv (.int i :: .ref (a 17) :: st) (c1, c2, M) := V_iald C 17 rfl d hf k
theorem asM_17 {ow : String} (C : CX (wM Z a) Z Ev G cc ow dep ret Pq csF) {pc : Nat} {i v : Int32} (d : decode cc pc = .ok (.iastore, 1)) {fa : Option β} (hf : (if inb i 40960 then fa else none) = some o) (k : fa = some o → V (wM Z a) Z G cs (pc + 1) lv st (c1, c2, sA M 17 i v)) : V (wM Z a) Z G cs pc lv (.int v :: .int i :: .ref (a 17) :: st) (c1, c2, M) := V_iast C 17 rfl d hf (x' := (c1, c2, sA M 17 i v)) rfl k
theorem alM_18 {ow : String} (C : CX (wM Z a) Z Ev G cc ow dep ret Pq csF) {pc : Nat} {i : Int32} (d : decode cc pc = .ok (.iaload, 1)) {fa : Option β} (hf : (if inb i 40960 then fa else none) = some o) (k : fa = some o → V (wM Z a) Z G cs (pc + 1) lv (.int (gA M 18 i) :: st) (c1, c2, M)) : V (wM Z a) Z G cs pc lv (.int i :: .ref (a 18) :: st) (c1, c2, M) := V_iald C 18 rfl d hf k
theorem asM_18 {ow : String} (C : CX (wM Z a) Z Ev G cc ow dep ret Pq csF) {pc : Nat} {i v : Int32} (d : decode cc pc = .ok (.iastore, 1)) {fa : Option β} (hf : (if inb i 40960 then fa else none) = some o) (k : fa = some o → V (wM Z a) Z G cs (pc + 1) lv st (c1, c2, sA M 18 i v)) : V (wM Z a) Z G cs pc lv (.int v :: .int i :: .ref (a 18) :: st) (c1, c2, M) := V_iast C 18 rfl d hf (x' := (c1, c2, sA M 18 i v)) rfl k
end FR
/-! links of calls -/
theorem lb_J6_bitCount_0f7a4 : LkB yJ6_bitCount_0f7a4 cJ6_bitCount_0f7a4 1 1 (some .int) := ⟨wn_RJ6, wc_J6_bitCount_0f7a4, ⟨by decide +kernel, by decide +kernel, by decide +kernel⟩, by decide⟩
theorem lb_J7_fill_031fb : LkB yJ7_fill_031fb cJ7_fill_031fb 4 2 none := ⟨wn_RJ7, wc_J7_fill_031fb, ⟨by decide +kernel, by decide +kernel, by decide +kernel⟩, by decide⟩
theorem lb_J7_fill_53178 : LkB yJ7_fill_53178 cJ7_fill_53178 4 2 none := ⟨wn_RJ7, wc_J7_fill_53178, ⟨by decide +kernel, by decide +kernel, by decide +kernel⟩, by decide⟩
theorem lb_J9_max_7cf53 : LkB yJ9_max_7cf53 cJ9_max_7cf53 2 2 (some .int) := ⟨wn_RJ9, wc_J9_max_7cf53, ⟨by decide +kernel, by decide +kernel, by decide +kernel⟩, by decide⟩
theorem lb_J9_min_7cf53 : LkB yJ9_min_7cf53 cJ9_min_7cf53 2 2 (some .int) := ⟨wn_RJ9, wc_J9_min_7cf53, ⟨by decide +kernel, by decide +kernel, by decide +kernel⟩, by decide⟩
theorem lb_X0_clear : LkB yX0_clear cX0_clear 1 0 none := ⟨wn_RX0, wc_X0_clear, ⟨by decide +kernel, by decide +kernel, by decide +kernel⟩, by decide⟩
theorem lb_X0_keep : LkB yX0_keep cX0_keep 3 2 none := ⟨wn_RX0, wc_X0_keep, ⟨by decide +kernel, by decide +kernel, by decide +kernel⟩, by decide⟩
theorem lb_X0_madeThere : LkB yX0_madeThere cX0_madeThere 1 0 (some .int) := ⟨wn_RX0, wc_X0_madeThere, ⟨by decide +kernel, by decide +kernel, by decide +kernel⟩, by decide⟩
theorem lb_X0_sceneThere : LkB yX0_sceneThere cX0_sceneThere 1 0 (some .int) := ⟨wn_RX0, wc_X0_sceneThere, ⟨by decide +kernel, by decide +kernel, by decide +kernel⟩, by decide⟩
theorem lb_X0_stepBack : LkB yX0_stepBack cX0_stepBack 1 0 none := ⟨wn_RX0, wc_X0_stepBack, ⟨by decide +kernel, by decide +kernel, by decide +kernel⟩, by decide⟩
theorem lb_X1_actAt : LkB yX1_actAt cX1_actAt 2 1 (some .int) := ⟨wn_RX1, wc_X1_actAt, ⟨by decide +kernel, by decide +kernel, by decide +kernel⟩, by decide⟩
theorem lb_X1_actsFor : LkB yX1_actsFor cX1_actsFor 2 1 (some .int) := ⟨wn_RX1, wc_X1_actsFor, ⟨by decide +kernel, by decide +kernel, by decide +kernel⟩, by decide⟩
theorem lb_X1_dropDetours : LkB yX1_dropDetours cX1_dropDetours 5 1 none := ⟨wn_RX1, wc_X1_dropDetours, ⟨by decide +kernel, by decide +kernel, by decide +kernel⟩, by decide⟩
theorem lb_X1_explore : LkB yX1_explore cX1_explore 8 1 none := ⟨wn_RX1, wc_X1_explore, ⟨by decide +kernel, by decide +kernel, by decide +kernel⟩, by decide⟩
theorem lb_X1_firstActOn : LkB yX1_firstActOn cX1_firstActOn 6 2 (some .int) := ⟨wn_RX1, wc_X1_firstActOn, ⟨by decide +kernel, by decide +kernel, by decide +kernel⟩, by decide⟩
theorem lb_X1_join : LkB yX1_join cX1_join 3 2 none := ⟨wn_RX1, wc_X1_join, ⟨by decide +kernel, by decide +kernel, by decide +kernel⟩, by decide⟩
theorem lb_X1_makesFor : LkB yX1_makesFor cX1_makesFor 2 1 (some .int) := ⟨wn_RX1, wc_X1_makesFor, ⟨by decide +kernel, by decide +kernel, by decide +kernel⟩, by decide⟩
theorem lb_X1_outdate : LkB yX1_outdate cX1_outdate 1 0 none := ⟨wn_RX1, wc_X1_outdate, ⟨by decide +kernel, by decide +kernel, by decide +kernel⟩, by decide⟩
theorem lb_X1_scenesFor : LkB yX1_scenesFor cX1_scenesFor 5 1 (some .int) := ⟨wn_RX1, wc_X1_scenesFor, ⟨by decide +kernel, by decide +kernel, by decide +kernel⟩, by decide⟩
theorem lb_X1_spread : LkB yX1_spread cX1_spread 7 4 none := ⟨wn_RX1, wc_X1_spread, ⟨by decide +kernel, by decide +kernel, by decide +kernel⟩, by decide⟩
theorem lb_X1_startLine : LkB yX1_startLine cX1_startLine 2 0 none := ⟨wn_RX1, wc_X1_startLine, ⟨by decide +kernel, by decide +kernel, by decide +kernel⟩, by decide⟩
theorem lb_X1_writePlan : LkB yX1_writePlan cX1_writePlan 6 1 none := ⟨wn_RX1, wc_X1_writePlan, ⟨by decide +kernel, by decide +kernel, by decide +kernel⟩, by decide⟩
theorem lb_X2_build : LkB yX2_build cX2_build 4 1 (some .int) := ⟨wn_RX2, wc_X2_build, ⟨by decide +kernel, by decide +kernel, by decide +kernel⟩, by decide⟩
theorem lb_X2_examine : LkB yX2_examine cX2_examine 4 1 (some .int) := ⟨wn_RX2, wc_X2_examine, ⟨by decide +kernel, by decide +kernel, by decide +kernel⟩, by decide⟩
theorem lb_X2_faultOf : LkB yX2_faultOf cX2_faultOf 5 2 (some .int) := ⟨wn_RX2, wc_X2_faultOf, ⟨by decide +kernel, by decide +kernel, by decide +kernel⟩, by decide⟩
theorem lb_X2_join : LkB yX2_join cX2_join 2 1 none := ⟨wn_RX2, wc_X2_join, ⟨by decide +kernel, by decide +kernel, by decide +kernel⟩, by decide⟩
theorem lb_X2_turn : LkB yX2_turn cX2_turn 2 1 (some .int) := ⟨wn_RX2, wc_X2_turn, ⟨by decide +kernel, by decide +kernel, by decide +kernel⟩, by decide⟩
theorem lb_X3_begin : LkB yX3_begin cX3_begin 5 3 none := ⟨wn_RX3, wc_X3_begin, ⟨by decide +kernel, by decide +kernel, by decide +kernel⟩, by decide⟩
theorem lb_X3_bitOf : LkB yX3_bitOf cX3_bitOf 1 1 (some .int) := ⟨wn_RX3, wc_X3_bitOf, ⟨by decide +kernel, by decide +kernel, by decide +kernel⟩, by decide⟩
theorem lb_X3_drop : LkB yX3_drop cX3_drop 2 1 none := ⟨wn_RX3, wc_X3_drop, ⟨by decide +kernel, by decide +kernel, by decide +kernel⟩, by decide⟩
theorem lb_X3_firstNamedBit : LkB yX3_firstNamedBit cX3_firstNamedBit 3 1 (some .int) := ⟨wn_RX3, wc_X3_firstNamedBit, ⟨by decide +kernel, by decide +kernel, by decide +kernel⟩, by decide⟩
theorem lb_X3_has : LkB yX3_has cX3_has 2 1 (some .boolean) := ⟨wn_RX3, wc_X3_has, ⟨by decide +kernel, by decide +kernel, by decide +kernel⟩, by decide⟩
theorem lb_X3_hasPlace : LkB yX3_hasPlace cX3_hasPlace 3 2 (some .boolean) := ⟨wn_RX3, wc_X3_hasPlace, ⟨by decide +kernel, by decide +kernel, by decide +kernel⟩, by decide⟩
theorem lb_X3_nameAt : LkB yX3_nameAt cX3_nameAt 3 2 (some .int) := ⟨wn_RX3, wc_X3_nameAt, ⟨by decide +kernel, by decide +kernel, by decide +kernel⟩, by decide⟩
theorem lb_X3_namedBits : LkB yX3_namedBits cX3_namedBits 4 1 (some .int) := ⟨wn_RX3, wc_X3_namedBits, ⟨by decide +kernel, by decide +kernel, by decide +kernel⟩, by decide⟩
theorem lb_X3_setName : LkB yX3_setName cX3_setName 4 3 none := ⟨wn_RX3, wc_X3_setName, ⟨by decide +kernel, by decide +kernel, by decide +kernel⟩, by decide⟩
theorem lb_X4_closes : LkB yX4_closes cX4_closes 6 3 (some .boolean) := ⟨wn_RX4, wc_X4_closes, ⟨by decide +kernel, by decide +kernel, by decide +kernel⟩, by decide⟩
theorem lb_X4_measure : LkB yX4_measure cX4_measure 7 2 none := ⟨wn_RX4, wc_X4_measure, ⟨by decide +kernel, by decide +kernel, by decide +kernel⟩, by decide⟩
theorem lb_X4_nearer : LkB yX4_nearer cX4_nearer 5 3 (some .int) := ⟨wn_RX4, wc_X4_nearer, ⟨by decide +kernel, by decide +kernel, by decide +kernel⟩, by decide⟩
theorem lb_X5_addBath : LkB yX5_addBath cX5_addBath 3 1 (some .int) := ⟨wn_RX5, wc_X5_addBath, ⟨by decide +kernel, by decide +kernel, by decide +kernel⟩, by decide⟩
theorem lb_X5_addGoal : LkB yX5_addGoal cX5_addGoal 2 1 (some .int) := ⟨wn_RX5, wc_X5_addGoal, ⟨by decide +kernel, by decide +kernel, by decide +kernel⟩, by decide⟩
theorem lb_X5_allFillOne : LkB yX5_allFillOne cX5_allFillOne 1 0 (some .boolean) := ⟨wn_RX5, wc_X5_allFillOne, ⟨by decide +kernel, by decide +kernel, by decide +kernel⟩, by decide⟩
theorem lb_X5_dropGoals : LkB yX5_dropGoals cX5_dropGoals 1 0 none := ⟨wn_RX5, wc_X5_dropGoals, ⟨by decide +kernel, by decide +kernel, by decide +kernel⟩, by decide⟩
theorem lb_X5_filled : LkB yX5_filled cX5_filled 2 1 (some .int) := ⟨wn_RX5, wc_X5_filled, ⟨by decide +kernel, by decide +kernel, by decide +kernel⟩, by decide⟩
theorem lb_X5_filledBy : LkB yX5_filledBy cX5_filledBy 4 2 (some .int) := ⟨wn_RX5, wc_X5_filledBy, ⟨by decide +kernel, by decide +kernel, by decide +kernel⟩, by decide⟩
theorem lb_X5_freshBit : LkB yX5_freshBit cX5_freshBit 1 1 (some .int) := ⟨wn_RX5, wc_X5_freshBit, ⟨by decide +kernel, by decide +kernel, by decide +kernel⟩, by decide⟩
theorem lb_X5_hasFrail : LkB yX5_hasFrail cX5_hasFrail 1 0 (some .boolean) := ⟨wn_RX5, wc_X5_hasFrail, ⟨by decide +kernel, by decide +kernel, by decide +kernel⟩, by decide⟩
theorem lb_X5_hindrance : LkB yX5_hindrance cX5_hindrance 8 3 (some .int) := ⟨wn_RX5, wc_X5_hindrance, ⟨by decide +kernel, by decide +kernel, by decide +kernel⟩, by decide⟩
theorem lb_X5_isBath : LkB yX5_isBath cX5_isBath 2 1 (some .boolean) := ⟨wn_RX5, wc_X5_isBath, ⟨by decide +kernel, by decide +kernel, by decide +kernel⟩, by decide⟩
theorem lb_X5_isGoal : LkB yX5_isGoal cX5_isGoal 2 1 (some .boolean) := ⟨wn_RX5, wc_X5_isGoal, ⟨by decide +kernel, by decide +kernel, by decide +kernel⟩, by decide⟩
theorem lb_X5_known : LkB yX5_known cX5_known 4 1 (some .boolean) := ⟨wn_RX5, wc_X5_known, ⟨by decide +kernel, by decide +kernel, by decide +kernel⟩, by decide⟩
theorem lb_X5_lead : LkB yX5_lead cX5_lead 5 3 (some .int) := ⟨wn_RX5, wc_X5_lead, ⟨by decide +kernel, by decide +kernel, by decide +kernel⟩, by decide⟩
theorem lb_X5_learn : LkB yX5_learn cX5_learn 4 2 none := ⟨wn_RX5, wc_X5_learn, ⟨by decide +kernel, by decide +kernel, by decide +kernel⟩, by decide⟩
theorem lb_X5_nextTold : LkB yX5_nextTold cX5_nextTold 4 1 (some .int) := ⟨wn_RX5, wc_X5_nextTold, ⟨by decide +kernel, by decide +kernel, by decide +kernel⟩, by decide⟩
theorem lb_X5_reaches : LkB yX5_reaches cX5_reaches 3 1 (some .boolean) := ⟨wn_RX5, wc_X5_reaches, ⟨by decide +kernel, by decide +kernel, by decide +kernel⟩, by decide⟩
theorem lb_X5_stands : LkB yX5_stands cX5_stands 2 2 (some .boolean) := ⟨wn_RX5, wc_X5_stands, ⟨by decide +kernel, by decide +kernel, by decide +kernel⟩, by decide⟩
theorem lb_X5_whenMade : LkB yX5_whenMade cX5_whenMade 5 2 (some .int) := ⟨wn_RX5, wc_X5_whenMade, ⟨by decide +kernel, by decide +kernel, by decide +kernel⟩, by decide⟩
theorem lb_X5_whenPoured : LkB yX5_whenPoured cX5_whenPoured 3 2 (some .int) := ⟨wn_RX5, wc_X5_whenPoured, ⟨by decide +kernel, by decide +kernel, by decide +kernel⟩, by decide⟩
theorem lb_X5_withStood : LkB yX5_withStood cX5_withStood 4 1 (some .int) := ⟨wn_RX5, wc_X5_withStood, ⟨by decide +kernel, by decide +kernel, by decide +kernel⟩, by decide⟩
theorem lb_X6_anyStands : LkB yX6_anyStands cX6_anyStands 1 0 (some .boolean) := ⟨wn_RX6, wc_X6_anyStands, ⟨by decide +kernel, by decide +kernel, by decide +kernel⟩, by decide⟩
theorem lb_X6_bath : LkB yX6_bath cX6_bath 2 1 (some .int) := ⟨wn_RX6, wc_X6_bath, ⟨by decide +kernel, by decide +kernel, by decide +kernel⟩, by decide⟩
theorem lb_X6_bit : LkB yX6_bit cX6_bit 2 1 (some .int) := ⟨wn_RX6, wc_X6_bit, ⟨by decide +kernel, by decide +kernel, by decide +kernel⟩, by decide⟩
theorem lb_X6_check : LkB yX6_check cX6_check 2 1 (some .int) := ⟨wn_RX6, wc_X6_check, ⟨by decide +kernel, by decide +kernel, by decide +kernel⟩, by decide⟩
theorem lb_X6_count : LkB yX6_count cX6_count 2 1 (some .int) := ⟨wn_RX6, wc_X6_count, ⟨by decide +kernel, by decide +kernel, by decide +kernel⟩, by decide⟩
theorem lb_X6_fewest : LkB yX6_fewest cX6_fewest 2 1 (some .int) := ⟨wn_RX6, wc_X6_fewest, ⟨by decide +kernel, by decide +kernel, by decide +kernel⟩, by decide⟩
theorem lb_X6_flip : LkB yX6_flip cX6_flip 2 1 (some .int) := ⟨wn_RX6, wc_X6_flip, ⟨by decide +kernel, by decide +kernel, by decide +kernel⟩, by decide⟩
theorem lb_X6_forget : LkB yX6_forget cX6_forget 2 0 (some .int) := ⟨wn_RX6, wc_X6_forget, ⟨by decide +kernel, by decide +kernel, by decide +kernel⟩, by decide⟩
theorem lb_X6_freeVats : LkB yX6_freeVats cX6_freeVats 1 0 (some .int) := ⟨wn_RX6, wc_X6_freeVats, ⟨by decide +kernel, by decide +kernel, by decide +kernel⟩, by decide⟩
theorem lb_X6_goal : LkB yX6_goal cX6_goal 2 1 (some .int) := ⟨wn_RX6, wc_X6_goal, ⟨by decide +kernel, by decide +kernel, by decide +kernel⟩, by decide⟩
theorem lb_X6_isRowBit : LkB yX6_isRowBit cX6_isRowBit 1 1 (some .boolean) := ⟨wn_RX6, wc_X6_isRowBit, ⟨by decide +kernel, by decide +kernel, by decide +kernel⟩, by decide⟩
theorem lb_X6_isType : LkB yX6_isType cX6_isType 1 1 (some .boolean) := ⟨wn_RX6, wc_X6_isType, ⟨by decide +kernel, by decide +kernel, by decide +kernel⟩, by decide⟩
theorem lb_X6_isVatCount : LkB yX6_isVatCount cX6_isVatCount 1 1 (some .boolean) := ⟨wn_RX6, wc_X6_isVatCount, ⟨by decide +kernel, by decide +kernel, by decide +kernel⟩, by decide⟩
theorem lb_X6_least : LkB yX6_least cX6_least 2 0 (some .int) := ⟨wn_RX6, wc_X6_least, ⟨by decide +kernel, by decide +kernel, by decide +kernel⟩, by decide⟩
theorem lb_X6_lose : LkB yX6_lose cX6_lose 3 1 (some .int) := ⟨wn_RX6, wc_X6_lose, ⟨by decide +kernel, by decide +kernel, by decide +kernel⟩, by decide⟩
theorem lb_X6_make : LkB yX6_make cX6_make 2 1 (some .int) := ⟨wn_RX6, wc_X6_make, ⟨by decide +kernel, by decide +kernel, by decide +kernel⟩, by decide⟩
theorem lb_X6_named : LkB yX6_named cX6_named 4 3 (some .int) := ⟨wn_RX6, wc_X6_named, ⟨by decide +kernel, by decide +kernel, by decide +kernel⟩, by decide⟩
theorem lb_X6_need : LkB yX6_need cX6_need 5 3 (some .int) := ⟨wn_RX6, wc_X6_need, ⟨by decide +kernel, by decide +kernel, by decide +kernel⟩, by decide⟩
theorem lb_X6_of : LkB yX6_of cX6_of 3 2 (some .int) := ⟨wn_RX6, wc_X6_of, ⟨by decide +kernel, by decide +kernel, by decide +kernel⟩, by decide⟩
theorem lb_X6_order : LkB yX6_order cX6_order 5 1 (some .int) := ⟨wn_RX6, wc_X6_order, ⟨by decide +kernel, by decide +kernel, by decide +kernel⟩, by decide⟩
theorem lb_X6_plan : LkB yX6_plan cX6_plan 4 2 (some .int) := ⟨wn_RX6, wc_X6_plan, ⟨by decide +kernel, by decide +kernel, by decide +kernel⟩, by decide⟩
theorem lb_X6_pour : LkB yX6_pour cX6_pour 2 1 (some .int) := ⟨wn_RX6, wc_X6_pour, ⟨by decide +kernel, by decide +kernel, by decide +kernel⟩, by decide⟩
theorem lb_X6_reach : LkB yX6_reach cX6_reach 2 1 (some .int) := ⟨wn_RX6, wc_X6_reach, ⟨by decide +kernel, by decide +kernel, by decide +kernel⟩, by decide⟩
theorem lb_X6_recipe : LkB yX6_recipe cX6_recipe 4 3 (some .int) := ⟨wn_RX6, wc_X6_recipe, ⟨by decide +kernel, by decide +kernel, by decide +kernel⟩, by decide⟩
theorem lb_X6_recipeChanged : LkB yX6_recipeChanged cX6_recipeChanged 2 1 none := ⟨wn_RX6, wc_X6_recipeChanged, ⟨by decide +kernel, by decide +kernel, by decide +kernel⟩, by decide⟩
theorem lb_X6_ring : LkB yX6_ring cX6_ring 2 1 (some .int) := ⟨wn_RX6, wc_X6_ring, ⟨by decide +kernel, by decide +kernel, by decide +kernel⟩, by decide⟩
theorem lb_X6_row : LkB yX6_row cX6_row 2 1 (some .int) := ⟨wn_RX6, wc_X6_row, ⟨by decide +kernel, by decide +kernel, by decide +kernel⟩, by decide⟩
theorem lb_X6_together : LkB yX6_together cX6_together 3 1 (some .int) := ⟨wn_RX6, wc_X6_together, ⟨by decide +kernel, by decide +kernel, by decide +kernel⟩, by decide⟩
theorem lb_X6_undo : LkB yX6_undo cX6_undo 2 0 (some .int) := ⟨wn_RX6, wc_X6_undo, ⟨by decide +kernel, by decide +kernel, by decide +kernel⟩, by decide⟩
theorem lb_X6_vats : LkB yX6_vats cX6_vats 3 1 (some .int) := ⟨wn_RX6, wc_X6_vats, ⟨by decide +kernel, by decide +kernel, by decide +kernel⟩, by decide⟩
theorem lb_X6_where : LkB yX6_where cX6_where 1 0 (some .int) := ⟨wn_RX6, wc_X6_where, ⟨by decide +kernel, by decide +kernel, by decide +kernel⟩, by decide⟩
theorem lb_X6_why : LkB yX6_why cX6_why 2 1 (some .int) := ⟨wn_RX6, wc_X6_why, ⟨by decide +kernel, by decide +kernel, by decide +kernel⟩, by decide⟩
theorem lb_X7_bath : LkB yX7_bath cX7_bath 2 1 (some .int) := ⟨wn_RX7, wc_X7_bath, ⟨by decide +kernel, by decide +kernel, by decide +kernel⟩, by decide⟩
theorem lb_X7_behind : LkB yX7_behind cX7_behind 10 3 (some .int) := ⟨wn_RX7, wc_X7_behind, ⟨by decide +kernel, by decide +kernel, by decide +kernel⟩, by decide⟩
theorem lb_X7_bit : LkB yX7_bit cX7_bit 2 1 (some .int) := ⟨wn_RX7, wc_X7_bit, ⟨by decide +kernel, by decide +kernel, by decide +kernel⟩, by decide⟩
theorem lb_X7_bitBehind : LkB yX7_bitBehind cX7_bitBehind 5 3 (some .int) := ⟨wn_RX7, wc_X7_bitBehind, ⟨by decide +kernel, by decide +kernel, by decide +kernel⟩, by decide⟩
theorem lb_X7_check : LkB yX7_check cX7_check 3 1 (some .int) := ⟨wn_RX7, wc_X7_check, ⟨by decide +kernel, by decide +kernel, by decide +kernel⟩, by decide⟩
theorem lb_X7_count : LkB yX7_count cX7_count 4 1 (some .int) := ⟨wn_RX7, wc_X7_count, ⟨by decide +kernel, by decide +kernel, by decide +kernel⟩, by decide⟩
theorem lb_X7_countSteps : LkB yX7_countSteps cX7_countSteps 6 1 none := ⟨wn_RX7, wc_X7_countSteps, ⟨by decide +kernel, by decide +kernel, by decide +kernel⟩, by decide⟩
theorem lb_X7_faultOf : LkB yX7_faultOf cX7_faultOf 8 2 (some .int) := ⟨wn_RX7, wc_X7_faultOf, ⟨by decide +kernel, by decide +kernel, by decide +kernel⟩, by decide⟩
theorem lb_X7_fewest : LkB yX7_fewest cX7_fewest 3 1 (some .int) := ⟨wn_RX7, wc_X7_fewest, ⟨by decide +kernel, by decide +kernel, by decide +kernel⟩, by decide⟩
theorem lb_X7_filled : LkB yX7_filled cX7_filled 5 2 (some .int) := ⟨wn_RX7, wc_X7_filled, ⟨by decide +kernel, by decide +kernel, by decide +kernel⟩, by decide⟩
theorem lb_X7_fills : LkB yX7_fills cX7_fills 4 3 (some .int) := ⟨wn_RX7, wc_X7_fills, ⟨by decide +kernel, by decide +kernel, by decide +kernel⟩, by decide⟩
theorem lb_X7_flip : LkB yX7_flip cX7_flip 2 1 (some .int) := ⟨wn_RX7, wc_X7_flip, ⟨by decide +kernel, by decide +kernel, by decide +kernel⟩, by decide⟩
theorem lb_X7_forget : LkB yX7_forget cX7_forget 2 0 (some .int) := ⟨wn_RX7, wc_X7_forget, ⟨by decide +kernel, by decide +kernel, by decide +kernel⟩, by decide⟩
theorem lb_X7_free : LkB yX7_free cX7_free 1 0 (some .int) := ⟨wn_RX7, wc_X7_free, ⟨by decide +kernel, by decide +kernel, by decide +kernel⟩, by decide⟩
theorem lb_X7_freshBehind : LkB yX7_freshBehind cX7_freshBehind 2 1 (some .int) := ⟨wn_RX7, wc_X7_freshBehind, ⟨by decide +kernel, by decide +kernel, by decide +kernel⟩, by decide⟩
theorem lb_X7_freshPoured : LkB yX7_freshPoured cX7_freshPoured 2 2 (some .int) := ⟨wn_RX7, wc_X7_freshPoured, ⟨by decide +kernel, by decide +kernel, by decide +kernel⟩, by decide⟩
theorem lb_X7_goal : LkB yX7_goal cX7_goal 4 1 (some .int) := ⟨wn_RX7, wc_X7_goal, ⟨by decide +kernel, by decide +kernel, by decide +kernel⟩, by decide⟩
theorem lb_X7_has : LkB yX7_has cX7_has 2 2 (some .boolean) := ⟨wn_RX7, wc_X7_has, ⟨by decide +kernel, by decide +kernel, by decide +kernel⟩, by decide⟩
theorem lb_X7_isBath : LkB yX7_isBath cX7_isBath 2 1 (some .boolean) := ⟨wn_RX7, wc_X7_isBath, ⟨by decide +kernel, by decide +kernel, by decide +kernel⟩, by decide⟩
theorem lb_X7_isEnd : LkB yX7_isEnd cX7_isEnd 3 2 (some .boolean) := ⟨wn_RX7, wc_X7_isEnd, ⟨by decide +kernel, by decide +kernel, by decide +kernel⟩, by decide⟩
theorem lb_X7_isPlain : LkB yX7_isPlain cX7_isPlain 3 0 (some .boolean) := ⟨wn_RX7, wc_X7_isPlain, ⟨by decide +kernel, by decide +kernel, by decide +kernel⟩, by decide⟩
theorem lb_X7_keep : LkB yX7_keep cX7_keep 3 1 none := ⟨wn_RX7, wc_X7_keep, ⟨by decide +kernel, by decide +kernel, by decide +kernel⟩, by decide⟩
theorem lb_X7_least : LkB yX7_least cX7_least 2 0 (some .int) := ⟨wn_RX7, wc_X7_least, ⟨by decide +kernel, by decide +kernel, by decide +kernel⟩, by decide⟩
theorem lb_X7_lose : LkB yX7_lose cX7_lose 3 1 (some .int) := ⟨wn_RX7, wc_X7_lose, ⟨by decide +kernel, by decide +kernel, by decide +kernel⟩, by decide⟩
theorem lb_X7_make : LkB yX7_make cX7_make 2 1 (some .int) := ⟨wn_RX7, wc_X7_make, ⟨by decide +kernel, by decide +kernel, by decide +kernel⟩, by decide⟩
theorem lb_X7_named : LkB yX7_named cX7_named 4 3 (some .int) := ⟨wn_RX7, wc_X7_named, ⟨by decide +kernel, by decide +kernel, by decide +kernel⟩, by decide⟩
theorem lb_X7_need : LkB yX7_need cX7_need 5 3 (some .int) := ⟨wn_RX7, wc_X7_need, ⟨by decide +kernel, by decide +kernel, by decide +kernel⟩, by decide⟩
theorem lb_X7_needs : LkB yX7_needs cX7_needs 5 2 (some .boolean) := ⟨wn_RX7, wc_X7_needs, ⟨by decide +kernel, by decide +kernel, by decide +kernel⟩, by decide⟩
theorem lb_X7_of : LkB yX7_of cX7_of 3 2 (some .int) := ⟨wn_RX7, wc_X7_of, ⟨by decide +kernel, by decide +kernel, by decide +kernel⟩, by decide⟩
theorem lb_X7_ones : LkB yX7_ones cX7_ones 3 0 (some .int) := ⟨wn_RX7, wc_X7_ones, ⟨by decide +kernel, by decide +kernel, by decide +kernel⟩, by decide⟩
theorem lb_X7_order : LkB yX7_order cX7_order 9 1 (some .int) := ⟨wn_RX7, wc_X7_order, ⟨by decide +kernel, by decide +kernel, by decide +kernel⟩, by decide⟩
theorem lb_X7_plan : LkB yX7_plan cX7_plan 4 2 (some .int) := ⟨wn_RX7, wc_X7_plan, ⟨by decide +kernel, by decide +kernel, by decide +kernel⟩, by decide⟩
theorem lb_X7_pour : LkB yX7_pour cX7_pour 2 1 (some .int) := ⟨wn_RX7, wc_X7_pour, ⟨by decide +kernel, by decide +kernel, by decide +kernel⟩, by decide⟩
theorem lb_X7_price : LkB yX7_price cX7_price 1 1 (some .int) := ⟨wn_RX7, wc_X7_price, ⟨by decide +kernel, by decide +kernel, by decide +kernel⟩, by decide⟩
theorem lb_X7_reach : LkB yX7_reach cX7_reach 7 1 (some .int) := ⟨wn_RX7, wc_X7_reach, ⟨by decide +kernel, by decide +kernel, by decide +kernel⟩, by decide⟩
theorem lb_X7_reason : LkB yX7_reason cX7_reason 7 4 (some .int) := ⟨wn_RX7, wc_X7_reason, ⟨by decide +kernel, by decide +kernel, by decide +kernel⟩, by decide⟩
theorem lb_X7_recipe : LkB yX7_recipe cX7_recipe 5 3 (some .int) := ⟨wn_RX7, wc_X7_recipe, ⟨by decide +kernel, by decide +kernel, by decide +kernel⟩, by decide⟩
theorem lb_X7_ring : LkB yX7_ring cX7_ring 2 1 (some .int) := ⟨wn_RX7, wc_X7_ring, ⟨by decide +kernel, by decide +kernel, by decide +kernel⟩, by decide⟩
theorem lb_X7_row : LkB yX7_row cX7_row 6 1 (some .int) := ⟨wn_RX7, wc_X7_row, ⟨by decide +kernel, by decide +kernel, by decide +kernel⟩, by decide⟩
theorem lb_X7_spread : LkB yX7_spread cX7_spread 7 1 (some .int) := ⟨wn_RX7, wc_X7_spread, ⟨by decide +kernel, by decide +kernel, by decide +kernel⟩, by decide⟩
theorem lb_X7_stand : LkB yX7_stand cX7_stand 4 1 (some .boolean) := ⟨wn_RX7, wc_X7_stand, ⟨by decide +kernel, by decide +kernel, by decide +kernel⟩, by decide⟩
theorem lb_X7_standsBehind : LkB yX7_standsBehind cX7_standsBehind 4 2 (some .int) := ⟨wn_RX7, wc_X7_standsBehind, ⟨by decide +kernel, by decide +kernel, by decide +kernel⟩, by decide⟩
theorem lb_X7_stood : LkB yX7_stood cX7_stood 5 2 (some .int) := ⟨wn_RX7, wc_X7_stood, ⟨by decide +kernel, by decide +kernel, by decide +kernel⟩, by decide⟩
theorem lb_X7_tellRing : LkB yX7_tellRing cX7_tellRing 5 2 none := ⟨wn_RX7, wc_X7_tellRing, ⟨by decide +kernel, by decide +kernel, by decide +kernel⟩, by decide⟩
theorem lb_X7_together : LkB yX7_together cX7_together 3 1 (some .int) := ⟨wn_RX7, wc_X7_together, ⟨by decide +kernel, by decide +kernel, by decide +kernel⟩, by decide⟩
theorem lb_X7_trace : LkB yX7_trace cX7_trace 6 2 none := ⟨wn_RX7, wc_X7_trace, ⟨by decide +kernel, by decide +kernel, by decide +kernel⟩, by decide⟩
theorem lb_X7_undo : LkB yX7_undo cX7_undo 1 0 (some .int) := ⟨wn_RX7, wc_X7_undo, ⟨by decide +kernel, by decide +kernel, by decide +kernel⟩, by decide⟩
theorem lb_X7_used : LkB yX7_used cX7_used 3 1 (some .int) := ⟨wn_RX7, wc_X7_used, ⟨by decide +kernel, by decide +kernel, by decide +kernel⟩, by decide⟩
theorem lb_X7_vats : LkB yX7_vats cX7_vats 3 1 (some .int) := ⟨wn_RX7, wc_X7_vats, ⟨by decide +kernel, by decide +kernel, by decide +kernel⟩, by decide⟩
theorem lb_X7_where : LkB yX7_where cX7_where 1 0 (some .int) := ⟨wn_RX7, wc_X7_where, ⟨by decide +kernel, by decide +kernel, by decide +kernel⟩, by decide⟩
theorem lb_X7_why : LkB yX7_why cX7_why 2 1 (some .int) := ⟨wn_RX7, wc_X7_why, ⟨by decide +kernel, by decide +kernel, by decide +kernel⟩, by decide⟩
theorem lk_RL_13 : LkV RL 13 yX6_vats := ⟨wl_RL_13, wi_X6_vats, wv_X6_vats⟩
theorem lk_RL_17 : LkV RL 17 yX7_vats := ⟨wl_RL_17, wi_X7_vats, wv_X7_vats⟩
theorem lk_RL_18 : LkV RL 18 yX6_bath := ⟨wl_RL_18, wi_X6_bath, wv_X6_bath⟩
theorem lk_RL_21 : LkV RL 21 yX7_bath := ⟨wl_RL_21, wi_X7_bath, wv_X7_bath⟩
theorem lk_RL_22 : LkV RL 22 yX6_recipe := ⟨wl_RL_22, wi_X6_recipe, wv_X6_recipe⟩
theorem lk_RL_26 : LkV RL 26 yX7_recipe := ⟨wl_RL_26, wi_X7_recipe, wv_X7_recipe⟩
theorem lk_RL_27 : LkV RL 27 yX6_lose := ⟨wl_RL_27, wi_X6_lose, wv_X6_lose⟩
theorem lk_RL_30 : LkV RL 30 yX7_lose := ⟨wl_RL_30, wi_X7_lose, wv_X7_lose⟩
theorem lk_RL_31 : LkV RL 31 yX6_need := ⟨wl_RL_31, wi_X6_need, wv_X6_need⟩
theorem lk_RL_34 : LkV RL 34 yX7_need := ⟨wl_RL_34, wi_X7_need, wv_X7_need⟩
theorem lk_RL_35 : LkV RL 35 yX6_named := ⟨wl_RL_35, wi_X6_named, wv_X6_named⟩
theorem lk_RL_38 : LkV RL 38 yX7_named := ⟨wl_RL_38, wi_X7_named, wv_X7_named⟩
theorem lk_RL_39 : LkV RL 39 yX6_ring := ⟨wl_RL_39, wi_X6_ring, wv_X6_ring⟩
theorem lk_RL_42 : LkV RL 42 yX7_ring := ⟨wl_RL_42, wi_X7_ring, wv_X7_ring⟩
theorem lk_RL_43 : LkV RL 43 yX6_order := ⟨wl_RL_43, wi_X6_order, wv_X6_order⟩
theorem lk_RL_46 : LkV RL 46 yX7_order := ⟨wl_RL_46, wi_X7_order, wv_X7_order⟩
theorem lk_RL_47 : LkV RL 47 yX6_goal := ⟨wl_RL_47, wi_X6_goal, wv_X6_goal⟩
theorem lk_RL_50 : LkV RL 50 yX7_goal := ⟨wl_RL_50, wi_X7_goal, wv_X7_goal⟩
theorem lk_RL_51 : LkV RL 51 yX6_forget := ⟨wl_RL_51, wi_X6_forget, wv_X6_forget⟩
theorem lk_RL_55 : LkV RL 55 yX7_forget := ⟨wl_RL_55, wi_X7_forget, wv_X7_forget⟩
theorem lk_RL_56 : LkV RL 56 yX6_together := ⟨wl_RL_56, wi_X6_together, wv_X6_together⟩
theorem lk_RL_60 : LkV RL 60 yX7_together := ⟨wl_RL_60, wi_X7_together, wv_X7_together⟩
theorem lk_RL_61 : LkV RL 61 yX6_make := ⟨wl_RL_61, wi_X6_make, wv_X6_make⟩
theorem lk_RL_64 : LkV RL 64 yX7_make := ⟨wl_RL_64, wi_X7_make, wv_X7_make⟩
theorem lk_RL_65 : LkV RL 65 yX6_why := ⟨wl_RL_65, wi_X6_why, wv_X6_why⟩
theorem lk_RL_68 : LkV RL 68 yX7_why := ⟨wl_RL_68, wi_X7_why, wv_X7_why⟩
theorem lk_RL_69 : LkV RL 69 yX6_pour := ⟨wl_RL_69, wi_X6_pour, wv_X6_pour⟩
theorem lk_RL_72 : LkV RL 72 yX7_pour := ⟨wl_RL_72, wi_X7_pour, wv_X7_pour⟩
theorem lk_RL_73 : LkV RL 73 yX6_undo := ⟨wl_RL_73, wi_X6_undo, wv_X6_undo⟩
theorem lk_RL_76 : LkV RL 76 yX7_undo := ⟨wl_RL_76, wi_X7_undo, wv_X7_undo⟩
theorem lk_RL_77 : LkV RL 77 yX6_of := ⟨wl_RL_77, wi_X6_of, wv_X6_of⟩
theorem lk_RL_81 : LkV RL 81 yX7_of := ⟨wl_RL_81, wi_X7_of, wv_X7_of⟩
theorem lk_RL_82 : LkV RL 82 yX6_count := ⟨wl_RL_82, wi_X6_count, wv_X6_count⟩
theorem lk_RL_85 : LkV RL 85 yX7_count := ⟨wl_RL_85, wi_X7_count, wv_X7_count⟩
theorem lk_RL_86 : LkV RL 86 yX6_least := ⟨wl_RL_86, wi_X6_least, wv_X6_least⟩
theorem lk_RL_89 : LkV RL 89 yX7_least := ⟨wl_RL_89, wi_X7_least, wv_X7_least⟩
theorem lk_RL_90 : LkV RL 90 yX6_fewest := ⟨wl_RL_90, wi_X6_fewest, wv_X6_fewest⟩
theorem lk_RL_93 : LkV RL 93 yX7_fewest := ⟨wl_RL_93, wi_X7_fewest, wv_X7_fewest⟩
theorem lk_RL_94 : LkV RL 94 yX6_plan := ⟨wl_RL_94, wi_X6_plan, wv_X6_plan⟩
theorem lk_RL_97 : LkV RL 97 yX7_plan := ⟨wl_RL_97, wi_X7_plan, wv_X7_plan⟩
theorem lk_RL_98 : LkV RL 98 yX6_reach := ⟨wl_RL_98, wi_X6_reach, wv_X6_reach⟩
theorem lk_RL_101 : LkV RL 101 yX7_reach := ⟨wl_RL_101, wi_X7_reach, wv_X7_reach⟩
theorem lk_RL_102 : LkV RL 102 yX6_row := ⟨wl_RL_102, wi_X6_row, wv_X6_row⟩
theorem lk_RL_105 : LkV RL 105 yX7_row := ⟨wl_RL_105, wi_X7_row, wv_X7_row⟩
theorem lk_RL_106 : LkV RL 106 yX6_bit := ⟨wl_RL_106, wi_X6_bit, wv_X6_bit⟩
theorem lk_RL_109 : LkV RL 109 yX7_bit := ⟨wl_RL_109, wi_X7_bit, wv_X7_bit⟩
theorem lk_RL_110 : LkV RL 110 yX6_flip := ⟨wl_RL_110, wi_X6_flip, wv_X6_flip⟩
theorem lk_RL_113 : LkV RL 113 yX7_flip := ⟨wl_RL_113, wi_X7_flip, wv_X7_flip⟩
theorem lk_RL_114 : LkV RL 114 yX6_check := ⟨wl_RL_114, wi_X6_check, wv_X6_check⟩
theorem lk_RL_117 : LkV RL 117 yX7_check := ⟨wl_RL_117, wi_X7_check, wv_X7_check⟩
theorem lk_RL_118 : LkV RL 118 yX6_where := ⟨wl_RL_118, wi_X6_where, wv_X6_where⟩
theorem lk_RL_121 : LkV RL 121 yX7_where := ⟨wl_RL_121, wi_X7_where, wv_X7_where⟩
theorem lk_RX0_25 : LkS RX0 25 yJ9_min_7cf53 := ⟨wl_RX0_25, ws_J9_min_7cf53⟩
theorem lk_RX0_31 : LkS RX0 31 yJ9_max_7cf53 := ⟨wl_RX0_31, ws_J9_max_7cf53⟩
theorem lk_RX1_43 : LkS RX1 43 yJ7_fill_53178 := ⟨wl_RX1_43, ws_J7_fill_53178⟩
theorem lk_RX1_49 : LkV RX1 49 yX1_explore := ⟨wl_RX1_49, wi_X1_explore, wv_X1_explore⟩
theorem lk_RX1_53 : LkV RX1 53 yX1_dropDetours := ⟨wl_RX1_53, wi_X1_dropDetours, wv_X1_dropDetours⟩
theorem lk_RX1_56 : LkV RX1 56 yX1_writePlan := ⟨wl_RX1_56, wi_X1_writePlan, wv_X1_writePlan⟩
theorem lk_RX1_60 : LkV RX1 60 yX1_startLine := ⟨wl_RX1_60, wi_X1_startLine, wv_X1_startLine⟩
theorem lk_RX1_63 : LkV RX1 63 yX5_lead := ⟨wl_RX1_63, wi_X5_lead, wv_X5_lead⟩
theorem lk_RX1_69 : LkV RX1 69 yX1_join := ⟨wl_RX1_69, wi_X1_join, wv_X1_join⟩
theorem lk_RX1_73 : LkV RX1 73 yX5_hasFrail := ⟨wl_RX1_73, wi_X5_hasFrail, wv_X5_hasFrail⟩
theorem lk_RX1_78 : LkV RX1 78 yX5_reaches := ⟨wl_RX1_78, wi_X5_reaches, wv_X5_reaches⟩
theorem lk_RX1_85 : LkS RX1 85 yJ9_min_7cf53 := ⟨wl_RX1_85, ws_J9_min_7cf53⟩
theorem lk_RX1_91 : LkV RX1 91 yX1_spread := ⟨wl_RX1_91, wi_X1_spread, wv_X1_spread⟩
theorem lk_RX1_98 : LkV RX1 98 yX1_firstActOn := ⟨wl_RX1_98, wi_X1_firstActOn, wv_X1_firstActOn⟩
theorem lk_RX2_30 : LkS RX2 30 yJ7_fill_031fb := ⟨wl_RX2_30, ws_J7_fill_031fb⟩
theorem lk_RX2_36 : LkV RX2 36 yX2_join := ⟨wl_RX2_36, wi_X2_join, wv_X2_join⟩
theorem lk_RX2_40 : LkV RX2 40 yX5_lead := ⟨wl_RX2_40, wi_X5_lead, wv_X5_lead⟩
theorem lk_RX2_50 : LkV RX2 50 yX2_turn := ⟨wl_RX2_50, wi_X2_turn, wv_X2_turn⟩
theorem lk_RX2_54 : LkV RX2 54 yX2_faultOf := ⟨wl_RX2_54, wi_X2_faultOf, wv_X2_faultOf⟩
theorem lk_RX2_58 : LkV RX2 58 yX5_reaches := ⟨wl_RX2_58, wi_X5_reaches, wv_X5_reaches⟩
theorem lk_RX2_61 : LkV RX2 61 yX5_known := ⟨wl_RX2_61, wi_X5_known, wv_X5_known⟩
theorem lk_RX3_21 : LkS RX3 21 yJ7_fill_53178 := ⟨wl_RX3_21, ws_J7_fill_53178⟩
theorem lk_RX3_27 : LkV RX3 27 yX3_setName := ⟨wl_RX3_27, wi_X3_setName, wv_X3_setName⟩
theorem lk_RX3_31 : LkV RX3 31 yX3_nameAt := ⟨wl_RX3_31, wi_X3_nameAt, wv_X3_nameAt⟩
theorem lk_RX3_35 : LkS RX3 35 yX3_bitOf := ⟨wl_RX3_35, ws_X3_bitOf⟩
theorem lk_RX4_22 : LkV RX4 22 yX4_measure := ⟨wl_RX4_22, wi_X4_measure, wv_X4_measure⟩
theorem lk_RX4_26 : LkV RX4 26 yX4_nearer := ⟨wl_RX4_26, wi_X4_nearer, wv_X4_nearer⟩
theorem lk_RX4_30 : LkS RX4 30 yJ7_fill_53178 := ⟨wl_RX4_30, ws_J7_fill_53178⟩
theorem lk_RX5_50 : LkV RX5 50 yX3_has := ⟨wl_RX5_50, wi_X3_has, wv_X3_has⟩
theorem lk_RX5_56 : LkV RX5 56 yX3_namedBits := ⟨wl_RX5_56, wi_X3_namedBits, wv_X3_namedBits⟩
theorem lk_RX5_60 : LkV RX5 60 yX3_firstNamedBit := ⟨wl_RX5_60, wi_X3_firstNamedBit, wv_X3_firstNamedBit⟩
theorem lk_RX5_63 : LkV RX5 63 yX5_filledBy := ⟨wl_RX5_63, wi_X5_filledBy, wv_X5_filledBy⟩
theorem lk_RX5_67 : LkS RX5 67 yX5_freshBit := ⟨wl_RX5_67, ws_X5_freshBit⟩
theorem lk_RX5_70 : LkS RX5 70 yJ6_bitCount_0f7a4 := ⟨wl_RX5_70, ws_J6_bitCount_0f7a4⟩
theorem lk_RX5_75 : LkV RX5 75 yX5_hindrance := ⟨wl_RX5_75, wi_X5_hindrance, wv_X5_hindrance⟩
theorem lk_RX5_79 : LkV RX5 79 yX5_whenMade := ⟨wl_RX5_79, wi_X5_whenMade, wv_X5_whenMade⟩
theorem lk_RX5_82 : LkV RX5 82 yX5_withStood := ⟨wl_RX5_82, wi_X5_withStood, wv_X5_withStood⟩
theorem lk_RX5_85 : LkS RX5 85 yX5_stands := ⟨wl_RX5_85, ws_X5_stands⟩
theorem lk_RX5_89 : LkS RX5 89 yX5_whenPoured := ⟨wl_RX5_89, ws_X5_whenPoured⟩
theorem lk_RX6_64 : LkS RX6 64 yX6_isVatCount := ⟨wl_RX6_64, ws_X6_isVatCount⟩
theorem lk_RX6_68 : LkV RX6 68 yX5_filled := ⟨wl_RX6_68, wi_X5_filled, wv_X5_filled⟩
theorem lk_RX6_72 : LkV RX6 72 yX0_clear := ⟨wl_RX6_72, wi_X0_clear, wv_X0_clear⟩
theorem lk_RX6_81 : LkV RX6 81 yX1_outdate := ⟨wl_RX6_81, wi_X1_outdate, wv_X1_outdate⟩
theorem lk_RX6_84 : LkV RX6 84 yX5_addBath := ⟨wl_RX6_84, wi_X5_addBath, wv_X5_addBath⟩
theorem lk_RX6_87 : LkV RX6 87 yX5_isBath := ⟨wl_RX6_87, wi_X5_isBath, wv_X5_isBath⟩
theorem lk_RX6_90 : LkS RX6 90 yX6_isType := ⟨wl_RX6_90, ws_X6_isType⟩
theorem lk_RX6_93 : LkV RX6 93 yX6_anyStands := ⟨wl_RX6_93, wi_X6_anyStands, wv_X6_anyStands⟩
theorem lk_RX6_97 : LkV RX6 97 yX3_begin := ⟨wl_RX6_97, wi_X3_begin, wv_X3_begin⟩
theorem lk_RX6_101 : LkV RX6 101 yX6_recipeChanged := ⟨wl_RX6_101, wi_X6_recipeChanged, wv_X6_recipeChanged⟩
theorem lk_RX6_105 : LkV RX6 105 yX3_has := ⟨wl_RX6_105, wi_X3_has, wv_X3_has⟩
theorem lk_RX6_108 : LkV RX6 108 yX3_drop := ⟨wl_RX6_108, wi_X3_drop, wv_X3_drop⟩
theorem lk_RX6_111 : LkV RX6 111 yX3_hasPlace := ⟨wl_RX6_111, wi_X3_hasPlace, wv_X3_hasPlace⟩
theorem lk_RX6_118 : LkV RX6 118 yX4_closes := ⟨wl_RX6_118, wi_X4_closes, wv_X4_closes⟩
theorem lk_RX6_122 : LkV RX6 122 yX3_nameAt := ⟨wl_RX6_122, wi_X3_nameAt, wv_X3_nameAt⟩
theorem lk_RX6_126 : LkV RX6 126 yX3_setName := ⟨wl_RX6_126, wi_X3_setName, wv_X3_setName⟩
theorem lk_RX6_137 : LkV RX6 137 yX5_nextTold := ⟨wl_RX6_137, wi_X5_nextTold, wv_X5_nextTold⟩
theorem lk_RX6_140 : LkV RX6 140 yX5_isGoal := ⟨wl_RX6_140, wi_X5_isGoal, wv_X5_isGoal⟩
theorem lk_RX6_146 : LkV RX6 146 yX5_addGoal := ⟨wl_RX6_146, wi_X5_addGoal, wv_X5_addGoal⟩
theorem lk_RX6_149 : LkV RX6 149 yX5_dropGoals := ⟨wl_RX6_149, wi_X5_dropGoals, wv_X5_dropGoals⟩
theorem lk_RX6_156 : LkV RX6 156 yX5_hindrance := ⟨wl_RX6_156, wi_X5_hindrance, wv_X5_hindrance⟩
theorem lk_RX6_160 : LkV RX6 160 yX0_keep := ⟨wl_RX6_160, wi_X0_keep, wv_X0_keep⟩
theorem lk_RX6_164 : LkV RX6 164 yX5_whenMade := ⟨wl_RX6_164, wi_X5_whenMade, wv_X5_whenMade⟩
theorem lk_RX6_167 : LkV RX6 167 yX6_freeVats := ⟨wl_RX6_167, wi_X6_freeVats, wv_X6_freeVats⟩
theorem lk_RX6_171 : LkS RX6 171 yX5_stands := ⟨wl_RX6_171, ws_X5_stands⟩
theorem lk_RX6_174 : LkS RX6 174 yX5_whenPoured := ⟨wl_RX6_174, ws_X5_whenPoured⟩
theorem lk_RX6_180 : LkV RX6 180 yX0_stepBack := ⟨wl_RX6_180, wi_X0_stepBack, wv_X0_stepBack⟩
theorem lk_RX6_183 : LkV RX6 183 yX0_madeThere := ⟨wl_RX6_183, wi_X0_madeThere, wv_X0_madeThere⟩
theorem lk_RX6_186 : LkV RX6 186 yX0_sceneThere := ⟨wl_RX6_186, wi_X0_sceneThere, wv_X0_sceneThere⟩
theorem lk_RX6_192 : LkV RX6 192 yX5_filledBy := ⟨wl_RX6_192, wi_X5_filledBy, wv_X5_filledBy⟩
theorem lk_RX6_198 : LkS RX6 198 yJ6_bitCount_0f7a4 := ⟨wl_RX6_198, ws_J6_bitCount_0f7a4⟩
theorem lk_RX6_206 : LkV RX6 206 yX1_makesFor := ⟨wl_RX6_206, wi_X1_makesFor, wv_X1_makesFor⟩
theorem lk_RX6_209 : LkV RX6 209 yX1_actsFor := ⟨wl_RX6_209, wi_X1_actsFor, wv_X1_actsFor⟩
theorem lk_RX6_212 : LkV RX6 212 yX1_actAt := ⟨wl_RX6_212, wi_X1_actAt, wv_X1_actAt⟩
theorem lk_RX6_215 : LkV RX6 215 yX1_scenesFor := ⟨wl_RX6_215, wi_X1_scenesFor, wv_X1_scenesFor⟩
theorem lk_RX6_218 : LkV RX6 218 yX5_allFillOne := ⟨wl_RX6_218, wi_X5_allFillOne, wv_X5_allFillOne⟩
theorem lk_RX6_221 : LkV RX6 221 yX2_build := ⟨wl_RX6_221, wi_X2_build, wv_X2_build⟩
theorem lk_RX6_224 : LkS RX6 224 yX6_isRowBit := ⟨wl_RX6_224, ws_X6_isRowBit⟩
theorem lk_RX6_231 : LkV RX6 231 yX2_turn := ⟨wl_RX6_231, wi_X2_turn, wv_X2_turn⟩
theorem lk_RX6_234 : LkV RX6 234 yX2_examine := ⟨wl_RX6_234, wi_X2_examine, wv_X2_examine⟩
theorem lk_RX6_240 : LkV RX6 240 yX5_learn := ⟨wl_RX6_240, wi_X5_learn, wv_X5_learn⟩
theorem lk_RX7_76 : LkS RX7 76 yX7_has := ⟨wl_RX7_76, ws_X7_has⟩
theorem lk_RX7_80 : LkV RX7 80 yX7_fills := ⟨wl_RX7_80, wi_X7_fills, wv_X7_fills⟩
theorem lk_RX7_84 : LkV RX7 84 yX7_used := ⟨wl_RX7_84, wi_X7_used, wv_X7_used⟩
theorem lk_RX7_88 : LkV RX7 88 yX7_filled := ⟨wl_RX7_88, wi_X7_filled, wv_X7_filled⟩
theorem lk_RX7_101 : LkV RX7 101 yX7_isBath := ⟨wl_RX7_101, wi_X7_isBath, wv_X7_isBath⟩
theorem lk_RX7_105 : LkV RX7 105 yX7_needs := ⟨wl_RX7_105, wi_X7_needs, wv_X7_needs⟩
theorem lk_RX7_111 : LkV RX7 111 yX7_countSteps := ⟨wl_RX7_111, wi_X7_countSteps, wv_X7_countSteps⟩
theorem lk_RX7_115 : LkV RX7 115 yX7_tellRing := ⟨wl_RX7_115, wi_X7_tellRing, wv_X7_tellRing⟩
theorem lk_RX7_126 : LkV RX7 126 yX7_reason := ⟨wl_RX7_126, wi_X7_reason, wv_X7_reason⟩
theorem lk_RX7_130 : LkV RX7 130 yX7_keep := ⟨wl_RX7_130, wi_X7_keep, wv_X7_keep⟩
theorem lk_RX7_133 : LkV RX7 133 yX7_standsBehind := ⟨wl_RX7_133, wi_X7_standsBehind, wv_X7_standsBehind⟩
theorem lk_RX7_136 : LkV RX7 136 yX7_freshBehind := ⟨wl_RX7_136, wi_X7_freshBehind, wv_X7_freshBehind⟩
theorem lk_RX7_139 : LkV RX7 139 yX7_free := ⟨wl_RX7_139, wi_X7_free, wv_X7_free⟩
theorem lk_RX7_143 : LkS RX7 143 yX7_freshPoured := ⟨wl_RX7_143, ws_X7_freshPoured⟩
theorem lk_RX7_146 : LkV RX7 146 yX7_ones := ⟨wl_RX7_146, wi_X7_ones, wv_X7_ones⟩
theorem lk_RX7_149 : LkV RX7 149 yX7_stand := ⟨wl_RX7_149, wi_X7_stand, wv_X7_stand⟩
theorem lk_RX7_152 : LkV RX7 152 yX7_stood := ⟨wl_RX7_152, wi_X7_stood, wv_X7_stood⟩
theorem lk_RX7_157 : LkV RX7 157 yX7_behind := ⟨wl_RX7_157, wi_X7_behind, wv_X7_behind⟩
theorem lk_RX7_160 : LkS RX7 160 yX7_price := ⟨wl_RX7_160, ws_X7_price⟩
theorem lk_RX7_163 : LkV RX7 163 yX7_isEnd := ⟨wl_RX7_163, wi_X7_isEnd, wv_X7_isEnd⟩
theorem lk_RX7_169 : LkV RX7 169 yX7_spread := ⟨wl_RX7_169, wi_X7_spread, wv_X7_spread⟩
theorem lk_RX7_172 : LkV RX7 172 yX7_trace := ⟨wl_RX7_172, wi_X7_trace, wv_X7_trace⟩
theorem lk_RX7_175 : LkV RX7 175 yX7_isPlain := ⟨wl_RX7_175, wi_X7_isPlain, wv_X7_isPlain⟩
theorem lk_RX7_179 : LkV RX7 179 yX7_bitBehind := ⟨wl_RX7_179, wi_X7_bitBehind, wv_X7_bitBehind⟩
theorem lk_RX7_182 : LkV RX7 182 yX7_faultOf := ⟨wl_RX7_182, wi_X7_faultOf, wv_X7_faultOf⟩
end
