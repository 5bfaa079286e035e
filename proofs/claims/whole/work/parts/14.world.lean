/-! the two worlds -/
def wD (Z : Zz) (a : Nat → Nat) (x : Xx) : va_W := [
  (a 0, .inr (6, [.ref (a 1), .ref (a 2), .ref (a 3), .ref (a 4), .ref (a 5), .ref (a 6), .ref (a 7), .int (gI x.2.2 0), .int (gI x.2.2 1)])),
  (a 1, .inr (3, [.ref (a 8), .ref (a 9), .ref (a 10)])),
  (a 2, .inr (5, [.int (gI x.2.2 2), .ref (a 11), .ref (a 12), .ref (a 13), .int (gI x.2.2 3), .int (gI x.2.2 4), .int (gI x.2.2 5), .int (gI x.2.2 6), .int (gI x.2.2 7), .ref (a 14), .int (gI x.2.2 8), .int (gI x.2.2 9)])),
  (a 3, .inr (4, [.ref (a 15), .int (gI x.2.2 10), .ref (a 16)])),
  (a 4, .inr (0, [.int (gI x.2.2 11), .int (gI x.2.2 12), .ref (a 17), .ref (a 18)])),
  (a 5, .inr (1, [.ref (a 2), .ref (a 19), .ref (a 20), .ref x.1, .ref x.2.1, .int (gI x.2.2 13), .int (gI x.2.2 14), .int (gI x.2.2 15), .int (gI x.2.2 16)])),
  (a 6, .inr (2, [.ref (a 2), .ref (a 5), .ref (a 23), .int (gI x.2.2 17), .int (gI x.2.2 18)])),
  (a 7, .inl (ZI Z, 9, .inl (x.2.2.2.1 7))),
  (a 8, .inl (ZI Z, 9, .inl (x.2.2.2.1 8))),
  (a 9, .inl (ZI Z, 9, .inl (x.2.2.2.1 9))),
  (a 10, .inl (ZI Z, 36, .inl (x.2.2.2.1 10))),
  (a 11, .inl (ZI Z, 9, .inl (x.2.2.2.1 11))),
  (a 12, .inl (ZI Z, 9, .inl (x.2.2.2.1 12))),
  (a 13, .inl (ZI Z, 9, .inl (x.2.2.2.1 13))),
  (a 14, .inl (ZI Z, 3, .inl (x.2.2.2.1 14))),
  (a 15, .inl (ZI Z, 9, .inl (x.2.2.2.1 15))),
  (a 16, .inl (ZI Z, 9, .inl (x.2.2.2.1 16))),
  (a 17, .inl (ZI Z, 100, .inl (x.2.2.2.1 17))),
  (a 18, .inl (ZI Z, 100, .inl (x.2.2.2.1 18))),
  (a 19, .inl (ZI Z, 19, .inl (x.2.2.2.1 19))),
  (a 20, .inl (ZI Z, 19, .inl (x.2.2.2.1 20))),
  (x.1, .inl (ZI Z, gL x.2.2, .inl (x.2.2.2.1 21))),
  (x.2.1, .inl (ZI Z, gL x.2.2, .inl (x.2.2.2.1 22))),
  (a 23, .inl (ZB Z, 4096, .inl (x.2.2.2.1 23)))]
def wM (Z : Zz) (a : Nat → Nat) (x : Xx) : va_W := [
  (a 0, .inr (7, [.int (gI x.2.2 0), .ref (a 1), .ref (a 2), .ref (a 3), .ref (a 4), .ref (a 5), .int (gI x.2.2 1), .int (gI x.2.2 2), .int (gI x.2.2 3), .int (gI x.2.2 4), .ref (a 6), .int (gI x.2.2 5), .ref (a 7), .int (gI x.2.2 6), .ref (a 8), .ref (a 9), .ref (a 10), .int (gI x.2.2 7), .ref (a 11), .int (gI x.2.2 8), .ref (a 12), .ref (a 13), .ref (a 14), .ref (a 15), .ref (a 16), .ref (a 17), .ref (a 18), .int (gI x.2.2 9)])),
  (a 1, .inl (ZI Z, 9, .inl (x.2.2.2.1 1))),
  (a 2, .inl (ZI Z, 9, .inl (x.2.2.2.1 2))),
  (a 3, .inl (ZI Z, 9, .inl (x.2.2.2.1 3))),
  (a 4, .inl (ZI Z, 36, .inl (x.2.2.2.1 4))),
  (a 5, .inl (ZI Z, 9, .inl (x.2.2.2.1 5))),
  (a 6, .inl (ZI Z, 3, .inl (x.2.2.2.1 6))),
  (a 7, .inl (ZZ Z, 4096, .inl (x.2.2.2.1 7))),
  (a 8, .inl (ZI Z, 100, .inl (x.2.2.2.1 8))),
  (a 9, .inl (ZI Z, 100, .inl (x.2.2.2.1 9))),
  (a 10, .inl (ZI Z, 100, .inl (x.2.2.2.1 10))),
  (a 11, .inl (ZI Z, 9, .inl (x.2.2.2.1 11))),
  (a 12, .inl (ZI Z, 9, .inl (x.2.2.2.1 12))),
  (a 13, .inl (ZI Z, 40960, .inl (x.2.2.2.1 13))),
  (a 14, .inl (ZZ Z, 40960, .inl (x.2.2.2.1 14))),
  (a 15, .inl (ZI Z, 40960, .inl (x.2.2.2.1 15))),
  (a 16, .inl (ZZ Z, 40960, .inl (x.2.2.2.1 16))),
  (a 17, .inl (ZI Z, 40960, .inl (x.2.2.2.1 17))),
  (a 18, .inl (ZI Z, 40960, .inl (x.2.2.2.1 18)))]
theorem nar_z {v : Int32} (h : isB v) : narrow .boolean (.int v) = .int v := by rcases h with h | h <;> subst h <;> rfl
theorem fit_z {v : Int32} (h : isB v) : fits .boolean (.int v) = true := by rcases h with h | h <;> subst h <;> rfl
section FR
variable {Z : Zz} {a : Nat → Nat} {Ev : State → Prop} {G : Gm} {cc : ByteArray} {dep : Nat} {ret : Option FieldType} {Pq : Option Int32 → Xx → Prop} {csF cs c1 c2 : Nat} {M : Mm} {st : List Value} {lv : List (Option Value)}
variable {β : Type} {o : β}
theorem gf_RX0_9 (C : CX (wD Z a) Z Ev G cc RX0 dep ret Pq csF) {pc : Nat} (d : decode cc pc = .ok (.getfield 9, 3)) (k : V (wD Z a) Z G cs (pc + 3) lv (.int (gI M 11) :: st) (c1, c2, M)) : V (wD Z a) Z G cs pc lv (.ref (a 4) :: st) (c1, c2, M) := V_get C 4 0 rfl rfl inX0 0 (by decide) wf_RX0_9 rfl d k
theorem pf_RX0_9 (C : CX (wD Z a) Z Ev G cc RX0 dep ret Pq csF) {pc : Nat} {v : Int32} (d : decode cc pc = .ok (.putfield 9, 3)) (k : V (wD Z a) Z G cs (pc + 3) lv st (c1, c2, sI M 11 v)) : V (wD Z a) Z G cs pc lv (.int v :: .ref (a 4) :: st) (c1, c2, M) := V_put C 4 0 (fs := _) rfl rfl inX0 tyX0 tyX0_ok nmX0 0 (by decide) wf_RX0_9 rfl (tyX0_ok 0 (by decide)) rfl rfl (Nat.le_of_ble_eq_true rfl) d (x' := (c1, c2, sI M 11 v)) rfl k
theorem gf_RX0_15 (C : CX (wD Z a) Z Ev G cc RX0 dep ret Pq csF) {pc : Nat} (d : decode cc pc = .ok (.getfield 15, 3)) (k : V (wD Z a) Z G cs (pc + 3) lv (.int (gI M 12) :: st) (c1, c2, M)) : V (wD Z a) Z G cs pc lv (.ref (a 4) :: st) (c1, c2, M) := V_get C 4 0 rfl rfl inX0 1 (by decide) wf_RX0_15 rfl d k
theorem pf_RX0_15 (C : CX (wD Z a) Z Ev G cc RX0 dep ret Pq csF) {pc : Nat} {v : Int32} (d : decode cc pc = .ok (.putfield 15, 3)) (k : V (wD Z a) Z G cs (pc + 3) lv st (c1, c2, sI M 12 v)) : V (wD Z a) Z G cs pc lv (.int v :: .ref (a 4) :: st) (c1, c2, M) := V_put C 4 0 (fs := _) rfl rfl inX0 tyX0 tyX0_ok nmX0 1 (by decide) wf_RX0_15 rfl (tyX0_ok 1 (by decide)) rfl rfl (Nat.le_of_ble_eq_true rfl) d (x' := (c1, c2, sI M 12 v)) rfl k
theorem gf_RX0_18 (C : CX (wD Z a) Z Ev G cc RX0 dep ret Pq csF) {pc : Nat} (d : decode cc pc = .ok (.getfield 18, 3)) (k : V (wD Z a) Z G cs (pc + 3) lv (.ref (a 17) :: st) (c1, c2, M)) : V (wD Z a) Z G cs pc lv (.ref (a 4) :: st) (c1, c2, M) := V_get C 4 0 rfl rfl inX0 2 (by decide) wf_RX0_18 rfl d k
theorem gf_RX0_22 (C : CX (wD Z a) Z Ev G cc RX0 dep ret Pq csF) {pc : Nat} (d : decode cc pc = .ok (.getfield 22, 3)) (k : V (wD Z a) Z G cs (pc + 3) lv (.ref (a 18) :: st) (c1, c2, M)) : V (wD Z a) Z G cs pc lv (.ref (a 4) :: st) (c1, c2, M) := V_get C 4 0 rfl rfl inX0 3 (by decide) wf_RX0_22 rfl d k
theorem gf_RX1_11 (C : CX (wD Z a) Z Ev G cc RX1 dep ret Pq csF) {pc : Nat} (d : decode cc pc = .ok (.getfield 11, 3)) (k : V (wD Z a) Z G cs (pc + 3) lv (.ref (a 19) :: st) (c1, c2, M)) : V (wD Z a) Z G cs pc lv (.ref (a 5) :: st) (c1, c2, M) := V_get C 5 1 rfl rfl inX1 1 (by decide) wf_RX1_11 rfl d k
theorem gf_RX1_15 (C : CX (wD Z a) Z Ev G cc RX1 dep ret Pq csF) {pc : Nat} (d : decode cc pc = .ok (.getfield 15, 3)) (k : V (wD Z a) Z G cs (pc + 3) lv (.ref (a 20) :: st) (c1, c2, M)) : V (wD Z a) Z G cs pc lv (.ref (a 5) :: st) (c1, c2, M) := V_get C 5 1 rfl rfl inX1 2 (by decide) wf_RX1_15 rfl d k
theorem gf_RX1_18 (C : CX (wD Z a) Z Ev G cc RX1 dep ret Pq csF) {pc : Nat} (d : decode cc pc = .ok (.getfield 18, 3)) (k : V (wD Z a) Z G cs (pc + 3) lv (.ref c1 :: st) (c1, c2, M)) : V (wD Z a) Z G cs pc lv (.ref (a 5) :: st) (c1, c2, M) := V_get C 5 1 rfl rfl inX1 3 (by decide) wf_RX1_18 rfl d k
theorem gf_RX1_21 (C : CX (wD Z a) Z Ev G cc RX1 dep ret Pq csF) {pc : Nat} (d : decode cc pc = .ok (.getfield 21, 3)) (k : V (wD Z a) Z G cs (pc + 3) lv (.ref c2 :: st) (c1, c2, M)) : V (wD Z a) Z G cs pc lv (.ref (a 5) :: st) (c1, c2, M) := V_get C 5 1 rfl rfl inX1 4 (by decide) wf_RX1_21 rfl d k
theorem gf_RX1_24 (C : CX (wD Z a) Z Ev G cc RX1 dep ret Pq csF) {pc : Nat} (d : decode cc pc = .ok (.getfield 24, 3)) (k : V (wD Z a) Z G cs (pc + 3) lv (.int (gI M 13) :: st) (c1, c2, M)) : V (wD Z a) Z G cs pc lv (.ref (a 5) :: st) (c1, c2, M) := V_get C 5 1 rfl rfl inX1 5 (by decide) wf_RX1_24 rfl d k
theorem pf_RX1_24 (C : CX (wD Z a) Z Ev G cc RX1 dep ret Pq csF) {pc : Nat} {v : Int32} (d : decode cc pc = .ok (.putfield 24, 3)) (k : V (wD Z a) Z G cs (pc + 3) lv st (c1, c2, sI M 13 v)) : V (wD Z a) Z G cs pc lv (.int v :: .ref (a 5) :: st) (c1, c2, M) := V_put C 5 1 (fs := _) rfl rfl inX1 tyX1 tyX1_ok nmX1 5 (by decide) wf_RX1_24 rfl (tyX1_ok 5 (by decide)) rfl rfl (Nat.le_of_ble_eq_true rfl) d (x' := (c1, c2, sI M 13 v)) rfl k
theorem gf_RX1_28 (C : CX (wD Z a) Z Ev G cc RX1 dep ret Pq csF) {pc : Nat} (d : decode cc pc = .ok (.getfield 28, 3)) (k : V (wD Z a) Z G cs (pc + 3) lv (.int (gI M 14) :: st) (c1, c2, M)) : V (wD Z a) Z G cs pc lv (.ref (a 5) :: st) (c1, c2, M) := V_get C 5 1 rfl rfl inX1 6 (by decide) wf_RX1_28 rfl d k
theorem pf_RX1_28 (C : CX (wD Z a) Z Ev G cc RX1 dep ret Pq csF) {pc : Nat} {v : Int32} (d : decode cc pc = .ok (.putfield 28, 3)) (k : V (wD Z a) Z G cs (pc + 3) lv st (c1, c2, sI M 14 v)) : V (wD Z a) Z G cs pc lv (.int v :: .ref (a 5) :: st) (c1, c2, M) := V_put C 5 1 (fs := _) rfl rfl inX1 tyX1 tyX1_ok nmX1 6 (by decide) wf_RX1_28 rfl (tyX1_ok 6 (by decide)) rfl rfl (Nat.le_of_ble_eq_true rfl) d (x' := (c1, c2, sI M 14 v)) rfl k
theorem gf_RX1_31 (C : CX (wD Z a) Z Ev G cc RX1 dep ret Pq csF) {pc : Nat} (d : decode cc pc = .ok (.getfield 31, 3)) (k : V (wD Z a) Z G cs (pc + 3) lv (.int (gI M 15) :: st) (c1, c2, M)) : V (wD Z a) Z G cs pc lv (.ref (a 5) :: st) (c1, c2, M) := V_get C 5 1 rfl rfl inX1 7 (by decide) wf_RX1_31 rfl d k
theorem pf_RX1_31 (C : CX (wD Z a) Z Ev G cc RX1 dep ret Pq csF) {pc : Nat} {v : Int32} (d : decode cc pc = .ok (.putfield 31, 3)) (k : V (wD Z a) Z G cs (pc + 3) lv st (c1, c2, sI M 15 v)) : V (wD Z a) Z G cs pc lv (.int v :: .ref (a 5) :: st) (c1, c2, M) := V_put C 5 1 (fs := _) rfl rfl inX1 tyX1 tyX1_ok nmX1 7 (by decide) wf_RX1_31 rfl (tyX1_ok 7 (by decide)) rfl rfl (Nat.le_of_ble_eq_true rfl) d (x' := (c1, c2, sI M 15 v)) rfl k
theorem gf_RX1_34 (C : CX (wD Z a) Z Ev G cc RX1 dep ret Pq csF) {pc : Nat} (d : decode cc pc = .ok (.getfield 34, 3)) (k : V (wD Z a) Z G cs (pc + 3) lv (.int (gI M 16) :: st) (c1, c2, M)) : V (wD Z a) Z G cs pc lv (.ref (a 5) :: st) (c1, c2, M) := V_get C 5 1 rfl rfl inX1 8 (by decide) wf_RX1_34 rfl d k
theorem pf_RX1_34 (C : CX (wD Z a) Z Ev G cc RX1 dep ret Pq csF) {pc : Nat} {v : Int32} (d : decode cc pc = .ok (.putfield 34, 3)) (k : V (wD Z a) Z G cs (pc + 3) lv st (c1, c2, sI M 16 v)) : V (wD Z a) Z G cs pc lv (.int v :: .ref (a 5) :: st) (c1, c2, M) := V_put C 5 1 (fs := _) rfl rfl inX1 tyX1 tyX1_ok nmX1 8 (by decide) wf_RX1_34 rfl (tyX1_ok 8 (by decide)) rfl rfl (Nat.le_of_ble_eq_true rfl) d (x' := (c1, c2, sI M 16 v)) rfl k
theorem gf_RX1_37 (C : CX (wD Z a) Z Ev G cc RX1 dep ret Pq csF) {pc : Nat} (d : decode cc pc = .ok (.getfield 37, 3)) (k : V (wD Z a) Z G cs (pc + 3) lv (.ref (a 2) :: st) (c1, c2, M)) : V (wD Z a) Z G cs pc lv (.ref (a 5) :: st) (c1, c2, M) := V_get C 5 1 rfl rfl inX1 0 (by decide) wf_RX1_37 rfl d k
theorem gf_RX1_96 (C : CX (wD Z a) Z Ev G cc RX1 dep ret Pq csF) {pc : Nat} (d : decode cc pc = .ok (.getfield 96, 3)) (k : V (wD Z a) Z G cs (pc + 3) lv (.int (gI M 2) :: st) (c1, c2, M)) : V (wD Z a) Z G cs pc lv (.ref (a 2) :: st) (c1, c2, M) := V_get C 2 5 rfl rfl inX5 0 (by decide) wf_RX1_96 rfl d k
theorem gf_RX2_9 (C : CX (wD Z a) Z Ev G cc RX2 dep ret Pq csF) {pc : Nat} (d : decode cc pc = .ok (.getfield 9, 3)) (k : V (wD Z a) Z G cs (pc + 3) lv (.ref (a 23) :: st) (c1, c2, M)) : V (wD Z a) Z G cs pc lv (.ref (a 6) :: st) (c1, c2, M) := V_get C 6 2 rfl rfl inX2 2 (by decide) wf_RX2_9 rfl d k
theorem gf_RX2_15 (C : CX (wD Z a) Z Ev G cc RX2 dep ret Pq csF) {pc : Nat} (d : decode cc pc = .ok (.getfield 15, 3)) (k : V (wD Z a) Z G cs (pc + 3) lv (.int (gI M 17) :: st) (c1, c2, M)) : V (wD Z a) Z G cs pc lv (.ref (a 6) :: st) (c1, c2, M) := V_get C 6 2 rfl rfl inX2 3 (by decide) wf_RX2_15 rfl d k
theorem pf_RX2_15 (C : CX (wD Z a) Z Ev G cc RX2 dep ret Pq csF) {pc : Nat} {v : Int32} (d : decode cc pc = .ok (.putfield 15, 3)) (k : V (wD Z a) Z G cs (pc + 3) lv st (c1, c2, sI M 17 v)) : V (wD Z a) Z G cs pc lv (.int v :: .ref (a 6) :: st) (c1, c2, M) := V_put C 6 2 (fs := _) rfl rfl inX2 tyX2 tyX2_ok nmX2 3 (by decide) wf_RX2_15 rfl (tyX2_ok 3 (by decide)) rfl rfl (Nat.le_of_ble_eq_true rfl) d (x' := (c1, c2, sI M 17 v)) rfl k
theorem pf_RX2_19 (C : CX (wD Z a) Z Ev G cc RX2 dep ret Pq csF) {pc : Nat} {v : Int32} (d : decode cc pc = .ok (.putfield 19, 3)) (k : V (wD Z a) Z G cs (pc + 3) lv st (c1, c2, sI M 18 v)) : V (wD Z a) Z G cs pc lv (.int v :: .ref (a 6) :: st) (c1, c2, M) := V_put C 6 2 (fs := _) rfl rfl inX2 tyX2 tyX2_ok nmX2 4 (by decide) wf_RX2_19 rfl (tyX2_ok 4 (by decide)) rfl rfl (Nat.le_of_ble_eq_true rfl) d (x' := (c1, c2, sI M 18 v)) rfl k
theorem gf_RX2_22 (C : CX (wD Z a) Z Ev G cc RX2 dep ret Pq csF) {pc : Nat} (d : decode cc pc = .ok (.getfield 22, 3)) (k : V (wD Z a) Z G cs (pc + 3) lv (.ref (a 2) :: st) (c1, c2, M)) : V (wD Z a) Z G cs pc lv (.ref (a 6) :: st) (c1, c2, M) := V_get C 6 2 rfl rfl inX2 0 (by decide) wf_RX2_22 rfl d k
theorem gf_RX2_26 (C : CX (wD Z a) Z Ev G cc RX2 dep ret Pq csF) {pc : Nat} (d : decode cc pc = .ok (.getfield 26, 3)) (k : V (wD Z a) Z G cs (pc + 3) lv (.ref (a 5) :: st) (c1, c2, M)) : V (wD Z a) Z G cs pc lv (.ref (a 6) :: st) (c1, c2, M) := V_get C 6 2 rfl rfl inX2 1 (by decide) wf_RX2_26 rfl d k
theorem gf_RX3_9 (C : CX (wD Z a) Z Ev G cc RX3 dep ret Pq csF) {pc : Nat} (d : decode cc pc = .ok (.getfield 9, 3)) (k : V (wD Z a) Z G cs (pc + 3) lv (.ref (a 8) :: st) (c1, c2, M)) : V (wD Z a) Z G cs pc lv (.ref (a 1) :: st) (c1, c2, M) := V_get C 1 3 rfl rfl inX3 0 (by decide) wf_RX3_9 rfl d k
theorem gf_RX3_15 (C : CX (wD Z a) Z Ev G cc RX3 dep ret Pq csF) {pc : Nat} (d : decode cc pc = .ok (.getfield 15, 3)) (k : V (wD Z a) Z G cs (pc + 3) lv (.ref (a 9) :: st) (c1, c2, M)) : V (wD Z a) Z G cs pc lv (.ref (a 1) :: st) (c1, c2, M) := V_get C 1 3 rfl rfl inX3 1 (by decide) wf_RX3_15 rfl d k
theorem gf_RX3_18 (C : CX (wD Z a) Z Ev G cc RX3 dep ret Pq csF) {pc : Nat} (d : decode cc pc = .ok (.getfield 18, 3)) (k : V (wD Z a) Z G cs (pc + 3) lv (.ref (a 10) :: st) (c1, c2, M)) : V (wD Z a) Z G cs pc lv (.ref (a 1) :: st) (c1, c2, M) := V_get C 1 3 rfl rfl inX3 2 (by decide) wf_RX3_18 rfl d k
theorem gf_RX4_9 (C : CX (wD Z a) Z Ev G cc RX4 dep ret Pq csF) {pc : Nat} (d : decode cc pc = .ok (.getfield 9, 3)) (k : V (wD Z a) Z G cs (pc + 3) lv (.ref (a 15) :: st) (c1, c2, M)) : V (wD Z a) Z G cs pc lv (.ref (a 3) :: st) (c1, c2, M) := V_get C 3 4 rfl rfl inX4 0 (by decide) wf_RX4_9 rfl d k
theorem gf_RX4_15 (C : CX (wD Z a) Z Ev G cc RX4 dep ret Pq csF) {pc : Nat} (d : decode cc pc = .ok (.getfield 15, 3)) (k : V (wD Z a) Z G cs (pc + 3) lv (.int (gI M 10) :: st) (c1, c2, M)) : V (wD Z a) Z G cs pc lv (.ref (a 3) :: st) (c1, c2, M) := V_get C 3 4 rfl rfl inX4 1 (by decide) wf_RX4_15 rfl d k
theorem pf_RX4_15 (C : CX (wD Z a) Z Ev G cc RX4 dep ret Pq csF) {pc : Nat} {v : Int32} (d : decode cc pc = .ok (.putfield 15, 3)) (k : V (wD Z a) Z G cs (pc + 3) lv st (c1, c2, sI M 10 v)) : V (wD Z a) Z G cs pc lv (.int v :: .ref (a 3) :: st) (c1, c2, M) := V_put C 3 4 (fs := _) rfl rfl inX4 tyX4 tyX4_ok nmX4 1 (by decide) wf_RX4_15 rfl (tyX4_ok 1 (by decide)) rfl rfl (Nat.le_of_ble_eq_true rfl) d (x' := (c1, c2, sI M 10 v)) rfl k
theorem gf_RX4_19 (C : CX (wD Z a) Z Ev G cc RX4 dep ret Pq csF) {pc : Nat} (d : decode cc pc = .ok (.getfield 19, 3)) (k : V (wD Z a) Z G cs (pc + 3) lv (.ref (a 16) :: st) (c1, c2, M)) : V (wD Z a) Z G cs pc lv (.ref (a 3) :: st) (c1, c2, M) := V_get C 3 4 rfl rfl inX4 2 (by decide) wf_RX4_19 rfl d k
theorem gf_RX5_9 (C : CX (wD Z a) Z Ev G cc RX5 dep ret Pq csF) {pc : Nat} (d : decode cc pc = .ok (.getfield 9, 3)) (k : V (wD Z a) Z G cs (pc + 3) lv (.int (gI M 2) :: st) (c1, c2, M)) : V (wD Z a) Z G cs pc lv (.ref (a 2) :: st) (c1, c2, M) := V_get C 2 5 rfl rfl inX5 0 (by decide) wf_RX5_9 rfl d k
theorem pf_RX5_9 (C : CX (wD Z a) Z Ev G cc RX5 dep ret Pq csF) {pc : Nat} {v : Int32} (d : decode cc pc = .ok (.putfield 9, 3)) (k : V (wD Z a) Z G cs (pc + 3) lv st (c1, c2, sI M 2 v)) : V (wD Z a) Z G cs pc lv (.int v :: .ref (a 2) :: st) (c1, c2, M) := V_put C 2 5 (fs := _) rfl rfl inX5 tyX5 tyX5_ok nmX5 0 (by decide) wf_RX5_9 rfl (tyX5_ok 0 (by decide)) rfl rfl (Nat.le_of_ble_eq_true rfl) d (x' := (c1, c2, sI M 2 v)) rfl k
theorem gf_RX5_15 (C : CX (wD Z a) Z Ev G cc RX5 dep ret Pq csF) {pc : Nat} (d : decode cc pc = .ok (.getfield 15, 3)) (k : V (wD Z a) Z G cs (pc + 3) lv (.ref (a 11) :: st) (c1, c2, M)) : V (wD Z a) Z G cs pc lv (.ref (a 2) :: st) (c1, c2, M) := V_get C 2 5 rfl rfl inX5 1 (by decide) wf_RX5_15 rfl d k
theorem gf_RX5_19 (C : CX (wD Z a) Z Ev G cc RX5 dep ret Pq csF) {pc : Nat} (d : decode cc pc = .ok (.getfield 19, 3)) (k : V (wD Z a) Z G cs (pc + 3) lv (.ref (a 12) :: st) (c1, c2, M)) : V (wD Z a) Z G cs pc lv (.ref (a 2) :: st) (c1, c2, M) := V_get C 2 5 rfl rfl inX5 2 (by decide) wf_RX5_19 rfl d k
theorem gf_RX5_22 (C : CX (wD Z a) Z Ev G cc RX5 dep ret Pq csF) {pc : Nat} (d : decode cc pc = .ok (.getfield 22, 3)) (k : V (wD Z a) Z G cs (pc + 3) lv (.ref (a 13) :: st) (c1, c2, M)) : V (wD Z a) Z G cs pc lv (.ref (a 2) :: st) (c1, c2, M) := V_get C 2 5 rfl rfl inX5 3 (by decide) wf_RX5_22 rfl d k
theorem gf_RX5_25 (C : CX (wD Z a) Z Ev G cc RX5 dep ret Pq csF) {pc : Nat} (d : decode cc pc = .ok (.getfield 25, 3)) (k : V (wD Z a) Z G cs (pc + 3) lv (.int (gI M 3) :: st) (c1, c2, M)) : V (wD Z a) Z G cs pc lv (.ref (a 2) :: st) (c1, c2, M) := V_get C 2 5 rfl rfl inX5 4 (by decide) wf_RX5_25 rfl d k
theorem pf_RX5_25 (C : CX (wD Z a) Z Ev G cc RX5 dep ret Pq csF) {pc : Nat} {v : Int32} (d : decode cc pc = .ok (.putfield 25, 3)) (k : V (wD Z a) Z G cs (pc + 3) lv st (c1, c2, sI M 3 v)) : V (wD Z a) Z G cs pc lv (.int v :: .ref (a 2) :: st) (c1, c2, M) := V_put C 2 5 (fs := _) rfl rfl inX5 tyX5 tyX5_ok nmX5 4 (by decide) wf_RX5_25 rfl (tyX5_ok 4 (by decide)) rfl rfl (Nat.le_of_ble_eq_true rfl) d (x' := (c1, c2, sI M 3 v)) rfl k
theorem gf_RX5_28 (C : CX (wD Z a) Z Ev G cc RX5 dep ret Pq csF) {pc : Nat} (d : decode cc pc = .ok (.getfield 28, 3)) (k : V (wD Z a) Z G cs (pc + 3) lv (.int (gI M 4) :: st) (c1, c2, M)) : V (wD Z a) Z G cs pc lv (.ref (a 2) :: st) (c1, c2, M) := V_get C 2 5 rfl rfl inX5 5 (by decide) wf_RX5_28 rfl d k
theorem pf_RX5_28 (C : CX (wD Z a) Z Ev G cc RX5 dep ret Pq csF) {pc : Nat} {v : Int32} (d : decode cc pc = .ok (.putfield 28, 3)) (k : V (wD Z a) Z G cs (pc + 3) lv st (c1, c2, sI M 4 v)) : V (wD Z a) Z G cs pc lv (.int v :: .ref (a 2) :: st) (c1, c2, M) := V_put C 2 5 (fs := _) rfl rfl inX5 tyX5 tyX5_ok nmX5 5 (by decide) wf_RX5_28 rfl (tyX5_ok 5 (by decide)) rfl rfl (Nat.le_of_ble_eq_true rfl) d (x' := (c1, c2, sI M 4 v)) rfl k
theorem gf_RX5_31 (C : CX (wD Z a) Z Ev G cc RX5 dep ret Pq csF) {pc : Nat} (d : decode cc pc = .ok (.getfield 31, 3)) (k : V (wD Z a) Z G cs (pc + 3) lv (.int (gI M 5) :: st) (c1, c2, M)) : V (wD Z a) Z G cs pc lv (.ref (a 2) :: st) (c1, c2, M) := V_get C 2 5 rfl rfl inX5 6 (by decide) wf_RX5_31 rfl d k
theorem pf_RX5_31 (C : CX (wD Z a) Z Ev G cc RX5 dep ret Pq csF) {pc : Nat} {v : Int32} (d : decode cc pc = .ok (.putfield 31, 3)) (k : V (wD Z a) Z G cs (pc + 3) lv st (c1, c2, sI M 5 v)) : V (wD Z a) Z G cs pc lv (.int v :: .ref (a 2) :: st) (c1, c2, M) := V_put C 2 5 (fs := _) rfl rfl inX5 tyX5 tyX5_ok nmX5 6 (by decide) wf_RX5_31 rfl (tyX5_ok 6 (by decide)) rfl rfl (Nat.le_of_ble_eq_true rfl) d (x' := (c1, c2, sI M 5 v)) rfl k
theorem gf_RX5_34 (C : CX (wD Z a) Z Ev G cc RX5 dep ret Pq csF) {pc : Nat} (d : decode cc pc = .ok (.getfield 34, 3)) (k : V (wD Z a) Z G cs (pc + 3) lv (.int (gI M 6) :: st) (c1, c2, M)) : V (wD Z a) Z G cs pc lv (.ref (a 2) :: st) (c1, c2, M) := V_get C 2 5 rfl rfl inX5 7 (by decide) wf_RX5_34 rfl d k
theorem pf_RX5_34 (C : CX (wD Z a) Z Ev G cc RX5 dep ret Pq csF) {pc : Nat} {v : Int32} (d : decode cc pc = .ok (.putfield 34, 3)) (k : V (wD Z a) Z G cs (pc + 3) lv st (c1, c2, sI M 6 v)) : V (wD Z a) Z G cs pc lv (.int v :: .ref (a 2) :: st) (c1, c2, M) := V_put C 2 5 (fs := _) rfl rfl inX5 tyX5 tyX5_ok nmX5 7 (by decide) wf_RX5_34 rfl (tyX5_ok 7 (by decide)) rfl rfl (Nat.le_of_ble_eq_true rfl) d (x' := (c1, c2, sI M 6 v)) rfl k
theorem gf_RX5_37 (C : CX (wD Z a) Z Ev G cc RX5 dep ret Pq csF) {pc : Nat} (d : decode cc pc = .ok (.getfield 37, 3)) (k : V (wD Z a) Z G cs (pc + 3) lv (.int (gI M 7) :: st) (c1, c2, M)) : V (wD Z a) Z G cs pc lv (.ref (a 2) :: st) (c1, c2, M) := V_get C 2 5 rfl rfl inX5 8 (by decide) wf_RX5_37 rfl d k
theorem pf_RX5_37 (C : CX (wD Z a) Z Ev G cc RX5 dep ret Pq csF) {pc : Nat} {v : Int32} (d : decode cc pc = .ok (.putfield 37, 3)) (k : V (wD Z a) Z G cs (pc + 3) lv st (c1, c2, sI M 7 v)) : V (wD Z a) Z G cs pc lv (.int v :: .ref (a 2) :: st) (c1, c2, M) := V_put C 2 5 (fs := _) rfl rfl inX5 tyX5 tyX5_ok nmX5 8 (by decide) wf_RX5_37 rfl (tyX5_ok 8 (by decide)) rfl rfl (Nat.le_of_ble_eq_true rfl) d (x' := (c1, c2, sI M 7 v)) rfl k
theorem gf_RX5_40 (C : CX (wD Z a) Z Ev G cc RX5 dep ret Pq csF) {pc : Nat} (d : decode cc pc = .ok (.getfield 40, 3)) (k : V (wD Z a) Z G cs (pc + 3) lv (.ref (a 14) :: st) (c1, c2, M)) : V (wD Z a) Z G cs pc lv (.ref (a 2) :: st) (c1, c2, M) := V_get C 2 5 rfl rfl inX5 9 (by decide) wf_RX5_40 rfl d k
theorem gf_RX5_43 (C : CX (wD Z a) Z Ev G cc RX5 dep ret Pq csF) {pc : Nat} (d : decode cc pc = .ok (.getfield 43, 3)) (k : V (wD Z a) Z G cs (pc + 3) lv (.int (gI M 8) :: st) (c1, c2, M)) : V (wD Z a) Z G cs pc lv (.ref (a 2) :: st) (c1, c2, M) := V_get C 2 5 rfl rfl inX5 10 (by decide) wf_RX5_43 rfl d k
theorem pf_RX5_43 (C : CX (wD Z a) Z Ev G cc RX5 dep ret Pq csF) {pc : Nat} {v : Int32} (d : decode cc pc = .ok (.putfield 43, 3)) (k : V (wD Z a) Z G cs (pc + 3) lv st (c1, c2, sI M 8 v)) : V (wD Z a) Z G cs pc lv (.int v :: .ref (a 2) :: st) (c1, c2, M) := V_put C 2 5 (fs := _) rfl rfl inX5 tyX5 tyX5_ok nmX5 10 (by decide) wf_RX5_43 rfl (tyX5_ok 10 (by decide)) rfl rfl (Nat.le_of_ble_eq_true rfl) d (x' := (c1, c2, sI M 8 v)) rfl k
theorem gf_RX5_46 (C : CX (wD Z a) Z Ev G cc RX5 dep ret Pq csF) {pc : Nat} (d : decode cc pc = .ok (.getfield 46, 3)) (k : V (wD Z a) Z G cs (pc + 3) lv (.int (gI M 9) :: st) (c1, c2, M)) : V (wD Z a) Z G cs pc lv (.ref (a 2) :: st) (c1, c2, M) := V_get C 2 5 rfl rfl inX5 11 (by decide) wf_RX5_46 rfl d k
theorem pf_RX5_46 (C : CX (wD Z a) Z Ev G cc RX5 dep ret Pq csF) {pc : Nat} {v : Int32} (d : decode cc pc = .ok (.putfield 46, 3)) {fa : Option β} (hf : (if isB v then fa else none) = some o) (k : fa = some o → V (wD Z a) Z G cs (pc + 3) lv st (c1, c2, sI M 9 v)) : V (wD Z a) Z G cs pc lv (.int v :: .ref (a 2) :: st) (c1, c2, M) := V_put C 2 5 (fs := _) rfl rfl inX5 tyX5 tyX5_ok nmX5 11 (by decide) wf_RX5_46 rfl (tyX5_ok 11 (by decide)) (nar_z (bgd hf).1) (fit_z (bgd hf).1) (Nat.le_of_ble_eq_true rfl) d (x' := (c1, c2, sI M 9 v)) rfl (k (bgd hf).2)
theorem gf_RX6_12 (C : CX (wD Z a) Z Ev G cc RX6 dep ret Pq csF) {pc : Nat} (d : decode cc pc = .ok (.getfield 12, 3)) (k : V (wD Z a) Z G cs (pc + 3) lv (.ref (a 1) :: st) (c1, c2, M)) : V (wD Z a) Z G cs pc lv (.ref (a 0) :: st) (c1, c2, M) := V_get C 0 6 rfl rfl inX6 0 (by decide) wf_RX6_12 rfl d k
theorem gf_RX6_19 (C : CX (wD Z a) Z Ev G cc RX6 dep ret Pq csF) {pc : Nat} (d : decode cc pc = .ok (.getfield 19, 3)) (k : V (wD Z a) Z G cs (pc + 3) lv (.ref (a 2) :: st) (c1, c2, M)) : V (wD Z a) Z G cs pc lv (.ref (a 0) :: st) (c1, c2, M) := V_get C 0 6 rfl rfl inX6 1 (by decide) wf_RX6_19 rfl d k
theorem gf_RX6_26 (C : CX (wD Z a) Z Ev G cc RX6 dep ret Pq csF) {pc : Nat} (d : decode cc pc = .ok (.getfield 26, 3)) (k : V (wD Z a) Z G cs (pc + 3) lv (.ref (a 3) :: st) (c1, c2, M)) : V (wD Z a) Z G cs pc lv (.ref (a 0) :: st) (c1, c2, M) := V_get C 0 6 rfl rfl inX6 2 (by decide) wf_RX6_26 rfl d k
theorem gf_RX6_33 (C : CX (wD Z a) Z Ev G cc RX6 dep ret Pq csF) {pc : Nat} (d : decode cc pc = .ok (.getfield 33, 3)) (k : V (wD Z a) Z G cs (pc + 3) lv (.ref (a 4) :: st) (c1, c2, M)) : V (wD Z a) Z G cs pc lv (.ref (a 0) :: st) (c1, c2, M) := V_get C 0 6 rfl rfl inX6 3 (by decide) wf_RX6_33 rfl d k
theorem gf_RX6_42 (C : CX (wD Z a) Z Ev G cc RX6 dep ret Pq csF) {pc : Nat} (d : decode cc pc = .ok (.getfield 42, 3)) (k : V (wD Z a) Z G cs (pc + 3) lv (.ref (a 5) :: st) (c1, c2, M)) : V (wD Z a) Z G cs pc lv (.ref (a 0) :: st) (c1, c2, M) := V_get C 0 6 rfl rfl inX6 4 (by decide) wf_RX6_42 rfl d k
theorem gf_RX6_51 (C : CX (wD Z a) Z Ev G cc RX6 dep ret Pq csF) {pc : Nat} (d : decode cc pc = .ok (.getfield 51, 3)) (k : V (wD Z a) Z G cs (pc + 3) lv (.ref (a 6) :: st) (c1, c2, M)) : V (wD Z a) Z G cs pc lv (.ref (a 0) :: st) (c1, c2, M) := V_get C 0 6 rfl rfl inX6 5 (by decide) wf_RX6_51 rfl d k
theorem gf_RX6_55 (C : CX (wD Z a) Z Ev G cc RX6 dep ret Pq csF) {pc : Nat} (d : decode cc pc = .ok (.getfield 55, 3)) (k : V (wD Z a) Z G cs (pc + 3) lv (.ref (a 7) :: st) (c1, c2, M)) : V (wD Z a) Z G cs pc lv (.ref (a 0) :: st) (c1, c2, M) := V_get C 0 6 rfl rfl inX6 6 (by decide) wf_RX6_55 rfl d k
theorem gf_RX6_59 (C : CX (wD Z a) Z Ev G cc RX6 dep ret Pq csF) {pc : Nat} (d : decode cc pc = .ok (.getfield 59, 3)) (k : V (wD Z a) Z G cs (pc + 3) lv (.int (gI M 0) :: st) (c1, c2, M)) : V (wD Z a) Z G cs pc lv (.ref (a 0) :: st) (c1, c2, M) := V_get C 0 6 rfl rfl inX6 7 (by decide) wf_RX6_59 rfl d k
theorem pf_RX6_59 (C : CX (wD Z a) Z Ev G cc RX6 dep ret Pq csF) {pc : Nat} {v : Int32} (d : decode cc pc = .ok (.putfield 59, 3)) (k : V (wD Z a) Z G cs (pc + 3) lv st (c1, c2, sI M 0 v)) : V (wD Z a) Z G cs pc lv (.int v :: .ref (a 0) :: st) (c1, c2, M) := V_put C 0 6 (fs := _) rfl rfl inX6 tyX6 tyX6_ok nmX6 7 (by decide) wf_RX6_59 rfl (tyX6_ok 7 (by decide)) rfl rfl (Nat.le_of_ble_eq_true rfl) d (x' := (c1, c2, sI M 0 v)) rfl k
theorem gf_RX6_63 (C : CX (wD Z a) Z Ev G cc RX6 dep ret Pq csF) {pc : Nat} (d : decode cc pc = .ok (.getfield 63, 3)) (k : V (wD Z a) Z G cs (pc + 3) lv (.int (gI M 1) :: st) (c1, c2, M)) : V (wD Z a) Z G cs pc lv (.ref (a 0) :: st) (c1, c2, M) := V_get C 0 6 rfl rfl inX6 8 (by decide) wf_RX6_63 rfl d k
theorem pf_RX6_63 (C : CX (wD Z a) Z Ev G cc RX6 dep ret Pq csF) {pc : Nat} {v : Int32} (d : decode cc pc = .ok (.putfield 63, 3)) (k : V (wD Z a) Z G cs (pc + 3) lv st (c1, c2, sI M 1 v)) : V (wD Z a) Z G cs pc lv (.int v :: .ref (a 0) :: st) (c1, c2, M) := V_put C 0 6 (fs := _) rfl rfl inX6 tyX6 tyX6_ok nmX6 8 (by decide) wf_RX6_63 rfl (tyX6_ok 8 (by decide)) rfl rfl (Nat.le_of_ble_eq_true rfl) d (x' := (c1, c2, sI M 1 v)) rfl k
theorem gf_RX6_80 (C : CX (wD Z a) Z Ev G cc RX6 dep ret Pq csF) {pc : Nat} (d : decode cc pc = .ok (.getfield 80, 3)) (k : V (wD Z a) Z G cs (pc + 3) lv (.int (gI M 2) :: st) (c1, c2, M)) : V (wD Z a) Z G cs pc lv (.ref (a 2) :: st) (c1, c2, M) := V_get C 2 5 rfl rfl inX5 0 (by decide) wf_RX6_80 rfl d k
theorem gf_RX6_117 (C : CX (wD Z a) Z Ev G cc RX6 dep ret Pq csF) {pc : Nat} (d : decode cc pc = .ok (.getfield 117, 3)) (k : V (wD Z a) Z G cs (pc + 3) lv (.ref (a 12) :: st) (c1, c2, M)) : V (wD Z a) Z G cs pc lv (.ref (a 2) :: st) (c1, c2, M) := V_get C 2 5 rfl rfl inX5 2 (by decide) wf_RX6_117 rfl d k
theorem gf_RX6_131 (C : CX (wD Z a) Z Ev G cc RX6 dep ret Pq csF) {pc : Nat} (d : decode cc pc = .ok (.getfield 131, 3)) (k : V (wD Z a) Z G cs (pc + 3) lv (.ref (a 9) :: st) (c1, c2, M)) : V (wD Z a) Z G cs pc lv (.ref (a 1) :: st) (c1, c2, M) := V_get C 1 3 rfl rfl inX3 1 (by decide) wf_RX6_131 rfl d k
theorem gf_RX6_134 (C : CX (wD Z a) Z Ev G cc RX6 dep ret Pq csF) {pc : Nat} (d : decode cc pc = .ok (.getfield 134, 3)) (k : V (wD Z a) Z G cs (pc + 3) lv (.int (gI M 10) :: st) (c1, c2, M)) : V (wD Z a) Z G cs pc lv (.ref (a 3) :: st) (c1, c2, M) := V_get C 3 4 rfl rfl inX4 1 (by decide) wf_RX6_134 rfl d k
theorem gf_RX6_137 (C : CX (wD Z a) Z Ev G cc RX6 dep ret Pq csF) {pc : Nat} (d : decode cc pc = .ok (.getfield 137, 3)) (k : V (wD Z a) Z G cs (pc + 3) lv (.ref (a 15) :: st) (c1, c2, M)) : V (wD Z a) Z G cs pc lv (.ref (a 3) :: st) (c1, c2, M) := V_get C 3 4 rfl rfl inX4 0 (by decide) wf_RX6_137 rfl d k
theorem gf_RX6_145 (C : CX (wD Z a) Z Ev G cc RX6 dep ret Pq csF) {pc : Nat} (d : decode cc pc = .ok (.getfield 145, 3)) (k : V (wD Z a) Z G cs (pc + 3) lv (.int (gI M 7) :: st) (c1, c2, M)) : V (wD Z a) Z G cs pc lv (.ref (a 2) :: st) (c1, c2, M) := V_get C 2 5 rfl rfl inX5 8 (by decide) wf_RX6_145 rfl d k
theorem gf_RX6_154 (C : CX (wD Z a) Z Ev G cc RX6 dep ret Pq csF) {pc : Nat} (d : decode cc pc = .ok (.getfield 154, 3)) (k : V (wD Z a) Z G cs (pc + 3) lv (.int (gI M 9) :: st) (c1, c2, M)) : V (wD Z a) Z G cs pc lv (.ref (a 2) :: st) (c1, c2, M) := V_get C 2 5 rfl rfl inX5 11 (by decide) wf_RX6_154 rfl d k
theorem pf_RX6_154 (C : CX (wD Z a) Z Ev G cc RX6 dep ret Pq csF) {pc : Nat} {v : Int32} (d : decode cc pc = .ok (.putfield 154, 3)) {fa : Option β} (hf : (if isB v then fa else none) = some o) (k : fa = some o → V (wD Z a) Z G cs (pc + 3) lv st (c1, c2, sI M 9 v)) : V (wD Z a) Z G cs pc lv (.int v :: .ref (a 2) :: st) (c1, c2, M) := V_put C 2 5 (fs := _) rfl rfl inX5 tyX5 tyX5_ok nmX5 11 (by decide) wf_RX6_154 rfl (tyX5_ok 11 (by decide)) (nar_z (bgd hf).1) (fit_z (bgd hf).1) (Nat.le_of_ble_eq_true rfl) d (x' := (c1, c2, sI M 9 v)) rfl (k (bgd hf).2)
theorem gf_RX6_179 (C : CX (wD Z a) Z Ev G cc RX6 dep ret Pq csF) {pc : Nat} (d : decode cc pc = .ok (.getfield 179, 3)) (k : V (wD Z a) Z G cs (pc + 3) lv (.int (gI M 11) :: st) (c1, c2, M)) : V (wD Z a) Z G cs pc lv (.ref (a 4) :: st) (c1, c2, M) := V_get C 4 0 rfl rfl inX0 0 (by decide) wf_RX6_179 rfl d k
theorem gf_RX6_191 (C : CX (wD Z a) Z Ev G cc RX6 dep ret Pq csF) {pc : Nat} (d : decode cc pc = .ok (.getfield 191, 3)) (k : V (wD Z a) Z G cs (pc + 3) lv (.ref (a 11) :: st) (c1, c2, M)) : V (wD Z a) Z G cs pc lv (.ref (a 2) :: st) (c1, c2, M) := V_get C 2 5 rfl rfl inX5 1 (by decide) wf_RX6_191 rfl d k
theorem gf_RX6_197 (C : CX (wD Z a) Z Ev G cc RX6 dep ret Pq csF) {pc : Nat} (d : decode cc pc = .ok (.getfield 197, 3)) (k : V (wD Z a) Z G cs (pc + 3) lv (.ref (a 8) :: st) (c1, c2, M)) : V (wD Z a) Z G cs pc lv (.ref (a 1) :: st) (c1, c2, M) := V_get C 1 3 rfl rfl inX3 0 (by decide) wf_RX6_197 rfl d k
theorem gf_RX6_205 (C : CX (wD Z a) Z Ev G cc RX6 dep ret Pq csF) {pc : Nat} (d : decode cc pc = .ok (.getfield 205, 3)) (k : V (wD Z a) Z G cs (pc + 3) lv (.int (gI M 17) :: st) (c1, c2, M)) : V (wD Z a) Z G cs pc lv (.ref (a 6) :: st) (c1, c2, M) := V_get C 6 2 rfl rfl inX2 3 (by decide) wf_RX6_205 rfl d k
theorem gf_RX6_229 (C : CX (wD Z a) Z Ev G cc RX6 dep ret Pq csF) {pc : Nat} (d : decode cc pc = .ok (.getfield 229, 3)) (k : V (wD Z a) Z G cs (pc + 3) lv (.ref (a 23) :: st) (c1, c2, M)) : V (wD Z a) Z G cs pc lv (.ref (a 6) :: st) (c1, c2, M) := V_get C 6 2 rfl rfl inX2 2 (by decide) wf_RX6_229 rfl d k
theorem gf_RX6_239 (C : CX (wD Z a) Z Ev G cc RX6 dep ret Pq csF) {pc : Nat} (d : decode cc pc = .ok (.getfield 239, 3)) (k : V (wD Z a) Z G cs (pc + 3) lv (.int (gI M 18) :: st) (c1, c2, M)) : V (wD Z a) Z G cs pc lv (.ref (a 6) :: st) (c1, c2, M) := V_get C 6 2 rfl rfl inX2 4 (by decide) wf_RX6_239 rfl d k
theorem gf_RX7_9 (C : CX (wM Z a) Z Ev G cc RX7 dep ret Pq csF) {pc : Nat} (d : decode cc pc = .ok (.getfield 9, 3)) (k : V (wM Z a) Z G cs (pc + 3) lv (.ref (a 1) :: st) (c1, c2, M)) : V (wM Z a) Z G cs pc lv (.ref (a 0) :: st) (c1, c2, M) := V_get C 0 7 rfl rfl inX7 1 (by decide) wf_RX7_9 rfl d k
theorem gf_RX7_13 (C : CX (wM Z a) Z Ev G cc RX7 dep ret Pq csF) {pc : Nat} (d : decode cc pc = .ok (.getfield 13, 3)) (k : V (wM Z a) Z G cs (pc + 3) lv (.ref (a 2) :: st) (c1, c2, M)) : V (wM Z a) Z G cs pc lv (.ref (a 0) :: st) (c1, c2, M) := V_get C 0 7 rfl rfl inX7 2 (by decide) wf_RX7_13 rfl d k
theorem gf_RX7_16 (C : CX (wM Z a) Z Ev G cc RX7 dep ret Pq csF) {pc : Nat} (d : decode cc pc = .ok (.getfield 16, 3)) (k : V (wM Z a) Z G cs (pc + 3) lv (.ref (a 3) :: st) (c1, c2, M)) : V (wM Z a) Z G cs pc lv (.ref (a 0) :: st) (c1, c2, M) := V_get C 0 7 rfl rfl inX7 3 (by decide) wf_RX7_16 rfl d k
theorem gf_RX7_19 (C : CX (wM Z a) Z Ev G cc RX7 dep ret Pq csF) {pc : Nat} (d : decode cc pc = .ok (.getfield 19, 3)) (k : V (wM Z a) Z G cs (pc + 3) lv (.ref (a 4) :: st) (c1, c2, M)) : V (wM Z a) Z G cs pc lv (.ref (a 0) :: st) (c1, c2, M) := V_get C 0 7 rfl rfl inX7 4 (by decide) wf_RX7_19 rfl d k
theorem gf_RX7_22 (C : CX (wM Z a) Z Ev G cc RX7 dep ret Pq csF) {pc : Nat} (d : decode cc pc = .ok (.getfield 22, 3)) (k : V (wM Z a) Z G cs (pc + 3) lv (.ref (a 5) :: st) (c1, c2, M)) : V (wM Z a) Z G cs pc lv (.ref (a 0) :: st) (c1, c2, M) := V_get C 0 7 rfl rfl inX7 5 (by decide) wf_RX7_22 rfl d k
theorem gf_RX7_25 (C : CX (wM Z a) Z Ev G cc RX7 dep ret Pq csF) {pc : Nat} (d : decode cc pc = .ok (.getfield 25, 3)) (k : V (wM Z a) Z G cs (pc + 3) lv (.int (gI M 1) :: st) (c1, c2, M)) : V (wM Z a) Z G cs pc lv (.ref (a 0) :: st) (c1, c2, M) := V_get C 0 7 rfl rfl inX7 6 (by decide) wf_RX7_25 rfl d k
theorem pf_RX7_25 (C : CX (wM Z a) Z Ev G cc RX7 dep ret Pq csF) {pc : Nat} {v : Int32} (d : decode cc pc = .ok (.putfield 25, 3)) (k : V (wM Z a) Z G cs (pc + 3) lv st (c1, c2, sI M 1 v)) : V (wM Z a) Z G cs pc lv (.int v :: .ref (a 0) :: st) (c1, c2, M) := V_put C 0 7 (fs := _) rfl rfl inX7 tyX7 tyX7_ok nmX7 6 (by decide) wf_RX7_25 rfl (tyX7_ok 6 (by decide)) rfl rfl (Nat.le_of_ble_eq_true rfl) d (x' := (c1, c2, sI M 1 v)) rfl k
theorem gf_RX7_29 (C : CX (wM Z a) Z Ev G cc RX7 dep ret Pq csF) {pc : Nat} (d : decode cc pc = .ok (.getfield 29, 3)) (k : V (wM Z a) Z G cs (pc + 3) lv (.ref (a 6) :: st) (c1, c2, M)) : V (wM Z a) Z G cs pc lv (.ref (a 0) :: st) (c1, c2, M) := V_get C 0 7 rfl rfl inX7 10 (by decide) wf_RX7_29 rfl d k
theorem gf_RX7_32 (C : CX (wM Z a) Z Ev G cc RX7 dep ret Pq csF) {pc : Nat} (d : decode cc pc = .ok (.getfield 32, 3)) (k : V (wM Z a) Z G cs (pc + 3) lv (.ref (a 7) :: st) (c1, c2, M)) : V (wM Z a) Z G cs pc lv (.ref (a 0) :: st) (c1, c2, M) := V_get C 0 7 rfl rfl inX7 12 (by decide) wf_RX7_32 rfl d k
theorem gf_RX7_36 (C : CX (wM Z a) Z Ev G cc RX7 dep ret Pq csF) {pc : Nat} (d : decode cc pc = .ok (.getfield 36, 3)) (k : V (wM Z a) Z G cs (pc + 3) lv (.ref (a 8) :: st) (c1, c2, M)) : V (wM Z a) Z G cs pc lv (.ref (a 0) :: st) (c1, c2, M) := V_get C 0 7 rfl rfl inX7 14 (by decide) wf_RX7_36 rfl d k
theorem gf_RX7_39 (C : CX (wM Z a) Z Ev G cc RX7 dep ret Pq csF) {pc : Nat} (d : decode cc pc = .ok (.getfield 39, 3)) (k : V (wM Z a) Z G cs (pc + 3) lv (.ref (a 9) :: st) (c1, c2, M)) : V (wM Z a) Z G cs pc lv (.ref (a 0) :: st) (c1, c2, M) := V_get C 0 7 rfl rfl inX7 15 (by decide) wf_RX7_39 rfl d k
theorem gf_RX7_42 (C : CX (wM Z a) Z Ev G cc RX7 dep ret Pq csF) {pc : Nat} (d : decode cc pc = .ok (.getfield 42, 3)) (k : V (wM Z a) Z G cs (pc + 3) lv (.ref (a 10) :: st) (c1, c2, M)) : V (wM Z a) Z G cs pc lv (.ref (a 0) :: st) (c1, c2, M) := V_get C 0 7 rfl rfl inX7 16 (by decide) wf_RX7_42 rfl d k
theorem gf_RX7_45 (C : CX (wM Z a) Z Ev G cc RX7 dep ret Pq csF) {pc : Nat} (d : decode cc pc = .ok (.getfield 45, 3)) (k : V (wM Z a) Z G cs (pc + 3) lv (.ref (a 11) :: st) (c1, c2, M)) : V (wM Z a) Z G cs pc lv (.ref (a 0) :: st) (c1, c2, M) := V_get C 0 7 rfl rfl inX7 18 (by decide) wf_RX7_45 rfl d k
theorem gf_RX7_48 (C : CX (wM Z a) Z Ev G cc RX7 dep ret Pq csF) {pc : Nat} (d : decode cc pc = .ok (.getfield 48, 3)) (k : V (wM Z a) Z G cs (pc + 3) lv (.int (gI M 8) :: st) (c1, c2, M)) : V (wM Z a) Z G cs pc lv (.ref (a 0) :: st) (c1, c2, M) := V_get C 0 7 rfl rfl inX7 19 (by decide) wf_RX7_48 rfl d k
theorem pf_RX7_48 (C : CX (wM Z a) Z Ev G cc RX7 dep ret Pq csF) {pc : Nat} {v : Int32} (d : decode cc pc = .ok (.putfield 48, 3)) (k : V (wM Z a) Z G cs (pc + 3) lv st (c1, c2, sI M 8 v)) : V (wM Z a) Z G cs pc lv (.int v :: .ref (a 0) :: st) (c1, c2, M) := V_put C 0 7 (fs := _) rfl rfl inX7 tyX7 tyX7_ok nmX7 19 (by decide) wf_RX7_48 rfl (tyX7_ok 19 (by decide)) rfl rfl (Nat.le_of_ble_eq_true rfl) d (x' := (c1, c2, sI M 8 v)) rfl k
theorem gf_RX7_51 (C : CX (wM Z a) Z Ev G cc RX7 dep ret Pq csF) {pc : Nat} (d : decode cc pc = .ok (.getfield 51, 3)) (k : V (wM Z a) Z G cs (pc + 3) lv (.ref (a 12) :: st) (c1, c2, M)) : V (wM Z a) Z G cs pc lv (.ref (a 0) :: st) (c1, c2, M) := V_get C 0 7 rfl rfl inX7 20 (by decide) wf_RX7_51 rfl d k
theorem gf_RX7_55 (C : CX (wM Z a) Z Ev G cc RX7 dep ret Pq csF) {pc : Nat} (d : decode cc pc = .ok (.getfield 55, 3)) (k : V (wM Z a) Z G cs (pc + 3) lv (.ref (a 13) :: st) (c1, c2, M)) : V (wM Z a) Z G cs pc lv (.ref (a 0) :: st) (c1, c2, M) := V_get C 0 7 rfl rfl inX7 21 (by decide) wf_RX7_55 rfl d k
theorem gf_RX7_58 (C : CX (wM Z a) Z Ev G cc RX7 dep ret Pq csF) {pc : Nat} (d : decode cc pc = .ok (.getfield 58, 3)) (k : V (wM Z a) Z G cs (pc + 3) lv (.ref (a 14) :: st) (c1, c2, M)) : V (wM Z a) Z G cs pc lv (.ref (a 0) :: st) (c1, c2, M) := V_get C 0 7 rfl rfl inX7 22 (by decide) wf_RX7_58 rfl d k
theorem gf_RX7_61 (C : CX (wM Z a) Z Ev G cc RX7 dep ret Pq csF) {pc : Nat} (d : decode cc pc = .ok (.getfield 61, 3)) (k : V (wM Z a) Z G cs (pc + 3) lv (.ref (a 15) :: st) (c1, c2, M)) : V (wM Z a) Z G cs pc lv (.ref (a 0) :: st) (c1, c2, M) := V_get C 0 7 rfl rfl inX7 23 (by decide) wf_RX7_61 rfl d k
theorem gf_RX7_64 (C : CX (wM Z a) Z Ev G cc RX7 dep ret Pq csF) {pc : Nat} (d : decode cc pc = .ok (.getfield 64, 3)) (k : V (wM Z a) Z G cs (pc + 3) lv (.ref (a 16) :: st) (c1, c2, M)) : V (wM Z a) Z G cs pc lv (.ref (a 0) :: st) (c1, c2, M) := V_get C 0 7 rfl rfl inX7 24 (by decide) wf_RX7_64 rfl d k
theorem gf_RX7_67 (C : CX (wM Z a) Z Ev G cc RX7 dep ret Pq csF) {pc : Nat} (d : decode cc pc = .ok (.getfield 67, 3)) (k : V (wM Z a) Z G cs (pc + 3) lv (.ref (a 17) :: st) (c1, c2, M)) : V (wM Z a) Z G cs pc lv (.ref (a 0) :: st) (c1, c2, M) := V_get C 0 7 rfl rfl inX7 25 (by decide) wf_RX7_67 rfl d k
theorem gf_RX7_70 (C : CX (wM Z a) Z Ev G cc RX7 dep ret Pq csF) {pc : Nat} (d : decode cc pc = .ok (.getfield 70, 3)) (k : V (wM Z a) Z G cs (pc + 3) lv (.ref (a 18) :: st) (c1, c2, M)) : V (wM Z a) Z G cs pc lv (.ref (a 0) :: st) (c1, c2, M) := V_get C 0 7 rfl rfl inX7 26 (by decide) wf_RX7_70 rfl d k
theorem gf_RX7_73 (C : CX (wM Z a) Z Ev G cc RX7 dep ret Pq csF) {pc : Nat} (d : decode cc pc = .ok (.getfield 73, 3)) (k : V (wM Z a) Z G cs (pc + 3) lv (.int (gI M 0) :: st) (c1, c2, M)) : V (wM Z a) Z G cs pc lv (.ref (a 0) :: st) (c1, c2, M) := V_get C 0 7 rfl rfl inX7 0 (by decide) wf_RX7_73 rfl d k
theorem pf_RX7_73 (C : CX (wM Z a) Z Ev G cc RX7 dep ret Pq csF) {pc : Nat} {v : Int32} (d : decode cc pc = .ok (.putfield 73, 3)) (k : V (wM Z a) Z G cs (pc + 3) lv st (c1, c2, sI M 0 v)) : V (wM Z a) Z G cs pc lv (.int v :: .ref (a 0) :: st) (c1, c2, M) := V_put C 0 7 (fs := _) rfl rfl inX7 tyX7 tyX7_ok nmX7 0 (by decide) wf_RX7_73 rfl (tyX7_ok 0 (by decide)) rfl rfl (Nat.le_of_ble_eq_true rfl) d (x' := (c1, c2, sI M 0 v)) rfl k
theorem gf_RX7_92 (C : CX (wM Z a) Z Ev G cc RX7 dep ret Pq csF) {pc : Nat} (d : decode cc pc = .ok (.getfield 92, 3)) (k : V (wM Z a) Z G cs (pc + 3) lv (.int (gI M 6) :: st) (c1, c2, M)) : V (wM Z a) Z G cs pc lv (.ref (a 0) :: st) (c1, c2, M) := V_get C 0 7 rfl rfl inX7 13 (by decide) wf_RX7_92 rfl d k
theorem pf_RX7_92 (C : CX (wM Z a) Z Ev G cc RX7 dep ret Pq csF) {pc : Nat} {v : Int32} (d : decode cc pc = .ok (.putfield 92, 3)) (k : V (wM Z a) Z G cs (pc + 3) lv st (c1, c2, sI M 6 v)) : V (wM Z a) Z G cs pc lv (.int v :: .ref (a 0) :: st) (c1, c2, M) := V_put C 0 7 (fs := _) rfl rfl inX7 tyX7 tyX7_ok nmX7 13 (by decide) wf_RX7_92 rfl (tyX7_ok 13 (by decide)) rfl rfl (Nat.le_of_ble_eq_true rfl) d (x' := (c1, c2, sI M 6 v)) rfl k
theorem gf_RX7_95 (C : CX (wM Z a) Z Ev G cc RX7 dep ret Pq csF) {pc : Nat} (d : decode cc pc = .ok (.getfield 95, 3)) (k : V (wM Z a) Z G cs (pc + 3) lv (.int (gI M 2) :: st) (c1, c2, M)) : V (wM Z a) Z G cs pc lv (.ref (a 0) :: st) (c1, c2, M) := V_get C 0 7 rfl rfl inX7 7 (by decide) wf_RX7_95 rfl d k
theorem pf_RX7_95 (C : CX (wM Z a) Z Ev G cc RX7 dep ret Pq csF) {pc : Nat} {v : Int32} (d : decode cc pc = .ok (.putfield 95, 3)) (k : V (wM Z a) Z G cs (pc + 3) lv st (c1, c2, sI M 2 v)) : V (wM Z a) Z G cs pc lv (.int v :: .ref (a 0) :: st) (c1, c2, M) := V_put C 0 7 (fs := _) rfl rfl inX7 tyX7 tyX7_ok nmX7 7 (by decide) wf_RX7_95 rfl (tyX7_ok 7 (by decide)) rfl rfl (Nat.le_of_ble_eq_true rfl) d (x' := (c1, c2, sI M 2 v)) rfl k
theorem gf_RX7_98 (C : CX (wM Z a) Z Ev G cc RX7 dep ret Pq csF) {pc : Nat} (d : decode cc pc = .ok (.getfield 98, 3)) (k : V (wM Z a) Z G cs (pc + 3) lv (.int (gI M 3) :: st) (c1, c2, M)) : V (wM Z a) Z G cs pc lv (.ref (a 0) :: st) (c1, c2, M) := V_get C 0 7 rfl rfl inX7 8 (by decide) wf_RX7_98 rfl d k
theorem pf_RX7_98 (C : CX (wM Z a) Z Ev G cc RX7 dep ret Pq csF) {pc : Nat} {v : Int32} (d : decode cc pc = .ok (.putfield 98, 3)) (k : V (wM Z a) Z G cs (pc + 3) lv st (c1, c2, sI M 3 v)) : V (wM Z a) Z G cs pc lv (.int v :: .ref (a 0) :: st) (c1, c2, M) := V_put C 0 7 (fs := _) rfl rfl inX7 tyX7 tyX7_ok nmX7 8 (by decide) wf_RX7_98 rfl (tyX7_ok 8 (by decide)) rfl rfl (Nat.le_of_ble_eq_true rfl) d (x' := (c1, c2, sI M 3 v)) rfl k
theorem gf_RX7_108 (C : CX (wM Z a) Z Ev G cc RX7 dep ret Pq csF) {pc : Nat} (d : decode cc pc = .ok (.getfield 108, 3)) (k : V (wM Z a) Z G cs (pc + 3) lv (.int (gI M 7) :: st) (c1, c2, M)) : V (wM Z a) Z G cs pc lv (.ref (a 0) :: st) (c1, c2, M) := V_get C 0 7 rfl rfl inX7 17 (by decide) wf_RX7_108 rfl d k
theorem pf_RX7_108 (C : CX (wM Z a) Z Ev G cc RX7 dep ret Pq csF) {pc : Nat} {v : Int32} (d : decode cc pc = .ok (.putfield 108, 3)) (k : V (wM Z a) Z G cs (pc + 3) lv st (c1, c2, sI M 7 v)) : V (wM Z a) Z G cs pc lv (.int v :: .ref (a 0) :: st) (c1, c2, M) := V_put C 0 7 (fs := _) rfl rfl inX7 tyX7 tyX7_ok nmX7 17 (by decide) wf_RX7_108 rfl (tyX7_ok 17 (by decide)) rfl rfl (Nat.le_of_ble_eq_true rfl) d (x' := (c1, c2, sI M 7 v)) rfl k
theorem gf_RX7_119 (C : CX (wM Z a) Z Ev G cc RX7 dep ret Pq csF) {pc : Nat} (d : decode cc pc = .ok (.getfield 119, 3)) (k : V (wM Z a) Z G cs (pc + 3) lv (.int (gI M 4) :: st) (c1, c2, M)) : V (wM Z a) Z G cs pc lv (.ref (a 0) :: st) (c1, c2, M) := V_get C 0 7 rfl rfl inX7 9 (by decide) wf_RX7_119 rfl d k
theorem pf_RX7_119 (C : CX (wM Z a) Z Ev G cc RX7 dep ret Pq csF) {pc : Nat} {v : Int32} (d : decode cc pc = .ok (.putfield 119, 3)) (k : V (wM Z a) Z G cs (pc + 3) lv st (c1, c2, sI M 4 v)) : V (wM Z a) Z G cs pc lv (.int v :: .ref (a 0) :: st) (c1, c2, M) := V_put C 0 7 (fs := _) rfl rfl inX7 tyX7 tyX7_ok nmX7 9 (by decide) wf_RX7_119 rfl (tyX7_ok 9 (by decide)) rfl rfl (Nat.le_of_ble_eq_true rfl) d (x' := (c1, c2, sI M 4 v)) rfl k
theorem gf_RX7_122 (C : CX (wM Z a) Z Ev G cc RX7 dep ret Pq csF) {pc : Nat} (d : decode cc pc = .ok (.getfield 122, 3)) (k : V (wM Z a) Z G cs (pc + 3) lv (.int (gI M 5) :: st) (c1, c2, M)) : V (wM Z a) Z G cs pc lv (.ref (a 0) :: st) (c1, c2, M) := V_get C 0 7 rfl rfl inX7 11 (by decide) wf_RX7_122 rfl d k
theorem pf_RX7_122 (C : CX (wM Z a) Z Ev G cc RX7 dep ret Pq csF) {pc : Nat} {v : Int32} (d : decode cc pc = .ok (.putfield 122, 3)) {fa : Option β} (hf : (if isB v then fa else none) = some o) (k : fa = some o → V (wM Z a) Z G cs (pc + 3) lv st (c1, c2, sI M 5 v)) : V (wM Z a) Z G cs pc lv (.int v :: .ref (a 0) :: st) (c1, c2, M) := V_put C 0 7 (fs := _) rfl rfl inX7 tyX7 tyX7_ok nmX7 11 (by decide) wf_RX7_122 rfl (tyX7_ok 11 (by decide)) (nar_z (bgd hf).1) (fit_z (bgd hf).1) (Nat.le_of_ble_eq_true rfl) d (x' := (c1, c2, sI M 5 v)) rfl (k (bgd hf).2)
theorem gf_RX7_166 (C : CX (wM Z a) Z Ev G cc RX7 dep ret Pq csF) {pc : Nat} (d : decode cc pc = .ok (.getfield 166, 3)) (k : V (wM Z a) Z G cs (pc + 3) lv (.int (gI M 9) :: st) (c1, c2, M)) : V (wM Z a) Z G cs pc lv (.ref (a 0) :: st) (c1, c2, M) := V_get C 0 7 rfl rfl inX7 27 (by decide) wf_RX7_166 rfl d k
theorem pf_RX7_166 (C : CX (wM Z a) Z Ev G cc RX7 dep ret Pq csF) {pc : Nat} {v : Int32} (d : decode cc pc = .ok (.putfield 166, 3)) (k : V (wM Z a) Z G cs (pc + 3) lv st (c1, c2, sI M 9 v)) : V (wM Z a) Z G cs pc lv (.int v :: .ref (a 0) :: st) (c1, c2, M) := V_put C 0 7 (fs := _) rfl rfl inX7 tyX7 tyX7_ok nmX7 27 (by decide) wf_RX7_166 rfl (tyX7_ok 27 (by decide)) rfl rfl (Nat.le_of_ble_eq_true rfl) d (x' := (c1, c2, sI M 9 v)) rfl k
theorem alD_7 {ow : String} (C : CX (wD Z a) Z Ev G cc ow dep ret Pq csF) {pc : Nat} {i : Int32} (d : decode cc pc = .ok (.iaload, 1)) {fa : Option β} (hf : (if inb i 9 then fa else none) = some o) (k : fa = some o → V (wD Z a) Z G cs (pc + 1) lv (.int (gA M 7 i) :: st) (c1, c2, M)) : V (wD Z a) Z G cs pc lv (.int i :: .ref (a 7) :: st) (c1, c2, M) := V_iald C 7 rfl d hf k
theorem asD_7 {ow : String} (C : CX (wD Z a) Z Ev G cc ow dep ret Pq csF) {pc : Nat} {i v : Int32} (d : decode cc pc = .ok (.iastore, 1)) {fa : Option β} (hf : (if inb i 9 then fa else none) = some o) (k : fa = some o → V (wD Z a) Z G cs (pc + 1) lv st (c1, c2, sA M 7 i v)) : V (wD Z a) Z G cs pc lv (.int v :: .int i :: .ref (a 7) :: st) (c1, c2, M) := V_iast C 7 rfl d hf (x' := (c1, c2, sA M 7 i v)) rfl k
theorem alD_8 {ow : String} (C : CX (wD Z a) Z Ev G cc ow dep ret Pq csF) {pc : Nat} {i : Int32} (d : decode cc pc = .ok (.iaload, 1)) {fa : Option β} (hf : (if inb i 9 then fa else none) = some o) (k : fa = some o → V (wD Z a) Z G cs (pc + 1) lv (.int (gA M 8 i) :: st) (c1, c2, M)) : V (wD Z a) Z G cs pc lv (.int i :: .ref (a 8) :: st) (c1, c2, M) := V_iald C 8 rfl d hf k
theorem asD_8 {ow : String} (C : CX (wD Z a) Z Ev G cc ow dep ret Pq csF) {pc : Nat} {i v : Int32} (d : decode cc pc = .ok (.iastore, 1)) {fa : Option β} (hf : (if inb i 9 then fa else none) = some o) (k : fa = some o → V (wD Z a) Z G cs (pc + 1) lv st (c1, c2, sA M 8 i v)) : V (wD Z a) Z G cs pc lv (.int v :: .int i :: .ref (a 8) :: st) (c1, c2, M) := V_iast C 8 rfl d hf (x' := (c1, c2, sA M 8 i v)) rfl k
theorem alD_9 {ow : String} (C : CX (wD Z a) Z Ev G cc ow dep ret Pq csF) {pc : Nat} {i : Int32} (d : decode cc pc = .ok (.iaload, 1)) {fa : Option β} (hf : (if inb i 9 then fa else none) = some o) (k : fa = some o → V (wD Z a) Z G cs (pc + 1) lv (.int (gA M 9 i) :: st) (c1, c2, M)) : V (wD Z a) Z G cs pc lv (.int i :: .ref (a 9) :: st) (c1, c2, M) := V_iald C 9 rfl d hf k
theorem asD_9 {ow : String} (C : CX (wD Z a) Z Ev G cc ow dep ret Pq csF) {pc : Nat} {i v : Int32} (d : decode cc pc = .ok (.iastore, 1)) {fa : Option β} (hf : (if inb i 9 then fa else none) = some o) (k : fa = some o → V (wD Z a) Z G cs (pc + 1) lv st (c1, c2, sA M 9 i v)) : V (wD Z a) Z G cs pc lv (.int v :: .int i :: .ref (a 9) :: st) (c1, c2, M) := V_iast C 9 rfl d hf (x' := (c1, c2, sA M 9 i v)) rfl k
theorem alD_10 {ow : String} (C : CX (wD Z a) Z Ev G cc ow dep ret Pq csF) {pc : Nat} {i : Int32} (d : decode cc pc = .ok (.iaload, 1)) {fa : Option β} (hf : (if inb i 36 then fa else none) = some o) (k : fa = some o → V (wD Z a) Z G cs (pc + 1) lv (.int (gA M 10 i) :: st) (c1, c2, M)) : V (wD Z a) Z G cs pc lv (.int i :: .ref (a 10) :: st) (c1, c2, M) := V_iald C 10 rfl d hf k
theorem asD_10 {ow : String} (C : CX (wD Z a) Z Ev G cc ow dep ret Pq csF) {pc : Nat} {i v : Int32} (d : decode cc pc = .ok (.iastore, 1)) {fa : Option β} (hf : (if inb i 36 then fa else none) = some o) (k : fa = some o → V (wD Z a) Z G cs (pc + 1) lv st (c1, c2, sA M 10 i v)) : V (wD Z a) Z G cs pc lv (.int v :: .int i :: .ref (a 10) :: st) (c1, c2, M) := V_iast C 10 rfl d hf (x' := (c1, c2, sA M 10 i v)) rfl k
theorem alD_11 {ow : String} (C : CX (wD Z a) Z Ev G cc ow dep ret Pq csF) {pc : Nat} {i : Int32} (d : decode cc pc = .ok (.iaload, 1)) {fa : Option β} (hf : (if inb i 9 then fa else none) = some o) (k : fa = some o → V (wD Z a) Z G cs (pc + 1) lv (.int (gA M 11 i) :: st) (c1, c2, M)) : V (wD Z a) Z G cs pc lv (.int i :: .ref (a 11) :: st) (c1, c2, M) := V_iald C 11 rfl d hf k
theorem asD_11 {ow : String} (C : CX (wD Z a) Z Ev G cc ow dep ret Pq csF) {pc : Nat} {i v : Int32} (d : decode cc pc = .ok (.iastore, 1)) {fa : Option β} (hf : (if inb i 9 then fa else none) = some o) (k : fa = some o → V (wD Z a) Z G cs (pc + 1) lv st (c1, c2, sA M 11 i v)) : V (wD Z a) Z G cs pc lv (.int v :: .int i :: .ref (a 11) :: st) (c1, c2, M) := V_iast C 11 rfl d hf (x' := (c1, c2, sA M 11 i v)) rfl k
theorem alD_12 {ow : String} (C : CX (wD Z a) Z Ev G cc ow dep ret Pq csF) {pc : Nat} {i : Int32} (d : decode cc pc = .ok (.iaload, 1)) {fa : Option β} (hf : (if inb i 9 then fa else none) = some o) (k : fa = some o → V (wD Z a) Z G cs (pc + 1) lv (.int (gA M 12 i) :: st) (c1, c2, M)) : V (wD Z a) Z G cs pc lv (.int i :: .ref (a 12) :: st) (c1, c2, M) := V_iald C 12 rfl d hf k
theorem asD_12 {ow : String} (C : CX (wD Z a) Z Ev G cc ow dep ret Pq csF) {pc : Nat} {i v : Int32} (d : decode cc pc = .ok (.iastore, 1)) {fa : Option β} (hf : (if inb i 9 then fa else none) = some o) (k : fa = some o → V (wD Z a) Z G cs (pc + 1) lv st (c1, c2, sA M 12 i v)) : V (wD Z a) Z G cs pc lv (.int v :: .int i :: .ref (a 12) :: st) (c1, c2, M) := V_iast C 12 rfl d hf (x' := (c1, c2, sA M 12 i v)) rfl k
theorem alD_13 {ow : String} (C : CX (wD Z a) Z Ev G cc ow dep ret Pq csF) {pc : Nat} {i : Int32} (d : decode cc pc = .ok (.iaload, 1)) {fa : Option β} (hf : (if inb i 9 then fa else none) = some o) (k : fa = some o → V (wD Z a) Z G cs (pc + 1) lv (.int (gA M 13 i) :: st) (c1, c2, M)) : V (wD Z a) Z G cs pc lv (.int i :: .ref (a 13) :: st) (c1, c2, M) := V_iald C 13 rfl d hf k
theorem asD_13 {ow : String} (C : CX (wD Z a) Z Ev G cc ow dep ret Pq csF) {pc : Nat} {i v : Int32} (d : decode cc pc = .ok (.iastore, 1)) {fa : Option β} (hf : (if inb i 9 then fa else none) = some o) (k : fa = some o → V (wD Z a) Z G cs (pc + 1) lv st (c1, c2, sA M 13 i v)) : V (wD Z a) Z G cs pc lv (.int v :: .int i :: .ref (a 13) :: st) (c1, c2, M) := V_iast C 13 rfl d hf (x' := (c1, c2, sA M 13 i v)) rfl k
theorem alD_14 {ow : String} (C : CX (wD Z a) Z Ev G cc ow dep ret Pq csF) {pc : Nat} {i : Int32} (d : decode cc pc = .ok (.iaload, 1)) {fa : Option β} (hf : (if inb i 3 then fa else none) = some o) (k : fa = some o → V (wD Z a) Z G cs (pc + 1) lv (.int (gA M 14 i) :: st) (c1, c2, M)) : V (wD Z a) Z G cs pc lv (.int i :: .ref (a 14) :: st) (c1, c2, M) := V_iald C 14 rfl d hf k
theorem asD_14 {ow : String} (C : CX (wD Z a) Z Ev G cc ow dep ret Pq csF) {pc : Nat} {i v : Int32} (d : decode cc pc = .ok (.iastore, 1)) {fa : Option β} (hf : (if inb i 3 then fa else none) = some o) (k : fa = some o → V (wD Z a) Z G cs (pc + 1) lv st (c1, c2, sA M 14 i v)) : V (wD Z a) Z G cs pc lv (.int v :: .int i :: .ref (a 14) :: st) (c1, c2, M) := V_iast C 14 rfl d hf (x' := (c1, c2, sA M 14 i v)) rfl k
theorem alD_15 {ow : String} (C : CX (wD Z a) Z Ev G cc ow dep ret Pq csF) {pc : Nat} {i : Int32} (d : decode cc pc = .ok (.iaload, 1)) {fa : Option β} (hf : (if inb i 9 then fa else none) = some o) (k : fa = some o → V (wD Z a) Z G cs (pc + 1) lv (.int (gA M 15 i) :: st) (c1, c2, M)) : V (wD Z a) Z G cs pc lv (.int i :: .ref (a 15) :: st) (c1, c2, M) := V_iald C 15 rfl d hf k
theorem asD_15 {ow : String} (C : CX (wD Z a) Z Ev G cc ow dep ret Pq csF) {pc : Nat} {i v : Int32} (d : decode cc pc = .ok (.iastore, 1)) {fa : Option β} (hf : (if inb i 9 then fa else none) = some o) (k : fa = some o → V (wD Z a) Z G cs (pc + 1) lv st (c1, c2, sA M 15 i v)) : V (wD Z a) Z G cs pc lv (.int v :: .int i :: .ref (a 15) :: st) (c1, c2, M) := V_iast C 15 rfl d hf (x' := (c1, c2, sA M 15 i v)) rfl k
theorem alD_16 {ow : String} (C : CX (wD Z a) Z Ev G cc ow dep ret Pq csF) {pc : Nat} {i : Int32} (d : decode cc pc = .ok (.iaload, 1)) {fa : Option β} (hf : (if inb i 9 then fa else none) = some o) (k : fa = some o → V (wD Z a) Z G cs (pc + 1) lv (.int (gA M 16 i) :: st) (c1, c2, M)) : V (wD Z a) Z G cs pc lv (.int i :: .ref (a 16) :: st) (c1, c2, M) := V_iald C 16 rfl d hf k
theorem asD_16 {ow : String} (C : CX (wD Z a) Z Ev G cc ow dep ret Pq csF) {pc : Nat} {i v : Int32} (d : decode cc pc = .ok (.iastore, 1)) {fa : Option β} (hf : (if inb i 9 then fa else none) = some o) (k : fa = some o → V (wD Z a) Z G cs (pc + 1) lv st (c1, c2, sA M 16 i v)) : V (wD Z a) Z G cs pc lv (.int v :: .int i :: .ref (a 16) :: st) (c1, c2, M) := V_iast C 16 rfl d hf (x' := (c1, c2, sA M 16 i v)) rfl k
theorem alD_17 {ow : String} (C : CX (wD Z a) Z Ev G cc ow dep ret Pq csF) {pc : Nat} {i : Int32} (d : decode cc pc = .ok (.iaload, 1)) {fa : Option β} (hf : (if inb i 100 then fa else none) = some o) (k : fa = some o → V (wD Z a) Z G cs (pc + 1) lv (.int (gA M 17 i) :: st) (c1, c2, M)) : V (wD Z a) Z G cs pc lv (.int i :: .ref (a 17) :: st) (c1, c2, M) := V_iald C 17 rfl d hf k
theorem asD_17 {ow : String} (C : CX (wD Z a) Z Ev G cc ow dep ret Pq csF) {pc : Nat} {i v : Int32} (d : decode cc pc = .ok (.iastore, 1)) {fa : Option β} (hf : (if inb i 100 then fa else none) = some o) (k : fa = some o → V (wD Z a) Z G cs (pc + 1) lv st (c1, c2, sA M 17 i v)) : V (wD Z a) Z G cs pc lv (.int v :: .int i :: .ref (a 17) :: st) (c1, c2, M) := V_iast C 17 rfl d hf (x' := (c1, c2, sA M 17 i v)) rfl k
theorem alD_18 {ow : String} (C : CX (wD Z a) Z Ev G cc ow dep ret Pq csF) {pc : Nat} {i : Int32} (d : decode cc pc = .ok (.iaload, 1)) {fa : Option β} (hf : (if inb i 100 then fa else none) = some o) (k : fa = some o → V (wD Z a) Z G cs (pc + 1) lv (.int (gA M 18 i) :: st) (c1, c2, M)) : V (wD Z a) Z G cs pc lv (.int i :: .ref (a 18) :: st) (c1, c2, M) := V_iald C 18 rfl d hf k
theorem asD_18 {ow : String} (C : CX (wD Z a) Z Ev G cc ow dep ret Pq csF) {pc : Nat} {i v : Int32} (d : decode cc pc = .ok (.iastore, 1)) {fa : Option β} (hf : (if inb i 100 then fa else none) = some o) (k : fa = some o → V (wD Z a) Z G cs (pc + 1) lv st (c1, c2, sA M 18 i v)) : V (wD Z a) Z G cs pc lv (.int v :: .int i :: .ref (a 18) :: st) (c1, c2, M) := V_iast C 18 rfl d hf (x' := (c1, c2, sA M 18 i v)) rfl k
theorem alD_19 {ow : String} (C : CX (wD Z a) Z Ev G cc ow dep ret Pq csF) {pc : Nat} {i : Int32} (d : decode cc pc = .ok (.iaload, 1)) {fa : Option β} (hf : (if inb i 19 then fa else none) = some o) (k : fa = some o → V (wD Z a) Z G cs (pc + 1) lv (.int (gA M 19 i) :: st) (c1, c2, M)) : V (wD Z a) Z G cs pc lv (.int i :: .ref (a 19) :: st) (c1, c2, M) := V_iald C 19 rfl d hf k
theorem asD_19 {ow : String} (C : CX (wD Z a) Z Ev G cc ow dep ret Pq csF) {pc : Nat} {i v : Int32} (d : decode cc pc = .ok (.iastore, 1)) {fa : Option β} (hf : (if inb i 19 then fa else none) = some o) (k : fa = some o → V (wD Z a) Z G cs (pc + 1) lv st (c1, c2, sA M 19 i v)) : V (wD Z a) Z G cs pc lv (.int v :: .int i :: .ref (a 19) :: st) (c1, c2, M) := V_iast C 19 rfl d hf (x' := (c1, c2, sA M 19 i v)) rfl k
theorem alD_20 {ow : String} (C : CX (wD Z a) Z Ev G cc ow dep ret Pq csF) {pc : Nat} {i : Int32} (d : decode cc pc = .ok (.iaload, 1)) {fa : Option β} (hf : (if inb i 19 then fa else none) = some o) (k : fa = some o → V (wD Z a) Z G cs (pc + 1) lv (.int (gA M 20 i) :: st) (c1, c2, M)) : V (wD Z a) Z G cs pc lv (.int i :: .ref (a 20) :: st) (c1, c2, M) := V_iald C 20 rfl d hf k
theorem asD_20 {ow : String} (C : CX (wD Z a) Z Ev G cc ow dep ret Pq csF) {pc : Nat} {i v : Int32} (d : decode cc pc = .ok (.iastore, 1)) {fa : Option β} (hf : (if inb i 19 then fa else none) = some o) (k : fa = some o → V (wD Z a) Z G cs (pc + 1) lv st (c1, c2, sA M 20 i v)) : V (wD Z a) Z G cs pc lv (.int v :: .int i :: .ref (a 20) :: st) (c1, c2, M) := V_iast C 20 rfl d hf (x' := (c1, c2, sA M 20 i v)) rfl k
theorem alD_21 {ow : String} (C : CX (wD Z a) Z Ev G cc ow dep ret Pq csF) {pc : Nat} {i : Int32} (d : decode cc pc = .ok (.iaload, 1)) {fa : Option β} (hf : (if inb i (gL M) then fa else none) = some o) (k : fa = some o → V (wD Z a) Z G cs (pc + 1) lv (.int (gA M 21 i) :: st) (c1, c2, M)) : V (wD Z a) Z G cs pc lv (.int i :: .ref c1 :: st) (c1, c2, M) := V_iald C 21 rfl d hf k
theorem asD_21 {ow : String} (C : CX (wD Z a) Z Ev G cc ow dep ret Pq csF) {pc : Nat} {i v : Int32} (d : decode cc pc = .ok (.iastore, 1)) {fa : Option β} (hf : (if inb i (gL M) then fa else none) = some o) (k : fa = some o → V (wD Z a) Z G cs (pc + 1) lv st (c1, c2, sA M 21 i v)) : V (wD Z a) Z G cs pc lv (.int v :: .int i :: .ref c1 :: st) (c1, c2, M) := V_iast C 21 rfl d hf (x' := (c1, c2, sA M 21 i v)) rfl k
theorem anD_21 {ow : String} (C : CX (wD Z a) Z Ev G cc ow dep ret Pq csF) {pc : Nat} (d : decode cc pc = .ok (.arraylength, 1)) (k : V (wD Z a) Z G cs (pc + 1) lv (.int (Int32.ofNat (gL M)) :: st) (c1, c2, M)) : V (wD Z a) Z G cs pc lv (.ref c1 :: st) (c1, c2, M) := V_alen C 21 0 rfl rfl rfl d k
theorem alD_22 {ow : String} (C : CX (wD Z a) Z Ev G cc ow dep ret Pq csF) {pc : Nat} {i : Int32} (d : decode cc pc = .ok (.iaload, 1)) {fa : Option β} (hf : (if inb i (gL M) then fa else none) = some o) (k : fa = some o → V (wD Z a) Z G cs (pc + 1) lv (.int (gA M 22 i) :: st) (c1, c2, M)) : V (wD Z a) Z G cs pc lv (.int i :: .ref c2 :: st) (c1, c2, M) := V_iald C 22 rfl d hf k
theorem asD_22 {ow : String} (C : CX (wD Z a) Z Ev G cc ow dep ret Pq csF) {pc : Nat} {i v : Int32} (d : decode cc pc = .ok (.iastore, 1)) {fa : Option β} (hf : (if inb i (gL M) then fa else none) = some o) (k : fa = some o → V (wD Z a) Z G cs (pc + 1) lv st (c1, c2, sA M 22 i v)) : V (wD Z a) Z G cs pc lv (.int v :: .int i :: .ref c2 :: st) (c1, c2, M) := V_iast C 22 rfl d hf (x' := (c1, c2, sA M 22 i v)) rfl k
theorem anD_22 {ow : String} (C : CX (wD Z a) Z Ev G cc ow dep ret Pq csF) {pc : Nat} (d : decode cc pc = .ok (.arraylength, 1)) (k : V (wD Z a) Z G cs (pc + 1) lv (.int (Int32.ofNat (gL M)) :: st) (c1, c2, M)) : V (wD Z a) Z G cs pc lv (.ref c2 :: st) (c1, c2, M) := V_alen C 22 0 rfl rfl rfl d k
theorem alD_23 {ow : String} (C : CX (wD Z a) Z Ev G cc ow dep ret Pq csF) {pc : Nat} {i : Int32} (d : decode cc pc = .ok (.baload, 1)) {fa : Option β} (hf : (if inb i 4096 then fa else none) = some o) (k : fa = some o → V (wD Z a) Z G cs (pc + 1) lv (.int (gA M 23 i) :: st) (c1, c2, M)) : V (wD Z a) Z G cs pc lv (.int i :: .ref (a 23) :: st) (c1, c2, M) := V_bald C 23 rfl d hf k
theorem asD_23 {ow : String} (C : CX (wD Z a) Z Ev G cc ow dep ret Pq csF) {pc : Nat} {i v : Int32} (d : decode cc pc = .ok (.bastore, 1)) {fa : Option β} (hf : (if inb i 4096 then fa else none) = some o) (k : fa = some o → V (wD Z a) Z G cs (pc + 1) lv st (c1, c2, sA M 23 i (vp_nar .byte v))) : V (wD Z a) Z G cs pc lv (.int v :: .int i :: .ref (a 23) :: st) (c1, c2, M) := V_bast C 23 rfl d hf (x' := (c1, c2, sA M 23 i (vp_nar .byte v))) rfl k
theorem alM_1 {ow : String} (C : CX (wM Z a) Z Ev G cc ow dep ret Pq csF) {pc : Nat} {i : Int32} (d : decode cc pc = .ok (.iaload, 1)) {fa : Option β} (hf : (if inb i 9 then fa else none) = some o) (k : fa = some o → V (wM Z a) Z G cs (pc + 1) lv (.int (gA M 1 i) :: st) (c1, c2, M)) : V (wM Z a) Z G cs pc lv (.int i :: .ref (a 1) :: st) (c1, c2, M) := V_iald C 1 rfl d hf k
theorem asM_1 {ow : String} (C : CX (wM Z a) Z Ev G cc ow dep ret Pq csF) {pc : Nat} {i v : Int32} (d : decode cc pc = .ok (.iastore, 1)) {fa : Option β} (hf : (if inb i 9 then fa else none) = some o) (k : fa = some o → V (wM Z a) Z G cs (pc + 1) lv st (c1, c2, sA M 1 i v)) : V (wM Z a) Z G cs pc lv (.int v :: .int i :: .ref (a 1) :: st) (c1, c2, M) := V_iast C 1 rfl d hf (x' := (c1, c2, sA M 1 i v)) rfl k
theorem alM_2 {ow : String} (C : CX (wM Z a) Z Ev G cc ow dep ret Pq csF) {pc : Nat} {i : Int32} (d : decode cc pc = .ok (.iaload, 1)) {fa : Option β} (hf : (if inb i 9 then fa else none) = some o) (k : fa = some o → V (wM Z a) Z G cs (pc + 1) lv (.int (gA M 2 i) :: st) (c1, c2, M)) : V (wM Z a) Z G cs pc lv (.int i :: .ref (a 2) :: st) (c1, c2, M) := V_iald C 2 rfl d hf k
theorem asM_2 {ow : String} (C : CX (wM Z a) Z Ev G cc ow dep ret Pq csF) {pc : Nat} {i v : Int32} (d : decode cc pc = .ok (.iastore, 1)) {fa : Option β} (hf : (if inb i 9 then fa else none) = some o) (k : fa = some o → V (wM Z a) Z G cs (pc + 1) lv st (c1, c2, sA M 2 i v)) : V (wM Z a) Z G cs pc lv (.int v :: .int i :: .ref (a 2) :: st) (c1, c2, M) := V_iast C 2 rfl d hf (x' := (c1, c2, sA M 2 i v)) rfl k
theorem alM_3 {ow : String} (C : CX (wM Z a) Z Ev G cc ow dep ret Pq csF) {pc : Nat} {i : Int32} (d : decode cc pc = .ok (.iaload, 1)) {fa : Option β} (hf : (if inb i 9 then fa else none) = some o) (k : fa = some o → V (wM Z a) Z G cs (pc + 1) lv (.int (gA M 3 i) :: st) (c1, c2, M)) : V (wM Z a) Z G cs pc lv (.int i :: .ref (a 3) :: st) (c1, c2, M) := V_iald C 3 rfl d hf k
theorem asM_3 {ow : String} (C : CX (wM Z a) Z Ev G cc ow dep ret Pq csF) {pc : Nat} {i v : Int32} (d : decode cc pc = .ok (.iastore, 1)) {fa : Option β} (hf : (if inb i 9 then fa else none) = some o) (k : fa = some o → V (wM Z a) Z G cs (pc + 1) lv st (c1, c2, sA M 3 i v)) : V (wM Z a) Z G cs pc lv (.int v :: .int i :: .ref (a 3) :: st) (c1, c2, M) := V_iast C 3 rfl d hf (x' := (c1, c2, sA M 3 i v)) rfl k
theorem alM_4 {ow : String} (C : CX (wM Z a) Z Ev G cc ow dep ret Pq csF) {pc : Nat} {i : Int32} (d : decode cc pc = .ok (.iaload, 1)) {fa : Option β} (hf : (if inb i 36 then fa else none) = some o) (k : fa = some o → V (wM Z a) Z G cs (pc + 1) lv (.int (gA M 4 i) :: st) (c1, c2, M)) : V (wM Z a) Z G cs pc lv (.int i :: .ref (a 4) :: st) (c1, c2, M) := V_iald C 4 rfl d hf k
theorem asM_4 {ow : String} (C : CX (wM Z a) Z Ev G cc ow dep ret Pq csF) {pc : Nat} {i v : Int32} (d : decode cc pc = .ok (.iastore, 1)) {fa : Option β} (hf : (if inb i 36 then fa else none) = some o) (k : fa = some o → V (wM Z a) Z G cs (pc + 1) lv st (c1, c2, sA M 4 i v)) : V (wM Z a) Z G cs pc lv (.int v :: .int i :: .ref (a 4) :: st) (c1, c2, M) := V_iast C 4 rfl d hf (x' := (c1, c2, sA M 4 i v)) rfl k
theorem alM_5 {ow : String} (C : CX (wM Z a) Z Ev G cc ow dep ret Pq csF) {pc : Nat} {i : Int32} (d : decode cc pc = .ok (.iaload, 1)) {fa : Option β} (hf : (if inb i 9 then fa else none) = some o) (k : fa = some o → V (wM Z a) Z G cs (pc + 1) lv (.int (gA M 5 i) :: st) (c1, c2, M)) : V (wM Z a) Z G cs pc lv (.int i :: .ref (a 5) :: st) (c1, c2, M) := V_iald C 5 rfl d hf k
theorem asM_5 {ow : String} (C : CX (wM Z a) Z Ev G cc ow dep ret Pq csF) {pc : Nat} {i v : Int32} (d : decode cc pc = .ok (.iastore, 1)) {fa : Option β} (hf : (if inb i 9 then fa else none) = some o) (k : fa = some o → V (wM Z a) Z G cs (pc + 1) lv st (c1, c2, sA M 5 i v)) : V (wM Z a) Z G cs pc lv (.int v :: .int i :: .ref (a 5) :: st) (c1, c2, M) := V_iast C 5 rfl d hf (x' := (c1, c2, sA M 5 i v)) rfl k
theorem alM_6 {ow : String} (C : CX (wM Z a) Z Ev G cc ow dep ret Pq csF) {pc : Nat} {i : Int32} (d : decode cc pc = .ok (.iaload, 1)) {fa : Option β} (hf : (if inb i 3 then fa else none) = some o) (k : fa = some o → V (wM Z a) Z G cs (pc + 1) lv (.int (gA M 6 i) :: st) (c1, c2, M)) : V (wM Z a) Z G cs pc lv (.int i :: .ref (a 6) :: st) (c1, c2, M) := V_iald C 6 rfl d hf k
theorem asM_6 {ow : String} (C : CX (wM Z a) Z Ev G cc ow dep ret Pq csF) {pc : Nat} {i v : Int32} (d : decode cc pc = .ok (.iastore, 1)) {fa : Option β} (hf : (if inb i 3 then fa else none) = some o) (k : fa = some o → V (wM Z a) Z G cs (pc + 1) lv st (c1, c2, sA M 6 i v)) : V (wM Z a) Z G cs pc lv (.int v :: .int i :: .ref (a 6) :: st) (c1, c2, M) := V_iast C 6 rfl d hf (x' := (c1, c2, sA M 6 i v)) rfl k
theorem alM_7 {ow : String} (C : CX (wM Z a) Z Ev G cc ow dep ret Pq csF) {pc : Nat} {i : Int32} (d : decode cc pc = .ok (.baload, 1)) {fa : Option β} (hf : (if inb i 4096 then fa else none) = some o) (k : fa = some o → V (wM Z a) Z G cs (pc + 1) lv (.int (gA M 7 i) :: st) (c1, c2, M)) : V (wM Z a) Z G cs pc lv (.int i :: .ref (a 7) :: st) (c1, c2, M) := V_zald C 7 rfl d hf k
theorem asM_7 {ow : String} (C : CX (wM Z a) Z Ev G cc ow dep ret Pq csF) {pc : Nat} {i v : Int32} (d : decode cc pc = .ok (.bastore, 1)) {fa : Option β} (hf : (if inb i 4096 then fa else none) = some o) (k : fa = some o → V (wM Z a) Z G cs (pc + 1) lv st (c1, c2, sA M 7 i (vp_nar .boolean v))) : V (wM Z a) Z G cs pc lv (.int v :: .int i :: .ref (a 7) :: st) (c1, c2, M) := V_zast C 7 rfl d hf (x' := (c1, c2, sA M 7 i (vp_nar .boolean v))) rfl k
theorem alM_8 {ow : String} (C : CX (wM Z a) Z Ev G cc ow dep ret Pq csF) {pc : Nat} {i : Int32} (d : decode cc pc = .ok (.iaload, 1)) {fa : Option β} (hf : (if inb i 100 then fa else none) = some o) (k : fa = some o → V (wM Z a) Z G cs (pc + 1) lv (.int (gA M 8 i) :: st) (c1, c2, M)) : V (wM Z a) Z G cs pc lv (.int i :: .ref (a 8) :: st) (c1, c2, M) := V_iald C 8 rfl d hf k
theorem asM_8 {ow : String} (C : CX (wM Z a) Z Ev G cc ow dep ret Pq csF) {pc : Nat} {i v : Int32} (d : decode cc pc = .ok (.iastore, 1)) {fa : Option β} (hf : (if inb i 100 then fa else none) = some o) (k : fa = some o → V (wM Z a) Z G cs (pc + 1) lv st (c1, c2, sA M 8 i v)) : V (wM Z a) Z G cs pc lv (.int v :: .int i :: .ref (a 8) :: st) (c1, c2, M) := V_iast C 8 rfl d hf (x' := (c1, c2, sA M 8 i v)) rfl k
theorem alM_9 {ow : String} (C : CX (wM Z a) Z Ev G cc ow dep ret Pq csF) {pc : Nat} {i : Int32} (d : decode cc pc = .ok (.iaload, 1)) {fa : Option β} (hf : (if inb i 100 then fa else none) = some o) (k : fa = some o → V (wM Z a) Z G cs (pc + 1) lv (.int (gA M 9 i) :: st) (c1, c2, M)) : V (wM Z a) Z G cs pc lv (.int i :: .ref (a 9) :: st) (c1, c2, M) := V_iald C 9 rfl d hf k
theorem asM_9 {ow : String} (C : CX (wM Z a) Z Ev G cc ow dep ret Pq csF) {pc : Nat} {i v : Int32} (d : decode cc pc = .ok (.iastore, 1)) {fa : Option β} (hf : (if inb i 100 then fa else none) = some o) (k : fa = some o → V (wM Z a) Z G cs (pc + 1) lv st (c1, c2, sA M 9 i v)) : V (wM Z a) Z G cs pc lv (.int v :: .int i :: .ref (a 9) :: st) (c1, c2, M) := V_iast C 9 rfl d hf (x' := (c1, c2, sA M 9 i v)) rfl k
theorem alM_10 {ow : String} (C : CX (wM Z a) Z Ev G cc ow dep ret Pq csF) {pc : Nat} {i : Int32} (d : decode cc pc = .ok (.iaload, 1)) {fa : Option β} (hf : (if inb i 100 then fa else none) = some o) (k : fa = some o → V (wM Z a) Z G cs (pc + 1) lv (.int (gA M 10 i) :: st) (c1, c2, M)) : V (wM Z a) Z G cs pc lv (.int i :: .ref (a 10) :: st) (c1, c2, M) := V_iald C 10 rfl d hf k
theorem asM_10 {ow : String} (C : CX (wM Z a) Z Ev G cc ow dep ret Pq csF) {pc : Nat} {i v : Int32} (d : decode cc pc = .ok (.iastore, 1)) {fa : Option β} (hf : (if inb i 100 then fa else none) = some o) (k : fa = some o → V (wM Z a) Z G cs (pc + 1) lv st (c1, c2, sA M 10 i v)) : V (wM Z a) Z G cs pc lv (.int v :: .int i :: .ref (a 10) :: st) (c1, c2, M) := V_iast C 10 rfl d hf (x' := (c1, c2, sA M 10 i v)) rfl k
theorem alM_11 {ow : String} (C : CX (wM Z a) Z Ev G cc ow dep ret Pq csF) {pc : Nat} {i : Int32} (d : decode cc pc = .ok (.iaload, 1)) {fa : Option β} (hf : (if inb i 9 then fa else none) = some o) (k : fa = some o → V (wM Z a) Z G cs (pc + 1) lv (.int (gA M 11 i) :: st) (c1, c2, M)) : V (wM Z a) Z G cs pc lv (.int i :: .ref (a 11) :: st) (c1, c2, M) := V_iald C 11 rfl d hf k
theorem asM_11 {ow : String} (C : CX (wM Z a) Z Ev G cc ow dep ret Pq csF) {pc : Nat} {i v : Int32} (d : decode cc pc = .ok (.iastore, 1)) {fa : Option β} (hf : (if inb i 9 then fa else none) = some o) (k : fa = some o → V (wM Z a) Z G cs (pc + 1) lv st (c1, c2, sA M 11 i v)) : V (wM Z a) Z G cs pc lv (.int v :: .int i :: .ref (a 11) :: st) (c1, c2, M) := V_iast C 11 rfl d hf (x' := (c1, c2, sA M 11 i v)) rfl k
theorem alM_12 {ow : String} (C : CX (wM Z a) Z Ev G cc ow dep ret Pq csF) {pc : Nat} {i : Int32} (d : decode cc pc = .ok (.iaload, 1)) {fa : Option β} (hf : (if inb i 9 then fa else none) = some o) (k : fa = some o → V (wM Z a) Z G cs (pc + 1) lv (.int (gA M 12 i) :: st) (c1, c2, M)) : V (wM Z a) Z G cs pc lv (.int i :: .ref (a 12) :: st) (c1, c2, M) := V_iald C 12 rfl d hf k
theorem asM_12 {ow : String} (C : CX (wM Z a) Z Ev G cc ow dep ret Pq csF) {pc : Nat} {i v : Int32} (d : decode cc pc = .ok (.iastore, 1)) {fa : Option β} (hf : (if inb i 9 then fa else none) = some o) (k : fa = some o → V (wM Z a) Z G cs (pc + 1) lv st (c1, c2, sA M 12 i v)) : V (wM Z a) Z G cs pc lv (.int v :: .int i :: .ref (a 12) :: st) (c1, c2, M) := V_iast C 12 rfl d hf (x' := (c1, c2, sA M 12 i v)) rfl k
theorem alM_13 {ow : String} (C : CX (wM Z a) Z Ev G cc ow dep ret Pq csF) {pc : Nat} {i : Int32} (d : decode cc pc = .ok (.iaload, 1)) {fa : Option β} (hf : (if inb i 40960 then fa else none) = some o) (k : fa = some o → V (wM Z a) Z G cs (pc + 1) lv (.int (gA M 13 i) :: st) (c1, c2, M)) : V (wM Z a) Z G cs pc lv (.int i :: .ref (a 13) :: st) (c1, c2, M) := V_iald C 13 rfl d hf k
theorem asM_13 {ow : String} (C : CX (wM Z a) Z Ev G cc ow dep ret Pq csF) {pc : Nat} {i v : Int32} (d : decode cc pc = .ok (.iastore, 1)) {fa : Option β} (hf : (if inb i 40960 then fa else none) = some o) (k : fa = some o → V (wM Z a) Z G cs (pc + 1) lv st (c1, c2, sA M 13 i v)) : V (wM Z a) Z G cs pc lv (.int v :: .int i :: .ref (a 13) :: st) (c1, c2, M) := V_iast C 13 rfl d hf (x' := (c1, c2, sA M 13 i v)) rfl k
theorem alM_14 {ow : String} (C : CX (wM Z a) Z Ev G cc ow dep ret Pq csF) {pc : Nat} {i : Int32} (d : decode cc pc = .ok (.baload, 1)) {fa : Option β} (hf : (if inb i 40960 then fa else none) = some o) (k : fa = some o → V (wM Z a) Z G cs (pc + 1) lv (.int (gA M 14 i) :: st) (c1, c2, M)) : V (wM Z a) Z G cs pc lv (.int i :: .ref (a 14) :: st) (c1, c2, M) := V_zald C 14 rfl d hf k
theorem asM_14 {ow : String} (C : CX (wM Z a) Z Ev G cc ow dep ret Pq csF) {pc : Nat} {i v : Int32} (d : decode cc pc = .ok (.bastore, 1)) {fa : Option β} (hf : (if inb i 40960 then fa else none) = some o) (k : fa = some o → V (wM Z a) Z G cs (pc + 1) lv st (c1, c2, sA M 14 i (vp_nar .boolean v))) : V (wM Z a) Z G cs pc lv (.int v :: .int i :: .ref (a 14) :: st) (c1, c2, M) := V_zast C 14 rfl d hf (x' := (c1, c2, sA M 14 i (vp_nar .boolean v))) rfl k
theorem alM_15 {ow : String} (C : CX (wM Z a) Z Ev G cc ow dep ret Pq csF) {pc : Nat} {i : Int32} (d : decode cc pc = .ok (.iaload, 1)) {fa : Option β} (hf : (if inb i 40960 then fa else none) = some o) (k : fa = some o → V (wM Z a) Z G cs (pc + 1) lv (.int (gA M 15 i) :: st) (c1, c2, M)) : V (wM Z a) Z G cs pc lv (.int i :: .ref (a 15) :: st) (c1, c2, M) := V_iald C 15 rfl d hf k
theorem asM_15 {ow : String} (C : CX (wM Z a) Z Ev G cc ow dep ret Pq csF) {pc : Nat} {i v : Int32} (d : decode cc pc = .ok (.iastore, 1)) {fa : Option β} (hf : (if inb i 40960 then fa else none) = some o) (k : fa = some o → V (wM Z a) Z G cs (pc + 1) lv st (c1, c2, sA M 15 i v)) : V (wM Z a) Z G cs pc lv (.int v :: .int i :: .ref (a 15) :: st) (c1, c2, M) := V_iast C 15 rfl d hf (x' := (c1, c2, sA M 15 i v)) rfl k
theorem alM_16 {ow : String} (C : CX (wM Z a) Z Ev G cc ow dep ret Pq csF) {pc : Nat} {i : Int32} (d : decode cc pc = .ok (.baload, 1)) {fa : Option β} (hf : (if inb i 40960 then fa else none) = some o) (k : fa = some o → V (wM Z a) Z G cs (pc + 1) lv (.int (gA M 16 i) :: st) (c1, c2, M)) : V (wM Z a) Z G cs pc lv (.int i :: .ref (a 16) :: st) (c1, c2, M) := V_zald C 16 rfl d hf k
theorem asM_16 {ow : String} (C : CX (wM Z a) Z Ev G cc ow dep ret Pq csF) {pc : Nat} {i v : Int32} (d : decode cc pc = .ok (.bastore, 1)) {fa : Option β} (hf : (if inb i 40960 then fa else none) = some o) (k : fa = some o → V (wM Z a) Z G cs (pc + 1) lv st (c1, c2, sA M 16 i (vp_nar .boolean v))) : V (wM Z a) Z G cs pc lv (.int v :: .int i :: .ref (a 16) :: st) (c1, c2, M) := V_zast C 16 rfl d hf (x' := (c1, c2, sA M 16 i (vp_nar .boolean v))) rfl k
theorem alM_17 {ow : String} (C : CX (wM Z a) Z Ev G cc ow dep ret Pq csF) {pc : Nat} {i : Int32} (d : decode cc pc = .ok (.iaload, 1)) {fa : Option β} (hf : (if inb i 40960 then fa else none) = some o) (k : fa = some o → V (wM Z a) Z G cs (pc + 1) lv (.int (gA M 17 i) :: st) (c1, c2, M)) : V (wM Z a) Z G cs pc lv (.int i :: .ref (a 17) :: st) (c1, c2, M) := V_iald C 17 rfl d hf k
theorem asM_17 {ow : String} (C : CX (wM Z a) Z Ev G cc ow dep ret Pq csF) {pc : Nat} {i v : Int32} (d : decode cc pc = .ok (.iastore, 1)) {fa : Option β} (hf : (if inb i 40960 then fa else none) = some o) (k : fa = some o → V (wM Z a) Z G cs (pc + 1) lv st (c1, c2, sA M 17 i v)) : V (wM Z a) Z G cs pc lv (.int v :: .int i :: .ref (a 17) :: st) (c1, c2, M) := V_iast C 17 rfl d hf (x' := (c1, c2, sA M 17 i v)) rfl k
theorem alM_18 {ow : String} (C : CX (wM Z a) Z Ev G cc ow dep ret Pq csF) {pc : Nat} {i : Int32} (d : decode cc pc = .ok (.iaload, 1)) {fa : Option β} (hf : (if inb i 40960 then fa else none) = some o) (k : fa = some o → V (wM Z a) Z G cs (pc + 1) lv (.int (gA M 18 i) :: st) (c1, c2, M)) : V (wM Z a) Z G cs pc lv (.int i :: .ref (a 18) :: st) (c1, c2, M) := V_iald C 18 rfl d hf k
theorem asM_18 {ow : String} (C : CX (wM Z a) Z Ev G cc ow dep ret Pq csF) {pc : Nat} {i v : Int32} (d : decode cc pc = .ok (.iastore, 1)) {fa : Option β} (hf : (if inb i 40960 then fa else none) = some o) (k : fa = some o → V (wM Z a) Z G cs (pc + 1) lv st (c1, c2, sA M 18 i v)) : V (wM Z a) Z G cs pc lv (.int v :: .int i :: .ref (a 18) :: st) (c1, c2, M) := V_iast C 18 rfl d hf (x' := (c1, c2, sA M 18 i v)) rfl k
end FR
/-! links of calls -/
theorem lb_J6_bitCount_0f7a4 : LkB yJ6_bitCount_0f7a4 cJ6_bitCount_0f7a4 1 1 (some .int) := ⟨wn_RJ6, wc_J6_bitCount_0f7a4, ⟨by decide +kernel, by decide +kernel, by decide +kernel⟩, by decide⟩
theorem lb_J7_fill_031fb : LkB yJ7_fill_031fb cJ7_fill_031fb 4 2 none := ⟨wn_RJ7, wc_J7_fill_031fb, ⟨by decide +kernel, by decide +kernel, by decide +kernel⟩, by decide⟩
theorem lb_J7_fill_53178 : LkB yJ7_fill_53178 cJ7_fill_53178 4 2 none := ⟨wn_RJ7, wc_J7_fill_53178, ⟨by decide +kernel, by decide +kernel, by decide +kernel⟩, by decide⟩
theorem lb_J9_max_7cf53 : LkB yJ9_max_7cf53 cJ9_max_7cf53 2 2 (some .int) := ⟨wn_RJ9, wc_J9_max_7cf53, ⟨by decide +kernel, by decide +kernel, by decide +kernel⟩, by decide⟩
theorem lb_J9_min_7cf53 : LkB yJ9_min_7cf53 cJ9_min_7cf53 2 2 (some .int) := ⟨wn_RJ9, wc_J9_min_7cf53, ⟨by decide +kernel, by decide +kernel, by decide +kernel⟩, by decide⟩
theorem lb_X0_clear : LkB yX0_clear cX0_clear 1 0 none := ⟨wn_RX0, wc_X0_clear, ⟨by decide +kernel, by decide +kernel, by decide +kernel⟩, by decide⟩
theorem lb_X0_keep : LkB yX0_keep cX0_keep 3 2 none := ⟨wn_RX0, wc_X0_keep, ⟨by decide +kernel, by decide +kernel, by decide +kernel⟩, by decide⟩
theorem lb_X0_madeThere : LkB yX0_madeThere cX0_madeThere 1 0 (some .int) := ⟨wn_RX0, wc_X0_madeThere, ⟨by decide +kernel, by decide +kernel, by decide +kernel⟩, by decide⟩
theorem lb_X0_sceneThere : LkB yX0_sceneThere cX0_sceneThere 1 0 (some .int) := ⟨wn_RX0, wc_X0_sceneThere, ⟨by decide +kernel, by decide +kernel, by decide +kernel⟩, by decide⟩
theorem lb_X0_stepBack : LkB yX0_stepBack cX0_stepBack 1 0 none := ⟨wn_RX0, wc_X0_stepBack, ⟨by decide +kernel, by decide +kernel, by decide +kernel⟩, by decide⟩
theorem lb_X1_actAt : LkB yX1_actAt cX1_actAt 2 1 (some .int) := ⟨wn_RX1, wc_X1_actAt, ⟨by decide +kernel, by decide +kernel, by decide +kernel⟩, by decide⟩
theorem lb_X1_actsFor : LkB yX1_actsFor cX1_actsFor 2 1 (some .int) := ⟨wn_RX1, wc_X1_actsFor, ⟨by decide +kernel, by decide +kernel, by decide +kernel⟩, by decide⟩
theorem lb_X1_dropDetours : LkB yX1_dropDetours cX1_dropDetours 5 1 none := ⟨wn_RX1, wc_X1_dropDetours, ⟨by decide +kernel, by decide +kernel, by decide +kernel⟩, by decide⟩
theorem lb_X1_explore : LkB yX1_explore cX1_explore 8 1 none := ⟨wn_RX1, wc_X1_explore, ⟨by decide +kernel, by decide +kernel, by decide +kernel⟩, by decide⟩
theorem lb_X1_firstActOn : LkB yX1_firstActOn cX1_firstActOn 6 2 (some .int) := ⟨wn_RX1, wc_X1_firstActOn, ⟨by decide +kernel, by decide +kernel, by decide +kernel⟩, by decide⟩
theorem lb_X1_flood : LkB yX1_flood cX1_flood 6 2 (some .int) := ⟨wn_RX1, wc_X1_flood, ⟨by decide +kernel, by decide +kernel, by decide +kernel⟩, by decide⟩
theorem lb_X1_join : LkB yX1_join cX1_join 3 2 none := ⟨wn_RX1, wc_X1_join, ⟨by decide +kernel, by decide +kernel, by decide +kernel⟩, by decide⟩
theorem lb_X1_makesFor : LkB yX1_makesFor cX1_makesFor 2 1 (some .int) := ⟨wn_RX1, wc_X1_makesFor, ⟨by decide +kernel, by decide +kernel, by decide +kernel⟩, by decide⟩
theorem lb_X1_outdate : LkB yX1_outdate cX1_outdate 1 0 none := ⟨wn_RX1, wc_X1_outdate, ⟨by decide +kernel, by decide +kernel, by decide +kernel⟩, by decide⟩
theorem lb_X1_sceneAt : LkB yX1_sceneAt cX1_sceneAt 2 1 (some .int) := ⟨wn_RX1, wc_X1_sceneAt, ⟨by decide +kernel, by decide +kernel, by decide +kernel⟩, by decide⟩
theorem lb_X1_scenesFor : LkB yX1_scenesFor cX1_scenesFor 2 1 (some .int) := ⟨wn_RX1, wc_X1_scenesFor, ⟨by decide +kernel, by decide +kernel, by decide +kernel⟩, by decide⟩
theorem lb_X1_spread : LkB yX1_spread cX1_spread 7 4 none := ⟨wn_RX1, wc_X1_spread, ⟨by decide +kernel, by decide +kernel, by decide +kernel⟩, by decide⟩
theorem lb_X1_startLine : LkB yX1_startLine cX1_startLine 2 0 none := ⟨wn_RX1, wc_X1_startLine, ⟨by decide +kernel, by decide +kernel, by decide +kernel⟩, by decide⟩
theorem lb_X1_writePlan : LkB yX1_writePlan cX1_writePlan 6 1 none := ⟨wn_RX1, wc_X1_writePlan, ⟨by decide +kernel, by decide +kernel, by decide +kernel⟩, by decide⟩
theorem lb_X2_build : LkB yX2_build cX2_build 5 1 (some .int) := ⟨wn_RX2, wc_X2_build, ⟨by decide +kernel, by decide +kernel, by decide +kernel⟩, by decide⟩
theorem lb_X2_examine : LkB yX2_examine cX2_examine 4 1 (some .int) := ⟨wn_RX2, wc_X2_examine, ⟨by decide +kernel, by decide +kernel, by decide +kernel⟩, by decide⟩
theorem lb_X2_faultOf : LkB yX2_faultOf cX2_faultOf 5 2 (some .int) := ⟨wn_RX2, wc_X2_faultOf, ⟨by decide +kernel, by decide +kernel, by decide +kernel⟩, by decide⟩
theorem lb_X2_turn : LkB yX2_turn cX2_turn 2 1 (some .int) := ⟨wn_RX2, wc_X2_turn, ⟨by decide +kernel, by decide +kernel, by decide +kernel⟩, by decide⟩
theorem lb_X3_begin : LkB yX3_begin cX3_begin 5 3 none := ⟨wn_RX3, wc_X3_begin, ⟨by decide +kernel, by decide +kernel, by decide +kernel⟩, by decide⟩
theorem lb_X3_bitOf : LkB yX3_bitOf cX3_bitOf 1 1 (some .int) := ⟨wn_RX3, wc_X3_bitOf, ⟨by decide +kernel, by decide +kernel, by decide +kernel⟩, by decide⟩
theorem lb_X3_drop : LkB yX3_drop cX3_drop 2 1 none := ⟨wn_RX3, wc_X3_drop, ⟨by decide +kernel, by decide +kernel, by decide +kernel⟩, by decide⟩
theorem lb_X3_firstNamedBit : LkB yX3_firstNamedBit cX3_firstNamedBit 3 1 (some .int) := ⟨wn_RX3, wc_X3_firstNamedBit, ⟨by decide +kernel, by decide +kernel, by decide +kernel⟩, by decide⟩
theorem lb_X3_has : LkB yX3_has cX3_has 2 1 (some .boolean) := ⟨wn_RX3, wc_X3_has, ⟨by decide +kernel, by decide +kernel, by decide +kernel⟩, by decide⟩
theorem lb_X3_hasPlace : LkB yX3_hasPlace cX3_hasPlace 3 2 (some .boolean) := ⟨wn_RX3, wc_X3_hasPlace, ⟨by decide +kernel, by decide +kernel, by decide +kernel⟩, by decide⟩
theorem lb_X3_nameAt : LkB yX3_nameAt cX3_nameAt 3 2 (some .int) := ⟨wn_RX3, wc_X3_nameAt, ⟨by decide +kernel, by decide +kernel, by decide +kernel⟩, by decide⟩
theorem lb_X3_namedBits : LkB yX3_namedBits cX3_namedBits 4 1 (some .int) := ⟨wn_RX3, wc_X3_namedBits, ⟨by decide +kernel, by decide +kernel, by decide +kernel⟩, by decide⟩
theorem lb_X3_setName : LkB yX3_setName cX3_setName 4 3 none := ⟨wn_RX3, wc_X3_setName, ⟨by decide +kernel, by decide +kernel, by decide +kernel⟩, by decide⟩
theorem lb_X4_closes : LkB yX4_closes cX4_closes 6 3 (some .boolean) := ⟨wn_RX4, wc_X4_closes, ⟨by decide +kernel, by decide +kernel, by decide +kernel⟩, by decide⟩
theorem lb_X4_measure : LkB yX4_measure cX4_measure 7 2 none := ⟨wn_RX4, wc_X4_measure, ⟨by decide +kernel, by decide +kernel, by decide +kernel⟩, by decide⟩
theorem lb_X4_nearer : LkB yX4_nearer cX4_nearer 5 3 (some .int) := ⟨wn_RX4, wc_X4_nearer, ⟨by decide +kernel, by decide +kernel, by decide +kernel⟩, by decide⟩
theorem lb_X5_addBath : LkB yX5_addBath cX5_addBath 3 1 (some .int) := ⟨wn_RX5, wc_X5_addBath, ⟨by decide +kernel, by decide +kernel, by decide +kernel⟩, by decide⟩
theorem lb_X5_addGoal : LkB yX5_addGoal cX5_addGoal 2 1 (some .int) := ⟨wn_RX5, wc_X5_addGoal, ⟨by decide +kernel, by decide +kernel, by decide +kernel⟩, by decide⟩
theorem lb_X5_allFillOne : LkB yX5_allFillOne cX5_allFillOne 1 0 (some .boolean) := ⟨wn_RX5, wc_X5_allFillOne, ⟨by decide +kernel, by decide +kernel, by decide +kernel⟩, by decide⟩
theorem lb_X5_dropGoals : LkB yX5_dropGoals cX5_dropGoals 1 0 none := ⟨wn_RX5, wc_X5_dropGoals, ⟨by decide +kernel, by decide +kernel, by decide +kernel⟩, by decide⟩
theorem lb_X5_filled : LkB yX5_filled cX5_filled 2 1 (some .int) := ⟨wn_RX5, wc_X5_filled, ⟨by decide +kernel, by decide +kernel, by decide +kernel⟩, by decide⟩
theorem lb_X5_filledBy : LkB yX5_filledBy cX5_filledBy 4 2 (some .int) := ⟨wn_RX5, wc_X5_filledBy, ⟨by decide +kernel, by decide +kernel, by decide +kernel⟩, by decide⟩
theorem lb_X5_freshBit : LkB yX5_freshBit cX5_freshBit 1 1 (some .int) := ⟨wn_RX5, wc_X5_freshBit, ⟨by decide +kernel, by decide +kernel, by decide +kernel⟩, by decide⟩
theorem lb_X5_hasFrail : LkB yX5_hasFrail cX5_hasFrail 1 0 (some .boolean) := ⟨wn_RX5, wc_X5_hasFrail, ⟨by decide +kernel, by decide +kernel, by decide +kernel⟩, by decide⟩
theorem lb_X5_hindrance : LkB yX5_hindrance cX5_hindrance 8 3 (some .int) := ⟨wn_RX5, wc_X5_hindrance, ⟨by decide +kernel, by decide +kernel, by decide +kernel⟩, by decide⟩
theorem lb_X5_isBath : LkB yX5_isBath cX5_isBath 2 1 (some .boolean) := ⟨wn_RX5, wc_X5_isBath, ⟨by decide +kernel, by decide +kernel, by decide +kernel⟩, by decide⟩
theorem lb_X5_isGoal : LkB yX5_isGoal cX5_isGoal 2 1 (some .boolean) := ⟨wn_RX5, wc_X5_isGoal, ⟨by decide +kernel, by decide +kernel, by decide +kernel⟩, by decide⟩
theorem lb_X5_known : LkB yX5_known cX5_known 4 1 (some .boolean) := ⟨wn_RX5, wc_X5_known, ⟨by decide +kernel, by decide +kernel, by decide +kernel⟩, by decide⟩
theorem lb_X5_lead : LkB yX5_lead cX5_lead 5 3 (some .int) := ⟨wn_RX5, wc_X5_lead, ⟨by decide +kernel, by decide +kernel, by decide +kernel⟩, by decide⟩
theorem lb_X5_learn : LkB yX5_learn cX5_learn 4 2 none := ⟨wn_RX5, wc_X5_learn, ⟨by decide +kernel, by decide +kernel, by decide +kernel⟩, by decide⟩
theorem lb_X5_nextTold : LkB yX5_nextTold cX5_nextTold 4 1 (some .int) := ⟨wn_RX5, wc_X5_nextTold, ⟨by decide +kernel, by decide +kernel, by decide +kernel⟩, by decide⟩
theorem lb_X5_reaches : LkB yX5_reaches cX5_reaches 3 1 (some .boolean) := ⟨wn_RX5, wc_X5_reaches, ⟨by decide +kernel, by decide +kernel, by decide +kernel⟩, by decide⟩
theorem lb_X5_stands : LkB yX5_stands cX5_stands 2 2 (some .boolean) := ⟨wn_RX5, wc_X5_stands, ⟨by decide +kernel, by decide +kernel, by decide +kernel⟩, by decide⟩
theorem lb_X5_whenMade : LkB yX5_whenMade cX5_whenMade 5 2 (some .int) := ⟨wn_RX5, wc_X5_whenMade, ⟨by decide +kernel, by decide +kernel, by decide +kernel⟩, by decide⟩
theorem lb_X5_whenPoured : LkB yX5_whenPoured cX5_whenPoured 3 2 (some .int) := ⟨wn_RX5, wc_X5_whenPoured, ⟨by decide +kernel, by decide +kernel, by decide +kernel⟩, by decide⟩
theorem lb_X5_withStood : LkB yX5_withStood cX5_withStood 4 1 (some .int) := ⟨wn_RX5, wc_X5_withStood, ⟨by decide +kernel, by decide +kernel, by decide +kernel⟩, by decide⟩
theorem lb_X6_anyStands : LkB yX6_anyStands cX6_anyStands 1 0 (some .boolean) := ⟨wn_RX6, wc_X6_anyStands, ⟨by decide +kernel, by decide +kernel, by decide +kernel⟩, by decide⟩
theorem lb_X6_bath : LkB yX6_bath cX6_bath 2 1 (some .int) := ⟨wn_RX6, wc_X6_bath, ⟨by decide +kernel, by decide +kernel, by decide +kernel⟩, by decide⟩
theorem lb_X6_bit : LkB yX6_bit cX6_bit 2 1 (some .int) := ⟨wn_RX6, wc_X6_bit, ⟨by decide +kernel, by decide +kernel, by decide +kernel⟩, by decide⟩
theorem lb_X6_check : LkB yX6_check cX6_check 2 1 (some .int) := ⟨wn_RX6, wc_X6_check, ⟨by decide +kernel, by decide +kernel, by decide +kernel⟩, by decide⟩
theorem lb_X6_count : LkB yX6_count cX6_count 2 1 (some .int) := ⟨wn_RX6, wc_X6_count, ⟨by decide +kernel, by decide +kernel, by decide +kernel⟩, by decide⟩
theorem lb_X6_fewest : LkB yX6_fewest cX6_fewest 2 1 (some .int) := ⟨wn_RX6, wc_X6_fewest, ⟨by decide +kernel, by decide +kernel, by decide +kernel⟩, by decide⟩
theorem lb_X6_flip : LkB yX6_flip cX6_flip 2 1 (some .int) := ⟨wn_RX6, wc_X6_flip, ⟨by decide +kernel, by decide +kernel, by decide +kernel⟩, by decide⟩
theorem lb_X6_forget : LkB yX6_forget cX6_forget 2 0 (some .int) := ⟨wn_RX6, wc_X6_forget, ⟨by decide +kernel, by decide +kernel, by decide +kernel⟩, by decide⟩
theorem lb_X6_freeVats : LkB yX6_freeVats cX6_freeVats 1 0 (some .int) := ⟨wn_RX6, wc_X6_freeVats, ⟨by decide +kernel, by decide +kernel, by decide +kernel⟩, by decide⟩
theorem lb_X6_goal : LkB yX6_goal cX6_goal 2 1 (some .int) := ⟨wn_RX6, wc_X6_goal, ⟨by decide +kernel, by decide +kernel, by decide +kernel⟩, by decide⟩
theorem lb_X6_isRowBit : LkB yX6_isRowBit cX6_isRowBit 1 1 (some .boolean) := ⟨wn_RX6, wc_X6_isRowBit, ⟨by decide +kernel, by decide +kernel, by decide +kernel⟩, by decide⟩
theorem lb_X6_isType : LkB yX6_isType cX6_isType 1 1 (some .boolean) := ⟨wn_RX6, wc_X6_isType, ⟨by decide +kernel, by decide +kernel, by decide +kernel⟩, by decide⟩
theorem lb_X6_isVatCount : LkB yX6_isVatCount cX6_isVatCount 1 1 (some .boolean) := ⟨wn_RX6, wc_X6_isVatCount, ⟨by decide +kernel, by decide +kernel, by decide +kernel⟩, by decide⟩
theorem lb_X6_least : LkB yX6_least cX6_least 2 0 (some .int) := ⟨wn_RX6, wc_X6_least, ⟨by decide +kernel, by decide +kernel, by decide +kernel⟩, by decide⟩
theorem lb_X6_lose : LkB yX6_lose cX6_lose 3 1 (some .int) := ⟨wn_RX6, wc_X6_lose, ⟨by decide +kernel, by decide +kernel, by decide +kernel⟩, by decide⟩
theorem lb_X6_make : LkB yX6_make cX6_make 2 1 (some .int) := ⟨wn_RX6, wc_X6_make, ⟨by decide +kernel, by decide +kernel, by decide +kernel⟩, by decide⟩
theorem lb_X6_named : LkB yX6_named cX6_named 4 3 (some .int) := ⟨wn_RX6, wc_X6_named, ⟨by decide +kernel, by decide +kernel, by decide +kernel⟩, by decide⟩
theorem lb_X6_need : LkB yX6_need cX6_need 5 3 (some .int) := ⟨wn_RX6, wc_X6_need, ⟨by decide +kernel, by decide +kernel, by decide +kernel⟩, by decide⟩
theorem lb_X6_of : LkB yX6_of cX6_of 3 2 (some .int) := ⟨wn_RX6, wc_X6_of, ⟨by decide +kernel, by decide +kernel, by decide +kernel⟩, by decide⟩
theorem lb_X6_order : LkB yX6_order cX6_order 5 1 (some .int) := ⟨wn_RX6, wc_X6_order, ⟨by decide +kernel, by decide +kernel, by decide +kernel⟩, by decide⟩
theorem lb_X6_plan : LkB yX6_plan cX6_plan 4 2 (some .int) := ⟨wn_RX6, wc_X6_plan, ⟨by decide +kernel, by decide +kernel, by decide +kernel⟩, by decide⟩
theorem lb_X6_pour : LkB yX6_pour cX6_pour 2 1 (some .int) := ⟨wn_RX6, wc_X6_pour, ⟨by decide +kernel, by decide +kernel, by decide +kernel⟩, by decide⟩
theorem lb_X6_reach : LkB yX6_reach cX6_reach 2 1 (some .int) := ⟨wn_RX6, wc_X6_reach, ⟨by decide +kernel, by decide +kernel, by decide +kernel⟩, by decide⟩
theorem lb_X6_recipe : LkB yX6_recipe cX6_recipe 4 3 (some .int) := ⟨wn_RX6, wc_X6_recipe, ⟨by decide +kernel, by decide +kernel, by decide +kernel⟩, by decide⟩
theorem lb_X6_recipeChanged : LkB yX6_recipeChanged cX6_recipeChanged 2 1 none := ⟨wn_RX6, wc_X6_recipeChanged, ⟨by decide +kernel, by decide +kernel, by decide +kernel⟩, by decide⟩
theorem lb_X6_ring : LkB yX6_ring cX6_ring 2 1 (some .int) := ⟨wn_RX6, wc_X6_ring, ⟨by decide +kernel, by decide +kernel, by decide +kernel⟩, by decide⟩
theorem lb_X6_row : LkB yX6_row cX6_row 2 1 (some .int) := ⟨wn_RX6, wc_X6_row, ⟨by decide +kernel, by decide +kernel, by decide +kernel⟩, by decide⟩
theorem lb_X6_together : LkB yX6_together cX6_together 3 1 (some .int) := ⟨wn_RX6, wc_X6_together, ⟨by decide +kernel, by decide +kernel, by decide +kernel⟩, by decide⟩
theorem lb_X6_undo : LkB yX6_undo cX6_undo 2 0 (some .int) := ⟨wn_RX6, wc_X6_undo, ⟨by decide +kernel, by decide +kernel, by decide +kernel⟩, by decide⟩
theorem lb_X6_vats : LkB yX6_vats cX6_vats 3 1 (some .int) := ⟨wn_RX6, wc_X6_vats, ⟨by decide +kernel, by decide +kernel, by decide +kernel⟩, by decide⟩
theorem lb_X6_where : LkB yX6_where cX6_where 1 0 (some .int) := ⟨wn_RX6, wc_X6_where, ⟨by decide +kernel, by decide +kernel, by decide +kernel⟩, by decide⟩
theorem lb_X6_why : LkB yX6_why cX6_why 2 1 (some .int) := ⟨wn_RX6, wc_X6_why, ⟨by decide +kernel, by decide +kernel, by decide +kernel⟩, by decide⟩
theorem lb_X7_bath : LkB yX7_bath cX7_bath 2 1 (some .int) := ⟨wn_RX7, wc_X7_bath, ⟨by decide +kernel, by decide +kernel, by decide +kernel⟩, by decide⟩
theorem lb_X7_behind : LkB yX7_behind cX7_behind 10 3 (some .int) := ⟨wn_RX7, wc_X7_behind, ⟨by decide +kernel, by decide +kernel, by decide +kernel⟩, by decide⟩
theorem lb_X7_bit : LkB yX7_bit cX7_bit 2 1 (some .int) := ⟨wn_RX7, wc_X7_bit, ⟨by decide +kernel, by decide +kernel, by decide +kernel⟩, by decide⟩
theorem lb_X7_bitBehind : LkB yX7_bitBehind cX7_bitBehind 5 3 (some .int) := ⟨wn_RX7, wc_X7_bitBehind, ⟨by decide +kernel, by decide +kernel, by decide +kernel⟩, by decide⟩
theorem lb_X7_check : LkB yX7_check cX7_check 3 1 (some .int) := ⟨wn_RX7, wc_X7_check, ⟨by decide +kernel, by decide +kernel, by decide +kernel⟩, by decide⟩
theorem lb_X7_count : LkB yX7_count cX7_count 4 1 (some .int) := ⟨wn_RX7, wc_X7_count, ⟨by decide +kernel, by decide +kernel, by decide +kernel⟩, by decide⟩
theorem lb_X7_countSteps : LkB yX7_countSteps cX7_countSteps 6 1 none := ⟨wn_RX7, wc_X7_countSteps, ⟨by decide +kernel, by decide +kernel, by decide +kernel⟩, by decide⟩
theorem lb_X7_faultOf : LkB yX7_faultOf cX7_faultOf 8 2 (some .int) := ⟨wn_RX7, wc_X7_faultOf, ⟨by decide +kernel, by decide +kernel, by decide +kernel⟩, by decide⟩
theorem lb_X7_fewest : LkB yX7_fewest cX7_fewest 3 1 (some .int) := ⟨wn_RX7, wc_X7_fewest, ⟨by decide +kernel, by decide +kernel, by decide +kernel⟩, by decide⟩
theorem lb_X7_filled : LkB yX7_filled cX7_filled 5 2 (some .int) := ⟨wn_RX7, wc_X7_filled, ⟨by decide +kernel, by decide +kernel, by decide +kernel⟩, by decide⟩
theorem lb_X7_fills : LkB yX7_fills cX7_fills 4 3 (some .int) := ⟨wn_RX7, wc_X7_fills, ⟨by decide +kernel, by decide +kernel, by decide +kernel⟩, by decide⟩
theorem lb_X7_flip : LkB yX7_flip cX7_flip 2 1 (some .int) := ⟨wn_RX7, wc_X7_flip, ⟨by decide +kernel, by decide +kernel, by decide +kernel⟩, by decide⟩
theorem lb_X7_forget : LkB yX7_forget cX7_forget 2 0 (some .int) := ⟨wn_RX7, wc_X7_forget, ⟨by decide +kernel, by decide +kernel, by decide +kernel⟩, by decide⟩
theorem lb_X7_free : LkB yX7_free cX7_free 1 0 (some .int) := ⟨wn_RX7, wc_X7_free, ⟨by decide +kernel, by decide +kernel, by decide +kernel⟩, by decide⟩
theorem lb_X7_freshBehind : LkB yX7_freshBehind cX7_freshBehind 2 1 (some .int) := ⟨wn_RX7, wc_X7_freshBehind, ⟨by decide +kernel, by decide +kernel, by decide +kernel⟩, by decide⟩
theorem lb_X7_freshPoured : LkB yX7_freshPoured cX7_freshPoured 2 2 (some .int) := ⟨wn_RX7, wc_X7_freshPoured, ⟨by decide +kernel, by decide +kernel, by decide +kernel⟩, by decide⟩
theorem lb_X7_goal : LkB yX7_goal cX7_goal 4 1 (some .int) := ⟨wn_RX7, wc_X7_goal, ⟨by decide +kernel, by decide +kernel, by decide +kernel⟩, by decide⟩
theorem lb_X7_has : LkB yX7_has cX7_has 2 2 (some .boolean) := ⟨wn_RX7, wc_X7_has, ⟨by decide +kernel, by decide +kernel, by decide +kernel⟩, by decide⟩
theorem lb_X7_isBath : LkB yX7_isBath cX7_isBath 2 1 (some .boolean) := ⟨wn_RX7, wc_X7_isBath, ⟨by decide +kernel, by decide +kernel, by decide +kernel⟩, by decide⟩
theorem lb_X7_isEnd : LkB yX7_isEnd cX7_isEnd 3 2 (some .boolean) := ⟨wn_RX7, wc_X7_isEnd, ⟨by decide +kernel, by decide +kernel, by decide +kernel⟩, by decide⟩
theorem lb_X7_isPlain : LkB yX7_isPlain cX7_isPlain 3 0 (some .boolean) := ⟨wn_RX7, wc_X7_isPlain, ⟨by decide +kernel, by decide +kernel, by decide +kernel⟩, by decide⟩
theorem lb_X7_keep : LkB yX7_keep cX7_keep 3 1 none := ⟨wn_RX7, wc_X7_keep, ⟨by decide +kernel, by decide +kernel, by decide +kernel⟩, by decide⟩
theorem lb_X7_least : LkB yX7_least cX7_least 2 0 (some .int) := ⟨wn_RX7, wc_X7_least, ⟨by decide +kernel, by decide +kernel, by decide +kernel⟩, by decide⟩
theorem lb_X7_lose : LkB yX7_lose cX7_lose 3 1 (some .int) := ⟨wn_RX7, wc_X7_lose, ⟨by decide +kernel, by decide +kernel, by decide +kernel⟩, by decide⟩
theorem lb_X7_make : LkB yX7_make cX7_make 2 1 (some .int) := ⟨wn_RX7, wc_X7_make, ⟨by decide +kernel, by decide +kernel, by decide +kernel⟩, by decide⟩
theorem lb_X7_named : LkB yX7_named cX7_named 4 3 (some .int) := ⟨wn_RX7, wc_X7_named, ⟨by decide +kernel, by decide +kernel, by decide +kernel⟩, by decide⟩
theorem lb_X7_need : LkB yX7_need cX7_need 5 3 (some .int) := ⟨wn_RX7, wc_X7_need, ⟨by decide +kernel, by decide +kernel, by decide +kernel⟩, by decide⟩
theorem lb_X7_needs : LkB yX7_needs cX7_needs 5 2 (some .boolean) := ⟨wn_RX7, wc_X7_needs, ⟨by decide +kernel, by decide +kernel, by decide +kernel⟩, by decide⟩
theorem lb_X7_of : LkB yX7_of cX7_of 3 2 (some .int) := ⟨wn_RX7, wc_X7_of, ⟨by decide +kernel, by decide +kernel, by decide +kernel⟩, by decide⟩
theorem lb_X7_ones : LkB yX7_ones cX7_ones 3 0 (some .int) := ⟨wn_RX7, wc_X7_ones, ⟨by decide +kernel, by decide +kernel, by decide +kernel⟩, by decide⟩
theorem lb_X7_order : LkB yX7_order cX7_order 9 1 (some .int) := ⟨wn_RX7, wc_X7_order, ⟨by decide +kernel, by decide +kernel, by decide +kernel⟩, by decide⟩
theorem lb_X7_plan : LkB yX7_plan cX7_plan 4 2 (some .int) := ⟨wn_RX7, wc_X7_plan, ⟨by decide +kernel, by decide +kernel, by decide +kernel⟩, by decide⟩
theorem lb_X7_pour : LkB yX7_pour cX7_pour 2 1 (some .int) := ⟨wn_RX7, wc_X7_pour, ⟨by decide +kernel, by decide +kernel, by decide +kernel⟩, by decide⟩
theorem lb_X7_price : LkB yX7_price cX7_price 1 1 (some .int) := ⟨wn_RX7, wc_X7_price, ⟨by decide +kernel, by decide +kernel, by decide +kernel⟩, by decide⟩
theorem lb_X7_reach : LkB yX7_reach cX7_reach 7 1 (some .int) := ⟨wn_RX7, wc_X7_reach, ⟨by decide +kernel, by decide +kernel, by decide +kernel⟩, by decide⟩
theorem lb_X7_reason : LkB yX7_reason cX7_reason 7 4 (some .int) := ⟨wn_RX7, wc_X7_reason, ⟨by decide +kernel, by decide +kernel, by decide +kernel⟩, by decide⟩
theorem lb_X7_recipe : LkB yX7_recipe cX7_recipe 5 3 (some .int) := ⟨wn_RX7, wc_X7_recipe, ⟨by decide +kernel, by decide +kernel, by decide +kernel⟩, by decide⟩
theorem lb_X7_ring : LkB yX7_ring cX7_ring 2 1 (some .int) := ⟨wn_RX7, wc_X7_ring, ⟨by decide +kernel, by decide +kernel, by decide +kernel⟩, by decide⟩
theorem lb_X7_row : LkB yX7_row cX7_row 6 1 (some .int) := ⟨wn_RX7, wc_X7_row, ⟨by decide +kernel, by decide +kernel, by decide +kernel⟩, by decide⟩
theorem lb_X7_spread : LkB yX7_spread cX7_spread 7 1 (some .int) := ⟨wn_RX7, wc_X7_spread, ⟨by decide +kernel, by decide +kernel, by decide +kernel⟩, by decide⟩
theorem lb_X7_stand : LkB yX7_stand cX7_stand 4 1 (some .boolean) := ⟨wn_RX7, wc_X7_stand, ⟨by decide +kernel, by decide +kernel, by decide +kernel⟩, by decide⟩
theorem lb_X7_standsBehind : LkB yX7_standsBehind cX7_standsBehind 4 2 (some .int) := ⟨wn_RX7, wc_X7_standsBehind, ⟨by decide +kernel, by decide +kernel, by decide +kernel⟩, by decide⟩
theorem lb_X7_stood : LkB yX7_stood cX7_stood 5 2 (some .int) := ⟨wn_RX7, wc_X7_stood, ⟨by decide +kernel, by decide +kernel, by decide +kernel⟩, by decide⟩
theorem lb_X7_tellRing : LkB yX7_tellRing cX7_tellRing 5 2 none := ⟨wn_RX7, wc_X7_tellRing, ⟨by decide +kernel, by decide +kernel, by decide +kernel⟩, by decide⟩
theorem lb_X7_together : LkB yX7_together cX7_together 3 1 (some .int) := ⟨wn_RX7, wc_X7_together, ⟨by decide +kernel, by decide +kernel, by decide +kernel⟩, by decide⟩
theorem lb_X7_trace : LkB yX7_trace cX7_trace 6 2 none := ⟨wn_RX7, wc_X7_trace, ⟨by decide +kernel, by decide +kernel, by decide +kernel⟩, by decide⟩
theorem lb_X7_undo : LkB yX7_undo cX7_undo 1 0 (some .int) := ⟨wn_RX7, wc_X7_undo, ⟨by decide +kernel, by decide +kernel, by decide +kernel⟩, by decide⟩
theorem lb_X7_used : LkB yX7_used cX7_used 3 1 (some .int) := ⟨wn_RX7, wc_X7_used, ⟨by decide +kernel, by decide +kernel, by decide +kernel⟩, by decide⟩
theorem lb_X7_vats : LkB yX7_vats cX7_vats 3 1 (some .int) := ⟨wn_RX7, wc_X7_vats, ⟨by decide +kernel, by decide +kernel, by decide +kernel⟩, by decide⟩
theorem lb_X7_where : LkB yX7_where cX7_where 1 0 (some .int) := ⟨wn_RX7, wc_X7_where, ⟨by decide +kernel, by decide +kernel, by decide +kernel⟩, by decide⟩
theorem lb_X7_why : LkB yX7_why cX7_why 2 1 (some .int) := ⟨wn_RX7, wc_X7_why, ⟨by decide +kernel, by decide +kernel, by decide +kernel⟩, by decide⟩
theorem lk_RL_13 : LkV RL 13 yX6_vats := ⟨wl_RL_13, wi_X6_vats, wv_X6_vats⟩
theorem lk_RL_17 : LkV RL 17 yX7_vats := ⟨wl_RL_17, wi_X7_vats, wv_X7_vats⟩
theorem lk_RL_18 : LkV RL 18 yX6_bath := ⟨wl_RL_18, wi_X6_bath, wv_X6_bath⟩
theorem lk_RL_21 : LkV RL 21 yX7_bath := ⟨wl_RL_21, wi_X7_bath, wv_X7_bath⟩
theorem lk_RL_22 : LkV RL 22 yX6_recipe := ⟨wl_RL_22, wi_X6_recipe, wv_X6_recipe⟩
theorem lk_RL_26 : LkV RL 26 yX7_recipe := ⟨wl_RL_26, wi_X7_recipe, wv_X7_recipe⟩
theorem lk_RL_27 : LkV RL 27 yX6_lose := ⟨wl_RL_27, wi_X6_lose, wv_X6_lose⟩
theorem lk_RL_30 : LkV RL 30 yX7_lose := ⟨wl_RL_30, wi_X7_lose, wv_X7_lose⟩
theorem lk_RL_31 : LkV RL 31 yX6_need := ⟨wl_RL_31, wi_X6_need, wv_X6_need⟩
theorem lk_RL_34 : LkV RL 34 yX7_need := ⟨wl_RL_34, wi_X7_need, wv_X7_need⟩
theorem lk_RL_35 : LkV RL 35 yX6_named := ⟨wl_RL_35, wi_X6_named, wv_X6_named⟩
theorem lk_RL_38 : LkV RL 38 yX7_named := ⟨wl_RL_38, wi_X7_named, wv_X7_named⟩
theorem lk_RL_39 : LkV RL 39 yX6_ring := ⟨wl_RL_39, wi_X6_ring, wv_X6_ring⟩
theorem lk_RL_42 : LkV RL 42 yX7_ring := ⟨wl_RL_42, wi_X7_ring, wv_X7_ring⟩
theorem lk_RL_43 : LkV RL 43 yX6_order := ⟨wl_RL_43, wi_X6_order, wv_X6_order⟩
theorem lk_RL_46 : LkV RL 46 yX7_order := ⟨wl_RL_46, wi_X7_order, wv_X7_order⟩
theorem lk_RL_47 : LkV RL 47 yX6_goal := ⟨wl_RL_47, wi_X6_goal, wv_X6_goal⟩
theorem lk_RL_50 : LkV RL 50 yX7_goal := ⟨wl_RL_50, wi_X7_goal, wv_X7_goal⟩
theorem lk_RL_51 : LkV RL 51 yX6_forget := ⟨wl_RL_51, wi_X6_forget, wv_X6_forget⟩
theorem lk_RL_55 : LkV RL 55 yX7_forget := ⟨wl_RL_55, wi_X7_forget, wv_X7_forget⟩
theorem lk_RL_56 : LkV RL 56 yX6_together := ⟨wl_RL_56, wi_X6_together, wv_X6_together⟩
theorem lk_RL_60 : LkV RL 60 yX7_together := ⟨wl_RL_60, wi_X7_together, wv_X7_together⟩
theorem lk_RL_61 : LkV RL 61 yX6_make := ⟨wl_RL_61, wi_X6_make, wv_X6_make⟩
theorem lk_RL_64 : LkV RL 64 yX7_make := ⟨wl_RL_64, wi_X7_make, wv_X7_make⟩
theorem lk_RL_65 : LkV RL 65 yX6_why := ⟨wl_RL_65, wi_X6_why, wv_X6_why⟩
theorem lk_RL_68 : LkV RL 68 yX7_why := ⟨wl_RL_68, wi_X7_why, wv_X7_why⟩
theorem lk_RL_69 : LkV RL 69 yX6_pour := ⟨wl_RL_69, wi_X6_pour, wv_X6_pour⟩
theorem lk_RL_72 : LkV RL 72 yX7_pour := ⟨wl_RL_72, wi_X7_pour, wv_X7_pour⟩
theorem lk_RL_73 : LkV RL 73 yX6_undo := ⟨wl_RL_73, wi_X6_undo, wv_X6_undo⟩
theorem lk_RL_76 : LkV RL 76 yX7_undo := ⟨wl_RL_76, wi_X7_undo, wv_X7_undo⟩
theorem lk_RL_77 : LkV RL 77 yX6_of := ⟨wl_RL_77, wi_X6_of, wv_X6_of⟩
theorem lk_RL_81 : LkV RL 81 yX7_of := ⟨wl_RL_81, wi_X7_of, wv_X7_of⟩
theorem lk_RL_82 : LkV RL 82 yX6_count := ⟨wl_RL_82, wi_X6_count, wv_X6_count⟩
theorem lk_RL_85 : LkV RL 85 yX7_count := ⟨wl_RL_85, wi_X7_count, wv_X7_count⟩
theorem lk_RL_86 : LkV RL 86 yX6_least := ⟨wl_RL_86, wi_X6_least, wv_X6_least⟩
theorem lk_RL_89 : LkV RL 89 yX7_least := ⟨wl_RL_89, wi_X7_least, wv_X7_least⟩
theorem lk_RL_90 : LkV RL 90 yX6_fewest := ⟨wl_RL_90, wi_X6_fewest, wv_X6_fewest⟩
theorem lk_RL_93 : LkV RL 93 yX7_fewest := ⟨wl_RL_93, wi_X7_fewest, wv_X7_fewest⟩
theorem lk_RL_94 : LkV RL 94 yX6_plan := ⟨wl_RL_94, wi_X6_plan, wv_X6_plan⟩
theorem lk_RL_97 : LkV RL 97 yX7_plan := ⟨wl_RL_97, wi_X7_plan, wv_X7_plan⟩
theorem lk_RL_98 : LkV RL 98 yX6_reach := ⟨wl_RL_98, wi_X6_reach, wv_X6_reach⟩
theorem lk_RL_101 : LkV RL 101 yX7_reach := ⟨wl_RL_101, wi_X7_reach, wv_X7_reach⟩
theorem lk_RL_102 : LkV RL 102 yX6_row := ⟨wl_RL_102, wi_X6_row, wv_X6_row⟩
theorem lk_RL_105 : LkV RL 105 yX7_row := ⟨wl_RL_105, wi_X7_row, wv_X7_row⟩
theorem lk_RL_106 : LkV RL 106 yX6_bit := ⟨wl_RL_106, wi_X6_bit, wv_X6_bit⟩
theorem lk_RL_109 : LkV RL 109 yX7_bit := ⟨wl_RL_109, wi_X7_bit, wv_X7_bit⟩
theorem lk_RL_110 : LkV RL 110 yX6_flip := ⟨wl_RL_110, wi_X6_flip, wv_X6_flip⟩
theorem lk_RL_113 : LkV RL 113 yX7_flip := ⟨wl_RL_113, wi_X7_flip, wv_X7_flip⟩
theorem lk_RL_114 : LkV RL 114 yX6_check := ⟨wl_RL_114, wi_X6_check, wv_X6_check⟩
theorem lk_RL_117 : LkV RL 117 yX7_check := ⟨wl_RL_117, wi_X7_check, wv_X7_check⟩
theorem lk_RL_118 : LkV RL 118 yX6_where := ⟨wl_RL_118, wi_X6_where, wv_X6_where⟩
theorem lk_RL_121 : LkV RL 121 yX7_where := ⟨wl_RL_121, wi_X7_where, wv_X7_where⟩
theorem lk_RX0_25 : LkS RX0 25 yJ9_min_7cf53 := ⟨wl_RX0_25, ws_J9_min_7cf53⟩
theorem lk_RX0_31 : LkS RX0 31 yJ9_max_7cf53 := ⟨wl_RX0_31, ws_J9_max_7cf53⟩
theorem lk_RX1_41 : LkS RX1 41 yJ7_fill_53178 := ⟨wl_RX1_41, ws_J7_fill_53178⟩
theorem lk_RX1_47 : LkV RX1 47 yX1_explore := ⟨wl_RX1_47, wi_X1_explore, wv_X1_explore⟩
theorem lk_RX1_51 : LkV RX1 51 yX1_dropDetours := ⟨wl_RX1_51, wi_X1_dropDetours, wv_X1_dropDetours⟩
theorem lk_RX1_54 : LkV RX1 54 yX1_writePlan := ⟨wl_RX1_54, wi_X1_writePlan, wv_X1_writePlan⟩
theorem lk_RX1_58 : LkV RX1 58 yX1_flood := ⟨wl_RX1_58, wi_X1_flood, wv_X1_flood⟩
theorem lk_RX1_62 : LkV RX1 62 yX1_startLine := ⟨wl_RX1_62, wi_X1_startLine, wv_X1_startLine⟩
theorem lk_RX1_65 : LkV RX1 65 yX5_lead := ⟨wl_RX1_65, wi_X5_lead, wv_X5_lead⟩
theorem lk_RX1_71 : LkV RX1 71 yX1_join := ⟨wl_RX1_71, wi_X1_join, wv_X1_join⟩
theorem lk_RX1_75 : LkV RX1 75 yX5_hasFrail := ⟨wl_RX1_75, wi_X5_hasFrail, wv_X5_hasFrail⟩
theorem lk_RX1_80 : LkV RX1 80 yX5_reaches := ⟨wl_RX1_80, wi_X5_reaches, wv_X5_reaches⟩
theorem lk_RX1_87 : LkS RX1 87 yJ9_min_7cf53 := ⟨wl_RX1_87, ws_J9_min_7cf53⟩
theorem lk_RX1_92 : LkV RX1 92 yX1_spread := ⟨wl_RX1_92, wi_X1_spread, wv_X1_spread⟩
theorem lk_RX1_99 : LkV RX1 99 yX1_firstActOn := ⟨wl_RX1_99, wi_X1_firstActOn, wv_X1_firstActOn⟩
theorem lk_RX2_30 : LkS RX2 30 yJ7_fill_031fb := ⟨wl_RX2_30, ws_J7_fill_031fb⟩
theorem lk_RX2_36 : LkV RX2 36 yX1_flood := ⟨wl_RX2_36, wi_X1_flood, wv_X1_flood⟩
theorem lk_RX2_42 : LkV RX2 42 yX1_sceneAt := ⟨wl_RX2_42, wi_X1_sceneAt, wv_X1_sceneAt⟩
theorem lk_RX2_50 : LkV RX2 50 yX2_turn := ⟨wl_RX2_50, wi_X2_turn, wv_X2_turn⟩
theorem lk_RX2_53 : LkV RX2 53 yX2_faultOf := ⟨wl_RX2_53, wi_X2_faultOf, wv_X2_faultOf⟩
theorem lk_RX2_56 : LkV RX2 56 yX5_reaches := ⟨wl_RX2_56, wi_X5_reaches, wv_X5_reaches⟩
theorem lk_RX2_61 : LkV RX2 61 yX5_known := ⟨wl_RX2_61, wi_X5_known, wv_X5_known⟩
theorem lk_RX2_64 : LkV RX2 64 yX5_lead := ⟨wl_RX2_64, wi_X5_lead, wv_X5_lead⟩
theorem lk_RX3_21 : LkS RX3 21 yJ7_fill_53178 := ⟨wl_RX3_21, ws_J7_fill_53178⟩
theorem lk_RX3_27 : LkV RX3 27 yX3_setName := ⟨wl_RX3_27, wi_X3_setName, wv_X3_setName⟩
theorem lk_RX3_31 : LkV RX3 31 yX3_nameAt := ⟨wl_RX3_31, wi_X3_nameAt, wv_X3_nameAt⟩
theorem lk_RX3_35 : LkS RX3 35 yX3_bitOf := ⟨wl_RX3_35, ws_X3_bitOf⟩
theorem lk_RX4_22 : LkV RX4 22 yX4_measure := ⟨wl_RX4_22, wi_X4_measure, wv_X4_measure⟩
theorem lk_RX4_26 : LkV RX4 26 yX4_nearer := ⟨wl_RX4_26, wi_X4_nearer, wv_X4_nearer⟩
theorem lk_RX4_30 : LkS RX4 30 yJ7_fill_53178 := ⟨wl_RX4_30, ws_J7_fill_53178⟩
theorem lk_RX5_50 : LkV RX5 50 yX3_has := ⟨wl_RX5_50, wi_X3_has, wv_X3_has⟩
theorem lk_RX5_56 : LkV RX5 56 yX3_namedBits := ⟨wl_RX5_56, wi_X3_namedBits, wv_X3_namedBits⟩
theorem lk_RX5_60 : LkV RX5 60 yX3_firstNamedBit := ⟨wl_RX5_60, wi_X3_firstNamedBit, wv_X3_firstNamedBit⟩
theorem lk_RX5_63 : LkV RX5 63 yX5_filledBy := ⟨wl_RX5_63, wi_X5_filledBy, wv_X5_filledBy⟩
theorem lk_RX5_67 : LkS RX5 67 yX5_freshBit := ⟨wl_RX5_67, ws_X5_freshBit⟩
theorem lk_RX5_70 : LkS RX5 70 yJ6_bitCount_0f7a4 := ⟨wl_RX5_70, ws_J6_bitCount_0f7a4⟩
theorem lk_RX5_75 : LkV RX5 75 yX5_hindrance := ⟨wl_RX5_75, wi_X5_hindrance, wv_X5_hindrance⟩
theorem lk_RX5_79 : LkV RX5 79 yX5_whenMade := ⟨wl_RX5_79, wi_X5_whenMade, wv_X5_whenMade⟩
theorem lk_RX5_82 : LkV RX5 82 yX5_withStood := ⟨wl_RX5_82, wi_X5_withStood, wv_X5_withStood⟩
theorem lk_RX5_85 : LkS RX5 85 yX5_stands := ⟨wl_RX5_85, ws_X5_stands⟩
theorem lk_RX5_89 : LkS RX5 89 yX5_whenPoured := ⟨wl_RX5_89, ws_X5_whenPoured⟩
theorem lk_RX6_66 : LkS RX6 66 yX6_isVatCount := ⟨wl_RX6_66, ws_X6_isVatCount⟩
theorem lk_RX6_70 : LkV RX6 70 yX5_filled := ⟨wl_RX6_70, wi_X5_filled, wv_X5_filled⟩
theorem lk_RX6_74 : LkV RX6 74 yX0_clear := ⟨wl_RX6_74, wi_X0_clear, wv_X0_clear⟩
theorem lk_RX6_83 : LkV RX6 83 yX1_outdate := ⟨wl_RX6_83, wi_X1_outdate, wv_X1_outdate⟩
theorem lk_RX6_86 : LkV RX6 86 yX5_addBath := ⟨wl_RX6_86, wi_X5_addBath, wv_X5_addBath⟩
theorem lk_RX6_89 : LkV RX6 89 yX5_isBath := ⟨wl_RX6_89, wi_X5_isBath, wv_X5_isBath⟩
theorem lk_RX6_92 : LkS RX6 92 yX6_isType := ⟨wl_RX6_92, ws_X6_isType⟩
theorem lk_RX6_95 : LkV RX6 95 yX6_anyStands := ⟨wl_RX6_95, wi_X6_anyStands, wv_X6_anyStands⟩
theorem lk_RX6_99 : LkV RX6 99 yX3_begin := ⟨wl_RX6_99, wi_X3_begin, wv_X3_begin⟩
theorem lk_RX6_103 : LkV RX6 103 yX6_recipeChanged := ⟨wl_RX6_103, wi_X6_recipeChanged, wv_X6_recipeChanged⟩
theorem lk_RX6_107 : LkV RX6 107 yX3_has := ⟨wl_RX6_107, wi_X3_has, wv_X3_has⟩
theorem lk_RX6_110 : LkV RX6 110 yX3_drop := ⟨wl_RX6_110, wi_X3_drop, wv_X3_drop⟩
theorem lk_RX6_113 : LkV RX6 113 yX3_hasPlace := ⟨wl_RX6_113, wi_X3_hasPlace, wv_X3_hasPlace⟩
theorem lk_RX6_120 : LkV RX6 120 yX4_closes := ⟨wl_RX6_120, wi_X4_closes, wv_X4_closes⟩
theorem lk_RX6_124 : LkV RX6 124 yX3_nameAt := ⟨wl_RX6_124, wi_X3_nameAt, wv_X3_nameAt⟩
theorem lk_RX6_128 : LkV RX6 128 yX3_setName := ⟨wl_RX6_128, wi_X3_setName, wv_X3_setName⟩
theorem lk_RX6_139 : LkV RX6 139 yX5_nextTold := ⟨wl_RX6_139, wi_X5_nextTold, wv_X5_nextTold⟩
theorem lk_RX6_142 : LkV RX6 142 yX5_isGoal := ⟨wl_RX6_142, wi_X5_isGoal, wv_X5_isGoal⟩
theorem lk_RX6_148 : LkV RX6 148 yX5_addGoal := ⟨wl_RX6_148, wi_X5_addGoal, wv_X5_addGoal⟩
theorem lk_RX6_151 : LkV RX6 151 yX5_dropGoals := ⟨wl_RX6_151, wi_X5_dropGoals, wv_X5_dropGoals⟩
theorem lk_RX6_158 : LkV RX6 158 yX5_hindrance := ⟨wl_RX6_158, wi_X5_hindrance, wv_X5_hindrance⟩
theorem lk_RX6_162 : LkV RX6 162 yX0_keep := ⟨wl_RX6_162, wi_X0_keep, wv_X0_keep⟩
theorem lk_RX6_166 : LkV RX6 166 yX5_whenMade := ⟨wl_RX6_166, wi_X5_whenMade, wv_X5_whenMade⟩
theorem lk_RX6_169 : LkV RX6 169 yX6_freeVats := ⟨wl_RX6_169, wi_X6_freeVats, wv_X6_freeVats⟩
theorem lk_RX6_173 : LkS RX6 173 yX5_stands := ⟨wl_RX6_173, ws_X5_stands⟩
theorem lk_RX6_176 : LkS RX6 176 yX5_whenPoured := ⟨wl_RX6_176, ws_X5_whenPoured⟩
theorem lk_RX6_182 : LkV RX6 182 yX0_stepBack := ⟨wl_RX6_182, wi_X0_stepBack, wv_X0_stepBack⟩
theorem lk_RX6_185 : LkV RX6 185 yX0_madeThere := ⟨wl_RX6_185, wi_X0_madeThere, wv_X0_madeThere⟩
theorem lk_RX6_188 : LkV RX6 188 yX0_sceneThere := ⟨wl_RX6_188, wi_X0_sceneThere, wv_X0_sceneThere⟩
theorem lk_RX6_194 : LkV RX6 194 yX5_filledBy := ⟨wl_RX6_194, wi_X5_filledBy, wv_X5_filledBy⟩
theorem lk_RX6_200 : LkS RX6 200 yJ6_bitCount_0f7a4 := ⟨wl_RX6_200, ws_J6_bitCount_0f7a4⟩
theorem lk_RX6_208 : LkV RX6 208 yX1_makesFor := ⟨wl_RX6_208, wi_X1_makesFor, wv_X1_makesFor⟩
theorem lk_RX6_211 : LkV RX6 211 yX1_actsFor := ⟨wl_RX6_211, wi_X1_actsFor, wv_X1_actsFor⟩
theorem lk_RX6_214 : LkV RX6 214 yX1_actAt := ⟨wl_RX6_214, wi_X1_actAt, wv_X1_actAt⟩
theorem lk_RX6_217 : LkV RX6 217 yX1_scenesFor := ⟨wl_RX6_217, wi_X1_scenesFor, wv_X1_scenesFor⟩
theorem lk_RX6_220 : LkV RX6 220 yX5_allFillOne := ⟨wl_RX6_220, wi_X5_allFillOne, wv_X5_allFillOne⟩
theorem lk_RX6_223 : LkV RX6 223 yX2_build := ⟨wl_RX6_223, wi_X2_build, wv_X2_build⟩
theorem lk_RX6_226 : LkS RX6 226 yX6_isRowBit := ⟨wl_RX6_226, ws_X6_isRowBit⟩
theorem lk_RX6_233 : LkV RX6 233 yX2_turn := ⟨wl_RX6_233, wi_X2_turn, wv_X2_turn⟩
theorem lk_RX6_236 : LkV RX6 236 yX2_examine := ⟨wl_RX6_236, wi_X2_examine, wv_X2_examine⟩
theorem lk_RX6_242 : LkV RX6 242 yX5_learn := ⟨wl_RX6_242, wi_X5_learn, wv_X5_learn⟩
theorem lk_RX7_76 : LkS RX7 76 yX7_has := ⟨wl_RX7_76, ws_X7_has⟩
theorem lk_RX7_80 : LkV RX7 80 yX7_fills := ⟨wl_RX7_80, wi_X7_fills, wv_X7_fills⟩
theorem lk_RX7_84 : LkV RX7 84 yX7_used := ⟨wl_RX7_84, wi_X7_used, wv_X7_used⟩
theorem lk_RX7_88 : LkV RX7 88 yX7_filled := ⟨wl_RX7_88, wi_X7_filled, wv_X7_filled⟩
theorem lk_RX7_101 : LkV RX7 101 yX7_isBath := ⟨wl_RX7_101, wi_X7_isBath, wv_X7_isBath⟩
theorem lk_RX7_105 : LkV RX7 105 yX7_needs := ⟨wl_RX7_105, wi_X7_needs, wv_X7_needs⟩
theorem lk_RX7_111 : LkV RX7 111 yX7_countSteps := ⟨wl_RX7_111, wi_X7_countSteps, wv_X7_countSteps⟩
theorem lk_RX7_115 : LkV RX7 115 yX7_tellRing := ⟨wl_RX7_115, wi_X7_tellRing, wv_X7_tellRing⟩
theorem lk_RX7_126 : LkV RX7 126 yX7_reason := ⟨wl_RX7_126, wi_X7_reason, wv_X7_reason⟩
theorem lk_RX7_130 : LkV RX7 130 yX7_keep := ⟨wl_RX7_130, wi_X7_keep, wv_X7_keep⟩
theorem lk_RX7_133 : LkV RX7 133 yX7_standsBehind := ⟨wl_RX7_133, wi_X7_standsBehind, wv_X7_standsBehind⟩
theorem lk_RX7_136 : LkV RX7 136 yX7_freshBehind := ⟨wl_RX7_136, wi_X7_freshBehind, wv_X7_freshBehind⟩
theorem lk_RX7_139 : LkV RX7 139 yX7_free := ⟨wl_RX7_139, wi_X7_free, wv_X7_free⟩
theorem lk_RX7_143 : LkS RX7 143 yX7_freshPoured := ⟨wl_RX7_143, ws_X7_freshPoured⟩
theorem lk_RX7_146 : LkV RX7 146 yX7_ones := ⟨wl_RX7_146, wi_X7_ones, wv_X7_ones⟩
theorem lk_RX7_149 : LkV RX7 149 yX7_stand := ⟨wl_RX7_149, wi_X7_stand, wv_X7_stand⟩
theorem lk_RX7_152 : LkV RX7 152 yX7_stood := ⟨wl_RX7_152, wi_X7_stood, wv_X7_stood⟩
theorem lk_RX7_157 : LkV RX7 157 yX7_behind := ⟨wl_RX7_157, wi_X7_behind, wv_X7_behind⟩
theorem lk_RX7_160 : LkS RX7 160 yX7_price := ⟨wl_RX7_160, ws_X7_price⟩
theorem lk_RX7_163 : LkV RX7 163 yX7_isEnd := ⟨wl_RX7_163, wi_X7_isEnd, wv_X7_isEnd⟩
theorem lk_RX7_169 : LkV RX7 169 yX7_spread := ⟨wl_RX7_169, wi_X7_spread, wv_X7_spread⟩
theorem lk_RX7_172 : LkV RX7 172 yX7_trace := ⟨wl_RX7_172, wi_X7_trace, wv_X7_trace⟩
theorem lk_RX7_175 : LkV RX7 175 yX7_isPlain := ⟨wl_RX7_175, wi_X7_isPlain, wv_X7_isPlain⟩
theorem lk_RX7_179 : LkV RX7 179 yX7_bitBehind := ⟨wl_RX7_179, wi_X7_bitBehind, wv_X7_bitBehind⟩
theorem lk_RX7_182 : LkV RX7 182 yX7_faultOf := ⟨wl_RX7_182, wi_X7_faultOf, wv_X7_faultOf⟩
