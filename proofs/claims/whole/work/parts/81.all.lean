/-! ===== the room: what a search leaves ===== -/
def Kp (D D' : Mm) : Prop := D'.1 6 = D.1 6 ∧ (D'.2.2 = D.2.2 ∨ D'.2.2 = 40960)
theorem Kp.rf (D : Mm) : Kp D D := ⟨rfl, Or.inl rfl⟩
theorem Kp.tr {A B C : Mm} (h1 : Kp A B) (h2 : Kp B C) : Kp A C := by
  refine ⟨h2.1.trans h1.1, ?_⟩
  rcases h2.2 with z | z
  · rcases h1.2 with y | y
    · exact Or.inl (z.trans y)
    · exact Or.inr (z.trans y)
  · exact Or.inr z
theorem Kp.kp_zero {A B : Mm} (h : Kp A B) (hk : kap A = 0) : kap B = 0 := by
  unfold kap gL gI at hk ⊢
  rw [h.1]
  rcases h.2 with z | z
  · rw [z]; exact hk
  · rw [z, if_neg (fun q => absurd q.1 (by decide))]
theorem bd_inv {α β : Type} {q : Option α} {k : α → Option β} {u : β} (h : bd q k = some u) : ∃ a, q = some a ∧ k a = some u := by
  cases q with
  | none => cases h
  | some a => exact ⟨a, rfl, h⟩
theorem kp_join {x y : Int32} {M M' : Mm} (h : f_X1_join x y M = some M') : Kp M M' := by
  unfold f_X1_join at h
  split at h
  · cases h; exact Kp.rf _
  · split at h
    · cases h; exact Kp.rf _
    · split at h
      · split at h
        · split at h
          · split at h
            · cases h; exact ⟨rfl, Or.inl rfl⟩
            · cases h
          · cases h; exact Kp.rf _
        · cases h
      · cases h; exact Kp.rf _
theorem kp_spread_3 {N : Nat} : ∀ (n : Nat) (x1 x2 x3 x4 x5 : Int32) (M M' : Mm), f_X1_spread_3 N n x1 x2 x3 x4 x5 M = some M' → Kp M M'
  | 0, _, _, _, _, _, _, _, h => by cases h
  | n + 1, x1, x2, x3, x4, x5, M, M', h => by
    rw [f_X1_spread_3] at h
    split at h
    · cases h; exact Kp.rf _
    · obtain ⟨r, _, h⟩ := bd_inv h
      obtain ⟨M1, h1, h⟩ := bd_inv h
      refine (kp_join h1).tr ?_
      split at h
      · exact kp_spread_3 n _ _ _ _ _ _ _ h
      · split at h
        · obtain ⟨r2, _, h⟩ := bd_inv h
          split at h
          · exact kp_spread_3 n _ _ _ _ _ _ _ h
          · have := kp_spread_3 n _ _ _ _ _ _ _ h
            exact Kp.tr ⟨rfl, Or.inl rfl⟩ this
        · exact kp_spread_3 n _ _ _ _ _ _ _ h
theorem kp_explore_206 {N : Nat} {x1 t1 t2 : Int32} {M M' : Mm} (h : f_X1_explore_206 N x1 t1 t2 M = some M') : Kp M M' := by
  unfold f_X1_explore_206 at h
  split at h
  · cases h; exact ⟨rfl, Or.inl rfl⟩
  · cases h
theorem kp_explore_182 {N : Nat} {x1 : Int32} {M M' : Mm} (h : f_X1_explore_182 N x1 M = some M') : Kp M M' := by
  unfold f_X1_explore_182 at h
  split at h
  · exact kp_explore_206 h
  · exact kp_explore_206 h
theorem kp_explore_131 {N : Nat} {k31 : Int32 → Int32 → Int32 → Int32 → Mm → Option Mm} (hk : ∀ a b c d M M', k31 a b c d M = some M' → Kp M M') {x1 x2 x3 x4 x5 x6 x7 : Int32} {M M' : Mm} (h : f_X1_explore_131 N k31 x1 x2 x3 x4 x5 x6 x7 M = some M') : Kp M M' := by
  unfold f_X1_explore_131 f_X1_spread at h
  split at h
  · split at h
    · obtain ⟨M1, h1, h⟩ := bd_inv h
      exact (kp_spread_3 _ _ _ _ _ _ _ _ h1).tr (hk _ _ _ _ _ _ h)
    · cases h
  · split at h
    · obtain ⟨M1, h1, h⟩ := bd_inv h
      exact (kp_spread_3 _ _ _ _ _ _ _ _ h1).tr (hk _ _ _ _ _ _ h)
    · cases h
theorem kp_explore_93 {N : Nat} {k31 : Int32 → Int32 → Int32 → Int32 → Mm → Option Mm} (hk : ∀ a b c d M M', k31 a b c d M = some M' → Kp M M') {x1 x2 x3 x4 x5 t0 : Int32} {M M' : Mm} (h : f_X1_explore_93 N k31 x1 x2 x3 x4 x5 t0 M = some M') : Kp M M' := by
  unfold f_X1_explore_93 at h
  generalize (if t0 < x5 then t0 else x5) = z at h
  split at h
  · exact kp_explore_182 h
  · split at h
    · exact kp_explore_131 hk h
    · split at h
      · exact kp_explore_131 hk h
      · exact kp_explore_182 h
theorem kp_explore_65 {N : Nat} {k31 : Int32 → Int32 → Int32 → Int32 → Mm → Option Mm} (hk : ∀ a b c d M M', k31 a b c d M = some M' → Kp M M') {x1 x2 x3 x4 t0 : Int32} {M M' : Mm} (h : f_X1_explore_65 N k31 x1 x2 x3 x4 t0 M = some M') : Kp M M' := by
  unfold f_X1_explore_65 at h
  split at h
  · exact kp_explore_93 hk h
  · split at h
    · split at h
      · exact kp_explore_93 hk h
      · cases h
    · cases h
theorem kp_explore_31 {N : Nat} : ∀ (n : Nat) (a b c d : Int32) (M M' : Mm), f_X1_explore_31 N n a b c d M = some M' → Kp M M'
  | 0, _, _, _, _, _, _, h => by cases h
  | n + 1, a, b, c, d, M, M', h => by
    have ih := kp_explore_31 (N := N) n
    rw [f_X1_explore_31] at h
    split at h
    · exact kp_explore_182 h
    · split at h
      · exact kp_explore_65 ih h
      · split at h
        · split at h
          · exact kp_explore_65 ih h
          · cases h
        · cases h
theorem kp_startLine {M M' : Mm} (h : f_X1_startLine M = some M') : Kp M M' := by
  have h42 : ∀ A : Mm, f_X1_startLine_42 A = some M' → Kp A M' := fun A h => by
    unfold f_X1_startLine_42 at h
    obtain ⟨M1, h1, h⟩ := bd_inv h
    cases h
    have := kp_join h1
    exact Kp.tr ⟨rfl, Or.inl rfl⟩ this
  have h18 : ∀ t, f_X1_startLine_18 t M = some M' → Kp M M' := fun t h => by
    unfold f_X1_startLine_18 at h
    split at h
    · split at h
      · exact h42 _ h
      · split at h
        · exact Kp.tr (B := sN M) ⟨rfl, Or.inr rfl⟩ (h42 (sN M) h)
        · cases h
    · cases h
  unfold f_X1_startLine at h
  obtain ⟨r, _, h⟩ := bd_inv h
  split at h
  · exact h18 _ h
  · exact h18 _ h
theorem kp_explore {N : Nat} {x1 : Int32} {M M' : Mm} (h : f_X1_explore N x1 M = some M') : Kp M M' := by
  unfold f_X1_explore f_X1_explore_21 at h
  obtain ⟨M1, h1, h⟩ := bd_inv h
  obtain ⟨r, _, h⟩ := bd_inv h
  refine (kp_startLine h1).tr ?_
  split at h
  · have := kp_explore_31 _ _ _ _ _ _ _ h
    exact Kp.tr ⟨rfl, Or.inl rfl⟩ this
  · have := kp_explore_31 _ _ _ _ _ _ _ h
    exact Kp.tr ⟨rfl, Or.inl rfl⟩ this
theorem kp_makesFor {N : Nat} {v : Int32} {D D' : Mm} {r : Int32} (h : f_X1_makesFor N v D = some (r, D')) : Kp D D' := by
  unfold f_X1_makesFor at h
  split at h
  · split at h
    · obtain ⟨M1, h1, h⟩ := bd_inv h
      cases h; exact kp_explore h1
    · cases h; exact Kp.rf _
  · cases h
theorem q_kap {N : Nat} (hN : 100000 ≤ N) : Q_kap N (Rel XC) := by
  refine ⟨fun D M D' r hRel h => ?_, fun v D D' r hk h => (kp_makesFor h).kp_zero hk⟩
  obtain ⟨c, ⟨hw, hD, hR⟩, hS, hT, hH, hG, hP, hL, hXC⟩ := hRel
  obtain ⟨o, M', a1, a2, a3, a4, a5, a6, a7⟩ := d_makesFor (N := N) (v := 18) hw hN (by omega) (by omega) hD hL (XD_of hXC)
  have a1' : f_X1_makesFor N (18 : Int32) D = some (oI (Option.map (fun b => b / 65536) o), M') := a1
  rw [a1'] at h
  cases h
  exact a7
/-! ===== all calls ===== -/
theorem sim_all {N : Nat} (hN : 100000000000000000000 ≤ N) : Sim N (Rel XC) :=
  ⟨q_vats (by omega), q_bath XC_out, q_recipe XC_out (by omega), q_lose XC_out (by omega), q_need XC_out (by omega), q_named, q_ring, q_order (by omega), q_goal XC_out (by omega), q_forget XC_out, q_together XC_out, q_make (by omega), q_why (by omega), q_pour (by omega), q_undo, q_of, q_count (by omega), q_least hN, q_fewest hN, q_plan hN, q_reach hN, q_row (by omega), q_bit, q_flip, q_check (by omega), q_where, q_kap (by omega)⟩
/-! the start -/
def c00 : Cfg := (0, fun _ => 0, fun _ => none, fun _ _ => some 0, 0, fun _ => 0, false)
theorem wf00 : Wf c00 := ⟨by decide, (fun _ => by show 0 ≤ 4; decide), fun _ _ => rfl, (fun _ _ h => by cases h), (fun _ _ _ _ h => by cases h), by decide, fun i h => absurd h (Nat.not_lt_zero i), fun i _ h => absurd h (Nat.not_lt_zero i)⟩
theorem fl_in {f : Nat → Int32} {n k : Nat} {v : Int32} (h : k < n) : fl f n v k = v := if_pos h
theorem need00 (b : Nat) : needM c00 b = 0 := nat_ext (fun i => by
  have h : needs c00 b i = false := rfl
  rw [needM, bm_bit, Nat.zero_testBit, h, Bool.and_false])
theorem rel00 : Rel XC MD0 MM0 := by
  refine ⟨c00, ⟨wf00, ⟨rfl, fun _ _ => rfl, fun b hb => ?_, fun _ _ _ _ => rfl, rfl, rfl, rfl, rfl, fun b _ => (by rw [need00]; rfl), fun _ _ => rfl, rfl, fun i hi => absurd hi (Nat.not_lt_zero i), rfl, rfl⟩, ⟨rfl, fun _ _ => rfl, fun b hb => ?_, fun _ _ _ _ => rfl, rfl, fun i hi => absurd hi (Nat.not_lt_zero i), rfl⟩⟩, ⟨0, 0, 4, Vs0, by decide, by decide, rfl, rfl, rfl, rfl, rfl⟩, ⟨fun b hb => ?_, fun _ _ => rfl⟩, ⟨0, 0, by decide, by decide, rfl, rfl, rfl, fun j hj => absurd hj (Nat.not_lt_zero j)⟩, ⟨0, by decide, rfl, rfl, fun j hj => absurd hj (Nat.not_lt_zero j)⟩, ⟨fun k hk => ⟨rfl, Or.inl rfl⟩, ?_, rfl⟩, Or.inl rfl, XC_out _ _ ⟨rfl, rfl, fun v hv => ⟨?_, ?_⟩⟩⟩
  · show fl (fun _ => 0) 9 (-1) b = -1
    exact fl_in hb
  · show fl (fun _ => 0) 9 (-1) b = -1
    exact fl_in hb
  · show fl (fun _ => 0) 9 (-1) b = -1
    exact fl_in hb
  · have : fb_ct (fun k => decide (MM0.2.1 7 k = 1)) 4096 = 0 := fb_ct_zero.mpr (fun k _ => by
      show decide ((0 : Int32) = 1) = false
      decide)
    rw [this]; rfl
  · show fl (fun _ => 0) 19 (-9) v = -9
    exact fl_in hv
  · show fl (fun _ => 0) 19 (-9) v = -9
    exact fl_in hv
theorem whole_start {p : Program} {e : Env} {s : State} {m : MethodId} {below : List Frame} {meth : Method} {c : Code} (l : Launch) {b L : Nat} {xs : Nat → Int32} (hL : L ≤ 2048) (C0 : lw_At p s m meth c b L xs) : W p l e room_1 s m #[Value.ref b] below meth c s.heap [] 0 0 (lw_Z below #[Value.ref b] s) (entryFrame m ([Value.ref b] : List Value).toArray 4) :=
  whole_open (N := 100000000000000000000) (sim_all (Nat.le_refl _)) rel00 l hL C0
