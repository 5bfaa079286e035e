/-! ===== walks from the empty works, their costs, the least of them ===== -/
def pr (a : Nat) : Nat := if a < 9 then 65536 else 1
abbrev x0 : St := (0, 0, 0)
def Wk (c : Cfg) (v : Nat) (x : St) (n : Nat) : Prop := ∀ P : St → Nat → Prop, P x0 0 → (∀ x n a y, P x n → a < 18 → nextN c v x a = some y → P y (n + pr a)) → P x n
section WK
variable {c : Cfg} {v : Nat}
theorem Wk0 : Wk c v x0 0 := fun _ h _ => h
theorem Wk.step {x y : St} {n a : Nat} (h : Wk c v x n) (ha : a < 18) (hx : nextN c v x a = some y) : Wk c v y (n + pr a) := fun P h0 h1 => h1 x n a y (h P h0 h1) ha hx
theorem Wk.vs {x : St} {n : Nat} (h : Wk c v x n) : Vs c x := h (fun x _ => Vs c x) Vs0 (fun _ _ _ _ hx _ hy => Vs_next hx hy)
theorem Wk.inv {y : St} {m : Nat} (h : Wk c v y m) : (y = x0 ∧ m = 0) ∨ ∃ x n a, Wk c v x n ∧ a < 18 ∧ nextN c v x a = some y ∧ m = n + pr a := by
  have := h (fun y m => Wk c v y m ∧ ((y = x0 ∧ m = 0) ∨ ∃ x n a, Wk c v x n ∧ a < 18 ∧ nextN c v x a = some y ∧ m = n + pr a)) ⟨Wk0, Or.inl ⟨rfl, rfl⟩⟩ (fun x n a y hx ha hy => ⟨hx.1.step ha hy, Or.inr ⟨x, n, a, hx.1, ha, hy, rfl⟩⟩)
  exact this.2
theorem least_n {P : Nat → Prop} : ∀ (n : Nat), P n → ∃ m, P m ∧ m ≤ n ∧ ∀ k, P k → m ≤ k := by
  intro n
  induction n using Nat.strongRecOn with
  | ind n ih =>
    intro h
    by_cases z : ∃ k, k < n ∧ P k
    · obtain ⟨k, h1, h2⟩ := z
      obtain ⟨m, h3, h4, h5⟩ := ih k h1 h2
      exact ⟨m, h3, by omega, h5⟩
    · exact ⟨n, h, Nat.le_refl _, fun k hk => Nat.le_of_not_lt (fun q => z ⟨k, q, hk⟩)⟩
def Dst (c : Cfg) (v : Nat) (x : St) (n : Nat) : Prop := Wk c v x n ∧ ∀ m, Wk c v x m → n ≤ m
theorem Wk.dst {x : St} {n : Nat} (h : Wk c v x n) : ∃ m, Dst c v x m ∧ m ≤ n := by
  obtain ⟨m, h1, h2, h3⟩ := least_n n h
  exact ⟨m, ⟨h1, h3⟩, h2⟩
theorem Dst.uniq {x : St} {m n : Nat} (h1 : Dst c v x m) (h2 : Dst c v x n) : m = n := by
  have a := h1.2 n h2.1
  have b := h2.2 m h1.1
  omega
theorem Dst0 : Dst c v x0 0 := ⟨Wk0, fun m _ => Nat.zero_le m⟩
theorem pr_pos (a : Nat) : 1 ≤ pr a := by unfold pr; split <;> decide
theorem Dst.tri {x y : St} {n a : Nat} (h : Dst c v x n) (ha : a < 18) (hx : nextN c v x a = some y) : ∃ m, Dst c v y m ∧ m ≤ n + pr a := (h.1.step ha hx).dst
theorem Dst.pred {y : St} {m : Nat} (h : Dst c v y m) : (y = x0 ∧ m = 0) ∨ ∃ x n a, Dst c v x n ∧ a < 18 ∧ nextN c v x a = some y ∧ m = n + pr a := by
  rcases h.1.inv with q | ⟨x, n, a, h1, ha, hx, e⟩
  · exact Or.inl q
  · obtain ⟨n', h2, h3⟩ := h1.dst
    have h4 := h.2 _ (h2.1.step ha hx)
    obtain rfl : n' = n := by omega
    exact Or.inr ⟨x, n', a, h2, ha, hx, e⟩
/-! the bound -/
def acN (n : Nat) : Nat := n / 65536 + n % 65536
def pc8 (h : Nat) : Nat := h % 2 + h / 2 % 2 + h / 4 % 2
theorem pc8_lt : ∀ h, h < 8 → ∀ q, q < 8 → (h ||| q) ≠ h → pc8 h + 1 ≤ pc8 (h ||| q) := by decide
theorem pc8_le (h : Nat) : pc8 h ≤ 3 := by unfold pc8; omega
def vld (k : Nat) : Bool := decide (k / 512 = 0) || (k % 512).testBit (k / 512 - 1)
theorem vld_ct : fb_ct vld 5120 = 2816 := by decide +kernel
noncomputable def near (c : Cfg) (v h n : Nat) : Nat → Bool := fun k => @decide (∃ m, Dst c v (k % 512, k / 512, h) m ∧ m < n) (Classical.propDecidable _)
theorem near_iff {h n k : Nat} : near c v h n k = true ↔ ∃ m, Dst c v (k % 512, k / 512, h) m ∧ m < n := by
  unfold near
  exact @decide_eq_true_iff _ (Classical.propDecidable _)
theorem dst_vld (hw : Wf c) {s f h m : Nat} (hd : Dst c v (s, f, h) m) : s < 512 ∧ f < 10 ∧ h < 8 ∧ vld (s + 512 * f) = true := by
  have hv := hd.1.vs
  obtain ⟨h1, h2, h3⟩ := hv.fit hw
  have h1 : s < 512 := h1
  have h2 : f < 10 := h2
  refine ⟨h1, h2, h3, ?_⟩
  unfold vld
  rw [show (s + 512 * f) / 512 = f by omega, show (s + 512 * f) % 512 = s by omega]
  rcases hv.2.1 with q | q
  · have q : f = 0 := q
    rw [q]; rfl
  · rw [q.2.2.1]; simp
theorem near_vld (hw : Wf c) {h n k : Nat} (hk : near c v h n k = true) : vld k = true := by
  obtain ⟨m, h1, _⟩ := near_iff.mp hk
  have := (dst_vld hw h1).2.2.2
  rw [show k % 512 + 512 * (k / 512) = k by omega] at this
  exact this
theorem ct_one {i : Nat} : ∀ {n : Nat}, i < n → fb_ct (fun k => decide (k = i)) n = 1 := by
  intro n hi
  have := fb_ct_upd (fun _ => false) true hi
  rw [show fb_ct (fun _ => false) n = 0 from fb_ct_zero.mpr (fun _ _ => rfl)] at this
  have e : fb_ct (fun k => if k = i then true else false) n = fb_ct (fun k => decide (k = i)) n := fb_ct_cong (fun k _ => by by_cases z : k = i <;> simp [z])
  rw [e] at this
  simpa using this
theorem dst_bound (hw : Wf c) : ∀ (n : Nat) (s f h : Nat), Dst c v (s, f, h) n → acN n ≤ 2816 * pc8 h + fb_ct (near c v h n) 5120 ∧ acN n ≤ 11264 := by
  intro n
  induction n using Nat.strongRecOn with
  | ind n ih =>
    intro s f h hd
    have lim : ∀ h n, fb_ct (near c v h n) 5120 ≤ 2816 := fun h n => by
      rw [← vld_ct]
      exact fb_ct_sub (fun k _ hk => near_vld hw hk)
    have fin : acN n ≤ 2816 * pc8 h + fb_ct (near c v h n) 5120 → acN n ≤ 2816 * pc8 h + fb_ct (near c v h n) 5120 ∧ acN n ≤ 11264 := fun q => ⟨q, by
      have := lim h n
      have := pc8_le h
      omega⟩
    refine fin ?_
    rcases hd.pred with ⟨_, q⟩ | ⟨⟨s1, f1, h1⟩, n1, a, hd1, ha, hx, e⟩
    · rw [q]; exact Nat.zero_le _
    · have hp := pr_pos a
      obtain ⟨i1, i2⟩ := ih n1 (by omega) s1 f1 h1 hd1
      have hac : acN n = acN n1 + 1 := by
        unfold acN at i2 ⊢
        rw [e]
        unfold pr
        split <;> omega
      obtain ⟨g1, g2, g3, g4⟩ := dst_vld hw hd1
      have hlt : s1 + 512 * f1 < 5120 := by omega
      have hnot : ∀ k, k < 5120 → ¬ (near c v h1 n1 k = true ∧ decide (k = s1 + 512 * f1) = true) := by
        rintro k hk ⟨q1, q2⟩
        obtain ⟨m, q3, q4⟩ := near_iff.mp q1
        have q2 := of_decide_eq_true q2
        rw [show k % 512 = s1 by omega, show k / 512 = f1 by omega] at q3
        have := q3.uniq hd1
        omega
      have hor := fb_ct_or hnot
      rw [ct_one hlt] at hor
      have hh : h = h1 ∨ ∃ q, q < 8 ∧ h = h1 ||| q ∧ (h1 ||| q) ≠ h1 := by
        have hst : ∃ s', h = stoodN c h1 s' := by
          unfold nextN at hx
          split at hx
          · cases hx
          · split at hx
            · split at hx
              · cases hx; exact ⟨_, rfl⟩
              · cases hx
            · split at hx
              · cases hx; exact ⟨_, rfl⟩
              · cases hx
        obtain ⟨s', hs'⟩ := hst
        unfold stoodN at hs'
        split at hs'
        · exact Or.inl hs'
        · by_cases z : (h1 ||| stoodM c s') = h1
          · exact Or.inl (hs'.trans z)
          · exact Or.inr ⟨_, stoodM_lt hw s', hs', z⟩
      rcases hh with rfl | ⟨q, q1, q2, q3⟩
      · have : fb_ct (fun k => near c v h n1 k || decide (k = s1 + 512 * f1)) 5120 ≤ fb_ct (near c v h n) 5120 := by
          refine fb_ct_sub (fun k hk hk2 => ?_)
          rw [Bool.or_eq_true] at hk2
          rcases hk2 with hk2 | hk2
          · obtain ⟨m, m1, m2⟩ := near_iff.mp hk2
            exact near_iff.mpr ⟨m, m1, by omega⟩
          · have hk2 := of_decide_eq_true hk2
            refine near_iff.mpr ⟨n1, ?_, by omega⟩
            rw [show k % 512 = s1 by omega, show k / 512 = f1 by omega]
            exact hd1
        omega
      · have h8 := pc8_lt h1 g3 q q1 q3
        rw [← q2] at h8
        have : fb_ct (fun k => near c v h1 n1 k || decide (k = s1 + 512 * f1)) 5120 ≤ 2816 := by
          rw [← vld_ct]
          refine fb_ct_sub (fun k hk hk2 => ?_)
          rw [Bool.or_eq_true] at hk2
          rcases hk2 with hk2 | hk2
          · exact near_vld hw hk2
          · have hk2 := of_decide_eq_true hk2
            rw [hk2]; exact g4
        omega
theorem Dst.ac (hw : Wf c) {x : St} {n : Nat} (h : Dst c v x n) : n / 65536 + n % 65536 ≤ 11264 := (dst_bound hw n x.1 x.2.1 x.2.2 h).2
theorem Dst.small (hw : Wf c) {x : St} {n : Nat} (h : Dst c v x n) : n < 1000000000 := by
  have := h.ac hw
  omega
end WK
/-! more vats, more plans -/
theorem reason_mono {c : Cfg} {s f b v v' : Nat} (h : v ≤ v') (hr : reasonN c s f b v = 0) : reasonN c s f b v' = 0 := by
  unfold reasonN at hr ⊢
  split at hr
  · cases hr
  · next z1 =>
    rw [if_neg z1]
    split at hr
    · cases hr
    · next z2 =>
      rw [if_neg z2]
      split at hr
      · cases hr
      · next z3 =>
        rw [if_neg z3]
        split at hr
        · cases hr
        · next z4 =>
          rw [if_neg z4]
          split at hr
          · cases hr
          · next z5 => rw [if_neg (by omega)]
theorem next_mono {c : Cfg} {v v' a : Nat} {x y : St} (h : v ≤ v') (hx : nextN c v x a = some y) : nextN c v' x a = some y := by
  unfold nextN at hx ⊢
  by_cases z : cN c ≤ a % 9
  · rw [if_pos z] at hx; cases hx
  · rw [if_neg z] at hx ⊢
    by_cases q : a < 9
    · rw [if_pos q] at hx ⊢
      by_cases r : reasonN c x.1 x.2.1 (a % 9) v = 0
      · rw [if_pos r] at hx
        rw [if_pos (reason_mono h r)]
        exact hx
      · rw [if_neg r] at hx; cases hx
    · rw [if_neg q] at hx ⊢
      exact hx
theorem Wk.mono {c : Cfg} {v v' : Nat} {x : St} {n : Nat} (h : v ≤ v') (hx : Wk c v x n) : Wk c v' x n := hx (fun x n => Wk c v' x n) Wk0 (fun _ _ _ _ hx ha hy => hx.step ha (next_mono h hy))
/-! the best cost of an end -/
def IsB (c : Cfg) (v : Nat) : Option Nat → Prop
  | none => ∀ x n, Wk c v x n → endN c x = false
  | some b => (∃ x, endN c x = true ∧ Dst c v x b) ∧ ∀ x n, Dst c v x n → endN c x = true → b ≤ n
theorem IsB.uniq {c : Cfg} {v : Nat} {o o' : Option Nat} (h : IsB c v o) (h' : IsB c v o') : o = o' := by
  cases o with
  | none =>
    cases o' with
    | none => rfl
    | some b =>
      obtain ⟨⟨x, h1, h2⟩, _⟩ := h'
      have := h x b h2.1
      rw [h1] at this
      cases this
  | some b =>
    cases o' with
    | none =>
      obtain ⟨⟨x, h1, h2⟩, _⟩ := h
      have := h' x b h2.1
      rw [h1] at this
      cases this
    | some b' =>
      obtain ⟨⟨x, h1, h2⟩, h3⟩ := h
      obtain ⟨⟨x', h1', h2'⟩, h3'⟩ := h'
      have := h3 x' b' h2' h1'
      have := h3' x b h2 h1
      congr 1
      omega
theorem IsB.mono {c : Cfg} {v v' : Nat} (h : v ≤ v') (hn : IsB c v' none) : IsB c v none := fun x n hx => hn x n (hx.mono h)
/-- the class's cost -/
def phi (n : Nat) : Nat := n + n / 65536
