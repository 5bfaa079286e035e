/-! ===== the reference traces the first best plan ===== -/
def tl (ws : Nat → Nat) : Nat → Nat → List Nat
  | _, 0 => []
  | i, n + 1 => ws i :: tl ws (i + 1) n
theorem tl_len (ws : Nat → Nat) : ∀ n i, (tl ws i n).length = n
  | 0, _ => rfl
  | n + 1, i => by rw [tl, List.length_cons, tl_len ws n (i + 1)]
theorem tl_get (ws : Nat → Nat) : ∀ n i k, k < n → (tl ws i n).getD k 0 = ws (i + k)
  | 0, _, k, h => absurd h (Nat.not_lt_zero k)
  | n + 1, i, 0, _ => rfl
  | n + 1, i, k + 1, h => by
    have := tl_get ws n (i + 1) k (by omega)
    rw [show i + (k + 1) = i + 1 + k by omega, ← this]
    rfl
theorem Bp.gd {c : Cfg} {v b : Nat} : ∀ {w : List Nat} {x : St}, Bp c v b x w → Gd c v b x
  | [], _, h => Gd.last h
  | _ :: _, _, h => by
    obtain ⟨_, y, h1, _⟩ := h
    exact Gd.on h1
def FrT (R M : Mm) : Prop := (∀ j, j ≠ 9 → M.1 j = R.1 j) ∧ (∀ j, j ≠ 16 → j ≠ 17 → j ≠ 18 → M.2.1 j = R.2.1 j) ∧ M.2.2 = R.2.2
/-- the stack: states, acts -/
def TrS (c : Cfg) (v b p : Nat) (ys : Nat → St) (ws : Nat → Nat) : Prop := ys 0 = x0 ∧ (∀ i, i ≤ p → ∃ n, Dst c v (ys i) n ∧ n ≤ b ∧ acN n = i) ∧ ∀ i, i < p → ws i < 18 ∧ nextN c v (ys i) (ws i) = some (ys (i + 1)) ∧ (∃ n, Dst c v (ys i) n ∧ Dst c v (ys (i + 1)) (n + pr (ws i))) ∧ ¬ Lst c v b (ys i) ∧ ∀ a' y', a' < ws i → ¬ On c v b (ys i) a' y'
def TrM (c : Cfg) (v b p : Nat) (M : Mm) (ys : Nat → St) (ws : Nat → Nat) : Prop := M.1 9 = nI p ∧ (∀ i, i < p → M.2.1 17 i = nI (ws i) ∧ M.2.1 18 i = nI (encM (ys i))) ∧ (∀ k, k < 40960 → isB (M.2.1 16 k)) ∧ (∀ y, Vs c y → M.2.1 16 (encM y) = 1 → ¬ Gd c v b y) ∧ ∀ i, i ≤ p → M.2.1 16 (encM (ys i)) = 0
section TR
variable {c : Cfg} {N v b : Nat}
theorem TrS.end (hw : Wf c) {p : Nat} {ys : Nat → St} {ws : Nat → Nat} (h : TrS c v b p ys ws) (hl : Lst c v b (ys p)) : ∀ (k i : Nat), i + k = p → Bp c v b (ys i) (tl ws i k)
  | 0, i, e => by
    rw [show i = p by omega]; exact hl
  | k + 1, i, e => by
    have ih := TrS.end hw h hl k (i + 1) (by omega)
    obtain ⟨h1, h2, h3, h4, h5⟩ := h.2.2 i (by omega)
    exact ⟨h4, ys (i + 1), ⟨h1, h2, h3, ih.gd⟩, h5, ih⟩
theorem TrS.ne (hw : Wf c) {p : Nat} {ys : Nat → St} {ws : Nat → Nat} (h : TrS c v b p ys ws) {i j : Nat} (hi : i ≤ p) (hj : j ≤ p) (hij : i ≠ j) : encM (ys i) ≠ encM (ys j) := fun e => by
  obtain ⟨n, n1, n2, n3⟩ := h.2.1 i hi
  obtain ⟨m, m1, m2, m3⟩ := h.2.1 j hj
  have e2 := encM_inj (n1.1.vs.fit hw) (m1.1.vs.fit hw) e
  rw [e2] at n1
  obtain rfl := n1.uniq m1
  omega
theorem m_trace_31 (hw : Wf c) (hN : 100 ≤ N) (hv : v ≤ 18) {R : Mm} (hR : OkR c R) {lb : Nat → Nat} (h13 : ∀ k, k < 40960 → R.2.1 13 k = nI (lb k)) (hLab : Lab c v lb) (hI : IsB c v (some b)) :
    ∀ (m a p : Nat) (M : Mm) (ys : Nat → St) (ws : Nat → Nat), a ≤ 18 → 100 * fb_ct (fun k => decide (M.2.1 16 k = 0)) 40960 + 19 * (11265 - p) + (18 - a) < m → TrS c v b p ys ws → TrM c v b p M ys ws → (∀ a' y', a' < a → ¬ On c v b (ys p) a' y') → FrT R M →
    ∃ M' w, f_X7_trace_31 N m (nI v) (nI b) (nI (encM (ys p))) (nI a) M = some M' ∧ Bp c v b x0 w ∧ M'.1 9 = nI w.length ∧ w.length ≤ 11264 ∧ (∀ k, k < w.length → M'.2.1 17 k = nI (w.getD k 0)) ∧ FrT R M' := by
  intro m
  have hbs := b_small hw hI
  induction m with
  | zero => intro a p M ys ws h1 h2; omega
  | succ m ih =>
    intro a p M ys ws h1 h2 hS hM hno hF
    obtain ⟨n, n1, n2, n3⟩ := hS.2.1 p (Nat.le_refl _)
    obtain ⟨t1, t2, t3, t4, t5⟩ := id hM
    have hvx := n1.1.vs
    have hfx := hvx.fit hw
    have hex := encM_lt hfx
    have hOk : OkR c M := OkR_of (hF.1 0 (by decide)) (hF.1 4 (by decide)) (hF.1 5 (by decide)) (fun j hj => hF.2.1 j (by omega) (by omega) (by omega)) hR
    have hM13 : ∀ k, k < 40960 → M.2.1 13 k = nI (lb k) := fun k hk => by rw [hF.2.1 13 (by decide) (by decide) (by decide)]; exact h13 k hk
    have hinx : inb (nI (encM (ys p))) 40960 := (inb_nI (by omega)).mpr hex
    have hlx : lb (encM (ys p)) = n := hLab.2 _ _ n1
    have hns := n1.small hw
    have hp := n1.ac hw
    have hp2 : p ≤ 11264 := by rw [← n3]; exact hp
    have go : ¬ Lst c v b (ys p) → ∃ M' w, f_X7_trace_58 N (f_X7_trace_31 N m) (nI v) (nI b) (nI (encM (ys p))) (nI a) M = some M' ∧ Bp c v b x0 w ∧ M'.1 9 = nI w.length ∧ w.length ≤ 11264 ∧ (∀ k, k < w.length → M'.2.1 17 k = nI (w.getD k 0)) ∧ FrT R M' := by
      intro hnl
      unfold f_X7_trace_58
      by_cases ha : a = 18
      · subst ha
        rw [if_pos (show (18 : Int32) ≤ nI 18 from nI_le (Nat.le_refl 18) (by decide))]
        have hng : ¬ Gd c v b (ys p) := fun hg => by
          rcases hg.inv with z | ⟨a, y, z⟩
          · exact hnl z
          · exact hno a y z.1 z
        have hp0 : p ≠ 0 := fun e => by
          rw [e, hS.1] at hng
          exact hng (Gd.x0 hI)
        obtain ⟨q, rfl⟩ : ∃ q, p = q + 1 := ⟨p - 1, by omega⟩
        unfold f_X7_trace_77
        obtain ⟨M2, hM2⟩ : ∃ M2, M2 = sI (sA M 16 (nI (encM (ys (q + 1)))) 1) 9 (nI q) := ⟨_, rfl⟩
        have e9 : gI (sA M 16 (nI (encM (ys (q + 1)))) 1) 9 - (1 : Int32) = nI q := by
          show M.1 9 - 1 = _
          rw [t1]
          exact nI_sub (b := 1) (by omega) (by omega)
        have e9' : gI M2 9 = nI q := by rw [hM2]; rfl
        rw [if_pos (show nI 18 = (18 : Int32) from rfl), if_pos hinx, nar_bool (Or.inr rfl), e9, ← hM2, e9']
        have hinq : inb (nI q) 40960 := (inb_nI (by omega)).mpr (by omega)
        have f16 : ∀ k, M2.2.1 16 k = if k = encM (ys (q + 1)) then 1 else M.2.1 16 k := fun k => by
          rw [hM2]; exact sA_at (by omega) k
        have f17 : M2.2.1 17 = M.2.1 17 := by rw [hM2]; exact sA_ne (by decide)
        have f18 : M2.2.1 18 = M.2.1 18 := by rw [hM2]; exact sA_ne (by decide)
        obtain ⟨s1, s2, s3, s4, s5⟩ := hS.2.2 q (by omega)
        rw [if_pos hinq, if_pos hinq, gA_nI (by omega), gA_nI (by omega), f17, f18, (t2 q (by omega)).1, (t2 q (by omega)).2, nI_1]
        have hct := fb_ct_upd (fun k => decide (M.2.1 16 k = 0)) false hex
        have hcong : fb_ct (fun k => decide (M2.2.1 16 k = 0)) 40960 = fb_ct (fun k => if k = encM (ys (q + 1)) then false else decide (M.2.1 16 k = 0)) 40960 := fb_ct_cong (fun k _ => by
          rw [f16]
          by_cases e : k = encM (ys (q + 1))
          · rw [if_pos e, if_pos e]; rfl
          · rw [if_neg e, if_neg e])
        rw [← hcong] at hct
        have hz := t5 (q + 1) (Nat.le_refl _)
        rw [hz] at hct
        simp only [decide_true, if_true] at hct
        refine ih (ws q + 1) q M2 ys ws (by omega) ?_ ⟨hS.1, fun i hi => hS.2.1 i (by omega), fun i hi => hS.2.2 i (by omega)⟩ ⟨by rw [hM2]; rfl, fun i hi => ?_, fun k hk => ?_, fun y hy hy1 => ?_, fun i hi => ?_⟩ (fun a' y' h5 h6 => ?_) ⟨fun j hj => ?_, fun j j1 j2 j3 => ?_, ?_⟩
        · generalize fb_ct (fun k => decide (M2.2.1 16 k = 0)) 40960 = A at hct ⊢
          generalize fb_ct (fun k => decide (M.2.1 16 k = 0)) 40960 = B at hct h2
          have hct : A + 1 = B := by simpa using hct
          omega
        · rw [f17, f18]; exact t2 i (by omega)
        · rw [f16]
          by_cases e : k = encM (ys (q + 1))
          · rw [if_pos e]; exact Or.inr rfl
          · rw [if_neg e]; exact t3 k hk
        · rw [f16] at hy1
          by_cases e : encM y = encM (ys (q + 1))
          · rw [encM_inj (hy.fit hw) hfx e]; exact hng
          · rw [if_neg e] at hy1; exact t4 y hy hy1
        · rw [f16, if_neg (hS.ne hw (by omega) (Nat.le_refl _) (by omega))]
          exact t5 i (by omega)
        · by_cases e : a' = ws q
          · rw [e] at h6
            have : some y' = some (ys (q + 1)) := h6.2.1.symm.trans s2
            cases this
            exact hng h6.2.2.2
          · exact s5 a' y' (by omega) h6
        · rw [hM2]
          show va_up M.1 9 (nI q) j = _
          rw [up_ne hj]; exact hF.1 j hj
        · rw [hM2]
          show (sA M 16 (nI (encM (ys (q + 1)))) 1).2.1 j = _
          rw [sA_ne j1]; exact hF.2.1 j j1 j2 j3
        · rw [hM2]; exact hF.2.2
      · have ha' : a < 18 := by omega
        have up : (∀ y', ¬ On c v b (ys p) a y') → ∃ M' w, f_X7_trace_31 N m (nI v) (nI b) (nI (encM (ys p))) (nI a + (1 : Int32)) M = some M' ∧ Bp c v b x0 w ∧ M'.1 9 = nI w.length ∧ w.length ≤ 11264 ∧ (∀ k, k < w.length → M'.2.1 17 k = nI (w.getD k 0)) ∧ FrT R M' := fun hn => by
          rw [nI_1]
          refine ih (a + 1) p M ys ws (by omega) (by omega) hS hM (fun a' y' h5 => ?_) hF
          by_cases e : a' = a
          · rw [e]; exact hn y'
          · exact hno a' y' (by omega)
        rw [if_neg (show ¬ (18 : Int32) ≤ nI a from nI_ge (b := 18) ha' (by decide)), m_behind (N := N) hw hOk (by omega) hfx ha' hv, bd_some]
        unfold f_X7_trace_77
        rw [if_neg (show ¬ nI a = (18 : Int32) from fun z => ha (nI_inj (b := 18) (by omega) (by decide) z))]
        cases hy : nextN c v (ys p) a with
        | none =>
          rw [if_pos (show leadI encM none < 0 by decide)]
          exact up (fun y' h => by have := h.2.1; rw [hy] at this; cases this)
        | some y =>
          have hvy := Vs_next hvx hy
          have hfy := hvy.fit hw
          have hey := encM_lt hfy
          have hiny : inb (nI (encM y)) 40960 := (inb_nI (by omega)).mpr hey
          obtain ⟨k, k1, k2⟩ := n1.tri ha' hy
          have hly : lb (encM y) = k := hLab.2 _ _ k1
          have hks := k1.small hw
          have hpr := pr_le a
          have hpp := pr_pos a
          have same : ∀ y', On c v b (ys p) a y' → y' = y := fun y' h => Option.some.inj (h.2.1.symm.trans hy)
          rw [show leadI encM (some y) = nI (encM y) from rfl, if_neg (nI_pos (by omega)), if_pos hiny, if_pos hinx, m_price ha', bd_some, gA_nI (by omega), gA_nI (by omega), hM13 _ hey, hM13 _ hex, hly, hlx, nI_add]
          by_cases ht : k = n + pr a
          · rw [if_pos (by rw [ht]), if_pos hiny]
            by_cases hkb : b < k
            · rw [if_pos (nI_lt hkb (by omega))]
              refine up (fun y' h => ?_)
              obtain rfl := same y' h
              obtain ⟨k', q1, q2⟩ := h.2.2.2.le
              have := q1.uniq k1
              omega
            · rw [if_neg (nI_nlt (a := b) (b := k) (by omega) (by omega)), if_pos hiny, gA_nI (by omega)]
              rcases t3 _ hey with w0 | w0
              · rw [if_pos w0]
                obtain ⟨ys', hys'⟩ : ∃ ys' : Nat → St, ys' = ap ys (p + 1) y := ⟨_, rfl⟩
                obtain ⟨ws', hws'⟩ : ∃ ws' : Nat → Nat, ws' = ap ws p a := ⟨_, rfl⟩
                have yo : ∀ i, i ≤ p → ys' i = ys i := fun i hi => by rw [hys']; exact ap_lt (by omega)
                have yn : ys' (p + 1) = y := by rw [hys']; exact ap_ge (Nat.lt_irrefl _)
                have wo : ∀ i, i < p → ws' i = ws i := fun i hi => by rw [hws']; exact ap_lt hi
                have wn : ws' p = a := by rw [hws']; exact ap_ge (Nat.lt_irrefl _)
                have hinp : inb (nI p) 40960 := (inb_nI (by omega)).mpr (by omega)
                have e9 : gI M 9 = nI p := t1
                have e9' : gI (sA M 17 (nI p) (nI a)) 9 = nI p := t1
                have e9'' : gI (sA (sA M 17 (nI p) (nI a)) 18 (nI p) (nI (encM (ys p)))) 9 = nI p := t1
                rw [e9, if_pos hinp, e9', if_pos hinp, e9'', nI_1]
                obtain ⟨M2, hM2⟩ : ∃ M2, M2 = sI (sA (sA M 17 (nI p) (nI a)) 18 (nI p) (nI (encM (ys p)))) 9 (nI (p + 1)) := ⟨_, rfl⟩
                rw [← hM2]
                have f16 : M2.2.1 16 = M.2.1 16 := by rw [hM2]; exact (sA_ne (by decide)).trans (sA_ne (by decide))
                have f17 : ∀ i, M2.2.1 17 i = if i = p then nI a else M.2.1 17 i := fun i => by
                  rw [hM2]
                  show (sA (sA M 17 (nI p) (nI a)) 18 (nI p) (nI (encM (ys p)))).2.1 17 i = _
                  rw [sA_ne (by decide)]; exact sA_at (by omega) i
                have f18 : ∀ i, M2.2.1 18 i = if i = p then nI (encM (ys p)) else M.2.1 18 i := fun i => by
                  rw [hM2]
                  show (sA (sA M 17 (nI p) (nI a)) 18 (nI p) (nI (encM (ys p)))).2.1 18 i = _
                  rw [sA_at (by omega), sA_ne (by decide)]
                have hS' : TrS c v b (p + 1) ys' ws' := by
                  refine ⟨by rw [yo 0 (by omega)]; exact hS.1, fun i hi => ?_, fun i hi => ?_⟩
                  · by_cases e : i ≤ p
                    · rw [yo i e]; exact hS.2.1 i e
                    · obtain rfl : i = p + 1 := by omega
                      rw [yn]
                      refine ⟨k, k1, by omega, ?_⟩
                      rw [ht] at k1 ⊢
                      rw [ac_step hw n1 k1, n3]
                  · by_cases e : i < p
                    · rw [yo i (by omega), yo (i + 1) (by omega), wo i e]; exact hS.2.2 i e
                    · obtain rfl : i = p := by omega
                      rw [yo i (Nat.le_refl _), yn, wn]
                      exact ⟨ha', hy, ⟨n, n1, by rw [← ht]; exact k1⟩, hnl, hno⟩
                have r := ih 0 (p + 1) M2 ys' ws' (by omega) (by rw [f16]; omega) hS' ⟨by rw [hM2]; rfl, fun i hi => ?_, fun k hk => by rw [f16]; exact t3 k hk, fun y hy => by rw [f16]; exact t4 y hy, fun i hi => ?_⟩ (fun a' _ h5 => absurd h5 (Nat.not_lt_zero a')) ⟨fun j hj => ?_, fun j j1 j2 j3 => ?_, ?_⟩
                · rw [yn] at r; exact r
                · rw [f17, f18]
                  by_cases e : i < p
                  · rw [if_neg (by omega), if_neg (by omega), wo i e, yo i (by omega)]; exact t2 i e
                  · obtain rfl : i = p := by omega
                    rw [if_pos rfl, if_pos rfl, wn, yo i (Nat.le_refl _)]; exact ⟨rfl, rfl⟩
                · rw [f16]
                  by_cases e : i ≤ p
                  · rw [yo i e]; exact t5 i e
                  · obtain rfl : i = p + 1 := by omega
                    rw [yn]; exact w0
                · rw [hM2]
                  show va_up M.1 9 (nI (p + 1)) j = _
                  rw [up_ne hj]; exact hF.1 j hj
                · rw [hM2]
                  show (sA (sA M 17 (nI p) (nI a)) 18 (nI p) (nI (encM (ys p)))).2.1 j = _
                  rw [sA_ne j3, sA_ne j2]; exact hF.2.1 j j1 j2 j3
                · rw [hM2]; exact hF.2.2
              · rw [if_neg (by rw [w0]; decide)]
                refine up (fun y' h => ?_)
                obtain rfl := same y' h
                exact t4 y' hvy w0 h.2.2.2
          · rw [if_neg (fun z => ht (nI_inj (by omega) (by omega) z))]
            refine up (fun y' h => ?_)
            obtain rfl := same y' h
            obtain ⟨n', q1, q2⟩ := h.2.2.1
            obtain rfl := q1.uniq n1
            exact ht (k1.uniq q2)
    rw [f_X7_trace_31, if_pos hinx, gA_nI (by omega), hM13 _ hex, hlx]
    by_cases hnb : n = b
    · have e1 : encM (ys p) % 512 = (ys p).1 := by have := hfx.1; unfold encM; have := hfx.2.1; omega
      have e2 : encM (ys p) / 5120 = (ys p).2.2 := by have := hfx.1; unfold encM; have := hfx.2.1; omega
      rw [if_pos (by rw [hnb]), rem512 (by omega), div5120 (by omega), e1, e2, m_isEnd (N := N) hw hOk (by omega) hvx, bd_some]
      by_cases hq : endN c (ys p) = true
      · rw [hq, if_neg (show ¬ zI true = 0 by decide)]
        have hl : Lst c v b (ys p) := ⟨by rw [← hnb]; exact n1, hq⟩
        have hBp := hS.end hw hl p 0 (by omega)
        rw [hS.1] at hBp
        refine ⟨M, tl ws 0 p, rfl, hBp, by rw [tl_len]; exact t1, by rw [tl_len]; exact hp2, fun k hk => ?_, hF⟩
        rw [tl_len] at hk
        rw [tl_get ws p 0 k hk, Nat.zero_add]
        exact (t2 k hk).1
      · rw [b_false hq, if_pos (show zI false = 0 from rfl)]
        exact go (fun z => hq z.2)
    · rw [if_neg (fun z => hnb (nI_inj (by omega) (by omega) z))]
      exact go (fun z => hnb (n1.uniq z.1))
theorem m_trace (hw : Wf c) (hN : 100000000 ≤ N) (hv : v ≤ 18) {R : Mm} (hR : OkR c R) {lb : Nat → Nat} (h13 : ∀ k, k < 40960 → R.2.1 13 k = nI (lb k)) (hLab : Lab c v lb) (hI : IsB c v (some b)) :
    ∃ M' w, f_X7_trace N (nI v) (nI b) R = some M' ∧ Bp c v b x0 w ∧ M'.1 9 = nI w.length ∧ w.length ≤ 11264 ∧ (∀ k, k < w.length → M'.2.1 17 k = nI (w.getD k 0)) ∧ FrT R M' := by
  have main : ∀ (m i : Nat) (M : Mm), i ≤ 40960 → 40960 < m + i → (∀ k, k < i → M.2.1 16 k = 0) → FrT R M → ∃ M' w, f_X7_trace_2 N m (nI v) (nI b) (nI i) M = some M' ∧ Bp c v b x0 w ∧ M'.1 9 = nI w.length ∧ w.length ≤ 11264 ∧ (∀ k, k < w.length → M'.2.1 17 k = nI (w.getD k 0)) ∧ FrT R M' := by
    intro m
    induction m with
    | zero => intro i M h1 h2; omega
    | succ m ih =>
      intro i M h1 h2 h16 hF
      rw [f_X7_trace_2]
      by_cases hi : i = 40960
      · subst hi
        rw [if_pos (show (40960 : Int32) ≤ nI 40960 from nI_le (Nat.le_refl 40960) (by decide))]
        have hle := fb_ct_le (fun k => decide ((sI M 9 (0 : Int32)).2.1 16 k = 0)) 40960
        refine m_trace_31 (N := N) hw (by omega) hv hR h13 hLab hI N 0 0 (sI M 9 (0 : Int32)) (fun _ => x0) (fun _ => 0) (by omega) ?_ ⟨rfl, fun i hi => ⟨0, Dst0, Nat.zero_le _, ?_⟩, fun i hi => absurd hi (Nat.not_lt_zero i)⟩ ⟨rfl, fun i hi => absurd hi (Nat.not_lt_zero i), fun k hk => Or.inl (h16 k hk), fun y hy h1 => ?_, fun i hi => h16 (encM x0) (by decide)⟩ (fun a' _ h5 => absurd h5 (Nat.not_lt_zero a')) ⟨fun j hj => (up_ne hj).trans (hF.1 j hj), hF.2.1, hF.2.2⟩
        · generalize fb_ct (fun k => decide ((sI M 9 (0 : Int32)).2.1 16 k = 0)) 40960 = A at hle ⊢
          omega
        · obtain rfl : i = 0 := by omega
          rfl
        · have := h16 (encM y) (encM_lt (hy.fit hw))
          have h1 : M.2.1 16 (encM y) = 1 := h1
          rw [this] at h1
          exact absurd h1 (by decide)
      · have hi' : i < 40960 := by omega
        rw [if_neg (show ¬ (40960 : Int32) ≤ nI i from nI_ge (b := 40960) hi' (by decide)), if_pos ((inb_nI (by omega)).mpr hi'), nI_1, nar_bool (Or.inl rfl)]
        refine ih (i + 1) _ (by omega) (by omega) (fun k hk => ?_) ⟨hF.1, fun j j1 j2 j3 => by rw [sA_ne j1]; exact hF.2.1 j j1 j2 j3, hF.2.2⟩
        rw [sA_at (by omega)]
        by_cases e : k = i
        · rw [if_pos e]
        · rw [if_neg e]; exact h16 k (by omega)
  exact main N 0 R (by omega) (by omega) (fun k hk => absurd hk (Nat.not_lt_zero k)) ⟨fun _ _ => rfl, fun _ _ _ _ => rfl, rfl⟩
/-! both plans -/
theorem q_plan (hN : 100000000000000000000 ≤ N) : Q_plan N (Rel XC) := by
  intro p1 p2 D R hRel
  obtain ⟨c, hA, hS, hT, hH, hG, hP, hL, hXC⟩ := id hRel
  obtain ⟨hw, hD, hR⟩ := id hA
  rcases vatc p1 with ⟨h1, h2⟩ | ⟨v, hv1, hv, rfl, h1⟩
  · refine ⟨-2, D, R, by unfold f_X6_plan; rw [h1]; rfl, ?_, hRel, Or.inl ⟨Or.inl h1, by omega⟩⟩
    unfold f_X7_plan
    rcases h2 with h2 | ⟨h2, h3⟩
    · rw [if_pos h2]
    · rw [if_neg h2, if_pos h3]
  · have l1 : ¬ nI v < (1 : Int32) := nI_nlt (b := 1) hv1 (by omega)
    have l2 : ¬ (18 : Int32) < nI v := nI_nlt (a := 18) hv (by decide)
    by_cases hk : (-1 : Int32) ≤ p2
    · obtain ⟨o, M, a1, a2, a3, a4, a5, a6, a7⟩ := d_actsFor (N := N) hw (by omega) hv1 hv hD hL (XD_of hXC)
      obtain ⟨R1, lb, o', b1, b2, b3, b4, b5⟩ := m_spread (N := N) hw hN hv hR
      obtain rfl := a2.uniq b2
      have hf := b5.toR
      unfold f_X6_plan f_X7_plan
      rw [h1, bd_some, if_neg one_ne_zero, if_pos hk, a1, bd2_some, if_neg l1, if_neg l2, if_pos hk, b1, bd2_some]
      cases o with
      | none =>
        refine ⟨-1, M, R1, ?_, by rw [if_pos (show nI (bsI none) = (1000000000 : Int32) from rfl)], rel_plan hA hS hT hH hG hP a5 hf.1 hf.2 a6 a4, Or.inr a7⟩
        by_cases z : p2 = -1
        · rw [if_pos z]; rfl
        · rw [if_neg z, if_pos (show oI (Option.map acN none) ≤ p2 from hk)]
      | some b =>
        have hbs := b_small hw a2
        have hR1 : OkR c R1 := OkR_of (congrFun b5.1 _) (congrFun b5.1 _) (congrFun b5.1 _) (fun i hi => b5.2.1 i (by omega) (by omega) (by omega)) hR
        obtain ⟨R2, w, t1, t2, t3, t4, t5, t6⟩ := m_trace (N := N) hw (by omega) hv hR1 b3 b4 a2
        obtain ⟨w', u1, u2, u3⟩ := a3 b rfl
        obtain rfl := Bp.uniq _ _ _ u1 t2
        have hlen : acN b = w'.length := by
          have := Bp.len hw w' x0 0 Dst0 u1
          rw [this, show acN 0 = 0 from rfl, Nat.zero_add]
        have hrel : Rel XC M R2 := rel_plan hA hS hT hH hG hP a5 (fun j hj => (t6.1 j hj).trans (hf.1 j hj)) (fun j hj => (t6.2.1 j (by omega) (by omega) (by omega)).trans (hf.2 j hj)) a6 a4
        have hL40 : M.2.2 ≤ 40960 := by rcases a6 with z | z <;> rw [z] <;> decide
        rw [show nI (bsI (some b)) = nI b from rfl, if_neg (show ¬ nI b = (1000000000 : Int32) from fun z => by have := nI_inj (b := 1000000000) (by omega) (by decide) z; omega), t1, bd_some, show oI (Option.map acN (some b)) = nI (acN b) from rfl, hlen, show gI R2 9 = nI w'.length from t3]
        by_cases z : p2 = -1
        · refine ⟨nI w'.length, M, R2, by rw [if_pos z], ?_, hrel, Or.inr a7⟩
          rw [if_neg (by rw [z]; decide)]
        · have h0 : ¬ p2 < 0 := fun q => by
            have q2 := fa_le_ne hk (Ne.symm z)
            rw [fa_lt] at q q2
            have e1 : (-1 : Int32).toInt = -1 := by decide
            have e2 : (0 : Int32).toInt = 0 := by decide
            omega
          obtain ⟨k, hk2, rfl⟩ := nI_of h0
          rw [if_neg z, if_pos (show (0 : Int32) ≤ nI k from nI_le (a := 0) (Nat.zero_le _) hk2)]
          by_cases hkw : w'.length ≤ k
          · exact ⟨-1, M, R2, by rw [if_pos (nI_le hkw hk2)], by rw [if_pos (nI_le hkw hk2)], hrel, Or.inr a7⟩
          · have hkl : ¬ nI w'.length ≤ nI k := nI_ge (a := k) (by omega) (by omega)
            refine ⟨nI (w'.getD k 0), M, R2, ?_, ?_, hrel, Or.inr a7⟩
            · rw [if_neg hkl]
              unfold f_X1_actAt
              rw [if_neg h0, Int32.ofNat_nI, if_neg (show ¬ nI (gL M) ≤ nI k from nI_ge (a := k) (show k < M.2.2 by omega) (by show M.2.2 < _; omega)), if_pos (show inb (nI k) (gL M) from (inb_nI hk2).mpr (show k < M.2.2 by omega)), bd_some, gA_nI hk2, u3 k (by omega)]
            · rw [if_neg hkl, if_pos ((inb_nI hk2).mpr (by omega)), gA_nI hk2, t5 k (by omega)]
    · refine ⟨-2, D, R, ?_, ?_, hRel, Or.inl ⟨Or.inr ⟨h1, hk⟩, by omega⟩⟩
      · unfold f_X6_plan
        rw [h1, bd_some, if_neg one_ne_zero, if_neg hk]
      · unfold f_X7_plan
        rw [if_neg l1, if_neg l2, if_neg hk]
end TR
