/-! functions and walks, by program (wip/gen) -/
def f_X1_explore_131 (N : Nat) (k31 : Int32 → Int32 → Int32 → Int32 → Mm → Option Mm) (x1 : Int32) (x2 : Int32) (x3 : Int32) (x4 : Int32) (x5 : Int32) (x6 : Int32) (x7 : Int32) (M : Mm) : Option Mm := (if x6 ≤ x5 then (if inb x3 (gL M) then (bd (f_X1_spread N (gA M 22 x3) (9 : Int32) x7 x1 M) (fun M173 => (k31 x1 x2 (x3 + (1 : Int32)) (x4 + (1 : Int32)) M173))) else none) else (if inb x2 (gL M) then (bd (f_X1_spread N (gA M 22 x2) (0 : Int32) x7 x1 M) (fun M152 => (k31 x1 (x2 + (1 : Int32)) x3 (x4 + (1 : Int32)) M152))) else none))
set_option maxRecDepth 100000 in
set_option maxHeartbeats 4000000 in
theorem t_X1_explore_131 {Z : Zz} {G : Gm} {a : Nat → Nat} {cs csF : Nat} {N : Nat} {o : Mm} {c1 c2 : Nat} {M : Mm} {k31 : Int32 → Int32 → Int32 → Int32 → Mm → Option Mm} {x1 x2 x3 x4 x5 x6 x7 : Int32} (C : CX (wD Z a) Z nE G cX1_explore RX1 5 none (PqV o) csF) (hm : (Gc G).maxLocals = 8) (hcs : cs ≤ csF) (hk31 : ∀ (x1 x2 x3 x4 : Int32) (c1 c2 : Nat) (M : Mm), k31 x1 x2 x3 x4 M = some o → V (wD Z a) Z G cs 31 [some (.ref (a 5)), some (.int x1), some (.int x2), some (.int x3), some (.int x4), none, none, none] [] (c1, c2, M)) (hf : f_X1_explore_131 N k31 x1 x2 x3 x4 x5 x6 x7 M = some o) : V (wD Z a) Z G cs 131 [some (.ref (a 5)), some (.int x1), some (.int x2), some (.int x3), some (.int x4), some (.int x5), some (.int x6), some (.int x7)] [] (c1, c2, M) := by
  unfold f_X1_explore_131 at hf
  refine V_iload5 C (pc := 131) dX1_explore_131 ?_
  refine V_iload6 C (pc := 133) dX1_explore_133 ?_
  refine V_icmp_ge C (pc := 135) (tgt := 158) dX1_explore_135 (by decide) hf (fun hf => ?_) (fun hf => ?_)
  · refine V_aload0 C (pc := 158) dX1_explore_158 ?_
    refine V_aload0 C (pc := 159) dX1_explore_159 ?_
    refine gf_RX1_21 C (pc := 160) dX1_explore_160 ?_
    refine V_iload3 C (pc := 163) dX1_explore_163 ?_
    refine V_iinc3 C (pc := 164) (c1 := (1 : Int32)) dX1_explore_164 (by decide) (by rw [hm]; decide) ?_
    refine alD_22 C (pc := 167) dX1_explore_167 hf (fun hf => ?_)
    refine V_bipush C (pc := 168) (v := (9 : Int32)) (by decide) dX1_explore_168 ?_
    refine V_iload7 C (pc := 170) dX1_explore_170 ?_
    refine V_iload1 C (pc := 172) dX1_explore_172 ?_
    refine V_cV C (pc := 173) (dep2 := 4) (As := [.int (gA M 22 x3), .int (9 : Int32), .int x7, .int x1]) (rest := []) (fun M0 h0 => c_X1_spread h0) lb_X1_spread lk_RX1_92 wm_n (by decide) hcs 5 1 rfl rfl rfl rfl (Nat.le_of_ble_eq_true rfl) dX1_explore_173 hf (fun c1 c2 M173 hf => ?_)
    refine V_iinc4 C (pc := 176) (c1 := (1 : Int32)) dX1_explore_176 (by decide) (by rw [hm]; decide) ?_
    refine V_goto C (pc := 179) (tgt := 31) dX1_explore_179 (by decide) ?_
    exact V.mono [true, true, true, true, true, false, false, false] rfl (hk31 _ _ _ _ c1 c2 M173 hf)
  · refine V_aload0 C (pc := 138) dX1_explore_138 ?_
    refine V_aload0 C (pc := 139) dX1_explore_139 ?_
    refine gf_RX1_21 C (pc := 140) dX1_explore_140 ?_
    refine V_iload2 C (pc := 143) dX1_explore_143 ?_
    refine V_iinc2 C (pc := 144) (c1 := (1 : Int32)) dX1_explore_144 (by decide) (by rw [hm]; decide) ?_
    refine alD_22 C (pc := 147) dX1_explore_147 hf (fun hf => ?_)
    refine V_iconst C (pc := 148) (v := (0 : Int32)) (by decide) dX1_explore_148 ?_
    refine V_iload7 C (pc := 149) dX1_explore_149 ?_
    refine V_iload1 C (pc := 151) dX1_explore_151 ?_
    refine V_cV C (pc := 152) (dep2 := 4) (As := [.int (gA M 22 x2), .int (0 : Int32), .int x7, .int x1]) (rest := []) (fun M0 h0 => c_X1_spread h0) lb_X1_spread lk_RX1_92 wm_n (by decide) hcs 5 1 rfl rfl rfl rfl (Nat.le_of_ble_eq_true rfl) dX1_explore_152 hf (fun c1 c2 M152 hf => ?_)
    refine V_goto C (pc := 155) (tgt := 176) dX1_explore_155 (by decide) ?_
    refine V_iinc4 C (pc := 176) (c1 := (1 : Int32)) dX1_explore_176 (by decide) (by rw [hm]; decide) ?_
    refine V_goto C (pc := 179) (tgt := 31) dX1_explore_179 (by decide) ?_
    exact V.mono [true, true, true, true, true, false, false, false] rfl (hk31 _ _ _ _ c1 c2 M152 hf)
def f_X1_explore_206 (N : Nat) (x1 : Int32) (t1 : Int32) (t2 : Int32) (M : Mm) : Option Mm := (if inb t1 19 then (some (sI (sA M 19 t1 t2) 15 x1)) else none)
set_option maxRecDepth 100000 in
set_option maxHeartbeats 4000000 in
theorem t_X1_explore_206 {Z : Zz} {G : Gm} {a : Nat → Nat} {cs csF : Nat} {N : Nat} {o : Mm} {c1 c2 : Nat} {M : Mm} {x1 t1 t2 : Int32} (C : CX (wD Z a) Z nE G cX1_explore RX1 5 none (PqV o) csF) (hm : (Gc G).maxLocals = 8) (hcs : cs ≤ csF) (hf : f_X1_explore_206 N x1 t1 t2 M = some o) : V (wD Z a) Z G cs 206 [some (.ref (a 5)), some (.int x1), none, none, none, none, none, none] [.int t2, .int t1, .ref (a 19)] (c1, c2, M) := by
  unfold f_X1_explore_206 at hf
  refine asD_19 C (pc := 206) dX1_explore_206 hf (fun hf => ?_)
  refine V_aload0 C (pc := 207) dX1_explore_207 ?_
  refine V_iload1 C (pc := 208) dX1_explore_208 ?_
  refine pf_RX1_31 C (pc := 209) dX1_explore_209 ?_
  exact V_vret C (pc := 212) rfl hcs dX1_explore_212 (pqV hf)
def f_X1_explore_182 (N : Nat) (x1 : Int32) (M : Mm) : Option Mm := (if (gI M 14) = (-1 : Int32) then (f_X1_explore_206 N x1 x1 (-1 : Int32) M) else (f_X1_explore_206 N x1 x1 ((gI M 14) >>> ((16 : Int32) &&& 31)) M))
set_option maxRecDepth 100000 in
set_option maxHeartbeats 4000000 in
theorem t_X1_explore_182 {Z : Zz} {G : Gm} {a : Nat → Nat} {cs csF : Nat} {N : Nat} {o : Mm} {c1 c2 : Nat} {M : Mm} {x1 : Int32} (C : CX (wD Z a) Z nE G cX1_explore RX1 5 none (PqV o) csF) (hm : (Gc G).maxLocals = 8) (hcs : cs ≤ csF) (hf : f_X1_explore_182 N x1 M = some o) : V (wD Z a) Z G cs 182 [some (.ref (a 5)), some (.int x1), none, none, none, none, none, none] [] (c1, c2, M) := by
  unfold f_X1_explore_182 at hf
  refine V_aload0 C (pc := 182) dX1_explore_182 ?_
  refine gf_RX1_11 C (pc := 183) dX1_explore_183 ?_
  refine V_iload1 C (pc := 186) dX1_explore_186 ?_
  refine V_aload0 C (pc := 187) dX1_explore_187 ?_
  refine gf_RX1_28 C (pc := 188) dX1_explore_188 ?_
  refine V_iconst C (pc := 191) (v := (-1 : Int32)) (by decide) dX1_explore_191 ?_
  refine V_icmp_ne C (pc := 192) (tgt := 199) dX1_explore_192 (by decide) hf (fun hf => ?_) (fun hf => ?_)
  · refine V_aload0 C (pc := 199) dX1_explore_199 ?_
    refine gf_RX1_28 C (pc := 200) dX1_explore_200 ?_
    refine V_bipush C (pc := 203) (v := (16 : Int32)) (by decide) dX1_explore_203 ?_
    refine V_ishr C (pc := 205) dX1_explore_205 ?_
    exact V.mono [true, true, false, false, false, false, false, false] rfl (t_X1_explore_206 C hm hcs hf)
  · refine V_iconst C (pc := 195) (v := (-1 : Int32)) (by decide) dX1_explore_195 ?_
    refine V_goto C (pc := 196) (tgt := 206) dX1_explore_196 (by decide) ?_
    exact V.mono [true, true, false, false, false, false, false, false] rfl (t_X1_explore_206 C hm hcs hf)
def f_X1_explore_93 (N : Nat) (k31 : Int32 → Int32 → Int32 → Int32 → Mm → Option Mm) (x1 : Int32) (x2 : Int32) (x3 : Int32) (x4 : Int32) (x5 : Int32) (t0 : Int32) (M : Mm) : Option Mm := (if (if t0 < x5 then t0 else x5) = (2147483647 : Int32) then (f_X1_explore_182 N x1 M) else (if (gI M 14) = (-1 : Int32) then (f_X1_explore_131 N k31 x1 x2 x3 x4 x5 t0 (if t0 < x5 then t0 else x5) M) else (if (if t0 < x5 then t0 else x5) ≤ (gI M 14) then (f_X1_explore_131 N k31 x1 x2 x3 x4 x5 t0 (if t0 < x5 then t0 else x5) M) else (f_X1_explore_182 N x1 M))))
set_option maxRecDepth 100000 in
set_option maxHeartbeats 4000000 in
theorem t_X1_explore_93 {Z : Zz} {G : Gm} {a : Nat → Nat} {cs csF : Nat} {N : Nat} {o : Mm} {c1 c2 : Nat} {M : Mm} {k31 : Int32 → Int32 → Int32 → Int32 → Mm → Option Mm} {x1 x2 x3 x4 x5 t0 : Int32} (C : CX (wD Z a) Z nE G cX1_explore RX1 5 none (PqV o) csF) (hm : (Gc G).maxLocals = 8) (hcs : cs ≤ csF) (hk31 : ∀ (x1 x2 x3 x4 : Int32) (c1 c2 : Nat) (M : Mm), k31 x1 x2 x3 x4 M = some o → V (wD Z a) Z G cs 31 [some (.ref (a 5)), some (.int x1), some (.int x2), some (.int x3), some (.int x4), none, none, none] [] (c1, c2, M)) (hf : f_X1_explore_93 N k31 x1 x2 x3 x4 x5 t0 M = some o) : V (wD Z a) Z G cs 93 [some (.ref (a 5)), some (.int x1), some (.int x2), some (.int x3), some (.int x4), some (.int x5), none, none] [.int t0] (c1, c2, M) := by
  unfold f_X1_explore_93 at hf
  refine V_istore6 C (pc := 93) dX1_explore_93 (by rw [hm]; decide) ?_
  refine V_iload5 C (pc := 95) dX1_explore_95 ?_
  refine V_iload6 C (pc := 97) dX1_explore_97 ?_
  refine V_mmin C (pc := 99) lk_RX1_87 (by decide) hcs dX1_explore_99 (Nat.le_of_ble_eq_true rfl) ?_
  refine V_istore7 C (pc := 102) dX1_explore_102 (by rw [hm]; decide) ?_
  refine V_iload7 C (pc := 104) dX1_explore_104 ?_
  refine V_ldc C (pc := 106) wk_RX1_86 dX1_explore_106 ?_
  refine V_icmp_eq C (pc := 108) (tgt := 182) dX1_explore_108 (by decide) hf (fun hf => ?_) (fun hf => ?_)
  · exact V.mono [true, true, false, false, false, false, false, false] rfl (t_X1_explore_182 C hm hcs hf)
  · refine V_aload0 C (pc := 111) dX1_explore_111 ?_
    refine gf_RX1_28 C (pc := 112) dX1_explore_112 ?_
    refine V_iconst C (pc := 115) (v := (-1 : Int32)) (by decide) dX1_explore_115 ?_
    refine V_icmp_eq C (pc := 116) (tgt := 131) dX1_explore_116 (by decide) hf (fun hf => ?_) (fun hf => ?_)
    · exact V.mono [true, true, true, true, true, true, true, true] rfl (t_X1_explore_131 C hm hcs hk31 hf)
    · refine V_iload7 C (pc := 119) dX1_explore_119 ?_
      refine V_aload0 C (pc := 121) dX1_explore_121 ?_
      refine gf_RX1_28 C (pc := 122) dX1_explore_122 ?_
      refine V_icmp_le C (pc := 125) (tgt := 131) dX1_explore_125 (by decide) hf (fun hf => ?_) (fun hf => ?_)
      · exact V.mono [true, true, true, true, true, true, true, true] rfl (t_X1_explore_131 C hm hcs hk31 hf)
      · refine V_goto C (pc := 128) (tgt := 182) dX1_explore_128 (by decide) ?_
        exact V.mono [true, true, false, false, false, false, false, false] rfl (t_X1_explore_182 C hm hcs hf)
def f_X1_explore_65 (N : Nat) (k31 : Int32 → Int32 → Int32 → Int32 → Mm → Option Mm) (x1 : Int32) (x2 : Int32) (x3 : Int32) (x4 : Int32) (t0 : Int32) (M : Mm) : Option Mm := (if (gI M 13) ≤ x3 then (f_X1_explore_93 N k31 x1 x2 x3 x4 t0 (2147483647 : Int32) M) else (if inb x3 (gL M) then (if inb (gA M 22 x3) (gL M) then (f_X1_explore_93 N k31 x1 x2 x3 x4 t0 ((gA M 21 (gA M 22 x3)) + (1 : Int32)) M) else none) else none))
set_option maxRecDepth 100000 in
set_option maxHeartbeats 4000000 in
theorem t_X1_explore_65 {Z : Zz} {G : Gm} {a : Nat → Nat} {cs csF : Nat} {N : Nat} {o : Mm} {c1 c2 : Nat} {M : Mm} {k31 : Int32 → Int32 → Int32 → Int32 → Mm → Option Mm} {x1 x2 x3 x4 t0 : Int32} (C : CX (wD Z a) Z nE G cX1_explore RX1 5 none (PqV o) csF) (hm : (Gc G).maxLocals = 8) (hcs : cs ≤ csF) (hk31 : ∀ (x1 x2 x3 x4 : Int32) (c1 c2 : Nat) (M : Mm), k31 x1 x2 x3 x4 M = some o → V (wD Z a) Z G cs 31 [some (.ref (a 5)), some (.int x1), some (.int x2), some (.int x3), some (.int x4), none, none, none] [] (c1, c2, M)) (hf : f_X1_explore_65 N k31 x1 x2 x3 x4 t0 M = some o) : V (wD Z a) Z G cs 65 [some (.ref (a 5)), some (.int x1), some (.int x2), some (.int x3), some (.int x4), none, none, none] [.int t0] (c1, c2, M) := by
  unfold f_X1_explore_65 at hf
  refine V_istore5 C (pc := 65) dX1_explore_65 (by rw [hm]; decide) ?_
  refine V_iload3 C (pc := 67) dX1_explore_67 ?_
  refine V_aload0 C (pc := 68) dX1_explore_68 ?_
  refine gf_RX1_24 C (pc := 69) dX1_explore_69 ?_
  refine V_icmp_ge C (pc := 72) (tgt := 91) dX1_explore_72 (by decide) hf (fun hf => ?_) (fun hf => ?_)
  · refine V_ldc C (pc := 91) wk_RX1_86 dX1_explore_91 ?_
    exact V.mono [true, true, true, true, true, true, false, false] rfl (t_X1_explore_93 C hm hcs hk31 hf)
  · refine V_aload0 C (pc := 75) dX1_explore_75 ?_
    refine gf_RX1_18 C (pc := 76) dX1_explore_76 ?_
    refine V_aload0 C (pc := 79) dX1_explore_79 ?_
    refine gf_RX1_21 C (pc := 80) dX1_explore_80 ?_
    refine V_iload3 C (pc := 83) dX1_explore_83 ?_
    refine alD_22 C (pc := 84) dX1_explore_84 hf (fun hf => ?_)
    refine alD_21 C (pc := 85) dX1_explore_85 hf (fun hf => ?_)
    refine V_iconst C (pc := 86) (v := (1 : Int32)) (by decide) dX1_explore_86 ?_
    refine V_iadd C (pc := 87) dX1_explore_87 ?_
    refine V_goto C (pc := 88) (tgt := 93) dX1_explore_88 (by decide) ?_
    exact V.mono [true, true, true, true, true, true, false, false] rfl (t_X1_explore_93 C hm hcs hk31 hf)
def f_X1_explore_31 (N : Nat) : Nat → Int32 → Int32 → Int32 → Int32 → Mm → Option Mm
  | 0, _, _, _, _, _ => none
  | n + 1, x1, x2, x3, x4, M => (if (81920 : Int32) ≤ x4 then (f_X1_explore_182 N x1 M) else (if (gI M 13) ≤ x2 then (f_X1_explore_65 N (f_X1_explore_31 N n) x1 x2 x3 x4 (2147483647 : Int32) M) else (if inb x2 (gL M) then (if inb (gA M 22 x2) (gL M) then (f_X1_explore_65 N (f_X1_explore_31 N n) x1 x2 x3 x4 ((gA M 21 (gA M 22 x2)) + (65537 : Int32)) M) else none) else none)))
set_option maxRecDepth 100000 in
set_option maxHeartbeats 4000000 in
theorem t_X1_explore_31 {Z : Zz} {G : Gm} {a : Nat → Nat} {cs csF : Nat} {N : Nat} {o : Mm} (C : CX (wD Z a) Z nE G cX1_explore RX1 5 none (PqV o) csF) (hm : (Gc G).maxLocals = 8) (hcs : cs ≤ csF) : ∀ (n : Nat) (x1 x2 x3 x4 : Int32) (c1 c2 : Nat) (M : Mm), f_X1_explore_31 N n x1 x2 x3 x4 M = some o → V (wD Z a) Z G cs 31 [some (.ref (a 5)), some (.int x1), some (.int x2), some (.int x3), some (.int x4), none, none, none] [] (c1, c2, M) := by
  intro n
  induction n with
  | zero => intro x1 x2 x3 x4 c1 c2 M hf; rw [f_X1_explore_31] at hf; cases hf
  | succ n ih =>
    intro x1 x2 x3 x4 c1 c2 M hf
    rw [f_X1_explore_31] at hf
    refine V_iload4 C (pc := 31) dX1_explore_31 ?_
    refine V_ldc C (pc := 33) wk_RX1_84 dX1_explore_33 ?_
    refine V_icmp_ge C (pc := 35) (tgt := 182) dX1_explore_35 (by decide) hf (fun hf => ?_) (fun hf => ?_)
    · exact V.mono [true, true, false, false, false, false, false, false] rfl (t_X1_explore_182 C hm hcs hf)
    · refine V_iload2 C (pc := 38) dX1_explore_38 ?_
      refine V_aload0 C (pc := 39) dX1_explore_39 ?_
      refine gf_RX1_24 C (pc := 40) dX1_explore_40 ?_
      refine V_icmp_ge C (pc := 43) (tgt := 63) dX1_explore_43 (by decide) hf (fun hf => ?_) (fun hf => ?_)
      · refine V_ldc C (pc := 63) wk_RX1_86 dX1_explore_63 ?_
        exact V.mono [true, true, true, true, true, false, false, false] rfl (t_X1_explore_65 C hm hcs ih hf)
      · refine V_aload0 C (pc := 46) dX1_explore_46 ?_
        refine gf_RX1_18 C (pc := 47) dX1_explore_47 ?_
        refine V_aload0 C (pc := 50) dX1_explore_50 ?_
        refine gf_RX1_21 C (pc := 51) dX1_explore_51 ?_
        refine V_iload2 C (pc := 54) dX1_explore_54 ?_
        refine alD_22 C (pc := 55) dX1_explore_55 hf (fun hf => ?_)
        refine alD_21 C (pc := 56) dX1_explore_56 hf (fun hf => ?_)
        refine V_ldc C (pc := 57) wk_RX1_85 dX1_explore_57 ?_
        refine V_iadd C (pc := 59) dX1_explore_59 ?_
        refine V_goto C (pc := 60) (tgt := 65) dX1_explore_60 (by decide) ?_
        exact V.mono [true, true, true, true, true, false, false, false] rfl (t_X1_explore_65 C hm hcs ih hf)
def f_X1_explore_21 (N : Nat) (x1 : Int32) (t1 : Int32) (M : Mm) : Option Mm := (f_X1_explore_31 N N x1 (0 : Int32) (0 : Int32) (0 : Int32) (sI M 14 t1))
set_option maxRecDepth 100000 in
set_option maxHeartbeats 4000000 in
theorem t_X1_explore_21 {Z : Zz} {G : Gm} {a : Nat → Nat} {cs csF : Nat} {N : Nat} {o : Mm} {c1 c2 : Nat} {M : Mm} {x1 t1 : Int32} (C : CX (wD Z a) Z nE G cX1_explore RX1 5 none (PqV o) csF) (hm : (Gc G).maxLocals = 8) (hcs : cs ≤ csF) (hf : f_X1_explore_21 N x1 t1 M = some o) : V (wD Z a) Z G cs 21 [some (.ref (a 5)), some (.int x1), none, none, none, none, none, none] [.int t1, .ref (a 5)] (c1, c2, M) := by
  unfold f_X1_explore_21 at hf
  refine pf_RX1_28 C (pc := 21) dX1_explore_21 ?_
  refine V_iconst C (pc := 24) (v := (0 : Int32)) (by decide) dX1_explore_24 ?_
  refine V_istore2 C (pc := 25) dX1_explore_25 (by rw [hm]; decide) ?_
  refine V_iconst C (pc := 26) (v := (0 : Int32)) (by decide) dX1_explore_26 ?_
  refine V_istore3 C (pc := 27) dX1_explore_27 (by rw [hm]; decide) ?_
  refine V_iconst C (pc := 28) (v := (0 : Int32)) (by decide) dX1_explore_28 ?_
  refine V_istore4 C (pc := 29) dX1_explore_29 (by rw [hm]; decide) ?_
  exact V.mono [true, true, true, true, true, false, false, false] rfl (t_X1_explore_31 C hm hcs N _ _ _ _ c1 c2 (sI M 14 t1) hf)
def f_X1_explore (N : Nat) (x1 : Int32) (M : Mm) : Option Mm := (bd (f_X1_startLine M) (fun M1 => (bd (f_X5_reaches M1 (0 : Int32)) (fun r10 => (if r10 = 0 then (f_X1_explore_21 N x1 (-1 : Int32) M1) else (f_X1_explore_21 N x1 (0 : Int32) M1))))))
set_option maxRecDepth 100000 in
set_option maxHeartbeats 4000000 in
theorem t_X1_explore {Z : Zz} {G : Gm} {a : Nat → Nat} {N : Nat} {o : Mm} {c1 c2 : Nat} {M : Mm} {x1 : Int32} (C : CX (wD Z a) Z nE G cX1_explore RX1 5 none (PqV o) (kap M)) (hm : (Gc G).maxLocals = 8) (hf : f_X1_explore N x1 M = some o) : V (wD Z a) Z G 0 0 [some (.ref (a 5)), some (.int x1), none, none, none, none, none, none] [] (c1, c2, M) := by
  unfold f_X1_explore at hf
  have hcs : 0 ≤ kap M := Nat.zero_le _
  refine V_aload0 C (pc := 0) dX1_explore_0 ?_
  obtain ⟨M0, h0, hf⟩ := bdd hf
  refine V_callVV C (pc := 1) (dep2 := 1) (As := []) (rest := []) (cs2 := kap M) (c_X1_startLine h0) lb_X1_startLine lk_RX1_62 wm_n rfl (by decide) (Nat.le_of_eq (Nat.zero_add (kap M))) 5 1 rfl rfl rfl rfl (Nat.le_of_ble_eq_true rfl) dX1_explore_1 (fun x9 h9 => ?_)
  obtain ⟨c1, c2, M1⟩ := x9
  obtain ⟨e1, e2⟩ := h9; cases e2
  have hcs : 0 + kap M ≤ kap M := Nat.le_of_eq (Nat.zero_add _)
  refine ⟨_, rfl, ?_⟩
  refine V_aload0 C (pc := 4) dX1_explore_4 ?_
  refine V_aload0 C (pc := 5) dX1_explore_5 ?_
  refine gf_RX1_37 C (pc := 6) dX1_explore_6 ?_
  refine V_iconst C (pc := 9) (v := (0 : Int32)) (by decide) dX1_explore_9 ?_
  refine V_cR C (pc := 10) (dep2 := 0) (As := [.int (0 : Int32)]) (rest := [.ref (a 5)]) (fun r0 h0 => c_X5_reaches h0) lb_X5_reaches lk_RX1_80 wm_n (by decide) hcs 2 5 rfl rfl rfl rfl (Nat.le_of_ble_eq_true rfl) dX1_explore_10 hf (fun r10 hf => ?_)
  refine V_if_eq C (pc := 13) (tgt := 20) dX1_explore_13 (by decide) hf (fun hf => ?_) (fun hf => ?_)
  · refine V_iconst C (pc := 20) (v := (-1 : Int32)) (by decide) dX1_explore_20 ?_
    exact V.mono [true, true, false, false, false, false, false, false] rfl (t_X1_explore_21 C hm hcs hf)
  · refine V_iconst C (pc := 16) (v := (0 : Int32)) (by decide) dX1_explore_16 ?_
    refine V_goto C (pc := 17) (tgt := 21) dX1_explore_17 (by decide) ?_
    exact V.mono [true, true, false, false, false, false, false, false] rfl (t_X1_explore_21 C hm hcs hf)
set_option maxRecDepth 100000 in
theorem c_X1_explore {Z : Zz} {a : Nat → Nat} {N : Nat} {c1 c2 : Nat} {M : Mm} {x1 : Int32} {M0 : Mm} (hf : f_X1_explore N x1 M = some M0) : CtV (wD Z a) Z nE yX1_explore cX1_explore 8 5 (kap M) [.ref (a 5), .int x1] (c1, c2, M) (PqV M0) := CtV_of (by decide +kernel) (List.forall_mem_cons.mpr ⟨rfl, List.forall_mem_cons.mpr ⟨rfl, fun _ h9 => nomatch h9⟩⟩) (Nat.le_of_ble_eq_true rfl) (fun G C hm => t_X1_explore (o := M0) C hm hf)
def f_X1_actsFor_49 (N : Nat)  (M : Mm) : Option (Int32 × Mm) := (if (gI M 14) = (-1 : Int32) then (some ((-1 : Int32), M)) else (some (((gI M 14) &&& (65535 : Int32)), M)))
set_option maxRecDepth 100000 in
set_option maxHeartbeats 4000000 in
theorem t_X1_actsFor_49 {Z : Zz} {G : Gm} {a : Nat → Nat} {cs csF : Nat} {N : Nat} {o : (Int32 × Mm)} {c1 c2 : Nat} {M : Mm} (C : CX (wD Z a) Z nE G cX1_actsFor RX1 6 (some .int) (PqW o.1 o.2) csF) (hm : (Gc G).maxLocals = 2) (hcs : cs ≤ csF) (hf : f_X1_actsFor_49 N  M = some o) : V (wD Z a) Z G cs 49 [some (.ref (a 5)), none] [] (c1, c2, M) := by
  unfold f_X1_actsFor_49 at hf
  refine V_aload0 C (pc := 49) dX1_actsFor_49 ?_
  refine gf_RX1_28 C (pc := 50) dX1_actsFor_50 ?_
  refine V_iconst C (pc := 53) (v := (-1 : Int32)) (by decide) dX1_actsFor_53 ?_
  refine V_icmp_ne C (pc := 54) (tgt := 61) dX1_actsFor_54 (by decide) hf (fun hf => ?_) (fun hf => ?_)
  · refine V_aload0 C (pc := 61) dX1_actsFor_61 ?_
    refine gf_RX1_28 C (pc := 62) dX1_actsFor_62 ?_
    refine V_ldc C (pc := 65) wk_RX1_57 dX1_actsFor_65 ?_
    refine V_iand C (pc := 67) dX1_actsFor_67 ?_
    exact V_iret C (pc := 68) rfl hcs dX1_actsFor_68 (pqW hf)
  · refine V_iconst C (pc := 57) (v := (-1 : Int32)) (by decide) dX1_actsFor_57 ?_
    refine V_goto C (pc := 58) (tgt := 68) dX1_actsFor_58 (by decide) ?_
    exact V_iret C (pc := 68) rfl hcs dX1_actsFor_68 (pqW hf)
def f_X1_actsFor_39 (N : Nat) (x1 : Int32) (M : Mm) : Option (Int32 × Mm) := (f_X1_actsFor_49 N (sI (sI M 15 (-1 : Int32)) 16 x1))
set_option maxRecDepth 100000 in
set_option maxHeartbeats 4000000 in
theorem t_X1_actsFor_39 {Z : Zz} {G : Gm} {a : Nat → Nat} {cs csF : Nat} {N : Nat} {o : (Int32 × Mm)} {c1 c2 : Nat} {M : Mm} {x1 : Int32} (C : CX (wD Z a) Z nE G cX1_actsFor RX1 6 (some .int) (PqW o.1 o.2) csF) (hm : (Gc G).maxLocals = 2) (hcs : cs ≤ csF) (hf : f_X1_actsFor_39 N x1 M = some o) : V (wD Z a) Z G cs 39 [some (.ref (a 5)), some (.int x1)] [] (c1, c2, M) := by
  unfold f_X1_actsFor_39 at hf
  refine V_aload0 C (pc := 39) dX1_actsFor_39 ?_
  refine V_iconst C (pc := 40) (v := (-1 : Int32)) (by decide) dX1_actsFor_40 ?_
  refine pf_RX1_31 C (pc := 41) dX1_actsFor_41 ?_
  refine V_aload0 C (pc := 44) dX1_actsFor_44 ?_
  refine V_iload1 C (pc := 45) dX1_actsFor_45 ?_
  refine pf_RX1_34 C (pc := 46) dX1_actsFor_46 ?_
  exact V.mono [true, false] rfl (t_X1_actsFor_49 C hm hcs hf)
def f_X1_actsFor_21 (N : Nat) (x1 : Int32) (M : Mm) : Option (Int32 × Mm) := (if (gI M 14) = (-1 : Int32) then (f_X1_actsFor_39 N x1 M) else (bd (f_X1_dropDetours N x1 M) (fun M31 => (bd (f_X1_writePlan N x1 M31) (fun M36 => (f_X1_actsFor_39 N x1 M36))))))
set_option maxRecDepth 100000 in
set_option maxHeartbeats 4000000 in
theorem t_X1_actsFor_21 {Z : Zz} {G : Gm} {a : Nat → Nat} {cs csF : Nat} {N : Nat} {o : (Int32 × Mm)} {c1 c2 : Nat} {M : Mm} {x1 : Int32} (C : CX (wD Z a) Z nE G cX1_actsFor RX1 6 (some .int) (PqW o.1 o.2) csF) (hm : (Gc G).maxLocals = 2) (hcs : cs ≤ csF) (hf : f_X1_actsFor_21 N x1 M = some o) : V (wD Z a) Z G cs 21 [some (.ref (a 5)), some (.int x1)] [] (c1, c2, M) := by
  unfold f_X1_actsFor_21 at hf
  refine V_aload0 C (pc := 21) dX1_actsFor_21 ?_
  refine gf_RX1_28 C (pc := 22) dX1_actsFor_22 ?_
  refine V_iconst C (pc := 25) (v := (-1 : Int32)) (by decide) dX1_actsFor_25 ?_
  refine V_icmp_eq C (pc := 26) (tgt := 39) dX1_actsFor_26 (by decide) hf (fun hf => ?_) (fun hf => ?_)
  · exact V.mono [true, true] rfl (t_X1_actsFor_39 C hm hcs hf)
  · refine V_aload0 C (pc := 29) dX1_actsFor_29 ?_
    refine V_iload1 C (pc := 30) dX1_actsFor_30 ?_
    refine V_cV C (pc := 31) (dep2 := 5) (As := [.int x1]) (rest := []) (fun M0 h0 => c_X1_dropDetours h0) lb_X1_dropDetours lk_RX1_51 wm_n (by decide) hcs 5 1 rfl rfl rfl rfl (Nat.le_of_ble_eq_true rfl) dX1_actsFor_31 hf (fun c1 c2 M31 hf => ?_)
    refine V_aload0 C (pc := 34) dX1_actsFor_34 ?_
    refine V_iload1 C (pc := 35) dX1_actsFor_35 ?_
    refine V_cV C (pc := 36) (dep2 := 5) (As := [.int x1]) (rest := []) (fun M0 h0 => c_X1_writePlan h0) lb_X1_writePlan lk_RX1_54 wm_n (by decide) hcs 5 1 rfl rfl rfl rfl (Nat.le_of_ble_eq_true rfl) dX1_actsFor_36 hf (fun c1 c2 M36 hf => ?_)
    exact V.mono [true, true] rfl (t_X1_actsFor_39 C hm hcs hf)
def f_X1_actsFor (N : Nat) (x1 : Int32) (M : Mm) : Option (Int32 × Mm) := (if (gI M 16) = x1 then (f_X1_actsFor_49 N M) else (if (gI M 15) = x1 then (f_X1_actsFor_21 N x1 M) else (bd (f_X1_explore N x1 M) (fun M18 => (f_X1_actsFor_21 N x1 M18)))))
set_option maxRecDepth 100000 in
set_option maxHeartbeats 4000000 in
theorem t_X1_actsFor {Z : Zz} {G : Gm} {a : Nat → Nat} {N : Nat} {o : (Int32 × Mm)} {c1 c2 : Nat} {M : Mm} {x1 : Int32} (C : CX (wD Z a) Z nE G cX1_actsFor RX1 6 (some .int) (PqW o.1 o.2) (kap M)) (hm : (Gc G).maxLocals = 2) (hf : f_X1_actsFor N x1 M = some o) : V (wD Z a) Z G 0 0 [some (.ref (a 5)), some (.int x1)] [] (c1, c2, M) := by
  unfold f_X1_actsFor at hf
  have hcs : 0 ≤ kap M := Nat.zero_le _
  refine V_aload0 C (pc := 0) dX1_actsFor_0 ?_
  refine gf_RX1_34 C (pc := 1) dX1_actsFor_1 ?_
  refine V_iload1 C (pc := 4) dX1_actsFor_4 ?_
  refine V_icmp_eq C (pc := 5) (tgt := 49) dX1_actsFor_5 (by decide) hf (fun hf => ?_) (fun hf => ?_)
  · exact V.mono [true, false] rfl (t_X1_actsFor_49 C hm hcs hf)
  · refine V_aload0 C (pc := 8) dX1_actsFor_8 ?_
    refine gf_RX1_31 C (pc := 9) dX1_actsFor_9 ?_
    refine V_iload1 C (pc := 12) dX1_actsFor_12 ?_
    refine V_icmp_eq C (pc := 13) (tgt := 21) dX1_actsFor_13 (by decide) hf (fun hf => ?_) (fun hf => ?_)
    · exact V.mono [true, true] rfl (t_X1_actsFor_21 C hm hcs hf)
    · refine V_aload0 C (pc := 16) dX1_actsFor_16 ?_
      refine V_iload1 C (pc := 17) dX1_actsFor_17 ?_
      obtain ⟨M0, h0, hf⟩ := bdd hf
      refine V_callVV C (pc := 18) (dep2 := 5) (As := [.int x1]) (rest := []) (cs2 := kap M) (c_X1_explore h0) lb_X1_explore lk_RX1_47 wm_n rfl (by decide) (Nat.le_of_eq (Nat.zero_add (kap M))) 5 1 rfl rfl rfl rfl (Nat.le_of_ble_eq_true rfl) dX1_actsFor_18 (fun x9 h9 => ?_)
      obtain ⟨c1, c2, M18⟩ := x9
      obtain ⟨e1, e2⟩ := h9; cases e2
      have hcs : 0 + kap M ≤ kap M := Nat.le_of_eq (Nat.zero_add _)
      refine ⟨_, rfl, ?_⟩
      exact V.mono [true, true] rfl (t_X1_actsFor_21 C hm hcs hf)
set_option maxRecDepth 100000 in
theorem c_X1_actsFor {Z : Zz} {a : Nat → Nat} {N : Nat} {c1 c2 : Nat} {M : Mm} {x1 : Int32} {r0 : Int32} {M0 : Mm} (hf : f_X1_actsFor N x1 M = some (r0, M0)) : CtI (wD Z a) Z nE yX1_actsFor cX1_actsFor 2 (some .int) 6 (kap M) [.ref (a 5), .int x1] (c1, c2, M) (PqW r0 M0) := CtI_of (by decide +kernel) (Or.inl rfl) (List.forall_mem_cons.mpr ⟨rfl, List.forall_mem_cons.mpr ⟨rfl, fun _ h9 => nomatch h9⟩⟩) (Nat.le_of_ble_eq_true rfl) (fun G C hm => t_X1_actsFor (o := (r0, M0)) C hm hf)
def f_X1_flood_66 (N : Nat) (k6 : Int32 → Int32 → Int32 → Mm → Option (Int32 × Mm)) (k26 : Int32 → Int32 → Int32 → Int32 → Mm → Option (Int32 × Mm)) (x1 : Int32) (x2 : Int32) (x3 : Int32) (x4 : Int32) (t1 : Int32) (M : Mm) : Option (Int32 × Mm) := (bd (f_X1_join t1 (0 : Int32) M) (fun M67 => (k26 x1 x2 x3 (x4 + (1 : Int32)) M67)))
set_option maxRecDepth 100000 in
set_option maxHeartbeats 4000000 in
theorem t_X1_flood_66 {Z : Zz} {G : Gm} {a : Nat → Nat} {cs csF : Nat} {N : Nat} {o : (Int32 × Mm)} {c1 c2 : Nat} {M : Mm} {k6 : Int32 → Int32 → Int32 → Mm → Option (Int32 × Mm)} {k26 : Int32 → Int32 → Int32 → Int32 → Mm → Option (Int32 × Mm)} {x1 x2 x3 x4 t1 : Int32} (C : CX (wD Z a) Z nE G cX1_flood RX1 4 (some .int) (PqW o.1 o.2) csF) (hm : (Gc G).maxLocals = 6) (hcs : cs ≤ csF) (hk6 : ∀ (x1 x2 x3 : Int32) (c1 c2 : Nat) (M : Mm), k6 x1 x2 x3 M = some o → V (wD Z a) Z G cs 6 [some (.ref (a 5)), some (.int x1), some (.int x2), some (.int x3), none, none] [] (c1, c2, M)) (hk26 : ∀ (x1 x2 x3 x4 : Int32) (c1 c2 : Nat) (M : Mm), k26 x1 x2 x3 x4 M = some o → V (wD Z a) Z G cs 26 [some (.ref (a 5)), some (.int x1), some (.int x2), some (.int x3), some (.int x4), none] [] (c1, c2, M)) (hf : f_X1_flood_66 N k6 k26 x1 x2 x3 x4 t1 M = some o) : V (wD Z a) Z G cs 66 [some (.ref (a 5)), some (.int x1), some (.int x2), some (.int x3), some (.int x4), none] [.int t1, .ref (a 5)] (c1, c2, M) := by
  unfold f_X1_flood_66 at hf
  refine V_iconst C (pc := 66) (v := (0 : Int32)) (by decide) dX1_flood_66 ?_
  refine V_cV C (pc := 67) (dep2 := 0) (As := [.int t1, .int (0 : Int32)]) (rest := []) (fun M0 h0 => c_X1_join h0) lb_X1_join lk_RX1_71 wm_n (by decide) hcs 5 1 rfl rfl rfl rfl (Nat.le_of_ble_eq_true rfl) dX1_flood_67 hf (fun c1 c2 M67 hf => ?_)
  refine V_iinc4 C (pc := 70) (c1 := (1 : Int32)) dX1_flood_70 (by decide) (by rw [hm]; decide) ?_
  refine V_goto C (pc := 73) (tgt := 26) dX1_flood_73 (by decide) ?_
  exact V.mono [true, true, true, true, true, false] rfl (hk26 _ _ _ _ c1 c2 M67 hf)
def f_X1_flood_26 (N : Nat) (k6 : Int32 → Int32 → Int32 → Mm → Option (Int32 × Mm)) : Nat → Int32 → Int32 → Int32 → Int32 → Mm → Option (Int32 × Mm)
  | 0, _, _, _, _, _ => none
  | n + 1, x1, x2, x3, x4, M => (if (18 : Int32) ≤ x4 then (k6 x1 x2 (x3 + (1 : Int32)) M) else (if inb x3 (gL M) then (bd (f_X5_lead N M (gA M 22 x3) x4 x1) (fun r46 => (if r46 = (-1 : Int32) then (f_X1_flood_66 N k6 (f_X1_flood_26 N k6 n) x1 x2 x3 x4 (-1 : Int32) M) else (f_X1_flood_66 N k6 (f_X1_flood_26 N k6 n) x1 x2 x3 x4 (r46 &&& x2) M)))) else none))
set_option maxRecDepth 100000 in
set_option maxHeartbeats 4000000 in
theorem t_X1_flood_26 {Z : Zz} {G : Gm} {a : Nat → Nat} {cs csF : Nat} {N : Nat} {o : (Int32 × Mm)} {k6 : Int32 → Int32 → Int32 → Mm → Option (Int32 × Mm)} (C : CX (wD Z a) Z nE G cX1_flood RX1 4 (some .int) (PqW o.1 o.2) csF) (hm : (Gc G).maxLocals = 6) (hcs : cs ≤ csF) (hk6 : ∀ (x1 x2 x3 : Int32) (c1 c2 : Nat) (M : Mm), k6 x1 x2 x3 M = some o → V (wD Z a) Z G cs 6 [some (.ref (a 5)), some (.int x1), some (.int x2), some (.int x3), none, none] [] (c1, c2, M)) : ∀ (n : Nat) (x1 x2 x3 x4 : Int32) (c1 c2 : Nat) (M : Mm), f_X1_flood_26 N k6 n x1 x2 x3 x4 M = some o → V (wD Z a) Z G cs 26 [some (.ref (a 5)), some (.int x1), some (.int x2), some (.int x3), some (.int x4), none] [] (c1, c2, M) := by
  intro n
  induction n with
  | zero => intro x1 x2 x3 x4 c1 c2 M hf; rw [f_X1_flood_26] at hf; cases hf
  | succ n ih =>
    intro x1 x2 x3 x4 c1 c2 M hf
    rw [f_X1_flood_26] at hf
    refine V_iload4 C (pc := 26) dX1_flood_26 ?_
    refine V_bipush C (pc := 28) (v := (18 : Int32)) (by decide) dX1_flood_28 ?_
    refine V_icmp_ge C (pc := 30) (tgt := 76) dX1_flood_30 (by decide) hf (fun hf => ?_) (fun hf => ?_)
    · refine V_iinc3 C (pc := 76) (c1 := (1 : Int32)) dX1_flood_76 (by decide) (by rw [hm]; decide) ?_
      refine V_goto C (pc := 79) (tgt := 6) dX1_flood_79 (by decide) ?_
      exact V.mono [true, true, true, true, false, false] rfl (hk6 _ _ _ c1 c2 M hf)
    · refine V_aload0 C (pc := 33) dX1_flood_33 ?_
      refine gf_RX1_37 C (pc := 34) dX1_flood_34 ?_
      refine V_aload0 C (pc := 37) dX1_flood_37 ?_
      refine gf_RX1_21 C (pc := 38) dX1_flood_38 ?_
      refine V_iload3 C (pc := 41) dX1_flood_41 ?_
      refine alD_22 C (pc := 42) dX1_flood_42 hf (fun hf => ?_)
      refine V_iload4 C (pc := 43) dX1_flood_43 ?_
      refine V_iload1 C (pc := 45) dX1_flood_45 ?_
      refine V_cR C (pc := 46) (dep2 := 3) (As := [.int (gA M 22 x3), .int x4, .int x1]) (rest := []) (fun r0 h0 => c_X5_lead h0) lb_X5_lead lk_RX1_65 wm_n (by decide) hcs 2 5 rfl rfl rfl rfl (Nat.le_of_ble_eq_true rfl) dX1_flood_46 hf (fun r46 hf => ?_)
      refine V_istore5 C (pc := 49) dX1_flood_49 (by rw [hm]; decide) ?_
      refine V_aload0 C (pc := 51) dX1_flood_51 ?_
      refine V_iload5 C (pc := 52) dX1_flood_52 ?_
      refine V_iconst C (pc := 54) (v := (-1 : Int32)) (by decide) dX1_flood_54 ?_
      refine V_icmp_ne C (pc := 55) (tgt := 62) dX1_flood_55 (by decide) hf (fun hf => ?_) (fun hf => ?_)
      · refine V_iload5 C (pc := 62) dX1_flood_62 ?_
        refine V_iload2 C (pc := 64) dX1_flood_64 ?_
        refine V_iand C (pc := 65) dX1_flood_65 ?_
        exact V.mono [true, true, true, true, true, false] rfl (t_X1_flood_66 C hm hcs hk6 ih hf)
      · refine V_iconst C (pc := 58) (v := (-1 : Int32)) (by decide) dX1_flood_58 ?_
        refine V_goto C (pc := 59) (tgt := 66) dX1_flood_59 (by decide) ?_
        exact V.mono [true, true, true, true, true, false] rfl (t_X1_flood_66 C hm hcs hk6 ih hf)
def f_X1_flood_6 (N : Nat) : Nat → Int32 → Int32 → Int32 → Mm → Option (Int32 × Mm)
  | 0, _, _, _, _ => none
  | n + 1, x1, x2, x3, M => (if (Int32.ofNat (gL M)) ≤ x3 then (some ((gI M 13), M)) else (if (gI M 13) ≤ x3 then (some ((gI M 13), M)) else (f_X1_flood_26 N (f_X1_flood_6 N n) N x1 x2 x3 (0 : Int32) M)))
set_option maxRecDepth 100000 in
set_option maxHeartbeats 4000000 in
theorem t_X1_flood_6 {Z : Zz} {G : Gm} {a : Nat → Nat} {cs csF : Nat} {N : Nat} {o : (Int32 × Mm)} (C : CX (wD Z a) Z nE G cX1_flood RX1 4 (some .int) (PqW o.1 o.2) csF) (hm : (Gc G).maxLocals = 6) (hcs : cs ≤ csF) : ∀ (n : Nat) (x1 x2 x3 : Int32) (c1 c2 : Nat) (M : Mm), f_X1_flood_6 N n x1 x2 x3 M = some o → V (wD Z a) Z G cs 6 [some (.ref (a 5)), some (.int x1), some (.int x2), some (.int x3), none, none] [] (c1, c2, M) := by
  intro n
  induction n with
  | zero => intro x1 x2 x3 c1 c2 M hf; rw [f_X1_flood_6] at hf; cases hf
  | succ n ih =>
    intro x1 x2 x3 c1 c2 M hf
    rw [f_X1_flood_6] at hf
    refine V_iload3 C (pc := 6) dX1_flood_6 ?_
    refine V_aload0 C (pc := 7) dX1_flood_7 ?_
    refine gf_RX1_21 C (pc := 8) dX1_flood_8 ?_
    refine anD_22 C (pc := 11) dX1_flood_11 ?_
    refine V_icmp_ge C (pc := 12) (tgt := 82) dX1_flood_12 (by decide) hf (fun hf => ?_) (fun hf => ?_)
    · refine V_aload0 C (pc := 82) dX1_flood_82 ?_
      refine gf_RX1_24 C (pc := 83) dX1_flood_83 ?_
      exact V_iret C (pc := 86) rfl hcs dX1_flood_86 (pqW hf)
    · refine V_iload3 C (pc := 15) dX1_flood_15 ?_
      refine V_aload0 C (pc := 16) dX1_flood_16 ?_
      refine gf_RX1_24 C (pc := 17) dX1_flood_17 ?_
      refine V_icmp_ge C (pc := 20) (tgt := 82) dX1_flood_20 (by decide) hf (fun hf => ?_) (fun hf => ?_)
      · refine V_aload0 C (pc := 82) dX1_flood_82 ?_
        refine gf_RX1_24 C (pc := 83) dX1_flood_83 ?_
        exact V_iret C (pc := 86) rfl hcs dX1_flood_86 (pqW hf)
      · refine V_iconst C (pc := 23) (v := (0 : Int32)) (by decide) dX1_flood_23 ?_
        refine V_istore4 C (pc := 24) dX1_flood_24 (by rw [hm]; decide) ?_
        exact V.mono [true, true, true, true, true, false] rfl (t_X1_flood_26 C hm hcs ih N _ _ _ _ c1 c2 M hf)
def f_X1_flood (N : Nat) (x1 : Int32) (x2 : Int32) (M : Mm) : Option (Int32 × Mm) := (bd (f_X1_startLine M) (fun M1 => (f_X1_flood_6 N N x1 x2 (0 : Int32) M1)))
set_option maxRecDepth 100000 in
set_option maxHeartbeats 4000000 in
theorem t_X1_flood {Z : Zz} {G : Gm} {a : Nat → Nat} {N : Nat} {o : (Int32 × Mm)} {c1 c2 : Nat} {M : Mm} {x1 x2 : Int32} (C : CX (wD Z a) Z nE G cX1_flood RX1 4 (some .int) (PqW o.1 o.2) (kap M)) (hm : (Gc G).maxLocals = 6) (hf : f_X1_flood N x1 x2 M = some o) : V (wD Z a) Z G 0 0 [some (.ref (a 5)), some (.int x1), some (.int x2), none, none, none] [] (c1, c2, M) := by
  unfold f_X1_flood at hf
  have hcs : 0 ≤ kap M := Nat.zero_le _
  refine V_aload0 C (pc := 0) dX1_flood_0 ?_
  obtain ⟨M0, h0, hf⟩ := bdd hf
  refine V_callVV C (pc := 1) (dep2 := 1) (As := []) (rest := []) (cs2 := kap M) (c_X1_startLine h0) lb_X1_startLine lk_RX1_62 wm_n rfl (by decide) (Nat.le_of_eq (Nat.zero_add (kap M))) 5 1 rfl rfl rfl rfl (Nat.le_of_ble_eq_true rfl) dX1_flood_1 (fun x9 h9 => ?_)
  obtain ⟨c1, c2, M1⟩ := x9
  obtain ⟨e1, e2⟩ := h9; cases e2
  have hcs : 0 + kap M ≤ kap M := Nat.le_of_eq (Nat.zero_add _)
  refine ⟨_, rfl, ?_⟩
  refine V_iconst C (pc := 4) (v := (0 : Int32)) (by decide) dX1_flood_4 ?_
  refine V_istore3 C (pc := 5) dX1_flood_5 (by rw [hm]; decide) ?_
  exact V.mono [true, true, true, true, false, false] rfl (t_X1_flood_6 C hm hcs N _ _ _ c1 c2 M1 hf)
set_option maxRecDepth 100000 in
theorem c_X1_flood {Z : Zz} {a : Nat → Nat} {N : Nat} {c1 c2 : Nat} {M : Mm} {x1 x2 : Int32} {r0 : Int32} {M0 : Mm} (hf : f_X1_flood N x1 x2 M = some (r0, M0)) : CtI (wD Z a) Z nE yX1_flood cX1_flood 6 (some .int) 4 (kap M) [.ref (a 5), .int x1, .int x2] (c1, c2, M) (PqW r0 M0) := CtI_of (by decide +kernel) (Or.inl rfl) (List.forall_mem_cons.mpr ⟨rfl, List.forall_mem_cons.mpr ⟨rfl, List.forall_mem_cons.mpr ⟨rfl, fun _ h9 => nomatch h9⟩⟩⟩) (Nat.le_of_ble_eq_true rfl) (fun G C hm => t_X1_flood (o := (r0, M0)) C hm hf)
def f_X1_makesFor (N : Nat) (x1 : Int32) (M : Mm) : Option (Int32 × Mm) := (if inb x1 19 then (if (gA M 19 x1) = (-9 : Int32) then (bd (f_X1_explore N x1 M) (fun M13 => (if inb x1 19 then (some ((gA M13 19 x1), M13)) else none))) else (if inb x1 19 then (some ((gA M 19 x1), M)) else none)) else none)
set_option maxRecDepth 100000 in
set_option maxHeartbeats 4000000 in
theorem t_X1_makesFor {Z : Zz} {G : Gm} {a : Nat → Nat} {N : Nat} {o : (Int32 × Mm)} {c1 c2 : Nat} {M : Mm} {x1 : Int32} (C : CX (wD Z a) Z nE G cX1_makesFor RX1 6 (some .int) (PqW o.1 o.2) (kap M)) (hm : (Gc G).maxLocals = 2) (hf : f_X1_makesFor N x1 M = some o) : V (wD Z a) Z G 0 0 [some (.ref (a 5)), some (.int x1)] [] (c1, c2, M) := by
  unfold f_X1_makesFor at hf
  have hcs : 0 ≤ kap M := Nat.zero_le _
  refine V_aload0 C (pc := 0) dX1_makesFor_0 ?_
  refine gf_RX1_11 C (pc := 1) dX1_makesFor_1 ?_
  refine V_iload1 C (pc := 4) dX1_makesFor_4 ?_
  refine alD_19 C (pc := 5) dX1_makesFor_5 hf (fun hf => ?_)
  refine V_bipush C (pc := 6) (v := (-9 : Int32)) (by decide) dX1_makesFor_6 ?_
  refine V_icmp_ne C (pc := 8) (tgt := 16) dX1_makesFor_8 (by decide) hf (fun hf => ?_) (fun hf => ?_)
  · refine V_aload0 C (pc := 16) dX1_makesFor_16 ?_
    refine gf_RX1_11 C (pc := 17) dX1_makesFor_17 ?_
    refine V_iload1 C (pc := 20) dX1_makesFor_20 ?_
    refine alD_19 C (pc := 21) dX1_makesFor_21 hf (fun hf => ?_)
    exact V_iret C (pc := 22) rfl hcs dX1_makesFor_22 (pqW hf)
  · refine V_aload0 C (pc := 11) dX1_makesFor_11 ?_
    refine V_iload1 C (pc := 12) dX1_makesFor_12 ?_
    obtain ⟨M0, h0, hf⟩ := bdd hf
    refine V_callVV C (pc := 13) (dep2 := 5) (As := [.int x1]) (rest := []) (cs2 := kap M) (c_X1_explore h0) lb_X1_explore lk_RX1_47 wm_n rfl (by decide) (Nat.le_of_eq (Nat.zero_add (kap M))) 5 1 rfl rfl rfl rfl (Nat.le_of_ble_eq_true rfl) dX1_makesFor_13 (fun x9 h9 => ?_)
    obtain ⟨c1, c2, M13⟩ := x9
    obtain ⟨e1, e2⟩ := h9; cases e2
    have hcs : 0 + kap M ≤ kap M := Nat.le_of_eq (Nat.zero_add _)
    refine ⟨_, rfl, ?_⟩
    refine V_aload0 C (pc := 16) dX1_makesFor_16 ?_
    refine gf_RX1_11 C (pc := 17) dX1_makesFor_17 ?_
    refine V_iload1 C (pc := 20) dX1_makesFor_20 ?_
    refine alD_19 C (pc := 21) dX1_makesFor_21 hf (fun hf => ?_)
    exact V_iret C (pc := 22) rfl hcs dX1_makesFor_22 (pqW hf)
set_option maxRecDepth 100000 in
theorem c_X1_makesFor {Z : Zz} {a : Nat → Nat} {N : Nat} {c1 c2 : Nat} {M : Mm} {x1 : Int32} {r0 : Int32} {M0 : Mm} (hf : f_X1_makesFor N x1 M = some (r0, M0)) : CtI (wD Z a) Z nE yX1_makesFor cX1_makesFor 2 (some .int) 6 (kap M) [.ref (a 5), .int x1] (c1, c2, M) (PqW r0 M0) := CtI_of (by decide +kernel) (Or.inl rfl) (List.forall_mem_cons.mpr ⟨rfl, List.forall_mem_cons.mpr ⟨rfl, fun _ h9 => nomatch h9⟩⟩) (Nat.le_of_ble_eq_true rfl) (fun G C hm => t_X1_makesFor (o := (r0, M0)) C hm hf)
def f_X1_scenesFor (N : Nat) (x1 : Int32) (M : Mm) : Option (Int32 × Mm) := (if inb x1 19 then (if (gA M 20 x1) = (-9 : Int32) then (bd2 (f_X1_flood N x1 (-3585 : Int32) M) (fun r21 M21 => (if inb x1 19 then (if inb x1 19 then (some ((gA (sA M21 20 x1 r21) 20 x1), (sA M21 20 x1 r21))) else none) else none))) else (if inb x1 19 then (some ((gA M 20 x1), M)) else none)) else none)
set_option maxRecDepth 100000 in
set_option maxHeartbeats 4000000 in
theorem t_X1_scenesFor {Z : Zz} {G : Gm} {a : Nat → Nat} {N : Nat} {o : (Int32 × Mm)} {c1 c2 : Nat} {M : Mm} {x1 : Int32} (C : CX (wD Z a) Z nE G cX1_scenesFor RX1 5 (some .int) (PqW o.1 o.2) (kap M)) (hm : (Gc G).maxLocals = 2) (hf : f_X1_scenesFor N x1 M = some o) : V (wD Z a) Z G 0 0 [some (.ref (a 5)), some (.int x1)] [] (c1, c2, M) := by
  unfold f_X1_scenesFor at hf
  have hcs : 0 ≤ kap M := Nat.zero_le _
  refine V_aload0 C (pc := 0) dX1_scenesFor_0 ?_
  refine gf_RX1_15 C (pc := 1) dX1_scenesFor_1 ?_
  refine V_iload1 C (pc := 4) dX1_scenesFor_4 ?_
  refine alD_20 C (pc := 5) dX1_scenesFor_5 hf (fun hf => ?_)
  refine V_bipush C (pc := 6) (v := (-9 : Int32)) (by decide) dX1_scenesFor_6 ?_
  refine V_icmp_ne C (pc := 8) (tgt := 25) dX1_scenesFor_8 (by decide) hf (fun hf => ?_) (fun hf => ?_)
  · refine V_aload0 C (pc := 25) dX1_scenesFor_25 ?_
    refine gf_RX1_15 C (pc := 26) dX1_scenesFor_26 ?_
    refine V_iload1 C (pc := 29) dX1_scenesFor_29 ?_
    refine alD_20 C (pc := 30) dX1_scenesFor_30 hf (fun hf => ?_)
    exact V_iret C (pc := 31) rfl hcs dX1_scenesFor_31 (pqW hf)
  · refine V_aload0 C (pc := 11) dX1_scenesFor_11 ?_
    refine gf_RX1_15 C (pc := 12) dX1_scenesFor_12 ?_
    refine V_iload1 C (pc := 15) dX1_scenesFor_15 ?_
    refine V_aload0 C (pc := 16) dX1_scenesFor_16 ?_
    refine V_iload1 C (pc := 17) dX1_scenesFor_17 ?_
    refine V_sipush C (pc := 18) (v := (-3585 : Int32)) (by decide) dX1_scenesFor_18 ?_
    obtain ⟨r0, M0, h0, hf⟩ := bdd2 hf
    refine V_callVI C (pc := 21) (dep2 := 4) (As := [.int x1, .int (-3585 : Int32)]) (rest := [.int x1, .ref (a 20)]) (cs2 := kap M) (c_X1_flood h0) lb_X1_flood lk_RX1_58 wm_n rfl (by decide) (Nat.le_of_eq (Nat.zero_add (kap M))) 5 1 rfl rfl rfl rfl (Nat.le_of_ble_eq_true rfl) dX1_scenesFor_21 (fun r x9 h9 => ?_)
    obtain ⟨c1, c2, M21⟩ := x9
    obtain ⟨e1, e2⟩ := h9; cases e1; cases e2
    have hcs : 0 + kap M ≤ kap M := Nat.le_of_eq (Nat.zero_add _)
    refine ⟨_, rfl, ?_⟩
    refine asD_20 C (pc := 24) dX1_scenesFor_24 hf (fun hf => ?_)
    refine V_aload0 C (pc := 25) dX1_scenesFor_25 ?_
    refine gf_RX1_15 C (pc := 26) dX1_scenesFor_26 ?_
    refine V_iload1 C (pc := 29) dX1_scenesFor_29 ?_
    refine alD_20 C (pc := 30) dX1_scenesFor_30 hf (fun hf => ?_)
    exact V_iret C (pc := 31) rfl hcs dX1_scenesFor_31 (pqW hf)
set_option maxRecDepth 100000 in
theorem c_X1_scenesFor {Z : Zz} {a : Nat → Nat} {N : Nat} {c1 c2 : Nat} {M : Mm} {x1 : Int32} {r0 : Int32} {M0 : Mm} (hf : f_X1_scenesFor N x1 M = some (r0, M0)) : CtI (wD Z a) Z nE yX1_scenesFor cX1_scenesFor 2 (some .int) 5 (kap M) [.ref (a 5), .int x1] (c1, c2, M) (PqW r0 M0) := CtI_of (by decide +kernel) (Or.inl rfl) (List.forall_mem_cons.mpr ⟨rfl, List.forall_mem_cons.mpr ⟨rfl, fun _ h9 => nomatch h9⟩⟩) (Nat.le_of_ble_eq_true rfl) (fun G C hm => t_X1_scenesFor (o := (r0, M0)) C hm hf)
theorem kap_X2_build {M : Mm} {v w : Int32} : kap (sI (sF M 23 4096 v) 17 w) = kap M := by
  have h1 : gI (sI (sF M 23 4096 v) 17 w) 6 = gI M 6 := rfl
  have h2 : gL (sI (sF M 23 4096 v) 17 w) = gL M := rfl
  unfold kap
  rw [h1, h2]
def f_X2_build_27 (N : Nat) : Nat → Int32 → Int32 → Mm → Option (Int32 × Mm)
  | 0, _, _, _ => none
  | n + 1, x2, x3, M => (if x2 ≤ x3 then (some ((gI M 17), M)) else (bd (f_X1_sceneAt M x3) (fun r37 => (bd (f_X6_isRowBit r37) (fun r44 => (if r44 = 0 then ((f_X2_build_27 N n) x2 (x3 + (1 : Int32)) M) else (bd2 (f_X2_turn r37 M) (fun r53 M53 => ((f_X2_build_27 N n) x2 (x3 + (1 : Int32)) M53)))))))))
set_option maxRecDepth 100000 in
set_option maxHeartbeats 4000000 in
theorem t_X2_build_27 {Z : Zz} {G : Gm} {a : Nat → Nat} {cs csF : Nat} {N : Nat} {o : (Int32 × Mm)} (C : CX (wD Z a) Z nE G cX2_build RX2 5 (some .int) (PqW o.1 o.2) csF) (hm : (Gc G).maxLocals = 5) (hcs : cs ≤ csF) : ∀ (n : Nat) (x2 x3 : Int32) (c1 c2 : Nat) (M : Mm), f_X2_build_27 N n x2 x3 M = some o → V (wD Z a) Z G cs 27 [some (.ref (a 6)), none, some (.int x2), some (.int x3), none] [] (c1, c2, M) := by
  intro n
  induction n with
  | zero => intro x2 x3 c1 c2 M hf; rw [f_X2_build_27] at hf; cases hf
  | succ n ih =>
    intro x2 x3 c1 c2 M hf
    rw [f_X2_build_27] at hf
    refine V_iload3 C (pc := 27) dX2_build_27 ?_
    refine V_iload2 C (pc := 28) dX2_build_28 ?_
    refine V_icmp_ge C (pc := 29) (tgt := 63) dX2_build_29 (by decide) hf (fun hf => ?_) (fun hf => ?_)
    · refine V_aload0 C (pc := 63) dX2_build_63 ?_
      refine gf_RX2_15 C (pc := 64) dX2_build_64 ?_
      exact V_iret C (pc := 67) rfl hcs dX2_build_67 (pqW hf)
    · refine V_aload0 C (pc := 32) dX2_build_32 ?_
      refine gf_RX2_26 C (pc := 33) dX2_build_33 ?_
      refine V_iload3 C (pc := 36) dX2_build_36 ?_
      refine V_cR C (pc := 37) (dep2 := 0) (As := [.int x3]) (rest := []) (fun r0 h0 => c_X1_sceneAt h0) lb_X1_sceneAt lk_RX2_42 wm_n (by decide) hcs 5 1 rfl rfl rfl rfl (Nat.le_of_ble_eq_true rfl) dX2_build_37 hf (fun r37 hf => ?_)
      refine V_istore4 C (pc := 40) dX2_build_40 (by rw [hm]; decide) ?_
      refine V_iload4 C (pc := 42) dX2_build_42 ?_
      refine V_cSN C (pc := 44) (dep2 := 0) (As := [.int r37]) (rest := []) (fun r0 h0 => c_X6_isRowBit h0) lb_X6_isRowBit ws_X6_isRowBit (by decide) hcs rfl rfl (Nat.le_of_ble_eq_true rfl) dX2_build_44 hf (fun r44 hf => ?_)
      refine V_if_eq C (pc := 47) (tgt := 57) dX2_build_47 (by decide) hf (fun hf => ?_) (fun hf => ?_)
      · refine V_iinc3 C (pc := 57) (c1 := (1 : Int32)) dX2_build_57 (by decide) (by rw [hm]; decide) ?_
        refine V_goto C (pc := 60) (tgt := 27) dX2_build_60 (by decide) ?_
        exact V.mono [true, false, true, true, false] rfl (ih _ _ c1 c2 M hf)
      · refine V_aload0 C (pc := 50) dX2_build_50 ?_
        refine V_iload4 C (pc := 51) dX2_build_51 ?_
        refine V_cW C (pc := 53) (dep2 := 0) (As := [.int r37]) (rest := []) (fun r0 M0 h0 => c_X2_turn h0) lb_X2_turn lk_RX2_50 wm_n (by decide) hcs 6 2 rfl rfl rfl rfl (Nat.le_of_ble_eq_true rfl) dX2_build_53 hf (fun r53 c1 c2 M53 hf => ?_)
        refine V_popi C (pc := 56) dX2_build_56 ?_
        refine V_iinc3 C (pc := 57) (c1 := (1 : Int32)) dX2_build_57 (by decide) (by rw [hm]; decide) ?_
        refine V_goto C (pc := 60) (tgt := 27) dX2_build_60 (by decide) ?_
        exact V.mono [true, false, true, true, false] rfl (ih _ _ c1 c2 M53 hf)
def f_X2_build (N : Nat) (x1 : Int32) (M : Mm) : Option (Int32 × Mm) := (bd2 (f_X1_flood N x1 (4095 : Int32) (sI (sF M 23 4096 (vp_nar .byte (0 : Int32))) 17 (0 : Int32))) (fun r21 M21 => (f_X2_build_27 N N r21 (0 : Int32) M21)))
set_option maxRecDepth 100000 in
set_option maxHeartbeats 4000000 in
theorem t_X2_build {Z : Zz} {G : Gm} {a : Nat → Nat} {N : Nat} {o : (Int32 × Mm)} {c1 c2 : Nat} {M : Mm} {x1 : Int32} (C : CX (wD Z a) Z nE G cX2_build RX2 5 (some .int) (PqW o.1 o.2) (kap M)) (hm : (Gc G).maxLocals = 5) (hf : f_X2_build N x1 M = some o) : V (wD Z a) Z G 0 0 [some (.ref (a 6)), some (.int x1), none, none, none] [] (c1, c2, M) := by
  unfold f_X2_build at hf
  have hcs : 0 ≤ kap M := Nat.zero_le _
  refine V_aload0 C (pc := 0) dX2_build_0 ?_
  refine gf_RX2_9 C (pc := 1) dX2_build_1 ?_
  refine V_iconst C (pc := 4) (v := (0 : Int32)) (by decide) dX2_build_4 ?_
  refine fiD_23 C (pc := 5) lk_RX2_30 (by decide) hcs dX2_build_5 (Nat.le_of_ble_eq_true rfl) ?_
  refine V_aload0 C (pc := 8) dX2_build_8 ?_
  refine V_iconst C (pc := 9) (v := (0 : Int32)) (by decide) dX2_build_9 ?_
  refine pf_RX2_15 C (pc := 10) dX2_build_10 ?_
  refine V_aload0 C (pc := 13) dX2_build_13 ?_
  refine gf_RX2_26 C (pc := 14) dX2_build_14 ?_
  refine V_iload1 C (pc := 17) dX2_build_17 ?_
  refine V_sipush C (pc := 18) (v := (4095 : Int32)) (by decide) dX2_build_18 ?_
  obtain ⟨r0, M0, h0, hf⟩ := bdd2 hf
  have hct := c_X1_flood (Z := Z) (a := a) (c1 := c1) (c2 := c2) h0
  rw [kap_X2_build] at hct
  refine V_callVI C (pc := 21) (dep2 := 4) (As := [.int x1, .int (4095 : Int32)]) (rest := []) (cs2 := kap M) hct lb_X1_flood lk_RX2_36 wm_n rfl (by decide) (Nat.le_of_eq (Nat.zero_add (kap M))) 5 1 rfl rfl rfl rfl (Nat.le_of_ble_eq_true rfl) dX2_build_21 (fun r x9 h9 => ?_)
  obtain ⟨c1, c2, M21⟩ := x9
  obtain ⟨e1, e2⟩ := h9; cases e1; cases e2
  have hcs : 0 + kap M ≤ kap M := Nat.le_of_eq (Nat.zero_add _)
  refine ⟨_, rfl, ?_⟩
  refine V_istore2 C (pc := 24) dX2_build_24 (by rw [hm]; decide) ?_
  refine V_iconst C (pc := 25) (v := (0 : Int32)) (by decide) dX2_build_25 ?_
  refine V_istore3 C (pc := 26) dX2_build_26 (by rw [hm]; decide) ?_
  exact V.mono [true, false, true, true, false] rfl (t_X2_build_27 C hm hcs N _ _ c1 c2 M21 hf)
set_option maxRecDepth 100000 in
theorem c_X2_build {Z : Zz} {a : Nat → Nat} {N : Nat} {c1 c2 : Nat} {M : Mm} {x1 : Int32} {r0 : Int32} {M0 : Mm} (hf : f_X2_build N x1 M = some (r0, M0)) : CtI (wD Z a) Z nE yX2_build cX2_build 5 (some .int) 5 (kap M) [.ref (a 6), .int x1] (c1, c2, M) (PqW r0 M0) := CtI_of (by decide +kernel) (Or.inl rfl) (List.forall_mem_cons.mpr ⟨rfl, List.forall_mem_cons.mpr ⟨rfl, fun _ h9 => nomatch h9⟩⟩) (Nat.le_of_ble_eq_true rfl) (fun G C hm => t_X2_build (o := (r0, M0)) C hm hf)
def f_X6_fewest (N : Nat) (x1 : Int32) (M : Mm) : Option (Int32 × Mm) := (bd (f_X6_isVatCount x1) (fun r1 => (if r1 = 0 then (some ((-2 : Int32), M)) else (bd2 (f_X1_makesFor N x1 M) (fun r12 M12 => (some (r12, M12)))))))
set_option maxRecDepth 100000 in
set_option maxHeartbeats 4000000 in
theorem t_X6_fewest {Z : Zz} {G : Gm} {a : Nat → Nat} {N : Nat} {o : (Int32 × Mm)} {c1 c2 : Nat} {M : Mm} {x1 : Int32} (C : CX (wD Z a) Z nE G cX6_fewest RX6 7 (some .int) (PqW o.1 o.2) (kap M)) (hm : (Gc G).maxLocals = 2) (hf : f_X6_fewest N x1 M = some o) : V (wD Z a) Z G 0 0 [some (.ref (a 0)), some (.int x1)] [] (c1, c2, M) := by
  unfold f_X6_fewest at hf
  have hcs : 0 ≤ kap M := Nat.zero_le _
  refine V_iload1 C (pc := 0) dX6_fewest_0 ?_
  refine V_cS C (pc := 1) (dep2 := 0) (As := [.int x1]) (rest := []) (fun r0 h0 => c_X6_isVatCount h0) lb_X6_isVatCount lk_RX6_66 (by decide) hcs rfl rfl (Nat.le_of_ble_eq_true rfl) dX6_fewest_1 hf (fun r1 hf => ?_)
  refine V_if_eq C (pc := 4) (tgt := 18) dX6_fewest_4 (by decide) hf (fun hf => ?_) (fun hf => ?_)
  · refine V_bipush C (pc := 18) (v := (-2 : Int32)) (by decide) dX6_fewest_18 ?_
    exact V_iret C (pc := 20) rfl hcs dX6_fewest_20 (pqW hf)
  · refine V_aload0 C (pc := 7) dX6_fewest_7 ?_
    refine gf_RX6_42 C (pc := 8) dX6_fewest_8 ?_
    refine V_iload1 C (pc := 11) dX6_fewest_11 ?_
    obtain ⟨r0, M0, h0, hf⟩ := bdd2 hf
    refine V_callVI C (pc := 12) (dep2 := 6) (As := [.int x1]) (rest := []) (cs2 := kap M) (c_X1_makesFor h0) lb_X1_makesFor lk_RX6_208 wm_n rfl (by decide) (Nat.le_of_eq (Nat.zero_add (kap M))) 5 1 rfl rfl rfl rfl (Nat.le_of_ble_eq_true rfl) dX6_fewest_12 (fun r x9 h9 => ?_)
    obtain ⟨c1, c2, M12⟩ := x9
    obtain ⟨e1, e2⟩ := h9; cases e1; cases e2
    have hcs : 0 + kap M ≤ kap M := Nat.le_of_eq (Nat.zero_add _)
    refine ⟨_, rfl, ?_⟩
    refine V_goto C (pc := 15) (tgt := 20) dX6_fewest_15 (by decide) ?_
    exact V_iret C (pc := 20) rfl hcs dX6_fewest_20 (pqW hf)
set_option maxRecDepth 100000 in
theorem c_X6_fewest {Z : Zz} {a : Nat → Nat} {N : Nat} {c1 c2 : Nat} {M : Mm} {x1 : Int32} {r0 : Int32} {M0 : Mm} (hf : f_X6_fewest N x1 M = some (r0, M0)) : CtI (wD Z a) Z nE yX6_fewest cX6_fewest 2 (some .int) 7 (kap M) [.ref (a 0), .int x1] (c1, c2, M) (PqW r0 M0) := CtI_of (by decide +kernel) (Or.inl rfl) (List.forall_mem_cons.mpr ⟨rfl, List.forall_mem_cons.mpr ⟨rfl, fun _ h9 => nomatch h9⟩⟩) (Nat.le_of_ble_eq_true rfl) (fun G C hm => t_X6_fewest (o := (r0, M0)) C hm hf)
def f_X6_plan (N : Nat) (x1 : Int32) (x2 : Int32) (M : Mm) : Option (Int32 × Mm) := (bd (f_X6_isVatCount x1) (fun r1 => (if r1 = 0 then (some ((-2 : Int32), M)) else (if (-1 : Int32) ≤ x2 then (bd2 (f_X1_actsFor N x1 M) (fun r20 M20 => (if x2 = (-1 : Int32) then (some (r20, M20)) else (if r20 ≤ x2 then (some ((-1 : Int32), M20)) else (bd (f_X1_actAt M20 x2) (fun r41 => (some (r41, M20)))))))) else (some ((-2 : Int32), M))))))
set_option maxRecDepth 100000 in
set_option maxHeartbeats 4000000 in
theorem t_X6_plan {Z : Zz} {G : Gm} {a : Nat → Nat} {N : Nat} {o : (Int32 × Mm)} {c1 c2 : Nat} {M : Mm} {x1 x2 : Int32} (C : CX (wD Z a) Z nE G cX6_plan RX6 7 (some .int) (PqW o.1 o.2) (kap M)) (hm : (Gc G).maxLocals = 4) (hf : f_X6_plan N x1 x2 M = some o) : V (wD Z a) Z G 0 0 [some (.ref (a 0)), some (.int x1), some (.int x2), none] [] (c1, c2, M) := by
  unfold f_X6_plan at hf
  have hcs : 0 ≤ kap M := Nat.zero_le _
  refine V_iload1 C (pc := 0) dX6_plan_0 ?_
  refine V_cS C (pc := 1) (dep2 := 0) (As := [.int x1]) (rest := []) (fun r0 h0 => c_X6_isVatCount h0) lb_X6_isVatCount lk_RX6_66 (by decide) hcs rfl rfl (Nat.le_of_ble_eq_true rfl) dX6_plan_1 hf (fun r1 hf => ?_)
  refine V_if_eq C (pc := 4) (tgt := 12) dX6_plan_4 (by decide) hf (fun hf => ?_) (fun hf => ?_)
  · refine V_bipush C (pc := 12) (v := (-2 : Int32)) (by decide) dX6_plan_12 ?_
    exact V_iret C (pc := 14) rfl hcs dX6_plan_14 (pqW hf)
  · refine V_iload2 C (pc := 7) dX6_plan_7 ?_
    refine V_iconst C (pc := 8) (v := (-1 : Int32)) (by decide) dX6_plan_8 ?_
    refine V_icmp_ge C (pc := 9) (tgt := 15) dX6_plan_9 (by decide) hf (fun hf => ?_) (fun hf => ?_)
    · refine V_aload0 C (pc := 15) dX6_plan_15 ?_
      refine gf_RX6_42 C (pc := 16) dX6_plan_16 ?_
      refine V_iload1 C (pc := 19) dX6_plan_19 ?_
      obtain ⟨r0, M0, h0, hf⟩ := bdd2 hf
      refine V_callVI C (pc := 20) (dep2 := 6) (As := [.int x1]) (rest := []) (cs2 := kap M) (c_X1_actsFor h0) lb_X1_actsFor lk_RX6_211 wm_n rfl (by decide) (Nat.le_of_eq (Nat.zero_add (kap M))) 5 1 rfl rfl rfl rfl (Nat.le_of_ble_eq_true rfl) dX6_plan_20 (fun r x9 h9 => ?_)
      obtain ⟨c1, c2, M20⟩ := x9
      obtain ⟨e1, e2⟩ := h9; cases e1; cases e2
      have hcs : 0 + kap M ≤ kap M := Nat.le_of_eq (Nat.zero_add _)
      refine ⟨_, rfl, ?_⟩
      refine V_istore3 C (pc := 23) dX6_plan_23 (by rw [hm]; decide) ?_
      refine V_iload2 C (pc := 24) dX6_plan_24 ?_
      refine V_iconst C (pc := 25) (v := (-1 : Int32)) (by decide) dX6_plan_25 ?_
      refine V_icmp_ne C (pc := 26) (tgt := 31) dX6_plan_26 (by decide) hf (fun hf => ?_) (fun hf => ?_)
      · refine V_iload2 C (pc := 31) dX6_plan_31 ?_
        refine V_iload3 C (pc := 32) dX6_plan_32 ?_
        refine V_icmp_ge C (pc := 33) (tgt := 47) dX6_plan_33 (by decide) hf (fun hf => ?_) (fun hf => ?_)
        · refine V_iconst C (pc := 47) (v := (-1 : Int32)) (by decide) dX6_plan_47 ?_
          exact V_iret C (pc := 48) rfl hcs dX6_plan_48 (pqW hf)
        · refine V_aload0 C (pc := 36) dX6_plan_36 ?_
          refine gf_RX6_42 C (pc := 37) dX6_plan_37 ?_
          refine V_iload2 C (pc := 40) dX6_plan_40 ?_
          refine V_cR C (pc := 41) (dep2 := 0) (As := [.int x2]) (rest := []) (fun r0 h0 => c_X1_actAt h0) lb_X1_actAt lk_RX6_214 wm_n (by decide) hcs 5 1 rfl rfl rfl rfl (Nat.le_of_ble_eq_true rfl) dX6_plan_41 hf (fun r41 hf => ?_)
          refine V_goto C (pc := 44) (tgt := 48) dX6_plan_44 (by decide) ?_
          exact V_iret C (pc := 48) rfl hcs dX6_plan_48 (pqW hf)
      · refine V_iload3 C (pc := 29) dX6_plan_29 ?_
        exact V_iret C (pc := 30) rfl hcs dX6_plan_30 (pqW hf)
    · refine V_bipush C (pc := 12) (v := (-2 : Int32)) (by decide) dX6_plan_12 ?_
      exact V_iret C (pc := 14) rfl hcs dX6_plan_14 (pqW hf)
set_option maxRecDepth 100000 in
theorem c_X6_plan {Z : Zz} {a : Nat → Nat} {N : Nat} {c1 c2 : Nat} {M : Mm} {x1 x2 : Int32} {r0 : Int32} {M0 : Mm} (hf : f_X6_plan N x1 x2 M = some (r0, M0)) : CtI (wD Z a) Z nE yX6_plan cX6_plan 4 (some .int) 7 (kap M) [.ref (a 0), .int x1, .int x2] (c1, c2, M) (PqW r0 M0) := CtI_of (by decide +kernel) (Or.inl rfl) (List.forall_mem_cons.mpr ⟨rfl, List.forall_mem_cons.mpr ⟨rfl, List.forall_mem_cons.mpr ⟨rfl, fun _ h9 => nomatch h9⟩⟩⟩) (Nat.le_of_ble_eq_true rfl) (fun G C hm => t_X6_plan (o := (r0, M0)) C hm hf)
def f_X6_reach (N : Nat) (x1 : Int32) (M : Mm) : Option (Int32 × Mm) := (bd (f_X6_isVatCount x1) (fun r1 => (if r1 = 0 then (some ((-2 : Int32), M)) else (bd2 (f_X1_scenesFor N x1 M) (fun r12 M12 => (some (r12, M12)))))))
set_option maxRecDepth 100000 in
set_option maxHeartbeats 4000000 in
theorem t_X6_reach {Z : Zz} {G : Gm} {a : Nat → Nat} {N : Nat} {o : (Int32 × Mm)} {c1 c2 : Nat} {M : Mm} {x1 : Int32} (C : CX (wD Z a) Z nE G cX6_reach RX6 6 (some .int) (PqW o.1 o.2) (kap M)) (hm : (Gc G).maxLocals = 2) (hf : f_X6_reach N x1 M = some o) : V (wD Z a) Z G 0 0 [some (.ref (a 0)), some (.int x1)] [] (c1, c2, M) := by
  unfold f_X6_reach at hf
  have hcs : 0 ≤ kap M := Nat.zero_le _
  refine V_iload1 C (pc := 0) dX6_reach_0 ?_
  refine V_cS C (pc := 1) (dep2 := 0) (As := [.int x1]) (rest := []) (fun r0 h0 => c_X6_isVatCount h0) lb_X6_isVatCount lk_RX6_66 (by decide) hcs rfl rfl (Nat.le_of_ble_eq_true rfl) dX6_reach_1 hf (fun r1 hf => ?_)
  refine V_if_eq C (pc := 4) (tgt := 18) dX6_reach_4 (by decide) hf (fun hf => ?_) (fun hf => ?_)
  · refine V_bipush C (pc := 18) (v := (-2 : Int32)) (by decide) dX6_reach_18 ?_
    exact V_iret C (pc := 20) rfl hcs dX6_reach_20 (pqW hf)
  · refine V_aload0 C (pc := 7) dX6_reach_7 ?_
    refine gf_RX6_42 C (pc := 8) dX6_reach_8 ?_
    refine V_iload1 C (pc := 11) dX6_reach_11 ?_
    obtain ⟨r0, M0, h0, hf⟩ := bdd2 hf
    refine V_callVI C (pc := 12) (dep2 := 5) (As := [.int x1]) (rest := []) (cs2 := kap M) (c_X1_scenesFor h0) lb_X1_scenesFor lk_RX6_217 wm_n rfl (by decide) (Nat.le_of_eq (Nat.zero_add (kap M))) 5 1 rfl rfl rfl rfl (Nat.le_of_ble_eq_true rfl) dX6_reach_12 (fun r x9 h9 => ?_)
    obtain ⟨c1, c2, M12⟩ := x9
    obtain ⟨e1, e2⟩ := h9; cases e1; cases e2
    have hcs : 0 + kap M ≤ kap M := Nat.le_of_eq (Nat.zero_add _)
    refine ⟨_, rfl, ?_⟩
    refine V_goto C (pc := 15) (tgt := 20) dX6_reach_15 (by decide) ?_
    exact V_iret C (pc := 20) rfl hcs dX6_reach_20 (pqW hf)
set_option maxRecDepth 100000 in
theorem c_X6_reach {Z : Zz} {a : Nat → Nat} {N : Nat} {c1 c2 : Nat} {M : Mm} {x1 : Int32} {r0 : Int32} {M0 : Mm} (hf : f_X6_reach N x1 M = some (r0, M0)) : CtI (wD Z a) Z nE yX6_reach cX6_reach 2 (some .int) 6 (kap M) [.ref (a 0), .int x1] (c1, c2, M) (PqW r0 M0) := CtI_of (by decide +kernel) (Or.inl rfl) (List.forall_mem_cons.mpr ⟨rfl, List.forall_mem_cons.mpr ⟨rfl, fun _ h9 => nomatch h9⟩⟩) (Nat.le_of_ble_eq_true rfl) (fun G C hm => t_X6_reach (o := (r0, M0)) C hm hf)
def f_X6_row (N : Nat) (x1 : Int32) (M : Mm) : Option (Int32 × Mm) := (bd (f_X6_isVatCount x1) (fun r1 => (if r1 = 0 then (some ((-2 : Int32), M)) else (bd (f_X5_allFillOne M) (fun r11 => (if r11 = 0 then (some ((-2 : Int32), M)) else (bd2 (f_X2_build N x1 M) (fun r22 M22 => (some (r22, M22))))))))))
set_option maxRecDepth 100000 in
set_option maxHeartbeats 4000000 in
theorem t_X6_row {Z : Zz} {G : Gm} {a : Nat → Nat} {N : Nat} {o : (Int32 × Mm)} {c1 c2 : Nat} {M : Mm} {x1 : Int32} (C : CX (wD Z a) Z nE G cX6_row RX6 6 (some .int) (PqW o.1 o.2) (kap M)) (hm : (Gc G).maxLocals = 2) (hf : f_X6_row N x1 M = some o) : V (wD Z a) Z G 0 0 [some (.ref (a 0)), some (.int x1)] [] (c1, c2, M) := by
  unfold f_X6_row at hf
  have hcs : 0 ≤ kap M := Nat.zero_le _
  refine V_iload1 C (pc := 0) dX6_row_0 ?_
  refine V_cS C (pc := 1) (dep2 := 0) (As := [.int x1]) (rest := []) (fun r0 h0 => c_X6_isVatCount h0) lb_X6_isVatCount lk_RX6_66 (by decide) hcs rfl rfl (Nat.le_of_ble_eq_true rfl) dX6_row_1 hf (fun r1 hf => ?_)
  refine V_if_eq C (pc := 4) (tgt := 28) dX6_row_4 (by decide) hf (fun hf => ?_) (fun hf => ?_)
  · refine V_bipush C (pc := 28) (v := (-2 : Int32)) (by decide) dX6_row_28 ?_
    exact V_iret C (pc := 30) rfl hcs dX6_row_30 (pqW hf)
  · refine V_aload0 C (pc := 7) dX6_row_7 ?_
    refine gf_RX6_19 C (pc := 8) dX6_row_8 ?_
    refine V_cR C (pc := 11) (dep2 := 0) (As := []) (rest := []) (fun r0 h0 => c_X5_allFillOne h0) lb_X5_allFillOne lk_RX6_220 wm_n (by decide) hcs 2 5 rfl rfl rfl rfl (Nat.le_of_ble_eq_true rfl) dX6_row_11 hf (fun r11 hf => ?_)
    refine V_if_eq C (pc := 14) (tgt := 28) dX6_row_14 (by decide) hf (fun hf => ?_) (fun hf => ?_)
    · refine V_bipush C (pc := 28) (v := (-2 : Int32)) (by decide) dX6_row_28 ?_
      exact V_iret C (pc := 30) rfl hcs dX6_row_30 (pqW hf)
    · refine V_aload0 C (pc := 17) dX6_row_17 ?_
      refine gf_RX6_51 C (pc := 18) dX6_row_18 ?_
      refine V_iload1 C (pc := 21) dX6_row_21 ?_
      obtain ⟨r0, M0, h0, hf⟩ := bdd2 hf
      refine V_callVI C (pc := 22) (dep2 := 5) (As := [.int x1]) (rest := []) (cs2 := kap M) (c_X2_build h0) lb_X2_build lk_RX6_223 wm_n rfl (by decide) (Nat.le_of_eq (Nat.zero_add (kap M))) 6 2 rfl rfl rfl rfl (Nat.le_of_ble_eq_true rfl) dX6_row_22 (fun r x9 h9 => ?_)
      obtain ⟨c1, c2, M22⟩ := x9
      obtain ⟨e1, e2⟩ := h9; cases e1; cases e2
      have hcs : 0 + kap M ≤ kap M := Nat.le_of_eq (Nat.zero_add _)
      refine ⟨_, rfl, ?_⟩
      refine V_goto C (pc := 25) (tgt := 30) dX6_row_25 (by decide) ?_
      exact V_iret C (pc := 30) rfl hcs dX6_row_30 (pqW hf)
set_option maxRecDepth 100000 in
theorem c_X6_row {Z : Zz} {a : Nat → Nat} {N : Nat} {c1 c2 : Nat} {M : Mm} {x1 : Int32} {r0 : Int32} {M0 : Mm} (hf : f_X6_row N x1 M = some (r0, M0)) : CtI (wD Z a) Z nE yX6_row cX6_row 2 (some .int) 6 (kap M) [.ref (a 0), .int x1] (c1, c2, M) (PqW r0 M0) := CtI_of (by decide +kernel) (Or.inl rfl) (List.forall_mem_cons.mpr ⟨rfl, List.forall_mem_cons.mpr ⟨rfl, fun _ h9 => nomatch h9⟩⟩) (Nat.le_of_ble_eq_true rfl) (fun G C hm => t_X6_row (o := (r0, M0)) C hm hf)
