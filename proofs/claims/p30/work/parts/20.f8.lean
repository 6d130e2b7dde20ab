/-! BubbleTorusModel.ticks -/
theorem d_M_ticks_0 : decode m_M_ticks.2.1 0 = .ok (.aload_n 0, 1) := by decide +kernel
theorem d_M_ticks_1 : decode m_M_ticks.2.1 1 = .ok (.invokevirtual 72, 3) := by decide +kernel
theorem d_M_ticks_4 : decode m_M_ticks.2.1 4 = .ok (.istore_n 1, 1) := by decide +kernel
theorem d_M_ticks_5 : decode m_M_ticks.2.1 5 = .ok (.iconst 0, 1) := by decide +kernel
theorem d_M_ticks_6 : decode m_M_ticks.2.1 6 = .ok (.istore_n 2, 1) := by decide +kernel
theorem d_M_ticks_7 : decode m_M_ticks.2.1 7 = .ok (.iload_n 2, 1) := by decide +kernel
theorem d_M_ticks_8 : decode m_M_ticks.2.1 8 = .ok (.iload_n 1, 1) := by decide +kernel
theorem d_M_ticks_9 : decode m_M_ticks.2.1 9 = .ok (.if_icmp .ge 29, 3) := by decide +kernel
theorem d_M_ticks_12 : decode m_M_ticks.2.1 12 = .ok (.iconst 1, 1) := by decide +kernel
theorem d_M_ticks_13 : decode m_M_ticks.2.1 13 = .ok (.istore_n 3, 1) := by decide +kernel
theorem d_M_ticks_14 : decode m_M_ticks.2.1 14 = .ok (.iload_n 3, 1) := by decide +kernel
theorem d_M_ticks_15 : decode m_M_ticks.2.1 15 = .ok (.bipush 9, 2) := by decide +kernel
theorem d_M_ticks_17 : decode m_M_ticks.2.1 17 = .ok (.if_icmp .ge 15, 3) := by decide +kernel
theorem d_M_ticks_20 : decode m_M_ticks.2.1 20 = .ok (.aload_n 0, 1) := by decide +kernel
theorem d_M_ticks_21 : decode m_M_ticks.2.1 21 = .ok (.iload_n 2, 1) := by decide +kernel
theorem d_M_ticks_22 : decode m_M_ticks.2.1 22 = .ok (.iload_n 3, 1) := by decide +kernel
theorem d_M_ticks_23 : decode m_M_ticks.2.1 23 = .ok (.invokevirtual 196, 3) := by decide +kernel
theorem d_M_ticks_26 : decode m_M_ticks.2.1 26 = .ok (.iinc 3 1, 3) := by decide +kernel
theorem d_M_ticks_29 : decode m_M_ticks.2.1 29 = .ok (.goto (-15), 3) := by decide +kernel
theorem d_M_ticks_32 : decode m_M_ticks.2.1 32 = .ok (.iinc 2 1, 3) := by decide +kernel
theorem d_M_ticks_35 : decode m_M_ticks.2.1 35 = .ok (.goto (-28), 3) := by decide +kernel
theorem d_M_ticks_38 : decode m_M_ticks.2.1 38 = .ok (.aload_n 0, 1) := by decide +kernel
theorem d_M_ticks_39 : decode m_M_ticks.2.1 39 = .ok (.getfield 7, 3) := by decide +kernel
theorem d_M_ticks_42 : decode m_M_ticks.2.1 42 = .ok (.bipush 15, 2) := by decide +kernel
theorem d_M_ticks_44 : decode m_M_ticks.2.1 44 = .ok (.iconst 0, 1) := by decide +kernel
theorem d_M_ticks_45 : decode m_M_ticks.2.1 45 = .ok (.iastore, 1) := by decide +kernel
theorem d_M_ticks_46 : decode m_M_ticks.2.1 46 = .ok (.iconst 0, 1) := by decide +kernel
theorem d_M_ticks_47 : decode m_M_ticks.2.1 47 = .ok (.istore_n 2, 1) := by decide +kernel
theorem d_M_ticks_48 : decode m_M_ticks.2.1 48 = .ok (.iload_n 2, 1) := by decide +kernel
theorem d_M_ticks_49 : decode m_M_ticks.2.1 49 = .ok (.bipush 64, 2) := by decide +kernel
theorem d_M_ticks_51 : decode m_M_ticks.2.1 51 = .ok (.if_icmp .ge 20, 3) := by decide +kernel
theorem d_M_ticks_54 : decode m_M_ticks.2.1 54 = .ok (.aload_n 0, 1) := by decide +kernel
theorem d_M_ticks_55 : decode m_M_ticks.2.1 55 = .ok (.getfield 7, 3) := by decide +kernel
theorem d_M_ticks_58 : decode m_M_ticks.2.1 58 = .ok (.sipush 5834, 3) := by decide +kernel
theorem d_M_ticks_61 : decode m_M_ticks.2.1 61 = .ok (.iload_n 2, 1) := by decide +kernel
theorem d_M_ticks_62 : decode m_M_ticks.2.1 62 = .ok (.iadd, 1) := by decide +kernel
theorem d_M_ticks_63 : decode m_M_ticks.2.1 63 = .ok (.iconst 0, 1) := by decide +kernel
theorem d_M_ticks_64 : decode m_M_ticks.2.1 64 = .ok (.iastore, 1) := by decide +kernel
theorem d_M_ticks_65 : decode m_M_ticks.2.1 65 = .ok (.iinc 2 1, 3) := by decide +kernel
theorem d_M_ticks_68 : decode m_M_ticks.2.1 68 = .ok (.goto (-20), 3) := by decide +kernel
theorem d_M_ticks_71 : decode m_M_ticks.2.1 71 = .ok (.iconst 0, 1) := by decide +kernel
theorem d_M_ticks_72 : decode m_M_ticks.2.1 72 = .ok (.istore_n 2, 1) := by decide +kernel
theorem d_M_ticks_73 : decode m_M_ticks.2.1 73 = .ok (.iload_n 2, 1) := by decide +kernel
theorem d_M_ticks_74 : decode m_M_ticks.2.1 74 = .ok (.iload_n 1, 1) := by decide +kernel
theorem d_M_ticks_75 : decode m_M_ticks.2.1 75 = .ok (.if_icmp .ge 38, 3) := by decide +kernel
theorem d_M_ticks_78 : decode m_M_ticks.2.1 78 = .ok (.iconst 0, 1) := by decide +kernel
theorem d_M_ticks_79 : decode m_M_ticks.2.1 79 = .ok (.istore_n 3, 1) := by decide +kernel
theorem d_M_ticks_80 : decode m_M_ticks.2.1 80 = .ok (.iload_n 3, 1) := by decide +kernel
theorem d_M_ticks_81 : decode m_M_ticks.2.1 81 = .ok (.iconst 4, 1) := by decide +kernel
theorem d_M_ticks_82 : decode m_M_ticks.2.1 82 = .ok (.if_icmp .ge 25, 3) := by decide +kernel
theorem d_M_ticks_85 : decode m_M_ticks.2.1 85 = .ok (.aload_n 0, 1) := by decide +kernel
theorem d_M_ticks_86 : decode m_M_ticks.2.1 86 = .ok (.aload_n 0, 1) := by decide +kernel
theorem d_M_ticks_87 : decode m_M_ticks.2.1 87 = .ok (.getfield 7, 3) := by decide +kernel
theorem d_M_ticks_90 : decode m_M_ticks.2.1 90 = .ok (.bipush 6, 2) := by decide +kernel
theorem d_M_ticks_92 : decode m_M_ticks.2.1 92 = .ok (.iaload, 1) := by decide +kernel
theorem d_M_ticks_93 : decode m_M_ticks.2.1 93 = .ok (.iload_n 2, 1) := by decide +kernel
theorem d_M_ticks_94 : decode m_M_ticks.2.1 94 = .ok (.iadd, 1) := by decide +kernel
theorem d_M_ticks_95 : decode m_M_ticks.2.1 95 = .ok (.iload_n 1, 1) := by decide +kernel
theorem d_M_ticks_96 : decode m_M_ticks.2.1 96 = .ok (.irem, 1) := by decide +kernel
theorem d_M_ticks_97 : decode m_M_ticks.2.1 97 = .ok (.iload_n 3, 1) := by decide +kernel
theorem d_M_ticks_98 : decode m_M_ticks.2.1 98 = .ok (.invokevirtual 199, 3) := by decide +kernel
theorem d_M_ticks_101 : decode m_M_ticks.2.1 101 = .ok (.iinc 3 1, 3) := by decide +kernel
theorem d_M_ticks_104 : decode m_M_ticks.2.1 104 = .ok (.goto (-24), 3) := by decide +kernel
theorem d_M_ticks_107 : decode m_M_ticks.2.1 107 = .ok (.iinc 2 1, 3) := by decide +kernel
theorem d_M_ticks_110 : decode m_M_ticks.2.1 110 = .ok (.goto (-37), 3) := by decide +kernel
theorem d_M_ticks_113 : decode m_M_ticks.2.1 113 = .ok (.iconst 0, 1) := by decide +kernel
theorem d_M_ticks_114 : decode m_M_ticks.2.1 114 = .ok (.istore_n 2, 1) := by decide +kernel
theorem d_M_ticks_115 : decode m_M_ticks.2.1 115 = .ok (.iload_n 2, 1) := by decide +kernel
theorem d_M_ticks_116 : decode m_M_ticks.2.1 116 = .ok (.iload_n 1, 1) := by decide +kernel
theorem d_M_ticks_117 : decode m_M_ticks.2.1 117 = .ok (.if_icmp .ge 28, 3) := by decide +kernel
theorem d_M_ticks_120 : decode m_M_ticks.2.1 120 = .ok (.iconst 0, 1) := by decide +kernel
theorem d_M_ticks_121 : decode m_M_ticks.2.1 121 = .ok (.istore_n 3, 1) := by decide +kernel
theorem d_M_ticks_122 : decode m_M_ticks.2.1 122 = .ok (.iload_n 3, 1) := by decide +kernel
theorem d_M_ticks_123 : decode m_M_ticks.2.1 123 = .ok (.iconst 4, 1) := by decide +kernel
theorem d_M_ticks_124 : decode m_M_ticks.2.1 124 = .ok (.if_icmp .ge 15, 3) := by decide +kernel
theorem d_M_ticks_127 : decode m_M_ticks.2.1 127 = .ok (.aload_n 0, 1) := by decide +kernel
theorem d_M_ticks_128 : decode m_M_ticks.2.1 128 = .ok (.iload_n 2, 1) := by decide +kernel
theorem d_M_ticks_129 : decode m_M_ticks.2.1 129 = .ok (.iload_n 3, 1) := by decide +kernel
theorem d_M_ticks_130 : decode m_M_ticks.2.1 130 = .ok (.invokevirtual 202, 3) := by decide +kernel
theorem d_M_ticks_133 : decode m_M_ticks.2.1 133 = .ok (.iinc 3 1, 3) := by decide +kernel
theorem d_M_ticks_136 : decode m_M_ticks.2.1 136 = .ok (.goto (-14), 3) := by decide +kernel
theorem d_M_ticks_139 : decode m_M_ticks.2.1 139 = .ok (.iinc 2 1, 3) := by decide +kernel
theorem d_M_ticks_142 : decode m_M_ticks.2.1 142 = .ok (.goto (-27), 3) := by decide +kernel
theorem d_M_ticks_145 : decode m_M_ticks.2.1 145 = .ok (.iconst 0, 1) := by decide +kernel
theorem d_M_ticks_146 : decode m_M_ticks.2.1 146 = .ok (.istore_n 2, 1) := by decide +kernel
theorem d_M_ticks_147 : decode m_M_ticks.2.1 147 = .ok (.iload_n 2, 1) := by decide +kernel
theorem d_M_ticks_148 : decode m_M_ticks.2.1 148 = .ok (.aload_n 0, 1) := by decide +kernel
theorem d_M_ticks_149 : decode m_M_ticks.2.1 149 = .ok (.invokevirtual 54, 3) := by decide +kernel
theorem d_M_ticks_152 : decode m_M_ticks.2.1 152 = .ok (.if_icmp .ge 56, 3) := by decide +kernel
theorem d_M_ticks_155 : decode m_M_ticks.2.1 155 = .ok (.aload_n 0, 1) := by decide +kernel
theorem d_M_ticks_156 : decode m_M_ticks.2.1 156 = .ok (.getfield 7, 3) := by decide +kernel
theorem d_M_ticks_159 : decode m_M_ticks.2.1 159 = .ok (.iconst 5, 1) := by decide +kernel
theorem d_M_ticks_160 : decode m_M_ticks.2.1 160 = .ok (.iaload, 1) := by decide +kernel
theorem d_M_ticks_161 : decode m_M_ticks.2.1 161 = .ok (.ifCond .le 8, 3) := by decide +kernel
theorem d_M_ticks_164 : decode m_M_ticks.2.1 164 = .ok (.aload_n 0, 1) := by decide +kernel
theorem d_M_ticks_165 : decode m_M_ticks.2.1 165 = .ok (.iload_n 2, 1) := by decide +kernel
theorem d_M_ticks_166 : decode m_M_ticks.2.1 166 = .ok (.invokevirtual 205, 3) := by decide +kernel
theorem d_M_ticks_169 : decode m_M_ticks.2.1 169 = .ok (.aload_n 0, 1) := by decide +kernel
theorem d_M_ticks_170 : decode m_M_ticks.2.1 170 = .ok (.iload_n 2, 1) := by decide +kernel
theorem d_M_ticks_171 : decode m_M_ticks.2.1 171 = .ok (.invokevirtual 209, 3) := by decide +kernel
theorem d_M_ticks_174 : decode m_M_ticks.2.1 174 = .ok (.istore_n 3, 1) := by decide +kernel
theorem d_M_ticks_175 : decode m_M_ticks.2.1 175 = .ok (.iload_n 3, 1) := by decide +kernel
theorem d_M_ticks_176 : decode m_M_ticks.2.1 176 = .ok (.aload_n 0, 1) := by decide +kernel
theorem d_M_ticks_177 : decode m_M_ticks.2.1 177 = .ok (.getfield 7, 3) := by decide +kernel
theorem d_M_ticks_180 : decode m_M_ticks.2.1 180 = .ok (.iload_n 2, 1) := by decide +kernel
theorem d_M_ticks_181 : decode m_M_ticks.2.1 181 = .ok (.invokestatic 58, 3) := by decide +kernel
theorem d_M_ticks_184 : decode m_M_ticks.2.1 184 = .ok (.iconst 5, 1) := by decide +kernel
theorem d_M_ticks_185 : decode m_M_ticks.2.1 185 = .ok (.iadd, 1) := by decide +kernel
theorem d_M_ticks_186 : decode m_M_ticks.2.1 186 = .ok (.iaload, 1) := by decide +kernel
theorem d_M_ticks_187 : decode m_M_ticks.2.1 187 = .ok (.if_icmp .ge 15, 3) := by decide +kernel
theorem d_M_ticks_190 : decode m_M_ticks.2.1 190 = .ok (.aload_n 0, 1) := by decide +kernel
theorem d_M_ticks_191 : decode m_M_ticks.2.1 191 = .ok (.getfield 7, 3) := by decide +kernel
theorem d_M_ticks_194 : decode m_M_ticks.2.1 194 = .ok (.iload_n 2, 1) := by decide +kernel
theorem d_M_ticks_195 : decode m_M_ticks.2.1 195 = .ok (.invokestatic 58, 3) := by decide +kernel
theorem d_M_ticks_198 : decode m_M_ticks.2.1 198 = .ok (.iconst 5, 1) := by decide +kernel
theorem d_M_ticks_199 : decode m_M_ticks.2.1 199 = .ok (.iadd, 1) := by decide +kernel
theorem d_M_ticks_200 : decode m_M_ticks.2.1 200 = .ok (.iload_n 3, 1) := by decide +kernel
theorem d_M_ticks_201 : decode m_M_ticks.2.1 201 = .ok (.iastore, 1) := by decide +kernel
theorem d_M_ticks_202 : decode m_M_ticks.2.1 202 = .ok (.iinc 2 1, 3) := by decide +kernel
theorem d_M_ticks_205 : decode m_M_ticks.2.1 205 = .ok (.goto (-58), 3) := by decide +kernel
theorem d_M_ticks_208 : decode m_M_ticks.2.1 208 = .ok (.aload_n 0, 1) := by decide +kernel
theorem d_M_ticks_209 : decode m_M_ticks.2.1 209 = .ok (.getfield 7, 3) := by decide +kernel
theorem d_M_ticks_212 : decode m_M_ticks.2.1 212 = .ok (.bipush 6, 2) := by decide +kernel
theorem d_M_ticks_214 : decode m_M_ticks.2.1 214 = .ok (.dup2, 1) := by decide +kernel
theorem d_M_ticks_215 : decode m_M_ticks.2.1 215 = .ok (.iaload, 1) := by decide +kernel
theorem d_M_ticks_216 : decode m_M_ticks.2.1 216 = .ok (.iconst 1, 1) := by decide +kernel
theorem d_M_ticks_217 : decode m_M_ticks.2.1 217 = .ok (.iadd, 1) := by decide +kernel
theorem d_M_ticks_218 : decode m_M_ticks.2.1 218 = .ok (.iastore, 1) := by decide +kernel
theorem d_M_ticks_219 : decode m_M_ticks.2.1 219 = .ok (.return_, 1) := by decide +kernel
def f_M_ticks_14 (r7 : Int → Int → qMem → Option (qMem)) : Nat → Int → Int → Int → qMem → Option (qMem)
  | 0, _, _, _, _ => none
  | n + 1, x1, x2, x3, w =>
    if x3 < 9 then
    (f_M_delivers x2 x3 w).bind fun q2 =>
    (f_M_ticks_14 r7 n) x1 x2 (w32 (x3 + 1)) q2
    else
    r7 x1 (w32 (x2 + 1)) w
set_option maxRecDepth 4000 in
theorem s_M_ticks_14  {r7 : Int → Int → qMem → Option (qMem)} (hr7 : ∀ x1 x2 w, qSim κV 100 100 m_M_ticks 7 [] [some (qR 88), some (qI x1), some (qI x2), none] w (r7 x1 x2 w)) : ∀ (n : Nat), ∀ (x1 x2 x3 : Int) (w : qMem), qSim κV 100 100 m_M_ticks 14 [] [some (qR 88), some (qI x1), some (qI x2), some (qI x3)] w (f_M_ticks_14 r7 n x1 x2 x3 w) := by
  intro n
  induction n with
  | zero => intro x1 x2 x3 w; exact z_none
  | succ n ih =>
    intro x1 x2 x3 w
    rw [f_M_ticks_14]
    refine z_iload_n d_M_ticks_14 rfl ?_
    refine z_bipush d_M_ticks_15 ⟨by decide, by decide⟩ ?_
    refine z_icmp_ge (tgt := 32) d_M_ticks_17 rfl (fun c1 => ?_) (fun c1 => ?_)
    · refine z_aload_n d_M_ticks_20 rfl ?_
      refine z_iload_n d_M_ticks_21 rfl ?_
      refine z_iload_n d_M_ticks_22 rfl ?_
      refine z_cVV (as := [qI x2, qI x3]) (st := []) (nl := 2) (ci := 10) d_M_ticks_23 lk_M_196 mk_M_delivers rfl rfl rfl rfl rfl rfl (s_M_delivers _ _ _) (fun q2 _ => ?_)
      refine z_iinc (pls' := [some (qR 88), some (qI x1), some (qI x2), some (qI (w32 (x3 + 1)))]) d_M_ticks_26 (by decide) rfl rfl rfl ?_
      refine z_goto (tgt := 14) d_M_ticks_29 rfl ?_
      refine z_mask [true, true, true, true] ?_
      exact ih _ _ _ _
    · refine z_iinc (pls' := [some (qR 88), some (qI x1), some (qI (w32 (x2 + 1))), some (qI x3)]) d_M_ticks_32 (by decide) rfl rfl rfl ?_
      refine z_goto (tgt := 7) d_M_ticks_35 rfl ?_
      refine z_mask [true, true, true, false] ?_
      exact hr7 _ _ _
def f_M_ticks_80 (r73 : Int → Int → qMem → Option (qMem)) : Nat → Int → Int → Int → qMem → Option (qMem)
  | 0, _, _, _, _ => none
  | n + 1, x1, x2, x3, w =>
    if x3 < 4 then
    qld w 89 5898 6 fun v4 =>
    qdv x1 <|
    (f_M_oneGoes (jrem (w32 (v4 + x2)) x1) x3 w).bind fun q5 =>
    (f_M_ticks_80 r73 n) x1 x2 (w32 (x3 + 1)) q5
    else
    r73 x1 (w32 (x2 + 1)) w
set_option maxRecDepth 4000 in
theorem s_M_ticks_80  {r73 : Int → Int → qMem → Option (qMem)} (hr73 : ∀ x1 x2 w, qSim κV 100 100 m_M_ticks 73 [] [some (qR 88), some (qI x1), some (qI x2), none] w (r73 x1 x2 w)) : ∀ (n : Nat), ∀ (x1 x2 x3 : Int) (w : qMem), qSim κV 100 100 m_M_ticks 80 [] [some (qR 88), some (qI x1), some (qI x2), some (qI x3)] w (f_M_ticks_80 r73 n x1 x2 x3 w) := by
  intro n
  induction n with
  | zero => intro x1 x2 x3 w; exact z_none
  | succ n ih =>
    intro x1 x2 x3 w
    rw [f_M_ticks_80]
    refine z_iload_n d_M_ticks_80 rfl ?_
    refine z_ic4 d_M_ticks_81 ?_
    refine z_icmp_ge (tgt := 107) d_M_ticks_82 rfl (fun c3 => ?_) (fun c3 => ?_)
    · refine z_aload_n d_M_ticks_85 rfl ?_
      refine z_aload_n d_M_ticks_86 rfl ?_
      refine z_gr (ci := 10) (j := 0) (d := 1) (o2 := 89) d_M_ticks_87 rfl fl_M_7 rfl (Nat.le_of_ble_eq_true rfl) rfl rfl ?_
      refine z_bipush d_M_ticks_90 ⟨by decide, by decide⟩ ?_
      refine z_il d_M_ticks_92 rfl rfl (fun v4 => ?_)
      refine z_iload_n d_M_ticks_93 rfl ?_
      refine z_iadd d_M_ticks_94 ?_
      refine z_iload_n d_M_ticks_95 rfl ?_
      refine z_irem d_M_ticks_96 (fun _ => ?_)
      refine z_iload_n d_M_ticks_97 rfl ?_
      refine z_cVV (as := [qI (jrem (w32 (v4 + x2)) x1), qI x3]) (st := []) (nl := 4) (ci := 10) d_M_ticks_98 lk_M_199 mk_M_oneGoes rfl rfl rfl rfl rfl rfl (s_M_oneGoes _ _ _) (fun q5 _ => ?_)
      refine z_iinc (pls' := [some (qR 88), some (qI x1), some (qI x2), some (qI (w32 (x3 + 1)))]) d_M_ticks_101 (by decide) rfl rfl rfl ?_
      refine z_goto (tgt := 80) d_M_ticks_104 rfl ?_
      refine z_mask [true, true, true, true] ?_
      exact ih _ _ _ _
    · refine z_iinc (pls' := [some (qR 88), some (qI x1), some (qI (w32 (x2 + 1))), some (qI x3)]) d_M_ticks_107 (by decide) rfl rfl rfl ?_
      refine z_goto (tgt := 73) d_M_ticks_110 rfl ?_
      refine z_mask [true, true, true, false] ?_
      exact hr73 _ _ _
def f_M_ticks_122 (r115 : Int → Int → qMem → Option (qMem)) : Nat → Int → Int → Int → qMem → Option (qMem)
  | 0, _, _, _, _ => none
  | n + 1, x1, x2, x3, w =>
    if x3 < 4 then
    (f_M_hungers x2 x3 w).bind fun q7 =>
    (f_M_ticks_122 r115 n) x1 x2 (w32 (x3 + 1)) q7
    else
    r115 x1 (w32 (x2 + 1)) w
set_option maxRecDepth 4000 in
theorem s_M_ticks_122  {r115 : Int → Int → qMem → Option (qMem)} (hr115 : ∀ x1 x2 w, qSim κV 100 100 m_M_ticks 115 [] [some (qR 88), some (qI x1), some (qI x2), none] w (r115 x1 x2 w)) : ∀ (n : Nat), ∀ (x1 x2 x3 : Int) (w : qMem), qSim κV 100 100 m_M_ticks 122 [] [some (qR 88), some (qI x1), some (qI x2), some (qI x3)] w (f_M_ticks_122 r115 n x1 x2 x3 w) := by
  intro n
  induction n with
  | zero => intro x1 x2 x3 w; exact z_none
  | succ n ih =>
    intro x1 x2 x3 w
    rw [f_M_ticks_122]
    refine z_iload_n d_M_ticks_122 rfl ?_
    refine z_ic4 d_M_ticks_123 ?_
    refine z_icmp_ge (tgt := 139) d_M_ticks_124 rfl (fun c6 => ?_) (fun c6 => ?_)
    · refine z_aload_n d_M_ticks_127 rfl ?_
      refine z_iload_n d_M_ticks_128 rfl ?_
      refine z_iload_n d_M_ticks_129 rfl ?_
      refine z_cVV (as := [qI x2, qI x3]) (st := []) (nl := 1) (ci := 10) d_M_ticks_130 lk_M_202 mk_M_hungers rfl rfl rfl rfl rfl rfl (s_M_hungers _ _ _) (fun q7 _ => ?_)
      refine z_iinc (pls' := [some (qR 88), some (qI x1), some (qI x2), some (qI (w32 (x3 + 1)))]) d_M_ticks_133 (by decide) rfl rfl rfl ?_
      refine z_goto (tgt := 122) d_M_ticks_136 rfl ?_
      refine z_mask [true, true, true, true] ?_
      exact ih _ _ _ _
    · refine z_iinc (pls' := [some (qR 88), some (qI x1), some (qI (w32 (x2 + 1))), some (qI x3)]) d_M_ticks_139 (by decide) rfl rfl rfl ?_
      refine z_goto (tgt := 115) d_M_ticks_142 rfl ?_
      refine z_mask [true, true, true, false] ?_
      exact hr115 _ _ _
def f_M_ticks_169 (r147 : Int → qMem → Option (qMem)) (x2 : Int) (w : qMem) : Option (qMem) :=
  (f_M_freeIn x2 w).bind fun q8 =>
  (f_M_ringAt x2 q8.2).bind fun q9 =>
  qld q9.2 89 5898 (w32 (q9.1 + 5)) fun v10 =>
  if q8.1 < v10 then
  (f_M_ringAt x2 q9.2).bind fun q12 =>
  qst q12.2 89 5898 (w32 (q12.1 + 5)) q8.1 fun w13 =>
  r147 (w32 (x2 + 1)) w13
  else
  r147 (w32 (x2 + 1)) q9.2
set_option maxRecDepth 4000 in
theorem s_M_ticks_169  {r147 : Int → qMem → Option (qMem)} (hr147 : ∀ x2 w, qSim κV 100 100 m_M_ticks 147 [] [some (qR 88), none, some (qI x2), none] w (r147 x2 w)) : ∀ (x2 : Int) (w : qMem), qSim κV 100 100 m_M_ticks 169 [] [some (qR 88), none, some (qI x2), none] w (f_M_ticks_169 r147 x2 w) := by
  intro x2 w
  unfold f_M_ticks_169
  refine z_aload_n d_M_ticks_169 rfl ?_
  refine z_iload_n d_M_ticks_170 rfl ?_
  refine z_cVI (as := [qI x2]) (st := []) (nl := 3) (ci := 10) d_M_ticks_171 lk_M_209 mk_M_freeIn rfl rfl rfl rfl rfl rfl (s_M_freeIn _ _) (fun q8 _ hq8 => ?_)
  refine z_istore_n (pls' := [some (qR 88), none, some (qI x2), some (qI q8.1)]) d_M_ticks_174 (by decide) rfl rfl ?_
  refine z_iload_n d_M_ticks_175 rfl ?_
  refine z_aload_n d_M_ticks_176 rfl ?_
  refine z_gr (ci := 10) (j := 0) (d := 1) (o2 := 89) d_M_ticks_177 rfl fl_M_7 rfl (Nat.le_of_ble_eq_true rfl) rfl rfl ?_
  refine z_iload_n d_M_ticks_180 rfl ?_
  refine z_cSI (av := [qI x2]) (st := [qR 89, qI q8.1]) (nl := 0) d_M_ticks_181 lk_M_58 mk_M_ringAt rfl rfl rfl (s_M_ringAt _ _) (fun q9 _ hq9 => ?_)
  refine z_ic5 d_M_ticks_184 ?_
  refine z_iadd d_M_ticks_185 ?_
  refine z_il d_M_ticks_186 rfl rfl (fun v10 => ?_)
  refine z_icmp_ge (tgt := 202) d_M_ticks_187 rfl (fun c11 => ?_) (fun c11 => ?_)
  · refine z_aload_n d_M_ticks_190 rfl ?_
    refine z_gr (ci := 10) (j := 0) (d := 1) (o2 := 89) d_M_ticks_191 rfl fl_M_7 rfl (Nat.le_of_ble_eq_true rfl) rfl rfl ?_
    refine z_iload_n d_M_ticks_194 rfl ?_
    refine z_cSI (av := [qI x2]) (st := [qR 89]) (nl := 0) d_M_ticks_195 lk_M_58 mk_M_ringAt rfl rfl rfl (s_M_ringAt _ _) (fun q12 _ hq12 => ?_)
    refine z_ic5 d_M_ticks_198 ?_
    refine z_iadd d_M_ticks_199 ?_
    refine z_iload_n d_M_ticks_200 rfl ?_
    refine z_is d_M_ticks_201 rfl rfl (fun w13 => ?_)
    refine z_iinc (pls' := [some (qR 88), none, some (qI (w32 (x2 + 1))), some (qI q8.1)]) d_M_ticks_202 (by decide) rfl rfl rfl ?_
    refine z_goto (tgt := 147) d_M_ticks_205 rfl ?_
    refine z_mask [true, false, true, false] ?_
    exact hr147 _ _
  · refine z_iinc (pls' := [some (qR 88), none, some (qI (w32 (x2 + 1))), some (qI q8.1)]) d_M_ticks_202 (by decide) rfl rfl rfl ?_
    refine z_goto (tgt := 147) d_M_ticks_205 rfl ?_
    refine z_mask [true, false, true, false] ?_
    exact hr147 _ _
def f_M_ticks_208 (w : qMem) : Option (qMem) :=
  qld w 89 5898 6 fun v14 =>
  qst w 89 5898 6 (w32 (v14 + 1)) fun w15 =>
  some w15
set_option maxRecDepth 4000 in
theorem s_M_ticks_208  : ∀ (w : qMem), qSim κV 100 100 m_M_ticks 208 [] [some (qR 88), none, none, none] w (f_M_ticks_208 w) := by
  intro w
  unfold f_M_ticks_208
  refine z_aload_n d_M_ticks_208 rfl ?_
  refine z_gr (ci := 10) (j := 0) (d := 1) (o2 := 89) d_M_ticks_209 rfl fl_M_7 rfl (Nat.le_of_ble_eq_true rfl) rfl rfl ?_
  refine z_bipush d_M_ticks_212 ⟨by decide, by decide⟩ ?_
  refine z_dup2 d_M_ticks_214 rfl rfl ?_
  refine z_il d_M_ticks_215 rfl rfl (fun v14 => ?_)
  refine z_ic1 d_M_ticks_216 ?_
  refine z_iadd d_M_ticks_217 ?_
  refine z_is d_M_ticks_218 rfl rfl (fun w15 => ?_)
  exact z_vret d_M_ticks_219 rfl rfl
def f_M_ticks_147 : Nat → Int → qMem → Option (qMem)
  | 0, _, _ => none
  | n + 1, x2, w =>
    (f_M_rings w).bind fun q16 =>
    if x2 < q16.1 then
    qld q16.2 89 5898 5 fun v18 =>
    if v18 ≤ 0 then
    f_M_ticks_169 (f_M_ticks_147 n) x2 q16.2
    else
    (f_M_marks x2 q16.2).bind fun q20 =>
    f_M_ticks_169 (f_M_ticks_147 n) x2 q20
    else
    f_M_ticks_208 q16.2
set_option maxRecDepth 4000 in
theorem s_M_ticks_147  : ∀ (n : Nat), ∀ (x2 : Int) (w : qMem), qSim κV 100 100 m_M_ticks 147 [] [some (qR 88), none, some (qI x2), none] w (f_M_ticks_147 n x2 w) := by
  intro n
  induction n with
  | zero => intro x2 w; exact z_none
  | succ n ih =>
    intro x2 w
    rw [f_M_ticks_147]
    refine z_iload_n d_M_ticks_147 rfl ?_
    refine z_aload_n d_M_ticks_148 rfl ?_
    refine z_cVI (as := []) (st := [qI x2]) (nl := 0) (ci := 10) d_M_ticks_149 lk_M_54 mk_M_rings rfl rfl rfl rfl rfl rfl (s_M_rings _) (fun q16 _ hq16 => ?_)
    refine z_icmp_ge (tgt := 208) d_M_ticks_152 rfl (fun c17 => ?_) (fun c17 => ?_)
    · refine z_aload_n d_M_ticks_155 rfl ?_
      refine z_gr (ci := 10) (j := 0) (d := 1) (o2 := 89) d_M_ticks_156 rfl fl_M_7 rfl (Nat.le_of_ble_eq_true rfl) rfl rfl ?_
      refine z_ic5 d_M_ticks_159 ?_
      refine z_il d_M_ticks_160 rfl rfl (fun v18 => ?_)
      refine z_if_le (tgt := 169) d_M_ticks_161 rfl (fun c19 => ?_) (fun c19 => ?_)
      · refine z_mask [true, false, true, false] ?_
        exact s_M_ticks_169 ih _ _
      · refine z_aload_n d_M_ticks_164 rfl ?_
        refine z_iload_n d_M_ticks_165 rfl ?_
        refine z_cVV (as := [qI x2]) (st := []) (nl := 4) (ci := 10) d_M_ticks_166 lk_M_205 mk_M_marks rfl rfl rfl rfl rfl rfl (s_M_marks _ _) (fun q20 _ => ?_)
        refine z_mask [true, false, true, false] ?_
        exact s_M_ticks_169 ih _ _
    · refine z_mask [true, false, false, false] ?_
      exact s_M_ticks_208 _
def f_M_ticks_145 (w : qMem) : Option (qMem) :=
  f_M_ticks_147 qFU 0 w
set_option maxRecDepth 4000 in
theorem s_M_ticks_145  : ∀ (w : qMem), qSim κV 100 100 m_M_ticks 145 [] [some (qR 88), none, none, none] w (f_M_ticks_145 w) := by
  intro w
  unfold f_M_ticks_145
  refine z_ic0 d_M_ticks_145 ?_
  refine z_istore_n (pls' := [some (qR 88), none, some (qI 0), none]) d_M_ticks_146 (by decide) rfl rfl ?_
  refine z_mask [true, false, true, false] ?_
  exact s_M_ticks_147 _ _ _
def f_M_ticks_115 : Nat → Int → Int → qMem → Option (qMem)
  | 0, _, _, _ => none
  | n + 1, x1, x2, w =>
    if x2 < x1 then
    f_M_ticks_122 (f_M_ticks_115 n) qFU x1 x2 0 w
    else
    f_M_ticks_145 w
set_option maxRecDepth 4000 in
theorem s_M_ticks_115  : ∀ (n : Nat), ∀ (x1 x2 : Int) (w : qMem), qSim κV 100 100 m_M_ticks 115 [] [some (qR 88), some (qI x1), some (qI x2), none] w (f_M_ticks_115 n x1 x2 w) := by
  intro n
  induction n with
  | zero => intro x1 x2 w; exact z_none
  | succ n ih =>
    intro x1 x2 w
    rw [f_M_ticks_115]
    refine z_iload_n d_M_ticks_115 rfl ?_
    refine z_iload_n d_M_ticks_116 rfl ?_
    refine z_icmp_ge (tgt := 145) d_M_ticks_117 rfl (fun c21 => ?_) (fun c21 => ?_)
    · refine z_ic0 d_M_ticks_120 ?_
      refine z_istore_n (pls' := [some (qR 88), some (qI x1), some (qI x2), some (qI 0)]) d_M_ticks_121 (by decide) rfl rfl ?_
      refine z_mask [true, true, true, true] ?_
      exact s_M_ticks_122 ih _ _ _ _ _
    · refine z_mask [true, false, false, false] ?_
      exact s_M_ticks_145 _
def f_M_ticks_113 (x1 : Int) (w : qMem) : Option (qMem) :=
  f_M_ticks_115 qFU x1 0 w
set_option maxRecDepth 4000 in
theorem s_M_ticks_113  : ∀ (x1 : Int) (w : qMem), qSim κV 100 100 m_M_ticks 113 [] [some (qR 88), some (qI x1), none, none] w (f_M_ticks_113 x1 w) := by
  intro x1 w
  unfold f_M_ticks_113
  refine z_ic0 d_M_ticks_113 ?_
  refine z_istore_n (pls' := [some (qR 88), some (qI x1), some (qI 0), none]) d_M_ticks_114 (by decide) rfl rfl ?_
  refine z_mask [true, true, true, false] ?_
  exact s_M_ticks_115 _ _ _ _
def f_M_ticks_73 : Nat → Int → Int → qMem → Option (qMem)
  | 0, _, _, _ => none
  | n + 1, x1, x2, w =>
    if x2 < x1 then
    f_M_ticks_80 (f_M_ticks_73 n) qFU x1 x2 0 w
    else
    f_M_ticks_113 x1 w
set_option maxRecDepth 4000 in
theorem s_M_ticks_73  : ∀ (n : Nat), ∀ (x1 x2 : Int) (w : qMem), qSim κV 100 100 m_M_ticks 73 [] [some (qR 88), some (qI x1), some (qI x2), none] w (f_M_ticks_73 n x1 x2 w) := by
  intro n
  induction n with
  | zero => intro x1 x2 w; exact z_none
  | succ n ih =>
    intro x1 x2 w
    rw [f_M_ticks_73]
    refine z_iload_n d_M_ticks_73 rfl ?_
    refine z_iload_n d_M_ticks_74 rfl ?_
    refine z_icmp_ge (tgt := 113) d_M_ticks_75 rfl (fun c22 => ?_) (fun c22 => ?_)
    · refine z_ic0 d_M_ticks_78 ?_
      refine z_istore_n (pls' := [some (qR 88), some (qI x1), some (qI x2), some (qI 0)]) d_M_ticks_79 (by decide) rfl rfl ?_
      refine z_mask [true, true, true, true] ?_
      exact s_M_ticks_80 ih _ _ _ _ _
    · refine z_mask [true, true, false, false] ?_
      exact s_M_ticks_113 _ _
def f_M_ticks_71 (x1 : Int) (w : qMem) : Option (qMem) :=
  f_M_ticks_73 qFU x1 0 w
set_option maxRecDepth 4000 in
theorem s_M_ticks_71  : ∀ (x1 : Int) (w : qMem), qSim κV 100 100 m_M_ticks 71 [] [some (qR 88), some (qI x1), none, none] w (f_M_ticks_71 x1 w) := by
  intro x1 w
  unfold f_M_ticks_71
  refine z_ic0 d_M_ticks_71 ?_
  refine z_istore_n (pls' := [some (qR 88), some (qI x1), some (qI 0), none]) d_M_ticks_72 (by decide) rfl rfl ?_
  refine z_mask [true, true, true, false] ?_
  exact s_M_ticks_73 _ _ _ _
def f_M_ticks_48 : Nat → Int → Int → qMem → Option (qMem)
  | 0, _, _, _ => none
  | n + 1, x1, x2, w =>
    if x2 < 64 then
    qst w 89 5898 (w32 (5834 + x2)) 0 fun w24 =>
    (f_M_ticks_48 n) x1 (w32 (x2 + 1)) w24
    else
    f_M_ticks_71 x1 w
set_option maxRecDepth 4000 in
theorem s_M_ticks_48  : ∀ (n : Nat), ∀ (x1 x2 : Int) (w : qMem), qSim κV 100 100 m_M_ticks 48 [] [some (qR 88), some (qI x1), some (qI x2), none] w (f_M_ticks_48 n x1 x2 w) := by
  intro n
  induction n with
  | zero => intro x1 x2 w; exact z_none
  | succ n ih =>
    intro x1 x2 w
    rw [f_M_ticks_48]
    refine z_iload_n d_M_ticks_48 rfl ?_
    refine z_bipush d_M_ticks_49 ⟨by decide, by decide⟩ ?_
    refine z_icmp_ge (tgt := 71) d_M_ticks_51 rfl (fun c23 => ?_) (fun c23 => ?_)
    · refine z_aload_n d_M_ticks_54 rfl ?_
      refine z_gr (ci := 10) (j := 0) (d := 1) (o2 := 89) d_M_ticks_55 rfl fl_M_7 rfl (Nat.le_of_ble_eq_true rfl) rfl rfl ?_
      refine z_sipush d_M_ticks_58 ⟨by decide, by decide⟩ ?_
      refine z_iload_n d_M_ticks_61 rfl ?_
      refine z_iadd d_M_ticks_62 ?_
      refine z_ic0 d_M_ticks_63 ?_
      refine z_is d_M_ticks_64 rfl rfl (fun w24 => ?_)
      refine z_iinc (pls' := [some (qR 88), some (qI x1), some (qI (w32 (x2 + 1))), none]) d_M_ticks_65 (by decide) rfl rfl rfl ?_
      refine z_goto (tgt := 48) d_M_ticks_68 rfl ?_
      refine z_mask [true, true, true, false] ?_
      exact ih _ _ _
    · refine z_mask [true, true, false, false] ?_
      exact s_M_ticks_71 _ _
def f_M_ticks_38 (x1 : Int) (w : qMem) : Option (qMem) :=
  qst w 89 5898 15 0 fun w25 =>
  f_M_ticks_48 qFU x1 0 w25
set_option maxRecDepth 4000 in
theorem s_M_ticks_38  : ∀ (x1 : Int) (w : qMem), qSim κV 100 100 m_M_ticks 38 [] [some (qR 88), some (qI x1), none, none] w (f_M_ticks_38 x1 w) := by
  intro x1 w
  unfold f_M_ticks_38
  refine z_aload_n d_M_ticks_38 rfl ?_
  refine z_gr (ci := 10) (j := 0) (d := 1) (o2 := 89) d_M_ticks_39 rfl fl_M_7 rfl (Nat.le_of_ble_eq_true rfl) rfl rfl ?_
  refine z_bipush d_M_ticks_42 ⟨by decide, by decide⟩ ?_
  refine z_ic0 d_M_ticks_44 ?_
  refine z_is d_M_ticks_45 rfl rfl (fun w25 => ?_)
  refine z_ic0 d_M_ticks_46 ?_
  refine z_istore_n (pls' := [some (qR 88), some (qI x1), some (qI 0), none]) d_M_ticks_47 (by decide) rfl rfl ?_
  refine z_mask [true, true, true, false] ?_
  exact s_M_ticks_48 _ _ _ _
def f_M_ticks_7 : Nat → Int → Int → qMem → Option (qMem)
  | 0, _, _, _ => none
  | n + 1, x1, x2, w =>
    if x2 < x1 then
    f_M_ticks_14 (f_M_ticks_7 n) qFU x1 x2 1 w
    else
    f_M_ticks_38 x1 w
set_option maxRecDepth 4000 in
theorem s_M_ticks_7  : ∀ (n : Nat), ∀ (x1 x2 : Int) (w : qMem), qSim κV 100 100 m_M_ticks 7 [] [some (qR 88), some (qI x1), some (qI x2), none] w (f_M_ticks_7 n x1 x2 w) := by
  intro n
  induction n with
  | zero => intro x1 x2 w; exact z_none
  | succ n ih =>
    intro x1 x2 w
    rw [f_M_ticks_7]
    refine z_iload_n d_M_ticks_7 rfl ?_
    refine z_iload_n d_M_ticks_8 rfl ?_
    refine z_icmp_ge (tgt := 38) d_M_ticks_9 rfl (fun c26 => ?_) (fun c26 => ?_)
    · refine z_ic1 d_M_ticks_12 ?_
      refine z_istore_n (pls' := [some (qR 88), some (qI x1), some (qI x2), some (qI 1)]) d_M_ticks_13 (by decide) rfl rfl ?_
      refine z_mask [true, true, true, true] ?_
      exact s_M_ticks_14 ih _ _ _ _ _
    · refine z_mask [true, true, false, false] ?_
      exact s_M_ticks_38 _ _
def f_M_ticks (w : qMem) : Option (qMem) :=
  (f_M_nodes w).bind fun q27 =>
  f_M_ticks_7 qFU q27.1 0 q27.2
set_option maxRecDepth 4000 in
theorem s_M_ticks (w : qMem) : qSim κV 100 100 m_M_ticks 0 [] [some (qR 88), none, none, none] w (f_M_ticks w) := by
  unfold f_M_ticks
  refine z_aload_n d_M_ticks_0 rfl ?_
  refine z_cVI (as := []) (st := []) (nl := 0) (ci := 10) d_M_ticks_1 lk_M_72 mk_M_nodes rfl rfl rfl rfl rfl rfl (s_M_nodes _) (fun q27 _ hq27 => ?_)
  refine z_istore_n (pls' := [some (qR 88), some (qI q27.1), none, none]) d_M_ticks_4 (by decide) rfl rfl ?_
  refine z_ic0 d_M_ticks_5 ?_
  refine z_istore_n (pls' := [some (qR 88), some (qI q27.1), some (qI 0), none]) d_M_ticks_6 (by decide) rfl rfl ?_
  refine z_mask [true, true, true, false] ?_
  exact s_M_ticks_7 _ _ _ _
/-! BubbleTorusModel.tick -/
theorem d_M_tick_0 : decode m_M_tick.2.1 0 = .ok (.iload_n 1, 1) := by decide +kernel
theorem d_M_tick_1 : decode m_M_tick.2.1 1 = .ok (.iconst 1, 1) := by decide +kernel
theorem d_M_tick_2 : decode m_M_tick.2.1 2 = .ok (.bipush 100, 2) := by decide +kernel
theorem d_M_tick_4 : decode m_M_tick.2.1 4 = .ok (.invokestatic 68, 3) := by decide +kernel
theorem d_M_tick_7 : decode m_M_tick.2.1 7 = .ok (.ifCond .ne 5, 3) := by decide +kernel
theorem d_M_tick_10 : decode m_M_tick.2.1 10 = .ok (.iconst (-1), 1) := by decide +kernel
theorem d_M_tick_11 : decode m_M_tick.2.1 11 = .ok (.ireturn, 1) := by decide +kernel
theorem d_M_tick_12 : decode m_M_tick.2.1 12 = .ok (.aload_n 0, 1) := by decide +kernel
theorem d_M_tick_13 : decode m_M_tick.2.1 13 = .ok (.getfield 7, 3) := by decide +kernel
theorem d_M_tick_16 : decode m_M_tick.2.1 16 = .ok (.bipush 8, 2) := by decide +kernel
theorem d_M_tick_18 : decode m_M_tick.2.1 18 = .ok (.iaload, 1) := by decide +kernel
theorem d_M_tick_19 : decode m_M_tick.2.1 19 = .ok (.istore_n 2, 1) := by decide +kernel
theorem d_M_tick_20 : decode m_M_tick.2.1 20 = .ok (.iconst 0, 1) := by decide +kernel
theorem d_M_tick_21 : decode m_M_tick.2.1 21 = .ok (.istore_n 3, 1) := by decide +kernel
theorem d_M_tick_22 : decode m_M_tick.2.1 22 = .ok (.iload_n 3, 1) := by decide +kernel
theorem d_M_tick_23 : decode m_M_tick.2.1 23 = .ok (.iload_n 1, 1) := by decide +kernel
theorem d_M_tick_24 : decode m_M_tick.2.1 24 = .ok (.if_icmp .ge 13, 3) := by decide +kernel
theorem d_M_tick_27 : decode m_M_tick.2.1 27 = .ok (.aload_n 0, 1) := by decide +kernel
theorem d_M_tick_28 : decode m_M_tick.2.1 28 = .ok (.invokevirtual 212, 3) := by decide +kernel
theorem d_M_tick_31 : decode m_M_tick.2.1 31 = .ok (.iinc 3 1, 3) := by decide +kernel
theorem d_M_tick_34 : decode m_M_tick.2.1 34 = .ok (.goto (-12), 3) := by decide +kernel
theorem d_M_tick_37 : decode m_M_tick.2.1 37 = .ok (.aload_n 0, 1) := by decide +kernel
theorem d_M_tick_38 : decode m_M_tick.2.1 38 = .ok (.getfield 7, 3) := by decide +kernel
theorem d_M_tick_41 : decode m_M_tick.2.1 41 = .ok (.bipush 8, 2) := by decide +kernel
theorem d_M_tick_43 : decode m_M_tick.2.1 43 = .ok (.iaload, 1) := by decide +kernel
theorem d_M_tick_44 : decode m_M_tick.2.1 44 = .ok (.iload_n 2, 1) := by decide +kernel
theorem d_M_tick_45 : decode m_M_tick.2.1 45 = .ok (.isub, 1) := by decide +kernel
theorem d_M_tick_46 : decode m_M_tick.2.1 46 = .ok (.ireturn, 1) := by decide +kernel
def f_M_tick_37 (x2 : Int) (w : qMem) : Option (Int × qMem) :=
  qld w 89 5898 8 fun v1 =>
  some ((w32 (v1 - x2)), w)
set_option maxRecDepth 4000 in
theorem s_M_tick_37  : ∀ (x2 : Int) (w : qMem), qSim κI 100 100 m_M_tick 37 [] [some (qR 88), none, some (qI x2), none] w (f_M_tick_37 x2 w) := by
  intro x2 w
  unfold f_M_tick_37
  refine z_aload_n d_M_tick_37 rfl ?_
  refine z_gr (ci := 10) (j := 0) (d := 1) (o2 := 89) d_M_tick_38 rfl fl_M_7 rfl (Nat.le_of_ble_eq_true rfl) rfl rfl ?_
  refine z_bipush d_M_tick_41 ⟨by decide, by decide⟩ ?_
  refine z_il d_M_tick_43 rfl rfl (fun v1 => ?_)
  refine z_iload_n d_M_tick_44 rfl ?_
  refine z_isub d_M_tick_45 ?_
  exact z_iret d_M_tick_46 rfl rfl
def f_M_tick_22 : Nat → Int → Int → Int → qMem → Option (Int × qMem)
  | 0, _, _, _, _ => none
  | n + 1, x1, x2, x3, w =>
    if x3 < x1 then
    (f_M_ticks w).bind fun q3 =>
    (f_M_tick_22 n) x1 x2 (w32 (x3 + 1)) q3
    else
    f_M_tick_37 x2 w
set_option maxRecDepth 4000 in
theorem s_M_tick_22  : ∀ (n : Nat), ∀ (x1 x2 x3 : Int) (w : qMem), qSim κI 100 100 m_M_tick 22 [] [some (qR 88), some (qI x1), some (qI x2), some (qI x3)] w (f_M_tick_22 n x1 x2 x3 w) := by
  intro n
  induction n with
  | zero => intro x1 x2 x3 w; exact z_none
  | succ n ih =>
    intro x1 x2 x3 w
    rw [f_M_tick_22]
    refine z_iload_n d_M_tick_22 rfl ?_
    refine z_iload_n d_M_tick_23 rfl ?_
    refine z_icmp_ge (tgt := 37) d_M_tick_24 rfl (fun c2 => ?_) (fun c2 => ?_)
    · refine z_aload_n d_M_tick_27 rfl ?_
      refine z_cVV (as := []) (st := []) (nl := 3) (ci := 10) d_M_tick_28 lk_M_212 mk_M_ticks rfl rfl rfl rfl rfl rfl (s_M_ticks _) (fun q3 _ => ?_)
      refine z_iinc (pls' := [some (qR 88), some (qI x1), some (qI x2), some (qI (w32 (x3 + 1)))]) d_M_tick_31 (by decide) rfl rfl rfl ?_
      refine z_goto (tgt := 22) d_M_tick_34 rfl ?_
      refine z_mask [true, true, true, true] ?_
      exact ih _ _ _ _
    · refine z_mask [true, false, true, false] ?_
      exact s_M_tick_37 _ _
def f_M_tick (x1 : Int) (w : qMem) : Option (Int × qMem) :=
  (f_M_isIn x1 1 100 w).bind fun q4 =>
  if q4.1 = 0 then
  some ((-1), q4.2)
  else
  qld q4.2 89 5898 8 fun v6 =>
  f_M_tick_22 qFU x1 v6 0 q4.2
set_option maxRecDepth 4000 in
theorem s_M_tick (x1 : Int) (w : qMem) : qSim κI 100 100 m_M_tick 0 [] [some (qR 88), some (qI x1), none, none] w (f_M_tick x1 w) := by
  unfold f_M_tick
  refine z_iload_n d_M_tick_0 rfl ?_
  refine z_ic1 d_M_tick_1 ?_
  refine z_bipush d_M_tick_2 ⟨by decide, by decide⟩ ?_
  refine z_cSI (av := [qI x1, qI 1, qI 100]) (st := []) (nl := 0) d_M_tick_4 lk_M_68 mk_M_isIn rfl rfl rfl (s_M_isIn _ _ _ _) (fun q4 _ hq4 => ?_)
  refine z_if_ne (tgt := 12) d_M_tick_7 rfl (fun c5 => ?_) (fun c5 => ?_)
  · refine z_icm1 d_M_tick_10 ?_
    exact z_iret d_M_tick_11 rfl rfl
  · refine z_aload_n d_M_tick_12 rfl ?_
    refine z_gr (ci := 10) (j := 0) (d := 1) (o2 := 89) d_M_tick_13 rfl fl_M_7 rfl (Nat.le_of_ble_eq_true rfl) rfl rfl ?_
    refine z_bipush d_M_tick_16 ⟨by decide, by decide⟩ ?_
    refine z_il d_M_tick_18 rfl rfl (fun v6 => ?_)
    refine z_istore_n (pls' := [some (qR 88), some (qI x1), some (qI v6), none]) d_M_tick_19 (by decide) rfl rfl ?_
    refine z_ic0 d_M_tick_20 ?_
    refine z_istore_n (pls' := [some (qR 88), some (qI x1), some (qI v6), some (qI 0)]) d_M_tick_21 (by decide) rfl rfl ?_
    refine z_mask [true, true, true, true] ?_
    exact s_M_tick_22 _ _ _ _ _
/-! BubbleTorusModel.packet -/
theorem d_M_packet_0 : decode m_M_packet.2.1 0 = .ok (.aload_n 0, 1) := by decide +kernel
theorem d_M_packet_1 : decode m_M_packet.2.1 1 = .ok (.iload_n 1, 1) := by decide +kernel
theorem d_M_packet_2 : decode m_M_packet.2.1 2 = .ok (.invokevirtual 215, 3) := by decide +kernel
theorem d_M_packet_5 : decode m_M_packet.2.1 5 = .ok (.ifCond .eq 22, 3) := by decide +kernel
theorem d_M_packet_8 : decode m_M_packet.2.1 8 = .ok (.iload_n 2, 1) := by decide +kernel
theorem d_M_packet_9 : decode m_M_packet.2.1 9 = .ok (.iconst 0, 1) := by decide +kernel
theorem d_M_packet_10 : decode m_M_packet.2.1 10 = .ok (.bipush 10, 2) := by decide +kernel
theorem d_M_packet_12 : decode m_M_packet.2.1 12 = .ok (.invokestatic 68, 3) := by decide +kernel
theorem d_M_packet_15 : decode m_M_packet.2.1 15 = .ok (.ifCond .eq 12, 3) := by decide +kernel
theorem d_M_packet_18 : decode m_M_packet.2.1 18 = .ok (.aload_n 0, 1) := by decide +kernel
theorem d_M_packet_19 : decode m_M_packet.2.1 19 = .ok (.iload_n 1, 1) := by decide +kernel
theorem d_M_packet_20 : decode m_M_packet.2.1 20 = .ok (.iload_n 2, 1) := by decide +kernel
theorem d_M_packet_21 : decode m_M_packet.2.1 21 = .ok (.invokevirtual 142, 3) := by decide +kernel
theorem d_M_packet_24 : decode m_M_packet.2.1 24 = .ok (.goto 4, 3) := by decide +kernel
theorem d_M_packet_27 : decode m_M_packet.2.1 27 = .ok (.iconst (-1), 1) := by decide +kernel
theorem d_M_packet_28 : decode m_M_packet.2.1 28 = .ok (.ireturn, 1) := by decide +kernel
def f_M_packet (x1 : Int) (x2 : Int) (w : qMem) : Option (Int × qMem) :=
  (f_M_isPacket x1 w).bind fun q1 =>
  if q1.1 = 0 then
  some ((-1), q1.2)
  else
  (f_M_isIn x2 0 10 q1.2).bind fun q3 =>
  if q3.1 = 0 then
  some ((-1), q3.2)
  else
  (f_M_of x1 x2 q3.2).bind fun q5 =>
  some (q5.1, q5.2)
set_option maxRecDepth 4000 in
theorem s_M_packet (x1 : Int) (x2 : Int) (w : qMem) : qSim κI 100 100 m_M_packet 0 [] [some (qR 88), some (qI x1), some (qI x2)] w (f_M_packet x1 x2 w) := by
  unfold f_M_packet
  refine z_aload_n d_M_packet_0 rfl ?_
  refine z_iload_n d_M_packet_1 rfl ?_
  refine z_cVI (as := [qI x1]) (st := []) (nl := 0) (ci := 10) d_M_packet_2 lk_M_215 mk_M_isPacket rfl rfl rfl rfl rfl rfl (s_M_isPacket _ _) (fun q1 _ hq1 => ?_)
  refine z_if_eq (tgt := 27) d_M_packet_5 rfl (fun c2 => ?_) (fun c2 => ?_)
  · refine z_icm1 d_M_packet_27 ?_
    exact z_iret d_M_packet_28 rfl rfl
  · refine z_iload_n d_M_packet_8 rfl ?_
    refine z_ic0 d_M_packet_9 ?_
    refine z_bipush d_M_packet_10 ⟨by decide, by decide⟩ ?_
    refine z_cSI (av := [qI x2, qI 0, qI 10]) (st := []) (nl := 0) d_M_packet_12 lk_M_68 mk_M_isIn rfl rfl rfl (s_M_isIn _ _ _ _) (fun q3 _ hq3 => ?_)
    refine z_if_eq (tgt := 27) d_M_packet_15 rfl (fun c4 => ?_) (fun c4 => ?_)
    · refine z_icm1 d_M_packet_27 ?_
      exact z_iret d_M_packet_28 rfl rfl
    · refine z_aload_n d_M_packet_18 rfl ?_
      refine z_iload_n d_M_packet_19 rfl ?_
      refine z_iload_n d_M_packet_20 rfl ?_
      refine z_cVI (as := [qI x1, qI x2]) (st := []) (nl := 0) (ci := 10) d_M_packet_21 lk_M_142 mk_M_of rfl rfl rfl rfl rfl rfl (s_M_of _ _ _) (fun q5 _ hq5 => ?_)
      refine z_goto (tgt := 28) d_M_packet_24 rfl ?_
      exact z_iret d_M_packet_28 rfl rfl
/-! BubbleTorusModel.queue -/
theorem d_M_queue_0 : decode m_M_queue.2.1 0 = .ok (.aload_n 0, 1) := by decide +kernel
theorem d_M_queue_1 : decode m_M_queue.2.1 1 = .ok (.iload_n 1, 1) := by decide +kernel
theorem d_M_queue_2 : decode m_M_queue.2.1 2 = .ok (.invokevirtual 92, 3) := by decide +kernel
theorem d_M_queue_5 : decode m_M_queue.2.1 5 = .ok (.ifCond .eq 27, 3) := by decide +kernel
theorem d_M_queue_8 : decode m_M_queue.2.1 8 = .ok (.iload_n 2, 1) := by decide +kernel
theorem d_M_queue_9 : decode m_M_queue.2.1 9 = .ok (.iconst 0, 1) := by decide +kernel
theorem d_M_queue_10 : decode m_M_queue.2.1 10 = .ok (.iconst 2, 1) := by decide +kernel
theorem d_M_queue_11 : decode m_M_queue.2.1 11 = .ok (.invokestatic 68, 3) := by decide +kernel
theorem d_M_queue_14 : decode m_M_queue.2.1 14 = .ok (.ifCond .eq 18, 3) := by decide +kernel
theorem d_M_queue_17 : decode m_M_queue.2.1 17 = .ok (.iload_n 3, 1) := by decide +kernel
theorem d_M_queue_18 : decode m_M_queue.2.1 18 = .ok (.invokestatic 96, 3) := by decide +kernel
theorem d_M_queue_21 : decode m_M_queue.2.1 21 = .ok (.ifCond .eq 11, 3) := by decide +kernel
theorem d_M_queue_24 : decode m_M_queue.2.1 24 = .ok (.iload_n 2, 1) := by decide +kernel
theorem d_M_queue_25 : decode m_M_queue.2.1 25 = .ok (.ifCond .ne 9, 3) := by decide +kernel
theorem d_M_queue_28 : decode m_M_queue.2.1 28 = .ok (.iload_n 3, 1) := by decide +kernel
theorem d_M_queue_29 : decode m_M_queue.2.1 29 = .ok (.ifCond .eq 5, 3) := by decide +kernel
theorem d_M_queue_32 : decode m_M_queue.2.1 32 = .ok (.iconst (-1), 1) := by decide +kernel
theorem d_M_queue_33 : decode m_M_queue.2.1 33 = .ok (.ireturn, 1) := by decide +kernel
theorem d_M_queue_34 : decode m_M_queue.2.1 34 = .ok (.iload_n 2, 1) := by decide +kernel
theorem d_M_queue_35 : decode m_M_queue.2.1 35 = .ok (.ifCond .ne 7, 3) := by decide +kernel
theorem d_M_queue_38 : decode m_M_queue.2.1 38 = .ok (.iconst 0, 1) := by decide +kernel
theorem d_M_queue_39 : decode m_M_queue.2.1 39 = .ok (.goto 10, 3) := by decide +kernel
theorem d_M_queue_42 : decode m_M_queue.2.1 42 = .ok (.iconst 4, 1) := by decide +kernel
theorem d_M_queue_43 : decode m_M_queue.2.1 43 = .ok (.iload_n 2, 1) := by decide +kernel
theorem d_M_queue_44 : decode m_M_queue.2.1 44 = .ok (.imul, 1) := by decide +kernel
theorem d_M_queue_45 : decode m_M_queue.2.1 45 = .ok (.iconst 3, 1) := by decide +kernel
theorem d_M_queue_46 : decode m_M_queue.2.1 46 = .ok (.isub, 1) := by decide +kernel
theorem d_M_queue_47 : decode m_M_queue.2.1 47 = .ok (.iload_n 3, 1) := by decide +kernel
theorem d_M_queue_48 : decode m_M_queue.2.1 48 = .ok (.iadd, 1) := by decide +kernel
theorem d_M_queue_49 : decode m_M_queue.2.1 49 = .ok (.istore 5, 2) := by decide +kernel
theorem d_M_queue_51 : decode m_M_queue.2.1 51 = .ok (.iload 4, 2) := by decide +kernel
theorem d_M_queue_53 : decode m_M_queue.2.1 53 = .ok (.iconst (-1), 1) := by decide +kernel
theorem d_M_queue_54 : decode m_M_queue.2.1 54 = .ok (.if_icmp .ne 11, 3) := by decide +kernel
theorem d_M_queue_57 : decode m_M_queue.2.1 57 = .ok (.aload_n 0, 1) := by decide +kernel
theorem d_M_queue_58 : decode m_M_queue.2.1 58 = .ok (.iload_n 1, 1) := by decide +kernel
theorem d_M_queue_59 : decode m_M_queue.2.1 59 = .ok (.iload 5, 2) := by decide +kernel
theorem d_M_queue_61 : decode m_M_queue.2.1 61 = .ok (.invokevirtual 108, 3) := by decide +kernel
theorem d_M_queue_64 : decode m_M_queue.2.1 64 = .ok (.ireturn, 1) := by decide +kernel
theorem d_M_queue_65 : decode m_M_queue.2.1 65 = .ok (.iload 4, 2) := by decide +kernel
theorem d_M_queue_67 : decode m_M_queue.2.1 67 = .ok (.iconst 0, 1) := by decide +kernel
theorem d_M_queue_68 : decode m_M_queue.2.1 68 = .ok (.aload_n 0, 1) := by decide +kernel
theorem d_M_queue_69 : decode m_M_queue.2.1 69 = .ok (.iload_n 1, 1) := by decide +kernel
theorem d_M_queue_70 : decode m_M_queue.2.1 70 = .ok (.iload 5, 2) := by decide +kernel
theorem d_M_queue_72 : decode m_M_queue.2.1 72 = .ok (.invokevirtual 108, 3) := by decide +kernel
theorem d_M_queue_75 : decode m_M_queue.2.1 75 = .ok (.iconst 1, 1) := by decide +kernel
theorem d_M_queue_76 : decode m_M_queue.2.1 76 = .ok (.isub, 1) := by decide +kernel
theorem d_M_queue_77 : decode m_M_queue.2.1 77 = .ok (.invokestatic 68, 3) := by decide +kernel
theorem d_M_queue_80 : decode m_M_queue.2.1 80 = .ok (.ifCond .eq 22, 3) := by decide +kernel
theorem d_M_queue_83 : decode m_M_queue.2.1 83 = .ok (.aload_n 0, 1) := by decide +kernel
theorem d_M_queue_84 : decode m_M_queue.2.1 84 = .ok (.getfield 7, 3) := by decide +kernel
theorem d_M_queue_87 : decode m_M_queue.2.1 87 = .ok (.iload_n 1, 1) := by decide +kernel
theorem d_M_queue_88 : decode m_M_queue.2.1 88 = .ok (.iload 5, 2) := by decide +kernel
theorem d_M_queue_90 : decode m_M_queue.2.1 90 = .ok (.invokestatic 105, 3) := by decide +kernel
theorem d_M_queue_93 : decode m_M_queue.2.1 93 = .ok (.iconst 1, 1) := by decide +kernel
theorem d_M_queue_94 : decode m_M_queue.2.1 94 = .ok (.iadd, 1) := by decide +kernel
theorem d_M_queue_95 : decode m_M_queue.2.1 95 = .ok (.iload 4, 2) := by decide +kernel
theorem d_M_queue_97 : decode m_M_queue.2.1 97 = .ok (.iadd, 1) := by decide +kernel
theorem d_M_queue_98 : decode m_M_queue.2.1 98 = .ok (.iaload, 1) := by decide +kernel
theorem d_M_queue_99 : decode m_M_queue.2.1 99 = .ok (.goto 4, 3) := by decide +kernel
theorem d_M_queue_102 : decode m_M_queue.2.1 102 = .ok (.iconst (-1), 1) := by decide +kernel
theorem d_M_queue_103 : decode m_M_queue.2.1 103 = .ok (.ireturn, 1) := by decide +kernel
def f_M_queue_49 (s0 x1 x4 : Int) (w : qMem) : Option (Int × qMem) :=
  if x4 = (-1) then
  (f_M_many x1 s0 w).bind fun q2 =>
  some (q2.1, q2.2)
  else
  (f_M_many x1 s0 w).bind fun q3 =>
  (f_M_isIn x4 0 (w32 (q3.1 - 1)) q3.2).bind fun q4 =>
  if q4.1 = 0 then
  some ((-1), q4.2)
  else
  (f_M_queueAt x1 s0 q4.2).bind fun q6 =>
  qld q6.2 89 5898 (w32 ((w32 (q6.1 + 1)) + x4)) fun v7 =>
  some (v7, q6.2)
set_option maxRecDepth 4000 in
theorem s_M_queue_49  : ∀ (s0 x1 x4 : Int) (w : qMem), qSim κI 100 100 m_M_queue 49 [qI s0] [some (qR 88), some (qI x1), none, none, some (qI x4), none] w (f_M_queue_49 s0 x1 x4 w) := by
  intro s0 x1 x4 w
  unfold f_M_queue_49
  refine z_istore (pls' := [some (qR 88), some (qI x1), none, none, some (qI x4), some (qI s0)]) d_M_queue_49 (by decide) rfl rfl ?_
  refine z_iload d_M_queue_51 rfl ?_
  refine z_icm1 d_M_queue_53 ?_
  refine z_icmp_ne (tgt := 65) d_M_queue_54 rfl (fun c1 => ?_) (fun c1 => ?_)
  · refine z_aload_n d_M_queue_57 rfl ?_
    refine z_iload_n d_M_queue_58 rfl ?_
    refine z_iload d_M_queue_59 rfl ?_
    refine z_cVI (as := [qI x1, qI s0]) (st := []) (nl := 0) (ci := 10) d_M_queue_61 lk_M_108 mk_M_many rfl rfl rfl rfl rfl rfl (s_M_many _ _ _) (fun q2 _ hq2 => ?_)
    exact z_iret d_M_queue_64 rfl rfl
  · refine z_iload d_M_queue_65 rfl ?_
    refine z_ic0 d_M_queue_67 ?_
    refine z_aload_n d_M_queue_68 rfl ?_
    refine z_iload_n d_M_queue_69 rfl ?_
    refine z_iload d_M_queue_70 rfl ?_
    refine z_cVI (as := [qI x1, qI s0]) (st := [qI 0, qI x4]) (nl := 0) (ci := 10) d_M_queue_72 lk_M_108 mk_M_many rfl rfl rfl rfl rfl rfl (s_M_many _ _ _) (fun q3 _ hq3 => ?_)
    refine z_ic1 d_M_queue_75 ?_
    refine z_isub d_M_queue_76 ?_
    refine z_cSI (av := [qI x4, qI 0, qI (w32 (q3.1 - 1))]) (st := []) (nl := 0) d_M_queue_77 lk_M_68 mk_M_isIn rfl rfl rfl (s_M_isIn _ _ _ _) (fun q4 _ hq4 => ?_)
    refine z_if_eq (tgt := 102) d_M_queue_80 rfl (fun c5 => ?_) (fun c5 => ?_)
    · refine z_icm1 d_M_queue_102 ?_
      exact z_iret d_M_queue_103 rfl rfl
    · refine z_aload_n d_M_queue_83 rfl ?_
      refine z_gr (ci := 10) (j := 0) (d := 1) (o2 := 89) d_M_queue_84 rfl fl_M_7 rfl (Nat.le_of_ble_eq_true rfl) rfl rfl ?_
      refine z_iload_n d_M_queue_87 rfl ?_
      refine z_iload d_M_queue_88 rfl ?_
      refine z_cSI (av := [qI x1, qI s0]) (st := [qR 89]) (nl := 0) d_M_queue_90 lk_M_105 mk_M_queueAt rfl rfl rfl (s_M_queueAt _ _ _) (fun q6 _ hq6 => ?_)
      refine z_ic1 d_M_queue_93 ?_
      refine z_iadd d_M_queue_94 ?_
      refine z_iload d_M_queue_95 rfl ?_
      refine z_iadd d_M_queue_97 ?_
      refine z_il d_M_queue_98 rfl rfl (fun v7 => ?_)
      refine z_goto (tgt := 103) d_M_queue_99 rfl ?_
      exact z_iret d_M_queue_103 rfl rfl
def f_M_queue_34 (x1 x2 x3 x4 : Int) (w : qMem) : Option (Int × qMem) :=
  if x2 = 0 then
  f_M_queue_49 0 x1 x4 w
  else
  f_M_queue_49 (w32 ((w32 ((w32 (4 * x2)) - 3)) + x3)) x1 x4 w
set_option maxRecDepth 4000 in
theorem s_M_queue_34  : ∀ (x1 x2 x3 x4 : Int) (w : qMem), qSim κI 100 100 m_M_queue 34 [] [some (qR 88), some (qI x1), some (qI x2), some (qI x3), some (qI x4), none] w (f_M_queue_34 x1 x2 x3 x4 w) := by
  intro x1 x2 x3 x4 w
  unfold f_M_queue_34
  refine z_iload_n d_M_queue_34 rfl ?_
  refine z_if_ne (tgt := 42) d_M_queue_35 rfl (fun c8 => ?_) (fun c8 => ?_)
  · refine z_ic0 d_M_queue_38 ?_
    refine z_goto (tgt := 49) d_M_queue_39 rfl ?_
    refine z_mask [true, true, false, false, true, false] ?_
    exact s_M_queue_49 _ _ _ _
  · refine z_ic4 d_M_queue_42 ?_
    refine z_iload_n d_M_queue_43 rfl ?_
    refine z_imul d_M_queue_44 ?_
    refine z_ic3 d_M_queue_45 ?_
    refine z_isub d_M_queue_46 ?_
    refine z_iload_n d_M_queue_47 rfl ?_
    refine z_iadd d_M_queue_48 ?_
    refine z_mask [true, true, false, false, true, false] ?_
    exact s_M_queue_49 _ _ _ _
def f_M_queue (x1 : Int) (x2 : Int) (x3 : Int) (x4 : Int) (w : qMem) : Option (Int × qMem) :=
  (f_M_isNode x1 w).bind fun q9 =>
  if q9.1 = 0 then
  some ((-1), q9.2)
  else
  (f_M_isIn x2 0 2 q9.2).bind fun q11 =>
  if q11.1 = 0 then
  some ((-1), q11.2)
  else
  (f_M_isDirection x3 q11.2).bind fun q13 =>
  if q13.1 = 0 then
  some ((-1), q13.2)
  else
  if x2 = 0 then
  if x3 = 0 then
  f_M_queue_34 x1 x2 x3 x4 q13.2
  else
  some ((-1), q13.2)
  else
  f_M_queue_34 x1 x2 x3 x4 q13.2
set_option maxRecDepth 4000 in
theorem s_M_queue (x1 : Int) (x2 : Int) (x3 : Int) (x4 : Int) (w : qMem) : qSim κI 100 100 m_M_queue 0 [] [some (qR 88), some (qI x1), some (qI x2), some (qI x3), some (qI x4), none] w (f_M_queue x1 x2 x3 x4 w) := by
  unfold f_M_queue
  refine z_aload_n d_M_queue_0 rfl ?_
  refine z_iload_n d_M_queue_1 rfl ?_
  refine z_cVI (as := [qI x1]) (st := []) (nl := 0) (ci := 10) d_M_queue_2 lk_M_92 mk_M_isNode rfl rfl rfl rfl rfl rfl (s_M_isNode _ _) (fun q9 _ hq9 => ?_)
  refine z_if_eq (tgt := 32) d_M_queue_5 rfl (fun c10 => ?_) (fun c10 => ?_)
  · refine z_icm1 d_M_queue_32 ?_
    exact z_iret d_M_queue_33 rfl rfl
  · refine z_iload_n d_M_queue_8 rfl ?_
    refine z_ic0 d_M_queue_9 ?_
    refine z_ic2 d_M_queue_10 ?_
    refine z_cSI (av := [qI x2, qI 0, qI 2]) (st := []) (nl := 0) d_M_queue_11 lk_M_68 mk_M_isIn rfl rfl rfl (s_M_isIn _ _ _ _) (fun q11 _ hq11 => ?_)
    refine z_if_eq (tgt := 32) d_M_queue_14 rfl (fun c12 => ?_) (fun c12 => ?_)
    · refine z_icm1 d_M_queue_32 ?_
      exact z_iret d_M_queue_33 rfl rfl
    · refine z_iload_n d_M_queue_17 rfl ?_
      refine z_cSI (av := [qI x3]) (st := []) (nl := 0) d_M_queue_18 lk_M_96 mk_M_isDirection rfl rfl rfl (s_M_isDirection _ _) (fun q13 _ hq13 => ?_)
      refine z_if_eq (tgt := 32) d_M_queue_21 rfl (fun c14 => ?_) (fun c14 => ?_)
      · refine z_icm1 d_M_queue_32 ?_
        exact z_iret d_M_queue_33 rfl rfl
      · refine z_iload_n d_M_queue_24 rfl ?_
        refine z_if_ne (tgt := 34) d_M_queue_25 rfl (fun c15 => ?_) (fun c15 => ?_)
        · refine z_iload_n d_M_queue_28 rfl ?_
          refine z_if_eq (tgt := 34) d_M_queue_29 rfl (fun c16 => ?_) (fun c16 => ?_)
          · refine z_mask [true, true, true, true, true, false] ?_
            exact s_M_queue_34 _ _ _ _ _
          · refine z_icm1 d_M_queue_32 ?_
            exact z_iret d_M_queue_33 rfl rfl
        · refine z_mask [true, true, true, true, true, false] ?_
          exact s_M_queue_34 _ _ _ _ _
/-! BubbleTorusModel.ring -/
theorem d_M_ring_0 : decode m_M_ring.2.1 0 = .ok (.iload_n 1, 1) := by decide +kernel
theorem d_M_ring_1 : decode m_M_ring.2.1 1 = .ok (.iconst 0, 1) := by decide +kernel
theorem d_M_ring_2 : decode m_M_ring.2.1 2 = .ok (.aload_n 0, 1) := by decide +kernel
theorem d_M_ring_3 : decode m_M_ring.2.1 3 = .ok (.invokevirtual 54, 3) := by decide +kernel
theorem d_M_ring_6 : decode m_M_ring.2.1 6 = .ok (.iconst 1, 1) := by decide +kernel
theorem d_M_ring_7 : decode m_M_ring.2.1 7 = .ok (.isub, 1) := by decide +kernel
theorem d_M_ring_8 : decode m_M_ring.2.1 8 = .ok (.invokestatic 68, 3) := by decide +kernel
theorem d_M_ring_11 : decode m_M_ring.2.1 11 = .ok (.ifCond .ne 5, 3) := by decide +kernel
theorem d_M_ring_14 : decode m_M_ring.2.1 14 = .ok (.iconst (-1), 1) := by decide +kernel
theorem d_M_ring_15 : decode m_M_ring.2.1 15 = .ok (.ireturn, 1) := by decide +kernel
theorem d_M_ring_16 : decode m_M_ring.2.1 16 = .ok (.iload_n 1, 1) := by decide +kernel
theorem d_M_ring_17 : decode m_M_ring.2.1 17 = .ok (.invokestatic 58, 3) := by decide +kernel
theorem d_M_ring_20 : decode m_M_ring.2.1 20 = .ok (.istore_n 3, 1) := by decide +kernel
theorem d_M_ring_21 : decode m_M_ring.2.1 21 = .ok (.iload_n 2, 1) := by decide +kernel
theorem d_M_ring_22 : decode m_M_ring.2.1 22 = .ok (.tableswitch 169 0 10 #[58, 64, 70, 76, 95, 101, 124, 133, 142, 151, 160], 58) := by decide +kernel
theorem d_M_ring_80 : decode m_M_ring.2.1 80 = .ok (.aload_n 0, 1) := by decide +kernel
theorem d_M_ring_81 : decode m_M_ring.2.1 81 = .ok (.iload_n 1, 1) := by decide +kernel
theorem d_M_ring_82 : decode m_M_ring.2.1 82 = .ok (.invokevirtual 89, 3) := by decide +kernel
theorem d_M_ring_85 : decode m_M_ring.2.1 85 = .ok (.ireturn, 1) := by decide +kernel
theorem d_M_ring_86 : decode m_M_ring.2.1 86 = .ok (.aload_n 0, 1) := by decide +kernel
theorem d_M_ring_87 : decode m_M_ring.2.1 87 = .ok (.iload_n 1, 1) := by decide +kernel
theorem d_M_ring_88 : decode m_M_ring.2.1 88 = .ok (.invokevirtual 62, 3) := by decide +kernel
theorem d_M_ring_91 : decode m_M_ring.2.1 91 = .ok (.ireturn, 1) := by decide +kernel
theorem d_M_ring_92 : decode m_M_ring.2.1 92 = .ok (.aload_n 0, 1) := by decide +kernel
theorem d_M_ring_93 : decode m_M_ring.2.1 93 = .ok (.iload_n 1, 1) := by decide +kernel
theorem d_M_ring_94 : decode m_M_ring.2.1 94 = .ok (.invokevirtual 65, 3) := by decide +kernel
theorem d_M_ring_97 : decode m_M_ring.2.1 97 = .ok (.ireturn, 1) := by decide +kernel
theorem d_M_ring_98 : decode m_M_ring.2.1 98 = .ok (.aload_n 0, 1) := by decide +kernel
theorem d_M_ring_99 : decode m_M_ring.2.1 99 = .ok (.getfield 7, 3) := by decide +kernel
theorem d_M_ring_102 : decode m_M_ring.2.1 102 = .ok (.iconst 2, 1) := by decide +kernel
theorem d_M_ring_103 : decode m_M_ring.2.1 103 = .ok (.iaload, 1) := by decide +kernel
theorem d_M_ring_104 : decode m_M_ring.2.1 104 = .ok (.aload_n 0, 1) := by decide +kernel
theorem d_M_ring_105 : decode m_M_ring.2.1 105 = .ok (.iload_n 1, 1) := by decide +kernel
theorem d_M_ring_106 : decode m_M_ring.2.1 106 = .ok (.invokevirtual 65, 3) := by decide +kernel
theorem d_M_ring_109 : decode m_M_ring.2.1 109 = .ok (.imul, 1) := by decide +kernel
theorem d_M_ring_110 : decode m_M_ring.2.1 110 = .ok (.aload_n 0, 1) := by decide +kernel
theorem d_M_ring_111 : decode m_M_ring.2.1 111 = .ok (.iload_n 1, 1) := by decide +kernel
theorem d_M_ring_112 : decode m_M_ring.2.1 112 = .ok (.invokevirtual 209, 3) := by decide +kernel
theorem d_M_ring_115 : decode m_M_ring.2.1 115 = .ok (.isub, 1) := by decide +kernel
theorem d_M_ring_116 : decode m_M_ring.2.1 116 = .ok (.ireturn, 1) := by decide +kernel
theorem d_M_ring_117 : decode m_M_ring.2.1 117 = .ok (.aload_n 0, 1) := by decide +kernel
theorem d_M_ring_118 : decode m_M_ring.2.1 118 = .ok (.iload_n 1, 1) := by decide +kernel
theorem d_M_ring_119 : decode m_M_ring.2.1 119 = .ok (.invokevirtual 209, 3) := by decide +kernel
theorem d_M_ring_122 : decode m_M_ring.2.1 122 = .ok (.ireturn, 1) := by decide +kernel
theorem d_M_ring_123 : decode m_M_ring.2.1 123 = .ok (.aload_n 0, 1) := by decide +kernel
theorem d_M_ring_124 : decode m_M_ring.2.1 124 = .ok (.getfield 7, 3) := by decide +kernel
theorem d_M_ring_127 : decode m_M_ring.2.1 127 = .ok (.iconst 4, 1) := by decide +kernel
theorem d_M_ring_128 : decode m_M_ring.2.1 128 = .ok (.iaload, 1) := by decide +kernel
theorem d_M_ring_129 : decode m_M_ring.2.1 129 = .ok (.iconst 2, 1) := by decide +kernel
theorem d_M_ring_130 : decode m_M_ring.2.1 130 = .ok (.if_icmp .ne 14, 3) := by decide +kernel
theorem d_M_ring_133 : decode m_M_ring.2.1 133 = .ok (.aload_n 0, 1) := by decide +kernel
theorem d_M_ring_134 : decode m_M_ring.2.1 134 = .ok (.getfield 7, 3) := by decide +kernel
theorem d_M_ring_137 : decode m_M_ring.2.1 137 = .ok (.iload_n 3, 1) := by decide +kernel
theorem d_M_ring_138 : decode m_M_ring.2.1 138 = .ok (.iconst 0, 1) := by decide +kernel
theorem d_M_ring_139 : decode m_M_ring.2.1 139 = .ok (.iadd, 1) := by decide +kernel
theorem d_M_ring_140 : decode m_M_ring.2.1 140 = .ok (.iaload, 1) := by decide +kernel
theorem d_M_ring_141 : decode m_M_ring.2.1 141 = .ok (.goto 4, 3) := by decide +kernel
theorem d_M_ring_144 : decode m_M_ring.2.1 144 = .ok (.iconst (-1), 1) := by decide +kernel
theorem d_M_ring_145 : decode m_M_ring.2.1 145 = .ok (.ireturn, 1) := by decide +kernel
theorem d_M_ring_146 : decode m_M_ring.2.1 146 = .ok (.aload_n 0, 1) := by decide +kernel
theorem d_M_ring_147 : decode m_M_ring.2.1 147 = .ok (.getfield 7, 3) := by decide +kernel
theorem d_M_ring_150 : decode m_M_ring.2.1 150 = .ok (.iload_n 3, 1) := by decide +kernel
theorem d_M_ring_151 : decode m_M_ring.2.1 151 = .ok (.iconst 1, 1) := by decide +kernel
theorem d_M_ring_152 : decode m_M_ring.2.1 152 = .ok (.iadd, 1) := by decide +kernel
theorem d_M_ring_153 : decode m_M_ring.2.1 153 = .ok (.iaload, 1) := by decide +kernel
theorem d_M_ring_154 : decode m_M_ring.2.1 154 = .ok (.ireturn, 1) := by decide +kernel
theorem d_M_ring_155 : decode m_M_ring.2.1 155 = .ok (.aload_n 0, 1) := by decide +kernel
theorem d_M_ring_156 : decode m_M_ring.2.1 156 = .ok (.getfield 7, 3) := by decide +kernel
theorem d_M_ring_159 : decode m_M_ring.2.1 159 = .ok (.iload_n 3, 1) := by decide +kernel
theorem d_M_ring_160 : decode m_M_ring.2.1 160 = .ok (.iconst 2, 1) := by decide +kernel
theorem d_M_ring_161 : decode m_M_ring.2.1 161 = .ok (.iadd, 1) := by decide +kernel
theorem d_M_ring_162 : decode m_M_ring.2.1 162 = .ok (.iaload, 1) := by decide +kernel
theorem d_M_ring_163 : decode m_M_ring.2.1 163 = .ok (.ireturn, 1) := by decide +kernel
theorem d_M_ring_164 : decode m_M_ring.2.1 164 = .ok (.aload_n 0, 1) := by decide +kernel
theorem d_M_ring_165 : decode m_M_ring.2.1 165 = .ok (.getfield 7, 3) := by decide +kernel
theorem d_M_ring_168 : decode m_M_ring.2.1 168 = .ok (.iload_n 3, 1) := by decide +kernel
theorem d_M_ring_169 : decode m_M_ring.2.1 169 = .ok (.iconst 3, 1) := by decide +kernel
theorem d_M_ring_170 : decode m_M_ring.2.1 170 = .ok (.iadd, 1) := by decide +kernel
theorem d_M_ring_171 : decode m_M_ring.2.1 171 = .ok (.iaload, 1) := by decide +kernel
theorem d_M_ring_172 : decode m_M_ring.2.1 172 = .ok (.ireturn, 1) := by decide +kernel
theorem d_M_ring_173 : decode m_M_ring.2.1 173 = .ok (.aload_n 0, 1) := by decide +kernel
theorem d_M_ring_174 : decode m_M_ring.2.1 174 = .ok (.getfield 7, 3) := by decide +kernel
theorem d_M_ring_177 : decode m_M_ring.2.1 177 = .ok (.iload_n 3, 1) := by decide +kernel
theorem d_M_ring_178 : decode m_M_ring.2.1 178 = .ok (.iconst 4, 1) := by decide +kernel
theorem d_M_ring_179 : decode m_M_ring.2.1 179 = .ok (.iadd, 1) := by decide +kernel
theorem d_M_ring_180 : decode m_M_ring.2.1 180 = .ok (.iaload, 1) := by decide +kernel
theorem d_M_ring_181 : decode m_M_ring.2.1 181 = .ok (.ireturn, 1) := by decide +kernel
theorem d_M_ring_182 : decode m_M_ring.2.1 182 = .ok (.aload_n 0, 1) := by decide +kernel
theorem d_M_ring_183 : decode m_M_ring.2.1 183 = .ok (.getfield 7, 3) := by decide +kernel
theorem d_M_ring_186 : decode m_M_ring.2.1 186 = .ok (.iload_n 3, 1) := by decide +kernel
theorem d_M_ring_187 : decode m_M_ring.2.1 187 = .ok (.iconst 5, 1) := by decide +kernel
theorem d_M_ring_188 : decode m_M_ring.2.1 188 = .ok (.iadd, 1) := by decide +kernel
theorem d_M_ring_189 : decode m_M_ring.2.1 189 = .ok (.iaload, 1) := by decide +kernel
theorem d_M_ring_190 : decode m_M_ring.2.1 190 = .ok (.ireturn, 1) := by decide +kernel
theorem d_M_ring_191 : decode m_M_ring.2.1 191 = .ok (.iconst (-1), 1) := by decide +kernel
theorem d_M_ring_192 : decode m_M_ring.2.1 192 = .ok (.ireturn, 1) := by decide +kernel
def f_M_ring (x1 : Int) (x2 : Int) (w : qMem) : Option (Int × qMem) :=
  (f_M_rings w).bind fun q1 =>
  (f_M_isIn x1 0 (w32 (q1.1 - 1)) q1.2).bind fun q2 =>
  if q2.1 = 0 then
  some ((-1), q2.2)
  else
  (f_M_ringAt x1 q2.2).bind fun q4 =>
  if x2 = 0 then
  (f_M_directionOf x1 q4.2).bind fun q6 =>
  some (q6.1, q6.2)
  else
  if x2 = 1 then
  (f_M_leastNode x1 q4.2).bind fun q8 =>
  some (q8.1, q8.2)
  else
  if x2 = 2 then
  (f_M_longOf x1 q4.2).bind fun q10 =>
  some (q10.1, q10.2)
  else
  if x2 = 3 then
  qld q4.2 89 5898 2 fun v12 =>
  (f_M_longOf x1 q4.2).bind fun q13 =>
  (f_M_freeIn x1 q13.2).bind fun q14 =>
  some ((w32 ((w32 (v12 * q13.1)) - q14.1)), q14.2)
  else
  if x2 = 4 then
  (f_M_freeIn x1 q4.2).bind fun q16 =>
  some (q16.1, q16.2)
  else
  if x2 = 5 then
  qld q4.2 89 5898 4 fun v18 =>
  if v18 = 2 then
  qld q4.2 89 5898 (w32 (q4.1 + 0)) fun v20 =>
  some (v20, q4.2)
  else
  some ((-1), q4.2)
  else
  if x2 = 6 then
  qld q4.2 89 5898 (w32 (q4.1 + 1)) fun v22 =>
  some (v22, q4.2)
  else
  if x2 = 7 then
  qld q4.2 89 5898 (w32 (q4.1 + 2)) fun v24 =>
  some (v24, q4.2)
  else
  if x2 = 8 then
  qld q4.2 89 5898 (w32 (q4.1 + 3)) fun v26 =>
  some (v26, q4.2)
  else
  if x2 = 9 then
  qld q4.2 89 5898 (w32 (q4.1 + 4)) fun v28 =>
  some (v28, q4.2)
  else
  if x2 = 10 then
  qld q4.2 89 5898 (w32 (q4.1 + 5)) fun v30 =>
  some (v30, q4.2)
  else
  some ((-1), q4.2)
set_option maxRecDepth 4000 in
theorem s_M_ring (x1 : Int) (x2 : Int) (w : qMem) : qSim κI 100 100 m_M_ring 0 [] [some (qR 88), some (qI x1), some (qI x2), none] w (f_M_ring x1 x2 w) := by
  unfold f_M_ring
  refine z_iload_n d_M_ring_0 rfl ?_
  refine z_ic0 d_M_ring_1 ?_
  refine z_aload_n d_M_ring_2 rfl ?_
  refine z_cVI (as := []) (st := [qI 0, qI x1]) (nl := 0) (ci := 10) d_M_ring_3 lk_M_54 mk_M_rings rfl rfl rfl rfl rfl rfl (s_M_rings _) (fun q1 _ hq1 => ?_)
  refine z_ic1 d_M_ring_6 ?_
  refine z_isub d_M_ring_7 ?_
  refine z_cSI (av := [qI x1, qI 0, qI (w32 (q1.1 - 1))]) (st := []) (nl := 0) d_M_ring_8 lk_M_68 mk_M_isIn rfl rfl rfl (s_M_isIn _ _ _ _) (fun q2 _ hq2 => ?_)
  refine z_if_ne (tgt := 16) d_M_ring_11 rfl (fun c3 => ?_) (fun c3 => ?_)
  · refine z_icm1 d_M_ring_14 ?_
    exact z_iret d_M_ring_15 rfl rfl
  · refine z_iload_n d_M_ring_16 rfl ?_
    refine z_cSI (av := [qI x1]) (st := []) (nl := 0) d_M_ring_17 lk_M_58 mk_M_ringAt rfl rfl rfl (s_M_ringAt _ _) (fun q4 _ hq4 => ?_)
    refine z_istore_n (pls' := [some (qR 88), some (qI x1), some (qI x2), some (qI q4.1)]) d_M_ring_20 (by decide) rfl rfl ?_
    refine z_iload_n d_M_ring_21 rfl ?_
    refine z_if (fun c5 => ?_) (fun c5 => ?_)
    · refine z_tabIn (tgt := 80) (v := 0) d_M_ring_22 c5 (by decide) (by decide) rfl rfl ?_
      refine z_aload_n d_M_ring_80 rfl ?_
      refine z_iload_n d_M_ring_81 rfl ?_
      refine z_cVI (as := [qI x1]) (st := []) (nl := 0) (ci := 10) d_M_ring_82 lk_M_89 mk_M_directionOf rfl rfl rfl rfl rfl rfl (s_M_directionOf _ _) (fun q6 _ hq6 => ?_)
      exact z_iret d_M_ring_85 rfl rfl
    · refine z_if (fun c7 => ?_) (fun c7 => ?_)
      · refine z_tabIn (tgt := 86) (v := 1) d_M_ring_22 c7 (by decide) (by decide) rfl rfl ?_
        refine z_aload_n d_M_ring_86 rfl ?_
        refine z_iload_n d_M_ring_87 rfl ?_
        refine z_cVI (as := [qI x1]) (st := []) (nl := 0) (ci := 10) d_M_ring_88 lk_M_62 mk_M_leastNode rfl rfl rfl rfl rfl rfl (s_M_leastNode _ _) (fun q8 _ hq8 => ?_)
        exact z_iret d_M_ring_91 rfl rfl
      · refine z_if (fun c9 => ?_) (fun c9 => ?_)
        · refine z_tabIn (tgt := 92) (v := 2) d_M_ring_22 c9 (by decide) (by decide) rfl rfl ?_
          refine z_aload_n d_M_ring_92 rfl ?_
          refine z_iload_n d_M_ring_93 rfl ?_
          refine z_cVI (as := [qI x1]) (st := []) (nl := 0) (ci := 10) d_M_ring_94 lk_M_65 mk_M_longOf rfl rfl rfl rfl rfl rfl (s_M_longOf _ _) (fun q10 _ hq10 => ?_)
          exact z_iret d_M_ring_97 rfl rfl
        · refine z_if (fun c11 => ?_) (fun c11 => ?_)
          · refine z_tabIn (tgt := 98) (v := 3) d_M_ring_22 c11 (by decide) (by decide) rfl rfl ?_
            refine z_aload_n d_M_ring_98 rfl ?_
            refine z_gr (ci := 10) (j := 0) (d := 1) (o2 := 89) d_M_ring_99 rfl fl_M_7 rfl (Nat.le_of_ble_eq_true rfl) rfl rfl ?_
            refine z_ic2 d_M_ring_102 ?_
            refine z_il d_M_ring_103 rfl rfl (fun v12 => ?_)
            refine z_aload_n d_M_ring_104 rfl ?_
            refine z_iload_n d_M_ring_105 rfl ?_
            refine z_cVI (as := [qI x1]) (st := [qI v12]) (nl := 0) (ci := 10) d_M_ring_106 lk_M_65 mk_M_longOf rfl rfl rfl rfl rfl rfl (s_M_longOf _ _) (fun q13 _ hq13 => ?_)
            refine z_imul d_M_ring_109 ?_
            refine z_aload_n d_M_ring_110 rfl ?_
            refine z_iload_n d_M_ring_111 rfl ?_
            refine z_cVI (as := [qI x1]) (st := [qI (w32 (v12 * q13.1))]) (nl := 3) (ci := 10) d_M_ring_112 lk_M_209 mk_M_freeIn rfl rfl rfl rfl rfl rfl (s_M_freeIn _ _) (fun q14 _ hq14 => ?_)
            refine z_isub d_M_ring_115 ?_
            exact z_iret d_M_ring_116 rfl rfl
          · refine z_if (fun c15 => ?_) (fun c15 => ?_)
            · refine z_tabIn (tgt := 117) (v := 4) d_M_ring_22 c15 (by decide) (by decide) rfl rfl ?_
              refine z_aload_n d_M_ring_117 rfl ?_
              refine z_iload_n d_M_ring_118 rfl ?_
              refine z_cVI (as := [qI x1]) (st := []) (nl := 3) (ci := 10) d_M_ring_119 lk_M_209 mk_M_freeIn rfl rfl rfl rfl rfl rfl (s_M_freeIn _ _) (fun q16 _ hq16 => ?_)
              exact z_iret d_M_ring_122 rfl rfl
            · refine z_if (fun c17 => ?_) (fun c17 => ?_)
              · refine z_tabIn (tgt := 123) (v := 5) d_M_ring_22 c17 (by decide) (by decide) rfl rfl ?_
                refine z_aload_n d_M_ring_123 rfl ?_
                refine z_gr (ci := 10) (j := 0) (d := 1) (o2 := 89) d_M_ring_124 rfl fl_M_7 rfl (Nat.le_of_ble_eq_true rfl) rfl rfl ?_
                refine z_ic4 d_M_ring_127 ?_
                refine z_il d_M_ring_128 rfl rfl (fun v18 => ?_)
                refine z_ic2 d_M_ring_129 ?_
                refine z_icmp_ne (tgt := 144) d_M_ring_130 rfl (fun c19 => ?_) (fun c19 => ?_)
                · refine z_aload_n d_M_ring_133 rfl ?_
                  refine z_gr (ci := 10) (j := 0) (d := 1) (o2 := 89) d_M_ring_134 rfl fl_M_7 rfl (Nat.le_of_ble_eq_true rfl) rfl rfl ?_
                  refine z_iload_n d_M_ring_137 rfl ?_
                  refine z_ic0 d_M_ring_138 ?_
                  refine z_iadd d_M_ring_139 ?_
                  refine z_il d_M_ring_140 rfl rfl (fun v20 => ?_)
                  refine z_goto (tgt := 145) d_M_ring_141 rfl ?_
                  exact z_iret d_M_ring_145 rfl rfl
                · refine z_icm1 d_M_ring_144 ?_
                  exact z_iret d_M_ring_145 rfl rfl
              · refine z_if (fun c21 => ?_) (fun c21 => ?_)
                · refine z_tabIn (tgt := 146) (v := 6) d_M_ring_22 c21 (by decide) (by decide) rfl rfl ?_
                  refine z_aload_n d_M_ring_146 rfl ?_
                  refine z_gr (ci := 10) (j := 0) (d := 1) (o2 := 89) d_M_ring_147 rfl fl_M_7 rfl (Nat.le_of_ble_eq_true rfl) rfl rfl ?_
                  refine z_iload_n d_M_ring_150 rfl ?_
                  refine z_ic1 d_M_ring_151 ?_
                  refine z_iadd d_M_ring_152 ?_
                  refine z_il d_M_ring_153 rfl rfl (fun v22 => ?_)
                  exact z_iret d_M_ring_154 rfl rfl
                · refine z_if (fun c23 => ?_) (fun c23 => ?_)
                  · refine z_tabIn (tgt := 155) (v := 7) d_M_ring_22 c23 (by decide) (by decide) rfl rfl ?_
                    refine z_aload_n d_M_ring_155 rfl ?_
                    refine z_gr (ci := 10) (j := 0) (d := 1) (o2 := 89) d_M_ring_156 rfl fl_M_7 rfl (Nat.le_of_ble_eq_true rfl) rfl rfl ?_
                    refine z_iload_n d_M_ring_159 rfl ?_
                    refine z_ic2 d_M_ring_160 ?_
                    refine z_iadd d_M_ring_161 ?_
                    refine z_il d_M_ring_162 rfl rfl (fun v24 => ?_)
                    exact z_iret d_M_ring_163 rfl rfl
                  · refine z_if (fun c25 => ?_) (fun c25 => ?_)
                    · refine z_tabIn (tgt := 164) (v := 8) d_M_ring_22 c25 (by decide) (by decide) rfl rfl ?_
                      refine z_aload_n d_M_ring_164 rfl ?_
                      refine z_gr (ci := 10) (j := 0) (d := 1) (o2 := 89) d_M_ring_165 rfl fl_M_7 rfl (Nat.le_of_ble_eq_true rfl) rfl rfl ?_
                      refine z_iload_n d_M_ring_168 rfl ?_
                      refine z_ic3 d_M_ring_169 ?_
                      refine z_iadd d_M_ring_170 ?_
                      refine z_il d_M_ring_171 rfl rfl (fun v26 => ?_)
                      exact z_iret d_M_ring_172 rfl rfl
                    · refine z_if (fun c27 => ?_) (fun c27 => ?_)
                      · refine z_tabIn (tgt := 173) (v := 9) d_M_ring_22 c27 (by decide) (by decide) rfl rfl ?_
                        refine z_aload_n d_M_ring_173 rfl ?_
                        refine z_gr (ci := 10) (j := 0) (d := 1) (o2 := 89) d_M_ring_174 rfl fl_M_7 rfl (Nat.le_of_ble_eq_true rfl) rfl rfl ?_
                        refine z_iload_n d_M_ring_177 rfl ?_
                        refine z_ic4 d_M_ring_178 ?_
                        refine z_iadd d_M_ring_179 ?_
                        refine z_il d_M_ring_180 rfl rfl (fun v28 => ?_)
                        exact z_iret d_M_ring_181 rfl rfl
                      · refine z_if (fun c29 => ?_) (fun c29 => ?_)
                        · refine z_tabIn (tgt := 182) (v := 10) d_M_ring_22 c29 (by decide) (by decide) rfl rfl ?_
                          refine z_aload_n d_M_ring_182 rfl ?_
                          refine z_gr (ci := 10) (j := 0) (d := 1) (o2 := 89) d_M_ring_183 rfl fl_M_7 rfl (Nat.le_of_ble_eq_true rfl) rfl rfl ?_
                          refine z_iload_n d_M_ring_186 rfl ?_
                          refine z_ic5 d_M_ring_187 ?_
                          refine z_iadd d_M_ring_188 ?_
                          refine z_il d_M_ring_189 rfl rfl (fun v30 => ?_)
                          exact z_iret d_M_ring_190 rfl rfl
                        · refine z_tabOut (tgt := 191) d_M_ring_22 (by omega) rfl ?_
                          refine z_icm1 d_M_ring_191 ?_
                          exact z_iret d_M_ring_192 rfl rfl
/-! BubbleTorusModel.hunger -/
theorem d_M_hunger_0 : decode m_M_hunger.2.1 0 = .ok (.aload_n 0, 1) := by decide +kernel
theorem d_M_hunger_1 : decode m_M_hunger.2.1 1 = .ok (.iload_n 1, 1) := by decide +kernel
theorem d_M_hunger_2 : decode m_M_hunger.2.1 2 = .ok (.invokevirtual 92, 3) := by decide +kernel
theorem d_M_hunger_5 : decode m_M_hunger.2.1 5 = .ok (.ifCond .eq 27, 3) := by decide +kernel
theorem d_M_hunger_8 : decode m_M_hunger.2.1 8 = .ok (.iload_n 2, 1) := by decide +kernel
theorem d_M_hunger_9 : decode m_M_hunger.2.1 9 = .ok (.invokestatic 96, 3) := by decide +kernel
theorem d_M_hunger_12 : decode m_M_hunger.2.1 12 = .ok (.ifCond .eq 20, 3) := by decide +kernel
theorem d_M_hunger_15 : decode m_M_hunger.2.1 15 = .ok (.aload_n 0, 1) := by decide +kernel
theorem d_M_hunger_16 : decode m_M_hunger.2.1 16 = .ok (.getfield 7, 3) := by decide +kernel
theorem d_M_hunger_19 : decode m_M_hunger.2.1 19 = .ok (.sipush 5370, 3) := by decide +kernel
theorem d_M_hunger_22 : decode m_M_hunger.2.1 22 = .ok (.iconst 4, 1) := by decide +kernel
theorem d_M_hunger_23 : decode m_M_hunger.2.1 23 = .ok (.iload_n 1, 1) := by decide +kernel
theorem d_M_hunger_24 : decode m_M_hunger.2.1 24 = .ok (.imul, 1) := by decide +kernel
theorem d_M_hunger_25 : decode m_M_hunger.2.1 25 = .ok (.iadd, 1) := by decide +kernel
theorem d_M_hunger_26 : decode m_M_hunger.2.1 26 = .ok (.iload_n 2, 1) := by decide +kernel
theorem d_M_hunger_27 : decode m_M_hunger.2.1 27 = .ok (.iadd, 1) := by decide +kernel
theorem d_M_hunger_28 : decode m_M_hunger.2.1 28 = .ok (.iaload, 1) := by decide +kernel
theorem d_M_hunger_29 : decode m_M_hunger.2.1 29 = .ok (.goto 4, 3) := by decide +kernel
theorem d_M_hunger_32 : decode m_M_hunger.2.1 32 = .ok (.iconst (-1), 1) := by decide +kernel
theorem d_M_hunger_33 : decode m_M_hunger.2.1 33 = .ok (.ireturn, 1) := by decide +kernel
def f_M_hunger (x1 : Int) (x2 : Int) (w : qMem) : Option (Int × qMem) :=
  (f_M_isNode x1 w).bind fun q1 =>
  if q1.1 = 0 then
  some ((-1), q1.2)
  else
  (f_M_isDirection x2 q1.2).bind fun q3 =>
  if q3.1 = 0 then
  some ((-1), q3.2)
  else
  qld q3.2 89 5898 (w32 ((w32 (5370 + (w32 (4 * x1)))) + x2)) fun v5 =>
  some (v5, q3.2)
set_option maxRecDepth 4000 in
theorem s_M_hunger (x1 : Int) (x2 : Int) (w : qMem) : qSim κI 100 100 m_M_hunger 0 [] [some (qR 88), some (qI x1), some (qI x2)] w (f_M_hunger x1 x2 w) := by
  unfold f_M_hunger
  refine z_aload_n d_M_hunger_0 rfl ?_
  refine z_iload_n d_M_hunger_1 rfl ?_
  refine z_cVI (as := [qI x1]) (st := []) (nl := 0) (ci := 10) d_M_hunger_2 lk_M_92 mk_M_isNode rfl rfl rfl rfl rfl rfl (s_M_isNode _ _) (fun q1 _ hq1 => ?_)
  refine z_if_eq (tgt := 32) d_M_hunger_5 rfl (fun c2 => ?_) (fun c2 => ?_)
  · refine z_icm1 d_M_hunger_32 ?_
    exact z_iret d_M_hunger_33 rfl rfl
  · refine z_iload_n d_M_hunger_8 rfl ?_
    refine z_cSI (av := [qI x2]) (st := []) (nl := 0) d_M_hunger_9 lk_M_96 mk_M_isDirection rfl rfl rfl (s_M_isDirection _ _) (fun q3 _ hq3 => ?_)
    refine z_if_eq (tgt := 32) d_M_hunger_12 rfl (fun c4 => ?_) (fun c4 => ?_)
    · refine z_icm1 d_M_hunger_32 ?_
      exact z_iret d_M_hunger_33 rfl rfl
    · refine z_aload_n d_M_hunger_15 rfl ?_
      refine z_gr (ci := 10) (j := 0) (d := 1) (o2 := 89) d_M_hunger_16 rfl fl_M_7 rfl (Nat.le_of_ble_eq_true rfl) rfl rfl ?_
      refine z_sipush d_M_hunger_19 ⟨by decide, by decide⟩ ?_
      refine z_ic4 d_M_hunger_22 ?_
      refine z_iload_n d_M_hunger_23 rfl ?_
      refine z_imul d_M_hunger_24 ?_
      refine z_iadd d_M_hunger_25 ?_
      refine z_iload_n d_M_hunger_26 rfl ?_
      refine z_iadd d_M_hunger_27 ?_
      refine z_il d_M_hunger_28 rfl rfl (fun v5 => ?_)
      refine z_goto (tgt := 33) d_M_hunger_29 rfl ?_
      exact z_iret d_M_hunger_33 rfl rfl
/-! BubbleTorusModel.inQueues -/
theorem d_M_inQueues_0 : decode m_M_inQueues.2.1 0 = .ok (.iconst 0, 1) := by decide +kernel
theorem d_M_inQueues_1 : decode m_M_inQueues.2.1 1 = .ok (.istore_n 2, 1) := by decide +kernel
theorem d_M_inQueues_2 : decode m_M_inQueues.2.1 2 = .ok (.iconst 0, 1) := by decide +kernel
theorem d_M_inQueues_3 : decode m_M_inQueues.2.1 3 = .ok (.istore_n 3, 1) := by decide +kernel
theorem d_M_inQueues_4 : decode m_M_inQueues.2.1 4 = .ok (.iload_n 3, 1) := by decide +kernel
theorem d_M_inQueues_5 : decode m_M_inQueues.2.1 5 = .ok (.bipush 9, 2) := by decide +kernel
theorem d_M_inQueues_7 : decode m_M_inQueues.2.1 7 = .ok (.if_icmp .ge 18, 3) := by decide +kernel
theorem d_M_inQueues_10 : decode m_M_inQueues.2.1 10 = .ok (.iload_n 2, 1) := by decide +kernel
theorem d_M_inQueues_11 : decode m_M_inQueues.2.1 11 = .ok (.aload_n 0, 1) := by decide +kernel
theorem d_M_inQueues_12 : decode m_M_inQueues.2.1 12 = .ok (.iload_n 1, 1) := by decide +kernel
theorem d_M_inQueues_13 : decode m_M_inQueues.2.1 13 = .ok (.iload_n 3, 1) := by decide +kernel
theorem d_M_inQueues_14 : decode m_M_inQueues.2.1 14 = .ok (.invokevirtual 108, 3) := by decide +kernel
theorem d_M_inQueues_17 : decode m_M_inQueues.2.1 17 = .ok (.iadd, 1) := by decide +kernel
theorem d_M_inQueues_18 : decode m_M_inQueues.2.1 18 = .ok (.istore_n 2, 1) := by decide +kernel
theorem d_M_inQueues_19 : decode m_M_inQueues.2.1 19 = .ok (.iinc 3 1, 3) := by decide +kernel
theorem d_M_inQueues_22 : decode m_M_inQueues.2.1 22 = .ok (.goto (-18), 3) := by decide +kernel
theorem d_M_inQueues_25 : decode m_M_inQueues.2.1 25 = .ok (.iload_n 2, 1) := by decide +kernel
theorem d_M_inQueues_26 : decode m_M_inQueues.2.1 26 = .ok (.ireturn, 1) := by decide +kernel
def f_M_inQueues_4 : Nat → Int → Int → Int → qMem → Option (Int × qMem)
  | 0, _, _, _, _ => none
  | n + 1, x1, x2, x3, w =>
    if x3 < 9 then
    (f_M_many x1 x3 w).bind fun q2 =>
    (f_M_inQueues_4 n) x1 (w32 (x2 + q2.1)) (w32 (x3 + 1)) q2.2
    else
    some (x2, w)
set_option maxRecDepth 4000 in
theorem s_M_inQueues_4  : ∀ (n : Nat), ∀ (x1 x2 x3 : Int) (w : qMem), qSim κI 100 100 m_M_inQueues 4 [] [some (qR 88), some (qI x1), some (qI x2), some (qI x3)] w (f_M_inQueues_4 n x1 x2 x3 w) := by
  intro n
  induction n with
  | zero => intro x1 x2 x3 w; exact z_none
  | succ n ih =>
    intro x1 x2 x3 w
    rw [f_M_inQueues_4]
    refine z_iload_n d_M_inQueues_4 rfl ?_
    refine z_bipush d_M_inQueues_5 ⟨by decide, by decide⟩ ?_
    refine z_icmp_ge (tgt := 25) d_M_inQueues_7 rfl (fun c1 => ?_) (fun c1 => ?_)
    · refine z_iload_n d_M_inQueues_10 rfl ?_
      refine z_aload_n d_M_inQueues_11 rfl ?_
      refine z_iload_n d_M_inQueues_12 rfl ?_
      refine z_iload_n d_M_inQueues_13 rfl ?_
      refine z_cVI (as := [qI x1, qI x3]) (st := [qI x2]) (nl := 0) (ci := 10) d_M_inQueues_14 lk_M_108 mk_M_many rfl rfl rfl rfl rfl rfl (s_M_many _ _ _) (fun q2 _ hq2 => ?_)
      refine z_iadd d_M_inQueues_17 ?_
      refine z_istore_n (pls' := [some (qR 88), some (qI x1), some (qI (w32 (x2 + q2.1))), some (qI x3)]) d_M_inQueues_18 (by decide) rfl rfl ?_
      refine z_iinc (pls' := [some (qR 88), some (qI x1), some (qI (w32 (x2 + q2.1))), some (qI (w32 (x3 + 1)))]) d_M_inQueues_19 (by decide) rfl rfl rfl ?_
      refine z_goto (tgt := 4) d_M_inQueues_22 rfl ?_
      refine z_mask [true, true, true, true] ?_
      exact ih _ _ _ _
    · refine z_iload_n d_M_inQueues_25 rfl ?_
      exact z_iret d_M_inQueues_26 rfl rfl
def f_M_inQueues (x1 : Int) (w : qMem) : Option (Int × qMem) :=
  f_M_inQueues_4 qFU x1 0 0 w
set_option maxRecDepth 4000 in
theorem s_M_inQueues (x1 : Int) (w : qMem) : qSim κI 100 100 m_M_inQueues 0 [] [some (qR 88), some (qI x1), none, none] w (f_M_inQueues x1 w) := by
  unfold f_M_inQueues
  refine z_ic0 d_M_inQueues_0 ?_
  refine z_istore_n (pls' := [some (qR 88), some (qI x1), some (qI 0), none]) d_M_inQueues_1 (by decide) rfl rfl ?_
  refine z_ic0 d_M_inQueues_2 ?_
  refine z_istore_n (pls' := [some (qR 88), some (qI x1), some (qI 0), some (qI 0)]) d_M_inQueues_3 (by decide) rfl rfl ?_
  refine z_mask [true, true, true, true] ?_
  exact s_M_inQueues_4 _ _ _ _ _
/-! BubbleTorusModel.longestInDoor -/
theorem d_M_longestInDoor_0 : decode m_M_longestInDoor.2.1 0 = .ok (.iconst 0, 1) := by decide +kernel
theorem d_M_longestInDoor_1 : decode m_M_longestInDoor.2.1 1 = .ok (.istore_n 2, 1) := by decide +kernel
theorem d_M_longestInDoor_2 : decode m_M_longestInDoor.2.1 2 = .ok (.iconst 0, 1) := by decide +kernel
theorem d_M_longestInDoor_3 : decode m_M_longestInDoor.2.1 3 = .ok (.istore_n 3, 1) := by decide +kernel
theorem d_M_longestInDoor_4 : decode m_M_longestInDoor.2.1 4 = .ok (.iload_n 3, 1) := by decide +kernel
theorem d_M_longestInDoor_5 : decode m_M_longestInDoor.2.1 5 = .ok (.aload_n 0, 1) := by decide +kernel
theorem d_M_longestInDoor_6 : decode m_M_longestInDoor.2.1 6 = .ok (.getfield 7, 3) := by decide +kernel
theorem d_M_longestInDoor_9 : decode m_M_longestInDoor.2.1 9 = .ok (.bipush 7, 2) := by decide +kernel
theorem d_M_longestInDoor_11 : decode m_M_longestInDoor.2.1 11 = .ok (.iaload, 1) := by decide +kernel
theorem d_M_longestInDoor_12 : decode m_M_longestInDoor.2.1 12 = .ok (.if_icmp .ge 62, 3) := by decide +kernel
theorem d_M_longestInDoor_15 : decode m_M_longestInDoor.2.1 15 = .ok (.aload_n 0, 1) := by decide +kernel
theorem d_M_longestInDoor_16 : decode m_M_longestInDoor.2.1 16 = .ok (.iload_n 3, 1) := by decide +kernel
theorem d_M_longestInDoor_17 : decode m_M_longestInDoor.2.1 17 = .ok (.iconst 0, 1) := by decide +kernel
theorem d_M_longestInDoor_18 : decode m_M_longestInDoor.2.1 18 = .ok (.invokevirtual 142, 3) := by decide +kernel
theorem d_M_longestInDoor_21 : decode m_M_longestInDoor.2.1 21 = .ok (.iload_n 1, 1) := by decide +kernel
theorem d_M_longestInDoor_22 : decode m_M_longestInDoor.2.1 22 = .ok (.if_icmp .ne 46, 3) := by decide +kernel
theorem d_M_longestInDoor_25 : decode m_M_longestInDoor.2.1 25 = .ok (.aload_n 0, 1) := by decide +kernel
theorem d_M_longestInDoor_26 : decode m_M_longestInDoor.2.1 26 = .ok (.iload_n 3, 1) := by decide +kernel
theorem d_M_longestInDoor_27 : decode m_M_longestInDoor.2.1 27 = .ok (.bipush 10, 2) := by decide +kernel
theorem d_M_longestInDoor_29 : decode m_M_longestInDoor.2.1 29 = .ok (.invokevirtual 142, 3) := by decide +kernel
theorem d_M_longestInDoor_32 : decode m_M_longestInDoor.2.1 32 = .ok (.iconst (-1), 1) := by decide +kernel
theorem d_M_longestInDoor_33 : decode m_M_longestInDoor.2.1 33 = .ok (.if_icmp .ne 6, 3) := by decide +kernel
theorem d_M_longestInDoor_36 : decode m_M_longestInDoor.2.1 36 = .ok (.goto 32, 3) := by decide +kernel
theorem d_M_longestInDoor_39 : decode m_M_longestInDoor.2.1 39 = .ok (.aload_n 0, 1) := by decide +kernel
theorem d_M_longestInDoor_40 : decode m_M_longestInDoor.2.1 40 = .ok (.iload_n 3, 1) := by decide +kernel
theorem d_M_longestInDoor_41 : decode m_M_longestInDoor.2.1 41 = .ok (.bipush 10, 2) := by decide +kernel
theorem d_M_longestInDoor_43 : decode m_M_longestInDoor.2.1 43 = .ok (.invokevirtual 142, 3) := by decide +kernel
theorem d_M_longestInDoor_46 : decode m_M_longestInDoor.2.1 46 = .ok (.aload_n 0, 1) := by decide +kernel
theorem d_M_longestInDoor_47 : decode m_M_longestInDoor.2.1 47 = .ok (.iload_n 3, 1) := by decide +kernel
theorem d_M_longestInDoor_48 : decode m_M_longestInDoor.2.1 48 = .ok (.iconst 2, 1) := by decide +kernel
theorem d_M_longestInDoor_49 : decode m_M_longestInDoor.2.1 49 = .ok (.invokevirtual 142, 3) := by decide +kernel
theorem d_M_longestInDoor_52 : decode m_M_longestInDoor.2.1 52 = .ok (.isub, 1) := by decide +kernel
theorem d_M_longestInDoor_53 : decode m_M_longestInDoor.2.1 53 = .ok (.istore 4, 2) := by decide +kernel
theorem d_M_longestInDoor_55 : decode m_M_longestInDoor.2.1 55 = .ok (.iload 4, 2) := by decide +kernel
theorem d_M_longestInDoor_57 : decode m_M_longestInDoor.2.1 57 = .ok (.iload_n 2, 1) := by decide +kernel
theorem d_M_longestInDoor_58 : decode m_M_longestInDoor.2.1 58 = .ok (.if_icmp .le 8, 3) := by decide +kernel
theorem d_M_longestInDoor_61 : decode m_M_longestInDoor.2.1 61 = .ok (.iload 4, 2) := by decide +kernel
theorem d_M_longestInDoor_63 : decode m_M_longestInDoor.2.1 63 = .ok (.goto 4, 3) := by decide +kernel
theorem d_M_longestInDoor_66 : decode m_M_longestInDoor.2.1 66 = .ok (.iload_n 2, 1) := by decide +kernel
theorem d_M_longestInDoor_67 : decode m_M_longestInDoor.2.1 67 = .ok (.istore_n 2, 1) := by decide +kernel
theorem d_M_longestInDoor_68 : decode m_M_longestInDoor.2.1 68 = .ok (.iinc 3 1, 3) := by decide +kernel
theorem d_M_longestInDoor_71 : decode m_M_longestInDoor.2.1 71 = .ok (.goto (-67), 3) := by decide +kernel
theorem d_M_longestInDoor_74 : decode m_M_longestInDoor.2.1 74 = .ok (.iload_n 2, 1) := by decide +kernel
theorem d_M_longestInDoor_75 : decode m_M_longestInDoor.2.1 75 = .ok (.ireturn, 1) := by decide +kernel
def f_M_longestInDoor_67 (r4 : Int → Int → Int → qMem → Option (Int × qMem)) (s0 x1 x3 : Int) (w : qMem) : Option (Int × qMem) :=
  r4 x1 s0 (w32 (x3 + 1)) w
set_option maxRecDepth 4000 in
theorem s_M_longestInDoor_67  {r4 : Int → Int → Int → qMem → Option (Int × qMem)} (hr4 : ∀ x1 x2 x3 w, qSim κI 100 100 m_M_longestInDoor 4 [] [some (qR 88), some (qI x1), some (qI x2), some (qI x3), none] w (r4 x1 x2 x3 w)) : ∀ (s0 x1 x3 : Int) (w : qMem), qSim κI 100 100 m_M_longestInDoor 67 [qI s0] [some (qR 88), some (qI x1), none, some (qI x3), none] w (f_M_longestInDoor_67 r4 s0 x1 x3 w) := by
  intro s0 x1 x3 w
  unfold f_M_longestInDoor_67
  refine z_istore_n (pls' := [some (qR 88), some (qI x1), some (qI s0), some (qI x3), none]) d_M_longestInDoor_67 (by decide) rfl rfl ?_
  refine z_iinc (pls' := [some (qR 88), some (qI x1), some (qI s0), some (qI (w32 (x3 + 1))), none]) d_M_longestInDoor_68 (by decide) rfl rfl rfl ?_
  refine z_goto (tgt := 4) d_M_longestInDoor_71 rfl ?_
  refine z_mask [true, true, true, true, false] ?_
  exact hr4 _ _ _ _
def f_M_longestInDoor_4 : Nat → Int → Int → Int → qMem → Option (Int × qMem)
  | 0, _, _, _, _ => none
  | n + 1, x1, x2, x3, w =>
    qld w 89 5898 7 fun v1 =>
    if x3 < v1 then
    (f_M_of x3 0 w).bind fun q3 =>
    if q3.1 = x1 then
    (f_M_of x3 10 q3.2).bind fun q5 =>
    if q5.1 = (-1) then
    (f_M_longestInDoor_4 n) x1 x2 (w32 (x3 + 1)) q5.2
    else
    (f_M_of x3 10 q5.2).bind fun q7 =>
    (f_M_of x3 2 q7.2).bind fun q8 =>
    if (w32 (q7.1 - q8.1)) ≤ x2 then
    f_M_longestInDoor_67 (f_M_longestInDoor_4 n) x2 x1 x3 q8.2
    else
    f_M_longestInDoor_67 (f_M_longestInDoor_4 n) (w32 (q7.1 - q8.1)) x1 x3 q8.2
    else
    (f_M_longestInDoor_4 n) x1 x2 (w32 (x3 + 1)) q3.2
    else
    some (x2, w)
set_option maxRecDepth 4000 in
theorem s_M_longestInDoor_4  : ∀ (n : Nat), ∀ (x1 x2 x3 : Int) (w : qMem), qSim κI 100 100 m_M_longestInDoor 4 [] [some (qR 88), some (qI x1), some (qI x2), some (qI x3), none] w (f_M_longestInDoor_4 n x1 x2 x3 w) := by
  intro n
  induction n with
  | zero => intro x1 x2 x3 w; exact z_none
  | succ n ih =>
    intro x1 x2 x3 w
    rw [f_M_longestInDoor_4]
    refine z_iload_n d_M_longestInDoor_4 rfl ?_
    refine z_aload_n d_M_longestInDoor_5 rfl ?_
    refine z_gr (ci := 10) (j := 0) (d := 1) (o2 := 89) d_M_longestInDoor_6 rfl fl_M_7 rfl (Nat.le_of_ble_eq_true rfl) rfl rfl ?_
    refine z_bipush d_M_longestInDoor_9 ⟨by decide, by decide⟩ ?_
    refine z_il d_M_longestInDoor_11 rfl rfl (fun v1 => ?_)
    refine z_icmp_ge (tgt := 74) d_M_longestInDoor_12 rfl (fun c2 => ?_) (fun c2 => ?_)
    · refine z_aload_n d_M_longestInDoor_15 rfl ?_
      refine z_iload_n d_M_longestInDoor_16 rfl ?_
      refine z_ic0 d_M_longestInDoor_17 ?_
      refine z_cVI (as := [qI x3, qI 0]) (st := []) (nl := 0) (ci := 10) d_M_longestInDoor_18 lk_M_142 mk_M_of rfl rfl rfl rfl rfl rfl (s_M_of _ _ _) (fun q3 _ hq3 => ?_)
      refine z_iload_n d_M_longestInDoor_21 rfl ?_
      refine z_icmp_ne (tgt := 68) d_M_longestInDoor_22 rfl (fun c4 => ?_) (fun c4 => ?_)
      · refine z_aload_n d_M_longestInDoor_25 rfl ?_
        refine z_iload_n d_M_longestInDoor_26 rfl ?_
        refine z_bipush d_M_longestInDoor_27 ⟨by decide, by decide⟩ ?_
        refine z_cVI (as := [qI x3, qI 10]) (st := []) (nl := 0) (ci := 10) d_M_longestInDoor_29 lk_M_142 mk_M_of rfl rfl rfl rfl rfl rfl (s_M_of _ _ _) (fun q5 _ hq5 => ?_)
        refine z_icm1 d_M_longestInDoor_32 ?_
        refine z_icmp_ne (tgt := 39) d_M_longestInDoor_33 rfl (fun c6 => ?_) (fun c6 => ?_)
        · refine z_goto (tgt := 68) d_M_longestInDoor_36 rfl ?_
          refine z_iinc (pls' := [some (qR 88), some (qI x1), some (qI x2), some (qI (w32 (x3 + 1))), none]) d_M_longestInDoor_68 (by decide) rfl rfl rfl ?_
          refine z_goto (tgt := 4) d_M_longestInDoor_71 rfl ?_
          refine z_mask [true, true, true, true, false] ?_
          exact ih _ _ _ _
        · refine z_aload_n d_M_longestInDoor_39 rfl ?_
          refine z_iload_n d_M_longestInDoor_40 rfl ?_
          refine z_bipush d_M_longestInDoor_41 ⟨by decide, by decide⟩ ?_
          refine z_cVI (as := [qI x3, qI 10]) (st := []) (nl := 0) (ci := 10) d_M_longestInDoor_43 lk_M_142 mk_M_of rfl rfl rfl rfl rfl rfl (s_M_of _ _ _) (fun q7 _ hq7 => ?_)
          refine z_aload_n d_M_longestInDoor_46 rfl ?_
          refine z_iload_n d_M_longestInDoor_47 rfl ?_
          refine z_ic2 d_M_longestInDoor_48 ?_
          refine z_cVI (as := [qI x3, qI 2]) (st := [qI q7.1]) (nl := 0) (ci := 10) d_M_longestInDoor_49 lk_M_142 mk_M_of rfl rfl rfl rfl rfl rfl (s_M_of _ _ _) (fun q8 _ hq8 => ?_)
          refine z_isub d_M_longestInDoor_52 ?_
          refine z_istore (pls' := [some (qR 88), some (qI x1), some (qI x2), some (qI x3), some (qI (w32 (q7.1 - q8.1)))]) d_M_longestInDoor_53 (by decide) rfl rfl ?_
          refine z_iload d_M_longestInDoor_55 rfl ?_
          refine z_iload_n d_M_longestInDoor_57 rfl ?_
          refine z_icmp_le (tgt := 66) d_M_longestInDoor_58 rfl (fun c9 => ?_) (fun c9 => ?_)
          · refine z_iload_n d_M_longestInDoor_66 rfl ?_
            refine z_mask [true, true, false, true, false] ?_
            exact s_M_longestInDoor_67 ih _ _ _ _
          · refine z_iload d_M_longestInDoor_61 rfl ?_
            refine z_goto (tgt := 67) d_M_longestInDoor_63 rfl ?_
            refine z_mask [true, true, false, true, false] ?_
            exact s_M_longestInDoor_67 ih _ _ _ _
      · refine z_iinc (pls' := [some (qR 88), some (qI x1), some (qI x2), some (qI (w32 (x3 + 1))), none]) d_M_longestInDoor_68 (by decide) rfl rfl rfl ?_
        refine z_goto (tgt := 4) d_M_longestInDoor_71 rfl ?_
        refine z_mask [true, true, true, true, false] ?_
        exact ih _ _ _ _
    · refine z_iload_n d_M_longestInDoor_74 rfl ?_
      exact z_iret d_M_longestInDoor_75 rfl rfl
def f_M_longestInDoor (x1 : Int) (w : qMem) : Option (Int × qMem) :=
  f_M_longestInDoor_4 qFU x1 0 0 w
set_option maxRecDepth 4000 in
theorem s_M_longestInDoor (x1 : Int) (w : qMem) : qSim κI 100 100 m_M_longestInDoor 0 [] [some (qR 88), some (qI x1), none, none, none] w (f_M_longestInDoor x1 w) := by
  unfold f_M_longestInDoor
  refine z_ic0 d_M_longestInDoor_0 ?_
  refine z_istore_n (pls' := [some (qR 88), some (qI x1), some (qI 0), none, none]) d_M_longestInDoor_1 (by decide) rfl rfl ?_
  refine z_ic0 d_M_longestInDoor_2 ?_
  refine z_istore_n (pls' := [some (qR 88), some (qI x1), some (qI 0), some (qI 0), none]) d_M_longestInDoor_3 (by decide) rfl rfl ?_
  refine z_mask [true, true, true, true, false] ?_
  exact s_M_longestInDoor_4 _ _ _ _ _
/-! BubbleTorusModel.packetsBy -/
theorem d_M_packetsBy_0 : decode m_M_packetsBy.2.1 0 = .ok (.iconst 0, 1) := by decide +kernel
theorem d_M_packetsBy_1 : decode m_M_packetsBy.2.1 1 = .ok (.istore_n 3, 1) := by decide +kernel
theorem d_M_packetsBy_2 : decode m_M_packetsBy.2.1 2 = .ok (.iconst 0, 1) := by decide +kernel
theorem d_M_packetsBy_3 : decode m_M_packetsBy.2.1 3 = .ok (.istore 4, 2) := by decide +kernel
theorem d_M_packetsBy_5 : decode m_M_packetsBy.2.1 5 = .ok (.iload 4, 2) := by decide +kernel
theorem d_M_packetsBy_7 : decode m_M_packetsBy.2.1 7 = .ok (.aload_n 0, 1) := by decide +kernel
theorem d_M_packetsBy_8 : decode m_M_packetsBy.2.1 8 = .ok (.getfield 7, 3) := by decide +kernel
theorem d_M_packetsBy_11 : decode m_M_packetsBy.2.1 11 = .ok (.bipush 7, 2) := by decide +kernel
theorem d_M_packetsBy_13 : decode m_M_packetsBy.2.1 13 = .ok (.iaload, 1) := by decide +kernel
theorem d_M_packetsBy_14 : decode m_M_packetsBy.2.1 14 = .ok (.if_icmp .ge 63, 3) := by decide +kernel
theorem d_M_packetsBy_17 : decode m_M_packetsBy.2.1 17 = .ok (.iload_n 3, 1) := by decide +kernel
theorem d_M_packetsBy_18 : decode m_M_packetsBy.2.1 18 = .ok (.iload_n 2, 1) := by decide +kernel
theorem d_M_packetsBy_19 : decode m_M_packetsBy.2.1 19 = .ok (.ifCond .eq 34, 3) := by decide +kernel
theorem d_M_packetsBy_22 : decode m_M_packetsBy.2.1 22 = .ok (.aload_n 0, 1) := by decide +kernel
theorem d_M_packetsBy_23 : decode m_M_packetsBy.2.1 23 = .ok (.iload 4, 2) := by decide +kernel
theorem d_M_packetsBy_25 : decode m_M_packetsBy.2.1 25 = .ok (.iconst 1, 1) := by decide +kernel
theorem d_M_packetsBy_26 : decode m_M_packetsBy.2.1 26 = .ok (.invokevirtual 142, 3) := by decide +kernel
theorem d_M_packetsBy_29 : decode m_M_packetsBy.2.1 29 = .ok (.iload_n 1, 1) := by decide +kernel
theorem d_M_packetsBy_30 : decode m_M_packetsBy.2.1 30 = .ok (.if_icmp .ne 19, 3) := by decide +kernel
theorem d_M_packetsBy_33 : decode m_M_packetsBy.2.1 33 = .ok (.aload_n 0, 1) := by decide +kernel
theorem d_M_packetsBy_34 : decode m_M_packetsBy.2.1 34 = .ok (.iload 4, 2) := by decide +kernel
theorem d_M_packetsBy_36 : decode m_M_packetsBy.2.1 36 = .ok (.bipush 7, 2) := by decide +kernel
theorem d_M_packetsBy_38 : decode m_M_packetsBy.2.1 38 = .ok (.invokevirtual 142, 3) := by decide +kernel
theorem d_M_packetsBy_41 : decode m_M_packetsBy.2.1 41 = .ok (.iconst (-1), 1) := by decide +kernel
theorem d_M_packetsBy_42 : decode m_M_packetsBy.2.1 42 = .ok (.if_icmp .eq 7, 3) := by decide +kernel
theorem d_M_packetsBy_45 : decode m_M_packetsBy.2.1 45 = .ok (.iconst 1, 1) := by decide +kernel
theorem d_M_packetsBy_46 : decode m_M_packetsBy.2.1 46 = .ok (.goto 23, 3) := by decide +kernel
theorem d_M_packetsBy_49 : decode m_M_packetsBy.2.1 49 = .ok (.iconst 0, 1) := by decide +kernel
theorem d_M_packetsBy_50 : decode m_M_packetsBy.2.1 50 = .ok (.goto 19, 3) := by decide +kernel
theorem d_M_packetsBy_53 : decode m_M_packetsBy.2.1 53 = .ok (.aload_n 0, 1) := by decide +kernel
theorem d_M_packetsBy_54 : decode m_M_packetsBy.2.1 54 = .ok (.iload 4, 2) := by decide +kernel
theorem d_M_packetsBy_56 : decode m_M_packetsBy.2.1 56 = .ok (.iconst 0, 1) := by decide +kernel
theorem d_M_packetsBy_57 : decode m_M_packetsBy.2.1 57 = .ok (.invokevirtual 142, 3) := by decide +kernel
theorem d_M_packetsBy_60 : decode m_M_packetsBy.2.1 60 = .ok (.iload_n 1, 1) := by decide +kernel
theorem d_M_packetsBy_61 : decode m_M_packetsBy.2.1 61 = .ok (.if_icmp .ne 7, 3) := by decide +kernel
theorem d_M_packetsBy_64 : decode m_M_packetsBy.2.1 64 = .ok (.iconst 1, 1) := by decide +kernel
theorem d_M_packetsBy_65 : decode m_M_packetsBy.2.1 65 = .ok (.goto 4, 3) := by decide +kernel
theorem d_M_packetsBy_68 : decode m_M_packetsBy.2.1 68 = .ok (.iconst 0, 1) := by decide +kernel
theorem d_M_packetsBy_69 : decode m_M_packetsBy.2.1 69 = .ok (.iadd, 1) := by decide +kernel
theorem d_M_packetsBy_70 : decode m_M_packetsBy.2.1 70 = .ok (.istore_n 3, 1) := by decide +kernel
theorem d_M_packetsBy_71 : decode m_M_packetsBy.2.1 71 = .ok (.iinc 4 1, 3) := by decide +kernel
theorem d_M_packetsBy_74 : decode m_M_packetsBy.2.1 74 = .ok (.goto (-69), 3) := by decide +kernel
theorem d_M_packetsBy_77 : decode m_M_packetsBy.2.1 77 = .ok (.iload_n 3, 1) := by decide +kernel
theorem d_M_packetsBy_78 : decode m_M_packetsBy.2.1 78 = .ok (.ireturn, 1) := by decide +kernel
def f_M_packetsBy_69 (r5 : Int → Int → Int → Int → qMem → Option (Int × qMem)) (s0 s1 x1 x2 x4 : Int) (w : qMem) : Option (Int × qMem) :=
  r5 x1 x2 (w32 (s0 + s1)) (w32 (x4 + 1)) w
set_option maxRecDepth 4000 in
theorem s_M_packetsBy_69  {r5 : Int → Int → Int → Int → qMem → Option (Int × qMem)} (hr5 : ∀ x1 x2 x3 x4 w, qSim κI 100 100 m_M_packetsBy 5 [] [some (qR 88), some (qI x1), some (qI x2), some (qI x3), some (qI x4)] w (r5 x1 x2 x3 x4 w)) : ∀ (s0 s1 x1 x2 x4 : Int) (w : qMem), (s1 = 0 ∨ s1 = 1) → qSim κI 100 100 m_M_packetsBy 69 [qI s1, qI s0] [some (qR 88), some (qI x1), some (qI x2), none, some (qI x4)] w (f_M_packetsBy_69 r5 s0 s1 x1 x2 x4 w) := by
  intro s0 s1 x1 x2 x4 w hs1
  unfold f_M_packetsBy_69
  refine z_iadd d_M_packetsBy_69 ?_
  refine z_istore_n (pls' := [some (qR 88), some (qI x1), some (qI x2), some (qI (w32 (s0 + s1))), some (qI x4)]) d_M_packetsBy_70 (by decide) rfl rfl ?_
  refine z_iinc (pls' := [some (qR 88), some (qI x1), some (qI x2), some (qI (w32 (s0 + s1))), some (qI (w32 (x4 + 1)))]) d_M_packetsBy_71 (by decide) rfl rfl rfl ?_
  refine z_goto (tgt := 5) d_M_packetsBy_74 rfl ?_
  refine z_mask [true, true, true, true, true] ?_
  exact hr5 _ _ _ _ _
def f_M_packetsBy_5 : Nat → Int → Int → Int → Int → qMem → Option (Int × qMem)
  | 0, _, _, _, _, _ => none
  | n + 1, x1, x2, x3, x4, w =>
    qld w 89 5898 7 fun v1 =>
    if x4 < v1 then
    if x2 = 0 then
    (f_M_of x4 0 w).bind fun q4 =>
    if q4.1 = x1 then
    f_M_packetsBy_69 (f_M_packetsBy_5 n) x3 1 x1 x2 x4 q4.2
    else
    f_M_packetsBy_69 (f_M_packetsBy_5 n) x3 0 x1 x2 x4 q4.2
    else
    (f_M_of x4 1 w).bind fun q6 =>
    if q6.1 = x1 then
    (f_M_of x4 7 q6.2).bind fun q8 =>
    if q8.1 = (-1) then
    f_M_packetsBy_69 (f_M_packetsBy_5 n) x3 0 x1 x2 x4 q8.2
    else
    f_M_packetsBy_69 (f_M_packetsBy_5 n) x3 1 x1 x2 x4 q8.2
    else
    f_M_packetsBy_69 (f_M_packetsBy_5 n) x3 0 x1 x2 x4 q6.2
    else
    some (x3, w)
set_option maxRecDepth 4000 in
theorem s_M_packetsBy_5  : ∀ (n : Nat), ∀ (x1 x2 x3 x4 : Int) (w : qMem), qSim κI 100 100 m_M_packetsBy 5 [] [some (qR 88), some (qI x1), some (qI x2), some (qI x3), some (qI x4)] w (f_M_packetsBy_5 n x1 x2 x3 x4 w) := by
  intro n
  induction n with
  | zero => intro x1 x2 x3 x4 w; exact z_none
  | succ n ih =>
    intro x1 x2 x3 x4 w
    rw [f_M_packetsBy_5]
    refine z_iload d_M_packetsBy_5 rfl ?_
    refine z_aload_n d_M_packetsBy_7 rfl ?_
    refine z_gr (ci := 10) (j := 0) (d := 1) (o2 := 89) d_M_packetsBy_8 rfl fl_M_7 rfl (Nat.le_of_ble_eq_true rfl) rfl rfl ?_
    refine z_bipush d_M_packetsBy_11 ⟨by decide, by decide⟩ ?_
    refine z_il d_M_packetsBy_13 rfl rfl (fun v1 => ?_)
    refine z_icmp_ge (tgt := 77) d_M_packetsBy_14 rfl (fun c2 => ?_) (fun c2 => ?_)
    · refine z_iload_n d_M_packetsBy_17 rfl ?_
      refine z_iload_n d_M_packetsBy_18 rfl ?_
      refine z_if_eq (tgt := 53) d_M_packetsBy_19 rfl (fun c3 => ?_) (fun c3 => ?_)
      · refine z_aload_n d_M_packetsBy_53 rfl ?_
        refine z_iload d_M_packetsBy_54 rfl ?_
        refine z_ic0 d_M_packetsBy_56 ?_
        refine z_cVI (as := [qI x4, qI 0]) (st := [qI x3]) (nl := 0) (ci := 10) d_M_packetsBy_57 lk_M_142 mk_M_of rfl rfl rfl rfl rfl rfl (s_M_of _ _ _) (fun q4 _ hq4 => ?_)
        refine z_iload_n d_M_packetsBy_60 rfl ?_
        refine z_icmp_ne (tgt := 68) d_M_packetsBy_61 rfl (fun c5 => ?_) (fun c5 => ?_)
        · refine z_ic1 d_M_packetsBy_64 ?_
          refine z_goto (tgt := 69) d_M_packetsBy_65 rfl ?_
          refine z_mask [true, true, true, false, true] ?_
          exact s_M_packetsBy_69 ih _ _ _ _ _ _ (Or.inr rfl)
        · refine z_ic0 d_M_packetsBy_68 ?_
          refine z_mask [true, true, true, false, true] ?_
          exact s_M_packetsBy_69 ih _ _ _ _ _ _ (Or.inl rfl)
      · refine z_aload_n d_M_packetsBy_22 rfl ?_
        refine z_iload d_M_packetsBy_23 rfl ?_
        refine z_ic1 d_M_packetsBy_25 ?_
        refine z_cVI (as := [qI x4, qI 1]) (st := [qI x3]) (nl := 0) (ci := 10) d_M_packetsBy_26 lk_M_142 mk_M_of rfl rfl rfl rfl rfl rfl (s_M_of _ _ _) (fun q6 _ hq6 => ?_)
        refine z_iload_n d_M_packetsBy_29 rfl ?_
        refine z_icmp_ne (tgt := 49) d_M_packetsBy_30 rfl (fun c7 => ?_) (fun c7 => ?_)
        · refine z_aload_n d_M_packetsBy_33 rfl ?_
          refine z_iload d_M_packetsBy_34 rfl ?_
          refine z_bipush d_M_packetsBy_36 ⟨by decide, by decide⟩ ?_
          refine z_cVI (as := [qI x4, qI 7]) (st := [qI x3]) (nl := 0) (ci := 10) d_M_packetsBy_38 lk_M_142 mk_M_of rfl rfl rfl rfl rfl rfl (s_M_of _ _ _) (fun q8 _ hq8 => ?_)
          refine z_icm1 d_M_packetsBy_41 ?_
          refine z_icmp_eq (tgt := 49) d_M_packetsBy_42 rfl (fun c9 => ?_) (fun c9 => ?_)
          · refine z_ic0 d_M_packetsBy_49 ?_
            refine z_goto (tgt := 69) d_M_packetsBy_50 rfl ?_
            refine z_mask [true, true, true, false, true] ?_
            exact s_M_packetsBy_69 ih _ _ _ _ _ _ (Or.inl rfl)
          · refine z_ic1 d_M_packetsBy_45 ?_
            refine z_goto (tgt := 69) d_M_packetsBy_46 rfl ?_
            refine z_mask [true, true, true, false, true] ?_
            exact s_M_packetsBy_69 ih _ _ _ _ _ _ (Or.inr rfl)
        · refine z_ic0 d_M_packetsBy_49 ?_
          refine z_goto (tgt := 69) d_M_packetsBy_50 rfl ?_
          refine z_mask [true, true, true, false, true] ?_
          exact s_M_packetsBy_69 ih _ _ _ _ _ _ (Or.inl rfl)
    · refine z_iload_n d_M_packetsBy_77 rfl ?_
      exact z_iret d_M_packetsBy_78 rfl rfl
def f_M_packetsBy (x1 : Int) (x2 : Int) (w : qMem) : Option (Int × qMem) :=
  f_M_packetsBy_5 qFU x1 x2 0 0 w
set_option maxRecDepth 4000 in
theorem s_M_packetsBy (x1 : Int) (x2 : Int) (w : qMem) : qSim κI 100 100 m_M_packetsBy 0 [] [some (qR 88), some (qI x1), some (qI x2), none, none] w (f_M_packetsBy x1 x2 w) := by
  unfold f_M_packetsBy
  refine z_ic0 d_M_packetsBy_0 ?_
  refine z_istore_n (pls' := [some (qR 88), some (qI x1), some (qI x2), some (qI 0), none]) d_M_packetsBy_1 (by decide) rfl rfl ?_
  refine z_ic0 d_M_packetsBy_2 ?_
  refine z_istore (pls' := [some (qR 88), some (qI x1), some (qI x2), some (qI 0), some (qI 0)]) d_M_packetsBy_3 (by decide) rfl rfl ?_
  refine z_mask [true, true, true, true, true] ?_
  exact s_M_packetsBy_5 _ _ _ _ _ _
/-! BubbleTorusModel.node -/
theorem d_M_node_0 : decode m_M_node.2.1 0 = .ok (.aload_n 0, 1) := by decide +kernel
theorem d_M_node_1 : decode m_M_node.2.1 1 = .ok (.iload_n 1, 1) := by decide +kernel
theorem d_M_node_2 : decode m_M_node.2.1 2 = .ok (.invokevirtual 92, 3) := by decide +kernel
theorem d_M_node_5 : decode m_M_node.2.1 5 = .ok (.ifCond .ne 5, 3) := by decide +kernel
theorem d_M_node_8 : decode m_M_node.2.1 8 = .ok (.iconst (-1), 1) := by decide +kernel
theorem d_M_node_9 : decode m_M_node.2.1 9 = .ok (.ireturn, 1) := by decide +kernel
theorem d_M_node_10 : decode m_M_node.2.1 10 = .ok (.iload_n 2, 1) := by decide +kernel
theorem d_M_node_11 : decode m_M_node.2.1 11 = .ok (.tableswitch 81 0 5 #[37, 44, 50, 57, 64, 75], 37) := by decide +kernel
theorem d_M_node_48 : decode m_M_node.2.1 48 = .ok (.aload_n 0, 1) := by decide +kernel
theorem d_M_node_49 : decode m_M_node.2.1 49 = .ok (.iload_n 1, 1) := by decide +kernel
theorem d_M_node_50 : decode m_M_node.2.1 50 = .ok (.iconst 0, 1) := by decide +kernel
theorem d_M_node_51 : decode m_M_node.2.1 51 = .ok (.invokevirtual 108, 3) := by decide +kernel
theorem d_M_node_54 : decode m_M_node.2.1 54 = .ok (.ireturn, 1) := by decide +kernel
theorem d_M_node_55 : decode m_M_node.2.1 55 = .ok (.aload_n 0, 1) := by decide +kernel
theorem d_M_node_56 : decode m_M_node.2.1 56 = .ok (.iload_n 1, 1) := by decide +kernel
theorem d_M_node_57 : decode m_M_node.2.1 57 = .ok (.invokevirtual 218, 3) := by decide +kernel
theorem d_M_node_60 : decode m_M_node.2.1 60 = .ok (.ireturn, 1) := by decide +kernel
theorem d_M_node_61 : decode m_M_node.2.1 61 = .ok (.aload_n 0, 1) := by decide +kernel
theorem d_M_node_62 : decode m_M_node.2.1 62 = .ok (.iload_n 1, 1) := by decide +kernel
theorem d_M_node_63 : decode m_M_node.2.1 63 = .ok (.iconst 0, 1) := by decide +kernel
theorem d_M_node_64 : decode m_M_node.2.1 64 = .ok (.invokevirtual 221, 3) := by decide +kernel
theorem d_M_node_67 : decode m_M_node.2.1 67 = .ok (.ireturn, 1) := by decide +kernel
theorem d_M_node_68 : decode m_M_node.2.1 68 = .ok (.aload_n 0, 1) := by decide +kernel
theorem d_M_node_69 : decode m_M_node.2.1 69 = .ok (.iload_n 1, 1) := by decide +kernel
theorem d_M_node_70 : decode m_M_node.2.1 70 = .ok (.iconst 1, 1) := by decide +kernel
theorem d_M_node_71 : decode m_M_node.2.1 71 = .ok (.invokevirtual 221, 3) := by decide +kernel
theorem d_M_node_74 : decode m_M_node.2.1 74 = .ok (.ireturn, 1) := by decide +kernel
theorem d_M_node_75 : decode m_M_node.2.1 75 = .ok (.aload_n 0, 1) := by decide +kernel
theorem d_M_node_76 : decode m_M_node.2.1 76 = .ok (.getfield 7, 3) := by decide +kernel
theorem d_M_node_79 : decode m_M_node.2.1 79 = .ok (.sipush 5434, 3) := by decide +kernel
theorem d_M_node_82 : decode m_M_node.2.1 82 = .ok (.iload_n 1, 1) := by decide +kernel
theorem d_M_node_83 : decode m_M_node.2.1 83 = .ok (.iadd, 1) := by decide +kernel
theorem d_M_node_84 : decode m_M_node.2.1 84 = .ok (.iaload, 1) := by decide +kernel
theorem d_M_node_85 : decode m_M_node.2.1 85 = .ok (.ireturn, 1) := by decide +kernel
theorem d_M_node_86 : decode m_M_node.2.1 86 = .ok (.aload_n 0, 1) := by decide +kernel
theorem d_M_node_87 : decode m_M_node.2.1 87 = .ok (.iload_n 1, 1) := by decide +kernel
theorem d_M_node_88 : decode m_M_node.2.1 88 = .ok (.invokevirtual 225, 3) := by decide +kernel
theorem d_M_node_91 : decode m_M_node.2.1 91 = .ok (.ireturn, 1) := by decide +kernel
theorem d_M_node_92 : decode m_M_node.2.1 92 = .ok (.iconst (-1), 1) := by decide +kernel
theorem d_M_node_93 : decode m_M_node.2.1 93 = .ok (.ireturn, 1) := by decide +kernel
def f_M_node (x1 : Int) (x2 : Int) (w : qMem) : Option (Int × qMem) :=
  (f_M_isNode x1 w).bind fun q1 =>
  if q1.1 = 0 then
  some ((-1), q1.2)
  else
  if x2 = 0 then
  (f_M_many x1 0 q1.2).bind fun q4 =>
  some (q4.1, q4.2)
  else
  if x2 = 1 then
  (f_M_inQueues x1 q1.2).bind fun q6 =>
  some (q6.1, q6.2)
  else
  if x2 = 2 then
  (f_M_packetsBy x1 0 q1.2).bind fun q8 =>
  some (q8.1, q8.2)
  else
  if x2 = 3 then
  (f_M_packetsBy x1 1 q1.2).bind fun q10 =>
  some (q10.1, q10.2)
  else
  if x2 = 4 then
  qld q1.2 89 5898 (w32 (5434 + x1)) fun v12 =>
  some (v12, q1.2)
  else
  if x2 = 5 then
  (f_M_longestInDoor x1 q1.2).bind fun q14 =>
  some (q14.1, q14.2)
  else
  some ((-1), q1.2)
set_option maxRecDepth 4000 in
theorem s_M_node (x1 : Int) (x2 : Int) (w : qMem) : qSim κI 100 100 m_M_node 0 [] [some (qR 88), some (qI x1), some (qI x2)] w (f_M_node x1 x2 w) := by
  unfold f_M_node
  refine z_aload_n d_M_node_0 rfl ?_
  refine z_iload_n d_M_node_1 rfl ?_
  refine z_cVI (as := [qI x1]) (st := []) (nl := 0) (ci := 10) d_M_node_2 lk_M_92 mk_M_isNode rfl rfl rfl rfl rfl rfl (s_M_isNode _ _) (fun q1 _ hq1 => ?_)
  refine z_if_ne (tgt := 10) d_M_node_5 rfl (fun c2 => ?_) (fun c2 => ?_)
  · refine z_icm1 d_M_node_8 ?_
    exact z_iret d_M_node_9 rfl rfl
  · refine z_iload_n d_M_node_10 rfl ?_
    refine z_if (fun c3 => ?_) (fun c3 => ?_)
    · refine z_tabIn (tgt := 48) (v := 0) d_M_node_11 c3 (by decide) (by decide) rfl rfl ?_
      refine z_aload_n d_M_node_48 rfl ?_
      refine z_iload_n d_M_node_49 rfl ?_
      refine z_ic0 d_M_node_50 ?_
      refine z_cVI (as := [qI x1, qI 0]) (st := []) (nl := 0) (ci := 10) d_M_node_51 lk_M_108 mk_M_many rfl rfl rfl rfl rfl rfl (s_M_many _ _ _) (fun q4 _ hq4 => ?_)
      exact z_iret d_M_node_54 rfl rfl
    · refine z_if (fun c5 => ?_) (fun c5 => ?_)
      · refine z_tabIn (tgt := 55) (v := 1) d_M_node_11 c5 (by decide) (by decide) rfl rfl ?_
        refine z_aload_n d_M_node_55 rfl ?_
        refine z_iload_n d_M_node_56 rfl ?_
        refine z_cVI (as := [qI x1]) (st := []) (nl := 2) (ci := 10) d_M_node_57 lk_M_218 mk_M_inQueues rfl rfl rfl rfl rfl rfl (s_M_inQueues _ _) (fun q6 _ hq6 => ?_)
        exact z_iret d_M_node_60 rfl rfl
      · refine z_if (fun c7 => ?_) (fun c7 => ?_)
        · refine z_tabIn (tgt := 61) (v := 2) d_M_node_11 c7 (by decide) (by decide) rfl rfl ?_
          refine z_aload_n d_M_node_61 rfl ?_
          refine z_iload_n d_M_node_62 rfl ?_
          refine z_ic0 d_M_node_63 ?_
          refine z_cVI (as := [qI x1, qI 0]) (st := []) (nl := 2) (ci := 10) d_M_node_64 lk_M_221 mk_M_packetsBy rfl rfl rfl rfl rfl rfl (s_M_packetsBy _ _ _) (fun q8 _ hq8 => ?_)
          exact z_iret d_M_node_67 rfl rfl
        · refine z_if (fun c9 => ?_) (fun c9 => ?_)
          · refine z_tabIn (tgt := 68) (v := 3) d_M_node_11 c9 (by decide) (by decide) rfl rfl ?_
            refine z_aload_n d_M_node_68 rfl ?_
            refine z_iload_n d_M_node_69 rfl ?_
            refine z_ic1 d_M_node_70 ?_
            refine z_cVI (as := [qI x1, qI 1]) (st := []) (nl := 2) (ci := 10) d_M_node_71 lk_M_221 mk_M_packetsBy rfl rfl rfl rfl rfl rfl (s_M_packetsBy _ _ _) (fun q10 _ hq10 => ?_)
            exact z_iret d_M_node_74 rfl rfl
          · refine z_if (fun c11 => ?_) (fun c11 => ?_)
            · refine z_tabIn (tgt := 75) (v := 4) d_M_node_11 c11 (by decide) (by decide) rfl rfl ?_
              refine z_aload_n d_M_node_75 rfl ?_
              refine z_gr (ci := 10) (j := 0) (d := 1) (o2 := 89) d_M_node_76 rfl fl_M_7 rfl (Nat.le_of_ble_eq_true rfl) rfl rfl ?_
              refine z_sipush d_M_node_79 ⟨by decide, by decide⟩ ?_
              refine z_iload_n d_M_node_82 rfl ?_
              refine z_iadd d_M_node_83 ?_
              refine z_il d_M_node_84 rfl rfl (fun v12 => ?_)
              exact z_iret d_M_node_85 rfl rfl
            · refine z_if (fun c13 => ?_) (fun c13 => ?_)
              · refine z_tabIn (tgt := 86) (v := 5) d_M_node_11 c13 (by decide) (by decide) rfl rfl ?_
                refine z_aload_n d_M_node_86 rfl ?_
                refine z_iload_n d_M_node_87 rfl ?_
                refine z_cVI (as := [qI x1]) (st := []) (nl := 3) (ci := 10) d_M_node_88 lk_M_225 mk_M_longestInDoor rfl rfl rfl rfl rfl rfl (s_M_longestInDoor _ _) (fun q14 _ hq14 => ?_)
                exact z_iret d_M_node_91 rfl rfl
              · refine z_tabOut (tgt := 92) d_M_node_11 (by omega) rfl ?_
                refine z_icm1 d_M_node_92 ?_
                exact z_iret d_M_node_93 rfl rfl
/-! BubbleTorusModel.move -/
theorem d_M_move_0 : decode m_M_move.2.1 0 = .ok (.iload_n 1, 1) := by decide +kernel
theorem d_M_move_1 : decode m_M_move.2.1 1 = .ok (.iconst (-1), 1) := by decide +kernel
theorem d_M_move_2 : decode m_M_move.2.1 2 = .ok (.if_icmp .ne 11, 3) := by decide +kernel
theorem d_M_move_5 : decode m_M_move.2.1 5 = .ok (.aload_n 0, 1) := by decide +kernel
theorem d_M_move_6 : decode m_M_move.2.1 6 = .ok (.getfield 7, 3) := by decide +kernel
theorem d_M_move_9 : decode m_M_move.2.1 9 = .ok (.bipush 15, 2) := by decide +kernel
theorem d_M_move_11 : decode m_M_move.2.1 11 = .ok (.iaload, 1) := by decide +kernel
theorem d_M_move_12 : decode m_M_move.2.1 12 = .ok (.ireturn, 1) := by decide +kernel
theorem d_M_move_13 : decode m_M_move.2.1 13 = .ok (.iload_n 1, 1) := by decide +kernel
theorem d_M_move_14 : decode m_M_move.2.1 14 = .ok (.iconst 0, 1) := by decide +kernel
theorem d_M_move_15 : decode m_M_move.2.1 15 = .ok (.aload_n 0, 1) := by decide +kernel
theorem d_M_move_16 : decode m_M_move.2.1 16 = .ok (.getfield 7, 3) := by decide +kernel
theorem d_M_move_19 : decode m_M_move.2.1 19 = .ok (.bipush 15, 2) := by decide +kernel
theorem d_M_move_21 : decode m_M_move.2.1 21 = .ok (.iaload, 1) := by decide +kernel
theorem d_M_move_22 : decode m_M_move.2.1 22 = .ok (.iconst 1, 1) := by decide +kernel
theorem d_M_move_23 : decode m_M_move.2.1 23 = .ok (.isub, 1) := by decide +kernel
theorem d_M_move_24 : decode m_M_move.2.1 24 = .ok (.invokestatic 68, 3) := by decide +kernel
theorem d_M_move_27 : decode m_M_move.2.1 27 = .ok (.ifCond .eq 29, 3) := by decide +kernel
theorem d_M_move_30 : decode m_M_move.2.1 30 = .ok (.iload_n 2, 1) := by decide +kernel
theorem d_M_move_31 : decode m_M_move.2.1 31 = .ok (.iconst 0, 1) := by decide +kernel
theorem d_M_move_32 : decode m_M_move.2.1 32 = .ok (.iconst 4, 1) := by decide +kernel
theorem d_M_move_33 : decode m_M_move.2.1 33 = .ok (.invokestatic 68, 3) := by decide +kernel
theorem d_M_move_36 : decode m_M_move.2.1 36 = .ok (.ifCond .eq 20, 3) := by decide +kernel
theorem d_M_move_39 : decode m_M_move.2.1 39 = .ok (.aload_n 0, 1) := by decide +kernel
theorem d_M_move_40 : decode m_M_move.2.1 40 = .ok (.getfield 7, 3) := by decide +kernel
theorem d_M_move_43 : decode m_M_move.2.1 43 = .ok (.sipush 5514, 3) := by decide +kernel
theorem d_M_move_46 : decode m_M_move.2.1 46 = .ok (.iconst 5, 1) := by decide +kernel
theorem d_M_move_47 : decode m_M_move.2.1 47 = .ok (.iload_n 1, 1) := by decide +kernel
theorem d_M_move_48 : decode m_M_move.2.1 48 = .ok (.imul, 1) := by decide +kernel
theorem d_M_move_49 : decode m_M_move.2.1 49 = .ok (.iadd, 1) := by decide +kernel
theorem d_M_move_50 : decode m_M_move.2.1 50 = .ok (.iload_n 2, 1) := by decide +kernel
theorem d_M_move_51 : decode m_M_move.2.1 51 = .ok (.iadd, 1) := by decide +kernel
theorem d_M_move_52 : decode m_M_move.2.1 52 = .ok (.iaload, 1) := by decide +kernel
theorem d_M_move_53 : decode m_M_move.2.1 53 = .ok (.goto 4, 3) := by decide +kernel
theorem d_M_move_56 : decode m_M_move.2.1 56 = .ok (.iconst (-1), 1) := by decide +kernel
theorem d_M_move_57 : decode m_M_move.2.1 57 = .ok (.ireturn, 1) := by decide +kernel
def f_M_move (x1 : Int) (x2 : Int) (w : qMem) : Option (Int × qMem) :=
  if x1 = (-1) then
  qld w 89 5898 15 fun v2 =>
  some (v2, w)
  else
  qld w 89 5898 15 fun v3 =>
  (f_M_isIn x1 0 (w32 (v3 - 1)) w).bind fun q4 =>
  if q4.1 = 0 then
  some ((-1), q4.2)
  else
  (f_M_isIn x2 0 4 q4.2).bind fun q6 =>
  if q6.1 = 0 then
  some ((-1), q6.2)
  else
  qld q6.2 89 5898 (w32 ((w32 (5514 + (w32 (5 * x1)))) + x2)) fun v8 =>
  some (v8, q6.2)
set_option maxRecDepth 4000 in
theorem s_M_move (x1 : Int) (x2 : Int) (w : qMem) : qSim κI 100 100 m_M_move 0 [] [some (qR 88), some (qI x1), some (qI x2)] w (f_M_move x1 x2 w) := by
  unfold f_M_move
  refine z_iload_n d_M_move_0 rfl ?_
  refine z_icm1 d_M_move_1 ?_
  refine z_icmp_ne (tgt := 13) d_M_move_2 rfl (fun c1 => ?_) (fun c1 => ?_)
  · refine z_aload_n d_M_move_5 rfl ?_
    refine z_gr (ci := 10) (j := 0) (d := 1) (o2 := 89) d_M_move_6 rfl fl_M_7 rfl (Nat.le_of_ble_eq_true rfl) rfl rfl ?_
    refine z_bipush d_M_move_9 ⟨by decide, by decide⟩ ?_
    refine z_il d_M_move_11 rfl rfl (fun v2 => ?_)
    exact z_iret d_M_move_12 rfl rfl
  · refine z_iload_n d_M_move_13 rfl ?_
    refine z_ic0 d_M_move_14 ?_
    refine z_aload_n d_M_move_15 rfl ?_
    refine z_gr (ci := 10) (j := 0) (d := 1) (o2 := 89) d_M_move_16 rfl fl_M_7 rfl (Nat.le_of_ble_eq_true rfl) rfl rfl ?_
    refine z_bipush d_M_move_19 ⟨by decide, by decide⟩ ?_
    refine z_il d_M_move_21 rfl rfl (fun v3 => ?_)
    refine z_ic1 d_M_move_22 ?_
    refine z_isub d_M_move_23 ?_
    refine z_cSI (av := [qI x1, qI 0, qI (w32 (v3 - 1))]) (st := []) (nl := 0) d_M_move_24 lk_M_68 mk_M_isIn rfl rfl rfl (s_M_isIn _ _ _ _) (fun q4 _ hq4 => ?_)
    refine z_if_eq (tgt := 56) d_M_move_27 rfl (fun c5 => ?_) (fun c5 => ?_)
    · refine z_icm1 d_M_move_56 ?_
      exact z_iret d_M_move_57 rfl rfl
    · refine z_iload_n d_M_move_30 rfl ?_
      refine z_ic0 d_M_move_31 ?_
      refine z_ic4 d_M_move_32 ?_
      refine z_cSI (av := [qI x2, qI 0, qI 4]) (st := []) (nl := 0) d_M_move_33 lk_M_68 mk_M_isIn rfl rfl rfl (s_M_isIn _ _ _ _) (fun q6 _ hq6 => ?_)
      refine z_if_eq (tgt := 56) d_M_move_36 rfl (fun c7 => ?_) (fun c7 => ?_)
      · refine z_icm1 d_M_move_56 ?_
        exact z_iret d_M_move_57 rfl rfl
      · refine z_aload_n d_M_move_39 rfl ?_
        refine z_gr (ci := 10) (j := 0) (d := 1) (o2 := 89) d_M_move_40 rfl fl_M_7 rfl (Nat.le_of_ble_eq_true rfl) rfl rfl ?_
        refine z_sipush d_M_move_43 ⟨by decide, by decide⟩ ?_
        refine z_ic5 d_M_move_46 ?_
        refine z_iload_n d_M_move_47 rfl ?_
        refine z_imul d_M_move_48 ?_
        refine z_iadd d_M_move_49 ?_
        refine z_iload_n d_M_move_50 rfl ?_
        refine z_iadd d_M_move_51 ?_
        refine z_il d_M_move_52 rfl rfl (fun v8 => ?_)
        refine z_goto (tgt := 57) d_M_move_53 rfl ?_
        exact z_iret d_M_move_57 rfl rfl
/-! BubbleTorusModel.link -/
theorem d_M_link_0 : decode m_M_link.2.1 0 = .ok (.aload_n 0, 1) := by decide +kernel
theorem d_M_link_1 : decode m_M_link.2.1 1 = .ok (.iload_n 1, 1) := by decide +kernel
theorem d_M_link_2 : decode m_M_link.2.1 2 = .ok (.invokevirtual 92, 3) := by decide +kernel
theorem d_M_link_5 : decode m_M_link.2.1 5 = .ok (.ifCond .eq 27, 3) := by decide +kernel
theorem d_M_link_8 : decode m_M_link.2.1 8 = .ok (.iload_n 2, 1) := by decide +kernel
theorem d_M_link_9 : decode m_M_link.2.1 9 = .ok (.invokestatic 96, 3) := by decide +kernel
theorem d_M_link_12 : decode m_M_link.2.1 12 = .ok (.ifCond .eq 20, 3) := by decide +kernel
theorem d_M_link_15 : decode m_M_link.2.1 15 = .ok (.aload_n 0, 1) := by decide +kernel
theorem d_M_link_16 : decode m_M_link.2.1 16 = .ok (.getfield 7, 3) := by decide +kernel
theorem d_M_link_19 : decode m_M_link.2.1 19 = .ok (.sipush 5450, 3) := by decide +kernel
theorem d_M_link_22 : decode m_M_link.2.1 22 = .ok (.iconst 4, 1) := by decide +kernel
theorem d_M_link_23 : decode m_M_link.2.1 23 = .ok (.iload_n 1, 1) := by decide +kernel
theorem d_M_link_24 : decode m_M_link.2.1 24 = .ok (.imul, 1) := by decide +kernel
theorem d_M_link_25 : decode m_M_link.2.1 25 = .ok (.iadd, 1) := by decide +kernel
theorem d_M_link_26 : decode m_M_link.2.1 26 = .ok (.iload_n 2, 1) := by decide +kernel
theorem d_M_link_27 : decode m_M_link.2.1 27 = .ok (.iadd, 1) := by decide +kernel
theorem d_M_link_28 : decode m_M_link.2.1 28 = .ok (.iaload, 1) := by decide +kernel
theorem d_M_link_29 : decode m_M_link.2.1 29 = .ok (.goto 4, 3) := by decide +kernel
theorem d_M_link_32 : decode m_M_link.2.1 32 = .ok (.iconst (-1), 1) := by decide +kernel
theorem d_M_link_33 : decode m_M_link.2.1 33 = .ok (.ireturn, 1) := by decide +kernel
def f_M_link (x1 : Int) (x2 : Int) (w : qMem) : Option (Int × qMem) :=
  (f_M_isNode x1 w).bind fun q1 =>
  if q1.1 = 0 then
  some ((-1), q1.2)
  else
  (f_M_isDirection x2 q1.2).bind fun q3 =>
  if q3.1 = 0 then
  some ((-1), q3.2)
  else
  qld q3.2 89 5898 (w32 ((w32 (5450 + (w32 (4 * x1)))) + x2)) fun v5 =>
  some (v5, q3.2)
set_option maxRecDepth 4000 in
theorem s_M_link (x1 : Int) (x2 : Int) (w : qMem) : qSim κI 100 100 m_M_link 0 [] [some (qR 88), some (qI x1), some (qI x2)] w (f_M_link x1 x2 w) := by
  unfold f_M_link
  refine z_aload_n d_M_link_0 rfl ?_
  refine z_iload_n d_M_link_1 rfl ?_
  refine z_cVI (as := [qI x1]) (st := []) (nl := 0) (ci := 10) d_M_link_2 lk_M_92 mk_M_isNode rfl rfl rfl rfl rfl rfl (s_M_isNode _ _) (fun q1 _ hq1 => ?_)
  refine z_if_eq (tgt := 32) d_M_link_5 rfl (fun c2 => ?_) (fun c2 => ?_)
  · refine z_icm1 d_M_link_32 ?_
    exact z_iret d_M_link_33 rfl rfl
  · refine z_iload_n d_M_link_8 rfl ?_
    refine z_cSI (av := [qI x2]) (st := []) (nl := 0) d_M_link_9 lk_M_96 mk_M_isDirection rfl rfl rfl (s_M_isDirection _ _) (fun q3 _ hq3 => ?_)
    refine z_if_eq (tgt := 32) d_M_link_12 rfl (fun c4 => ?_) (fun c4 => ?_)
    · refine z_icm1 d_M_link_32 ?_
      exact z_iret d_M_link_33 rfl rfl
    · refine z_aload_n d_M_link_15 rfl ?_
      refine z_gr (ci := 10) (j := 0) (d := 1) (o2 := 89) d_M_link_16 rfl fl_M_7 rfl (Nat.le_of_ble_eq_true rfl) rfl rfl ?_
      refine z_sipush d_M_link_19 ⟨by decide, by decide⟩ ?_
      refine z_ic4 d_M_link_22 ?_
      refine z_iload_n d_M_link_23 rfl ?_
      refine z_imul d_M_link_24 ?_
      refine z_iadd d_M_link_25 ?_
      refine z_iload_n d_M_link_26 rfl ?_
      refine z_iadd d_M_link_27 ?_
      refine z_il d_M_link_28 rfl rfl (fun v5 => ?_)
      refine z_goto (tgt := 33) d_M_link_29 rfl ?_
      exact z_iret d_M_link_33 rfl rfl
/-! BubbleTorusModel.trace -/
theorem d_M_trace_0 : decode m_M_trace.2.1 0 = .ok (.aload_n 0, 1) := by decide +kernel
theorem d_M_trace_1 : decode m_M_trace.2.1 1 = .ok (.iload_n 1, 1) := by decide +kernel
theorem d_M_trace_2 : decode m_M_trace.2.1 2 = .ok (.invokevirtual 215, 3) := by decide +kernel
theorem d_M_trace_5 : decode m_M_trace.2.1 5 = .ok (.ifCond .eq 30, 3) := by decide +kernel
theorem d_M_trace_8 : decode m_M_trace.2.1 8 = .ok (.iload_n 2, 1) := by decide +kernel
theorem d_M_trace_9 : decode m_M_trace.2.1 9 = .ok (.iconst 0, 1) := by decide +kernel
theorem d_M_trace_10 : decode m_M_trace.2.1 10 = .ok (.aload_n 0, 1) := by decide +kernel
theorem d_M_trace_11 : decode m_M_trace.2.1 11 = .ok (.iload_n 1, 1) := by decide +kernel
theorem d_M_trace_12 : decode m_M_trace.2.1 12 = .ok (.bipush 6, 2) := by decide +kernel
theorem d_M_trace_14 : decode m_M_trace.2.1 14 = .ok (.invokevirtual 142, 3) := by decide +kernel
theorem d_M_trace_17 : decode m_M_trace.2.1 17 = .ok (.invokestatic 68, 3) := by decide +kernel
theorem d_M_trace_20 : decode m_M_trace.2.1 20 = .ok (.ifCond .eq 15, 3) := by decide +kernel
theorem d_M_trace_23 : decode m_M_trace.2.1 23 = .ok (.aload_n 0, 1) := by decide +kernel
theorem d_M_trace_24 : decode m_M_trace.2.1 24 = .ok (.iload_n 1, 1) := by decide +kernel
theorem d_M_trace_25 : decode m_M_trace.2.1 25 = .ok (.bipush 12, 2) := by decide +kernel
theorem d_M_trace_27 : decode m_M_trace.2.1 27 = .ok (.iload_n 2, 1) := by decide +kernel
theorem d_M_trace_28 : decode m_M_trace.2.1 28 = .ok (.iadd, 1) := by decide +kernel
theorem d_M_trace_29 : decode m_M_trace.2.1 29 = .ok (.invokevirtual 142, 3) := by decide +kernel
theorem d_M_trace_32 : decode m_M_trace.2.1 32 = .ok (.goto 4, 3) := by decide +kernel
theorem d_M_trace_35 : decode m_M_trace.2.1 35 = .ok (.iconst (-1), 1) := by decide +kernel
theorem d_M_trace_36 : decode m_M_trace.2.1 36 = .ok (.ireturn, 1) := by decide +kernel
def f_M_trace (x1 : Int) (x2 : Int) (w : qMem) : Option (Int × qMem) :=
  (f_M_isPacket x1 w).bind fun q1 =>
  if q1.1 = 0 then
  some ((-1), q1.2)
  else
  (f_M_of x1 6 q1.2).bind fun q3 =>
  (f_M_isIn x2 0 q3.1 q3.2).bind fun q4 =>
  if q4.1 = 0 then
  some ((-1), q4.2)
  else
  (f_M_of x1 (w32 (12 + x2)) q4.2).bind fun q6 =>
  some (q6.1, q6.2)
set_option maxRecDepth 4000 in
theorem s_M_trace (x1 : Int) (x2 : Int) (w : qMem) : qSim κI 100 100 m_M_trace 0 [] [some (qR 88), some (qI x1), some (qI x2)] w (f_M_trace x1 x2 w) := by
  unfold f_M_trace
  refine z_aload_n d_M_trace_0 rfl ?_
  refine z_iload_n d_M_trace_1 rfl ?_
  refine z_cVI (as := [qI x1]) (st := []) (nl := 0) (ci := 10) d_M_trace_2 lk_M_215 mk_M_isPacket rfl rfl rfl rfl rfl rfl (s_M_isPacket _ _) (fun q1 _ hq1 => ?_)
  refine z_if_eq (tgt := 35) d_M_trace_5 rfl (fun c2 => ?_) (fun c2 => ?_)
  · refine z_icm1 d_M_trace_35 ?_
    exact z_iret d_M_trace_36 rfl rfl
  · refine z_iload_n d_M_trace_8 rfl ?_
    refine z_ic0 d_M_trace_9 ?_
    refine z_aload_n d_M_trace_10 rfl ?_
    refine z_iload_n d_M_trace_11 rfl ?_
    refine z_bipush d_M_trace_12 ⟨by decide, by decide⟩ ?_
    refine z_cVI (as := [qI x1, qI 6]) (st := [qI 0, qI x2]) (nl := 0) (ci := 10) d_M_trace_14 lk_M_142 mk_M_of rfl rfl rfl rfl rfl rfl (s_M_of _ _ _) (fun q3 _ hq3 => ?_)
    refine z_cSI (av := [qI x2, qI 0, qI q3.1]) (st := []) (nl := 0) d_M_trace_17 lk_M_68 mk_M_isIn rfl rfl rfl (s_M_isIn _ _ _ _) (fun q4 _ hq4 => ?_)
    refine z_if_eq (tgt := 35) d_M_trace_20 rfl (fun c5 => ?_) (fun c5 => ?_)
    · refine z_icm1 d_M_trace_35 ?_
      exact z_iret d_M_trace_36 rfl rfl
    · refine z_aload_n d_M_trace_23 rfl ?_
      refine z_iload_n d_M_trace_24 rfl ?_
      refine z_bipush d_M_trace_25 ⟨by decide, by decide⟩ ?_
      refine z_iload_n d_M_trace_27 rfl ?_
      refine z_iadd d_M_trace_28 ?_
      refine z_cVI (as := [qI x1, qI (w32 (12 + x2))]) (st := []) (nl := 0) (ci := 10) d_M_trace_29 lk_M_142 mk_M_of rfl rfl rfl rfl rfl rfl (s_M_of _ _ _) (fun q6 _ hq6 => ?_)
      refine z_goto (tgt := 36) d_M_trace_32 rfl ?_
      exact z_iret d_M_trace_36 rfl rfl
/-! BubbleTorusModel.lateOf -/
theorem d_M_lateOf_0 : decode m_M_lateOf.2.1 0 = .ok (.aload_n 0, 1) := by decide +kernel
theorem d_M_lateOf_1 : decode m_M_lateOf.2.1 1 = .ok (.iload_n 1, 1) := by decide +kernel
theorem d_M_lateOf_2 : decode m_M_lateOf.2.1 2 = .ok (.bipush 7, 2) := by decide +kernel
theorem d_M_lateOf_4 : decode m_M_lateOf.2.1 4 = .ok (.invokevirtual 142, 3) := by decide +kernel
theorem d_M_lateOf_7 : decode m_M_lateOf.2.1 7 = .ok (.iconst (-1), 1) := by decide +kernel
theorem d_M_lateOf_8 : decode m_M_lateOf.2.1 8 = .ok (.if_icmp .ne 7, 3) := by decide +kernel
theorem d_M_lateOf_11 : decode m_M_lateOf.2.1 11 = .ok (.iconst (-1), 1) := by decide +kernel
theorem d_M_lateOf_12 : decode m_M_lateOf.2.1 12 = .ok (.goto 17, 3) := by decide +kernel
theorem d_M_lateOf_15 : decode m_M_lateOf.2.1 15 = .ok (.aload_n 0, 1) := by decide +kernel
theorem d_M_lateOf_16 : decode m_M_lateOf.2.1 16 = .ok (.iload_n 1, 1) := by decide +kernel
theorem d_M_lateOf_17 : decode m_M_lateOf.2.1 17 = .ok (.bipush 7, 2) := by decide +kernel
theorem d_M_lateOf_19 : decode m_M_lateOf.2.1 19 = .ok (.invokevirtual 142, 3) := by decide +kernel
theorem d_M_lateOf_22 : decode m_M_lateOf.2.1 22 = .ok (.aload_n 0, 1) := by decide +kernel
theorem d_M_lateOf_23 : decode m_M_lateOf.2.1 23 = .ok (.iload_n 1, 1) := by decide +kernel
theorem d_M_lateOf_24 : decode m_M_lateOf.2.1 24 = .ok (.iconst 2, 1) := by decide +kernel
theorem d_M_lateOf_25 : decode m_M_lateOf.2.1 25 = .ok (.invokevirtual 142, 3) := by decide +kernel
theorem d_M_lateOf_28 : decode m_M_lateOf.2.1 28 = .ok (.isub, 1) := by decide +kernel
theorem d_M_lateOf_29 : decode m_M_lateOf.2.1 29 = .ok (.ireturn, 1) := by decide +kernel
def f_M_lateOf (x1 : Int) (w : qMem) : Option (Int × qMem) :=
  (f_M_of x1 7 w).bind fun q1 =>
  if q1.1 = (-1) then
  some ((-1), q1.2)
  else
  (f_M_of x1 7 q1.2).bind fun q3 =>
  (f_M_of x1 2 q3.2).bind fun q4 =>
  some ((w32 (q3.1 - q4.1)), q4.2)
set_option maxRecDepth 4000 in
theorem s_M_lateOf (x1 : Int) (w : qMem) : qSim κI 100 100 m_M_lateOf 0 [] [some (qR 88), some (qI x1)] w (f_M_lateOf x1 w) := by
  unfold f_M_lateOf
  refine z_aload_n d_M_lateOf_0 rfl ?_
  refine z_iload_n d_M_lateOf_1 rfl ?_
  refine z_bipush d_M_lateOf_2 ⟨by decide, by decide⟩ ?_
  refine z_cVI (as := [qI x1, qI 7]) (st := []) (nl := 0) (ci := 10) d_M_lateOf_4 lk_M_142 mk_M_of rfl rfl rfl rfl rfl rfl (s_M_of _ _ _) (fun q1 _ hq1 => ?_)
  refine z_icm1 d_M_lateOf_7 ?_
  refine z_icmp_ne (tgt := 15) d_M_lateOf_8 rfl (fun c2 => ?_) (fun c2 => ?_)
  · refine z_icm1 d_M_lateOf_11 ?_
    refine z_goto (tgt := 29) d_M_lateOf_12 rfl ?_
    exact z_iret d_M_lateOf_29 rfl rfl
  · refine z_aload_n d_M_lateOf_15 rfl ?_
    refine z_iload_n d_M_lateOf_16 rfl ?_
    refine z_bipush d_M_lateOf_17 ⟨by decide, by decide⟩ ?_
    refine z_cVI (as := [qI x1, qI 7]) (st := []) (nl := 0) (ci := 10) d_M_lateOf_19 lk_M_142 mk_M_of rfl rfl rfl rfl rfl rfl (s_M_of _ _ _) (fun q3 _ hq3 => ?_)
    refine z_aload_n d_M_lateOf_22 rfl ?_
    refine z_iload_n d_M_lateOf_23 rfl ?_
    refine z_ic2 d_M_lateOf_24 ?_
    refine z_cVI (as := [qI x1, qI 2]) (st := [qI q3.1]) (nl := 0) (ci := 10) d_M_lateOf_25 lk_M_142 mk_M_of rfl rfl rfl rfl rfl rfl (s_M_of _ _ _) (fun q4 _ hq4 => ?_)
    refine z_isub d_M_lateOf_28 ?_
    exact z_iret d_M_lateOf_29 rfl rfl
/-! BubbleTorusModel.pair -/
theorem d_M_pair_0 : decode m_M_pair.2.1 0 = .ok (.aload_n 0, 1) := by decide +kernel
theorem d_M_pair_1 : decode m_M_pair.2.1 1 = .ok (.iload_n 1, 1) := by decide +kernel
theorem d_M_pair_2 : decode m_M_pair.2.1 2 = .ok (.invokevirtual 92, 3) := by decide +kernel
theorem d_M_pair_5 : decode m_M_pair.2.1 5 = .ok (.ifCond .eq 20, 3) := by decide +kernel
theorem d_M_pair_8 : decode m_M_pair.2.1 8 = .ok (.aload_n 0, 1) := by decide +kernel
theorem d_M_pair_9 : decode m_M_pair.2.1 9 = .ok (.iload_n 2, 1) := by decide +kernel
theorem d_M_pair_10 : decode m_M_pair.2.1 10 = .ok (.invokevirtual 92, 3) := by decide +kernel
theorem d_M_pair_13 : decode m_M_pair.2.1 13 = .ok (.ifCond .eq 12, 3) := by decide +kernel
theorem d_M_pair_16 : decode m_M_pair.2.1 16 = .ok (.iload_n 3, 1) := by decide +kernel
theorem d_M_pair_17 : decode m_M_pair.2.1 17 = .ok (.iconst 0, 1) := by decide +kernel
theorem d_M_pair_18 : decode m_M_pair.2.1 18 = .ok (.iconst 3, 1) := by decide +kernel
theorem d_M_pair_19 : decode m_M_pair.2.1 19 = .ok (.invokestatic 68, 3) := by decide +kernel
theorem d_M_pair_22 : decode m_M_pair.2.1 22 = .ok (.ifCond .ne 5, 3) := by decide +kernel
theorem d_M_pair_25 : decode m_M_pair.2.1 25 = .ok (.iconst (-1), 1) := by decide +kernel
theorem d_M_pair_26 : decode m_M_pair.2.1 26 = .ok (.ireturn, 1) := by decide +kernel
theorem d_M_pair_27 : decode m_M_pair.2.1 27 = .ok (.iconst 0, 1) := by decide +kernel
theorem d_M_pair_28 : decode m_M_pair.2.1 28 = .ok (.istore 4, 2) := by decide +kernel
theorem d_M_pair_30 : decode m_M_pair.2.1 30 = .ok (.iconst (-1), 1) := by decide +kernel
theorem d_M_pair_31 : decode m_M_pair.2.1 31 = .ok (.istore 5, 2) := by decide +kernel
theorem d_M_pair_33 : decode m_M_pair.2.1 33 = .ok (.iconst 0, 1) := by decide +kernel
theorem d_M_pair_34 : decode m_M_pair.2.1 34 = .ok (.istore 6, 2) := by decide +kernel
theorem d_M_pair_36 : decode m_M_pair.2.1 36 = .ok (.iload 6, 2) := by decide +kernel
theorem d_M_pair_38 : decode m_M_pair.2.1 38 = .ok (.aload_n 0, 1) := by decide +kernel
theorem d_M_pair_39 : decode m_M_pair.2.1 39 = .ok (.getfield 7, 3) := by decide +kernel
theorem d_M_pair_42 : decode m_M_pair.2.1 42 = .ok (.bipush 7, 2) := by decide +kernel
theorem d_M_pair_44 : decode m_M_pair.2.1 44 = .ok (.iaload, 1) := by decide +kernel
theorem d_M_pair_45 : decode m_M_pair.2.1 45 = .ok (.if_icmp .ge 113, 3) := by decide +kernel
theorem d_M_pair_48 : decode m_M_pair.2.1 48 = .ok (.aload_n 0, 1) := by decide +kernel
theorem d_M_pair_49 : decode m_M_pair.2.1 49 = .ok (.iload 6, 2) := by decide +kernel
theorem d_M_pair_51 : decode m_M_pair.2.1 51 = .ok (.iconst 0, 1) := by decide +kernel
theorem d_M_pair_52 : decode m_M_pair.2.1 52 = .ok (.invokevirtual 142, 3) := by decide +kernel
theorem d_M_pair_55 : decode m_M_pair.2.1 55 = .ok (.iload_n 1, 1) := by decide +kernel
theorem d_M_pair_56 : decode m_M_pair.2.1 56 = .ok (.if_icmp .ne 96, 3) := by decide +kernel
theorem d_M_pair_59 : decode m_M_pair.2.1 59 = .ok (.aload_n 0, 1) := by decide +kernel
theorem d_M_pair_60 : decode m_M_pair.2.1 60 = .ok (.iload 6, 2) := by decide +kernel
theorem d_M_pair_62 : decode m_M_pair.2.1 62 = .ok (.iconst 1, 1) := by decide +kernel
theorem d_M_pair_63 : decode m_M_pair.2.1 63 = .ok (.invokevirtual 142, 3) := by decide +kernel
theorem d_M_pair_66 : decode m_M_pair.2.1 66 = .ok (.iload_n 2, 1) := by decide +kernel
theorem d_M_pair_67 : decode m_M_pair.2.1 67 = .ok (.if_icmp .eq 6, 3) := by decide +kernel
theorem d_M_pair_70 : decode m_M_pair.2.1 70 = .ok (.goto 82, 3) := by decide +kernel
theorem d_M_pair_73 : decode m_M_pair.2.1 73 = .ok (.aload_n 0, 1) := by decide +kernel
theorem d_M_pair_74 : decode m_M_pair.2.1 74 = .ok (.iload 6, 2) := by decide +kernel
theorem d_M_pair_76 : decode m_M_pair.2.1 76 = .ok (.bipush 7, 2) := by decide +kernel
theorem d_M_pair_78 : decode m_M_pair.2.1 78 = .ok (.invokevirtual 142, 3) := by decide +kernel
theorem d_M_pair_81 : decode m_M_pair.2.1 81 = .ok (.iconst (-1), 1) := by decide +kernel
theorem d_M_pair_82 : decode m_M_pair.2.1 82 = .ok (.if_icmp .eq 7, 3) := by decide +kernel
theorem d_M_pair_85 : decode m_M_pair.2.1 85 = .ok (.iconst 1, 1) := by decide +kernel
theorem d_M_pair_86 : decode m_M_pair.2.1 86 = .ok (.goto 4, 3) := by decide +kernel
theorem d_M_pair_89 : decode m_M_pair.2.1 89 = .ok (.iconst 0, 1) := by decide +kernel
theorem d_M_pair_90 : decode m_M_pair.2.1 90 = .ok (.istore 7, 2) := by decide +kernel
theorem d_M_pair_92 : decode m_M_pair.2.1 92 = .ok (.iload 4, 2) := by decide +kernel
theorem d_M_pair_94 : decode m_M_pair.2.1 94 = .ok (.iload_n 3, 1) := by decide +kernel
theorem d_M_pair_95 : decode m_M_pair.2.1 95 = .ok (.ifCond .eq 25, 3) := by decide +kernel
theorem d_M_pair_98 : decode m_M_pair.2.1 98 = .ok (.iload 7, 2) := by decide +kernel
theorem d_M_pair_100 : decode m_M_pair.2.1 100 = .ok (.ifCond .eq 24, 3) := by decide +kernel
theorem d_M_pair_103 : decode m_M_pair.2.1 103 = .ok (.iload_n 3, 1) := by decide +kernel
theorem d_M_pair_104 : decode m_M_pair.2.1 104 = .ok (.iconst 1, 1) := by decide +kernel
theorem d_M_pair_105 : decode m_M_pair.2.1 105 = .ok (.if_icmp .eq 15, 3) := by decide +kernel
theorem d_M_pair_108 : decode m_M_pair.2.1 108 = .ok (.aload_n 0, 1) := by decide +kernel
theorem d_M_pair_109 : decode m_M_pair.2.1 109 = .ok (.iload 6, 2) := by decide +kernel
theorem d_M_pair_111 : decode m_M_pair.2.1 111 = .ok (.bipush 9, 2) := by decide +kernel
theorem d_M_pair_113 : decode m_M_pair.2.1 113 = .ok (.invokevirtual 142, 3) := by decide +kernel
theorem d_M_pair_116 : decode m_M_pair.2.1 116 = .ok (.iconst 1, 1) := by decide +kernel
theorem d_M_pair_117 : decode m_M_pair.2.1 117 = .ok (.if_icmp .ne 7, 3) := by decide +kernel
theorem d_M_pair_120 : decode m_M_pair.2.1 120 = .ok (.iconst 1, 1) := by decide +kernel
theorem d_M_pair_121 : decode m_M_pair.2.1 121 = .ok (.goto 4, 3) := by decide +kernel
theorem d_M_pair_124 : decode m_M_pair.2.1 124 = .ok (.iconst 0, 1) := by decide +kernel
theorem d_M_pair_125 : decode m_M_pair.2.1 125 = .ok (.iadd, 1) := by decide +kernel
theorem d_M_pair_126 : decode m_M_pair.2.1 126 = .ok (.istore 4, 2) := by decide +kernel
theorem d_M_pair_128 : decode m_M_pair.2.1 128 = .ok (.aload_n 0, 1) := by decide +kernel
theorem d_M_pair_129 : decode m_M_pair.2.1 129 = .ok (.iload 6, 2) := by decide +kernel
theorem d_M_pair_131 : decode m_M_pair.2.1 131 = .ok (.invokevirtual 228, 3) := by decide +kernel
theorem d_M_pair_134 : decode m_M_pair.2.1 134 = .ok (.iload 5, 2) := by decide +kernel
theorem d_M_pair_136 : decode m_M_pair.2.1 136 = .ok (.if_icmp .le 12, 3) := by decide +kernel
theorem d_M_pair_139 : decode m_M_pair.2.1 139 = .ok (.aload_n 0, 1) := by decide +kernel
theorem d_M_pair_140 : decode m_M_pair.2.1 140 = .ok (.iload 6, 2) := by decide +kernel
theorem d_M_pair_142 : decode m_M_pair.2.1 142 = .ok (.invokevirtual 228, 3) := by decide +kernel
theorem d_M_pair_145 : decode m_M_pair.2.1 145 = .ok (.goto 5, 3) := by decide +kernel
theorem d_M_pair_148 : decode m_M_pair.2.1 148 = .ok (.iload 5, 2) := by decide +kernel
theorem d_M_pair_150 : decode m_M_pair.2.1 150 = .ok (.istore 5, 2) := by decide +kernel
theorem d_M_pair_152 : decode m_M_pair.2.1 152 = .ok (.iinc 6 1, 3) := by decide +kernel
theorem d_M_pair_155 : decode m_M_pair.2.1 155 = .ok (.goto (-119), 3) := by decide +kernel
theorem d_M_pair_158 : decode m_M_pair.2.1 158 = .ok (.iload_n 3, 1) := by decide +kernel
theorem d_M_pair_159 : decode m_M_pair.2.1 159 = .ok (.iconst 3, 1) := by decide +kernel
theorem d_M_pair_160 : decode m_M_pair.2.1 160 = .ok (.if_icmp .ne 8, 3) := by decide +kernel
theorem d_M_pair_163 : decode m_M_pair.2.1 163 = .ok (.iload 5, 2) := by decide +kernel
theorem d_M_pair_165 : decode m_M_pair.2.1 165 = .ok (.goto 5, 3) := by decide +kernel
theorem d_M_pair_168 : decode m_M_pair.2.1 168 = .ok (.iload 4, 2) := by decide +kernel
theorem d_M_pair_170 : decode m_M_pair.2.1 170 = .ok (.ireturn, 1) := by decide +kernel
def f_M_pair_150 (r36 : Int → Int → Int → Int → Int → Int → qMem → Option (Int × qMem)) (s0 x1 x2 x3 x4 x6 : Int) (w : qMem) : Option (Int × qMem) :=
  r36 x1 x2 x3 x4 s0 (w32 (x6 + 1)) w
set_option maxRecDepth 4000 in
theorem s_M_pair_150  {r36 : Int → Int → Int → Int → Int → Int → qMem → Option (Int × qMem)} (hr36 : ∀ x1 x2 x3 x4 x5 x6 w, qSim κI 100 100 m_M_pair 36 [] [some (qR 88), some (qI x1), some (qI x2), some (qI x3), some (qI x4), some (qI x5), some (qI x6), none] w (r36 x1 x2 x3 x4 x5 x6 w)) : ∀ (s0 x1 x2 x3 x4 x6 : Int) (w : qMem), qSim κI 100 100 m_M_pair 150 [qI s0] [some (qR 88), some (qI x1), some (qI x2), some (qI x3), some (qI x4), none, some (qI x6), none] w (f_M_pair_150 r36 s0 x1 x2 x3 x4 x6 w) := by
  intro s0 x1 x2 x3 x4 x6 w
  unfold f_M_pair_150
  refine z_istore (pls' := [some (qR 88), some (qI x1), some (qI x2), some (qI x3), some (qI x4), some (qI s0), some (qI x6), none]) d_M_pair_150 (by decide) rfl rfl ?_
  refine z_iinc (pls' := [some (qR 88), some (qI x1), some (qI x2), some (qI x3), some (qI x4), some (qI s0), some (qI (w32 (x6 + 1))), none]) d_M_pair_152 (by decide) rfl rfl rfl ?_
  refine z_goto (tgt := 36) d_M_pair_155 rfl ?_
  refine z_mask [true, true, true, true, true, true, true, false] ?_
  exact hr36 _ _ _ _ _ _ _
def f_M_pair_125 (r36 : Int → Int → Int → Int → Int → Int → qMem → Option (Int × qMem)) (s0 s1 x1 x2 x3 x5 x6 : Int) (w : qMem) : Option (Int × qMem) :=
  (f_M_lateOf x6 w).bind fun q1 =>
  if q1.1 ≤ x5 then
  f_M_pair_150 r36 x5 x1 x2 x3 (w32 (s0 + s1)) x6 q1.2
  else
  (f_M_lateOf x6 q1.2).bind fun q3 =>
  f_M_pair_150 r36 q3.1 x1 x2 x3 (w32 (s0 + s1)) x6 q3.2
set_option maxRecDepth 4000 in
theorem s_M_pair_125  {r36 : Int → Int → Int → Int → Int → Int → qMem → Option (Int × qMem)} (hr36 : ∀ x1 x2 x3 x4 x5 x6 w, qSim κI 100 100 m_M_pair 36 [] [some (qR 88), some (qI x1), some (qI x2), some (qI x3), some (qI x4), some (qI x5), some (qI x6), none] w (r36 x1 x2 x3 x4 x5 x6 w)) : ∀ (s0 s1 x1 x2 x3 x5 x6 : Int) (w : qMem), (s1 = 0 ∨ s1 = 1) → qSim κI 100 100 m_M_pair 125 [qI s1, qI s0] [some (qR 88), some (qI x1), some (qI x2), some (qI x3), none, some (qI x5), some (qI x6), none] w (f_M_pair_125 r36 s0 s1 x1 x2 x3 x5 x6 w) := by
  intro s0 s1 x1 x2 x3 x5 x6 w hs1
  unfold f_M_pair_125
  refine z_iadd d_M_pair_125 ?_
  refine z_istore (pls' := [some (qR 88), some (qI x1), some (qI x2), some (qI x3), some (qI (w32 (s0 + s1))), some (qI x5), some (qI x6), none]) d_M_pair_126 (by decide) rfl rfl ?_
  refine z_aload_n d_M_pair_128 rfl ?_
  refine z_iload d_M_pair_129 rfl ?_
  refine z_cVI (as := [qI x6]) (st := []) (nl := 0) (ci := 10) d_M_pair_131 lk_M_228 mk_M_lateOf rfl rfl rfl rfl rfl rfl (s_M_lateOf _ _) (fun q1 _ hq1 => ?_)
  refine z_iload d_M_pair_134 rfl ?_
  refine z_icmp_le (tgt := 148) d_M_pair_136 rfl (fun c2 => ?_) (fun c2 => ?_)
  · refine z_iload d_M_pair_148 rfl ?_
    refine z_mask [true, true, true, true, true, false, true, false] ?_
    exact s_M_pair_150 hr36 _ _ _ _ _ _ _
  · refine z_aload_n d_M_pair_139 rfl ?_
    refine z_iload d_M_pair_140 rfl ?_
    refine z_cVI (as := [qI x6]) (st := []) (nl := 0) (ci := 10) d_M_pair_142 lk_M_228 mk_M_lateOf rfl rfl rfl rfl rfl rfl (s_M_lateOf _ _) (fun q3 _ hq3 => ?_)
    refine z_goto (tgt := 150) d_M_pair_145 rfl ?_
    refine z_mask [true, true, true, true, true, false, true, false] ?_
    exact s_M_pair_150 hr36 _ _ _ _ _ _ _
def f_M_pair_90 (r36 : Int → Int → Int → Int → Int → Int → qMem → Option (Int × qMem)) (s0 x1 x2 x3 x4 x5 x6 : Int) (w : qMem) : Option (Int × qMem) :=
  if x3 = 0 then
  f_M_pair_125 r36 x4 1 x1 x2 x3 x5 x6 w
  else
  if s0 = 0 then
  f_M_pair_125 r36 x4 0 x1 x2 x3 x5 x6 w
  else
  if x3 = 1 then
  f_M_pair_125 r36 x4 1 x1 x2 x3 x5 x6 w
  else
  (f_M_of x6 9 w).bind fun q7 =>
  if q7.1 = 1 then
  f_M_pair_125 r36 x4 1 x1 x2 x3 x5 x6 q7.2
  else
  f_M_pair_125 r36 x4 0 x1 x2 x3 x5 x6 q7.2
set_option maxRecDepth 4000 in
theorem s_M_pair_90  {r36 : Int → Int → Int → Int → Int → Int → qMem → Option (Int × qMem)} (hr36 : ∀ x1 x2 x3 x4 x5 x6 w, qSim κI 100 100 m_M_pair 36 [] [some (qR 88), some (qI x1), some (qI x2), some (qI x3), some (qI x4), some (qI x5), some (qI x6), none] w (r36 x1 x2 x3 x4 x5 x6 w)) : ∀ (s0 x1 x2 x3 x4 x5 x6 : Int) (w : qMem), (s0 = 0 ∨ s0 = 1) → qSim κI 100 100 m_M_pair 90 [qI s0] [some (qR 88), some (qI x1), some (qI x2), some (qI x3), some (qI x4), some (qI x5), some (qI x6), none] w (f_M_pair_90 r36 s0 x1 x2 x3 x4 x5 x6 w) := by
  intro s0 x1 x2 x3 x4 x5 x6 w hs0
  unfold f_M_pair_90
  refine z_istore (pls' := [some (qR 88), some (qI x1), some (qI x2), some (qI x3), some (qI x4), some (qI x5), some (qI x6), some (qI s0)]) d_M_pair_90 (by decide) rfl rfl ?_
  refine z_iload d_M_pair_92 rfl ?_
  refine z_iload_n d_M_pair_94 rfl ?_
  refine z_if_eq (tgt := 120) d_M_pair_95 rfl (fun c4 => ?_) (fun c4 => ?_)
  · refine z_ic1 d_M_pair_120 ?_
    refine z_goto (tgt := 125) d_M_pair_121 rfl ?_
    refine z_mask [true, true, true, true, false, true, true, false] ?_
    exact s_M_pair_125 hr36 _ _ _ _ _ _ _ _ (Or.inr rfl)
  · refine z_iload d_M_pair_98 rfl ?_
    refine z_if_eq (tgt := 124) d_M_pair_100 rfl (fun c5 => ?_) (fun c5 => ?_)
    · refine z_ic0 d_M_pair_124 ?_
      refine z_mask [true, true, true, true, false, true, true, false] ?_
      exact s_M_pair_125 hr36 _ _ _ _ _ _ _ _ (Or.inl rfl)
    · refine z_iload_n d_M_pair_103 rfl ?_
      refine z_ic1 d_M_pair_104 ?_
      refine z_icmp_eq (tgt := 120) d_M_pair_105 rfl (fun c6 => ?_) (fun c6 => ?_)
      · refine z_ic1 d_M_pair_120 ?_
        refine z_goto (tgt := 125) d_M_pair_121 rfl ?_
        refine z_mask [true, true, true, true, false, true, true, false] ?_
        exact s_M_pair_125 hr36 _ _ _ _ _ _ _ _ (Or.inr rfl)
      · refine z_aload_n d_M_pair_108 rfl ?_
        refine z_iload d_M_pair_109 rfl ?_
        refine z_bipush d_M_pair_111 ⟨by decide, by decide⟩ ?_
        refine z_cVI (as := [qI x6, qI 9]) (st := [qI x4]) (nl := 0) (ci := 10) d_M_pair_113 lk_M_142 mk_M_of rfl rfl rfl rfl rfl rfl (s_M_of _ _ _) (fun q7 _ hq7 => ?_)
        refine z_ic1 d_M_pair_116 ?_
        refine z_icmp_ne (tgt := 124) d_M_pair_117 rfl (fun c8 => ?_) (fun c8 => ?_)
        · refine z_ic1 d_M_pair_120 ?_
          refine z_goto (tgt := 125) d_M_pair_121 rfl ?_
          refine z_mask [true, true, true, true, false, true, true, false] ?_
          exact s_M_pair_125 hr36 _ _ _ _ _ _ _ _ (Or.inr rfl)
        · refine z_ic0 d_M_pair_124 ?_
          refine z_mask [true, true, true, true, false, true, true, false] ?_
          exact s_M_pair_125 hr36 _ _ _ _ _ _ _ _ (Or.inl rfl)
def f_M_pair_158 (x3 x4 x5 : Int) (w : qMem) : Option (Int × qMem) :=
  if x3 = 3 then
  some (x5, w)
  else
  some (x4, w)
set_option maxRecDepth 4000 in
theorem s_M_pair_158  : ∀ (x3 x4 x5 : Int) (w : qMem), qSim κI 100 100 m_M_pair 158 [] [none, none, none, some (qI x3), some (qI x4), some (qI x5), none, none] w (f_M_pair_158 x3 x4 x5 w) := by
  intro x3 x4 x5 w
  unfold f_M_pair_158
  refine z_iload_n d_M_pair_158 rfl ?_
  refine z_ic3 d_M_pair_159 ?_
  refine z_icmp_ne (tgt := 168) d_M_pair_160 rfl (fun c9 => ?_) (fun c9 => ?_)
  · refine z_iload d_M_pair_163 rfl ?_
    refine z_goto (tgt := 170) d_M_pair_165 rfl ?_
    exact z_iret d_M_pair_170 rfl rfl
  · refine z_iload d_M_pair_168 rfl ?_
    exact z_iret d_M_pair_170 rfl rfl
def f_M_pair_36 : Nat → Int → Int → Int → Int → Int → Int → qMem → Option (Int × qMem)
  | 0, _, _, _, _, _, _, _ => none
  | n + 1, x1, x2, x3, x4, x5, x6, w =>
    qld w 89 5898 7 fun v10 =>
    if x6 < v10 then
    (f_M_of x6 0 w).bind fun q12 =>
    if q12.1 = x1 then
    (f_M_of x6 1 q12.2).bind fun q14 =>
    if q14.1 = x2 then
    (f_M_of x6 7 q14.2).bind fun q16 =>
    if q16.1 = (-1) then
    f_M_pair_90 (f_M_pair_36 n) 0 x1 x2 x3 x4 x5 x6 q16.2
    else
    f_M_pair_90 (f_M_pair_36 n) 1 x1 x2 x3 x4 x5 x6 q16.2
    else
    (f_M_pair_36 n) x1 x2 x3 x4 x5 (w32 (x6 + 1)) q14.2
    else
    (f_M_pair_36 n) x1 x2 x3 x4 x5 (w32 (x6 + 1)) q12.2
    else
    f_M_pair_158 x3 x4 x5 w
set_option maxRecDepth 4000 in
theorem s_M_pair_36  : ∀ (n : Nat), ∀ (x1 x2 x3 x4 x5 x6 : Int) (w : qMem), qSim κI 100 100 m_M_pair 36 [] [some (qR 88), some (qI x1), some (qI x2), some (qI x3), some (qI x4), some (qI x5), some (qI x6), none] w (f_M_pair_36 n x1 x2 x3 x4 x5 x6 w) := by
  intro n
  induction n with
  | zero => intro x1 x2 x3 x4 x5 x6 w; exact z_none
  | succ n ih =>
    intro x1 x2 x3 x4 x5 x6 w
    rw [f_M_pair_36]
    refine z_iload d_M_pair_36 rfl ?_
    refine z_aload_n d_M_pair_38 rfl ?_
    refine z_gr (ci := 10) (j := 0) (d := 1) (o2 := 89) d_M_pair_39 rfl fl_M_7 rfl (Nat.le_of_ble_eq_true rfl) rfl rfl ?_
    refine z_bipush d_M_pair_42 ⟨by decide, by decide⟩ ?_
    refine z_il d_M_pair_44 rfl rfl (fun v10 => ?_)
    refine z_icmp_ge (tgt := 158) d_M_pair_45 rfl (fun c11 => ?_) (fun c11 => ?_)
    · refine z_aload_n d_M_pair_48 rfl ?_
      refine z_iload d_M_pair_49 rfl ?_
      refine z_ic0 d_M_pair_51 ?_
      refine z_cVI (as := [qI x6, qI 0]) (st := []) (nl := 0) (ci := 10) d_M_pair_52 lk_M_142 mk_M_of rfl rfl rfl rfl rfl rfl (s_M_of _ _ _) (fun q12 _ hq12 => ?_)
      refine z_iload_n d_M_pair_55 rfl ?_
      refine z_icmp_ne (tgt := 152) d_M_pair_56 rfl (fun c13 => ?_) (fun c13 => ?_)
      · refine z_aload_n d_M_pair_59 rfl ?_
        refine z_iload d_M_pair_60 rfl ?_
        refine z_ic1 d_M_pair_62 ?_
        refine z_cVI (as := [qI x6, qI 1]) (st := []) (nl := 0) (ci := 10) d_M_pair_63 lk_M_142 mk_M_of rfl rfl rfl rfl rfl rfl (s_M_of _ _ _) (fun q14 _ hq14 => ?_)
        refine z_iload_n d_M_pair_66 rfl ?_
        refine z_icmp_eq (tgt := 73) d_M_pair_67 rfl (fun c15 => ?_) (fun c15 => ?_)
        · refine z_aload_n d_M_pair_73 rfl ?_
          refine z_iload d_M_pair_74 rfl ?_
          refine z_bipush d_M_pair_76 ⟨by decide, by decide⟩ ?_
          refine z_cVI (as := [qI x6, qI 7]) (st := []) (nl := 0) (ci := 10) d_M_pair_78 lk_M_142 mk_M_of rfl rfl rfl rfl rfl rfl (s_M_of _ _ _) (fun q16 _ hq16 => ?_)
          refine z_icm1 d_M_pair_81 ?_
          refine z_icmp_eq (tgt := 89) d_M_pair_82 rfl (fun c17 => ?_) (fun c17 => ?_)
          · refine z_ic0 d_M_pair_89 ?_
            refine z_mask [true, true, true, true, true, true, true, false] ?_
            exact s_M_pair_90 ih _ _ _ _ _ _ _ _ (Or.inl rfl)
          · refine z_ic1 d_M_pair_85 ?_
            refine z_goto (tgt := 90) d_M_pair_86 rfl ?_
            refine z_mask [true, true, true, true, true, true, true, false] ?_
            exact s_M_pair_90 ih _ _ _ _ _ _ _ _ (Or.inr rfl)
        · refine z_goto (tgt := 152) d_M_pair_70 rfl ?_
          refine z_iinc (pls' := [some (qR 88), some (qI x1), some (qI x2), some (qI x3), some (qI x4), some (qI x5), some (qI (w32 (x6 + 1))), none]) d_M_pair_152 (by decide) rfl rfl rfl ?_
          refine z_goto (tgt := 36) d_M_pair_155 rfl ?_
          refine z_mask [true, true, true, true, true, true, true, false] ?_
          exact ih _ _ _ _ _ _ _
      · refine z_iinc (pls' := [some (qR 88), some (qI x1), some (qI x2), some (qI x3), some (qI x4), some (qI x5), some (qI (w32 (x6 + 1))), none]) d_M_pair_152 (by decide) rfl rfl rfl ?_
        refine z_goto (tgt := 36) d_M_pair_155 rfl ?_
        refine z_mask [true, true, true, true, true, true, true, false] ?_
        exact ih _ _ _ _ _ _ _
    · refine z_mask [false, false, false, true, true, true, false, false] ?_
      exact s_M_pair_158 _ _ _ _
def f_M_pair (x1 : Int) (x2 : Int) (x3 : Int) (w : qMem) : Option (Int × qMem) :=
  (f_M_isNode x1 w).bind fun q18 =>
  if q18.1 = 0 then
  some ((-1), q18.2)
  else
  (f_M_isNode x2 q18.2).bind fun q20 =>
  if q20.1 = 0 then
  some ((-1), q20.2)
  else
  (f_M_isIn x3 0 3 q20.2).bind fun q22 =>
  if q22.1 = 0 then
  some ((-1), q22.2)
  else
  f_M_pair_36 qFU x1 x2 x3 0 (-1) 0 q22.2
set_option maxRecDepth 4000 in
theorem s_M_pair (x1 : Int) (x2 : Int) (x3 : Int) (w : qMem) : qSim κI 100 100 m_M_pair 0 [] [some (qR 88), some (qI x1), some (qI x2), some (qI x3), none, none, none, none] w (f_M_pair x1 x2 x3 w) := by
  unfold f_M_pair
  refine z_aload_n d_M_pair_0 rfl ?_
  refine z_iload_n d_M_pair_1 rfl ?_
  refine z_cVI (as := [qI x1]) (st := []) (nl := 0) (ci := 10) d_M_pair_2 lk_M_92 mk_M_isNode rfl rfl rfl rfl rfl rfl (s_M_isNode _ _) (fun q18 _ hq18 => ?_)
  refine z_if_eq (tgt := 25) d_M_pair_5 rfl (fun c19 => ?_) (fun c19 => ?_)
  · refine z_icm1 d_M_pair_25 ?_
    exact z_iret d_M_pair_26 rfl rfl
  · refine z_aload_n d_M_pair_8 rfl ?_
    refine z_iload_n d_M_pair_9 rfl ?_
    refine z_cVI (as := [qI x2]) (st := []) (nl := 0) (ci := 10) d_M_pair_10 lk_M_92 mk_M_isNode rfl rfl rfl rfl rfl rfl (s_M_isNode _ _) (fun q20 _ hq20 => ?_)
    refine z_if_eq (tgt := 25) d_M_pair_13 rfl (fun c21 => ?_) (fun c21 => ?_)
    · refine z_icm1 d_M_pair_25 ?_
      exact z_iret d_M_pair_26 rfl rfl
    · refine z_iload_n d_M_pair_16 rfl ?_
      refine z_ic0 d_M_pair_17 ?_
      refine z_ic3 d_M_pair_18 ?_
      refine z_cSI (av := [qI x3, qI 0, qI 3]) (st := []) (nl := 0) d_M_pair_19 lk_M_68 mk_M_isIn rfl rfl rfl (s_M_isIn _ _ _ _) (fun q22 _ hq22 => ?_)
      refine z_if_ne (tgt := 27) d_M_pair_22 rfl (fun c23 => ?_) (fun c23 => ?_)
      · refine z_icm1 d_M_pair_25 ?_
        exact z_iret d_M_pair_26 rfl rfl
      · refine z_ic0 d_M_pair_27 ?_
        refine z_istore (pls' := [some (qR 88), some (qI x1), some (qI x2), some (qI x3), some (qI 0), none, none, none]) d_M_pair_28 (by decide) rfl rfl ?_
        refine z_icm1 d_M_pair_30 ?_
        refine z_istore (pls' := [some (qR 88), some (qI x1), some (qI x2), some (qI x3), some (qI 0), some (qI (-1)), none, none]) d_M_pair_31 (by decide) rfl rfl ?_
        refine z_ic0 d_M_pair_33 ?_
        refine z_istore (pls' := [some (qR 88), some (qI x1), some (qI x2), some (qI x3), some (qI 0), some (qI (-1)), some (qI 0), none]) d_M_pair_34 (by decide) rfl rfl ?_
        refine z_mask [true, true, true, true, true, true, true, false] ?_
        exact s_M_pair_36 _ _ _ _ _ _ _ _
/-! BubbleTorusModel.late -/
theorem d_M_late_0 : decode m_M_late.2.1 0 = .ok (.iconst 0, 1) := by decide +kernel
theorem d_M_late_1 : decode m_M_late.2.1 1 = .ok (.istore_n 3, 1) := by decide +kernel
theorem d_M_late_2 : decode m_M_late.2.1 2 = .ok (.iconst 0, 1) := by decide +kernel
theorem d_M_late_3 : decode m_M_late.2.1 3 = .ok (.istore 4, 2) := by decide +kernel
theorem d_M_late_5 : decode m_M_late.2.1 5 = .ok (.iload 4, 2) := by decide +kernel
theorem d_M_late_7 : decode m_M_late.2.1 7 = .ok (.aload_n 0, 1) := by decide +kernel
theorem d_M_late_8 : decode m_M_late.2.1 8 = .ok (.getfield 7, 3) := by decide +kernel
theorem d_M_late_11 : decode m_M_late.2.1 11 = .ok (.bipush 7, 2) := by decide +kernel
theorem d_M_late_13 : decode m_M_late.2.1 13 = .ok (.iaload, 1) := by decide +kernel
theorem d_M_late_14 : decode m_M_late.2.1 14 = .ok (.if_icmp .ge 43, 3) := by decide +kernel
theorem d_M_late_17 : decode m_M_late.2.1 17 = .ok (.iload_n 3, 1) := by decide +kernel
theorem d_M_late_18 : decode m_M_late.2.1 18 = .ok (.aload_n 0, 1) := by decide +kernel
theorem d_M_late_19 : decode m_M_late.2.1 19 = .ok (.iload 4, 2) := by decide +kernel
theorem d_M_late_21 : decode m_M_late.2.1 21 = .ok (.bipush 7, 2) := by decide +kernel
theorem d_M_late_23 : decode m_M_late.2.1 23 = .ok (.invokevirtual 142, 3) := by decide +kernel
theorem d_M_late_26 : decode m_M_late.2.1 26 = .ok (.iconst (-1), 1) := by decide +kernel
theorem d_M_late_27 : decode m_M_late.2.1 27 = .ok (.if_icmp .eq 21, 3) := by decide +kernel
theorem d_M_late_30 : decode m_M_late.2.1 30 = .ok (.aload_n 0, 1) := by decide +kernel
theorem d_M_late_31 : decode m_M_late.2.1 31 = .ok (.iload 4, 2) := by decide +kernel
theorem d_M_late_33 : decode m_M_late.2.1 33 = .ok (.invokevirtual 228, 3) := by decide +kernel
theorem d_M_late_36 : decode m_M_late.2.1 36 = .ok (.iload_n 1, 1) := by decide +kernel
theorem d_M_late_37 : decode m_M_late.2.1 37 = .ok (.iload_n 2, 1) := by decide +kernel
theorem d_M_late_38 : decode m_M_late.2.1 38 = .ok (.invokestatic 68, 3) := by decide +kernel
theorem d_M_late_41 : decode m_M_late.2.1 41 = .ok (.ifCond .eq 7, 3) := by decide +kernel
theorem d_M_late_44 : decode m_M_late.2.1 44 = .ok (.iconst 1, 1) := by decide +kernel
theorem d_M_late_45 : decode m_M_late.2.1 45 = .ok (.goto 4, 3) := by decide +kernel
theorem d_M_late_48 : decode m_M_late.2.1 48 = .ok (.iconst 0, 1) := by decide +kernel
theorem d_M_late_49 : decode m_M_late.2.1 49 = .ok (.iadd, 1) := by decide +kernel
theorem d_M_late_50 : decode m_M_late.2.1 50 = .ok (.istore_n 3, 1) := by decide +kernel
theorem d_M_late_51 : decode m_M_late.2.1 51 = .ok (.iinc 4 1, 3) := by decide +kernel
theorem d_M_late_54 : decode m_M_late.2.1 54 = .ok (.goto (-49), 3) := by decide +kernel
theorem d_M_late_57 : decode m_M_late.2.1 57 = .ok (.iload_n 3, 1) := by decide +kernel
theorem d_M_late_58 : decode m_M_late.2.1 58 = .ok (.ireturn, 1) := by decide +kernel
def f_M_late_49 (r5 : Int → Int → Int → Int → qMem → Option (Int × qMem)) (s0 s1 x1 x2 x4 : Int) (w : qMem) : Option (Int × qMem) :=
  r5 x1 x2 (w32 (s0 + s1)) (w32 (x4 + 1)) w
set_option maxRecDepth 4000 in
theorem s_M_late_49  {r5 : Int → Int → Int → Int → qMem → Option (Int × qMem)} (hr5 : ∀ x1 x2 x3 x4 w, qSim κI 100 100 m_M_late 5 [] [some (qR 88), some (qI x1), some (qI x2), some (qI x3), some (qI x4)] w (r5 x1 x2 x3 x4 w)) : ∀ (s0 s1 x1 x2 x4 : Int) (w : qMem), (s1 = 0 ∨ s1 = 1) → qSim κI 100 100 m_M_late 49 [qI s1, qI s0] [some (qR 88), some (qI x1), some (qI x2), none, some (qI x4)] w (f_M_late_49 r5 s0 s1 x1 x2 x4 w) := by
  intro s0 s1 x1 x2 x4 w hs1
  unfold f_M_late_49
  refine z_iadd d_M_late_49 ?_
  refine z_istore_n (pls' := [some (qR 88), some (qI x1), some (qI x2), some (qI (w32 (s0 + s1))), some (qI x4)]) d_M_late_50 (by decide) rfl rfl ?_
  refine z_iinc (pls' := [some (qR 88), some (qI x1), some (qI x2), some (qI (w32 (s0 + s1))), some (qI (w32 (x4 + 1)))]) d_M_late_51 (by decide) rfl rfl rfl ?_
  refine z_goto (tgt := 5) d_M_late_54 rfl ?_
  refine z_mask [true, true, true, true, true] ?_
  exact hr5 _ _ _ _ _
def f_M_late_5 : Nat → Int → Int → Int → Int → qMem → Option (Int × qMem)
  | 0, _, _, _, _, _ => none
  | n + 1, x1, x2, x3, x4, w =>
    qld w 89 5898 7 fun v1 =>
    if x4 < v1 then
    (f_M_of x4 7 w).bind fun q3 =>
    if q3.1 = (-1) then
    f_M_late_49 (f_M_late_5 n) x3 0 x1 x2 x4 q3.2
    else
    (f_M_lateOf x4 q3.2).bind fun q5 =>
    (f_M_isIn q5.1 x1 x2 q5.2).bind fun q6 =>
    if q6.1 = 0 then
    f_M_late_49 (f_M_late_5 n) x3 0 x1 x2 x4 q6.2
    else
    f_M_late_49 (f_M_late_5 n) x3 1 x1 x2 x4 q6.2
    else
    some (x3, w)
set_option maxRecDepth 4000 in
theorem s_M_late_5  : ∀ (n : Nat), ∀ (x1 x2 x3 x4 : Int) (w : qMem), qSim κI 100 100 m_M_late 5 [] [some (qR 88), some (qI x1), some (qI x2), some (qI x3), some (qI x4)] w (f_M_late_5 n x1 x2 x3 x4 w) := by
  intro n
  induction n with
  | zero => intro x1 x2 x3 x4 w; exact z_none
  | succ n ih =>
    intro x1 x2 x3 x4 w
    rw [f_M_late_5]
    refine z_iload d_M_late_5 rfl ?_
    refine z_aload_n d_M_late_7 rfl ?_
    refine z_gr (ci := 10) (j := 0) (d := 1) (o2 := 89) d_M_late_8 rfl fl_M_7 rfl (Nat.le_of_ble_eq_true rfl) rfl rfl ?_
    refine z_bipush d_M_late_11 ⟨by decide, by decide⟩ ?_
    refine z_il d_M_late_13 rfl rfl (fun v1 => ?_)
    refine z_icmp_ge (tgt := 57) d_M_late_14 rfl (fun c2 => ?_) (fun c2 => ?_)
    · refine z_iload_n d_M_late_17 rfl ?_
      refine z_aload_n d_M_late_18 rfl ?_
      refine z_iload d_M_late_19 rfl ?_
      refine z_bipush d_M_late_21 ⟨by decide, by decide⟩ ?_
      refine z_cVI (as := [qI x4, qI 7]) (st := [qI x3]) (nl := 0) (ci := 10) d_M_late_23 lk_M_142 mk_M_of rfl rfl rfl rfl rfl rfl (s_M_of _ _ _) (fun q3 _ hq3 => ?_)
      refine z_icm1 d_M_late_26 ?_
      refine z_icmp_eq (tgt := 48) d_M_late_27 rfl (fun c4 => ?_) (fun c4 => ?_)
      · refine z_ic0 d_M_late_48 ?_
        refine z_mask [true, true, true, false, true] ?_
        exact s_M_late_49 ih _ _ _ _ _ _ (Or.inl rfl)
      · refine z_aload_n d_M_late_30 rfl ?_
        refine z_iload d_M_late_31 rfl ?_
        refine z_cVI (as := [qI x4]) (st := [qI x3]) (nl := 0) (ci := 10) d_M_late_33 lk_M_228 mk_M_lateOf rfl rfl rfl rfl rfl rfl (s_M_lateOf _ _) (fun q5 _ hq5 => ?_)
        refine z_iload_n d_M_late_36 rfl ?_
        refine z_iload_n d_M_late_37 rfl ?_
        refine z_cSI (av := [qI q5.1, qI x1, qI x2]) (st := [qI x3]) (nl := 0) d_M_late_38 lk_M_68 mk_M_isIn rfl rfl rfl (s_M_isIn _ _ _ _) (fun q6 _ hq6 => ?_)
        refine z_if_eq (tgt := 48) d_M_late_41 rfl (fun c7 => ?_) (fun c7 => ?_)
        · refine z_ic0 d_M_late_48 ?_
          refine z_mask [true, true, true, false, true] ?_
          exact s_M_late_49 ih _ _ _ _ _ _ (Or.inl rfl)
        · refine z_ic1 d_M_late_44 ?_
          refine z_goto (tgt := 49) d_M_late_45 rfl ?_
          refine z_mask [true, true, true, false, true] ?_
          exact s_M_late_49 ih _ _ _ _ _ _ (Or.inr rfl)
    · refine z_iload_n d_M_late_57 rfl ?_
      exact z_iret d_M_late_58 rfl rfl
def f_M_late (x1 : Int) (x2 : Int) (w : qMem) : Option (Int × qMem) :=
  f_M_late_5 qFU x1 x2 0 0 w
set_option maxRecDepth 4000 in
theorem s_M_late (x1 : Int) (x2 : Int) (w : qMem) : qSim κI 100 100 m_M_late 0 [] [some (qR 88), some (qI x1), some (qI x2), none, none] w (f_M_late x1 x2 w) := by
  unfold f_M_late
  refine z_ic0 d_M_late_0 ?_
  refine z_istore_n (pls' := [some (qR 88), some (qI x1), some (qI x2), some (qI 0), none]) d_M_late_1 (by decide) rfl rfl ?_
  refine z_ic0 d_M_late_2 ?_
  refine z_istore (pls' := [some (qR 88), some (qI x1), some (qI x2), some (qI 0), some (qI 0)]) d_M_late_3 (by decide) rfl rfl ?_
  refine z_mask [true, true, true, true, true] ?_
  exact s_M_late_5 _ _ _ _ _ _
/-! BubbleTorusModel.lateAbove -/
theorem d_M_lateAbove_0 : decode m_M_lateAbove.2.1 0 = .ok (.iconst (-1), 1) := by decide +kernel
theorem d_M_lateAbove_1 : decode m_M_lateAbove.2.1 1 = .ok (.istore_n 2, 1) := by decide +kernel
theorem d_M_lateAbove_2 : decode m_M_lateAbove.2.1 2 = .ok (.iconst 0, 1) := by decide +kernel
theorem d_M_lateAbove_3 : decode m_M_lateAbove.2.1 3 = .ok (.istore_n 3, 1) := by decide +kernel
theorem d_M_lateAbove_4 : decode m_M_lateAbove.2.1 4 = .ok (.iload_n 3, 1) := by decide +kernel
theorem d_M_lateAbove_5 : decode m_M_lateAbove.2.1 5 = .ok (.aload_n 0, 1) := by decide +kernel
theorem d_M_lateAbove_6 : decode m_M_lateAbove.2.1 6 = .ok (.getfield 7, 3) := by decide +kernel
theorem d_M_lateAbove_9 : decode m_M_lateAbove.2.1 9 = .ok (.bipush 7, 2) := by decide +kernel
theorem d_M_lateAbove_11 : decode m_M_lateAbove.2.1 11 = .ok (.iaload, 1) := by decide +kernel
theorem d_M_lateAbove_12 : decode m_M_lateAbove.2.1 12 = .ok (.if_icmp .ge 38, 3) := by decide +kernel
theorem d_M_lateAbove_15 : decode m_M_lateAbove.2.1 15 = .ok (.aload_n 0, 1) := by decide +kernel
theorem d_M_lateAbove_16 : decode m_M_lateAbove.2.1 16 = .ok (.iload_n 3, 1) := by decide +kernel
theorem d_M_lateAbove_17 : decode m_M_lateAbove.2.1 17 = .ok (.invokevirtual 228, 3) := by decide +kernel
theorem d_M_lateAbove_20 : decode m_M_lateAbove.2.1 20 = .ok (.iload_n 1, 1) := by decide +kernel
theorem d_M_lateAbove_21 : decode m_M_lateAbove.2.1 21 = .ok (.if_icmp .le 23, 3) := by decide +kernel
theorem d_M_lateAbove_24 : decode m_M_lateAbove.2.1 24 = .ok (.iload_n 2, 1) := by decide +kernel
theorem d_M_lateAbove_25 : decode m_M_lateAbove.2.1 25 = .ok (.iconst (-1), 1) := by decide +kernel
theorem d_M_lateAbove_26 : decode m_M_lateAbove.2.1 26 = .ok (.if_icmp .eq 12, 3) := by decide +kernel
theorem d_M_lateAbove_29 : decode m_M_lateAbove.2.1 29 = .ok (.aload_n 0, 1) := by decide +kernel
theorem d_M_lateAbove_30 : decode m_M_lateAbove.2.1 30 = .ok (.iload_n 3, 1) := by decide +kernel
theorem d_M_lateAbove_31 : decode m_M_lateAbove.2.1 31 = .ok (.invokevirtual 228, 3) := by decide +kernel
theorem d_M_lateAbove_34 : decode m_M_lateAbove.2.1 34 = .ok (.iload_n 2, 1) := by decide +kernel
theorem d_M_lateAbove_35 : decode m_M_lateAbove.2.1 35 = .ok (.if_icmp .ge 9, 3) := by decide +kernel
theorem d_M_lateAbove_38 : decode m_M_lateAbove.2.1 38 = .ok (.aload_n 0, 1) := by decide +kernel
theorem d_M_lateAbove_39 : decode m_M_lateAbove.2.1 39 = .ok (.iload_n 3, 1) := by decide +kernel
theorem d_M_lateAbove_40 : decode m_M_lateAbove.2.1 40 = .ok (.invokevirtual 228, 3) := by decide +kernel
theorem d_M_lateAbove_43 : decode m_M_lateAbove.2.1 43 = .ok (.istore_n 2, 1) := by decide +kernel
theorem d_M_lateAbove_44 : decode m_M_lateAbove.2.1 44 = .ok (.iinc 3 1, 3) := by decide +kernel
theorem d_M_lateAbove_47 : decode m_M_lateAbove.2.1 47 = .ok (.goto (-43), 3) := by decide +kernel
theorem d_M_lateAbove_50 : decode m_M_lateAbove.2.1 50 = .ok (.iload_n 2, 1) := by decide +kernel
theorem d_M_lateAbove_51 : decode m_M_lateAbove.2.1 51 = .ok (.ireturn, 1) := by decide +kernel
def f_M_lateAbove_38 (r4 : Int → Int → Int → qMem → Option (Int × qMem)) (x1 x3 : Int) (w : qMem) : Option (Int × qMem) :=
  (f_M_lateOf x3 w).bind fun q1 =>
  r4 x1 q1.1 (w32 (x3 + 1)) q1.2
set_option maxRecDepth 4000 in
theorem s_M_lateAbove_38  {r4 : Int → Int → Int → qMem → Option (Int × qMem)} (hr4 : ∀ x1 x2 x3 w, qSim κI 100 100 m_M_lateAbove 4 [] [some (qR 88), some (qI x1), some (qI x2), some (qI x3)] w (r4 x1 x2 x3 w)) : ∀ (x1 x3 : Int) (w : qMem), qSim κI 100 100 m_M_lateAbove 38 [] [some (qR 88), some (qI x1), none, some (qI x3)] w (f_M_lateAbove_38 r4 x1 x3 w) := by
  intro x1 x3 w
  unfold f_M_lateAbove_38
  refine z_aload_n d_M_lateAbove_38 rfl ?_
  refine z_iload_n d_M_lateAbove_39 rfl ?_
  refine z_cVI (as := [qI x3]) (st := []) (nl := 0) (ci := 10) d_M_lateAbove_40 lk_M_228 mk_M_lateOf rfl rfl rfl rfl rfl rfl (s_M_lateOf _ _) (fun q1 _ hq1 => ?_)
  refine z_istore_n (pls' := [some (qR 88), some (qI x1), some (qI q1.1), some (qI x3)]) d_M_lateAbove_43 (by decide) rfl rfl ?_
  refine z_iinc (pls' := [some (qR 88), some (qI x1), some (qI q1.1), some (qI (w32 (x3 + 1)))]) d_M_lateAbove_44 (by decide) rfl rfl rfl ?_
  refine z_goto (tgt := 4) d_M_lateAbove_47 rfl ?_
  refine z_mask [true, true, true, true] ?_
  exact hr4 _ _ _ _
def f_M_lateAbove_4 : Nat → Int → Int → Int → qMem → Option (Int × qMem)
  | 0, _, _, _, _ => none
  | n + 1, x1, x2, x3, w =>
    qld w 89 5898 7 fun v2 =>
    if x3 < v2 then
    (f_M_lateOf x3 w).bind fun q4 =>
    if q4.1 ≤ x1 then
    (f_M_lateAbove_4 n) x1 x2 (w32 (x3 + 1)) q4.2
    else
    if x2 = (-1) then
    f_M_lateAbove_38 (f_M_lateAbove_4 n) x1 x3 q4.2
    else
    (f_M_lateOf x3 q4.2).bind fun q7 =>
    if q7.1 < x2 then
    f_M_lateAbove_38 (f_M_lateAbove_4 n) x1 x3 q7.2
    else
    (f_M_lateAbove_4 n) x1 x2 (w32 (x3 + 1)) q7.2
    else
    some (x2, w)
set_option maxRecDepth 4000 in
theorem s_M_lateAbove_4  : ∀ (n : Nat), ∀ (x1 x2 x3 : Int) (w : qMem), qSim κI 100 100 m_M_lateAbove 4 [] [some (qR 88), some (qI x1), some (qI x2), some (qI x3)] w (f_M_lateAbove_4 n x1 x2 x3 w) := by
  intro n
  induction n with
  | zero => intro x1 x2 x3 w; exact z_none
  | succ n ih =>
    intro x1 x2 x3 w
    rw [f_M_lateAbove_4]
    refine z_iload_n d_M_lateAbove_4 rfl ?_
    refine z_aload_n d_M_lateAbove_5 rfl ?_
    refine z_gr (ci := 10) (j := 0) (d := 1) (o2 := 89) d_M_lateAbove_6 rfl fl_M_7 rfl (Nat.le_of_ble_eq_true rfl) rfl rfl ?_
    refine z_bipush d_M_lateAbove_9 ⟨by decide, by decide⟩ ?_
    refine z_il d_M_lateAbove_11 rfl rfl (fun v2 => ?_)
    refine z_icmp_ge (tgt := 50) d_M_lateAbove_12 rfl (fun c3 => ?_) (fun c3 => ?_)
    · refine z_aload_n d_M_lateAbove_15 rfl ?_
      refine z_iload_n d_M_lateAbove_16 rfl ?_
      refine z_cVI (as := [qI x3]) (st := []) (nl := 0) (ci := 10) d_M_lateAbove_17 lk_M_228 mk_M_lateOf rfl rfl rfl rfl rfl rfl (s_M_lateOf _ _) (fun q4 _ hq4 => ?_)
      refine z_iload_n d_M_lateAbove_20 rfl ?_
      refine z_icmp_le (tgt := 44) d_M_lateAbove_21 rfl (fun c5 => ?_) (fun c5 => ?_)
      · refine z_iinc (pls' := [some (qR 88), some (qI x1), some (qI x2), some (qI (w32 (x3 + 1)))]) d_M_lateAbove_44 (by decide) rfl rfl rfl ?_
        refine z_goto (tgt := 4) d_M_lateAbove_47 rfl ?_
        refine z_mask [true, true, true, true] ?_
        exact ih _ _ _ _
      · refine z_iload_n d_M_lateAbove_24 rfl ?_
        refine z_icm1 d_M_lateAbove_25 ?_
        refine z_icmp_eq (tgt := 38) d_M_lateAbove_26 rfl (fun c6 => ?_) (fun c6 => ?_)
        · refine z_mask [true, true, false, true] ?_
          exact s_M_lateAbove_38 ih _ _ _
        · refine z_aload_n d_M_lateAbove_29 rfl ?_
          refine z_iload_n d_M_lateAbove_30 rfl ?_
          refine z_cVI (as := [qI x3]) (st := []) (nl := 0) (ci := 10) d_M_lateAbove_31 lk_M_228 mk_M_lateOf rfl rfl rfl rfl rfl rfl (s_M_lateOf _ _) (fun q7 _ hq7 => ?_)
          refine z_iload_n d_M_lateAbove_34 rfl ?_
          refine z_icmp_ge (tgt := 44) d_M_lateAbove_35 rfl (fun c8 => ?_) (fun c8 => ?_)
          · refine z_mask [true, true, false, true] ?_
            exact s_M_lateAbove_38 ih _ _ _
          · refine z_iinc (pls' := [some (qR 88), some (qI x1), some (qI x2), some (qI (w32 (x3 + 1)))]) d_M_lateAbove_44 (by decide) rfl rfl rfl ?_
            refine z_goto (tgt := 4) d_M_lateAbove_47 rfl ?_
            refine z_mask [true, true, true, true] ?_
            exact ih _ _ _ _
    · refine z_iload_n d_M_lateAbove_50 rfl ?_
      exact z_iret d_M_lateAbove_51 rfl rfl
def f_M_lateAbove (x1 : Int) (w : qMem) : Option (Int × qMem) :=
  f_M_lateAbove_4 qFU x1 (-1) 0 w
set_option maxRecDepth 4000 in
theorem s_M_lateAbove (x1 : Int) (w : qMem) : qSim κI 100 100 m_M_lateAbove 0 [] [some (qR 88), some (qI x1), none, none] w (f_M_lateAbove x1 w) := by
  unfold f_M_lateAbove
  refine z_icm1 d_M_lateAbove_0 ?_
  refine z_istore_n (pls' := [some (qR 88), some (qI x1), some (qI (-1)), none]) d_M_lateAbove_1 (by decide) rfl rfl ?_
  refine z_ic0 d_M_lateAbove_2 ?_
  refine z_istore_n (pls' := [some (qR 88), some (qI x1), some (qI (-1)), some (qI 0)]) d_M_lateAbove_3 (by decide) rfl rfl ?_
  refine z_mask [true, true, true, true] ?_
  exact s_M_lateAbove_4 _ _ _ _ _
/-! BubbleTorusModel.lates -/
theorem d_M_lates_0 : decode m_M_lates.2.1 0 = .ok (.iconst 0, 1) := by decide +kernel
theorem d_M_lates_1 : decode m_M_lates.2.1 1 = .ok (.istore_n 3, 1) := by decide +kernel
theorem d_M_lates_2 : decode m_M_lates.2.1 2 = .ok (.aload_n 0, 1) := by decide +kernel
theorem d_M_lates_3 : decode m_M_lates.2.1 3 = .ok (.iconst (-1), 1) := by decide +kernel
theorem d_M_lates_4 : decode m_M_lates.2.1 4 = .ok (.invokevirtual 231, 3) := by decide +kernel
theorem d_M_lates_7 : decode m_M_lates.2.1 7 = .ok (.istore 4, 2) := by decide +kernel
theorem d_M_lates_9 : decode m_M_lates.2.1 9 = .ok (.iload 4, 2) := by decide +kernel
theorem d_M_lates_11 : decode m_M_lates.2.1 11 = .ok (.iconst (-1), 1) := by decide +kernel
theorem d_M_lates_12 : decode m_M_lates.2.1 12 = .ok (.if_icmp .eq 49, 3) := by decide +kernel
theorem d_M_lates_15 : decode m_M_lates.2.1 15 = .ok (.iload_n 3, 1) := by decide +kernel
theorem d_M_lates_16 : decode m_M_lates.2.1 16 = .ok (.iload_n 1, 1) := by decide +kernel
theorem d_M_lates_17 : decode m_M_lates.2.1 17 = .ok (.if_icmp .ne 30, 3) := by decide +kernel
theorem d_M_lates_20 : decode m_M_lates.2.1 20 = .ok (.iload_n 2, 1) := by decide +kernel
theorem d_M_lates_21 : decode m_M_lates.2.1 21 = .ok (.iconst 0, 1) := by decide +kernel
theorem d_M_lates_22 : decode m_M_lates.2.1 22 = .ok (.iconst 1, 1) := by decide +kernel
theorem d_M_lates_23 : decode m_M_lates.2.1 23 = .ok (.invokestatic 68, 3) := by decide +kernel
theorem d_M_lates_26 : decode m_M_lates.2.1 26 = .ok (.ifCond .eq 21, 3) := by decide +kernel
theorem d_M_lates_29 : decode m_M_lates.2.1 29 = .ok (.iload_n 2, 1) := by decide +kernel
theorem d_M_lates_30 : decode m_M_lates.2.1 30 = .ok (.ifCond .ne 8, 3) := by decide +kernel
theorem d_M_lates_33 : decode m_M_lates.2.1 33 = .ok (.iload 4, 2) := by decide +kernel
theorem d_M_lates_35 : decode m_M_lates.2.1 35 = .ok (.goto 11, 3) := by decide +kernel
theorem d_M_lates_38 : decode m_M_lates.2.1 38 = .ok (.aload_n 0, 1) := by decide +kernel
theorem d_M_lates_39 : decode m_M_lates.2.1 39 = .ok (.iload 4, 2) := by decide +kernel
theorem d_M_lates_41 : decode m_M_lates.2.1 41 = .ok (.iload 4, 2) := by decide +kernel
theorem d_M_lates_43 : decode m_M_lates.2.1 43 = .ok (.invokevirtual 234, 3) := by decide +kernel
theorem d_M_lates_46 : decode m_M_lates.2.1 46 = .ok (.ireturn, 1) := by decide +kernel
theorem d_M_lates_47 : decode m_M_lates.2.1 47 = .ok (.iinc 3 1, 3) := by decide +kernel
theorem d_M_lates_50 : decode m_M_lates.2.1 50 = .ok (.aload_n 0, 1) := by decide +kernel
theorem d_M_lates_51 : decode m_M_lates.2.1 51 = .ok (.iload 4, 2) := by decide +kernel
theorem d_M_lates_53 : decode m_M_lates.2.1 53 = .ok (.invokevirtual 231, 3) := by decide +kernel
theorem d_M_lates_56 : decode m_M_lates.2.1 56 = .ok (.istore 4, 2) := by decide +kernel
theorem d_M_lates_58 : decode m_M_lates.2.1 58 = .ok (.goto (-49), 3) := by decide +kernel
theorem d_M_lates_61 : decode m_M_lates.2.1 61 = .ok (.iload_n 1, 1) := by decide +kernel
theorem d_M_lates_62 : decode m_M_lates.2.1 62 = .ok (.iconst (-1), 1) := by decide +kernel
theorem d_M_lates_63 : decode m_M_lates.2.1 63 = .ok (.if_icmp .ne 7, 3) := by decide +kernel
theorem d_M_lates_66 : decode m_M_lates.2.1 66 = .ok (.iload_n 3, 1) := by decide +kernel
theorem d_M_lates_67 : decode m_M_lates.2.1 67 = .ok (.goto 4, 3) := by decide +kernel
theorem d_M_lates_70 : decode m_M_lates.2.1 70 = .ok (.iconst (-1), 1) := by decide +kernel
theorem d_M_lates_71 : decode m_M_lates.2.1 71 = .ok (.ireturn, 1) := by decide +kernel
def f_M_lates_29 (x2 x4 : Int) (w : qMem) : Option (Int × qMem) :=
  if x2 = 0 then
  some (x4, w)
  else
  (f_M_late x4 x4 w).bind fun q2 =>
  some (q2.1, q2.2)
set_option maxRecDepth 4000 in
theorem s_M_lates_29  : ∀ (x2 x4 : Int) (w : qMem), qSim κI 100 100 m_M_lates 29 [] [some (qR 88), none, some (qI x2), none, some (qI x4)] w (f_M_lates_29 x2 x4 w) := by
  intro x2 x4 w
  unfold f_M_lates_29
  refine z_iload_n d_M_lates_29 rfl ?_
  refine z_if_ne (tgt := 38) d_M_lates_30 rfl (fun c1 => ?_) (fun c1 => ?_)
  · refine z_iload d_M_lates_33 rfl ?_
    refine z_goto (tgt := 46) d_M_lates_35 rfl ?_
    exact z_iret d_M_lates_46 rfl rfl
  · refine z_aload_n d_M_lates_38 rfl ?_
    refine z_iload d_M_lates_39 rfl ?_
    refine z_iload d_M_lates_41 rfl ?_
    refine z_cVI (as := [qI x4, qI x4]) (st := []) (nl := 2) (ci := 10) d_M_lates_43 lk_M_234 mk_M_late rfl rfl rfl rfl rfl rfl (s_M_late _ _ _) (fun q2 _ hq2 => ?_)
    exact z_iret d_M_lates_46 rfl rfl
def f_M_lates_47 (r9 : Int → Int → Int → Int → qMem → Option (Int × qMem)) (x1 x2 x3 x4 : Int) (w : qMem) : Option (Int × qMem) :=
  (f_M_lateAbove x4 w).bind fun q3 =>
  r9 x1 x2 (w32 (x3 + 1)) q3.1 q3.2
set_option maxRecDepth 4000 in
theorem s_M_lates_47  {r9 : Int → Int → Int → Int → qMem → Option (Int × qMem)} (hr9 : ∀ x1 x2 x3 x4 w, qSim κI 100 100 m_M_lates 9 [] [some (qR 88), some (qI x1), some (qI x2), some (qI x3), some (qI x4)] w (r9 x1 x2 x3 x4 w)) : ∀ (x1 x2 x3 x4 : Int) (w : qMem), qSim κI 100 100 m_M_lates 47 [] [some (qR 88), some (qI x1), some (qI x2), some (qI x3), some (qI x4)] w (f_M_lates_47 r9 x1 x2 x3 x4 w) := by
  intro x1 x2 x3 x4 w
  unfold f_M_lates_47
  refine z_iinc (pls' := [some (qR 88), some (qI x1), some (qI x2), some (qI (w32 (x3 + 1))), some (qI x4)]) d_M_lates_47 (by decide) rfl rfl rfl ?_
  refine z_aload_n d_M_lates_50 rfl ?_
  refine z_iload d_M_lates_51 rfl ?_
  refine z_cVI (as := [qI x4]) (st := []) (nl := 2) (ci := 10) d_M_lates_53 lk_M_231 mk_M_lateAbove rfl rfl rfl rfl rfl rfl (s_M_lateAbove _ _) (fun q3 _ hq3 => ?_)
  refine z_istore (pls' := [some (qR 88), some (qI x1), some (qI x2), some (qI (w32 (x3 + 1))), some (qI q3.1)]) d_M_lates_56 (by decide) rfl rfl ?_
  refine z_goto (tgt := 9) d_M_lates_58 rfl ?_
  refine z_mask [true, true, true, true, true] ?_
  exact hr9 _ _ _ _ _
def f_M_lates_61 (x1 x3 : Int) (w : qMem) : Option (Int × qMem) :=
  if x1 = (-1) then
  some (x3, w)
  else
  some ((-1), w)
set_option maxRecDepth 4000 in
theorem s_M_lates_61  : ∀ (x1 x3 : Int) (w : qMem), qSim κI 100 100 m_M_lates 61 [] [none, some (qI x1), none, some (qI x3), none] w (f_M_lates_61 x1 x3 w) := by
  intro x1 x3 w
  unfold f_M_lates_61
  refine z_iload_n d_M_lates_61 rfl ?_
  refine z_icm1 d_M_lates_62 ?_
  refine z_icmp_ne (tgt := 70) d_M_lates_63 rfl (fun c4 => ?_) (fun c4 => ?_)
  · refine z_iload_n d_M_lates_66 rfl ?_
    refine z_goto (tgt := 71) d_M_lates_67 rfl ?_
    exact z_iret d_M_lates_71 rfl rfl
  · refine z_icm1 d_M_lates_70 ?_
    exact z_iret d_M_lates_71 rfl rfl
def f_M_lates_9 : Nat → Int → Int → Int → Int → qMem → Option (Int × qMem)
  | 0, _, _, _, _, _ => none
  | n + 1, x1, x2, x3, x4, w =>
    if x4 = (-1) then
    f_M_lates_61 x1 x3 w
    else
    if x3 = x1 then
    (f_M_isIn x2 0 1 w).bind fun q7 =>
    if q7.1 = 0 then
    f_M_lates_47 (f_M_lates_9 n) x1 x2 x3 x4 q7.2
    else
    f_M_lates_29 x2 x4 q7.2
    else
    f_M_lates_47 (f_M_lates_9 n) x1 x2 x3 x4 w
set_option maxRecDepth 4000 in
theorem s_M_lates_9  : ∀ (n : Nat), ∀ (x1 x2 x3 x4 : Int) (w : qMem), qSim κI 100 100 m_M_lates 9 [] [some (qR 88), some (qI x1), some (qI x2), some (qI x3), some (qI x4)] w (f_M_lates_9 n x1 x2 x3 x4 w) := by
  intro n
  induction n with
  | zero => intro x1 x2 x3 x4 w; exact z_none
  | succ n ih =>
    intro x1 x2 x3 x4 w
    rw [f_M_lates_9]
    refine z_iload d_M_lates_9 rfl ?_
    refine z_icm1 d_M_lates_11 ?_
    refine z_icmp_eq (tgt := 61) d_M_lates_12 rfl (fun c5 => ?_) (fun c5 => ?_)
    · refine z_mask [false, true, false, true, false] ?_
      exact s_M_lates_61 _ _ _
    · refine z_iload_n d_M_lates_15 rfl ?_
      refine z_iload_n d_M_lates_16 rfl ?_
      refine z_icmp_ne (tgt := 47) d_M_lates_17 rfl (fun c6 => ?_) (fun c6 => ?_)
      · refine z_iload_n d_M_lates_20 rfl ?_
        refine z_ic0 d_M_lates_21 ?_
        refine z_ic1 d_M_lates_22 ?_
        refine z_cSI (av := [qI x2, qI 0, qI 1]) (st := []) (nl := 0) d_M_lates_23 lk_M_68 mk_M_isIn rfl rfl rfl (s_M_isIn _ _ _ _) (fun q7 _ hq7 => ?_)
        refine z_if_eq (tgt := 47) d_M_lates_26 rfl (fun c8 => ?_) (fun c8 => ?_)
        · refine z_mask [true, true, true, true, true] ?_
          exact s_M_lates_47 ih _ _ _ _ _
        · refine z_mask [true, false, true, false, true] ?_
          exact s_M_lates_29 _ _ _
      · refine z_mask [true, true, true, true, true] ?_
        exact s_M_lates_47 ih _ _ _ _ _
def f_M_lates (x1 : Int) (x2 : Int) (w : qMem) : Option (Int × qMem) :=
  (f_M_lateAbove (-1) w).bind fun q9 =>
  f_M_lates_9 qFU x1 x2 0 q9.1 q9.2
set_option maxRecDepth 4000 in
theorem s_M_lates (x1 : Int) (x2 : Int) (w : qMem) : qSim κI 100 100 m_M_lates 0 [] [some (qR 88), some (qI x1), some (qI x2), none, none] w (f_M_lates x1 x2 w) := by
  unfold f_M_lates
  refine z_ic0 d_M_lates_0 ?_
  refine z_istore_n (pls' := [some (qR 88), some (qI x1), some (qI x2), some (qI 0), none]) d_M_lates_1 (by decide) rfl rfl ?_
  refine z_aload_n d_M_lates_2 rfl ?_
  refine z_icm1 d_M_lates_3 ?_
  refine z_cVI (as := [qI (-1)]) (st := []) (nl := 2) (ci := 10) d_M_lates_4 lk_M_231 mk_M_lateAbove rfl rfl rfl rfl rfl rfl (s_M_lateAbove _ _) (fun q9 _ hq9 => ?_)
  refine z_istore (pls' := [some (qR 88), some (qI x1), some (qI x2), some (qI 0), some (qI q9.1)]) d_M_lates_7 (by decide) rfl rfl ?_
  refine z_mask [true, true, true, true, true] ?_
  exact s_M_lates_9 _ _ _ _ _ _
/-! BubbleTorusModel.slot -/
theorem d_M_slot_0 : decode m_M_slot.2.1 0 = .ok (.bipush 9, 2) := by decide +kernel
theorem d_M_slot_2 : decode m_M_slot.2.1 2 = .ok (.iload_n 0, 1) := by decide +kernel
theorem d_M_slot_3 : decode m_M_slot.2.1 3 = .ok (.imul, 1) := by decide +kernel
theorem d_M_slot_4 : decode m_M_slot.2.1 4 = .ok (.iload_n 1, 1) := by decide +kernel
theorem d_M_slot_5 : decode m_M_slot.2.1 5 = .ok (.iadd, 1) := by decide +kernel
theorem d_M_slot_6 : decode m_M_slot.2.1 6 = .ok (.ireturn, 1) := by decide +kernel
def f_M_slot (x0 : Int) (x1 : Int) (w : qMem) : Option (Int × qMem) :=
  some ((w32 ((w32 (9 * x0)) + x1)), w)
set_option maxRecDepth 4000 in
theorem s_M_slot {ph : Nat} (x0 : Int) (x1 : Int) (w : qMem) : qSim κI ph ph m_M_slot 0 [] [some (qI x0), some (qI x1)] w (f_M_slot x0 x1 w) := by
  unfold f_M_slot
  refine z_bipush d_M_slot_0 ⟨by decide, by decide⟩ ?_
  refine z_iload_n d_M_slot_2 rfl ?_
  refine z_imul d_M_slot_3 ?_
  refine z_iload_n d_M_slot_4 rfl ?_
  refine z_iadd d_M_slot_5 ?_
  exact z_iret d_M_slot_6 rfl rfl
/-! BubbleTorusModel.canNow -/
theorem d_M_canNow_0 : decode m_M_canNow.2.1 0 = .ok (.aload_n 0, 1) := by decide +kernel
theorem d_M_canNow_1 : decode m_M_canNow.2.1 1 = .ok (.iload_n 1, 1) := by decide +kernel
theorem d_M_canNow_2 : decode m_M_canNow.2.1 2 = .ok (.iload_n 2, 1) := by decide +kernel
theorem d_M_canNow_3 : decode m_M_canNow.2.1 3 = .ok (.invokevirtual 145, 3) := by decide +kernel
theorem d_M_canNow_6 : decode m_M_canNow.2.1 6 = .ok (.istore_n 3, 1) := by decide +kernel
theorem d_M_canNow_7 : decode m_M_canNow.2.1 7 = .ok (.aload_n 0, 1) := by decide +kernel
theorem d_M_canNow_8 : decode m_M_canNow.2.1 8 = .ok (.iload_n 3, 1) := by decide +kernel
theorem d_M_canNow_9 : decode m_M_canNow.2.1 9 = .ok (.iconst 1, 1) := by decide +kernel
theorem d_M_canNow_10 : decode m_M_canNow.2.1 10 = .ok (.invokevirtual 142, 3) := by decide +kernel
theorem d_M_canNow_13 : decode m_M_canNow.2.1 13 = .ok (.iload_n 1, 1) := by decide +kernel
theorem d_M_canNow_14 : decode m_M_canNow.2.1 14 = .ok (.if_icmp .ne 5, 3) := by decide +kernel
theorem d_M_canNow_17 : decode m_M_canNow.2.1 17 = .ok (.iconst 1, 1) := by decide +kernel
theorem d_M_canNow_18 : decode m_M_canNow.2.1 18 = .ok (.ireturn, 1) := by decide +kernel
theorem d_M_canNow_19 : decode m_M_canNow.2.1 19 = .ok (.iconst 0, 1) := by decide +kernel
theorem d_M_canNow_20 : decode m_M_canNow.2.1 20 = .ok (.istore 4, 2) := by decide +kernel
theorem d_M_canNow_22 : decode m_M_canNow.2.1 22 = .ok (.iload 4, 2) := by decide +kernel
theorem d_M_canNow_24 : decode m_M_canNow.2.1 24 = .ok (.iconst 4, 1) := by decide +kernel
theorem d_M_canNow_25 : decode m_M_canNow.2.1 25 = .ok (.if_icmp .ge 23, 3) := by decide +kernel
theorem d_M_canNow_28 : decode m_M_canNow.2.1 28 = .ok (.aload_n 0, 1) := by decide +kernel
theorem d_M_canNow_29 : decode m_M_canNow.2.1 29 = .ok (.iload_n 3, 1) := by decide +kernel
theorem d_M_canNow_30 : decode m_M_canNow.2.1 30 = .ok (.iload_n 1, 1) := by decide +kernel
theorem d_M_canNow_31 : decode m_M_canNow.2.1 31 = .ok (.iload 4, 2) := by decide +kernel
theorem d_M_canNow_33 : decode m_M_canNow.2.1 33 = .ok (.iconst 0, 1) := by decide +kernel
theorem d_M_canNow_34 : decode m_M_canNow.2.1 34 = .ok (.invokevirtual 179, 3) := by decide +kernel
theorem d_M_canNow_37 : decode m_M_canNow.2.1 37 = .ok (.ifCond .eq 5, 3) := by decide +kernel
theorem d_M_canNow_40 : decode m_M_canNow.2.1 40 = .ok (.iconst 1, 1) := by decide +kernel
theorem d_M_canNow_41 : decode m_M_canNow.2.1 41 = .ok (.ireturn, 1) := by decide +kernel
theorem d_M_canNow_42 : decode m_M_canNow.2.1 42 = .ok (.iinc 4 1, 3) := by decide +kernel
theorem d_M_canNow_45 : decode m_M_canNow.2.1 45 = .ok (.goto (-23), 3) := by decide +kernel
theorem d_M_canNow_48 : decode m_M_canNow.2.1 48 = .ok (.iconst 0, 1) := by decide +kernel
theorem d_M_canNow_49 : decode m_M_canNow.2.1 49 = .ok (.ireturn, 1) := by decide +kernel
def f_M_canNow_22 : Nat → Int → Int → Int → qMem → Option (Int × qMem)
  | 0, _, _, _, _ => none
  | n + 1, x1, x3, x4, w =>
    if x4 < 4 then
    (f_M_canGo x3 x1 x4 0 w).bind fun q2 =>
    if q2.1 = 0 then
    (f_M_canNow_22 n) x1 x3 (w32 (x4 + 1)) q2.2
    else
    some (1, q2.2)
    else
    some (0, w)
set_option maxRecDepth 4000 in
theorem s_M_canNow_22  : ∀ (n : Nat), ∀ (x1 x3 x4 : Int) (w : qMem), qSim κI 100 100 m_M_canNow 22 [] [some (qR 88), some (qI x1), none, some (qI x3), some (qI x4)] w (f_M_canNow_22 n x1 x3 x4 w) := by
  intro n
  induction n with
  | zero => intro x1 x3 x4 w; exact z_none
  | succ n ih =>
    intro x1 x3 x4 w
    rw [f_M_canNow_22]
    refine z_iload d_M_canNow_22 rfl ?_
    refine z_ic4 d_M_canNow_24 ?_
    refine z_icmp_ge (tgt := 48) d_M_canNow_25 rfl (fun c1 => ?_) (fun c1 => ?_)
    · refine z_aload_n d_M_canNow_28 rfl ?_
      refine z_iload_n d_M_canNow_29 rfl ?_
      refine z_iload_n d_M_canNow_30 rfl ?_
      refine z_iload d_M_canNow_31 rfl ?_
      refine z_ic0 d_M_canNow_33 ?_
      refine z_cVI (as := [qI x3, qI x1, qI x4, qI 0]) (st := []) (nl := 0) (ci := 10) d_M_canNow_34 lk_M_179 mk_M_canGo rfl rfl rfl rfl rfl rfl (s_M_canGo _ _ _ _ _) (fun q2 _ hq2 => ?_)
      refine z_if_eq (tgt := 42) d_M_canNow_37 rfl (fun c3 => ?_) (fun c3 => ?_)
      · refine z_iinc (pls' := [some (qR 88), some (qI x1), none, some (qI x3), some (qI (w32 (x4 + 1)))]) d_M_canNow_42 (by decide) rfl rfl rfl ?_
        refine z_goto (tgt := 22) d_M_canNow_45 rfl ?_
        refine z_mask [true, true, false, true, true] ?_
        exact ih _ _ _ _
      · refine z_ic1 d_M_canNow_40 ?_
        exact z_zret d_M_canNow_41 rfl rfl (Or.inr rfl)
    · refine z_ic0 d_M_canNow_48 ?_
      exact z_zret d_M_canNow_49 rfl rfl (Or.inl rfl)
def f_M_canNow (x1 : Int) (x2 : Int) (w : qMem) : Option (Int × qMem) :=
  (f_M_firstOf x1 x2 w).bind fun q4 =>
  (f_M_of q4.1 1 q4.2).bind fun q5 =>
  if q5.1 = x1 then
  some (1, q5.2)
  else
  f_M_canNow_22 qFU x1 q4.1 0 q5.2
set_option maxRecDepth 4000 in
theorem s_M_canNow (x1 : Int) (x2 : Int) (w : qMem) : qSim κI 100 100 m_M_canNow 0 [] [some (qR 88), some (qI x1), some (qI x2), none, none] w (f_M_canNow x1 x2 w) := by
  unfold f_M_canNow
  refine z_aload_n d_M_canNow_0 rfl ?_
  refine z_iload_n d_M_canNow_1 rfl ?_
  refine z_iload_n d_M_canNow_2 rfl ?_
  refine z_cVI (as := [qI x1, qI x2]) (st := []) (nl := 0) (ci := 10) d_M_canNow_3 lk_M_145 mk_M_firstOf rfl rfl rfl rfl rfl rfl (s_M_firstOf _ _ _) (fun q4 _ hq4 => ?_)
  refine z_istore_n (pls' := [some (qR 88), some (qI x1), some (qI x2), some (qI q4.1), none]) d_M_canNow_6 (by decide) rfl rfl ?_
  refine z_aload_n d_M_canNow_7 rfl ?_
  refine z_iload_n d_M_canNow_8 rfl ?_
  refine z_ic1 d_M_canNow_9 ?_
  refine z_cVI (as := [qI q4.1, qI 1]) (st := []) (nl := 0) (ci := 10) d_M_canNow_10 lk_M_142 mk_M_of rfl rfl rfl rfl rfl rfl (s_M_of _ _ _) (fun q5 _ hq5 => ?_)
  refine z_iload_n d_M_canNow_13 rfl ?_
  refine z_icmp_ne (tgt := 19) d_M_canNow_14 rfl (fun c6 => ?_) (fun c6 => ?_)
  · refine z_ic1 d_M_canNow_17 ?_
    exact z_zret d_M_canNow_18 rfl rfl (Or.inr rfl)
  · refine z_ic0 d_M_canNow_19 ?_
    refine z_istore (pls' := [some (qR 88), some (qI x1), some (qI x2), some (qI q4.1), some (qI 0)]) d_M_canNow_20 (by decide) rfl rfl ?_
    refine z_mask [true, true, false, true, true] ?_
    exact s_M_canNow_22 _ _ _ _ _
/-! BubbleTorusModel.someOfRing -/
theorem d_M_someOfRing_0 : decode m_M_someOfRing.2.1 0 = .ok (.aload_n 0, 1) := by decide +kernel
theorem d_M_someOfRing_1 : decode m_M_someOfRing.2.1 1 = .ok (.iload_n 1, 1) := by decide +kernel
theorem d_M_someOfRing_2 : decode m_M_someOfRing.2.1 2 = .ok (.invokevirtual 89, 3) := by decide +kernel
theorem d_M_someOfRing_5 : decode m_M_someOfRing.2.1 5 = .ok (.istore_n 2, 1) := by decide +kernel
theorem d_M_someOfRing_6 : decode m_M_someOfRing.2.1 6 = .ok (.iconst 0, 1) := by decide +kernel
theorem d_M_someOfRing_7 : decode m_M_someOfRing.2.1 7 = .ok (.istore_n 3, 1) := by decide +kernel
theorem d_M_someOfRing_8 : decode m_M_someOfRing.2.1 8 = .ok (.iload_n 3, 1) := by decide +kernel
theorem d_M_someOfRing_9 : decode m_M_someOfRing.2.1 9 = .ok (.aload_n 0, 1) := by decide +kernel
theorem d_M_someOfRing_10 : decode m_M_someOfRing.2.1 10 = .ok (.invokevirtual 72, 3) := by decide +kernel
theorem d_M_someOfRing_13 : decode m_M_someOfRing.2.1 13 = .ok (.if_icmp .ge 36, 3) := by decide +kernel
theorem d_M_someOfRing_16 : decode m_M_someOfRing.2.1 16 = .ok (.aload_n 0, 1) := by decide +kernel
theorem d_M_someOfRing_17 : decode m_M_someOfRing.2.1 17 = .ok (.iload_n 3, 1) := by decide +kernel
theorem d_M_someOfRing_18 : decode m_M_someOfRing.2.1 18 = .ok (.iload_n 2, 1) := by decide +kernel
theorem d_M_someOfRing_19 : decode m_M_someOfRing.2.1 19 = .ok (.invokevirtual 102, 3) := by decide +kernel
theorem d_M_someOfRing_22 : decode m_M_someOfRing.2.1 22 = .ok (.iload_n 1, 1) := by decide +kernel
theorem d_M_someOfRing_23 : decode m_M_someOfRing.2.1 23 = .ok (.if_icmp .ne 20, 3) := by decide +kernel
theorem d_M_someOfRing_26 : decode m_M_someOfRing.2.1 26 = .ok (.aload_n 0, 1) := by decide +kernel
theorem d_M_someOfRing_27 : decode m_M_someOfRing.2.1 27 = .ok (.getfield 16, 3) := by decide +kernel
theorem d_M_someOfRing_30 : decode m_M_someOfRing.2.1 30 = .ok (.iload_n 3, 1) := by decide +kernel
theorem d_M_someOfRing_31 : decode m_M_someOfRing.2.1 31 = .ok (.iconst 1, 1) := by decide +kernel
theorem d_M_someOfRing_32 : decode m_M_someOfRing.2.1 32 = .ok (.iload_n 2, 1) := by decide +kernel
theorem d_M_someOfRing_33 : decode m_M_someOfRing.2.1 33 = .ok (.iadd, 1) := by decide +kernel
theorem d_M_someOfRing_34 : decode m_M_someOfRing.2.1 34 = .ok (.invokestatic 237, 3) := by decide +kernel
theorem d_M_someOfRing_37 : decode m_M_someOfRing.2.1 37 = .ok (.baload, 1) := by decide +kernel
theorem d_M_someOfRing_38 : decode m_M_someOfRing.2.1 38 = .ok (.ifCond .eq 5, 3) := by decide +kernel
theorem d_M_someOfRing_41 : decode m_M_someOfRing.2.1 41 = .ok (.iconst 1, 1) := by decide +kernel
theorem d_M_someOfRing_42 : decode m_M_someOfRing.2.1 42 = .ok (.ireturn, 1) := by decide +kernel
theorem d_M_someOfRing_43 : decode m_M_someOfRing.2.1 43 = .ok (.iinc 3 1, 3) := by decide +kernel
theorem d_M_someOfRing_46 : decode m_M_someOfRing.2.1 46 = .ok (.goto (-38), 3) := by decide +kernel
theorem d_M_someOfRing_49 : decode m_M_someOfRing.2.1 49 = .ok (.iconst 0, 1) := by decide +kernel
theorem d_M_someOfRing_50 : decode m_M_someOfRing.2.1 50 = .ok (.ireturn, 1) := by decide +kernel
def f_M_someOfRing_8 : Nat → Int → Int → Int → qMem → Option (Int × qMem)
  | 0, _, _, _, _ => none
  | n + 1, x1, x2, x3, w =>
    (f_M_nodes w).bind fun q1 =>
    if x3 < q1.1 then
    (f_M_ringFor x3 x2 q1.2).bind fun q3 =>
    if q3.1 = x1 then
    (f_M_slot x3 (w32 (1 + x2)) q3.2).bind fun q5 =>
    qld q5.2 91 144 q5.1 fun v6 =>
    if v6 = 0 then
    (f_M_someOfRing_8 n) x1 x2 (w32 (x3 + 1)) q5.2
    else
    some (1, q5.2)
    else
    (f_M_someOfRing_8 n) x1 x2 (w32 (x3 + 1)) q3.2
    else
    some (0, q1.2)
set_option maxRecDepth 4000 in
theorem s_M_someOfRing_8  : ∀ (n : Nat), ∀ (x1 x2 x3 : Int) (w : qMem), qSim κI 100 100 m_M_someOfRing 8 [] [some (qR 88), some (qI x1), some (qI x2), some (qI x3)] w (f_M_someOfRing_8 n x1 x2 x3 w) := by
  intro n
  induction n with
  | zero => intro x1 x2 x3 w; exact z_none
  | succ n ih =>
    intro x1 x2 x3 w
    rw [f_M_someOfRing_8]
    refine z_iload_n d_M_someOfRing_8 rfl ?_
    refine z_aload_n d_M_someOfRing_9 rfl ?_
    refine z_cVI (as := []) (st := [qI x3]) (nl := 0) (ci := 10) d_M_someOfRing_10 lk_M_72 mk_M_nodes rfl rfl rfl rfl rfl rfl (s_M_nodes _) (fun q1 _ hq1 => ?_)
    refine z_icmp_ge (tgt := 49) d_M_someOfRing_13 rfl (fun c2 => ?_) (fun c2 => ?_)
    · refine z_aload_n d_M_someOfRing_16 rfl ?_
      refine z_iload_n d_M_someOfRing_17 rfl ?_
      refine z_iload_n d_M_someOfRing_18 rfl ?_
      refine z_cVI (as := [qI x3, qI x2]) (st := []) (nl := 0) (ci := 10) d_M_someOfRing_19 lk_M_102 mk_M_ringFor rfl rfl rfl rfl rfl rfl (s_M_ringFor _ _ _) (fun q3 _ hq3 => ?_)
      refine z_iload_n d_M_someOfRing_22 rfl ?_
      refine z_icmp_ne (tgt := 43) d_M_someOfRing_23 rfl (fun c4 => ?_) (fun c4 => ?_)
      · refine z_aload_n d_M_someOfRing_26 rfl ?_
        refine z_gr (ci := 10) (j := 3) (d := 3) (o2 := 91) d_M_someOfRing_27 rfl fl_M_16 rfl (Nat.le_of_ble_eq_true rfl) rfl rfl ?_
        refine z_iload_n d_M_someOfRing_30 rfl ?_
        refine z_ic1 d_M_someOfRing_31 ?_
        refine z_iload_n d_M_someOfRing_32 rfl ?_
        refine z_iadd d_M_someOfRing_33 ?_
        refine z_cSI (av := [qI x3, qI (w32 (1 + x2))]) (st := [qR 91]) (nl := 0) d_M_someOfRing_34 lk_M_237 mk_M_slot rfl rfl rfl (s_M_slot _ _ _) (fun q5 _ hq5 => ?_)
        refine z_zl d_M_someOfRing_37 rfl rfl (fun v6 hz7 => ?_)
        refine z_if_eq (tgt := 43) d_M_someOfRing_38 rfl (fun c8 => ?_) (fun c8 => ?_)
        · refine z_iinc (pls' := [some (qR 88), some (qI x1), some (qI x2), some (qI (w32 (x3 + 1)))]) d_M_someOfRing_43 (by decide) rfl rfl rfl ?_
          refine z_goto (tgt := 8) d_M_someOfRing_46 rfl ?_
          refine z_mask [true, true, true, true] ?_
          exact ih _ _ _ _
        · refine z_ic1 d_M_someOfRing_41 ?_
          exact z_zret d_M_someOfRing_42 rfl rfl (Or.inr rfl)
      · refine z_iinc (pls' := [some (qR 88), some (qI x1), some (qI x2), some (qI (w32 (x3 + 1)))]) d_M_someOfRing_43 (by decide) rfl rfl rfl ?_
        refine z_goto (tgt := 8) d_M_someOfRing_46 rfl ?_
        refine z_mask [true, true, true, true] ?_
        exact ih _ _ _ _
    · refine z_ic0 d_M_someOfRing_49 ?_
      exact z_zret d_M_someOfRing_50 rfl rfl (Or.inl rfl)
def f_M_someOfRing (x1 : Int) (w : qMem) : Option (Int × qMem) :=
  (f_M_directionOf x1 w).bind fun q9 =>
  f_M_someOfRing_8 qFU x1 q9.1 0 q9.2
set_option maxRecDepth 4000 in
theorem s_M_someOfRing (x1 : Int) (w : qMem) : qSim κI 100 100 m_M_someOfRing 0 [] [some (qR 88), some (qI x1), none, none] w (f_M_someOfRing x1 w) := by
  unfold f_M_someOfRing
  refine z_aload_n d_M_someOfRing_0 rfl ?_
  refine z_iload_n d_M_someOfRing_1 rfl ?_
  refine z_cVI (as := [qI x1]) (st := []) (nl := 0) (ci := 10) d_M_someOfRing_2 lk_M_89 mk_M_directionOf rfl rfl rfl rfl rfl rfl (s_M_directionOf _ _) (fun q9 _ hq9 => ?_)
  refine z_istore_n (pls' := [some (qR 88), some (qI x1), some (qI q9.1), none]) d_M_someOfRing_5 (by decide) rfl rfl ?_
  refine z_ic0 d_M_someOfRing_6 ?_
  refine z_istore_n (pls' := [some (qR 88), some (qI x1), some (qI q9.1), some (qI 0)]) d_M_someOfRing_7 (by decide) rfl rfl ?_
  refine z_mask [true, true, true, true] ?_
  exact s_M_someOfRing_8 _ _ _ _ _
/-! BubbleTorusModel.canThen -/
theorem d_M_canThen_0 : decode m_M_canThen.2.1 0 = .ok (.aload_n 0, 1) := by decide +kernel
theorem d_M_canThen_1 : decode m_M_canThen.2.1 1 = .ok (.iload_n 1, 1) := by decide +kernel
theorem d_M_canThen_2 : decode m_M_canThen.2.1 2 = .ok (.iload_n 2, 1) := by decide +kernel
theorem d_M_canThen_3 : decode m_M_canThen.2.1 3 = .ok (.invokevirtual 145, 3) := by decide +kernel
theorem d_M_canThen_6 : decode m_M_canThen.2.1 6 = .ok (.istore_n 3, 1) := by decide +kernel
theorem d_M_canThen_7 : decode m_M_canThen.2.1 7 = .ok (.iconst 0, 1) := by decide +kernel
theorem d_M_canThen_8 : decode m_M_canThen.2.1 8 = .ok (.istore 4, 2) := by decide +kernel
theorem d_M_canThen_10 : decode m_M_canThen.2.1 10 = .ok (.iload 4, 2) := by decide +kernel
theorem d_M_canThen_12 : decode m_M_canThen.2.1 12 = .ok (.iconst 4, 1) := by decide +kernel
theorem d_M_canThen_13 : decode m_M_canThen.2.1 13 = .ok (.if_icmp .ge 119, 3) := by decide +kernel
theorem d_M_canThen_16 : decode m_M_canThen.2.1 16 = .ok (.aload_n 0, 1) := by decide +kernel
theorem d_M_canThen_17 : decode m_M_canThen.2.1 17 = .ok (.iload_n 1, 1) := by decide +kernel
theorem d_M_canThen_18 : decode m_M_canThen.2.1 18 = .ok (.iload 4, 2) := by decide +kernel
theorem d_M_canThen_20 : decode m_M_canThen.2.1 20 = .ok (.invokevirtual 79, 3) := by decide +kernel
theorem d_M_canThen_23 : decode m_M_canThen.2.1 23 = .ok (.istore 5, 2) := by decide +kernel
theorem d_M_canThen_25 : decode m_M_canThen.2.1 25 = .ok (.aload_n 0, 1) := by decide +kernel
theorem d_M_canThen_26 : decode m_M_canThen.2.1 26 = .ok (.iload_n 1, 1) := by decide +kernel
theorem d_M_canThen_27 : decode m_M_canThen.2.1 27 = .ok (.aload_n 0, 1) := by decide +kernel
theorem d_M_canThen_28 : decode m_M_canThen.2.1 28 = .ok (.iload_n 3, 1) := by decide +kernel
theorem d_M_canThen_29 : decode m_M_canThen.2.1 29 = .ok (.iconst 1, 1) := by decide +kernel
theorem d_M_canThen_30 : decode m_M_canThen.2.1 30 = .ok (.invokevirtual 142, 3) := by decide +kernel
theorem d_M_canThen_33 : decode m_M_canThen.2.1 33 = .ok (.iload 4, 2) := by decide +kernel
theorem d_M_canThen_35 : decode m_M_canThen.2.1 35 = .ok (.invokevirtual 86, 3) := by decide +kernel
theorem d_M_canThen_38 : decode m_M_canThen.2.1 38 = .ok (.ifCond .eq 22, 3) := by decide +kernel
theorem d_M_canThen_41 : decode m_M_canThen.2.1 41 = .ok (.aload_n 0, 1) := by decide +kernel
theorem d_M_canThen_42 : decode m_M_canThen.2.1 42 = .ok (.getfield 16, 3) := by decide +kernel
theorem d_M_canThen_45 : decode m_M_canThen.2.1 45 = .ok (.iload 5, 2) := by decide +kernel
theorem d_M_canThen_47 : decode m_M_canThen.2.1 47 = .ok (.iconst 5, 1) := by decide +kernel
theorem d_M_canThen_48 : decode m_M_canThen.2.1 48 = .ok (.iload 4, 2) := by decide +kernel
theorem d_M_canThen_50 : decode m_M_canThen.2.1 50 = .ok (.iadd, 1) := by decide +kernel
theorem d_M_canThen_51 : decode m_M_canThen.2.1 51 = .ok (.invokestatic 237, 3) := by decide +kernel
theorem d_M_canThen_54 : decode m_M_canThen.2.1 54 = .ok (.baload, 1) := by decide +kernel
theorem d_M_canThen_55 : decode m_M_canThen.2.1 55 = .ok (.ifCond .eq 5, 3) := by decide +kernel
theorem d_M_canThen_58 : decode m_M_canThen.2.1 58 = .ok (.iconst 1, 1) := by decide +kernel
theorem d_M_canThen_59 : decode m_M_canThen.2.1 59 = .ok (.ireturn, 1) := by decide +kernel
theorem d_M_canThen_60 : decode m_M_canThen.2.1 60 = .ok (.aload_n 0, 1) := by decide +kernel
theorem d_M_canThen_61 : decode m_M_canThen.2.1 61 = .ok (.iload_n 1, 1) := by decide +kernel
theorem d_M_canThen_62 : decode m_M_canThen.2.1 62 = .ok (.aload_n 0, 1) := by decide +kernel
theorem d_M_canThen_63 : decode m_M_canThen.2.1 63 = .ok (.iload_n 3, 1) := by decide +kernel
theorem d_M_canThen_64 : decode m_M_canThen.2.1 64 = .ok (.iconst 1, 1) := by decide +kernel
theorem d_M_canThen_65 : decode m_M_canThen.2.1 65 = .ok (.invokevirtual 142, 3) := by decide +kernel
theorem d_M_canThen_68 : decode m_M_canThen.2.1 68 = .ok (.invokevirtual 99, 3) := by decide +kernel
theorem d_M_canThen_71 : decode m_M_canThen.2.1 71 = .ok (.iload 4, 2) := by decide +kernel
theorem d_M_canThen_73 : decode m_M_canThen.2.1 73 = .ok (.if_icmp .eq 6, 3) := by decide +kernel
theorem d_M_canThen_76 : decode m_M_canThen.2.1 76 = .ok (.goto 50, 3) := by decide +kernel
theorem d_M_canThen_79 : decode m_M_canThen.2.1 79 = .ok (.aload_n 0, 1) := by decide +kernel
theorem d_M_canThen_80 : decode m_M_canThen.2.1 80 = .ok (.iload_n 3, 1) := by decide +kernel
theorem d_M_canThen_81 : decode m_M_canThen.2.1 81 = .ok (.iload_n 1, 1) := by decide +kernel
theorem d_M_canThen_82 : decode m_M_canThen.2.1 82 = .ok (.iload 4, 2) := by decide +kernel
theorem d_M_canThen_84 : decode m_M_canThen.2.1 84 = .ok (.invokevirtual 155, 3) := by decide +kernel
theorem d_M_canThen_87 : decode m_M_canThen.2.1 87 = .ok (.ifCond .eq 23, 3) := by decide +kernel
theorem d_M_canThen_90 : decode m_M_canThen.2.1 90 = .ok (.aload_n 0, 1) := by decide +kernel
theorem d_M_canThen_91 : decode m_M_canThen.2.1 91 = .ok (.getfield 16, 3) := by decide +kernel
theorem d_M_canThen_94 : decode m_M_canThen.2.1 94 = .ok (.iload 5, 2) := by decide +kernel
theorem d_M_canThen_96 : decode m_M_canThen.2.1 96 = .ok (.iconst 1, 1) := by decide +kernel
theorem d_M_canThen_97 : decode m_M_canThen.2.1 97 = .ok (.iload 4, 2) := by decide +kernel
theorem d_M_canThen_99 : decode m_M_canThen.2.1 99 = .ok (.iadd, 1) := by decide +kernel
theorem d_M_canThen_100 : decode m_M_canThen.2.1 100 = .ok (.invokestatic 237, 3) := by decide +kernel
theorem d_M_canThen_103 : decode m_M_canThen.2.1 103 = .ok (.baload, 1) := by decide +kernel
theorem d_M_canThen_104 : decode m_M_canThen.2.1 104 = .ok (.ifCond .eq 22, 3) := by decide +kernel
theorem d_M_canThen_107 : decode m_M_canThen.2.1 107 = .ok (.goto 17, 3) := by decide +kernel
theorem d_M_canThen_110 : decode m_M_canThen.2.1 110 = .ok (.aload_n 0, 1) := by decide +kernel
theorem d_M_canThen_111 : decode m_M_canThen.2.1 111 = .ok (.aload_n 0, 1) := by decide +kernel
theorem d_M_canThen_112 : decode m_M_canThen.2.1 112 = .ok (.iload_n 1, 1) := by decide +kernel
theorem d_M_canThen_113 : decode m_M_canThen.2.1 113 = .ok (.iload 4, 2) := by decide +kernel
theorem d_M_canThen_115 : decode m_M_canThen.2.1 115 = .ok (.invokevirtual 102, 3) := by decide +kernel
theorem d_M_canThen_118 : decode m_M_canThen.2.1 118 = .ok (.invokevirtual 240, 3) := by decide +kernel
theorem d_M_canThen_121 : decode m_M_canThen.2.1 121 = .ok (.ifCond .eq 5, 3) := by decide +kernel
theorem d_M_canThen_124 : decode m_M_canThen.2.1 124 = .ok (.iconst 1, 1) := by decide +kernel
theorem d_M_canThen_125 : decode m_M_canThen.2.1 125 = .ok (.ireturn, 1) := by decide +kernel
theorem d_M_canThen_126 : decode m_M_canThen.2.1 126 = .ok (.iinc 4 1, 3) := by decide +kernel
theorem d_M_canThen_129 : decode m_M_canThen.2.1 129 = .ok (.goto (-119), 3) := by decide +kernel
theorem d_M_canThen_132 : decode m_M_canThen.2.1 132 = .ok (.iconst 0, 1) := by decide +kernel
theorem d_M_canThen_133 : decode m_M_canThen.2.1 133 = .ok (.ireturn, 1) := by decide +kernel
def f_M_canThen_60 (r10 : Int → Int → Int → qMem → Option (Int × qMem)) (x1 x3 x4 x5 : Int) (w : qMem) : Option (Int × qMem) :=
  (f_M_of x3 1 w).bind fun q1 =>
  (f_M_escapeOf x1 q1.1 q1.2).bind fun q2 =>
  if q2.1 = x4 then
  (f_M_doesContinue x3 x1 x4 q2.2).bind fun q4 =>
  if q4.1 = 0 then
  (f_M_ringFor x1 x4 q4.2).bind fun q6 =>
  (f_M_someOfRing q6.1 q6.2).bind fun q7 =>
  if q7.1 = 0 then
  r10 x1 x3 (w32 (x4 + 1)) q7.2
  else
  some (1, q7.2)
  else
  (f_M_slot x5 (w32 (1 + x4)) q4.2).bind fun q9 =>
  qld q9.2 91 144 q9.1 fun v10 =>
  if v10 = 0 then
  r10 x1 x3 (w32 (x4 + 1)) q9.2
  else
  some (1, q9.2)
  else
  r10 x1 x3 (w32 (x4 + 1)) q2.2
set_option maxRecDepth 4000 in
theorem s_M_canThen_60  {r10 : Int → Int → Int → qMem → Option (Int × qMem)} (hr10 : ∀ x1 x3 x4 w, qSim κI 100 100 m_M_canThen 10 [] [some (qR 88), some (qI x1), none, some (qI x3), some (qI x4), none] w (r10 x1 x3 x4 w)) : ∀ (x1 x3 x4 x5 : Int) (w : qMem), qSim κI 100 100 m_M_canThen 60 [] [some (qR 88), some (qI x1), none, some (qI x3), some (qI x4), some (qI x5)] w (f_M_canThen_60 r10 x1 x3 x4 x5 w) := by
  intro x1 x3 x4 x5 w
  unfold f_M_canThen_60
  refine z_aload_n d_M_canThen_60 rfl ?_
  refine z_iload_n d_M_canThen_61 rfl ?_
  refine z_aload_n d_M_canThen_62 rfl ?_
  refine z_iload_n d_M_canThen_63 rfl ?_
  refine z_ic1 d_M_canThen_64 ?_
  refine z_cVI (as := [qI x3, qI 1]) (st := [qI x1, qR 88]) (nl := 0) (ci := 10) d_M_canThen_65 lk_M_142 mk_M_of rfl rfl rfl rfl rfl rfl (s_M_of _ _ _) (fun q1 _ hq1 => ?_)
  refine z_cVI (as := [qI x1, qI q1.1]) (st := []) (nl := 1) (ci := 10) d_M_canThen_68 lk_M_99 mk_M_escapeOf rfl rfl rfl rfl rfl rfl (s_M_escapeOf _ _ _) (fun q2 _ hq2 => ?_)
  refine z_iload d_M_canThen_71 rfl ?_
  refine z_icmp_eq (tgt := 79) d_M_canThen_73 rfl (fun c3 => ?_) (fun c3 => ?_)
  · refine z_aload_n d_M_canThen_79 rfl ?_
    refine z_iload_n d_M_canThen_80 rfl ?_
    refine z_iload_n d_M_canThen_81 rfl ?_
    refine z_iload d_M_canThen_82 rfl ?_
    refine z_cVI (as := [qI x3, qI x1, qI x4]) (st := []) (nl := 0) (ci := 10) d_M_canThen_84 lk_M_155 mk_M_doesContinue rfl rfl rfl rfl rfl rfl (s_M_doesContinue _ _ _ _) (fun q4 _ hq4 => ?_)
    refine z_if_eq (tgt := 110) d_M_canThen_87 rfl (fun c5 => ?_) (fun c5 => ?_)
    · refine z_aload_n d_M_canThen_110 rfl ?_
      refine z_aload_n d_M_canThen_111 rfl ?_
      refine z_iload_n d_M_canThen_112 rfl ?_
      refine z_iload d_M_canThen_113 rfl ?_
      refine z_cVI (as := [qI x1, qI x4]) (st := [qR 88]) (nl := 0) (ci := 10) d_M_canThen_115 lk_M_102 mk_M_ringFor rfl rfl rfl rfl rfl rfl (s_M_ringFor _ _ _) (fun q6 _ hq6 => ?_)
      refine z_cVI (as := [qI q6.1]) (st := []) (nl := 2) (ci := 10) d_M_canThen_118 lk_M_240 mk_M_someOfRing rfl rfl rfl rfl rfl rfl (s_M_someOfRing _ _) (fun q7 _ hq7 => ?_)
      refine z_if_eq (tgt := 126) d_M_canThen_121 rfl (fun c8 => ?_) (fun c8 => ?_)
      · refine z_iinc (pls' := [some (qR 88), some (qI x1), none, some (qI x3), some (qI (w32 (x4 + 1))), some (qI x5)]) d_M_canThen_126 (by decide) rfl rfl rfl ?_
        refine z_goto (tgt := 10) d_M_canThen_129 rfl ?_
        refine z_mask [true, true, false, true, true, false] ?_
        exact hr10 _ _ _ _
      · refine z_ic1 d_M_canThen_124 ?_
        exact z_zret d_M_canThen_125 rfl rfl (Or.inr rfl)
    · refine z_aload_n d_M_canThen_90 rfl ?_
      refine z_gr (ci := 10) (j := 3) (d := 3) (o2 := 91) d_M_canThen_91 rfl fl_M_16 rfl (Nat.le_of_ble_eq_true rfl) rfl rfl ?_
      refine z_iload d_M_canThen_94 rfl ?_
      refine z_ic1 d_M_canThen_96 ?_
      refine z_iload d_M_canThen_97 rfl ?_
      refine z_iadd d_M_canThen_99 ?_
      refine z_cSI (av := [qI x5, qI (w32 (1 + x4))]) (st := [qR 91]) (nl := 0) d_M_canThen_100 lk_M_237 mk_M_slot rfl rfl rfl (s_M_slot _ _ _) (fun q9 _ hq9 => ?_)
      refine z_zl d_M_canThen_103 rfl rfl (fun v10 hz11 => ?_)
      refine z_if_eq (tgt := 126) d_M_canThen_104 rfl (fun c12 => ?_) (fun c12 => ?_)
      · refine z_iinc (pls' := [some (qR 88), some (qI x1), none, some (qI x3), some (qI (w32 (x4 + 1))), some (qI x5)]) d_M_canThen_126 (by decide) rfl rfl rfl ?_
        refine z_goto (tgt := 10) d_M_canThen_129 rfl ?_
        refine z_mask [true, true, false, true, true, false] ?_
        exact hr10 _ _ _ _
      · refine z_goto (tgt := 124) d_M_canThen_107 rfl ?_
        refine z_ic1 d_M_canThen_124 ?_
        exact z_zret d_M_canThen_125 rfl rfl (Or.inr rfl)
  · refine z_goto (tgt := 126) d_M_canThen_76 rfl ?_
    refine z_iinc (pls' := [some (qR 88), some (qI x1), none, some (qI x3), some (qI (w32 (x4 + 1))), some (qI x5)]) d_M_canThen_126 (by decide) rfl rfl rfl ?_
    refine z_goto (tgt := 10) d_M_canThen_129 rfl ?_
    refine z_mask [true, true, false, true, true, false] ?_
    exact hr10 _ _ _ _
def f_M_canThen_10 : Nat → Int → Int → Int → qMem → Option (Int × qMem)
  | 0, _, _, _, _ => none
  | n + 1, x1, x3, x4, w =>
    if x4 < 4 then
    (f_M_nextOf x1 x4 w).bind fun q14 =>
    (f_M_of x3 1 q14.2).bind fun q15 =>
    (f_M_isProfitable x1 q15.1 x4 q15.2).bind fun q16 =>
    if q16.1 = 0 then
    f_M_canThen_60 (f_M_canThen_10 n) x1 x3 x4 q14.1 q16.2
    else
    (f_M_slot q14.1 (w32 (5 + x4)) q16.2).bind fun q18 =>
    qld q18.2 91 144 q18.1 fun v19 =>
    if v19 = 0 then
    f_M_canThen_60 (f_M_canThen_10 n) x1 x3 x4 q14.1 q18.2
    else
    some (1, q18.2)
    else
    some (0, w)
set_option maxRecDepth 4000 in
theorem s_M_canThen_10  : ∀ (n : Nat), ∀ (x1 x3 x4 : Int) (w : qMem), qSim κI 100 100 m_M_canThen 10 [] [some (qR 88), some (qI x1), none, some (qI x3), some (qI x4), none] w (f_M_canThen_10 n x1 x3 x4 w) := by
  intro n
  induction n with
  | zero => intro x1 x3 x4 w; exact z_none
  | succ n ih =>
    intro x1 x3 x4 w
    rw [f_M_canThen_10]
    refine z_iload d_M_canThen_10 rfl ?_
    refine z_ic4 d_M_canThen_12 ?_
    refine z_icmp_ge (tgt := 132) d_M_canThen_13 rfl (fun c13 => ?_) (fun c13 => ?_)
    · refine z_aload_n d_M_canThen_16 rfl ?_
      refine z_iload_n d_M_canThen_17 rfl ?_
      refine z_iload d_M_canThen_18 rfl ?_
      refine z_cVI (as := [qI x1, qI x4]) (st := []) (nl := 2) (ci := 10) d_M_canThen_20 lk_M_79 mk_M_nextOf rfl rfl rfl rfl rfl rfl (s_M_nextOf _ _ _) (fun q14 _ hq14 => ?_)
      refine z_istore (pls' := [some (qR 88), some (qI x1), none, some (qI x3), some (qI x4), some (qI q14.1)]) d_M_canThen_23 (by decide) rfl rfl ?_
      refine z_aload_n d_M_canThen_25 rfl ?_
      refine z_iload_n d_M_canThen_26 rfl ?_
      refine z_aload_n d_M_canThen_27 rfl ?_
      refine z_iload_n d_M_canThen_28 rfl ?_
      refine z_ic1 d_M_canThen_29 ?_
      refine z_cVI (as := [qI x3, qI 1]) (st := [qI x1, qR 88]) (nl := 0) (ci := 10) d_M_canThen_30 lk_M_142 mk_M_of rfl rfl rfl rfl rfl rfl (s_M_of _ _ _) (fun q15 _ hq15 => ?_)
      refine z_iload d_M_canThen_33 rfl ?_
      refine z_cVI (as := [qI x1, qI q15.1, qI x4]) (st := []) (nl := 0) (ci := 10) d_M_canThen_35 lk_M_86 mk_M_isProfitable rfl rfl rfl rfl rfl rfl (s_M_isProfitable _ _ _ _) (fun q16 _ hq16 => ?_)
      refine z_if_eq (tgt := 60) d_M_canThen_38 rfl (fun c17 => ?_) (fun c17 => ?_)
      · refine z_mask [true, true, false, true, true, true] ?_
        exact s_M_canThen_60 ih _ _ _ _ _
      · refine z_aload_n d_M_canThen_41 rfl ?_
        refine z_gr (ci := 10) (j := 3) (d := 3) (o2 := 91) d_M_canThen_42 rfl fl_M_16 rfl (Nat.le_of_ble_eq_true rfl) rfl rfl ?_
        refine z_iload d_M_canThen_45 rfl ?_
        refine z_ic5 d_M_canThen_47 ?_
        refine z_iload d_M_canThen_48 rfl ?_
        refine z_iadd d_M_canThen_50 ?_
        refine z_cSI (av := [qI q14.1, qI (w32 (5 + x4))]) (st := [qR 91]) (nl := 0) d_M_canThen_51 lk_M_237 mk_M_slot rfl rfl rfl (s_M_slot _ _ _) (fun q18 _ hq18 => ?_)
        refine z_zl d_M_canThen_54 rfl rfl (fun v19 hz20 => ?_)
        refine z_if_eq (tgt := 60) d_M_canThen_55 rfl (fun c21 => ?_) (fun c21 => ?_)
        · refine z_mask [true, true, false, true, true, true] ?_
          exact s_M_canThen_60 ih _ _ _ _ _
        · refine z_ic1 d_M_canThen_58 ?_
          exact z_zret d_M_canThen_59 rfl rfl (Or.inr rfl)
    · refine z_ic0 d_M_canThen_132 ?_
      exact z_zret d_M_canThen_133 rfl rfl (Or.inl rfl)
def f_M_canThen (x1 : Int) (x2 : Int) (w : qMem) : Option (Int × qMem) :=
  (f_M_firstOf x1 x2 w).bind fun q22 =>
  f_M_canThen_10 qFU x1 q22.1 0 q22.2
set_option maxRecDepth 4000 in
theorem s_M_canThen (x1 : Int) (x2 : Int) (w : qMem) : qSim κI 100 100 m_M_canThen 0 [] [some (qR 88), some (qI x1), some (qI x2), none, none, none] w (f_M_canThen x1 x2 w) := by
  unfold f_M_canThen
  refine z_aload_n d_M_canThen_0 rfl ?_
  refine z_iload_n d_M_canThen_1 rfl ?_
  refine z_iload_n d_M_canThen_2 rfl ?_
  refine z_cVI (as := [qI x1, qI x2]) (st := []) (nl := 0) (ci := 10) d_M_canThen_3 lk_M_145 mk_M_firstOf rfl rfl rfl rfl rfl rfl (s_M_firstOf _ _ _) (fun q22 _ hq22 => ?_)
  refine z_istore_n (pls' := [some (qR 88), some (qI x1), some (qI x2), some (qI q22.1), none, none]) d_M_canThen_6 (by decide) rfl rfl ?_
  refine z_ic0 d_M_canThen_7 ?_
  refine z_istore (pls' := [some (qR 88), some (qI x1), some (qI x2), some (qI q22.1), some (qI 0), none]) d_M_canThen_8 (by decide) rfl rfl ?_
  refine z_mask [true, true, false, true, true, false] ?_
  exact s_M_canThen_10 _ _ _ _ _
/-! BubbleTorusModel.laysOn -/
theorem d_M_laysOn_0 : decode m_M_laysOn.2.1 0 = .ok (.iconst 0, 1) := by decide +kernel
theorem d_M_laysOn_1 : decode m_M_laysOn.2.1 1 = .ok (.istore_n 1, 1) := by decide +kernel
theorem d_M_laysOn_2 : decode m_M_laysOn.2.1 2 = .ok (.iload_n 1, 1) := by decide +kernel
theorem d_M_laysOn_3 : decode m_M_laysOn.2.1 3 = .ok (.aload_n 0, 1) := by decide +kernel
theorem d_M_laysOn_4 : decode m_M_laysOn.2.1 4 = .ok (.invokevirtual 72, 3) := by decide +kernel
theorem d_M_laysOn_7 : decode m_M_laysOn.2.1 7 = .ok (.if_icmp .ge 56, 3) := by decide +kernel
theorem d_M_laysOn_10 : decode m_M_laysOn.2.1 10 = .ok (.iconst 0, 1) := by decide +kernel
theorem d_M_laysOn_11 : decode m_M_laysOn.2.1 11 = .ok (.istore_n 2, 1) := by decide +kernel
theorem d_M_laysOn_12 : decode m_M_laysOn.2.1 12 = .ok (.iload_n 2, 1) := by decide +kernel
theorem d_M_laysOn_13 : decode m_M_laysOn.2.1 13 = .ok (.bipush 9, 2) := by decide +kernel
theorem d_M_laysOn_15 : decode m_M_laysOn.2.1 15 = .ok (.if_icmp .ge 42, 3) := by decide +kernel
theorem d_M_laysOn_18 : decode m_M_laysOn.2.1 18 = .ok (.aload_n 0, 1) := by decide +kernel
theorem d_M_laysOn_19 : decode m_M_laysOn.2.1 19 = .ok (.getfield 16, 3) := by decide +kernel
theorem d_M_laysOn_22 : decode m_M_laysOn.2.1 22 = .ok (.iload_n 1, 1) := by decide +kernel
theorem d_M_laysOn_23 : decode m_M_laysOn.2.1 23 = .ok (.iload_n 2, 1) := by decide +kernel
theorem d_M_laysOn_24 : decode m_M_laysOn.2.1 24 = .ok (.invokestatic 237, 3) := by decide +kernel
theorem d_M_laysOn_27 : decode m_M_laysOn.2.1 27 = .ok (.aload_n 0, 1) := by decide +kernel
theorem d_M_laysOn_28 : decode m_M_laysOn.2.1 28 = .ok (.iload_n 1, 1) := by decide +kernel
theorem d_M_laysOn_29 : decode m_M_laysOn.2.1 29 = .ok (.iload_n 2, 1) := by decide +kernel
theorem d_M_laysOn_30 : decode m_M_laysOn.2.1 30 = .ok (.invokevirtual 108, 3) := by decide +kernel
theorem d_M_laysOn_33 : decode m_M_laysOn.2.1 33 = .ok (.ifCond .le 16, 3) := by decide +kernel
theorem d_M_laysOn_36 : decode m_M_laysOn.2.1 36 = .ok (.aload_n 0, 1) := by decide +kernel
theorem d_M_laysOn_37 : decode m_M_laysOn.2.1 37 = .ok (.iload_n 1, 1) := by decide +kernel
theorem d_M_laysOn_38 : decode m_M_laysOn.2.1 38 = .ok (.iload_n 2, 1) := by decide +kernel
theorem d_M_laysOn_39 : decode m_M_laysOn.2.1 39 = .ok (.invokevirtual 243, 3) := by decide +kernel
theorem d_M_laysOn_42 : decode m_M_laysOn.2.1 42 = .ok (.ifCond .eq 7, 3) := by decide +kernel
theorem d_M_laysOn_45 : decode m_M_laysOn.2.1 45 = .ok (.iconst 1, 1) := by decide +kernel
theorem d_M_laysOn_46 : decode m_M_laysOn.2.1 46 = .ok (.goto 4, 3) := by decide +kernel
theorem d_M_laysOn_49 : decode m_M_laysOn.2.1 49 = .ok (.iconst 0, 1) := by decide +kernel
theorem d_M_laysOn_50 : decode m_M_laysOn.2.1 50 = .ok (.bastore, 1) := by decide +kernel
theorem d_M_laysOn_51 : decode m_M_laysOn.2.1 51 = .ok (.iinc 2 1, 3) := by decide +kernel
theorem d_M_laysOn_54 : decode m_M_laysOn.2.1 54 = .ok (.goto (-42), 3) := by decide +kernel
theorem d_M_laysOn_57 : decode m_M_laysOn.2.1 57 = .ok (.iinc 1 1, 3) := by decide +kernel
theorem d_M_laysOn_60 : decode m_M_laysOn.2.1 60 = .ok (.goto (-58), 3) := by decide +kernel
theorem d_M_laysOn_63 : decode m_M_laysOn.2.1 63 = .ok (.iconst 1, 1) := by decide +kernel
theorem d_M_laysOn_64 : decode m_M_laysOn.2.1 64 = .ok (.istore_n 1, 1) := by decide +kernel
theorem d_M_laysOn_65 : decode m_M_laysOn.2.1 65 = .ok (.iload_n 1, 1) := by decide +kernel
theorem d_M_laysOn_66 : decode m_M_laysOn.2.1 66 = .ok (.ifCond .eq 85, 3) := by decide +kernel
theorem d_M_laysOn_69 : decode m_M_laysOn.2.1 69 = .ok (.iconst 0, 1) := by decide +kernel
theorem d_M_laysOn_70 : decode m_M_laysOn.2.1 70 = .ok (.istore_n 1, 1) := by decide +kernel
theorem d_M_laysOn_71 : decode m_M_laysOn.2.1 71 = .ok (.iconst 0, 1) := by decide +kernel
theorem d_M_laysOn_72 : decode m_M_laysOn.2.1 72 = .ok (.istore_n 2, 1) := by decide +kernel
theorem d_M_laysOn_73 : decode m_M_laysOn.2.1 73 = .ok (.iload_n 2, 1) := by decide +kernel
theorem d_M_laysOn_74 : decode m_M_laysOn.2.1 74 = .ok (.aload_n 0, 1) := by decide +kernel
theorem d_M_laysOn_75 : decode m_M_laysOn.2.1 75 = .ok (.invokevirtual 72, 3) := by decide +kernel
theorem d_M_laysOn_78 : decode m_M_laysOn.2.1 78 = .ok (.if_icmp .ge 70, 3) := by decide +kernel
theorem d_M_laysOn_81 : decode m_M_laysOn.2.1 81 = .ok (.iconst 0, 1) := by decide +kernel
theorem d_M_laysOn_82 : decode m_M_laysOn.2.1 82 = .ok (.istore_n 3, 1) := by decide +kernel
theorem d_M_laysOn_83 : decode m_M_laysOn.2.1 83 = .ok (.iload_n 3, 1) := by decide +kernel
theorem d_M_laysOn_84 : decode m_M_laysOn.2.1 84 = .ok (.bipush 9, 2) := by decide +kernel
theorem d_M_laysOn_86 : decode m_M_laysOn.2.1 86 = .ok (.if_icmp .ge 56, 3) := by decide +kernel
theorem d_M_laysOn_89 : decode m_M_laysOn.2.1 89 = .ok (.aload_n 0, 1) := by decide +kernel
theorem d_M_laysOn_90 : decode m_M_laysOn.2.1 90 = .ok (.getfield 16, 3) := by decide +kernel
theorem d_M_laysOn_93 : decode m_M_laysOn.2.1 93 = .ok (.iload_n 2, 1) := by decide +kernel
theorem d_M_laysOn_94 : decode m_M_laysOn.2.1 94 = .ok (.iload_n 3, 1) := by decide +kernel
theorem d_M_laysOn_95 : decode m_M_laysOn.2.1 95 = .ok (.invokestatic 237, 3) := by decide +kernel
theorem d_M_laysOn_98 : decode m_M_laysOn.2.1 98 = .ok (.baload, 1) := by decide +kernel
theorem d_M_laysOn_99 : decode m_M_laysOn.2.1 99 = .ok (.ifCond .ne 37, 3) := by decide +kernel
theorem d_M_laysOn_102 : decode m_M_laysOn.2.1 102 = .ok (.aload_n 0, 1) := by decide +kernel
theorem d_M_laysOn_103 : decode m_M_laysOn.2.1 103 = .ok (.iload_n 2, 1) := by decide +kernel
theorem d_M_laysOn_104 : decode m_M_laysOn.2.1 104 = .ok (.iload_n 3, 1) := by decide +kernel
theorem d_M_laysOn_105 : decode m_M_laysOn.2.1 105 = .ok (.invokevirtual 108, 3) := by decide +kernel
theorem d_M_laysOn_108 : decode m_M_laysOn.2.1 108 = .ok (.ifCond .eq 28, 3) := by decide +kernel
theorem d_M_laysOn_111 : decode m_M_laysOn.2.1 111 = .ok (.aload_n 0, 1) := by decide +kernel
theorem d_M_laysOn_112 : decode m_M_laysOn.2.1 112 = .ok (.iload_n 2, 1) := by decide +kernel
theorem d_M_laysOn_113 : decode m_M_laysOn.2.1 113 = .ok (.iload_n 3, 1) := by decide +kernel
theorem d_M_laysOn_114 : decode m_M_laysOn.2.1 114 = .ok (.invokevirtual 246, 3) := by decide +kernel
theorem d_M_laysOn_117 : decode m_M_laysOn.2.1 117 = .ok (.ifCond .ne 6, 3) := by decide +kernel
theorem d_M_laysOn_120 : decode m_M_laysOn.2.1 120 = .ok (.goto 16, 3) := by decide +kernel
theorem d_M_laysOn_123 : decode m_M_laysOn.2.1 123 = .ok (.aload_n 0, 1) := by decide +kernel
theorem d_M_laysOn_124 : decode m_M_laysOn.2.1 124 = .ok (.getfield 16, 3) := by decide +kernel
theorem d_M_laysOn_127 : decode m_M_laysOn.2.1 127 = .ok (.iload_n 2, 1) := by decide +kernel
theorem d_M_laysOn_128 : decode m_M_laysOn.2.1 128 = .ok (.iload_n 3, 1) := by decide +kernel
theorem d_M_laysOn_129 : decode m_M_laysOn.2.1 129 = .ok (.invokestatic 237, 3) := by decide +kernel
theorem d_M_laysOn_132 : decode m_M_laysOn.2.1 132 = .ok (.iconst 1, 1) := by decide +kernel
theorem d_M_laysOn_133 : decode m_M_laysOn.2.1 133 = .ok (.bastore, 1) := by decide +kernel
theorem d_M_laysOn_134 : decode m_M_laysOn.2.1 134 = .ok (.iconst 1, 1) := by decide +kernel
theorem d_M_laysOn_135 : decode m_M_laysOn.2.1 135 = .ok (.istore_n 1, 1) := by decide +kernel
theorem d_M_laysOn_136 : decode m_M_laysOn.2.1 136 = .ok (.iinc 3 1, 3) := by decide +kernel
theorem d_M_laysOn_139 : decode m_M_laysOn.2.1 139 = .ok (.goto (-56), 3) := by decide +kernel
theorem d_M_laysOn_142 : decode m_M_laysOn.2.1 142 = .ok (.iinc 2 1, 3) := by decide +kernel
theorem d_M_laysOn_145 : decode m_M_laysOn.2.1 145 = .ok (.goto (-72), 3) := by decide +kernel
theorem d_M_laysOn_148 : decode m_M_laysOn.2.1 148 = .ok (.goto (-83), 3) := by decide +kernel
theorem d_M_laysOn_151 : decode m_M_laysOn.2.1 151 = .ok (.return_, 1) := by decide +kernel
def f_M_laysOn_50 (r2 : Int → qMem → Option (qMem)) (r12 : Int → Int → qMem → Option (qMem)) (s1 s2 x1 x2 : Int) (w : qMem) : Option (qMem) :=
  qstz w 91 144 s1 s2 fun w1 =>
  r12 x1 (w32 (x2 + 1)) w1
set_option maxRecDepth 4000 in
theorem s_M_laysOn_50  {r2 : Int → qMem → Option (qMem)} {r12 : Int → Int → qMem → Option (qMem)} (hr2 : ∀ x1 w, qSim κV 100 100 m_M_laysOn 2 [] [some (qR 88), some (qI x1), none, none] w (r2 x1 w)) (hr12 : ∀ x1 x2 w, qSim κV 100 100 m_M_laysOn 12 [] [some (qR 88), some (qI x1), some (qI x2), none] w (r12 x1 x2 w)) : ∀ (s1 s2 x1 x2 : Int) (w : qMem), (s2 = 0 ∨ s2 = 1) → qSim κV 100 100 m_M_laysOn 50 [qI s2, qI s1, qR 91] [some (qR 88), some (qI x1), some (qI x2), none] w (f_M_laysOn_50 r2 r12 s1 s2 x1 x2 w) := by
  intro s1 s2 x1 x2 w hs2
  unfold f_M_laysOn_50
  refine z_zs d_M_laysOn_50 rfl rfl (fun w1 => ?_)
  refine z_iinc (pls' := [some (qR 88), some (qI x1), some (qI (w32 (x2 + 1))), none]) d_M_laysOn_51 (by decide) rfl rfl rfl ?_
  refine z_goto (tgt := 12) d_M_laysOn_54 rfl ?_
  refine z_mask [true, true, true, false] ?_
  exact hr12 _ _ _
def f_M_laysOn_12 (r2 : Int → qMem → Option (qMem)) : Nat → Int → Int → qMem → Option (qMem)
  | 0, _, _, _ => none
  | n + 1, x1, x2, w =>
    if x2 < 9 then
    (f_M_slot x1 x2 w).bind fun q3 =>
    (f_M_many x1 x2 q3.2).bind fun q4 =>
    if q4.1 ≤ 0 then
    f_M_laysOn_50 r2 (f_M_laysOn_12 r2 n) q3.1 0 x1 x2 q4.2
    else
    (f_M_canNow x1 x2 q4.2).bind fun q6 =>
    if q6.1 = 0 then
    f_M_laysOn_50 r2 (f_M_laysOn_12 r2 n) q3.1 0 x1 x2 q6.2
    else
    f_M_laysOn_50 r2 (f_M_laysOn_12 r2 n) q3.1 1 x1 x2 q6.2
    else
    r2 (w32 (x1 + 1)) w
set_option maxRecDepth 4000 in
theorem s_M_laysOn_12  {r2 : Int → qMem → Option (qMem)} (hr2 : ∀ x1 w, qSim κV 100 100 m_M_laysOn 2 [] [some (qR 88), some (qI x1), none, none] w (r2 x1 w)) : ∀ (n : Nat), ∀ (x1 x2 : Int) (w : qMem), qSim κV 100 100 m_M_laysOn 12 [] [some (qR 88), some (qI x1), some (qI x2), none] w (f_M_laysOn_12 r2 n x1 x2 w) := by
  intro n
  induction n with
  | zero => intro x1 x2 w; exact z_none
  | succ n ih =>
    intro x1 x2 w
    rw [f_M_laysOn_12]
    refine z_iload_n d_M_laysOn_12 rfl ?_
    refine z_bipush d_M_laysOn_13 ⟨by decide, by decide⟩ ?_
    refine z_icmp_ge (tgt := 57) d_M_laysOn_15 rfl (fun c2 => ?_) (fun c2 => ?_)
    · refine z_aload_n d_M_laysOn_18 rfl ?_
      refine z_gr (ci := 10) (j := 3) (d := 3) (o2 := 91) d_M_laysOn_19 rfl fl_M_16 rfl (Nat.le_of_ble_eq_true rfl) rfl rfl ?_
      refine z_iload_n d_M_laysOn_22 rfl ?_
      refine z_iload_n d_M_laysOn_23 rfl ?_
      refine z_cSI (av := [qI x1, qI x2]) (st := [qR 91]) (nl := 0) d_M_laysOn_24 lk_M_237 mk_M_slot rfl rfl rfl (s_M_slot _ _ _) (fun q3 _ hq3 => ?_)
      refine z_aload_n d_M_laysOn_27 rfl ?_
      refine z_iload_n d_M_laysOn_28 rfl ?_
      refine z_iload_n d_M_laysOn_29 rfl ?_
      refine z_cVI (as := [qI x1, qI x2]) (st := [qI q3.1, qR 91]) (nl := 0) (ci := 10) d_M_laysOn_30 lk_M_108 mk_M_many rfl rfl rfl rfl rfl rfl (s_M_many _ _ _) (fun q4 _ hq4 => ?_)
      refine z_if_le (tgt := 49) d_M_laysOn_33 rfl (fun c5 => ?_) (fun c5 => ?_)
      · refine z_ic0 d_M_laysOn_49 ?_
        refine z_mask [true, true, true, false] ?_
        exact s_M_laysOn_50 hr2 ih _ _ _ _ _ (Or.inl rfl)
      · refine z_aload_n d_M_laysOn_36 rfl ?_
        refine z_iload_n d_M_laysOn_37 rfl ?_
        refine z_iload_n d_M_laysOn_38 rfl ?_
        refine z_cVI (as := [qI x1, qI x2]) (st := [qI q3.1, qR 91]) (nl := 2) (ci := 10) d_M_laysOn_39 lk_M_243 mk_M_canNow rfl rfl rfl rfl rfl rfl (s_M_canNow _ _ _) (fun q6 _ hq6 => ?_)
        refine z_if_eq (tgt := 49) d_M_laysOn_42 rfl (fun c7 => ?_) (fun c7 => ?_)
        · refine z_ic0 d_M_laysOn_49 ?_
          refine z_mask [true, true, true, false] ?_
          exact s_M_laysOn_50 hr2 ih _ _ _ _ _ (Or.inl rfl)
        · refine z_ic1 d_M_laysOn_45 ?_
          refine z_goto (tgt := 50) d_M_laysOn_46 rfl ?_
          refine z_mask [true, true, true, false] ?_
          exact s_M_laysOn_50 hr2 ih _ _ _ _ _ (Or.inr rfl)
    · refine z_iinc (pls' := [some (qR 88), some (qI (w32 (x1 + 1))), some (qI x2), none]) d_M_laysOn_57 (by decide) rfl rfl rfl ?_
      refine z_goto (tgt := 2) d_M_laysOn_60 rfl ?_
      refine z_mask [true, true, false, false] ?_
      exact hr2 _ _
def f_M_laysOn_83 (r65 : Int → qMem → Option (qMem)) (r73 : Int → Int → qMem → Option (qMem)) : Nat → Int → Int → Int → qMem → Option (qMem)
  | 0, _, _, _, _ => none
  | n + 1, x1, x2, x3, w =>
    if x3 < 9 then
    (f_M_slot x2 x3 w).bind fun q9 =>
    qld q9.2 91 144 q9.1 fun v10 =>
    if v10 = 0 then
    (f_M_many x2 x3 q9.2).bind fun q13 =>
    if q13.1 = 0 then
    (f_M_laysOn_83 r65 r73 n) x1 x2 (w32 (x3 + 1)) q13.2
    else
    (f_M_canThen x2 x3 q13.2).bind fun q15 =>
    if q15.1 = 0 then
    (f_M_laysOn_83 r65 r73 n) x1 x2 (w32 (x3 + 1)) q15.2
    else
    (f_M_slot x2 x3 q15.2).bind fun q17 =>
    qstz q17.2 91 144 q17.1 1 fun w18 =>
    (f_M_laysOn_83 r65 r73 n) 1 x2 (w32 (x3 + 1)) w18
    else
    (f_M_laysOn_83 r65 r73 n) x1 x2 (w32 (x3 + 1)) q9.2
    else
    r73 x1 (w32 (x2 + 1)) w
set_option maxRecDepth 4000 in
theorem s_M_laysOn_83  {r65 : Int → qMem → Option (qMem)} {r73 : Int → Int → qMem → Option (qMem)} (hr65 : ∀ (x1 : Int) (w : qMem) (hx1 : x1 = 0 ∨ x1 = 1), qSim κV 100 100 m_M_laysOn 65 [] [some (qR 88), some (qI x1), none, none] w (r65 x1 w)) (hr73 : ∀ (x1 x2 : Int) (w : qMem) (hx1 : x1 = 0 ∨ x1 = 1), qSim κV 100 100 m_M_laysOn 73 [] [some (qR 88), some (qI x1), some (qI x2), none] w (r73 x1 x2 w)) : ∀ (n : Nat), ∀ (x1 x2 x3 : Int) (w : qMem), (x1 = 0 ∨ x1 = 1) → qSim κV 100 100 m_M_laysOn 83 [] [some (qR 88), some (qI x1), some (qI x2), some (qI x3)] w (f_M_laysOn_83 r65 r73 n x1 x2 x3 w) := by
  intro n
  induction n with
  | zero => intro x1 x2 x3 w hx1; exact z_none
  | succ n ih =>
    intro x1 x2 x3 w hx1
    rw [f_M_laysOn_83]
    refine z_iload_n d_M_laysOn_83 rfl ?_
    refine z_bipush d_M_laysOn_84 ⟨by decide, by decide⟩ ?_
    refine z_icmp_ge (tgt := 142) d_M_laysOn_86 rfl (fun c8 => ?_) (fun c8 => ?_)
    · refine z_aload_n d_M_laysOn_89 rfl ?_
      refine z_gr (ci := 10) (j := 3) (d := 3) (o2 := 91) d_M_laysOn_90 rfl fl_M_16 rfl (Nat.le_of_ble_eq_true rfl) rfl rfl ?_
      refine z_iload_n d_M_laysOn_93 rfl ?_
      refine z_iload_n d_M_laysOn_94 rfl ?_
      refine z_cSI (av := [qI x2, qI x3]) (st := [qR 91]) (nl := 0) d_M_laysOn_95 lk_M_237 mk_M_slot rfl rfl rfl (s_M_slot _ _ _) (fun q9 _ hq9 => ?_)
      refine z_zl d_M_laysOn_98 rfl rfl (fun v10 hz11 => ?_)
      refine z_if_ne (tgt := 136) d_M_laysOn_99 rfl (fun c12 => ?_) (fun c12 => ?_)
      · refine z_aload_n d_M_laysOn_102 rfl ?_
        refine z_iload_n d_M_laysOn_103 rfl ?_
        refine z_iload_n d_M_laysOn_104 rfl ?_
        refine z_cVI (as := [qI x2, qI x3]) (st := []) (nl := 0) (ci := 10) d_M_laysOn_105 lk_M_108 mk_M_many rfl rfl rfl rfl rfl rfl (s_M_many _ _ _) (fun q13 _ hq13 => ?_)
        refine z_if_eq (tgt := 136) d_M_laysOn_108 rfl (fun c14 => ?_) (fun c14 => ?_)
        · refine z_iinc (pls' := [some (qR 88), some (qI x1), some (qI x2), some (qI (w32 (x3 + 1)))]) d_M_laysOn_136 (by decide) rfl rfl rfl ?_
          refine z_goto (tgt := 83) d_M_laysOn_139 rfl ?_
          refine z_mask [true, true, true, true] ?_
          exact ih _ _ _ _ hx1
        · refine z_aload_n d_M_laysOn_111 rfl ?_
          refine z_iload_n d_M_laysOn_112 rfl ?_
          refine z_iload_n d_M_laysOn_113 rfl ?_
          refine z_cVI (as := [qI x2, qI x3]) (st := []) (nl := 3) (ci := 10) d_M_laysOn_114 lk_M_246 mk_M_canThen rfl rfl rfl rfl rfl rfl (s_M_canThen _ _ _) (fun q15 _ hq15 => ?_)
          refine z_if_ne (tgt := 123) d_M_laysOn_117 rfl (fun c16 => ?_) (fun c16 => ?_)
          · refine z_goto (tgt := 136) d_M_laysOn_120 rfl ?_
            refine z_iinc (pls' := [some (qR 88), some (qI x1), some (qI x2), some (qI (w32 (x3 + 1)))]) d_M_laysOn_136 (by decide) rfl rfl rfl ?_
            refine z_goto (tgt := 83) d_M_laysOn_139 rfl ?_
            refine z_mask [true, true, true, true] ?_
            exact ih _ _ _ _ hx1
          · refine z_aload_n d_M_laysOn_123 rfl ?_
            refine z_gr (ci := 10) (j := 3) (d := 3) (o2 := 91) d_M_laysOn_124 rfl fl_M_16 rfl (Nat.le_of_ble_eq_true rfl) rfl rfl ?_
            refine z_iload_n d_M_laysOn_127 rfl ?_
            refine z_iload_n d_M_laysOn_128 rfl ?_
            refine z_cSI (av := [qI x2, qI x3]) (st := [qR 91]) (nl := 0) d_M_laysOn_129 lk_M_237 mk_M_slot rfl rfl rfl (s_M_slot _ _ _) (fun q17 _ hq17 => ?_)
            refine z_ic1 d_M_laysOn_132 ?_
            refine z_zs d_M_laysOn_133 rfl rfl (fun w18 => ?_)
            refine z_ic1 d_M_laysOn_134 ?_
            refine z_istore_n (pls' := [some (qR 88), some (qI 1), some (qI x2), some (qI x3)]) d_M_laysOn_135 (by decide) rfl rfl ?_
            refine z_iinc (pls' := [some (qR 88), some (qI 1), some (qI x2), some (qI (w32 (x3 + 1)))]) d_M_laysOn_136 (by decide) rfl rfl rfl ?_
            refine z_goto (tgt := 83) d_M_laysOn_139 rfl ?_
            refine z_mask [true, true, true, true] ?_
            exact ih _ _ _ _ (Or.inr rfl)
      · refine z_iinc (pls' := [some (qR 88), some (qI x1), some (qI x2), some (qI (w32 (x3 + 1)))]) d_M_laysOn_136 (by decide) rfl rfl rfl ?_
        refine z_goto (tgt := 83) d_M_laysOn_139 rfl ?_
        refine z_mask [true, true, true, true] ?_
        exact ih _ _ _ _ hx1
    · refine z_iinc (pls' := [some (qR 88), some (qI x1), some (qI (w32 (x2 + 1))), some (qI x3)]) d_M_laysOn_142 (by decide) rfl rfl rfl ?_
      refine z_goto (tgt := 73) d_M_laysOn_145 rfl ?_
      refine z_mask [true, true, true, false] ?_
      exact hr73 _ _ _ hx1
def f_M_laysOn_73 (r65 : Int → qMem → Option (qMem)) : Nat → Int → Int → qMem → Option (qMem)
  | 0, _, _, _ => none
  | n + 1, x1, x2, w =>
    (f_M_nodes w).bind fun q19 =>
    if x2 < q19.1 then
    f_M_laysOn_83 r65 (f_M_laysOn_73 r65 n) qFU x1 x2 0 q19.2
    else
    r65 x1 q19.2
set_option maxRecDepth 4000 in
theorem s_M_laysOn_73  {r65 : Int → qMem → Option (qMem)} (hr65 : ∀ (x1 : Int) (w : qMem) (hx1 : x1 = 0 ∨ x1 = 1), qSim κV 100 100 m_M_laysOn 65 [] [some (qR 88), some (qI x1), none, none] w (r65 x1 w)) : ∀ (n : Nat), ∀ (x1 x2 : Int) (w : qMem), (x1 = 0 ∨ x1 = 1) → qSim κV 100 100 m_M_laysOn 73 [] [some (qR 88), some (qI x1), some (qI x2), none] w (f_M_laysOn_73 r65 n x1 x2 w) := by
  intro n
  induction n with
  | zero => intro x1 x2 w hx1; exact z_none
  | succ n ih =>
    intro x1 x2 w hx1
    rw [f_M_laysOn_73]
    refine z_iload_n d_M_laysOn_73 rfl ?_
    refine z_aload_n d_M_laysOn_74 rfl ?_
    refine z_cVI (as := []) (st := [qI x2]) (nl := 0) (ci := 10) d_M_laysOn_75 lk_M_72 mk_M_nodes rfl rfl rfl rfl rfl rfl (s_M_nodes _) (fun q19 _ hq19 => ?_)
    refine z_icmp_ge (tgt := 148) d_M_laysOn_78 rfl (fun c20 => ?_) (fun c20 => ?_)
    · refine z_ic0 d_M_laysOn_81 ?_
      refine z_istore_n (pls' := [some (qR 88), some (qI x1), some (qI x2), some (qI 0)]) d_M_laysOn_82 (by decide) rfl rfl ?_
      refine z_mask [true, true, true, true] ?_
      exact s_M_laysOn_83 hr65 ih _ _ _ _ _ hx1
    · refine z_goto (tgt := 65) d_M_laysOn_148 rfl ?_
      refine z_mask [true, true, false, false] ?_
      exact hr65 _ _ hx1
def f_M_laysOn_65 : Nat → Int → qMem → Option (qMem)
  | 0, _, _ => none
  | n + 1, x1, w =>
    if x1 = 0 then
    some w
    else
    f_M_laysOn_73 (f_M_laysOn_65 n) qFU 0 0 w
set_option maxRecDepth 4000 in
theorem s_M_laysOn_65  : ∀ (n : Nat), ∀ (x1 : Int) (w : qMem), (x1 = 0 ∨ x1 = 1) → qSim κV 100 100 m_M_laysOn 65 [] [some (qR 88), some (qI x1), none, none] w (f_M_laysOn_65 n x1 w) := by
  intro n
  induction n with
  | zero => intro x1 w hx1; exact z_none
  | succ n ih =>
    intro x1 w hx1
    rw [f_M_laysOn_65]
    refine z_iload_n d_M_laysOn_65 rfl ?_
    refine z_if_eq (tgt := 151) d_M_laysOn_66 rfl (fun c21 => ?_) (fun c21 => ?_)
    · exact z_vret d_M_laysOn_151 rfl rfl
    · refine z_ic0 d_M_laysOn_69 ?_
      refine z_istore_n (pls' := [some (qR 88), some (qI 0), none, none]) d_M_laysOn_70 (by decide) rfl rfl ?_
      refine z_ic0 d_M_laysOn_71 ?_
      refine z_istore_n (pls' := [some (qR 88), some (qI 0), some (qI 0), none]) d_M_laysOn_72 (by decide) rfl rfl ?_
      refine z_mask [true, true, true, false] ?_
      exact s_M_laysOn_73 ih _ _ _ _ (Or.inl rfl)
def f_M_laysOn_63 (w : qMem) : Option (qMem) :=
  f_M_laysOn_65 qFU 1 w
set_option maxRecDepth 4000 in
theorem s_M_laysOn_63  : ∀ (w : qMem), qSim κV 100 100 m_M_laysOn 63 [] [some (qR 88), none, none, none] w (f_M_laysOn_63 w) := by
  intro w
  unfold f_M_laysOn_63
  refine z_ic1 d_M_laysOn_63 ?_
  refine z_istore_n (pls' := [some (qR 88), some (qI 1), none, none]) d_M_laysOn_64 (by decide) rfl rfl ?_
  refine z_mask [true, true, false, false] ?_
  exact s_M_laysOn_65 _ _ _ (Or.inr rfl)
def f_M_laysOn_2 : Nat → Int → qMem → Option (qMem)
  | 0, _, _ => none
  | n + 1, x1, w =>
    (f_M_nodes w).bind fun q22 =>
    if x1 < q22.1 then
    f_M_laysOn_12 (f_M_laysOn_2 n) qFU x1 0 q22.2
    else
    f_M_laysOn_63 q22.2
set_option maxRecDepth 4000 in
theorem s_M_laysOn_2  : ∀ (n : Nat), ∀ (x1 : Int) (w : qMem), qSim κV 100 100 m_M_laysOn 2 [] [some (qR 88), some (qI x1), none, none] w (f_M_laysOn_2 n x1 w) := by
  intro n
  induction n with
  | zero => intro x1 w; exact z_none
  | succ n ih =>
    intro x1 w
    rw [f_M_laysOn_2]
    refine z_iload_n d_M_laysOn_2 rfl ?_
    refine z_aload_n d_M_laysOn_3 rfl ?_
    refine z_cVI (as := []) (st := [qI x1]) (nl := 0) (ci := 10) d_M_laysOn_4 lk_M_72 mk_M_nodes rfl rfl rfl rfl rfl rfl (s_M_nodes _) (fun q22 _ hq22 => ?_)
    refine z_icmp_ge (tgt := 63) d_M_laysOn_7 rfl (fun c23 => ?_) (fun c23 => ?_)
    · refine z_ic0 d_M_laysOn_10 ?_
      refine z_istore_n (pls' := [some (qR 88), some (qI x1), some (qI 0), none]) d_M_laysOn_11 (by decide) rfl rfl ?_
      refine z_mask [true, true, true, false] ?_
      exact s_M_laysOn_12 ih _ _ _ _
    · refine z_mask [true, false, false, false] ?_
      exact s_M_laysOn_63 _
def f_M_laysOn (w : qMem) : Option (qMem) :=
  f_M_laysOn_2 qFU 0 w
set_option maxRecDepth 4000 in
theorem s_M_laysOn (w : qMem) : qSim κV 100 100 m_M_laysOn 0 [] [some (qR 88), none, none, none] w (f_M_laysOn w) := by
  unfold f_M_laysOn
  refine z_ic0 d_M_laysOn_0 ?_
  refine z_istore_n (pls' := [some (qR 88), some (qI 0), none, none]) d_M_laysOn_1 (by decide) rfl rfl ?_
  refine z_mask [true, true, false, false] ?_
  exact s_M_laysOn_2 _ _ _
/-! BubbleTorusModel.goesOn -/
theorem d_M_goesOn_0 : decode m_M_goesOn.2.1 0 = .ok (.aload_n 0, 1) := by decide +kernel
theorem d_M_goesOn_1 : decode m_M_goesOn.2.1 1 = .ok (.iload_n 1, 1) := by decide +kernel
theorem d_M_goesOn_2 : decode m_M_goesOn.2.1 2 = .ok (.invokevirtual 215, 3) := by decide +kernel
theorem d_M_goesOn_5 : decode m_M_goesOn.2.1 5 = .ok (.ifCond .eq 14, 3) := by decide +kernel
theorem d_M_goesOn_8 : decode m_M_goesOn.2.1 8 = .ok (.aload_n 0, 1) := by decide +kernel
theorem d_M_goesOn_9 : decode m_M_goesOn.2.1 9 = .ok (.iload_n 1, 1) := by decide +kernel
theorem d_M_goesOn_10 : decode m_M_goesOn.2.1 10 = .ok (.bipush 7, 2) := by decide +kernel
theorem d_M_goesOn_12 : decode m_M_goesOn.2.1 12 = .ok (.invokevirtual 142, 3) := by decide +kernel
theorem d_M_goesOn_15 : decode m_M_goesOn.2.1 15 = .ok (.iconst (-1), 1) := by decide +kernel
theorem d_M_goesOn_16 : decode m_M_goesOn.2.1 16 = .ok (.if_icmp .eq 5, 3) := by decide +kernel
theorem d_M_goesOn_19 : decode m_M_goesOn.2.1 19 = .ok (.iconst (-1), 1) := by decide +kernel
theorem d_M_goesOn_20 : decode m_M_goesOn.2.1 20 = .ok (.ireturn, 1) := by decide +kernel
theorem d_M_goesOn_21 : decode m_M_goesOn.2.1 21 = .ok (.aload_n 0, 1) := by decide +kernel
theorem d_M_goesOn_22 : decode m_M_goesOn.2.1 22 = .ok (.iload_n 1, 1) := by decide +kernel
theorem d_M_goesOn_23 : decode m_M_goesOn.2.1 23 = .ok (.iconst 4, 1) := by decide +kernel
theorem d_M_goesOn_24 : decode m_M_goesOn.2.1 24 = .ok (.invokevirtual 142, 3) := by decide +kernel
theorem d_M_goesOn_27 : decode m_M_goesOn.2.1 27 = .ok (.istore_n 2, 1) := by decide +kernel
theorem d_M_goesOn_28 : decode m_M_goesOn.2.1 28 = .ok (.iconst 0, 1) := by decide +kernel
theorem d_M_goesOn_29 : decode m_M_goesOn.2.1 29 = .ok (.istore_n 3, 1) := by decide +kernel
theorem d_M_goesOn_30 : decode m_M_goesOn.2.1 30 = .ok (.iload_n 3, 1) := by decide +kernel
theorem d_M_goesOn_31 : decode m_M_goesOn.2.1 31 = .ok (.bipush 9, 2) := by decide +kernel
theorem d_M_goesOn_33 : decode m_M_goesOn.2.1 33 = .ok (.if_icmp .ge 45, 3) := by decide +kernel
theorem d_M_goesOn_36 : decode m_M_goesOn.2.1 36 = .ok (.aload_n 0, 1) := by decide +kernel
theorem d_M_goesOn_37 : decode m_M_goesOn.2.1 37 = .ok (.iload_n 2, 1) := by decide +kernel
theorem d_M_goesOn_38 : decode m_M_goesOn.2.1 38 = .ok (.iload_n 3, 1) := by decide +kernel
theorem d_M_goesOn_39 : decode m_M_goesOn.2.1 39 = .ok (.invokevirtual 145, 3) := by decide +kernel
theorem d_M_goesOn_42 : decode m_M_goesOn.2.1 42 = .ok (.iload_n 1, 1) := by decide +kernel
theorem d_M_goesOn_43 : decode m_M_goesOn.2.1 43 = .ok (.if_icmp .eq 6, 3) := by decide +kernel
theorem d_M_goesOn_46 : decode m_M_goesOn.2.1 46 = .ok (.goto 26, 3) := by decide +kernel
theorem d_M_goesOn_49 : decode m_M_goesOn.2.1 49 = .ok (.aload_n 0, 1) := by decide +kernel
theorem d_M_goesOn_50 : decode m_M_goesOn.2.1 50 = .ok (.invokevirtual 249, 3) := by decide +kernel
theorem d_M_goesOn_53 : decode m_M_goesOn.2.1 53 = .ok (.aload_n 0, 1) := by decide +kernel
theorem d_M_goesOn_54 : decode m_M_goesOn.2.1 54 = .ok (.getfield 16, 3) := by decide +kernel
theorem d_M_goesOn_57 : decode m_M_goesOn.2.1 57 = .ok (.iload_n 2, 1) := by decide +kernel
theorem d_M_goesOn_58 : decode m_M_goesOn.2.1 58 = .ok (.iload_n 3, 1) := by decide +kernel
theorem d_M_goesOn_59 : decode m_M_goesOn.2.1 59 = .ok (.invokestatic 237, 3) := by decide +kernel
theorem d_M_goesOn_62 : decode m_M_goesOn.2.1 62 = .ok (.baload, 1) := by decide +kernel
theorem d_M_goesOn_63 : decode m_M_goesOn.2.1 63 = .ok (.ifCond .eq 7, 3) := by decide +kernel
theorem d_M_goesOn_66 : decode m_M_goesOn.2.1 66 = .ok (.iconst 1, 1) := by decide +kernel
theorem d_M_goesOn_67 : decode m_M_goesOn.2.1 67 = .ok (.goto 4, 3) := by decide +kernel
theorem d_M_goesOn_70 : decode m_M_goesOn.2.1 70 = .ok (.iconst 0, 1) := by decide +kernel
theorem d_M_goesOn_71 : decode m_M_goesOn.2.1 71 = .ok (.ireturn, 1) := by decide +kernel
theorem d_M_goesOn_72 : decode m_M_goesOn.2.1 72 = .ok (.iinc 3 1, 3) := by decide +kernel
theorem d_M_goesOn_75 : decode m_M_goesOn.2.1 75 = .ok (.goto (-45), 3) := by decide +kernel
theorem d_M_goesOn_78 : decode m_M_goesOn.2.1 78 = .ok (.iconst (-1), 1) := by decide +kernel
theorem d_M_goesOn_79 : decode m_M_goesOn.2.1 79 = .ok (.ireturn, 1) := by decide +kernel
def f_M_goesOn_49 (x2 x3 : Int) (w : qMem) : Option (Int × qMem) :=
  (f_M_laysOn w).bind fun q1 =>
  (f_M_slot x2 x3 q1).bind fun q2 =>
  qld q2.2 91 144 q2.1 fun v3 =>
  if v3 = 0 then
  some (0, q2.2)
  else
  some (1, q2.2)
set_option maxRecDepth 4000 in
theorem s_M_goesOn_49  : ∀ (x2 x3 : Int) (w : qMem), qSim κI 100 100 m_M_goesOn 49 [] [some (qR 88), none, some (qI x2), some (qI x3)] w (f_M_goesOn_49 x2 x3 w) := by
  intro x2 x3 w
  unfold f_M_goesOn_49
  refine z_aload_n d_M_goesOn_49 rfl ?_
  refine z_cVV (as := []) (st := []) (nl := 3) (ci := 10) d_M_goesOn_50 lk_M_249 mk_M_laysOn rfl rfl rfl rfl rfl rfl (s_M_laysOn _) (fun q1 _ => ?_)
  refine z_aload_n d_M_goesOn_53 rfl ?_
  refine z_gr (ci := 10) (j := 3) (d := 3) (o2 := 91) d_M_goesOn_54 rfl fl_M_16 rfl (Nat.le_of_ble_eq_true rfl) rfl rfl ?_
  refine z_iload_n d_M_goesOn_57 rfl ?_
  refine z_iload_n d_M_goesOn_58 rfl ?_
  refine z_cSI (av := [qI x2, qI x3]) (st := [qR 91]) (nl := 0) d_M_goesOn_59 lk_M_237 mk_M_slot rfl rfl rfl (s_M_slot _ _ _) (fun q2 _ hq2 => ?_)
  refine z_zl d_M_goesOn_62 rfl rfl (fun v3 hz4 => ?_)
  refine z_if_eq (tgt := 70) d_M_goesOn_63 rfl (fun c5 => ?_) (fun c5 => ?_)
  · refine z_ic0 d_M_goesOn_70 ?_
    exact z_iret d_M_goesOn_71 rfl rfl
  · refine z_ic1 d_M_goesOn_66 ?_
    refine z_goto (tgt := 71) d_M_goesOn_67 rfl ?_
    exact z_iret d_M_goesOn_71 rfl rfl
def f_M_goesOn_30 : Nat → Int → Int → Int → qMem → Option (Int × qMem)
  | 0, _, _, _, _ => none
  | n + 1, x1, x2, x3, w =>
    if x3 < 9 then
    (f_M_firstOf x2 x3 w).bind fun q7 =>
    if q7.1 = x1 then
    f_M_goesOn_49 x2 x3 q7.2
    else
    (f_M_goesOn_30 n) x1 x2 (w32 (x3 + 1)) q7.2
    else
    some ((-1), w)
set_option maxRecDepth 4000 in
theorem s_M_goesOn_30  : ∀ (n : Nat), ∀ (x1 x2 x3 : Int) (w : qMem), qSim κI 100 100 m_M_goesOn 30 [] [some (qR 88), some (qI x1), some (qI x2), some (qI x3)] w (f_M_goesOn_30 n x1 x2 x3 w) := by
  intro n
  induction n with
  | zero => intro x1 x2 x3 w; exact z_none
  | succ n ih =>
    intro x1 x2 x3 w
    rw [f_M_goesOn_30]
    refine z_iload_n d_M_goesOn_30 rfl ?_
    refine z_bipush d_M_goesOn_31 ⟨by decide, by decide⟩ ?_
    refine z_icmp_ge (tgt := 78) d_M_goesOn_33 rfl (fun c6 => ?_) (fun c6 => ?_)
    · refine z_aload_n d_M_goesOn_36 rfl ?_
      refine z_iload_n d_M_goesOn_37 rfl ?_
      refine z_iload_n d_M_goesOn_38 rfl ?_
      refine z_cVI (as := [qI x2, qI x3]) (st := []) (nl := 0) (ci := 10) d_M_goesOn_39 lk_M_145 mk_M_firstOf rfl rfl rfl rfl rfl rfl (s_M_firstOf _ _ _) (fun q7 _ hq7 => ?_)
      refine z_iload_n d_M_goesOn_42 rfl ?_
      refine z_icmp_eq (tgt := 49) d_M_goesOn_43 rfl (fun c8 => ?_) (fun c8 => ?_)
      · refine z_mask [true, false, true, true] ?_
        exact s_M_goesOn_49 _ _ _
      · refine z_goto (tgt := 72) d_M_goesOn_46 rfl ?_
        refine z_iinc (pls' := [some (qR 88), some (qI x1), some (qI x2), some (qI (w32 (x3 + 1)))]) d_M_goesOn_72 (by decide) rfl rfl rfl ?_
        refine z_goto (tgt := 30) d_M_goesOn_75 rfl ?_
        refine z_mask [true, true, true, true] ?_
        exact ih _ _ _ _
    · refine z_icm1 d_M_goesOn_78 ?_
      exact z_iret d_M_goesOn_79 rfl rfl
def f_M_goesOn (x1 : Int) (w : qMem) : Option (Int × qMem) :=
  (f_M_isPacket x1 w).bind fun q9 =>
  if q9.1 = 0 then
  some ((-1), q9.2)
  else
  (f_M_of x1 7 q9.2).bind fun q11 =>
  if q11.1 = (-1) then
  (f_M_of x1 4 q11.2).bind fun q13 =>
  f_M_goesOn_30 qFU x1 q13.1 0 q13.2
  else
  some ((-1), q11.2)
set_option maxRecDepth 4000 in
theorem s_M_goesOn (x1 : Int) (w : qMem) : qSim κI 100 100 m_M_goesOn 0 [] [some (qR 88), some (qI x1), none, none] w (f_M_goesOn x1 w) := by
  unfold f_M_goesOn
  refine z_aload_n d_M_goesOn_0 rfl ?_
  refine z_iload_n d_M_goesOn_1 rfl ?_
  refine z_cVI (as := [qI x1]) (st := []) (nl := 0) (ci := 10) d_M_goesOn_2 lk_M_215 mk_M_isPacket rfl rfl rfl rfl rfl rfl (s_M_isPacket _ _) (fun q9 _ hq9 => ?_)
  refine z_if_eq (tgt := 19) d_M_goesOn_5 rfl (fun c10 => ?_) (fun c10 => ?_)
  · refine z_icm1 d_M_goesOn_19 ?_
    exact z_iret d_M_goesOn_20 rfl rfl
  · refine z_aload_n d_M_goesOn_8 rfl ?_
    refine z_iload_n d_M_goesOn_9 rfl ?_
    refine z_bipush d_M_goesOn_10 ⟨by decide, by decide⟩ ?_
    refine z_cVI (as := [qI x1, qI 7]) (st := []) (nl := 0) (ci := 10) d_M_goesOn_12 lk_M_142 mk_M_of rfl rfl rfl rfl rfl rfl (s_M_of _ _ _) (fun q11 _ hq11 => ?_)
    refine z_icm1 d_M_goesOn_15 ?_
    refine z_icmp_eq (tgt := 21) d_M_goesOn_16 rfl (fun c12 => ?_) (fun c12 => ?_)
    · refine z_aload_n d_M_goesOn_21 rfl ?_
      refine z_iload_n d_M_goesOn_22 rfl ?_
      refine z_ic4 d_M_goesOn_23 ?_
      refine z_cVI (as := [qI x1, qI 4]) (st := []) (nl := 0) (ci := 10) d_M_goesOn_24 lk_M_142 mk_M_of rfl rfl rfl rfl rfl rfl (s_M_of _ _ _) (fun q13 _ hq13 => ?_)
      refine z_istore_n (pls' := [some (qR 88), some (qI x1), some (qI q13.1), none]) d_M_goesOn_27 (by decide) rfl rfl ?_
      refine z_ic0 d_M_goesOn_28 ?_
      refine z_istore_n (pls' := [some (qR 88), some (qI x1), some (qI q13.1), some (qI 0)]) d_M_goesOn_29 (by decide) rfl rfl ?_
      refine z_mask [true, true, true, true] ?_
      exact s_M_goesOn_30 _ _ _ _ _
    · refine z_icm1 d_M_goesOn_19 ?_
      exact z_iret d_M_goesOn_20 rfl rfl
/-! BubbleTorusModel.stuck -/
theorem d_M_stuck_0 : decode m_M_stuck.2.1 0 = .ok (.aload_n 0, 1) := by decide +kernel
theorem d_M_stuck_1 : decode m_M_stuck.2.1 1 = .ok (.invokevirtual 249, 3) := by decide +kernel
theorem d_M_stuck_4 : decode m_M_stuck.2.1 4 = .ok (.iconst 0, 1) := by decide +kernel
theorem d_M_stuck_5 : decode m_M_stuck.2.1 5 = .ok (.istore_n 1, 1) := by decide +kernel
theorem d_M_stuck_6 : decode m_M_stuck.2.1 6 = .ok (.iconst 0, 1) := by decide +kernel
theorem d_M_stuck_7 : decode m_M_stuck.2.1 7 = .ok (.istore_n 2, 1) := by decide +kernel
theorem d_M_stuck_8 : decode m_M_stuck.2.1 8 = .ok (.iload_n 2, 1) := by decide +kernel
theorem d_M_stuck_9 : decode m_M_stuck.2.1 9 = .ok (.aload_n 0, 1) := by decide +kernel
theorem d_M_stuck_10 : decode m_M_stuck.2.1 10 = .ok (.invokevirtual 72, 3) := by decide +kernel
theorem d_M_stuck_13 : decode m_M_stuck.2.1 13 = .ok (.if_icmp .ge 49, 3) := by decide +kernel
theorem d_M_stuck_16 : decode m_M_stuck.2.1 16 = .ok (.iconst 0, 1) := by decide +kernel
theorem d_M_stuck_17 : decode m_M_stuck.2.1 17 = .ok (.istore_n 3, 1) := by decide +kernel
theorem d_M_stuck_18 : decode m_M_stuck.2.1 18 = .ok (.iload_n 3, 1) := by decide +kernel
theorem d_M_stuck_19 : decode m_M_stuck.2.1 19 = .ok (.bipush 9, 2) := by decide +kernel
theorem d_M_stuck_21 : decode m_M_stuck.2.1 21 = .ok (.if_icmp .ge 35, 3) := by decide +kernel
theorem d_M_stuck_24 : decode m_M_stuck.2.1 24 = .ok (.iload_n 1, 1) := by decide +kernel
theorem d_M_stuck_25 : decode m_M_stuck.2.1 25 = .ok (.aload_n 0, 1) := by decide +kernel
theorem d_M_stuck_26 : decode m_M_stuck.2.1 26 = .ok (.getfield 16, 3) := by decide +kernel
theorem d_M_stuck_29 : decode m_M_stuck.2.1 29 = .ok (.iload_n 2, 1) := by decide +kernel
theorem d_M_stuck_30 : decode m_M_stuck.2.1 30 = .ok (.iload_n 3, 1) := by decide +kernel
theorem d_M_stuck_31 : decode m_M_stuck.2.1 31 = .ok (.invokestatic 237, 3) := by decide +kernel
theorem d_M_stuck_34 : decode m_M_stuck.2.1 34 = .ok (.baload, 1) := by decide +kernel
theorem d_M_stuck_35 : decode m_M_stuck.2.1 35 = .ok (.ifCond .eq 7, 3) := by decide +kernel
theorem d_M_stuck_38 : decode m_M_stuck.2.1 38 = .ok (.iconst 0, 1) := by decide +kernel
theorem d_M_stuck_39 : decode m_M_stuck.2.1 39 = .ok (.goto 9, 3) := by decide +kernel
theorem d_M_stuck_42 : decode m_M_stuck.2.1 42 = .ok (.aload_n 0, 1) := by decide +kernel
theorem d_M_stuck_43 : decode m_M_stuck.2.1 43 = .ok (.iload_n 2, 1) := by decide +kernel
theorem d_M_stuck_44 : decode m_M_stuck.2.1 44 = .ok (.iload_n 3, 1) := by decide +kernel
theorem d_M_stuck_45 : decode m_M_stuck.2.1 45 = .ok (.invokevirtual 108, 3) := by decide +kernel
theorem d_M_stuck_48 : decode m_M_stuck.2.1 48 = .ok (.iadd, 1) := by decide +kernel
theorem d_M_stuck_49 : decode m_M_stuck.2.1 49 = .ok (.istore_n 1, 1) := by decide +kernel
theorem d_M_stuck_50 : decode m_M_stuck.2.1 50 = .ok (.iinc 3 1, 3) := by decide +kernel
theorem d_M_stuck_53 : decode m_M_stuck.2.1 53 = .ok (.goto (-35), 3) := by decide +kernel
theorem d_M_stuck_56 : decode m_M_stuck.2.1 56 = .ok (.iinc 2 1, 3) := by decide +kernel
theorem d_M_stuck_59 : decode m_M_stuck.2.1 59 = .ok (.goto (-51), 3) := by decide +kernel
theorem d_M_stuck_62 : decode m_M_stuck.2.1 62 = .ok (.iload_n 1, 1) := by decide +kernel
theorem d_M_stuck_63 : decode m_M_stuck.2.1 63 = .ok (.ireturn, 1) := by decide +kernel
def f_M_stuck_48 (r8 : Int → Int → qMem → Option (Int × qMem)) (r18 : Int → Int → Int → qMem → Option (Int × qMem)) (s0 s1 x2 x3 : Int) (w : qMem) : Option (Int × qMem) :=
  r18 (w32 (s0 + s1)) x2 (w32 (x3 + 1)) w
set_option maxRecDepth 4000 in
theorem s_M_stuck_48  {r8 : Int → Int → qMem → Option (Int × qMem)} {r18 : Int → Int → Int → qMem → Option (Int × qMem)} (hr8 : ∀ x1 x2 w, qSim κI 100 100 m_M_stuck 8 [] [some (qR 88), some (qI x1), some (qI x2), none] w (r8 x1 x2 w)) (hr18 : ∀ x1 x2 x3 w, qSim κI 100 100 m_M_stuck 18 [] [some (qR 88), some (qI x1), some (qI x2), some (qI x3)] w (r18 x1 x2 x3 w)) : ∀ (s0 s1 x2 x3 : Int) (w : qMem), qSim κI 100 100 m_M_stuck 48 [qI s1, qI s0] [some (qR 88), none, some (qI x2), some (qI x3)] w (f_M_stuck_48 r8 r18 s0 s1 x2 x3 w) := by
  intro s0 s1 x2 x3 w
  unfold f_M_stuck_48
  refine z_iadd d_M_stuck_48 ?_
  refine z_istore_n (pls' := [some (qR 88), some (qI (w32 (s0 + s1))), some (qI x2), some (qI x3)]) d_M_stuck_49 (by decide) rfl rfl ?_
  refine z_iinc (pls' := [some (qR 88), some (qI (w32 (s0 + s1))), some (qI x2), some (qI (w32 (x3 + 1)))]) d_M_stuck_50 (by decide) rfl rfl rfl ?_
  refine z_goto (tgt := 18) d_M_stuck_53 rfl ?_
  refine z_mask [true, true, true, true] ?_
  exact hr18 _ _ _ _
def f_M_stuck_18 (r8 : Int → Int → qMem → Option (Int × qMem)) : Nat → Int → Int → Int → qMem → Option (Int × qMem)
  | 0, _, _, _, _ => none
  | n + 1, x1, x2, x3, w =>
    if x3 < 9 then
    (f_M_slot x2 x3 w).bind fun q2 =>
    qld q2.2 91 144 q2.1 fun v3 =>
    if v3 = 0 then
    (f_M_many x2 x3 q2.2).bind fun q6 =>
    f_M_stuck_48 r8 (f_M_stuck_18 r8 n) x1 q6.1 x2 x3 q6.2
    else
    f_M_stuck_48 r8 (f_M_stuck_18 r8 n) x1 0 x2 x3 q2.2
    else
    r8 x1 (w32 (x2 + 1)) w
set_option maxRecDepth 4000 in
theorem s_M_stuck_18  {r8 : Int → Int → qMem → Option (Int × qMem)} (hr8 : ∀ x1 x2 w, qSim κI 100 100 m_M_stuck 8 [] [some (qR 88), some (qI x1), some (qI x2), none] w (r8 x1 x2 w)) : ∀ (n : Nat), ∀ (x1 x2 x3 : Int) (w : qMem), qSim κI 100 100 m_M_stuck 18 [] [some (qR 88), some (qI x1), some (qI x2), some (qI x3)] w (f_M_stuck_18 r8 n x1 x2 x3 w) := by
  intro n
  induction n with
  | zero => intro x1 x2 x3 w; exact z_none
  | succ n ih =>
    intro x1 x2 x3 w
    rw [f_M_stuck_18]
    refine z_iload_n d_M_stuck_18 rfl ?_
    refine z_bipush d_M_stuck_19 ⟨by decide, by decide⟩ ?_
    refine z_icmp_ge (tgt := 56) d_M_stuck_21 rfl (fun c1 => ?_) (fun c1 => ?_)
    · refine z_iload_n d_M_stuck_24 rfl ?_
      refine z_aload_n d_M_stuck_25 rfl ?_
      refine z_gr (ci := 10) (j := 3) (d := 3) (o2 := 91) d_M_stuck_26 rfl fl_M_16 rfl (Nat.le_of_ble_eq_true rfl) rfl rfl ?_
      refine z_iload_n d_M_stuck_29 rfl ?_
      refine z_iload_n d_M_stuck_30 rfl ?_
      refine z_cSI (av := [qI x2, qI x3]) (st := [qR 91, qI x1]) (nl := 0) d_M_stuck_31 lk_M_237 mk_M_slot rfl rfl rfl (s_M_slot _ _ _) (fun q2 _ hq2 => ?_)
      refine z_zl d_M_stuck_34 rfl rfl (fun v3 hz4 => ?_)
      refine z_if_eq (tgt := 42) d_M_stuck_35 rfl (fun c5 => ?_) (fun c5 => ?_)
      · refine z_aload_n d_M_stuck_42 rfl ?_
        refine z_iload_n d_M_stuck_43 rfl ?_
        refine z_iload_n d_M_stuck_44 rfl ?_
        refine z_cVI (as := [qI x2, qI x3]) (st := [qI x1]) (nl := 0) (ci := 10) d_M_stuck_45 lk_M_108 mk_M_many rfl rfl rfl rfl rfl rfl (s_M_many _ _ _) (fun q6 _ hq6 => ?_)
        refine z_mask [true, false, true, true] ?_
        exact s_M_stuck_48 hr8 ih _ _ _ _ _
      · refine z_ic0 d_M_stuck_38 ?_
        refine z_goto (tgt := 48) d_M_stuck_39 rfl ?_
        refine z_mask [true, false, true, true] ?_
        exact s_M_stuck_48 hr8 ih _ _ _ _ _
    · refine z_iinc (pls' := [some (qR 88), some (qI x1), some (qI (w32 (x2 + 1))), some (qI x3)]) d_M_stuck_56 (by decide) rfl rfl rfl ?_
      refine z_goto (tgt := 8) d_M_stuck_59 rfl ?_
      refine z_mask [true, true, true, false] ?_
      exact hr8 _ _ _
def f_M_stuck_8 : Nat → Int → Int → qMem → Option (Int × qMem)
  | 0, _, _, _ => none
  | n + 1, x1, x2, w =>
    (f_M_nodes w).bind fun q7 =>
    if x2 < q7.1 then
    f_M_stuck_18 (f_M_stuck_8 n) qFU x1 x2 0 q7.2
    else
    some (x1, q7.2)
set_option maxRecDepth 4000 in
theorem s_M_stuck_8  : ∀ (n : Nat), ∀ (x1 x2 : Int) (w : qMem), qSim κI 100 100 m_M_stuck 8 [] [some (qR 88), some (qI x1), some (qI x2), none] w (f_M_stuck_8 n x1 x2 w) := by
  intro n
  induction n with
  | zero => intro x1 x2 w; exact z_none
  | succ n ih =>
    intro x1 x2 w
    rw [f_M_stuck_8]
    refine z_iload_n d_M_stuck_8 rfl ?_
    refine z_aload_n d_M_stuck_9 rfl ?_
    refine z_cVI (as := []) (st := [qI x2]) (nl := 0) (ci := 10) d_M_stuck_10 lk_M_72 mk_M_nodes rfl rfl rfl rfl rfl rfl (s_M_nodes _) (fun q7 _ hq7 => ?_)
    refine z_icmp_ge (tgt := 62) d_M_stuck_13 rfl (fun c8 => ?_) (fun c8 => ?_)
    · refine z_ic0 d_M_stuck_16 ?_
      refine z_istore_n (pls' := [some (qR 88), some (qI x1), some (qI x2), some (qI 0)]) d_M_stuck_17 (by decide) rfl rfl ?_
      refine z_mask [true, true, true, true] ?_
      exact s_M_stuck_18 ih _ _ _ _ _
    · refine z_iload_n d_M_stuck_62 rfl ?_
      exact z_iret d_M_stuck_63 rfl rfl
def f_M_stuck (w : qMem) : Option (Int × qMem) :=
  (f_M_laysOn w).bind fun q9 =>
  f_M_stuck_8 qFU 0 0 q9
set_option maxRecDepth 4000 in
theorem s_M_stuck (w : qMem) : qSim κI 100 100 m_M_stuck 0 [] [some (qR 88), none, none, none] w (f_M_stuck w) := by
  unfold f_M_stuck
  refine z_aload_n d_M_stuck_0 rfl ?_
  refine z_cVV (as := []) (st := []) (nl := 3) (ci := 10) d_M_stuck_1 lk_M_249 mk_M_laysOn rfl rfl rfl rfl rfl rfl (s_M_laysOn _) (fun q9 _ => ?_)
  refine z_ic0 d_M_stuck_4 ?_
  refine z_istore_n (pls' := [some (qR 88), some (qI 0), none, none]) d_M_stuck_5 (by decide) rfl rfl ?_
  refine z_ic0 d_M_stuck_6 ?_
  refine z_istore_n (pls' := [some (qR 88), some (qI 0), some (qI 0), none]) d_M_stuck_7 (by decide) rfl rfl ?_
  refine z_mask [true, true, true, false] ?_
  exact s_M_stuck_8 _ _ _ _
/-! BubbleTorusModel.dead -/
theorem d_M_dead_0 : decode m_M_dead.2.1 0 = .ok (.aload_n 0, 1) := by decide +kernel
theorem d_M_dead_1 : decode m_M_dead.2.1 1 = .ok (.getfield 7, 3) := by decide +kernel
theorem d_M_dead_4 : decode m_M_dead.2.1 4 = .ok (.bipush 7, 2) := by decide +kernel
theorem d_M_dead_6 : decode m_M_dead.2.1 6 = .ok (.iaload, 1) := by decide +kernel
theorem d_M_dead_7 : decode m_M_dead.2.1 7 = .ok (.aload_n 0, 1) := by decide +kernel
theorem d_M_dead_8 : decode m_M_dead.2.1 8 = .ok (.getfield 7, 3) := by decide +kernel
theorem d_M_dead_11 : decode m_M_dead.2.1 11 = .ok (.bipush 8, 2) := by decide +kernel
theorem d_M_dead_13 : decode m_M_dead.2.1 13 = .ok (.iaload, 1) := by decide +kernel
theorem d_M_dead_14 : decode m_M_dead.2.1 14 = .ok (.if_icmp .le 29, 3) := by decide +kernel
theorem d_M_dead_17 : decode m_M_dead.2.1 17 = .ok (.aload_n 0, 1) := by decide +kernel
theorem d_M_dead_18 : decode m_M_dead.2.1 18 = .ok (.invokevirtual 252, 3) := by decide +kernel
theorem d_M_dead_21 : decode m_M_dead.2.1 21 = .ok (.aload_n 0, 1) := by decide +kernel
theorem d_M_dead_22 : decode m_M_dead.2.1 22 = .ok (.getfield 7, 3) := by decide +kernel
theorem d_M_dead_25 : decode m_M_dead.2.1 25 = .ok (.bipush 7, 2) := by decide +kernel
theorem d_M_dead_27 : decode m_M_dead.2.1 27 = .ok (.iaload, 1) := by decide +kernel
theorem d_M_dead_28 : decode m_M_dead.2.1 28 = .ok (.aload_n 0, 1) := by decide +kernel
theorem d_M_dead_29 : decode m_M_dead.2.1 29 = .ok (.getfield 7, 3) := by decide +kernel
theorem d_M_dead_32 : decode m_M_dead.2.1 32 = .ok (.bipush 8, 2) := by decide +kernel
theorem d_M_dead_34 : decode m_M_dead.2.1 34 = .ok (.iaload, 1) := by decide +kernel
theorem d_M_dead_35 : decode m_M_dead.2.1 35 = .ok (.isub, 1) := by decide +kernel
theorem d_M_dead_36 : decode m_M_dead.2.1 36 = .ok (.if_icmp .ne 7, 3) := by decide +kernel
theorem d_M_dead_39 : decode m_M_dead.2.1 39 = .ok (.iconst 1, 1) := by decide +kernel
theorem d_M_dead_40 : decode m_M_dead.2.1 40 = .ok (.goto 4, 3) := by decide +kernel
theorem d_M_dead_43 : decode m_M_dead.2.1 43 = .ok (.iconst 0, 1) := by decide +kernel
theorem d_M_dead_44 : decode m_M_dead.2.1 44 = .ok (.ireturn, 1) := by decide +kernel
def f_M_dead (w : qMem) : Option (Int × qMem) :=
  qld w 89 5898 7 fun v1 =>
  qld w 89 5898 8 fun v2 =>
  if v1 ≤ v2 then
  some (0, w)
  else
  (f_M_stuck w).bind fun q4 =>
  qld q4.2 89 5898 7 fun v5 =>
  qld q4.2 89 5898 8 fun v6 =>
  if q4.1 = (w32 (v5 - v6)) then
  some (1, q4.2)
  else
  some (0, q4.2)
set_option maxRecDepth 4000 in
theorem s_M_dead (w : qMem) : qSim κI 100 100 m_M_dead 0 [] [some (qR 88)] w (f_M_dead w) := by
  unfold f_M_dead
  refine z_aload_n d_M_dead_0 rfl ?_
  refine z_gr (ci := 10) (j := 0) (d := 1) (o2 := 89) d_M_dead_1 rfl fl_M_7 rfl (Nat.le_of_ble_eq_true rfl) rfl rfl ?_
  refine z_bipush d_M_dead_4 ⟨by decide, by decide⟩ ?_
  refine z_il d_M_dead_6 rfl rfl (fun v1 => ?_)
  refine z_aload_n d_M_dead_7 rfl ?_
  refine z_gr (ci := 10) (j := 0) (d := 1) (o2 := 89) d_M_dead_8 rfl fl_M_7 rfl (Nat.le_of_ble_eq_true rfl) rfl rfl ?_
  refine z_bipush d_M_dead_11 ⟨by decide, by decide⟩ ?_
  refine z_il d_M_dead_13 rfl rfl (fun v2 => ?_)
  refine z_icmp_le (tgt := 43) d_M_dead_14 rfl (fun c3 => ?_) (fun c3 => ?_)
  · refine z_ic0 d_M_dead_43 ?_
    exact z_iret d_M_dead_44 rfl rfl
  · refine z_aload_n d_M_dead_17 rfl ?_
    refine z_cVI (as := []) (st := []) (nl := 3) (ci := 10) d_M_dead_18 lk_M_252 mk_M_stuck rfl rfl rfl rfl rfl rfl (s_M_stuck _) (fun q4 _ hq4 => ?_)
    refine z_aload_n d_M_dead_21 rfl ?_
    refine z_gr (ci := 10) (j := 0) (d := 1) (o2 := 89) d_M_dead_22 rfl fl_M_7 rfl (Nat.le_of_ble_eq_true rfl) rfl rfl ?_
    refine z_bipush d_M_dead_25 ⟨by decide, by decide⟩ ?_
    refine z_il d_M_dead_27 rfl rfl (fun v5 => ?_)
    refine z_aload_n d_M_dead_28 rfl ?_
    refine z_gr (ci := 10) (j := 0) (d := 1) (o2 := 89) d_M_dead_29 rfl fl_M_7 rfl (Nat.le_of_ble_eq_true rfl) rfl rfl ?_
    refine z_bipush d_M_dead_32 ⟨by decide, by decide⟩ ?_
    refine z_il d_M_dead_34 rfl rfl (fun v6 => ?_)
    refine z_isub d_M_dead_35 ?_
    refine z_icmp_ne (tgt := 43) d_M_dead_36 rfl (fun c7 => ?_) (fun c7 => ?_)
    · refine z_ic1 d_M_dead_39 ?_
      refine z_goto (tgt := 44) d_M_dead_40 rfl ?_
      exact z_iret d_M_dead_44 rfl rfl
    · refine z_ic0 d_M_dead_43 ?_
      exact z_iret d_M_dead_44 rfl rfl
