/-! java/util/Arrays.fill -/
theorem d_JA_fill_0 : decode m_JA_fill.2.1 0 = .ok (.iconst 0, 1) := by decide +kernel
theorem d_JA_fill_1 : decode m_JA_fill.2.1 1 = .ok (.istore_n 2, 1) := by decide +kernel
theorem d_JA_fill_2 : decode m_JA_fill.2.1 2 = .ok (.aload_n 0, 1) := by decide +kernel
theorem d_JA_fill_3 : decode m_JA_fill.2.1 3 = .ok (.arraylength, 1) := by decide +kernel
theorem d_JA_fill_4 : decode m_JA_fill.2.1 4 = .ok (.istore_n 3, 1) := by decide +kernel
theorem d_JA_fill_5 : decode m_JA_fill.2.1 5 = .ok (.iload_n 2, 1) := by decide +kernel
theorem d_JA_fill_6 : decode m_JA_fill.2.1 6 = .ok (.iload_n 3, 1) := by decide +kernel
theorem d_JA_fill_7 : decode m_JA_fill.2.1 7 = .ok (.if_icmp .ge 13, 3) := by decide +kernel
theorem d_JA_fill_10 : decode m_JA_fill.2.1 10 = .ok (.aload_n 0, 1) := by decide +kernel
theorem d_JA_fill_11 : decode m_JA_fill.2.1 11 = .ok (.iload_n 2, 1) := by decide +kernel
theorem d_JA_fill_12 : decode m_JA_fill.2.1 12 = .ok (.iload_n 1, 1) := by decide +kernel
theorem d_JA_fill_13 : decode m_JA_fill.2.1 13 = .ok (.iastore, 1) := by decide +kernel
theorem d_JA_fill_14 : decode m_JA_fill.2.1 14 = .ok (.iinc 2 1, 3) := by decide +kernel
theorem d_JA_fill_17 : decode m_JA_fill.2.1 17 = .ok (.goto (-12), 3) := by decide +kernel
theorem d_JA_fill_20 : decode m_JA_fill.2.1 20 = .ok (.return_, 1) := by decide +kernel
def f_JA_fill_5 (p0 : Nat) (n0 : Int) : Nat → Int → Int → Int → qMem → Option (qMem)
  | 0, _, _, _, _ => none
  | n + 1, x1, x2, x3, w =>
    if x2 < x3 then
    qst w p0 n0 x2 x1 fun w2 =>
    (f_JA_fill_5 p0 n0 n) x1 (w32 (x2 + 1)) x3 w2
    else
    some w
set_option maxRecDepth 4000 in
theorem s_JA_fill_5 {ph : Nat} {p0 : Nat} {n0 : Int} {m0 : Nat} (hp0 : qlay p0 = (0, m0)) (hn0 : (m0 : Int) = n0) (hm0 : n0 < 2147483648) : ∀ (n : Nat), ∀ (x1 x2 x3 : Int) (w : qMem), qSim κV ph ph m_JA_fill 5 [] [some (qR p0), some (qI x1), some (qI x2), some (qI x3)] w (f_JA_fill_5 p0 n0 n x1 x2 x3 w) := by
  intro n
  induction n with
  | zero => intro x1 x2 x3 w; exact z_none
  | succ n ih =>
    intro x1 x2 x3 w
    rw [f_JA_fill_5]
    refine z_iload_n d_JA_fill_5 rfl ?_
    refine z_iload_n d_JA_fill_6 rfl ?_
    refine z_icmp_ge (tgt := 20) d_JA_fill_7 rfl (fun c1 => ?_) (fun c1 => ?_)
    · refine z_aload_n d_JA_fill_10 rfl ?_
      refine z_iload_n d_JA_fill_11 rfl ?_
      refine z_iload_n d_JA_fill_12 rfl ?_
      refine z_is d_JA_fill_13 hp0 hn0 (fun w2 => ?_)
      refine z_iinc (pls' := [some (qR p0), some (qI x1), some (qI (w32 (x2 + 1))), some (qI x3)]) d_JA_fill_14 (by decide) rfl rfl rfl ?_
      refine z_goto (tgt := 5) d_JA_fill_17 rfl ?_
      refine z_mask [true, true, true, true] ?_
      exact ih _ _ _ _
    · exact z_vret d_JA_fill_20 rfl rfl
def f_JA_fill (p0 : Nat) (n0 : Int) (x1 : Int) (w : qMem) : Option (qMem) :=
  f_JA_fill_5 p0 n0 qFU x1 0 n0 w
set_option maxRecDepth 4000 in
theorem s_JA_fill {ph : Nat} {m0 : Nat} {p0 : Nat} {n0 : Int} (x1 : Int) (hp0 : qlay p0 = (0, m0)) (hn0 : (m0 : Int) = n0) (hm0 : n0 < 2147483648) (w : qMem) : qSim κV ph ph m_JA_fill 0 [] [some (qR p0), some (qI x1), none, none] w (f_JA_fill p0 n0 x1 w) := by
  unfold f_JA_fill
  refine z_ic0 d_JA_fill_0 ?_
  refine z_istore_n (pls' := [some (qR p0), some (qI x1), some (qI 0), none]) d_JA_fill_1 (by decide) rfl rfl ?_
  refine z_aload_n d_JA_fill_2 rfl ?_
  refine z_alen d_JA_fill_3 hp0 (by decide) hn0 hm0 ?_
  refine z_istore_n (pls' := [some (qR p0), some (qI x1), some (qI 0), some (qI n0)]) d_JA_fill_4 (by decide) rfl rfl ?_
  refine z_mask [true, true, true, true] ?_
  exact s_JA_fill_5 hp0 hn0 hm0 _ _ _ _ _
/-! BubbleTorus.within -/
theorem d_X_within_0 : decode m_X_within.2.1 0 = .ok (.iload_n 0, 1) := by decide +kernel
theorem d_X_within_1 : decode m_X_within.2.1 1 = .ok (.iload_n 1, 1) := by decide +kernel
theorem d_X_within_2 : decode m_X_within.2.1 2 = .ok (.if_icmp .lt 12, 3) := by decide +kernel
theorem d_X_within_5 : decode m_X_within.2.1 5 = .ok (.iload_n 0, 1) := by decide +kernel
theorem d_X_within_6 : decode m_X_within.2.1 6 = .ok (.iload_n 2, 1) := by decide +kernel
theorem d_X_within_7 : decode m_X_within.2.1 7 = .ok (.if_icmp .gt 7, 3) := by decide +kernel
theorem d_X_within_10 : decode m_X_within.2.1 10 = .ok (.iconst 1, 1) := by decide +kernel
theorem d_X_within_11 : decode m_X_within.2.1 11 = .ok (.goto 4, 3) := by decide +kernel
theorem d_X_within_14 : decode m_X_within.2.1 14 = .ok (.iconst 0, 1) := by decide +kernel
theorem d_X_within_15 : decode m_X_within.2.1 15 = .ok (.ireturn, 1) := by decide +kernel
def f_X_within (x0 : Int) (x1 : Int) (x2 : Int) (w : qMem) : Option (Int × qMem) :=
  if x0 < x1 then
  some (0, w)
  else
  if x0 ≤ x2 then
  some (1, w)
  else
  some (0, w)
set_option maxRecDepth 4000 in
theorem s_X_within {ph : Nat} (x0 : Int) (x1 : Int) (x2 : Int) (w : qMem) : qSim κI ph ph m_X_within 0 [] [some (qI x0), some (qI x1), some (qI x2)] w (f_X_within x0 x1 x2 w) := by
  unfold f_X_within
  refine z_iload_n d_X_within_0 rfl ?_
  refine z_iload_n d_X_within_1 rfl ?_
  refine z_icmp_lt (tgt := 14) d_X_within_2 rfl (fun c1 => ?_) (fun c1 => ?_)
  · refine z_ic0 d_X_within_14 ?_
    exact z_zret d_X_within_15 rfl rfl (Or.inl rfl)
  · refine z_iload_n d_X_within_5 rfl ?_
    refine z_iload_n d_X_within_6 rfl ?_
    refine z_icmp_gt (tgt := 14) d_X_within_7 rfl (fun c2 => ?_) (fun c2 => ?_)
    · refine z_ic1 d_X_within_10 ?_
      refine z_goto (tgt := 15) d_X_within_11 rfl ?_
      exact z_zret d_X_within_15 rfl rfl (Or.inr rfl)
    · refine z_ic0 d_X_within_14 ?_
      exact z_zret d_X_within_15 rfl rfl (Or.inl rfl)
/-! BubbleTorus$Grid.step -/
theorem d_G_step_0 : decode m_G_step.2.1 0 = .ok (.iload_n 1, 1) := by decide +kernel
theorem d_G_step_1 : decode m_G_step.2.1 1 = .ok (.aload_n 0, 1) := by decide +kernel
theorem d_G_step_2 : decode m_G_step.2.1 2 = .ok (.getfield 21, 3) := by decide +kernel
theorem d_G_step_5 : decode m_G_step.2.1 5 = .ok (.irem, 1) := by decide +kernel
theorem d_G_step_6 : decode m_G_step.2.1 6 = .ok (.istore_n 3, 1) := by decide +kernel
theorem d_G_step_7 : decode m_G_step.2.1 7 = .ok (.iload_n 1, 1) := by decide +kernel
theorem d_G_step_8 : decode m_G_step.2.1 8 = .ok (.aload_n 0, 1) := by decide +kernel
theorem d_G_step_9 : decode m_G_step.2.1 9 = .ok (.getfield 21, 3) := by decide +kernel
theorem d_G_step_12 : decode m_G_step.2.1 12 = .ok (.idiv, 1) := by decide +kernel
theorem d_G_step_13 : decode m_G_step.2.1 13 = .ok (.istore 4, 2) := by decide +kernel
theorem d_G_step_15 : decode m_G_step.2.1 15 = .ok (.iload_n 2, 1) := by decide +kernel
theorem d_G_step_16 : decode m_G_step.2.1 16 = .ok (.tableswitch 84 0 2 #[28, 45, 67], 28) := by decide +kernel
theorem d_G_step_44 : decode m_G_step.2.1 44 = .ok (.iload 4, 2) := by decide +kernel
theorem d_G_step_46 : decode m_G_step.2.1 46 = .ok (.aload_n 0, 1) := by decide +kernel
theorem d_G_step_47 : decode m_G_step.2.1 47 = .ok (.getfield 21, 3) := by decide +kernel
theorem d_G_step_50 : decode m_G_step.2.1 50 = .ok (.imul, 1) := by decide +kernel
theorem d_G_step_51 : decode m_G_step.2.1 51 = .ok (.iload_n 3, 1) := by decide +kernel
theorem d_G_step_52 : decode m_G_step.2.1 52 = .ok (.iconst 1, 1) := by decide +kernel
theorem d_G_step_53 : decode m_G_step.2.1 53 = .ok (.iadd, 1) := by decide +kernel
theorem d_G_step_54 : decode m_G_step.2.1 54 = .ok (.aload_n 0, 1) := by decide +kernel
theorem d_G_step_55 : decode m_G_step.2.1 55 = .ok (.getfield 21, 3) := by decide +kernel
theorem d_G_step_58 : decode m_G_step.2.1 58 = .ok (.irem, 1) := by decide +kernel
theorem d_G_step_59 : decode m_G_step.2.1 59 = .ok (.iadd, 1) := by decide +kernel
theorem d_G_step_60 : decode m_G_step.2.1 60 = .ok (.ireturn, 1) := by decide +kernel
theorem d_G_step_61 : decode m_G_step.2.1 61 = .ok (.iload 4, 2) := by decide +kernel
theorem d_G_step_63 : decode m_G_step.2.1 63 = .ok (.aload_n 0, 1) := by decide +kernel
theorem d_G_step_64 : decode m_G_step.2.1 64 = .ok (.getfield 21, 3) := by decide +kernel
theorem d_G_step_67 : decode m_G_step.2.1 67 = .ok (.imul, 1) := by decide +kernel
theorem d_G_step_68 : decode m_G_step.2.1 68 = .ok (.iload_n 3, 1) := by decide +kernel
theorem d_G_step_69 : decode m_G_step.2.1 69 = .ok (.aload_n 0, 1) := by decide +kernel
theorem d_G_step_70 : decode m_G_step.2.1 70 = .ok (.getfield 21, 3) := by decide +kernel
theorem d_G_step_73 : decode m_G_step.2.1 73 = .ok (.iadd, 1) := by decide +kernel
theorem d_G_step_74 : decode m_G_step.2.1 74 = .ok (.iconst 1, 1) := by decide +kernel
theorem d_G_step_75 : decode m_G_step.2.1 75 = .ok (.isub, 1) := by decide +kernel
theorem d_G_step_76 : decode m_G_step.2.1 76 = .ok (.aload_n 0, 1) := by decide +kernel
theorem d_G_step_77 : decode m_G_step.2.1 77 = .ok (.getfield 21, 3) := by decide +kernel
theorem d_G_step_80 : decode m_G_step.2.1 80 = .ok (.irem, 1) := by decide +kernel
theorem d_G_step_81 : decode m_G_step.2.1 81 = .ok (.iadd, 1) := by decide +kernel
theorem d_G_step_82 : decode m_G_step.2.1 82 = .ok (.ireturn, 1) := by decide +kernel
theorem d_G_step_83 : decode m_G_step.2.1 83 = .ok (.iload 4, 2) := by decide +kernel
theorem d_G_step_85 : decode m_G_step.2.1 85 = .ok (.iconst 1, 1) := by decide +kernel
theorem d_G_step_86 : decode m_G_step.2.1 86 = .ok (.iadd, 1) := by decide +kernel
theorem d_G_step_87 : decode m_G_step.2.1 87 = .ok (.aload_n 0, 1) := by decide +kernel
theorem d_G_step_88 : decode m_G_step.2.1 88 = .ok (.getfield 25, 3) := by decide +kernel
theorem d_G_step_91 : decode m_G_step.2.1 91 = .ok (.irem, 1) := by decide +kernel
theorem d_G_step_92 : decode m_G_step.2.1 92 = .ok (.aload_n 0, 1) := by decide +kernel
theorem d_G_step_93 : decode m_G_step.2.1 93 = .ok (.getfield 21, 3) := by decide +kernel
theorem d_G_step_96 : decode m_G_step.2.1 96 = .ok (.imul, 1) := by decide +kernel
theorem d_G_step_97 : decode m_G_step.2.1 97 = .ok (.iload_n 3, 1) := by decide +kernel
theorem d_G_step_98 : decode m_G_step.2.1 98 = .ok (.iadd, 1) := by decide +kernel
theorem d_G_step_99 : decode m_G_step.2.1 99 = .ok (.ireturn, 1) := by decide +kernel
theorem d_G_step_100 : decode m_G_step.2.1 100 = .ok (.iload 4, 2) := by decide +kernel
theorem d_G_step_102 : decode m_G_step.2.1 102 = .ok (.aload_n 0, 1) := by decide +kernel
theorem d_G_step_103 : decode m_G_step.2.1 103 = .ok (.getfield 25, 3) := by decide +kernel
theorem d_G_step_106 : decode m_G_step.2.1 106 = .ok (.iadd, 1) := by decide +kernel
theorem d_G_step_107 : decode m_G_step.2.1 107 = .ok (.iconst 1, 1) := by decide +kernel
theorem d_G_step_108 : decode m_G_step.2.1 108 = .ok (.isub, 1) := by decide +kernel
theorem d_G_step_109 : decode m_G_step.2.1 109 = .ok (.aload_n 0, 1) := by decide +kernel
theorem d_G_step_110 : decode m_G_step.2.1 110 = .ok (.getfield 25, 3) := by decide +kernel
theorem d_G_step_113 : decode m_G_step.2.1 113 = .ok (.irem, 1) := by decide +kernel
theorem d_G_step_114 : decode m_G_step.2.1 114 = .ok (.aload_n 0, 1) := by decide +kernel
theorem d_G_step_115 : decode m_G_step.2.1 115 = .ok (.getfield 21, 3) := by decide +kernel
theorem d_G_step_118 : decode m_G_step.2.1 118 = .ok (.imul, 1) := by decide +kernel
theorem d_G_step_119 : decode m_G_step.2.1 119 = .ok (.iload_n 3, 1) := by decide +kernel
theorem d_G_step_120 : decode m_G_step.2.1 120 = .ok (.iadd, 1) := by decide +kernel
theorem d_G_step_121 : decode m_G_step.2.1 121 = .ok (.ireturn, 1) := by decide +kernel
def f_G_step (o : Nat) (x1 : Int) (x2 : Int) (w : qMem) : Option (Int × qMem) :=
  qdv (w o 3) <|
  qdv (w o 3) <|
  if x2 = 0 then
  qdv (w o 3) <|
  some ((w32 ((w32 ((jdiv x1 (w o 3)) * (w o 3))) + (jrem (w32 ((jrem x1 (w o 3)) + 1)) (w o 3)))), w)
  else
  if x2 = 1 then
  qdv (w o 3) <|
  some ((w32 ((w32 ((jdiv x1 (w o 3)) * (w o 3))) + (jrem (w32 ((w32 ((jrem x1 (w o 3)) + (w o 3))) - 1)) (w o 3)))), w)
  else
  if x2 = 2 then
  qdv (w o 4) <|
  some ((w32 ((w32 ((jrem (w32 ((jdiv x1 (w o 3)) + 1)) (w o 4)) * (w o 3))) + (jrem x1 (w o 3)))), w)
  else
  qdv (w o 4) <|
  some ((w32 ((w32 ((jrem (w32 ((w32 ((jdiv x1 (w o 3)) + (w o 4))) - 1)) (w o 4)) * (w o 3))) + (jrem x1 (w o 3)))), w)
set_option maxRecDepth 4000 in
theorem s_G_step {ph : Nat} {o : Nat} (x1 : Int) (x2 : Int) (hI : qIs kLG ph o) (w : qMem) : qSim κI ph ph m_G_step 0 [] [some (qR o), some (qI x1), some (qI x2), none, none] w (f_G_step o x1 x2 w) := by
  unfold f_G_step
  refine z_iload_n d_G_step_0 rfl ?_
  refine z_aload_n d_G_step_1 rfl ?_
  refine z_gi (ci := 0) (j := 3) (ji := 3) d_G_step_2 rfl fl_G_21 (hI 0 _ rfl).1 rfl rfl ?_
  refine z_irem d_G_step_5 (fun _ => ?_)
  refine z_istore_n (pls' := [some (qR o), some (qI x1), some (qI x2), some (qI (jrem x1 (w o 3))), none]) d_G_step_6 (by decide) rfl rfl ?_
  refine z_iload_n d_G_step_7 rfl ?_
  refine z_aload_n d_G_step_8 rfl ?_
  refine z_gi (ci := 0) (j := 3) (ji := 3) d_G_step_9 rfl fl_G_21 (hI 0 _ rfl).1 rfl rfl ?_
  refine z_idiv d_G_step_12 (fun _ => ?_)
  refine z_istore (pls' := [some (qR o), some (qI x1), some (qI x2), some (qI (jrem x1 (w o 3))), some (qI (jdiv x1 (w o 3)))]) d_G_step_13 (by decide) rfl rfl ?_
  refine z_iload_n d_G_step_15 rfl ?_
  refine z_if (fun c1 => ?_) (fun c1 => ?_)
  · refine z_tabIn (tgt := 44) (v := 0) d_G_step_16 c1 (by decide) (by decide) rfl rfl ?_
    refine z_iload d_G_step_44 rfl ?_
    refine z_aload_n d_G_step_46 rfl ?_
    refine z_gi (ci := 0) (j := 3) (ji := 3) d_G_step_47 rfl fl_G_21 (hI 0 _ rfl).1 rfl rfl ?_
    refine z_imul d_G_step_50 ?_
    refine z_iload_n d_G_step_51 rfl ?_
    refine z_ic1 d_G_step_52 ?_
    refine z_iadd d_G_step_53 ?_
    refine z_aload_n d_G_step_54 rfl ?_
    refine z_gi (ci := 0) (j := 3) (ji := 3) d_G_step_55 rfl fl_G_21 (hI 0 _ rfl).1 rfl rfl ?_
    refine z_irem d_G_step_58 (fun _ => ?_)
    refine z_iadd d_G_step_59 ?_
    exact z_iret d_G_step_60 rfl rfl
  · refine z_if (fun c2 => ?_) (fun c2 => ?_)
    · refine z_tabIn (tgt := 61) (v := 1) d_G_step_16 c2 (by decide) (by decide) rfl rfl ?_
      refine z_iload d_G_step_61 rfl ?_
      refine z_aload_n d_G_step_63 rfl ?_
      refine z_gi (ci := 0) (j := 3) (ji := 3) d_G_step_64 rfl fl_G_21 (hI 0 _ rfl).1 rfl rfl ?_
      refine z_imul d_G_step_67 ?_
      refine z_iload_n d_G_step_68 rfl ?_
      refine z_aload_n d_G_step_69 rfl ?_
      refine z_gi (ci := 0) (j := 3) (ji := 3) d_G_step_70 rfl fl_G_21 (hI 0 _ rfl).1 rfl rfl ?_
      refine z_iadd d_G_step_73 ?_
      refine z_ic1 d_G_step_74 ?_
      refine z_isub d_G_step_75 ?_
      refine z_aload_n d_G_step_76 rfl ?_
      refine z_gi (ci := 0) (j := 3) (ji := 3) d_G_step_77 rfl fl_G_21 (hI 0 _ rfl).1 rfl rfl ?_
      refine z_irem d_G_step_80 (fun _ => ?_)
      refine z_iadd d_G_step_81 ?_
      exact z_iret d_G_step_82 rfl rfl
    · refine z_if (fun c3 => ?_) (fun c3 => ?_)
      · refine z_tabIn (tgt := 83) (v := 2) d_G_step_16 c3 (by decide) (by decide) rfl rfl ?_
        refine z_iload d_G_step_83 rfl ?_
        refine z_ic1 d_G_step_85 ?_
        refine z_iadd d_G_step_86 ?_
        refine z_aload_n d_G_step_87 rfl ?_
        refine z_gi (ci := 0) (j := 4) (ji := 4) d_G_step_88 rfl fl_G_25 (hI 0 _ rfl).1 rfl rfl ?_
        refine z_irem d_G_step_91 (fun _ => ?_)
        refine z_aload_n d_G_step_92 rfl ?_
        refine z_gi (ci := 0) (j := 3) (ji := 3) d_G_step_93 rfl fl_G_21 (hI 0 _ rfl).1 rfl rfl ?_
        refine z_imul d_G_step_96 ?_
        refine z_iload_n d_G_step_97 rfl ?_
        refine z_iadd d_G_step_98 ?_
        exact z_iret d_G_step_99 rfl rfl
      · refine z_tabOut (tgt := 100) d_G_step_16 (by omega) rfl ?_
        refine z_iload d_G_step_100 rfl ?_
        refine z_aload_n d_G_step_102 rfl ?_
        refine z_gi (ci := 0) (j := 4) (ji := 4) d_G_step_103 rfl fl_G_25 (hI 0 _ rfl).1 rfl rfl ?_
        refine z_iadd d_G_step_106 ?_
        refine z_ic1 d_G_step_107 ?_
        refine z_isub d_G_step_108 ?_
        refine z_aload_n d_G_step_109 rfl ?_
        refine z_gi (ci := 0) (j := 4) (ji := 4) d_G_step_110 rfl fl_G_25 (hI 0 _ rfl).1 rfl rfl ?_
        refine z_irem d_G_step_113 (fun _ => ?_)
        refine z_aload_n d_G_step_114 rfl ?_
        refine z_gi (ci := 0) (j := 3) (ji := 3) d_G_step_115 rfl fl_G_21 (hI 0 _ rfl).1 rfl rfl ?_
        refine z_imul d_G_step_118 ?_
        refine z_iload_n d_G_step_119 rfl ?_
        refine z_iadd d_G_step_120 ?_
        exact z_iret d_G_step_121 rfl rfl
/-! BubbleTorus$Grid.gap -/
theorem d_G_gap_0 : decode m_G_gap.2.1 0 = .ok (.iload_n 0, 1) := by decide +kernel
theorem d_G_gap_1 : decode m_G_gap.2.1 1 = .ok (.iload_n 1, 1) := by decide +kernel
theorem d_G_gap_2 : decode m_G_gap.2.1 2 = .ok (.isub, 1) := by decide +kernel
theorem d_G_gap_3 : decode m_G_gap.2.1 3 = .ok (.invokestatic 66, 3) := by decide +kernel
theorem d_G_gap_6 : decode m_G_gap.2.1 6 = .ok (.istore_n 3, 1) := by decide +kernel
theorem d_G_gap_7 : decode m_G_gap.2.1 7 = .ok (.iload_n 3, 1) := by decide +kernel
theorem d_G_gap_8 : decode m_G_gap.2.1 8 = .ok (.iload_n 2, 1) := by decide +kernel
theorem d_G_gap_9 : decode m_G_gap.2.1 9 = .ok (.iload_n 3, 1) := by decide +kernel
theorem d_G_gap_10 : decode m_G_gap.2.1 10 = .ok (.isub, 1) := by decide +kernel
theorem d_G_gap_11 : decode m_G_gap.2.1 11 = .ok (.invokestatic 71, 3) := by decide +kernel
theorem d_G_gap_14 : decode m_G_gap.2.1 14 = .ok (.ireturn, 1) := by decide +kernel
def f_G_gap (x0 : Int) (x1 : Int) (x2 : Int) (w : qMem) : Option (Int × qMem) :=
  some ((if (w32 (x2 - (if 0 ≤ (w32 (x0 - x1)) then (w32 (x0 - x1)) else w32 (0 - (w32 (x0 - x1)))))) < (if 0 ≤ (w32 (x0 - x1)) then (w32 (x0 - x1)) else w32 (0 - (w32 (x0 - x1)))) then (w32 (x2 - (if 0 ≤ (w32 (x0 - x1)) then (w32 (x0 - x1)) else w32 (0 - (w32 (x0 - x1)))))) else (if 0 ≤ (w32 (x0 - x1)) then (w32 (x0 - x1)) else w32 (0 - (w32 (x0 - x1))))), w)
set_option maxRecDepth 4000 in
theorem s_G_gap {ph : Nat} (x0 : Int) (x1 : Int) (x2 : Int) (w : qMem) : qSim κI ph ph m_G_gap 0 [] [some (qI x0), some (qI x1), some (qI x2), none] w (f_G_gap x0 x1 x2 w) := by
  unfold f_G_gap
  refine z_iload_n d_G_gap_0 rfl ?_
  refine z_iload_n d_G_gap_1 rfl ?_
  refine z_isub d_G_gap_2 ?_
  refine z_abs d_G_gap_3 lk_G_66 (Nat.le_of_ble_eq_true rfl) (Nat.le_of_ble_eq_true rfl) ?_
  refine z_istore_n (pls' := [some (qI x0), some (qI x1), some (qI x2), some (qI (if 0 ≤ (w32 (x0 - x1)) then (w32 (x0 - x1)) else w32 (0 - (w32 (x0 - x1)))))]) d_G_gap_6 (by decide) rfl rfl ?_
  refine z_iload_n d_G_gap_7 rfl ?_
  refine z_iload_n d_G_gap_8 rfl ?_
  refine z_iload_n d_G_gap_9 rfl ?_
  refine z_isub d_G_gap_10 ?_
  refine z_min d_G_gap_11 lk_G_71 (Nat.le_of_ble_eq_true rfl) (Nat.le_of_ble_eq_true rfl) ?_
  exact z_iret d_G_gap_14 rfl rfl
/-! BubbleTorus$Grid.distance -/
theorem d_G_distance_0 : decode m_G_distance.2.1 0 = .ok (.iload_n 1, 1) := by decide +kernel
theorem d_G_distance_1 : decode m_G_distance.2.1 1 = .ok (.aload_n 0, 1) := by decide +kernel
theorem d_G_distance_2 : decode m_G_distance.2.1 2 = .ok (.getfield 21, 3) := by decide +kernel
theorem d_G_distance_5 : decode m_G_distance.2.1 5 = .ok (.irem, 1) := by decide +kernel
theorem d_G_distance_6 : decode m_G_distance.2.1 6 = .ok (.iload_n 2, 1) := by decide +kernel
theorem d_G_distance_7 : decode m_G_distance.2.1 7 = .ok (.aload_n 0, 1) := by decide +kernel
theorem d_G_distance_8 : decode m_G_distance.2.1 8 = .ok (.getfield 21, 3) := by decide +kernel
theorem d_G_distance_11 : decode m_G_distance.2.1 11 = .ok (.irem, 1) := by decide +kernel
theorem d_G_distance_12 : decode m_G_distance.2.1 12 = .ok (.aload_n 0, 1) := by decide +kernel
theorem d_G_distance_13 : decode m_G_distance.2.1 13 = .ok (.getfield 21, 3) := by decide +kernel
theorem d_G_distance_16 : decode m_G_distance.2.1 16 = .ok (.invokestatic 53, 3) := by decide +kernel
theorem d_G_distance_19 : decode m_G_distance.2.1 19 = .ok (.iload_n 1, 1) := by decide +kernel
theorem d_G_distance_20 : decode m_G_distance.2.1 20 = .ok (.aload_n 0, 1) := by decide +kernel
theorem d_G_distance_21 : decode m_G_distance.2.1 21 = .ok (.getfield 21, 3) := by decide +kernel
theorem d_G_distance_24 : decode m_G_distance.2.1 24 = .ok (.idiv, 1) := by decide +kernel
theorem d_G_distance_25 : decode m_G_distance.2.1 25 = .ok (.iload_n 2, 1) := by decide +kernel
theorem d_G_distance_26 : decode m_G_distance.2.1 26 = .ok (.aload_n 0, 1) := by decide +kernel
theorem d_G_distance_27 : decode m_G_distance.2.1 27 = .ok (.getfield 21, 3) := by decide +kernel
theorem d_G_distance_30 : decode m_G_distance.2.1 30 = .ok (.idiv, 1) := by decide +kernel
theorem d_G_distance_31 : decode m_G_distance.2.1 31 = .ok (.aload_n 0, 1) := by decide +kernel
theorem d_G_distance_32 : decode m_G_distance.2.1 32 = .ok (.getfield 25, 3) := by decide +kernel
theorem d_G_distance_35 : decode m_G_distance.2.1 35 = .ok (.invokestatic 53, 3) := by decide +kernel
theorem d_G_distance_38 : decode m_G_distance.2.1 38 = .ok (.iadd, 1) := by decide +kernel
theorem d_G_distance_39 : decode m_G_distance.2.1 39 = .ok (.ireturn, 1) := by decide +kernel
def f_G_distance (o : Nat) (x1 : Int) (x2 : Int) (w : qMem) : Option (Int × qMem) :=
  qdv (w o 3) <|
  qdv (w o 3) <|
  (f_G_gap (jrem x1 (w o 3)) (jrem x2 (w o 3)) (w o 3) w).bind fun q1 =>
  qdv (q1.2 o 3) <|
  qdv (q1.2 o 3) <|
  (f_G_gap (jdiv x1 (q1.2 o 3)) (jdiv x2 (q1.2 o 3)) (q1.2 o 4) q1.2).bind fun q2 =>
  some ((w32 (q1.1 + q2.1)), q2.2)
set_option maxRecDepth 4000 in
theorem s_G_distance {ph : Nat} {o : Nat} (x1 : Int) (x2 : Int) (hI : qIs kLG ph o) (w : qMem) : qSim κI ph ph m_G_distance 0 [] [some (qR o), some (qI x1), some (qI x2)] w (f_G_distance o x1 x2 w) := by
  unfold f_G_distance
  refine z_iload_n d_G_distance_0 rfl ?_
  refine z_aload_n d_G_distance_1 rfl ?_
  refine z_gi (ci := 0) (j := 3) (ji := 3) d_G_distance_2 rfl fl_G_21 (hI 0 _ rfl).1 rfl rfl ?_
  refine z_irem d_G_distance_5 (fun _ => ?_)
  refine z_iload_n d_G_distance_6 rfl ?_
  refine z_aload_n d_G_distance_7 rfl ?_
  refine z_gi (ci := 0) (j := 3) (ji := 3) d_G_distance_8 rfl fl_G_21 (hI 0 _ rfl).1 rfl rfl ?_
  refine z_irem d_G_distance_11 (fun _ => ?_)
  refine z_aload_n d_G_distance_12 rfl ?_
  refine z_gi (ci := 0) (j := 3) (ji := 3) d_G_distance_13 rfl fl_G_21 (hI 0 _ rfl).1 rfl rfl ?_
  refine z_cSI (av := [qI (jrem x1 (w o 3)), qI (jrem x2 (w o 3)), qI (w o 3)]) (st := []) (nl := 1) d_G_distance_16 lk_G_53 mk_G_gap rfl rfl rfl (s_G_gap _ _ _ _) (fun q1 _ hq1 => ?_)
  refine z_iload_n d_G_distance_19 rfl ?_
  refine z_aload_n d_G_distance_20 rfl ?_
  refine z_gi (ci := 0) (j := 3) (ji := 3) d_G_distance_21 rfl fl_G_21 (hI 0 _ rfl).1 rfl rfl ?_
  refine z_idiv d_G_distance_24 (fun _ => ?_)
  refine z_iload_n d_G_distance_25 rfl ?_
  refine z_aload_n d_G_distance_26 rfl ?_
  refine z_gi (ci := 0) (j := 3) (ji := 3) d_G_distance_27 rfl fl_G_21 (hI 0 _ rfl).1 rfl rfl ?_
  refine z_idiv d_G_distance_30 (fun _ => ?_)
  refine z_aload_n d_G_distance_31 rfl ?_
  refine z_gi (ci := 0) (j := 4) (ji := 4) d_G_distance_32 rfl fl_G_25 (hI 0 _ rfl).1 rfl rfl ?_
  refine z_cSI (av := [qI (jdiv x1 (q1.2 o 3)), qI (jdiv x2 (q1.2 o 3)), qI (q1.2 o 4)]) (st := [qI q1.1]) (nl := 1) d_G_distance_35 lk_G_53 mk_G_gap rfl rfl rfl (s_G_gap _ _ _ _) (fun q2 _ hq2 => ?_)
  refine z_iadd d_G_distance_38 ?_
  exact z_iret d_G_distance_39 rfl rfl
/-! BubbleTorus$Grid.directionsNearer -/
theorem d_G_directionsNearer_0 : decode m_G_directionsNearer.2.1 0 = .ok (.iconst 0, 1) := by decide +kernel
theorem d_G_directionsNearer_1 : decode m_G_directionsNearer.2.1 1 = .ok (.istore_n 3, 1) := by decide +kernel
theorem d_G_directionsNearer_2 : decode m_G_directionsNearer.2.1 2 = .ok (.iconst 0, 1) := by decide +kernel
theorem d_G_directionsNearer_3 : decode m_G_directionsNearer.2.1 3 = .ok (.istore 4, 2) := by decide +kernel
theorem d_G_directionsNearer_5 : decode m_G_directionsNearer.2.1 5 = .ok (.iload 4, 2) := by decide +kernel
theorem d_G_directionsNearer_7 : decode m_G_directionsNearer.2.1 7 = .ok (.iconst 4, 1) := by decide +kernel
theorem d_G_directionsNearer_8 : decode m_G_directionsNearer.2.1 8 = .ok (.if_icmp .ge 37, 3) := by decide +kernel
theorem d_G_directionsNearer_11 : decode m_G_directionsNearer.2.1 11 = .ok (.aload_n 0, 1) := by decide +kernel
theorem d_G_directionsNearer_12 : decode m_G_directionsNearer.2.1 12 = .ok (.aload_n 0, 1) := by decide +kernel
theorem d_G_directionsNearer_13 : decode m_G_directionsNearer.2.1 13 = .ok (.iload_n 1, 1) := by decide +kernel
theorem d_G_directionsNearer_14 : decode m_G_directionsNearer.2.1 14 = .ok (.iload 4, 2) := by decide +kernel
theorem d_G_directionsNearer_16 : decode m_G_directionsNearer.2.1 16 = .ok (.invokevirtual 42, 3) := by decide +kernel
theorem d_G_directionsNearer_19 : decode m_G_directionsNearer.2.1 19 = .ok (.iload_n 2, 1) := by decide +kernel
theorem d_G_directionsNearer_20 : decode m_G_directionsNearer.2.1 20 = .ok (.invokevirtual 57, 3) := by decide +kernel
theorem d_G_directionsNearer_23 : decode m_G_directionsNearer.2.1 23 = .ok (.aload_n 0, 1) := by decide +kernel
theorem d_G_directionsNearer_24 : decode m_G_directionsNearer.2.1 24 = .ok (.iload_n 1, 1) := by decide +kernel
theorem d_G_directionsNearer_25 : decode m_G_directionsNearer.2.1 25 = .ok (.iload_n 2, 1) := by decide +kernel
theorem d_G_directionsNearer_26 : decode m_G_directionsNearer.2.1 26 = .ok (.invokevirtual 57, 3) := by decide +kernel
theorem d_G_directionsNearer_29 : decode m_G_directionsNearer.2.1 29 = .ok (.if_icmp .ge 10, 3) := by decide +kernel
theorem d_G_directionsNearer_32 : decode m_G_directionsNearer.2.1 32 = .ok (.iload_n 3, 1) := by decide +kernel
theorem d_G_directionsNearer_33 : decode m_G_directionsNearer.2.1 33 = .ok (.iconst 1, 1) := by decide +kernel
theorem d_G_directionsNearer_34 : decode m_G_directionsNearer.2.1 34 = .ok (.iload 4, 2) := by decide +kernel
theorem d_G_directionsNearer_36 : decode m_G_directionsNearer.2.1 36 = .ok (.ishl, 1) := by decide +kernel
theorem d_G_directionsNearer_37 : decode m_G_directionsNearer.2.1 37 = .ok (.ior, 1) := by decide +kernel
theorem d_G_directionsNearer_38 : decode m_G_directionsNearer.2.1 38 = .ok (.istore_n 3, 1) := by decide +kernel
theorem d_G_directionsNearer_39 : decode m_G_directionsNearer.2.1 39 = .ok (.iinc 4 1, 3) := by decide +kernel
theorem d_G_directionsNearer_42 : decode m_G_directionsNearer.2.1 42 = .ok (.goto (-37), 3) := by decide +kernel
theorem d_G_directionsNearer_45 : decode m_G_directionsNearer.2.1 45 = .ok (.iload_n 3, 1) := by decide +kernel
theorem d_G_directionsNearer_46 : decode m_G_directionsNearer.2.1 46 = .ok (.ireturn, 1) := by decide +kernel
def f_G_directionsNearer_5 (o : Nat) : Nat → Int → Int → Int → Int → qMem → Option (Int × qMem)
  | 0, _, _, _, _, _ => none
  | n + 1, x1, x2, x3, x4, w =>
    if x4 < 4 then
    (f_G_step o x1 x4 w).bind fun q2 =>
    (f_G_distance o q2.1 x2 q2.2).bind fun q3 =>
    (f_G_distance o x1 x2 q3.2).bind fun q4 =>
    if q3.1 < q4.1 then
    (f_G_directionsNearer_5 o n) x1 x2 (jor x3 (jshl 1 x4)) (w32 (x4 + 1)) q4.2
    else
    (f_G_directionsNearer_5 o n) x1 x2 x3 (w32 (x4 + 1)) q4.2
    else
    some (x3, w)
set_option maxRecDepth 4000 in
theorem s_G_directionsNearer_5 {ph : Nat} {o : Nat} (hI : qIs kLG ph o) : ∀ (n : Nat), ∀ (x1 x2 x3 x4 : Int) (w : qMem), qSim κI ph ph m_G_directionsNearer 5 [] [some (qR o), some (qI x1), some (qI x2), some (qI x3), some (qI x4)] w (f_G_directionsNearer_5 o n x1 x2 x3 x4 w) := by
  intro n
  induction n with
  | zero => intro x1 x2 x3 x4 w; exact z_none
  | succ n ih =>
    intro x1 x2 x3 x4 w
    rw [f_G_directionsNearer_5]
    refine z_iload d_G_directionsNearer_5 rfl ?_
    refine z_ic4 d_G_directionsNearer_7 ?_
    refine z_icmp_ge (tgt := 45) d_G_directionsNearer_8 rfl (fun c1 => ?_) (fun c1 => ?_)
    · refine z_aload_n d_G_directionsNearer_11 rfl ?_
      refine z_aload_n d_G_directionsNearer_12 rfl ?_
      refine z_iload_n d_G_directionsNearer_13 rfl ?_
      refine z_iload d_G_directionsNearer_14 rfl ?_
      refine z_cVI (as := [qI x1, qI x4]) (st := [qR o]) (nl := 2) (ci := 0) d_G_directionsNearer_16 lk_G_42 mk_G_step rfl rfl (hI 0 _ rfl).1 rfl rfl rfl (s_G_step _ _ hI _) (fun q2 _ hq2 => ?_)
      refine z_iload_n d_G_directionsNearer_19 rfl ?_
      refine z_cVI (as := [qI q2.1, qI x2]) (st := []) (nl := 0) (ci := 0) d_G_directionsNearer_20 lk_G_57 mk_G_distance rfl rfl (hI 0 _ rfl).1 rfl rfl rfl (s_G_distance _ _ hI _) (fun q3 _ hq3 => ?_)
      refine z_aload_n d_G_directionsNearer_23 rfl ?_
      refine z_iload_n d_G_directionsNearer_24 rfl ?_
      refine z_iload_n d_G_directionsNearer_25 rfl ?_
      refine z_cVI (as := [qI x1, qI x2]) (st := [qI q3.1]) (nl := 0) (ci := 0) d_G_directionsNearer_26 lk_G_57 mk_G_distance rfl rfl (hI 0 _ rfl).1 rfl rfl rfl (s_G_distance _ _ hI _) (fun q4 _ hq4 => ?_)
      refine z_icmp_ge (tgt := 39) d_G_directionsNearer_29 rfl (fun c5 => ?_) (fun c5 => ?_)
      · refine z_iload_n d_G_directionsNearer_32 rfl ?_
        refine z_ic1 d_G_directionsNearer_33 ?_
        refine z_iload d_G_directionsNearer_34 rfl ?_
        refine z_ishl d_G_directionsNearer_36 ?_
        refine z_ior d_G_directionsNearer_37 ?_
        refine z_istore_n (pls' := [some (qR o), some (qI x1), some (qI x2), some (qI (jor x3 (jshl 1 x4))), some (qI x4)]) d_G_directionsNearer_38 (by decide) rfl rfl ?_
        refine z_iinc (pls' := [some (qR o), some (qI x1), some (qI x2), some (qI (jor x3 (jshl 1 x4))), some (qI (w32 (x4 + 1)))]) d_G_directionsNearer_39 (by decide) rfl rfl rfl ?_
        refine z_goto (tgt := 5) d_G_directionsNearer_42 rfl ?_
        refine z_mask [true, true, true, true, true] ?_
        exact ih _ _ _ _ _
      · refine z_iinc (pls' := [some (qR o), some (qI x1), some (qI x2), some (qI x3), some (qI (w32 (x4 + 1)))]) d_G_directionsNearer_39 (by decide) rfl rfl rfl ?_
        refine z_goto (tgt := 5) d_G_directionsNearer_42 rfl ?_
        refine z_mask [true, true, true, true, true] ?_
        exact ih _ _ _ _ _
    · refine z_iload_n d_G_directionsNearer_45 rfl ?_
      exact z_iret d_G_directionsNearer_46 rfl rfl
def f_G_directionsNearer (o : Nat) (x1 : Int) (x2 : Int) (w : qMem) : Option (Int × qMem) :=
  f_G_directionsNearer_5 o qFU x1 x2 0 0 w
set_option maxRecDepth 4000 in
theorem s_G_directionsNearer {ph : Nat} {o : Nat} (x1 : Int) (x2 : Int) (hI : qIs kLG ph o) (w : qMem) : qSim κI ph ph m_G_directionsNearer 0 [] [some (qR o), some (qI x1), some (qI x2), none, none] w (f_G_directionsNearer o x1 x2 w) := by
  unfold f_G_directionsNearer
  refine z_ic0 d_G_directionsNearer_0 ?_
  refine z_istore_n (pls' := [some (qR o), some (qI x1), some (qI x2), some (qI 0), none]) d_G_directionsNearer_1 (by decide) rfl rfl ?_
  refine z_ic0 d_G_directionsNearer_2 ?_
  refine z_istore (pls' := [some (qR o), some (qI x1), some (qI x2), some (qI 0), some (qI 0)]) d_G_directionsNearer_3 (by decide) rfl rfl ?_
  refine z_mask [true, true, true, true, true] ?_
  exact s_G_directionsNearer_5 hI _ _ _ _ _ _
/-! BubbleTorus$Grid.leastOf -/
theorem d_G_leastOf_0 : decode m_G_leastOf.2.1 0 = .ok (.iconst 0, 1) := by decide +kernel
theorem d_G_leastOf_1 : decode m_G_leastOf.2.1 1 = .ok (.istore_n 1, 1) := by decide +kernel
theorem d_G_leastOf_2 : decode m_G_leastOf.2.1 2 = .ok (.iload_n 1, 1) := by decide +kernel
theorem d_G_leastOf_3 : decode m_G_leastOf.2.1 3 = .ok (.iconst 4, 1) := by decide +kernel
theorem d_G_leastOf_4 : decode m_G_leastOf.2.1 4 = .ok (.if_icmp .ge 20, 3) := by decide +kernel
theorem d_G_leastOf_7 : decode m_G_leastOf.2.1 7 = .ok (.iload_n 0, 1) := by decide +kernel
theorem d_G_leastOf_8 : decode m_G_leastOf.2.1 8 = .ok (.iload_n 1, 1) := by decide +kernel
theorem d_G_leastOf_9 : decode m_G_leastOf.2.1 9 = .ok (.ishr, 1) := by decide +kernel
theorem d_G_leastOf_10 : decode m_G_leastOf.2.1 10 = .ok (.iconst 1, 1) := by decide +kernel
theorem d_G_leastOf_11 : decode m_G_leastOf.2.1 11 = .ok (.iand, 1) := by decide +kernel
theorem d_G_leastOf_12 : decode m_G_leastOf.2.1 12 = .ok (.iconst 1, 1) := by decide +kernel
theorem d_G_leastOf_13 : decode m_G_leastOf.2.1 13 = .ok (.if_icmp .ne 5, 3) := by decide +kernel
theorem d_G_leastOf_16 : decode m_G_leastOf.2.1 16 = .ok (.iload_n 1, 1) := by decide +kernel
theorem d_G_leastOf_17 : decode m_G_leastOf.2.1 17 = .ok (.ireturn, 1) := by decide +kernel
theorem d_G_leastOf_18 : decode m_G_leastOf.2.1 18 = .ok (.iinc 1 1, 3) := by decide +kernel
theorem d_G_leastOf_21 : decode m_G_leastOf.2.1 21 = .ok (.goto (-19), 3) := by decide +kernel
theorem d_G_leastOf_24 : decode m_G_leastOf.2.1 24 = .ok (.iconst (-1), 1) := by decide +kernel
theorem d_G_leastOf_25 : decode m_G_leastOf.2.1 25 = .ok (.ireturn, 1) := by decide +kernel
def f_G_leastOf_2 : Nat → Int → Int → qMem → Option (Int × qMem)
  | 0, _, _, _ => none
  | n + 1, x0, x1, w =>
    if x1 < 4 then
    if (jand (jshr x0 x1) 1) = 1 then
    some (x1, w)
    else
    (f_G_leastOf_2 n) x0 (w32 (x1 + 1)) w
    else
    some ((-1), w)
set_option maxRecDepth 4000 in
theorem s_G_leastOf_2 {ph : Nat}  : ∀ (n : Nat), ∀ (x0 x1 : Int) (w : qMem), qSim κI ph ph m_G_leastOf 2 [] [some (qI x0), some (qI x1)] w (f_G_leastOf_2 n x0 x1 w) := by
  intro n
  induction n with
  | zero => intro x0 x1 w; exact z_none
  | succ n ih =>
    intro x0 x1 w
    rw [f_G_leastOf_2]
    refine z_iload_n d_G_leastOf_2 rfl ?_
    refine z_ic4 d_G_leastOf_3 ?_
    refine z_icmp_ge (tgt := 24) d_G_leastOf_4 rfl (fun c1 => ?_) (fun c1 => ?_)
    · refine z_iload_n d_G_leastOf_7 rfl ?_
      refine z_iload_n d_G_leastOf_8 rfl ?_
      refine z_ishr d_G_leastOf_9 ?_
      refine z_ic1 d_G_leastOf_10 ?_
      refine z_iand d_G_leastOf_11 ?_
      refine z_ic1 d_G_leastOf_12 ?_
      refine z_icmp_ne (tgt := 18) d_G_leastOf_13 rfl (fun c2 => ?_) (fun c2 => ?_)
      · refine z_iload_n d_G_leastOf_16 rfl ?_
        exact z_iret d_G_leastOf_17 rfl rfl
      · refine z_iinc (pls' := [some (qI x0), some (qI (w32 (x1 + 1)))]) d_G_leastOf_18 (by decide) rfl rfl rfl ?_
        refine z_goto (tgt := 2) d_G_leastOf_21 rfl ?_
        refine z_mask [true, true] ?_
        exact ih _ _ _
    · refine z_icm1 d_G_leastOf_24 ?_
      exact z_iret d_G_leastOf_25 rfl rfl
def f_G_leastOf (x0 : Int) (w : qMem) : Option (Int × qMem) :=
  f_G_leastOf_2 qFU x0 0 w
set_option maxRecDepth 4000 in
theorem s_G_leastOf {ph : Nat} (x0 : Int) (w : qMem) : qSim κI ph ph m_G_leastOf 0 [] [some (qI x0), none] w (f_G_leastOf x0 w) := by
  unfold f_G_leastOf
  refine z_ic0 d_G_leastOf_0 ?_
  refine z_istore_n (pls' := [some (qI x0), some (qI 0)]) d_G_leastOf_1 (by decide) rfl rfl ?_
  refine z_mask [true, true] ?_
  exact s_G_leastOf_2 _ _ _ _
/-! BubbleTorus$Grid.lay -/
theorem d_G_lay_0 : decode m_G_lay.2.1 0 = .ok (.iload_n 1, 1) := by decide +kernel
theorem d_G_lay_1 : decode m_G_lay.2.1 1 = .ok (.iconst 2, 1) := by decide +kernel
theorem d_G_lay_2 : decode m_G_lay.2.1 2 = .ok (.iconst 4, 1) := by decide +kernel
theorem d_G_lay_3 : decode m_G_lay.2.1 3 = .ok (.invokestatic 38, 3) := by decide +kernel
theorem d_G_lay_6 : decode m_G_lay.2.1 6 = .ok (.ifCond .eq 12, 3) := by decide +kernel
theorem d_G_lay_9 : decode m_G_lay.2.1 9 = .ok (.iload_n 2, 1) := by decide +kernel
theorem d_G_lay_10 : decode m_G_lay.2.1 10 = .ok (.iconst 2, 1) := by decide +kernel
theorem d_G_lay_11 : decode m_G_lay.2.1 11 = .ok (.iconst 4, 1) := by decide +kernel
theorem d_G_lay_12 : decode m_G_lay.2.1 12 = .ok (.invokestatic 38, 3) := by decide +kernel
theorem d_G_lay_15 : decode m_G_lay.2.1 15 = .ok (.ifCond .ne 4, 3) := by decide +kernel
theorem d_G_lay_18 : decode m_G_lay.2.1 18 = .ok (.return_, 1) := by decide +kernel
theorem d_G_lay_19 : decode m_G_lay.2.1 19 = .ok (.aload_n 0, 1) := by decide +kernel
theorem d_G_lay_20 : decode m_G_lay.2.1 20 = .ok (.iload_n 1, 1) := by decide +kernel
theorem d_G_lay_21 : decode m_G_lay.2.1 21 = .ok (.putfield 21, 3) := by decide +kernel
theorem d_G_lay_24 : decode m_G_lay.2.1 24 = .ok (.aload_n 0, 1) := by decide +kernel
theorem d_G_lay_25 : decode m_G_lay.2.1 25 = .ok (.iload_n 2, 1) := by decide +kernel
theorem d_G_lay_26 : decode m_G_lay.2.1 26 = .ok (.putfield 25, 3) := by decide +kernel
theorem d_G_lay_29 : decode m_G_lay.2.1 29 = .ok (.aload_n 0, 1) := by decide +kernel
theorem d_G_lay_30 : decode m_G_lay.2.1 30 = .ok (.iload_n 1, 1) := by decide +kernel
theorem d_G_lay_31 : decode m_G_lay.2.1 31 = .ok (.iload_n 2, 1) := by decide +kernel
theorem d_G_lay_32 : decode m_G_lay.2.1 32 = .ok (.imul, 1) := by decide +kernel
theorem d_G_lay_33 : decode m_G_lay.2.1 33 = .ok (.putfield 28, 3) := by decide +kernel
theorem d_G_lay_36 : decode m_G_lay.2.1 36 = .ok (.aload_n 0, 1) := by decide +kernel
theorem d_G_lay_37 : decode m_G_lay.2.1 37 = .ok (.iconst 2, 1) := by decide +kernel
theorem d_G_lay_38 : decode m_G_lay.2.1 38 = .ok (.iload_n 1, 1) := by decide +kernel
theorem d_G_lay_39 : decode m_G_lay.2.1 39 = .ok (.iload_n 2, 1) := by decide +kernel
theorem d_G_lay_40 : decode m_G_lay.2.1 40 = .ok (.iadd, 1) := by decide +kernel
theorem d_G_lay_41 : decode m_G_lay.2.1 41 = .ok (.imul, 1) := by decide +kernel
theorem d_G_lay_42 : decode m_G_lay.2.1 42 = .ok (.putfield 31, 3) := by decide +kernel
theorem d_G_lay_45 : decode m_G_lay.2.1 45 = .ok (.iconst 0, 1) := by decide +kernel
theorem d_G_lay_46 : decode m_G_lay.2.1 46 = .ok (.istore_n 3, 1) := by decide +kernel
theorem d_G_lay_47 : decode m_G_lay.2.1 47 = .ok (.iload_n 3, 1) := by decide +kernel
theorem d_G_lay_48 : decode m_G_lay.2.1 48 = .ok (.aload_n 0, 1) := by decide +kernel
theorem d_G_lay_49 : decode m_G_lay.2.1 49 = .ok (.getfield 28, 3) := by decide +kernel
theorem d_G_lay_52 : decode m_G_lay.2.1 52 = .ok (.if_icmp .ge 42, 3) := by decide +kernel
theorem d_G_lay_55 : decode m_G_lay.2.1 55 = .ok (.iconst 0, 1) := by decide +kernel
theorem d_G_lay_56 : decode m_G_lay.2.1 56 = .ok (.istore 4, 2) := by decide +kernel
theorem d_G_lay_58 : decode m_G_lay.2.1 58 = .ok (.iload 4, 2) := by decide +kernel
theorem d_G_lay_60 : decode m_G_lay.2.1 60 = .ok (.iconst 4, 1) := by decide +kernel
theorem d_G_lay_61 : decode m_G_lay.2.1 61 = .ok (.if_icmp .ge 27, 3) := by decide +kernel
theorem d_G_lay_64 : decode m_G_lay.2.1 64 = .ok (.aload_n 0, 1) := by decide +kernel
theorem d_G_lay_65 : decode m_G_lay.2.1 65 = .ok (.getfield 9, 3) := by decide +kernel
theorem d_G_lay_68 : decode m_G_lay.2.1 68 = .ok (.iload_n 3, 1) := by decide +kernel
theorem d_G_lay_69 : decode m_G_lay.2.1 69 = .ok (.iconst 4, 1) := by decide +kernel
theorem d_G_lay_70 : decode m_G_lay.2.1 70 = .ok (.imul, 1) := by decide +kernel
theorem d_G_lay_71 : decode m_G_lay.2.1 71 = .ok (.iload 4, 2) := by decide +kernel
theorem d_G_lay_73 : decode m_G_lay.2.1 73 = .ok (.iadd, 1) := by decide +kernel
theorem d_G_lay_74 : decode m_G_lay.2.1 74 = .ok (.aload_n 0, 1) := by decide +kernel
theorem d_G_lay_75 : decode m_G_lay.2.1 75 = .ok (.iload_n 3, 1) := by decide +kernel
theorem d_G_lay_76 : decode m_G_lay.2.1 76 = .ok (.iload 4, 2) := by decide +kernel
theorem d_G_lay_78 : decode m_G_lay.2.1 78 = .ok (.invokevirtual 42, 3) := by decide +kernel
theorem d_G_lay_81 : decode m_G_lay.2.1 81 = .ok (.iastore, 1) := by decide +kernel
theorem d_G_lay_82 : decode m_G_lay.2.1 82 = .ok (.iinc 4 1, 3) := by decide +kernel
theorem d_G_lay_85 : decode m_G_lay.2.1 85 = .ok (.goto (-27), 3) := by decide +kernel
theorem d_G_lay_88 : decode m_G_lay.2.1 88 = .ok (.iinc 3 1, 3) := by decide +kernel
theorem d_G_lay_91 : decode m_G_lay.2.1 91 = .ok (.goto (-44), 3) := by decide +kernel
theorem d_G_lay_94 : decode m_G_lay.2.1 94 = .ok (.iconst 0, 1) := by decide +kernel
theorem d_G_lay_95 : decode m_G_lay.2.1 95 = .ok (.istore_n 3, 1) := by decide +kernel
theorem d_G_lay_96 : decode m_G_lay.2.1 96 = .ok (.iload_n 3, 1) := by decide +kernel
theorem d_G_lay_97 : decode m_G_lay.2.1 97 = .ok (.aload_n 0, 1) := by decide +kernel
theorem d_G_lay_98 : decode m_G_lay.2.1 98 = .ok (.getfield 28, 3) := by decide +kernel
theorem d_G_lay_101 : decode m_G_lay.2.1 101 = .ok (.if_icmp .ge 67, 3) := by decide +kernel
theorem d_G_lay_104 : decode m_G_lay.2.1 104 = .ok (.iconst 0, 1) := by decide +kernel
theorem d_G_lay_105 : decode m_G_lay.2.1 105 = .ok (.istore 4, 2) := by decide +kernel
theorem d_G_lay_107 : decode m_G_lay.2.1 107 = .ok (.iload 4, 2) := by decide +kernel
theorem d_G_lay_109 : decode m_G_lay.2.1 109 = .ok (.aload_n 0, 1) := by decide +kernel
theorem d_G_lay_110 : decode m_G_lay.2.1 110 = .ok (.getfield 28, 3) := by decide +kernel
theorem d_G_lay_113 : decode m_G_lay.2.1 113 = .ok (.if_icmp .ge 49, 3) := by decide +kernel
theorem d_G_lay_116 : decode m_G_lay.2.1 116 = .ok (.aload_n 0, 1) := by decide +kernel
theorem d_G_lay_117 : decode m_G_lay.2.1 117 = .ok (.iload_n 3, 1) := by decide +kernel
theorem d_G_lay_118 : decode m_G_lay.2.1 118 = .ok (.iload 4, 2) := by decide +kernel
theorem d_G_lay_120 : decode m_G_lay.2.1 120 = .ok (.invokevirtual 46, 3) := by decide +kernel
theorem d_G_lay_123 : decode m_G_lay.2.1 123 = .ok (.istore 5, 2) := by decide +kernel
theorem d_G_lay_125 : decode m_G_lay.2.1 125 = .ok (.aload_n 0, 1) := by decide +kernel
theorem d_G_lay_126 : decode m_G_lay.2.1 126 = .ok (.getfield 15, 3) := by decide +kernel
theorem d_G_lay_129 : decode m_G_lay.2.1 129 = .ok (.iload_n 3, 1) := by decide +kernel
theorem d_G_lay_130 : decode m_G_lay.2.1 130 = .ok (.bipush 16, 2) := by decide +kernel
theorem d_G_lay_132 : decode m_G_lay.2.1 132 = .ok (.imul, 1) := by decide +kernel
theorem d_G_lay_133 : decode m_G_lay.2.1 133 = .ok (.iload 4, 2) := by decide +kernel
theorem d_G_lay_135 : decode m_G_lay.2.1 135 = .ok (.iadd, 1) := by decide +kernel
theorem d_G_lay_136 : decode m_G_lay.2.1 136 = .ok (.iload 5, 2) := by decide +kernel
theorem d_G_lay_138 : decode m_G_lay.2.1 138 = .ok (.iastore, 1) := by decide +kernel
theorem d_G_lay_139 : decode m_G_lay.2.1 139 = .ok (.aload_n 0, 1) := by decide +kernel
theorem d_G_lay_140 : decode m_G_lay.2.1 140 = .ok (.getfield 18, 3) := by decide +kernel
theorem d_G_lay_143 : decode m_G_lay.2.1 143 = .ok (.iload_n 3, 1) := by decide +kernel
theorem d_G_lay_144 : decode m_G_lay.2.1 144 = .ok (.bipush 16, 2) := by decide +kernel
theorem d_G_lay_146 : decode m_G_lay.2.1 146 = .ok (.imul, 1) := by decide +kernel
theorem d_G_lay_147 : decode m_G_lay.2.1 147 = .ok (.iload 4, 2) := by decide +kernel
theorem d_G_lay_149 : decode m_G_lay.2.1 149 = .ok (.iadd, 1) := by decide +kernel
theorem d_G_lay_150 : decode m_G_lay.2.1 150 = .ok (.iload 5, 2) := by decide +kernel
theorem d_G_lay_152 : decode m_G_lay.2.1 152 = .ok (.invokestatic 49, 3) := by decide +kernel
theorem d_G_lay_155 : decode m_G_lay.2.1 155 = .ok (.iastore, 1) := by decide +kernel
theorem d_G_lay_156 : decode m_G_lay.2.1 156 = .ok (.iinc 4 1, 3) := by decide +kernel
theorem d_G_lay_159 : decode m_G_lay.2.1 159 = .ok (.goto (-52), 3) := by decide +kernel
theorem d_G_lay_162 : decode m_G_lay.2.1 162 = .ok (.iinc 3 1, 3) := by decide +kernel
theorem d_G_lay_165 : decode m_G_lay.2.1 165 = .ok (.goto (-69), 3) := by decide +kernel
theorem d_G_lay_168 : decode m_G_lay.2.1 168 = .ok (.return_, 1) := by decide +kernel
def f_G_lay_58 (o : Nat) (r47 : Int → qMem → Option (qMem)) : Nat → Int → Int → qMem → Option (qMem)
  | 0, _, _, _ => none
  | n + 1, x3, x4, w =>
    if x4 < 4 then
    (f_G_step o x3 x4 w).bind fun q2 =>
    qst q2.2 (o + 1) 64 (w32 ((w32 (x3 * 4)) + x4)) q2.1 fun w3 =>
    (f_G_lay_58 o r47 n) x3 (w32 (x4 + 1)) w3
    else
    r47 (w32 (x3 + 1)) w
set_option maxRecDepth 4000 in
theorem s_G_lay_58 {ph : Nat} {o : Nat} (hI : qIs kLG ph o) {r47 : Int → qMem → Option (qMem)} (hr47 : ∀ x3 w, qSim κV ph ph m_G_lay 47 [] [some (qR o), none, none, some (qI x3), none, none] w (r47 x3 w)) : ∀ (n : Nat), ∀ (x3 x4 : Int) (w : qMem), qSim κV ph ph m_G_lay 58 [] [some (qR o), none, none, some (qI x3), some (qI x4), none] w (f_G_lay_58 o r47 n x3 x4 w) := by
  intro n
  induction n with
  | zero => intro x3 x4 w; exact z_none
  | succ n ih =>
    intro x3 x4 w
    rw [f_G_lay_58]
    refine z_iload d_G_lay_58 rfl ?_
    refine z_ic4 d_G_lay_60 ?_
    refine z_icmp_ge (tgt := 88) d_G_lay_61 rfl (fun c1 => ?_) (fun c1 => ?_)
    · refine z_aload_n d_G_lay_64 rfl ?_
      refine z_gr (ci := 0) (j := 0) (d := 1) (o2 := (o + 1)) d_G_lay_65 rfl fl_G_9 (hI 0 _ rfl).1 ((hI 0 _ rfl).2 (Nat.le_of_ble_eq_true rfl)) rfl rfl ?_
      refine z_iload_n d_G_lay_68 rfl ?_
      refine z_ic4 d_G_lay_69 ?_
      refine z_imul d_G_lay_70 ?_
      refine z_iload d_G_lay_71 rfl ?_
      refine z_iadd d_G_lay_73 ?_
      refine z_aload_n d_G_lay_74 rfl ?_
      refine z_iload_n d_G_lay_75 rfl ?_
      refine z_iload d_G_lay_76 rfl ?_
      refine z_cVI (as := [qI x3, qI x4]) (st := [qI (w32 ((w32 (x3 * 4)) + x4)), qR (o + 1)]) (nl := 2) (ci := 0) d_G_lay_78 lk_G_42 mk_G_step rfl rfl (hI 0 _ rfl).1 rfl rfl rfl (s_G_step _ _ hI _) (fun q2 _ hq2 => ?_)
      refine z_is d_G_lay_81 (hI 1 _ rfl).1 rfl (fun w3 => ?_)
      refine z_iinc (pls' := [some (qR o), none, none, some (qI x3), some (qI (w32 (x4 + 1))), none]) d_G_lay_82 (by decide) rfl rfl rfl ?_
      refine z_goto (tgt := 58) d_G_lay_85 rfl ?_
      refine z_mask [true, false, false, true, true, false] ?_
      exact ih _ _ _
    · refine z_iinc (pls' := [some (qR o), none, none, some (qI (w32 (x3 + 1))), some (qI x4), none]) d_G_lay_88 (by decide) rfl rfl rfl ?_
      refine z_goto (tgt := 47) d_G_lay_91 rfl ?_
      refine z_mask [true, false, false, true, false, false] ?_
      exact hr47 _ _
def f_G_lay_107 (o : Nat) (r96 : Int → qMem → Option (qMem)) : Nat → Int → Int → qMem → Option (qMem)
  | 0, _, _, _ => none
  | n + 1, x3, x4, w =>
    if x4 < (w o 5) then
    (f_G_directionsNearer o x3 x4 w).bind fun q5 =>
    qst q5.2 (o + 2) 256 (w32 ((w32 (x3 * 16)) + x4)) q5.1 fun w6 =>
    (f_G_leastOf q5.1 w6).bind fun q7 =>
    qst q7.2 (o + 3) 256 (w32 ((w32 (x3 * 16)) + x4)) q7.1 fun w8 =>
    (f_G_lay_107 o r96 n) x3 (w32 (x4 + 1)) w8
    else
    r96 (w32 (x3 + 1)) w
set_option maxRecDepth 4000 in
theorem s_G_lay_107 {ph : Nat} {o : Nat} (hI : qIs kLG ph o) {r96 : Int → qMem → Option (qMem)} (hr96 : ∀ x3 w, qSim κV ph ph m_G_lay 96 [] [some (qR o), none, none, some (qI x3), none, none] w (r96 x3 w)) : ∀ (n : Nat), ∀ (x3 x4 : Int) (w : qMem), qSim κV ph ph m_G_lay 107 [] [some (qR o), none, none, some (qI x3), some (qI x4), none] w (f_G_lay_107 o r96 n x3 x4 w) := by
  intro n
  induction n with
  | zero => intro x3 x4 w; exact z_none
  | succ n ih =>
    intro x3 x4 w
    rw [f_G_lay_107]
    refine z_iload d_G_lay_107 rfl ?_
    refine z_aload_n d_G_lay_109 rfl ?_
    refine z_gi (ci := 0) (j := 5) (ji := 5) d_G_lay_110 rfl fl_G_28 (hI 0 _ rfl).1 rfl rfl ?_
    refine z_icmp_ge (tgt := 162) d_G_lay_113 rfl (fun c4 => ?_) (fun c4 => ?_)
    · refine z_aload_n d_G_lay_116 rfl ?_
      refine z_iload_n d_G_lay_117 rfl ?_
      refine z_iload d_G_lay_118 rfl ?_
      refine z_cVI (as := [qI x3, qI x4]) (st := []) (nl := 2) (ci := 0) d_G_lay_120 lk_G_46 mk_G_directionsNearer rfl rfl (hI 0 _ rfl).1 rfl rfl rfl (s_G_directionsNearer _ _ hI _) (fun q5 _ hq5 => ?_)
      refine z_istore (pls' := [some (qR o), none, none, some (qI x3), some (qI x4), some (qI q5.1)]) d_G_lay_123 (by decide) rfl rfl ?_
      refine z_aload_n d_G_lay_125 rfl ?_
      refine z_gr (ci := 0) (j := 1) (d := 2) (o2 := (o + 2)) d_G_lay_126 rfl fl_G_15 (hI 0 _ rfl).1 ((hI 0 _ rfl).2 (Nat.le_of_ble_eq_true rfl)) rfl rfl ?_
      refine z_iload_n d_G_lay_129 rfl ?_
      refine z_bipush d_G_lay_130 ⟨by decide, by decide⟩ ?_
      refine z_imul d_G_lay_132 ?_
      refine z_iload d_G_lay_133 rfl ?_
      refine z_iadd d_G_lay_135 ?_
      refine z_iload d_G_lay_136 rfl ?_
      refine z_is d_G_lay_138 (hI 2 _ rfl).1 rfl (fun w6 => ?_)
      refine z_aload_n d_G_lay_139 rfl ?_
      refine z_gr (ci := 0) (j := 2) (d := 3) (o2 := (o + 3)) d_G_lay_140 rfl fl_G_18 (hI 0 _ rfl).1 ((hI 0 _ rfl).2 (Nat.le_of_ble_eq_true rfl)) rfl rfl ?_
      refine z_iload_n d_G_lay_143 rfl ?_
      refine z_bipush d_G_lay_144 ⟨by decide, by decide⟩ ?_
      refine z_imul d_G_lay_146 ?_
      refine z_iload d_G_lay_147 rfl ?_
      refine z_iadd d_G_lay_149 ?_
      refine z_iload d_G_lay_150 rfl ?_
      refine z_cSI (av := [qI q5.1]) (st := [qI (w32 ((w32 (x3 * 16)) + x4)), qR (o + 3)]) (nl := 1) d_G_lay_152 lk_G_49 mk_G_leastOf rfl rfl rfl (s_G_leastOf _ _) (fun q7 _ hq7 => ?_)
      refine z_is d_G_lay_155 (hI 3 _ rfl).1 rfl (fun w8 => ?_)
      refine z_iinc (pls' := [some (qR o), none, none, some (qI x3), some (qI (w32 (x4 + 1))), some (qI q5.1)]) d_G_lay_156 (by decide) rfl rfl rfl ?_
      refine z_goto (tgt := 107) d_G_lay_159 rfl ?_
      refine z_mask [true, false, false, true, true, false] ?_
      exact ih _ _ _
    · refine z_iinc (pls' := [some (qR o), none, none, some (qI (w32 (x3 + 1))), some (qI x4), none]) d_G_lay_162 (by decide) rfl rfl rfl ?_
      refine z_goto (tgt := 96) d_G_lay_165 rfl ?_
      refine z_mask [true, false, false, true, false, false] ?_
      exact hr96 _ _
def f_G_lay_96 (o : Nat) : Nat → Int → qMem → Option (qMem)
  | 0, _, _ => none
  | n + 1, x3, w =>
    if x3 < (w o 5) then
    f_G_lay_107 o (f_G_lay_96 o n) qFU x3 0 w
    else
    some w
set_option maxRecDepth 4000 in
theorem s_G_lay_96 {ph : Nat} {o : Nat} (hI : qIs kLG ph o) : ∀ (n : Nat), ∀ (x3 : Int) (w : qMem), qSim κV ph ph m_G_lay 96 [] [some (qR o), none, none, some (qI x3), none, none] w (f_G_lay_96 o n x3 w) := by
  intro n
  induction n with
  | zero => intro x3 w; exact z_none
  | succ n ih =>
    intro x3 w
    rw [f_G_lay_96]
    refine z_iload_n d_G_lay_96 rfl ?_
    refine z_aload_n d_G_lay_97 rfl ?_
    refine z_gi (ci := 0) (j := 5) (ji := 5) d_G_lay_98 rfl fl_G_28 (hI 0 _ rfl).1 rfl rfl ?_
    refine z_icmp_ge (tgt := 168) d_G_lay_101 rfl (fun c9 => ?_) (fun c9 => ?_)
    · refine z_ic0 d_G_lay_104 ?_
      refine z_istore (pls' := [some (qR o), none, none, some (qI x3), some (qI 0), none]) d_G_lay_105 (by decide) rfl rfl ?_
      refine z_mask [true, false, false, true, true, false] ?_
      exact s_G_lay_107 hI ih _ _ _ _
    · exact z_vret d_G_lay_168 rfl rfl
def f_G_lay_94 (o : Nat) (w : qMem) : Option (qMem) :=
  f_G_lay_96 o qFU 0 w
set_option maxRecDepth 4000 in
theorem s_G_lay_94 {ph : Nat} {o : Nat} (hI : qIs kLG ph o) : ∀ (w : qMem), qSim κV ph ph m_G_lay 94 [] [some (qR o), none, none, none, none, none] w (f_G_lay_94 o w) := by
  intro w
  unfold f_G_lay_94
  refine z_ic0 d_G_lay_94 ?_
  refine z_istore_n (pls' := [some (qR o), none, none, some (qI 0), none, none]) d_G_lay_95 (by decide) rfl rfl ?_
  refine z_mask [true, false, false, true, false, false] ?_
  exact s_G_lay_96 hI _ _ _
def f_G_lay_47 (o : Nat) : Nat → Int → qMem → Option (qMem)
  | 0, _, _ => none
  | n + 1, x3, w =>
    if x3 < (w o 5) then
    f_G_lay_58 o (f_G_lay_47 o n) qFU x3 0 w
    else
    f_G_lay_94 o w
set_option maxRecDepth 4000 in
theorem s_G_lay_47 {ph : Nat} {o : Nat} (hI : qIs kLG ph o) : ∀ (n : Nat), ∀ (x3 : Int) (w : qMem), qSim κV ph ph m_G_lay 47 [] [some (qR o), none, none, some (qI x3), none, none] w (f_G_lay_47 o n x3 w) := by
  intro n
  induction n with
  | zero => intro x3 w; exact z_none
  | succ n ih =>
    intro x3 w
    rw [f_G_lay_47]
    refine z_iload_n d_G_lay_47 rfl ?_
    refine z_aload_n d_G_lay_48 rfl ?_
    refine z_gi (ci := 0) (j := 5) (ji := 5) d_G_lay_49 rfl fl_G_28 (hI 0 _ rfl).1 rfl rfl ?_
    refine z_icmp_ge (tgt := 94) d_G_lay_52 rfl (fun c10 => ?_) (fun c10 => ?_)
    · refine z_ic0 d_G_lay_55 ?_
      refine z_istore (pls' := [some (qR o), none, none, some (qI x3), some (qI 0), none]) d_G_lay_56 (by decide) rfl rfl ?_
      refine z_mask [true, false, false, true, true, false] ?_
      exact s_G_lay_58 hI ih _ _ _ _
    · refine z_mask [true, false, false, false, false, false] ?_
      exact s_G_lay_94 hI _
def f_G_lay (o : Nat) (x1 : Int) (x2 : Int) (w : qMem) : Option (qMem) :=
  (f_X_within x1 2 4 w).bind fun q11 =>
  if q11.1 = 0 then
  some q11.2
  else
  (f_X_within x2 2 4 q11.2).bind fun q13 =>
  if q13.1 = 0 then
  some q13.2
  else
  qlt (qud q13.2 o 3 x1) fun w15 =>
  qlt (qud w15 o 4 x2) fun w16 =>
  qlt (qud w16 o 5 (w32 (x1 * x2))) fun w17 =>
  qlt (qud w17 o 6 (w32 (2 * (w32 (x1 + x2))))) fun w18 =>
  f_G_lay_47 o qFU 0 w18
set_option maxRecDepth 4000 in
theorem s_G_lay {ph : Nat} {o : Nat} (x1 : Int) (x2 : Int) (hI : qIs kLG ph o) (w : qMem) : qSim κV ph ph m_G_lay 0 [] [some (qR o), some (qI x1), some (qI x2), none, none, none] w (f_G_lay o x1 x2 w) := by
  unfold f_G_lay
  refine z_iload_n d_G_lay_0 rfl ?_
  refine z_ic2 d_G_lay_1 ?_
  refine z_ic4 d_G_lay_2 ?_
  refine z_cNI (av := [qI x1, qI 2, qI 4]) (st := []) (nl := 0) d_G_lay_3 lk_G_38 mk_X_within rfl rfl rfl (s_X_within _ _ _ _) (fun q11 _ hq11 => ?_)
  refine z_if_eq (tgt := 18) d_G_lay_6 rfl (fun c12 => ?_) (fun c12 => ?_)
  · exact z_vret d_G_lay_18 rfl rfl
  · refine z_iload_n d_G_lay_9 rfl ?_
    refine z_ic2 d_G_lay_10 ?_
    refine z_ic4 d_G_lay_11 ?_
    refine z_cNI (av := [qI x2, qI 2, qI 4]) (st := []) (nl := 0) d_G_lay_12 lk_G_38 mk_X_within rfl rfl rfl (s_X_within _ _ _ _) (fun q13 _ hq13 => ?_)
    refine z_if_ne (tgt := 19) d_G_lay_15 rfl (fun c14 => ?_) (fun c14 => ?_)
    · exact z_vret d_G_lay_18 rfl rfl
    · refine z_aload_n d_G_lay_19 rfl ?_
      refine z_iload_n d_G_lay_20 rfl ?_
      refine z_pi (ci := 0) (j := 3) (ji := 3) d_G_lay_21 rfl fl_G_21 (hI 0 _ rfl).1 rfl rfl rfl rfl (fun w15 => ?_)
      refine z_aload_n d_G_lay_24 rfl ?_
      refine z_iload_n d_G_lay_25 rfl ?_
      refine z_pi (ci := 0) (j := 4) (ji := 4) d_G_lay_26 rfl fl_G_25 (hI 0 _ rfl).1 rfl rfl rfl rfl (fun w16 => ?_)
      refine z_aload_n d_G_lay_29 rfl ?_
      refine z_iload_n d_G_lay_30 rfl ?_
      refine z_iload_n d_G_lay_31 rfl ?_
      refine z_imul d_G_lay_32 ?_
      refine z_pi (ci := 0) (j := 5) (ji := 5) d_G_lay_33 rfl fl_G_28 (hI 0 _ rfl).1 rfl rfl rfl rfl (fun w17 => ?_)
      refine z_aload_n d_G_lay_36 rfl ?_
      refine z_ic2 d_G_lay_37 ?_
      refine z_iload_n d_G_lay_38 rfl ?_
      refine z_iload_n d_G_lay_39 rfl ?_
      refine z_iadd d_G_lay_40 ?_
      refine z_imul d_G_lay_41 ?_
      refine z_pi (ci := 0) (j := 6) (ji := 6) d_G_lay_42 rfl fl_G_31 (hI 0 _ rfl).1 rfl rfl rfl rfl (fun w18 => ?_)
      refine z_ic0 d_G_lay_45 ?_
      refine z_istore_n (pls' := [some (qR o), some (qI x1), some (qI x2), some (qI 0), none, none]) d_G_lay_46 (by decide) rfl rfl ?_
      refine z_mask [true, false, false, true, false, false] ?_
      exact s_G_lay_47 hI _ _ _
/-! BubbleTorus$Grid.copyFrom -/
theorem d_G_copyFrom_0 : decode m_G_copyFrom.2.1 0 = .ok (.aload_n 0, 1) := by decide +kernel
theorem d_G_copyFrom_1 : decode m_G_copyFrom.2.1 1 = .ok (.getfield 21, 3) := by decide +kernel
theorem d_G_copyFrom_4 : decode m_G_copyFrom.2.1 4 = .ok (.aload_n 1, 1) := by decide +kernel
theorem d_G_copyFrom_5 : decode m_G_copyFrom.2.1 5 = .ok (.getfield 21, 3) := by decide +kernel
theorem d_G_copyFrom_8 : decode m_G_copyFrom.2.1 8 = .ok (.if_icmp .ne 14, 3) := by decide +kernel
theorem d_G_copyFrom_11 : decode m_G_copyFrom.2.1 11 = .ok (.aload_n 0, 1) := by decide +kernel
theorem d_G_copyFrom_12 : decode m_G_copyFrom.2.1 12 = .ok (.getfield 25, 3) := by decide +kernel
theorem d_G_copyFrom_15 : decode m_G_copyFrom.2.1 15 = .ok (.aload_n 1, 1) := by decide +kernel
theorem d_G_copyFrom_16 : decode m_G_copyFrom.2.1 16 = .ok (.getfield 25, 3) := by decide +kernel
theorem d_G_copyFrom_19 : decode m_G_copyFrom.2.1 19 = .ok (.if_icmp .eq 15, 3) := by decide +kernel
theorem d_G_copyFrom_22 : decode m_G_copyFrom.2.1 22 = .ok (.aload_n 0, 1) := by decide +kernel
theorem d_G_copyFrom_23 : decode m_G_copyFrom.2.1 23 = .ok (.aload_n 1, 1) := by decide +kernel
theorem d_G_copyFrom_24 : decode m_G_copyFrom.2.1 24 = .ok (.getfield 21, 3) := by decide +kernel
theorem d_G_copyFrom_27 : decode m_G_copyFrom.2.1 27 = .ok (.aload_n 1, 1) := by decide +kernel
theorem d_G_copyFrom_28 : decode m_G_copyFrom.2.1 28 = .ok (.getfield 25, 3) := by decide +kernel
theorem d_G_copyFrom_31 : decode m_G_copyFrom.2.1 31 = .ok (.invokevirtual 34, 3) := by decide +kernel
theorem d_G_copyFrom_34 : decode m_G_copyFrom.2.1 34 = .ok (.return_, 1) := by decide +kernel
def f_G_copyFrom_22 (o : Nat) (p1 : Nat) (w : qMem) : Option (qMem) :=
  (f_G_lay o (w p1 3) (w p1 4) w).bind fun q1 =>
  some q1
set_option maxRecDepth 4000 in
theorem s_G_copyFrom_22 {ph : Nat} {o : Nat} {p1 : Nat} (hI : qIs kLG ph o) (hp1 : qIs kLG ph p1) : ∀ (w : qMem), qSim κV ph ph m_G_copyFrom 22 [] [some (qR o), some (qR p1)] w (f_G_copyFrom_22 o p1 w) := by
  intro w
  unfold f_G_copyFrom_22
  refine z_aload_n d_G_copyFrom_22 rfl ?_
  refine z_aload_n d_G_copyFrom_23 rfl ?_
  refine z_gi (ci := 0) (j := 3) (ji := 3) d_G_copyFrom_24 rfl fl_G_21 (hp1 0 _ rfl).1 rfl rfl ?_
  refine z_aload_n d_G_copyFrom_27 rfl ?_
  refine z_gi (ci := 0) (j := 4) (ji := 4) d_G_copyFrom_28 rfl fl_G_25 (hp1 0 _ rfl).1 rfl rfl ?_
  refine z_cVV (as := [qI (w p1 3), qI (w p1 4)]) (st := []) (nl := 3) (ci := 0) d_G_copyFrom_31 lk_G_34 mk_G_lay rfl rfl (hI 0 _ rfl).1 rfl rfl rfl (s_G_lay _ _ hI _) (fun q1 _ => ?_)
  exact z_vret d_G_copyFrom_34 rfl rfl
def f_G_copyFrom (o : Nat) (p1 : Nat) (w : qMem) : Option (qMem) :=
  if (w o 3) = (w p1 3) then
  if (w o 4) = (w p1 4) then
  some w
  else
  f_G_copyFrom_22 o p1 w
  else
  f_G_copyFrom_22 o p1 w
set_option maxRecDepth 4000 in
theorem s_G_copyFrom {ph : Nat} {o : Nat} {p1 : Nat} (hI : qIs kLG ph o) (hp1 : qIs kLG ph p1) (w : qMem) : qSim κV ph ph m_G_copyFrom 0 [] [some (qR o), some (qR p1)] w (f_G_copyFrom o p1 w) := by
  unfold f_G_copyFrom
  refine z_aload_n d_G_copyFrom_0 rfl ?_
  refine z_gi (ci := 0) (j := 3) (ji := 3) d_G_copyFrom_1 rfl fl_G_21 (hI 0 _ rfl).1 rfl rfl ?_
  refine z_aload_n d_G_copyFrom_4 rfl ?_
  refine z_gi (ci := 0) (j := 3) (ji := 3) d_G_copyFrom_5 rfl fl_G_21 (hp1 0 _ rfl).1 rfl rfl ?_
  refine z_icmp_ne (tgt := 22) d_G_copyFrom_8 rfl (fun c2 => ?_) (fun c2 => ?_)
  · refine z_aload_n d_G_copyFrom_11 rfl ?_
    refine z_gi (ci := 0) (j := 4) (ji := 4) d_G_copyFrom_12 rfl fl_G_25 (hI 0 _ rfl).1 rfl rfl ?_
    refine z_aload_n d_G_copyFrom_15 rfl ?_
    refine z_gi (ci := 0) (j := 4) (ji := 4) d_G_copyFrom_16 rfl fl_G_25 (hp1 0 _ rfl).1 rfl rfl ?_
    refine z_icmp_eq (tgt := 34) d_G_copyFrom_19 rfl (fun c3 => ?_) (fun c3 => ?_)
    · exact z_vret d_G_copyFrom_34 rfl rfl
    · refine z_mask [true, true] ?_
      exact s_G_copyFrom_22 hI hp1 _
  · refine z_mask [true, true] ?_
    exact s_G_copyFrom_22 hI hp1 _
/-! BubbleTorus$Grid.hasNode -/
theorem d_G_hasNode_0 : decode m_G_hasNode.2.1 0 = .ok (.iload_n 1, 1) := by decide +kernel
theorem d_G_hasNode_1 : decode m_G_hasNode.2.1 1 = .ok (.ifCond .lt 15, 3) := by decide +kernel
theorem d_G_hasNode_4 : decode m_G_hasNode.2.1 4 = .ok (.iload_n 1, 1) := by decide +kernel
theorem d_G_hasNode_5 : decode m_G_hasNode.2.1 5 = .ok (.aload_n 0, 1) := by decide +kernel
theorem d_G_hasNode_6 : decode m_G_hasNode.2.1 6 = .ok (.getfield 28, 3) := by decide +kernel
theorem d_G_hasNode_9 : decode m_G_hasNode.2.1 9 = .ok (.if_icmp .ge 7, 3) := by decide +kernel
theorem d_G_hasNode_12 : decode m_G_hasNode.2.1 12 = .ok (.iconst 1, 1) := by decide +kernel
theorem d_G_hasNode_13 : decode m_G_hasNode.2.1 13 = .ok (.goto 4, 3) := by decide +kernel
theorem d_G_hasNode_16 : decode m_G_hasNode.2.1 16 = .ok (.iconst 0, 1) := by decide +kernel
theorem d_G_hasNode_17 : decode m_G_hasNode.2.1 17 = .ok (.ireturn, 1) := by decide +kernel
def f_G_hasNode (o : Nat) (x1 : Int) (w : qMem) : Option (Int × qMem) :=
  if x1 < 0 then
  some (0, w)
  else
  if x1 < (w o 5) then
  some (1, w)
  else
  some (0, w)
set_option maxRecDepth 4000 in
theorem s_G_hasNode {ph : Nat} {o : Nat} (x1 : Int) (hI : qIs kLG ph o) (w : qMem) : qSim κI ph ph m_G_hasNode 0 [] [some (qR o), some (qI x1)] w (f_G_hasNode o x1 w) := by
  unfold f_G_hasNode
  refine z_iload_n d_G_hasNode_0 rfl ?_
  refine z_if_lt (tgt := 16) d_G_hasNode_1 rfl (fun c1 => ?_) (fun c1 => ?_)
  · refine z_ic0 d_G_hasNode_16 ?_
    exact z_zret d_G_hasNode_17 rfl rfl (Or.inl rfl)
  · refine z_iload_n d_G_hasNode_4 rfl ?_
    refine z_aload_n d_G_hasNode_5 rfl ?_
    refine z_gi (ci := 0) (j := 5) (ji := 5) d_G_hasNode_6 rfl fl_G_28 (hI 0 _ rfl).1 rfl rfl ?_
    refine z_icmp_ge (tgt := 16) d_G_hasNode_9 rfl (fun c2 => ?_) (fun c2 => ?_)
    · refine z_ic1 d_G_hasNode_12 ?_
      refine z_goto (tgt := 17) d_G_hasNode_13 rfl ?_
      exact z_zret d_G_hasNode_17 rfl rfl (Or.inr rfl)
    · refine z_ic0 d_G_hasNode_16 ?_
      exact z_zret d_G_hasNode_17 rfl rfl (Or.inl rfl)
/-! BubbleTorus$Grid.nextBy -/
theorem d_G_nextBy_0 : decode m_G_nextBy.2.1 0 = .ok (.aload_n 0, 1) := by decide +kernel
theorem d_G_nextBy_1 : decode m_G_nextBy.2.1 1 = .ok (.getfield 9, 3) := by decide +kernel
theorem d_G_nextBy_4 : decode m_G_nextBy.2.1 4 = .ok (.iload_n 1, 1) := by decide +kernel
theorem d_G_nextBy_5 : decode m_G_nextBy.2.1 5 = .ok (.iconst 4, 1) := by decide +kernel
theorem d_G_nextBy_6 : decode m_G_nextBy.2.1 6 = .ok (.imul, 1) := by decide +kernel
theorem d_G_nextBy_7 : decode m_G_nextBy.2.1 7 = .ok (.iload_n 2, 1) := by decide +kernel
theorem d_G_nextBy_8 : decode m_G_nextBy.2.1 8 = .ok (.iadd, 1) := by decide +kernel
theorem d_G_nextBy_9 : decode m_G_nextBy.2.1 9 = .ok (.iaload, 1) := by decide +kernel
theorem d_G_nextBy_10 : decode m_G_nextBy.2.1 10 = .ok (.ireturn, 1) := by decide +kernel
def f_G_nextBy (o : Nat) (x1 : Int) (x2 : Int) (w : qMem) : Option (Int × qMem) :=
  qld w (o + 1) 64 (w32 ((w32 (x1 * 4)) + x2)) fun v1 =>
  some (v1, w)
set_option maxRecDepth 4000 in
theorem s_G_nextBy {ph : Nat} {o : Nat} (x1 : Int) (x2 : Int) (hI : qIs kLG ph o) (w : qMem) : qSim κI ph ph m_G_nextBy 0 [] [some (qR o), some (qI x1), some (qI x2)] w (f_G_nextBy o x1 x2 w) := by
  unfold f_G_nextBy
  refine z_aload_n d_G_nextBy_0 rfl ?_
  refine z_gr (ci := 0) (j := 0) (d := 1) (o2 := (o + 1)) d_G_nextBy_1 rfl fl_G_9 (hI 0 _ rfl).1 ((hI 0 _ rfl).2 (Nat.le_of_ble_eq_true rfl)) rfl rfl ?_
  refine z_iload_n d_G_nextBy_4 rfl ?_
  refine z_ic4 d_G_nextBy_5 ?_
  refine z_imul d_G_nextBy_6 ?_
  refine z_iload_n d_G_nextBy_7 rfl ?_
  refine z_iadd d_G_nextBy_8 ?_
  refine z_il d_G_nextBy_9 (hI 1 _ rfl).1 rfl (fun v1 => ?_)
  exact z_iret d_G_nextBy_10 rfl rfl
/-! BubbleTorus$Grid.nearerBy -/
theorem d_G_nearerBy_0 : decode m_G_nearerBy.2.1 0 = .ok (.aload_n 0, 1) := by decide +kernel
theorem d_G_nearerBy_1 : decode m_G_nearerBy.2.1 1 = .ok (.getfield 15, 3) := by decide +kernel
theorem d_G_nearerBy_4 : decode m_G_nearerBy.2.1 4 = .ok (.iload_n 1, 1) := by decide +kernel
theorem d_G_nearerBy_5 : decode m_G_nearerBy.2.1 5 = .ok (.bipush 16, 2) := by decide +kernel
theorem d_G_nearerBy_7 : decode m_G_nearerBy.2.1 7 = .ok (.imul, 1) := by decide +kernel
theorem d_G_nearerBy_8 : decode m_G_nearerBy.2.1 8 = .ok (.iload_n 2, 1) := by decide +kernel
theorem d_G_nearerBy_9 : decode m_G_nearerBy.2.1 9 = .ok (.iadd, 1) := by decide +kernel
theorem d_G_nearerBy_10 : decode m_G_nearerBy.2.1 10 = .ok (.iaload, 1) := by decide +kernel
theorem d_G_nearerBy_11 : decode m_G_nearerBy.2.1 11 = .ok (.ireturn, 1) := by decide +kernel
def f_G_nearerBy (o : Nat) (x1 : Int) (x2 : Int) (w : qMem) : Option (Int × qMem) :=
  qld w (o + 2) 256 (w32 ((w32 (x1 * 16)) + x2)) fun v1 =>
  some (v1, w)
set_option maxRecDepth 4000 in
theorem s_G_nearerBy {ph : Nat} {o : Nat} (x1 : Int) (x2 : Int) (hI : qIs kLG ph o) (w : qMem) : qSim κI ph ph m_G_nearerBy 0 [] [some (qR o), some (qI x1), some (qI x2)] w (f_G_nearerBy o x1 x2 w) := by
  unfold f_G_nearerBy
  refine z_aload_n d_G_nearerBy_0 rfl ?_
  refine z_gr (ci := 0) (j := 1) (d := 2) (o2 := (o + 2)) d_G_nearerBy_1 rfl fl_G_15 (hI 0 _ rfl).1 ((hI 0 _ rfl).2 (Nat.le_of_ble_eq_true rfl)) rfl rfl ?_
  refine z_iload_n d_G_nearerBy_4 rfl ?_
  refine z_bipush d_G_nearerBy_5 ⟨by decide, by decide⟩ ?_
  refine z_imul d_G_nearerBy_7 ?_
  refine z_iload_n d_G_nearerBy_8 rfl ?_
  refine z_iadd d_G_nearerBy_9 ?_
  refine z_il d_G_nearerBy_10 (hI 2 _ rfl).1 rfl (fun v1 => ?_)
  exact z_iret d_G_nearerBy_11 rfl rfl
/-! BubbleTorus$Grid.escapeBy -/
theorem d_G_escapeBy_0 : decode m_G_escapeBy.2.1 0 = .ok (.aload_n 0, 1) := by decide +kernel
theorem d_G_escapeBy_1 : decode m_G_escapeBy.2.1 1 = .ok (.getfield 18, 3) := by decide +kernel
theorem d_G_escapeBy_4 : decode m_G_escapeBy.2.1 4 = .ok (.iload_n 1, 1) := by decide +kernel
theorem d_G_escapeBy_5 : decode m_G_escapeBy.2.1 5 = .ok (.bipush 16, 2) := by decide +kernel
theorem d_G_escapeBy_7 : decode m_G_escapeBy.2.1 7 = .ok (.imul, 1) := by decide +kernel
theorem d_G_escapeBy_8 : decode m_G_escapeBy.2.1 8 = .ok (.iload_n 2, 1) := by decide +kernel
theorem d_G_escapeBy_9 : decode m_G_escapeBy.2.1 9 = .ok (.iadd, 1) := by decide +kernel
theorem d_G_escapeBy_10 : decode m_G_escapeBy.2.1 10 = .ok (.iaload, 1) := by decide +kernel
theorem d_G_escapeBy_11 : decode m_G_escapeBy.2.1 11 = .ok (.ireturn, 1) := by decide +kernel
def f_G_escapeBy (o : Nat) (x1 : Int) (x2 : Int) (w : qMem) : Option (Int × qMem) :=
  qld w (o + 3) 256 (w32 ((w32 (x1 * 16)) + x2)) fun v1 =>
  some (v1, w)
set_option maxRecDepth 4000 in
theorem s_G_escapeBy {ph : Nat} {o : Nat} (x1 : Int) (x2 : Int) (hI : qIs kLG ph o) (w : qMem) : qSim κI ph ph m_G_escapeBy 0 [] [some (qR o), some (qI x1), some (qI x2)] w (f_G_escapeBy o x1 x2 w) := by
  unfold f_G_escapeBy
  refine z_aload_n d_G_escapeBy_0 rfl ?_
  refine z_gr (ci := 0) (j := 2) (d := 3) (o2 := (o + 3)) d_G_escapeBy_1 rfl fl_G_18 (hI 0 _ rfl).1 ((hI 0 _ rfl).2 (Nat.le_of_ble_eq_true rfl)) rfl rfl ?_
  refine z_iload_n d_G_escapeBy_4 rfl ?_
  refine z_bipush d_G_escapeBy_5 ⟨by decide, by decide⟩ ?_
  refine z_imul d_G_escapeBy_7 ?_
  refine z_iload_n d_G_escapeBy_8 rfl ?_
  refine z_iadd d_G_escapeBy_9 ?_
  refine z_il d_G_escapeBy_10 (hI 3 _ rfl).1 rfl (fun v1 => ?_)
  exact z_iret d_G_escapeBy_11 rfl rfl
/-! BubbleTorus$Grid.wayStep -/
theorem d_G_wayStep_0 : decode m_G_wayStep.2.1 0 = .ok (.iconst (-1), 1) := by decide +kernel
theorem d_G_wayStep_1 : decode m_G_wayStep.2.1 1 = .ok (.istore 4, 2) := by decide +kernel
theorem d_G_wayStep_3 : decode m_G_wayStep.2.1 3 = .ok (.iload_n 1, 1) := by decide +kernel
theorem d_G_wayStep_4 : decode m_G_wayStep.2.1 4 = .ok (.istore 5, 2) := by decide +kernel
theorem d_G_wayStep_6 : decode m_G_wayStep.2.1 6 = .ok (.iload_n 3, 1) := by decide +kernel
theorem d_G_wayStep_7 : decode m_G_wayStep.2.1 7 = .ok (.ifCond .lt 58, 3) := by decide +kernel
theorem d_G_wayStep_10 : decode m_G_wayStep.2.1 10 = .ok (.iload_n 3, 1) := by decide +kernel
theorem d_G_wayStep_11 : decode m_G_wayStep.2.1 11 = .ok (.aload_n 0, 1) := by decide +kernel
theorem d_G_wayStep_12 : decode m_G_wayStep.2.1 12 = .ok (.iload_n 1, 1) := by decide +kernel
theorem d_G_wayStep_13 : decode m_G_wayStep.2.1 13 = .ok (.iload_n 2, 1) := by decide +kernel
theorem d_G_wayStep_14 : decode m_G_wayStep.2.1 14 = .ok (.invokevirtual 57, 3) := by decide +kernel
theorem d_G_wayStep_17 : decode m_G_wayStep.2.1 17 = .ok (.if_icmp .ge 48, 3) := by decide +kernel
theorem d_G_wayStep_20 : decode m_G_wayStep.2.1 20 = .ok (.iconst 0, 1) := by decide +kernel
theorem d_G_wayStep_21 : decode m_G_wayStep.2.1 21 = .ok (.istore 6, 2) := by decide +kernel
theorem d_G_wayStep_23 : decode m_G_wayStep.2.1 23 = .ok (.iload 6, 2) := by decide +kernel
theorem d_G_wayStep_25 : decode m_G_wayStep.2.1 25 = .ok (.iload_n 3, 1) := by decide +kernel
theorem d_G_wayStep_26 : decode m_G_wayStep.2.1 26 = .ok (.if_icmp .gt 39, 3) := by decide +kernel
theorem d_G_wayStep_29 : decode m_G_wayStep.2.1 29 = .ok (.aload_n 0, 1) := by decide +kernel
theorem d_G_wayStep_30 : decode m_G_wayStep.2.1 30 = .ok (.iload 5, 2) := by decide +kernel
theorem d_G_wayStep_32 : decode m_G_wayStep.2.1 32 = .ok (.iload_n 2, 1) := by decide +kernel
theorem d_G_wayStep_33 : decode m_G_wayStep.2.1 33 = .ok (.invokevirtual 60, 3) := by decide +kernel
theorem d_G_wayStep_36 : decode m_G_wayStep.2.1 36 = .ok (.istore 4, 2) := by decide +kernel
theorem d_G_wayStep_38 : decode m_G_wayStep.2.1 38 = .ok (.iload 4, 2) := by decide +kernel
theorem d_G_wayStep_40 : decode m_G_wayStep.2.1 40 = .ok (.iconst (-1), 1) := by decide +kernel
theorem d_G_wayStep_41 : decode m_G_wayStep.2.1 41 = .ok (.if_icmp .ne 8, 3) := by decide +kernel
theorem d_G_wayStep_44 : decode m_G_wayStep.2.1 44 = .ok (.iload 5, 2) := by decide +kernel
theorem d_G_wayStep_46 : decode m_G_wayStep.2.1 46 = .ok (.goto 11, 3) := by decide +kernel
theorem d_G_wayStep_49 : decode m_G_wayStep.2.1 49 = .ok (.aload_n 0, 1) := by decide +kernel
theorem d_G_wayStep_50 : decode m_G_wayStep.2.1 50 = .ok (.iload 5, 2) := by decide +kernel
theorem d_G_wayStep_52 : decode m_G_wayStep.2.1 52 = .ok (.iload 4, 2) := by decide +kernel
theorem d_G_wayStep_54 : decode m_G_wayStep.2.1 54 = .ok (.invokevirtual 63, 3) := by decide +kernel
theorem d_G_wayStep_57 : decode m_G_wayStep.2.1 57 = .ok (.istore 5, 2) := by decide +kernel
theorem d_G_wayStep_59 : decode m_G_wayStep.2.1 59 = .ok (.iinc 6 1, 3) := by decide +kernel
theorem d_G_wayStep_62 : decode m_G_wayStep.2.1 62 = .ok (.goto (-39), 3) := by decide +kernel
theorem d_G_wayStep_65 : decode m_G_wayStep.2.1 65 = .ok (.iload 4, 2) := by decide +kernel
theorem d_G_wayStep_67 : decode m_G_wayStep.2.1 67 = .ok (.ireturn, 1) := by decide +kernel
def f_G_wayStep_57 (o : Nat) (r23 : Int → Int → Int → Int → Int → qMem → Option (Int × qMem)) (s0 x2 x3 x4 x6 : Int) (w : qMem) : Option (Int × qMem) :=
  r23 x2 x3 x4 s0 (w32 (x6 + 1)) w
set_option maxRecDepth 4000 in
theorem s_G_wayStep_57 {ph : Nat} {o : Nat} (hI : qIs kLG ph o) {r23 : Int → Int → Int → Int → Int → qMem → Option (Int × qMem)} (hr23 : ∀ x2 x3 x4 x5 x6 w, qSim κI ph ph m_G_wayStep 23 [] [some (qR o), none, some (qI x2), some (qI x3), some (qI x4), some (qI x5), some (qI x6)] w (r23 x2 x3 x4 x5 x6 w)) : ∀ (s0 x2 x3 x4 x6 : Int) (w : qMem), qSim κI ph ph m_G_wayStep 57 [qI s0] [some (qR o), none, some (qI x2), some (qI x3), some (qI x4), none, some (qI x6)] w (f_G_wayStep_57 o r23 s0 x2 x3 x4 x6 w) := by
  intro s0 x2 x3 x4 x6 w
  unfold f_G_wayStep_57
  refine z_istore (pls' := [some (qR o), none, some (qI x2), some (qI x3), some (qI x4), some (qI s0), some (qI x6)]) d_G_wayStep_57 (by decide) rfl rfl ?_
  refine z_iinc (pls' := [some (qR o), none, some (qI x2), some (qI x3), some (qI x4), some (qI s0), some (qI (w32 (x6 + 1)))]) d_G_wayStep_59 (by decide) rfl rfl rfl ?_
  refine z_goto (tgt := 23) d_G_wayStep_62 rfl ?_
  refine z_mask [true, false, true, true, true, true, true] ?_
  exact hr23 _ _ _ _ _ _
def f_G_wayStep_23 (o : Nat) : Nat → Int → Int → Int → Int → Int → qMem → Option (Int × qMem)
  | 0, _, _, _, _, _, _ => none
  | n + 1, x2, x3, x4, x5, x6, w =>
    if x6 ≤ x3 then
    (f_G_escapeBy o x5 x2 w).bind fun q2 =>
    if q2.1 = (-1) then
    f_G_wayStep_57 o (f_G_wayStep_23 o n) x5 x2 x3 q2.1 x6 q2.2
    else
    (f_G_nextBy o x5 q2.1 q2.2).bind fun q4 =>
    f_G_wayStep_57 o (f_G_wayStep_23 o n) q4.1 x2 x3 q2.1 x6 q4.2
    else
    some (x4, w)
set_option maxRecDepth 4000 in
theorem s_G_wayStep_23 {ph : Nat} {o : Nat} (hI : qIs kLG ph o) : ∀ (n : Nat), ∀ (x2 x3 x4 x5 x6 : Int) (w : qMem), qSim κI ph ph m_G_wayStep 23 [] [some (qR o), none, some (qI x2), some (qI x3), some (qI x4), some (qI x5), some (qI x6)] w (f_G_wayStep_23 o n x2 x3 x4 x5 x6 w) := by
  intro n
  induction n with
  | zero => intro x2 x3 x4 x5 x6 w; exact z_none
  | succ n ih =>
    intro x2 x3 x4 x5 x6 w
    rw [f_G_wayStep_23]
    refine z_iload d_G_wayStep_23 rfl ?_
    refine z_iload_n d_G_wayStep_25 rfl ?_
    refine z_icmp_gt (tgt := 65) d_G_wayStep_26 rfl (fun c1 => ?_) (fun c1 => ?_)
    · refine z_aload_n d_G_wayStep_29 rfl ?_
      refine z_iload d_G_wayStep_30 rfl ?_
      refine z_iload_n d_G_wayStep_32 rfl ?_
      refine z_cVI (as := [qI x5, qI x2]) (st := []) (nl := 0) (ci := 0) d_G_wayStep_33 lk_G_60 mk_G_escapeBy rfl rfl (hI 0 _ rfl).1 rfl rfl rfl (s_G_escapeBy _ _ hI _) (fun q2 _ hq2 => ?_)
      refine z_istore (pls' := [some (qR o), none, some (qI x2), some (qI x3), some (qI q2.1), some (qI x5), some (qI x6)]) d_G_wayStep_36 (by decide) rfl rfl ?_
      refine z_iload d_G_wayStep_38 rfl ?_
      refine z_icm1 d_G_wayStep_40 ?_
      refine z_icmp_ne (tgt := 49) d_G_wayStep_41 rfl (fun c3 => ?_) (fun c3 => ?_)
      · refine z_iload d_G_wayStep_44 rfl ?_
        refine z_goto (tgt := 57) d_G_wayStep_46 rfl ?_
        refine z_mask [true, false, true, true, true, false, true] ?_
        exact s_G_wayStep_57 hI ih _ _ _ _ _ _
      · refine z_aload_n d_G_wayStep_49 rfl ?_
        refine z_iload d_G_wayStep_50 rfl ?_
        refine z_iload d_G_wayStep_52 rfl ?_
        refine z_cVI (as := [qI x5, qI q2.1]) (st := []) (nl := 0) (ci := 0) d_G_wayStep_54 lk_G_63 mk_G_nextBy rfl rfl (hI 0 _ rfl).1 rfl rfl rfl (s_G_nextBy _ _ hI _) (fun q4 _ hq4 => ?_)
        refine z_mask [true, false, true, true, true, false, true] ?_
        exact s_G_wayStep_57 hI ih _ _ _ _ _ _
    · refine z_iload d_G_wayStep_65 rfl ?_
      exact z_iret d_G_wayStep_67 rfl rfl
def f_G_wayStep (o : Nat) (x1 : Int) (x2 : Int) (x3 : Int) (w : qMem) : Option (Int × qMem) :=
  if x3 < 0 then
  some ((-1), w)
  else
  (f_G_distance o x1 x2 w).bind fun q6 =>
  if x3 < q6.1 then
  f_G_wayStep_23 o qFU x2 x3 (-1) x1 0 q6.2
  else
  some ((-1), q6.2)
set_option maxRecDepth 4000 in
theorem s_G_wayStep {ph : Nat} {o : Nat} (x1 : Int) (x2 : Int) (x3 : Int) (hI : qIs kLG ph o) (w : qMem) : qSim κI ph ph m_G_wayStep 0 [] [some (qR o), some (qI x1), some (qI x2), some (qI x3), none, none, none] w (f_G_wayStep o x1 x2 x3 w) := by
  unfold f_G_wayStep
  refine z_icm1 d_G_wayStep_0 ?_
  refine z_istore (pls' := [some (qR o), some (qI x1), some (qI x2), some (qI x3), some (qI (-1)), none, none]) d_G_wayStep_1 (by decide) rfl rfl ?_
  refine z_iload_n d_G_wayStep_3 rfl ?_
  refine z_istore (pls' := [some (qR o), some (qI x1), some (qI x2), some (qI x3), some (qI (-1)), some (qI x1), none]) d_G_wayStep_4 (by decide) rfl rfl ?_
  refine z_iload_n d_G_wayStep_6 rfl ?_
  refine z_if_lt (tgt := 65) d_G_wayStep_7 rfl (fun c5 => ?_) (fun c5 => ?_)
  · refine z_iload d_G_wayStep_65 rfl ?_
    exact z_iret d_G_wayStep_67 rfl rfl
  · refine z_iload_n d_G_wayStep_10 rfl ?_
    refine z_aload_n d_G_wayStep_11 rfl ?_
    refine z_iload_n d_G_wayStep_12 rfl ?_
    refine z_iload_n d_G_wayStep_13 rfl ?_
    refine z_cVI (as := [qI x1, qI x2]) (st := [qI x3]) (nl := 0) (ci := 0) d_G_wayStep_14 lk_G_57 mk_G_distance rfl rfl (hI 0 _ rfl).1 rfl rfl rfl (s_G_distance _ _ hI _) (fun q6 _ hq6 => ?_)
    refine z_icmp_ge (tgt := 65) d_G_wayStep_17 rfl (fun c7 => ?_) (fun c7 => ?_)
    · refine z_ic0 d_G_wayStep_20 ?_
      refine z_istore (pls' := [some (qR o), some (qI x1), some (qI x2), some (qI x3), some (qI (-1)), some (qI x1), some (qI 0)]) d_G_wayStep_21 (by decide) rfl rfl ?_
      refine z_mask [true, false, true, true, true, true, true] ?_
      exact s_G_wayStep_23 hI _ _ _ _ _ _ _
    · refine z_iload d_G_wayStep_65 rfl ?_
      exact z_iret d_G_wayStep_67 rfl rfl
/-! BubbleTorus$Grid.ringIndex -/
theorem d_G_ringIndex_0 : decode m_G_ringIndex.2.1 0 = .ok (.iload_n 1, 1) := by decide +kernel
theorem d_G_ringIndex_1 : decode m_G_ringIndex.2.1 1 = .ok (.aload_n 0, 1) := by decide +kernel
theorem d_G_ringIndex_2 : decode m_G_ringIndex.2.1 2 = .ok (.getfield 21, 3) := by decide +kernel
theorem d_G_ringIndex_5 : decode m_G_ringIndex.2.1 5 = .ok (.irem, 1) := by decide +kernel
theorem d_G_ringIndex_6 : decode m_G_ringIndex.2.1 6 = .ok (.istore_n 3, 1) := by decide +kernel
theorem d_G_ringIndex_7 : decode m_G_ringIndex.2.1 7 = .ok (.iload_n 1, 1) := by decide +kernel
theorem d_G_ringIndex_8 : decode m_G_ringIndex.2.1 8 = .ok (.aload_n 0, 1) := by decide +kernel
theorem d_G_ringIndex_9 : decode m_G_ringIndex.2.1 9 = .ok (.getfield 21, 3) := by decide +kernel
theorem d_G_ringIndex_12 : decode m_G_ringIndex.2.1 12 = .ok (.idiv, 1) := by decide +kernel
theorem d_G_ringIndex_13 : decode m_G_ringIndex.2.1 13 = .ok (.istore 4, 2) := by decide +kernel
theorem d_G_ringIndex_15 : decode m_G_ringIndex.2.1 15 = .ok (.iload_n 2, 1) := by decide +kernel
theorem d_G_ringIndex_16 : decode m_G_ringIndex.2.1 16 = .ok (.tableswitch 48 0 2 #[28, 31, 39], 28) := by decide +kernel
theorem d_G_ringIndex_44 : decode m_G_ringIndex.2.1 44 = .ok (.iload 4, 2) := by decide +kernel
theorem d_G_ringIndex_46 : decode m_G_ringIndex.2.1 46 = .ok (.ireturn, 1) := by decide +kernel
theorem d_G_ringIndex_47 : decode m_G_ringIndex.2.1 47 = .ok (.aload_n 0, 1) := by decide +kernel
theorem d_G_ringIndex_48 : decode m_G_ringIndex.2.1 48 = .ok (.getfield 25, 3) := by decide +kernel
theorem d_G_ringIndex_51 : decode m_G_ringIndex.2.1 51 = .ok (.iload 4, 2) := by decide +kernel
theorem d_G_ringIndex_53 : decode m_G_ringIndex.2.1 53 = .ok (.iadd, 1) := by decide +kernel
theorem d_G_ringIndex_54 : decode m_G_ringIndex.2.1 54 = .ok (.ireturn, 1) := by decide +kernel
theorem d_G_ringIndex_55 : decode m_G_ringIndex.2.1 55 = .ok (.iconst 2, 1) := by decide +kernel
theorem d_G_ringIndex_56 : decode m_G_ringIndex.2.1 56 = .ok (.aload_n 0, 1) := by decide +kernel
theorem d_G_ringIndex_57 : decode m_G_ringIndex.2.1 57 = .ok (.getfield 25, 3) := by decide +kernel
theorem d_G_ringIndex_60 : decode m_G_ringIndex.2.1 60 = .ok (.imul, 1) := by decide +kernel
theorem d_G_ringIndex_61 : decode m_G_ringIndex.2.1 61 = .ok (.iload_n 3, 1) := by decide +kernel
theorem d_G_ringIndex_62 : decode m_G_ringIndex.2.1 62 = .ok (.iadd, 1) := by decide +kernel
theorem d_G_ringIndex_63 : decode m_G_ringIndex.2.1 63 = .ok (.ireturn, 1) := by decide +kernel
theorem d_G_ringIndex_64 : decode m_G_ringIndex.2.1 64 = .ok (.iconst 2, 1) := by decide +kernel
theorem d_G_ringIndex_65 : decode m_G_ringIndex.2.1 65 = .ok (.aload_n 0, 1) := by decide +kernel
theorem d_G_ringIndex_66 : decode m_G_ringIndex.2.1 66 = .ok (.getfield 25, 3) := by decide +kernel
theorem d_G_ringIndex_69 : decode m_G_ringIndex.2.1 69 = .ok (.imul, 1) := by decide +kernel
theorem d_G_ringIndex_70 : decode m_G_ringIndex.2.1 70 = .ok (.aload_n 0, 1) := by decide +kernel
theorem d_G_ringIndex_71 : decode m_G_ringIndex.2.1 71 = .ok (.getfield 21, 3) := by decide +kernel
theorem d_G_ringIndex_74 : decode m_G_ringIndex.2.1 74 = .ok (.iadd, 1) := by decide +kernel
theorem d_G_ringIndex_75 : decode m_G_ringIndex.2.1 75 = .ok (.iload_n 3, 1) := by decide +kernel
theorem d_G_ringIndex_76 : decode m_G_ringIndex.2.1 76 = .ok (.iadd, 1) := by decide +kernel
theorem d_G_ringIndex_77 : decode m_G_ringIndex.2.1 77 = .ok (.ireturn, 1) := by decide +kernel
def f_G_ringIndex (o : Nat) (x1 : Int) (x2 : Int) (w : qMem) : Option (Int × qMem) :=
  qdv (w o 3) <|
  qdv (w o 3) <|
  if x2 = 0 then
  some ((jdiv x1 (w o 3)), w)
  else
  if x2 = 1 then
  some ((w32 ((w o 4) + (jdiv x1 (w o 3)))), w)
  else
  if x2 = 2 then
  some ((w32 ((w32 (2 * (w o 4))) + (jrem x1 (w o 3)))), w)
  else
  some ((w32 ((w32 ((w32 (2 * (w o 4))) + (w o 3))) + (jrem x1 (w o 3)))), w)
set_option maxRecDepth 4000 in
theorem s_G_ringIndex {ph : Nat} {o : Nat} (x1 : Int) (x2 : Int) (hI : qIs kLG ph o) (w : qMem) : qSim κI ph ph m_G_ringIndex 0 [] [some (qR o), some (qI x1), some (qI x2), none, none] w (f_G_ringIndex o x1 x2 w) := by
  unfold f_G_ringIndex
  refine z_iload_n d_G_ringIndex_0 rfl ?_
  refine z_aload_n d_G_ringIndex_1 rfl ?_
  refine z_gi (ci := 0) (j := 3) (ji := 3) d_G_ringIndex_2 rfl fl_G_21 (hI 0 _ rfl).1 rfl rfl ?_
  refine z_irem d_G_ringIndex_5 (fun _ => ?_)
  refine z_istore_n (pls' := [some (qR o), some (qI x1), some (qI x2), some (qI (jrem x1 (w o 3))), none]) d_G_ringIndex_6 (by decide) rfl rfl ?_
  refine z_iload_n d_G_ringIndex_7 rfl ?_
  refine z_aload_n d_G_ringIndex_8 rfl ?_
  refine z_gi (ci := 0) (j := 3) (ji := 3) d_G_ringIndex_9 rfl fl_G_21 (hI 0 _ rfl).1 rfl rfl ?_
  refine z_idiv d_G_ringIndex_12 (fun _ => ?_)
  refine z_istore (pls' := [some (qR o), some (qI x1), some (qI x2), some (qI (jrem x1 (w o 3))), some (qI (jdiv x1 (w o 3)))]) d_G_ringIndex_13 (by decide) rfl rfl ?_
  refine z_iload_n d_G_ringIndex_15 rfl ?_
  refine z_if (fun c1 => ?_) (fun c1 => ?_)
  · refine z_tabIn (tgt := 44) (v := 0) d_G_ringIndex_16 c1 (by decide) (by decide) rfl rfl ?_
    refine z_iload d_G_ringIndex_44 rfl ?_
    exact z_iret d_G_ringIndex_46 rfl rfl
  · refine z_if (fun c2 => ?_) (fun c2 => ?_)
    · refine z_tabIn (tgt := 47) (v := 1) d_G_ringIndex_16 c2 (by decide) (by decide) rfl rfl ?_
      refine z_aload_n d_G_ringIndex_47 rfl ?_
      refine z_gi (ci := 0) (j := 4) (ji := 4) d_G_ringIndex_48 rfl fl_G_25 (hI 0 _ rfl).1 rfl rfl ?_
      refine z_iload d_G_ringIndex_51 rfl ?_
      refine z_iadd d_G_ringIndex_53 ?_
      exact z_iret d_G_ringIndex_54 rfl rfl
    · refine z_if (fun c3 => ?_) (fun c3 => ?_)
      · refine z_tabIn (tgt := 55) (v := 2) d_G_ringIndex_16 c3 (by decide) (by decide) rfl rfl ?_
        refine z_ic2 d_G_ringIndex_55 ?_
        refine z_aload_n d_G_ringIndex_56 rfl ?_
        refine z_gi (ci := 0) (j := 4) (ji := 4) d_G_ringIndex_57 rfl fl_G_25 (hI 0 _ rfl).1 rfl rfl ?_
        refine z_imul d_G_ringIndex_60 ?_
        refine z_iload_n d_G_ringIndex_61 rfl ?_
        refine z_iadd d_G_ringIndex_62 ?_
        exact z_iret d_G_ringIndex_63 rfl rfl
      · refine z_tabOut (tgt := 64) d_G_ringIndex_16 (by omega) rfl ?_
        refine z_ic2 d_G_ringIndex_64 ?_
        refine z_aload_n d_G_ringIndex_65 rfl ?_
        refine z_gi (ci := 0) (j := 4) (ji := 4) d_G_ringIndex_66 rfl fl_G_25 (hI 0 _ rfl).1 rfl rfl ?_
        refine z_imul d_G_ringIndex_69 ?_
        refine z_aload_n d_G_ringIndex_70 rfl ?_
        refine z_gi (ci := 0) (j := 3) (ji := 3) d_G_ringIndex_71 rfl fl_G_21 (hI 0 _ rfl).1 rfl rfl ?_
        refine z_iadd d_G_ringIndex_74 ?_
        refine z_iload_n d_G_ringIndex_75 rfl ?_
        refine z_iadd d_G_ringIndex_76 ?_
        exact z_iret d_G_ringIndex_77 rfl rfl
/-! BubbleTorus$Grid.ringDirection -/
theorem d_G_ringDirection_0 : decode m_G_ringDirection.2.1 0 = .ok (.iload_n 1, 1) := by decide +kernel
theorem d_G_ringDirection_1 : decode m_G_ringDirection.2.1 1 = .ok (.iconst 2, 1) := by decide +kernel
theorem d_G_ringDirection_2 : decode m_G_ringDirection.2.1 2 = .ok (.aload_n 0, 1) := by decide +kernel
theorem d_G_ringDirection_3 : decode m_G_ringDirection.2.1 3 = .ok (.getfield 25, 3) := by decide +kernel
theorem d_G_ringDirection_6 : decode m_G_ringDirection.2.1 6 = .ok (.imul, 1) := by decide +kernel
theorem d_G_ringDirection_7 : decode m_G_ringDirection.2.1 7 = .ok (.if_icmp .ge 17, 3) := by decide +kernel
theorem d_G_ringDirection_10 : decode m_G_ringDirection.2.1 10 = .ok (.iload_n 1, 1) := by decide +kernel
theorem d_G_ringDirection_11 : decode m_G_ringDirection.2.1 11 = .ok (.aload_n 0, 1) := by decide +kernel
theorem d_G_ringDirection_12 : decode m_G_ringDirection.2.1 12 = .ok (.getfield 25, 3) := by decide +kernel
theorem d_G_ringDirection_15 : decode m_G_ringDirection.2.1 15 = .ok (.if_icmp .ge 7, 3) := by decide +kernel
theorem d_G_ringDirection_18 : decode m_G_ringDirection.2.1 18 = .ok (.iconst 0, 1) := by decide +kernel
theorem d_G_ringDirection_19 : decode m_G_ringDirection.2.1 19 = .ok (.goto 4, 3) := by decide +kernel
theorem d_G_ringDirection_22 : decode m_G_ringDirection.2.1 22 = .ok (.iconst 1, 1) := by decide +kernel
theorem d_G_ringDirection_23 : decode m_G_ringDirection.2.1 23 = .ok (.ireturn, 1) := by decide +kernel
theorem d_G_ringDirection_24 : decode m_G_ringDirection.2.1 24 = .ok (.iload_n 1, 1) := by decide +kernel
theorem d_G_ringDirection_25 : decode m_G_ringDirection.2.1 25 = .ok (.iconst 2, 1) := by decide +kernel
theorem d_G_ringDirection_26 : decode m_G_ringDirection.2.1 26 = .ok (.aload_n 0, 1) := by decide +kernel
theorem d_G_ringDirection_27 : decode m_G_ringDirection.2.1 27 = .ok (.getfield 25, 3) := by decide +kernel
theorem d_G_ringDirection_30 : decode m_G_ringDirection.2.1 30 = .ok (.imul, 1) := by decide +kernel
theorem d_G_ringDirection_31 : decode m_G_ringDirection.2.1 31 = .ok (.aload_n 0, 1) := by decide +kernel
theorem d_G_ringDirection_32 : decode m_G_ringDirection.2.1 32 = .ok (.getfield 21, 3) := by decide +kernel
theorem d_G_ringDirection_35 : decode m_G_ringDirection.2.1 35 = .ok (.iadd, 1) := by decide +kernel
theorem d_G_ringDirection_36 : decode m_G_ringDirection.2.1 36 = .ok (.if_icmp .ge 7, 3) := by decide +kernel
theorem d_G_ringDirection_39 : decode m_G_ringDirection.2.1 39 = .ok (.iconst 2, 1) := by decide +kernel
theorem d_G_ringDirection_40 : decode m_G_ringDirection.2.1 40 = .ok (.goto 4, 3) := by decide +kernel
theorem d_G_ringDirection_43 : decode m_G_ringDirection.2.1 43 = .ok (.iconst 3, 1) := by decide +kernel
theorem d_G_ringDirection_44 : decode m_G_ringDirection.2.1 44 = .ok (.ireturn, 1) := by decide +kernel
def f_G_ringDirection (o : Nat) (x1 : Int) (w : qMem) : Option (Int × qMem) :=
  if x1 < (w32 (2 * (w o 4))) then
  if x1 < (w o 4) then
  some (0, w)
  else
  some (1, w)
  else
  if x1 < (w32 ((w32 (2 * (w o 4))) + (w o 3))) then
  some (2, w)
  else
  some (3, w)
set_option maxRecDepth 4000 in
theorem s_G_ringDirection {ph : Nat} {o : Nat} (x1 : Int) (hI : qIs kLG ph o) (w : qMem) : qSim κI ph ph m_G_ringDirection 0 [] [some (qR o), some (qI x1)] w (f_G_ringDirection o x1 w) := by
  unfold f_G_ringDirection
  refine z_iload_n d_G_ringDirection_0 rfl ?_
  refine z_ic2 d_G_ringDirection_1 ?_
  refine z_aload_n d_G_ringDirection_2 rfl ?_
  refine z_gi (ci := 0) (j := 4) (ji := 4) d_G_ringDirection_3 rfl fl_G_25 (hI 0 _ rfl).1 rfl rfl ?_
  refine z_imul d_G_ringDirection_6 ?_
  refine z_icmp_ge (tgt := 24) d_G_ringDirection_7 rfl (fun c1 => ?_) (fun c1 => ?_)
  · refine z_iload_n d_G_ringDirection_10 rfl ?_
    refine z_aload_n d_G_ringDirection_11 rfl ?_
    refine z_gi (ci := 0) (j := 4) (ji := 4) d_G_ringDirection_12 rfl fl_G_25 (hI 0 _ rfl).1 rfl rfl ?_
    refine z_icmp_ge (tgt := 22) d_G_ringDirection_15 rfl (fun c2 => ?_) (fun c2 => ?_)
    · refine z_ic0 d_G_ringDirection_18 ?_
      refine z_goto (tgt := 23) d_G_ringDirection_19 rfl ?_
      exact z_iret d_G_ringDirection_23 rfl rfl
    · refine z_ic1 d_G_ringDirection_22 ?_
      exact z_iret d_G_ringDirection_23 rfl rfl
  · refine z_iload_n d_G_ringDirection_24 rfl ?_
    refine z_ic2 d_G_ringDirection_25 ?_
    refine z_aload_n d_G_ringDirection_26 rfl ?_
    refine z_gi (ci := 0) (j := 4) (ji := 4) d_G_ringDirection_27 rfl fl_G_25 (hI 0 _ rfl).1 rfl rfl ?_
    refine z_imul d_G_ringDirection_30 ?_
    refine z_aload_n d_G_ringDirection_31 rfl ?_
    refine z_gi (ci := 0) (j := 3) (ji := 3) d_G_ringDirection_32 rfl fl_G_21 (hI 0 _ rfl).1 rfl rfl ?_
    refine z_iadd d_G_ringDirection_35 ?_
    refine z_icmp_ge (tgt := 43) d_G_ringDirection_36 rfl (fun c3 => ?_) (fun c3 => ?_)
    · refine z_ic2 d_G_ringDirection_39 ?_
      refine z_goto (tgt := 44) d_G_ringDirection_40 rfl ?_
      exact z_iret d_G_ringDirection_44 rfl rfl
    · refine z_ic3 d_G_ringDirection_43 ?_
      exact z_iret d_G_ringDirection_44 rfl rfl
/-! BubbleTorus$Grid.ringLength -/
theorem d_G_ringLength_0 : decode m_G_ringLength.2.1 0 = .ok (.iload_n 1, 1) := by decide +kernel
theorem d_G_ringLength_1 : decode m_G_ringLength.2.1 1 = .ok (.iconst 2, 1) := by decide +kernel
theorem d_G_ringLength_2 : decode m_G_ringLength.2.1 2 = .ok (.aload_n 0, 1) := by decide +kernel
theorem d_G_ringLength_3 : decode m_G_ringLength.2.1 3 = .ok (.getfield 25, 3) := by decide +kernel
theorem d_G_ringLength_6 : decode m_G_ringLength.2.1 6 = .ok (.imul, 1) := by decide +kernel
theorem d_G_ringLength_7 : decode m_G_ringLength.2.1 7 = .ok (.if_icmp .ge 10, 3) := by decide +kernel
theorem d_G_ringLength_10 : decode m_G_ringLength.2.1 10 = .ok (.aload_n 0, 1) := by decide +kernel
theorem d_G_ringLength_11 : decode m_G_ringLength.2.1 11 = .ok (.getfield 21, 3) := by decide +kernel
theorem d_G_ringLength_14 : decode m_G_ringLength.2.1 14 = .ok (.goto 7, 3) := by decide +kernel
theorem d_G_ringLength_17 : decode m_G_ringLength.2.1 17 = .ok (.aload_n 0, 1) := by decide +kernel
theorem d_G_ringLength_18 : decode m_G_ringLength.2.1 18 = .ok (.getfield 25, 3) := by decide +kernel
theorem d_G_ringLength_21 : decode m_G_ringLength.2.1 21 = .ok (.ireturn, 1) := by decide +kernel
def f_G_ringLength (o : Nat) (x1 : Int) (w : qMem) : Option (Int × qMem) :=
  if x1 < (w32 (2 * (w o 4))) then
  some ((w o 3), w)
  else
  some ((w o 4), w)
set_option maxRecDepth 4000 in
theorem s_G_ringLength {ph : Nat} {o : Nat} (x1 : Int) (hI : qIs kLG ph o) (w : qMem) : qSim κI ph ph m_G_ringLength 0 [] [some (qR o), some (qI x1)] w (f_G_ringLength o x1 w) := by
  unfold f_G_ringLength
  refine z_iload_n d_G_ringLength_0 rfl ?_
  refine z_ic2 d_G_ringLength_1 ?_
  refine z_aload_n d_G_ringLength_2 rfl ?_
  refine z_gi (ci := 0) (j := 4) (ji := 4) d_G_ringLength_3 rfl fl_G_25 (hI 0 _ rfl).1 rfl rfl ?_
  refine z_imul d_G_ringLength_6 ?_
  refine z_icmp_ge (tgt := 17) d_G_ringLength_7 rfl (fun c1 => ?_) (fun c1 => ?_)
  · refine z_aload_n d_G_ringLength_10 rfl ?_
    refine z_gi (ci := 0) (j := 3) (ji := 3) d_G_ringLength_11 rfl fl_G_21 (hI 0 _ rfl).1 rfl rfl ?_
    refine z_goto (tgt := 21) d_G_ringLength_14 rfl ?_
    exact z_iret d_G_ringLength_21 rfl rfl
  · refine z_aload_n d_G_ringLength_17 rfl ?_
    refine z_gi (ci := 0) (j := 4) (ji := 4) d_G_ringLength_18 rfl fl_G_25 (hI 0 _ rfl).1 rfl rfl ?_
    exact z_iret d_G_ringLength_21 rfl rfl
/-! BubbleTorus$Grid.ringNode -/
theorem d_G_ringNode_0 : decode m_G_ringNode.2.1 0 = .ok (.iload_n 1, 1) := by decide +kernel
theorem d_G_ringNode_1 : decode m_G_ringNode.2.1 1 = .ok (.iconst 2, 1) := by decide +kernel
theorem d_G_ringNode_2 : decode m_G_ringNode.2.1 2 = .ok (.aload_n 0, 1) := by decide +kernel
theorem d_G_ringNode_3 : decode m_G_ringNode.2.1 3 = .ok (.getfield 25, 3) := by decide +kernel
theorem d_G_ringNode_6 : decode m_G_ringNode.2.1 6 = .ok (.imul, 1) := by decide +kernel
theorem d_G_ringNode_7 : decode m_G_ringNode.2.1 7 = .ok (.if_icmp .ge 29, 3) := by decide +kernel
theorem d_G_ringNode_10 : decode m_G_ringNode.2.1 10 = .ok (.iload_n 1, 1) := by decide +kernel
theorem d_G_ringNode_11 : decode m_G_ringNode.2.1 11 = .ok (.aload_n 0, 1) := by decide +kernel
theorem d_G_ringNode_12 : decode m_G_ringNode.2.1 12 = .ok (.getfield 25, 3) := by decide +kernel
theorem d_G_ringNode_15 : decode m_G_ringNode.2.1 15 = .ok (.if_icmp .ge 7, 3) := by decide +kernel
theorem d_G_ringNode_18 : decode m_G_ringNode.2.1 18 = .ok (.iload_n 1, 1) := by decide +kernel
theorem d_G_ringNode_19 : decode m_G_ringNode.2.1 19 = .ok (.goto 9, 3) := by decide +kernel
theorem d_G_ringNode_22 : decode m_G_ringNode.2.1 22 = .ok (.iload_n 1, 1) := by decide +kernel
theorem d_G_ringNode_23 : decode m_G_ringNode.2.1 23 = .ok (.aload_n 0, 1) := by decide +kernel
theorem d_G_ringNode_24 : decode m_G_ringNode.2.1 24 = .ok (.getfield 25, 3) := by decide +kernel
theorem d_G_ringNode_27 : decode m_G_ringNode.2.1 27 = .ok (.isub, 1) := by decide +kernel
theorem d_G_ringNode_28 : decode m_G_ringNode.2.1 28 = .ok (.aload_n 0, 1) := by decide +kernel
theorem d_G_ringNode_29 : decode m_G_ringNode.2.1 29 = .ok (.getfield 21, 3) := by decide +kernel
theorem d_G_ringNode_32 : decode m_G_ringNode.2.1 32 = .ok (.imul, 1) := by decide +kernel
theorem d_G_ringNode_33 : decode m_G_ringNode.2.1 33 = .ok (.iload_n 2, 1) := by decide +kernel
theorem d_G_ringNode_34 : decode m_G_ringNode.2.1 34 = .ok (.iadd, 1) := by decide +kernel
theorem d_G_ringNode_35 : decode m_G_ringNode.2.1 35 = .ok (.ireturn, 1) := by decide +kernel
theorem d_G_ringNode_36 : decode m_G_ringNode.2.1 36 = .ok (.iload_n 1, 1) := by decide +kernel
theorem d_G_ringNode_37 : decode m_G_ringNode.2.1 37 = .ok (.iconst 2, 1) := by decide +kernel
theorem d_G_ringNode_38 : decode m_G_ringNode.2.1 38 = .ok (.aload_n 0, 1) := by decide +kernel
theorem d_G_ringNode_39 : decode m_G_ringNode.2.1 39 = .ok (.getfield 25, 3) := by decide +kernel
theorem d_G_ringNode_42 : decode m_G_ringNode.2.1 42 = .ok (.imul, 1) := by decide +kernel
theorem d_G_ringNode_43 : decode m_G_ringNode.2.1 43 = .ok (.isub, 1) := by decide +kernel
theorem d_G_ringNode_44 : decode m_G_ringNode.2.1 44 = .ok (.istore_n 3, 1) := by decide +kernel
theorem d_G_ringNode_45 : decode m_G_ringNode.2.1 45 = .ok (.iload_n 2, 1) := by decide +kernel
theorem d_G_ringNode_46 : decode m_G_ringNode.2.1 46 = .ok (.aload_n 0, 1) := by decide +kernel
theorem d_G_ringNode_47 : decode m_G_ringNode.2.1 47 = .ok (.getfield 21, 3) := by decide +kernel
theorem d_G_ringNode_50 : decode m_G_ringNode.2.1 50 = .ok (.imul, 1) := by decide +kernel
theorem d_G_ringNode_51 : decode m_G_ringNode.2.1 51 = .ok (.iload_n 3, 1) := by decide +kernel
theorem d_G_ringNode_52 : decode m_G_ringNode.2.1 52 = .ok (.aload_n 0, 1) := by decide +kernel
theorem d_G_ringNode_53 : decode m_G_ringNode.2.1 53 = .ok (.getfield 21, 3) := by decide +kernel
theorem d_G_ringNode_56 : decode m_G_ringNode.2.1 56 = .ok (.if_icmp .ge 7, 3) := by decide +kernel
theorem d_G_ringNode_59 : decode m_G_ringNode.2.1 59 = .ok (.iload_n 3, 1) := by decide +kernel
theorem d_G_ringNode_60 : decode m_G_ringNode.2.1 60 = .ok (.goto 9, 3) := by decide +kernel
theorem d_G_ringNode_63 : decode m_G_ringNode.2.1 63 = .ok (.iload_n 3, 1) := by decide +kernel
theorem d_G_ringNode_64 : decode m_G_ringNode.2.1 64 = .ok (.aload_n 0, 1) := by decide +kernel
theorem d_G_ringNode_65 : decode m_G_ringNode.2.1 65 = .ok (.getfield 21, 3) := by decide +kernel
theorem d_G_ringNode_68 : decode m_G_ringNode.2.1 68 = .ok (.isub, 1) := by decide +kernel
theorem d_G_ringNode_69 : decode m_G_ringNode.2.1 69 = .ok (.iadd, 1) := by decide +kernel
theorem d_G_ringNode_70 : decode m_G_ringNode.2.1 70 = .ok (.ireturn, 1) := by decide +kernel
def f_G_ringNode_28 (o : Nat) (s0 x2 : Int) (w : qMem) : Option (Int × qMem) :=
  some ((w32 ((w32 (s0 * (w o 3))) + x2)), w)
set_option maxRecDepth 4000 in
theorem s_G_ringNode_28 {ph : Nat} {o : Nat} (hI : qIs kLG ph o) : ∀ (s0 x2 : Int) (w : qMem), qSim κI ph ph m_G_ringNode 28 [qI s0] [some (qR o), none, some (qI x2), none] w (f_G_ringNode_28 o s0 x2 w) := by
  intro s0 x2 w
  unfold f_G_ringNode_28
  refine z_aload_n d_G_ringNode_28 rfl ?_
  refine z_gi (ci := 0) (j := 3) (ji := 3) d_G_ringNode_29 rfl fl_G_21 (hI 0 _ rfl).1 rfl rfl ?_
  refine z_imul d_G_ringNode_32 ?_
  refine z_iload_n d_G_ringNode_33 rfl ?_
  refine z_iadd d_G_ringNode_34 ?_
  exact z_iret d_G_ringNode_35 rfl rfl
def f_G_ringNode_69 (o : Nat) (s0 s1 : Int) (w : qMem) : Option (Int × qMem) :=
  some ((w32 (s0 + s1)), w)
set_option maxRecDepth 4000 in
theorem s_G_ringNode_69 {ph : Nat} {o : Nat} (hI : qIs kLG ph o) : ∀ (s0 s1 : Int) (w : qMem), qSim κI ph ph m_G_ringNode 69 [qI s1, qI s0] [none, none, none, none] w (f_G_ringNode_69 o s0 s1 w) := by
  intro s0 s1 w
  unfold f_G_ringNode_69
  refine z_iadd d_G_ringNode_69 ?_
  exact z_iret d_G_ringNode_70 rfl rfl
def f_G_ringNode (o : Nat) (x1 : Int) (x2 : Int) (w : qMem) : Option (Int × qMem) :=
  if x1 < (w32 (2 * (w o 4))) then
  if x1 < (w o 4) then
  f_G_ringNode_28 o x1 x2 w
  else
  f_G_ringNode_28 o (w32 (x1 - (w o 4))) x2 w
  else
  if (w32 (x1 - (w32 (2 * (w o 4))))) < (w o 3) then
  f_G_ringNode_69 o (w32 (x2 * (w o 3))) (w32 (x1 - (w32 (2 * (w o 4))))) w
  else
  f_G_ringNode_69 o (w32 (x2 * (w o 3))) (w32 ((w32 (x1 - (w32 (2 * (w o 4))))) - (w o 3))) w
set_option maxRecDepth 4000 in
theorem s_G_ringNode {ph : Nat} {o : Nat} (x1 : Int) (x2 : Int) (hI : qIs kLG ph o) (w : qMem) : qSim κI ph ph m_G_ringNode 0 [] [some (qR o), some (qI x1), some (qI x2), none] w (f_G_ringNode o x1 x2 w) := by
  unfold f_G_ringNode
  refine z_iload_n d_G_ringNode_0 rfl ?_
  refine z_ic2 d_G_ringNode_1 ?_
  refine z_aload_n d_G_ringNode_2 rfl ?_
  refine z_gi (ci := 0) (j := 4) (ji := 4) d_G_ringNode_3 rfl fl_G_25 (hI 0 _ rfl).1 rfl rfl ?_
  refine z_imul d_G_ringNode_6 ?_
  refine z_icmp_ge (tgt := 36) d_G_ringNode_7 rfl (fun c1 => ?_) (fun c1 => ?_)
  · refine z_iload_n d_G_ringNode_10 rfl ?_
    refine z_aload_n d_G_ringNode_11 rfl ?_
    refine z_gi (ci := 0) (j := 4) (ji := 4) d_G_ringNode_12 rfl fl_G_25 (hI 0 _ rfl).1 rfl rfl ?_
    refine z_icmp_ge (tgt := 22) d_G_ringNode_15 rfl (fun c2 => ?_) (fun c2 => ?_)
    · refine z_iload_n d_G_ringNode_18 rfl ?_
      refine z_goto (tgt := 28) d_G_ringNode_19 rfl ?_
      refine z_mask [true, false, true, false] ?_
      exact s_G_ringNode_28 hI _ _ _
    · refine z_iload_n d_G_ringNode_22 rfl ?_
      refine z_aload_n d_G_ringNode_23 rfl ?_
      refine z_gi (ci := 0) (j := 4) (ji := 4) d_G_ringNode_24 rfl fl_G_25 (hI 0 _ rfl).1 rfl rfl ?_
      refine z_isub d_G_ringNode_27 ?_
      refine z_mask [true, false, true, false] ?_
      exact s_G_ringNode_28 hI _ _ _
  · refine z_iload_n d_G_ringNode_36 rfl ?_
    refine z_ic2 d_G_ringNode_37 ?_
    refine z_aload_n d_G_ringNode_38 rfl ?_
    refine z_gi (ci := 0) (j := 4) (ji := 4) d_G_ringNode_39 rfl fl_G_25 (hI 0 _ rfl).1 rfl rfl ?_
    refine z_imul d_G_ringNode_42 ?_
    refine z_isub d_G_ringNode_43 ?_
    refine z_istore_n (pls' := [some (qR o), some (qI x1), some (qI x2), some (qI (w32 (x1 - (w32 (2 * (w o 4))))))]) d_G_ringNode_44 (by decide) rfl rfl ?_
    refine z_iload_n d_G_ringNode_45 rfl ?_
    refine z_aload_n d_G_ringNode_46 rfl ?_
    refine z_gi (ci := 0) (j := 3) (ji := 3) d_G_ringNode_47 rfl fl_G_21 (hI 0 _ rfl).1 rfl rfl ?_
    refine z_imul d_G_ringNode_50 ?_
    refine z_iload_n d_G_ringNode_51 rfl ?_
    refine z_aload_n d_G_ringNode_52 rfl ?_
    refine z_gi (ci := 0) (j := 3) (ji := 3) d_G_ringNode_53 rfl fl_G_21 (hI 0 _ rfl).1 rfl rfl ?_
    refine z_icmp_ge (tgt := 63) d_G_ringNode_56 rfl (fun c3 => ?_) (fun c3 => ?_)
    · refine z_iload_n d_G_ringNode_59 rfl ?_
      refine z_goto (tgt := 69) d_G_ringNode_60 rfl ?_
      refine z_mask [false, false, false, false] ?_
      exact s_G_ringNode_69 hI _ _ _
    · refine z_iload_n d_G_ringNode_63 rfl ?_
      refine z_aload_n d_G_ringNode_64 rfl ?_
      refine z_gi (ci := 0) (j := 3) (ji := 3) d_G_ringNode_65 rfl fl_G_21 (hI 0 _ rfl).1 rfl rfl ?_
      refine z_isub d_G_ringNode_68 ?_
      refine z_mask [false, false, false, false] ?_
      exact s_G_ringNode_69 hI _ _ _
/-! BubbleTorus$Grid.placeInRing -/
theorem d_G_placeInRing_0 : decode m_G_placeInRing.2.1 0 = .ok (.iload_n 2, 1) := by decide +kernel
theorem d_G_placeInRing_1 : decode m_G_placeInRing.2.1 1 = .ok (.iconst 2, 1) := by decide +kernel
theorem d_G_placeInRing_2 : decode m_G_placeInRing.2.1 2 = .ok (.if_icmp .ge 12, 3) := by decide +kernel
theorem d_G_placeInRing_5 : decode m_G_placeInRing.2.1 5 = .ok (.iload_n 1, 1) := by decide +kernel
theorem d_G_placeInRing_6 : decode m_G_placeInRing.2.1 6 = .ok (.aload_n 0, 1) := by decide +kernel
theorem d_G_placeInRing_7 : decode m_G_placeInRing.2.1 7 = .ok (.getfield 21, 3) := by decide +kernel
theorem d_G_placeInRing_10 : decode m_G_placeInRing.2.1 10 = .ok (.irem, 1) := by decide +kernel
theorem d_G_placeInRing_11 : decode m_G_placeInRing.2.1 11 = .ok (.goto 9, 3) := by decide +kernel
theorem d_G_placeInRing_14 : decode m_G_placeInRing.2.1 14 = .ok (.iload_n 1, 1) := by decide +kernel
theorem d_G_placeInRing_15 : decode m_G_placeInRing.2.1 15 = .ok (.aload_n 0, 1) := by decide +kernel
theorem d_G_placeInRing_16 : decode m_G_placeInRing.2.1 16 = .ok (.getfield 21, 3) := by decide +kernel
theorem d_G_placeInRing_19 : decode m_G_placeInRing.2.1 19 = .ok (.idiv, 1) := by decide +kernel
theorem d_G_placeInRing_20 : decode m_G_placeInRing.2.1 20 = .ok (.ireturn, 1) := by decide +kernel
def f_G_placeInRing (o : Nat) (x1 : Int) (x2 : Int) (w : qMem) : Option (Int × qMem) :=
  if x2 < 2 then
  qdv (w o 3) <|
  some ((jrem x1 (w o 3)), w)
  else
  qdv (w o 3) <|
  some ((jdiv x1 (w o 3)), w)
set_option maxRecDepth 4000 in
theorem s_G_placeInRing {ph : Nat} {o : Nat} (x1 : Int) (x2 : Int) (hI : qIs kLG ph o) (w : qMem) : qSim κI ph ph m_G_placeInRing 0 [] [some (qR o), some (qI x1), some (qI x2)] w (f_G_placeInRing o x1 x2 w) := by
  unfold f_G_placeInRing
  refine z_iload_n d_G_placeInRing_0 rfl ?_
  refine z_ic2 d_G_placeInRing_1 ?_
  refine z_icmp_ge (tgt := 14) d_G_placeInRing_2 rfl (fun c1 => ?_) (fun c1 => ?_)
  · refine z_iload_n d_G_placeInRing_5 rfl ?_
    refine z_aload_n d_G_placeInRing_6 rfl ?_
    refine z_gi (ci := 0) (j := 3) (ji := 3) d_G_placeInRing_7 rfl fl_G_21 (hI 0 _ rfl).1 rfl rfl ?_
    refine z_irem d_G_placeInRing_10 (fun _ => ?_)
    refine z_goto (tgt := 20) d_G_placeInRing_11 rfl ?_
    exact z_iret d_G_placeInRing_20 rfl rfl
  · refine z_iload_n d_G_placeInRing_14 rfl ?_
    refine z_aload_n d_G_placeInRing_15 rfl ?_
    refine z_gi (ci := 0) (j := 3) (ji := 3) d_G_placeInRing_16 rfl fl_G_21 (hI 0 _ rfl).1 rfl rfl ?_
    refine z_idiv d_G_placeInRing_19 (fun _ => ?_)
    exact z_iret d_G_placeInRing_20 rfl rfl
/-! BubbleTorus$Grid.aimOf -/
theorem d_G_aimOf_0 : decode m_G_aimOf.2.1 0 = .ok (.iload_n 2, 1) := by decide +kernel
theorem d_G_aimOf_1 : decode m_G_aimOf.2.1 1 = .ok (.aload_n 0, 1) := by decide +kernel
theorem d_G_aimOf_2 : decode m_G_aimOf.2.1 2 = .ok (.getfield 21, 3) := by decide +kernel
theorem d_G_aimOf_5 : decode m_G_aimOf.2.1 5 = .ok (.irem, 1) := by decide +kernel
theorem d_G_aimOf_6 : decode m_G_aimOf.2.1 6 = .ok (.istore_n 3, 1) := by decide +kernel
theorem d_G_aimOf_7 : decode m_G_aimOf.2.1 7 = .ok (.iload_n 2, 1) := by decide +kernel
theorem d_G_aimOf_8 : decode m_G_aimOf.2.1 8 = .ok (.aload_n 0, 1) := by decide +kernel
theorem d_G_aimOf_9 : decode m_G_aimOf.2.1 9 = .ok (.getfield 21, 3) := by decide +kernel
theorem d_G_aimOf_12 : decode m_G_aimOf.2.1 12 = .ok (.idiv, 1) := by decide +kernel
theorem d_G_aimOf_13 : decode m_G_aimOf.2.1 13 = .ok (.istore 4, 2) := by decide +kernel
theorem d_G_aimOf_15 : decode m_G_aimOf.2.1 15 = .ok (.iload_n 1, 1) := by decide +kernel
theorem d_G_aimOf_16 : decode m_G_aimOf.2.1 16 = .ok (.tableswitch 91 0 2 #[28, 62, 71], 28) := by decide +kernel
theorem d_G_aimOf_44 : decode m_G_aimOf.2.1 44 = .ok (.iload 4, 2) := by decide +kernel
theorem d_G_aimOf_46 : decode m_G_aimOf.2.1 46 = .ok (.aload_n 0, 1) := by decide +kernel
theorem d_G_aimOf_47 : decode m_G_aimOf.2.1 47 = .ok (.getfield 25, 3) := by decide +kernel
theorem d_G_aimOf_50 : decode m_G_aimOf.2.1 50 = .ok (.iconst 2, 1) := by decide +kernel
theorem d_G_aimOf_51 : decode m_G_aimOf.2.1 51 = .ok (.idiv, 1) := by decide +kernel
theorem d_G_aimOf_52 : decode m_G_aimOf.2.1 52 = .ok (.iadd, 1) := by decide +kernel
theorem d_G_aimOf_53 : decode m_G_aimOf.2.1 53 = .ok (.aload_n 0, 1) := by decide +kernel
theorem d_G_aimOf_54 : decode m_G_aimOf.2.1 54 = .ok (.getfield 25, 3) := by decide +kernel
theorem d_G_aimOf_57 : decode m_G_aimOf.2.1 57 = .ok (.irem, 1) := by decide +kernel
theorem d_G_aimOf_58 : decode m_G_aimOf.2.1 58 = .ok (.aload_n 0, 1) := by decide +kernel
theorem d_G_aimOf_59 : decode m_G_aimOf.2.1 59 = .ok (.getfield 21, 3) := by decide +kernel
theorem d_G_aimOf_62 : decode m_G_aimOf.2.1 62 = .ok (.imul, 1) := by decide +kernel
theorem d_G_aimOf_63 : decode m_G_aimOf.2.1 63 = .ok (.iload_n 3, 1) := by decide +kernel
theorem d_G_aimOf_64 : decode m_G_aimOf.2.1 64 = .ok (.aload_n 0, 1) := by decide +kernel
theorem d_G_aimOf_65 : decode m_G_aimOf.2.1 65 = .ok (.getfield 21, 3) := by decide +kernel
theorem d_G_aimOf_68 : decode m_G_aimOf.2.1 68 = .ok (.iconst 2, 1) := by decide +kernel
theorem d_G_aimOf_69 : decode m_G_aimOf.2.1 69 = .ok (.idiv, 1) := by decide +kernel
theorem d_G_aimOf_70 : decode m_G_aimOf.2.1 70 = .ok (.iadd, 1) := by decide +kernel
theorem d_G_aimOf_71 : decode m_G_aimOf.2.1 71 = .ok (.aload_n 0, 1) := by decide +kernel
theorem d_G_aimOf_72 : decode m_G_aimOf.2.1 72 = .ok (.getfield 21, 3) := by decide +kernel
theorem d_G_aimOf_75 : decode m_G_aimOf.2.1 75 = .ok (.irem, 1) := by decide +kernel
theorem d_G_aimOf_76 : decode m_G_aimOf.2.1 76 = .ok (.iadd, 1) := by decide +kernel
theorem d_G_aimOf_77 : decode m_G_aimOf.2.1 77 = .ok (.ireturn, 1) := by decide +kernel
theorem d_G_aimOf_78 : decode m_G_aimOf.2.1 78 = .ok (.aload_n 0, 1) := by decide +kernel
theorem d_G_aimOf_79 : decode m_G_aimOf.2.1 79 = .ok (.getfield 28, 3) := by decide +kernel
theorem d_G_aimOf_82 : decode m_G_aimOf.2.1 82 = .ok (.iconst 1, 1) := by decide +kernel
theorem d_G_aimOf_83 : decode m_G_aimOf.2.1 83 = .ok (.isub, 1) := by decide +kernel
theorem d_G_aimOf_84 : decode m_G_aimOf.2.1 84 = .ok (.iload_n 2, 1) := by decide +kernel
theorem d_G_aimOf_85 : decode m_G_aimOf.2.1 85 = .ok (.isub, 1) := by decide +kernel
theorem d_G_aimOf_86 : decode m_G_aimOf.2.1 86 = .ok (.ireturn, 1) := by decide +kernel
theorem d_G_aimOf_87 : decode m_G_aimOf.2.1 87 = .ok (.iload_n 3, 1) := by decide +kernel
theorem d_G_aimOf_88 : decode m_G_aimOf.2.1 88 = .ok (.aload_n 0, 1) := by decide +kernel
theorem d_G_aimOf_89 : decode m_G_aimOf.2.1 89 = .ok (.getfield 25, 3) := by decide +kernel
theorem d_G_aimOf_92 : decode m_G_aimOf.2.1 92 = .ok (.irem, 1) := by decide +kernel
theorem d_G_aimOf_93 : decode m_G_aimOf.2.1 93 = .ok (.aload_n 0, 1) := by decide +kernel
theorem d_G_aimOf_94 : decode m_G_aimOf.2.1 94 = .ok (.getfield 21, 3) := by decide +kernel
theorem d_G_aimOf_97 : decode m_G_aimOf.2.1 97 = .ok (.imul, 1) := by decide +kernel
theorem d_G_aimOf_98 : decode m_G_aimOf.2.1 98 = .ok (.iload 4, 2) := by decide +kernel
theorem d_G_aimOf_100 : decode m_G_aimOf.2.1 100 = .ok (.aload_n 0, 1) := by decide +kernel
theorem d_G_aimOf_101 : decode m_G_aimOf.2.1 101 = .ok (.getfield 21, 3) := by decide +kernel
theorem d_G_aimOf_104 : decode m_G_aimOf.2.1 104 = .ok (.irem, 1) := by decide +kernel
theorem d_G_aimOf_105 : decode m_G_aimOf.2.1 105 = .ok (.iadd, 1) := by decide +kernel
theorem d_G_aimOf_106 : decode m_G_aimOf.2.1 106 = .ok (.ireturn, 1) := by decide +kernel
theorem d_G_aimOf_107 : decode m_G_aimOf.2.1 107 = .ok (.aload_n 0, 1) := by decide +kernel
theorem d_G_aimOf_108 : decode m_G_aimOf.2.1 108 = .ok (.iload_n 2, 1) := by decide +kernel
theorem d_G_aimOf_109 : decode m_G_aimOf.2.1 109 = .ok (.iconst 0, 1) := by decide +kernel
theorem d_G_aimOf_110 : decode m_G_aimOf.2.1 110 = .ok (.invokevirtual 63, 3) := by decide +kernel
theorem d_G_aimOf_113 : decode m_G_aimOf.2.1 113 = .ok (.ireturn, 1) := by decide +kernel
def f_G_aimOf (o : Nat) (x1 : Int) (x2 : Int) (w : qMem) : Option (Int × qMem) :=
  qdv (w o 3) <|
  qdv (w o 3) <|
  if x1 = 0 then
  qdv 2 <|
  qdv (w o 4) <|
  qdv 2 <|
  qdv (w o 3) <|
  some ((w32 ((w32 ((jrem (w32 ((jdiv x2 (w o 3)) + (jdiv (w o 4) 2))) (w o 4)) * (w o 3))) + (jrem (w32 ((jrem x2 (w o 3)) + (jdiv (w o 3) 2))) (w o 3)))), w)
  else
  if x1 = 1 then
  some ((w32 ((w32 ((w o 5) - 1)) - x2)), w)
  else
  if x1 = 2 then
  qdv (w o 4) <|
  qdv (w o 3) <|
  some ((w32 ((w32 ((jrem (jrem x2 (w o 3)) (w o 4)) * (w o 3))) + (jrem (jdiv x2 (w o 3)) (w o 3)))), w)
  else
  (f_G_nextBy o x2 0 w).bind fun q4 =>
  some (q4.1, q4.2)
set_option maxRecDepth 4000 in
theorem s_G_aimOf {ph : Nat} {o : Nat} (x1 : Int) (x2 : Int) (hI : qIs kLG ph o) (w : qMem) : qSim κI ph ph m_G_aimOf 0 [] [some (qR o), some (qI x1), some (qI x2), none, none] w (f_G_aimOf o x1 x2 w) := by
  unfold f_G_aimOf
  refine z_iload_n d_G_aimOf_0 rfl ?_
  refine z_aload_n d_G_aimOf_1 rfl ?_
  refine z_gi (ci := 0) (j := 3) (ji := 3) d_G_aimOf_2 rfl fl_G_21 (hI 0 _ rfl).1 rfl rfl ?_
  refine z_irem d_G_aimOf_5 (fun _ => ?_)
  refine z_istore_n (pls' := [some (qR o), some (qI x1), some (qI x2), some (qI (jrem x2 (w o 3))), none]) d_G_aimOf_6 (by decide) rfl rfl ?_
  refine z_iload_n d_G_aimOf_7 rfl ?_
  refine z_aload_n d_G_aimOf_8 rfl ?_
  refine z_gi (ci := 0) (j := 3) (ji := 3) d_G_aimOf_9 rfl fl_G_21 (hI 0 _ rfl).1 rfl rfl ?_
  refine z_idiv d_G_aimOf_12 (fun _ => ?_)
  refine z_istore (pls' := [some (qR o), some (qI x1), some (qI x2), some (qI (jrem x2 (w o 3))), some (qI (jdiv x2 (w o 3)))]) d_G_aimOf_13 (by decide) rfl rfl ?_
  refine z_iload_n d_G_aimOf_15 rfl ?_
  refine z_if (fun c1 => ?_) (fun c1 => ?_)
  · refine z_tabIn (tgt := 44) (v := 0) d_G_aimOf_16 c1 (by decide) (by decide) rfl rfl ?_
    refine z_iload d_G_aimOf_44 rfl ?_
    refine z_aload_n d_G_aimOf_46 rfl ?_
    refine z_gi (ci := 0) (j := 4) (ji := 4) d_G_aimOf_47 rfl fl_G_25 (hI 0 _ rfl).1 rfl rfl ?_
    refine z_ic2 d_G_aimOf_50 ?_
    refine z_idiv d_G_aimOf_51 (fun _ => ?_)
    refine z_iadd d_G_aimOf_52 ?_
    refine z_aload_n d_G_aimOf_53 rfl ?_
    refine z_gi (ci := 0) (j := 4) (ji := 4) d_G_aimOf_54 rfl fl_G_25 (hI 0 _ rfl).1 rfl rfl ?_
    refine z_irem d_G_aimOf_57 (fun _ => ?_)
    refine z_aload_n d_G_aimOf_58 rfl ?_
    refine z_gi (ci := 0) (j := 3) (ji := 3) d_G_aimOf_59 rfl fl_G_21 (hI 0 _ rfl).1 rfl rfl ?_
    refine z_imul d_G_aimOf_62 ?_
    refine z_iload_n d_G_aimOf_63 rfl ?_
    refine z_aload_n d_G_aimOf_64 rfl ?_
    refine z_gi (ci := 0) (j := 3) (ji := 3) d_G_aimOf_65 rfl fl_G_21 (hI 0 _ rfl).1 rfl rfl ?_
    refine z_ic2 d_G_aimOf_68 ?_
    refine z_idiv d_G_aimOf_69 (fun _ => ?_)
    refine z_iadd d_G_aimOf_70 ?_
    refine z_aload_n d_G_aimOf_71 rfl ?_
    refine z_gi (ci := 0) (j := 3) (ji := 3) d_G_aimOf_72 rfl fl_G_21 (hI 0 _ rfl).1 rfl rfl ?_
    refine z_irem d_G_aimOf_75 (fun _ => ?_)
    refine z_iadd d_G_aimOf_76 ?_
    exact z_iret d_G_aimOf_77 rfl rfl
  · refine z_if (fun c2 => ?_) (fun c2 => ?_)
    · refine z_tabIn (tgt := 78) (v := 1) d_G_aimOf_16 c2 (by decide) (by decide) rfl rfl ?_
      refine z_aload_n d_G_aimOf_78 rfl ?_
      refine z_gi (ci := 0) (j := 5) (ji := 5) d_G_aimOf_79 rfl fl_G_28 (hI 0 _ rfl).1 rfl rfl ?_
      refine z_ic1 d_G_aimOf_82 ?_
      refine z_isub d_G_aimOf_83 ?_
      refine z_iload_n d_G_aimOf_84 rfl ?_
      refine z_isub d_G_aimOf_85 ?_
      exact z_iret d_G_aimOf_86 rfl rfl
    · refine z_if (fun c3 => ?_) (fun c3 => ?_)
      · refine z_tabIn (tgt := 87) (v := 2) d_G_aimOf_16 c3 (by decide) (by decide) rfl rfl ?_
        refine z_iload_n d_G_aimOf_87 rfl ?_
        refine z_aload_n d_G_aimOf_88 rfl ?_
        refine z_gi (ci := 0) (j := 4) (ji := 4) d_G_aimOf_89 rfl fl_G_25 (hI 0 _ rfl).1 rfl rfl ?_
        refine z_irem d_G_aimOf_92 (fun _ => ?_)
        refine z_aload_n d_G_aimOf_93 rfl ?_
        refine z_gi (ci := 0) (j := 3) (ji := 3) d_G_aimOf_94 rfl fl_G_21 (hI 0 _ rfl).1 rfl rfl ?_
        refine z_imul d_G_aimOf_97 ?_
        refine z_iload d_G_aimOf_98 rfl ?_
        refine z_aload_n d_G_aimOf_100 rfl ?_
        refine z_gi (ci := 0) (j := 3) (ji := 3) d_G_aimOf_101 rfl fl_G_21 (hI 0 _ rfl).1 rfl rfl ?_
        refine z_irem d_G_aimOf_104 (fun _ => ?_)
        refine z_iadd d_G_aimOf_105 ?_
        exact z_iret d_G_aimOf_106 rfl rfl
      · refine z_tabOut (tgt := 107) d_G_aimOf_16 (by omega) rfl ?_
        refine z_aload_n d_G_aimOf_107 rfl ?_
        refine z_iload_n d_G_aimOf_108 rfl ?_
        refine z_ic0 d_G_aimOf_109 ?_
        refine z_cVI (as := [qI x2, qI 0]) (st := []) (nl := 0) (ci := 0) d_G_aimOf_110 lk_G_63 mk_G_nextBy rfl rfl (hI 0 _ rfl).1 rfl rfl rfl (s_G_nextBy _ _ hI _) (fun q4 _ hq4 => ?_)
        exact z_iret d_G_aimOf_113 rfl rfl
/-! BubbleTorus$Queues.clearAll -/
theorem d_Q_clearAll_0 : decode m_Q_clearAll.2.1 0 = .ok (.aload_n 0, 1) := by decide +kernel
theorem d_Q_clearAll_1 : decode m_Q_clearAll.2.1 1 = .ok (.getfield 9, 3) := by decide +kernel
theorem d_Q_clearAll_4 : decode m_Q_clearAll.2.1 4 = .ok (.iconst 0, 1) := by decide +kernel
theorem d_Q_clearAll_5 : decode m_Q_clearAll.2.1 5 = .ok (.invokestatic 18, 3) := by decide +kernel
theorem d_Q_clearAll_8 : decode m_Q_clearAll.2.1 8 = .ok (.return_, 1) := by decide +kernel
def f_Q_clearAll (o : Nat) (w : qMem) : Option (qMem) :=
  (f_JA_fill (o + 1) 144 0 w).bind fun q1 =>
  some q1
set_option maxRecDepth 4000 in
theorem s_Q_clearAll {ph : Nat} {o : Nat} (hI : qIs kLQ ph o) (w : qMem) : qSim κV ph ph m_Q_clearAll 0 [] [some (qR o)] w (f_Q_clearAll o w) := by
  unfold f_Q_clearAll
  refine z_aload_n d_Q_clearAll_0 rfl ?_
  refine z_gr (ci := 6) (j := 0) (d := 1) (o2 := (o + 1)) d_Q_clearAll_1 rfl fl_Q_9 (hI 0 _ rfl).1 ((hI 0 _ rfl).2 (Nat.le_of_ble_eq_true rfl)) rfl rfl ?_
  refine z_ic0 d_Q_clearAll_4 ?_
  refine z_cSV (av := [qR (o + 1), qI 0]) (st := []) (nl := 2) d_Q_clearAll_5 lk_Q_18 mk_JA_fill rfl rfl rfl (s_JA_fill _ (hI 1 _ rfl).1 rfl (by decide) _) (fun q1 _ => ?_)
  exact z_vret d_Q_clearAll_8 rfl rfl
/-! BubbleTorus$Queues.copyFrom -/
theorem d_Q_copyFrom_0 : decode m_Q_copyFrom.2.1 0 = .ok (.aload_n 1, 1) := by decide +kernel
theorem d_Q_copyFrom_1 : decode m_Q_copyFrom.2.1 1 = .ok (.getfield 9, 3) := by decide +kernel
theorem d_Q_copyFrom_4 : decode m_Q_copyFrom.2.1 4 = .ok (.iconst 0, 1) := by decide +kernel
theorem d_Q_copyFrom_5 : decode m_Q_copyFrom.2.1 5 = .ok (.aload_n 0, 1) := by decide +kernel
theorem d_Q_copyFrom_6 : decode m_Q_copyFrom.2.1 6 = .ok (.getfield 9, 3) := by decide +kernel
theorem d_Q_copyFrom_9 : decode m_Q_copyFrom.2.1 9 = .ok (.iconst 0, 1) := by decide +kernel
theorem d_Q_copyFrom_10 : decode m_Q_copyFrom.2.1 10 = .ok (.sipush 144, 3) := by decide +kernel
theorem d_Q_copyFrom_13 : decode m_Q_copyFrom.2.1 13 = .ok (.invokestatic 24, 3) := by decide +kernel
theorem d_Q_copyFrom_16 : decode m_Q_copyFrom.2.1 16 = .ok (.aload_n 1, 1) := by decide +kernel
theorem d_Q_copyFrom_17 : decode m_Q_copyFrom.2.1 17 = .ok (.getfield 15, 3) := by decide +kernel
theorem d_Q_copyFrom_20 : decode m_Q_copyFrom.2.1 20 = .ok (.iconst 0, 1) := by decide +kernel
theorem d_Q_copyFrom_21 : decode m_Q_copyFrom.2.1 21 = .ok (.aload_n 0, 1) := by decide +kernel
theorem d_Q_copyFrom_22 : decode m_Q_copyFrom.2.1 22 = .ok (.getfield 15, 3) := by decide +kernel
theorem d_Q_copyFrom_25 : decode m_Q_copyFrom.2.1 25 = .ok (.iconst 0, 1) := by decide +kernel
theorem d_Q_copyFrom_26 : decode m_Q_copyFrom.2.1 26 = .ok (.sipush 864, 3) := by decide +kernel
theorem d_Q_copyFrom_29 : decode m_Q_copyFrom.2.1 29 = .ok (.invokestatic 24, 3) := by decide +kernel
theorem d_Q_copyFrom_32 : decode m_Q_copyFrom.2.1 32 = .ok (.return_, 1) := by decide +kernel
def f_Q_copyFrom (o : Nat) (p1 : Nat) (w : qMem) : Option (qMem) :=
  qcpy w (p1 + 1) 144 0 (o + 1) 144 0 144 fun w1 =>
  qcpy w1 (p1 + 2) 864 0 (o + 2) 864 0 864 fun w2 =>
  some w2
set_option maxRecDepth 4000 in
theorem s_Q_copyFrom {ph : Nat} {o : Nat} {p1 : Nat} (hI : qIs kLQ ph o) (hp1 : qIs kLQ ph p1) (w : qMem) : qSim κV ph ph m_Q_copyFrom 0 [] [some (qR o), some (qR p1)] w (f_Q_copyFrom o p1 w) := by
  unfold f_Q_copyFrom
  refine z_aload_n d_Q_copyFrom_0 rfl ?_
  refine z_gr (ci := 6) (j := 0) (d := 1) (o2 := (p1 + 1)) d_Q_copyFrom_1 rfl fl_Q_9 (hp1 0 _ rfl).1 ((hp1 0 _ rfl).2 (Nat.le_of_ble_eq_true rfl)) rfl rfl ?_
  refine z_ic0 d_Q_copyFrom_4 ?_
  refine z_aload_n d_Q_copyFrom_5 rfl ?_
  refine z_gr (ci := 6) (j := 0) (d := 1) (o2 := (o + 1)) d_Q_copyFrom_6 rfl fl_Q_9 (hI 0 _ rfl).1 ((hI 0 _ rfl).2 (Nat.le_of_ble_eq_true rfl)) rfl rfl ?_
  refine z_ic0 d_Q_copyFrom_9 ?_
  refine z_sipush d_Q_copyFrom_10 ⟨by decide, by decide⟩ ?_
  refine z_cp d_Q_copyFrom_13 lk_Q_24 (by decide) (hp1 1 _ rfl).1 (hI 1 _ rfl).1 rfl rfl (Nat.le_of_ble_eq_true rfl) (Nat.le_of_ble_eq_true rfl) (fun w1 => ?_)
  refine z_aload_n d_Q_copyFrom_16 rfl ?_
  refine z_gr (ci := 6) (j := 1) (d := 2) (o2 := (p1 + 2)) d_Q_copyFrom_17 rfl fl_Q_15 (hp1 0 _ rfl).1 ((hp1 0 _ rfl).2 (Nat.le_of_ble_eq_true rfl)) rfl rfl ?_
  refine z_ic0 d_Q_copyFrom_20 ?_
  refine z_aload_n d_Q_copyFrom_21 rfl ?_
  refine z_gr (ci := 6) (j := 1) (d := 2) (o2 := (o + 2)) d_Q_copyFrom_22 rfl fl_Q_15 (hI 0 _ rfl).1 ((hI 0 _ rfl).2 (Nat.le_of_ble_eq_true rfl)) rfl rfl ?_
  refine z_ic0 d_Q_copyFrom_25 ?_
  refine z_sipush d_Q_copyFrom_26 ⟨by decide, by decide⟩ ?_
  refine z_cp d_Q_copyFrom_29 lk_Q_24 (by decide) (hp1 2 _ rfl).1 (hI 2 _ rfl).1 rfl rfl (Nat.le_of_ble_eq_true rfl) (Nat.le_of_ble_eq_true rfl) (fun w2 => ?_)
  exact z_vret d_Q_copyFrom_32 rfl rfl
/-! BubbleTorus$Queues.first -/
theorem d_Q_first_0 : decode m_Q_first.2.1 0 = .ok (.aload_n 0, 1) := by decide +kernel
theorem d_Q_first_1 : decode m_Q_first.2.1 1 = .ok (.getfield 9, 3) := by decide +kernel
theorem d_Q_first_4 : decode m_Q_first.2.1 4 = .ok (.iload_n 1, 1) := by decide +kernel
theorem d_Q_first_5 : decode m_Q_first.2.1 5 = .ok (.iaload, 1) := by decide +kernel
theorem d_Q_first_6 : decode m_Q_first.2.1 6 = .ok (.ifCond .le 15, 3) := by decide +kernel
theorem d_Q_first_9 : decode m_Q_first.2.1 9 = .ok (.aload_n 0, 1) := by decide +kernel
theorem d_Q_first_10 : decode m_Q_first.2.1 10 = .ok (.getfield 15, 3) := by decide +kernel
theorem d_Q_first_13 : decode m_Q_first.2.1 13 = .ok (.iload_n 1, 1) := by decide +kernel
theorem d_Q_first_14 : decode m_Q_first.2.1 14 = .ok (.bipush 6, 2) := by decide +kernel
theorem d_Q_first_16 : decode m_Q_first.2.1 16 = .ok (.imul, 1) := by decide +kernel
theorem d_Q_first_17 : decode m_Q_first.2.1 17 = .ok (.iaload, 1) := by decide +kernel
theorem d_Q_first_18 : decode m_Q_first.2.1 18 = .ok (.goto 4, 3) := by decide +kernel
theorem d_Q_first_21 : decode m_Q_first.2.1 21 = .ok (.iconst (-1), 1) := by decide +kernel
theorem d_Q_first_22 : decode m_Q_first.2.1 22 = .ok (.ireturn, 1) := by decide +kernel
def f_Q_first (o : Nat) (x1 : Int) (w : qMem) : Option (Int × qMem) :=
  qld w (o + 1) 144 x1 fun v1 =>
  if v1 ≤ 0 then
  some ((-1), w)
  else
  qld w (o + 2) 864 (w32 (x1 * 6)) fun v3 =>
  some (v3, w)
set_option maxRecDepth 4000 in
theorem s_Q_first {ph : Nat} {o : Nat} (x1 : Int) (hI : qIs kLQ ph o) (w : qMem) : qSim κI ph ph m_Q_first 0 [] [some (qR o), some (qI x1)] w (f_Q_first o x1 w) := by
  unfold f_Q_first
  refine z_aload_n d_Q_first_0 rfl ?_
  refine z_gr (ci := 6) (j := 0) (d := 1) (o2 := (o + 1)) d_Q_first_1 rfl fl_Q_9 (hI 0 _ rfl).1 ((hI 0 _ rfl).2 (Nat.le_of_ble_eq_true rfl)) rfl rfl ?_
  refine z_iload_n d_Q_first_4 rfl ?_
  refine z_il d_Q_first_5 (hI 1 _ rfl).1 rfl (fun v1 => ?_)
  refine z_if_le (tgt := 21) d_Q_first_6 rfl (fun c2 => ?_) (fun c2 => ?_)
  · refine z_icm1 d_Q_first_21 ?_
    exact z_iret d_Q_first_22 rfl rfl
  · refine z_aload_n d_Q_first_9 rfl ?_
    refine z_gr (ci := 6) (j := 1) (d := 2) (o2 := (o + 2)) d_Q_first_10 rfl fl_Q_15 (hI 0 _ rfl).1 ((hI 0 _ rfl).2 (Nat.le_of_ble_eq_true rfl)) rfl rfl ?_
    refine z_iload_n d_Q_first_13 rfl ?_
    refine z_bipush d_Q_first_14 ⟨by decide, by decide⟩ ?_
    refine z_imul d_Q_first_16 ?_
    refine z_il d_Q_first_17 (hI 2 _ rfl).1 rfl (fun v3 => ?_)
    refine z_goto (tgt := 22) d_Q_first_18 rfl ?_
    exact z_iret d_Q_first_22 rfl rfl
/-! BubbleTorus$Queues.itemAt -/
theorem d_Q_itemAt_0 : decode m_Q_itemAt.2.1 0 = .ok (.iload_n 2, 1) := by decide +kernel
theorem d_Q_itemAt_1 : decode m_Q_itemAt.2.1 1 = .ok (.ifCond .lt 27, 3) := by decide +kernel
theorem d_Q_itemAt_4 : decode m_Q_itemAt.2.1 4 = .ok (.iload_n 2, 1) := by decide +kernel
theorem d_Q_itemAt_5 : decode m_Q_itemAt.2.1 5 = .ok (.aload_n 0, 1) := by decide +kernel
theorem d_Q_itemAt_6 : decode m_Q_itemAt.2.1 6 = .ok (.getfield 9, 3) := by decide +kernel
theorem d_Q_itemAt_9 : decode m_Q_itemAt.2.1 9 = .ok (.iload_n 1, 1) := by decide +kernel
theorem d_Q_itemAt_10 : decode m_Q_itemAt.2.1 10 = .ok (.iaload, 1) := by decide +kernel
theorem d_Q_itemAt_11 : decode m_Q_itemAt.2.1 11 = .ok (.if_icmp .ge 17, 3) := by decide +kernel
theorem d_Q_itemAt_14 : decode m_Q_itemAt.2.1 14 = .ok (.aload_n 0, 1) := by decide +kernel
theorem d_Q_itemAt_15 : decode m_Q_itemAt.2.1 15 = .ok (.getfield 15, 3) := by decide +kernel
theorem d_Q_itemAt_18 : decode m_Q_itemAt.2.1 18 = .ok (.iload_n 1, 1) := by decide +kernel
theorem d_Q_itemAt_19 : decode m_Q_itemAt.2.1 19 = .ok (.bipush 6, 2) := by decide +kernel
theorem d_Q_itemAt_21 : decode m_Q_itemAt.2.1 21 = .ok (.imul, 1) := by decide +kernel
theorem d_Q_itemAt_22 : decode m_Q_itemAt.2.1 22 = .ok (.iload_n 2, 1) := by decide +kernel
theorem d_Q_itemAt_23 : decode m_Q_itemAt.2.1 23 = .ok (.iadd, 1) := by decide +kernel
theorem d_Q_itemAt_24 : decode m_Q_itemAt.2.1 24 = .ok (.iaload, 1) := by decide +kernel
theorem d_Q_itemAt_25 : decode m_Q_itemAt.2.1 25 = .ok (.goto 4, 3) := by decide +kernel
theorem d_Q_itemAt_28 : decode m_Q_itemAt.2.1 28 = .ok (.iconst (-1), 1) := by decide +kernel
theorem d_Q_itemAt_29 : decode m_Q_itemAt.2.1 29 = .ok (.ireturn, 1) := by decide +kernel
def f_Q_itemAt (o : Nat) (x1 : Int) (x2 : Int) (w : qMem) : Option (Int × qMem) :=
  if x2 < 0 then
  some ((-1), w)
  else
  qld w (o + 1) 144 x1 fun v2 =>
  if x2 < v2 then
  qld w (o + 2) 864 (w32 ((w32 (x1 * 6)) + x2)) fun v4 =>
  some (v4, w)
  else
  some ((-1), w)
set_option maxRecDepth 4000 in
theorem s_Q_itemAt {ph : Nat} {o : Nat} (x1 : Int) (x2 : Int) (hI : qIs kLQ ph o) (w : qMem) : qSim κI ph ph m_Q_itemAt 0 [] [some (qR o), some (qI x1), some (qI x2)] w (f_Q_itemAt o x1 x2 w) := by
  unfold f_Q_itemAt
  refine z_iload_n d_Q_itemAt_0 rfl ?_
  refine z_if_lt (tgt := 28) d_Q_itemAt_1 rfl (fun c1 => ?_) (fun c1 => ?_)
  · refine z_icm1 d_Q_itemAt_28 ?_
    exact z_iret d_Q_itemAt_29 rfl rfl
  · refine z_iload_n d_Q_itemAt_4 rfl ?_
    refine z_aload_n d_Q_itemAt_5 rfl ?_
    refine z_gr (ci := 6) (j := 0) (d := 1) (o2 := (o + 1)) d_Q_itemAt_6 rfl fl_Q_9 (hI 0 _ rfl).1 ((hI 0 _ rfl).2 (Nat.le_of_ble_eq_true rfl)) rfl rfl ?_
    refine z_iload_n d_Q_itemAt_9 rfl ?_
    refine z_il d_Q_itemAt_10 (hI 1 _ rfl).1 rfl (fun v2 => ?_)
    refine z_icmp_ge (tgt := 28) d_Q_itemAt_11 rfl (fun c3 => ?_) (fun c3 => ?_)
    · refine z_aload_n d_Q_itemAt_14 rfl ?_
      refine z_gr (ci := 6) (j := 1) (d := 2) (o2 := (o + 2)) d_Q_itemAt_15 rfl fl_Q_15 (hI 0 _ rfl).1 ((hI 0 _ rfl).2 (Nat.le_of_ble_eq_true rfl)) rfl rfl ?_
      refine z_iload_n d_Q_itemAt_18 rfl ?_
      refine z_bipush d_Q_itemAt_19 ⟨by decide, by decide⟩ ?_
      refine z_imul d_Q_itemAt_21 ?_
      refine z_iload_n d_Q_itemAt_22 rfl ?_
      refine z_iadd d_Q_itemAt_23 ?_
      refine z_il d_Q_itemAt_24 (hI 2 _ rfl).1 rfl (fun v4 => ?_)
      refine z_goto (tgt := 29) d_Q_itemAt_25 rfl ?_
      exact z_iret d_Q_itemAt_29 rfl rfl
    · refine z_icm1 d_Q_itemAt_28 ?_
      exact z_iret d_Q_itemAt_29 rfl rfl
/-! BubbleTorus$Queues.placeOf -/
theorem d_Q_placeOf_0 : decode m_Q_placeOf.2.1 0 = .ok (.iconst 0, 1) := by decide +kernel
theorem d_Q_placeOf_1 : decode m_Q_placeOf.2.1 1 = .ok (.istore_n 3, 1) := by decide +kernel
theorem d_Q_placeOf_2 : decode m_Q_placeOf.2.1 2 = .ok (.iload_n 3, 1) := by decide +kernel
theorem d_Q_placeOf_3 : decode m_Q_placeOf.2.1 3 = .ok (.aload_n 0, 1) := by decide +kernel
theorem d_Q_placeOf_4 : decode m_Q_placeOf.2.1 4 = .ok (.getfield 9, 3) := by decide +kernel
theorem d_Q_placeOf_7 : decode m_Q_placeOf.2.1 7 = .ok (.iload_n 1, 1) := by decide +kernel
theorem d_Q_placeOf_8 : decode m_Q_placeOf.2.1 8 = .ok (.iaload, 1) := by decide +kernel
theorem d_Q_placeOf_9 : decode m_Q_placeOf.2.1 9 = .ok (.if_icmp .ge 26, 3) := by decide +kernel
theorem d_Q_placeOf_12 : decode m_Q_placeOf.2.1 12 = .ok (.aload_n 0, 1) := by decide +kernel
theorem d_Q_placeOf_13 : decode m_Q_placeOf.2.1 13 = .ok (.getfield 15, 3) := by decide +kernel
theorem d_Q_placeOf_16 : decode m_Q_placeOf.2.1 16 = .ok (.iload_n 1, 1) := by decide +kernel
theorem d_Q_placeOf_17 : decode m_Q_placeOf.2.1 17 = .ok (.bipush 6, 2) := by decide +kernel
theorem d_Q_placeOf_19 : decode m_Q_placeOf.2.1 19 = .ok (.imul, 1) := by decide +kernel
theorem d_Q_placeOf_20 : decode m_Q_placeOf.2.1 20 = .ok (.iload_n 3, 1) := by decide +kernel
theorem d_Q_placeOf_21 : decode m_Q_placeOf.2.1 21 = .ok (.iadd, 1) := by decide +kernel
theorem d_Q_placeOf_22 : decode m_Q_placeOf.2.1 22 = .ok (.iaload, 1) := by decide +kernel
theorem d_Q_placeOf_23 : decode m_Q_placeOf.2.1 23 = .ok (.iload_n 2, 1) := by decide +kernel
theorem d_Q_placeOf_24 : decode m_Q_placeOf.2.1 24 = .ok (.if_icmp .ne 5, 3) := by decide +kernel
theorem d_Q_placeOf_27 : decode m_Q_placeOf.2.1 27 = .ok (.iload_n 3, 1) := by decide +kernel
theorem d_Q_placeOf_28 : decode m_Q_placeOf.2.1 28 = .ok (.ireturn, 1) := by decide +kernel
theorem d_Q_placeOf_29 : decode m_Q_placeOf.2.1 29 = .ok (.iinc 3 1, 3) := by decide +kernel
theorem d_Q_placeOf_32 : decode m_Q_placeOf.2.1 32 = .ok (.goto (-30), 3) := by decide +kernel
theorem d_Q_placeOf_35 : decode m_Q_placeOf.2.1 35 = .ok (.iconst (-1), 1) := by decide +kernel
theorem d_Q_placeOf_36 : decode m_Q_placeOf.2.1 36 = .ok (.ireturn, 1) := by decide +kernel
def f_Q_placeOf_2 (o : Nat) : Nat → Int → Int → Int → qMem → Option (Int × qMem)
  | 0, _, _, _, _ => none
  | n + 1, x1, x2, x3, w =>
    qld w (o + 1) 144 x1 fun v1 =>
    if x3 < v1 then
    qld w (o + 2) 864 (w32 ((w32 (x1 * 6)) + x3)) fun v3 =>
    if v3 = x2 then
    some (x3, w)
    else
    (f_Q_placeOf_2 o n) x1 x2 (w32 (x3 + 1)) w
    else
    some ((-1), w)
set_option maxRecDepth 4000 in
theorem s_Q_placeOf_2 {ph : Nat} {o : Nat} (hI : qIs kLQ ph o) : ∀ (n : Nat), ∀ (x1 x2 x3 : Int) (w : qMem), qSim κI ph ph m_Q_placeOf 2 [] [some (qR o), some (qI x1), some (qI x2), some (qI x3)] w (f_Q_placeOf_2 o n x1 x2 x3 w) := by
  intro n
  induction n with
  | zero => intro x1 x2 x3 w; exact z_none
  | succ n ih =>
    intro x1 x2 x3 w
    rw [f_Q_placeOf_2]
    refine z_iload_n d_Q_placeOf_2 rfl ?_
    refine z_aload_n d_Q_placeOf_3 rfl ?_
    refine z_gr (ci := 6) (j := 0) (d := 1) (o2 := (o + 1)) d_Q_placeOf_4 rfl fl_Q_9 (hI 0 _ rfl).1 ((hI 0 _ rfl).2 (Nat.le_of_ble_eq_true rfl)) rfl rfl ?_
    refine z_iload_n d_Q_placeOf_7 rfl ?_
    refine z_il d_Q_placeOf_8 (hI 1 _ rfl).1 rfl (fun v1 => ?_)
    refine z_icmp_ge (tgt := 35) d_Q_placeOf_9 rfl (fun c2 => ?_) (fun c2 => ?_)
    · refine z_aload_n d_Q_placeOf_12 rfl ?_
      refine z_gr (ci := 6) (j := 1) (d := 2) (o2 := (o + 2)) d_Q_placeOf_13 rfl fl_Q_15 (hI 0 _ rfl).1 ((hI 0 _ rfl).2 (Nat.le_of_ble_eq_true rfl)) rfl rfl ?_
      refine z_iload_n d_Q_placeOf_16 rfl ?_
      refine z_bipush d_Q_placeOf_17 ⟨by decide, by decide⟩ ?_
      refine z_imul d_Q_placeOf_19 ?_
      refine z_iload_n d_Q_placeOf_20 rfl ?_
      refine z_iadd d_Q_placeOf_21 ?_
      refine z_il d_Q_placeOf_22 (hI 2 _ rfl).1 rfl (fun v3 => ?_)
      refine z_iload_n d_Q_placeOf_23 rfl ?_
      refine z_icmp_ne (tgt := 29) d_Q_placeOf_24 rfl (fun c4 => ?_) (fun c4 => ?_)
      · refine z_iload_n d_Q_placeOf_27 rfl ?_
        exact z_iret d_Q_placeOf_28 rfl rfl
      · refine z_iinc (pls' := [some (qR o), some (qI x1), some (qI x2), some (qI (w32 (x3 + 1)))]) d_Q_placeOf_29 (by decide) rfl rfl rfl ?_
        refine z_goto (tgt := 2) d_Q_placeOf_32 rfl ?_
        refine z_mask [true, true, true, true] ?_
        exact ih _ _ _ _
    · refine z_icm1 d_Q_placeOf_35 ?_
      exact z_iret d_Q_placeOf_36 rfl rfl
def f_Q_placeOf (o : Nat) (x1 : Int) (x2 : Int) (w : qMem) : Option (Int × qMem) :=
  f_Q_placeOf_2 o qFU x1 x2 0 w
set_option maxRecDepth 4000 in
theorem s_Q_placeOf {ph : Nat} {o : Nat} (x1 : Int) (x2 : Int) (hI : qIs kLQ ph o) (w : qMem) : qSim κI ph ph m_Q_placeOf 0 [] [some (qR o), some (qI x1), some (qI x2), none] w (f_Q_placeOf o x1 x2 w) := by
  unfold f_Q_placeOf
  refine z_ic0 d_Q_placeOf_0 ?_
  refine z_istore_n (pls' := [some (qR o), some (qI x1), some (qI x2), some (qI 0)]) d_Q_placeOf_1 (by decide) rfl rfl ?_
  refine z_mask [true, true, true, true] ?_
  exact s_Q_placeOf_2 hI _ _ _ _ _
/-! BubbleTorus$Queues.put -/
theorem d_Q_put_0 : decode m_Q_put.2.1 0 = .ok (.aload_n 0, 1) := by decide +kernel
theorem d_Q_put_1 : decode m_Q_put.2.1 1 = .ok (.getfield 9, 3) := by decide +kernel
theorem d_Q_put_4 : decode m_Q_put.2.1 4 = .ok (.iload_n 1, 1) := by decide +kernel
theorem d_Q_put_5 : decode m_Q_put.2.1 5 = .ok (.iaload, 1) := by decide +kernel
theorem d_Q_put_6 : decode m_Q_put.2.1 6 = .ok (.bipush 6, 2) := by decide +kernel
theorem d_Q_put_8 : decode m_Q_put.2.1 8 = .ok (.if_icmp .ge 30, 3) := by decide +kernel
theorem d_Q_put_11 : decode m_Q_put.2.1 11 = .ok (.aload_n 0, 1) := by decide +kernel
theorem d_Q_put_12 : decode m_Q_put.2.1 12 = .ok (.getfield 15, 3) := by decide +kernel
theorem d_Q_put_15 : decode m_Q_put.2.1 15 = .ok (.iload_n 1, 1) := by decide +kernel
theorem d_Q_put_16 : decode m_Q_put.2.1 16 = .ok (.bipush 6, 2) := by decide +kernel
theorem d_Q_put_18 : decode m_Q_put.2.1 18 = .ok (.imul, 1) := by decide +kernel
theorem d_Q_put_19 : decode m_Q_put.2.1 19 = .ok (.aload_n 0, 1) := by decide +kernel
theorem d_Q_put_20 : decode m_Q_put.2.1 20 = .ok (.getfield 9, 3) := by decide +kernel
theorem d_Q_put_23 : decode m_Q_put.2.1 23 = .ok (.iload_n 1, 1) := by decide +kernel
theorem d_Q_put_24 : decode m_Q_put.2.1 24 = .ok (.iaload, 1) := by decide +kernel
theorem d_Q_put_25 : decode m_Q_put.2.1 25 = .ok (.iadd, 1) := by decide +kernel
theorem d_Q_put_26 : decode m_Q_put.2.1 26 = .ok (.iload_n 2, 1) := by decide +kernel
theorem d_Q_put_27 : decode m_Q_put.2.1 27 = .ok (.iastore, 1) := by decide +kernel
theorem d_Q_put_28 : decode m_Q_put.2.1 28 = .ok (.aload_n 0, 1) := by decide +kernel
theorem d_Q_put_29 : decode m_Q_put.2.1 29 = .ok (.getfield 9, 3) := by decide +kernel
theorem d_Q_put_32 : decode m_Q_put.2.1 32 = .ok (.iload_n 1, 1) := by decide +kernel
theorem d_Q_put_33 : decode m_Q_put.2.1 33 = .ok (.dup2, 1) := by decide +kernel
theorem d_Q_put_34 : decode m_Q_put.2.1 34 = .ok (.iaload, 1) := by decide +kernel
theorem d_Q_put_35 : decode m_Q_put.2.1 35 = .ok (.iconst 1, 1) := by decide +kernel
theorem d_Q_put_36 : decode m_Q_put.2.1 36 = .ok (.iadd, 1) := by decide +kernel
theorem d_Q_put_37 : decode m_Q_put.2.1 37 = .ok (.iastore, 1) := by decide +kernel
theorem d_Q_put_38 : decode m_Q_put.2.1 38 = .ok (.return_, 1) := by decide +kernel
def f_Q_put (o : Nat) (x1 : Int) (x2 : Int) (w : qMem) : Option (qMem) :=
  qld w (o + 1) 144 x1 fun v1 =>
  if v1 < 6 then
  qld w (o + 1) 144 x1 fun v3 =>
  qst w (o + 2) 864 (w32 ((w32 (x1 * 6)) + v3)) x2 fun w4 =>
  qld w4 (o + 1) 144 x1 fun v5 =>
  qst w4 (o + 1) 144 x1 (w32 (v5 + 1)) fun w6 =>
  some w6
  else
  some w
set_option maxRecDepth 4000 in
theorem s_Q_put {ph : Nat} {o : Nat} (x1 : Int) (x2 : Int) (hI : qIs kLQ ph o) (w : qMem) : qSim κV ph ph m_Q_put 0 [] [some (qR o), some (qI x1), some (qI x2)] w (f_Q_put o x1 x2 w) := by
  unfold f_Q_put
  refine z_aload_n d_Q_put_0 rfl ?_
  refine z_gr (ci := 6) (j := 0) (d := 1) (o2 := (o + 1)) d_Q_put_1 rfl fl_Q_9 (hI 0 _ rfl).1 ((hI 0 _ rfl).2 (Nat.le_of_ble_eq_true rfl)) rfl rfl ?_
  refine z_iload_n d_Q_put_4 rfl ?_
  refine z_il d_Q_put_5 (hI 1 _ rfl).1 rfl (fun v1 => ?_)
  refine z_bipush d_Q_put_6 ⟨by decide, by decide⟩ ?_
  refine z_icmp_ge (tgt := 38) d_Q_put_8 rfl (fun c2 => ?_) (fun c2 => ?_)
  · refine z_aload_n d_Q_put_11 rfl ?_
    refine z_gr (ci := 6) (j := 1) (d := 2) (o2 := (o + 2)) d_Q_put_12 rfl fl_Q_15 (hI 0 _ rfl).1 ((hI 0 _ rfl).2 (Nat.le_of_ble_eq_true rfl)) rfl rfl ?_
    refine z_iload_n d_Q_put_15 rfl ?_
    refine z_bipush d_Q_put_16 ⟨by decide, by decide⟩ ?_
    refine z_imul d_Q_put_18 ?_
    refine z_aload_n d_Q_put_19 rfl ?_
    refine z_gr (ci := 6) (j := 0) (d := 1) (o2 := (o + 1)) d_Q_put_20 rfl fl_Q_9 (hI 0 _ rfl).1 ((hI 0 _ rfl).2 (Nat.le_of_ble_eq_true rfl)) rfl rfl ?_
    refine z_iload_n d_Q_put_23 rfl ?_
    refine z_il d_Q_put_24 (hI 1 _ rfl).1 rfl (fun v3 => ?_)
    refine z_iadd d_Q_put_25 ?_
    refine z_iload_n d_Q_put_26 rfl ?_
    refine z_is d_Q_put_27 (hI 2 _ rfl).1 rfl (fun w4 => ?_)
    refine z_aload_n d_Q_put_28 rfl ?_
    refine z_gr (ci := 6) (j := 0) (d := 1) (o2 := (o + 1)) d_Q_put_29 rfl fl_Q_9 (hI 0 _ rfl).1 ((hI 0 _ rfl).2 (Nat.le_of_ble_eq_true rfl)) rfl rfl ?_
    refine z_iload_n d_Q_put_32 rfl ?_
    refine z_dup2 d_Q_put_33 rfl rfl ?_
    refine z_il d_Q_put_34 (hI 1 _ rfl).1 rfl (fun v5 => ?_)
    refine z_ic1 d_Q_put_35 ?_
    refine z_iadd d_Q_put_36 ?_
    refine z_is d_Q_put_37 (hI 1 _ rfl).1 rfl (fun w6 => ?_)
    exact z_vret d_Q_put_38 rfl rfl
  · exact z_vret d_Q_put_38 rfl rfl
/-! BubbleTorus$Queues.dropFirst -/
theorem d_Q_dropFirst_0 : decode m_Q_dropFirst.2.1 0 = .ok (.aload_n 0, 1) := by decide +kernel
theorem d_Q_dropFirst_1 : decode m_Q_dropFirst.2.1 1 = .ok (.getfield 9, 3) := by decide +kernel
theorem d_Q_dropFirst_4 : decode m_Q_dropFirst.2.1 4 = .ok (.iload_n 1, 1) := by decide +kernel
theorem d_Q_dropFirst_5 : decode m_Q_dropFirst.2.1 5 = .ok (.iaload, 1) := by decide +kernel
theorem d_Q_dropFirst_6 : decode m_Q_dropFirst.2.1 6 = .ok (.ifCond .le 54, 3) := by decide +kernel
theorem d_Q_dropFirst_9 : decode m_Q_dropFirst.2.1 9 = .ok (.aload_n 0, 1) := by decide +kernel
theorem d_Q_dropFirst_10 : decode m_Q_dropFirst.2.1 10 = .ok (.getfield 9, 3) := by decide +kernel
theorem d_Q_dropFirst_13 : decode m_Q_dropFirst.2.1 13 = .ok (.iload_n 1, 1) := by decide +kernel
theorem d_Q_dropFirst_14 : decode m_Q_dropFirst.2.1 14 = .ok (.dup2, 1) := by decide +kernel
theorem d_Q_dropFirst_15 : decode m_Q_dropFirst.2.1 15 = .ok (.iaload, 1) := by decide +kernel
theorem d_Q_dropFirst_16 : decode m_Q_dropFirst.2.1 16 = .ok (.iconst 1, 1) := by decide +kernel
theorem d_Q_dropFirst_17 : decode m_Q_dropFirst.2.1 17 = .ok (.isub, 1) := by decide +kernel
theorem d_Q_dropFirst_18 : decode m_Q_dropFirst.2.1 18 = .ok (.iastore, 1) := by decide +kernel
theorem d_Q_dropFirst_19 : decode m_Q_dropFirst.2.1 19 = .ok (.iload_n 1, 1) := by decide +kernel
theorem d_Q_dropFirst_20 : decode m_Q_dropFirst.2.1 20 = .ok (.bipush 6, 2) := by decide +kernel
theorem d_Q_dropFirst_22 : decode m_Q_dropFirst.2.1 22 = .ok (.imul, 1) := by decide +kernel
theorem d_Q_dropFirst_23 : decode m_Q_dropFirst.2.1 23 = .ok (.istore_n 2, 1) := by decide +kernel
theorem d_Q_dropFirst_24 : decode m_Q_dropFirst.2.1 24 = .ok (.iconst 0, 1) := by decide +kernel
theorem d_Q_dropFirst_25 : decode m_Q_dropFirst.2.1 25 = .ok (.istore_n 3, 1) := by decide +kernel
theorem d_Q_dropFirst_26 : decode m_Q_dropFirst.2.1 26 = .ok (.iload_n 3, 1) := by decide +kernel
theorem d_Q_dropFirst_27 : decode m_Q_dropFirst.2.1 27 = .ok (.aload_n 0, 1) := by decide +kernel
theorem d_Q_dropFirst_28 : decode m_Q_dropFirst.2.1 28 = .ok (.getfield 9, 3) := by decide +kernel
theorem d_Q_dropFirst_31 : decode m_Q_dropFirst.2.1 31 = .ok (.iload_n 1, 1) := by decide +kernel
theorem d_Q_dropFirst_32 : decode m_Q_dropFirst.2.1 32 = .ok (.iaload, 1) := by decide +kernel
theorem d_Q_dropFirst_33 : decode m_Q_dropFirst.2.1 33 = .ok (.if_icmp .ge 27, 3) := by decide +kernel
theorem d_Q_dropFirst_36 : decode m_Q_dropFirst.2.1 36 = .ok (.aload_n 0, 1) := by decide +kernel
theorem d_Q_dropFirst_37 : decode m_Q_dropFirst.2.1 37 = .ok (.getfield 15, 3) := by decide +kernel
theorem d_Q_dropFirst_40 : decode m_Q_dropFirst.2.1 40 = .ok (.iload_n 2, 1) := by decide +kernel
theorem d_Q_dropFirst_41 : decode m_Q_dropFirst.2.1 41 = .ok (.iload_n 3, 1) := by decide +kernel
theorem d_Q_dropFirst_42 : decode m_Q_dropFirst.2.1 42 = .ok (.iadd, 1) := by decide +kernel
theorem d_Q_dropFirst_43 : decode m_Q_dropFirst.2.1 43 = .ok (.aload_n 0, 1) := by decide +kernel
theorem d_Q_dropFirst_44 : decode m_Q_dropFirst.2.1 44 = .ok (.getfield 15, 3) := by decide +kernel
theorem d_Q_dropFirst_47 : decode m_Q_dropFirst.2.1 47 = .ok (.iload_n 2, 1) := by decide +kernel
theorem d_Q_dropFirst_48 : decode m_Q_dropFirst.2.1 48 = .ok (.iload_n 3, 1) := by decide +kernel
theorem d_Q_dropFirst_49 : decode m_Q_dropFirst.2.1 49 = .ok (.iadd, 1) := by decide +kernel
theorem d_Q_dropFirst_50 : decode m_Q_dropFirst.2.1 50 = .ok (.iconst 1, 1) := by decide +kernel
theorem d_Q_dropFirst_51 : decode m_Q_dropFirst.2.1 51 = .ok (.iadd, 1) := by decide +kernel
theorem d_Q_dropFirst_52 : decode m_Q_dropFirst.2.1 52 = .ok (.iaload, 1) := by decide +kernel
theorem d_Q_dropFirst_53 : decode m_Q_dropFirst.2.1 53 = .ok (.iastore, 1) := by decide +kernel
theorem d_Q_dropFirst_54 : decode m_Q_dropFirst.2.1 54 = .ok (.iinc 3 1, 3) := by decide +kernel
theorem d_Q_dropFirst_57 : decode m_Q_dropFirst.2.1 57 = .ok (.goto (-31), 3) := by decide +kernel
theorem d_Q_dropFirst_60 : decode m_Q_dropFirst.2.1 60 = .ok (.return_, 1) := by decide +kernel
def f_Q_dropFirst_26 (o : Nat) : Nat → Int → Int → Int → qMem → Option (qMem)
  | 0, _, _, _, _ => none
  | n + 1, x1, x2, x3, w =>
    qld w (o + 1) 144 x1 fun v1 =>
    if x3 < v1 then
    qld w (o + 2) 864 (w32 ((w32 (x2 + x3)) + 1)) fun v3 =>
    qst w (o + 2) 864 (w32 (x2 + x3)) v3 fun w4 =>
    (f_Q_dropFirst_26 o n) x1 x2 (w32 (x3 + 1)) w4
    else
    some w
set_option maxRecDepth 4000 in
theorem s_Q_dropFirst_26 {ph : Nat} {o : Nat} (hI : qIs kLQ ph o) : ∀ (n : Nat), ∀ (x1 x2 x3 : Int) (w : qMem), qSim κV ph ph m_Q_dropFirst 26 [] [some (qR o), some (qI x1), some (qI x2), some (qI x3)] w (f_Q_dropFirst_26 o n x1 x2 x3 w) := by
  intro n
  induction n with
  | zero => intro x1 x2 x3 w; exact z_none
  | succ n ih =>
    intro x1 x2 x3 w
    rw [f_Q_dropFirst_26]
    refine z_iload_n d_Q_dropFirst_26 rfl ?_
    refine z_aload_n d_Q_dropFirst_27 rfl ?_
    refine z_gr (ci := 6) (j := 0) (d := 1) (o2 := (o + 1)) d_Q_dropFirst_28 rfl fl_Q_9 (hI 0 _ rfl).1 ((hI 0 _ rfl).2 (Nat.le_of_ble_eq_true rfl)) rfl rfl ?_
    refine z_iload_n d_Q_dropFirst_31 rfl ?_
    refine z_il d_Q_dropFirst_32 (hI 1 _ rfl).1 rfl (fun v1 => ?_)
    refine z_icmp_ge (tgt := 60) d_Q_dropFirst_33 rfl (fun c2 => ?_) (fun c2 => ?_)
    · refine z_aload_n d_Q_dropFirst_36 rfl ?_
      refine z_gr (ci := 6) (j := 1) (d := 2) (o2 := (o + 2)) d_Q_dropFirst_37 rfl fl_Q_15 (hI 0 _ rfl).1 ((hI 0 _ rfl).2 (Nat.le_of_ble_eq_true rfl)) rfl rfl ?_
      refine z_iload_n d_Q_dropFirst_40 rfl ?_
      refine z_iload_n d_Q_dropFirst_41 rfl ?_
      refine z_iadd d_Q_dropFirst_42 ?_
      refine z_aload_n d_Q_dropFirst_43 rfl ?_
      refine z_gr (ci := 6) (j := 1) (d := 2) (o2 := (o + 2)) d_Q_dropFirst_44 rfl fl_Q_15 (hI 0 _ rfl).1 ((hI 0 _ rfl).2 (Nat.le_of_ble_eq_true rfl)) rfl rfl ?_
      refine z_iload_n d_Q_dropFirst_47 rfl ?_
      refine z_iload_n d_Q_dropFirst_48 rfl ?_
      refine z_iadd d_Q_dropFirst_49 ?_
      refine z_ic1 d_Q_dropFirst_50 ?_
      refine z_iadd d_Q_dropFirst_51 ?_
      refine z_il d_Q_dropFirst_52 (hI 2 _ rfl).1 rfl (fun v3 => ?_)
      refine z_is d_Q_dropFirst_53 (hI 2 _ rfl).1 rfl (fun w4 => ?_)
      refine z_iinc (pls' := [some (qR o), some (qI x1), some (qI x2), some (qI (w32 (x3 + 1)))]) d_Q_dropFirst_54 (by decide) rfl rfl rfl ?_
      refine z_goto (tgt := 26) d_Q_dropFirst_57 rfl ?_
      refine z_mask [true, true, true, true] ?_
      exact ih _ _ _ _
    · exact z_vret d_Q_dropFirst_60 rfl rfl
def f_Q_dropFirst (o : Nat) (x1 : Int) (w : qMem) : Option (qMem) :=
  qld w (o + 1) 144 x1 fun v5 =>
  if v5 ≤ 0 then
  some w
  else
  qld w (o + 1) 144 x1 fun v7 =>
  qst w (o + 1) 144 x1 (w32 (v7 - 1)) fun w8 =>
  f_Q_dropFirst_26 o qFU x1 (w32 (x1 * 6)) 0 w8
set_option maxRecDepth 4000 in
theorem s_Q_dropFirst {ph : Nat} {o : Nat} (x1 : Int) (hI : qIs kLQ ph o) (w : qMem) : qSim κV ph ph m_Q_dropFirst 0 [] [some (qR o), some (qI x1), none, none] w (f_Q_dropFirst o x1 w) := by
  unfold f_Q_dropFirst
  refine z_aload_n d_Q_dropFirst_0 rfl ?_
  refine z_gr (ci := 6) (j := 0) (d := 1) (o2 := (o + 1)) d_Q_dropFirst_1 rfl fl_Q_9 (hI 0 _ rfl).1 ((hI 0 _ rfl).2 (Nat.le_of_ble_eq_true rfl)) rfl rfl ?_
  refine z_iload_n d_Q_dropFirst_4 rfl ?_
  refine z_il d_Q_dropFirst_5 (hI 1 _ rfl).1 rfl (fun v5 => ?_)
  refine z_if_le (tgt := 60) d_Q_dropFirst_6 rfl (fun c6 => ?_) (fun c6 => ?_)
  · exact z_vret d_Q_dropFirst_60 rfl rfl
  · refine z_aload_n d_Q_dropFirst_9 rfl ?_
    refine z_gr (ci := 6) (j := 0) (d := 1) (o2 := (o + 1)) d_Q_dropFirst_10 rfl fl_Q_9 (hI 0 _ rfl).1 ((hI 0 _ rfl).2 (Nat.le_of_ble_eq_true rfl)) rfl rfl ?_
    refine z_iload_n d_Q_dropFirst_13 rfl ?_
    refine z_dup2 d_Q_dropFirst_14 rfl rfl ?_
    refine z_il d_Q_dropFirst_15 (hI 1 _ rfl).1 rfl (fun v7 => ?_)
    refine z_ic1 d_Q_dropFirst_16 ?_
    refine z_isub d_Q_dropFirst_17 ?_
    refine z_is d_Q_dropFirst_18 (hI 1 _ rfl).1 rfl (fun w8 => ?_)
    refine z_iload_n d_Q_dropFirst_19 rfl ?_
    refine z_bipush d_Q_dropFirst_20 ⟨by decide, by decide⟩ ?_
    refine z_imul d_Q_dropFirst_22 ?_
    refine z_istore_n (pls' := [some (qR o), some (qI x1), some (qI (w32 (x1 * 6))), none]) d_Q_dropFirst_23 (by decide) rfl rfl ?_
    refine z_ic0 d_Q_dropFirst_24 ?_
    refine z_istore_n (pls' := [some (qR o), some (qI x1), some (qI (w32 (x1 * 6))), some (qI 0)]) d_Q_dropFirst_25 (by decide) rfl rfl ?_
    refine z_mask [true, true, true, true] ?_
    exact s_Q_dropFirst_26 hI _ _ _ _ _
/-! BubbleTorus$Queues.heldFrom -/
theorem d_Q_heldFrom_0 : decode m_Q_heldFrom.2.1 0 = .ok (.iconst 0, 1) := by decide +kernel
theorem d_Q_heldFrom_1 : decode m_Q_heldFrom.2.1 1 = .ok (.istore_n 3, 1) := by decide +kernel
theorem d_Q_heldFrom_2 : decode m_Q_heldFrom.2.1 2 = .ok (.iconst 0, 1) := by decide +kernel
theorem d_Q_heldFrom_3 : decode m_Q_heldFrom.2.1 3 = .ok (.istore 4, 2) := by decide +kernel
theorem d_Q_heldFrom_5 : decode m_Q_heldFrom.2.1 5 = .ok (.iload 4, 2) := by decide +kernel
theorem d_Q_heldFrom_7 : decode m_Q_heldFrom.2.1 7 = .ok (.iload_n 2, 1) := by decide +kernel
theorem d_Q_heldFrom_8 : decode m_Q_heldFrom.2.1 8 = .ok (.if_icmp .ge 21, 3) := by decide +kernel
theorem d_Q_heldFrom_11 : decode m_Q_heldFrom.2.1 11 = .ok (.iload_n 3, 1) := by decide +kernel
theorem d_Q_heldFrom_12 : decode m_Q_heldFrom.2.1 12 = .ok (.aload_n 0, 1) := by decide +kernel
theorem d_Q_heldFrom_13 : decode m_Q_heldFrom.2.1 13 = .ok (.getfield 9, 3) := by decide +kernel
theorem d_Q_heldFrom_16 : decode m_Q_heldFrom.2.1 16 = .ok (.iload_n 1, 1) := by decide +kernel
theorem d_Q_heldFrom_17 : decode m_Q_heldFrom.2.1 17 = .ok (.iload 4, 2) := by decide +kernel
theorem d_Q_heldFrom_19 : decode m_Q_heldFrom.2.1 19 = .ok (.iadd, 1) := by decide +kernel
theorem d_Q_heldFrom_20 : decode m_Q_heldFrom.2.1 20 = .ok (.iaload, 1) := by decide +kernel
theorem d_Q_heldFrom_21 : decode m_Q_heldFrom.2.1 21 = .ok (.iadd, 1) := by decide +kernel
theorem d_Q_heldFrom_22 : decode m_Q_heldFrom.2.1 22 = .ok (.istore_n 3, 1) := by decide +kernel
theorem d_Q_heldFrom_23 : decode m_Q_heldFrom.2.1 23 = .ok (.iinc 4 1, 3) := by decide +kernel
theorem d_Q_heldFrom_26 : decode m_Q_heldFrom.2.1 26 = .ok (.goto (-21), 3) := by decide +kernel
theorem d_Q_heldFrom_29 : decode m_Q_heldFrom.2.1 29 = .ok (.iload_n 3, 1) := by decide +kernel
theorem d_Q_heldFrom_30 : decode m_Q_heldFrom.2.1 30 = .ok (.ireturn, 1) := by decide +kernel
def f_Q_heldFrom_5 (o : Nat) : Nat → Int → Int → Int → Int → qMem → Option (Int × qMem)
  | 0, _, _, _, _, _ => none
  | n + 1, x1, x2, x3, x4, w =>
    if x4 < x2 then
    qld w (o + 1) 144 (w32 (x1 + x4)) fun v2 =>
    (f_Q_heldFrom_5 o n) x1 x2 (w32 (x3 + v2)) (w32 (x4 + 1)) w
    else
    some (x3, w)
set_option maxRecDepth 4000 in
theorem s_Q_heldFrom_5 {ph : Nat} {o : Nat} (hI : qIs kLQ ph o) : ∀ (n : Nat), ∀ (x1 x2 x3 x4 : Int) (w : qMem), qSim κI ph ph m_Q_heldFrom 5 [] [some (qR o), some (qI x1), some (qI x2), some (qI x3), some (qI x4)] w (f_Q_heldFrom_5 o n x1 x2 x3 x4 w) := by
  intro n
  induction n with
  | zero => intro x1 x2 x3 x4 w; exact z_none
  | succ n ih =>
    intro x1 x2 x3 x4 w
    rw [f_Q_heldFrom_5]
    refine z_iload d_Q_heldFrom_5 rfl ?_
    refine z_iload_n d_Q_heldFrom_7 rfl ?_
    refine z_icmp_ge (tgt := 29) d_Q_heldFrom_8 rfl (fun c1 => ?_) (fun c1 => ?_)
    · refine z_iload_n d_Q_heldFrom_11 rfl ?_
      refine z_aload_n d_Q_heldFrom_12 rfl ?_
      refine z_gr (ci := 6) (j := 0) (d := 1) (o2 := (o + 1)) d_Q_heldFrom_13 rfl fl_Q_9 (hI 0 _ rfl).1 ((hI 0 _ rfl).2 (Nat.le_of_ble_eq_true rfl)) rfl rfl ?_
      refine z_iload_n d_Q_heldFrom_16 rfl ?_
      refine z_iload d_Q_heldFrom_17 rfl ?_
      refine z_iadd d_Q_heldFrom_19 ?_
      refine z_il d_Q_heldFrom_20 (hI 1 _ rfl).1 rfl (fun v2 => ?_)
      refine z_iadd d_Q_heldFrom_21 ?_
      refine z_istore_n (pls' := [some (qR o), some (qI x1), some (qI x2), some (qI (w32 (x3 + v2))), some (qI x4)]) d_Q_heldFrom_22 (by decide) rfl rfl ?_
      refine z_iinc (pls' := [some (qR o), some (qI x1), some (qI x2), some (qI (w32 (x3 + v2))), some (qI (w32 (x4 + 1)))]) d_Q_heldFrom_23 (by decide) rfl rfl rfl ?_
      refine z_goto (tgt := 5) d_Q_heldFrom_26 rfl ?_
      refine z_mask [true, true, true, true, true] ?_
      exact ih _ _ _ _ _
    · refine z_iload_n d_Q_heldFrom_29 rfl ?_
      exact z_iret d_Q_heldFrom_30 rfl rfl
def f_Q_heldFrom (o : Nat) (x1 : Int) (x2 : Int) (w : qMem) : Option (Int × qMem) :=
  f_Q_heldFrom_5 o qFU x1 x2 0 0 w
set_option maxRecDepth 4000 in
theorem s_Q_heldFrom {ph : Nat} {o : Nat} (x1 : Int) (x2 : Int) (hI : qIs kLQ ph o) (w : qMem) : qSim κI ph ph m_Q_heldFrom 0 [] [some (qR o), some (qI x1), some (qI x2), none, none] w (f_Q_heldFrom o x1 x2 w) := by
  unfold f_Q_heldFrom
  refine z_ic0 d_Q_heldFrom_0 ?_
  refine z_istore_n (pls' := [some (qR o), some (qI x1), some (qI x2), some (qI 0), none]) d_Q_heldFrom_1 (by decide) rfl rfl ?_
  refine z_ic0 d_Q_heldFrom_2 ?_
  refine z_istore (pls' := [some (qR o), some (qI x1), some (qI x2), some (qI 0), some (qI 0)]) d_Q_heldFrom_3 (by decide) rfl rfl ?_
  refine z_mask [true, true, true, true, true] ?_
  exact s_Q_heldFrom_5 hI _ _ _ _ _ _
/-! BubbleTorus$Packets.clearAll -/
theorem d_P_clearAll_0 : decode m_P_clearAll.2.1 0 = .ok (.aload_n 0, 1) := by decide +kernel
theorem d_P_clearAll_1 : decode m_P_clearAll.2.1 1 = .ok (.iconst 0, 1) := by decide +kernel
theorem d_P_clearAll_2 : decode m_P_clearAll.2.1 2 = .ok (.putfield 51, 3) := by decide +kernel
theorem d_P_clearAll_5 : decode m_P_clearAll.2.1 5 = .ok (.aload_n 0, 1) := by decide +kernel
theorem d_P_clearAll_6 : decode m_P_clearAll.2.1 6 = .ok (.iconst 0, 1) := by decide +kernel
theorem d_P_clearAll_7 : decode m_P_clearAll.2.1 7 = .ok (.putfield 55, 3) := by decide +kernel
theorem d_P_clearAll_10 : decode m_P_clearAll.2.1 10 = .ok (.return_, 1) := by decide +kernel
def f_P_clearAll (o : Nat) (w : qMem) : Option (qMem) :=
  qlt (qud w o 13 0) fun w1 =>
  qlt (qud w1 o 14 0) fun w2 =>
  some w2
set_option maxRecDepth 4000 in
theorem s_P_clearAll {ph : Nat} {o : Nat} (hI : qIs kLP ph o) (w : qMem) : qSim κV ph ph m_P_clearAll 0 [] [some (qR o)] w (f_P_clearAll o w) := by
  unfold f_P_clearAll
  refine z_aload_n d_P_clearAll_0 rfl ?_
  refine z_ic0 d_P_clearAll_1 ?_
  refine z_pi (ci := 5) (j := 13) (ji := 13) d_P_clearAll_2 rfl fl_P_51 (hI 0 _ rfl).1 rfl rfl rfl rfl (fun w1 => ?_)
  refine z_aload_n d_P_clearAll_5 rfl ?_
  refine z_ic0 d_P_clearAll_6 ?_
  refine z_pi (ci := 5) (j := 14) (ji := 14) d_P_clearAll_7 rfl fl_P_55 (hI 0 _ rfl).1 rfl rfl rfl rfl (fun w2 => ?_)
  exact z_vret d_P_clearAll_10 rfl rfl
/-! BubbleTorus$Packets.copyRow -/
theorem d_P_copyRow_0 : decode m_P_copyRow.2.1 0 = .ok (.aload_n 1, 1) := by decide +kernel
theorem d_P_copyRow_1 : decode m_P_copyRow.2.1 1 = .ok (.iconst 0, 1) := by decide +kernel
theorem d_P_copyRow_2 : decode m_P_copyRow.2.1 2 = .ok (.aload_n 2, 1) := by decide +kernel
theorem d_P_copyRow_3 : decode m_P_copyRow.2.1 3 = .ok (.iconst 0, 1) := by decide +kernel
theorem d_P_copyRow_4 : decode m_P_copyRow.2.1 4 = .ok (.aload_n 0, 1) := by decide +kernel
theorem d_P_copyRow_5 : decode m_P_copyRow.2.1 5 = .ok (.getfield 51, 3) := by decide +kernel
theorem d_P_copyRow_8 : decode m_P_copyRow.2.1 8 = .ok (.invokestatic 62, 3) := by decide +kernel
theorem d_P_copyRow_11 : decode m_P_copyRow.2.1 11 = .ok (.return_, 1) := by decide +kernel
def f_P_copyRow (o : Nat) (p1 : Nat) (n1 : Int) (p2 : Nat) (n2 : Int) (w : qMem) : Option (qMem) :=
  qcpy w p1 n1 0 p2 n2 0 (w o 13) fun w1 =>
  some w1
set_option maxRecDepth 4000 in
theorem s_P_copyRow {ph : Nat} {m1 : Nat} {m2 : Nat} {o : Nat} {p1 : Nat} {n1 : Int} {p2 : Nat} {n2 : Int} (hI : qIs kLP ph o) (hp1 : qlay p1 = (0, m1)) (hn1 : (m1 : Int) = n1) (hm1 : n1 < 2147483648) (hp2 : qlay p2 = (0, m2)) (hn2 : (m2 : Int) = n2) (hm2 : n2 < 2147483648) (w : qMem) : qSim κV ph ph m_P_copyRow 0 [] [some (qR o), some (qR p1), some (qR p2)] w (f_P_copyRow o p1 n1 p2 n2 w) := by
  unfold f_P_copyRow
  refine z_aload_n d_P_copyRow_0 rfl ?_
  refine z_ic0 d_P_copyRow_1 ?_
  refine z_aload_n d_P_copyRow_2 rfl ?_
  refine z_ic0 d_P_copyRow_3 ?_
  refine z_aload_n d_P_copyRow_4 rfl ?_
  refine z_gi (ci := 5) (j := 13) (ji := 13) d_P_copyRow_5 rfl fl_P_51 (hI 0 _ rfl).1 rfl rfl ?_
  refine z_cp d_P_copyRow_8 lk_P_62 (by decide) hp1 hp2 hn1 hn2 (Nat.le_of_ble_eq_true rfl) (Nat.le_of_ble_eq_true rfl) (fun w1 => ?_)
  exact z_vret d_P_copyRow_11 rfl rfl
/-! BubbleTorus$Packets.copyFrom -/
theorem d_P_copyFrom_0 : decode m_P_copyFrom.2.1 0 = .ok (.aload_n 0, 1) := by decide +kernel
theorem d_P_copyFrom_1 : decode m_P_copyFrom.2.1 1 = .ok (.aload_n 1, 1) := by decide +kernel
theorem d_P_copyFrom_2 : decode m_P_copyFrom.2.1 2 = .ok (.getfield 51, 3) := by decide +kernel
theorem d_P_copyFrom_5 : decode m_P_copyFrom.2.1 5 = .ok (.putfield 51, 3) := by decide +kernel
theorem d_P_copyFrom_8 : decode m_P_copyFrom.2.1 8 = .ok (.aload_n 0, 1) := by decide +kernel
theorem d_P_copyFrom_9 : decode m_P_copyFrom.2.1 9 = .ok (.aload_n 1, 1) := by decide +kernel
theorem d_P_copyFrom_10 : decode m_P_copyFrom.2.1 10 = .ok (.getfield 55, 3) := by decide +kernel
theorem d_P_copyFrom_13 : decode m_P_copyFrom.2.1 13 = .ok (.putfield 55, 3) := by decide +kernel
theorem d_P_copyFrom_16 : decode m_P_copyFrom.2.1 16 = .ok (.aload_n 0, 1) := by decide +kernel
theorem d_P_copyFrom_17 : decode m_P_copyFrom.2.1 17 = .ok (.aload_n 1, 1) := by decide +kernel
theorem d_P_copyFrom_18 : decode m_P_copyFrom.2.1 18 = .ok (.getfield 9, 3) := by decide +kernel
theorem d_P_copyFrom_21 : decode m_P_copyFrom.2.1 21 = .ok (.aload_n 0, 1) := by decide +kernel
theorem d_P_copyFrom_22 : decode m_P_copyFrom.2.1 22 = .ok (.getfield 9, 3) := by decide +kernel
theorem d_P_copyFrom_25 : decode m_P_copyFrom.2.1 25 = .ok (.invokevirtual 58, 3) := by decide +kernel
theorem d_P_copyFrom_28 : decode m_P_copyFrom.2.1 28 = .ok (.aload_n 0, 1) := by decide +kernel
theorem d_P_copyFrom_29 : decode m_P_copyFrom.2.1 29 = .ok (.aload_n 1, 1) := by decide +kernel
theorem d_P_copyFrom_30 : decode m_P_copyFrom.2.1 30 = .ok (.getfield 15, 3) := by decide +kernel
theorem d_P_copyFrom_33 : decode m_P_copyFrom.2.1 33 = .ok (.aload_n 0, 1) := by decide +kernel
theorem d_P_copyFrom_34 : decode m_P_copyFrom.2.1 34 = .ok (.getfield 15, 3) := by decide +kernel
theorem d_P_copyFrom_37 : decode m_P_copyFrom.2.1 37 = .ok (.invokevirtual 58, 3) := by decide +kernel
theorem d_P_copyFrom_40 : decode m_P_copyFrom.2.1 40 = .ok (.aload_n 0, 1) := by decide +kernel
theorem d_P_copyFrom_41 : decode m_P_copyFrom.2.1 41 = .ok (.aload_n 1, 1) := by decide +kernel
theorem d_P_copyFrom_42 : decode m_P_copyFrom.2.1 42 = .ok (.getfield 18, 3) := by decide +kernel
theorem d_P_copyFrom_45 : decode m_P_copyFrom.2.1 45 = .ok (.aload_n 0, 1) := by decide +kernel
theorem d_P_copyFrom_46 : decode m_P_copyFrom.2.1 46 = .ok (.getfield 18, 3) := by decide +kernel
theorem d_P_copyFrom_49 : decode m_P_copyFrom.2.1 49 = .ok (.invokevirtual 58, 3) := by decide +kernel
theorem d_P_copyFrom_52 : decode m_P_copyFrom.2.1 52 = .ok (.aload_n 0, 1) := by decide +kernel
theorem d_P_copyFrom_53 : decode m_P_copyFrom.2.1 53 = .ok (.aload_n 1, 1) := by decide +kernel
theorem d_P_copyFrom_54 : decode m_P_copyFrom.2.1 54 = .ok (.getfield 21, 3) := by decide +kernel
theorem d_P_copyFrom_57 : decode m_P_copyFrom.2.1 57 = .ok (.aload_n 0, 1) := by decide +kernel
theorem d_P_copyFrom_58 : decode m_P_copyFrom.2.1 58 = .ok (.getfield 21, 3) := by decide +kernel
theorem d_P_copyFrom_61 : decode m_P_copyFrom.2.1 61 = .ok (.invokevirtual 58, 3) := by decide +kernel
theorem d_P_copyFrom_64 : decode m_P_copyFrom.2.1 64 = .ok (.aload_n 0, 1) := by decide +kernel
theorem d_P_copyFrom_65 : decode m_P_copyFrom.2.1 65 = .ok (.aload_n 1, 1) := by decide +kernel
theorem d_P_copyFrom_66 : decode m_P_copyFrom.2.1 66 = .ok (.getfield 24, 3) := by decide +kernel
theorem d_P_copyFrom_69 : decode m_P_copyFrom.2.1 69 = .ok (.aload_n 0, 1) := by decide +kernel
theorem d_P_copyFrom_70 : decode m_P_copyFrom.2.1 70 = .ok (.getfield 24, 3) := by decide +kernel
theorem d_P_copyFrom_73 : decode m_P_copyFrom.2.1 73 = .ok (.invokevirtual 58, 3) := by decide +kernel
theorem d_P_copyFrom_76 : decode m_P_copyFrom.2.1 76 = .ok (.aload_n 0, 1) := by decide +kernel
theorem d_P_copyFrom_77 : decode m_P_copyFrom.2.1 77 = .ok (.aload_n 1, 1) := by decide +kernel
theorem d_P_copyFrom_78 : decode m_P_copyFrom.2.1 78 = .ok (.getfield 27, 3) := by decide +kernel
theorem d_P_copyFrom_81 : decode m_P_copyFrom.2.1 81 = .ok (.aload_n 0, 1) := by decide +kernel
theorem d_P_copyFrom_82 : decode m_P_copyFrom.2.1 82 = .ok (.getfield 27, 3) := by decide +kernel
theorem d_P_copyFrom_85 : decode m_P_copyFrom.2.1 85 = .ok (.invokevirtual 58, 3) := by decide +kernel
theorem d_P_copyFrom_88 : decode m_P_copyFrom.2.1 88 = .ok (.aload_n 0, 1) := by decide +kernel
theorem d_P_copyFrom_89 : decode m_P_copyFrom.2.1 89 = .ok (.aload_n 1, 1) := by decide +kernel
theorem d_P_copyFrom_90 : decode m_P_copyFrom.2.1 90 = .ok (.getfield 30, 3) := by decide +kernel
theorem d_P_copyFrom_93 : decode m_P_copyFrom.2.1 93 = .ok (.aload_n 0, 1) := by decide +kernel
theorem d_P_copyFrom_94 : decode m_P_copyFrom.2.1 94 = .ok (.getfield 30, 3) := by decide +kernel
theorem d_P_copyFrom_97 : decode m_P_copyFrom.2.1 97 = .ok (.invokevirtual 58, 3) := by decide +kernel
theorem d_P_copyFrom_100 : decode m_P_copyFrom.2.1 100 = .ok (.aload_n 0, 1) := by decide +kernel
theorem d_P_copyFrom_101 : decode m_P_copyFrom.2.1 101 = .ok (.aload_n 1, 1) := by decide +kernel
theorem d_P_copyFrom_102 : decode m_P_copyFrom.2.1 102 = .ok (.getfield 33, 3) := by decide +kernel
theorem d_P_copyFrom_105 : decode m_P_copyFrom.2.1 105 = .ok (.aload_n 0, 1) := by decide +kernel
theorem d_P_copyFrom_106 : decode m_P_copyFrom.2.1 106 = .ok (.getfield 33, 3) := by decide +kernel
theorem d_P_copyFrom_109 : decode m_P_copyFrom.2.1 109 = .ok (.invokevirtual 58, 3) := by decide +kernel
theorem d_P_copyFrom_112 : decode m_P_copyFrom.2.1 112 = .ok (.aload_n 0, 1) := by decide +kernel
theorem d_P_copyFrom_113 : decode m_P_copyFrom.2.1 113 = .ok (.aload_n 1, 1) := by decide +kernel
theorem d_P_copyFrom_114 : decode m_P_copyFrom.2.1 114 = .ok (.getfield 36, 3) := by decide +kernel
theorem d_P_copyFrom_117 : decode m_P_copyFrom.2.1 117 = .ok (.aload_n 0, 1) := by decide +kernel
theorem d_P_copyFrom_118 : decode m_P_copyFrom.2.1 118 = .ok (.getfield 36, 3) := by decide +kernel
theorem d_P_copyFrom_121 : decode m_P_copyFrom.2.1 121 = .ok (.invokevirtual 58, 3) := by decide +kernel
theorem d_P_copyFrom_124 : decode m_P_copyFrom.2.1 124 = .ok (.aload_n 0, 1) := by decide +kernel
theorem d_P_copyFrom_125 : decode m_P_copyFrom.2.1 125 = .ok (.aload_n 1, 1) := by decide +kernel
theorem d_P_copyFrom_126 : decode m_P_copyFrom.2.1 126 = .ok (.getfield 39, 3) := by decide +kernel
theorem d_P_copyFrom_129 : decode m_P_copyFrom.2.1 129 = .ok (.aload_n 0, 1) := by decide +kernel
theorem d_P_copyFrom_130 : decode m_P_copyFrom.2.1 130 = .ok (.getfield 39, 3) := by decide +kernel
theorem d_P_copyFrom_133 : decode m_P_copyFrom.2.1 133 = .ok (.invokevirtual 58, 3) := by decide +kernel
theorem d_P_copyFrom_136 : decode m_P_copyFrom.2.1 136 = .ok (.aload_n 0, 1) := by decide +kernel
theorem d_P_copyFrom_137 : decode m_P_copyFrom.2.1 137 = .ok (.aload_n 1, 1) := by decide +kernel
theorem d_P_copyFrom_138 : decode m_P_copyFrom.2.1 138 = .ok (.getfield 42, 3) := by decide +kernel
theorem d_P_copyFrom_141 : decode m_P_copyFrom.2.1 141 = .ok (.aload_n 0, 1) := by decide +kernel
theorem d_P_copyFrom_142 : decode m_P_copyFrom.2.1 142 = .ok (.getfield 42, 3) := by decide +kernel
theorem d_P_copyFrom_145 : decode m_P_copyFrom.2.1 145 = .ok (.invokevirtual 58, 3) := by decide +kernel
theorem d_P_copyFrom_148 : decode m_P_copyFrom.2.1 148 = .ok (.aload_n 0, 1) := by decide +kernel
theorem d_P_copyFrom_149 : decode m_P_copyFrom.2.1 149 = .ok (.aload_n 1, 1) := by decide +kernel
theorem d_P_copyFrom_150 : decode m_P_copyFrom.2.1 150 = .ok (.getfield 45, 3) := by decide +kernel
theorem d_P_copyFrom_153 : decode m_P_copyFrom.2.1 153 = .ok (.aload_n 0, 1) := by decide +kernel
theorem d_P_copyFrom_154 : decode m_P_copyFrom.2.1 154 = .ok (.getfield 45, 3) := by decide +kernel
theorem d_P_copyFrom_157 : decode m_P_copyFrom.2.1 157 = .ok (.invokevirtual 58, 3) := by decide +kernel
theorem d_P_copyFrom_160 : decode m_P_copyFrom.2.1 160 = .ok (.aload_n 1, 1) := by decide +kernel
theorem d_P_copyFrom_161 : decode m_P_copyFrom.2.1 161 = .ok (.getfield 48, 3) := by decide +kernel
theorem d_P_copyFrom_164 : decode m_P_copyFrom.2.1 164 = .ok (.iconst 0, 1) := by decide +kernel
theorem d_P_copyFrom_165 : decode m_P_copyFrom.2.1 165 = .ok (.aload_n 0, 1) := by decide +kernel
theorem d_P_copyFrom_166 : decode m_P_copyFrom.2.1 166 = .ok (.getfield 48, 3) := by decide +kernel
theorem d_P_copyFrom_169 : decode m_P_copyFrom.2.1 169 = .ok (.iconst 0, 1) := by decide +kernel
theorem d_P_copyFrom_170 : decode m_P_copyFrom.2.1 170 = .ok (.aload_n 0, 1) := by decide +kernel
theorem d_P_copyFrom_171 : decode m_P_copyFrom.2.1 171 = .ok (.getfield 51, 3) := by decide +kernel
theorem d_P_copyFrom_174 : decode m_P_copyFrom.2.1 174 = .ok (.iconst 5, 1) := by decide +kernel
theorem d_P_copyFrom_175 : decode m_P_copyFrom.2.1 175 = .ok (.imul, 1) := by decide +kernel
theorem d_P_copyFrom_176 : decode m_P_copyFrom.2.1 176 = .ok (.invokestatic 62, 3) := by decide +kernel
theorem d_P_copyFrom_179 : decode m_P_copyFrom.2.1 179 = .ok (.return_, 1) := by decide +kernel
def f_P_copyFrom (o : Nat) (p1 : Nat) (w : qMem) : Option (qMem) :=
  qlt (qud w o 13 (w p1 13)) fun w1 =>
  qlt (qud w1 o 14 (w1 p1 14)) fun w2 =>
  (f_P_copyRow o (p1 + 1) 250 (o + 1) 250 w2).bind fun q3 =>
  (f_P_copyRow o (p1 + 2) 250 (o + 2) 250 q3).bind fun q4 =>
  (f_P_copyRow o (p1 + 3) 250 (o + 3) 250 q4).bind fun q5 =>
  (f_P_copyRow o (p1 + 4) 250 (o + 4) 250 q5).bind fun q6 =>
  (f_P_copyRow o (p1 + 5) 250 (o + 5) 250 q6).bind fun q7 =>
  (f_P_copyRow o (p1 + 6) 250 (o + 6) 250 q7).bind fun q8 =>
  (f_P_copyRow o (p1 + 7) 250 (o + 7) 250 q8).bind fun q9 =>
  (f_P_copyRow o (p1 + 8) 250 (o + 8) 250 q9).bind fun q10 =>
  (f_P_copyRow o (p1 + 9) 250 (o + 9) 250 q10).bind fun q11 =>
  (f_P_copyRow o (p1 + 10) 250 (o + 10) 250 q11).bind fun q12 =>
  (f_P_copyRow o (p1 + 11) 250 (o + 11) 250 q12).bind fun q13 =>
  (f_P_copyRow o (p1 + 12) 250 (o + 12) 250 q13).bind fun q14 =>
  qcpy q14 (p1 + 13) 1250 0 (o + 13) 1250 0 (w32 ((q14 o 13) * 5)) fun w15 =>
  some w15
set_option maxRecDepth 4000 in
theorem s_P_copyFrom {ph : Nat} {o : Nat} {p1 : Nat} (hI : qIs kLP ph o) (hp1 : qIs kLP ph p1) (w : qMem) : qSim κV ph ph m_P_copyFrom 0 [] [some (qR o), some (qR p1)] w (f_P_copyFrom o p1 w) := by
  unfold f_P_copyFrom
  refine z_aload_n d_P_copyFrom_0 rfl ?_
  refine z_aload_n d_P_copyFrom_1 rfl ?_
  refine z_gi (ci := 5) (j := 13) (ji := 13) d_P_copyFrom_2 rfl fl_P_51 (hp1 0 _ rfl).1 rfl rfl ?_
  refine z_pi (ci := 5) (j := 13) (ji := 13) d_P_copyFrom_5 rfl fl_P_51 (hI 0 _ rfl).1 rfl rfl rfl rfl (fun w1 => ?_)
  refine z_aload_n d_P_copyFrom_8 rfl ?_
  refine z_aload_n d_P_copyFrom_9 rfl ?_
  refine z_gi (ci := 5) (j := 14) (ji := 14) d_P_copyFrom_10 rfl fl_P_55 (hp1 0 _ rfl).1 rfl rfl ?_
  refine z_pi (ci := 5) (j := 14) (ji := 14) d_P_copyFrom_13 rfl fl_P_55 (hI 0 _ rfl).1 rfl rfl rfl rfl (fun w2 => ?_)
  refine z_aload_n d_P_copyFrom_16 rfl ?_
  refine z_aload_n d_P_copyFrom_17 rfl ?_
  refine z_gr (ci := 5) (j := 0) (d := 1) (o2 := (p1 + 1)) d_P_copyFrom_18 rfl fl_P_9 (hp1 0 _ rfl).1 ((hp1 0 _ rfl).2 (Nat.le_of_ble_eq_true rfl)) rfl rfl ?_
  refine z_aload_n d_P_copyFrom_21 rfl ?_
  refine z_gr (ci := 5) (j := 0) (d := 1) (o2 := (o + 1)) d_P_copyFrom_22 rfl fl_P_9 (hI 0 _ rfl).1 ((hI 0 _ rfl).2 (Nat.le_of_ble_eq_true rfl)) rfl rfl ?_
  refine z_cVV (as := [qR (p1 + 1), qR (o + 1)]) (st := []) (nl := 0) (ci := 5) d_P_copyFrom_25 lk_P_58 mk_P_copyRow rfl rfl (hI 0 _ rfl).1 rfl rfl rfl (s_P_copyRow hI (hp1 1 _ rfl).1 rfl (by decide) (hI 1 _ rfl).1 rfl (by decide) _) (fun q3 _ => ?_)
  refine z_aload_n d_P_copyFrom_28 rfl ?_
  refine z_aload_n d_P_copyFrom_29 rfl ?_
  refine z_gr (ci := 5) (j := 1) (d := 2) (o2 := (p1 + 2)) d_P_copyFrom_30 rfl fl_P_15 (hp1 0 _ rfl).1 ((hp1 0 _ rfl).2 (Nat.le_of_ble_eq_true rfl)) rfl rfl ?_
  refine z_aload_n d_P_copyFrom_33 rfl ?_
  refine z_gr (ci := 5) (j := 1) (d := 2) (o2 := (o + 2)) d_P_copyFrom_34 rfl fl_P_15 (hI 0 _ rfl).1 ((hI 0 _ rfl).2 (Nat.le_of_ble_eq_true rfl)) rfl rfl ?_
  refine z_cVV (as := [qR (p1 + 2), qR (o + 2)]) (st := []) (nl := 0) (ci := 5) d_P_copyFrom_37 lk_P_58 mk_P_copyRow rfl rfl (hI 0 _ rfl).1 rfl rfl rfl (s_P_copyRow hI (hp1 2 _ rfl).1 rfl (by decide) (hI 2 _ rfl).1 rfl (by decide) _) (fun q4 _ => ?_)
  refine z_aload_n d_P_copyFrom_40 rfl ?_
  refine z_aload_n d_P_copyFrom_41 rfl ?_
  refine z_gr (ci := 5) (j := 2) (d := 3) (o2 := (p1 + 3)) d_P_copyFrom_42 rfl fl_P_18 (hp1 0 _ rfl).1 ((hp1 0 _ rfl).2 (Nat.le_of_ble_eq_true rfl)) rfl rfl ?_
  refine z_aload_n d_P_copyFrom_45 rfl ?_
  refine z_gr (ci := 5) (j := 2) (d := 3) (o2 := (o + 3)) d_P_copyFrom_46 rfl fl_P_18 (hI 0 _ rfl).1 ((hI 0 _ rfl).2 (Nat.le_of_ble_eq_true rfl)) rfl rfl ?_
  refine z_cVV (as := [qR (p1 + 3), qR (o + 3)]) (st := []) (nl := 0) (ci := 5) d_P_copyFrom_49 lk_P_58 mk_P_copyRow rfl rfl (hI 0 _ rfl).1 rfl rfl rfl (s_P_copyRow hI (hp1 3 _ rfl).1 rfl (by decide) (hI 3 _ rfl).1 rfl (by decide) _) (fun q5 _ => ?_)
  refine z_aload_n d_P_copyFrom_52 rfl ?_
  refine z_aload_n d_P_copyFrom_53 rfl ?_
  refine z_gr (ci := 5) (j := 3) (d := 4) (o2 := (p1 + 4)) d_P_copyFrom_54 rfl fl_P_21 (hp1 0 _ rfl).1 ((hp1 0 _ rfl).2 (Nat.le_of_ble_eq_true rfl)) rfl rfl ?_
  refine z_aload_n d_P_copyFrom_57 rfl ?_
  refine z_gr (ci := 5) (j := 3) (d := 4) (o2 := (o + 4)) d_P_copyFrom_58 rfl fl_P_21 (hI 0 _ rfl).1 ((hI 0 _ rfl).2 (Nat.le_of_ble_eq_true rfl)) rfl rfl ?_
  refine z_cVV (as := [qR (p1 + 4), qR (o + 4)]) (st := []) (nl := 0) (ci := 5) d_P_copyFrom_61 lk_P_58 mk_P_copyRow rfl rfl (hI 0 _ rfl).1 rfl rfl rfl (s_P_copyRow hI (hp1 4 _ rfl).1 rfl (by decide) (hI 4 _ rfl).1 rfl (by decide) _) (fun q6 _ => ?_)
  refine z_aload_n d_P_copyFrom_64 rfl ?_
  refine z_aload_n d_P_copyFrom_65 rfl ?_
  refine z_gr (ci := 5) (j := 4) (d := 5) (o2 := (p1 + 5)) d_P_copyFrom_66 rfl fl_P_24 (hp1 0 _ rfl).1 ((hp1 0 _ rfl).2 (Nat.le_of_ble_eq_true rfl)) rfl rfl ?_
  refine z_aload_n d_P_copyFrom_69 rfl ?_
  refine z_gr (ci := 5) (j := 4) (d := 5) (o2 := (o + 5)) d_P_copyFrom_70 rfl fl_P_24 (hI 0 _ rfl).1 ((hI 0 _ rfl).2 (Nat.le_of_ble_eq_true rfl)) rfl rfl ?_
  refine z_cVV (as := [qR (p1 + 5), qR (o + 5)]) (st := []) (nl := 0) (ci := 5) d_P_copyFrom_73 lk_P_58 mk_P_copyRow rfl rfl (hI 0 _ rfl).1 rfl rfl rfl (s_P_copyRow hI (hp1 5 _ rfl).1 rfl (by decide) (hI 5 _ rfl).1 rfl (by decide) _) (fun q7 _ => ?_)
  refine z_aload_n d_P_copyFrom_76 rfl ?_
  refine z_aload_n d_P_copyFrom_77 rfl ?_
  refine z_gr (ci := 5) (j := 5) (d := 6) (o2 := (p1 + 6)) d_P_copyFrom_78 rfl fl_P_27 (hp1 0 _ rfl).1 ((hp1 0 _ rfl).2 (Nat.le_of_ble_eq_true rfl)) rfl rfl ?_
  refine z_aload_n d_P_copyFrom_81 rfl ?_
  refine z_gr (ci := 5) (j := 5) (d := 6) (o2 := (o + 6)) d_P_copyFrom_82 rfl fl_P_27 (hI 0 _ rfl).1 ((hI 0 _ rfl).2 (Nat.le_of_ble_eq_true rfl)) rfl rfl ?_
  refine z_cVV (as := [qR (p1 + 6), qR (o + 6)]) (st := []) (nl := 0) (ci := 5) d_P_copyFrom_85 lk_P_58 mk_P_copyRow rfl rfl (hI 0 _ rfl).1 rfl rfl rfl (s_P_copyRow hI (hp1 6 _ rfl).1 rfl (by decide) (hI 6 _ rfl).1 rfl (by decide) _) (fun q8 _ => ?_)
  refine z_aload_n d_P_copyFrom_88 rfl ?_
  refine z_aload_n d_P_copyFrom_89 rfl ?_
  refine z_gr (ci := 5) (j := 6) (d := 7) (o2 := (p1 + 7)) d_P_copyFrom_90 rfl fl_P_30 (hp1 0 _ rfl).1 ((hp1 0 _ rfl).2 (Nat.le_of_ble_eq_true rfl)) rfl rfl ?_
  refine z_aload_n d_P_copyFrom_93 rfl ?_
  refine z_gr (ci := 5) (j := 6) (d := 7) (o2 := (o + 7)) d_P_copyFrom_94 rfl fl_P_30 (hI 0 _ rfl).1 ((hI 0 _ rfl).2 (Nat.le_of_ble_eq_true rfl)) rfl rfl ?_
  refine z_cVV (as := [qR (p1 + 7), qR (o + 7)]) (st := []) (nl := 0) (ci := 5) d_P_copyFrom_97 lk_P_58 mk_P_copyRow rfl rfl (hI 0 _ rfl).1 rfl rfl rfl (s_P_copyRow hI (hp1 7 _ rfl).1 rfl (by decide) (hI 7 _ rfl).1 rfl (by decide) _) (fun q9 _ => ?_)
  refine z_aload_n d_P_copyFrom_100 rfl ?_
  refine z_aload_n d_P_copyFrom_101 rfl ?_
  refine z_gr (ci := 5) (j := 7) (d := 8) (o2 := (p1 + 8)) d_P_copyFrom_102 rfl fl_P_33 (hp1 0 _ rfl).1 ((hp1 0 _ rfl).2 (Nat.le_of_ble_eq_true rfl)) rfl rfl ?_
  refine z_aload_n d_P_copyFrom_105 rfl ?_
  refine z_gr (ci := 5) (j := 7) (d := 8) (o2 := (o + 8)) d_P_copyFrom_106 rfl fl_P_33 (hI 0 _ rfl).1 ((hI 0 _ rfl).2 (Nat.le_of_ble_eq_true rfl)) rfl rfl ?_
  refine z_cVV (as := [qR (p1 + 8), qR (o + 8)]) (st := []) (nl := 0) (ci := 5) d_P_copyFrom_109 lk_P_58 mk_P_copyRow rfl rfl (hI 0 _ rfl).1 rfl rfl rfl (s_P_copyRow hI (hp1 8 _ rfl).1 rfl (by decide) (hI 8 _ rfl).1 rfl (by decide) _) (fun q10 _ => ?_)
  refine z_aload_n d_P_copyFrom_112 rfl ?_
  refine z_aload_n d_P_copyFrom_113 rfl ?_
  refine z_gr (ci := 5) (j := 8) (d := 9) (o2 := (p1 + 9)) d_P_copyFrom_114 rfl fl_P_36 (hp1 0 _ rfl).1 ((hp1 0 _ rfl).2 (Nat.le_of_ble_eq_true rfl)) rfl rfl ?_
  refine z_aload_n d_P_copyFrom_117 rfl ?_
  refine z_gr (ci := 5) (j := 8) (d := 9) (o2 := (o + 9)) d_P_copyFrom_118 rfl fl_P_36 (hI 0 _ rfl).1 ((hI 0 _ rfl).2 (Nat.le_of_ble_eq_true rfl)) rfl rfl ?_
  refine z_cVV (as := [qR (p1 + 9), qR (o + 9)]) (st := []) (nl := 0) (ci := 5) d_P_copyFrom_121 lk_P_58 mk_P_copyRow rfl rfl (hI 0 _ rfl).1 rfl rfl rfl (s_P_copyRow hI (hp1 9 _ rfl).1 rfl (by decide) (hI 9 _ rfl).1 rfl (by decide) _) (fun q11 _ => ?_)
  refine z_aload_n d_P_copyFrom_124 rfl ?_
  refine z_aload_n d_P_copyFrom_125 rfl ?_
  refine z_gr (ci := 5) (j := 9) (d := 10) (o2 := (p1 + 10)) d_P_copyFrom_126 rfl fl_P_39 (hp1 0 _ rfl).1 ((hp1 0 _ rfl).2 (Nat.le_of_ble_eq_true rfl)) rfl rfl ?_
  refine z_aload_n d_P_copyFrom_129 rfl ?_
  refine z_gr (ci := 5) (j := 9) (d := 10) (o2 := (o + 10)) d_P_copyFrom_130 rfl fl_P_39 (hI 0 _ rfl).1 ((hI 0 _ rfl).2 (Nat.le_of_ble_eq_true rfl)) rfl rfl ?_
  refine z_cVV (as := [qR (p1 + 10), qR (o + 10)]) (st := []) (nl := 0) (ci := 5) d_P_copyFrom_133 lk_P_58 mk_P_copyRow rfl rfl (hI 0 _ rfl).1 rfl rfl rfl (s_P_copyRow hI (hp1 10 _ rfl).1 rfl (by decide) (hI 10 _ rfl).1 rfl (by decide) _) (fun q12 _ => ?_)
  refine z_aload_n d_P_copyFrom_136 rfl ?_
  refine z_aload_n d_P_copyFrom_137 rfl ?_
  refine z_gr (ci := 5) (j := 10) (d := 11) (o2 := (p1 + 11)) d_P_copyFrom_138 rfl fl_P_42 (hp1 0 _ rfl).1 ((hp1 0 _ rfl).2 (Nat.le_of_ble_eq_true rfl)) rfl rfl ?_
  refine z_aload_n d_P_copyFrom_141 rfl ?_
  refine z_gr (ci := 5) (j := 10) (d := 11) (o2 := (o + 11)) d_P_copyFrom_142 rfl fl_P_42 (hI 0 _ rfl).1 ((hI 0 _ rfl).2 (Nat.le_of_ble_eq_true rfl)) rfl rfl ?_
  refine z_cVV (as := [qR (p1 + 11), qR (o + 11)]) (st := []) (nl := 0) (ci := 5) d_P_copyFrom_145 lk_P_58 mk_P_copyRow rfl rfl (hI 0 _ rfl).1 rfl rfl rfl (s_P_copyRow hI (hp1 11 _ rfl).1 rfl (by decide) (hI 11 _ rfl).1 rfl (by decide) _) (fun q13 _ => ?_)
  refine z_aload_n d_P_copyFrom_148 rfl ?_
  refine z_aload_n d_P_copyFrom_149 rfl ?_
  refine z_gr (ci := 5) (j := 11) (d := 12) (o2 := (p1 + 12)) d_P_copyFrom_150 rfl fl_P_45 (hp1 0 _ rfl).1 ((hp1 0 _ rfl).2 (Nat.le_of_ble_eq_true rfl)) rfl rfl ?_
  refine z_aload_n d_P_copyFrom_153 rfl ?_
  refine z_gr (ci := 5) (j := 11) (d := 12) (o2 := (o + 12)) d_P_copyFrom_154 rfl fl_P_45 (hI 0 _ rfl).1 ((hI 0 _ rfl).2 (Nat.le_of_ble_eq_true rfl)) rfl rfl ?_
  refine z_cVV (as := [qR (p1 + 12), qR (o + 12)]) (st := []) (nl := 0) (ci := 5) d_P_copyFrom_157 lk_P_58 mk_P_copyRow rfl rfl (hI 0 _ rfl).1 rfl rfl rfl (s_P_copyRow hI (hp1 12 _ rfl).1 rfl (by decide) (hI 12 _ rfl).1 rfl (by decide) _) (fun q14 _ => ?_)
  refine z_aload_n d_P_copyFrom_160 rfl ?_
  refine z_gr (ci := 5) (j := 12) (d := 13) (o2 := (p1 + 13)) d_P_copyFrom_161 rfl fl_P_48 (hp1 0 _ rfl).1 ((hp1 0 _ rfl).2 (Nat.le_of_ble_eq_true rfl)) rfl rfl ?_
  refine z_ic0 d_P_copyFrom_164 ?_
  refine z_aload_n d_P_copyFrom_165 rfl ?_
  refine z_gr (ci := 5) (j := 12) (d := 13) (o2 := (o + 13)) d_P_copyFrom_166 rfl fl_P_48 (hI 0 _ rfl).1 ((hI 0 _ rfl).2 (Nat.le_of_ble_eq_true rfl)) rfl rfl ?_
  refine z_ic0 d_P_copyFrom_169 ?_
  refine z_aload_n d_P_copyFrom_170 rfl ?_
  refine z_gi (ci := 5) (j := 13) (ji := 13) d_P_copyFrom_171 rfl fl_P_51 (hI 0 _ rfl).1 rfl rfl ?_
  refine z_ic5 d_P_copyFrom_174 ?_
  refine z_imul d_P_copyFrom_175 ?_
  refine z_cp d_P_copyFrom_176 lk_P_62 (by decide) (hp1 13 _ rfl).1 (hI 13 _ rfl).1 rfl rfl (Nat.le_of_ble_eq_true rfl) (Nat.le_of_ble_eq_true rfl) (fun w15 => ?_)
  exact z_vret d_P_copyFrom_179 rfl rfl
/-! BubbleTorus$Packets.has -/
theorem d_P_has_0 : decode m_P_has.2.1 0 = .ok (.iload_n 1, 1) := by decide +kernel
theorem d_P_has_1 : decode m_P_has.2.1 1 = .ok (.ifCond .lt 15, 3) := by decide +kernel
theorem d_P_has_4 : decode m_P_has.2.1 4 = .ok (.iload_n 1, 1) := by decide +kernel
theorem d_P_has_5 : decode m_P_has.2.1 5 = .ok (.aload_n 0, 1) := by decide +kernel
theorem d_P_has_6 : decode m_P_has.2.1 6 = .ok (.getfield 51, 3) := by decide +kernel
theorem d_P_has_9 : decode m_P_has.2.1 9 = .ok (.if_icmp .ge 7, 3) := by decide +kernel
theorem d_P_has_12 : decode m_P_has.2.1 12 = .ok (.iconst 1, 1) := by decide +kernel
theorem d_P_has_13 : decode m_P_has.2.1 13 = .ok (.goto 4, 3) := by decide +kernel
theorem d_P_has_16 : decode m_P_has.2.1 16 = .ok (.iconst 0, 1) := by decide +kernel
theorem d_P_has_17 : decode m_P_has.2.1 17 = .ok (.ireturn, 1) := by decide +kernel
def f_P_has (o : Nat) (x1 : Int) (w : qMem) : Option (Int × qMem) :=
  if x1 < 0 then
  some (0, w)
  else
  if x1 < (w o 13) then
  some (1, w)
  else
  some (0, w)
set_option maxRecDepth 4000 in
theorem s_P_has {ph : Nat} {o : Nat} (x1 : Int) (hI : qIs kLP ph o) (w : qMem) : qSim κI ph ph m_P_has 0 [] [some (qR o), some (qI x1)] w (f_P_has o x1 w) := by
  unfold f_P_has
  refine z_iload_n d_P_has_0 rfl ?_
  refine z_if_lt (tgt := 16) d_P_has_1 rfl (fun c1 => ?_) (fun c1 => ?_)
  · refine z_ic0 d_P_has_16 ?_
    exact z_zret d_P_has_17 rfl rfl (Or.inl rfl)
  · refine z_iload_n d_P_has_4 rfl ?_
    refine z_aload_n d_P_has_5 rfl ?_
    refine z_gi (ci := 5) (j := 13) (ji := 13) d_P_has_6 rfl fl_P_51 (hI 0 _ rfl).1 rfl rfl ?_
    refine z_icmp_ge (tgt := 16) d_P_has_9 rfl (fun c2 => ?_) (fun c2 => ?_)
    · refine z_ic1 d_P_has_12 ?_
      refine z_goto (tgt := 17) d_P_has_13 rfl ?_
      exact z_zret d_P_has_17 rfl rfl (Or.inr rfl)
    · refine z_ic0 d_P_has_16 ?_
      exact z_zret d_P_has_17 rfl rfl (Or.inl rfl)
/-! BubbleTorus$Packets.isDelivered -/
theorem d_P_isDelivered_0 : decode m_P_isDelivered.2.1 0 = .ok (.aload_n 0, 1) := by decide +kernel
theorem d_P_isDelivered_1 : decode m_P_isDelivered.2.1 1 = .ok (.getfield 21, 3) := by decide +kernel
theorem d_P_isDelivered_4 : decode m_P_isDelivered.2.1 4 = .ok (.iload_n 1, 1) := by decide +kernel
theorem d_P_isDelivered_5 : decode m_P_isDelivered.2.1 5 = .ok (.iaload, 1) := by decide +kernel
theorem d_P_isDelivered_6 : decode m_P_isDelivered.2.1 6 = .ok (.iconst 3, 1) := by decide +kernel
theorem d_P_isDelivered_7 : decode m_P_isDelivered.2.1 7 = .ok (.if_icmp .ne 7, 3) := by decide +kernel
theorem d_P_isDelivered_10 : decode m_P_isDelivered.2.1 10 = .ok (.iconst 1, 1) := by decide +kernel
theorem d_P_isDelivered_11 : decode m_P_isDelivered.2.1 11 = .ok (.goto 4, 3) := by decide +kernel
theorem d_P_isDelivered_14 : decode m_P_isDelivered.2.1 14 = .ok (.iconst 0, 1) := by decide +kernel
theorem d_P_isDelivered_15 : decode m_P_isDelivered.2.1 15 = .ok (.ireturn, 1) := by decide +kernel
def f_P_isDelivered (o : Nat) (x1 : Int) (w : qMem) : Option (Int × qMem) :=
  qld w (o + 4) 250 x1 fun v1 =>
  if v1 = 3 then
  some (1, w)
  else
  some (0, w)
set_option maxRecDepth 4000 in
theorem s_P_isDelivered {ph : Nat} {o : Nat} (x1 : Int) (hI : qIs kLP ph o) (w : qMem) : qSim κI ph ph m_P_isDelivered 0 [] [some (qR o), some (qI x1)] w (f_P_isDelivered o x1 w) := by
  unfold f_P_isDelivered
  refine z_aload_n d_P_isDelivered_0 rfl ?_
  refine z_gr (ci := 5) (j := 3) (d := 4) (o2 := (o + 4)) d_P_isDelivered_1 rfl fl_P_21 (hI 0 _ rfl).1 ((hI 0 _ rfl).2 (Nat.le_of_ble_eq_true rfl)) rfl rfl ?_
  refine z_iload_n d_P_isDelivered_4 rfl ?_
  refine z_il d_P_isDelivered_5 (hI 4 _ rfl).1 rfl (fun v1 => ?_)
  refine z_ic3 d_P_isDelivered_6 ?_
  refine z_icmp_ne (tgt := 14) d_P_isDelivered_7 rfl (fun c2 => ?_) (fun c2 => ?_)
  · refine z_ic1 d_P_isDelivered_10 ?_
    refine z_goto (tgt := 15) d_P_isDelivered_11 rfl ?_
    exact z_zret d_P_isDelivered_15 rfl rfl (Or.inr rfl)
  · refine z_ic0 d_P_isDelivered_14 ?_
    exact z_zret d_P_isDelivered_15 rfl rfl (Or.inl rfl)
/-! BubbleTorus$Packets.left -/
theorem d_P_left_0 : decode m_P_left.2.1 0 = .ok (.aload_n 0, 1) := by decide +kernel
theorem d_P_left_1 : decode m_P_left.2.1 1 = .ok (.getfield 51, 3) := by decide +kernel
theorem d_P_left_4 : decode m_P_left.2.1 4 = .ok (.aload_n 0, 1) := by decide +kernel
theorem d_P_left_5 : decode m_P_left.2.1 5 = .ok (.getfield 55, 3) := by decide +kernel
theorem d_P_left_8 : decode m_P_left.2.1 8 = .ok (.isub, 1) := by decide +kernel
theorem d_P_left_9 : decode m_P_left.2.1 9 = .ok (.ireturn, 1) := by decide +kernel
def f_P_left (o : Nat) (w : qMem) : Option (Int × qMem) :=
  some ((w32 ((w o 13) - (w o 14))), w)
set_option maxRecDepth 4000 in
theorem s_P_left {ph : Nat} {o : Nat} (hI : qIs kLP ph o) (w : qMem) : qSim κI ph ph m_P_left 0 [] [some (qR o)] w (f_P_left o w) := by
  unfold f_P_left
  refine z_aload_n d_P_left_0 rfl ?_
  refine z_gi (ci := 5) (j := 13) (ji := 13) d_P_left_1 rfl fl_P_51 (hI 0 _ rfl).1 rfl rfl ?_
  refine z_aload_n d_P_left_4 rfl ?_
  refine z_gi (ci := 5) (j := 14) (ji := 14) d_P_left_5 rfl fl_P_55 (hI 0 _ rfl).1 rfl rfl ?_
  refine z_isub d_P_left_8 ?_
  exact z_iret d_P_left_9 rfl rfl
/-! BubbleTorus$Packets.add -/
theorem d_P_add_0 : decode m_P_add.2.1 0 = .ok (.aload_n 0, 1) := by decide +kernel
theorem d_P_add_1 : decode m_P_add.2.1 1 = .ok (.getfield 51, 3) := by decide +kernel
theorem d_P_add_4 : decode m_P_add.2.1 4 = .ok (.istore 4, 2) := by decide +kernel
theorem d_P_add_6 : decode m_P_add.2.1 6 = .ok (.aload_n 0, 1) := by decide +kernel
theorem d_P_add_7 : decode m_P_add.2.1 7 = .ok (.dup, 1) := by decide +kernel
theorem d_P_add_8 : decode m_P_add.2.1 8 = .ok (.getfield 51, 3) := by decide +kernel
theorem d_P_add_11 : decode m_P_add.2.1 11 = .ok (.iconst 1, 1) := by decide +kernel
theorem d_P_add_12 : decode m_P_add.2.1 12 = .ok (.iadd, 1) := by decide +kernel
theorem d_P_add_13 : decode m_P_add.2.1 13 = .ok (.putfield 51, 3) := by decide +kernel
theorem d_P_add_16 : decode m_P_add.2.1 16 = .ok (.aload_n 0, 1) := by decide +kernel
theorem d_P_add_17 : decode m_P_add.2.1 17 = .ok (.getfield 9, 3) := by decide +kernel
theorem d_P_add_20 : decode m_P_add.2.1 20 = .ok (.iload 4, 2) := by decide +kernel
theorem d_P_add_22 : decode m_P_add.2.1 22 = .ok (.iload_n 1, 1) := by decide +kernel
theorem d_P_add_23 : decode m_P_add.2.1 23 = .ok (.iastore, 1) := by decide +kernel
theorem d_P_add_24 : decode m_P_add.2.1 24 = .ok (.aload_n 0, 1) := by decide +kernel
theorem d_P_add_25 : decode m_P_add.2.1 25 = .ok (.getfield 15, 3) := by decide +kernel
theorem d_P_add_28 : decode m_P_add.2.1 28 = .ok (.iload 4, 2) := by decide +kernel
theorem d_P_add_30 : decode m_P_add.2.1 30 = .ok (.iload_n 2, 1) := by decide +kernel
theorem d_P_add_31 : decode m_P_add.2.1 31 = .ok (.iastore, 1) := by decide +kernel
theorem d_P_add_32 : decode m_P_add.2.1 32 = .ok (.aload_n 0, 1) := by decide +kernel
theorem d_P_add_33 : decode m_P_add.2.1 33 = .ok (.getfield 18, 3) := by decide +kernel
theorem d_P_add_36 : decode m_P_add.2.1 36 = .ok (.iload 4, 2) := by decide +kernel
theorem d_P_add_38 : decode m_P_add.2.1 38 = .ok (.iload_n 3, 1) := by decide +kernel
theorem d_P_add_39 : decode m_P_add.2.1 39 = .ok (.iastore, 1) := by decide +kernel
theorem d_P_add_40 : decode m_P_add.2.1 40 = .ok (.aload_n 0, 1) := by decide +kernel
theorem d_P_add_41 : decode m_P_add.2.1 41 = .ok (.getfield 21, 3) := by decide +kernel
theorem d_P_add_44 : decode m_P_add.2.1 44 = .ok (.iload 4, 2) := by decide +kernel
theorem d_P_add_46 : decode m_P_add.2.1 46 = .ok (.iconst 0, 1) := by decide +kernel
theorem d_P_add_47 : decode m_P_add.2.1 47 = .ok (.iastore, 1) := by decide +kernel
theorem d_P_add_48 : decode m_P_add.2.1 48 = .ok (.aload_n 0, 1) := by decide +kernel
theorem d_P_add_49 : decode m_P_add.2.1 49 = .ok (.getfield 24, 3) := by decide +kernel
theorem d_P_add_52 : decode m_P_add.2.1 52 = .ok (.iload 4, 2) := by decide +kernel
theorem d_P_add_54 : decode m_P_add.2.1 54 = .ok (.iload_n 1, 1) := by decide +kernel
theorem d_P_add_55 : decode m_P_add.2.1 55 = .ok (.iastore, 1) := by decide +kernel
theorem d_P_add_56 : decode m_P_add.2.1 56 = .ok (.aload_n 0, 1) := by decide +kernel
theorem d_P_add_57 : decode m_P_add.2.1 57 = .ok (.getfield 27, 3) := by decide +kernel
theorem d_P_add_60 : decode m_P_add.2.1 60 = .ok (.iload 4, 2) := by decide +kernel
theorem d_P_add_62 : decode m_P_add.2.1 62 = .ok (.iconst (-1), 1) := by decide +kernel
theorem d_P_add_63 : decode m_P_add.2.1 63 = .ok (.iastore, 1) := by decide +kernel
theorem d_P_add_64 : decode m_P_add.2.1 64 = .ok (.aload_n 0, 1) := by decide +kernel
theorem d_P_add_65 : decode m_P_add.2.1 65 = .ok (.getfield 30, 3) := by decide +kernel
theorem d_P_add_68 : decode m_P_add.2.1 68 = .ok (.iload 4, 2) := by decide +kernel
theorem d_P_add_70 : decode m_P_add.2.1 70 = .ok (.iconst 0, 1) := by decide +kernel
theorem d_P_add_71 : decode m_P_add.2.1 71 = .ok (.iastore, 1) := by decide +kernel
theorem d_P_add_72 : decode m_P_add.2.1 72 = .ok (.aload_n 0, 1) := by decide +kernel
theorem d_P_add_73 : decode m_P_add.2.1 73 = .ok (.getfield 33, 3) := by decide +kernel
theorem d_P_add_76 : decode m_P_add.2.1 76 = .ok (.iload 4, 2) := by decide +kernel
theorem d_P_add_78 : decode m_P_add.2.1 78 = .ok (.iconst (-1), 1) := by decide +kernel
theorem d_P_add_79 : decode m_P_add.2.1 79 = .ok (.iastore, 1) := by decide +kernel
theorem d_P_add_80 : decode m_P_add.2.1 80 = .ok (.aload_n 0, 1) := by decide +kernel
theorem d_P_add_81 : decode m_P_add.2.1 81 = .ok (.getfield 36, 3) := by decide +kernel
theorem d_P_add_84 : decode m_P_add.2.1 84 = .ok (.iload 4, 2) := by decide +kernel
theorem d_P_add_86 : decode m_P_add.2.1 86 = .ok (.iconst 0, 1) := by decide +kernel
theorem d_P_add_87 : decode m_P_add.2.1 87 = .ok (.iastore, 1) := by decide +kernel
theorem d_P_add_88 : decode m_P_add.2.1 88 = .ok (.aload_n 0, 1) := by decide +kernel
theorem d_P_add_89 : decode m_P_add.2.1 89 = .ok (.getfield 39, 3) := by decide +kernel
theorem d_P_add_92 : decode m_P_add.2.1 92 = .ok (.iload 4, 2) := by decide +kernel
theorem d_P_add_94 : decode m_P_add.2.1 94 = .ok (.iconst 0, 1) := by decide +kernel
theorem d_P_add_95 : decode m_P_add.2.1 95 = .ok (.iastore, 1) := by decide +kernel
theorem d_P_add_96 : decode m_P_add.2.1 96 = .ok (.aload_n 0, 1) := by decide +kernel
theorem d_P_add_97 : decode m_P_add.2.1 97 = .ok (.getfield 42, 3) := by decide +kernel
theorem d_P_add_100 : decode m_P_add.2.1 100 = .ok (.iload 4, 2) := by decide +kernel
theorem d_P_add_102 : decode m_P_add.2.1 102 = .ok (.iconst (-1), 1) := by decide +kernel
theorem d_P_add_103 : decode m_P_add.2.1 103 = .ok (.iastore, 1) := by decide +kernel
theorem d_P_add_104 : decode m_P_add.2.1 104 = .ok (.aload_n 0, 1) := by decide +kernel
theorem d_P_add_105 : decode m_P_add.2.1 105 = .ok (.getfield 45, 3) := by decide +kernel
theorem d_P_add_108 : decode m_P_add.2.1 108 = .ok (.iload 4, 2) := by decide +kernel
theorem d_P_add_110 : decode m_P_add.2.1 110 = .ok (.iconst (-1), 1) := by decide +kernel
theorem d_P_add_111 : decode m_P_add.2.1 111 = .ok (.iastore, 1) := by decide +kernel
theorem d_P_add_112 : decode m_P_add.2.1 112 = .ok (.aload_n 0, 1) := by decide +kernel
theorem d_P_add_113 : decode m_P_add.2.1 113 = .ok (.getfield 48, 3) := by decide +kernel
theorem d_P_add_116 : decode m_P_add.2.1 116 = .ok (.iload 4, 2) := by decide +kernel
theorem d_P_add_118 : decode m_P_add.2.1 118 = .ok (.iconst 5, 1) := by decide +kernel
theorem d_P_add_119 : decode m_P_add.2.1 119 = .ok (.imul, 1) := by decide +kernel
theorem d_P_add_120 : decode m_P_add.2.1 120 = .ok (.iload_n 1, 1) := by decide +kernel
theorem d_P_add_121 : decode m_P_add.2.1 121 = .ok (.iastore, 1) := by decide +kernel
theorem d_P_add_122 : decode m_P_add.2.1 122 = .ok (.iload 4, 2) := by decide +kernel
theorem d_P_add_124 : decode m_P_add.2.1 124 = .ok (.ireturn, 1) := by decide +kernel
def f_P_add (o : Nat) (x1 : Int) (x2 : Int) (x3 : Int) (w : qMem) : Option (Int × qMem) :=
  qlt (qud w o 13 (w32 ((w o 13) + 1))) fun w1 =>
  qst w1 (o + 1) 250 (w o 13) x1 fun w2 =>
  qst w2 (o + 2) 250 (w o 13) x2 fun w3 =>
  qst w3 (o + 3) 250 (w o 13) x3 fun w4 =>
  qst w4 (o + 4) 250 (w o 13) 0 fun w5 =>
  qst w5 (o + 5) 250 (w o 13) x1 fun w6 =>
  qst w6 (o + 6) 250 (w o 13) (-1) fun w7 =>
  qst w7 (o + 7) 250 (w o 13) 0 fun w8 =>
  qst w8 (o + 8) 250 (w o 13) (-1) fun w9 =>
  qst w9 (o + 9) 250 (w o 13) 0 fun w10 =>
  qst w10 (o + 10) 250 (w o 13) 0 fun w11 =>
  qst w11 (o + 11) 250 (w o 13) (-1) fun w12 =>
  qst w12 (o + 12) 250 (w o 13) (-1) fun w13 =>
  qst w13 (o + 13) 1250 (w32 ((w o 13) * 5)) x1 fun w14 =>
  some ((w o 13), w14)
set_option maxRecDepth 4000 in
theorem s_P_add {ph : Nat} {o : Nat} (x1 : Int) (x2 : Int) (x3 : Int) (hI : qIs kLP ph o) (w : qMem) : qSim κI ph ph m_P_add 0 [] [some (qR o), some (qI x1), some (qI x2), some (qI x3), none] w (f_P_add o x1 x2 x3 w) := by
  unfold f_P_add
  refine z_aload_n d_P_add_0 rfl ?_
  refine z_gi (ci := 5) (j := 13) (ji := 13) d_P_add_1 rfl fl_P_51 (hI 0 _ rfl).1 rfl rfl ?_
  refine z_istore (pls' := [some (qR o), some (qI x1), some (qI x2), some (qI x3), some (qI (w o 13))]) d_P_add_4 (by decide) rfl rfl ?_
  refine z_aload_n d_P_add_6 rfl ?_
  refine z_dup d_P_add_7 rfl ?_
  refine z_gi (ci := 5) (j := 13) (ji := 13) d_P_add_8 rfl fl_P_51 (hI 0 _ rfl).1 rfl rfl ?_
  refine z_ic1 d_P_add_11 ?_
  refine z_iadd d_P_add_12 ?_
  refine z_pi (ci := 5) (j := 13) (ji := 13) d_P_add_13 rfl fl_P_51 (hI 0 _ rfl).1 rfl rfl rfl rfl (fun w1 => ?_)
  refine z_aload_n d_P_add_16 rfl ?_
  refine z_gr (ci := 5) (j := 0) (d := 1) (o2 := (o + 1)) d_P_add_17 rfl fl_P_9 (hI 0 _ rfl).1 ((hI 0 _ rfl).2 (Nat.le_of_ble_eq_true rfl)) rfl rfl ?_
  refine z_iload d_P_add_20 rfl ?_
  refine z_iload_n d_P_add_22 rfl ?_
  refine z_is d_P_add_23 (hI 1 _ rfl).1 rfl (fun w2 => ?_)
  refine z_aload_n d_P_add_24 rfl ?_
  refine z_gr (ci := 5) (j := 1) (d := 2) (o2 := (o + 2)) d_P_add_25 rfl fl_P_15 (hI 0 _ rfl).1 ((hI 0 _ rfl).2 (Nat.le_of_ble_eq_true rfl)) rfl rfl ?_
  refine z_iload d_P_add_28 rfl ?_
  refine z_iload_n d_P_add_30 rfl ?_
  refine z_is d_P_add_31 (hI 2 _ rfl).1 rfl (fun w3 => ?_)
  refine z_aload_n d_P_add_32 rfl ?_
  refine z_gr (ci := 5) (j := 2) (d := 3) (o2 := (o + 3)) d_P_add_33 rfl fl_P_18 (hI 0 _ rfl).1 ((hI 0 _ rfl).2 (Nat.le_of_ble_eq_true rfl)) rfl rfl ?_
  refine z_iload d_P_add_36 rfl ?_
  refine z_iload_n d_P_add_38 rfl ?_
  refine z_is d_P_add_39 (hI 3 _ rfl).1 rfl (fun w4 => ?_)
  refine z_aload_n d_P_add_40 rfl ?_
  refine z_gr (ci := 5) (j := 3) (d := 4) (o2 := (o + 4)) d_P_add_41 rfl fl_P_21 (hI 0 _ rfl).1 ((hI 0 _ rfl).2 (Nat.le_of_ble_eq_true rfl)) rfl rfl ?_
  refine z_iload d_P_add_44 rfl ?_
  refine z_ic0 d_P_add_46 ?_
  refine z_is d_P_add_47 (hI 4 _ rfl).1 rfl (fun w5 => ?_)
  refine z_aload_n d_P_add_48 rfl ?_
  refine z_gr (ci := 5) (j := 4) (d := 5) (o2 := (o + 5)) d_P_add_49 rfl fl_P_24 (hI 0 _ rfl).1 ((hI 0 _ rfl).2 (Nat.le_of_ble_eq_true rfl)) rfl rfl ?_
  refine z_iload d_P_add_52 rfl ?_
  refine z_iload_n d_P_add_54 rfl ?_
  refine z_is d_P_add_55 (hI 5 _ rfl).1 rfl (fun w6 => ?_)
  refine z_aload_n d_P_add_56 rfl ?_
  refine z_gr (ci := 5) (j := 5) (d := 6) (o2 := (o + 6)) d_P_add_57 rfl fl_P_27 (hI 0 _ rfl).1 ((hI 0 _ rfl).2 (Nat.le_of_ble_eq_true rfl)) rfl rfl ?_
  refine z_iload d_P_add_60 rfl ?_
  refine z_icm1 d_P_add_62 ?_
  refine z_is d_P_add_63 (hI 6 _ rfl).1 rfl (fun w7 => ?_)
  refine z_aload_n d_P_add_64 rfl ?_
  refine z_gr (ci := 5) (j := 6) (d := 7) (o2 := (o + 7)) d_P_add_65 rfl fl_P_30 (hI 0 _ rfl).1 ((hI 0 _ rfl).2 (Nat.le_of_ble_eq_true rfl)) rfl rfl ?_
  refine z_iload d_P_add_68 rfl ?_
  refine z_ic0 d_P_add_70 ?_
  refine z_is d_P_add_71 (hI 7 _ rfl).1 rfl (fun w8 => ?_)
  refine z_aload_n d_P_add_72 rfl ?_
  refine z_gr (ci := 5) (j := 7) (d := 8) (o2 := (o + 8)) d_P_add_73 rfl fl_P_33 (hI 0 _ rfl).1 ((hI 0 _ rfl).2 (Nat.le_of_ble_eq_true rfl)) rfl rfl ?_
  refine z_iload d_P_add_76 rfl ?_
  refine z_icm1 d_P_add_78 ?_
  refine z_is d_P_add_79 (hI 8 _ rfl).1 rfl (fun w9 => ?_)
  refine z_aload_n d_P_add_80 rfl ?_
  refine z_gr (ci := 5) (j := 8) (d := 9) (o2 := (o + 9)) d_P_add_81 rfl fl_P_36 (hI 0 _ rfl).1 ((hI 0 _ rfl).2 (Nat.le_of_ble_eq_true rfl)) rfl rfl ?_
  refine z_iload d_P_add_84 rfl ?_
  refine z_ic0 d_P_add_86 ?_
  refine z_is d_P_add_87 (hI 9 _ rfl).1 rfl (fun w10 => ?_)
  refine z_aload_n d_P_add_88 rfl ?_
  refine z_gr (ci := 5) (j := 9) (d := 10) (o2 := (o + 10)) d_P_add_89 rfl fl_P_39 (hI 0 _ rfl).1 ((hI 0 _ rfl).2 (Nat.le_of_ble_eq_true rfl)) rfl rfl ?_
  refine z_iload d_P_add_92 rfl ?_
  refine z_ic0 d_P_add_94 ?_
  refine z_is d_P_add_95 (hI 10 _ rfl).1 rfl (fun w11 => ?_)
  refine z_aload_n d_P_add_96 rfl ?_
  refine z_gr (ci := 5) (j := 10) (d := 11) (o2 := (o + 11)) d_P_add_97 rfl fl_P_42 (hI 0 _ rfl).1 ((hI 0 _ rfl).2 (Nat.le_of_ble_eq_true rfl)) rfl rfl ?_
  refine z_iload d_P_add_100 rfl ?_
  refine z_icm1 d_P_add_102 ?_
  refine z_is d_P_add_103 (hI 11 _ rfl).1 rfl (fun w12 => ?_)
  refine z_aload_n d_P_add_104 rfl ?_
  refine z_gr (ci := 5) (j := 11) (d := 12) (o2 := (o + 12)) d_P_add_105 rfl fl_P_45 (hI 0 _ rfl).1 ((hI 0 _ rfl).2 (Nat.le_of_ble_eq_true rfl)) rfl rfl ?_
  refine z_iload d_P_add_108 rfl ?_
  refine z_icm1 d_P_add_110 ?_
  refine z_is d_P_add_111 (hI 12 _ rfl).1 rfl (fun w13 => ?_)
  refine z_aload_n d_P_add_112 rfl ?_
  refine z_gr (ci := 5) (j := 12) (d := 13) (o2 := (o + 13)) d_P_add_113 rfl fl_P_48 (hI 0 _ rfl).1 ((hI 0 _ rfl).2 (Nat.le_of_ble_eq_true rfl)) rfl rfl ?_
  refine z_iload d_P_add_116 rfl ?_
  refine z_ic5 d_P_add_118 ?_
  refine z_imul d_P_add_119 ?_
  refine z_iload_n d_P_add_120 rfl ?_
  refine z_is d_P_add_121 (hI 13 _ rfl).1 rfl (fun w14 => ?_)
  refine z_iload d_P_add_122 rfl ?_
  exact z_iret d_P_add_124 rfl rfl
/-! BubbleTorus$Packets.noteHop -/
theorem d_P_noteHop_0 : decode m_P_noteHop.2.1 0 = .ok (.aload_n 0, 1) := by decide +kernel
theorem d_P_noteHop_1 : decode m_P_noteHop.2.1 1 = .ok (.getfield 21, 3) := by decide +kernel
theorem d_P_noteHop_4 : decode m_P_noteHop.2.1 4 = .ok (.iload_n 1, 1) := by decide +kernel
theorem d_P_noteHop_5 : decode m_P_noteHop.2.1 5 = .ok (.iaload, 1) := by decide +kernel
theorem d_P_noteHop_6 : decode m_P_noteHop.2.1 6 = .ok (.ifCond .ne 11, 3) := by decide +kernel
theorem d_P_noteHop_9 : decode m_P_noteHop.2.1 9 = .ok (.aload_n 0, 1) := by decide +kernel
theorem d_P_noteHop_10 : decode m_P_noteHop.2.1 10 = .ok (.getfield 42, 3) := by decide +kernel
theorem d_P_noteHop_13 : decode m_P_noteHop.2.1 13 = .ok (.iload_n 1, 1) := by decide +kernel
theorem d_P_noteHop_14 : decode m_P_noteHop.2.1 14 = .ok (.iload 5, 2) := by decide +kernel
theorem d_P_noteHop_16 : decode m_P_noteHop.2.1 16 = .ok (.iastore, 1) := by decide +kernel
theorem d_P_noteHop_17 : decode m_P_noteHop.2.1 17 = .ok (.aload_n 0, 1) := by decide +kernel
theorem d_P_noteHop_18 : decode m_P_noteHop.2.1 18 = .ok (.getfield 21, 3) := by decide +kernel
theorem d_P_noteHop_21 : decode m_P_noteHop.2.1 21 = .ok (.iload_n 1, 1) := by decide +kernel
theorem d_P_noteHop_22 : decode m_P_noteHop.2.1 22 = .ok (.iload 4, 2) := by decide +kernel
theorem d_P_noteHop_24 : decode m_P_noteHop.2.1 24 = .ok (.iastore, 1) := by decide +kernel
theorem d_P_noteHop_25 : decode m_P_noteHop.2.1 25 = .ok (.aload_n 0, 1) := by decide +kernel
theorem d_P_noteHop_26 : decode m_P_noteHop.2.1 26 = .ok (.getfield 24, 3) := by decide +kernel
theorem d_P_noteHop_29 : decode m_P_noteHop.2.1 29 = .ok (.iload_n 1, 1) := by decide +kernel
theorem d_P_noteHop_30 : decode m_P_noteHop.2.1 30 = .ok (.iload_n 2, 1) := by decide +kernel
theorem d_P_noteHop_31 : decode m_P_noteHop.2.1 31 = .ok (.iastore, 1) := by decide +kernel
theorem d_P_noteHop_32 : decode m_P_noteHop.2.1 32 = .ok (.aload_n 0, 1) := by decide +kernel
theorem d_P_noteHop_33 : decode m_P_noteHop.2.1 33 = .ok (.getfield 27, 3) := by decide +kernel
theorem d_P_noteHop_36 : decode m_P_noteHop.2.1 36 = .ok (.iload_n 1, 1) := by decide +kernel
theorem d_P_noteHop_37 : decode m_P_noteHop.2.1 37 = .ok (.iload_n 3, 1) := by decide +kernel
theorem d_P_noteHop_38 : decode m_P_noteHop.2.1 38 = .ok (.iastore, 1) := by decide +kernel
theorem d_P_noteHop_39 : decode m_P_noteHop.2.1 39 = .ok (.aload_n 0, 1) := by decide +kernel
theorem d_P_noteHop_40 : decode m_P_noteHop.2.1 40 = .ok (.getfield 45, 3) := by decide +kernel
theorem d_P_noteHop_43 : decode m_P_noteHop.2.1 43 = .ok (.iload_n 1, 1) := by decide +kernel
theorem d_P_noteHop_44 : decode m_P_noteHop.2.1 44 = .ok (.iload 5, 2) := by decide +kernel
theorem d_P_noteHop_46 : decode m_P_noteHop.2.1 46 = .ok (.iastore, 1) := by decide +kernel
theorem d_P_noteHop_47 : decode m_P_noteHop.2.1 47 = .ok (.aload_n 0, 1) := by decide +kernel
theorem d_P_noteHop_48 : decode m_P_noteHop.2.1 48 = .ok (.getfield 30, 3) := by decide +kernel
theorem d_P_noteHop_51 : decode m_P_noteHop.2.1 51 = .ok (.iload_n 1, 1) := by decide +kernel
theorem d_P_noteHop_52 : decode m_P_noteHop.2.1 52 = .ok (.dup2, 1) := by decide +kernel
theorem d_P_noteHop_53 : decode m_P_noteHop.2.1 53 = .ok (.iaload, 1) := by decide +kernel
theorem d_P_noteHop_54 : decode m_P_noteHop.2.1 54 = .ok (.iconst 1, 1) := by decide +kernel
theorem d_P_noteHop_55 : decode m_P_noteHop.2.1 55 = .ok (.iadd, 1) := by decide +kernel
theorem d_P_noteHop_56 : decode m_P_noteHop.2.1 56 = .ok (.iastore, 1) := by decide +kernel
theorem d_P_noteHop_57 : decode m_P_noteHop.2.1 57 = .ok (.aload_n 0, 1) := by decide +kernel
theorem d_P_noteHop_58 : decode m_P_noteHop.2.1 58 = .ok (.getfield 30, 3) := by decide +kernel
theorem d_P_noteHop_61 : decode m_P_noteHop.2.1 61 = .ok (.iload_n 1, 1) := by decide +kernel
theorem d_P_noteHop_62 : decode m_P_noteHop.2.1 62 = .ok (.iaload, 1) := by decide +kernel
theorem d_P_noteHop_63 : decode m_P_noteHop.2.1 63 = .ok (.iconst 5, 1) := by decide +kernel
theorem d_P_noteHop_64 : decode m_P_noteHop.2.1 64 = .ok (.if_icmp .ge 19, 3) := by decide +kernel
theorem d_P_noteHop_67 : decode m_P_noteHop.2.1 67 = .ok (.aload_n 0, 1) := by decide +kernel
theorem d_P_noteHop_68 : decode m_P_noteHop.2.1 68 = .ok (.getfield 48, 3) := by decide +kernel
theorem d_P_noteHop_71 : decode m_P_noteHop.2.1 71 = .ok (.iload_n 1, 1) := by decide +kernel
theorem d_P_noteHop_72 : decode m_P_noteHop.2.1 72 = .ok (.iconst 5, 1) := by decide +kernel
theorem d_P_noteHop_73 : decode m_P_noteHop.2.1 73 = .ok (.imul, 1) := by decide +kernel
theorem d_P_noteHop_74 : decode m_P_noteHop.2.1 74 = .ok (.aload_n 0, 1) := by decide +kernel
theorem d_P_noteHop_75 : decode m_P_noteHop.2.1 75 = .ok (.getfield 30, 3) := by decide +kernel
theorem d_P_noteHop_78 : decode m_P_noteHop.2.1 78 = .ok (.iload_n 1, 1) := by decide +kernel
theorem d_P_noteHop_79 : decode m_P_noteHop.2.1 79 = .ok (.iaload, 1) := by decide +kernel
theorem d_P_noteHop_80 : decode m_P_noteHop.2.1 80 = .ok (.iadd, 1) := by decide +kernel
theorem d_P_noteHop_81 : decode m_P_noteHop.2.1 81 = .ok (.iload_n 2, 1) := by decide +kernel
theorem d_P_noteHop_82 : decode m_P_noteHop.2.1 82 = .ok (.iastore, 1) := by decide +kernel
theorem d_P_noteHop_83 : decode m_P_noteHop.2.1 83 = .ok (.return_, 1) := by decide +kernel
def f_P_noteHop_17 (o : Nat) (x1 x2 x3 x4 x5 : Int) (w : qMem) : Option (qMem) :=
  qst w (o + 4) 250 x1 x4 fun w1 =>
  qst w1 (o + 5) 250 x1 x2 fun w2 =>
  qst w2 (o + 6) 250 x1 x3 fun w3 =>
  qst w3 (o + 12) 250 x1 x5 fun w4 =>
  qld w4 (o + 7) 250 x1 fun v5 =>
  qst w4 (o + 7) 250 x1 (w32 (v5 + 1)) fun w6 =>
  qld w6 (o + 7) 250 x1 fun v7 =>
  if v7 < 5 then
  qld w6 (o + 7) 250 x1 fun v9 =>
  qst w6 (o + 13) 1250 (w32 ((w32 (x1 * 5)) + v9)) x2 fun w10 =>
  some w10
  else
  some w6
set_option maxRecDepth 4000 in
theorem s_P_noteHop_17 {ph : Nat} {o : Nat} (hI : qIs kLP ph o) : ∀ (x1 x2 x3 x4 x5 : Int) (w : qMem), qSim κV ph ph m_P_noteHop 17 [] [some (qR o), some (qI x1), some (qI x2), some (qI x3), some (qI x4), some (qI x5)] w (f_P_noteHop_17 o x1 x2 x3 x4 x5 w) := by
  intro x1 x2 x3 x4 x5 w
  unfold f_P_noteHop_17
  refine z_aload_n d_P_noteHop_17 rfl ?_
  refine z_gr (ci := 5) (j := 3) (d := 4) (o2 := (o + 4)) d_P_noteHop_18 rfl fl_P_21 (hI 0 _ rfl).1 ((hI 0 _ rfl).2 (Nat.le_of_ble_eq_true rfl)) rfl rfl ?_
  refine z_iload_n d_P_noteHop_21 rfl ?_
  refine z_iload d_P_noteHop_22 rfl ?_
  refine z_is d_P_noteHop_24 (hI 4 _ rfl).1 rfl (fun w1 => ?_)
  refine z_aload_n d_P_noteHop_25 rfl ?_
  refine z_gr (ci := 5) (j := 4) (d := 5) (o2 := (o + 5)) d_P_noteHop_26 rfl fl_P_24 (hI 0 _ rfl).1 ((hI 0 _ rfl).2 (Nat.le_of_ble_eq_true rfl)) rfl rfl ?_
  refine z_iload_n d_P_noteHop_29 rfl ?_
  refine z_iload_n d_P_noteHop_30 rfl ?_
  refine z_is d_P_noteHop_31 (hI 5 _ rfl).1 rfl (fun w2 => ?_)
  refine z_aload_n d_P_noteHop_32 rfl ?_
  refine z_gr (ci := 5) (j := 5) (d := 6) (o2 := (o + 6)) d_P_noteHop_33 rfl fl_P_27 (hI 0 _ rfl).1 ((hI 0 _ rfl).2 (Nat.le_of_ble_eq_true rfl)) rfl rfl ?_
  refine z_iload_n d_P_noteHop_36 rfl ?_
  refine z_iload_n d_P_noteHop_37 rfl ?_
  refine z_is d_P_noteHop_38 (hI 6 _ rfl).1 rfl (fun w3 => ?_)
  refine z_aload_n d_P_noteHop_39 rfl ?_
  refine z_gr (ci := 5) (j := 11) (d := 12) (o2 := (o + 12)) d_P_noteHop_40 rfl fl_P_45 (hI 0 _ rfl).1 ((hI 0 _ rfl).2 (Nat.le_of_ble_eq_true rfl)) rfl rfl ?_
  refine z_iload_n d_P_noteHop_43 rfl ?_
  refine z_iload d_P_noteHop_44 rfl ?_
  refine z_is d_P_noteHop_46 (hI 12 _ rfl).1 rfl (fun w4 => ?_)
  refine z_aload_n d_P_noteHop_47 rfl ?_
  refine z_gr (ci := 5) (j := 6) (d := 7) (o2 := (o + 7)) d_P_noteHop_48 rfl fl_P_30 (hI 0 _ rfl).1 ((hI 0 _ rfl).2 (Nat.le_of_ble_eq_true rfl)) rfl rfl ?_
  refine z_iload_n d_P_noteHop_51 rfl ?_
  refine z_dup2 d_P_noteHop_52 rfl rfl ?_
  refine z_il d_P_noteHop_53 (hI 7 _ rfl).1 rfl (fun v5 => ?_)
  refine z_ic1 d_P_noteHop_54 ?_
  refine z_iadd d_P_noteHop_55 ?_
  refine z_is d_P_noteHop_56 (hI 7 _ rfl).1 rfl (fun w6 => ?_)
  refine z_aload_n d_P_noteHop_57 rfl ?_
  refine z_gr (ci := 5) (j := 6) (d := 7) (o2 := (o + 7)) d_P_noteHop_58 rfl fl_P_30 (hI 0 _ rfl).1 ((hI 0 _ rfl).2 (Nat.le_of_ble_eq_true rfl)) rfl rfl ?_
  refine z_iload_n d_P_noteHop_61 rfl ?_
  refine z_il d_P_noteHop_62 (hI 7 _ rfl).1 rfl (fun v7 => ?_)
  refine z_ic5 d_P_noteHop_63 ?_
  refine z_icmp_ge (tgt := 83) d_P_noteHop_64 rfl (fun c8 => ?_) (fun c8 => ?_)
  · refine z_aload_n d_P_noteHop_67 rfl ?_
    refine z_gr (ci := 5) (j := 12) (d := 13) (o2 := (o + 13)) d_P_noteHop_68 rfl fl_P_48 (hI 0 _ rfl).1 ((hI 0 _ rfl).2 (Nat.le_of_ble_eq_true rfl)) rfl rfl ?_
    refine z_iload_n d_P_noteHop_71 rfl ?_
    refine z_ic5 d_P_noteHop_72 ?_
    refine z_imul d_P_noteHop_73 ?_
    refine z_aload_n d_P_noteHop_74 rfl ?_
    refine z_gr (ci := 5) (j := 6) (d := 7) (o2 := (o + 7)) d_P_noteHop_75 rfl fl_P_30 (hI 0 _ rfl).1 ((hI 0 _ rfl).2 (Nat.le_of_ble_eq_true rfl)) rfl rfl ?_
    refine z_iload_n d_P_noteHop_78 rfl ?_
    refine z_il d_P_noteHop_79 (hI 7 _ rfl).1 rfl (fun v9 => ?_)
    refine z_iadd d_P_noteHop_80 ?_
    refine z_iload_n d_P_noteHop_81 rfl ?_
    refine z_is d_P_noteHop_82 (hI 13 _ rfl).1 rfl (fun w10 => ?_)
    exact z_vret d_P_noteHop_83 rfl rfl
  · exact z_vret d_P_noteHop_83 rfl rfl
def f_P_noteHop (o : Nat) (x1 : Int) (x2 : Int) (x3 : Int) (x4 : Int) (x5 : Int) (w : qMem) : Option (qMem) :=
  qld w (o + 4) 250 x1 fun v11 =>
  if v11 = 0 then
  qst w (o + 11) 250 x1 x5 fun w13 =>
  f_P_noteHop_17 o x1 x2 x3 x4 x5 w13
  else
  f_P_noteHop_17 o x1 x2 x3 x4 x5 w
set_option maxRecDepth 4000 in
theorem s_P_noteHop {ph : Nat} {o : Nat} (x1 : Int) (x2 : Int) (x3 : Int) (x4 : Int) (x5 : Int) (hI : qIs kLP ph o) (w : qMem) : qSim κV ph ph m_P_noteHop 0 [] [some (qR o), some (qI x1), some (qI x2), some (qI x3), some (qI x4), some (qI x5)] w (f_P_noteHop o x1 x2 x3 x4 x5 w) := by
  unfold f_P_noteHop
  refine z_aload_n d_P_noteHop_0 rfl ?_
  refine z_gr (ci := 5) (j := 3) (d := 4) (o2 := (o + 4)) d_P_noteHop_1 rfl fl_P_21 (hI 0 _ rfl).1 ((hI 0 _ rfl).2 (Nat.le_of_ble_eq_true rfl)) rfl rfl ?_
  refine z_iload_n d_P_noteHop_4 rfl ?_
  refine z_il d_P_noteHop_5 (hI 4 _ rfl).1 rfl (fun v11 => ?_)
  refine z_if_ne (tgt := 17) d_P_noteHop_6 rfl (fun c12 => ?_) (fun c12 => ?_)
  · refine z_aload_n d_P_noteHop_9 rfl ?_
    refine z_gr (ci := 5) (j := 10) (d := 11) (o2 := (o + 11)) d_P_noteHop_10 rfl fl_P_42 (hI 0 _ rfl).1 ((hI 0 _ rfl).2 (Nat.le_of_ble_eq_true rfl)) rfl rfl ?_
    refine z_iload_n d_P_noteHop_13 rfl ?_
    refine z_iload d_P_noteHop_14 rfl ?_
    refine z_is d_P_noteHop_16 (hI 11 _ rfl).1 rfl (fun w13 => ?_)
    refine z_mask [true, true, true, true, true, true] ?_
    exact s_P_noteHop_17 hI _ _ _ _ _ _
  · refine z_mask [true, true, true, true, true, true] ?_
    exact s_P_noteHop_17 hI _ _ _ _ _ _
/-! BubbleTorus$Packets.isBetween -/
theorem d_P_isBetween_0 : decode m_P_isBetween.2.1 0 = .ok (.aload_n 0, 1) := by decide +kernel
theorem d_P_isBetween_1 : decode m_P_isBetween.2.1 1 = .ok (.getfield 9, 3) := by decide +kernel
theorem d_P_isBetween_4 : decode m_P_isBetween.2.1 4 = .ok (.iload_n 1, 1) := by decide +kernel
theorem d_P_isBetween_5 : decode m_P_isBetween.2.1 5 = .ok (.iaload, 1) := by decide +kernel
theorem d_P_isBetween_6 : decode m_P_isBetween.2.1 6 = .ok (.iload_n 2, 1) := by decide +kernel
theorem d_P_isBetween_7 : decode m_P_isBetween.2.1 7 = .ok (.if_icmp .ne 17, 3) := by decide +kernel
theorem d_P_isBetween_10 : decode m_P_isBetween.2.1 10 = .ok (.aload_n 0, 1) := by decide +kernel
theorem d_P_isBetween_11 : decode m_P_isBetween.2.1 11 = .ok (.getfield 15, 3) := by decide +kernel
theorem d_P_isBetween_14 : decode m_P_isBetween.2.1 14 = .ok (.iload_n 1, 1) := by decide +kernel
theorem d_P_isBetween_15 : decode m_P_isBetween.2.1 15 = .ok (.iaload, 1) := by decide +kernel
theorem d_P_isBetween_16 : decode m_P_isBetween.2.1 16 = .ok (.iload_n 3, 1) := by decide +kernel
theorem d_P_isBetween_17 : decode m_P_isBetween.2.1 17 = .ok (.if_icmp .ne 7, 3) := by decide +kernel
theorem d_P_isBetween_20 : decode m_P_isBetween.2.1 20 = .ok (.iconst 1, 1) := by decide +kernel
theorem d_P_isBetween_21 : decode m_P_isBetween.2.1 21 = .ok (.goto 4, 3) := by decide +kernel
theorem d_P_isBetween_24 : decode m_P_isBetween.2.1 24 = .ok (.iconst 0, 1) := by decide +kernel
theorem d_P_isBetween_25 : decode m_P_isBetween.2.1 25 = .ok (.ireturn, 1) := by decide +kernel
def f_P_isBetween (o : Nat) (x1 : Int) (x2 : Int) (x3 : Int) (w : qMem) : Option (Int × qMem) :=
  qld w (o + 1) 250 x1 fun v1 =>
  if v1 = x2 then
  qld w (o + 2) 250 x1 fun v3 =>
  if v3 = x3 then
  some (1, w)
  else
  some (0, w)
  else
  some (0, w)
set_option maxRecDepth 4000 in
theorem s_P_isBetween {ph : Nat} {o : Nat} (x1 : Int) (x2 : Int) (x3 : Int) (hI : qIs kLP ph o) (w : qMem) : qSim κI ph ph m_P_isBetween 0 [] [some (qR o), some (qI x1), some (qI x2), some (qI x3)] w (f_P_isBetween o x1 x2 x3 w) := by
  unfold f_P_isBetween
  refine z_aload_n d_P_isBetween_0 rfl ?_
  refine z_gr (ci := 5) (j := 0) (d := 1) (o2 := (o + 1)) d_P_isBetween_1 rfl fl_P_9 (hI 0 _ rfl).1 ((hI 0 _ rfl).2 (Nat.le_of_ble_eq_true rfl)) rfl rfl ?_
  refine z_iload_n d_P_isBetween_4 rfl ?_
  refine z_il d_P_isBetween_5 (hI 1 _ rfl).1 rfl (fun v1 => ?_)
  refine z_iload_n d_P_isBetween_6 rfl ?_
  refine z_icmp_ne (tgt := 24) d_P_isBetween_7 rfl (fun c2 => ?_) (fun c2 => ?_)
  · refine z_aload_n d_P_isBetween_10 rfl ?_
    refine z_gr (ci := 5) (j := 1) (d := 2) (o2 := (o + 2)) d_P_isBetween_11 rfl fl_P_15 (hI 0 _ rfl).1 ((hI 0 _ rfl).2 (Nat.le_of_ble_eq_true rfl)) rfl rfl ?_
    refine z_iload_n d_P_isBetween_14 rfl ?_
    refine z_il d_P_isBetween_15 (hI 2 _ rfl).1 rfl (fun v3 => ?_)
    refine z_iload_n d_P_isBetween_16 rfl ?_
    refine z_icmp_ne (tgt := 24) d_P_isBetween_17 rfl (fun c4 => ?_) (fun c4 => ?_)
    · refine z_ic1 d_P_isBetween_20 ?_
      refine z_goto (tgt := 25) d_P_isBetween_21 rfl ?_
      exact z_zret d_P_isBetween_25 rfl rfl (Or.inr rfl)
    · refine z_ic0 d_P_isBetween_24 ?_
      exact z_zret d_P_isBetween_25 rfl rfl (Or.inl rfl)
  · refine z_ic0 d_P_isBetween_24 ?_
    exact z_zret d_P_isBetween_25 rfl rfl (Or.inl rfl)
/-! BubbleTorus$Packets.laterIsDelivered -/
theorem d_P_laterIsDelivered_0 : decode m_P_laterIsDelivered.2.1 0 = .ok (.iload_n 1, 1) := by decide +kernel
theorem d_P_laterIsDelivered_1 : decode m_P_laterIsDelivered.2.1 1 = .ok (.iconst 1, 1) := by decide +kernel
theorem d_P_laterIsDelivered_2 : decode m_P_laterIsDelivered.2.1 2 = .ok (.iadd, 1) := by decide +kernel
theorem d_P_laterIsDelivered_3 : decode m_P_laterIsDelivered.2.1 3 = .ok (.istore_n 2, 1) := by decide +kernel
theorem d_P_laterIsDelivered_4 : decode m_P_laterIsDelivered.2.1 4 = .ok (.iload_n 2, 1) := by decide +kernel
theorem d_P_laterIsDelivered_5 : decode m_P_laterIsDelivered.2.1 5 = .ok (.aload_n 0, 1) := by decide +kernel
theorem d_P_laterIsDelivered_6 : decode m_P_laterIsDelivered.2.1 6 = .ok (.getfield 51, 3) := by decide +kernel
theorem d_P_laterIsDelivered_9 : decode m_P_laterIsDelivered.2.1 9 = .ok (.if_icmp .ge 39, 3) := by decide +kernel
theorem d_P_laterIsDelivered_12 : decode m_P_laterIsDelivered.2.1 12 = .ok (.aload_n 0, 1) := by decide +kernel
theorem d_P_laterIsDelivered_13 : decode m_P_laterIsDelivered.2.1 13 = .ok (.iload_n 2, 1) := by decide +kernel
theorem d_P_laterIsDelivered_14 : decode m_P_laterIsDelivered.2.1 14 = .ok (.aload_n 0, 1) := by decide +kernel
theorem d_P_laterIsDelivered_15 : decode m_P_laterIsDelivered.2.1 15 = .ok (.getfield 9, 3) := by decide +kernel
theorem d_P_laterIsDelivered_18 : decode m_P_laterIsDelivered.2.1 18 = .ok (.iload_n 1, 1) := by decide +kernel
theorem d_P_laterIsDelivered_19 : decode m_P_laterIsDelivered.2.1 19 = .ok (.iaload, 1) := by decide +kernel
theorem d_P_laterIsDelivered_20 : decode m_P_laterIsDelivered.2.1 20 = .ok (.aload_n 0, 1) := by decide +kernel
theorem d_P_laterIsDelivered_21 : decode m_P_laterIsDelivered.2.1 21 = .ok (.getfield 15, 3) := by decide +kernel
theorem d_P_laterIsDelivered_24 : decode m_P_laterIsDelivered.2.1 24 = .ok (.iload_n 1, 1) := by decide +kernel
theorem d_P_laterIsDelivered_25 : decode m_P_laterIsDelivered.2.1 25 = .ok (.iaload, 1) := by decide +kernel
theorem d_P_laterIsDelivered_26 : decode m_P_laterIsDelivered.2.1 26 = .ok (.invokevirtual 72, 3) := by decide +kernel
theorem d_P_laterIsDelivered_29 : decode m_P_laterIsDelivered.2.1 29 = .ok (.ifCond .eq 13, 3) := by decide +kernel
theorem d_P_laterIsDelivered_32 : decode m_P_laterIsDelivered.2.1 32 = .ok (.aload_n 0, 1) := by decide +kernel
theorem d_P_laterIsDelivered_33 : decode m_P_laterIsDelivered.2.1 33 = .ok (.iload_n 2, 1) := by decide +kernel
theorem d_P_laterIsDelivered_34 : decode m_P_laterIsDelivered.2.1 34 = .ok (.invokevirtual 76, 3) := by decide +kernel
theorem d_P_laterIsDelivered_37 : decode m_P_laterIsDelivered.2.1 37 = .ok (.ifCond .eq 5, 3) := by decide +kernel
theorem d_P_laterIsDelivered_40 : decode m_P_laterIsDelivered.2.1 40 = .ok (.iconst 1, 1) := by decide +kernel
theorem d_P_laterIsDelivered_41 : decode m_P_laterIsDelivered.2.1 41 = .ok (.ireturn, 1) := by decide +kernel
theorem d_P_laterIsDelivered_42 : decode m_P_laterIsDelivered.2.1 42 = .ok (.iinc 2 1, 3) := by decide +kernel
theorem d_P_laterIsDelivered_45 : decode m_P_laterIsDelivered.2.1 45 = .ok (.goto (-41), 3) := by decide +kernel
theorem d_P_laterIsDelivered_48 : decode m_P_laterIsDelivered.2.1 48 = .ok (.iconst 0, 1) := by decide +kernel
theorem d_P_laterIsDelivered_49 : decode m_P_laterIsDelivered.2.1 49 = .ok (.ireturn, 1) := by decide +kernel
def f_P_laterIsDelivered_4 (o : Nat) : Nat → Int → Int → qMem → Option (Int × qMem)
  | 0, _, _, _ => none
  | n + 1, x1, x2, w =>
    if x2 < (w o 13) then
    qld w (o + 1) 250 x1 fun v2 =>
    qld w (o + 2) 250 x1 fun v3 =>
    (f_P_isBetween o x2 v2 v3 w).bind fun q4 =>
    if q4.1 = 0 then
    (f_P_laterIsDelivered_4 o n) x1 (w32 (x2 + 1)) q4.2
    else
    (f_P_isDelivered o x2 q4.2).bind fun q6 =>
    if q6.1 = 0 then
    (f_P_laterIsDelivered_4 o n) x1 (w32 (x2 + 1)) q6.2
    else
    some (1, q6.2)
    else
    some (0, w)
set_option maxRecDepth 4000 in
theorem s_P_laterIsDelivered_4 {ph : Nat} {o : Nat} (hI : qIs kLP ph o) : ∀ (n : Nat), ∀ (x1 x2 : Int) (w : qMem), qSim κI ph ph m_P_laterIsDelivered 4 [] [some (qR o), some (qI x1), some (qI x2)] w (f_P_laterIsDelivered_4 o n x1 x2 w) := by
  intro n
  induction n with
  | zero => intro x1 x2 w; exact z_none
  | succ n ih =>
    intro x1 x2 w
    rw [f_P_laterIsDelivered_4]
    refine z_iload_n d_P_laterIsDelivered_4 rfl ?_
    refine z_aload_n d_P_laterIsDelivered_5 rfl ?_
    refine z_gi (ci := 5) (j := 13) (ji := 13) d_P_laterIsDelivered_6 rfl fl_P_51 (hI 0 _ rfl).1 rfl rfl ?_
    refine z_icmp_ge (tgt := 48) d_P_laterIsDelivered_9 rfl (fun c1 => ?_) (fun c1 => ?_)
    · refine z_aload_n d_P_laterIsDelivered_12 rfl ?_
      refine z_iload_n d_P_laterIsDelivered_13 rfl ?_
      refine z_aload_n d_P_laterIsDelivered_14 rfl ?_
      refine z_gr (ci := 5) (j := 0) (d := 1) (o2 := (o + 1)) d_P_laterIsDelivered_15 rfl fl_P_9 (hI 0 _ rfl).1 ((hI 0 _ rfl).2 (Nat.le_of_ble_eq_true rfl)) rfl rfl ?_
      refine z_iload_n d_P_laterIsDelivered_18 rfl ?_
      refine z_il d_P_laterIsDelivered_19 (hI 1 _ rfl).1 rfl (fun v2 => ?_)
      refine z_aload_n d_P_laterIsDelivered_20 rfl ?_
      refine z_gr (ci := 5) (j := 1) (d := 2) (o2 := (o + 2)) d_P_laterIsDelivered_21 rfl fl_P_15 (hI 0 _ rfl).1 ((hI 0 _ rfl).2 (Nat.le_of_ble_eq_true rfl)) rfl rfl ?_
      refine z_iload_n d_P_laterIsDelivered_24 rfl ?_
      refine z_il d_P_laterIsDelivered_25 (hI 2 _ rfl).1 rfl (fun v3 => ?_)
      refine z_cVI (as := [qI x2, qI v2, qI v3]) (st := []) (nl := 0) (ci := 5) d_P_laterIsDelivered_26 lk_P_72 mk_P_isBetween rfl rfl (hI 0 _ rfl).1 rfl rfl rfl (s_P_isBetween _ _ _ hI _) (fun q4 _ hq4 => ?_)
      refine z_if_eq (tgt := 42) d_P_laterIsDelivered_29 rfl (fun c5 => ?_) (fun c5 => ?_)
      · refine z_iinc (pls' := [some (qR o), some (qI x1), some (qI (w32 (x2 + 1)))]) d_P_laterIsDelivered_42 (by decide) rfl rfl rfl ?_
        refine z_goto (tgt := 4) d_P_laterIsDelivered_45 rfl ?_
        refine z_mask [true, true, true] ?_
        exact ih _ _ _
      · refine z_aload_n d_P_laterIsDelivered_32 rfl ?_
        refine z_iload_n d_P_laterIsDelivered_33 rfl ?_
        refine z_cVI (as := [qI x2]) (st := []) (nl := 0) (ci := 5) d_P_laterIsDelivered_34 lk_P_76 mk_P_isDelivered rfl rfl (hI 0 _ rfl).1 rfl rfl rfl (s_P_isDelivered _ hI _) (fun q6 _ hq6 => ?_)
        refine z_if_eq (tgt := 42) d_P_laterIsDelivered_37 rfl (fun c7 => ?_) (fun c7 => ?_)
        · refine z_iinc (pls' := [some (qR o), some (qI x1), some (qI (w32 (x2 + 1)))]) d_P_laterIsDelivered_42 (by decide) rfl rfl rfl ?_
          refine z_goto (tgt := 4) d_P_laterIsDelivered_45 rfl ?_
          refine z_mask [true, true, true] ?_
          exact ih _ _ _
        · refine z_ic1 d_P_laterIsDelivered_40 ?_
          exact z_zret d_P_laterIsDelivered_41 rfl rfl (Or.inr rfl)
    · refine z_ic0 d_P_laterIsDelivered_48 ?_
      exact z_zret d_P_laterIsDelivered_49 rfl rfl (Or.inl rfl)
def f_P_laterIsDelivered (o : Nat) (x1 : Int) (w : qMem) : Option (Int × qMem) :=
  f_P_laterIsDelivered_4 o qFU x1 (w32 (x1 + 1)) w
set_option maxRecDepth 4000 in
theorem s_P_laterIsDelivered {ph : Nat} {o : Nat} (x1 : Int) (hI : qIs kLP ph o) (w : qMem) : qSim κI ph ph m_P_laterIsDelivered 0 [] [some (qR o), some (qI x1), none] w (f_P_laterIsDelivered o x1 w) := by
  unfold f_P_laterIsDelivered
  refine z_iload_n d_P_laterIsDelivered_0 rfl ?_
  refine z_ic1 d_P_laterIsDelivered_1 ?_
  refine z_iadd d_P_laterIsDelivered_2 ?_
  refine z_istore_n (pls' := [some (qR o), some (qI x1), some (qI (w32 (x1 + 1)))]) d_P_laterIsDelivered_3 (by decide) rfl rfl ?_
  refine z_mask [true, true, true] ?_
  exact s_P_laterIsDelivered_4 hI _ _ _ _
/-! BubbleTorus$Packets.noteDelivery -/
theorem d_P_noteDelivery_0 : decode m_P_noteDelivery.2.1 0 = .ok (.aload_n 0, 1) := by decide +kernel
theorem d_P_noteDelivery_1 : decode m_P_noteDelivery.2.1 1 = .ok (.getfield 39, 3) := by decide +kernel
theorem d_P_noteDelivery_4 : decode m_P_noteDelivery.2.1 4 = .ok (.iload_n 1, 1) := by decide +kernel
theorem d_P_noteDelivery_5 : decode m_P_noteDelivery.2.1 5 = .ok (.aload_n 0, 1) := by decide +kernel
theorem d_P_noteDelivery_6 : decode m_P_noteDelivery.2.1 6 = .ok (.iload_n 1, 1) := by decide +kernel
theorem d_P_noteDelivery_7 : decode m_P_noteDelivery.2.1 7 = .ok (.invokevirtual 68, 3) := by decide +kernel
theorem d_P_noteDelivery_10 : decode m_P_noteDelivery.2.1 10 = .ok (.ifCond .eq 7, 3) := by decide +kernel
theorem d_P_noteDelivery_13 : decode m_P_noteDelivery.2.1 13 = .ok (.iconst 1, 1) := by decide +kernel
theorem d_P_noteDelivery_14 : decode m_P_noteDelivery.2.1 14 = .ok (.goto 4, 3) := by decide +kernel
theorem d_P_noteDelivery_17 : decode m_P_noteDelivery.2.1 17 = .ok (.iconst 0, 1) := by decide +kernel
theorem d_P_noteDelivery_18 : decode m_P_noteDelivery.2.1 18 = .ok (.iastore, 1) := by decide +kernel
theorem d_P_noteDelivery_19 : decode m_P_noteDelivery.2.1 19 = .ok (.aload_n 0, 1) := by decide +kernel
theorem d_P_noteDelivery_20 : decode m_P_noteDelivery.2.1 20 = .ok (.getfield 21, 3) := by decide +kernel
theorem d_P_noteDelivery_23 : decode m_P_noteDelivery.2.1 23 = .ok (.iload_n 1, 1) := by decide +kernel
theorem d_P_noteDelivery_24 : decode m_P_noteDelivery.2.1 24 = .ok (.iconst 3, 1) := by decide +kernel
theorem d_P_noteDelivery_25 : decode m_P_noteDelivery.2.1 25 = .ok (.iastore, 1) := by decide +kernel
theorem d_P_noteDelivery_26 : decode m_P_noteDelivery.2.1 26 = .ok (.aload_n 0, 1) := by decide +kernel
theorem d_P_noteDelivery_27 : decode m_P_noteDelivery.2.1 27 = .ok (.getfield 33, 3) := by decide +kernel
theorem d_P_noteDelivery_30 : decode m_P_noteDelivery.2.1 30 = .ok (.iload_n 1, 1) := by decide +kernel
theorem d_P_noteDelivery_31 : decode m_P_noteDelivery.2.1 31 = .ok (.iload_n 2, 1) := by decide +kernel
theorem d_P_noteDelivery_32 : decode m_P_noteDelivery.2.1 32 = .ok (.iastore, 1) := by decide +kernel
theorem d_P_noteDelivery_33 : decode m_P_noteDelivery.2.1 33 = .ok (.aload_n 0, 1) := by decide +kernel
theorem d_P_noteDelivery_34 : decode m_P_noteDelivery.2.1 34 = .ok (.dup, 1) := by decide +kernel
theorem d_P_noteDelivery_35 : decode m_P_noteDelivery.2.1 35 = .ok (.getfield 55, 3) := by decide +kernel
theorem d_P_noteDelivery_38 : decode m_P_noteDelivery.2.1 38 = .ok (.iconst 1, 1) := by decide +kernel
theorem d_P_noteDelivery_39 : decode m_P_noteDelivery.2.1 39 = .ok (.iadd, 1) := by decide +kernel
theorem d_P_noteDelivery_40 : decode m_P_noteDelivery.2.1 40 = .ok (.putfield 55, 3) := by decide +kernel
theorem d_P_noteDelivery_43 : decode m_P_noteDelivery.2.1 43 = .ok (.return_, 1) := by decide +kernel
def f_P_noteDelivery_18 (o : Nat) (s1 s2 x1 x2 : Int) (w : qMem) : Option (qMem) :=
  qst w (o + 10) 250 s1 s2 fun w1 =>
  qst w1 (o + 4) 250 x1 3 fun w2 =>
  qst w2 (o + 8) 250 x1 x2 fun w3 =>
  qlt (qud w3 o 14 (w32 ((w3 o 14) + 1))) fun w4 =>
  some w4
set_option maxRecDepth 4000 in
theorem s_P_noteDelivery_18 {ph : Nat} {o : Nat} (hI : qIs kLP ph o) : ∀ (s1 s2 x1 x2 : Int) (w : qMem), (s2 = 0 ∨ s2 = 1) → qSim κV ph ph m_P_noteDelivery 18 [qI s2, qI s1, qR (o + 10)] [some (qR o), some (qI x1), some (qI x2)] w (f_P_noteDelivery_18 o s1 s2 x1 x2 w) := by
  intro s1 s2 x1 x2 w hs2
  unfold f_P_noteDelivery_18
  refine z_is d_P_noteDelivery_18 (hI 10 _ rfl).1 rfl (fun w1 => ?_)
  refine z_aload_n d_P_noteDelivery_19 rfl ?_
  refine z_gr (ci := 5) (j := 3) (d := 4) (o2 := (o + 4)) d_P_noteDelivery_20 rfl fl_P_21 (hI 0 _ rfl).1 ((hI 0 _ rfl).2 (Nat.le_of_ble_eq_true rfl)) rfl rfl ?_
  refine z_iload_n d_P_noteDelivery_23 rfl ?_
  refine z_ic3 d_P_noteDelivery_24 ?_
  refine z_is d_P_noteDelivery_25 (hI 4 _ rfl).1 rfl (fun w2 => ?_)
  refine z_aload_n d_P_noteDelivery_26 rfl ?_
  refine z_gr (ci := 5) (j := 7) (d := 8) (o2 := (o + 8)) d_P_noteDelivery_27 rfl fl_P_33 (hI 0 _ rfl).1 ((hI 0 _ rfl).2 (Nat.le_of_ble_eq_true rfl)) rfl rfl ?_
  refine z_iload_n d_P_noteDelivery_30 rfl ?_
  refine z_iload_n d_P_noteDelivery_31 rfl ?_
  refine z_is d_P_noteDelivery_32 (hI 8 _ rfl).1 rfl (fun w3 => ?_)
  refine z_aload_n d_P_noteDelivery_33 rfl ?_
  refine z_dup d_P_noteDelivery_34 rfl ?_
  refine z_gi (ci := 5) (j := 14) (ji := 14) d_P_noteDelivery_35 rfl fl_P_55 (hI 0 _ rfl).1 rfl rfl ?_
  refine z_ic1 d_P_noteDelivery_38 ?_
  refine z_iadd d_P_noteDelivery_39 ?_
  refine z_pi (ci := 5) (j := 14) (ji := 14) d_P_noteDelivery_40 rfl fl_P_55 (hI 0 _ rfl).1 rfl rfl rfl rfl (fun w4 => ?_)
  exact z_vret d_P_noteDelivery_43 rfl rfl
def f_P_noteDelivery (o : Nat) (x1 : Int) (x2 : Int) (w : qMem) : Option (qMem) :=
  (f_P_laterIsDelivered o x1 w).bind fun q5 =>
  if q5.1 = 0 then
  f_P_noteDelivery_18 o x1 0 x1 x2 q5.2
  else
  f_P_noteDelivery_18 o x1 1 x1 x2 q5.2
set_option maxRecDepth 4000 in
theorem s_P_noteDelivery {ph : Nat} {o : Nat} (x1 : Int) (x2 : Int) (hI : qIs kLP ph o) (w : qMem) : qSim κV ph ph m_P_noteDelivery 0 [] [some (qR o), some (qI x1), some (qI x2)] w (f_P_noteDelivery o x1 x2 w) := by
  unfold f_P_noteDelivery
  refine z_aload_n d_P_noteDelivery_0 rfl ?_
  refine z_gr (ci := 5) (j := 9) (d := 10) (o2 := (o + 10)) d_P_noteDelivery_1 rfl fl_P_39 (hI 0 _ rfl).1 ((hI 0 _ rfl).2 (Nat.le_of_ble_eq_true rfl)) rfl rfl ?_
  refine z_iload_n d_P_noteDelivery_4 rfl ?_
  refine z_aload_n d_P_noteDelivery_5 rfl ?_
  refine z_iload_n d_P_noteDelivery_6 rfl ?_
  refine z_cVI (as := [qI x1]) (st := [qI x1, qR (o + 10)]) (nl := 1) (ci := 5) d_P_noteDelivery_7 lk_P_68 mk_P_laterIsDelivered rfl rfl (hI 0 _ rfl).1 rfl rfl rfl (s_P_laterIsDelivered _ hI _) (fun q5 _ hq5 => ?_)
  refine z_if_eq (tgt := 17) d_P_noteDelivery_10 rfl (fun c6 => ?_) (fun c6 => ?_)
  · refine z_ic0 d_P_noteDelivery_17 ?_
    refine z_mask [true, true, true] ?_
    exact s_P_noteDelivery_18 hI _ _ _ _ _ (Or.inl rfl)
  · refine z_ic1 d_P_noteDelivery_13 ?_
    refine z_goto (tgt := 18) d_P_noteDelivery_14 rfl ?_
    refine z_mask [true, true, true] ?_
    exact s_P_noteDelivery_18 hI _ _ _ _ _ (Or.inr rfl)
/-! BubbleTorus$Packets.fact -/
theorem d_P_fact_0 : decode m_P_fact.2.1 0 = .ok (.iload_n 2, 1) := by decide +kernel
theorem d_P_fact_1 : decode m_P_fact.2.1 1 = .ok (.tableswitch 136 0 10 #[59, 66, 73, 80, 87, 94, 101, 108, 115, 122, 129], 59) := by decide +kernel
theorem d_P_fact_60 : decode m_P_fact.2.1 60 = .ok (.aload_n 0, 1) := by decide +kernel
theorem d_P_fact_61 : decode m_P_fact.2.1 61 = .ok (.getfield 9, 3) := by decide +kernel
theorem d_P_fact_64 : decode m_P_fact.2.1 64 = .ok (.iload_n 1, 1) := by decide +kernel
theorem d_P_fact_65 : decode m_P_fact.2.1 65 = .ok (.iaload, 1) := by decide +kernel
theorem d_P_fact_66 : decode m_P_fact.2.1 66 = .ok (.ireturn, 1) := by decide +kernel
theorem d_P_fact_67 : decode m_P_fact.2.1 67 = .ok (.aload_n 0, 1) := by decide +kernel
theorem d_P_fact_68 : decode m_P_fact.2.1 68 = .ok (.getfield 15, 3) := by decide +kernel
theorem d_P_fact_71 : decode m_P_fact.2.1 71 = .ok (.iload_n 1, 1) := by decide +kernel
theorem d_P_fact_72 : decode m_P_fact.2.1 72 = .ok (.iaload, 1) := by decide +kernel
theorem d_P_fact_73 : decode m_P_fact.2.1 73 = .ok (.ireturn, 1) := by decide +kernel
theorem d_P_fact_74 : decode m_P_fact.2.1 74 = .ok (.aload_n 0, 1) := by decide +kernel
theorem d_P_fact_75 : decode m_P_fact.2.1 75 = .ok (.getfield 18, 3) := by decide +kernel
theorem d_P_fact_78 : decode m_P_fact.2.1 78 = .ok (.iload_n 1, 1) := by decide +kernel
theorem d_P_fact_79 : decode m_P_fact.2.1 79 = .ok (.iaload, 1) := by decide +kernel
theorem d_P_fact_80 : decode m_P_fact.2.1 80 = .ok (.ireturn, 1) := by decide +kernel
theorem d_P_fact_81 : decode m_P_fact.2.1 81 = .ok (.aload_n 0, 1) := by decide +kernel
theorem d_P_fact_82 : decode m_P_fact.2.1 82 = .ok (.getfield 21, 3) := by decide +kernel
theorem d_P_fact_85 : decode m_P_fact.2.1 85 = .ok (.iload_n 1, 1) := by decide +kernel
theorem d_P_fact_86 : decode m_P_fact.2.1 86 = .ok (.iaload, 1) := by decide +kernel
theorem d_P_fact_87 : decode m_P_fact.2.1 87 = .ok (.ireturn, 1) := by decide +kernel
theorem d_P_fact_88 : decode m_P_fact.2.1 88 = .ok (.aload_n 0, 1) := by decide +kernel
theorem d_P_fact_89 : decode m_P_fact.2.1 89 = .ok (.getfield 24, 3) := by decide +kernel
theorem d_P_fact_92 : decode m_P_fact.2.1 92 = .ok (.iload_n 1, 1) := by decide +kernel
theorem d_P_fact_93 : decode m_P_fact.2.1 93 = .ok (.iaload, 1) := by decide +kernel
theorem d_P_fact_94 : decode m_P_fact.2.1 94 = .ok (.ireturn, 1) := by decide +kernel
theorem d_P_fact_95 : decode m_P_fact.2.1 95 = .ok (.aload_n 0, 1) := by decide +kernel
theorem d_P_fact_96 : decode m_P_fact.2.1 96 = .ok (.getfield 27, 3) := by decide +kernel
theorem d_P_fact_99 : decode m_P_fact.2.1 99 = .ok (.iload_n 1, 1) := by decide +kernel
theorem d_P_fact_100 : decode m_P_fact.2.1 100 = .ok (.iaload, 1) := by decide +kernel
theorem d_P_fact_101 : decode m_P_fact.2.1 101 = .ok (.ireturn, 1) := by decide +kernel
theorem d_P_fact_102 : decode m_P_fact.2.1 102 = .ok (.aload_n 0, 1) := by decide +kernel
theorem d_P_fact_103 : decode m_P_fact.2.1 103 = .ok (.getfield 30, 3) := by decide +kernel
theorem d_P_fact_106 : decode m_P_fact.2.1 106 = .ok (.iload_n 1, 1) := by decide +kernel
theorem d_P_fact_107 : decode m_P_fact.2.1 107 = .ok (.iaload, 1) := by decide +kernel
theorem d_P_fact_108 : decode m_P_fact.2.1 108 = .ok (.ireturn, 1) := by decide +kernel
theorem d_P_fact_109 : decode m_P_fact.2.1 109 = .ok (.aload_n 0, 1) := by decide +kernel
theorem d_P_fact_110 : decode m_P_fact.2.1 110 = .ok (.getfield 33, 3) := by decide +kernel
theorem d_P_fact_113 : decode m_P_fact.2.1 113 = .ok (.iload_n 1, 1) := by decide +kernel
theorem d_P_fact_114 : decode m_P_fact.2.1 114 = .ok (.iaload, 1) := by decide +kernel
theorem d_P_fact_115 : decode m_P_fact.2.1 115 = .ok (.ireturn, 1) := by decide +kernel
theorem d_P_fact_116 : decode m_P_fact.2.1 116 = .ok (.aload_n 0, 1) := by decide +kernel
theorem d_P_fact_117 : decode m_P_fact.2.1 117 = .ok (.getfield 36, 3) := by decide +kernel
theorem d_P_fact_120 : decode m_P_fact.2.1 120 = .ok (.iload_n 1, 1) := by decide +kernel
theorem d_P_fact_121 : decode m_P_fact.2.1 121 = .ok (.iaload, 1) := by decide +kernel
theorem d_P_fact_122 : decode m_P_fact.2.1 122 = .ok (.ireturn, 1) := by decide +kernel
theorem d_P_fact_123 : decode m_P_fact.2.1 123 = .ok (.aload_n 0, 1) := by decide +kernel
theorem d_P_fact_124 : decode m_P_fact.2.1 124 = .ok (.getfield 39, 3) := by decide +kernel
theorem d_P_fact_127 : decode m_P_fact.2.1 127 = .ok (.iload_n 1, 1) := by decide +kernel
theorem d_P_fact_128 : decode m_P_fact.2.1 128 = .ok (.iaload, 1) := by decide +kernel
theorem d_P_fact_129 : decode m_P_fact.2.1 129 = .ok (.ireturn, 1) := by decide +kernel
theorem d_P_fact_130 : decode m_P_fact.2.1 130 = .ok (.aload_n 0, 1) := by decide +kernel
theorem d_P_fact_131 : decode m_P_fact.2.1 131 = .ok (.getfield 42, 3) := by decide +kernel
theorem d_P_fact_134 : decode m_P_fact.2.1 134 = .ok (.iload_n 1, 1) := by decide +kernel
theorem d_P_fact_135 : decode m_P_fact.2.1 135 = .ok (.iaload, 1) := by decide +kernel
theorem d_P_fact_136 : decode m_P_fact.2.1 136 = .ok (.ireturn, 1) := by decide +kernel
theorem d_P_fact_137 : decode m_P_fact.2.1 137 = .ok (.iconst (-1), 1) := by decide +kernel
theorem d_P_fact_138 : decode m_P_fact.2.1 138 = .ok (.ireturn, 1) := by decide +kernel
def f_P_fact (o : Nat) (x1 : Int) (x2 : Int) (w : qMem) : Option (Int × qMem) :=
  if x2 = 0 then
  qld w (o + 1) 250 x1 fun v2 =>
  some (v2, w)
  else
  if x2 = 1 then
  qld w (o + 2) 250 x1 fun v4 =>
  some (v4, w)
  else
  if x2 = 2 then
  qld w (o + 3) 250 x1 fun v6 =>
  some (v6, w)
  else
  if x2 = 3 then
  qld w (o + 4) 250 x1 fun v8 =>
  some (v8, w)
  else
  if x2 = 4 then
  qld w (o + 5) 250 x1 fun v10 =>
  some (v10, w)
  else
  if x2 = 5 then
  qld w (o + 6) 250 x1 fun v12 =>
  some (v12, w)
  else
  if x2 = 6 then
  qld w (o + 7) 250 x1 fun v14 =>
  some (v14, w)
  else
  if x2 = 7 then
  qld w (o + 8) 250 x1 fun v16 =>
  some (v16, w)
  else
  if x2 = 8 then
  qld w (o + 9) 250 x1 fun v18 =>
  some (v18, w)
  else
  if x2 = 9 then
  qld w (o + 10) 250 x1 fun v20 =>
  some (v20, w)
  else
  if x2 = 10 then
  qld w (o + 11) 250 x1 fun v22 =>
  some (v22, w)
  else
  some ((-1), w)
set_option maxRecDepth 4000 in
theorem s_P_fact {ph : Nat} {o : Nat} (x1 : Int) (x2 : Int) (hI : qIs kLP ph o) (w : qMem) : qSim κI ph ph m_P_fact 0 [] [some (qR o), some (qI x1), some (qI x2)] w (f_P_fact o x1 x2 w) := by
  unfold f_P_fact
  refine z_iload_n d_P_fact_0 rfl ?_
  refine z_if (fun c1 => ?_) (fun c1 => ?_)
  · refine z_tabIn (tgt := 60) (v := 0) d_P_fact_1 c1 (by decide) (by decide) rfl rfl ?_
    refine z_aload_n d_P_fact_60 rfl ?_
    refine z_gr (ci := 5) (j := 0) (d := 1) (o2 := (o + 1)) d_P_fact_61 rfl fl_P_9 (hI 0 _ rfl).1 ((hI 0 _ rfl).2 (Nat.le_of_ble_eq_true rfl)) rfl rfl ?_
    refine z_iload_n d_P_fact_64 rfl ?_
    refine z_il d_P_fact_65 (hI 1 _ rfl).1 rfl (fun v2 => ?_)
    exact z_iret d_P_fact_66 rfl rfl
  · refine z_if (fun c3 => ?_) (fun c3 => ?_)
    · refine z_tabIn (tgt := 67) (v := 1) d_P_fact_1 c3 (by decide) (by decide) rfl rfl ?_
      refine z_aload_n d_P_fact_67 rfl ?_
      refine z_gr (ci := 5) (j := 1) (d := 2) (o2 := (o + 2)) d_P_fact_68 rfl fl_P_15 (hI 0 _ rfl).1 ((hI 0 _ rfl).2 (Nat.le_of_ble_eq_true rfl)) rfl rfl ?_
      refine z_iload_n d_P_fact_71 rfl ?_
      refine z_il d_P_fact_72 (hI 2 _ rfl).1 rfl (fun v4 => ?_)
      exact z_iret d_P_fact_73 rfl rfl
    · refine z_if (fun c5 => ?_) (fun c5 => ?_)
      · refine z_tabIn (tgt := 74) (v := 2) d_P_fact_1 c5 (by decide) (by decide) rfl rfl ?_
        refine z_aload_n d_P_fact_74 rfl ?_
        refine z_gr (ci := 5) (j := 2) (d := 3) (o2 := (o + 3)) d_P_fact_75 rfl fl_P_18 (hI 0 _ rfl).1 ((hI 0 _ rfl).2 (Nat.le_of_ble_eq_true rfl)) rfl rfl ?_
        refine z_iload_n d_P_fact_78 rfl ?_
        refine z_il d_P_fact_79 (hI 3 _ rfl).1 rfl (fun v6 => ?_)
        exact z_iret d_P_fact_80 rfl rfl
      · refine z_if (fun c7 => ?_) (fun c7 => ?_)
        · refine z_tabIn (tgt := 81) (v := 3) d_P_fact_1 c7 (by decide) (by decide) rfl rfl ?_
          refine z_aload_n d_P_fact_81 rfl ?_
          refine z_gr (ci := 5) (j := 3) (d := 4) (o2 := (o + 4)) d_P_fact_82 rfl fl_P_21 (hI 0 _ rfl).1 ((hI 0 _ rfl).2 (Nat.le_of_ble_eq_true rfl)) rfl rfl ?_
          refine z_iload_n d_P_fact_85 rfl ?_
          refine z_il d_P_fact_86 (hI 4 _ rfl).1 rfl (fun v8 => ?_)
          exact z_iret d_P_fact_87 rfl rfl
        · refine z_if (fun c9 => ?_) (fun c9 => ?_)
          · refine z_tabIn (tgt := 88) (v := 4) d_P_fact_1 c9 (by decide) (by decide) rfl rfl ?_
            refine z_aload_n d_P_fact_88 rfl ?_
            refine z_gr (ci := 5) (j := 4) (d := 5) (o2 := (o + 5)) d_P_fact_89 rfl fl_P_24 (hI 0 _ rfl).1 ((hI 0 _ rfl).2 (Nat.le_of_ble_eq_true rfl)) rfl rfl ?_
            refine z_iload_n d_P_fact_92 rfl ?_
            refine z_il d_P_fact_93 (hI 5 _ rfl).1 rfl (fun v10 => ?_)
            exact z_iret d_P_fact_94 rfl rfl
          · refine z_if (fun c11 => ?_) (fun c11 => ?_)
            · refine z_tabIn (tgt := 95) (v := 5) d_P_fact_1 c11 (by decide) (by decide) rfl rfl ?_
              refine z_aload_n d_P_fact_95 rfl ?_
              refine z_gr (ci := 5) (j := 5) (d := 6) (o2 := (o + 6)) d_P_fact_96 rfl fl_P_27 (hI 0 _ rfl).1 ((hI 0 _ rfl).2 (Nat.le_of_ble_eq_true rfl)) rfl rfl ?_
              refine z_iload_n d_P_fact_99 rfl ?_
              refine z_il d_P_fact_100 (hI 6 _ rfl).1 rfl (fun v12 => ?_)
              exact z_iret d_P_fact_101 rfl rfl
            · refine z_if (fun c13 => ?_) (fun c13 => ?_)
              · refine z_tabIn (tgt := 102) (v := 6) d_P_fact_1 c13 (by decide) (by decide) rfl rfl ?_
                refine z_aload_n d_P_fact_102 rfl ?_
                refine z_gr (ci := 5) (j := 6) (d := 7) (o2 := (o + 7)) d_P_fact_103 rfl fl_P_30 (hI 0 _ rfl).1 ((hI 0 _ rfl).2 (Nat.le_of_ble_eq_true rfl)) rfl rfl ?_
                refine z_iload_n d_P_fact_106 rfl ?_
                refine z_il d_P_fact_107 (hI 7 _ rfl).1 rfl (fun v14 => ?_)
                exact z_iret d_P_fact_108 rfl rfl
              · refine z_if (fun c15 => ?_) (fun c15 => ?_)
                · refine z_tabIn (tgt := 109) (v := 7) d_P_fact_1 c15 (by decide) (by decide) rfl rfl ?_
                  refine z_aload_n d_P_fact_109 rfl ?_
                  refine z_gr (ci := 5) (j := 7) (d := 8) (o2 := (o + 8)) d_P_fact_110 rfl fl_P_33 (hI 0 _ rfl).1 ((hI 0 _ rfl).2 (Nat.le_of_ble_eq_true rfl)) rfl rfl ?_
                  refine z_iload_n d_P_fact_113 rfl ?_
                  refine z_il d_P_fact_114 (hI 8 _ rfl).1 rfl (fun v16 => ?_)
                  exact z_iret d_P_fact_115 rfl rfl
                · refine z_if (fun c17 => ?_) (fun c17 => ?_)
                  · refine z_tabIn (tgt := 116) (v := 8) d_P_fact_1 c17 (by decide) (by decide) rfl rfl ?_
                    refine z_aload_n d_P_fact_116 rfl ?_
                    refine z_gr (ci := 5) (j := 8) (d := 9) (o2 := (o + 9)) d_P_fact_117 rfl fl_P_36 (hI 0 _ rfl).1 ((hI 0 _ rfl).2 (Nat.le_of_ble_eq_true rfl)) rfl rfl ?_
                    refine z_iload_n d_P_fact_120 rfl ?_
                    refine z_il d_P_fact_121 (hI 9 _ rfl).1 rfl (fun v18 => ?_)
                    exact z_iret d_P_fact_122 rfl rfl
                  · refine z_if (fun c19 => ?_) (fun c19 => ?_)
                    · refine z_tabIn (tgt := 123) (v := 9) d_P_fact_1 c19 (by decide) (by decide) rfl rfl ?_
                      refine z_aload_n d_P_fact_123 rfl ?_
                      refine z_gr (ci := 5) (j := 9) (d := 10) (o2 := (o + 10)) d_P_fact_124 rfl fl_P_39 (hI 0 _ rfl).1 ((hI 0 _ rfl).2 (Nat.le_of_ble_eq_true rfl)) rfl rfl ?_
                      refine z_iload_n d_P_fact_127 rfl ?_
                      refine z_il d_P_fact_128 (hI 10 _ rfl).1 rfl (fun v20 => ?_)
                      exact z_iret d_P_fact_129 rfl rfl
                    · refine z_if (fun c21 => ?_) (fun c21 => ?_)
                      · refine z_tabIn (tgt := 130) (v := 10) d_P_fact_1 c21 (by decide) (by decide) rfl rfl ?_
                        refine z_aload_n d_P_fact_130 rfl ?_
                        refine z_gr (ci := 5) (j := 10) (d := 11) (o2 := (o + 11)) d_P_fact_131 rfl fl_P_42 (hI 0 _ rfl).1 ((hI 0 _ rfl).2 (Nat.le_of_ble_eq_true rfl)) rfl rfl ?_
                        refine z_iload_n d_P_fact_134 rfl ?_
                        refine z_il d_P_fact_135 (hI 11 _ rfl).1 rfl (fun v22 => ?_)
                        exact z_iret d_P_fact_136 rfl rfl
                      · refine z_tabOut (tgt := 137) d_P_fact_1 (by omega) rfl ?_
                        refine z_icm1 d_P_fact_137 ?_
                        exact z_iret d_P_fact_138 rfl rfl
