/-! BubbleTorusModel.pattern -/
theorem d_M_pattern_0 : decode m_M_pattern.2.1 0 = .ok (.iload_n 1, 1) := by decide +kernel
theorem d_M_pattern_1 : decode m_M_pattern.2.1 1 = .ok (.iconst 0, 1) := by decide +kernel
theorem d_M_pattern_2 : decode m_M_pattern.2.1 2 = .ok (.iconst 4, 1) := by decide +kernel
theorem d_M_pattern_3 : decode m_M_pattern.2.1 3 = .ok (.invokestatic 68, 3) := by decide +kernel
theorem d_M_pattern_6 : decode m_M_pattern.2.1 6 = .ok (.ifCond .eq 16, 3) := by decide +kernel
theorem d_M_pattern_9 : decode m_M_pattern.2.1 9 = .ok (.iload_n 1, 1) := by decide +kernel
theorem d_M_pattern_10 : decode m_M_pattern.2.1 10 = .ok (.iconst 4, 1) := by decide +kernel
theorem d_M_pattern_11 : decode m_M_pattern.2.1 11 = .ok (.if_icmp .ne 13, 3) := by decide +kernel
theorem d_M_pattern_14 : decode m_M_pattern.2.1 14 = .ok (.aload_n 0, 1) := by decide +kernel
theorem d_M_pattern_15 : decode m_M_pattern.2.1 15 = .ok (.iload_n 2, 1) := by decide +kernel
theorem d_M_pattern_16 : decode m_M_pattern.2.1 16 = .ok (.invokevirtual 92, 3) := by decide +kernel
theorem d_M_pattern_19 : decode m_M_pattern.2.1 19 = .ok (.ifCond .ne 5, 3) := by decide +kernel
theorem d_M_pattern_22 : decode m_M_pattern.2.1 22 = .ok (.iconst (-1), 1) := by decide +kernel
theorem d_M_pattern_23 : decode m_M_pattern.2.1 23 = .ok (.ireturn, 1) := by decide +kernel
theorem d_M_pattern_24 : decode m_M_pattern.2.1 24 = .ok (.iconst 0, 1) := by decide +kernel
theorem d_M_pattern_25 : decode m_M_pattern.2.1 25 = .ok (.istore_n 3, 1) := by decide +kernel
theorem d_M_pattern_26 : decode m_M_pattern.2.1 26 = .ok (.iconst 0, 1) := by decide +kernel
theorem d_M_pattern_27 : decode m_M_pattern.2.1 27 = .ok (.istore 4, 2) := by decide +kernel
theorem d_M_pattern_29 : decode m_M_pattern.2.1 29 = .ok (.iload 4, 2) := by decide +kernel
theorem d_M_pattern_31 : decode m_M_pattern.2.1 31 = .ok (.aload_n 0, 1) := by decide +kernel
theorem d_M_pattern_32 : decode m_M_pattern.2.1 32 = .ok (.invokevirtual 72, 3) := by decide +kernel
theorem d_M_pattern_35 : decode m_M_pattern.2.1 35 = .ok (.if_icmp .ge 41, 3) := by decide +kernel
theorem d_M_pattern_38 : decode m_M_pattern.2.1 38 = .ok (.aload_n 0, 1) := by decide +kernel
theorem d_M_pattern_39 : decode m_M_pattern.2.1 39 = .ok (.iload_n 1, 1) := by decide +kernel
theorem d_M_pattern_40 : decode m_M_pattern.2.1 40 = .ok (.iload_n 2, 1) := by decide +kernel
theorem d_M_pattern_41 : decode m_M_pattern.2.1 41 = .ok (.iload 4, 2) := by decide +kernel
theorem d_M_pattern_43 : decode m_M_pattern.2.1 43 = .ok (.invokevirtual 139, 3) := by decide +kernel
theorem d_M_pattern_46 : decode m_M_pattern.2.1 46 = .ok (.istore 5, 2) := by decide +kernel
theorem d_M_pattern_48 : decode m_M_pattern.2.1 48 = .ok (.iload_n 3, 1) := by decide +kernel
theorem d_M_pattern_49 : decode m_M_pattern.2.1 49 = .ok (.iload 5, 2) := by decide +kernel
theorem d_M_pattern_51 : decode m_M_pattern.2.1 51 = .ok (.iload 4, 2) := by decide +kernel
theorem d_M_pattern_53 : decode m_M_pattern.2.1 53 = .ok (.if_icmp .ne 7, 3) := by decide +kernel
theorem d_M_pattern_56 : decode m_M_pattern.2.1 56 = .ok (.iconst 0, 1) := by decide +kernel
theorem d_M_pattern_57 : decode m_M_pattern.2.1 57 = .ok (.goto 11, 3) := by decide +kernel
theorem d_M_pattern_60 : decode m_M_pattern.2.1 60 = .ok (.aload_n 0, 1) := by decide +kernel
theorem d_M_pattern_61 : decode m_M_pattern.2.1 61 = .ok (.iload 4, 2) := by decide +kernel
theorem d_M_pattern_63 : decode m_M_pattern.2.1 63 = .ok (.iload 5, 2) := by decide +kernel
theorem d_M_pattern_65 : decode m_M_pattern.2.1 65 = .ok (.invokevirtual 136, 3) := by decide +kernel
theorem d_M_pattern_68 : decode m_M_pattern.2.1 68 = .ok (.iadd, 1) := by decide +kernel
theorem d_M_pattern_69 : decode m_M_pattern.2.1 69 = .ok (.istore_n 3, 1) := by decide +kernel
theorem d_M_pattern_70 : decode m_M_pattern.2.1 70 = .ok (.iinc 4 1, 3) := by decide +kernel
theorem d_M_pattern_73 : decode m_M_pattern.2.1 73 = .ok (.goto (-44), 3) := by decide +kernel
theorem d_M_pattern_76 : decode m_M_pattern.2.1 76 = .ok (.iload_n 3, 1) := by decide +kernel
theorem d_M_pattern_77 : decode m_M_pattern.2.1 77 = .ok (.ireturn, 1) := by decide +kernel
def f_M_pattern_68 (r29 : Int → Int → Int → Int → qMem → Option (Int × qMem)) (s0 s1 x1 x2 x4 : Int) (w : qMem) : Option (Int × qMem) :=
  r29 x1 x2 (w32 (s0 + s1)) (w32 (x4 + 1)) w
set_option maxRecDepth 4000 in
theorem s_M_pattern_68  {r29 : Int → Int → Int → Int → qMem → Option (Int × qMem)} (hr29 : ∀ x1 x2 x3 x4 w, qSim κI 100 100 m_M_pattern 29 [] [some (qR 88), some (qI x1), some (qI x2), some (qI x3), some (qI x4), none] w (r29 x1 x2 x3 x4 w)) : ∀ (s0 s1 x1 x2 x4 : Int) (w : qMem), qSim κI 100 100 m_M_pattern 68 [qI s1, qI s0] [some (qR 88), some (qI x1), some (qI x2), none, some (qI x4), none] w (f_M_pattern_68 r29 s0 s1 x1 x2 x4 w) := by
  intro s0 s1 x1 x2 x4 w
  unfold f_M_pattern_68
  refine z_iadd d_M_pattern_68 ?_
  refine z_istore_n (pls' := [some (qR 88), some (qI x1), some (qI x2), some (qI (w32 (s0 + s1))), some (qI x4), none]) d_M_pattern_69 (by decide) rfl rfl ?_
  refine z_iinc (pls' := [some (qR 88), some (qI x1), some (qI x2), some (qI (w32 (s0 + s1))), some (qI (w32 (x4 + 1))), none]) d_M_pattern_70 (by decide) rfl rfl rfl ?_
  refine z_goto (tgt := 29) d_M_pattern_73 rfl ?_
  refine z_mask [true, true, true, true, true, false] ?_
  exact hr29 _ _ _ _ _
def f_M_pattern_29 : Nat → Int → Int → Int → Int → qMem → Option (Int × qMem)
  | 0, _, _, _, _, _ => none
  | n + 1, x1, x2, x3, x4, w =>
    (f_M_nodes w).bind fun q1 =>
    if x4 < q1.1 then
    (f_M_patternTo x1 x2 x4 q1.2).bind fun q3 =>
    if q3.1 = x4 then
    f_M_pattern_68 (f_M_pattern_29 n) x3 0 x1 x2 x4 q3.2
    else
    (f_M_sendsOrNot x4 q3.1 q3.2).bind fun q5 =>
    f_M_pattern_68 (f_M_pattern_29 n) x3 q5.1 x1 x2 x4 q5.2
    else
    some (x3, q1.2)
set_option maxRecDepth 4000 in
theorem s_M_pattern_29  : ∀ (n : Nat), ∀ (x1 x2 x3 x4 : Int) (w : qMem), qSim κI 100 100 m_M_pattern 29 [] [some (qR 88), some (qI x1), some (qI x2), some (qI x3), some (qI x4), none] w (f_M_pattern_29 n x1 x2 x3 x4 w) := by
  intro n
  induction n with
  | zero => intro x1 x2 x3 x4 w; exact z_none
  | succ n ih =>
    intro x1 x2 x3 x4 w
    rw [f_M_pattern_29]
    refine z_iload d_M_pattern_29 rfl ?_
    refine z_aload_n d_M_pattern_31 rfl ?_
    refine z_cVI (as := []) (st := [qI x4]) (nl := 0) (ci := 10) d_M_pattern_32 lk_M_72 mk_M_nodes rfl rfl rfl rfl rfl rfl (s_M_nodes _) (fun q1 _ hq1 => ?_)
    refine z_icmp_ge (tgt := 76) d_M_pattern_35 rfl (fun c2 => ?_) (fun c2 => ?_)
    · refine z_aload_n d_M_pattern_38 rfl ?_
      refine z_iload_n d_M_pattern_39 rfl ?_
      refine z_iload_n d_M_pattern_40 rfl ?_
      refine z_iload d_M_pattern_41 rfl ?_
      refine z_cVI (as := [qI x1, qI x2, qI x4]) (st := []) (nl := 2) (ci := 10) d_M_pattern_43 lk_M_139 mk_M_patternTo rfl rfl rfl rfl rfl rfl (s_M_patternTo _ _ _ _) (fun q3 _ hq3 => ?_)
      refine z_istore (pls' := [some (qR 88), some (qI x1), some (qI x2), some (qI x3), some (qI x4), some (qI q3.1)]) d_M_pattern_46 (by decide) rfl rfl ?_
      refine z_iload_n d_M_pattern_48 rfl ?_
      refine z_iload d_M_pattern_49 rfl ?_
      refine z_iload d_M_pattern_51 rfl ?_
      refine z_icmp_ne (tgt := 60) d_M_pattern_53 rfl (fun c4 => ?_) (fun c4 => ?_)
      · refine z_ic0 d_M_pattern_56 ?_
        refine z_goto (tgt := 68) d_M_pattern_57 rfl ?_
        refine z_mask [true, true, true, false, true, false] ?_
        exact s_M_pattern_68 ih _ _ _ _ _ _
      · refine z_aload_n d_M_pattern_60 rfl ?_
        refine z_iload d_M_pattern_61 rfl ?_
        refine z_iload d_M_pattern_63 rfl ?_
        refine z_cVI (as := [qI x4, qI q3.1]) (st := [qI x3]) (nl := 1) (ci := 10) d_M_pattern_65 lk_M_136 mk_M_sendsOrNot rfl rfl rfl rfl rfl rfl (s_M_sendsOrNot _ _ _) (fun q5 _ hq5 => ?_)
        refine z_mask [true, true, true, false, true, false] ?_
        exact s_M_pattern_68 ih _ _ _ _ _ _
    · refine z_iload_n d_M_pattern_76 rfl ?_
      exact z_iret d_M_pattern_77 rfl rfl
def f_M_pattern_24 (x1 x2 : Int) (w : qMem) : Option (Int × qMem) :=
  f_M_pattern_29 qFU x1 x2 0 0 w
set_option maxRecDepth 4000 in
theorem s_M_pattern_24  : ∀ (x1 x2 : Int) (w : qMem), qSim κI 100 100 m_M_pattern 24 [] [some (qR 88), some (qI x1), some (qI x2), none, none, none] w (f_M_pattern_24 x1 x2 w) := by
  intro x1 x2 w
  unfold f_M_pattern_24
  refine z_ic0 d_M_pattern_24 ?_
  refine z_istore_n (pls' := [some (qR 88), some (qI x1), some (qI x2), some (qI 0), none, none]) d_M_pattern_25 (by decide) rfl rfl ?_
  refine z_ic0 d_M_pattern_26 ?_
  refine z_istore (pls' := [some (qR 88), some (qI x1), some (qI x2), some (qI 0), some (qI 0), none]) d_M_pattern_27 (by decide) rfl rfl ?_
  refine z_mask [true, true, true, true, true, false] ?_
  exact s_M_pattern_29 _ _ _ _ _ _
def f_M_pattern (x1 : Int) (x2 : Int) (w : qMem) : Option (Int × qMem) :=
  (f_M_isIn x1 0 4 w).bind fun q6 =>
  if q6.1 = 0 then
  some ((-1), q6.2)
  else
  if x1 = 4 then
  (f_M_isNode x2 q6.2).bind fun q9 =>
  if q9.1 = 0 then
  some ((-1), q9.2)
  else
  f_M_pattern_24 x1 x2 q9.2
  else
  f_M_pattern_24 x1 x2 q6.2
set_option maxRecDepth 4000 in
theorem s_M_pattern (x1 : Int) (x2 : Int) (w : qMem) : qSim κI 100 100 m_M_pattern 0 [] [some (qR 88), some (qI x1), some (qI x2), none, none, none] w (f_M_pattern x1 x2 w) := by
  unfold f_M_pattern
  refine z_iload_n d_M_pattern_0 rfl ?_
  refine z_ic0 d_M_pattern_1 ?_
  refine z_ic4 d_M_pattern_2 ?_
  refine z_cSI (av := [qI x1, qI 0, qI 4]) (st := []) (nl := 0) d_M_pattern_3 lk_M_68 mk_M_isIn rfl rfl rfl (s_M_isIn _ _ _ _) (fun q6 _ hq6 => ?_)
  refine z_if_eq (tgt := 22) d_M_pattern_6 rfl (fun c7 => ?_) (fun c7 => ?_)
  · refine z_icm1 d_M_pattern_22 ?_
    exact z_iret d_M_pattern_23 rfl rfl
  · refine z_iload_n d_M_pattern_9 rfl ?_
    refine z_ic4 d_M_pattern_10 ?_
    refine z_icmp_ne (tgt := 24) d_M_pattern_11 rfl (fun c8 => ?_) (fun c8 => ?_)
    · refine z_aload_n d_M_pattern_14 rfl ?_
      refine z_iload_n d_M_pattern_15 rfl ?_
      refine z_cVI (as := [qI x2]) (st := []) (nl := 0) (ci := 10) d_M_pattern_16 lk_M_92 mk_M_isNode rfl rfl rfl rfl rfl rfl (s_M_isNode _ _) (fun q9 _ hq9 => ?_)
      refine z_if_ne (tgt := 24) d_M_pattern_19 rfl (fun c10 => ?_) (fun c10 => ?_)
      · refine z_icm1 d_M_pattern_22 ?_
        exact z_iret d_M_pattern_23 rfl rfl
      · refine z_mask [true, true, true, false, false, false] ?_
        exact s_M_pattern_24 _ _ _
    · refine z_mask [true, true, true, false, false, false] ?_
      exact s_M_pattern_24 _ _ _
/-! BubbleTorusModel.bound -/
theorem d_M_bound_0 : decode m_M_bound.2.1 0 = .ok (.iload_n 1, 1) := by decide +kernel
theorem d_M_bound_1 : decode m_M_bound.2.1 1 = .ok (.iconst 0, 1) := by decide +kernel
theorem d_M_bound_2 : decode m_M_bound.2.1 2 = .ok (.bipush 99, 2) := by decide +kernel
theorem d_M_bound_4 : decode m_M_bound.2.1 4 = .ok (.invokestatic 68, 3) := by decide +kernel
theorem d_M_bound_7 : decode m_M_bound.2.1 7 = .ok (.ifCond .ne 5, 3) := by decide +kernel
theorem d_M_bound_10 : decode m_M_bound.2.1 10 = .ok (.iconst 0, 1) := by decide +kernel
theorem d_M_bound_11 : decode m_M_bound.2.1 11 = .ok (.ireturn, 1) := by decide +kernel
theorem d_M_bound_12 : decode m_M_bound.2.1 12 = .ok (.aload_n 0, 1) := by decide +kernel
theorem d_M_bound_13 : decode m_M_bound.2.1 13 = .ok (.getfield 7, 3) := by decide +kernel
theorem d_M_bound_16 : decode m_M_bound.2.1 16 = .ok (.iconst 5, 1) := by decide +kernel
theorem d_M_bound_17 : decode m_M_bound.2.1 17 = .ok (.iload_n 1, 1) := by decide +kernel
theorem d_M_bound_18 : decode m_M_bound.2.1 18 = .ok (.iastore, 1) := by decide +kernel
theorem d_M_bound_19 : decode m_M_bound.2.1 19 = .ok (.iconst 1, 1) := by decide +kernel
theorem d_M_bound_20 : decode m_M_bound.2.1 20 = .ok (.ireturn, 1) := by decide +kernel
def f_M_bound (x1 : Int) (w : qMem) : Option (Int × qMem) :=
  (f_M_isIn x1 0 99 w).bind fun q1 =>
  if q1.1 = 0 then
  some (0, q1.2)
  else
  qst q1.2 89 5898 5 x1 fun w3 =>
  some (1, w3)
set_option maxRecDepth 4000 in
theorem s_M_bound (x1 : Int) (w : qMem) : qSim κI 100 100 m_M_bound 0 [] [some (qR 88), some (qI x1)] w (f_M_bound x1 w) := by
  unfold f_M_bound
  refine z_iload_n d_M_bound_0 rfl ?_
  refine z_ic0 d_M_bound_1 ?_
  refine z_bipush d_M_bound_2 ⟨by decide, by decide⟩ ?_
  refine z_cSI (av := [qI x1, qI 0, qI 99]) (st := []) (nl := 0) d_M_bound_4 lk_M_68 mk_M_isIn rfl rfl rfl (s_M_isIn _ _ _ _) (fun q1 _ hq1 => ?_)
  refine z_if_ne (tgt := 12) d_M_bound_7 rfl (fun c2 => ?_) (fun c2 => ?_)
  · refine z_ic0 d_M_bound_10 ?_
    exact z_zret d_M_bound_11 rfl rfl (Or.inl rfl)
  · refine z_aload_n d_M_bound_12 rfl ?_
    refine z_gr (ci := 10) (j := 0) (d := 1) (o2 := 89) d_M_bound_13 rfl fl_M_7 rfl (Nat.le_of_ble_eq_true rfl) rfl rfl ?_
    refine z_ic5 d_M_bound_16 ?_
    refine z_iload_n d_M_bound_17 rfl ?_
    refine z_is d_M_bound_18 rfl rfl (fun w3 => ?_)
    refine z_ic1 d_M_bound_19 ?_
    exact z_zret d_M_bound_20 rfl rfl (Or.inr rfl)
/-! BubbleTorusModel.isOvertaken -/
theorem d_M_isOvertaken_0 : decode m_M_isOvertaken.2.1 0 = .ok (.iload_n 1, 1) := by decide +kernel
theorem d_M_isOvertaken_1 : decode m_M_isOvertaken.2.1 1 = .ok (.iconst 1, 1) := by decide +kernel
theorem d_M_isOvertaken_2 : decode m_M_isOvertaken.2.1 2 = .ok (.iadd, 1) := by decide +kernel
theorem d_M_isOvertaken_3 : decode m_M_isOvertaken.2.1 3 = .ok (.istore_n 2, 1) := by decide +kernel
theorem d_M_isOvertaken_4 : decode m_M_isOvertaken.2.1 4 = .ok (.iload_n 2, 1) := by decide +kernel
theorem d_M_isOvertaken_5 : decode m_M_isOvertaken.2.1 5 = .ok (.aload_n 0, 1) := by decide +kernel
theorem d_M_isOvertaken_6 : decode m_M_isOvertaken.2.1 6 = .ok (.getfield 7, 3) := by decide +kernel
theorem d_M_isOvertaken_9 : decode m_M_isOvertaken.2.1 9 = .ok (.bipush 7, 2) := by decide +kernel
theorem d_M_isOvertaken_11 : decode m_M_isOvertaken.2.1 11 = .ok (.iaload, 1) := by decide +kernel
theorem d_M_isOvertaken_12 : decode m_M_isOvertaken.2.1 12 = .ok (.if_icmp .ge 52, 3) := by decide +kernel
theorem d_M_isOvertaken_15 : decode m_M_isOvertaken.2.1 15 = .ok (.aload_n 0, 1) := by decide +kernel
theorem d_M_isOvertaken_16 : decode m_M_isOvertaken.2.1 16 = .ok (.iload_n 2, 1) := by decide +kernel
theorem d_M_isOvertaken_17 : decode m_M_isOvertaken.2.1 17 = .ok (.iconst 0, 1) := by decide +kernel
theorem d_M_isOvertaken_18 : decode m_M_isOvertaken.2.1 18 = .ok (.invokevirtual 142, 3) := by decide +kernel
theorem d_M_isOvertaken_21 : decode m_M_isOvertaken.2.1 21 = .ok (.aload_n 0, 1) := by decide +kernel
theorem d_M_isOvertaken_22 : decode m_M_isOvertaken.2.1 22 = .ok (.iload_n 1, 1) := by decide +kernel
theorem d_M_isOvertaken_23 : decode m_M_isOvertaken.2.1 23 = .ok (.iconst 0, 1) := by decide +kernel
theorem d_M_isOvertaken_24 : decode m_M_isOvertaken.2.1 24 = .ok (.invokevirtual 142, 3) := by decide +kernel
theorem d_M_isOvertaken_27 : decode m_M_isOvertaken.2.1 27 = .ok (.if_icmp .ne 31, 3) := by decide +kernel
theorem d_M_isOvertaken_30 : decode m_M_isOvertaken.2.1 30 = .ok (.aload_n 0, 1) := by decide +kernel
theorem d_M_isOvertaken_31 : decode m_M_isOvertaken.2.1 31 = .ok (.iload_n 2, 1) := by decide +kernel
theorem d_M_isOvertaken_32 : decode m_M_isOvertaken.2.1 32 = .ok (.iconst 1, 1) := by decide +kernel
theorem d_M_isOvertaken_33 : decode m_M_isOvertaken.2.1 33 = .ok (.invokevirtual 142, 3) := by decide +kernel
theorem d_M_isOvertaken_36 : decode m_M_isOvertaken.2.1 36 = .ok (.aload_n 0, 1) := by decide +kernel
theorem d_M_isOvertaken_37 : decode m_M_isOvertaken.2.1 37 = .ok (.iload_n 1, 1) := by decide +kernel
theorem d_M_isOvertaken_38 : decode m_M_isOvertaken.2.1 38 = .ok (.iconst 1, 1) := by decide +kernel
theorem d_M_isOvertaken_39 : decode m_M_isOvertaken.2.1 39 = .ok (.invokevirtual 142, 3) := by decide +kernel
theorem d_M_isOvertaken_42 : decode m_M_isOvertaken.2.1 42 = .ok (.if_icmp .ne 16, 3) := by decide +kernel
theorem d_M_isOvertaken_45 : decode m_M_isOvertaken.2.1 45 = .ok (.aload_n 0, 1) := by decide +kernel
theorem d_M_isOvertaken_46 : decode m_M_isOvertaken.2.1 46 = .ok (.iload_n 2, 1) := by decide +kernel
theorem d_M_isOvertaken_47 : decode m_M_isOvertaken.2.1 47 = .ok (.bipush 7, 2) := by decide +kernel
theorem d_M_isOvertaken_49 : decode m_M_isOvertaken.2.1 49 = .ok (.invokevirtual 142, 3) := by decide +kernel
theorem d_M_isOvertaken_52 : decode m_M_isOvertaken.2.1 52 = .ok (.iconst (-1), 1) := by decide +kernel
theorem d_M_isOvertaken_53 : decode m_M_isOvertaken.2.1 53 = .ok (.if_icmp .eq 5, 3) := by decide +kernel
theorem d_M_isOvertaken_56 : decode m_M_isOvertaken.2.1 56 = .ok (.iconst 1, 1) := by decide +kernel
theorem d_M_isOvertaken_57 : decode m_M_isOvertaken.2.1 57 = .ok (.ireturn, 1) := by decide +kernel
theorem d_M_isOvertaken_58 : decode m_M_isOvertaken.2.1 58 = .ok (.iinc 2 1, 3) := by decide +kernel
theorem d_M_isOvertaken_61 : decode m_M_isOvertaken.2.1 61 = .ok (.goto (-57), 3) := by decide +kernel
theorem d_M_isOvertaken_64 : decode m_M_isOvertaken.2.1 64 = .ok (.iconst 0, 1) := by decide +kernel
theorem d_M_isOvertaken_65 : decode m_M_isOvertaken.2.1 65 = .ok (.ireturn, 1) := by decide +kernel
def f_M_isOvertaken_4 : Nat → Int → Int → qMem → Option (Int × qMem)
  | 0, _, _, _ => none
  | n + 1, x1, x2, w =>
    qld w 89 5898 7 fun v1 =>
    if x2 < v1 then
    (f_M_of x2 0 w).bind fun q3 =>
    (f_M_of x1 0 q3.2).bind fun q4 =>
    if q3.1 = q4.1 then
    (f_M_of x2 1 q4.2).bind fun q6 =>
    (f_M_of x1 1 q6.2).bind fun q7 =>
    if q6.1 = q7.1 then
    (f_M_of x2 7 q7.2).bind fun q9 =>
    if q9.1 = (-1) then
    (f_M_isOvertaken_4 n) x1 (w32 (x2 + 1)) q9.2
    else
    some (1, q9.2)
    else
    (f_M_isOvertaken_4 n) x1 (w32 (x2 + 1)) q7.2
    else
    (f_M_isOvertaken_4 n) x1 (w32 (x2 + 1)) q4.2
    else
    some (0, w)
set_option maxRecDepth 4000 in
theorem s_M_isOvertaken_4  : ∀ (n : Nat), ∀ (x1 x2 : Int) (w : qMem), qSim κI 100 100 m_M_isOvertaken 4 [] [some (qR 88), some (qI x1), some (qI x2)] w (f_M_isOvertaken_4 n x1 x2 w) := by
  intro n
  induction n with
  | zero => intro x1 x2 w; exact z_none
  | succ n ih =>
    intro x1 x2 w
    rw [f_M_isOvertaken_4]
    refine z_iload_n d_M_isOvertaken_4 rfl ?_
    refine z_aload_n d_M_isOvertaken_5 rfl ?_
    refine z_gr (ci := 10) (j := 0) (d := 1) (o2 := 89) d_M_isOvertaken_6 rfl fl_M_7 rfl (Nat.le_of_ble_eq_true rfl) rfl rfl ?_
    refine z_bipush d_M_isOvertaken_9 ⟨by decide, by decide⟩ ?_
    refine z_il d_M_isOvertaken_11 rfl rfl (fun v1 => ?_)
    refine z_icmp_ge (tgt := 64) d_M_isOvertaken_12 rfl (fun c2 => ?_) (fun c2 => ?_)
    · refine z_aload_n d_M_isOvertaken_15 rfl ?_
      refine z_iload_n d_M_isOvertaken_16 rfl ?_
      refine z_ic0 d_M_isOvertaken_17 ?_
      refine z_cVI (as := [qI x2, qI 0]) (st := []) (nl := 0) (ci := 10) d_M_isOvertaken_18 lk_M_142 mk_M_of rfl rfl rfl rfl rfl rfl (s_M_of _ _ _) (fun q3 _ hq3 => ?_)
      refine z_aload_n d_M_isOvertaken_21 rfl ?_
      refine z_iload_n d_M_isOvertaken_22 rfl ?_
      refine z_ic0 d_M_isOvertaken_23 ?_
      refine z_cVI (as := [qI x1, qI 0]) (st := [qI q3.1]) (nl := 0) (ci := 10) d_M_isOvertaken_24 lk_M_142 mk_M_of rfl rfl rfl rfl rfl rfl (s_M_of _ _ _) (fun q4 _ hq4 => ?_)
      refine z_icmp_ne (tgt := 58) d_M_isOvertaken_27 rfl (fun c5 => ?_) (fun c5 => ?_)
      · refine z_aload_n d_M_isOvertaken_30 rfl ?_
        refine z_iload_n d_M_isOvertaken_31 rfl ?_
        refine z_ic1 d_M_isOvertaken_32 ?_
        refine z_cVI (as := [qI x2, qI 1]) (st := []) (nl := 0) (ci := 10) d_M_isOvertaken_33 lk_M_142 mk_M_of rfl rfl rfl rfl rfl rfl (s_M_of _ _ _) (fun q6 _ hq6 => ?_)
        refine z_aload_n d_M_isOvertaken_36 rfl ?_
        refine z_iload_n d_M_isOvertaken_37 rfl ?_
        refine z_ic1 d_M_isOvertaken_38 ?_
        refine z_cVI (as := [qI x1, qI 1]) (st := [qI q6.1]) (nl := 0) (ci := 10) d_M_isOvertaken_39 lk_M_142 mk_M_of rfl rfl rfl rfl rfl rfl (s_M_of _ _ _) (fun q7 _ hq7 => ?_)
        refine z_icmp_ne (tgt := 58) d_M_isOvertaken_42 rfl (fun c8 => ?_) (fun c8 => ?_)
        · refine z_aload_n d_M_isOvertaken_45 rfl ?_
          refine z_iload_n d_M_isOvertaken_46 rfl ?_
          refine z_bipush d_M_isOvertaken_47 ⟨by decide, by decide⟩ ?_
          refine z_cVI (as := [qI x2, qI 7]) (st := []) (nl := 0) (ci := 10) d_M_isOvertaken_49 lk_M_142 mk_M_of rfl rfl rfl rfl rfl rfl (s_M_of _ _ _) (fun q9 _ hq9 => ?_)
          refine z_icm1 d_M_isOvertaken_52 ?_
          refine z_icmp_eq (tgt := 58) d_M_isOvertaken_53 rfl (fun c10 => ?_) (fun c10 => ?_)
          · refine z_iinc (pls' := [some (qR 88), some (qI x1), some (qI (w32 (x2 + 1)))]) d_M_isOvertaken_58 (by decide) rfl rfl rfl ?_
            refine z_goto (tgt := 4) d_M_isOvertaken_61 rfl ?_
            refine z_mask [true, true, true] ?_
            exact ih _ _ _
          · refine z_ic1 d_M_isOvertaken_56 ?_
            exact z_zret d_M_isOvertaken_57 rfl rfl (Or.inr rfl)
        · refine z_iinc (pls' := [some (qR 88), some (qI x1), some (qI (w32 (x2 + 1)))]) d_M_isOvertaken_58 (by decide) rfl rfl rfl ?_
          refine z_goto (tgt := 4) d_M_isOvertaken_61 rfl ?_
          refine z_mask [true, true, true] ?_
          exact ih _ _ _
      · refine z_iinc (pls' := [some (qR 88), some (qI x1), some (qI (w32 (x2 + 1)))]) d_M_isOvertaken_58 (by decide) rfl rfl rfl ?_
        refine z_goto (tgt := 4) d_M_isOvertaken_61 rfl ?_
        refine z_mask [true, true, true] ?_
        exact ih _ _ _
    · refine z_ic0 d_M_isOvertaken_64 ?_
      exact z_zret d_M_isOvertaken_65 rfl rfl (Or.inl rfl)
def f_M_isOvertaken (x1 : Int) (w : qMem) : Option (Int × qMem) :=
  f_M_isOvertaken_4 qFU x1 (w32 (x1 + 1)) w
set_option maxRecDepth 4000 in
theorem s_M_isOvertaken (x1 : Int) (w : qMem) : qSim κI 100 100 m_M_isOvertaken 0 [] [some (qR 88), some (qI x1), none] w (f_M_isOvertaken x1 w) := by
  unfold f_M_isOvertaken
  refine z_iload_n d_M_isOvertaken_0 rfl ?_
  refine z_ic1 d_M_isOvertaken_1 ?_
  refine z_iadd d_M_isOvertaken_2 ?_
  refine z_istore_n (pls' := [some (qR 88), some (qI x1), some (qI (w32 (x1 + 1)))]) d_M_isOvertaken_3 (by decide) rfl rfl ?_
  refine z_mask [true, true, true] ?_
  exact s_M_isOvertaken_4 _ _ _ _
/-! BubbleTorusModel.delivers -/
theorem d_M_delivers_0 : decode m_M_delivers.2.1 0 = .ok (.aload_n 0, 1) := by decide +kernel
theorem d_M_delivers_1 : decode m_M_delivers.2.1 1 = .ok (.iload_n 1, 1) := by decide +kernel
theorem d_M_delivers_2 : decode m_M_delivers.2.1 2 = .ok (.iload_n 2, 1) := by decide +kernel
theorem d_M_delivers_3 : decode m_M_delivers.2.1 3 = .ok (.invokevirtual 145, 3) := by decide +kernel
theorem d_M_delivers_6 : decode m_M_delivers.2.1 6 = .ok (.istore_n 3, 1) := by decide +kernel
theorem d_M_delivers_7 : decode m_M_delivers.2.1 7 = .ok (.iload_n 3, 1) := by decide +kernel
theorem d_M_delivers_8 : decode m_M_delivers.2.1 8 = .ok (.iconst (-1), 1) := by decide +kernel
theorem d_M_delivers_9 : decode m_M_delivers.2.1 9 = .ok (.if_icmp .eq 13, 3) := by decide +kernel
theorem d_M_delivers_12 : decode m_M_delivers.2.1 12 = .ok (.aload_n 0, 1) := by decide +kernel
theorem d_M_delivers_13 : decode m_M_delivers.2.1 13 = .ok (.iload_n 3, 1) := by decide +kernel
theorem d_M_delivers_14 : decode m_M_delivers.2.1 14 = .ok (.iconst 1, 1) := by decide +kernel
theorem d_M_delivers_15 : decode m_M_delivers.2.1 15 = .ok (.invokevirtual 142, 3) := by decide +kernel
theorem d_M_delivers_18 : decode m_M_delivers.2.1 18 = .ok (.iload_n 1, 1) := by decide +kernel
theorem d_M_delivers_19 : decode m_M_delivers.2.1 19 = .ok (.if_icmp .eq 4, 3) := by decide +kernel
theorem d_M_delivers_22 : decode m_M_delivers.2.1 22 = .ok (.return_, 1) := by decide +kernel
theorem d_M_delivers_23 : decode m_M_delivers.2.1 23 = .ok (.aload_n 0, 1) := by decide +kernel
theorem d_M_delivers_24 : decode m_M_delivers.2.1 24 = .ok (.iload_n 1, 1) := by decide +kernel
theorem d_M_delivers_25 : decode m_M_delivers.2.1 25 = .ok (.iload_n 2, 1) := by decide +kernel
theorem d_M_delivers_26 : decode m_M_delivers.2.1 26 = .ok (.invokevirtual 148, 3) := by decide +kernel
theorem d_M_delivers_29 : decode m_M_delivers.2.1 29 = .ok (.iload_n 3, 1) := by decide +kernel
theorem d_M_delivers_30 : decode m_M_delivers.2.1 30 = .ok (.invokestatic 114, 3) := by decide +kernel
theorem d_M_delivers_33 : decode m_M_delivers.2.1 33 = .ok (.istore 4, 2) := by decide +kernel
theorem d_M_delivers_35 : decode m_M_delivers.2.1 35 = .ok (.aload_n 0, 1) := by decide +kernel
theorem d_M_delivers_36 : decode m_M_delivers.2.1 36 = .ok (.getfield 7, 3) := by decide +kernel
theorem d_M_delivers_39 : decode m_M_delivers.2.1 39 = .ok (.iload 4, 2) := by decide +kernel
theorem d_M_delivers_41 : decode m_M_delivers.2.1 41 = .ok (.bipush 9, 2) := by decide +kernel
theorem d_M_delivers_43 : decode m_M_delivers.2.1 43 = .ok (.iadd, 1) := by decide +kernel
theorem d_M_delivers_44 : decode m_M_delivers.2.1 44 = .ok (.aload_n 0, 1) := by decide +kernel
theorem d_M_delivers_45 : decode m_M_delivers.2.1 45 = .ok (.iload_n 3, 1) := by decide +kernel
theorem d_M_delivers_46 : decode m_M_delivers.2.1 46 = .ok (.invokevirtual 152, 3) := by decide +kernel
theorem d_M_delivers_49 : decode m_M_delivers.2.1 49 = .ok (.ifCond .eq 7, 3) := by decide +kernel
theorem d_M_delivers_52 : decode m_M_delivers.2.1 52 = .ok (.iconst 1, 1) := by decide +kernel
theorem d_M_delivers_53 : decode m_M_delivers.2.1 53 = .ok (.goto 4, 3) := by decide +kernel
theorem d_M_delivers_56 : decode m_M_delivers.2.1 56 = .ok (.iconst 0, 1) := by decide +kernel
theorem d_M_delivers_57 : decode m_M_delivers.2.1 57 = .ok (.iastore, 1) := by decide +kernel
theorem d_M_delivers_58 : decode m_M_delivers.2.1 58 = .ok (.aload_n 0, 1) := by decide +kernel
theorem d_M_delivers_59 : decode m_M_delivers.2.1 59 = .ok (.getfield 7, 3) := by decide +kernel
theorem d_M_delivers_62 : decode m_M_delivers.2.1 62 = .ok (.iload 4, 2) := by decide +kernel
theorem d_M_delivers_64 : decode m_M_delivers.2.1 64 = .ok (.bipush 7, 2) := by decide +kernel
theorem d_M_delivers_66 : decode m_M_delivers.2.1 66 = .ok (.iadd, 1) := by decide +kernel
theorem d_M_delivers_67 : decode m_M_delivers.2.1 67 = .ok (.aload_n 0, 1) := by decide +kernel
theorem d_M_delivers_68 : decode m_M_delivers.2.1 68 = .ok (.getfield 7, 3) := by decide +kernel
theorem d_M_delivers_71 : decode m_M_delivers.2.1 71 = .ok (.bipush 6, 2) := by decide +kernel
theorem d_M_delivers_73 : decode m_M_delivers.2.1 73 = .ok (.iaload, 1) := by decide +kernel
theorem d_M_delivers_74 : decode m_M_delivers.2.1 74 = .ok (.iastore, 1) := by decide +kernel
theorem d_M_delivers_75 : decode m_M_delivers.2.1 75 = .ok (.aload_n 0, 1) := by decide +kernel
theorem d_M_delivers_76 : decode m_M_delivers.2.1 76 = .ok (.getfield 7, 3) := by decide +kernel
theorem d_M_delivers_79 : decode m_M_delivers.2.1 79 = .ok (.iload 4, 2) := by decide +kernel
theorem d_M_delivers_81 : decode m_M_delivers.2.1 81 = .ok (.iconst 3, 1) := by decide +kernel
theorem d_M_delivers_82 : decode m_M_delivers.2.1 82 = .ok (.iadd, 1) := by decide +kernel
theorem d_M_delivers_83 : decode m_M_delivers.2.1 83 = .ok (.iconst 3, 1) := by decide +kernel
theorem d_M_delivers_84 : decode m_M_delivers.2.1 84 = .ok (.iastore, 1) := by decide +kernel
theorem d_M_delivers_85 : decode m_M_delivers.2.1 85 = .ok (.aload_n 0, 1) := by decide +kernel
theorem d_M_delivers_86 : decode m_M_delivers.2.1 86 = .ok (.getfield 7, 3) := by decide +kernel
theorem d_M_delivers_89 : decode m_M_delivers.2.1 89 = .ok (.bipush 13, 2) := by decide +kernel
theorem d_M_delivers_91 : decode m_M_delivers.2.1 91 = .ok (.dup2, 1) := by decide +kernel
theorem d_M_delivers_92 : decode m_M_delivers.2.1 92 = .ok (.iaload, 1) := by decide +kernel
theorem d_M_delivers_93 : decode m_M_delivers.2.1 93 = .ok (.aload_n 0, 1) := by decide +kernel
theorem d_M_delivers_94 : decode m_M_delivers.2.1 94 = .ok (.getfield 7, 3) := by decide +kernel
theorem d_M_delivers_97 : decode m_M_delivers.2.1 97 = .ok (.iload 4, 2) := by decide +kernel
theorem d_M_delivers_99 : decode m_M_delivers.2.1 99 = .ok (.bipush 9, 2) := by decide +kernel
theorem d_M_delivers_101 : decode m_M_delivers.2.1 101 = .ok (.iadd, 1) := by decide +kernel
theorem d_M_delivers_102 : decode m_M_delivers.2.1 102 = .ok (.iaload, 1) := by decide +kernel
theorem d_M_delivers_103 : decode m_M_delivers.2.1 103 = .ok (.iadd, 1) := by decide +kernel
theorem d_M_delivers_104 : decode m_M_delivers.2.1 104 = .ok (.iastore, 1) := by decide +kernel
theorem d_M_delivers_105 : decode m_M_delivers.2.1 105 = .ok (.aload_n 0, 1) := by decide +kernel
theorem d_M_delivers_106 : decode m_M_delivers.2.1 106 = .ok (.getfield 7, 3) := by decide +kernel
theorem d_M_delivers_109 : decode m_M_delivers.2.1 109 = .ok (.bipush 8, 2) := by decide +kernel
theorem d_M_delivers_111 : decode m_M_delivers.2.1 111 = .ok (.dup2, 1) := by decide +kernel
theorem d_M_delivers_112 : decode m_M_delivers.2.1 112 = .ok (.iaload, 1) := by decide +kernel
theorem d_M_delivers_113 : decode m_M_delivers.2.1 113 = .ok (.iconst 1, 1) := by decide +kernel
theorem d_M_delivers_114 : decode m_M_delivers.2.1 114 = .ok (.iadd, 1) := by decide +kernel
theorem d_M_delivers_115 : decode m_M_delivers.2.1 115 = .ok (.iastore, 1) := by decide +kernel
theorem d_M_delivers_116 : decode m_M_delivers.2.1 116 = .ok (.aload_n 0, 1) := by decide +kernel
theorem d_M_delivers_117 : decode m_M_delivers.2.1 117 = .ok (.getfield 7, 3) := by decide +kernel
theorem d_M_delivers_120 : decode m_M_delivers.2.1 120 = .ok (.bipush 9, 2) := by decide +kernel
theorem d_M_delivers_122 : decode m_M_delivers.2.1 122 = .ok (.dup2, 1) := by decide +kernel
theorem d_M_delivers_123 : decode m_M_delivers.2.1 123 = .ok (.iaload, 1) := by decide +kernel
theorem d_M_delivers_124 : decode m_M_delivers.2.1 124 = .ok (.aload_n 0, 1) := by decide +kernel
theorem d_M_delivers_125 : decode m_M_delivers.2.1 125 = .ok (.getfield 7, 3) := by decide +kernel
theorem d_M_delivers_128 : decode m_M_delivers.2.1 128 = .ok (.bipush 6, 2) := by decide +kernel
theorem d_M_delivers_130 : decode m_M_delivers.2.1 130 = .ok (.iaload, 1) := by decide +kernel
theorem d_M_delivers_131 : decode m_M_delivers.2.1 131 = .ok (.aload_n 0, 1) := by decide +kernel
theorem d_M_delivers_132 : decode m_M_delivers.2.1 132 = .ok (.getfield 7, 3) := by decide +kernel
theorem d_M_delivers_135 : decode m_M_delivers.2.1 135 = .ok (.iload 4, 2) := by decide +kernel
theorem d_M_delivers_137 : decode m_M_delivers.2.1 137 = .ok (.iconst 2, 1) := by decide +kernel
theorem d_M_delivers_138 : decode m_M_delivers.2.1 138 = .ok (.iadd, 1) := by decide +kernel
theorem d_M_delivers_139 : decode m_M_delivers.2.1 139 = .ok (.iaload, 1) := by decide +kernel
theorem d_M_delivers_140 : decode m_M_delivers.2.1 140 = .ok (.isub, 1) := by decide +kernel
theorem d_M_delivers_141 : decode m_M_delivers.2.1 141 = .ok (.iadd, 1) := by decide +kernel
theorem d_M_delivers_142 : decode m_M_delivers.2.1 142 = .ok (.iastore, 1) := by decide +kernel
theorem d_M_delivers_143 : decode m_M_delivers.2.1 143 = .ok (.return_, 1) := by decide +kernel
def f_M_delivers_57 (s1 s2 x4 : Int) (w : qMem) : Option (qMem) :=
  qst w 89 5898 s1 s2 fun w1 =>
  qld w1 89 5898 6 fun v2 =>
  qst w1 89 5898 (w32 (x4 + 7)) v2 fun w3 =>
  qst w3 89 5898 (w32 (x4 + 3)) 3 fun w4 =>
  qld w4 89 5898 13 fun v5 =>
  qld w4 89 5898 (w32 (x4 + 9)) fun v6 =>
  qst w4 89 5898 13 (w32 (v5 + v6)) fun w7 =>
  qld w7 89 5898 8 fun v8 =>
  qst w7 89 5898 8 (w32 (v8 + 1)) fun w9 =>
  qld w9 89 5898 9 fun v10 =>
  qld w9 89 5898 6 fun v11 =>
  qld w9 89 5898 (w32 (x4 + 2)) fun v12 =>
  qst w9 89 5898 9 (w32 (v10 + (w32 (v11 - v12)))) fun w13 =>
  some w13
set_option maxRecDepth 4000 in
theorem s_M_delivers_57  : ∀ (s1 s2 x4 : Int) (w : qMem), (s2 = 0 ∨ s2 = 1) → qSim κV 100 100 m_M_delivers 57 [qI s2, qI s1, qR 89] [some (qR 88), none, none, none, some (qI x4)] w (f_M_delivers_57 s1 s2 x4 w) := by
  intro s1 s2 x4 w hs2
  unfold f_M_delivers_57
  refine z_is d_M_delivers_57 rfl rfl (fun w1 => ?_)
  refine z_aload_n d_M_delivers_58 rfl ?_
  refine z_gr (ci := 10) (j := 0) (d := 1) (o2 := 89) d_M_delivers_59 rfl fl_M_7 rfl (Nat.le_of_ble_eq_true rfl) rfl rfl ?_
  refine z_iload d_M_delivers_62 rfl ?_
  refine z_bipush d_M_delivers_64 ⟨by decide, by decide⟩ ?_
  refine z_iadd d_M_delivers_66 ?_
  refine z_aload_n d_M_delivers_67 rfl ?_
  refine z_gr (ci := 10) (j := 0) (d := 1) (o2 := 89) d_M_delivers_68 rfl fl_M_7 rfl (Nat.le_of_ble_eq_true rfl) rfl rfl ?_
  refine z_bipush d_M_delivers_71 ⟨by decide, by decide⟩ ?_
  refine z_il d_M_delivers_73 rfl rfl (fun v2 => ?_)
  refine z_is d_M_delivers_74 rfl rfl (fun w3 => ?_)
  refine z_aload_n d_M_delivers_75 rfl ?_
  refine z_gr (ci := 10) (j := 0) (d := 1) (o2 := 89) d_M_delivers_76 rfl fl_M_7 rfl (Nat.le_of_ble_eq_true rfl) rfl rfl ?_
  refine z_iload d_M_delivers_79 rfl ?_
  refine z_ic3 d_M_delivers_81 ?_
  refine z_iadd d_M_delivers_82 ?_
  refine z_ic3 d_M_delivers_83 ?_
  refine z_is d_M_delivers_84 rfl rfl (fun w4 => ?_)
  refine z_aload_n d_M_delivers_85 rfl ?_
  refine z_gr (ci := 10) (j := 0) (d := 1) (o2 := 89) d_M_delivers_86 rfl fl_M_7 rfl (Nat.le_of_ble_eq_true rfl) rfl rfl ?_
  refine z_bipush d_M_delivers_89 ⟨by decide, by decide⟩ ?_
  refine z_dup2 d_M_delivers_91 rfl rfl ?_
  refine z_il d_M_delivers_92 rfl rfl (fun v5 => ?_)
  refine z_aload_n d_M_delivers_93 rfl ?_
  refine z_gr (ci := 10) (j := 0) (d := 1) (o2 := 89) d_M_delivers_94 rfl fl_M_7 rfl (Nat.le_of_ble_eq_true rfl) rfl rfl ?_
  refine z_iload d_M_delivers_97 rfl ?_
  refine z_bipush d_M_delivers_99 ⟨by decide, by decide⟩ ?_
  refine z_iadd d_M_delivers_101 ?_
  refine z_il d_M_delivers_102 rfl rfl (fun v6 => ?_)
  refine z_iadd d_M_delivers_103 ?_
  refine z_is d_M_delivers_104 rfl rfl (fun w7 => ?_)
  refine z_aload_n d_M_delivers_105 rfl ?_
  refine z_gr (ci := 10) (j := 0) (d := 1) (o2 := 89) d_M_delivers_106 rfl fl_M_7 rfl (Nat.le_of_ble_eq_true rfl) rfl rfl ?_
  refine z_bipush d_M_delivers_109 ⟨by decide, by decide⟩ ?_
  refine z_dup2 d_M_delivers_111 rfl rfl ?_
  refine z_il d_M_delivers_112 rfl rfl (fun v8 => ?_)
  refine z_ic1 d_M_delivers_113 ?_
  refine z_iadd d_M_delivers_114 ?_
  refine z_is d_M_delivers_115 rfl rfl (fun w9 => ?_)
  refine z_aload_n d_M_delivers_116 rfl ?_
  refine z_gr (ci := 10) (j := 0) (d := 1) (o2 := 89) d_M_delivers_117 rfl fl_M_7 rfl (Nat.le_of_ble_eq_true rfl) rfl rfl ?_
  refine z_bipush d_M_delivers_120 ⟨by decide, by decide⟩ ?_
  refine z_dup2 d_M_delivers_122 rfl rfl ?_
  refine z_il d_M_delivers_123 rfl rfl (fun v10 => ?_)
  refine z_aload_n d_M_delivers_124 rfl ?_
  refine z_gr (ci := 10) (j := 0) (d := 1) (o2 := 89) d_M_delivers_125 rfl fl_M_7 rfl (Nat.le_of_ble_eq_true rfl) rfl rfl ?_
  refine z_bipush d_M_delivers_128 ⟨by decide, by decide⟩ ?_
  refine z_il d_M_delivers_130 rfl rfl (fun v11 => ?_)
  refine z_aload_n d_M_delivers_131 rfl ?_
  refine z_gr (ci := 10) (j := 0) (d := 1) (o2 := 89) d_M_delivers_132 rfl fl_M_7 rfl (Nat.le_of_ble_eq_true rfl) rfl rfl ?_
  refine z_iload d_M_delivers_135 rfl ?_
  refine z_ic2 d_M_delivers_137 ?_
  refine z_iadd d_M_delivers_138 ?_
  refine z_il d_M_delivers_139 rfl rfl (fun v12 => ?_)
  refine z_isub d_M_delivers_140 ?_
  refine z_iadd d_M_delivers_141 ?_
  refine z_is d_M_delivers_142 rfl rfl (fun w13 => ?_)
  exact z_vret d_M_delivers_143 rfl rfl
def f_M_delivers (x1 : Int) (x2 : Int) (w : qMem) : Option (qMem) :=
  (f_M_firstOf x1 x2 w).bind fun q14 =>
  if q14.1 = (-1) then
  some q14.2
  else
  (f_M_of q14.1 1 q14.2).bind fun q16 =>
  if q16.1 = x1 then
  (f_M_leaves x1 x2 q16.2).bind fun q18 =>
  (f_M_packetAt q14.1 q18).bind fun q19 =>
  (f_M_isOvertaken q14.1 q19.2).bind fun q20 =>
  if q20.1 = 0 then
  f_M_delivers_57 (w32 (q19.1 + 9)) 0 q19.1 q20.2
  else
  f_M_delivers_57 (w32 (q19.1 + 9)) 1 q19.1 q20.2
  else
  some q16.2
set_option maxRecDepth 4000 in
theorem s_M_delivers (x1 : Int) (x2 : Int) (w : qMem) : qSim κV 100 100 m_M_delivers 0 [] [some (qR 88), some (qI x1), some (qI x2), none, none] w (f_M_delivers x1 x2 w) := by
  unfold f_M_delivers
  refine z_aload_n d_M_delivers_0 rfl ?_
  refine z_iload_n d_M_delivers_1 rfl ?_
  refine z_iload_n d_M_delivers_2 rfl ?_
  refine z_cVI (as := [qI x1, qI x2]) (st := []) (nl := 0) (ci := 10) d_M_delivers_3 lk_M_145 mk_M_firstOf rfl rfl rfl rfl rfl rfl (s_M_firstOf _ _ _) (fun q14 _ hq14 => ?_)
  refine z_istore_n (pls' := [some (qR 88), some (qI x1), some (qI x2), some (qI q14.1), none]) d_M_delivers_6 (by decide) rfl rfl ?_
  refine z_iload_n d_M_delivers_7 rfl ?_
  refine z_icm1 d_M_delivers_8 ?_
  refine z_icmp_eq (tgt := 22) d_M_delivers_9 rfl (fun c15 => ?_) (fun c15 => ?_)
  · exact z_vret d_M_delivers_22 rfl rfl
  · refine z_aload_n d_M_delivers_12 rfl ?_
    refine z_iload_n d_M_delivers_13 rfl ?_
    refine z_ic1 d_M_delivers_14 ?_
    refine z_cVI (as := [qI q14.1, qI 1]) (st := []) (nl := 0) (ci := 10) d_M_delivers_15 lk_M_142 mk_M_of rfl rfl rfl rfl rfl rfl (s_M_of _ _ _) (fun q16 _ hq16 => ?_)
    refine z_iload_n d_M_delivers_18 rfl ?_
    refine z_icmp_eq (tgt := 23) d_M_delivers_19 rfl (fun c17 => ?_) (fun c17 => ?_)
    · refine z_aload_n d_M_delivers_23 rfl ?_
      refine z_iload_n d_M_delivers_24 rfl ?_
      refine z_iload_n d_M_delivers_25 rfl ?_
      refine z_cVV (as := [qI x1, qI x2]) (st := []) (nl := 2) (ci := 10) d_M_delivers_26 lk_M_148 mk_M_leaves rfl rfl rfl rfl rfl rfl (s_M_leaves _ _ _) (fun q18 _ => ?_)
      refine z_iload_n d_M_delivers_29 rfl ?_
      refine z_cSI (av := [qI q14.1]) (st := []) (nl := 0) d_M_delivers_30 lk_M_114 mk_M_packetAt rfl rfl rfl (s_M_packetAt _ _) (fun q19 _ hq19 => ?_)
      refine z_istore (pls' := [some (qR 88), some (qI x1), some (qI x2), some (qI q14.1), some (qI q19.1)]) d_M_delivers_33 (by decide) rfl rfl ?_
      refine z_aload_n d_M_delivers_35 rfl ?_
      refine z_gr (ci := 10) (j := 0) (d := 1) (o2 := 89) d_M_delivers_36 rfl fl_M_7 rfl (Nat.le_of_ble_eq_true rfl) rfl rfl ?_
      refine z_iload d_M_delivers_39 rfl ?_
      refine z_bipush d_M_delivers_41 ⟨by decide, by decide⟩ ?_
      refine z_iadd d_M_delivers_43 ?_
      refine z_aload_n d_M_delivers_44 rfl ?_
      refine z_iload_n d_M_delivers_45 rfl ?_
      refine z_cVI (as := [qI q14.1]) (st := [qI (w32 (q19.1 + 9)), qR 89]) (nl := 1) (ci := 10) d_M_delivers_46 lk_M_152 mk_M_isOvertaken rfl rfl rfl rfl rfl rfl (s_M_isOvertaken _ _) (fun q20 _ hq20 => ?_)
      refine z_if_eq (tgt := 56) d_M_delivers_49 rfl (fun c21 => ?_) (fun c21 => ?_)
      · refine z_ic0 d_M_delivers_56 ?_
        refine z_mask [true, false, false, false, true] ?_
        exact s_M_delivers_57 _ _ _ _ (Or.inl rfl)
      · refine z_ic1 d_M_delivers_52 ?_
        refine z_goto (tgt := 57) d_M_delivers_53 rfl ?_
        refine z_mask [true, false, false, false, true] ?_
        exact s_M_delivers_57 _ _ _ _ (Or.inr rfl)
    · exact z_vret d_M_delivers_22 rfl rfl
/-! BubbleTorusModel.doesContinue -/
theorem d_M_doesContinue_0 : decode m_M_doesContinue.2.1 0 = .ok (.aload_n 0, 1) := by decide +kernel
theorem d_M_doesContinue_1 : decode m_M_doesContinue.2.1 1 = .ok (.iload_n 1, 1) := by decide +kernel
theorem d_M_doesContinue_2 : decode m_M_doesContinue.2.1 2 = .ok (.iconst 3, 1) := by decide +kernel
theorem d_M_doesContinue_3 : decode m_M_doesContinue.2.1 3 = .ok (.invokevirtual 142, 3) := by decide +kernel
theorem d_M_doesContinue_6 : decode m_M_doesContinue.2.1 6 = .ok (.iconst 1, 1) := by decide +kernel
theorem d_M_doesContinue_7 : decode m_M_doesContinue.2.1 7 = .ok (.if_icmp .ne 32, 3) := by decide +kernel
theorem d_M_doesContinue_10 : decode m_M_doesContinue.2.1 10 = .ok (.aload_n 0, 1) := by decide +kernel
theorem d_M_doesContinue_11 : decode m_M_doesContinue.2.1 11 = .ok (.iload_n 1, 1) := by decide +kernel
theorem d_M_doesContinue_12 : decode m_M_doesContinue.2.1 12 = .ok (.iconst 5, 1) := by decide +kernel
theorem d_M_doesContinue_13 : decode m_M_doesContinue.2.1 13 = .ok (.invokevirtual 142, 3) := by decide +kernel
theorem d_M_doesContinue_16 : decode m_M_doesContinue.2.1 16 = .ok (.iload_n 3, 1) := by decide +kernel
theorem d_M_doesContinue_17 : decode m_M_doesContinue.2.1 17 = .ok (.if_icmp .ne 22, 3) := by decide +kernel
theorem d_M_doesContinue_20 : decode m_M_doesContinue.2.1 20 = .ok (.aload_n 0, 1) := by decide +kernel
theorem d_M_doesContinue_21 : decode m_M_doesContinue.2.1 21 = .ok (.iload_n 2, 1) := by decide +kernel
theorem d_M_doesContinue_22 : decode m_M_doesContinue.2.1 22 = .ok (.aload_n 0, 1) := by decide +kernel
theorem d_M_doesContinue_23 : decode m_M_doesContinue.2.1 23 = .ok (.iload_n 1, 1) := by decide +kernel
theorem d_M_doesContinue_24 : decode m_M_doesContinue.2.1 24 = .ok (.iconst 1, 1) := by decide +kernel
theorem d_M_doesContinue_25 : decode m_M_doesContinue.2.1 25 = .ok (.invokevirtual 142, 3) := by decide +kernel
theorem d_M_doesContinue_28 : decode m_M_doesContinue.2.1 28 = .ok (.invokevirtual 99, 3) := by decide +kernel
theorem d_M_doesContinue_31 : decode m_M_doesContinue.2.1 31 = .ok (.iload_n 3, 1) := by decide +kernel
theorem d_M_doesContinue_32 : decode m_M_doesContinue.2.1 32 = .ok (.if_icmp .ne 7, 3) := by decide +kernel
theorem d_M_doesContinue_35 : decode m_M_doesContinue.2.1 35 = .ok (.iconst 1, 1) := by decide +kernel
theorem d_M_doesContinue_36 : decode m_M_doesContinue.2.1 36 = .ok (.goto 4, 3) := by decide +kernel
theorem d_M_doesContinue_39 : decode m_M_doesContinue.2.1 39 = .ok (.iconst 0, 1) := by decide +kernel
theorem d_M_doesContinue_40 : decode m_M_doesContinue.2.1 40 = .ok (.ireturn, 1) := by decide +kernel
def f_M_doesContinue (x1 : Int) (x2 : Int) (x3 : Int) (w : qMem) : Option (Int × qMem) :=
  (f_M_of x1 3 w).bind fun q1 =>
  if q1.1 = 1 then
  (f_M_of x1 5 q1.2).bind fun q3 =>
  if q3.1 = x3 then
  (f_M_of x1 1 q3.2).bind fun q5 =>
  (f_M_escapeOf x2 q5.1 q5.2).bind fun q6 =>
  if q6.1 = x3 then
  some (1, q6.2)
  else
  some (0, q6.2)
  else
  some (0, q3.2)
  else
  some (0, q1.2)
set_option maxRecDepth 4000 in
theorem s_M_doesContinue (x1 : Int) (x2 : Int) (x3 : Int) (w : qMem) : qSim κI 100 100 m_M_doesContinue 0 [] [some (qR 88), some (qI x1), some (qI x2), some (qI x3)] w (f_M_doesContinue x1 x2 x3 w) := by
  unfold f_M_doesContinue
  refine z_aload_n d_M_doesContinue_0 rfl ?_
  refine z_iload_n d_M_doesContinue_1 rfl ?_
  refine z_ic3 d_M_doesContinue_2 ?_
  refine z_cVI (as := [qI x1, qI 3]) (st := []) (nl := 0) (ci := 10) d_M_doesContinue_3 lk_M_142 mk_M_of rfl rfl rfl rfl rfl rfl (s_M_of _ _ _) (fun q1 _ hq1 => ?_)
  refine z_ic1 d_M_doesContinue_6 ?_
  refine z_icmp_ne (tgt := 39) d_M_doesContinue_7 rfl (fun c2 => ?_) (fun c2 => ?_)
  · refine z_aload_n d_M_doesContinue_10 rfl ?_
    refine z_iload_n d_M_doesContinue_11 rfl ?_
    refine z_ic5 d_M_doesContinue_12 ?_
    refine z_cVI (as := [qI x1, qI 5]) (st := []) (nl := 0) (ci := 10) d_M_doesContinue_13 lk_M_142 mk_M_of rfl rfl rfl rfl rfl rfl (s_M_of _ _ _) (fun q3 _ hq3 => ?_)
    refine z_iload_n d_M_doesContinue_16 rfl ?_
    refine z_icmp_ne (tgt := 39) d_M_doesContinue_17 rfl (fun c4 => ?_) (fun c4 => ?_)
    · refine z_aload_n d_M_doesContinue_20 rfl ?_
      refine z_iload_n d_M_doesContinue_21 rfl ?_
      refine z_aload_n d_M_doesContinue_22 rfl ?_
      refine z_iload_n d_M_doesContinue_23 rfl ?_
      refine z_ic1 d_M_doesContinue_24 ?_
      refine z_cVI (as := [qI x1, qI 1]) (st := [qI x2, qR 88]) (nl := 0) (ci := 10) d_M_doesContinue_25 lk_M_142 mk_M_of rfl rfl rfl rfl rfl rfl (s_M_of _ _ _) (fun q5 _ hq5 => ?_)
      refine z_cVI (as := [qI x2, qI q5.1]) (st := []) (nl := 1) (ci := 10) d_M_doesContinue_28 lk_M_99 mk_M_escapeOf rfl rfl rfl rfl rfl rfl (s_M_escapeOf _ _ _) (fun q6 _ hq6 => ?_)
      refine z_iload_n d_M_doesContinue_31 rfl ?_
      refine z_icmp_ne (tgt := 39) d_M_doesContinue_32 rfl (fun c7 => ?_) (fun c7 => ?_)
      · refine z_ic1 d_M_doesContinue_35 ?_
        refine z_goto (tgt := 40) d_M_doesContinue_36 rfl ?_
        exact z_zret d_M_doesContinue_40 rfl rfl (Or.inr rfl)
      · refine z_ic0 d_M_doesContinue_39 ?_
        exact z_zret d_M_doesContinue_40 rfl rfl (Or.inl rfl)
    · refine z_ic0 d_M_doesContinue_39 ?_
      exact z_zret d_M_doesContinue_40 rfl rfl (Or.inl rfl)
  · refine z_ic0 d_M_doesContinue_39 ?_
    exact z_zret d_M_doesContinue_40 rfl rfl (Or.inl rfl)
/-! BubbleTorusModel.doesRuleLet -/
theorem d_M_doesRuleLet_0 : decode m_M_doesRuleLet.2.1 0 = .ok (.aload_n 0, 1) := by decide +kernel
theorem d_M_doesRuleLet_1 : decode m_M_doesRuleLet.2.1 1 = .ok (.iload_n 1, 1) := by decide +kernel
theorem d_M_doesRuleLet_2 : decode m_M_doesRuleLet.2.1 2 = .ok (.iconst 1, 1) := by decide +kernel
theorem d_M_doesRuleLet_3 : decode m_M_doesRuleLet.2.1 3 = .ok (.iload_n 2, 1) := by decide +kernel
theorem d_M_doesRuleLet_4 : decode m_M_doesRuleLet.2.1 4 = .ok (.iadd, 1) := by decide +kernel
theorem d_M_doesRuleLet_5 : decode m_M_doesRuleLet.2.1 5 = .ok (.invokevirtual 117, 3) := by decide +kernel
theorem d_M_doesRuleLet_8 : decode m_M_doesRuleLet.2.1 8 = .ok (.istore_n 3, 1) := by decide +kernel
theorem d_M_doesRuleLet_9 : decode m_M_doesRuleLet.2.1 9 = .ok (.aload_n 0, 1) := by decide +kernel
theorem d_M_doesRuleLet_10 : decode m_M_doesRuleLet.2.1 10 = .ok (.getfield 7, 3) := by decide +kernel
theorem d_M_doesRuleLet_13 : decode m_M_doesRuleLet.2.1 13 = .ok (.iconst 4, 1) := by decide +kernel
theorem d_M_doesRuleLet_14 : decode m_M_doesRuleLet.2.1 14 = .ok (.iaload, 1) := by decide +kernel
theorem d_M_doesRuleLet_15 : decode m_M_doesRuleLet.2.1 15 = .ok (.ifCond .ne 13, 3) := by decide +kernel
theorem d_M_doesRuleLet_18 : decode m_M_doesRuleLet.2.1 18 = .ok (.iload_n 3, 1) := by decide +kernel
theorem d_M_doesRuleLet_19 : decode m_M_doesRuleLet.2.1 19 = .ok (.ifCond .le 7, 3) := by decide +kernel
theorem d_M_doesRuleLet_22 : decode m_M_doesRuleLet.2.1 22 = .ok (.iconst 1, 1) := by decide +kernel
theorem d_M_doesRuleLet_23 : decode m_M_doesRuleLet.2.1 23 = .ok (.goto 4, 3) := by decide +kernel
theorem d_M_doesRuleLet_26 : decode m_M_doesRuleLet.2.1 26 = .ok (.iconst 0, 1) := by decide +kernel
theorem d_M_doesRuleLet_27 : decode m_M_doesRuleLet.2.1 27 = .ok (.ireturn, 1) := by decide +kernel
theorem d_M_doesRuleLet_28 : decode m_M_doesRuleLet.2.1 28 = .ok (.aload_n 0, 1) := by decide +kernel
theorem d_M_doesRuleLet_29 : decode m_M_doesRuleLet.2.1 29 = .ok (.getfield 7, 3) := by decide +kernel
theorem d_M_doesRuleLet_32 : decode m_M_doesRuleLet.2.1 32 = .ok (.iconst 4, 1) := by decide +kernel
theorem d_M_doesRuleLet_33 : decode m_M_doesRuleLet.2.1 33 = .ok (.iaload, 1) := by decide +kernel
theorem d_M_doesRuleLet_34 : decode m_M_doesRuleLet.2.1 34 = .ok (.iconst 1, 1) := by decide +kernel
theorem d_M_doesRuleLet_35 : decode m_M_doesRuleLet.2.1 35 = .ok (.if_icmp .ne 14, 3) := by decide +kernel
theorem d_M_doesRuleLet_38 : decode m_M_doesRuleLet.2.1 38 = .ok (.iload_n 3, 1) := by decide +kernel
theorem d_M_doesRuleLet_39 : decode m_M_doesRuleLet.2.1 39 = .ok (.iconst 1, 1) := by decide +kernel
theorem d_M_doesRuleLet_40 : decode m_M_doesRuleLet.2.1 40 = .ok (.if_icmp .le 7, 3) := by decide +kernel
theorem d_M_doesRuleLet_43 : decode m_M_doesRuleLet.2.1 43 = .ok (.iconst 1, 1) := by decide +kernel
theorem d_M_doesRuleLet_44 : decode m_M_doesRuleLet.2.1 44 = .ok (.goto 4, 3) := by decide +kernel
theorem d_M_doesRuleLet_47 : decode m_M_doesRuleLet.2.1 47 = .ok (.iconst 0, 1) := by decide +kernel
theorem d_M_doesRuleLet_48 : decode m_M_doesRuleLet.2.1 48 = .ok (.ireturn, 1) := by decide +kernel
theorem d_M_doesRuleLet_49 : decode m_M_doesRuleLet.2.1 49 = .ok (.iload_n 3, 1) := by decide +kernel
theorem d_M_doesRuleLet_50 : decode m_M_doesRuleLet.2.1 50 = .ok (.aload_n 0, 1) := by decide +kernel
theorem d_M_doesRuleLet_51 : decode m_M_doesRuleLet.2.1 51 = .ok (.getfield 7, 3) := by decide +kernel
theorem d_M_doesRuleLet_54 : decode m_M_doesRuleLet.2.1 54 = .ok (.aload_n 0, 1) := by decide +kernel
theorem d_M_doesRuleLet_55 : decode m_M_doesRuleLet.2.1 55 = .ok (.iload_n 1, 1) := by decide +kernel
theorem d_M_doesRuleLet_56 : decode m_M_doesRuleLet.2.1 56 = .ok (.iload_n 2, 1) := by decide +kernel
theorem d_M_doesRuleLet_57 : decode m_M_doesRuleLet.2.1 57 = .ok (.invokevirtual 102, 3) := by decide +kernel
theorem d_M_doesRuleLet_60 : decode m_M_doesRuleLet.2.1 60 = .ok (.invokestatic 58, 3) := by decide +kernel
theorem d_M_doesRuleLet_63 : decode m_M_doesRuleLet.2.1 63 = .ok (.iconst 0, 1) := by decide +kernel
theorem d_M_doesRuleLet_64 : decode m_M_doesRuleLet.2.1 64 = .ok (.iadd, 1) := by decide +kernel
theorem d_M_doesRuleLet_65 : decode m_M_doesRuleLet.2.1 65 = .ok (.iaload, 1) := by decide +kernel
theorem d_M_doesRuleLet_66 : decode m_M_doesRuleLet.2.1 66 = .ok (.iload_n 1, 1) := by decide +kernel
theorem d_M_doesRuleLet_67 : decode m_M_doesRuleLet.2.1 67 = .ok (.if_icmp .ne 7, 3) := by decide +kernel
theorem d_M_doesRuleLet_70 : decode m_M_doesRuleLet.2.1 70 = .ok (.iconst 1, 1) := by decide +kernel
theorem d_M_doesRuleLet_71 : decode m_M_doesRuleLet.2.1 71 = .ok (.goto 4, 3) := by decide +kernel
theorem d_M_doesRuleLet_74 : decode m_M_doesRuleLet.2.1 74 = .ok (.iconst 0, 1) := by decide +kernel
theorem d_M_doesRuleLet_75 : decode m_M_doesRuleLet.2.1 75 = .ok (.if_icmp .le 7, 3) := by decide +kernel
theorem d_M_doesRuleLet_78 : decode m_M_doesRuleLet.2.1 78 = .ok (.iconst 1, 1) := by decide +kernel
theorem d_M_doesRuleLet_79 : decode m_M_doesRuleLet.2.1 79 = .ok (.goto 4, 3) := by decide +kernel
theorem d_M_doesRuleLet_82 : decode m_M_doesRuleLet.2.1 82 = .ok (.iconst 0, 1) := by decide +kernel
theorem d_M_doesRuleLet_83 : decode m_M_doesRuleLet.2.1 83 = .ok (.ireturn, 1) := by decide +kernel
def f_M_doesRuleLet_75 (s0 s1 : Int) (w : qMem) : Option (Int × qMem) :=
  if s0 ≤ s1 then
  some (0, w)
  else
  some (1, w)
set_option maxRecDepth 4000 in
theorem s_M_doesRuleLet_75  : ∀ (s0 s1 : Int) (w : qMem), (s1 = 0 ∨ s1 = 1) → qSim κI 100 100 m_M_doesRuleLet 75 [qI s1, qI s0] [none, none, none, none] w (f_M_doesRuleLet_75 s0 s1 w) := by
  intro s0 s1 w hs1
  unfold f_M_doesRuleLet_75
  refine z_icmp_le (tgt := 82) d_M_doesRuleLet_75 rfl (fun c1 => ?_) (fun c1 => ?_)
  · refine z_ic0 d_M_doesRuleLet_82 ?_
    exact z_zret d_M_doesRuleLet_83 rfl rfl (Or.inl rfl)
  · refine z_ic1 d_M_doesRuleLet_78 ?_
    refine z_goto (tgt := 83) d_M_doesRuleLet_79 rfl ?_
    exact z_zret d_M_doesRuleLet_83 rfl rfl (Or.inr rfl)
def f_M_doesRuleLet (x1 : Int) (x2 : Int) (w : qMem) : Option (Int × qMem) :=
  (f_M_free x1 (w32 (1 + x2)) w).bind fun q2 =>
  qld q2.2 89 5898 4 fun v3 =>
  if v3 = 0 then
  if q2.1 ≤ 0 then
  some (0, q2.2)
  else
  some (1, q2.2)
  else
  qld q2.2 89 5898 4 fun v6 =>
  if v6 = 1 then
  if q2.1 ≤ 1 then
  some (0, q2.2)
  else
  some (1, q2.2)
  else
  (f_M_ringFor x1 x2 q2.2).bind fun q9 =>
  (f_M_ringAt q9.1 q9.2).bind fun q10 =>
  qld q10.2 89 5898 (w32 (q10.1 + 0)) fun v11 =>
  if v11 = x1 then
  f_M_doesRuleLet_75 q2.1 1 q10.2
  else
  f_M_doesRuleLet_75 q2.1 0 q10.2
set_option maxRecDepth 4000 in
theorem s_M_doesRuleLet (x1 : Int) (x2 : Int) (w : qMem) : qSim κI 100 100 m_M_doesRuleLet 0 [] [some (qR 88), some (qI x1), some (qI x2), none] w (f_M_doesRuleLet x1 x2 w) := by
  unfold f_M_doesRuleLet
  refine z_aload_n d_M_doesRuleLet_0 rfl ?_
  refine z_iload_n d_M_doesRuleLet_1 rfl ?_
  refine z_ic1 d_M_doesRuleLet_2 ?_
  refine z_iload_n d_M_doesRuleLet_3 rfl ?_
  refine z_iadd d_M_doesRuleLet_4 ?_
  refine z_cVI (as := [qI x1, qI (w32 (1 + x2))]) (st := []) (nl := 0) (ci := 10) d_M_doesRuleLet_5 lk_M_117 mk_M_free rfl rfl rfl rfl rfl rfl (s_M_free _ _ _) (fun q2 _ hq2 => ?_)
  refine z_istore_n (pls' := [some (qR 88), some (qI x1), some (qI x2), some (qI q2.1)]) d_M_doesRuleLet_8 (by decide) rfl rfl ?_
  refine z_aload_n d_M_doesRuleLet_9 rfl ?_
  refine z_gr (ci := 10) (j := 0) (d := 1) (o2 := 89) d_M_doesRuleLet_10 rfl fl_M_7 rfl (Nat.le_of_ble_eq_true rfl) rfl rfl ?_
  refine z_ic4 d_M_doesRuleLet_13 ?_
  refine z_il d_M_doesRuleLet_14 rfl rfl (fun v3 => ?_)
  refine z_if_ne (tgt := 28) d_M_doesRuleLet_15 rfl (fun c4 => ?_) (fun c4 => ?_)
  · refine z_iload_n d_M_doesRuleLet_18 rfl ?_
    refine z_if_le (tgt := 26) d_M_doesRuleLet_19 rfl (fun c5 => ?_) (fun c5 => ?_)
    · refine z_ic0 d_M_doesRuleLet_26 ?_
      exact z_zret d_M_doesRuleLet_27 rfl rfl (Or.inl rfl)
    · refine z_ic1 d_M_doesRuleLet_22 ?_
      refine z_goto (tgt := 27) d_M_doesRuleLet_23 rfl ?_
      exact z_zret d_M_doesRuleLet_27 rfl rfl (Or.inr rfl)
  · refine z_aload_n d_M_doesRuleLet_28 rfl ?_
    refine z_gr (ci := 10) (j := 0) (d := 1) (o2 := 89) d_M_doesRuleLet_29 rfl fl_M_7 rfl (Nat.le_of_ble_eq_true rfl) rfl rfl ?_
    refine z_ic4 d_M_doesRuleLet_32 ?_
    refine z_il d_M_doesRuleLet_33 rfl rfl (fun v6 => ?_)
    refine z_ic1 d_M_doesRuleLet_34 ?_
    refine z_icmp_ne (tgt := 49) d_M_doesRuleLet_35 rfl (fun c7 => ?_) (fun c7 => ?_)
    · refine z_iload_n d_M_doesRuleLet_38 rfl ?_
      refine z_ic1 d_M_doesRuleLet_39 ?_
      refine z_icmp_le (tgt := 47) d_M_doesRuleLet_40 rfl (fun c8 => ?_) (fun c8 => ?_)
      · refine z_ic0 d_M_doesRuleLet_47 ?_
        exact z_zret d_M_doesRuleLet_48 rfl rfl (Or.inl rfl)
      · refine z_ic1 d_M_doesRuleLet_43 ?_
        refine z_goto (tgt := 48) d_M_doesRuleLet_44 rfl ?_
        exact z_zret d_M_doesRuleLet_48 rfl rfl (Or.inr rfl)
    · refine z_iload_n d_M_doesRuleLet_49 rfl ?_
      refine z_aload_n d_M_doesRuleLet_50 rfl ?_
      refine z_gr (ci := 10) (j := 0) (d := 1) (o2 := 89) d_M_doesRuleLet_51 rfl fl_M_7 rfl (Nat.le_of_ble_eq_true rfl) rfl rfl ?_
      refine z_aload_n d_M_doesRuleLet_54 rfl ?_
      refine z_iload_n d_M_doesRuleLet_55 rfl ?_
      refine z_iload_n d_M_doesRuleLet_56 rfl ?_
      refine z_cVI (as := [qI x1, qI x2]) (st := [qR 89, qI q2.1]) (nl := 0) (ci := 10) d_M_doesRuleLet_57 lk_M_102 mk_M_ringFor rfl rfl rfl rfl rfl rfl (s_M_ringFor _ _ _) (fun q9 _ hq9 => ?_)
      refine z_cSI (av := [qI q9.1]) (st := [qR 89, qI q2.1]) (nl := 0) d_M_doesRuleLet_60 lk_M_58 mk_M_ringAt rfl rfl rfl (s_M_ringAt _ _) (fun q10 _ hq10 => ?_)
      refine z_ic0 d_M_doesRuleLet_63 ?_
      refine z_iadd d_M_doesRuleLet_64 ?_
      refine z_il d_M_doesRuleLet_65 rfl rfl (fun v11 => ?_)
      refine z_iload_n d_M_doesRuleLet_66 rfl ?_
      refine z_icmp_ne (tgt := 74) d_M_doesRuleLet_67 rfl (fun c12 => ?_) (fun c12 => ?_)
      · refine z_ic1 d_M_doesRuleLet_70 ?_
        refine z_goto (tgt := 75) d_M_doesRuleLet_71 rfl ?_
        refine z_mask [false, false, false, false] ?_
        exact s_M_doesRuleLet_75 _ _ _ (Or.inr rfl)
      · refine z_ic0 d_M_doesRuleLet_74 ?_
        refine z_mask [false, false, false, false] ?_
        exact s_M_doesRuleLet_75 _ _ _ (Or.inl rfl)
/-! BubbleTorusModel.isBarred -/
theorem d_M_isBarred_0 : decode m_M_isBarred.2.1 0 = .ok (.aload_n 0, 1) := by decide +kernel
theorem d_M_isBarred_1 : decode m_M_isBarred.2.1 1 = .ok (.getfield 7, 3) := by decide +kernel
theorem d_M_isBarred_4 : decode m_M_isBarred.2.1 4 = .ok (.aload_n 0, 1) := by decide +kernel
theorem d_M_isBarred_5 : decode m_M_isBarred.2.1 5 = .ok (.iload_n 1, 1) := by decide +kernel
theorem d_M_isBarred_6 : decode m_M_isBarred.2.1 6 = .ok (.iload_n 2, 1) := by decide +kernel
theorem d_M_isBarred_7 : decode m_M_isBarred.2.1 7 = .ok (.invokevirtual 102, 3) := by decide +kernel
theorem d_M_isBarred_10 : decode m_M_isBarred.2.1 10 = .ok (.invokestatic 58, 3) := by decide +kernel
theorem d_M_isBarred_13 : decode m_M_isBarred.2.1 13 = .ok (.iconst 3, 1) := by decide +kernel
theorem d_M_isBarred_14 : decode m_M_isBarred.2.1 14 = .ok (.iadd, 1) := by decide +kernel
theorem d_M_isBarred_15 : decode m_M_isBarred.2.1 15 = .ok (.iaload, 1) := by decide +kernel
theorem d_M_isBarred_16 : decode m_M_isBarred.2.1 16 = .ok (.iload_n 1, 1) := by decide +kernel
theorem d_M_isBarred_17 : decode m_M_isBarred.2.1 17 = .ok (.ishr, 1) := by decide +kernel
theorem d_M_isBarred_18 : decode m_M_isBarred.2.1 18 = .ok (.iconst 1, 1) := by decide +kernel
theorem d_M_isBarred_19 : decode m_M_isBarred.2.1 19 = .ok (.iand, 1) := by decide +kernel
theorem d_M_isBarred_20 : decode m_M_isBarred.2.1 20 = .ok (.iconst 1, 1) := by decide +kernel
theorem d_M_isBarred_21 : decode m_M_isBarred.2.1 21 = .ok (.if_icmp .ne 7, 3) := by decide +kernel
theorem d_M_isBarred_24 : decode m_M_isBarred.2.1 24 = .ok (.iconst 1, 1) := by decide +kernel
theorem d_M_isBarred_25 : decode m_M_isBarred.2.1 25 = .ok (.goto 4, 3) := by decide +kernel
theorem d_M_isBarred_28 : decode m_M_isBarred.2.1 28 = .ok (.iconst 0, 1) := by decide +kernel
theorem d_M_isBarred_29 : decode m_M_isBarred.2.1 29 = .ok (.ireturn, 1) := by decide +kernel
def f_M_isBarred (x1 : Int) (x2 : Int) (w : qMem) : Option (Int × qMem) :=
  (f_M_ringFor x1 x2 w).bind fun q1 =>
  (f_M_ringAt q1.1 q1.2).bind fun q2 =>
  qld q2.2 89 5898 (w32 (q2.1 + 3)) fun v3 =>
  if (jand (jshr v3 x1) 1) = 1 then
  some (1, q2.2)
  else
  some (0, q2.2)
set_option maxRecDepth 4000 in
theorem s_M_isBarred (x1 : Int) (x2 : Int) (w : qMem) : qSim κI 100 100 m_M_isBarred 0 [] [some (qR 88), some (qI x1), some (qI x2)] w (f_M_isBarred x1 x2 w) := by
  unfold f_M_isBarred
  refine z_aload_n d_M_isBarred_0 rfl ?_
  refine z_gr (ci := 10) (j := 0) (d := 1) (o2 := 89) d_M_isBarred_1 rfl fl_M_7 rfl (Nat.le_of_ble_eq_true rfl) rfl rfl ?_
  refine z_aload_n d_M_isBarred_4 rfl ?_
  refine z_iload_n d_M_isBarred_5 rfl ?_
  refine z_iload_n d_M_isBarred_6 rfl ?_
  refine z_cVI (as := [qI x1, qI x2]) (st := [qR 89]) (nl := 0) (ci := 10) d_M_isBarred_7 lk_M_102 mk_M_ringFor rfl rfl rfl rfl rfl rfl (s_M_ringFor _ _ _) (fun q1 _ hq1 => ?_)
  refine z_cSI (av := [qI q1.1]) (st := [qR 89]) (nl := 0) d_M_isBarred_10 lk_M_58 mk_M_ringAt rfl rfl rfl (s_M_ringAt _ _) (fun q2 _ hq2 => ?_)
  refine z_ic3 d_M_isBarred_13 ?_
  refine z_iadd d_M_isBarred_14 ?_
  refine z_il d_M_isBarred_15 rfl rfl (fun v3 => ?_)
  refine z_iload_n d_M_isBarred_16 rfl ?_
  refine z_ishr d_M_isBarred_17 ?_
  refine z_ic1 d_M_isBarred_18 ?_
  refine z_iand d_M_isBarred_19 ?_
  refine z_ic1 d_M_isBarred_20 ?_
  refine z_icmp_ne (tgt := 28) d_M_isBarred_21 rfl (fun c4 => ?_) (fun c4 => ?_)
  · refine z_ic1 d_M_isBarred_24 ?_
    refine z_goto (tgt := 29) d_M_isBarred_25 rfl ?_
    exact z_zret d_M_isBarred_29 rfl rfl (Or.inr rfl)
  · refine z_ic0 d_M_isBarred_28 ?_
    exact z_zret d_M_isBarred_29 rfl rfl (Or.inl rfl)
/-! BubbleTorusModel.canByEscape -/
theorem d_M_canByEscape_0 : decode m_M_canByEscape.2.1 0 = .ok (.aload_n 0, 1) := by decide +kernel
theorem d_M_canByEscape_1 : decode m_M_canByEscape.2.1 1 = .ok (.iload_n 2, 1) := by decide +kernel
theorem d_M_canByEscape_2 : decode m_M_canByEscape.2.1 2 = .ok (.aload_n 0, 1) := by decide +kernel
theorem d_M_canByEscape_3 : decode m_M_canByEscape.2.1 3 = .ok (.iload_n 1, 1) := by decide +kernel
theorem d_M_canByEscape_4 : decode m_M_canByEscape.2.1 4 = .ok (.iconst 1, 1) := by decide +kernel
theorem d_M_canByEscape_5 : decode m_M_canByEscape.2.1 5 = .ok (.invokevirtual 142, 3) := by decide +kernel
theorem d_M_canByEscape_8 : decode m_M_canByEscape.2.1 8 = .ok (.invokevirtual 99, 3) := by decide +kernel
theorem d_M_canByEscape_11 : decode m_M_canByEscape.2.1 11 = .ok (.iload_n 3, 1) := by decide +kernel
theorem d_M_canByEscape_12 : decode m_M_canByEscape.2.1 12 = .ok (.if_icmp .eq 5, 3) := by decide +kernel
theorem d_M_canByEscape_15 : decode m_M_canByEscape.2.1 15 = .ok (.iconst 0, 1) := by decide +kernel
theorem d_M_canByEscape_16 : decode m_M_canByEscape.2.1 16 = .ok (.ireturn, 1) := by decide +kernel
theorem d_M_canByEscape_17 : decode m_M_canByEscape.2.1 17 = .ok (.aload_n 0, 1) := by decide +kernel
theorem d_M_canByEscape_18 : decode m_M_canByEscape.2.1 18 = .ok (.iload_n 2, 1) := by decide +kernel
theorem d_M_canByEscape_19 : decode m_M_canByEscape.2.1 19 = .ok (.iload_n 3, 1) := by decide +kernel
theorem d_M_canByEscape_20 : decode m_M_canByEscape.2.1 20 = .ok (.invokevirtual 79, 3) := by decide +kernel
theorem d_M_canByEscape_23 : decode m_M_canByEscape.2.1 23 = .ok (.istore 5, 2) := by decide +kernel
theorem d_M_canByEscape_25 : decode m_M_canByEscape.2.1 25 = .ok (.aload_n 0, 1) := by decide +kernel
theorem d_M_canByEscape_26 : decode m_M_canByEscape.2.1 26 = .ok (.iload_n 1, 1) := by decide +kernel
theorem d_M_canByEscape_27 : decode m_M_canByEscape.2.1 27 = .ok (.iload_n 2, 1) := by decide +kernel
theorem d_M_canByEscape_28 : decode m_M_canByEscape.2.1 28 = .ok (.iload_n 3, 1) := by decide +kernel
theorem d_M_canByEscape_29 : decode m_M_canByEscape.2.1 29 = .ok (.invokevirtual 155, 3) := by decide +kernel
theorem d_M_canByEscape_32 : decode m_M_canByEscape.2.1 32 = .ok (.ifCond .eq 21, 3) := by decide +kernel
theorem d_M_canByEscape_35 : decode m_M_canByEscape.2.1 35 = .ok (.aload_n 0, 1) := by decide +kernel
theorem d_M_canByEscape_36 : decode m_M_canByEscape.2.1 36 = .ok (.iload 5, 2) := by decide +kernel
theorem d_M_canByEscape_38 : decode m_M_canByEscape.2.1 38 = .ok (.iconst 1, 1) := by decide +kernel
theorem d_M_canByEscape_39 : decode m_M_canByEscape.2.1 39 = .ok (.iload_n 3, 1) := by decide +kernel
theorem d_M_canByEscape_40 : decode m_M_canByEscape.2.1 40 = .ok (.iadd, 1) := by decide +kernel
theorem d_M_canByEscape_41 : decode m_M_canByEscape.2.1 41 = .ok (.invokevirtual 117, 3) := by decide +kernel
theorem d_M_canByEscape_44 : decode m_M_canByEscape.2.1 44 = .ok (.ifCond .le 7, 3) := by decide +kernel
theorem d_M_canByEscape_47 : decode m_M_canByEscape.2.1 47 = .ok (.iconst 1, 1) := by decide +kernel
theorem d_M_canByEscape_48 : decode m_M_canByEscape.2.1 48 = .ok (.goto 4, 3) := by decide +kernel
theorem d_M_canByEscape_51 : decode m_M_canByEscape.2.1 51 = .ok (.iconst 0, 1) := by decide +kernel
theorem d_M_canByEscape_52 : decode m_M_canByEscape.2.1 52 = .ok (.ireturn, 1) := by decide +kernel
theorem d_M_canByEscape_53 : decode m_M_canByEscape.2.1 53 = .ok (.iload 4, 2) := by decide +kernel
theorem d_M_canByEscape_55 : decode m_M_canByEscape.2.1 55 = .ok (.ifCond .eq 12, 3) := by decide +kernel
theorem d_M_canByEscape_58 : decode m_M_canByEscape.2.1 58 = .ok (.aload_n 0, 1) := by decide +kernel
theorem d_M_canByEscape_59 : decode m_M_canByEscape.2.1 59 = .ok (.iload_n 2, 1) := by decide +kernel
theorem d_M_canByEscape_60 : decode m_M_canByEscape.2.1 60 = .ok (.iload_n 3, 1) := by decide +kernel
theorem d_M_canByEscape_61 : decode m_M_canByEscape.2.1 61 = .ok (.invokevirtual 158, 3) := by decide +kernel
theorem d_M_canByEscape_64 : decode m_M_canByEscape.2.1 64 = .ok (.ifCond .ne 17, 3) := by decide +kernel
theorem d_M_canByEscape_67 : decode m_M_canByEscape.2.1 67 = .ok (.aload_n 0, 1) := by decide +kernel
theorem d_M_canByEscape_68 : decode m_M_canByEscape.2.1 68 = .ok (.iload 5, 2) := by decide +kernel
theorem d_M_canByEscape_70 : decode m_M_canByEscape.2.1 70 = .ok (.iload_n 3, 1) := by decide +kernel
theorem d_M_canByEscape_71 : decode m_M_canByEscape.2.1 71 = .ok (.invokevirtual 162, 3) := by decide +kernel
theorem d_M_canByEscape_74 : decode m_M_canByEscape.2.1 74 = .ok (.ifCond .eq 7, 3) := by decide +kernel
theorem d_M_canByEscape_77 : decode m_M_canByEscape.2.1 77 = .ok (.iconst 1, 1) := by decide +kernel
theorem d_M_canByEscape_78 : decode m_M_canByEscape.2.1 78 = .ok (.goto 4, 3) := by decide +kernel
theorem d_M_canByEscape_81 : decode m_M_canByEscape.2.1 81 = .ok (.iconst 0, 1) := by decide +kernel
theorem d_M_canByEscape_82 : decode m_M_canByEscape.2.1 82 = .ok (.ireturn, 1) := by decide +kernel
def f_M_canByEscape_67 (x3 x5 : Int) (w : qMem) : Option (Int × qMem) :=
  (f_M_doesRuleLet x5 x3 w).bind fun q1 =>
  if q1.1 = 0 then
  some (0, q1.2)
  else
  some (1, q1.2)
set_option maxRecDepth 4000 in
theorem s_M_canByEscape_67  : ∀ (x3 x5 : Int) (w : qMem), qSim κI 100 100 m_M_canByEscape 67 [] [some (qR 88), none, none, some (qI x3), none, some (qI x5)] w (f_M_canByEscape_67 x3 x5 w) := by
  intro x3 x5 w
  unfold f_M_canByEscape_67
  refine z_aload_n d_M_canByEscape_67 rfl ?_
  refine z_iload d_M_canByEscape_68 rfl ?_
  refine z_iload_n d_M_canByEscape_70 rfl ?_
  refine z_cVI (as := [qI x5, qI x3]) (st := []) (nl := 1) (ci := 10) d_M_canByEscape_71 lk_M_162 mk_M_doesRuleLet rfl rfl rfl rfl rfl rfl (s_M_doesRuleLet _ _ _) (fun q1 _ hq1 => ?_)
  refine z_if_eq (tgt := 81) d_M_canByEscape_74 rfl (fun c2 => ?_) (fun c2 => ?_)
  · refine z_ic0 d_M_canByEscape_81 ?_
    exact z_zret d_M_canByEscape_82 rfl rfl (Or.inl rfl)
  · refine z_ic1 d_M_canByEscape_77 ?_
    refine z_goto (tgt := 82) d_M_canByEscape_78 rfl ?_
    exact z_zret d_M_canByEscape_82 rfl rfl (Or.inr rfl)
def f_M_canByEscape (x1 : Int) (x2 : Int) (x3 : Int) (x4 : Int) (w : qMem) : Option (Int × qMem) :=
  (f_M_of x1 1 w).bind fun q3 =>
  (f_M_escapeOf x2 q3.1 q3.2).bind fun q4 =>
  if q4.1 = x3 then
  (f_M_nextOf x2 x3 q4.2).bind fun q6 =>
  (f_M_doesContinue x1 x2 x3 q6.2).bind fun q7 =>
  if q7.1 = 0 then
  if x4 = 0 then
  f_M_canByEscape_67 x3 q6.1 q7.2
  else
  (f_M_isBarred x2 x3 q7.2).bind fun q10 =>
  if q10.1 = 0 then
  f_M_canByEscape_67 x3 q6.1 q10.2
  else
  some (0, q10.2)
  else
  (f_M_free q6.1 (w32 (1 + x3)) q7.2).bind fun q12 =>
  if q12.1 ≤ 0 then
  some (0, q12.2)
  else
  some (1, q12.2)
  else
  some (0, q4.2)
set_option maxRecDepth 4000 in
theorem s_M_canByEscape (x1 : Int) (x2 : Int) (x3 : Int) (x4 : Int) (w : qMem) : qSim κI 100 100 m_M_canByEscape 0 [] [some (qR 88), some (qI x1), some (qI x2), some (qI x3), some (qI x4), none] w (f_M_canByEscape x1 x2 x3 x4 w) := by
  unfold f_M_canByEscape
  refine z_aload_n d_M_canByEscape_0 rfl ?_
  refine z_iload_n d_M_canByEscape_1 rfl ?_
  refine z_aload_n d_M_canByEscape_2 rfl ?_
  refine z_iload_n d_M_canByEscape_3 rfl ?_
  refine z_ic1 d_M_canByEscape_4 ?_
  refine z_cVI (as := [qI x1, qI 1]) (st := [qI x2, qR 88]) (nl := 0) (ci := 10) d_M_canByEscape_5 lk_M_142 mk_M_of rfl rfl rfl rfl rfl rfl (s_M_of _ _ _) (fun q3 _ hq3 => ?_)
  refine z_cVI (as := [qI x2, qI q3.1]) (st := []) (nl := 1) (ci := 10) d_M_canByEscape_8 lk_M_99 mk_M_escapeOf rfl rfl rfl rfl rfl rfl (s_M_escapeOf _ _ _) (fun q4 _ hq4 => ?_)
  refine z_iload_n d_M_canByEscape_11 rfl ?_
  refine z_icmp_eq (tgt := 17) d_M_canByEscape_12 rfl (fun c5 => ?_) (fun c5 => ?_)
  · refine z_aload_n d_M_canByEscape_17 rfl ?_
    refine z_iload_n d_M_canByEscape_18 rfl ?_
    refine z_iload_n d_M_canByEscape_19 rfl ?_
    refine z_cVI (as := [qI x2, qI x3]) (st := []) (nl := 2) (ci := 10) d_M_canByEscape_20 lk_M_79 mk_M_nextOf rfl rfl rfl rfl rfl rfl (s_M_nextOf _ _ _) (fun q6 _ hq6 => ?_)
    refine z_istore (pls' := [some (qR 88), some (qI x1), some (qI x2), some (qI x3), some (qI x4), some (qI q6.1)]) d_M_canByEscape_23 (by decide) rfl rfl ?_
    refine z_aload_n d_M_canByEscape_25 rfl ?_
    refine z_iload_n d_M_canByEscape_26 rfl ?_
    refine z_iload_n d_M_canByEscape_27 rfl ?_
    refine z_iload_n d_M_canByEscape_28 rfl ?_
    refine z_cVI (as := [qI x1, qI x2, qI x3]) (st := []) (nl := 0) (ci := 10) d_M_canByEscape_29 lk_M_155 mk_M_doesContinue rfl rfl rfl rfl rfl rfl (s_M_doesContinue _ _ _ _) (fun q7 _ hq7 => ?_)
    refine z_if_eq (tgt := 53) d_M_canByEscape_32 rfl (fun c8 => ?_) (fun c8 => ?_)
    · refine z_iload d_M_canByEscape_53 rfl ?_
      refine z_if_eq (tgt := 67) d_M_canByEscape_55 rfl (fun c9 => ?_) (fun c9 => ?_)
      · refine z_mask [true, false, false, true, false, true] ?_
        exact s_M_canByEscape_67 _ _ _
      · refine z_aload_n d_M_canByEscape_58 rfl ?_
        refine z_iload_n d_M_canByEscape_59 rfl ?_
        refine z_iload_n d_M_canByEscape_60 rfl ?_
        refine z_cVI (as := [qI x2, qI x3]) (st := []) (nl := 0) (ci := 10) d_M_canByEscape_61 lk_M_158 mk_M_isBarred rfl rfl rfl rfl rfl rfl (s_M_isBarred _ _ _) (fun q10 _ hq10 => ?_)
        refine z_if_ne (tgt := 81) d_M_canByEscape_64 rfl (fun c11 => ?_) (fun c11 => ?_)
        · refine z_mask [true, false, false, true, false, true] ?_
          exact s_M_canByEscape_67 _ _ _
        · refine z_ic0 d_M_canByEscape_81 ?_
          exact z_zret d_M_canByEscape_82 rfl rfl (Or.inl rfl)
    · refine z_aload_n d_M_canByEscape_35 rfl ?_
      refine z_iload d_M_canByEscape_36 rfl ?_
      refine z_ic1 d_M_canByEscape_38 ?_
      refine z_iload_n d_M_canByEscape_39 rfl ?_
      refine z_iadd d_M_canByEscape_40 ?_
      refine z_cVI (as := [qI q6.1, qI (w32 (1 + x3))]) (st := []) (nl := 0) (ci := 10) d_M_canByEscape_41 lk_M_117 mk_M_free rfl rfl rfl rfl rfl rfl (s_M_free _ _ _) (fun q12 _ hq12 => ?_)
      refine z_if_le (tgt := 51) d_M_canByEscape_44 rfl (fun c13 => ?_) (fun c13 => ?_)
      · refine z_ic0 d_M_canByEscape_51 ?_
        exact z_zret d_M_canByEscape_52 rfl rfl (Or.inl rfl)
      · refine z_ic1 d_M_canByEscape_47 ?_
        refine z_goto (tgt := 52) d_M_canByEscape_48 rfl ?_
        exact z_zret d_M_canByEscape_52 rfl rfl (Or.inr rfl)
  · refine z_ic0 d_M_canByEscape_15 ?_
    exact z_zret d_M_canByEscape_16 rfl rfl (Or.inl rfl)
/-! BubbleTorusModel.canByAdaptive -/
theorem d_M_canByAdaptive_0 : decode m_M_canByAdaptive.2.1 0 = .ok (.aload_n 0, 1) := by decide +kernel
theorem d_M_canByAdaptive_1 : decode m_M_canByAdaptive.2.1 1 = .ok (.iload_n 2, 1) := by decide +kernel
theorem d_M_canByAdaptive_2 : decode m_M_canByAdaptive.2.1 2 = .ok (.aload_n 0, 1) := by decide +kernel
theorem d_M_canByAdaptive_3 : decode m_M_canByAdaptive.2.1 3 = .ok (.iload_n 1, 1) := by decide +kernel
theorem d_M_canByAdaptive_4 : decode m_M_canByAdaptive.2.1 4 = .ok (.iconst 1, 1) := by decide +kernel
theorem d_M_canByAdaptive_5 : decode m_M_canByAdaptive.2.1 5 = .ok (.invokevirtual 142, 3) := by decide +kernel
theorem d_M_canByAdaptive_8 : decode m_M_canByAdaptive.2.1 8 = .ok (.iload_n 3, 1) := by decide +kernel
theorem d_M_canByAdaptive_9 : decode m_M_canByAdaptive.2.1 9 = .ok (.invokevirtual 86, 3) := by decide +kernel
theorem d_M_canByAdaptive_12 : decode m_M_canByAdaptive.2.1 12 = .ok (.ifCond .eq 23, 3) := by decide +kernel
theorem d_M_canByAdaptive_15 : decode m_M_canByAdaptive.2.1 15 = .ok (.aload_n 0, 1) := by decide +kernel
theorem d_M_canByAdaptive_16 : decode m_M_canByAdaptive.2.1 16 = .ok (.aload_n 0, 1) := by decide +kernel
theorem d_M_canByAdaptive_17 : decode m_M_canByAdaptive.2.1 17 = .ok (.iload_n 2, 1) := by decide +kernel
theorem d_M_canByAdaptive_18 : decode m_M_canByAdaptive.2.1 18 = .ok (.iload_n 3, 1) := by decide +kernel
theorem d_M_canByAdaptive_19 : decode m_M_canByAdaptive.2.1 19 = .ok (.invokevirtual 79, 3) := by decide +kernel
theorem d_M_canByAdaptive_22 : decode m_M_canByAdaptive.2.1 22 = .ok (.iconst 5, 1) := by decide +kernel
theorem d_M_canByAdaptive_23 : decode m_M_canByAdaptive.2.1 23 = .ok (.iload_n 3, 1) := by decide +kernel
theorem d_M_canByAdaptive_24 : decode m_M_canByAdaptive.2.1 24 = .ok (.iadd, 1) := by decide +kernel
theorem d_M_canByAdaptive_25 : decode m_M_canByAdaptive.2.1 25 = .ok (.invokevirtual 117, 3) := by decide +kernel
theorem d_M_canByAdaptive_28 : decode m_M_canByAdaptive.2.1 28 = .ok (.ifCond .le 7, 3) := by decide +kernel
theorem d_M_canByAdaptive_31 : decode m_M_canByAdaptive.2.1 31 = .ok (.iconst 1, 1) := by decide +kernel
theorem d_M_canByAdaptive_32 : decode m_M_canByAdaptive.2.1 32 = .ok (.goto 4, 3) := by decide +kernel
theorem d_M_canByAdaptive_35 : decode m_M_canByAdaptive.2.1 35 = .ok (.iconst 0, 1) := by decide +kernel
theorem d_M_canByAdaptive_36 : decode m_M_canByAdaptive.2.1 36 = .ok (.ireturn, 1) := by decide +kernel
def f_M_canByAdaptive (x1 : Int) (x2 : Int) (x3 : Int) (w : qMem) : Option (Int × qMem) :=
  (f_M_of x1 1 w).bind fun q1 =>
  (f_M_isProfitable x2 q1.1 x3 q1.2).bind fun q2 =>
  if q2.1 = 0 then
  some (0, q2.2)
  else
  (f_M_nextOf x2 x3 q2.2).bind fun q4 =>
  (f_M_free q4.1 (w32 (5 + x3)) q4.2).bind fun q5 =>
  if q5.1 ≤ 0 then
  some (0, q5.2)
  else
  some (1, q5.2)
set_option maxRecDepth 4000 in
theorem s_M_canByAdaptive (x1 : Int) (x2 : Int) (x3 : Int) (w : qMem) : qSim κI 100 100 m_M_canByAdaptive 0 [] [some (qR 88), some (qI x1), some (qI x2), some (qI x3)] w (f_M_canByAdaptive x1 x2 x3 w) := by
  unfold f_M_canByAdaptive
  refine z_aload_n d_M_canByAdaptive_0 rfl ?_
  refine z_iload_n d_M_canByAdaptive_1 rfl ?_
  refine z_aload_n d_M_canByAdaptive_2 rfl ?_
  refine z_iload_n d_M_canByAdaptive_3 rfl ?_
  refine z_ic1 d_M_canByAdaptive_4 ?_
  refine z_cVI (as := [qI x1, qI 1]) (st := [qI x2, qR 88]) (nl := 0) (ci := 10) d_M_canByAdaptive_5 lk_M_142 mk_M_of rfl rfl rfl rfl rfl rfl (s_M_of _ _ _) (fun q1 _ hq1 => ?_)
  refine z_iload_n d_M_canByAdaptive_8 rfl ?_
  refine z_cVI (as := [qI x2, qI q1.1, qI x3]) (st := []) (nl := 0) (ci := 10) d_M_canByAdaptive_9 lk_M_86 mk_M_isProfitable rfl rfl rfl rfl rfl rfl (s_M_isProfitable _ _ _ _) (fun q2 _ hq2 => ?_)
  refine z_if_eq (tgt := 35) d_M_canByAdaptive_12 rfl (fun c3 => ?_) (fun c3 => ?_)
  · refine z_ic0 d_M_canByAdaptive_35 ?_
    exact z_zret d_M_canByAdaptive_36 rfl rfl (Or.inl rfl)
  · refine z_aload_n d_M_canByAdaptive_15 rfl ?_
    refine z_aload_n d_M_canByAdaptive_16 rfl ?_
    refine z_iload_n d_M_canByAdaptive_17 rfl ?_
    refine z_iload_n d_M_canByAdaptive_18 rfl ?_
    refine z_cVI (as := [qI x2, qI x3]) (st := [qR 88]) (nl := 2) (ci := 10) d_M_canByAdaptive_19 lk_M_79 mk_M_nextOf rfl rfl rfl rfl rfl rfl (s_M_nextOf _ _ _) (fun q4 _ hq4 => ?_)
    refine z_ic5 d_M_canByAdaptive_22 ?_
    refine z_iload_n d_M_canByAdaptive_23 rfl ?_
    refine z_iadd d_M_canByAdaptive_24 ?_
    refine z_cVI (as := [qI q4.1, qI (w32 (5 + x3))]) (st := []) (nl := 0) (ci := 10) d_M_canByAdaptive_25 lk_M_117 mk_M_free rfl rfl rfl rfl rfl rfl (s_M_free _ _ _) (fun q5 _ hq5 => ?_)
    refine z_if_le (tgt := 35) d_M_canByAdaptive_28 rfl (fun c6 => ?_) (fun c6 => ?_)
    · refine z_ic0 d_M_canByAdaptive_35 ?_
      exact z_zret d_M_canByAdaptive_36 rfl rfl (Or.inl rfl)
    · refine z_ic1 d_M_canByAdaptive_31 ?_
      refine z_goto (tgt := 36) d_M_canByAdaptive_32 rfl ?_
      exact z_zret d_M_canByAdaptive_36 rfl rfl (Or.inr rfl)
/-! BubbleTorusModel.canGo -/
theorem d_M_canGo_0 : decode m_M_canGo.2.1 0 = .ok (.aload_n 0, 1) := by decide +kernel
theorem d_M_canGo_1 : decode m_M_canGo.2.1 1 = .ok (.iload_n 1, 1) := by decide +kernel
theorem d_M_canGo_2 : decode m_M_canGo.2.1 2 = .ok (.iload_n 2, 1) := by decide +kernel
theorem d_M_canGo_3 : decode m_M_canGo.2.1 3 = .ok (.iload_n 3, 1) := by decide +kernel
theorem d_M_canGo_4 : decode m_M_canGo.2.1 4 = .ok (.invokevirtual 165, 3) := by decide +kernel
theorem d_M_canGo_7 : decode m_M_canGo.2.1 7 = .ok (.ifCond .ne 15, 3) := by decide +kernel
theorem d_M_canGo_10 : decode m_M_canGo.2.1 10 = .ok (.aload_n 0, 1) := by decide +kernel
theorem d_M_canGo_11 : decode m_M_canGo.2.1 11 = .ok (.iload_n 1, 1) := by decide +kernel
theorem d_M_canGo_12 : decode m_M_canGo.2.1 12 = .ok (.iload_n 2, 1) := by decide +kernel
theorem d_M_canGo_13 : decode m_M_canGo.2.1 13 = .ok (.iload_n 3, 1) := by decide +kernel
theorem d_M_canGo_14 : decode m_M_canGo.2.1 14 = .ok (.iload 4, 2) := by decide +kernel
theorem d_M_canGo_16 : decode m_M_canGo.2.1 16 = .ok (.invokevirtual 168, 3) := by decide +kernel
theorem d_M_canGo_19 : decode m_M_canGo.2.1 19 = .ok (.ifCond .eq 7, 3) := by decide +kernel
theorem d_M_canGo_22 : decode m_M_canGo.2.1 22 = .ok (.iconst 1, 1) := by decide +kernel
theorem d_M_canGo_23 : decode m_M_canGo.2.1 23 = .ok (.goto 4, 3) := by decide +kernel
theorem d_M_canGo_26 : decode m_M_canGo.2.1 26 = .ok (.iconst 0, 1) := by decide +kernel
theorem d_M_canGo_27 : decode m_M_canGo.2.1 27 = .ok (.ireturn, 1) := by decide +kernel
def f_M_canGo (x1 : Int) (x2 : Int) (x3 : Int) (x4 : Int) (w : qMem) : Option (Int × qMem) :=
  (f_M_canByAdaptive x1 x2 x3 w).bind fun q1 =>
  if q1.1 = 0 then
  (f_M_canByEscape x1 x2 x3 x4 q1.2).bind fun q3 =>
  if q3.1 = 0 then
  some (0, q3.2)
  else
  some (1, q3.2)
  else
  some (1, q1.2)
set_option maxRecDepth 4000 in
theorem s_M_canGo (x1 : Int) (x2 : Int) (x3 : Int) (x4 : Int) (w : qMem) : qSim κI 100 100 m_M_canGo 0 [] [some (qR 88), some (qI x1), some (qI x2), some (qI x3), some (qI x4)] w (f_M_canGo x1 x2 x3 x4 w) := by
  unfold f_M_canGo
  refine z_aload_n d_M_canGo_0 rfl ?_
  refine z_iload_n d_M_canGo_1 rfl ?_
  refine z_iload_n d_M_canGo_2 rfl ?_
  refine z_iload_n d_M_canGo_3 rfl ?_
  refine z_cVI (as := [qI x1, qI x2, qI x3]) (st := []) (nl := 0) (ci := 10) d_M_canGo_4 lk_M_165 mk_M_canByAdaptive rfl rfl rfl rfl rfl rfl (s_M_canByAdaptive _ _ _ _) (fun q1 _ hq1 => ?_)
  refine z_if_ne (tgt := 22) d_M_canGo_7 rfl (fun c2 => ?_) (fun c2 => ?_)
  · refine z_aload_n d_M_canGo_10 rfl ?_
    refine z_iload_n d_M_canGo_11 rfl ?_
    refine z_iload_n d_M_canGo_12 rfl ?_
    refine z_iload_n d_M_canGo_13 rfl ?_
    refine z_iload d_M_canGo_14 rfl ?_
    refine z_cVI (as := [qI x1, qI x2, qI x3, qI x4]) (st := []) (nl := 1) (ci := 10) d_M_canGo_16 lk_M_168 mk_M_canByEscape rfl rfl rfl rfl rfl rfl (s_M_canByEscape _ _ _ _ _) (fun q3 _ hq3 => ?_)
    refine z_if_eq (tgt := 26) d_M_canGo_19 rfl (fun c4 => ?_) (fun c4 => ?_)
    · refine z_ic0 d_M_canGo_26 ?_
      exact z_zret d_M_canGo_27 rfl rfl (Or.inl rfl)
    · refine z_ic1 d_M_canGo_22 ?_
      refine z_goto (tgt := 27) d_M_canGo_23 rfl ?_
      exact z_zret d_M_canGo_27 rfl rfl (Or.inr rfl)
  · refine z_ic1 d_M_canGo_22 ?_
    refine z_goto (tgt := 27) d_M_canGo_23 rfl ?_
    exact z_zret d_M_canGo_27 rfl rfl (Or.inr rfl)
/-! BubbleTorusModel.isAhead -/
theorem d_M_isAhead_0 : decode m_M_isAhead.2.1 0 = .ok (.aload_n 0, 1) := by decide +kernel
theorem d_M_isAhead_1 : decode m_M_isAhead.2.1 1 = .ok (.iload_n 1, 1) := by decide +kernel
theorem d_M_isAhead_2 : decode m_M_isAhead.2.1 2 = .ok (.iload_n 3, 1) := by decide +kernel
theorem d_M_isAhead_3 : decode m_M_isAhead.2.1 3 = .ok (.iload 4, 2) := by decide +kernel
theorem d_M_isAhead_5 : decode m_M_isAhead.2.1 5 = .ok (.invokevirtual 155, 3) := by decide +kernel
theorem d_M_isAhead_8 : decode m_M_isAhead.2.1 8 = .ok (.istore 5, 2) := by decide +kernel
theorem d_M_isAhead_10 : decode m_M_isAhead.2.1 10 = .ok (.iload 5, 2) := by decide +kernel
theorem d_M_isAhead_12 : decode m_M_isAhead.2.1 12 = .ok (.aload_n 0, 1) := by decide +kernel
theorem d_M_isAhead_13 : decode m_M_isAhead.2.1 13 = .ok (.iload_n 2, 1) := by decide +kernel
theorem d_M_isAhead_14 : decode m_M_isAhead.2.1 14 = .ok (.iload_n 3, 1) := by decide +kernel
theorem d_M_isAhead_15 : decode m_M_isAhead.2.1 15 = .ok (.iload 4, 2) := by decide +kernel
theorem d_M_isAhead_17 : decode m_M_isAhead.2.1 17 = .ok (.invokevirtual 155, 3) := by decide +kernel
theorem d_M_isAhead_20 : decode m_M_isAhead.2.1 20 = .ok (.if_icmp .eq 6, 3) := by decide +kernel
theorem d_M_isAhead_23 : decode m_M_isAhead.2.1 23 = .ok (.iload 5, 2) := by decide +kernel
theorem d_M_isAhead_25 : decode m_M_isAhead.2.1 25 = .ok (.ireturn, 1) := by decide +kernel
theorem d_M_isAhead_26 : decode m_M_isAhead.2.1 26 = .ok (.aload_n 0, 1) := by decide +kernel
theorem d_M_isAhead_27 : decode m_M_isAhead.2.1 27 = .ok (.iload_n 1, 1) := by decide +kernel
theorem d_M_isAhead_28 : decode m_M_isAhead.2.1 28 = .ok (.iconst 2, 1) := by decide +kernel
theorem d_M_isAhead_29 : decode m_M_isAhead.2.1 29 = .ok (.invokevirtual 142, 3) := by decide +kernel
theorem d_M_isAhead_32 : decode m_M_isAhead.2.1 32 = .ok (.aload_n 0, 1) := by decide +kernel
theorem d_M_isAhead_33 : decode m_M_isAhead.2.1 33 = .ok (.iload_n 2, 1) := by decide +kernel
theorem d_M_isAhead_34 : decode m_M_isAhead.2.1 34 = .ok (.iconst 2, 1) := by decide +kernel
theorem d_M_isAhead_35 : decode m_M_isAhead.2.1 35 = .ok (.invokevirtual 142, 3) := by decide +kernel
theorem d_M_isAhead_38 : decode m_M_isAhead.2.1 38 = .ok (.if_icmp .eq 26, 3) := by decide +kernel
theorem d_M_isAhead_41 : decode m_M_isAhead.2.1 41 = .ok (.aload_n 0, 1) := by decide +kernel
theorem d_M_isAhead_42 : decode m_M_isAhead.2.1 42 = .ok (.iload_n 1, 1) := by decide +kernel
theorem d_M_isAhead_43 : decode m_M_isAhead.2.1 43 = .ok (.iconst 2, 1) := by decide +kernel
theorem d_M_isAhead_44 : decode m_M_isAhead.2.1 44 = .ok (.invokevirtual 142, 3) := by decide +kernel
theorem d_M_isAhead_47 : decode m_M_isAhead.2.1 47 = .ok (.aload_n 0, 1) := by decide +kernel
theorem d_M_isAhead_48 : decode m_M_isAhead.2.1 48 = .ok (.iload_n 2, 1) := by decide +kernel
theorem d_M_isAhead_49 : decode m_M_isAhead.2.1 49 = .ok (.iconst 2, 1) := by decide +kernel
theorem d_M_isAhead_50 : decode m_M_isAhead.2.1 50 = .ok (.invokevirtual 142, 3) := by decide +kernel
theorem d_M_isAhead_53 : decode m_M_isAhead.2.1 53 = .ok (.if_icmp .ge 7, 3) := by decide +kernel
theorem d_M_isAhead_56 : decode m_M_isAhead.2.1 56 = .ok (.iconst 1, 1) := by decide +kernel
theorem d_M_isAhead_57 : decode m_M_isAhead.2.1 57 = .ok (.goto 17, 3) := by decide +kernel
theorem d_M_isAhead_60 : decode m_M_isAhead.2.1 60 = .ok (.iconst 0, 1) := by decide +kernel
theorem d_M_isAhead_61 : decode m_M_isAhead.2.1 61 = .ok (.goto 13, 3) := by decide +kernel
theorem d_M_isAhead_64 : decode m_M_isAhead.2.1 64 = .ok (.iload_n 1, 1) := by decide +kernel
theorem d_M_isAhead_65 : decode m_M_isAhead.2.1 65 = .ok (.iload_n 2, 1) := by decide +kernel
theorem d_M_isAhead_66 : decode m_M_isAhead.2.1 66 = .ok (.if_icmp .ge 7, 3) := by decide +kernel
theorem d_M_isAhead_69 : decode m_M_isAhead.2.1 69 = .ok (.iconst 1, 1) := by decide +kernel
theorem d_M_isAhead_70 : decode m_M_isAhead.2.1 70 = .ok (.goto 4, 3) := by decide +kernel
theorem d_M_isAhead_73 : decode m_M_isAhead.2.1 73 = .ok (.iconst 0, 1) := by decide +kernel
theorem d_M_isAhead_74 : decode m_M_isAhead.2.1 74 = .ok (.ireturn, 1) := by decide +kernel
def f_M_isAhead (x1 : Int) (x2 : Int) (x3 : Int) (x4 : Int) (w : qMem) : Option (Int × qMem) :=
  (f_M_doesContinue x1 x3 x4 w).bind fun q1 =>
  (f_M_doesContinue x2 x3 x4 q1.2).bind fun q2 =>
  if q1.1 = q2.1 then
  (f_M_of x1 2 q2.2).bind fun q4 =>
  (f_M_of x2 2 q4.2).bind fun q5 =>
  if q4.1 = q5.1 then
  if x1 < x2 then
  some (1, q5.2)
  else
  some (0, q5.2)
  else
  (f_M_of x1 2 q5.2).bind fun q8 =>
  (f_M_of x2 2 q8.2).bind fun q9 =>
  if q8.1 < q9.1 then
  some (1, q9.2)
  else
  some (0, q9.2)
  else
  some (q1.1, q2.2)
set_option maxRecDepth 4000 in
theorem s_M_isAhead (x1 : Int) (x2 : Int) (x3 : Int) (x4 : Int) (w : qMem) : qSim κI 100 100 m_M_isAhead 0 [] [some (qR 88), some (qI x1), some (qI x2), some (qI x3), some (qI x4), none] w (f_M_isAhead x1 x2 x3 x4 w) := by
  unfold f_M_isAhead
  refine z_aload_n d_M_isAhead_0 rfl ?_
  refine z_iload_n d_M_isAhead_1 rfl ?_
  refine z_iload_n d_M_isAhead_2 rfl ?_
  refine z_iload d_M_isAhead_3 rfl ?_
  refine z_cVI (as := [qI x1, qI x3, qI x4]) (st := []) (nl := 0) (ci := 10) d_M_isAhead_5 lk_M_155 mk_M_doesContinue rfl rfl rfl rfl rfl rfl (s_M_doesContinue _ _ _ _) (fun q1 _ hq1 => ?_)
  refine z_istore (pls' := [some (qR 88), some (qI x1), some (qI x2), some (qI x3), some (qI x4), some (qI q1.1)]) d_M_isAhead_8 (by decide) rfl rfl ?_
  refine z_iload d_M_isAhead_10 rfl ?_
  refine z_aload_n d_M_isAhead_12 rfl ?_
  refine z_iload_n d_M_isAhead_13 rfl ?_
  refine z_iload_n d_M_isAhead_14 rfl ?_
  refine z_iload d_M_isAhead_15 rfl ?_
  refine z_cVI (as := [qI x2, qI x3, qI x4]) (st := [qI q1.1]) (nl := 0) (ci := 10) d_M_isAhead_17 lk_M_155 mk_M_doesContinue rfl rfl rfl rfl rfl rfl (s_M_doesContinue _ _ _ _) (fun q2 _ hq2 => ?_)
  refine z_icmp_eq (tgt := 26) d_M_isAhead_20 rfl (fun c3 => ?_) (fun c3 => ?_)
  · refine z_aload_n d_M_isAhead_26 rfl ?_
    refine z_iload_n d_M_isAhead_27 rfl ?_
    refine z_ic2 d_M_isAhead_28 ?_
    refine z_cVI (as := [qI x1, qI 2]) (st := []) (nl := 0) (ci := 10) d_M_isAhead_29 lk_M_142 mk_M_of rfl rfl rfl rfl rfl rfl (s_M_of _ _ _) (fun q4 _ hq4 => ?_)
    refine z_aload_n d_M_isAhead_32 rfl ?_
    refine z_iload_n d_M_isAhead_33 rfl ?_
    refine z_ic2 d_M_isAhead_34 ?_
    refine z_cVI (as := [qI x2, qI 2]) (st := [qI q4.1]) (nl := 0) (ci := 10) d_M_isAhead_35 lk_M_142 mk_M_of rfl rfl rfl rfl rfl rfl (s_M_of _ _ _) (fun q5 _ hq5 => ?_)
    refine z_icmp_eq (tgt := 64) d_M_isAhead_38 rfl (fun c6 => ?_) (fun c6 => ?_)
    · refine z_iload_n d_M_isAhead_64 rfl ?_
      refine z_iload_n d_M_isAhead_65 rfl ?_
      refine z_icmp_ge (tgt := 73) d_M_isAhead_66 rfl (fun c7 => ?_) (fun c7 => ?_)
      · refine z_ic1 d_M_isAhead_69 ?_
        refine z_goto (tgt := 74) d_M_isAhead_70 rfl ?_
        exact z_zret d_M_isAhead_74 rfl rfl (Or.inr rfl)
      · refine z_ic0 d_M_isAhead_73 ?_
        exact z_zret d_M_isAhead_74 rfl rfl (Or.inl rfl)
    · refine z_aload_n d_M_isAhead_41 rfl ?_
      refine z_iload_n d_M_isAhead_42 rfl ?_
      refine z_ic2 d_M_isAhead_43 ?_
      refine z_cVI (as := [qI x1, qI 2]) (st := []) (nl := 0) (ci := 10) d_M_isAhead_44 lk_M_142 mk_M_of rfl rfl rfl rfl rfl rfl (s_M_of _ _ _) (fun q8 _ hq8 => ?_)
      refine z_aload_n d_M_isAhead_47 rfl ?_
      refine z_iload_n d_M_isAhead_48 rfl ?_
      refine z_ic2 d_M_isAhead_49 ?_
      refine z_cVI (as := [qI x2, qI 2]) (st := [qI q8.1]) (nl := 0) (ci := 10) d_M_isAhead_50 lk_M_142 mk_M_of rfl rfl rfl rfl rfl rfl (s_M_of _ _ _) (fun q9 _ hq9 => ?_)
      refine z_icmp_ge (tgt := 60) d_M_isAhead_53 rfl (fun c10 => ?_) (fun c10 => ?_)
      · refine z_ic1 d_M_isAhead_56 ?_
        refine z_goto (tgt := 74) d_M_isAhead_57 rfl ?_
        exact z_zret d_M_isAhead_74 rfl rfl (Or.inr rfl)
      · refine z_ic0 d_M_isAhead_60 ?_
        refine z_goto (tgt := 74) d_M_isAhead_61 rfl ?_
        exact z_zret d_M_isAhead_74 rfl rfl (Or.inl rfl)
  · refine z_iload d_M_isAhead_23 rfl ?_
    exact z_zret d_M_isAhead_25 rfl rfl (q_boo rfl hq1)
/-! BubbleTorusModel.notes -/
theorem d_M_notes_0 : decode m_M_notes.2.1 0 = .ok (.sipush 5514, 3) := by decide +kernel
theorem d_M_notes_3 : decode m_M_notes.2.1 3 = .ok (.iconst 5, 1) := by decide +kernel
theorem d_M_notes_4 : decode m_M_notes.2.1 4 = .ok (.aload_n 0, 1) := by decide +kernel
theorem d_M_notes_5 : decode m_M_notes.2.1 5 = .ok (.getfield 7, 3) := by decide +kernel
theorem d_M_notes_8 : decode m_M_notes.2.1 8 = .ok (.bipush 15, 2) := by decide +kernel
theorem d_M_notes_10 : decode m_M_notes.2.1 10 = .ok (.iaload, 1) := by decide +kernel
theorem d_M_notes_11 : decode m_M_notes.2.1 11 = .ok (.imul, 1) := by decide +kernel
theorem d_M_notes_12 : decode m_M_notes.2.1 12 = .ok (.iadd, 1) := by decide +kernel
theorem d_M_notes_13 : decode m_M_notes.2.1 13 = .ok (.istore 6, 2) := by decide +kernel
theorem d_M_notes_15 : decode m_M_notes.2.1 15 = .ok (.aload_n 0, 1) := by decide +kernel
theorem d_M_notes_16 : decode m_M_notes.2.1 16 = .ok (.getfield 7, 3) := by decide +kernel
theorem d_M_notes_19 : decode m_M_notes.2.1 19 = .ok (.iload 6, 2) := by decide +kernel
theorem d_M_notes_21 : decode m_M_notes.2.1 21 = .ok (.iload_n 1, 1) := by decide +kernel
theorem d_M_notes_22 : decode m_M_notes.2.1 22 = .ok (.iastore, 1) := by decide +kernel
theorem d_M_notes_23 : decode m_M_notes.2.1 23 = .ok (.aload_n 0, 1) := by decide +kernel
theorem d_M_notes_24 : decode m_M_notes.2.1 24 = .ok (.getfield 7, 3) := by decide +kernel
theorem d_M_notes_27 : decode m_M_notes.2.1 27 = .ok (.iload 6, 2) := by decide +kernel
theorem d_M_notes_29 : decode m_M_notes.2.1 29 = .ok (.iconst 1, 1) := by decide +kernel
theorem d_M_notes_30 : decode m_M_notes.2.1 30 = .ok (.iadd, 1) := by decide +kernel
theorem d_M_notes_31 : decode m_M_notes.2.1 31 = .ok (.iload_n 2, 1) := by decide +kernel
theorem d_M_notes_32 : decode m_M_notes.2.1 32 = .ok (.iastore, 1) := by decide +kernel
theorem d_M_notes_33 : decode m_M_notes.2.1 33 = .ok (.aload_n 0, 1) := by decide +kernel
theorem d_M_notes_34 : decode m_M_notes.2.1 34 = .ok (.getfield 7, 3) := by decide +kernel
theorem d_M_notes_37 : decode m_M_notes.2.1 37 = .ok (.iload 6, 2) := by decide +kernel
theorem d_M_notes_39 : decode m_M_notes.2.1 39 = .ok (.iconst 2, 1) := by decide +kernel
theorem d_M_notes_40 : decode m_M_notes.2.1 40 = .ok (.iadd, 1) := by decide +kernel
theorem d_M_notes_41 : decode m_M_notes.2.1 41 = .ok (.iload_n 3, 1) := by decide +kernel
theorem d_M_notes_42 : decode m_M_notes.2.1 42 = .ok (.iastore, 1) := by decide +kernel
theorem d_M_notes_43 : decode m_M_notes.2.1 43 = .ok (.aload_n 0, 1) := by decide +kernel
theorem d_M_notes_44 : decode m_M_notes.2.1 44 = .ok (.getfield 7, 3) := by decide +kernel
theorem d_M_notes_47 : decode m_M_notes.2.1 47 = .ok (.iload 6, 2) := by decide +kernel
theorem d_M_notes_49 : decode m_M_notes.2.1 49 = .ok (.iconst 3, 1) := by decide +kernel
theorem d_M_notes_50 : decode m_M_notes.2.1 50 = .ok (.iadd, 1) := by decide +kernel
theorem d_M_notes_51 : decode m_M_notes.2.1 51 = .ok (.iload 4, 2) := by decide +kernel
theorem d_M_notes_53 : decode m_M_notes.2.1 53 = .ok (.iastore, 1) := by decide +kernel
theorem d_M_notes_54 : decode m_M_notes.2.1 54 = .ok (.aload_n 0, 1) := by decide +kernel
theorem d_M_notes_55 : decode m_M_notes.2.1 55 = .ok (.getfield 7, 3) := by decide +kernel
theorem d_M_notes_58 : decode m_M_notes.2.1 58 = .ok (.iload 6, 2) := by decide +kernel
theorem d_M_notes_60 : decode m_M_notes.2.1 60 = .ok (.iconst 4, 1) := by decide +kernel
theorem d_M_notes_61 : decode m_M_notes.2.1 61 = .ok (.iadd, 1) := by decide +kernel
theorem d_M_notes_62 : decode m_M_notes.2.1 62 = .ok (.iload 5, 2) := by decide +kernel
theorem d_M_notes_64 : decode m_M_notes.2.1 64 = .ok (.iastore, 1) := by decide +kernel
theorem d_M_notes_65 : decode m_M_notes.2.1 65 = .ok (.aload_n 0, 1) := by decide +kernel
theorem d_M_notes_66 : decode m_M_notes.2.1 66 = .ok (.getfield 7, 3) := by decide +kernel
theorem d_M_notes_69 : decode m_M_notes.2.1 69 = .ok (.bipush 15, 2) := by decide +kernel
theorem d_M_notes_71 : decode m_M_notes.2.1 71 = .ok (.dup2, 1) := by decide +kernel
theorem d_M_notes_72 : decode m_M_notes.2.1 72 = .ok (.iaload, 1) := by decide +kernel
theorem d_M_notes_73 : decode m_M_notes.2.1 73 = .ok (.iconst 1, 1) := by decide +kernel
theorem d_M_notes_74 : decode m_M_notes.2.1 74 = .ok (.iadd, 1) := by decide +kernel
theorem d_M_notes_75 : decode m_M_notes.2.1 75 = .ok (.iastore, 1) := by decide +kernel
theorem d_M_notes_76 : decode m_M_notes.2.1 76 = .ok (.return_, 1) := by decide +kernel
def f_M_notes (x1 : Int) (x2 : Int) (x3 : Int) (x4 : Int) (x5 : Int) (w : qMem) : Option (qMem) :=
  qld w 89 5898 15 fun v1 =>
  qst w 89 5898 (w32 (5514 + (w32 (5 * v1)))) x1 fun w2 =>
  qst w2 89 5898 (w32 ((w32 (5514 + (w32 (5 * v1)))) + 1)) x2 fun w3 =>
  qst w3 89 5898 (w32 ((w32 (5514 + (w32 (5 * v1)))) + 2)) x3 fun w4 =>
  qst w4 89 5898 (w32 ((w32 (5514 + (w32 (5 * v1)))) + 3)) x4 fun w5 =>
  qst w5 89 5898 (w32 ((w32 (5514 + (w32 (5 * v1)))) + 4)) x5 fun w6 =>
  qld w6 89 5898 15 fun v7 =>
  qst w6 89 5898 15 (w32 (v7 + 1)) fun w8 =>
  some w8
set_option maxRecDepth 4000 in
theorem s_M_notes (x1 : Int) (x2 : Int) (x3 : Int) (x4 : Int) (x5 : Int) (w : qMem) : qSim κV 100 100 m_M_notes 0 [] [some (qR 88), some (qI x1), some (qI x2), some (qI x3), some (qI x4), some (qI x5), none] w (f_M_notes x1 x2 x3 x4 x5 w) := by
  unfold f_M_notes
  refine z_sipush d_M_notes_0 ⟨by decide, by decide⟩ ?_
  refine z_ic5 d_M_notes_3 ?_
  refine z_aload_n d_M_notes_4 rfl ?_
  refine z_gr (ci := 10) (j := 0) (d := 1) (o2 := 89) d_M_notes_5 rfl fl_M_7 rfl (Nat.le_of_ble_eq_true rfl) rfl rfl ?_
  refine z_bipush d_M_notes_8 ⟨by decide, by decide⟩ ?_
  refine z_il d_M_notes_10 rfl rfl (fun v1 => ?_)
  refine z_imul d_M_notes_11 ?_
  refine z_iadd d_M_notes_12 ?_
  refine z_istore (pls' := [some (qR 88), some (qI x1), some (qI x2), some (qI x3), some (qI x4), some (qI x5), some (qI (w32 (5514 + (w32 (5 * v1)))))]) d_M_notes_13 (by decide) rfl rfl ?_
  refine z_aload_n d_M_notes_15 rfl ?_
  refine z_gr (ci := 10) (j := 0) (d := 1) (o2 := 89) d_M_notes_16 rfl fl_M_7 rfl (Nat.le_of_ble_eq_true rfl) rfl rfl ?_
  refine z_iload d_M_notes_19 rfl ?_
  refine z_iload_n d_M_notes_21 rfl ?_
  refine z_is d_M_notes_22 rfl rfl (fun w2 => ?_)
  refine z_aload_n d_M_notes_23 rfl ?_
  refine z_gr (ci := 10) (j := 0) (d := 1) (o2 := 89) d_M_notes_24 rfl fl_M_7 rfl (Nat.le_of_ble_eq_true rfl) rfl rfl ?_
  refine z_iload d_M_notes_27 rfl ?_
  refine z_ic1 d_M_notes_29 ?_
  refine z_iadd d_M_notes_30 ?_
  refine z_iload_n d_M_notes_31 rfl ?_
  refine z_is d_M_notes_32 rfl rfl (fun w3 => ?_)
  refine z_aload_n d_M_notes_33 rfl ?_
  refine z_gr (ci := 10) (j := 0) (d := 1) (o2 := 89) d_M_notes_34 rfl fl_M_7 rfl (Nat.le_of_ble_eq_true rfl) rfl rfl ?_
  refine z_iload d_M_notes_37 rfl ?_
  refine z_ic2 d_M_notes_39 ?_
  refine z_iadd d_M_notes_40 ?_
  refine z_iload_n d_M_notes_41 rfl ?_
  refine z_is d_M_notes_42 rfl rfl (fun w4 => ?_)
  refine z_aload_n d_M_notes_43 rfl ?_
  refine z_gr (ci := 10) (j := 0) (d := 1) (o2 := 89) d_M_notes_44 rfl fl_M_7 rfl (Nat.le_of_ble_eq_true rfl) rfl rfl ?_
  refine z_iload d_M_notes_47 rfl ?_
  refine z_ic3 d_M_notes_49 ?_
  refine z_iadd d_M_notes_50 ?_
  refine z_iload d_M_notes_51 rfl ?_
  refine z_is d_M_notes_53 rfl rfl (fun w5 => ?_)
  refine z_aload_n d_M_notes_54 rfl ?_
  refine z_gr (ci := 10) (j := 0) (d := 1) (o2 := 89) d_M_notes_55 rfl fl_M_7 rfl (Nat.le_of_ble_eq_true rfl) rfl rfl ?_
  refine z_iload d_M_notes_58 rfl ?_
  refine z_ic4 d_M_notes_60 ?_
  refine z_iadd d_M_notes_61 ?_
  refine z_iload d_M_notes_62 rfl ?_
  refine z_is d_M_notes_64 rfl rfl (fun w6 => ?_)
  refine z_aload_n d_M_notes_65 rfl ?_
  refine z_gr (ci := 10) (j := 0) (d := 1) (o2 := 89) d_M_notes_66 rfl fl_M_7 rfl (Nat.le_of_ble_eq_true rfl) rfl rfl ?_
  refine z_bipush d_M_notes_69 ⟨by decide, by decide⟩ ?_
  refine z_dup2 d_M_notes_71 rfl rfl ?_
  refine z_il d_M_notes_72 rfl rfl (fun v7 => ?_)
  refine z_ic1 d_M_notes_73 ?_
  refine z_iadd d_M_notes_74 ?_
  refine z_is d_M_notes_75 rfl rfl (fun w8 => ?_)
  exact z_vret d_M_notes_76 rfl rfl
/-! BubbleTorusModel.enters -/
theorem d_M_enters3_0 : decode m_M_enters3.2.1 0 = .ok (.aload_n 0, 1) := by decide +kernel
theorem d_M_enters3_1 : decode m_M_enters3.2.1 1 = .ok (.getfield 7, 3) := by decide +kernel
theorem d_M_enters3_4 : decode m_M_enters3.2.1 4 = .ok (.iload_n 1, 1) := by decide +kernel
theorem d_M_enters3_5 : decode m_M_enters3.2.1 5 = .ok (.invokestatic 114, 3) := by decide +kernel
theorem d_M_enters3_8 : decode m_M_enters3.2.1 8 = .ok (.bipush 8, 2) := by decide +kernel
theorem d_M_enters3_10 : decode m_M_enters3.2.1 10 = .ok (.iadd, 1) := by decide +kernel
theorem d_M_enters3_11 : decode m_M_enters3.2.1 11 = .ok (.dup2, 1) := by decide +kernel
theorem d_M_enters3_12 : decode m_M_enters3.2.1 12 = .ok (.iaload, 1) := by decide +kernel
theorem d_M_enters3_13 : decode m_M_enters3.2.1 13 = .ok (.iconst 1, 1) := by decide +kernel
theorem d_M_enters3_14 : decode m_M_enters3.2.1 14 = .ok (.iadd, 1) := by decide +kernel
theorem d_M_enters3_15 : decode m_M_enters3.2.1 15 = .ok (.iastore, 1) := by decide +kernel
theorem d_M_enters3_16 : decode m_M_enters3.2.1 16 = .ok (.aload_n 0, 1) := by decide +kernel
theorem d_M_enters3_17 : decode m_M_enters3.2.1 17 = .ok (.getfield 7, 3) := by decide +kernel
theorem d_M_enters3_20 : decode m_M_enters3.2.1 20 = .ok (.aload_n 0, 1) := by decide +kernel
theorem d_M_enters3_21 : decode m_M_enters3.2.1 21 = .ok (.iload_n 2, 1) := by decide +kernel
theorem d_M_enters3_22 : decode m_M_enters3.2.1 22 = .ok (.iload_n 3, 1) := by decide +kernel
theorem d_M_enters3_23 : decode m_M_enters3.2.1 23 = .ok (.invokevirtual 102, 3) := by decide +kernel
theorem d_M_enters3_26 : decode m_M_enters3.2.1 26 = .ok (.invokestatic 58, 3) := by decide +kernel
theorem d_M_enters3_29 : decode m_M_enters3.2.1 29 = .ok (.iconst 4, 1) := by decide +kernel
theorem d_M_enters3_30 : decode m_M_enters3.2.1 30 = .ok (.iadd, 1) := by decide +kernel
theorem d_M_enters3_31 : decode m_M_enters3.2.1 31 = .ok (.dup2, 1) := by decide +kernel
theorem d_M_enters3_32 : decode m_M_enters3.2.1 32 = .ok (.iaload, 1) := by decide +kernel
theorem d_M_enters3_33 : decode m_M_enters3.2.1 33 = .ok (.iconst 1, 1) := by decide +kernel
theorem d_M_enters3_34 : decode m_M_enters3.2.1 34 = .ok (.iadd, 1) := by decide +kernel
theorem d_M_enters3_35 : decode m_M_enters3.2.1 35 = .ok (.iastore, 1) := by decide +kernel
theorem d_M_enters3_36 : decode m_M_enters3.2.1 36 = .ok (.aload_n 0, 1) := by decide +kernel
theorem d_M_enters3_37 : decode m_M_enters3.2.1 37 = .ok (.getfield 7, 3) := by decide +kernel
theorem d_M_enters3_40 : decode m_M_enters3.2.1 40 = .ok (.sipush 5834, 3) := by decide +kernel
theorem d_M_enters3_43 : decode m_M_enters3.2.1 43 = .ok (.iconst 4, 1) := by decide +kernel
theorem d_M_enters3_44 : decode m_M_enters3.2.1 44 = .ok (.iload_n 2, 1) := by decide +kernel
theorem d_M_enters3_45 : decode m_M_enters3.2.1 45 = .ok (.imul, 1) := by decide +kernel
theorem d_M_enters3_46 : decode m_M_enters3.2.1 46 = .ok (.iadd, 1) := by decide +kernel
theorem d_M_enters3_47 : decode m_M_enters3.2.1 47 = .ok (.iload_n 3, 1) := by decide +kernel
theorem d_M_enters3_48 : decode m_M_enters3.2.1 48 = .ok (.iadd, 1) := by decide +kernel
theorem d_M_enters3_49 : decode m_M_enters3.2.1 49 = .ok (.iconst 1, 1) := by decide +kernel
theorem d_M_enters3_50 : decode m_M_enters3.2.1 50 = .ok (.iastore, 1) := by decide +kernel
theorem d_M_enters3_51 : decode m_M_enters3.2.1 51 = .ok (.return_, 1) := by decide +kernel
def f_M_enters3 (x1 : Int) (x2 : Int) (x3 : Int) (w : qMem) : Option (qMem) :=
  (f_M_packetAt x1 w).bind fun q1 =>
  qld q1.2 89 5898 (w32 (q1.1 + 8)) fun v2 =>
  qst q1.2 89 5898 (w32 (q1.1 + 8)) (w32 (v2 + 1)) fun w3 =>
  (f_M_ringFor x2 x3 w3).bind fun q4 =>
  (f_M_ringAt q4.1 q4.2).bind fun q5 =>
  qld q5.2 89 5898 (w32 (q5.1 + 4)) fun v6 =>
  qst q5.2 89 5898 (w32 (q5.1 + 4)) (w32 (v6 + 1)) fun w7 =>
  qst w7 89 5898 (w32 ((w32 (5834 + (w32 (4 * x2)))) + x3)) 1 fun w8 =>
  some w8
set_option maxRecDepth 4000 in
theorem s_M_enters3 (x1 : Int) (x2 : Int) (x3 : Int) (w : qMem) : qSim κV 100 100 m_M_enters3 0 [] [some (qR 88), some (qI x1), some (qI x2), some (qI x3)] w (f_M_enters3 x1 x2 x3 w) := by
  unfold f_M_enters3
  refine z_aload_n d_M_enters3_0 rfl ?_
  refine z_gr (ci := 10) (j := 0) (d := 1) (o2 := 89) d_M_enters3_1 rfl fl_M_7 rfl (Nat.le_of_ble_eq_true rfl) rfl rfl ?_
  refine z_iload_n d_M_enters3_4 rfl ?_
  refine z_cSI (av := [qI x1]) (st := [qR 89]) (nl := 0) d_M_enters3_5 lk_M_114 mk_M_packetAt rfl rfl rfl (s_M_packetAt _ _) (fun q1 _ hq1 => ?_)
  refine z_bipush d_M_enters3_8 ⟨by decide, by decide⟩ ?_
  refine z_iadd d_M_enters3_10 ?_
  refine z_dup2 d_M_enters3_11 rfl rfl ?_
  refine z_il d_M_enters3_12 rfl rfl (fun v2 => ?_)
  refine z_ic1 d_M_enters3_13 ?_
  refine z_iadd d_M_enters3_14 ?_
  refine z_is d_M_enters3_15 rfl rfl (fun w3 => ?_)
  refine z_aload_n d_M_enters3_16 rfl ?_
  refine z_gr (ci := 10) (j := 0) (d := 1) (o2 := 89) d_M_enters3_17 rfl fl_M_7 rfl (Nat.le_of_ble_eq_true rfl) rfl rfl ?_
  refine z_aload_n d_M_enters3_20 rfl ?_
  refine z_iload_n d_M_enters3_21 rfl ?_
  refine z_iload_n d_M_enters3_22 rfl ?_
  refine z_cVI (as := [qI x2, qI x3]) (st := [qR 89]) (nl := 0) (ci := 10) d_M_enters3_23 lk_M_102 mk_M_ringFor rfl rfl rfl rfl rfl rfl (s_M_ringFor _ _ _) (fun q4 _ hq4 => ?_)
  refine z_cSI (av := [qI q4.1]) (st := [qR 89]) (nl := 0) d_M_enters3_26 lk_M_58 mk_M_ringAt rfl rfl rfl (s_M_ringAt _ _) (fun q5 _ hq5 => ?_)
  refine z_ic4 d_M_enters3_29 ?_
  refine z_iadd d_M_enters3_30 ?_
  refine z_dup2 d_M_enters3_31 rfl rfl ?_
  refine z_il d_M_enters3_32 rfl rfl (fun v6 => ?_)
  refine z_ic1 d_M_enters3_33 ?_
  refine z_iadd d_M_enters3_34 ?_
  refine z_is d_M_enters3_35 rfl rfl (fun w7 => ?_)
  refine z_aload_n d_M_enters3_36 rfl ?_
  refine z_gr (ci := 10) (j := 0) (d := 1) (o2 := 89) d_M_enters3_37 rfl fl_M_7 rfl (Nat.le_of_ble_eq_true rfl) rfl rfl ?_
  refine z_sipush d_M_enters3_40 ⟨by decide, by decide⟩ ?_
  refine z_ic4 d_M_enters3_43 ?_
  refine z_iload_n d_M_enters3_44 rfl ?_
  refine z_imul d_M_enters3_45 ?_
  refine z_iadd d_M_enters3_46 ?_
  refine z_iload_n d_M_enters3_47 rfl ?_
  refine z_iadd d_M_enters3_48 ?_
  refine z_ic1 d_M_enters3_49 ?_
  refine z_is d_M_enters3_50 rfl rfl (fun w8 => ?_)
  exact z_vret d_M_enters3_51 rfl rfl
/-! BubbleTorusModel.goes -/
theorem d_M_goes_0 : decode m_M_goes.2.1 0 = .ok (.aload_n 0, 1) := by decide +kernel
theorem d_M_goes_1 : decode m_M_goes.2.1 1 = .ok (.iload_n 1, 1) := by decide +kernel
theorem d_M_goes_2 : decode m_M_goes.2.1 2 = .ok (.iload_n 2, 1) := by decide +kernel
theorem d_M_goes_3 : decode m_M_goes.2.1 3 = .ok (.iload 4, 2) := by decide +kernel
theorem d_M_goes_5 : decode m_M_goes.2.1 5 = .ok (.invokevirtual 165, 3) := by decide +kernel
theorem d_M_goes_8 : decode m_M_goes.2.1 8 = .ok (.istore 5, 2) := by decide +kernel
theorem d_M_goes_10 : decode m_M_goes.2.1 10 = .ok (.iload 5, 2) := by decide +kernel
theorem d_M_goes_12 : decode m_M_goes.2.1 12 = .ok (.ifCond .ne 18, 3) := by decide +kernel
theorem d_M_goes_15 : decode m_M_goes.2.1 15 = .ok (.aload_n 0, 1) := by decide +kernel
theorem d_M_goes_16 : decode m_M_goes.2.1 16 = .ok (.iload_n 1, 1) := by decide +kernel
theorem d_M_goes_17 : decode m_M_goes.2.1 17 = .ok (.iload_n 2, 1) := by decide +kernel
theorem d_M_goes_18 : decode m_M_goes.2.1 18 = .ok (.iload 4, 2) := by decide +kernel
theorem d_M_goes_20 : decode m_M_goes.2.1 20 = .ok (.invokevirtual 155, 3) := by decide +kernel
theorem d_M_goes_23 : decode m_M_goes.2.1 23 = .ok (.ifCond .eq 7, 3) := by decide +kernel
theorem d_M_goes_26 : decode m_M_goes.2.1 26 = .ok (.iconst 1, 1) := by decide +kernel
theorem d_M_goes_27 : decode m_M_goes.2.1 27 = .ok (.goto 4, 3) := by decide +kernel
theorem d_M_goes_30 : decode m_M_goes.2.1 30 = .ok (.iconst 0, 1) := by decide +kernel
theorem d_M_goes_31 : decode m_M_goes.2.1 31 = .ok (.istore 6, 2) := by decide +kernel
theorem d_M_goes_33 : decode m_M_goes.2.1 33 = .ok (.aload_n 0, 1) := by decide +kernel
theorem d_M_goes_34 : decode m_M_goes.2.1 34 = .ok (.iload_n 2, 1) := by decide +kernel
theorem d_M_goes_35 : decode m_M_goes.2.1 35 = .ok (.iload 4, 2) := by decide +kernel
theorem d_M_goes_37 : decode m_M_goes.2.1 37 = .ok (.invokevirtual 79, 3) := by decide +kernel
theorem d_M_goes_40 : decode m_M_goes.2.1 40 = .ok (.istore 7, 2) := by decide +kernel
theorem d_M_goes_42 : decode m_M_goes.2.1 42 = .ok (.aload_n 0, 1) := by decide +kernel
theorem d_M_goes_43 : decode m_M_goes.2.1 43 = .ok (.iload_n 2, 1) := by decide +kernel
theorem d_M_goes_44 : decode m_M_goes.2.1 44 = .ok (.iload 4, 2) := by decide +kernel
theorem d_M_goes_46 : decode m_M_goes.2.1 46 = .ok (.invokevirtual 102, 3) := by decide +kernel
theorem d_M_goes_49 : decode m_M_goes.2.1 49 = .ok (.invokestatic 58, 3) := by decide +kernel
theorem d_M_goes_52 : decode m_M_goes.2.1 52 = .ok (.istore 8, 2) := by decide +kernel
theorem d_M_goes_54 : decode m_M_goes.2.1 54 = .ok (.iload 6, 2) := by decide +kernel
theorem d_M_goes_56 : decode m_M_goes.2.1 56 = .ok (.ifCond .eq 51, 3) := by decide +kernel
theorem d_M_goes_59 : decode m_M_goes.2.1 59 = .ok (.aload_n 0, 1) := by decide +kernel
theorem d_M_goes_60 : decode m_M_goes.2.1 60 = .ok (.getfield 7, 3) := by decide +kernel
theorem d_M_goes_63 : decode m_M_goes.2.1 63 = .ok (.iconst 4, 1) := by decide +kernel
theorem d_M_goes_64 : decode m_M_goes.2.1 64 = .ok (.iaload, 1) := by decide +kernel
theorem d_M_goes_65 : decode m_M_goes.2.1 65 = .ok (.iconst 2, 1) := by decide +kernel
theorem d_M_goes_66 : decode m_M_goes.2.1 66 = .ok (.if_icmp .ne 41, 3) := by decide +kernel
theorem d_M_goes_69 : decode m_M_goes.2.1 69 = .ok (.aload_n 0, 1) := by decide +kernel
theorem d_M_goes_70 : decode m_M_goes.2.1 70 = .ok (.getfield 7, 3) := by decide +kernel
theorem d_M_goes_73 : decode m_M_goes.2.1 73 = .ok (.iload 8, 2) := by decide +kernel
theorem d_M_goes_75 : decode m_M_goes.2.1 75 = .ok (.iconst 0, 1) := by decide +kernel
theorem d_M_goes_76 : decode m_M_goes.2.1 76 = .ok (.iadd, 1) := by decide +kernel
theorem d_M_goes_77 : decode m_M_goes.2.1 77 = .ok (.iaload, 1) := by decide +kernel
theorem d_M_goes_78 : decode m_M_goes.2.1 78 = .ok (.iload 7, 2) := by decide +kernel
theorem d_M_goes_80 : decode m_M_goes.2.1 80 = .ok (.if_icmp .ne 27, 3) := by decide +kernel
theorem d_M_goes_83 : decode m_M_goes.2.1 83 = .ok (.aload_n 0, 1) := by decide +kernel
theorem d_M_goes_84 : decode m_M_goes.2.1 84 = .ok (.iload 7, 2) := by decide +kernel
theorem d_M_goes_86 : decode m_M_goes.2.1 86 = .ok (.iconst 1, 1) := by decide +kernel
theorem d_M_goes_87 : decode m_M_goes.2.1 87 = .ok (.iload 4, 2) := by decide +kernel
theorem d_M_goes_89 : decode m_M_goes.2.1 89 = .ok (.iadd, 1) := by decide +kernel
theorem d_M_goes_90 : decode m_M_goes.2.1 90 = .ok (.invokevirtual 117, 3) := by decide +kernel
theorem d_M_goes_93 : decode m_M_goes.2.1 93 = .ok (.iconst 1, 1) := by decide +kernel
theorem d_M_goes_94 : decode m_M_goes.2.1 94 = .ok (.if_icmp .ne 13, 3) := by decide +kernel
theorem d_M_goes_97 : decode m_M_goes.2.1 97 = .ok (.aload_n 0, 1) := by decide +kernel
theorem d_M_goes_98 : decode m_M_goes.2.1 98 = .ok (.getfield 7, 3) := by decide +kernel
theorem d_M_goes_101 : decode m_M_goes.2.1 101 = .ok (.iload 8, 2) := by decide +kernel
theorem d_M_goes_103 : decode m_M_goes.2.1 103 = .ok (.iconst 0, 1) := by decide +kernel
theorem d_M_goes_104 : decode m_M_goes.2.1 104 = .ok (.iadd, 1) := by decide +kernel
theorem d_M_goes_105 : decode m_M_goes.2.1 105 = .ok (.iload_n 2, 1) := by decide +kernel
theorem d_M_goes_106 : decode m_M_goes.2.1 106 = .ok (.iastore, 1) := by decide +kernel
theorem d_M_goes_107 : decode m_M_goes.2.1 107 = .ok (.iload 5, 2) := by decide +kernel
theorem d_M_goes_109 : decode m_M_goes.2.1 109 = .ok (.ifCond .ne 16, 3) := by decide +kernel
theorem d_M_goes_112 : decode m_M_goes.2.1 112 = .ok (.iload 6, 2) := by decide +kernel
theorem d_M_goes_114 : decode m_M_goes.2.1 114 = .ok (.ifCond .ne 11, 3) := by decide +kernel
theorem d_M_goes_117 : decode m_M_goes.2.1 117 = .ok (.aload_n 0, 1) := by decide +kernel
theorem d_M_goes_118 : decode m_M_goes.2.1 118 = .ok (.iload_n 1, 1) := by decide +kernel
theorem d_M_goes_119 : decode m_M_goes.2.1 119 = .ok (.iload_n 2, 1) := by decide +kernel
theorem d_M_goes_120 : decode m_M_goes.2.1 120 = .ok (.iload 4, 2) := by decide +kernel
theorem d_M_goes_122 : decode m_M_goes.2.1 122 = .ok (.invokevirtual 172, 3) := by decide +kernel
theorem d_M_goes_125 : decode m_M_goes.2.1 125 = .ok (.iload_n 1, 1) := by decide +kernel
theorem d_M_goes_126 : decode m_M_goes.2.1 126 = .ok (.invokestatic 114, 3) := by decide +kernel
theorem d_M_goes_129 : decode m_M_goes.2.1 129 = .ok (.istore 9, 2) := by decide +kernel
theorem d_M_goes_131 : decode m_M_goes.2.1 131 = .ok (.iload_n 3, 1) := by decide +kernel
theorem d_M_goes_132 : decode m_M_goes.2.1 132 = .ok (.ifCond .ne 20, 3) := by decide +kernel
theorem d_M_goes_135 : decode m_M_goes.2.1 135 = .ok (.aload_n 0, 1) := by decide +kernel
theorem d_M_goes_136 : decode m_M_goes.2.1 136 = .ok (.getfield 7, 3) := by decide +kernel
theorem d_M_goes_139 : decode m_M_goes.2.1 139 = .ok (.iload 9, 2) := by decide +kernel
theorem d_M_goes_141 : decode m_M_goes.2.1 141 = .ok (.bipush 10, 2) := by decide +kernel
theorem d_M_goes_143 : decode m_M_goes.2.1 143 = .ok (.iadd, 1) := by decide +kernel
theorem d_M_goes_144 : decode m_M_goes.2.1 144 = .ok (.aload_n 0, 1) := by decide +kernel
theorem d_M_goes_145 : decode m_M_goes.2.1 145 = .ok (.getfield 7, 3) := by decide +kernel
theorem d_M_goes_148 : decode m_M_goes.2.1 148 = .ok (.bipush 6, 2) := by decide +kernel
theorem d_M_goes_150 : decode m_M_goes.2.1 150 = .ok (.iaload, 1) := by decide +kernel
theorem d_M_goes_151 : decode m_M_goes.2.1 151 = .ok (.iastore, 1) := by decide +kernel
theorem d_M_goes_152 : decode m_M_goes.2.1 152 = .ok (.aload_n 0, 1) := by decide +kernel
theorem d_M_goes_153 : decode m_M_goes.2.1 153 = .ok (.iload_n 2, 1) := by decide +kernel
theorem d_M_goes_154 : decode m_M_goes.2.1 154 = .ok (.iload_n 3, 1) := by decide +kernel
theorem d_M_goes_155 : decode m_M_goes.2.1 155 = .ok (.invokevirtual 148, 3) := by decide +kernel
theorem d_M_goes_158 : decode m_M_goes.2.1 158 = .ok (.aload_n 0, 1) := by decide +kernel
theorem d_M_goes_159 : decode m_M_goes.2.1 159 = .ok (.iload 7, 2) := by decide +kernel
theorem d_M_goes_161 : decode m_M_goes.2.1 161 = .ok (.iload 5, 2) := by decide +kernel
theorem d_M_goes_163 : decode m_M_goes.2.1 163 = .ok (.ifCond .eq 7, 3) := by decide +kernel
theorem d_M_goes_166 : decode m_M_goes.2.1 166 = .ok (.iconst 5, 1) := by decide +kernel
theorem d_M_goes_167 : decode m_M_goes.2.1 167 = .ok (.goto 4, 3) := by decide +kernel
theorem d_M_goes_170 : decode m_M_goes.2.1 170 = .ok (.iconst 1, 1) := by decide +kernel
theorem d_M_goes_171 : decode m_M_goes.2.1 171 = .ok (.iload 4, 2) := by decide +kernel
theorem d_M_goes_173 : decode m_M_goes.2.1 173 = .ok (.iadd, 1) := by decide +kernel
theorem d_M_goes_174 : decode m_M_goes.2.1 174 = .ok (.iload_n 1, 1) := by decide +kernel
theorem d_M_goes_175 : decode m_M_goes.2.1 175 = .ok (.invokevirtual 120, 3) := by decide +kernel
theorem d_M_goes_178 : decode m_M_goes.2.1 178 = .ok (.aload_n 0, 1) := by decide +kernel
theorem d_M_goes_179 : decode m_M_goes.2.1 179 = .ok (.getfield 7, 3) := by decide +kernel
theorem d_M_goes_182 : decode m_M_goes.2.1 182 = .ok (.iload 9, 2) := by decide +kernel
theorem d_M_goes_184 : decode m_M_goes.2.1 184 = .ok (.iconst 3, 1) := by decide +kernel
theorem d_M_goes_185 : decode m_M_goes.2.1 185 = .ok (.iadd, 1) := by decide +kernel
theorem d_M_goes_186 : decode m_M_goes.2.1 186 = .ok (.iload 5, 2) := by decide +kernel
theorem d_M_goes_188 : decode m_M_goes.2.1 188 = .ok (.ifCond .eq 7, 3) := by decide +kernel
theorem d_M_goes_191 : decode m_M_goes.2.1 191 = .ok (.iconst 2, 1) := by decide +kernel
theorem d_M_goes_192 : decode m_M_goes.2.1 192 = .ok (.goto 4, 3) := by decide +kernel
theorem d_M_goes_195 : decode m_M_goes.2.1 195 = .ok (.iconst 1, 1) := by decide +kernel
theorem d_M_goes_196 : decode m_M_goes.2.1 196 = .ok (.iastore, 1) := by decide +kernel
theorem d_M_goes_197 : decode m_M_goes.2.1 197 = .ok (.aload_n 0, 1) := by decide +kernel
theorem d_M_goes_198 : decode m_M_goes.2.1 198 = .ok (.getfield 7, 3) := by decide +kernel
theorem d_M_goes_201 : decode m_M_goes.2.1 201 = .ok (.iload 9, 2) := by decide +kernel
theorem d_M_goes_203 : decode m_M_goes.2.1 203 = .ok (.iconst 4, 1) := by decide +kernel
theorem d_M_goes_204 : decode m_M_goes.2.1 204 = .ok (.iadd, 1) := by decide +kernel
theorem d_M_goes_205 : decode m_M_goes.2.1 205 = .ok (.iload 7, 2) := by decide +kernel
theorem d_M_goes_207 : decode m_M_goes.2.1 207 = .ok (.iastore, 1) := by decide +kernel
theorem d_M_goes_208 : decode m_M_goes.2.1 208 = .ok (.aload_n 0, 1) := by decide +kernel
theorem d_M_goes_209 : decode m_M_goes.2.1 209 = .ok (.getfield 7, 3) := by decide +kernel
theorem d_M_goes_212 : decode m_M_goes.2.1 212 = .ok (.iload 9, 2) := by decide +kernel
theorem d_M_goes_214 : decode m_M_goes.2.1 214 = .ok (.iconst 5, 1) := by decide +kernel
theorem d_M_goes_215 : decode m_M_goes.2.1 215 = .ok (.iadd, 1) := by decide +kernel
theorem d_M_goes_216 : decode m_M_goes.2.1 216 = .ok (.iload 4, 2) := by decide +kernel
theorem d_M_goes_218 : decode m_M_goes.2.1 218 = .ok (.iastore, 1) := by decide +kernel
theorem d_M_goes_219 : decode m_M_goes.2.1 219 = .ok (.aload_n 0, 1) := by decide +kernel
theorem d_M_goes_220 : decode m_M_goes.2.1 220 = .ok (.getfield 7, 3) := by decide +kernel
theorem d_M_goes_223 : decode m_M_goes.2.1 223 = .ok (.iload 9, 2) := by decide +kernel
theorem d_M_goes_225 : decode m_M_goes.2.1 225 = .ok (.bipush 6, 2) := by decide +kernel
theorem d_M_goes_227 : decode m_M_goes.2.1 227 = .ok (.iadd, 1) := by decide +kernel
theorem d_M_goes_228 : decode m_M_goes.2.1 228 = .ok (.dup2, 1) := by decide +kernel
theorem d_M_goes_229 : decode m_M_goes.2.1 229 = .ok (.iaload, 1) := by decide +kernel
theorem d_M_goes_230 : decode m_M_goes.2.1 230 = .ok (.iconst 1, 1) := by decide +kernel
theorem d_M_goes_231 : decode m_M_goes.2.1 231 = .ok (.iadd, 1) := by decide +kernel
theorem d_M_goes_232 : decode m_M_goes.2.1 232 = .ok (.iastore, 1) := by decide +kernel
theorem d_M_goes_233 : decode m_M_goes.2.1 233 = .ok (.aload_n 0, 1) := by decide +kernel
theorem d_M_goes_234 : decode m_M_goes.2.1 234 = .ok (.getfield 7, 3) := by decide +kernel
theorem d_M_goes_237 : decode m_M_goes.2.1 237 = .ok (.iload 9, 2) := by decide +kernel
theorem d_M_goes_239 : decode m_M_goes.2.1 239 = .ok (.bipush 11, 2) := by decide +kernel
theorem d_M_goes_241 : decode m_M_goes.2.1 241 = .ok (.iadd, 1) := by decide +kernel
theorem d_M_goes_242 : decode m_M_goes.2.1 242 = .ok (.aload_n 0, 1) := by decide +kernel
theorem d_M_goes_243 : decode m_M_goes.2.1 243 = .ok (.getfield 7, 3) := by decide +kernel
theorem d_M_goes_246 : decode m_M_goes.2.1 246 = .ok (.bipush 6, 2) := by decide +kernel
theorem d_M_goes_248 : decode m_M_goes.2.1 248 = .ok (.iaload, 1) := by decide +kernel
theorem d_M_goes_249 : decode m_M_goes.2.1 249 = .ok (.iastore, 1) := by decide +kernel
theorem d_M_goes_250 : decode m_M_goes.2.1 250 = .ok (.aload_n 0, 1) := by decide +kernel
theorem d_M_goes_251 : decode m_M_goes.2.1 251 = .ok (.getfield 7, 3) := by decide +kernel
theorem d_M_goes_254 : decode m_M_goes.2.1 254 = .ok (.iload 9, 2) := by decide +kernel
theorem d_M_goes_256 : decode m_M_goes.2.1 256 = .ok (.bipush 12, 2) := by decide +kernel
theorem d_M_goes_258 : decode m_M_goes.2.1 258 = .ok (.iadd, 1) := by decide +kernel
theorem d_M_goes_259 : decode m_M_goes.2.1 259 = .ok (.aload_n 0, 1) := by decide +kernel
theorem d_M_goes_260 : decode m_M_goes.2.1 260 = .ok (.getfield 7, 3) := by decide +kernel
theorem d_M_goes_263 : decode m_M_goes.2.1 263 = .ok (.iload 9, 2) := by decide +kernel
theorem d_M_goes_265 : decode m_M_goes.2.1 265 = .ok (.bipush 6, 2) := by decide +kernel
theorem d_M_goes_267 : decode m_M_goes.2.1 267 = .ok (.iadd, 1) := by decide +kernel
theorem d_M_goes_268 : decode m_M_goes.2.1 268 = .ok (.iaload, 1) := by decide +kernel
theorem d_M_goes_269 : decode m_M_goes.2.1 269 = .ok (.iadd, 1) := by decide +kernel
theorem d_M_goes_270 : decode m_M_goes.2.1 270 = .ok (.iload 7, 2) := by decide +kernel
theorem d_M_goes_272 : decode m_M_goes.2.1 272 = .ok (.iastore, 1) := by decide +kernel
theorem d_M_goes_273 : decode m_M_goes.2.1 273 = .ok (.aload_n 0, 1) := by decide +kernel
theorem d_M_goes_274 : decode m_M_goes.2.1 274 = .ok (.getfield 7, 3) := by decide +kernel
theorem d_M_goes_277 : decode m_M_goes.2.1 277 = .ok (.bipush 10, 2) := by decide +kernel
theorem d_M_goes_279 : decode m_M_goes.2.1 279 = .ok (.dup2, 1) := by decide +kernel
theorem d_M_goes_280 : decode m_M_goes.2.1 280 = .ok (.iaload, 1) := by decide +kernel
theorem d_M_goes_281 : decode m_M_goes.2.1 281 = .ok (.iconst 1, 1) := by decide +kernel
theorem d_M_goes_282 : decode m_M_goes.2.1 282 = .ok (.iadd, 1) := by decide +kernel
theorem d_M_goes_283 : decode m_M_goes.2.1 283 = .ok (.iastore, 1) := by decide +kernel
theorem d_M_goes_284 : decode m_M_goes.2.1 284 = .ok (.aload_n 0, 1) := by decide +kernel
theorem d_M_goes_285 : decode m_M_goes.2.1 285 = .ok (.getfield 7, 3) := by decide +kernel
theorem d_M_goes_288 : decode m_M_goes.2.1 288 = .ok (.bipush 11, 2) := by decide +kernel
theorem d_M_goes_290 : decode m_M_goes.2.1 290 = .ok (.dup2, 1) := by decide +kernel
theorem d_M_goes_291 : decode m_M_goes.2.1 291 = .ok (.iaload, 1) := by decide +kernel
theorem d_M_goes_292 : decode m_M_goes.2.1 292 = .ok (.iload 5, 2) := by decide +kernel
theorem d_M_goes_294 : decode m_M_goes.2.1 294 = .ok (.ifCond .eq 7, 3) := by decide +kernel
theorem d_M_goes_297 : decode m_M_goes.2.1 297 = .ok (.iconst 1, 1) := by decide +kernel
theorem d_M_goes_298 : decode m_M_goes.2.1 298 = .ok (.goto 4, 3) := by decide +kernel
theorem d_M_goes_301 : decode m_M_goes.2.1 301 = .ok (.iconst 0, 1) := by decide +kernel
theorem d_M_goes_302 : decode m_M_goes.2.1 302 = .ok (.iadd, 1) := by decide +kernel
theorem d_M_goes_303 : decode m_M_goes.2.1 303 = .ok (.iastore, 1) := by decide +kernel
theorem d_M_goes_304 : decode m_M_goes.2.1 304 = .ok (.aload_n 0, 1) := by decide +kernel
theorem d_M_goes_305 : decode m_M_goes.2.1 305 = .ok (.getfield 7, 3) := by decide +kernel
theorem d_M_goes_308 : decode m_M_goes.2.1 308 = .ok (.sipush 5450, 3) := by decide +kernel
theorem d_M_goes_311 : decode m_M_goes.2.1 311 = .ok (.iconst 4, 1) := by decide +kernel
theorem d_M_goes_312 : decode m_M_goes.2.1 312 = .ok (.iload_n 2, 1) := by decide +kernel
theorem d_M_goes_313 : decode m_M_goes.2.1 313 = .ok (.imul, 1) := by decide +kernel
theorem d_M_goes_314 : decode m_M_goes.2.1 314 = .ok (.iadd, 1) := by decide +kernel
theorem d_M_goes_315 : decode m_M_goes.2.1 315 = .ok (.iload 4, 2) := by decide +kernel
theorem d_M_goes_317 : decode m_M_goes.2.1 317 = .ok (.iadd, 1) := by decide +kernel
theorem d_M_goes_318 : decode m_M_goes.2.1 318 = .ok (.dup2, 1) := by decide +kernel
theorem d_M_goes_319 : decode m_M_goes.2.1 319 = .ok (.iaload, 1) := by decide +kernel
theorem d_M_goes_320 : decode m_M_goes.2.1 320 = .ok (.iconst 1, 1) := by decide +kernel
theorem d_M_goes_321 : decode m_M_goes.2.1 321 = .ok (.iadd, 1) := by decide +kernel
theorem d_M_goes_322 : decode m_M_goes.2.1 322 = .ok (.iastore, 1) := by decide +kernel
theorem d_M_goes_323 : decode m_M_goes.2.1 323 = .ok (.aload_n 0, 1) := by decide +kernel
theorem d_M_goes_324 : decode m_M_goes.2.1 324 = .ok (.iload_n 1, 1) := by decide +kernel
theorem d_M_goes_325 : decode m_M_goes.2.1 325 = .ok (.iload_n 2, 1) := by decide +kernel
theorem d_M_goes_326 : decode m_M_goes.2.1 326 = .ok (.iload 4, 2) := by decide +kernel
theorem d_M_goes_328 : decode m_M_goes.2.1 328 = .ok (.iload 5, 2) := by decide +kernel
theorem d_M_goes_330 : decode m_M_goes.2.1 330 = .ok (.ifCond .eq 7, 3) := by decide +kernel
theorem d_M_goes_333 : decode m_M_goes.2.1 333 = .ok (.iconst 2, 1) := by decide +kernel
theorem d_M_goes_334 : decode m_M_goes.2.1 334 = .ok (.goto 4, 3) := by decide +kernel
theorem d_M_goes_337 : decode m_M_goes.2.1 337 = .ok (.iconst 1, 1) := by decide +kernel
theorem d_M_goes_338 : decode m_M_goes.2.1 338 = .ok (.iload 5, 2) := by decide +kernel
theorem d_M_goes_340 : decode m_M_goes.2.1 340 = .ok (.ifCond .eq 7, 3) := by decide +kernel
theorem d_M_goes_343 : decode m_M_goes.2.1 343 = .ok (.iconst 0, 1) := by decide +kernel
theorem d_M_goes_344 : decode m_M_goes.2.1 344 = .ok (.goto 13, 3) := by decide +kernel
theorem d_M_goes_347 : decode m_M_goes.2.1 347 = .ok (.iload 6, 2) := by decide +kernel
theorem d_M_goes_349 : decode m_M_goes.2.1 349 = .ok (.ifCond .eq 7, 3) := by decide +kernel
theorem d_M_goes_352 : decode m_M_goes.2.1 352 = .ok (.iconst 2, 1) := by decide +kernel
theorem d_M_goes_353 : decode m_M_goes.2.1 353 = .ok (.goto 4, 3) := by decide +kernel
theorem d_M_goes_356 : decode m_M_goes.2.1 356 = .ok (.iconst 1, 1) := by decide +kernel
theorem d_M_goes_357 : decode m_M_goes.2.1 357 = .ok (.invokevirtual 175, 3) := by decide +kernel
theorem d_M_goes_360 : decode m_M_goes.2.1 360 = .ok (.return_, 1) := by decide +kernel
def f_M_goes_357 (s1 s2 s3 s4 s5 : Int) (w : qMem) : Option (qMem) :=
  (f_M_notes s1 s2 s3 s4 s5 w).bind fun q1 =>
  some q1
set_option maxRecDepth 4000 in
theorem s_M_goes_357  : ∀ (s1 s2 s3 s4 s5 : Int) (w : qMem), qSim κV 100 100 m_M_goes 357 [qI s5, qI s4, qI s3, qI s2, qI s1, qR 88] [none, none, none, none, none, none, none, none, none, none] w (f_M_goes_357 s1 s2 s3 s4 s5 w) := by
  intro s1 s2 s3 s4 s5 w
  unfold f_M_goes_357
  refine z_cVV (as := [qI s1, qI s2, qI s3, qI s4, qI s5]) (st := []) (nl := 1) (ci := 10) d_M_goes_357 lk_M_175 mk_M_notes rfl rfl rfl rfl rfl rfl (s_M_notes _ _ _ _ _ _) (fun q1 _ => ?_)
  exact z_vret d_M_goes_360 rfl rfl
def f_M_goes_338 (s1 s2 s3 s4 x5 x6 : Int) (w : qMem) : Option (qMem) :=
  if x5 = 0 then
  if x6 = 0 then
  f_M_goes_357 s1 s2 s3 s4 1 w
  else
  f_M_goes_357 s1 s2 s3 s4 2 w
  else
  f_M_goes_357 s1 s2 s3 s4 0 w
set_option maxRecDepth 4000 in
theorem s_M_goes_338  : ∀ (s1 s2 s3 s4 x5 x6 : Int) (w : qMem), (x5 = 0 ∨ x5 = 1) → (x6 = 0 ∨ x6 = 1) → qSim κV 100 100 m_M_goes 338 [qI s4, qI s3, qI s2, qI s1, qR 88] [none, none, none, none, none, some (qI x5), some (qI x6), none, none, none] w (f_M_goes_338 s1 s2 s3 s4 x5 x6 w) := by
  intro s1 s2 s3 s4 x5 x6 w hx5 hx6
  unfold f_M_goes_338
  refine z_iload d_M_goes_338 rfl ?_
  refine z_if_eq (tgt := 347) d_M_goes_340 rfl (fun c2 => ?_) (fun c2 => ?_)
  · refine z_iload d_M_goes_347 rfl ?_
    refine z_if_eq (tgt := 356) d_M_goes_349 rfl (fun c3 => ?_) (fun c3 => ?_)
    · refine z_ic1 d_M_goes_356 ?_
      refine z_mask [false, false, false, false, false, false, false, false, false, false] ?_
      exact s_M_goes_357 _ _ _ _ _ _
    · refine z_ic2 d_M_goes_352 ?_
      refine z_goto (tgt := 357) d_M_goes_353 rfl ?_
      refine z_mask [false, false, false, false, false, false, false, false, false, false] ?_
      exact s_M_goes_357 _ _ _ _ _ _
  · refine z_ic0 d_M_goes_343 ?_
    refine z_goto (tgt := 357) d_M_goes_344 rfl ?_
    refine z_mask [false, false, false, false, false, false, false, false, false, false] ?_
    exact s_M_goes_357 _ _ _ _ _ _
def f_M_goes_302 (s1 s2 s3 x1 x2 x4 x5 x6 : Int) (w : qMem) : Option (qMem) :=
  qst w 89 5898 s1 (w32 (s2 + s3)) fun w4 =>
  qld w4 89 5898 (w32 ((w32 (5450 + (w32 (4 * x2)))) + x4)) fun v5 =>
  qst w4 89 5898 (w32 ((w32 (5450 + (w32 (4 * x2)))) + x4)) (w32 (v5 + 1)) fun w6 =>
  if x5 = 0 then
  f_M_goes_338 x1 x2 x4 1 x5 x6 w6
  else
  f_M_goes_338 x1 x2 x4 2 x5 x6 w6
set_option maxRecDepth 4000 in
theorem s_M_goes_302  : ∀ (s1 s2 s3 x1 x2 x4 x5 x6 : Int) (w : qMem), (s3 = 0 ∨ s3 = 1) → (x5 = 0 ∨ x5 = 1) → (x6 = 0 ∨ x6 = 1) → qSim κV 100 100 m_M_goes 302 [qI s3, qI s2, qI s1, qR 89] [some (qR 88), some (qI x1), some (qI x2), none, some (qI x4), some (qI x5), some (qI x6), none, none, none] w (f_M_goes_302 s1 s2 s3 x1 x2 x4 x5 x6 w) := by
  intro s1 s2 s3 x1 x2 x4 x5 x6 w hs3 hx5 hx6
  unfold f_M_goes_302
  refine z_iadd d_M_goes_302 ?_
  refine z_is d_M_goes_303 rfl rfl (fun w4 => ?_)
  refine z_aload_n d_M_goes_304 rfl ?_
  refine z_gr (ci := 10) (j := 0) (d := 1) (o2 := 89) d_M_goes_305 rfl fl_M_7 rfl (Nat.le_of_ble_eq_true rfl) rfl rfl ?_
  refine z_sipush d_M_goes_308 ⟨by decide, by decide⟩ ?_
  refine z_ic4 d_M_goes_311 ?_
  refine z_iload_n d_M_goes_312 rfl ?_
  refine z_imul d_M_goes_313 ?_
  refine z_iadd d_M_goes_314 ?_
  refine z_iload d_M_goes_315 rfl ?_
  refine z_iadd d_M_goes_317 ?_
  refine z_dup2 d_M_goes_318 rfl rfl ?_
  refine z_il d_M_goes_319 rfl rfl (fun v5 => ?_)
  refine z_ic1 d_M_goes_320 ?_
  refine z_iadd d_M_goes_321 ?_
  refine z_is d_M_goes_322 rfl rfl (fun w6 => ?_)
  refine z_aload_n d_M_goes_323 rfl ?_
  refine z_iload_n d_M_goes_324 rfl ?_
  refine z_iload_n d_M_goes_325 rfl ?_
  refine z_iload d_M_goes_326 rfl ?_
  refine z_iload d_M_goes_328 rfl ?_
  refine z_if_eq (tgt := 337) d_M_goes_330 rfl (fun c7 => ?_) (fun c7 => ?_)
  · refine z_ic1 d_M_goes_337 ?_
    refine z_mask [false, false, false, false, false, true, true, false, false, false] ?_
    exact s_M_goes_338 _ _ _ _ _ _ _ hx5 hx6
  · refine z_ic2 d_M_goes_333 ?_
    refine z_goto (tgt := 338) d_M_goes_334 rfl ?_
    refine z_mask [false, false, false, false, false, true, true, false, false, false] ?_
    exact s_M_goes_338 _ _ _ _ _ _ _ hx5 hx6
def f_M_goes_196 (s1 s2 x1 x2 x4 x5 x6 x7 x9 : Int) (w : qMem) : Option (qMem) :=
  qst w 89 5898 s1 s2 fun w8 =>
  qst w8 89 5898 (w32 (x9 + 4)) x7 fun w9 =>
  qst w9 89 5898 (w32 (x9 + 5)) x4 fun w10 =>
  qld w10 89 5898 (w32 (x9 + 6)) fun v11 =>
  qst w10 89 5898 (w32 (x9 + 6)) (w32 (v11 + 1)) fun w12 =>
  qld w12 89 5898 6 fun v13 =>
  qst w12 89 5898 (w32 (x9 + 11)) v13 fun w14 =>
  qld w14 89 5898 (w32 (x9 + 6)) fun v15 =>
  qst w14 89 5898 (w32 ((w32 (x9 + 12)) + v15)) x7 fun w16 =>
  qld w16 89 5898 10 fun v17 =>
  qst w16 89 5898 10 (w32 (v17 + 1)) fun w18 =>
  qld w18 89 5898 11 fun v19 =>
  if x5 = 0 then
  f_M_goes_302 11 v19 0 x1 x2 x4 x5 x6 w18
  else
  f_M_goes_302 11 v19 1 x1 x2 x4 x5 x6 w18
set_option maxRecDepth 4000 in
theorem s_M_goes_196  : ∀ (s1 s2 x1 x2 x4 x5 x6 x7 x9 : Int) (w : qMem), (x5 = 0 ∨ x5 = 1) → (x6 = 0 ∨ x6 = 1) → qSim κV 100 100 m_M_goes 196 [qI s2, qI s1, qR 89] [some (qR 88), some (qI x1), some (qI x2), none, some (qI x4), some (qI x5), some (qI x6), some (qI x7), none, some (qI x9)] w (f_M_goes_196 s1 s2 x1 x2 x4 x5 x6 x7 x9 w) := by
  intro s1 s2 x1 x2 x4 x5 x6 x7 x9 w hx5 hx6
  unfold f_M_goes_196
  refine z_is d_M_goes_196 rfl rfl (fun w8 => ?_)
  refine z_aload_n d_M_goes_197 rfl ?_
  refine z_gr (ci := 10) (j := 0) (d := 1) (o2 := 89) d_M_goes_198 rfl fl_M_7 rfl (Nat.le_of_ble_eq_true rfl) rfl rfl ?_
  refine z_iload d_M_goes_201 rfl ?_
  refine z_ic4 d_M_goes_203 ?_
  refine z_iadd d_M_goes_204 ?_
  refine z_iload d_M_goes_205 rfl ?_
  refine z_is d_M_goes_207 rfl rfl (fun w9 => ?_)
  refine z_aload_n d_M_goes_208 rfl ?_
  refine z_gr (ci := 10) (j := 0) (d := 1) (o2 := 89) d_M_goes_209 rfl fl_M_7 rfl (Nat.le_of_ble_eq_true rfl) rfl rfl ?_
  refine z_iload d_M_goes_212 rfl ?_
  refine z_ic5 d_M_goes_214 ?_
  refine z_iadd d_M_goes_215 ?_
  refine z_iload d_M_goes_216 rfl ?_
  refine z_is d_M_goes_218 rfl rfl (fun w10 => ?_)
  refine z_aload_n d_M_goes_219 rfl ?_
  refine z_gr (ci := 10) (j := 0) (d := 1) (o2 := 89) d_M_goes_220 rfl fl_M_7 rfl (Nat.le_of_ble_eq_true rfl) rfl rfl ?_
  refine z_iload d_M_goes_223 rfl ?_
  refine z_bipush d_M_goes_225 ⟨by decide, by decide⟩ ?_
  refine z_iadd d_M_goes_227 ?_
  refine z_dup2 d_M_goes_228 rfl rfl ?_
  refine z_il d_M_goes_229 rfl rfl (fun v11 => ?_)
  refine z_ic1 d_M_goes_230 ?_
  refine z_iadd d_M_goes_231 ?_
  refine z_is d_M_goes_232 rfl rfl (fun w12 => ?_)
  refine z_aload_n d_M_goes_233 rfl ?_
  refine z_gr (ci := 10) (j := 0) (d := 1) (o2 := 89) d_M_goes_234 rfl fl_M_7 rfl (Nat.le_of_ble_eq_true rfl) rfl rfl ?_
  refine z_iload d_M_goes_237 rfl ?_
  refine z_bipush d_M_goes_239 ⟨by decide, by decide⟩ ?_
  refine z_iadd d_M_goes_241 ?_
  refine z_aload_n d_M_goes_242 rfl ?_
  refine z_gr (ci := 10) (j := 0) (d := 1) (o2 := 89) d_M_goes_243 rfl fl_M_7 rfl (Nat.le_of_ble_eq_true rfl) rfl rfl ?_
  refine z_bipush d_M_goes_246 ⟨by decide, by decide⟩ ?_
  refine z_il d_M_goes_248 rfl rfl (fun v13 => ?_)
  refine z_is d_M_goes_249 rfl rfl (fun w14 => ?_)
  refine z_aload_n d_M_goes_250 rfl ?_
  refine z_gr (ci := 10) (j := 0) (d := 1) (o2 := 89) d_M_goes_251 rfl fl_M_7 rfl (Nat.le_of_ble_eq_true rfl) rfl rfl ?_
  refine z_iload d_M_goes_254 rfl ?_
  refine z_bipush d_M_goes_256 ⟨by decide, by decide⟩ ?_
  refine z_iadd d_M_goes_258 ?_
  refine z_aload_n d_M_goes_259 rfl ?_
  refine z_gr (ci := 10) (j := 0) (d := 1) (o2 := 89) d_M_goes_260 rfl fl_M_7 rfl (Nat.le_of_ble_eq_true rfl) rfl rfl ?_
  refine z_iload d_M_goes_263 rfl ?_
  refine z_bipush d_M_goes_265 ⟨by decide, by decide⟩ ?_
  refine z_iadd d_M_goes_267 ?_
  refine z_il d_M_goes_268 rfl rfl (fun v15 => ?_)
  refine z_iadd d_M_goes_269 ?_
  refine z_iload d_M_goes_270 rfl ?_
  refine z_is d_M_goes_272 rfl rfl (fun w16 => ?_)
  refine z_aload_n d_M_goes_273 rfl ?_
  refine z_gr (ci := 10) (j := 0) (d := 1) (o2 := 89) d_M_goes_274 rfl fl_M_7 rfl (Nat.le_of_ble_eq_true rfl) rfl rfl ?_
  refine z_bipush d_M_goes_277 ⟨by decide, by decide⟩ ?_
  refine z_dup2 d_M_goes_279 rfl rfl ?_
  refine z_il d_M_goes_280 rfl rfl (fun v17 => ?_)
  refine z_ic1 d_M_goes_281 ?_
  refine z_iadd d_M_goes_282 ?_
  refine z_is d_M_goes_283 rfl rfl (fun w18 => ?_)
  refine z_aload_n d_M_goes_284 rfl ?_
  refine z_gr (ci := 10) (j := 0) (d := 1) (o2 := 89) d_M_goes_285 rfl fl_M_7 rfl (Nat.le_of_ble_eq_true rfl) rfl rfl ?_
  refine z_bipush d_M_goes_288 ⟨by decide, by decide⟩ ?_
  refine z_dup2 d_M_goes_290 rfl rfl ?_
  refine z_il d_M_goes_291 rfl rfl (fun v19 => ?_)
  refine z_iload d_M_goes_292 rfl ?_
  refine z_if_eq (tgt := 301) d_M_goes_294 rfl (fun c20 => ?_) (fun c20 => ?_)
  · refine z_ic0 d_M_goes_301 ?_
    refine z_mask [true, true, true, false, true, true, true, false, false, false] ?_
    exact s_M_goes_302 _ _ _ _ _ _ _ _ _ (Or.inl rfl) hx5 hx6
  · refine z_ic1 d_M_goes_297 ?_
    refine z_goto (tgt := 302) d_M_goes_298 rfl ?_
    refine z_mask [true, true, true, false, true, true, true, false, false, false] ?_
    exact s_M_goes_302 _ _ _ _ _ _ _ _ _ (Or.inr rfl) hx5 hx6
def f_M_goes_171 (s1 s2 x1 x2 x4 x5 x6 x7 x9 : Int) (w : qMem) : Option (qMem) :=
  (f_M_comes s1 (w32 (s2 + x4)) x1 w).bind fun q21 =>
  if x5 = 0 then
  f_M_goes_196 (w32 (x9 + 3)) 1 x1 x2 x4 x5 x6 x7 x9 q21
  else
  f_M_goes_196 (w32 (x9 + 3)) 2 x1 x2 x4 x5 x6 x7 x9 q21
set_option maxRecDepth 4000 in
theorem s_M_goes_171  : ∀ (s1 s2 x1 x2 x4 x5 x6 x7 x9 : Int) (w : qMem), (x5 = 0 ∨ x5 = 1) → (x6 = 0 ∨ x6 = 1) → qSim κV 100 100 m_M_goes 171 [qI s2, qI s1, qR 88] [some (qR 88), some (qI x1), some (qI x2), none, some (qI x4), some (qI x5), some (qI x6), some (qI x7), none, some (qI x9)] w (f_M_goes_171 s1 s2 x1 x2 x4 x5 x6 x7 x9 w) := by
  intro s1 s2 x1 x2 x4 x5 x6 x7 x9 w hx5 hx6
  unfold f_M_goes_171
  refine z_iload d_M_goes_171 rfl ?_
  refine z_iadd d_M_goes_173 ?_
  refine z_iload_n d_M_goes_174 rfl ?_
  refine z_cVV (as := [qI s1, qI (w32 (s2 + x4)), qI x1]) (st := []) (nl := 1) (ci := 10) d_M_goes_175 lk_M_120 mk_M_comes rfl rfl rfl rfl rfl rfl (s_M_comes _ _ _ _) (fun q21 _ => ?_)
  refine z_aload_n d_M_goes_178 rfl ?_
  refine z_gr (ci := 10) (j := 0) (d := 1) (o2 := 89) d_M_goes_179 rfl fl_M_7 rfl (Nat.le_of_ble_eq_true rfl) rfl rfl ?_
  refine z_iload d_M_goes_182 rfl ?_
  refine z_ic3 d_M_goes_184 ?_
  refine z_iadd d_M_goes_185 ?_
  refine z_iload d_M_goes_186 rfl ?_
  refine z_if_eq (tgt := 195) d_M_goes_188 rfl (fun c22 => ?_) (fun c22 => ?_)
  · refine z_ic1 d_M_goes_195 ?_
    refine z_mask [true, true, true, false, true, true, true, true, false, true] ?_
    exact s_M_goes_196 _ _ _ _ _ _ _ _ _ _ hx5 hx6
  · refine z_ic2 d_M_goes_191 ?_
    refine z_goto (tgt := 196) d_M_goes_192 rfl ?_
    refine z_mask [true, true, true, false, true, true, true, true, false, true] ?_
    exact s_M_goes_196 _ _ _ _ _ _ _ _ _ _ hx5 hx6
def f_M_goes_152 (x1 x2 x3 x4 x5 x6 x7 x9 : Int) (w : qMem) : Option (qMem) :=
  (f_M_leaves x2 x3 w).bind fun q23 =>
  if x5 = 0 then
  f_M_goes_171 x7 1 x1 x2 x4 x5 x6 x7 x9 q23
  else
  f_M_goes_171 x7 5 x1 x2 x4 x5 x6 x7 x9 q23
set_option maxRecDepth 4000 in
theorem s_M_goes_152  : ∀ (x1 x2 x3 x4 x5 x6 x7 x9 : Int) (w : qMem), (x5 = 0 ∨ x5 = 1) → (x6 = 0 ∨ x6 = 1) → qSim κV 100 100 m_M_goes 152 [] [some (qR 88), some (qI x1), some (qI x2), some (qI x3), some (qI x4), some (qI x5), some (qI x6), some (qI x7), none, some (qI x9)] w (f_M_goes_152 x1 x2 x3 x4 x5 x6 x7 x9 w) := by
  intro x1 x2 x3 x4 x5 x6 x7 x9 w hx5 hx6
  unfold f_M_goes_152
  refine z_aload_n d_M_goes_152 rfl ?_
  refine z_iload_n d_M_goes_153 rfl ?_
  refine z_iload_n d_M_goes_154 rfl ?_
  refine z_cVV (as := [qI x2, qI x3]) (st := []) (nl := 2) (ci := 10) d_M_goes_155 lk_M_148 mk_M_leaves rfl rfl rfl rfl rfl rfl (s_M_leaves _ _ _) (fun q23 _ => ?_)
  refine z_aload_n d_M_goes_158 rfl ?_
  refine z_iload d_M_goes_159 rfl ?_
  refine z_iload d_M_goes_161 rfl ?_
  refine z_if_eq (tgt := 170) d_M_goes_163 rfl (fun c24 => ?_) (fun c24 => ?_)
  · refine z_ic1 d_M_goes_170 ?_
    refine z_mask [true, true, true, false, true, true, true, true, false, true] ?_
    exact s_M_goes_171 _ _ _ _ _ _ _ _ _ _ hx5 hx6
  · refine z_ic5 d_M_goes_166 ?_
    refine z_goto (tgt := 171) d_M_goes_167 rfl ?_
    refine z_mask [true, true, true, false, true, true, true, true, false, true] ?_
    exact s_M_goes_171 _ _ _ _ _ _ _ _ _ _ hx5 hx6
def f_M_goes_125 (x1 x2 x3 x4 x5 x6 x7 : Int) (w : qMem) : Option (qMem) :=
  (f_M_packetAt x1 w).bind fun q25 =>
  if x3 = 0 then
  qld q25.2 89 5898 6 fun v27 =>
  qst q25.2 89 5898 (w32 (q25.1 + 10)) v27 fun w28 =>
  f_M_goes_152 x1 x2 x3 x4 x5 x6 x7 q25.1 w28
  else
  f_M_goes_152 x1 x2 x3 x4 x5 x6 x7 q25.1 q25.2
set_option maxRecDepth 4000 in
theorem s_M_goes_125  : ∀ (x1 x2 x3 x4 x5 x6 x7 : Int) (w : qMem), (x5 = 0 ∨ x5 = 1) → (x6 = 0 ∨ x6 = 1) → qSim κV 100 100 m_M_goes 125 [] [some (qR 88), some (qI x1), some (qI x2), some (qI x3), some (qI x4), some (qI x5), some (qI x6), some (qI x7), none, none] w (f_M_goes_125 x1 x2 x3 x4 x5 x6 x7 w) := by
  intro x1 x2 x3 x4 x5 x6 x7 w hx5 hx6
  unfold f_M_goes_125
  refine z_iload_n d_M_goes_125 rfl ?_
  refine z_cSI (av := [qI x1]) (st := []) (nl := 0) d_M_goes_126 lk_M_114 mk_M_packetAt rfl rfl rfl (s_M_packetAt _ _) (fun q25 _ hq25 => ?_)
  refine z_istore (pls' := [some (qR 88), some (qI x1), some (qI x2), some (qI x3), some (qI x4), some (qI x5), some (qI x6), some (qI x7), none, some (qI q25.1)]) d_M_goes_129 (by decide) rfl rfl ?_
  refine z_iload_n d_M_goes_131 rfl ?_
  refine z_if_ne (tgt := 152) d_M_goes_132 rfl (fun c26 => ?_) (fun c26 => ?_)
  · refine z_aload_n d_M_goes_135 rfl ?_
    refine z_gr (ci := 10) (j := 0) (d := 1) (o2 := 89) d_M_goes_136 rfl fl_M_7 rfl (Nat.le_of_ble_eq_true rfl) rfl rfl ?_
    refine z_iload d_M_goes_139 rfl ?_
    refine z_bipush d_M_goes_141 ⟨by decide, by decide⟩ ?_
    refine z_iadd d_M_goes_143 ?_
    refine z_aload_n d_M_goes_144 rfl ?_
    refine z_gr (ci := 10) (j := 0) (d := 1) (o2 := 89) d_M_goes_145 rfl fl_M_7 rfl (Nat.le_of_ble_eq_true rfl) rfl rfl ?_
    refine z_bipush d_M_goes_148 ⟨by decide, by decide⟩ ?_
    refine z_il d_M_goes_150 rfl rfl (fun v27 => ?_)
    refine z_is d_M_goes_151 rfl rfl (fun w28 => ?_)
    refine z_mask [true, true, true, true, true, true, true, true, false, true] ?_
    exact s_M_goes_152 _ _ _ _ _ _ _ _ _ hx5 hx6
  · refine z_mask [true, true, true, true, true, true, true, true, false, true] ?_
    exact s_M_goes_152 _ _ _ _ _ _ _ _ _ hx5 hx6
def f_M_goes_107 (x1 x2 x3 x4 x5 x6 x7 : Int) (w : qMem) : Option (qMem) :=
  if x5 = 0 then
  if x6 = 0 then
  (f_M_enters3 x1 x2 x4 w).bind fun q31 =>
  f_M_goes_125 x1 x2 x3 x4 x5 x6 x7 q31
  else
  f_M_goes_125 x1 x2 x3 x4 x5 x6 x7 w
  else
  f_M_goes_125 x1 x2 x3 x4 x5 x6 x7 w
set_option maxRecDepth 4000 in
theorem s_M_goes_107  : ∀ (x1 x2 x3 x4 x5 x6 x7 : Int) (w : qMem), (x5 = 0 ∨ x5 = 1) → (x6 = 0 ∨ x6 = 1) → qSim κV 100 100 m_M_goes 107 [] [some (qR 88), some (qI x1), some (qI x2), some (qI x3), some (qI x4), some (qI x5), some (qI x6), some (qI x7), none, none] w (f_M_goes_107 x1 x2 x3 x4 x5 x6 x7 w) := by
  intro x1 x2 x3 x4 x5 x6 x7 w hx5 hx6
  unfold f_M_goes_107
  refine z_iload d_M_goes_107 rfl ?_
  refine z_if_ne (tgt := 125) d_M_goes_109 rfl (fun c29 => ?_) (fun c29 => ?_)
  · refine z_iload d_M_goes_112 rfl ?_
    refine z_if_ne (tgt := 125) d_M_goes_114 rfl (fun c30 => ?_) (fun c30 => ?_)
    · refine z_aload_n d_M_goes_117 rfl ?_
      refine z_iload_n d_M_goes_118 rfl ?_
      refine z_iload_n d_M_goes_119 rfl ?_
      refine z_iload d_M_goes_120 rfl ?_
      refine z_cVV (as := [qI x1, qI x2, qI x4]) (st := []) (nl := 0) (ci := 10) d_M_goes_122 lk_M_172 mk_M_enters3 rfl rfl rfl rfl rfl rfl (s_M_enters3 _ _ _ _) (fun q31 _ => ?_)
      refine z_mask [true, true, true, true, true, true, true, true, false, false] ?_
      exact s_M_goes_125 _ _ _ _ _ _ _ _ hx5 hx6
    · refine z_mask [true, true, true, true, true, true, true, true, false, false] ?_
      exact s_M_goes_125 _ _ _ _ _ _ _ _ hx5 hx6
  · refine z_mask [true, true, true, true, true, true, true, true, false, false] ?_
    exact s_M_goes_125 _ _ _ _ _ _ _ _ hx5 hx6
def f_M_goes_31 (s0 x1 x2 x3 x4 x5 : Int) (w : qMem) : Option (qMem) :=
  (f_M_nextOf x2 x4 w).bind fun q32 =>
  (f_M_ringFor x2 x4 q32.2).bind fun q33 =>
  (f_M_ringAt q33.1 q33.2).bind fun q34 =>
  if s0 = 0 then
  f_M_goes_107 x1 x2 x3 x4 x5 s0 q32.1 q34.2
  else
  qld q34.2 89 5898 4 fun v36 =>
  if v36 = 2 then
  qld q34.2 89 5898 (w32 (q34.1 + 0)) fun v38 =>
  if v38 = q32.1 then
  (f_M_free q32.1 (w32 (1 + x4)) q34.2).bind fun q40 =>
  if q40.1 = 1 then
  qst q40.2 89 5898 (w32 (q34.1 + 0)) x2 fun w42 =>
  f_M_goes_107 x1 x2 x3 x4 x5 s0 q32.1 w42
  else
  f_M_goes_107 x1 x2 x3 x4 x5 s0 q32.1 q40.2
  else
  f_M_goes_107 x1 x2 x3 x4 x5 s0 q32.1 q34.2
  else
  f_M_goes_107 x1 x2 x3 x4 x5 s0 q32.1 q34.2
set_option maxRecDepth 4000 in
theorem s_M_goes_31  : ∀ (s0 x1 x2 x3 x4 x5 : Int) (w : qMem), (s0 = 0 ∨ s0 = 1) → (x5 = 0 ∨ x5 = 1) → qSim κV 100 100 m_M_goes 31 [qI s0] [some (qR 88), some (qI x1), some (qI x2), some (qI x3), some (qI x4), some (qI x5), none, none, none, none] w (f_M_goes_31 s0 x1 x2 x3 x4 x5 w) := by
  intro s0 x1 x2 x3 x4 x5 w hs0 hx5
  unfold f_M_goes_31
  refine z_istore (pls' := [some (qR 88), some (qI x1), some (qI x2), some (qI x3), some (qI x4), some (qI x5), some (qI s0), none, none, none]) d_M_goes_31 (by decide) rfl rfl ?_
  refine z_aload_n d_M_goes_33 rfl ?_
  refine z_iload_n d_M_goes_34 rfl ?_
  refine z_iload d_M_goes_35 rfl ?_
  refine z_cVI (as := [qI x2, qI x4]) (st := []) (nl := 2) (ci := 10) d_M_goes_37 lk_M_79 mk_M_nextOf rfl rfl rfl rfl rfl rfl (s_M_nextOf _ _ _) (fun q32 _ hq32 => ?_)
  refine z_istore (pls' := [some (qR 88), some (qI x1), some (qI x2), some (qI x3), some (qI x4), some (qI x5), some (qI s0), some (qI q32.1), none, none]) d_M_goes_40 (by decide) rfl rfl ?_
  refine z_aload_n d_M_goes_42 rfl ?_
  refine z_iload_n d_M_goes_43 rfl ?_
  refine z_iload d_M_goes_44 rfl ?_
  refine z_cVI (as := [qI x2, qI x4]) (st := []) (nl := 0) (ci := 10) d_M_goes_46 lk_M_102 mk_M_ringFor rfl rfl rfl rfl rfl rfl (s_M_ringFor _ _ _) (fun q33 _ hq33 => ?_)
  refine z_cSI (av := [qI q33.1]) (st := []) (nl := 0) d_M_goes_49 lk_M_58 mk_M_ringAt rfl rfl rfl (s_M_ringAt _ _) (fun q34 _ hq34 => ?_)
  refine z_istore (pls' := [some (qR 88), some (qI x1), some (qI x2), some (qI x3), some (qI x4), some (qI x5), some (qI s0), some (qI q32.1), some (qI q34.1), none]) d_M_goes_52 (by decide) rfl rfl ?_
  refine z_iload d_M_goes_54 rfl ?_
  refine z_if_eq (tgt := 107) d_M_goes_56 rfl (fun c35 => ?_) (fun c35 => ?_)
  · refine z_mask [true, true, true, true, true, true, true, true, false, false] ?_
    exact s_M_goes_107 _ _ _ _ _ _ _ _ hx5 hs0
  · refine z_aload_n d_M_goes_59 rfl ?_
    refine z_gr (ci := 10) (j := 0) (d := 1) (o2 := 89) d_M_goes_60 rfl fl_M_7 rfl (Nat.le_of_ble_eq_true rfl) rfl rfl ?_
    refine z_ic4 d_M_goes_63 ?_
    refine z_il d_M_goes_64 rfl rfl (fun v36 => ?_)
    refine z_ic2 d_M_goes_65 ?_
    refine z_icmp_ne (tgt := 107) d_M_goes_66 rfl (fun c37 => ?_) (fun c37 => ?_)
    · refine z_aload_n d_M_goes_69 rfl ?_
      refine z_gr (ci := 10) (j := 0) (d := 1) (o2 := 89) d_M_goes_70 rfl fl_M_7 rfl (Nat.le_of_ble_eq_true rfl) rfl rfl ?_
      refine z_iload d_M_goes_73 rfl ?_
      refine z_ic0 d_M_goes_75 ?_
      refine z_iadd d_M_goes_76 ?_
      refine z_il d_M_goes_77 rfl rfl (fun v38 => ?_)
      refine z_iload d_M_goes_78 rfl ?_
      refine z_icmp_ne (tgt := 107) d_M_goes_80 rfl (fun c39 => ?_) (fun c39 => ?_)
      · refine z_aload_n d_M_goes_83 rfl ?_
        refine z_iload d_M_goes_84 rfl ?_
        refine z_ic1 d_M_goes_86 ?_
        refine z_iload d_M_goes_87 rfl ?_
        refine z_iadd d_M_goes_89 ?_
        refine z_cVI (as := [qI q32.1, qI (w32 (1 + x4))]) (st := []) (nl := 0) (ci := 10) d_M_goes_90 lk_M_117 mk_M_free rfl rfl rfl rfl rfl rfl (s_M_free _ _ _) (fun q40 _ hq40 => ?_)
        refine z_ic1 d_M_goes_93 ?_
        refine z_icmp_ne (tgt := 107) d_M_goes_94 rfl (fun c41 => ?_) (fun c41 => ?_)
        · refine z_aload_n d_M_goes_97 rfl ?_
          refine z_gr (ci := 10) (j := 0) (d := 1) (o2 := 89) d_M_goes_98 rfl fl_M_7 rfl (Nat.le_of_ble_eq_true rfl) rfl rfl ?_
          refine z_iload d_M_goes_101 rfl ?_
          refine z_ic0 d_M_goes_103 ?_
          refine z_iadd d_M_goes_104 ?_
          refine z_iload_n d_M_goes_105 rfl ?_
          refine z_is d_M_goes_106 rfl rfl (fun w42 => ?_)
          refine z_mask [true, true, true, true, true, true, true, true, false, false] ?_
          exact s_M_goes_107 _ _ _ _ _ _ _ _ hx5 hs0
        · refine z_mask [true, true, true, true, true, true, true, true, false, false] ?_
          exact s_M_goes_107 _ _ _ _ _ _ _ _ hx5 hs0
      · refine z_mask [true, true, true, true, true, true, true, true, false, false] ?_
        exact s_M_goes_107 _ _ _ _ _ _ _ _ hx5 hs0
    · refine z_mask [true, true, true, true, true, true, true, true, false, false] ?_
      exact s_M_goes_107 _ _ _ _ _ _ _ _ hx5 hs0
def f_M_goes (x1 : Int) (x2 : Int) (x3 : Int) (x4 : Int) (w : qMem) : Option (qMem) :=
  (f_M_canByAdaptive x1 x2 x4 w).bind fun q43 =>
  if q43.1 = 0 then
  (f_M_doesContinue x1 x2 x4 q43.2).bind fun q45 =>
  if q45.1 = 0 then
  f_M_goes_31 0 x1 x2 x3 x4 q43.1 q45.2
  else
  f_M_goes_31 1 x1 x2 x3 x4 q43.1 q45.2
  else
  f_M_goes_31 0 x1 x2 x3 x4 q43.1 q43.2
set_option maxRecDepth 4000 in
theorem s_M_goes (x1 : Int) (x2 : Int) (x3 : Int) (x4 : Int) (w : qMem) : qSim κV 100 100 m_M_goes 0 [] [some (qR 88), some (qI x1), some (qI x2), some (qI x3), some (qI x4), none, none, none, none, none] w (f_M_goes x1 x2 x3 x4 w) := by
  unfold f_M_goes
  refine z_aload_n d_M_goes_0 rfl ?_
  refine z_iload_n d_M_goes_1 rfl ?_
  refine z_iload_n d_M_goes_2 rfl ?_
  refine z_iload d_M_goes_3 rfl ?_
  refine z_cVI (as := [qI x1, qI x2, qI x4]) (st := []) (nl := 0) (ci := 10) d_M_goes_5 lk_M_165 mk_M_canByAdaptive rfl rfl rfl rfl rfl rfl (s_M_canByAdaptive _ _ _ _) (fun q43 _ hq43 => ?_)
  refine z_istore (pls' := [some (qR 88), some (qI x1), some (qI x2), some (qI x3), some (qI x4), some (qI q43.1), none, none, none, none]) d_M_goes_8 (by decide) rfl rfl ?_
  refine z_iload d_M_goes_10 rfl ?_
  refine z_if_ne (tgt := 30) d_M_goes_12 rfl (fun c44 => ?_) (fun c44 => ?_)
  · refine z_aload_n d_M_goes_15 rfl ?_
    refine z_iload_n d_M_goes_16 rfl ?_
    refine z_iload_n d_M_goes_17 rfl ?_
    refine z_iload d_M_goes_18 rfl ?_
    refine z_cVI (as := [qI x1, qI x2, qI x4]) (st := []) (nl := 0) (ci := 10) d_M_goes_20 lk_M_155 mk_M_doesContinue rfl rfl rfl rfl rfl rfl (s_M_doesContinue _ _ _ _) (fun q45 _ hq45 => ?_)
    refine z_if_eq (tgt := 30) d_M_goes_23 rfl (fun c46 => ?_) (fun c46 => ?_)
    · refine z_ic0 d_M_goes_30 ?_
      refine z_mask [true, true, true, true, true, true, false, false, false, false] ?_
      exact s_M_goes_31 _ _ _ _ _ _ _ (Or.inl rfl) (q_boo rfl hq43)
    · refine z_ic1 d_M_goes_26 ?_
      refine z_goto (tgt := 31) d_M_goes_27 rfl ?_
      refine z_mask [true, true, true, true, true, true, false, false, false, false] ?_
      exact s_M_goes_31 _ _ _ _ _ _ _ (Or.inr rfl) (q_boo rfl hq43)
  · refine z_ic0 d_M_goes_30 ?_
    refine z_mask [true, true, true, true, true, true, false, false, false, false] ?_
    exact s_M_goes_31 _ _ _ _ _ _ _ (Or.inl rfl) (q_boo rfl hq43)
/-! BubbleTorusModel.oneGoes -/
theorem d_M_oneGoes_0 : decode m_M_oneGoes.2.1 0 = .ok (.iconst (-1), 1) := by decide +kernel
theorem d_M_oneGoes_1 : decode m_M_oneGoes.2.1 1 = .ok (.istore_n 3, 1) := by decide +kernel
theorem d_M_oneGoes_2 : decode m_M_oneGoes.2.1 2 = .ok (.iconst 0, 1) := by decide +kernel
theorem d_M_oneGoes_3 : decode m_M_oneGoes.2.1 3 = .ok (.istore 4, 2) := by decide +kernel
theorem d_M_oneGoes_5 : decode m_M_oneGoes.2.1 5 = .ok (.iconst 0, 1) := by decide +kernel
theorem d_M_oneGoes_6 : decode m_M_oneGoes.2.1 6 = .ok (.istore 5, 2) := by decide +kernel
theorem d_M_oneGoes_8 : decode m_M_oneGoes.2.1 8 = .ok (.iload 5, 2) := by decide +kernel
theorem d_M_oneGoes_10 : decode m_M_oneGoes.2.1 10 = .ok (.bipush 9, 2) := by decide +kernel
theorem d_M_oneGoes_12 : decode m_M_oneGoes.2.1 12 = .ok (.if_icmp .ge 84, 3) := by decide +kernel
theorem d_M_oneGoes_15 : decode m_M_oneGoes.2.1 15 = .ok (.aload_n 0, 1) := by decide +kernel
theorem d_M_oneGoes_16 : decode m_M_oneGoes.2.1 16 = .ok (.iload_n 1, 1) := by decide +kernel
theorem d_M_oneGoes_17 : decode m_M_oneGoes.2.1 17 = .ok (.iload 5, 2) := by decide +kernel
theorem d_M_oneGoes_19 : decode m_M_oneGoes.2.1 19 = .ok (.invokevirtual 145, 3) := by decide +kernel
theorem d_M_oneGoes_22 : decode m_M_oneGoes.2.1 22 = .ok (.istore 6, 2) := by decide +kernel
theorem d_M_oneGoes_24 : decode m_M_oneGoes.2.1 24 = .ok (.iload 6, 2) := by decide +kernel
theorem d_M_oneGoes_26 : decode m_M_oneGoes.2.1 26 = .ok (.iconst (-1), 1) := by decide +kernel
theorem d_M_oneGoes_27 : decode m_M_oneGoes.2.1 27 = .ok (.if_icmp .eq 63, 3) := by decide +kernel
theorem d_M_oneGoes_30 : decode m_M_oneGoes.2.1 30 = .ok (.aload_n 0, 1) := by decide +kernel
theorem d_M_oneGoes_31 : decode m_M_oneGoes.2.1 31 = .ok (.iload 6, 2) := by decide +kernel
theorem d_M_oneGoes_33 : decode m_M_oneGoes.2.1 33 = .ok (.bipush 11, 2) := by decide +kernel
theorem d_M_oneGoes_35 : decode m_M_oneGoes.2.1 35 = .ok (.invokevirtual 142, 3) := by decide +kernel
theorem d_M_oneGoes_38 : decode m_M_oneGoes.2.1 38 = .ok (.aload_n 0, 1) := by decide +kernel
theorem d_M_oneGoes_39 : decode m_M_oneGoes.2.1 39 = .ok (.getfield 7, 3) := by decide +kernel
theorem d_M_oneGoes_42 : decode m_M_oneGoes.2.1 42 = .ok (.bipush 6, 2) := by decide +kernel
theorem d_M_oneGoes_44 : decode m_M_oneGoes.2.1 44 = .ok (.iaload, 1) := by decide +kernel
theorem d_M_oneGoes_45 : decode m_M_oneGoes.2.1 45 = .ok (.if_icmp .eq 45, 3) := by decide +kernel
theorem d_M_oneGoes_48 : decode m_M_oneGoes.2.1 48 = .ok (.aload_n 0, 1) := by decide +kernel
theorem d_M_oneGoes_49 : decode m_M_oneGoes.2.1 49 = .ok (.iload 6, 2) := by decide +kernel
theorem d_M_oneGoes_51 : decode m_M_oneGoes.2.1 51 = .ok (.iload_n 1, 1) := by decide +kernel
theorem d_M_oneGoes_52 : decode m_M_oneGoes.2.1 52 = .ok (.iload_n 2, 1) := by decide +kernel
theorem d_M_oneGoes_53 : decode m_M_oneGoes.2.1 53 = .ok (.iconst 1, 1) := by decide +kernel
theorem d_M_oneGoes_54 : decode m_M_oneGoes.2.1 54 = .ok (.invokevirtual 179, 3) := by decide +kernel
theorem d_M_oneGoes_57 : decode m_M_oneGoes.2.1 57 = .ok (.ifCond .ne 6, 3) := by decide +kernel
theorem d_M_oneGoes_60 : decode m_M_oneGoes.2.1 60 = .ok (.goto 30, 3) := by decide +kernel
theorem d_M_oneGoes_63 : decode m_M_oneGoes.2.1 63 = .ok (.iload_n 3, 1) := by decide +kernel
theorem d_M_oneGoes_64 : decode m_M_oneGoes.2.1 64 = .ok (.iconst (-1), 1) := by decide +kernel
theorem d_M_oneGoes_65 : decode m_M_oneGoes.2.1 65 = .ok (.if_icmp .eq 18, 3) := by decide +kernel
theorem d_M_oneGoes_68 : decode m_M_oneGoes.2.1 68 = .ok (.aload_n 0, 1) := by decide +kernel
theorem d_M_oneGoes_69 : decode m_M_oneGoes.2.1 69 = .ok (.iload 6, 2) := by decide +kernel
theorem d_M_oneGoes_71 : decode m_M_oneGoes.2.1 71 = .ok (.iload_n 3, 1) := by decide +kernel
theorem d_M_oneGoes_72 : decode m_M_oneGoes.2.1 72 = .ok (.iload_n 1, 1) := by decide +kernel
theorem d_M_oneGoes_73 : decode m_M_oneGoes.2.1 73 = .ok (.iload_n 2, 1) := by decide +kernel
theorem d_M_oneGoes_74 : decode m_M_oneGoes.2.1 74 = .ok (.invokevirtual 182, 3) := by decide +kernel
theorem d_M_oneGoes_77 : decode m_M_oneGoes.2.1 77 = .ok (.ifCond .ne 6, 3) := by decide +kernel
theorem d_M_oneGoes_80 : decode m_M_oneGoes.2.1 80 = .ok (.goto 10, 3) := by decide +kernel
theorem d_M_oneGoes_83 : decode m_M_oneGoes.2.1 83 = .ok (.iload 6, 2) := by decide +kernel
theorem d_M_oneGoes_85 : decode m_M_oneGoes.2.1 85 = .ok (.istore_n 3, 1) := by decide +kernel
theorem d_M_oneGoes_86 : decode m_M_oneGoes.2.1 86 = .ok (.iload 5, 2) := by decide +kernel
theorem d_M_oneGoes_88 : decode m_M_oneGoes.2.1 88 = .ok (.istore 4, 2) := by decide +kernel
theorem d_M_oneGoes_90 : decode m_M_oneGoes.2.1 90 = .ok (.iinc 5 1, 3) := by decide +kernel
theorem d_M_oneGoes_93 : decode m_M_oneGoes.2.1 93 = .ok (.goto (-85), 3) := by decide +kernel
theorem d_M_oneGoes_96 : decode m_M_oneGoes.2.1 96 = .ok (.iload_n 3, 1) := by decide +kernel
theorem d_M_oneGoes_97 : decode m_M_oneGoes.2.1 97 = .ok (.iconst (-1), 1) := by decide +kernel
theorem d_M_oneGoes_98 : decode m_M_oneGoes.2.1 98 = .ok (.if_icmp .eq 12, 3) := by decide +kernel
theorem d_M_oneGoes_101 : decode m_M_oneGoes.2.1 101 = .ok (.aload_n 0, 1) := by decide +kernel
theorem d_M_oneGoes_102 : decode m_M_oneGoes.2.1 102 = .ok (.iload_n 3, 1) := by decide +kernel
theorem d_M_oneGoes_103 : decode m_M_oneGoes.2.1 103 = .ok (.iload_n 1, 1) := by decide +kernel
theorem d_M_oneGoes_104 : decode m_M_oneGoes.2.1 104 = .ok (.iload 4, 2) := by decide +kernel
theorem d_M_oneGoes_106 : decode m_M_oneGoes.2.1 106 = .ok (.iload_n 2, 1) := by decide +kernel
theorem d_M_oneGoes_107 : decode m_M_oneGoes.2.1 107 = .ok (.invokevirtual 186, 3) := by decide +kernel
theorem d_M_oneGoes_110 : decode m_M_oneGoes.2.1 110 = .ok (.return_, 1) := by decide +kernel
def f_M_oneGoes_83 (r8 : Int → Int → Int → Int → Int → qMem → Option (qMem)) (x1 x2 x5 x6 : Int) (w : qMem) : Option (qMem) :=
  r8 x1 x2 x6 x5 (w32 (x5 + 1)) w
set_option maxRecDepth 4000 in
theorem s_M_oneGoes_83  {r8 : Int → Int → Int → Int → Int → qMem → Option (qMem)} (hr8 : ∀ x1 x2 x3 x4 x5 w, qSim κV 100 100 m_M_oneGoes 8 [] [some (qR 88), some (qI x1), some (qI x2), some (qI x3), some (qI x4), some (qI x5), none] w (r8 x1 x2 x3 x4 x5 w)) : ∀ (x1 x2 x5 x6 : Int) (w : qMem), qSim κV 100 100 m_M_oneGoes 83 [] [some (qR 88), some (qI x1), some (qI x2), none, none, some (qI x5), some (qI x6)] w (f_M_oneGoes_83 r8 x1 x2 x5 x6 w) := by
  intro x1 x2 x5 x6 w
  unfold f_M_oneGoes_83
  refine z_iload d_M_oneGoes_83 rfl ?_
  refine z_istore_n (pls' := [some (qR 88), some (qI x1), some (qI x2), some (qI x6), none, some (qI x5), some (qI x6)]) d_M_oneGoes_85 (by decide) rfl rfl ?_
  refine z_iload d_M_oneGoes_86 rfl ?_
  refine z_istore (pls' := [some (qR 88), some (qI x1), some (qI x2), some (qI x6), some (qI x5), some (qI x5), some (qI x6)]) d_M_oneGoes_88 (by decide) rfl rfl ?_
  refine z_iinc (pls' := [some (qR 88), some (qI x1), some (qI x2), some (qI x6), some (qI x5), some (qI (w32 (x5 + 1))), some (qI x6)]) d_M_oneGoes_90 (by decide) rfl rfl rfl ?_
  refine z_goto (tgt := 8) d_M_oneGoes_93 rfl ?_
  refine z_mask [true, true, true, true, true, true, false] ?_
  exact hr8 _ _ _ _ _ _
def f_M_oneGoes_96 (x1 x2 x3 x4 : Int) (w : qMem) : Option (qMem) :=
  if x3 = (-1) then
  some w
  else
  (f_M_goes x3 x1 x4 x2 w).bind fun q2 =>
  some q2
set_option maxRecDepth 4000 in
theorem s_M_oneGoes_96  : ∀ (x1 x2 x3 x4 : Int) (w : qMem), qSim κV 100 100 m_M_oneGoes 96 [] [some (qR 88), some (qI x1), some (qI x2), some (qI x3), some (qI x4), none, none] w (f_M_oneGoes_96 x1 x2 x3 x4 w) := by
  intro x1 x2 x3 x4 w
  unfold f_M_oneGoes_96
  refine z_iload_n d_M_oneGoes_96 rfl ?_
  refine z_icm1 d_M_oneGoes_97 ?_
  refine z_icmp_eq (tgt := 110) d_M_oneGoes_98 rfl (fun c1 => ?_) (fun c1 => ?_)
  · exact z_vret d_M_oneGoes_110 rfl rfl
  · refine z_aload_n d_M_oneGoes_101 rfl ?_
    refine z_iload_n d_M_oneGoes_102 rfl ?_
    refine z_iload_n d_M_oneGoes_103 rfl ?_
    refine z_iload d_M_oneGoes_104 rfl ?_
    refine z_iload_n d_M_oneGoes_106 rfl ?_
    refine z_cVV (as := [qI x3, qI x1, qI x4, qI x2]) (st := []) (nl := 5) (ci := 10) d_M_oneGoes_107 lk_M_186 mk_M_goes rfl rfl rfl rfl rfl rfl (s_M_goes _ _ _ _ _) (fun q2 _ => ?_)
    exact z_vret d_M_oneGoes_110 rfl rfl
def f_M_oneGoes_8 : Nat → Int → Int → Int → Int → Int → qMem → Option (qMem)
  | 0, _, _, _, _, _, _ => none
  | n + 1, x1, x2, x3, x4, x5, w =>
    if x5 < 9 then
    (f_M_firstOf x1 x5 w).bind fun q4 =>
    if q4.1 = (-1) then
    (f_M_oneGoes_8 n) x1 x2 x3 x4 (w32 (x5 + 1)) q4.2
    else
    (f_M_of q4.1 11 q4.2).bind fun q6 =>
    qld q6.2 89 5898 6 fun v7 =>
    if q6.1 = v7 then
    (f_M_oneGoes_8 n) x1 x2 x3 x4 (w32 (x5 + 1)) q6.2
    else
    (f_M_canGo q4.1 x1 x2 1 q6.2).bind fun q9 =>
    if q9.1 = 0 then
    (f_M_oneGoes_8 n) x1 x2 x3 x4 (w32 (x5 + 1)) q9.2
    else
    if x3 = (-1) then
    f_M_oneGoes_83 (f_M_oneGoes_8 n) x1 x2 x5 q4.1 q9.2
    else
    (f_M_isAhead q4.1 x3 x1 x2 q9.2).bind fun q12 =>
    if q12.1 = 0 then
    (f_M_oneGoes_8 n) x1 x2 x3 x4 (w32 (x5 + 1)) q12.2
    else
    f_M_oneGoes_83 (f_M_oneGoes_8 n) x1 x2 x5 q4.1 q12.2
    else
    f_M_oneGoes_96 x1 x2 x3 x4 w
set_option maxRecDepth 4000 in
theorem s_M_oneGoes_8  : ∀ (n : Nat), ∀ (x1 x2 x3 x4 x5 : Int) (w : qMem), qSim κV 100 100 m_M_oneGoes 8 [] [some (qR 88), some (qI x1), some (qI x2), some (qI x3), some (qI x4), some (qI x5), none] w (f_M_oneGoes_8 n x1 x2 x3 x4 x5 w) := by
  intro n
  induction n with
  | zero => intro x1 x2 x3 x4 x5 w; exact z_none
  | succ n ih =>
    intro x1 x2 x3 x4 x5 w
    rw [f_M_oneGoes_8]
    refine z_iload d_M_oneGoes_8 rfl ?_
    refine z_bipush d_M_oneGoes_10 ⟨by decide, by decide⟩ ?_
    refine z_icmp_ge (tgt := 96) d_M_oneGoes_12 rfl (fun c3 => ?_) (fun c3 => ?_)
    · refine z_aload_n d_M_oneGoes_15 rfl ?_
      refine z_iload_n d_M_oneGoes_16 rfl ?_
      refine z_iload d_M_oneGoes_17 rfl ?_
      refine z_cVI (as := [qI x1, qI x5]) (st := []) (nl := 0) (ci := 10) d_M_oneGoes_19 lk_M_145 mk_M_firstOf rfl rfl rfl rfl rfl rfl (s_M_firstOf _ _ _) (fun q4 _ hq4 => ?_)
      refine z_istore (pls' := [some (qR 88), some (qI x1), some (qI x2), some (qI x3), some (qI x4), some (qI x5), some (qI q4.1)]) d_M_oneGoes_22 (by decide) rfl rfl ?_
      refine z_iload d_M_oneGoes_24 rfl ?_
      refine z_icm1 d_M_oneGoes_26 ?_
      refine z_icmp_eq (tgt := 90) d_M_oneGoes_27 rfl (fun c5 => ?_) (fun c5 => ?_)
      · refine z_iinc (pls' := [some (qR 88), some (qI x1), some (qI x2), some (qI x3), some (qI x4), some (qI (w32 (x5 + 1))), some (qI q4.1)]) d_M_oneGoes_90 (by decide) rfl rfl rfl ?_
        refine z_goto (tgt := 8) d_M_oneGoes_93 rfl ?_
        refine z_mask [true, true, true, true, true, true, false] ?_
        exact ih _ _ _ _ _ _
      · refine z_aload_n d_M_oneGoes_30 rfl ?_
        refine z_iload d_M_oneGoes_31 rfl ?_
        refine z_bipush d_M_oneGoes_33 ⟨by decide, by decide⟩ ?_
        refine z_cVI (as := [qI q4.1, qI 11]) (st := []) (nl := 0) (ci := 10) d_M_oneGoes_35 lk_M_142 mk_M_of rfl rfl rfl rfl rfl rfl (s_M_of _ _ _) (fun q6 _ hq6 => ?_)
        refine z_aload_n d_M_oneGoes_38 rfl ?_
        refine z_gr (ci := 10) (j := 0) (d := 1) (o2 := 89) d_M_oneGoes_39 rfl fl_M_7 rfl (Nat.le_of_ble_eq_true rfl) rfl rfl ?_
        refine z_bipush d_M_oneGoes_42 ⟨by decide, by decide⟩ ?_
        refine z_il d_M_oneGoes_44 rfl rfl (fun v7 => ?_)
        refine z_icmp_eq (tgt := 90) d_M_oneGoes_45 rfl (fun c8 => ?_) (fun c8 => ?_)
        · refine z_iinc (pls' := [some (qR 88), some (qI x1), some (qI x2), some (qI x3), some (qI x4), some (qI (w32 (x5 + 1))), some (qI q4.1)]) d_M_oneGoes_90 (by decide) rfl rfl rfl ?_
          refine z_goto (tgt := 8) d_M_oneGoes_93 rfl ?_
          refine z_mask [true, true, true, true, true, true, false] ?_
          exact ih _ _ _ _ _ _
        · refine z_aload_n d_M_oneGoes_48 rfl ?_
          refine z_iload d_M_oneGoes_49 rfl ?_
          refine z_iload_n d_M_oneGoes_51 rfl ?_
          refine z_iload_n d_M_oneGoes_52 rfl ?_
          refine z_ic1 d_M_oneGoes_53 ?_
          refine z_cVI (as := [qI q4.1, qI x1, qI x2, qI 1]) (st := []) (nl := 0) (ci := 10) d_M_oneGoes_54 lk_M_179 mk_M_canGo rfl rfl rfl rfl rfl rfl (s_M_canGo _ _ _ _ _) (fun q9 _ hq9 => ?_)
          refine z_if_ne (tgt := 63) d_M_oneGoes_57 rfl (fun c10 => ?_) (fun c10 => ?_)
          · refine z_goto (tgt := 90) d_M_oneGoes_60 rfl ?_
            refine z_iinc (pls' := [some (qR 88), some (qI x1), some (qI x2), some (qI x3), some (qI x4), some (qI (w32 (x5 + 1))), some (qI q4.1)]) d_M_oneGoes_90 (by decide) rfl rfl rfl ?_
            refine z_goto (tgt := 8) d_M_oneGoes_93 rfl ?_
            refine z_mask [true, true, true, true, true, true, false] ?_
            exact ih _ _ _ _ _ _
          · refine z_iload_n d_M_oneGoes_63 rfl ?_
            refine z_icm1 d_M_oneGoes_64 ?_
            refine z_icmp_eq (tgt := 83) d_M_oneGoes_65 rfl (fun c11 => ?_) (fun c11 => ?_)
            · refine z_mask [true, true, true, false, false, true, true] ?_
              exact s_M_oneGoes_83 ih _ _ _ _ _
            · refine z_aload_n d_M_oneGoes_68 rfl ?_
              refine z_iload d_M_oneGoes_69 rfl ?_
              refine z_iload_n d_M_oneGoes_71 rfl ?_
              refine z_iload_n d_M_oneGoes_72 rfl ?_
              refine z_iload_n d_M_oneGoes_73 rfl ?_
              refine z_cVI (as := [qI q4.1, qI x3, qI x1, qI x2]) (st := []) (nl := 1) (ci := 10) d_M_oneGoes_74 lk_M_182 mk_M_isAhead rfl rfl rfl rfl rfl rfl (s_M_isAhead _ _ _ _ _) (fun q12 _ hq12 => ?_)
              refine z_if_ne (tgt := 83) d_M_oneGoes_77 rfl (fun c13 => ?_) (fun c13 => ?_)
              · refine z_goto (tgt := 90) d_M_oneGoes_80 rfl ?_
                refine z_iinc (pls' := [some (qR 88), some (qI x1), some (qI x2), some (qI x3), some (qI x4), some (qI (w32 (x5 + 1))), some (qI q4.1)]) d_M_oneGoes_90 (by decide) rfl rfl rfl ?_
                refine z_goto (tgt := 8) d_M_oneGoes_93 rfl ?_
                refine z_mask [true, true, true, true, true, true, false] ?_
                exact ih _ _ _ _ _ _
              · refine z_mask [true, true, true, false, false, true, true] ?_
                exact s_M_oneGoes_83 ih _ _ _ _ _
    · refine z_mask [true, true, true, true, true, false, false] ?_
      exact s_M_oneGoes_96 _ _ _ _ _
def f_M_oneGoes (x1 : Int) (x2 : Int) (w : qMem) : Option (qMem) :=
  f_M_oneGoes_8 qFU x1 x2 (-1) 0 0 w
set_option maxRecDepth 4000 in
theorem s_M_oneGoes (x1 : Int) (x2 : Int) (w : qMem) : qSim κV 100 100 m_M_oneGoes 0 [] [some (qR 88), some (qI x1), some (qI x2), none, none, none, none] w (f_M_oneGoes x1 x2 w) := by
  unfold f_M_oneGoes
  refine z_icm1 d_M_oneGoes_0 ?_
  refine z_istore_n (pls' := [some (qR 88), some (qI x1), some (qI x2), some (qI (-1)), none, none, none]) d_M_oneGoes_1 (by decide) rfl rfl ?_
  refine z_ic0 d_M_oneGoes_2 ?_
  refine z_istore (pls' := [some (qR 88), some (qI x1), some (qI x2), some (qI (-1)), some (qI 0), none, none]) d_M_oneGoes_3 (by decide) rfl rfl ?_
  refine z_ic0 d_M_oneGoes_5 ?_
  refine z_istore (pls' := [some (qR 88), some (qI x1), some (qI x2), some (qI (-1)), some (qI 0), some (qI 0), none]) d_M_oneGoes_6 (by decide) rfl rfl ?_
  refine z_mask [true, true, true, true, true, true, false] ?_
  exact s_M_oneGoes_8 _ _ _ _ _ _ _
/-! BubbleTorusModel.isHungry -/
theorem d_M_isHungry_0 : decode m_M_isHungry.2.1 0 = .ok (.aload_n 0, 1) := by decide +kernel
theorem d_M_isHungry_1 : decode m_M_isHungry.2.1 1 = .ok (.getfield 7, 3) := by decide +kernel
theorem d_M_isHungry_4 : decode m_M_isHungry.2.1 4 = .ok (.sipush 5834, 3) := by decide +kernel
theorem d_M_isHungry_7 : decode m_M_isHungry.2.1 7 = .ok (.iconst 4, 1) := by decide +kernel
theorem d_M_isHungry_8 : decode m_M_isHungry.2.1 8 = .ok (.iload_n 1, 1) := by decide +kernel
theorem d_M_isHungry_9 : decode m_M_isHungry.2.1 9 = .ok (.imul, 1) := by decide +kernel
theorem d_M_isHungry_10 : decode m_M_isHungry.2.1 10 = .ok (.iadd, 1) := by decide +kernel
theorem d_M_isHungry_11 : decode m_M_isHungry.2.1 11 = .ok (.iload_n 2, 1) := by decide +kernel
theorem d_M_isHungry_12 : decode m_M_isHungry.2.1 12 = .ok (.iadd, 1) := by decide +kernel
theorem d_M_isHungry_13 : decode m_M_isHungry.2.1 13 = .ok (.iaload, 1) := by decide +kernel
theorem d_M_isHungry_14 : decode m_M_isHungry.2.1 14 = .ok (.iconst 1, 1) := by decide +kernel
theorem d_M_isHungry_15 : decode m_M_isHungry.2.1 15 = .ok (.if_icmp .ne 5, 3) := by decide +kernel
theorem d_M_isHungry_18 : decode m_M_isHungry.2.1 18 = .ok (.iconst 0, 1) := by decide +kernel
theorem d_M_isHungry_19 : decode m_M_isHungry.2.1 19 = .ok (.ireturn, 1) := by decide +kernel
theorem d_M_isHungry_20 : decode m_M_isHungry.2.1 20 = .ok (.iconst 0, 1) := by decide +kernel
theorem d_M_isHungry_21 : decode m_M_isHungry.2.1 21 = .ok (.istore_n 3, 1) := by decide +kernel
theorem d_M_isHungry_22 : decode m_M_isHungry.2.1 22 = .ok (.iload_n 3, 1) := by decide +kernel
theorem d_M_isHungry_23 : decode m_M_isHungry.2.1 23 = .ok (.bipush 9, 2) := by decide +kernel
theorem d_M_isHungry_25 : decode m_M_isHungry.2.1 25 = .ok (.if_icmp .ge 48, 3) := by decide +kernel
theorem d_M_isHungry_28 : decode m_M_isHungry.2.1 28 = .ok (.aload_n 0, 1) := by decide +kernel
theorem d_M_isHungry_29 : decode m_M_isHungry.2.1 29 = .ok (.iload_n 1, 1) := by decide +kernel
theorem d_M_isHungry_30 : decode m_M_isHungry.2.1 30 = .ok (.iload_n 3, 1) := by decide +kernel
theorem d_M_isHungry_31 : decode m_M_isHungry.2.1 31 = .ok (.invokevirtual 145, 3) := by decide +kernel
theorem d_M_isHungry_34 : decode m_M_isHungry.2.1 34 = .ok (.istore 4, 2) := by decide +kernel
theorem d_M_isHungry_36 : decode m_M_isHungry.2.1 36 = .ok (.iload_n 3, 1) := by decide +kernel
theorem d_M_isHungry_37 : decode m_M_isHungry.2.1 37 = .ok (.iconst 1, 1) := by decide +kernel
theorem d_M_isHungry_38 : decode m_M_isHungry.2.1 38 = .ok (.iload_n 2, 1) := by decide +kernel
theorem d_M_isHungry_39 : decode m_M_isHungry.2.1 39 = .ok (.iadd, 1) := by decide +kernel
theorem d_M_isHungry_40 : decode m_M_isHungry.2.1 40 = .ok (.if_icmp .eq 27, 3) := by decide +kernel
theorem d_M_isHungry_43 : decode m_M_isHungry.2.1 43 = .ok (.iload 4, 2) := by decide +kernel
theorem d_M_isHungry_45 : decode m_M_isHungry.2.1 45 = .ok (.iconst (-1), 1) := by decide +kernel
theorem d_M_isHungry_46 : decode m_M_isHungry.2.1 46 = .ok (.if_icmp .eq 21, 3) := by decide +kernel
theorem d_M_isHungry_49 : decode m_M_isHungry.2.1 49 = .ok (.aload_n 0, 1) := by decide +kernel
theorem d_M_isHungry_50 : decode m_M_isHungry.2.1 50 = .ok (.iload_n 1, 1) := by decide +kernel
theorem d_M_isHungry_51 : decode m_M_isHungry.2.1 51 = .ok (.aload_n 0, 1) := by decide +kernel
theorem d_M_isHungry_52 : decode m_M_isHungry.2.1 52 = .ok (.iload 4, 2) := by decide +kernel
theorem d_M_isHungry_54 : decode m_M_isHungry.2.1 54 = .ok (.iconst 1, 1) := by decide +kernel
theorem d_M_isHungry_55 : decode m_M_isHungry.2.1 55 = .ok (.invokevirtual 142, 3) := by decide +kernel
theorem d_M_isHungry_58 : decode m_M_isHungry.2.1 58 = .ok (.invokevirtual 99, 3) := by decide +kernel
theorem d_M_isHungry_61 : decode m_M_isHungry.2.1 61 = .ok (.iload_n 2, 1) := by decide +kernel
theorem d_M_isHungry_62 : decode m_M_isHungry.2.1 62 = .ok (.if_icmp .ne 5, 3) := by decide +kernel
theorem d_M_isHungry_65 : decode m_M_isHungry.2.1 65 = .ok (.iconst 1, 1) := by decide +kernel
theorem d_M_isHungry_66 : decode m_M_isHungry.2.1 66 = .ok (.ireturn, 1) := by decide +kernel
theorem d_M_isHungry_67 : decode m_M_isHungry.2.1 67 = .ok (.iinc 3 1, 3) := by decide +kernel
theorem d_M_isHungry_70 : decode m_M_isHungry.2.1 70 = .ok (.goto (-48), 3) := by decide +kernel
theorem d_M_isHungry_73 : decode m_M_isHungry.2.1 73 = .ok (.iconst 0, 1) := by decide +kernel
theorem d_M_isHungry_74 : decode m_M_isHungry.2.1 74 = .ok (.ireturn, 1) := by decide +kernel
def f_M_isHungry_22 : Nat → Int → Int → Int → qMem → Option (Int × qMem)
  | 0, _, _, _, _ => none
  | n + 1, x1, x2, x3, w =>
    if x3 < 9 then
    (f_M_firstOf x1 x3 w).bind fun q2 =>
    if x3 = (w32 (1 + x2)) then
    (f_M_isHungry_22 n) x1 x2 (w32 (x3 + 1)) q2.2
    else
    if q2.1 = (-1) then
    (f_M_isHungry_22 n) x1 x2 (w32 (x3 + 1)) q2.2
    else
    (f_M_of q2.1 1 q2.2).bind fun q5 =>
    (f_M_escapeOf x1 q5.1 q5.2).bind fun q6 =>
    if q6.1 = x2 then
    some (1, q6.2)
    else
    (f_M_isHungry_22 n) x1 x2 (w32 (x3 + 1)) q6.2
    else
    some (0, w)
set_option maxRecDepth 4000 in
theorem s_M_isHungry_22  : ∀ (n : Nat), ∀ (x1 x2 x3 : Int) (w : qMem), qSim κI 100 100 m_M_isHungry 22 [] [some (qR 88), some (qI x1), some (qI x2), some (qI x3), none] w (f_M_isHungry_22 n x1 x2 x3 w) := by
  intro n
  induction n with
  | zero => intro x1 x2 x3 w; exact z_none
  | succ n ih =>
    intro x1 x2 x3 w
    rw [f_M_isHungry_22]
    refine z_iload_n d_M_isHungry_22 rfl ?_
    refine z_bipush d_M_isHungry_23 ⟨by decide, by decide⟩ ?_
    refine z_icmp_ge (tgt := 73) d_M_isHungry_25 rfl (fun c1 => ?_) (fun c1 => ?_)
    · refine z_aload_n d_M_isHungry_28 rfl ?_
      refine z_iload_n d_M_isHungry_29 rfl ?_
      refine z_iload_n d_M_isHungry_30 rfl ?_
      refine z_cVI (as := [qI x1, qI x3]) (st := []) (nl := 0) (ci := 10) d_M_isHungry_31 lk_M_145 mk_M_firstOf rfl rfl rfl rfl rfl rfl (s_M_firstOf _ _ _) (fun q2 _ hq2 => ?_)
      refine z_istore (pls' := [some (qR 88), some (qI x1), some (qI x2), some (qI x3), some (qI q2.1)]) d_M_isHungry_34 (by decide) rfl rfl ?_
      refine z_iload_n d_M_isHungry_36 rfl ?_
      refine z_ic1 d_M_isHungry_37 ?_
      refine z_iload_n d_M_isHungry_38 rfl ?_
      refine z_iadd d_M_isHungry_39 ?_
      refine z_icmp_eq (tgt := 67) d_M_isHungry_40 rfl (fun c3 => ?_) (fun c3 => ?_)
      · refine z_iinc (pls' := [some (qR 88), some (qI x1), some (qI x2), some (qI (w32 (x3 + 1))), some (qI q2.1)]) d_M_isHungry_67 (by decide) rfl rfl rfl ?_
        refine z_goto (tgt := 22) d_M_isHungry_70 rfl ?_
        refine z_mask [true, true, true, true, false] ?_
        exact ih _ _ _ _
      · refine z_iload d_M_isHungry_43 rfl ?_
        refine z_icm1 d_M_isHungry_45 ?_
        refine z_icmp_eq (tgt := 67) d_M_isHungry_46 rfl (fun c4 => ?_) (fun c4 => ?_)
        · refine z_iinc (pls' := [some (qR 88), some (qI x1), some (qI x2), some (qI (w32 (x3 + 1))), some (qI q2.1)]) d_M_isHungry_67 (by decide) rfl rfl rfl ?_
          refine z_goto (tgt := 22) d_M_isHungry_70 rfl ?_
          refine z_mask [true, true, true, true, false] ?_
          exact ih _ _ _ _
        · refine z_aload_n d_M_isHungry_49 rfl ?_
          refine z_iload_n d_M_isHungry_50 rfl ?_
          refine z_aload_n d_M_isHungry_51 rfl ?_
          refine z_iload d_M_isHungry_52 rfl ?_
          refine z_ic1 d_M_isHungry_54 ?_
          refine z_cVI (as := [qI q2.1, qI 1]) (st := [qI x1, qR 88]) (nl := 0) (ci := 10) d_M_isHungry_55 lk_M_142 mk_M_of rfl rfl rfl rfl rfl rfl (s_M_of _ _ _) (fun q5 _ hq5 => ?_)
          refine z_cVI (as := [qI x1, qI q5.1]) (st := []) (nl := 1) (ci := 10) d_M_isHungry_58 lk_M_99 mk_M_escapeOf rfl rfl rfl rfl rfl rfl (s_M_escapeOf _ _ _) (fun q6 _ hq6 => ?_)
          refine z_iload_n d_M_isHungry_61 rfl ?_
          refine z_icmp_ne (tgt := 67) d_M_isHungry_62 rfl (fun c7 => ?_) (fun c7 => ?_)
          · refine z_ic1 d_M_isHungry_65 ?_
            exact z_zret d_M_isHungry_66 rfl rfl (Or.inr rfl)
          · refine z_iinc (pls' := [some (qR 88), some (qI x1), some (qI x2), some (qI (w32 (x3 + 1))), some (qI q2.1)]) d_M_isHungry_67 (by decide) rfl rfl rfl ?_
            refine z_goto (tgt := 22) d_M_isHungry_70 rfl ?_
            refine z_mask [true, true, true, true, false] ?_
            exact ih _ _ _ _
    · refine z_ic0 d_M_isHungry_73 ?_
      exact z_zret d_M_isHungry_74 rfl rfl (Or.inl rfl)
def f_M_isHungry (x1 : Int) (x2 : Int) (w : qMem) : Option (Int × qMem) :=
  qld w 89 5898 (w32 ((w32 (5834 + (w32 (4 * x1)))) + x2)) fun v8 =>
  if v8 = 1 then
  some (0, w)
  else
  f_M_isHungry_22 qFU x1 x2 0 w
set_option maxRecDepth 4000 in
theorem s_M_isHungry (x1 : Int) (x2 : Int) (w : qMem) : qSim κI 100 100 m_M_isHungry 0 [] [some (qR 88), some (qI x1), some (qI x2), none, none] w (f_M_isHungry x1 x2 w) := by
  unfold f_M_isHungry
  refine z_aload_n d_M_isHungry_0 rfl ?_
  refine z_gr (ci := 10) (j := 0) (d := 1) (o2 := 89) d_M_isHungry_1 rfl fl_M_7 rfl (Nat.le_of_ble_eq_true rfl) rfl rfl ?_
  refine z_sipush d_M_isHungry_4 ⟨by decide, by decide⟩ ?_
  refine z_ic4 d_M_isHungry_7 ?_
  refine z_iload_n d_M_isHungry_8 rfl ?_
  refine z_imul d_M_isHungry_9 ?_
  refine z_iadd d_M_isHungry_10 ?_
  refine z_iload_n d_M_isHungry_11 rfl ?_
  refine z_iadd d_M_isHungry_12 ?_
  refine z_il d_M_isHungry_13 rfl rfl (fun v8 => ?_)
  refine z_ic1 d_M_isHungry_14 ?_
  refine z_icmp_ne (tgt := 20) d_M_isHungry_15 rfl (fun c9 => ?_) (fun c9 => ?_)
  · refine z_ic0 d_M_isHungry_18 ?_
    exact z_zret d_M_isHungry_19 rfl rfl (Or.inl rfl)
  · refine z_ic0 d_M_isHungry_20 ?_
    refine z_istore_n (pls' := [some (qR 88), some (qI x1), some (qI x2), some (qI 0), none]) d_M_isHungry_21 (by decide) rfl rfl ?_
    refine z_mask [true, true, true, true, false] ?_
    exact s_M_isHungry_22 _ _ _ _ _
/-! BubbleTorusModel.hungers -/
theorem d_M_hungers_0 : decode m_M_hungers.2.1 0 = .ok (.sipush 5370, 3) := by decide +kernel
theorem d_M_hungers_3 : decode m_M_hungers.2.1 3 = .ok (.iconst 4, 1) := by decide +kernel
theorem d_M_hungers_4 : decode m_M_hungers.2.1 4 = .ok (.iload_n 1, 1) := by decide +kernel
theorem d_M_hungers_5 : decode m_M_hungers.2.1 5 = .ok (.imul, 1) := by decide +kernel
theorem d_M_hungers_6 : decode m_M_hungers.2.1 6 = .ok (.iadd, 1) := by decide +kernel
theorem d_M_hungers_7 : decode m_M_hungers.2.1 7 = .ok (.iload_n 2, 1) := by decide +kernel
theorem d_M_hungers_8 : decode m_M_hungers.2.1 8 = .ok (.iadd, 1) := by decide +kernel
theorem d_M_hungers_9 : decode m_M_hungers.2.1 9 = .ok (.istore_n 3, 1) := by decide +kernel
theorem d_M_hungers_10 : decode m_M_hungers.2.1 10 = .ok (.aload_n 0, 1) := by decide +kernel
theorem d_M_hungers_11 : decode m_M_hungers.2.1 11 = .ok (.getfield 7, 3) := by decide +kernel
theorem d_M_hungers_14 : decode m_M_hungers.2.1 14 = .ok (.iload_n 3, 1) := by decide +kernel
theorem d_M_hungers_15 : decode m_M_hungers.2.1 15 = .ok (.aload_n 0, 1) := by decide +kernel
theorem d_M_hungers_16 : decode m_M_hungers.2.1 16 = .ok (.iload_n 1, 1) := by decide +kernel
theorem d_M_hungers_17 : decode m_M_hungers.2.1 17 = .ok (.iload_n 2, 1) := by decide +kernel
theorem d_M_hungers_18 : decode m_M_hungers.2.1 18 = .ok (.invokevirtual 190, 3) := by decide +kernel
theorem d_M_hungers_21 : decode m_M_hungers.2.1 21 = .ok (.ifCond .eq 32, 3) := by decide +kernel
theorem d_M_hungers_24 : decode m_M_hungers.2.1 24 = .ok (.aload_n 0, 1) := by decide +kernel
theorem d_M_hungers_25 : decode m_M_hungers.2.1 25 = .ok (.getfield 7, 3) := by decide +kernel
theorem d_M_hungers_28 : decode m_M_hungers.2.1 28 = .ok (.iload_n 3, 1) := by decide +kernel
theorem d_M_hungers_29 : decode m_M_hungers.2.1 29 = .ok (.iaload, 1) := by decide +kernel
theorem d_M_hungers_30 : decode m_M_hungers.2.1 30 = .ok (.sipush 999, 3) := by decide +kernel
theorem d_M_hungers_33 : decode m_M_hungers.2.1 33 = .ok (.if_icmp .ge 14, 3) := by decide +kernel
theorem d_M_hungers_36 : decode m_M_hungers.2.1 36 = .ok (.aload_n 0, 1) := by decide +kernel
theorem d_M_hungers_37 : decode m_M_hungers.2.1 37 = .ok (.getfield 7, 3) := by decide +kernel
theorem d_M_hungers_40 : decode m_M_hungers.2.1 40 = .ok (.iload_n 3, 1) := by decide +kernel
theorem d_M_hungers_41 : decode m_M_hungers.2.1 41 = .ok (.iaload, 1) := by decide +kernel
theorem d_M_hungers_42 : decode m_M_hungers.2.1 42 = .ok (.iconst 1, 1) := by decide +kernel
theorem d_M_hungers_43 : decode m_M_hungers.2.1 43 = .ok (.iadd, 1) := by decide +kernel
theorem d_M_hungers_44 : decode m_M_hungers.2.1 44 = .ok (.goto 10, 3) := by decide +kernel
theorem d_M_hungers_47 : decode m_M_hungers.2.1 47 = .ok (.sipush 999, 3) := by decide +kernel
theorem d_M_hungers_50 : decode m_M_hungers.2.1 50 = .ok (.goto 4, 3) := by decide +kernel
theorem d_M_hungers_53 : decode m_M_hungers.2.1 53 = .ok (.iconst 0, 1) := by decide +kernel
theorem d_M_hungers_54 : decode m_M_hungers.2.1 54 = .ok (.iastore, 1) := by decide +kernel
theorem d_M_hungers_55 : decode m_M_hungers.2.1 55 = .ok (.aload_n 0, 1) := by decide +kernel
theorem d_M_hungers_56 : decode m_M_hungers.2.1 56 = .ok (.getfield 7, 3) := by decide +kernel
theorem d_M_hungers_59 : decode m_M_hungers.2.1 59 = .ok (.iload_n 3, 1) := by decide +kernel
theorem d_M_hungers_60 : decode m_M_hungers.2.1 60 = .ok (.iaload, 1) := by decide +kernel
theorem d_M_hungers_61 : decode m_M_hungers.2.1 61 = .ok (.aload_n 0, 1) := by decide +kernel
theorem d_M_hungers_62 : decode m_M_hungers.2.1 62 = .ok (.getfield 7, 3) := by decide +kernel
theorem d_M_hungers_65 : decode m_M_hungers.2.1 65 = .ok (.sipush 5434, 3) := by decide +kernel
theorem d_M_hungers_68 : decode m_M_hungers.2.1 68 = .ok (.iload_n 1, 1) := by decide +kernel
theorem d_M_hungers_69 : decode m_M_hungers.2.1 69 = .ok (.iadd, 1) := by decide +kernel
theorem d_M_hungers_70 : decode m_M_hungers.2.1 70 = .ok (.iaload, 1) := by decide +kernel
theorem d_M_hungers_71 : decode m_M_hungers.2.1 71 = .ok (.if_icmp .le 19, 3) := by decide +kernel
theorem d_M_hungers_74 : decode m_M_hungers.2.1 74 = .ok (.aload_n 0, 1) := by decide +kernel
theorem d_M_hungers_75 : decode m_M_hungers.2.1 75 = .ok (.getfield 7, 3) := by decide +kernel
theorem d_M_hungers_78 : decode m_M_hungers.2.1 78 = .ok (.sipush 5434, 3) := by decide +kernel
theorem d_M_hungers_81 : decode m_M_hungers.2.1 81 = .ok (.iload_n 1, 1) := by decide +kernel
theorem d_M_hungers_82 : decode m_M_hungers.2.1 82 = .ok (.iadd, 1) := by decide +kernel
theorem d_M_hungers_83 : decode m_M_hungers.2.1 83 = .ok (.aload_n 0, 1) := by decide +kernel
theorem d_M_hungers_84 : decode m_M_hungers.2.1 84 = .ok (.getfield 7, 3) := by decide +kernel
theorem d_M_hungers_87 : decode m_M_hungers.2.1 87 = .ok (.iload_n 3, 1) := by decide +kernel
theorem d_M_hungers_88 : decode m_M_hungers.2.1 88 = .ok (.iaload, 1) := by decide +kernel
theorem d_M_hungers_89 : decode m_M_hungers.2.1 89 = .ok (.iastore, 1) := by decide +kernel
theorem d_M_hungers_90 : decode m_M_hungers.2.1 90 = .ok (.return_, 1) := by decide +kernel
def f_M_hungers_54 (s1 s2 x1 x3 : Int) (w : qMem) : Option (qMem) :=
  qst w 89 5898 s1 s2 fun w1 =>
  qld w1 89 5898 x3 fun v2 =>
  qld w1 89 5898 (w32 (5434 + x1)) fun v3 =>
  if v2 ≤ v3 then
  some w1
  else
  qld w1 89 5898 x3 fun v5 =>
  qst w1 89 5898 (w32 (5434 + x1)) v5 fun w6 =>
  some w6
set_option maxRecDepth 4000 in
theorem s_M_hungers_54  : ∀ (s1 s2 x1 x3 : Int) (w : qMem), qSim κV 100 100 m_M_hungers 54 [qI s2, qI s1, qR 89] [some (qR 88), some (qI x1), none, some (qI x3)] w (f_M_hungers_54 s1 s2 x1 x3 w) := by
  intro s1 s2 x1 x3 w
  unfold f_M_hungers_54
  refine z_is d_M_hungers_54 rfl rfl (fun w1 => ?_)
  refine z_aload_n d_M_hungers_55 rfl ?_
  refine z_gr (ci := 10) (j := 0) (d := 1) (o2 := 89) d_M_hungers_56 rfl fl_M_7 rfl (Nat.le_of_ble_eq_true rfl) rfl rfl ?_
  refine z_iload_n d_M_hungers_59 rfl ?_
  refine z_il d_M_hungers_60 rfl rfl (fun v2 => ?_)
  refine z_aload_n d_M_hungers_61 rfl ?_
  refine z_gr (ci := 10) (j := 0) (d := 1) (o2 := 89) d_M_hungers_62 rfl fl_M_7 rfl (Nat.le_of_ble_eq_true rfl) rfl rfl ?_
  refine z_sipush d_M_hungers_65 ⟨by decide, by decide⟩ ?_
  refine z_iload_n d_M_hungers_68 rfl ?_
  refine z_iadd d_M_hungers_69 ?_
  refine z_il d_M_hungers_70 rfl rfl (fun v3 => ?_)
  refine z_icmp_le (tgt := 90) d_M_hungers_71 rfl (fun c4 => ?_) (fun c4 => ?_)
  · exact z_vret d_M_hungers_90 rfl rfl
  · refine z_aload_n d_M_hungers_74 rfl ?_
    refine z_gr (ci := 10) (j := 0) (d := 1) (o2 := 89) d_M_hungers_75 rfl fl_M_7 rfl (Nat.le_of_ble_eq_true rfl) rfl rfl ?_
    refine z_sipush d_M_hungers_78 ⟨by decide, by decide⟩ ?_
    refine z_iload_n d_M_hungers_81 rfl ?_
    refine z_iadd d_M_hungers_82 ?_
    refine z_aload_n d_M_hungers_83 rfl ?_
    refine z_gr (ci := 10) (j := 0) (d := 1) (o2 := 89) d_M_hungers_84 rfl fl_M_7 rfl (Nat.le_of_ble_eq_true rfl) rfl rfl ?_
    refine z_iload_n d_M_hungers_87 rfl ?_
    refine z_il d_M_hungers_88 rfl rfl (fun v5 => ?_)
    refine z_is d_M_hungers_89 rfl rfl (fun w6 => ?_)
    exact z_vret d_M_hungers_90 rfl rfl
def f_M_hungers (x1 : Int) (x2 : Int) (w : qMem) : Option (qMem) :=
  (f_M_isHungry x1 x2 w).bind fun q7 =>
  if q7.1 = 0 then
  f_M_hungers_54 (w32 ((w32 (5370 + (w32 (4 * x1)))) + x2)) 0 x1 (w32 ((w32 (5370 + (w32 (4 * x1)))) + x2)) q7.2
  else
  qld q7.2 89 5898 (w32 ((w32 (5370 + (w32 (4 * x1)))) + x2)) fun v9 =>
  if v9 < 999 then
  qld q7.2 89 5898 (w32 ((w32 (5370 + (w32 (4 * x1)))) + x2)) fun v11 =>
  f_M_hungers_54 (w32 ((w32 (5370 + (w32 (4 * x1)))) + x2)) (w32 (v11 + 1)) x1 (w32 ((w32 (5370 + (w32 (4 * x1)))) + x2)) q7.2
  else
  f_M_hungers_54 (w32 ((w32 (5370 + (w32 (4 * x1)))) + x2)) 999 x1 (w32 ((w32 (5370 + (w32 (4 * x1)))) + x2)) q7.2
set_option maxRecDepth 4000 in
theorem s_M_hungers (x1 : Int) (x2 : Int) (w : qMem) : qSim κV 100 100 m_M_hungers 0 [] [some (qR 88), some (qI x1), some (qI x2), none] w (f_M_hungers x1 x2 w) := by
  unfold f_M_hungers
  refine z_sipush d_M_hungers_0 ⟨by decide, by decide⟩ ?_
  refine z_ic4 d_M_hungers_3 ?_
  refine z_iload_n d_M_hungers_4 rfl ?_
  refine z_imul d_M_hungers_5 ?_
  refine z_iadd d_M_hungers_6 ?_
  refine z_iload_n d_M_hungers_7 rfl ?_
  refine z_iadd d_M_hungers_8 ?_
  refine z_istore_n (pls' := [some (qR 88), some (qI x1), some (qI x2), some (qI (w32 ((w32 (5370 + (w32 (4 * x1)))) + x2)))]) d_M_hungers_9 (by decide) rfl rfl ?_
  refine z_aload_n d_M_hungers_10 rfl ?_
  refine z_gr (ci := 10) (j := 0) (d := 1) (o2 := 89) d_M_hungers_11 rfl fl_M_7 rfl (Nat.le_of_ble_eq_true rfl) rfl rfl ?_
  refine z_iload_n d_M_hungers_14 rfl ?_
  refine z_aload_n d_M_hungers_15 rfl ?_
  refine z_iload_n d_M_hungers_16 rfl ?_
  refine z_iload_n d_M_hungers_17 rfl ?_
  refine z_cVI (as := [qI x1, qI x2]) (st := [qI (w32 ((w32 (5370 + (w32 (4 * x1)))) + x2)), qR 89]) (nl := 2) (ci := 10) d_M_hungers_18 lk_M_190 mk_M_isHungry rfl rfl rfl rfl rfl rfl (s_M_isHungry _ _ _) (fun q7 _ hq7 => ?_)
  refine z_if_eq (tgt := 53) d_M_hungers_21 rfl (fun c8 => ?_) (fun c8 => ?_)
  · refine z_ic0 d_M_hungers_53 ?_
    refine z_mask [true, true, false, true] ?_
    exact s_M_hungers_54 _ _ _ _ _
  · refine z_aload_n d_M_hungers_24 rfl ?_
    refine z_gr (ci := 10) (j := 0) (d := 1) (o2 := 89) d_M_hungers_25 rfl fl_M_7 rfl (Nat.le_of_ble_eq_true rfl) rfl rfl ?_
    refine z_iload_n d_M_hungers_28 rfl ?_
    refine z_il d_M_hungers_29 rfl rfl (fun v9 => ?_)
    refine z_sipush d_M_hungers_30 ⟨by decide, by decide⟩ ?_
    refine z_icmp_ge (tgt := 47) d_M_hungers_33 rfl (fun c10 => ?_) (fun c10 => ?_)
    · refine z_aload_n d_M_hungers_36 rfl ?_
      refine z_gr (ci := 10) (j := 0) (d := 1) (o2 := 89) d_M_hungers_37 rfl fl_M_7 rfl (Nat.le_of_ble_eq_true rfl) rfl rfl ?_
      refine z_iload_n d_M_hungers_40 rfl ?_
      refine z_il d_M_hungers_41 rfl rfl (fun v11 => ?_)
      refine z_ic1 d_M_hungers_42 ?_
      refine z_iadd d_M_hungers_43 ?_
      refine z_goto (tgt := 54) d_M_hungers_44 rfl ?_
      refine z_mask [true, true, false, true] ?_
      exact s_M_hungers_54 _ _ _ _ _
    · refine z_sipush d_M_hungers_47 ⟨by decide, by decide⟩ ?_
      refine z_goto (tgt := 54) d_M_hungers_50 rfl ?_
      refine z_mask [true, true, false, true] ?_
      exact s_M_hungers_54 _ _ _ _ _
/-! BubbleTorusModel.hungriest -/
theorem d_M_hungriest_0 : decode m_M_hungriest.2.1 0 = .ok (.aload_n 0, 1) := by decide +kernel
theorem d_M_hungriest_1 : decode m_M_hungriest.2.1 1 = .ok (.iload_n 1, 1) := by decide +kernel
theorem d_M_hungriest_2 : decode m_M_hungriest.2.1 2 = .ok (.invokevirtual 89, 3) := by decide +kernel
theorem d_M_hungriest_5 : decode m_M_hungriest.2.1 5 = .ok (.istore_n 2, 1) := by decide +kernel
theorem d_M_hungriest_6 : decode m_M_hungriest.2.1 6 = .ok (.iconst (-1), 1) := by decide +kernel
theorem d_M_hungriest_7 : decode m_M_hungriest.2.1 7 = .ok (.istore_n 3, 1) := by decide +kernel
theorem d_M_hungriest_8 : decode m_M_hungriest.2.1 8 = .ok (.iconst 0, 1) := by decide +kernel
theorem d_M_hungriest_9 : decode m_M_hungriest.2.1 9 = .ok (.istore 4, 2) := by decide +kernel
theorem d_M_hungriest_11 : decode m_M_hungriest.2.1 11 = .ok (.iload 4, 2) := by decide +kernel
theorem d_M_hungriest_13 : decode m_M_hungriest.2.1 13 = .ok (.aload_n 0, 1) := by decide +kernel
theorem d_M_hungriest_14 : decode m_M_hungriest.2.1 14 = .ok (.invokevirtual 72, 3) := by decide +kernel
theorem d_M_hungriest_17 : decode m_M_hungriest.2.1 17 = .ok (.if_icmp .ge 78, 3) := by decide +kernel
theorem d_M_hungriest_20 : decode m_M_hungriest.2.1 20 = .ok (.aload_n 0, 1) := by decide +kernel
theorem d_M_hungriest_21 : decode m_M_hungriest.2.1 21 = .ok (.getfield 7, 3) := by decide +kernel
theorem d_M_hungriest_24 : decode m_M_hungriest.2.1 24 = .ok (.sipush 5370, 3) := by decide +kernel
theorem d_M_hungriest_27 : decode m_M_hungriest.2.1 27 = .ok (.iconst 4, 1) := by decide +kernel
theorem d_M_hungriest_28 : decode m_M_hungriest.2.1 28 = .ok (.iload 4, 2) := by decide +kernel
theorem d_M_hungriest_30 : decode m_M_hungriest.2.1 30 = .ok (.imul, 1) := by decide +kernel
theorem d_M_hungriest_31 : decode m_M_hungriest.2.1 31 = .ok (.iadd, 1) := by decide +kernel
theorem d_M_hungriest_32 : decode m_M_hungriest.2.1 32 = .ok (.iload_n 2, 1) := by decide +kernel
theorem d_M_hungriest_33 : decode m_M_hungriest.2.1 33 = .ok (.iadd, 1) := by decide +kernel
theorem d_M_hungriest_34 : decode m_M_hungriest.2.1 34 = .ok (.iaload, 1) := by decide +kernel
theorem d_M_hungriest_35 : decode m_M_hungriest.2.1 35 = .ok (.istore 5, 2) := by decide +kernel
theorem d_M_hungriest_37 : decode m_M_hungriest.2.1 37 = .ok (.aload_n 0, 1) := by decide +kernel
theorem d_M_hungriest_38 : decode m_M_hungriest.2.1 38 = .ok (.iload 4, 2) := by decide +kernel
theorem d_M_hungriest_40 : decode m_M_hungriest.2.1 40 = .ok (.iload_n 2, 1) := by decide +kernel
theorem d_M_hungriest_41 : decode m_M_hungriest.2.1 41 = .ok (.invokevirtual 102, 3) := by decide +kernel
theorem d_M_hungriest_44 : decode m_M_hungriest.2.1 44 = .ok (.iload_n 1, 1) := by decide +kernel
theorem d_M_hungriest_45 : decode m_M_hungriest.2.1 45 = .ok (.if_icmp .ne 44, 3) := by decide +kernel
theorem d_M_hungriest_48 : decode m_M_hungriest.2.1 48 = .ok (.iload 5, 2) := by decide +kernel
theorem d_M_hungriest_50 : decode m_M_hungriest.2.1 50 = .ok (.aload_n 0, 1) := by decide +kernel
theorem d_M_hungriest_51 : decode m_M_hungriest.2.1 51 = .ok (.getfield 7, 3) := by decide +kernel
theorem d_M_hungriest_54 : decode m_M_hungriest.2.1 54 = .ok (.iconst 5, 1) := by decide +kernel
theorem d_M_hungriest_55 : decode m_M_hungriest.2.1 55 = .ok (.iaload, 1) := by decide +kernel
theorem d_M_hungriest_56 : decode m_M_hungriest.2.1 56 = .ok (.if_icmp .ge 6, 3) := by decide +kernel
theorem d_M_hungriest_59 : decode m_M_hungriest.2.1 59 = .ok (.goto 30, 3) := by decide +kernel
theorem d_M_hungriest_62 : decode m_M_hungriest.2.1 62 = .ok (.iload_n 3, 1) := by decide +kernel
theorem d_M_hungriest_63 : decode m_M_hungriest.2.1 63 = .ok (.iconst (-1), 1) := by decide +kernel
theorem d_M_hungriest_64 : decode m_M_hungriest.2.1 64 = .ok (.if_icmp .eq 22, 3) := by decide +kernel
theorem d_M_hungriest_67 : decode m_M_hungriest.2.1 67 = .ok (.iload 5, 2) := by decide +kernel
theorem d_M_hungriest_69 : decode m_M_hungriest.2.1 69 = .ok (.aload_n 0, 1) := by decide +kernel
theorem d_M_hungriest_70 : decode m_M_hungriest.2.1 70 = .ok (.getfield 7, 3) := by decide +kernel
theorem d_M_hungriest_73 : decode m_M_hungriest.2.1 73 = .ok (.sipush 5370, 3) := by decide +kernel
theorem d_M_hungriest_76 : decode m_M_hungriest.2.1 76 = .ok (.iconst 4, 1) := by decide +kernel
theorem d_M_hungriest_77 : decode m_M_hungriest.2.1 77 = .ok (.iload_n 3, 1) := by decide +kernel
theorem d_M_hungriest_78 : decode m_M_hungriest.2.1 78 = .ok (.imul, 1) := by decide +kernel
theorem d_M_hungriest_79 : decode m_M_hungriest.2.1 79 = .ok (.iadd, 1) := by decide +kernel
theorem d_M_hungriest_80 : decode m_M_hungriest.2.1 80 = .ok (.iload_n 2, 1) := by decide +kernel
theorem d_M_hungriest_81 : decode m_M_hungriest.2.1 81 = .ok (.iadd, 1) := by decide +kernel
theorem d_M_hungriest_82 : decode m_M_hungriest.2.1 82 = .ok (.iaload, 1) := by decide +kernel
theorem d_M_hungriest_83 : decode m_M_hungriest.2.1 83 = .ok (.if_icmp .le 6, 3) := by decide +kernel
theorem d_M_hungriest_86 : decode m_M_hungriest.2.1 86 = .ok (.iload 4, 2) := by decide +kernel
theorem d_M_hungriest_88 : decode m_M_hungriest.2.1 88 = .ok (.istore_n 3, 1) := by decide +kernel
theorem d_M_hungriest_89 : decode m_M_hungriest.2.1 89 = .ok (.iinc 4 1, 3) := by decide +kernel
theorem d_M_hungriest_92 : decode m_M_hungriest.2.1 92 = .ok (.goto (-81), 3) := by decide +kernel
theorem d_M_hungriest_95 : decode m_M_hungriest.2.1 95 = .ok (.iload_n 3, 1) := by decide +kernel
theorem d_M_hungriest_96 : decode m_M_hungriest.2.1 96 = .ok (.ireturn, 1) := by decide +kernel
def f_M_hungriest_86 (r11 : Int → Int → Int → Int → qMem → Option (Int × qMem)) (x1 x2 x4 : Int) (w : qMem) : Option (Int × qMem) :=
  r11 x1 x2 x4 (w32 (x4 + 1)) w
set_option maxRecDepth 4000 in
theorem s_M_hungriest_86  {r11 : Int → Int → Int → Int → qMem → Option (Int × qMem)} (hr11 : ∀ x1 x2 x3 x4 w, qSim κI 100 100 m_M_hungriest 11 [] [some (qR 88), some (qI x1), some (qI x2), some (qI x3), some (qI x4), none] w (r11 x1 x2 x3 x4 w)) : ∀ (x1 x2 x4 : Int) (w : qMem), qSim κI 100 100 m_M_hungriest 86 [] [some (qR 88), some (qI x1), some (qI x2), none, some (qI x4), none] w (f_M_hungriest_86 r11 x1 x2 x4 w) := by
  intro x1 x2 x4 w
  unfold f_M_hungriest_86
  refine z_iload d_M_hungriest_86 rfl ?_
  refine z_istore_n (pls' := [some (qR 88), some (qI x1), some (qI x2), some (qI x4), some (qI x4), none]) d_M_hungriest_88 (by decide) rfl rfl ?_
  refine z_iinc (pls' := [some (qR 88), some (qI x1), some (qI x2), some (qI x4), some (qI (w32 (x4 + 1))), none]) d_M_hungriest_89 (by decide) rfl rfl rfl ?_
  refine z_goto (tgt := 11) d_M_hungriest_92 rfl ?_
  refine z_mask [true, true, true, true, true, false] ?_
  exact hr11 _ _ _ _ _
def f_M_hungriest_11 : Nat → Int → Int → Int → Int → qMem → Option (Int × qMem)
  | 0, _, _, _, _, _ => none
  | n + 1, x1, x2, x3, x4, w =>
    (f_M_nodes w).bind fun q1 =>
    if x4 < q1.1 then
    qld q1.2 89 5898 (w32 ((w32 (5370 + (w32 (4 * x4)))) + x2)) fun v3 =>
    (f_M_ringFor x4 x2 q1.2).bind fun q4 =>
    if q4.1 = x1 then
    qld q4.2 89 5898 5 fun v6 =>
    if v3 < v6 then
    (f_M_hungriest_11 n) x1 x2 x3 (w32 (x4 + 1)) q4.2
    else
    if x3 = (-1) then
    f_M_hungriest_86 (f_M_hungriest_11 n) x1 x2 x4 q4.2
    else
    qld q4.2 89 5898 (w32 ((w32 (5370 + (w32 (4 * x3)))) + x2)) fun v9 =>
    if v3 ≤ v9 then
    (f_M_hungriest_11 n) x1 x2 x3 (w32 (x4 + 1)) q4.2
    else
    f_M_hungriest_86 (f_M_hungriest_11 n) x1 x2 x4 q4.2
    else
    (f_M_hungriest_11 n) x1 x2 x3 (w32 (x4 + 1)) q4.2
    else
    some (x3, q1.2)
set_option maxRecDepth 4000 in
theorem s_M_hungriest_11  : ∀ (n : Nat), ∀ (x1 x2 x3 x4 : Int) (w : qMem), qSim κI 100 100 m_M_hungriest 11 [] [some (qR 88), some (qI x1), some (qI x2), some (qI x3), some (qI x4), none] w (f_M_hungriest_11 n x1 x2 x3 x4 w) := by
  intro n
  induction n with
  | zero => intro x1 x2 x3 x4 w; exact z_none
  | succ n ih =>
    intro x1 x2 x3 x4 w
    rw [f_M_hungriest_11]
    refine z_iload d_M_hungriest_11 rfl ?_
    refine z_aload_n d_M_hungriest_13 rfl ?_
    refine z_cVI (as := []) (st := [qI x4]) (nl := 0) (ci := 10) d_M_hungriest_14 lk_M_72 mk_M_nodes rfl rfl rfl rfl rfl rfl (s_M_nodes _) (fun q1 _ hq1 => ?_)
    refine z_icmp_ge (tgt := 95) d_M_hungriest_17 rfl (fun c2 => ?_) (fun c2 => ?_)
    · refine z_aload_n d_M_hungriest_20 rfl ?_
      refine z_gr (ci := 10) (j := 0) (d := 1) (o2 := 89) d_M_hungriest_21 rfl fl_M_7 rfl (Nat.le_of_ble_eq_true rfl) rfl rfl ?_
      refine z_sipush d_M_hungriest_24 ⟨by decide, by decide⟩ ?_
      refine z_ic4 d_M_hungriest_27 ?_
      refine z_iload d_M_hungriest_28 rfl ?_
      refine z_imul d_M_hungriest_30 ?_
      refine z_iadd d_M_hungriest_31 ?_
      refine z_iload_n d_M_hungriest_32 rfl ?_
      refine z_iadd d_M_hungriest_33 ?_
      refine z_il d_M_hungriest_34 rfl rfl (fun v3 => ?_)
      refine z_istore (pls' := [some (qR 88), some (qI x1), some (qI x2), some (qI x3), some (qI x4), some (qI v3)]) d_M_hungriest_35 (by decide) rfl rfl ?_
      refine z_aload_n d_M_hungriest_37 rfl ?_
      refine z_iload d_M_hungriest_38 rfl ?_
      refine z_iload_n d_M_hungriest_40 rfl ?_
      refine z_cVI (as := [qI x4, qI x2]) (st := []) (nl := 0) (ci := 10) d_M_hungriest_41 lk_M_102 mk_M_ringFor rfl rfl rfl rfl rfl rfl (s_M_ringFor _ _ _) (fun q4 _ hq4 => ?_)
      refine z_iload_n d_M_hungriest_44 rfl ?_
      refine z_icmp_ne (tgt := 89) d_M_hungriest_45 rfl (fun c5 => ?_) (fun c5 => ?_)
      · refine z_iload d_M_hungriest_48 rfl ?_
        refine z_aload_n d_M_hungriest_50 rfl ?_
        refine z_gr (ci := 10) (j := 0) (d := 1) (o2 := 89) d_M_hungriest_51 rfl fl_M_7 rfl (Nat.le_of_ble_eq_true rfl) rfl rfl ?_
        refine z_ic5 d_M_hungriest_54 ?_
        refine z_il d_M_hungriest_55 rfl rfl (fun v6 => ?_)
        refine z_icmp_ge (tgt := 62) d_M_hungriest_56 rfl (fun c7 => ?_) (fun c7 => ?_)
        · refine z_goto (tgt := 89) d_M_hungriest_59 rfl ?_
          refine z_iinc (pls' := [some (qR 88), some (qI x1), some (qI x2), some (qI x3), some (qI (w32 (x4 + 1))), some (qI v3)]) d_M_hungriest_89 (by decide) rfl rfl rfl ?_
          refine z_goto (tgt := 11) d_M_hungriest_92 rfl ?_
          refine z_mask [true, true, true, true, true, false] ?_
          exact ih _ _ _ _ _
        · refine z_iload_n d_M_hungriest_62 rfl ?_
          refine z_icm1 d_M_hungriest_63 ?_
          refine z_icmp_eq (tgt := 86) d_M_hungriest_64 rfl (fun c8 => ?_) (fun c8 => ?_)
          · refine z_mask [true, true, true, false, true, false] ?_
            exact s_M_hungriest_86 ih _ _ _ _
          · refine z_iload d_M_hungriest_67 rfl ?_
            refine z_aload_n d_M_hungriest_69 rfl ?_
            refine z_gr (ci := 10) (j := 0) (d := 1) (o2 := 89) d_M_hungriest_70 rfl fl_M_7 rfl (Nat.le_of_ble_eq_true rfl) rfl rfl ?_
            refine z_sipush d_M_hungriest_73 ⟨by decide, by decide⟩ ?_
            refine z_ic4 d_M_hungriest_76 ?_
            refine z_iload_n d_M_hungriest_77 rfl ?_
            refine z_imul d_M_hungriest_78 ?_
            refine z_iadd d_M_hungriest_79 ?_
            refine z_iload_n d_M_hungriest_80 rfl ?_
            refine z_iadd d_M_hungriest_81 ?_
            refine z_il d_M_hungriest_82 rfl rfl (fun v9 => ?_)
            refine z_icmp_le (tgt := 89) d_M_hungriest_83 rfl (fun c10 => ?_) (fun c10 => ?_)
            · refine z_iinc (pls' := [some (qR 88), some (qI x1), some (qI x2), some (qI x3), some (qI (w32 (x4 + 1))), some (qI v3)]) d_M_hungriest_89 (by decide) rfl rfl rfl ?_
              refine z_goto (tgt := 11) d_M_hungriest_92 rfl ?_
              refine z_mask [true, true, true, true, true, false] ?_
              exact ih _ _ _ _ _
            · refine z_mask [true, true, true, false, true, false] ?_
              exact s_M_hungriest_86 ih _ _ _ _
      · refine z_iinc (pls' := [some (qR 88), some (qI x1), some (qI x2), some (qI x3), some (qI (w32 (x4 + 1))), some (qI v3)]) d_M_hungriest_89 (by decide) rfl rfl rfl ?_
        refine z_goto (tgt := 11) d_M_hungriest_92 rfl ?_
        refine z_mask [true, true, true, true, true, false] ?_
        exact ih _ _ _ _ _
    · refine z_iload_n d_M_hungriest_95 rfl ?_
      exact z_iret d_M_hungriest_96 rfl rfl
def f_M_hungriest (x1 : Int) (w : qMem) : Option (Int × qMem) :=
  (f_M_directionOf x1 w).bind fun q11 =>
  f_M_hungriest_11 qFU x1 q11.1 (-1) 0 q11.2
set_option maxRecDepth 4000 in
theorem s_M_hungriest (x1 : Int) (w : qMem) : qSim κI 100 100 m_M_hungriest 0 [] [some (qR 88), some (qI x1), none, none, none, none] w (f_M_hungriest x1 w) := by
  unfold f_M_hungriest
  refine z_aload_n d_M_hungriest_0 rfl ?_
  refine z_iload_n d_M_hungriest_1 rfl ?_
  refine z_cVI (as := [qI x1]) (st := []) (nl := 0) (ci := 10) d_M_hungriest_2 lk_M_89 mk_M_directionOf rfl rfl rfl rfl rfl rfl (s_M_directionOf _ _) (fun q11 _ hq11 => ?_)
  refine z_istore_n (pls' := [some (qR 88), some (qI x1), some (qI q11.1), none, none, none]) d_M_hungriest_5 (by decide) rfl rfl ?_
  refine z_icm1 d_M_hungriest_6 ?_
  refine z_istore_n (pls' := [some (qR 88), some (qI x1), some (qI q11.1), some (qI (-1)), none, none]) d_M_hungriest_7 (by decide) rfl rfl ?_
  refine z_ic0 d_M_hungriest_8 ?_
  refine z_istore (pls' := [some (qR 88), some (qI x1), some (qI q11.1), some (qI (-1)), some (qI 0), none]) d_M_hungriest_9 (by decide) rfl rfl ?_
  refine z_mask [true, true, true, true, true, false] ?_
  exact s_M_hungriest_11 _ _ _ _ _ _
/-! BubbleTorusModel.marks -/
theorem d_M_marks_0 : decode m_M_marks.2.1 0 = .ok (.iload_n 1, 1) := by decide +kernel
theorem d_M_marks_1 : decode m_M_marks.2.1 1 = .ok (.invokestatic 58, 3) := by decide +kernel
theorem d_M_marks_4 : decode m_M_marks.2.1 4 = .ok (.istore_n 2, 1) := by decide +kernel
theorem d_M_marks_5 : decode m_M_marks.2.1 5 = .ok (.aload_n 0, 1) := by decide +kernel
theorem d_M_marks_6 : decode m_M_marks.2.1 6 = .ok (.iload_n 1, 1) := by decide +kernel
theorem d_M_marks_7 : decode m_M_marks.2.1 7 = .ok (.invokevirtual 89, 3) := by decide +kernel
theorem d_M_marks_10 : decode m_M_marks.2.1 10 = .ok (.istore_n 3, 1) := by decide +kernel
theorem d_M_marks_11 : decode m_M_marks.2.1 11 = .ok (.aload_n 0, 1) := by decide +kernel
theorem d_M_marks_12 : decode m_M_marks.2.1 12 = .ok (.getfield 7, 3) := by decide +kernel
theorem d_M_marks_15 : decode m_M_marks.2.1 15 = .ok (.iload_n 2, 1) := by decide +kernel
theorem d_M_marks_16 : decode m_M_marks.2.1 16 = .ok (.iconst 1, 1) := by decide +kernel
theorem d_M_marks_17 : decode m_M_marks.2.1 17 = .ok (.iadd, 1) := by decide +kernel
theorem d_M_marks_18 : decode m_M_marks.2.1 18 = .ok (.iaload, 1) := by decide +kernel
theorem d_M_marks_19 : decode m_M_marks.2.1 19 = .ok (.istore 4, 2) := by decide +kernel
theorem d_M_marks_21 : decode m_M_marks.2.1 21 = .ok (.iload 4, 2) := by decide +kernel
theorem d_M_marks_23 : decode m_M_marks.2.1 23 = .ok (.iconst (-1), 1) := by decide +kernel
theorem d_M_marks_24 : decode m_M_marks.2.1 24 = .ok (.if_icmp .eq 48, 3) := by decide +kernel
theorem d_M_marks_27 : decode m_M_marks.2.1 27 = .ok (.aload_n 0, 1) := by decide +kernel
theorem d_M_marks_28 : decode m_M_marks.2.1 28 = .ok (.getfield 7, 3) := by decide +kernel
theorem d_M_marks_31 : decode m_M_marks.2.1 31 = .ok (.sipush 5370, 3) := by decide +kernel
theorem d_M_marks_34 : decode m_M_marks.2.1 34 = .ok (.iconst 4, 1) := by decide +kernel
theorem d_M_marks_35 : decode m_M_marks.2.1 35 = .ok (.iload 4, 2) := by decide +kernel
theorem d_M_marks_37 : decode m_M_marks.2.1 37 = .ok (.imul, 1) := by decide +kernel
theorem d_M_marks_38 : decode m_M_marks.2.1 38 = .ok (.iadd, 1) := by decide +kernel
theorem d_M_marks_39 : decode m_M_marks.2.1 39 = .ok (.iload_n 3, 1) := by decide +kernel
theorem d_M_marks_40 : decode m_M_marks.2.1 40 = .ok (.iadd, 1) := by decide +kernel
theorem d_M_marks_41 : decode m_M_marks.2.1 41 = .ok (.iaload, 1) := by decide +kernel
theorem d_M_marks_42 : decode m_M_marks.2.1 42 = .ok (.ifCond .ne 30, 3) := by decide +kernel
theorem d_M_marks_45 : decode m_M_marks.2.1 45 = .ok (.aload_n 0, 1) := by decide +kernel
theorem d_M_marks_46 : decode m_M_marks.2.1 46 = .ok (.getfield 7, 3) := by decide +kernel
theorem d_M_marks_49 : decode m_M_marks.2.1 49 = .ok (.iload_n 2, 1) := by decide +kernel
theorem d_M_marks_50 : decode m_M_marks.2.1 50 = .ok (.iconst 1, 1) := by decide +kernel
theorem d_M_marks_51 : decode m_M_marks.2.1 51 = .ok (.iadd, 1) := by decide +kernel
theorem d_M_marks_52 : decode m_M_marks.2.1 52 = .ok (.iconst (-1), 1) := by decide +kernel
theorem d_M_marks_53 : decode m_M_marks.2.1 53 = .ok (.iastore, 1) := by decide +kernel
theorem d_M_marks_54 : decode m_M_marks.2.1 54 = .ok (.aload_n 0, 1) := by decide +kernel
theorem d_M_marks_55 : decode m_M_marks.2.1 55 = .ok (.getfield 7, 3) := by decide +kernel
theorem d_M_marks_58 : decode m_M_marks.2.1 58 = .ok (.iload_n 2, 1) := by decide +kernel
theorem d_M_marks_59 : decode m_M_marks.2.1 59 = .ok (.iconst 2, 1) := by decide +kernel
theorem d_M_marks_60 : decode m_M_marks.2.1 60 = .ok (.iadd, 1) := by decide +kernel
theorem d_M_marks_61 : decode m_M_marks.2.1 61 = .ok (.iconst (-1), 1) := by decide +kernel
theorem d_M_marks_62 : decode m_M_marks.2.1 62 = .ok (.iastore, 1) := by decide +kernel
theorem d_M_marks_63 : decode m_M_marks.2.1 63 = .ok (.aload_n 0, 1) := by decide +kernel
theorem d_M_marks_64 : decode m_M_marks.2.1 64 = .ok (.getfield 7, 3) := by decide +kernel
theorem d_M_marks_67 : decode m_M_marks.2.1 67 = .ok (.iload_n 2, 1) := by decide +kernel
theorem d_M_marks_68 : decode m_M_marks.2.1 68 = .ok (.iconst 3, 1) := by decide +kernel
theorem d_M_marks_69 : decode m_M_marks.2.1 69 = .ok (.iadd, 1) := by decide +kernel
theorem d_M_marks_70 : decode m_M_marks.2.1 70 = .ok (.iconst 0, 1) := by decide +kernel
theorem d_M_marks_71 : decode m_M_marks.2.1 71 = .ok (.iastore, 1) := by decide +kernel
theorem d_M_marks_72 : decode m_M_marks.2.1 72 = .ok (.aload_n 0, 1) := by decide +kernel
theorem d_M_marks_73 : decode m_M_marks.2.1 73 = .ok (.getfield 7, 3) := by decide +kernel
theorem d_M_marks_76 : decode m_M_marks.2.1 76 = .ok (.iload_n 2, 1) := by decide +kernel
theorem d_M_marks_77 : decode m_M_marks.2.1 77 = .ok (.iconst 1, 1) := by decide +kernel
theorem d_M_marks_78 : decode m_M_marks.2.1 78 = .ok (.iadd, 1) := by decide +kernel
theorem d_M_marks_79 : decode m_M_marks.2.1 79 = .ok (.iaload, 1) := by decide +kernel
theorem d_M_marks_80 : decode m_M_marks.2.1 80 = .ok (.iconst (-1), 1) := by decide +kernel
theorem d_M_marks_81 : decode m_M_marks.2.1 81 = .ok (.if_icmp .eq 59, 3) := by decide +kernel
theorem d_M_marks_84 : decode m_M_marks.2.1 84 = .ok (.aload_n 0, 1) := by decide +kernel
theorem d_M_marks_85 : decode m_M_marks.2.1 85 = .ok (.getfield 7, 3) := by decide +kernel
theorem d_M_marks_88 : decode m_M_marks.2.1 88 = .ok (.iload_n 2, 1) := by decide +kernel
theorem d_M_marks_89 : decode m_M_marks.2.1 89 = .ok (.iconst 2, 1) := by decide +kernel
theorem d_M_marks_90 : decode m_M_marks.2.1 90 = .ok (.iadd, 1) := by decide +kernel
theorem d_M_marks_91 : decode m_M_marks.2.1 91 = .ok (.aload_n 0, 1) := by decide +kernel
theorem d_M_marks_92 : decode m_M_marks.2.1 92 = .ok (.aload_n 0, 1) := by decide +kernel
theorem d_M_marks_93 : decode m_M_marks.2.1 93 = .ok (.getfield 7, 3) := by decide +kernel
theorem d_M_marks_96 : decode m_M_marks.2.1 96 = .ok (.iload_n 2, 1) := by decide +kernel
theorem d_M_marks_97 : decode m_M_marks.2.1 97 = .ok (.iconst 2, 1) := by decide +kernel
theorem d_M_marks_98 : decode m_M_marks.2.1 98 = .ok (.iadd, 1) := by decide +kernel
theorem d_M_marks_99 : decode m_M_marks.2.1 99 = .ok (.iaload, 1) := by decide +kernel
theorem d_M_marks_100 : decode m_M_marks.2.1 100 = .ok (.iload_n 3, 1) := by decide +kernel
theorem d_M_marks_101 : decode m_M_marks.2.1 101 = .ok (.invokevirtual 79, 3) := by decide +kernel
theorem d_M_marks_104 : decode m_M_marks.2.1 104 = .ok (.iastore, 1) := by decide +kernel
theorem d_M_marks_105 : decode m_M_marks.2.1 105 = .ok (.aload_n 0, 1) := by decide +kernel
theorem d_M_marks_106 : decode m_M_marks.2.1 106 = .ok (.getfield 7, 3) := by decide +kernel
theorem d_M_marks_109 : decode m_M_marks.2.1 109 = .ok (.iload_n 2, 1) := by decide +kernel
theorem d_M_marks_110 : decode m_M_marks.2.1 110 = .ok (.iconst 2, 1) := by decide +kernel
theorem d_M_marks_111 : decode m_M_marks.2.1 111 = .ok (.iadd, 1) := by decide +kernel
theorem d_M_marks_112 : decode m_M_marks.2.1 112 = .ok (.iaload, 1) := by decide +kernel
theorem d_M_marks_113 : decode m_M_marks.2.1 113 = .ok (.iload 4, 2) := by decide +kernel
theorem d_M_marks_115 : decode m_M_marks.2.1 115 = .ok (.if_icmp .eq 24, 3) := by decide +kernel
theorem d_M_marks_118 : decode m_M_marks.2.1 118 = .ok (.aload_n 0, 1) := by decide +kernel
theorem d_M_marks_119 : decode m_M_marks.2.1 119 = .ok (.getfield 7, 3) := by decide +kernel
theorem d_M_marks_122 : decode m_M_marks.2.1 122 = .ok (.iload_n 2, 1) := by decide +kernel
theorem d_M_marks_123 : decode m_M_marks.2.1 123 = .ok (.iconst 3, 1) := by decide +kernel
theorem d_M_marks_124 : decode m_M_marks.2.1 124 = .ok (.iadd, 1) := by decide +kernel
theorem d_M_marks_125 : decode m_M_marks.2.1 125 = .ok (.dup2, 1) := by decide +kernel
theorem d_M_marks_126 : decode m_M_marks.2.1 126 = .ok (.iaload, 1) := by decide +kernel
theorem d_M_marks_127 : decode m_M_marks.2.1 127 = .ok (.iconst 1, 1) := by decide +kernel
theorem d_M_marks_128 : decode m_M_marks.2.1 128 = .ok (.aload_n 0, 1) := by decide +kernel
theorem d_M_marks_129 : decode m_M_marks.2.1 129 = .ok (.getfield 7, 3) := by decide +kernel
theorem d_M_marks_132 : decode m_M_marks.2.1 132 = .ok (.iload_n 2, 1) := by decide +kernel
theorem d_M_marks_133 : decode m_M_marks.2.1 133 = .ok (.iconst 2, 1) := by decide +kernel
theorem d_M_marks_134 : decode m_M_marks.2.1 134 = .ok (.iadd, 1) := by decide +kernel
theorem d_M_marks_135 : decode m_M_marks.2.1 135 = .ok (.iaload, 1) := by decide +kernel
theorem d_M_marks_136 : decode m_M_marks.2.1 136 = .ok (.ishl, 1) := by decide +kernel
theorem d_M_marks_137 : decode m_M_marks.2.1 137 = .ok (.ior, 1) := by decide +kernel
theorem d_M_marks_138 : decode m_M_marks.2.1 138 = .ok (.iastore, 1) := by decide +kernel
theorem d_M_marks_139 : decode m_M_marks.2.1 139 = .ok (.return_, 1) := by decide +kernel
theorem d_M_marks_140 : decode m_M_marks.2.1 140 = .ok (.aload_n 0, 1) := by decide +kernel
theorem d_M_marks_141 : decode m_M_marks.2.1 141 = .ok (.iload_n 1, 1) := by decide +kernel
theorem d_M_marks_142 : decode m_M_marks.2.1 142 = .ok (.invokevirtual 193, 3) := by decide +kernel
theorem d_M_marks_145 : decode m_M_marks.2.1 145 = .ok (.istore 5, 2) := by decide +kernel
theorem d_M_marks_147 : decode m_M_marks.2.1 147 = .ok (.iload 5, 2) := by decide +kernel
theorem d_M_marks_149 : decode m_M_marks.2.1 149 = .ok (.iconst (-1), 1) := by decide +kernel
theorem d_M_marks_150 : decode m_M_marks.2.1 150 = .ok (.if_icmp .ne 4, 3) := by decide +kernel
theorem d_M_marks_153 : decode m_M_marks.2.1 153 = .ok (.return_, 1) := by decide +kernel
theorem d_M_marks_154 : decode m_M_marks.2.1 154 = .ok (.aload_n 0, 1) := by decide +kernel
theorem d_M_marks_155 : decode m_M_marks.2.1 155 = .ok (.getfield 7, 3) := by decide +kernel
theorem d_M_marks_158 : decode m_M_marks.2.1 158 = .ok (.iload_n 2, 1) := by decide +kernel
theorem d_M_marks_159 : decode m_M_marks.2.1 159 = .ok (.iconst 1, 1) := by decide +kernel
theorem d_M_marks_160 : decode m_M_marks.2.1 160 = .ok (.iadd, 1) := by decide +kernel
theorem d_M_marks_161 : decode m_M_marks.2.1 161 = .ok (.iload 5, 2) := by decide +kernel
theorem d_M_marks_163 : decode m_M_marks.2.1 163 = .ok (.iastore, 1) := by decide +kernel
theorem d_M_marks_164 : decode m_M_marks.2.1 164 = .ok (.aload_n 0, 1) := by decide +kernel
theorem d_M_marks_165 : decode m_M_marks.2.1 165 = .ok (.getfield 7, 3) := by decide +kernel
theorem d_M_marks_168 : decode m_M_marks.2.1 168 = .ok (.iload_n 2, 1) := by decide +kernel
theorem d_M_marks_169 : decode m_M_marks.2.1 169 = .ok (.iconst 2, 1) := by decide +kernel
theorem d_M_marks_170 : decode m_M_marks.2.1 170 = .ok (.iadd, 1) := by decide +kernel
theorem d_M_marks_171 : decode m_M_marks.2.1 171 = .ok (.iload 5, 2) := by decide +kernel
theorem d_M_marks_173 : decode m_M_marks.2.1 173 = .ok (.iastore, 1) := by decide +kernel
theorem d_M_marks_174 : decode m_M_marks.2.1 174 = .ok (.aload_n 0, 1) := by decide +kernel
theorem d_M_marks_175 : decode m_M_marks.2.1 175 = .ok (.getfield 7, 3) := by decide +kernel
theorem d_M_marks_178 : decode m_M_marks.2.1 178 = .ok (.bipush 12, 2) := by decide +kernel
theorem d_M_marks_180 : decode m_M_marks.2.1 180 = .ok (.dup2, 1) := by decide +kernel
theorem d_M_marks_181 : decode m_M_marks.2.1 181 = .ok (.iaload, 1) := by decide +kernel
theorem d_M_marks_182 : decode m_M_marks.2.1 182 = .ok (.iconst 1, 1) := by decide +kernel
theorem d_M_marks_183 : decode m_M_marks.2.1 183 = .ok (.iadd, 1) := by decide +kernel
theorem d_M_marks_184 : decode m_M_marks.2.1 184 = .ok (.iastore, 1) := by decide +kernel
theorem d_M_marks_185 : decode m_M_marks.2.1 185 = .ok (.return_, 1) := by decide +kernel
def f_M_marks_72 (x1 x2 x3 x4 : Int) (w : qMem) : Option (qMem) :=
  qld w 89 5898 (w32 (x2 + 1)) fun v1 =>
  if v1 = (-1) then
  (f_M_hungriest x1 w).bind fun q3 =>
  if q3.1 = (-1) then
  some q3.2
  else
  qst q3.2 89 5898 (w32 (x2 + 1)) q3.1 fun w5 =>
  qst w5 89 5898 (w32 (x2 + 2)) q3.1 fun w6 =>
  qld w6 89 5898 12 fun v7 =>
  qst w6 89 5898 12 (w32 (v7 + 1)) fun w8 =>
  some w8
  else
  qld w 89 5898 (w32 (x2 + 2)) fun v9 =>
  (f_M_nextOf v9 x3 w).bind fun q10 =>
  qst q10.2 89 5898 (w32 (x2 + 2)) q10.1 fun w11 =>
  qld w11 89 5898 (w32 (x2 + 2)) fun v12 =>
  if v12 = x4 then
  some w11
  else
  qld w11 89 5898 (w32 (x2 + 3)) fun v14 =>
  qld w11 89 5898 (w32 (x2 + 2)) fun v15 =>
  qst w11 89 5898 (w32 (x2 + 3)) (jor v14 (jshl 1 v15)) fun w16 =>
  some w16
set_option maxRecDepth 4000 in
theorem s_M_marks_72  : ∀ (x1 x2 x3 x4 : Int) (w : qMem), qSim κV 100 100 m_M_marks 72 [] [some (qR 88), some (qI x1), some (qI x2), some (qI x3), some (qI x4), none] w (f_M_marks_72 x1 x2 x3 x4 w) := by
  intro x1 x2 x3 x4 w
  unfold f_M_marks_72
  refine z_aload_n d_M_marks_72 rfl ?_
  refine z_gr (ci := 10) (j := 0) (d := 1) (o2 := 89) d_M_marks_73 rfl fl_M_7 rfl (Nat.le_of_ble_eq_true rfl) rfl rfl ?_
  refine z_iload_n d_M_marks_76 rfl ?_
  refine z_ic1 d_M_marks_77 ?_
  refine z_iadd d_M_marks_78 ?_
  refine z_il d_M_marks_79 rfl rfl (fun v1 => ?_)
  refine z_icm1 d_M_marks_80 ?_
  refine z_icmp_eq (tgt := 140) d_M_marks_81 rfl (fun c2 => ?_) (fun c2 => ?_)
  · refine z_aload_n d_M_marks_140 rfl ?_
    refine z_iload_n d_M_marks_141 rfl ?_
    refine z_cVI (as := [qI x1]) (st := []) (nl := 4) (ci := 10) d_M_marks_142 lk_M_193 mk_M_hungriest rfl rfl rfl rfl rfl rfl (s_M_hungriest _ _) (fun q3 _ hq3 => ?_)
    refine z_istore (pls' := [some (qR 88), some (qI x1), some (qI x2), some (qI x3), some (qI x4), some (qI q3.1)]) d_M_marks_145 (by decide) rfl rfl ?_
    refine z_iload d_M_marks_147 rfl ?_
    refine z_icm1 d_M_marks_149 ?_
    refine z_icmp_ne (tgt := 154) d_M_marks_150 rfl (fun c4 => ?_) (fun c4 => ?_)
    · exact z_vret d_M_marks_153 rfl rfl
    · refine z_aload_n d_M_marks_154 rfl ?_
      refine z_gr (ci := 10) (j := 0) (d := 1) (o2 := 89) d_M_marks_155 rfl fl_M_7 rfl (Nat.le_of_ble_eq_true rfl) rfl rfl ?_
      refine z_iload_n d_M_marks_158 rfl ?_
      refine z_ic1 d_M_marks_159 ?_
      refine z_iadd d_M_marks_160 ?_
      refine z_iload d_M_marks_161 rfl ?_
      refine z_is d_M_marks_163 rfl rfl (fun w5 => ?_)
      refine z_aload_n d_M_marks_164 rfl ?_
      refine z_gr (ci := 10) (j := 0) (d := 1) (o2 := 89) d_M_marks_165 rfl fl_M_7 rfl (Nat.le_of_ble_eq_true rfl) rfl rfl ?_
      refine z_iload_n d_M_marks_168 rfl ?_
      refine z_ic2 d_M_marks_169 ?_
      refine z_iadd d_M_marks_170 ?_
      refine z_iload d_M_marks_171 rfl ?_
      refine z_is d_M_marks_173 rfl rfl (fun w6 => ?_)
      refine z_aload_n d_M_marks_174 rfl ?_
      refine z_gr (ci := 10) (j := 0) (d := 1) (o2 := 89) d_M_marks_175 rfl fl_M_7 rfl (Nat.le_of_ble_eq_true rfl) rfl rfl ?_
      refine z_bipush d_M_marks_178 ⟨by decide, by decide⟩ ?_
      refine z_dup2 d_M_marks_180 rfl rfl ?_
      refine z_il d_M_marks_181 rfl rfl (fun v7 => ?_)
      refine z_ic1 d_M_marks_182 ?_
      refine z_iadd d_M_marks_183 ?_
      refine z_is d_M_marks_184 rfl rfl (fun w8 => ?_)
      exact z_vret d_M_marks_185 rfl rfl
  · refine z_aload_n d_M_marks_84 rfl ?_
    refine z_gr (ci := 10) (j := 0) (d := 1) (o2 := 89) d_M_marks_85 rfl fl_M_7 rfl (Nat.le_of_ble_eq_true rfl) rfl rfl ?_
    refine z_iload_n d_M_marks_88 rfl ?_
    refine z_ic2 d_M_marks_89 ?_
    refine z_iadd d_M_marks_90 ?_
    refine z_aload_n d_M_marks_91 rfl ?_
    refine z_aload_n d_M_marks_92 rfl ?_
    refine z_gr (ci := 10) (j := 0) (d := 1) (o2 := 89) d_M_marks_93 rfl fl_M_7 rfl (Nat.le_of_ble_eq_true rfl) rfl rfl ?_
    refine z_iload_n d_M_marks_96 rfl ?_
    refine z_ic2 d_M_marks_97 ?_
    refine z_iadd d_M_marks_98 ?_
    refine z_il d_M_marks_99 rfl rfl (fun v9 => ?_)
    refine z_iload_n d_M_marks_100 rfl ?_
    refine z_cVI (as := [qI v9, qI x3]) (st := [qI (w32 (x2 + 2)), qR 89]) (nl := 2) (ci := 10) d_M_marks_101 lk_M_79 mk_M_nextOf rfl rfl rfl rfl rfl rfl (s_M_nextOf _ _ _) (fun q10 _ hq10 => ?_)
    refine z_is d_M_marks_104 rfl rfl (fun w11 => ?_)
    refine z_aload_n d_M_marks_105 rfl ?_
    refine z_gr (ci := 10) (j := 0) (d := 1) (o2 := 89) d_M_marks_106 rfl fl_M_7 rfl (Nat.le_of_ble_eq_true rfl) rfl rfl ?_
    refine z_iload_n d_M_marks_109 rfl ?_
    refine z_ic2 d_M_marks_110 ?_
    refine z_iadd d_M_marks_111 ?_
    refine z_il d_M_marks_112 rfl rfl (fun v12 => ?_)
    refine z_iload d_M_marks_113 rfl ?_
    refine z_icmp_eq (tgt := 139) d_M_marks_115 rfl (fun c13 => ?_) (fun c13 => ?_)
    · exact z_vret d_M_marks_139 rfl rfl
    · refine z_aload_n d_M_marks_118 rfl ?_
      refine z_gr (ci := 10) (j := 0) (d := 1) (o2 := 89) d_M_marks_119 rfl fl_M_7 rfl (Nat.le_of_ble_eq_true rfl) rfl rfl ?_
      refine z_iload_n d_M_marks_122 rfl ?_
      refine z_ic3 d_M_marks_123 ?_
      refine z_iadd d_M_marks_124 ?_
      refine z_dup2 d_M_marks_125 rfl rfl ?_
      refine z_il d_M_marks_126 rfl rfl (fun v14 => ?_)
      refine z_ic1 d_M_marks_127 ?_
      refine z_aload_n d_M_marks_128 rfl ?_
      refine z_gr (ci := 10) (j := 0) (d := 1) (o2 := 89) d_M_marks_129 rfl fl_M_7 rfl (Nat.le_of_ble_eq_true rfl) rfl rfl ?_
      refine z_iload_n d_M_marks_132 rfl ?_
      refine z_ic2 d_M_marks_133 ?_
      refine z_iadd d_M_marks_134 ?_
      refine z_il d_M_marks_135 rfl rfl (fun v15 => ?_)
      refine z_ishl d_M_marks_136 ?_
      refine z_ior d_M_marks_137 ?_
      refine z_is d_M_marks_138 rfl rfl (fun w16 => ?_)
      exact z_vret d_M_marks_139 rfl rfl
def f_M_marks (x1 : Int) (w : qMem) : Option (qMem) :=
  (f_M_ringAt x1 w).bind fun q17 =>
  (f_M_directionOf x1 q17.2).bind fun q18 =>
  qld q18.2 89 5898 (w32 (q17.1 + 1)) fun v19 =>
  if v19 = (-1) then
  f_M_marks_72 x1 q17.1 q18.1 v19 q18.2
  else
  qld q18.2 89 5898 (w32 ((w32 (5370 + (w32 (4 * v19)))) + q18.1)) fun v21 =>
  if v21 = 0 then
  qst q18.2 89 5898 (w32 (q17.1 + 1)) (-1) fun w23 =>
  qst w23 89 5898 (w32 (q17.1 + 2)) (-1) fun w24 =>
  qst w24 89 5898 (w32 (q17.1 + 3)) 0 fun w25 =>
  f_M_marks_72 x1 q17.1 q18.1 v19 w25
  else
  f_M_marks_72 x1 q17.1 q18.1 v19 q18.2
set_option maxRecDepth 4000 in
theorem s_M_marks (x1 : Int) (w : qMem) : qSim κV 100 100 m_M_marks 0 [] [some (qR 88), some (qI x1), none, none, none, none] w (f_M_marks x1 w) := by
  unfold f_M_marks
  refine z_iload_n d_M_marks_0 rfl ?_
  refine z_cSI (av := [qI x1]) (st := []) (nl := 0) d_M_marks_1 lk_M_58 mk_M_ringAt rfl rfl rfl (s_M_ringAt _ _) (fun q17 _ hq17 => ?_)
  refine z_istore_n (pls' := [some (qR 88), some (qI x1), some (qI q17.1), none, none, none]) d_M_marks_4 (by decide) rfl rfl ?_
  refine z_aload_n d_M_marks_5 rfl ?_
  refine z_iload_n d_M_marks_6 rfl ?_
  refine z_cVI (as := [qI x1]) (st := []) (nl := 0) (ci := 10) d_M_marks_7 lk_M_89 mk_M_directionOf rfl rfl rfl rfl rfl rfl (s_M_directionOf _ _) (fun q18 _ hq18 => ?_)
  refine z_istore_n (pls' := [some (qR 88), some (qI x1), some (qI q17.1), some (qI q18.1), none, none]) d_M_marks_10 (by decide) rfl rfl ?_
  refine z_aload_n d_M_marks_11 rfl ?_
  refine z_gr (ci := 10) (j := 0) (d := 1) (o2 := 89) d_M_marks_12 rfl fl_M_7 rfl (Nat.le_of_ble_eq_true rfl) rfl rfl ?_
  refine z_iload_n d_M_marks_15 rfl ?_
  refine z_ic1 d_M_marks_16 ?_
  refine z_iadd d_M_marks_17 ?_
  refine z_il d_M_marks_18 rfl rfl (fun v19 => ?_)
  refine z_istore (pls' := [some (qR 88), some (qI x1), some (qI q17.1), some (qI q18.1), some (qI v19), none]) d_M_marks_19 (by decide) rfl rfl ?_
  refine z_iload d_M_marks_21 rfl ?_
  refine z_icm1 d_M_marks_23 ?_
  refine z_icmp_eq (tgt := 72) d_M_marks_24 rfl (fun c20 => ?_) (fun c20 => ?_)
  · refine z_mask [true, true, true, true, true, false] ?_
    exact s_M_marks_72 _ _ _ _ _
  · refine z_aload_n d_M_marks_27 rfl ?_
    refine z_gr (ci := 10) (j := 0) (d := 1) (o2 := 89) d_M_marks_28 rfl fl_M_7 rfl (Nat.le_of_ble_eq_true rfl) rfl rfl ?_
    refine z_sipush d_M_marks_31 ⟨by decide, by decide⟩ ?_
    refine z_ic4 d_M_marks_34 ?_
    refine z_iload d_M_marks_35 rfl ?_
    refine z_imul d_M_marks_37 ?_
    refine z_iadd d_M_marks_38 ?_
    refine z_iload_n d_M_marks_39 rfl ?_
    refine z_iadd d_M_marks_40 ?_
    refine z_il d_M_marks_41 rfl rfl (fun v21 => ?_)
    refine z_if_ne (tgt := 72) d_M_marks_42 rfl (fun c22 => ?_) (fun c22 => ?_)
    · refine z_aload_n d_M_marks_45 rfl ?_
      refine z_gr (ci := 10) (j := 0) (d := 1) (o2 := 89) d_M_marks_46 rfl fl_M_7 rfl (Nat.le_of_ble_eq_true rfl) rfl rfl ?_
      refine z_iload_n d_M_marks_49 rfl ?_
      refine z_ic1 d_M_marks_50 ?_
      refine z_iadd d_M_marks_51 ?_
      refine z_icm1 d_M_marks_52 ?_
      refine z_is d_M_marks_53 rfl rfl (fun w23 => ?_)
      refine z_aload_n d_M_marks_54 rfl ?_
      refine z_gr (ci := 10) (j := 0) (d := 1) (o2 := 89) d_M_marks_55 rfl fl_M_7 rfl (Nat.le_of_ble_eq_true rfl) rfl rfl ?_
      refine z_iload_n d_M_marks_58 rfl ?_
      refine z_ic2 d_M_marks_59 ?_
      refine z_iadd d_M_marks_60 ?_
      refine z_icm1 d_M_marks_61 ?_
      refine z_is d_M_marks_62 rfl rfl (fun w24 => ?_)
      refine z_aload_n d_M_marks_63 rfl ?_
      refine z_gr (ci := 10) (j := 0) (d := 1) (o2 := 89) d_M_marks_64 rfl fl_M_7 rfl (Nat.le_of_ble_eq_true rfl) rfl rfl ?_
      refine z_iload_n d_M_marks_67 rfl ?_
      refine z_ic3 d_M_marks_68 ?_
      refine z_iadd d_M_marks_69 ?_
      refine z_ic0 d_M_marks_70 ?_
      refine z_is d_M_marks_71 rfl rfl (fun w25 => ?_)
      refine z_mask [true, true, true, true, true, false] ?_
      exact s_M_marks_72 _ _ _ _ _
    · refine z_mask [true, true, true, true, true, false] ?_
      exact s_M_marks_72 _ _ _ _ _
/-! BubbleTorusModel.freeIn -/
theorem d_M_freeIn_0 : decode m_M_freeIn.2.1 0 = .ok (.aload_n 0, 1) := by decide +kernel
theorem d_M_freeIn_1 : decode m_M_freeIn.2.1 1 = .ok (.iload_n 1, 1) := by decide +kernel
theorem d_M_freeIn_2 : decode m_M_freeIn.2.1 2 = .ok (.invokevirtual 89, 3) := by decide +kernel
theorem d_M_freeIn_5 : decode m_M_freeIn.2.1 5 = .ok (.istore_n 2, 1) := by decide +kernel
theorem d_M_freeIn_6 : decode m_M_freeIn.2.1 6 = .ok (.iconst 0, 1) := by decide +kernel
theorem d_M_freeIn_7 : decode m_M_freeIn.2.1 7 = .ok (.istore_n 3, 1) := by decide +kernel
theorem d_M_freeIn_8 : decode m_M_freeIn.2.1 8 = .ok (.iconst 0, 1) := by decide +kernel
theorem d_M_freeIn_9 : decode m_M_freeIn.2.1 9 = .ok (.istore 4, 2) := by decide +kernel
theorem d_M_freeIn_11 : decode m_M_freeIn.2.1 11 = .ok (.iload 4, 2) := by decide +kernel
theorem d_M_freeIn_13 : decode m_M_freeIn.2.1 13 = .ok (.aload_n 0, 1) := by decide +kernel
theorem d_M_freeIn_14 : decode m_M_freeIn.2.1 14 = .ok (.invokevirtual 72, 3) := by decide +kernel
theorem d_M_freeIn_17 : decode m_M_freeIn.2.1 17 = .ok (.if_icmp .ge 36, 3) := by decide +kernel
theorem d_M_freeIn_20 : decode m_M_freeIn.2.1 20 = .ok (.iload_n 3, 1) := by decide +kernel
theorem d_M_freeIn_21 : decode m_M_freeIn.2.1 21 = .ok (.aload_n 0, 1) := by decide +kernel
theorem d_M_freeIn_22 : decode m_M_freeIn.2.1 22 = .ok (.iload 4, 2) := by decide +kernel
theorem d_M_freeIn_24 : decode m_M_freeIn.2.1 24 = .ok (.iload_n 2, 1) := by decide +kernel
theorem d_M_freeIn_25 : decode m_M_freeIn.2.1 25 = .ok (.invokevirtual 102, 3) := by decide +kernel
theorem d_M_freeIn_28 : decode m_M_freeIn.2.1 28 = .ok (.iload_n 1, 1) := by decide +kernel
theorem d_M_freeIn_29 : decode m_M_freeIn.2.1 29 = .ok (.if_icmp .ne 15, 3) := by decide +kernel
theorem d_M_freeIn_32 : decode m_M_freeIn.2.1 32 = .ok (.aload_n 0, 1) := by decide +kernel
theorem d_M_freeIn_33 : decode m_M_freeIn.2.1 33 = .ok (.iload 4, 2) := by decide +kernel
theorem d_M_freeIn_35 : decode m_M_freeIn.2.1 35 = .ok (.iconst 1, 1) := by decide +kernel
theorem d_M_freeIn_36 : decode m_M_freeIn.2.1 36 = .ok (.iload_n 2, 1) := by decide +kernel
theorem d_M_freeIn_37 : decode m_M_freeIn.2.1 37 = .ok (.iadd, 1) := by decide +kernel
theorem d_M_freeIn_38 : decode m_M_freeIn.2.1 38 = .ok (.invokevirtual 117, 3) := by decide +kernel
theorem d_M_freeIn_41 : decode m_M_freeIn.2.1 41 = .ok (.goto 4, 3) := by decide +kernel
theorem d_M_freeIn_44 : decode m_M_freeIn.2.1 44 = .ok (.iconst 0, 1) := by decide +kernel
theorem d_M_freeIn_45 : decode m_M_freeIn.2.1 45 = .ok (.iadd, 1) := by decide +kernel
theorem d_M_freeIn_46 : decode m_M_freeIn.2.1 46 = .ok (.istore_n 3, 1) := by decide +kernel
theorem d_M_freeIn_47 : decode m_M_freeIn.2.1 47 = .ok (.iinc 4 1, 3) := by decide +kernel
theorem d_M_freeIn_50 : decode m_M_freeIn.2.1 50 = .ok (.goto (-39), 3) := by decide +kernel
theorem d_M_freeIn_53 : decode m_M_freeIn.2.1 53 = .ok (.iload_n 3, 1) := by decide +kernel
theorem d_M_freeIn_54 : decode m_M_freeIn.2.1 54 = .ok (.ireturn, 1) := by decide +kernel
def f_M_freeIn_45 (r11 : Int → Int → Int → Int → qMem → Option (Int × qMem)) (s0 s1 x1 x2 x4 : Int) (w : qMem) : Option (Int × qMem) :=
  r11 x1 x2 (w32 (s0 + s1)) (w32 (x4 + 1)) w
set_option maxRecDepth 4000 in
theorem s_M_freeIn_45  {r11 : Int → Int → Int → Int → qMem → Option (Int × qMem)} (hr11 : ∀ x1 x2 x3 x4 w, qSim κI 100 100 m_M_freeIn 11 [] [some (qR 88), some (qI x1), some (qI x2), some (qI x3), some (qI x4)] w (r11 x1 x2 x3 x4 w)) : ∀ (s0 s1 x1 x2 x4 : Int) (w : qMem), qSim κI 100 100 m_M_freeIn 45 [qI s1, qI s0] [some (qR 88), some (qI x1), some (qI x2), none, some (qI x4)] w (f_M_freeIn_45 r11 s0 s1 x1 x2 x4 w) := by
  intro s0 s1 x1 x2 x4 w
  unfold f_M_freeIn_45
  refine z_iadd d_M_freeIn_45 ?_
  refine z_istore_n (pls' := [some (qR 88), some (qI x1), some (qI x2), some (qI (w32 (s0 + s1))), some (qI x4)]) d_M_freeIn_46 (by decide) rfl rfl ?_
  refine z_iinc (pls' := [some (qR 88), some (qI x1), some (qI x2), some (qI (w32 (s0 + s1))), some (qI (w32 (x4 + 1)))]) d_M_freeIn_47 (by decide) rfl rfl rfl ?_
  refine z_goto (tgt := 11) d_M_freeIn_50 rfl ?_
  refine z_mask [true, true, true, true, true] ?_
  exact hr11 _ _ _ _ _
def f_M_freeIn_11 : Nat → Int → Int → Int → Int → qMem → Option (Int × qMem)
  | 0, _, _, _, _, _ => none
  | n + 1, x1, x2, x3, x4, w =>
    (f_M_nodes w).bind fun q1 =>
    if x4 < q1.1 then
    (f_M_ringFor x4 x2 q1.2).bind fun q3 =>
    if q3.1 = x1 then
    (f_M_free x4 (w32 (1 + x2)) q3.2).bind fun q5 =>
    f_M_freeIn_45 (f_M_freeIn_11 n) x3 q5.1 x1 x2 x4 q5.2
    else
    f_M_freeIn_45 (f_M_freeIn_11 n) x3 0 x1 x2 x4 q3.2
    else
    some (x3, q1.2)
set_option maxRecDepth 4000 in
theorem s_M_freeIn_11  : ∀ (n : Nat), ∀ (x1 x2 x3 x4 : Int) (w : qMem), qSim κI 100 100 m_M_freeIn 11 [] [some (qR 88), some (qI x1), some (qI x2), some (qI x3), some (qI x4)] w (f_M_freeIn_11 n x1 x2 x3 x4 w) := by
  intro n
  induction n with
  | zero => intro x1 x2 x3 x4 w; exact z_none
  | succ n ih =>
    intro x1 x2 x3 x4 w
    rw [f_M_freeIn_11]
    refine z_iload d_M_freeIn_11 rfl ?_
    refine z_aload_n d_M_freeIn_13 rfl ?_
    refine z_cVI (as := []) (st := [qI x4]) (nl := 0) (ci := 10) d_M_freeIn_14 lk_M_72 mk_M_nodes rfl rfl rfl rfl rfl rfl (s_M_nodes _) (fun q1 _ hq1 => ?_)
    refine z_icmp_ge (tgt := 53) d_M_freeIn_17 rfl (fun c2 => ?_) (fun c2 => ?_)
    · refine z_iload_n d_M_freeIn_20 rfl ?_
      refine z_aload_n d_M_freeIn_21 rfl ?_
      refine z_iload d_M_freeIn_22 rfl ?_
      refine z_iload_n d_M_freeIn_24 rfl ?_
      refine z_cVI (as := [qI x4, qI x2]) (st := [qI x3]) (nl := 0) (ci := 10) d_M_freeIn_25 lk_M_102 mk_M_ringFor rfl rfl rfl rfl rfl rfl (s_M_ringFor _ _ _) (fun q3 _ hq3 => ?_)
      refine z_iload_n d_M_freeIn_28 rfl ?_
      refine z_icmp_ne (tgt := 44) d_M_freeIn_29 rfl (fun c4 => ?_) (fun c4 => ?_)
      · refine z_aload_n d_M_freeIn_32 rfl ?_
        refine z_iload d_M_freeIn_33 rfl ?_
        refine z_ic1 d_M_freeIn_35 ?_
        refine z_iload_n d_M_freeIn_36 rfl ?_
        refine z_iadd d_M_freeIn_37 ?_
        refine z_cVI (as := [qI x4, qI (w32 (1 + x2))]) (st := [qI x3]) (nl := 0) (ci := 10) d_M_freeIn_38 lk_M_117 mk_M_free rfl rfl rfl rfl rfl rfl (s_M_free _ _ _) (fun q5 _ hq5 => ?_)
        refine z_goto (tgt := 45) d_M_freeIn_41 rfl ?_
        refine z_mask [true, true, true, false, true] ?_
        exact s_M_freeIn_45 ih _ _ _ _ _ _
      · refine z_ic0 d_M_freeIn_44 ?_
        refine z_mask [true, true, true, false, true] ?_
        exact s_M_freeIn_45 ih _ _ _ _ _ _
    · refine z_iload_n d_M_freeIn_53 rfl ?_
      exact z_iret d_M_freeIn_54 rfl rfl
def f_M_freeIn (x1 : Int) (w : qMem) : Option (Int × qMem) :=
  (f_M_directionOf x1 w).bind fun q6 =>
  f_M_freeIn_11 qFU x1 q6.1 0 0 q6.2
set_option maxRecDepth 4000 in
theorem s_M_freeIn (x1 : Int) (w : qMem) : qSim κI 100 100 m_M_freeIn 0 [] [some (qR 88), some (qI x1), none, none, none] w (f_M_freeIn x1 w) := by
  unfold f_M_freeIn
  refine z_aload_n d_M_freeIn_0 rfl ?_
  refine z_iload_n d_M_freeIn_1 rfl ?_
  refine z_cVI (as := [qI x1]) (st := []) (nl := 0) (ci := 10) d_M_freeIn_2 lk_M_89 mk_M_directionOf rfl rfl rfl rfl rfl rfl (s_M_directionOf _ _) (fun q6 _ hq6 => ?_)
  refine z_istore_n (pls' := [some (qR 88), some (qI x1), some (qI q6.1), none, none]) d_M_freeIn_5 (by decide) rfl rfl ?_
  refine z_ic0 d_M_freeIn_6 ?_
  refine z_istore_n (pls' := [some (qR 88), some (qI x1), some (qI q6.1), some (qI 0), none]) d_M_freeIn_7 (by decide) rfl rfl ?_
  refine z_ic0 d_M_freeIn_8 ?_
  refine z_istore (pls' := [some (qR 88), some (qI x1), some (qI q6.1), some (qI 0), some (qI 0)]) d_M_freeIn_9 (by decide) rfl rfl ?_
  refine z_mask [true, true, true, true, true] ?_
  exact s_M_freeIn_11 _ _ _ _ _ _
