/-! BubbleTorus$LoneRing.waitIn -/
theorem d_L_waitIn_0 : decode m_L_waitIn.2.1 0 = .ok (.iconst 0, 1) := by decide +kernel
theorem d_L_waitIn_1 : decode m_L_waitIn.2.1 1 = .ok (.istore_n 2, 1) := by decide +kernel
theorem d_L_waitIn_2 : decode m_L_waitIn.2.1 2 = .ok (.aload_n 0, 1) := by decide +kernel
theorem d_L_waitIn_3 : decode m_L_waitIn.2.1 3 = .ok (.iload_n 1, 1) := by decide +kernel
theorem d_L_waitIn_4 : decode m_L_waitIn.2.1 4 = .ok (.invokevirtual 99, 3) := by decide +kernel
theorem d_L_waitIn_7 : decode m_L_waitIn.2.1 7 = .ok (.aload_n 0, 1) := by decide +kernel
theorem d_L_waitIn_8 : decode m_L_waitIn.2.1 8 = .ok (.iconst 0, 1) := by decide +kernel
theorem d_L_waitIn_9 : decode m_L_waitIn.2.1 9 = .ok (.invokevirtual 112, 3) := by decide +kernel
theorem d_L_waitIn_12 : decode m_L_waitIn.2.1 12 = .ok (.ifCond .ne 42, 3) := by decide +kernel
theorem d_L_waitIn_15 : decode m_L_waitIn.2.1 15 = .ok (.aload_n 0, 1) := by decide +kernel
theorem d_L_waitIn_16 : decode m_L_waitIn.2.1 16 = .ok (.iload_n 1, 1) := by decide +kernel
theorem d_L_waitIn_17 : decode m_L_waitIn.2.1 17 = .ok (.invokevirtual 103, 3) := by decide +kernel
theorem d_L_waitIn_20 : decode m_L_waitIn.2.1 20 = .ok (.iconst 0, 1) := by decide +kernel
theorem d_L_waitIn_21 : decode m_L_waitIn.2.1 21 = .ok (.istore_n 3, 1) := by decide +kernel
theorem d_L_waitIn_22 : decode m_L_waitIn.2.1 22 = .ok (.iload_n 3, 1) := by decide +kernel
theorem d_L_waitIn_23 : decode m_L_waitIn.2.1 23 = .ok (.aload_n 0, 1) := by decide +kernel
theorem d_L_waitIn_24 : decode m_L_waitIn.2.1 24 = .ok (.getfield 59, 3) := by decide +kernel
theorem d_L_waitIn_27 : decode m_L_waitIn.2.1 27 = .ok (.if_icmp .ge 27, 3) := by decide +kernel
theorem d_L_waitIn_30 : decode m_L_waitIn.2.1 30 = .ok (.iload_n 2, 1) := by decide +kernel
theorem d_L_waitIn_31 : decode m_L_waitIn.2.1 31 = .ok (.aload_n 0, 1) := by decide +kernel
theorem d_L_waitIn_32 : decode m_L_waitIn.2.1 32 = .ok (.getfield 34, 3) := by decide +kernel
theorem d_L_waitIn_35 : decode m_L_waitIn.2.1 35 = .ok (.aload_n 0, 1) := by decide +kernel
theorem d_L_waitIn_36 : decode m_L_waitIn.2.1 36 = .ok (.getfield 28, 3) := by decide +kernel
theorem d_L_waitIn_39 : decode m_L_waitIn.2.1 39 = .ok (.iload_n 3, 1) := by decide +kernel
theorem d_L_waitIn_40 : decode m_L_waitIn.2.1 40 = .ok (.iaload, 1) := by decide +kernel
theorem d_L_waitIn_41 : decode m_L_waitIn.2.1 41 = .ok (.iaload, 1) := by decide +kernel
theorem d_L_waitIn_42 : decode m_L_waitIn.2.1 42 = .ok (.iconst 1, 1) := by decide +kernel
theorem d_L_waitIn_43 : decode m_L_waitIn.2.1 43 = .ok (.iadd, 1) := by decide +kernel
theorem d_L_waitIn_44 : decode m_L_waitIn.2.1 44 = .ok (.invokestatic 106, 3) := by decide +kernel
theorem d_L_waitIn_47 : decode m_L_waitIn.2.1 47 = .ok (.istore_n 2, 1) := by decide +kernel
theorem d_L_waitIn_48 : decode m_L_waitIn.2.1 48 = .ok (.iinc 3 1, 3) := by decide +kernel
theorem d_L_waitIn_51 : decode m_L_waitIn.2.1 51 = .ok (.goto (-29), 3) := by decide +kernel
theorem d_L_waitIn_54 : decode m_L_waitIn.2.1 54 = .ok (.iload_n 2, 1) := by decide +kernel
theorem d_L_waitIn_55 : decode m_L_waitIn.2.1 55 = .ok (.ireturn, 1) := by decide +kernel
def f_L_waitIn_22 : Nat → Int → Int → qMem → Option (Int × qMem)
  | 0, _, _, _ => none
  | n + 1, x2, x3, w =>
    if x3 < (w 81 15) then
    if w 81 7 = 103 then
    qld w 87 16 x3 fun v3 =>
    qld w 103 10125 v3 fun v4 =>
    (f_L_waitIn_22 n) (if x2 < (w32 (v4 + 1)) then (w32 (v4 + 1)) else x2) (w32 (x3 + 1)) w
    else none
    else
    some (x2, w)
set_option maxRecDepth 4000 in
theorem s_L_waitIn_22  : ∀ (n : Nat), ∀ (x2 x3 : Int) (w : qMem), qSim κI 100 100 m_L_waitIn 22 [] [some (qR 81), none, some (qI x2), some (qI x3)] w (f_L_waitIn_22 n x2 x3 w) := by
  intro n
  induction n with
  | zero => intro x2 x3 w; exact z_none
  | succ n ih =>
    intro x2 x3 w
    rw [f_L_waitIn_22]
    refine z_iload_n d_L_waitIn_22 rfl ?_
    refine z_aload_n d_L_waitIn_23 rfl ?_
    refine z_gi (ci := 1) (j := 15) (ji := 15) d_L_waitIn_24 rfl fl_L_59 rfl rfl rfl ?_
    refine z_icmp_ge (tgt := 54) d_L_waitIn_27 rfl (fun c1 => ?_) (fun c1 => ?_)
    · refine z_iload_n d_L_waitIn_30 rfl ?_
      refine z_aload_n d_L_waitIn_31 rfl ?_
      refine z_if (fun c2 => ?_) (fun _ => z_none)
      refine z_getd (ci := 1) (j := 7) (d := 103) (ji := 7) d_L_waitIn_32 rfl fl_L_34 rfl (by decide) rfl rfl c2 (by decide) ?_
      refine z_aload_n d_L_waitIn_35 rfl ?_
      refine z_gr (ci := 1) (j := 5) (d := 6) (o2 := 87) d_L_waitIn_36 rfl fl_L_28 rfl (Nat.le_of_ble_eq_true rfl) rfl rfl ?_
      refine z_iload_n d_L_waitIn_39 rfl ?_
      refine z_il d_L_waitIn_40 rfl rfl (fun v3 => ?_)
      refine z_il d_L_waitIn_41 rfl rfl (fun v4 => ?_)
      refine z_ic1 d_L_waitIn_42 ?_
      refine z_iadd d_L_waitIn_43 ?_
      refine z_max d_L_waitIn_44 lk_L_106 (Nat.le_of_ble_eq_true rfl) (Nat.le_of_ble_eq_true rfl) ?_
      refine z_istore_n (pls' := [some (qR 81), none, some (qI (if x2 < (w32 (v4 + 1)) then (w32 (v4 + 1)) else x2)), some (qI x3)]) d_L_waitIn_47 (by decide) rfl rfl ?_
      refine z_iinc (pls' := [some (qR 81), none, some (qI (if x2 < (w32 (v4 + 1)) then (w32 (v4 + 1)) else x2)), some (qI (w32 (x3 + 1)))]) d_L_waitIn_48 (by decide) rfl rfl rfl ?_
      refine z_goto (tgt := 22) d_L_waitIn_51 rfl ?_
      refine z_mask [true, false, true, true] ?_
      exact ih _ _ _
    · refine z_iload_n d_L_waitIn_54 rfl ?_
      exact z_iret d_L_waitIn_55 rfl rfl
def f_L_waitIn (x1 : Int) (w : qMem) : Option (Int × qMem) :=
  (f_L_open x1 w).bind fun q5 =>
  (f_L_ruleLets 0 q5).bind fun q6 =>
  if q6.1 = 0 then
  (f_L_listSteps x1 q6.2).bind fun q8 =>
  f_L_waitIn_22 qFU 0 0 q8
  else
  some (0, q6.2)
set_option maxRecDepth 4000 in
theorem s_L_waitIn (x1 : Int) (w : qMem) : qSim κI 100 100 m_L_waitIn 0 [] [some (qR 81), some (qI x1), none, none] w (f_L_waitIn x1 w) := by
  unfold f_L_waitIn
  refine z_ic0 d_L_waitIn_0 ?_
  refine z_istore_n (pls' := [some (qR 81), some (qI x1), some (qI 0), none]) d_L_waitIn_1 (by decide) rfl rfl ?_
  refine z_aload_n d_L_waitIn_2 rfl ?_
  refine z_iload_n d_L_waitIn_3 rfl ?_
  refine z_cVV (as := [qI x1]) (st := []) (nl := 1) (ci := 1) d_L_waitIn_4 lk_L_99 mk_L_open rfl rfl rfl rfl rfl rfl (s_L_open _ _) (fun q5 _ => ?_)
  refine z_aload_n d_L_waitIn_7 rfl ?_
  refine z_ic0 d_L_waitIn_8 ?_
  refine z_cVI (as := [qI 0]) (st := []) (nl := 1) (ci := 1) d_L_waitIn_9 lk_L_112 mk_L_ruleLets rfl rfl rfl rfl rfl rfl (s_L_ruleLets _ _) (fun q6 _ hq6 => ?_)
  refine z_if_ne (tgt := 54) d_L_waitIn_12 rfl (fun c7 => ?_) (fun c7 => ?_)
  · refine z_aload_n d_L_waitIn_15 rfl ?_
    refine z_iload_n d_L_waitIn_16 rfl ?_
    refine z_cVV (as := [qI x1]) (st := []) (nl := 2) (ci := 1) d_L_waitIn_17 lk_L_103 mk_L_listSteps rfl rfl rfl rfl rfl rfl (s_L_listSteps _ _) (fun q8 _ => ?_)
    refine z_ic0 d_L_waitIn_20 ?_
    refine z_istore_n (pls' := [some (qR 81), some (qI x1), some (qI 0), some (qI 0)]) d_L_waitIn_21 (by decide) rfl rfl ?_
    refine z_mask [true, false, true, true] ?_
    exact s_L_waitIn_22 _ _ _ _
  · refine z_iload_n d_L_waitIn_54 rfl ?_
    exact z_iret d_L_waitIn_55 rfl rfl
/-! BubbleTorus$LoneRing.longestWait -/
theorem d_L_longestWait_0 : decode m_L_longestWait.2.1 0 = .ok (.aload_n 0, 1) := by decide +kernel
theorem d_L_longestWait_1 : decode m_L_longestWait.2.1 1 = .ok (.getfield 34, 3) := by decide +kernel
theorem d_L_longestWait_4 : decode m_L_longestWait.2.1 4 = .ok (.iconst 0, 1) := by decide +kernel
theorem d_L_longestWait_5 : decode m_L_longestWait.2.1 5 = .ok (.invokestatic 93, 3) := by decide +kernel
theorem d_L_longestWait_8 : decode m_L_longestWait.2.1 8 = .ok (.iconst 0, 1) := by decide +kernel
theorem d_L_longestWait_9 : decode m_L_longestWait.2.1 9 = .ok (.istore_n 1, 1) := by decide +kernel
theorem d_L_longestWait_10 : decode m_L_longestWait.2.1 10 = .ok (.iconst 1, 1) := by decide +kernel
theorem d_L_longestWait_11 : decode m_L_longestWait.2.1 11 = .ok (.istore_n 2, 1) := by decide +kernel
theorem d_L_longestWait_12 : decode m_L_longestWait.2.1 12 = .ok (.iconst 0, 1) := by decide +kernel
theorem d_L_longestWait_13 : decode m_L_longestWait.2.1 13 = .ok (.istore_n 3, 1) := by decide +kernel
theorem d_L_longestWait_14 : decode m_L_longestWait.2.1 14 = .ok (.iload_n 3, 1) := by decide +kernel
theorem d_L_longestWait_15 : decode m_L_longestWait.2.1 15 = .ok (.sipush 10125, 3) := by decide +kernel
theorem d_L_longestWait_18 : decode m_L_longestWait.2.1 18 = .ok (.if_icmp .gt 81, 3) := by decide +kernel
theorem d_L_longestWait_21 : decode m_L_longestWait.2.1 21 = .ok (.iload_n 2, 1) := by decide +kernel
theorem d_L_longestWait_22 : decode m_L_longestWait.2.1 22 = .ok (.ifCond .eq 77, 3) := by decide +kernel
theorem d_L_longestWait_25 : decode m_L_longestWait.2.1 25 = .ok (.iconst 0, 1) := by decide +kernel
theorem d_L_longestWait_26 : decode m_L_longestWait.2.1 26 = .ok (.istore_n 2, 1) := by decide +kernel
theorem d_L_longestWait_27 : decode m_L_longestWait.2.1 27 = .ok (.aload_n 0, 1) := by decide +kernel
theorem d_L_longestWait_28 : decode m_L_longestWait.2.1 28 = .ok (.getfield 53, 3) := by decide +kernel
theorem d_L_longestWait_31 : decode m_L_longestWait.2.1 31 = .ok (.iconst 1, 1) := by decide +kernel
theorem d_L_longestWait_32 : decode m_L_longestWait.2.1 32 = .ok (.isub, 1) := by decide +kernel
theorem d_L_longestWait_33 : decode m_L_longestWait.2.1 33 = .ok (.istore 4, 2) := by decide +kernel
theorem d_L_longestWait_35 : decode m_L_longestWait.2.1 35 = .ok (.iload 4, 2) := by decide +kernel
theorem d_L_longestWait_37 : decode m_L_longestWait.2.1 37 = .ok (.ifCond .lt 56, 3) := by decide +kernel
theorem d_L_longestWait_40 : decode m_L_longestWait.2.1 40 = .ok (.aload_n 0, 1) := by decide +kernel
theorem d_L_longestWait_41 : decode m_L_longestWait.2.1 41 = .ok (.getfield 31, 3) := by decide +kernel
theorem d_L_longestWait_44 : decode m_L_longestWait.2.1 44 = .ok (.iload 4, 2) := by decide +kernel
theorem d_L_longestWait_46 : decode m_L_longestWait.2.1 46 = .ok (.iaload, 1) := by decide +kernel
theorem d_L_longestWait_47 : decode m_L_longestWait.2.1 47 = .ok (.istore 5, 2) := by decide +kernel
theorem d_L_longestWait_49 : decode m_L_longestWait.2.1 49 = .ok (.aload_n 0, 1) := by decide +kernel
theorem d_L_longestWait_50 : decode m_L_longestWait.2.1 50 = .ok (.iload 5, 2) := by decide +kernel
theorem d_L_longestWait_52 : decode m_L_longestWait.2.1 52 = .ok (.invokevirtual 119, 3) := by decide +kernel
theorem d_L_longestWait_55 : decode m_L_longestWait.2.1 55 = .ok (.istore 6, 2) := by decide +kernel
theorem d_L_longestWait_57 : decode m_L_longestWait.2.1 57 = .ok (.iload 6, 2) := by decide +kernel
theorem d_L_longestWait_59 : decode m_L_longestWait.2.1 59 = .ok (.aload_n 0, 1) := by decide +kernel
theorem d_L_longestWait_60 : decode m_L_longestWait.2.1 60 = .ok (.getfield 34, 3) := by decide +kernel
theorem d_L_longestWait_63 : decode m_L_longestWait.2.1 63 = .ok (.iload 5, 2) := by decide +kernel
theorem d_L_longestWait_65 : decode m_L_longestWait.2.1 65 = .ok (.iaload, 1) := by decide +kernel
theorem d_L_longestWait_66 : decode m_L_longestWait.2.1 66 = .ok (.if_icmp .le 21, 3) := by decide +kernel
theorem d_L_longestWait_69 : decode m_L_longestWait.2.1 69 = .ok (.aload_n 0, 1) := by decide +kernel
theorem d_L_longestWait_70 : decode m_L_longestWait.2.1 70 = .ok (.getfield 34, 3) := by decide +kernel
theorem d_L_longestWait_73 : decode m_L_longestWait.2.1 73 = .ok (.iload 5, 2) := by decide +kernel
theorem d_L_longestWait_75 : decode m_L_longestWait.2.1 75 = .ok (.iload 6, 2) := by decide +kernel
theorem d_L_longestWait_77 : decode m_L_longestWait.2.1 77 = .ok (.iastore, 1) := by decide +kernel
theorem d_L_longestWait_78 : decode m_L_longestWait.2.1 78 = .ok (.iload_n 1, 1) := by decide +kernel
theorem d_L_longestWait_79 : decode m_L_longestWait.2.1 79 = .ok (.iload 6, 2) := by decide +kernel
theorem d_L_longestWait_81 : decode m_L_longestWait.2.1 81 = .ok (.invokestatic 106, 3) := by decide +kernel
theorem d_L_longestWait_84 : decode m_L_longestWait.2.1 84 = .ok (.istore_n 1, 1) := by decide +kernel
theorem d_L_longestWait_85 : decode m_L_longestWait.2.1 85 = .ok (.iconst 1, 1) := by decide +kernel
theorem d_L_longestWait_86 : decode m_L_longestWait.2.1 86 = .ok (.istore_n 2, 1) := by decide +kernel
theorem d_L_longestWait_87 : decode m_L_longestWait.2.1 87 = .ok (.iinc 4 (-1), 3) := by decide +kernel
theorem d_L_longestWait_90 : decode m_L_longestWait.2.1 90 = .ok (.goto (-55), 3) := by decide +kernel
theorem d_L_longestWait_93 : decode m_L_longestWait.2.1 93 = .ok (.iinc 3 1, 3) := by decide +kernel
theorem d_L_longestWait_96 : decode m_L_longestWait.2.1 96 = .ok (.goto (-82), 3) := by decide +kernel
theorem d_L_longestWait_99 : decode m_L_longestWait.2.1 99 = .ok (.iload_n 1, 1) := by decide +kernel
theorem d_L_longestWait_100 : decode m_L_longestWait.2.1 100 = .ok (.ireturn, 1) := by decide +kernel
def f_L_longestWait_35 (r14 : Int → Int → Int → qMem → Option (Int × qMem)) : Nat → Int → Int → Int → Int → qMem → Option (Int × qMem)
  | 0, _, _, _, _, _ => none
  | n + 1, x1, x2, x3, x4, w =>
    if x4 < 0 then
    r14 x1 x2 (w32 (x3 + 1)) w
    else
    if w 81 6 = 102 then
    qld w 102 10125 x4 fun v3 =>
    (f_L_waitIn v3 w).bind fun q4 =>
    if q4.2 81 7 = 103 then
    qld q4.2 103 10125 v3 fun v6 =>
    if q4.1 ≤ v6 then
    (f_L_longestWait_35 r14 n) x1 x2 x3 (w32 (x4 + (-1))) q4.2
    else
    if q4.2 81 7 = 103 then
    qst q4.2 103 10125 v3 q4.1 fun w9 =>
    (f_L_longestWait_35 r14 n) (if x1 < q4.1 then q4.1 else x1) 1 x3 (w32 (x4 + (-1))) w9
    else none
    else none
    else none
set_option maxRecDepth 4000 in
theorem s_L_longestWait_35  {r14 : Int → Int → Int → qMem → Option (Int × qMem)} (hr14 : ∀ (x1 x2 x3 : Int) (w : qMem) (hx2 : x2 = 0 ∨ x2 = 1), qSim κI 100 100 m_L_longestWait 14 [] [some (qR 81), some (qI x1), some (qI x2), some (qI x3), none, none, none] w (r14 x1 x2 x3 w)) : ∀ (n : Nat), ∀ (x1 x2 x3 x4 : Int) (w : qMem), (x2 = 0 ∨ x2 = 1) → qSim κI 100 100 m_L_longestWait 35 [] [some (qR 81), some (qI x1), some (qI x2), some (qI x3), some (qI x4), none, none] w (f_L_longestWait_35 r14 n x1 x2 x3 x4 w) := by
  intro n
  induction n with
  | zero => intro x1 x2 x3 x4 w hx2; exact z_none
  | succ n ih =>
    intro x1 x2 x3 x4 w hx2
    rw [f_L_longestWait_35]
    refine z_iload d_L_longestWait_35 rfl ?_
    refine z_if_lt (tgt := 93) d_L_longestWait_37 rfl (fun c1 => ?_) (fun c1 => ?_)
    · refine z_iinc (pls' := [some (qR 81), some (qI x1), some (qI x2), some (qI (w32 (x3 + 1))), some (qI x4), none, none]) d_L_longestWait_93 (by decide) rfl rfl rfl ?_
      refine z_goto (tgt := 14) d_L_longestWait_96 rfl ?_
      refine z_mask [true, true, true, true, false, false, false] ?_
      exact hr14 _ _ _ _ hx2
    · refine z_aload_n d_L_longestWait_40 rfl ?_
      refine z_if (fun c2 => ?_) (fun _ => z_none)
      refine z_getd (ci := 1) (j := 6) (d := 102) (ji := 6) d_L_longestWait_41 rfl fl_L_31 rfl (by decide) rfl rfl c2 (by decide) ?_
      refine z_iload d_L_longestWait_44 rfl ?_
      refine z_il d_L_longestWait_46 rfl rfl (fun v3 => ?_)
      refine z_istore (pls' := [some (qR 81), some (qI x1), some (qI x2), some (qI x3), some (qI x4), some (qI v3), none]) d_L_longestWait_47 (by decide) rfl rfl ?_
      refine z_aload_n d_L_longestWait_49 rfl ?_
      refine z_iload d_L_longestWait_50 rfl ?_
      refine z_cVI (as := [qI v3]) (st := []) (nl := 2) (ci := 1) d_L_longestWait_52 lk_L_119 mk_L_waitIn rfl rfl rfl rfl rfl rfl (s_L_waitIn _ _) (fun q4 _ hq4 => ?_)
      refine z_istore (pls' := [some (qR 81), some (qI x1), some (qI x2), some (qI x3), some (qI x4), some (qI v3), some (qI q4.1)]) d_L_longestWait_55 (by decide) rfl rfl ?_
      refine z_iload d_L_longestWait_57 rfl ?_
      refine z_aload_n d_L_longestWait_59 rfl ?_
      refine z_if (fun c5 => ?_) (fun _ => z_none)
      refine z_getd (ci := 1) (j := 7) (d := 103) (ji := 7) d_L_longestWait_60 rfl fl_L_34 rfl (by decide) rfl rfl c5 (by decide) ?_
      refine z_iload d_L_longestWait_63 rfl ?_
      refine z_il d_L_longestWait_65 rfl rfl (fun v6 => ?_)
      refine z_icmp_le (tgt := 87) d_L_longestWait_66 rfl (fun c7 => ?_) (fun c7 => ?_)
      · refine z_iinc (pls' := [some (qR 81), some (qI x1), some (qI x2), some (qI x3), some (qI (w32 (x4 + (-1)))), some (qI v3), some (qI q4.1)]) d_L_longestWait_87 (by decide) rfl rfl rfl ?_
        refine z_goto (tgt := 35) d_L_longestWait_90 rfl ?_
        refine z_mask [true, true, true, true, true, false, false] ?_
        exact ih _ _ _ _ _ hx2
      · refine z_aload_n d_L_longestWait_69 rfl ?_
        refine z_if (fun c8 => ?_) (fun _ => z_none)
        refine z_getd (ci := 1) (j := 7) (d := 103) (ji := 7) d_L_longestWait_70 rfl fl_L_34 rfl (by decide) rfl rfl c8 (by decide) ?_
        refine z_iload d_L_longestWait_73 rfl ?_
        refine z_iload d_L_longestWait_75 rfl ?_
        refine z_is d_L_longestWait_77 rfl rfl (fun w9 => ?_)
        refine z_iload_n d_L_longestWait_78 rfl ?_
        refine z_iload d_L_longestWait_79 rfl ?_
        refine z_max d_L_longestWait_81 lk_L_106 (Nat.le_of_ble_eq_true rfl) (Nat.le_of_ble_eq_true rfl) ?_
        refine z_istore_n (pls' := [some (qR 81), some (qI (if x1 < q4.1 then q4.1 else x1)), some (qI x2), some (qI x3), some (qI x4), some (qI v3), some (qI q4.1)]) d_L_longestWait_84 (by decide) rfl rfl ?_
        refine z_ic1 d_L_longestWait_85 ?_
        refine z_istore_n (pls' := [some (qR 81), some (qI (if x1 < q4.1 then q4.1 else x1)), some (qI 1), some (qI x3), some (qI x4), some (qI v3), some (qI q4.1)]) d_L_longestWait_86 (by decide) rfl rfl ?_
        refine z_iinc (pls' := [some (qR 81), some (qI (if x1 < q4.1 then q4.1 else x1)), some (qI 1), some (qI x3), some (qI (w32 (x4 + (-1)))), some (qI v3), some (qI q4.1)]) d_L_longestWait_87 (by decide) rfl rfl rfl ?_
        refine z_goto (tgt := 35) d_L_longestWait_90 rfl ?_
        refine z_mask [true, true, true, true, true, false, false] ?_
        exact ih _ _ _ _ _ (Or.inr rfl)
def f_L_longestWait_14 : Nat → Int → Int → Int → qMem → Option (Int × qMem)
  | 0, _, _, _, _ => none
  | n + 1, x1, x2, x3, w =>
    if x3 ≤ 10125 then
    if x2 = 0 then
    some (x1, w)
    else
    f_L_longestWait_35 (f_L_longestWait_14 n) qFU x1 0 x3 (w32 ((w 81 13) - 1)) w
    else
    some (x1, w)
set_option maxRecDepth 4000 in
theorem s_L_longestWait_14  : ∀ (n : Nat), ∀ (x1 x2 x3 : Int) (w : qMem), (x2 = 0 ∨ x2 = 1) → qSim κI 100 100 m_L_longestWait 14 [] [some (qR 81), some (qI x1), some (qI x2), some (qI x3), none, none, none] w (f_L_longestWait_14 n x1 x2 x3 w) := by
  intro n
  induction n with
  | zero => intro x1 x2 x3 w hx2; exact z_none
  | succ n ih =>
    intro x1 x2 x3 w hx2
    rw [f_L_longestWait_14]
    refine z_iload_n d_L_longestWait_14 rfl ?_
    refine z_sipush d_L_longestWait_15 ⟨by decide, by decide⟩ ?_
    refine z_icmp_gt (tgt := 99) d_L_longestWait_18 rfl (fun c10 => ?_) (fun c10 => ?_)
    · refine z_iload_n d_L_longestWait_21 rfl ?_
      refine z_if_eq (tgt := 99) d_L_longestWait_22 rfl (fun c11 => ?_) (fun c11 => ?_)
      · refine z_iload_n d_L_longestWait_99 rfl ?_
        exact z_iret d_L_longestWait_100 rfl rfl
      · refine z_ic0 d_L_longestWait_25 ?_
        refine z_istore_n (pls' := [some (qR 81), some (qI x1), some (qI 0), some (qI x3), none, none, none]) d_L_longestWait_26 (by decide) rfl rfl ?_
        refine z_aload_n d_L_longestWait_27 rfl ?_
        refine z_gi (ci := 1) (j := 13) (ji := 13) d_L_longestWait_28 rfl fl_L_53 rfl rfl rfl ?_
        refine z_ic1 d_L_longestWait_31 ?_
        refine z_isub d_L_longestWait_32 ?_
        refine z_istore (pls' := [some (qR 81), some (qI x1), some (qI 0), some (qI x3), some (qI (w32 ((w 81 13) - 1))), none, none]) d_L_longestWait_33 (by decide) rfl rfl ?_
        refine z_mask [true, true, true, true, true, false, false] ?_
        exact s_L_longestWait_35 ih _ _ _ _ _ _ (Or.inl rfl)
    · refine z_iload_n d_L_longestWait_99 rfl ?_
      exact z_iret d_L_longestWait_100 rfl rfl
def f_L_longestWait (w : qMem) : Option (Int × qMem) :=
  if w 81 7 = 103 then
  (f_JA_fill 103 10125 0 w).bind fun q13 =>
  f_L_longestWait_14 qFU 0 1 0 q13
  else none
set_option maxRecDepth 4000 in
theorem s_L_longestWait (w : qMem) : qSim κI 100 100 m_L_longestWait 0 [] [some (qR 81), none, none, none, none, none, none] w (f_L_longestWait w) := by
  unfold f_L_longestWait
  refine z_aload_n d_L_longestWait_0 rfl ?_
  refine z_if (fun c12 => ?_) (fun _ => z_none)
  refine z_getd (ci := 1) (j := 7) (d := 103) (ji := 7) d_L_longestWait_1 rfl fl_L_34 rfl (by decide) rfl rfl c12 (by decide) ?_
  refine z_ic0 d_L_longestWait_4 ?_
  refine z_cSV (av := [qR 103, qI 0]) (st := []) (nl := 2) d_L_longestWait_5 lk_L_93 mk_JA_fill rfl rfl rfl (s_JA_fill _ rfl rfl (by decide) _) (fun q13 _ => ?_)
  refine z_ic0 d_L_longestWait_8 ?_
  refine z_istore_n (pls' := [some (qR 81), some (qI 0), none, none, none, none, none]) d_L_longestWait_9 (by decide) rfl rfl ?_
  refine z_ic1 d_L_longestWait_10 ?_
  refine z_istore_n (pls' := [some (qR 81), some (qI 0), some (qI 1), none, none, none, none]) d_L_longestWait_11 (by decide) rfl rfl ?_
  refine z_ic0 d_L_longestWait_12 ?_
  refine z_istore_n (pls' := [some (qR 81), some (qI 0), some (qI 1), some (qI 0), none, none, none]) d_L_longestWait_13 (by decide) rfl rfl ?_
  refine z_mask [true, true, true, true, false, false, false] ?_
  exact s_L_longestWait_14 _ _ _ _ _ (Or.inr rfl)
/-! BubbleTorus$LoneRing.solve -/
theorem d_L_solve_0 : decode m_L_solve.2.1 0 = .ok (.aload_n 0, 1) := by decide +kernel
theorem d_L_solve_1 : decode m_L_solve.2.1 1 = .ok (.iload_n 1, 1) := by decide +kernel
theorem d_L_solve_2 : decode m_L_solve.2.1 2 = .ok (.iload_n 2, 1) := by decide +kernel
theorem d_L_solve_3 : decode m_L_solve.2.1 3 = .ok (.iload_n 3, 1) := by decide +kernel
theorem d_L_solve_4 : decode m_L_solve.2.1 4 = .ok (.invokevirtual 74, 3) := by decide +kernel
theorem d_L_solve_7 : decode m_L_solve.2.1 7 = .ok (.aload_n 0, 1) := by decide +kernel
theorem d_L_solve_8 : decode m_L_solve.2.1 8 = .ok (.invokevirtual 78, 3) := by decide +kernel
theorem d_L_solve_11 : decode m_L_solve.2.1 11 = .ok (.aload_n 0, 1) := by decide +kernel
theorem d_L_solve_12 : decode m_L_solve.2.1 12 = .ok (.getfield 11, 3) := by decide +kernel
theorem d_L_solve_15 : decode m_L_solve.2.1 15 = .ok (.iload 4, 2) := by decide +kernel
theorem d_L_solve_17 : decode m_L_solve.2.1 17 = .ok (.aload_n 0, 1) := by decide +kernel
theorem d_L_solve_18 : decode m_L_solve.2.1 18 = .ok (.getfield 53, 3) := by decide +kernel
theorem d_L_solve_21 : decode m_L_solve.2.1 21 = .ok (.iastore, 1) := by decide +kernel
theorem d_L_solve_22 : decode m_L_solve.2.1 22 = .ok (.aload_n 0, 1) := by decide +kernel
theorem d_L_solve_23 : decode m_L_solve.2.1 23 = .ok (.getfield 11, 3) := by decide +kernel
theorem d_L_solve_26 : decode m_L_solve.2.1 26 = .ok (.iload 4, 2) := by decide +kernel
theorem d_L_solve_28 : decode m_L_solve.2.1 28 = .ok (.iconst 3, 1) := by decide +kernel
theorem d_L_solve_29 : decode m_L_solve.2.1 29 = .ok (.iadd, 1) := by decide +kernel
theorem d_L_solve_30 : decode m_L_solve.2.1 30 = .ok (.iconst (-1), 1) := by decide +kernel
theorem d_L_solve_31 : decode m_L_solve.2.1 31 = .ok (.iastore, 1) := by decide +kernel
theorem d_L_solve_32 : decode m_L_solve.2.1 32 = .ok (.iconst 0, 1) := by decide +kernel
theorem d_L_solve_33 : decode m_L_solve.2.1 33 = .ok (.istore 5, 2) := by decide +kernel
theorem d_L_solve_35 : decode m_L_solve.2.1 35 = .ok (.iload 5, 2) := by decide +kernel
theorem d_L_solve_37 : decode m_L_solve.2.1 37 = .ok (.aload_n 0, 1) := by decide +kernel
theorem d_L_solve_38 : decode m_L_solve.2.1 38 = .ok (.getfield 53, 3) := by decide +kernel
theorem d_L_solve_41 : decode m_L_solve.2.1 41 = .ok (.if_icmp .ge 22, 3) := by decide +kernel
theorem d_L_solve_44 : decode m_L_solve.2.1 44 = .ok (.aload_n 0, 1) := by decide +kernel
theorem d_L_solve_45 : decode m_L_solve.2.1 45 = .ok (.aload_n 0, 1) := by decide +kernel
theorem d_L_solve_46 : decode m_L_solve.2.1 46 = .ok (.getfield 31, 3) := by decide +kernel
theorem d_L_solve_49 : decode m_L_solve.2.1 49 = .ok (.iload 5, 2) := by decide +kernel
theorem d_L_solve_51 : decode m_L_solve.2.1 51 = .ok (.iaload, 1) := by decide +kernel
theorem d_L_solve_52 : decode m_L_solve.2.1 52 = .ok (.iload 4, 2) := by decide +kernel
theorem d_L_solve_54 : decode m_L_solve.2.1 54 = .ok (.invokevirtual 81, 3) := by decide +kernel
theorem d_L_solve_57 : decode m_L_solve.2.1 57 = .ok (.iinc 5 1, 3) := by decide +kernel
theorem d_L_solve_60 : decode m_L_solve.2.1 60 = .ok (.goto (-25), 3) := by decide +kernel
theorem d_L_solve_63 : decode m_L_solve.2.1 63 = .ok (.aload_n 0, 1) := by decide +kernel
theorem d_L_solve_64 : decode m_L_solve.2.1 64 = .ok (.getfield 11, 3) := by decide +kernel
theorem d_L_solve_67 : decode m_L_solve.2.1 67 = .ok (.iload 4, 2) := by decide +kernel
theorem d_L_solve_69 : decode m_L_solve.2.1 69 = .ok (.bipush 6, 2) := by decide +kernel
theorem d_L_solve_71 : decode m_L_solve.2.1 71 = .ok (.iadd, 1) := by decide +kernel
theorem d_L_solve_72 : decode m_L_solve.2.1 72 = .ok (.aload_n 0, 1) := by decide +kernel
theorem d_L_solve_73 : decode m_L_solve.2.1 73 = .ok (.invokevirtual 85, 3) := by decide +kernel
theorem d_L_solve_76 : decode m_L_solve.2.1 76 = .ok (.ifCond .eq 7, 3) := by decide +kernel
theorem d_L_solve_79 : decode m_L_solve.2.1 79 = .ok (.iconst 1, 1) := by decide +kernel
theorem d_L_solve_80 : decode m_L_solve.2.1 80 = .ok (.goto 4, 3) := by decide +kernel
theorem d_L_solve_83 : decode m_L_solve.2.1 83 = .ok (.iconst 0, 1) := by decide +kernel
theorem d_L_solve_84 : decode m_L_solve.2.1 84 = .ok (.iastore, 1) := by decide +kernel
theorem d_L_solve_85 : decode m_L_solve.2.1 85 = .ok (.aload_n 0, 1) := by decide +kernel
theorem d_L_solve_86 : decode m_L_solve.2.1 86 = .ok (.getfield 11, 3) := by decide +kernel
theorem d_L_solve_89 : decode m_L_solve.2.1 89 = .ok (.iload 4, 2) := by decide +kernel
theorem d_L_solve_91 : decode m_L_solve.2.1 91 = .ok (.bipush 7, 2) := by decide +kernel
theorem d_L_solve_93 : decode m_L_solve.2.1 93 = .ok (.iadd, 1) := by decide +kernel
theorem d_L_solve_94 : decode m_L_solve.2.1 94 = .ok (.aload_n 0, 1) := by decide +kernel
theorem d_L_solve_95 : decode m_L_solve.2.1 95 = .ok (.invokevirtual 89, 3) := by decide +kernel
theorem d_L_solve_98 : decode m_L_solve.2.1 98 = .ok (.iastore, 1) := by decide +kernel
theorem d_L_solve_99 : decode m_L_solve.2.1 99 = .ok (.return_, 1) := by decide +kernel
def f_L_solve_84 (s1 s2 x4 : Int) (w : qMem) : Option (qMem) :=
  qst w 82 168 s1 s2 fun w1 =>
  (f_L_longestWait w1).bind fun q2 =>
  qst q2.2 82 168 (w32 (x4 + 7)) q2.1 fun w3 =>
  some w3
set_option maxRecDepth 4000 in
theorem s_L_solve_84  : ∀ (s1 s2 x4 : Int) (w : qMem), (s2 = 0 ∨ s2 = 1) → qSim κV 100 100 m_L_solve 84 [qI s2, qI s1, qR 82] [some (qR 81), none, none, none, some (qI x4), none] w (f_L_solve_84 s1 s2 x4 w) := by
  intro s1 s2 x4 w hs2
  unfold f_L_solve_84
  refine z_is d_L_solve_84 rfl rfl (fun w1 => ?_)
  refine z_aload_n d_L_solve_85 rfl ?_
  refine z_gr (ci := 1) (j := 0) (d := 1) (o2 := 82) d_L_solve_86 rfl fl_L_11 rfl (Nat.le_of_ble_eq_true rfl) rfl rfl ?_
  refine z_iload d_L_solve_89 rfl ?_
  refine z_bipush d_L_solve_91 ⟨by decide, by decide⟩ ?_
  refine z_iadd d_L_solve_93 ?_
  refine z_aload_n d_L_solve_94 rfl ?_
  refine z_cVI (as := []) (st := [qI (w32 (x4 + 7)), qR 82]) (nl := 6) (ci := 1) d_L_solve_95 lk_L_89 mk_L_longestWait rfl rfl rfl rfl rfl rfl (s_L_longestWait _) (fun q2 _ hq2 => ?_)
  refine z_is d_L_solve_98 rfl rfl (fun w3 => ?_)
  exact z_vret d_L_solve_99 rfl rfl
def f_L_solve_63 (x4 : Int) (w : qMem) : Option (qMem) :=
  (f_L_isStarving w).bind fun q4 =>
  if q4.1 = 0 then
  f_L_solve_84 (w32 (x4 + 6)) 0 x4 q4.2
  else
  f_L_solve_84 (w32 (x4 + 6)) 1 x4 q4.2
set_option maxRecDepth 4000 in
theorem s_L_solve_63  : ∀ (x4 : Int) (w : qMem), qSim κV 100 100 m_L_solve 63 [] [some (qR 81), none, none, none, some (qI x4), none] w (f_L_solve_63 x4 w) := by
  intro x4 w
  unfold f_L_solve_63
  refine z_aload_n d_L_solve_63 rfl ?_
  refine z_gr (ci := 1) (j := 0) (d := 1) (o2 := 82) d_L_solve_64 rfl fl_L_11 rfl (Nat.le_of_ble_eq_true rfl) rfl rfl ?_
  refine z_iload d_L_solve_67 rfl ?_
  refine z_bipush d_L_solve_69 ⟨by decide, by decide⟩ ?_
  refine z_iadd d_L_solve_71 ?_
  refine z_aload_n d_L_solve_72 rfl ?_
  refine z_cVI (as := []) (st := [qI (w32 (x4 + 6)), qR 82]) (nl := 4) (ci := 1) d_L_solve_73 lk_L_85 mk_L_isStarving rfl rfl rfl rfl rfl rfl (s_L_isStarving _) (fun q4 _ hq4 => ?_)
  refine z_if_eq (tgt := 83) d_L_solve_76 rfl (fun c5 => ?_) (fun c5 => ?_)
  · refine z_ic0 d_L_solve_83 ?_
    refine z_mask [true, false, false, false, true, false] ?_
    exact s_L_solve_84 _ _ _ _ (Or.inl rfl)
  · refine z_ic1 d_L_solve_79 ?_
    refine z_goto (tgt := 84) d_L_solve_80 rfl ?_
    refine z_mask [true, false, false, false, true, false] ?_
    exact s_L_solve_84 _ _ _ _ (Or.inr rfl)
def f_L_solve_35 : Nat → Int → Int → qMem → Option (qMem)
  | 0, _, _, _ => none
  | n + 1, x4, x5, w =>
    if x5 < (w 81 13) then
    if w 81 6 = 102 then
    qld w 102 10125 x5 fun v8 =>
    (f_L_weigh v8 x4 w).bind fun q9 =>
    (f_L_solve_35 n) x4 (w32 (x5 + 1)) q9
    else none
    else
    f_L_solve_63 x4 w
set_option maxRecDepth 4000 in
theorem s_L_solve_35  : ∀ (n : Nat), ∀ (x4 x5 : Int) (w : qMem), qSim κV 100 100 m_L_solve 35 [] [some (qR 81), none, none, none, some (qI x4), some (qI x5)] w (f_L_solve_35 n x4 x5 w) := by
  intro n
  induction n with
  | zero => intro x4 x5 w; exact z_none
  | succ n ih =>
    intro x4 x5 w
    rw [f_L_solve_35]
    refine z_iload d_L_solve_35 rfl ?_
    refine z_aload_n d_L_solve_37 rfl ?_
    refine z_gi (ci := 1) (j := 13) (ji := 13) d_L_solve_38 rfl fl_L_53 rfl rfl rfl ?_
    refine z_icmp_ge (tgt := 63) d_L_solve_41 rfl (fun c6 => ?_) (fun c6 => ?_)
    · refine z_aload_n d_L_solve_44 rfl ?_
      refine z_aload_n d_L_solve_45 rfl ?_
      refine z_if (fun c7 => ?_) (fun _ => z_none)
      refine z_getd (ci := 1) (j := 6) (d := 102) (ji := 6) d_L_solve_46 rfl fl_L_31 rfl (by decide) rfl rfl c7 (by decide) ?_
      refine z_iload d_L_solve_49 rfl ?_
      refine z_il d_L_solve_51 rfl rfl (fun v8 => ?_)
      refine z_iload d_L_solve_52 rfl ?_
      refine z_cVV (as := [qI v8, qI x4]) (st := []) (nl := 2) (ci := 1) d_L_solve_54 lk_L_81 mk_L_weigh rfl rfl rfl rfl rfl rfl (s_L_weigh _ _ _) (fun q9 _ => ?_)
      refine z_iinc (pls' := [some (qR 81), none, none, none, some (qI x4), some (qI (w32 (x5 + 1)))]) d_L_solve_57 (by decide) rfl rfl rfl ?_
      refine z_goto (tgt := 35) d_L_solve_60 rfl ?_
      refine z_mask [true, false, false, false, true, true] ?_
      exact ih _ _ _
    · refine z_mask [true, false, false, false, true, false] ?_
      exact s_L_solve_63 _ _
def f_L_solve (x1 : Int) (x2 : Int) (x3 : Int) (x4 : Int) (w : qMem) : Option (qMem) :=
  (f_L_prepare x1 x2 x3 w).bind fun q10 =>
  (f_L_explore q10).bind fun q11 =>
  qst q11 82 168 x4 (q11 81 13) fun w12 =>
  qst w12 82 168 (w32 (x4 + 3)) (-1) fun w13 =>
  f_L_solve_35 qFU x4 0 w13
set_option maxRecDepth 4000 in
theorem s_L_solve (x1 : Int) (x2 : Int) (x3 : Int) (x4 : Int) (w : qMem) : qSim κV 100 100 m_L_solve 0 [] [some (qR 81), some (qI x1), some (qI x2), some (qI x3), some (qI x4), none] w (f_L_solve x1 x2 x3 x4 w) := by
  unfold f_L_solve
  refine z_aload_n d_L_solve_0 rfl ?_
  refine z_iload_n d_L_solve_1 rfl ?_
  refine z_iload_n d_L_solve_2 rfl ?_
  refine z_iload_n d_L_solve_3 rfl ?_
  refine z_cVV (as := [qI x1, qI x2, qI x3]) (st := []) (nl := 2) (ci := 1) d_L_solve_4 lk_L_74 mk_L_prepare rfl rfl rfl rfl rfl rfl (s_L_prepare _ _ _ _) (fun q10 _ => ?_)
  refine z_aload_n d_L_solve_7 rfl ?_
  refine z_cVV (as := []) (st := []) (nl := 3) (ci := 1) d_L_solve_8 lk_L_78 mk_L_explore rfl rfl rfl rfl rfl rfl (s_L_explore _) (fun q11 _ => ?_)
  refine z_aload_n d_L_solve_11 rfl ?_
  refine z_gr (ci := 1) (j := 0) (d := 1) (o2 := 82) d_L_solve_12 rfl fl_L_11 rfl (Nat.le_of_ble_eq_true rfl) rfl rfl ?_
  refine z_iload d_L_solve_15 rfl ?_
  refine z_aload_n d_L_solve_17 rfl ?_
  refine z_gi (ci := 1) (j := 13) (ji := 13) d_L_solve_18 rfl fl_L_53 rfl rfl rfl ?_
  refine z_is d_L_solve_21 rfl rfl (fun w12 => ?_)
  refine z_aload_n d_L_solve_22 rfl ?_
  refine z_gr (ci := 1) (j := 0) (d := 1) (o2 := 82) d_L_solve_23 rfl fl_L_11 rfl (Nat.le_of_ble_eq_true rfl) rfl rfl ?_
  refine z_iload d_L_solve_26 rfl ?_
  refine z_ic3 d_L_solve_28 ?_
  refine z_iadd d_L_solve_29 ?_
  refine z_icm1 d_L_solve_30 ?_
  refine z_is d_L_solve_31 rfl rfl (fun w13 => ?_)
  refine z_ic0 d_L_solve_32 ?_
  refine z_istore (pls' := [some (qR 81), some (qI x1), some (qI x2), some (qI x3), some (qI x4), some (qI 0)]) d_L_solve_33 (by decide) rfl rfl ?_
  refine z_mask [true, false, false, false, true, true] ?_
  exact s_L_solve_35 _ _ _ _
/-! BubbleTorus$LoneRing.answer -/
theorem d_L_answer_0 : decode m_L_answer.2.1 0 = .ok (.iload_n 1, 1) := by decide +kernel
theorem d_L_answer_1 : decode m_L_answer.2.1 1 = .ok (.iload_n 2, 1) := by decide +kernel
theorem d_L_answer_2 : decode m_L_answer.2.1 2 = .ok (.invokestatic 66, 3) := by decide +kernel
theorem d_L_answer_5 : decode m_L_answer.2.1 5 = .ok (.ifCond .eq 23, 3) := by decide +kernel
theorem d_L_answer_8 : decode m_L_answer.2.1 8 = .ok (.iload_n 3, 1) := by decide +kernel
theorem d_L_answer_9 : decode m_L_answer.2.1 9 = .ok (.iconst 0, 1) := by decide +kernel
theorem d_L_answer_10 : decode m_L_answer.2.1 10 = .ok (.iconst 2, 1) := by decide +kernel
theorem d_L_answer_11 : decode m_L_answer.2.1 11 = .ok (.invokestatic 62, 3) := by decide +kernel
theorem d_L_answer_14 : decode m_L_answer.2.1 14 = .ok (.ifCond .eq 14, 3) := by decide +kernel
theorem d_L_answer_17 : decode m_L_answer.2.1 17 = .ok (.iload 4, 2) := by decide +kernel
theorem d_L_answer_19 : decode m_L_answer.2.1 19 = .ok (.iconst 0, 1) := by decide +kernel
theorem d_L_answer_20 : decode m_L_answer.2.1 20 = .ok (.bipush 7, 2) := by decide +kernel
theorem d_L_answer_22 : decode m_L_answer.2.1 22 = .ok (.invokestatic 62, 3) := by decide +kernel
theorem d_L_answer_25 : decode m_L_answer.2.1 25 = .ok (.ifCond .ne 5, 3) := by decide +kernel
theorem d_L_answer_28 : decode m_L_answer.2.1 28 = .ok (.iconst (-1), 1) := by decide +kernel
theorem d_L_answer_29 : decode m_L_answer.2.1 29 = .ok (.ireturn, 1) := by decide +kernel
theorem d_L_answer_30 : decode m_L_answer.2.1 30 = .ok (.iload_n 1, 1) := by decide +kernel
theorem d_L_answer_31 : decode m_L_answer.2.1 31 = .ok (.iconst 2, 1) := by decide +kernel
theorem d_L_answer_32 : decode m_L_answer.2.1 32 = .ok (.isub, 1) := by decide +kernel
theorem d_L_answer_33 : decode m_L_answer.2.1 33 = .ok (.iconst 3, 1) := by decide +kernel
theorem d_L_answer_34 : decode m_L_answer.2.1 34 = .ok (.imul, 1) := by decide +kernel
theorem d_L_answer_35 : decode m_L_answer.2.1 35 = .ok (.iload_n 2, 1) := by decide +kernel
theorem d_L_answer_36 : decode m_L_answer.2.1 36 = .ok (.iadd, 1) := by decide +kernel
theorem d_L_answer_37 : decode m_L_answer.2.1 37 = .ok (.iconst 1, 1) := by decide +kernel
theorem d_L_answer_38 : decode m_L_answer.2.1 38 = .ok (.isub, 1) := by decide +kernel
theorem d_L_answer_39 : decode m_L_answer.2.1 39 = .ok (.iconst 3, 1) := by decide +kernel
theorem d_L_answer_40 : decode m_L_answer.2.1 40 = .ok (.imul, 1) := by decide +kernel
theorem d_L_answer_41 : decode m_L_answer.2.1 41 = .ok (.iload_n 3, 1) := by decide +kernel
theorem d_L_answer_42 : decode m_L_answer.2.1 42 = .ok (.iadd, 1) := by decide +kernel
theorem d_L_answer_43 : decode m_L_answer.2.1 43 = .ok (.istore 5, 2) := by decide +kernel
theorem d_L_answer_45 : decode m_L_answer.2.1 45 = .ok (.aload_n 0, 1) := by decide +kernel
theorem d_L_answer_46 : decode m_L_answer.2.1 46 = .ok (.getfield 15, 3) := by decide +kernel
theorem d_L_answer_49 : decode m_L_answer.2.1 49 = .ok (.iload 5, 2) := by decide +kernel
theorem d_L_answer_51 : decode m_L_answer.2.1 51 = .ok (.baload, 1) := by decide +kernel
theorem d_L_answer_52 : decode m_L_answer.2.1 52 = .ok (.ifCond .ne 23, 3) := by decide +kernel
theorem d_L_answer_55 : decode m_L_answer.2.1 55 = .ok (.aload_n 0, 1) := by decide +kernel
theorem d_L_answer_56 : decode m_L_answer.2.1 56 = .ok (.iload_n 1, 1) := by decide +kernel
theorem d_L_answer_57 : decode m_L_answer.2.1 57 = .ok (.iload_n 2, 1) := by decide +kernel
theorem d_L_answer_58 : decode m_L_answer.2.1 58 = .ok (.iload_n 3, 1) := by decide +kernel
theorem d_L_answer_59 : decode m_L_answer.2.1 59 = .ok (.iload 5, 2) := by decide +kernel
theorem d_L_answer_61 : decode m_L_answer.2.1 61 = .ok (.bipush 8, 2) := by decide +kernel
theorem d_L_answer_63 : decode m_L_answer.2.1 63 = .ok (.imul, 1) := by decide +kernel
theorem d_L_answer_64 : decode m_L_answer.2.1 64 = .ok (.invokevirtual 70, 3) := by decide +kernel
theorem d_L_answer_67 : decode m_L_answer.2.1 67 = .ok (.aload_n 0, 1) := by decide +kernel
theorem d_L_answer_68 : decode m_L_answer.2.1 68 = .ok (.getfield 15, 3) := by decide +kernel
theorem d_L_answer_71 : decode m_L_answer.2.1 71 = .ok (.iload 5, 2) := by decide +kernel
theorem d_L_answer_73 : decode m_L_answer.2.1 73 = .ok (.iconst 1, 1) := by decide +kernel
theorem d_L_answer_74 : decode m_L_answer.2.1 74 = .ok (.bastore, 1) := by decide +kernel
theorem d_L_answer_75 : decode m_L_answer.2.1 75 = .ok (.aload_n 0, 1) := by decide +kernel
theorem d_L_answer_76 : decode m_L_answer.2.1 76 = .ok (.getfield 11, 3) := by decide +kernel
theorem d_L_answer_79 : decode m_L_answer.2.1 79 = .ok (.iload 5, 2) := by decide +kernel
theorem d_L_answer_81 : decode m_L_answer.2.1 81 = .ok (.bipush 8, 2) := by decide +kernel
theorem d_L_answer_83 : decode m_L_answer.2.1 83 = .ok (.imul, 1) := by decide +kernel
theorem d_L_answer_84 : decode m_L_answer.2.1 84 = .ok (.iload 4, 2) := by decide +kernel
theorem d_L_answer_86 : decode m_L_answer.2.1 86 = .ok (.iadd, 1) := by decide +kernel
theorem d_L_answer_87 : decode m_L_answer.2.1 87 = .ok (.iaload, 1) := by decide +kernel
theorem d_L_answer_88 : decode m_L_answer.2.1 88 = .ok (.ireturn, 1) := by decide +kernel
def f_L_answer_75 (x4 x5 : Int) (w : qMem) : Option (Int × qMem) :=
  qld w 82 168 (w32 ((w32 (x5 * 8)) + x4)) fun v1 =>
  some (v1, w)
set_option maxRecDepth 4000 in
theorem s_L_answer_75  : ∀ (x4 x5 : Int) (w : qMem), qSim κI 100 100 m_L_answer 75 [] [some (qR 81), none, none, none, some (qI x4), some (qI x5)] w (f_L_answer_75 x4 x5 w) := by
  intro x4 x5 w
  unfold f_L_answer_75
  refine z_aload_n d_L_answer_75 rfl ?_
  refine z_gr (ci := 1) (j := 0) (d := 1) (o2 := 82) d_L_answer_76 rfl fl_L_11 rfl (Nat.le_of_ble_eq_true rfl) rfl rfl ?_
  refine z_iload d_L_answer_79 rfl ?_
  refine z_bipush d_L_answer_81 ⟨by decide, by decide⟩ ?_
  refine z_imul d_L_answer_83 ?_
  refine z_iload d_L_answer_84 rfl ?_
  refine z_iadd d_L_answer_86 ?_
  refine z_il d_L_answer_87 rfl rfl (fun v1 => ?_)
  exact z_iret d_L_answer_88 rfl rfl
def f_L_answer (x1 : Int) (x2 : Int) (x3 : Int) (x4 : Int) (w : qMem) : Option (Int × qMem) :=
  (f_L_canBe x1 x2 w).bind fun q2 =>
  if q2.1 = 0 then
  some ((-1), q2.2)
  else
  (f_X_within x3 0 2 q2.2).bind fun q4 =>
  if q4.1 = 0 then
  some ((-1), q4.2)
  else
  (f_X_within x4 0 7 q4.2).bind fun q6 =>
  if q6.1 = 0 then
  some ((-1), q6.2)
  else
  qld q6.2 83 21 (w32 ((w32 ((w32 ((w32 ((w32 ((w32 (x1 - 2)) * 3)) + x2)) - 1)) * 3)) + x3)) fun v8 =>
  if v8 = 0 then
  (f_L_solve x1 x2 x3 (w32 ((w32 ((w32 ((w32 ((w32 ((w32 ((w32 (x1 - 2)) * 3)) + x2)) - 1)) * 3)) + x3)) * 8)) q6.2).bind fun q11 =>
  qstz q11 83 21 (w32 ((w32 ((w32 ((w32 ((w32 ((w32 (x1 - 2)) * 3)) + x2)) - 1)) * 3)) + x3)) 1 fun w12 =>
  f_L_answer_75 x4 (w32 ((w32 ((w32 ((w32 ((w32 ((w32 (x1 - 2)) * 3)) + x2)) - 1)) * 3)) + x3)) w12
  else
  f_L_answer_75 x4 (w32 ((w32 ((w32 ((w32 ((w32 ((w32 (x1 - 2)) * 3)) + x2)) - 1)) * 3)) + x3)) q6.2
set_option maxRecDepth 4000 in
theorem s_L_answer (x1 : Int) (x2 : Int) (x3 : Int) (x4 : Int) (w : qMem) : qSim κI 100 100 m_L_answer 0 [] [some (qR 81), some (qI x1), some (qI x2), some (qI x3), some (qI x4), none] w (f_L_answer x1 x2 x3 x4 w) := by
  unfold f_L_answer
  refine z_iload_n d_L_answer_0 rfl ?_
  refine z_iload_n d_L_answer_1 rfl ?_
  refine z_cSI (av := [qI x1, qI x2]) (st := []) (nl := 0) d_L_answer_2 lk_L_66 mk_L_canBe rfl rfl rfl (s_L_canBe _ _ _) (fun q2 _ hq2 => ?_)
  refine z_if_eq (tgt := 28) d_L_answer_5 rfl (fun c3 => ?_) (fun c3 => ?_)
  · refine z_icm1 d_L_answer_28 ?_
    exact z_iret d_L_answer_29 rfl rfl
  · refine z_iload_n d_L_answer_8 rfl ?_
    refine z_ic0 d_L_answer_9 ?_
    refine z_ic2 d_L_answer_10 ?_
    refine z_cNI (av := [qI x3, qI 0, qI 2]) (st := []) (nl := 0) d_L_answer_11 lk_L_62 mk_X_within rfl rfl rfl (s_X_within _ _ _ _) (fun q4 _ hq4 => ?_)
    refine z_if_eq (tgt := 28) d_L_answer_14 rfl (fun c5 => ?_) (fun c5 => ?_)
    · refine z_icm1 d_L_answer_28 ?_
      exact z_iret d_L_answer_29 rfl rfl
    · refine z_iload d_L_answer_17 rfl ?_
      refine z_ic0 d_L_answer_19 ?_
      refine z_bipush d_L_answer_20 ⟨by decide, by decide⟩ ?_
      refine z_cNI (av := [qI x4, qI 0, qI 7]) (st := []) (nl := 0) d_L_answer_22 lk_L_62 mk_X_within rfl rfl rfl (s_X_within _ _ _ _) (fun q6 _ hq6 => ?_)
      refine z_if_ne (tgt := 30) d_L_answer_25 rfl (fun c7 => ?_) (fun c7 => ?_)
      · refine z_icm1 d_L_answer_28 ?_
        exact z_iret d_L_answer_29 rfl rfl
      · refine z_iload_n d_L_answer_30 rfl ?_
        refine z_ic2 d_L_answer_31 ?_
        refine z_isub d_L_answer_32 ?_
        refine z_ic3 d_L_answer_33 ?_
        refine z_imul d_L_answer_34 ?_
        refine z_iload_n d_L_answer_35 rfl ?_
        refine z_iadd d_L_answer_36 ?_
        refine z_ic1 d_L_answer_37 ?_
        refine z_isub d_L_answer_38 ?_
        refine z_ic3 d_L_answer_39 ?_
        refine z_imul d_L_answer_40 ?_
        refine z_iload_n d_L_answer_41 rfl ?_
        refine z_iadd d_L_answer_42 ?_
        refine z_istore (pls' := [some (qR 81), some (qI x1), some (qI x2), some (qI x3), some (qI x4), some (qI (w32 ((w32 ((w32 ((w32 ((w32 ((w32 (x1 - 2)) * 3)) + x2)) - 1)) * 3)) + x3)))]) d_L_answer_43 (by decide) rfl rfl ?_
        refine z_aload_n d_L_answer_45 rfl ?_
        refine z_gr (ci := 1) (j := 1) (d := 2) (o2 := 83) d_L_answer_46 rfl fl_L_15 rfl (Nat.le_of_ble_eq_true rfl) rfl rfl ?_
        refine z_iload d_L_answer_49 rfl ?_
        refine z_zl d_L_answer_51 rfl rfl (fun v8 hz9 => ?_)
        refine z_if_ne (tgt := 75) d_L_answer_52 rfl (fun c10 => ?_) (fun c10 => ?_)
        · refine z_aload_n d_L_answer_55 rfl ?_
          refine z_iload_n d_L_answer_56 rfl ?_
          refine z_iload_n d_L_answer_57 rfl ?_
          refine z_iload_n d_L_answer_58 rfl ?_
          refine z_iload d_L_answer_59 rfl ?_
          refine z_bipush d_L_answer_61 ⟨by decide, by decide⟩ ?_
          refine z_imul d_L_answer_63 ?_
          refine z_cVV (as := [qI x1, qI x2, qI x3, qI (w32 ((w32 ((w32 ((w32 ((w32 ((w32 ((w32 (x1 - 2)) * 3)) + x2)) - 1)) * 3)) + x3)) * 8))]) (st := []) (nl := 1) (ci := 1) d_L_answer_64 lk_L_70 mk_L_solve rfl rfl rfl rfl rfl rfl (s_L_solve _ _ _ _ _) (fun q11 _ => ?_)
          refine z_aload_n d_L_answer_67 rfl ?_
          refine z_gr (ci := 1) (j := 1) (d := 2) (o2 := 83) d_L_answer_68 rfl fl_L_15 rfl (Nat.le_of_ble_eq_true rfl) rfl rfl ?_
          refine z_iload d_L_answer_71 rfl ?_
          refine z_ic1 d_L_answer_73 ?_
          refine z_zs d_L_answer_74 rfl rfl (fun w12 => ?_)
          refine z_mask [true, false, false, false, true, true] ?_
          exact s_L_answer_75 _ _ _
        · refine z_mask [true, false, false, false, true, true] ?_
          exact s_L_answer_75 _ _ _
/-! BubbleTorus.isBound -/
theorem d_X_isBound_0 : decode m_X_isBound.2.1 0 = .ok (.iload_n 0, 1) := by decide +kernel
theorem d_X_isBound_1 : decode m_X_isBound.2.1 1 = .ok (.iconst 0, 1) := by decide +kernel
theorem d_X_isBound_2 : decode m_X_isBound.2.1 2 = .ok (.bipush 99, 2) := by decide +kernel
theorem d_X_isBound_4 : decode m_X_isBound.2.1 4 = .ok (.invokestatic 53, 3) := by decide +kernel
theorem d_X_isBound_7 : decode m_X_isBound.2.1 7 = .ok (.ireturn, 1) := by decide +kernel
def f_X_isBound (x0 : Int) (w : qMem) : Option (Int × qMem) :=
  (f_X_within x0 0 99 w).bind fun q1 =>
  some (q1.1, q1.2)
set_option maxRecDepth 4000 in
theorem s_X_isBound {ph : Nat} (x0 : Int) (w : qMem) : qSim κI ph ph m_X_isBound 0 [] [some (qI x0)] w (f_X_isBound x0 w) := by
  unfold f_X_isBound
  refine z_iload_n d_X_isBound_0 rfl ?_
  refine z_ic0 d_X_isBound_1 ?_
  refine z_bipush d_X_isBound_2 ⟨by decide, by decide⟩ ?_
  refine z_cSI (av := [qI x0, qI 0, qI 99]) (st := []) (nl := 0) d_X_isBound_4 lk_X_53 mk_X_within rfl rfl rfl (s_X_within _ _ _ _) (fun q1 _ hq1 => ?_)
  exact z_zret d_X_isBound_7 rfl rfl (q_boo rfl hq1)
/-! BubbleTorus.torus -/
theorem d_X_torus_0 : decode m_X_torus.2.1 0 = .ok (.iload_n 1, 1) := by decide +kernel
theorem d_X_torus_1 : decode m_X_torus.2.1 1 = .ok (.iconst 2, 1) := by decide +kernel
theorem d_X_torus_2 : decode m_X_torus.2.1 2 = .ok (.iconst 4, 1) := by decide +kernel
theorem d_X_torus_3 : decode m_X_torus.2.1 3 = .ok (.invokestatic 53, 3) := by decide +kernel
theorem d_X_torus_6 : decode m_X_torus.2.1 6 = .ok (.ifCond .eq 31, 3) := by decide +kernel
theorem d_X_torus_9 : decode m_X_torus.2.1 9 = .ok (.iload_n 2, 1) := by decide +kernel
theorem d_X_torus_10 : decode m_X_torus.2.1 10 = .ok (.iconst 2, 1) := by decide +kernel
theorem d_X_torus_11 : decode m_X_torus.2.1 11 = .ok (.iconst 4, 1) := by decide +kernel
theorem d_X_torus_12 : decode m_X_torus.2.1 12 = .ok (.invokestatic 53, 3) := by decide +kernel
theorem d_X_torus_15 : decode m_X_torus.2.1 15 = .ok (.ifCond .eq 22, 3) := by decide +kernel
theorem d_X_torus_18 : decode m_X_torus.2.1 18 = .ok (.iload_n 3, 1) := by decide +kernel
theorem d_X_torus_19 : decode m_X_torus.2.1 19 = .ok (.iconst 1, 1) := by decide +kernel
theorem d_X_torus_20 : decode m_X_torus.2.1 20 = .ok (.iconst 4, 1) := by decide +kernel
theorem d_X_torus_21 : decode m_X_torus.2.1 21 = .ok (.invokestatic 53, 3) := by decide +kernel
theorem d_X_torus_24 : decode m_X_torus.2.1 24 = .ok (.ifCond .eq 13, 3) := by decide +kernel
theorem d_X_torus_27 : decode m_X_torus.2.1 27 = .ok (.iload 4, 2) := by decide +kernel
theorem d_X_torus_29 : decode m_X_torus.2.1 29 = .ok (.iconst 0, 1) := by decide +kernel
theorem d_X_torus_30 : decode m_X_torus.2.1 30 = .ok (.iconst 3, 1) := by decide +kernel
theorem d_X_torus_31 : decode m_X_torus.2.1 31 = .ok (.invokestatic 53, 3) := by decide +kernel
theorem d_X_torus_34 : decode m_X_torus.2.1 34 = .ok (.ifCond .ne 5, 3) := by decide +kernel
theorem d_X_torus_37 : decode m_X_torus.2.1 37 = .ok (.iconst 0, 1) := by decide +kernel
theorem d_X_torus_38 : decode m_X_torus.2.1 38 = .ok (.ireturn, 1) := by decide +kernel
theorem d_X_torus_39 : decode m_X_torus.2.1 39 = .ok (.iload 5, 2) := by decide +kernel
theorem d_X_torus_41 : decode m_X_torus.2.1 41 = .ok (.iconst 0, 1) := by decide +kernel
theorem d_X_torus_42 : decode m_X_torus.2.1 42 = .ok (.iconst 2, 1) := by decide +kernel
theorem d_X_torus_43 : decode m_X_torus.2.1 43 = .ok (.invokestatic 53, 3) := by decide +kernel
theorem d_X_torus_46 : decode m_X_torus.2.1 46 = .ok (.ifCond .eq 22, 3) := by decide +kernel
theorem d_X_torus_49 : decode m_X_torus.2.1 49 = .ok (.iload 6, 2) := by decide +kernel
theorem d_X_torus_51 : decode m_X_torus.2.1 51 = .ok (.invokestatic 57, 3) := by decide +kernel
theorem d_X_torus_54 : decode m_X_torus.2.1 54 = .ok (.ifCond .eq 14, 3) := by decide +kernel
theorem d_X_torus_57 : decode m_X_torus.2.1 57 = .ok (.iload 5, 2) := by decide +kernel
theorem d_X_torus_59 : decode m_X_torus.2.1 59 = .ok (.iconst 1, 1) := by decide +kernel
theorem d_X_torus_60 : decode m_X_torus.2.1 60 = .ok (.if_icmp .ne 10, 3) := by decide +kernel
theorem d_X_torus_63 : decode m_X_torus.2.1 63 = .ok (.iload_n 3, 1) := by decide +kernel
theorem d_X_torus_64 : decode m_X_torus.2.1 64 = .ok (.iconst 2, 1) := by decide +kernel
theorem d_X_torus_65 : decode m_X_torus.2.1 65 = .ok (.if_icmp .ge 5, 3) := by decide +kernel
theorem d_X_torus_68 : decode m_X_torus.2.1 68 = .ok (.iconst 0, 1) := by decide +kernel
theorem d_X_torus_69 : decode m_X_torus.2.1 69 = .ok (.ireturn, 1) := by decide +kernel
theorem d_X_torus_70 : decode m_X_torus.2.1 70 = .ok (.aload_n 0, 1) := by decide +kernel
theorem d_X_torus_71 : decode m_X_torus.2.1 71 = .ok (.getfield 23, 3) := by decide +kernel
theorem d_X_torus_74 : decode m_X_torus.2.1 74 = .ok (.iload_n 1, 1) := by decide +kernel
theorem d_X_torus_75 : decode m_X_torus.2.1 75 = .ok (.iload_n 2, 1) := by decide +kernel
theorem d_X_torus_76 : decode m_X_torus.2.1 76 = .ok (.invokevirtual 61, 3) := by decide +kernel
theorem d_X_torus_79 : decode m_X_torus.2.1 79 = .ok (.aload_n 0, 1) := by decide +kernel
theorem d_X_torus_80 : decode m_X_torus.2.1 80 = .ok (.getfield 12, 3) := by decide +kernel
theorem d_X_torus_83 : decode m_X_torus.2.1 83 = .ok (.iload_n 3, 1) := by decide +kernel
theorem d_X_torus_84 : decode m_X_torus.2.1 84 = .ok (.iload 4, 2) := by decide +kernel
theorem d_X_torus_86 : decode m_X_torus.2.1 86 = .ok (.iload 5, 2) := by decide +kernel
theorem d_X_torus_88 : decode m_X_torus.2.1 88 = .ok (.iload 6, 2) := by decide +kernel
theorem d_X_torus_90 : decode m_X_torus.2.1 90 = .ok (.invokevirtual 49, 3) := by decide +kernel
theorem d_X_torus_93 : decode m_X_torus.2.1 93 = .ok (.iconst 1, 1) := by decide +kernel
theorem d_X_torus_94 : decode m_X_torus.2.1 94 = .ok (.ireturn, 1) := by decide +kernel
def f_X_torus_70 (x1 x2 x3 x4 x5 x6 : Int) (w : qMem) : Option (Int × qMem) :=
  (f_G_lay 3 x1 x2 w).bind fun q1 =>
  (f_N_begin 2 x3 x4 x5 x6 q1).bind fun q2 =>
  some (1, q2)
set_option maxRecDepth 4000 in
theorem s_X_torus_70  : ∀ (x1 x2 x3 x4 x5 x6 : Int) (w : qMem), qSim κI 100 100 m_X_torus 70 [] [some (qR 1), some (qI x1), some (qI x2), some (qI x3), some (qI x4), some (qI x5), some (qI x6)] w (f_X_torus_70 x1 x2 x3 x4 x5 x6 w) := by
  intro x1 x2 x3 x4 x5 x6 w
  unfold f_X_torus_70
  refine z_aload_n d_X_torus_70 rfl ?_
  refine z_gr (ci := 9) (j := 2) (d := 2) (o2 := 3) d_X_torus_71 rfl fl_X_23 rfl (Nat.le_of_ble_eq_true rfl) rfl rfl ?_
  refine z_iload_n d_X_torus_74 rfl ?_
  refine z_iload_n d_X_torus_75 rfl ?_
  refine z_cVV (as := [qI x1, qI x2]) (st := []) (nl := 3) (ci := 0) d_X_torus_76 lk_X_61 mk_G_lay rfl rfl rfl rfl rfl rfl (s_G_lay _ _ is_3_100 _) (fun q1 _ => ?_)
  refine z_aload_n d_X_torus_79 rfl ?_
  refine z_gr (ci := 9) (j := 0) (d := 1) (o2 := 2) d_X_torus_80 rfl fl_X_12 rfl (Nat.le_of_ble_eq_true rfl) rfl rfl ?_
  refine z_iload_n d_X_torus_83 rfl ?_
  refine z_iload d_X_torus_84 rfl ?_
  refine z_iload d_X_torus_86 rfl ?_
  refine z_iload d_X_torus_88 rfl ?_
  refine z_cVV (as := [qI x3, qI x4, qI x5, qI x6]) (st := []) (nl := 0) (ci := 3) d_X_torus_90 lk_X_49 mk_N_begin rfl rfl rfl rfl rfl rfl (s_N_begin _ _ _ _ is_2_100 _) (fun q2 _ => ?_)
  refine z_ic1 d_X_torus_93 ?_
  exact z_zret d_X_torus_94 rfl rfl (Or.inr rfl)
def f_X_torus (x1 : Int) (x2 : Int) (x3 : Int) (x4 : Int) (x5 : Int) (x6 : Int) (w : qMem) : Option (Int × qMem) :=
  (f_X_within x1 2 4 w).bind fun q3 =>
  if q3.1 = 0 then
  some (0, q3.2)
  else
  (f_X_within x2 2 4 q3.2).bind fun q5 =>
  if q5.1 = 0 then
  some (0, q5.2)
  else
  (f_X_within x3 1 4 q5.2).bind fun q7 =>
  if q7.1 = 0 then
  some (0, q7.2)
  else
  (f_X_within x4 0 3 q7.2).bind fun q9 =>
  if q9.1 = 0 then
  some (0, q9.2)
  else
  (f_X_within x5 0 2 q9.2).bind fun q11 =>
  if q11.1 = 0 then
  some (0, q11.2)
  else
  (f_X_isBound x6 q11.2).bind fun q13 =>
  if q13.1 = 0 then
  some (0, q13.2)
  else
  if x5 = 1 then
  if x3 < 2 then
  some (0, q13.2)
  else
  f_X_torus_70 x1 x2 x3 x4 x5 x6 q13.2
  else
  f_X_torus_70 x1 x2 x3 x4 x5 x6 q13.2
set_option maxRecDepth 4000 in
theorem s_X_torus (x1 : Int) (x2 : Int) (x3 : Int) (x4 : Int) (x5 : Int) (x6 : Int) (w : qMem) : qSim κI 100 100 m_X_torus 0 [] [some (qR 1), some (qI x1), some (qI x2), some (qI x3), some (qI x4), some (qI x5), some (qI x6)] w (f_X_torus x1 x2 x3 x4 x5 x6 w) := by
  unfold f_X_torus
  refine z_iload_n d_X_torus_0 rfl ?_
  refine z_ic2 d_X_torus_1 ?_
  refine z_ic4 d_X_torus_2 ?_
  refine z_cSI (av := [qI x1, qI 2, qI 4]) (st := []) (nl := 0) d_X_torus_3 lk_X_53 mk_X_within rfl rfl rfl (s_X_within _ _ _ _) (fun q3 _ hq3 => ?_)
  refine z_if_eq (tgt := 37) d_X_torus_6 rfl (fun c4 => ?_) (fun c4 => ?_)
  · refine z_ic0 d_X_torus_37 ?_
    exact z_zret d_X_torus_38 rfl rfl (Or.inl rfl)
  · refine z_iload_n d_X_torus_9 rfl ?_
    refine z_ic2 d_X_torus_10 ?_
    refine z_ic4 d_X_torus_11 ?_
    refine z_cSI (av := [qI x2, qI 2, qI 4]) (st := []) (nl := 0) d_X_torus_12 lk_X_53 mk_X_within rfl rfl rfl (s_X_within _ _ _ _) (fun q5 _ hq5 => ?_)
    refine z_if_eq (tgt := 37) d_X_torus_15 rfl (fun c6 => ?_) (fun c6 => ?_)
    · refine z_ic0 d_X_torus_37 ?_
      exact z_zret d_X_torus_38 rfl rfl (Or.inl rfl)
    · refine z_iload_n d_X_torus_18 rfl ?_
      refine z_ic1 d_X_torus_19 ?_
      refine z_ic4 d_X_torus_20 ?_
      refine z_cSI (av := [qI x3, qI 1, qI 4]) (st := []) (nl := 0) d_X_torus_21 lk_X_53 mk_X_within rfl rfl rfl (s_X_within _ _ _ _) (fun q7 _ hq7 => ?_)
      refine z_if_eq (tgt := 37) d_X_torus_24 rfl (fun c8 => ?_) (fun c8 => ?_)
      · refine z_ic0 d_X_torus_37 ?_
        exact z_zret d_X_torus_38 rfl rfl (Or.inl rfl)
      · refine z_iload d_X_torus_27 rfl ?_
        refine z_ic0 d_X_torus_29 ?_
        refine z_ic3 d_X_torus_30 ?_
        refine z_cSI (av := [qI x4, qI 0, qI 3]) (st := []) (nl := 0) d_X_torus_31 lk_X_53 mk_X_within rfl rfl rfl (s_X_within _ _ _ _) (fun q9 _ hq9 => ?_)
        refine z_if_ne (tgt := 39) d_X_torus_34 rfl (fun c10 => ?_) (fun c10 => ?_)
        · refine z_ic0 d_X_torus_37 ?_
          exact z_zret d_X_torus_38 rfl rfl (Or.inl rfl)
        · refine z_iload d_X_torus_39 rfl ?_
          refine z_ic0 d_X_torus_41 ?_
          refine z_ic2 d_X_torus_42 ?_
          refine z_cSI (av := [qI x5, qI 0, qI 2]) (st := []) (nl := 0) d_X_torus_43 lk_X_53 mk_X_within rfl rfl rfl (s_X_within _ _ _ _) (fun q11 _ hq11 => ?_)
          refine z_if_eq (tgt := 68) d_X_torus_46 rfl (fun c12 => ?_) (fun c12 => ?_)
          · refine z_ic0 d_X_torus_68 ?_
            exact z_zret d_X_torus_69 rfl rfl (Or.inl rfl)
          · refine z_iload d_X_torus_49 rfl ?_
            refine z_cSI (av := [qI x6]) (st := []) (nl := 0) d_X_torus_51 lk_X_57 mk_X_isBound rfl rfl rfl (s_X_isBound _ _) (fun q13 _ hq13 => ?_)
            refine z_if_eq (tgt := 68) d_X_torus_54 rfl (fun c14 => ?_) (fun c14 => ?_)
            · refine z_ic0 d_X_torus_68 ?_
              exact z_zret d_X_torus_69 rfl rfl (Or.inl rfl)
            · refine z_iload d_X_torus_57 rfl ?_
              refine z_ic1 d_X_torus_59 ?_
              refine z_icmp_ne (tgt := 70) d_X_torus_60 rfl (fun c15 => ?_) (fun c15 => ?_)
              · refine z_iload_n d_X_torus_63 rfl ?_
                refine z_ic2 d_X_torus_64 ?_
                refine z_icmp_ge (tgt := 70) d_X_torus_65 rfl (fun c16 => ?_) (fun c16 => ?_)
                · refine z_ic0 d_X_torus_68 ?_
                  exact z_zret d_X_torus_69 rfl rfl (Or.inl rfl)
                · refine z_mask [true, true, true, true, true, true, true] ?_
                  exact s_X_torus_70 _ _ _ _ _ _ _
              · refine z_mask [true, true, true, true, true, true, true] ?_
                exact s_X_torus_70 _ _ _ _ _ _ _
/-! BubbleTorus.send -/
theorem d_X_send_0 : decode m_X_send.2.1 0 = .ok (.aload_n 0, 1) := by decide +kernel
theorem d_X_send_1 : decode m_X_send.2.1 1 = .ok (.getfield 12, 3) := by decide +kernel
theorem d_X_send_4 : decode m_X_send.2.1 4 = .ok (.iload_n 1, 1) := by decide +kernel
theorem d_X_send_5 : decode m_X_send.2.1 5 = .ok (.iload_n 2, 1) := by decide +kernel
theorem d_X_send_6 : decode m_X_send.2.1 6 = .ok (.invokevirtual 67, 3) := by decide +kernel
theorem d_X_send_9 : decode m_X_send.2.1 9 = .ok (.ireturn, 1) := by decide +kernel
def f_X_send (x1 : Int) (x2 : Int) (w : qMem) : Option (Int × qMem) :=
  (f_N_admit 2 x1 x2 w).bind fun q1 =>
  some (q1.1, q1.2)
set_option maxRecDepth 4000 in
theorem s_X_send (x1 : Int) (x2 : Int) (w : qMem) : qSim κI 100 100 m_X_send 0 [] [some (qR 1), some (qI x1), some (qI x2)] w (f_X_send x1 x2 w) := by
  unfold f_X_send
  refine z_aload_n d_X_send_0 rfl ?_
  refine z_gr (ci := 9) (j := 0) (d := 1) (o2 := 2) d_X_send_1 rfl fl_X_12 rfl (Nat.le_of_ble_eq_true rfl) rfl rfl ?_
  refine z_iload_n d_X_send_4 rfl ?_
  refine z_iload_n d_X_send_5 rfl ?_
  refine z_cVI (as := [qI x1, qI x2]) (st := []) (nl := 2) (ci := 3) d_X_send_6 lk_X_67 mk_N_admit rfl rfl rfl rfl rfl rfl (s_N_admit _ _ is_2_100 _) (fun q1 _ hq1 => ?_)
  exact z_iret d_X_send_9 rfl rfl
/-! BubbleTorus.draw -/
theorem d_X_draw_0 : decode m_X_draw.2.1 0 = .ok (.aload_n 0, 1) := by decide +kernel
theorem d_X_draw_1 : decode m_X_draw.2.1 1 = .ok (.aload_n 0, 1) := by decide +kernel
theorem d_X_draw_2 : decode m_X_draw.2.1 2 = .ok (.getfield 45, 3) := by decide +kernel
theorem d_X_draw_5 : decode m_X_draw.2.1 5 = .ok (.ldc_w 335, 3) := by decide +kernel
theorem d_X_draw_8 : decode m_X_draw.2.1 8 = .ok (.imul, 1) := by decide +kernel
theorem d_X_draw_9 : decode m_X_draw.2.1 9 = .ok (.ldc_w 336, 3) := by decide +kernel
theorem d_X_draw_12 : decode m_X_draw.2.1 12 = .ok (.iadd, 1) := by decide +kernel
theorem d_X_draw_13 : decode m_X_draw.2.1 13 = .ok (.putfield 45, 3) := by decide +kernel
theorem d_X_draw_16 : decode m_X_draw.2.1 16 = .ok (.iload_n 1, 1) := by decide +kernel
theorem d_X_draw_17 : decode m_X_draw.2.1 17 = .ok (.ifCond .le 15, 3) := by decide +kernel
theorem d_X_draw_20 : decode m_X_draw.2.1 20 = .ok (.aload_n 0, 1) := by decide +kernel
theorem d_X_draw_21 : decode m_X_draw.2.1 21 = .ok (.getfield 45, 3) := by decide +kernel
theorem d_X_draw_24 : decode m_X_draw.2.1 24 = .ok (.bipush 8, 2) := by decide +kernel
theorem d_X_draw_26 : decode m_X_draw.2.1 26 = .ok (.iushr, 1) := by decide +kernel
theorem d_X_draw_27 : decode m_X_draw.2.1 27 = .ok (.iload_n 1, 1) := by decide +kernel
theorem d_X_draw_28 : decode m_X_draw.2.1 28 = .ok (.irem, 1) := by decide +kernel
theorem d_X_draw_29 : decode m_X_draw.2.1 29 = .ok (.goto 4, 3) := by decide +kernel
theorem d_X_draw_32 : decode m_X_draw.2.1 32 = .ok (.iconst 0, 1) := by decide +kernel
theorem d_X_draw_33 : decode m_X_draw.2.1 33 = .ok (.ireturn, 1) := by decide +kernel
def f_X_draw (x1 : Int) (w : qMem) : Option (Int × qMem) :=
  qlt (qud w 1 6 (w32 ((w32 ((w 1 6) * 1664525)) + 1013904223))) fun w1 =>
  if x1 ≤ 0 then
  some (0, w1)
  else
  qdv x1 <|
  some ((jrem (jushr (w1 1 6) 8) x1), w1)
set_option maxRecDepth 4000 in
theorem s_X_draw (x1 : Int) (w : qMem) : qSim κI 100 100 m_X_draw 0 [] [some (qR 1), some (qI x1)] w (f_X_draw x1 w) := by
  unfold f_X_draw
  refine z_aload_n d_X_draw_0 rfl ?_
  refine z_aload_n d_X_draw_1 rfl ?_
  refine z_gi (ci := 9) (j := 6) (ji := 6) d_X_draw_2 rfl fl_X_45 rfl rfl rfl ?_
  refine z_ldc_w (n := 1664525) d_X_draw_5 ck_X_335 (by decide) ?_
  refine z_imul d_X_draw_8 ?_
  refine z_ldc_w (n := 1013904223) d_X_draw_9 ck_X_336 (by decide) ?_
  refine z_iadd d_X_draw_12 ?_
  refine z_pi (ci := 9) (j := 6) (ji := 6) d_X_draw_13 rfl fl_X_45 rfl rfl rfl rfl rfl (fun w1 => ?_)
  refine z_iload_n d_X_draw_16 rfl ?_
  refine z_if_le (tgt := 32) d_X_draw_17 rfl (fun c2 => ?_) (fun c2 => ?_)
  · refine z_ic0 d_X_draw_32 ?_
    exact z_iret d_X_draw_33 rfl rfl
  · refine z_aload_n d_X_draw_20 rfl ?_
    refine z_gi (ci := 9) (j := 6) (ji := 6) d_X_draw_21 rfl fl_X_45 rfl rfl rfl ?_
    refine z_bipush d_X_draw_24 ⟨by decide, by decide⟩ ?_
    refine z_iushr d_X_draw_26 ?_
    refine z_iload_n d_X_draw_27 rfl ?_
    refine z_irem d_X_draw_28 (fun _ => ?_)
    refine z_goto (tgt := 33) d_X_draw_29 rfl ?_
    exact z_iret d_X_draw_33 rfl rfl
/-! BubbleTorus.shower -/
theorem d_X_shower_0 : decode m_X_shower.2.1 0 = .ok (.iload_n 1, 1) := by decide +kernel
theorem d_X_shower_1 : decode m_X_shower.2.1 1 = .ok (.iconst 1, 1) := by decide +kernel
theorem d_X_shower_2 : decode m_X_shower.2.1 2 = .ok (.bipush 60, 2) := by decide +kernel
theorem d_X_shower_4 : decode m_X_shower.2.1 4 = .ok (.invokestatic 53, 3) := by decide +kernel
theorem d_X_shower_7 : decode m_X_shower.2.1 7 = .ok (.ifCond .ne 5, 3) := by decide +kernel
theorem d_X_shower_10 : decode m_X_shower.2.1 10 = .ok (.iconst (-1), 1) := by decide +kernel
theorem d_X_shower_11 : decode m_X_shower.2.1 11 = .ok (.ireturn, 1) := by decide +kernel
theorem d_X_shower_12 : decode m_X_shower.2.1 12 = .ok (.iconst 0, 1) := by decide +kernel
theorem d_X_shower_13 : decode m_X_shower.2.1 13 = .ok (.istore_n 2, 1) := by decide +kernel
theorem d_X_shower_14 : decode m_X_shower.2.1 14 = .ok (.iconst 0, 1) := by decide +kernel
theorem d_X_shower_15 : decode m_X_shower.2.1 15 = .ok (.istore_n 3, 1) := by decide +kernel
theorem d_X_shower_16 : decode m_X_shower.2.1 16 = .ok (.iload_n 3, 1) := by decide +kernel
theorem d_X_shower_17 : decode m_X_shower.2.1 17 = .ok (.iload_n 1, 1) := by decide +kernel
theorem d_X_shower_18 : decode m_X_shower.2.1 18 = .ok (.if_icmp .ge 61, 3) := by decide +kernel
theorem d_X_shower_21 : decode m_X_shower.2.1 21 = .ok (.aload_n 0, 1) := by decide +kernel
theorem d_X_shower_22 : decode m_X_shower.2.1 22 = .ok (.aload_n 0, 1) := by decide +kernel
theorem d_X_shower_23 : decode m_X_shower.2.1 23 = .ok (.getfield 23, 3) := by decide +kernel
theorem d_X_shower_26 : decode m_X_shower.2.1 26 = .ok (.getfield 71, 3) := by decide +kernel
theorem d_X_shower_29 : decode m_X_shower.2.1 29 = .ok (.invokevirtual 74, 3) := by decide +kernel
theorem d_X_shower_32 : decode m_X_shower.2.1 32 = .ok (.istore 4, 2) := by decide +kernel
theorem d_X_shower_34 : decode m_X_shower.2.1 34 = .ok (.aload_n 0, 1) := by decide +kernel
theorem d_X_shower_35 : decode m_X_shower.2.1 35 = .ok (.aload_n 0, 1) := by decide +kernel
theorem d_X_shower_36 : decode m_X_shower.2.1 36 = .ok (.getfield 23, 3) := by decide +kernel
theorem d_X_shower_39 : decode m_X_shower.2.1 39 = .ok (.getfield 71, 3) := by decide +kernel
theorem d_X_shower_42 : decode m_X_shower.2.1 42 = .ok (.iconst 1, 1) := by decide +kernel
theorem d_X_shower_43 : decode m_X_shower.2.1 43 = .ok (.isub, 1) := by decide +kernel
theorem d_X_shower_44 : decode m_X_shower.2.1 44 = .ok (.invokevirtual 74, 3) := by decide +kernel
theorem d_X_shower_47 : decode m_X_shower.2.1 47 = .ok (.istore 5, 2) := by decide +kernel
theorem d_X_shower_49 : decode m_X_shower.2.1 49 = .ok (.iload 5, 2) := by decide +kernel
theorem d_X_shower_51 : decode m_X_shower.2.1 51 = .ok (.iload 4, 2) := by decide +kernel
theorem d_X_shower_53 : decode m_X_shower.2.1 53 = .ok (.if_icmp .lt 6, 3) := by decide +kernel
theorem d_X_shower_56 : decode m_X_shower.2.1 56 = .ok (.iinc 5 1, 3) := by decide +kernel
theorem d_X_shower_59 : decode m_X_shower.2.1 59 = .ok (.iload_n 2, 1) := by decide +kernel
theorem d_X_shower_60 : decode m_X_shower.2.1 60 = .ok (.aload_n 0, 1) := by decide +kernel
theorem d_X_shower_61 : decode m_X_shower.2.1 61 = .ok (.getfield 12, 3) := by decide +kernel
theorem d_X_shower_64 : decode m_X_shower.2.1 64 = .ok (.iload 4, 2) := by decide +kernel
theorem d_X_shower_66 : decode m_X_shower.2.1 66 = .ok (.iload 5, 2) := by decide +kernel
theorem d_X_shower_68 : decode m_X_shower.2.1 68 = .ok (.invokevirtual 78, 3) := by decide +kernel
theorem d_X_shower_71 : decode m_X_shower.2.1 71 = .ok (.iadd, 1) := by decide +kernel
theorem d_X_shower_72 : decode m_X_shower.2.1 72 = .ok (.istore_n 2, 1) := by decide +kernel
theorem d_X_shower_73 : decode m_X_shower.2.1 73 = .ok (.iinc 3 1, 3) := by decide +kernel
theorem d_X_shower_76 : decode m_X_shower.2.1 76 = .ok (.goto (-60), 3) := by decide +kernel
theorem d_X_shower_79 : decode m_X_shower.2.1 79 = .ok (.iload_n 2, 1) := by decide +kernel
theorem d_X_shower_80 : decode m_X_shower.2.1 80 = .ok (.ireturn, 1) := by decide +kernel
def f_X_shower_59 (r16 : Int → Int → Int → qMem → Option (Int × qMem)) (x1 x2 x3 x4 x5 : Int) (w : qMem) : Option (Int × qMem) :=
  (f_N_admitOrLose 2 x4 x5 w).bind fun q1 =>
  r16 x1 (w32 (x2 + q1.1)) (w32 (x3 + 1)) q1.2
set_option maxRecDepth 4000 in
theorem s_X_shower_59  {r16 : Int → Int → Int → qMem → Option (Int × qMem)} (hr16 : ∀ x1 x2 x3 w, qSim κI 100 100 m_X_shower 16 [] [some (qR 1), some (qI x1), some (qI x2), some (qI x3), none, none] w (r16 x1 x2 x3 w)) : ∀ (x1 x2 x3 x4 x5 : Int) (w : qMem), qSim κI 100 100 m_X_shower 59 [] [some (qR 1), some (qI x1), some (qI x2), some (qI x3), some (qI x4), some (qI x5)] w (f_X_shower_59 r16 x1 x2 x3 x4 x5 w) := by
  intro x1 x2 x3 x4 x5 w
  unfold f_X_shower_59
  refine z_iload_n d_X_shower_59 rfl ?_
  refine z_aload_n d_X_shower_60 rfl ?_
  refine z_gr (ci := 9) (j := 0) (d := 1) (o2 := 2) d_X_shower_61 rfl fl_X_12 rfl (Nat.le_of_ble_eq_true rfl) rfl rfl ?_
  refine z_iload d_X_shower_64 rfl ?_
  refine z_iload d_X_shower_66 rfl ?_
  refine z_cVI (as := [qI x4, qI x5]) (st := [qI x2]) (nl := 0) (ci := 3) d_X_shower_68 lk_X_78 mk_N_admitOrLose rfl rfl rfl rfl rfl rfl (s_N_admitOrLose _ _ is_2_100 _) (fun q1 _ hq1 => ?_)
  refine z_iadd d_X_shower_71 ?_
  refine z_istore_n (pls' := [some (qR 1), some (qI x1), some (qI (w32 (x2 + q1.1))), some (qI x3), some (qI x4), some (qI x5)]) d_X_shower_72 (by decide) rfl rfl ?_
  refine z_iinc (pls' := [some (qR 1), some (qI x1), some (qI (w32 (x2 + q1.1))), some (qI (w32 (x3 + 1))), some (qI x4), some (qI x5)]) d_X_shower_73 (by decide) rfl rfl rfl ?_
  refine z_goto (tgt := 16) d_X_shower_76 rfl ?_
  refine z_mask [true, true, true, true, false, false] ?_
  exact hr16 _ _ _ _
def f_X_shower_16 : Nat → Int → Int → Int → qMem → Option (Int × qMem)
  | 0, _, _, _, _ => none
  | n + 1, x1, x2, x3, w =>
    if x3 < x1 then
    (f_X_draw (w 3 5) w).bind fun q3 =>
    (f_X_draw (w32 ((q3.2 3 5) - 1)) q3.2).bind fun q4 =>
    if q4.1 < q3.1 then
    f_X_shower_59 (f_X_shower_16 n) x1 x2 x3 q3.1 q4.1 q4.2
    else
    f_X_shower_59 (f_X_shower_16 n) x1 x2 x3 q3.1 (w32 (q4.1 + 1)) q4.2
    else
    some (x2, w)
set_option maxRecDepth 4000 in
theorem s_X_shower_16  : ∀ (n : Nat), ∀ (x1 x2 x3 : Int) (w : qMem), qSim κI 100 100 m_X_shower 16 [] [some (qR 1), some (qI x1), some (qI x2), some (qI x3), none, none] w (f_X_shower_16 n x1 x2 x3 w) := by
  intro n
  induction n with
  | zero => intro x1 x2 x3 w; exact z_none
  | succ n ih =>
    intro x1 x2 x3 w
    rw [f_X_shower_16]
    refine z_iload_n d_X_shower_16 rfl ?_
    refine z_iload_n d_X_shower_17 rfl ?_
    refine z_icmp_ge (tgt := 79) d_X_shower_18 rfl (fun c2 => ?_) (fun c2 => ?_)
    · refine z_aload_n d_X_shower_21 rfl ?_
      refine z_aload_n d_X_shower_22 rfl ?_
      refine z_gr (ci := 9) (j := 2) (d := 2) (o2 := 3) d_X_shower_23 rfl fl_X_23 rfl (Nat.le_of_ble_eq_true rfl) rfl rfl ?_
      refine z_gi (ci := 0) (j := 5) (ji := 5) d_X_shower_26 rfl fl_X_71 rfl rfl rfl ?_
      refine z_cVI (as := [qI (w 3 5)]) (st := []) (nl := 0) (ci := 9) d_X_shower_29 lk_X_74 mk_X_draw rfl rfl rfl rfl rfl rfl (s_X_draw _ _) (fun q3 _ hq3 => ?_)
      refine z_istore (pls' := [some (qR 1), some (qI x1), some (qI x2), some (qI x3), some (qI q3.1), none]) d_X_shower_32 (by decide) rfl rfl ?_
      refine z_aload_n d_X_shower_34 rfl ?_
      refine z_aload_n d_X_shower_35 rfl ?_
      refine z_gr (ci := 9) (j := 2) (d := 2) (o2 := 3) d_X_shower_36 rfl fl_X_23 rfl (Nat.le_of_ble_eq_true rfl) rfl rfl ?_
      refine z_gi (ci := 0) (j := 5) (ji := 5) d_X_shower_39 rfl fl_X_71 rfl rfl rfl ?_
      refine z_ic1 d_X_shower_42 ?_
      refine z_isub d_X_shower_43 ?_
      refine z_cVI (as := [qI (w32 ((q3.2 3 5) - 1))]) (st := []) (nl := 0) (ci := 9) d_X_shower_44 lk_X_74 mk_X_draw rfl rfl rfl rfl rfl rfl (s_X_draw _ _) (fun q4 _ hq4 => ?_)
      refine z_istore (pls' := [some (qR 1), some (qI x1), some (qI x2), some (qI x3), some (qI q3.1), some (qI q4.1)]) d_X_shower_47 (by decide) rfl rfl ?_
      refine z_iload d_X_shower_49 rfl ?_
      refine z_iload d_X_shower_51 rfl ?_
      refine z_icmp_lt (tgt := 59) d_X_shower_53 rfl (fun c5 => ?_) (fun c5 => ?_)
      · refine z_mask [true, true, true, true, true, true] ?_
        exact s_X_shower_59 ih _ _ _ _ _ _
      · refine z_iinc (pls' := [some (qR 1), some (qI x1), some (qI x2), some (qI x3), some (qI q3.1), some (qI (w32 (q4.1 + 1)))]) d_X_shower_56 (by decide) rfl rfl rfl ?_
        refine z_mask [true, true, true, true, true, true] ?_
        exact s_X_shower_59 ih _ _ _ _ _ _
    · refine z_iload_n d_X_shower_79 rfl ?_
      exact z_iret d_X_shower_80 rfl rfl
def f_X_shower (x1 : Int) (w : qMem) : Option (Int × qMem) :=
  (f_X_within x1 1 60 w).bind fun q6 =>
  if q6.1 = 0 then
  some ((-1), q6.2)
  else
  f_X_shower_16 qFU x1 0 0 q6.2
set_option maxRecDepth 4000 in
theorem s_X_shower (x1 : Int) (w : qMem) : qSim κI 100 100 m_X_shower 0 [] [some (qR 1), some (qI x1), none, none, none, none] w (f_X_shower x1 w) := by
  unfold f_X_shower
  refine z_iload_n d_X_shower_0 rfl ?_
  refine z_ic1 d_X_shower_1 ?_
  refine z_bipush d_X_shower_2 ⟨by decide, by decide⟩ ?_
  refine z_cSI (av := [qI x1, qI 1, qI 60]) (st := []) (nl := 0) d_X_shower_4 lk_X_53 mk_X_within rfl rfl rfl (s_X_within _ _ _ _) (fun q6 _ hq6 => ?_)
  refine z_if_ne (tgt := 12) d_X_shower_7 rfl (fun c7 => ?_) (fun c7 => ?_)
  · refine z_icm1 d_X_shower_10 ?_
    exact z_iret d_X_shower_11 rfl rfl
  · refine z_ic0 d_X_shower_12 ?_
    refine z_istore_n (pls' := [some (qR 1), some (qI x1), some (qI 0), none, none, none]) d_X_shower_13 (by decide) rfl rfl ?_
    refine z_ic0 d_X_shower_14 ?_
    refine z_istore_n (pls' := [some (qR 1), some (qI x1), some (qI 0), some (qI 0), none, none]) d_X_shower_15 (by decide) rfl rfl ?_
    refine z_mask [true, true, true, true, false, false] ?_
    exact s_X_shower_16 _ _ _ _ _
/-! BubbleTorus.pattern -/
theorem d_X_pattern_0 : decode m_X_pattern.2.1 0 = .ok (.iload_n 1, 1) := by decide +kernel
theorem d_X_pattern_1 : decode m_X_pattern.2.1 1 = .ok (.iconst 0, 1) := by decide +kernel
theorem d_X_pattern_2 : decode m_X_pattern.2.1 2 = .ok (.iconst 4, 1) := by decide +kernel
theorem d_X_pattern_3 : decode m_X_pattern.2.1 3 = .ok (.invokestatic 53, 3) := by decide +kernel
theorem d_X_pattern_6 : decode m_X_pattern.2.1 6 = .ok (.ifCond .eq 19, 3) := by decide +kernel
theorem d_X_pattern_9 : decode m_X_pattern.2.1 9 = .ok (.iload_n 1, 1) := by decide +kernel
theorem d_X_pattern_10 : decode m_X_pattern.2.1 10 = .ok (.iconst 4, 1) := by decide +kernel
theorem d_X_pattern_11 : decode m_X_pattern.2.1 11 = .ok (.if_icmp .ne 16, 3) := by decide +kernel
theorem d_X_pattern_14 : decode m_X_pattern.2.1 14 = .ok (.aload_n 0, 1) := by decide +kernel
theorem d_X_pattern_15 : decode m_X_pattern.2.1 15 = .ok (.getfield 23, 3) := by decide +kernel
theorem d_X_pattern_18 : decode m_X_pattern.2.1 18 = .ok (.iload_n 2, 1) := by decide +kernel
theorem d_X_pattern_19 : decode m_X_pattern.2.1 19 = .ok (.invokevirtual 81, 3) := by decide +kernel
theorem d_X_pattern_22 : decode m_X_pattern.2.1 22 = .ok (.ifCond .ne 5, 3) := by decide +kernel
theorem d_X_pattern_25 : decode m_X_pattern.2.1 25 = .ok (.iconst (-1), 1) := by decide +kernel
theorem d_X_pattern_26 : decode m_X_pattern.2.1 26 = .ok (.ireturn, 1) := by decide +kernel
theorem d_X_pattern_27 : decode m_X_pattern.2.1 27 = .ok (.iconst 0, 1) := by decide +kernel
theorem d_X_pattern_28 : decode m_X_pattern.2.1 28 = .ok (.istore_n 3, 1) := by decide +kernel
theorem d_X_pattern_29 : decode m_X_pattern.2.1 29 = .ok (.iconst 0, 1) := by decide +kernel
theorem d_X_pattern_30 : decode m_X_pattern.2.1 30 = .ok (.istore 4, 2) := by decide +kernel
theorem d_X_pattern_32 : decode m_X_pattern.2.1 32 = .ok (.iload 4, 2) := by decide +kernel
theorem d_X_pattern_34 : decode m_X_pattern.2.1 34 = .ok (.aload_n 0, 1) := by decide +kernel
theorem d_X_pattern_35 : decode m_X_pattern.2.1 35 = .ok (.getfield 23, 3) := by decide +kernel
theorem d_X_pattern_38 : decode m_X_pattern.2.1 38 = .ok (.getfield 71, 3) := by decide +kernel
theorem d_X_pattern_41 : decode m_X_pattern.2.1 41 = .ok (.if_icmp .ge 51, 3) := by decide +kernel
theorem d_X_pattern_44 : decode m_X_pattern.2.1 44 = .ok (.iload_n 1, 1) := by decide +kernel
theorem d_X_pattern_45 : decode m_X_pattern.2.1 45 = .ok (.iconst 4, 1) := by decide +kernel
theorem d_X_pattern_46 : decode m_X_pattern.2.1 46 = .ok (.if_icmp .ne 7, 3) := by decide +kernel
theorem d_X_pattern_49 : decode m_X_pattern.2.1 49 = .ok (.iload_n 2, 1) := by decide +kernel
theorem d_X_pattern_50 : decode m_X_pattern.2.1 50 = .ok (.goto 13, 3) := by decide +kernel
theorem d_X_pattern_53 : decode m_X_pattern.2.1 53 = .ok (.aload_n 0, 1) := by decide +kernel
theorem d_X_pattern_54 : decode m_X_pattern.2.1 54 = .ok (.getfield 23, 3) := by decide +kernel
theorem d_X_pattern_57 : decode m_X_pattern.2.1 57 = .ok (.iload_n 1, 1) := by decide +kernel
theorem d_X_pattern_58 : decode m_X_pattern.2.1 58 = .ok (.iload 4, 2) := by decide +kernel
theorem d_X_pattern_60 : decode m_X_pattern.2.1 60 = .ok (.invokevirtual 84, 3) := by decide +kernel
theorem d_X_pattern_63 : decode m_X_pattern.2.1 63 = .ok (.istore 5, 2) := by decide +kernel
theorem d_X_pattern_65 : decode m_X_pattern.2.1 65 = .ok (.iload 5, 2) := by decide +kernel
theorem d_X_pattern_67 : decode m_X_pattern.2.1 67 = .ok (.iload 4, 2) := by decide +kernel
theorem d_X_pattern_69 : decode m_X_pattern.2.1 69 = .ok (.if_icmp .eq 17, 3) := by decide +kernel
theorem d_X_pattern_72 : decode m_X_pattern.2.1 72 = .ok (.iload_n 3, 1) := by decide +kernel
theorem d_X_pattern_73 : decode m_X_pattern.2.1 73 = .ok (.aload_n 0, 1) := by decide +kernel
theorem d_X_pattern_74 : decode m_X_pattern.2.1 74 = .ok (.getfield 12, 3) := by decide +kernel
theorem d_X_pattern_77 : decode m_X_pattern.2.1 77 = .ok (.iload 4, 2) := by decide +kernel
theorem d_X_pattern_79 : decode m_X_pattern.2.1 79 = .ok (.iload 5, 2) := by decide +kernel
theorem d_X_pattern_81 : decode m_X_pattern.2.1 81 = .ok (.invokevirtual 78, 3) := by decide +kernel
theorem d_X_pattern_84 : decode m_X_pattern.2.1 84 = .ok (.iadd, 1) := by decide +kernel
theorem d_X_pattern_85 : decode m_X_pattern.2.1 85 = .ok (.istore_n 3, 1) := by decide +kernel
theorem d_X_pattern_86 : decode m_X_pattern.2.1 86 = .ok (.iinc 4 1, 3) := by decide +kernel
theorem d_X_pattern_89 : decode m_X_pattern.2.1 89 = .ok (.goto (-57), 3) := by decide +kernel
theorem d_X_pattern_92 : decode m_X_pattern.2.1 92 = .ok (.iload_n 3, 1) := by decide +kernel
theorem d_X_pattern_93 : decode m_X_pattern.2.1 93 = .ok (.ireturn, 1) := by decide +kernel
def f_X_pattern_63 (r32 : Int → Int → Int → Int → qMem → Option (Int × qMem)) (s0 x1 x2 x3 x4 : Int) (w : qMem) : Option (Int × qMem) :=
  if s0 = x4 then
  r32 x1 x2 x3 (w32 (x4 + 1)) w
  else
  (f_N_admitOrLose 2 x4 s0 w).bind fun q2 =>
  r32 x1 x2 (w32 (x3 + q2.1)) (w32 (x4 + 1)) q2.2
set_option maxRecDepth 4000 in
theorem s_X_pattern_63  {r32 : Int → Int → Int → Int → qMem → Option (Int × qMem)} (hr32 : ∀ x1 x2 x3 x4 w, qSim κI 100 100 m_X_pattern 32 [] [some (qR 1), some (qI x1), some (qI x2), some (qI x3), some (qI x4), none] w (r32 x1 x2 x3 x4 w)) : ∀ (s0 x1 x2 x3 x4 : Int) (w : qMem), qSim κI 100 100 m_X_pattern 63 [qI s0] [some (qR 1), some (qI x1), some (qI x2), some (qI x3), some (qI x4), none] w (f_X_pattern_63 r32 s0 x1 x2 x3 x4 w) := by
  intro s0 x1 x2 x3 x4 w
  unfold f_X_pattern_63
  refine z_istore (pls' := [some (qR 1), some (qI x1), some (qI x2), some (qI x3), some (qI x4), some (qI s0)]) d_X_pattern_63 (by decide) rfl rfl ?_
  refine z_iload d_X_pattern_65 rfl ?_
  refine z_iload d_X_pattern_67 rfl ?_
  refine z_icmp_eq (tgt := 86) d_X_pattern_69 rfl (fun c1 => ?_) (fun c1 => ?_)
  · refine z_iinc (pls' := [some (qR 1), some (qI x1), some (qI x2), some (qI x3), some (qI (w32 (x4 + 1))), some (qI s0)]) d_X_pattern_86 (by decide) rfl rfl rfl ?_
    refine z_goto (tgt := 32) d_X_pattern_89 rfl ?_
    refine z_mask [true, true, true, true, true, false] ?_
    exact hr32 _ _ _ _ _
  · refine z_iload_n d_X_pattern_72 rfl ?_
    refine z_aload_n d_X_pattern_73 rfl ?_
    refine z_gr (ci := 9) (j := 0) (d := 1) (o2 := 2) d_X_pattern_74 rfl fl_X_12 rfl (Nat.le_of_ble_eq_true rfl) rfl rfl ?_
    refine z_iload d_X_pattern_77 rfl ?_
    refine z_iload d_X_pattern_79 rfl ?_
    refine z_cVI (as := [qI x4, qI s0]) (st := [qI x3]) (nl := 0) (ci := 3) d_X_pattern_81 lk_X_78 mk_N_admitOrLose rfl rfl rfl rfl rfl rfl (s_N_admitOrLose _ _ is_2_100 _) (fun q2 _ hq2 => ?_)
    refine z_iadd d_X_pattern_84 ?_
    refine z_istore_n (pls' := [some (qR 1), some (qI x1), some (qI x2), some (qI (w32 (x3 + q2.1))), some (qI x4), some (qI s0)]) d_X_pattern_85 (by decide) rfl rfl ?_
    refine z_iinc (pls' := [some (qR 1), some (qI x1), some (qI x2), some (qI (w32 (x3 + q2.1))), some (qI (w32 (x4 + 1))), some (qI s0)]) d_X_pattern_86 (by decide) rfl rfl rfl ?_
    refine z_goto (tgt := 32) d_X_pattern_89 rfl ?_
    refine z_mask [true, true, true, true, true, false] ?_
    exact hr32 _ _ _ _ _
def f_X_pattern_32 : Nat → Int → Int → Int → Int → qMem → Option (Int × qMem)
  | 0, _, _, _, _, _ => none
  | n + 1, x1, x2, x3, x4, w =>
    if x4 < (w 3 5) then
    if x1 = 4 then
    f_X_pattern_63 (f_X_pattern_32 n) x2 x1 x2 x3 x4 w
    else
    (f_G_aimOf 3 x1 x4 w).bind fun q5 =>
    f_X_pattern_63 (f_X_pattern_32 n) q5.1 x1 x2 x3 x4 q5.2
    else
    some (x3, w)
set_option maxRecDepth 4000 in
theorem s_X_pattern_32  : ∀ (n : Nat), ∀ (x1 x2 x3 x4 : Int) (w : qMem), qSim κI 100 100 m_X_pattern 32 [] [some (qR 1), some (qI x1), some (qI x2), some (qI x3), some (qI x4), none] w (f_X_pattern_32 n x1 x2 x3 x4 w) := by
  intro n
  induction n with
  | zero => intro x1 x2 x3 x4 w; exact z_none
  | succ n ih =>
    intro x1 x2 x3 x4 w
    rw [f_X_pattern_32]
    refine z_iload d_X_pattern_32 rfl ?_
    refine z_aload_n d_X_pattern_34 rfl ?_
    refine z_gr (ci := 9) (j := 2) (d := 2) (o2 := 3) d_X_pattern_35 rfl fl_X_23 rfl (Nat.le_of_ble_eq_true rfl) rfl rfl ?_
    refine z_gi (ci := 0) (j := 5) (ji := 5) d_X_pattern_38 rfl fl_X_71 rfl rfl rfl ?_
    refine z_icmp_ge (tgt := 92) d_X_pattern_41 rfl (fun c3 => ?_) (fun c3 => ?_)
    · refine z_iload_n d_X_pattern_44 rfl ?_
      refine z_ic4 d_X_pattern_45 ?_
      refine z_icmp_ne (tgt := 53) d_X_pattern_46 rfl (fun c4 => ?_) (fun c4 => ?_)
      · refine z_iload_n d_X_pattern_49 rfl ?_
        refine z_goto (tgt := 63) d_X_pattern_50 rfl ?_
        refine z_mask [true, true, true, true, true, false] ?_
        exact s_X_pattern_63 ih _ _ _ _ _ _
      · refine z_aload_n d_X_pattern_53 rfl ?_
        refine z_gr (ci := 9) (j := 2) (d := 2) (o2 := 3) d_X_pattern_54 rfl fl_X_23 rfl (Nat.le_of_ble_eq_true rfl) rfl rfl ?_
        refine z_iload_n d_X_pattern_57 rfl ?_
        refine z_iload d_X_pattern_58 rfl ?_
        refine z_cVI (as := [qI x1, qI x4]) (st := []) (nl := 2) (ci := 0) d_X_pattern_60 lk_X_84 mk_G_aimOf rfl rfl rfl rfl rfl rfl (s_G_aimOf _ _ is_3_100 _) (fun q5 _ hq5 => ?_)
        refine z_mask [true, true, true, true, true, false] ?_
        exact s_X_pattern_63 ih _ _ _ _ _ _
    · refine z_iload_n d_X_pattern_92 rfl ?_
      exact z_iret d_X_pattern_93 rfl rfl
def f_X_pattern_27 (x1 x2 : Int) (w : qMem) : Option (Int × qMem) :=
  f_X_pattern_32 qFU x1 x2 0 0 w
set_option maxRecDepth 4000 in
theorem s_X_pattern_27  : ∀ (x1 x2 : Int) (w : qMem), qSim κI 100 100 m_X_pattern 27 [] [some (qR 1), some (qI x1), some (qI x2), none, none, none] w (f_X_pattern_27 x1 x2 w) := by
  intro x1 x2 w
  unfold f_X_pattern_27
  refine z_ic0 d_X_pattern_27 ?_
  refine z_istore_n (pls' := [some (qR 1), some (qI x1), some (qI x2), some (qI 0), none, none]) d_X_pattern_28 (by decide) rfl rfl ?_
  refine z_ic0 d_X_pattern_29 ?_
  refine z_istore (pls' := [some (qR 1), some (qI x1), some (qI x2), some (qI 0), some (qI 0), none]) d_X_pattern_30 (by decide) rfl rfl ?_
  refine z_mask [true, true, true, true, true, false] ?_
  exact s_X_pattern_32 _ _ _ _ _ _
def f_X_pattern (x1 : Int) (x2 : Int) (w : qMem) : Option (Int × qMem) :=
  (f_X_within x1 0 4 w).bind fun q6 =>
  if q6.1 = 0 then
  some ((-1), q6.2)
  else
  if x1 = 4 then
  (f_G_hasNode 3 x2 q6.2).bind fun q9 =>
  if q9.1 = 0 then
  some ((-1), q9.2)
  else
  f_X_pattern_27 x1 x2 q9.2
  else
  f_X_pattern_27 x1 x2 q6.2
set_option maxRecDepth 4000 in
theorem s_X_pattern (x1 : Int) (x2 : Int) (w : qMem) : qSim κI 100 100 m_X_pattern 0 [] [some (qR 1), some (qI x1), some (qI x2), none, none, none] w (f_X_pattern x1 x2 w) := by
  unfold f_X_pattern
  refine z_iload_n d_X_pattern_0 rfl ?_
  refine z_ic0 d_X_pattern_1 ?_
  refine z_ic4 d_X_pattern_2 ?_
  refine z_cSI (av := [qI x1, qI 0, qI 4]) (st := []) (nl := 0) d_X_pattern_3 lk_X_53 mk_X_within rfl rfl rfl (s_X_within _ _ _ _) (fun q6 _ hq6 => ?_)
  refine z_if_eq (tgt := 25) d_X_pattern_6 rfl (fun c7 => ?_) (fun c7 => ?_)
  · refine z_icm1 d_X_pattern_25 ?_
    exact z_iret d_X_pattern_26 rfl rfl
  · refine z_iload_n d_X_pattern_9 rfl ?_
    refine z_ic4 d_X_pattern_10 ?_
    refine z_icmp_ne (tgt := 27) d_X_pattern_11 rfl (fun c8 => ?_) (fun c8 => ?_)
    · refine z_aload_n d_X_pattern_14 rfl ?_
      refine z_gr (ci := 9) (j := 2) (d := 2) (o2 := 3) d_X_pattern_15 rfl fl_X_23 rfl (Nat.le_of_ble_eq_true rfl) rfl rfl ?_
      refine z_iload_n d_X_pattern_18 rfl ?_
      refine z_cVI (as := [qI x2]) (st := []) (nl := 0) (ci := 0) d_X_pattern_19 lk_X_81 mk_G_hasNode rfl rfl rfl rfl rfl rfl (s_G_hasNode _ is_3_100 _) (fun q9 _ hq9 => ?_)
      refine z_if_ne (tgt := 27) d_X_pattern_22 rfl (fun c10 => ?_) (fun c10 => ?_)
      · refine z_icm1 d_X_pattern_25 ?_
        exact z_iret d_X_pattern_26 rfl rfl
      · refine z_mask [true, true, true, false, false, false] ?_
        exact s_X_pattern_27 _ _ _
    · refine z_mask [true, true, true, false, false, false] ?_
      exact s_X_pattern_27 _ _ _
/-! BubbleTorus.tick -/
theorem d_X_tick_0 : decode m_X_tick.2.1 0 = .ok (.iload_n 1, 1) := by decide +kernel
theorem d_X_tick_1 : decode m_X_tick.2.1 1 = .ok (.iconst 1, 1) := by decide +kernel
theorem d_X_tick_2 : decode m_X_tick.2.1 2 = .ok (.bipush 100, 2) := by decide +kernel
theorem d_X_tick_4 : decode m_X_tick.2.1 4 = .ok (.invokestatic 53, 3) := by decide +kernel
theorem d_X_tick_7 : decode m_X_tick.2.1 7 = .ok (.ifCond .ne 5, 3) := by decide +kernel
theorem d_X_tick_10 : decode m_X_tick.2.1 10 = .ok (.iconst (-1), 1) := by decide +kernel
theorem d_X_tick_11 : decode m_X_tick.2.1 11 = .ok (.ireturn, 1) := by decide +kernel
theorem d_X_tick_12 : decode m_X_tick.2.1 12 = .ok (.iconst 0, 1) := by decide +kernel
theorem d_X_tick_13 : decode m_X_tick.2.1 13 = .ok (.istore_n 2, 1) := by decide +kernel
theorem d_X_tick_14 : decode m_X_tick.2.1 14 = .ok (.iconst 0, 1) := by decide +kernel
theorem d_X_tick_15 : decode m_X_tick.2.1 15 = .ok (.istore_n 3, 1) := by decide +kernel
theorem d_X_tick_16 : decode m_X_tick.2.1 16 = .ok (.iload_n 3, 1) := by decide +kernel
theorem d_X_tick_17 : decode m_X_tick.2.1 17 = .ok (.iload_n 1, 1) := by decide +kernel
theorem d_X_tick_18 : decode m_X_tick.2.1 18 = .ok (.if_icmp .ge 19, 3) := by decide +kernel
theorem d_X_tick_21 : decode m_X_tick.2.1 21 = .ok (.iload_n 2, 1) := by decide +kernel
theorem d_X_tick_22 : decode m_X_tick.2.1 22 = .ok (.aload_n 0, 1) := by decide +kernel
theorem d_X_tick_23 : decode m_X_tick.2.1 23 = .ok (.getfield 12, 3) := by decide +kernel
theorem d_X_tick_26 : decode m_X_tick.2.1 26 = .ok (.invokevirtual 87, 3) := by decide +kernel
theorem d_X_tick_29 : decode m_X_tick.2.1 29 = .ok (.iadd, 1) := by decide +kernel
theorem d_X_tick_30 : decode m_X_tick.2.1 30 = .ok (.istore_n 2, 1) := by decide +kernel
theorem d_X_tick_31 : decode m_X_tick.2.1 31 = .ok (.iinc 3 1, 3) := by decide +kernel
theorem d_X_tick_34 : decode m_X_tick.2.1 34 = .ok (.goto (-18), 3) := by decide +kernel
theorem d_X_tick_37 : decode m_X_tick.2.1 37 = .ok (.iload_n 2, 1) := by decide +kernel
theorem d_X_tick_38 : decode m_X_tick.2.1 38 = .ok (.ireturn, 1) := by decide +kernel
def f_X_tick_16 : Nat → Int → Int → Int → qMem → Option (Int × qMem)
  | 0, _, _, _, _ => none
  | n + 1, x1, x2, x3, w =>
    if x3 < x1 then
    (f_N_runTick 2 w).bind fun q2 =>
    (f_X_tick_16 n) x1 (w32 (x2 + q2.1)) (w32 (x3 + 1)) q2.2
    else
    some (x2, w)
set_option maxRecDepth 4000 in
theorem s_X_tick_16  : ∀ (n : Nat), ∀ (x1 x2 x3 : Int) (w : qMem), qSim κI 100 100 m_X_tick 16 [] [some (qR 1), some (qI x1), some (qI x2), some (qI x3)] w (f_X_tick_16 n x1 x2 x3 w) := by
  intro n
  induction n with
  | zero => intro x1 x2 x3 w; exact z_none
  | succ n ih =>
    intro x1 x2 x3 w
    rw [f_X_tick_16]
    refine z_iload_n d_X_tick_16 rfl ?_
    refine z_iload_n d_X_tick_17 rfl ?_
    refine z_icmp_ge (tgt := 37) d_X_tick_18 rfl (fun c1 => ?_) (fun c1 => ?_)
    · refine z_iload_n d_X_tick_21 rfl ?_
      refine z_aload_n d_X_tick_22 rfl ?_
      refine z_gr (ci := 9) (j := 0) (d := 1) (o2 := 2) d_X_tick_23 rfl fl_X_12 rfl (Nat.le_of_ble_eq_true rfl) rfl rfl ?_
      refine z_cVI (as := []) (st := [qI x2]) (nl := 5) (ci := 3) d_X_tick_26 lk_X_87 mk_N_runTick rfl rfl rfl rfl rfl rfl (s_N_runTick is_2_100 _) (fun q2 _ hq2 => ?_)
      refine z_iadd d_X_tick_29 ?_
      refine z_istore_n (pls' := [some (qR 1), some (qI x1), some (qI (w32 (x2 + q2.1))), some (qI x3)]) d_X_tick_30 (by decide) rfl rfl ?_
      refine z_iinc (pls' := [some (qR 1), some (qI x1), some (qI (w32 (x2 + q2.1))), some (qI (w32 (x3 + 1)))]) d_X_tick_31 (by decide) rfl rfl rfl ?_
      refine z_goto (tgt := 16) d_X_tick_34 rfl ?_
      refine z_mask [true, true, true, true] ?_
      exact ih _ _ _ _
    · refine z_iload_n d_X_tick_37 rfl ?_
      exact z_iret d_X_tick_38 rfl rfl
def f_X_tick (x1 : Int) (w : qMem) : Option (Int × qMem) :=
  (f_X_within x1 1 100 w).bind fun q3 =>
  if q3.1 = 0 then
  some ((-1), q3.2)
  else
  f_X_tick_16 qFU x1 0 0 q3.2
set_option maxRecDepth 4000 in
theorem s_X_tick (x1 : Int) (w : qMem) : qSim κI 100 100 m_X_tick 0 [] [some (qR 1), some (qI x1), none, none] w (f_X_tick x1 w) := by
  unfold f_X_tick
  refine z_iload_n d_X_tick_0 rfl ?_
  refine z_ic1 d_X_tick_1 ?_
  refine z_bipush d_X_tick_2 ⟨by decide, by decide⟩ ?_
  refine z_cSI (av := [qI x1, qI 1, qI 100]) (st := []) (nl := 0) d_X_tick_4 lk_X_53 mk_X_within rfl rfl rfl (s_X_within _ _ _ _) (fun q3 _ hq3 => ?_)
  refine z_if_ne (tgt := 12) d_X_tick_7 rfl (fun c4 => ?_) (fun c4 => ?_)
  · refine z_icm1 d_X_tick_10 ?_
    exact z_iret d_X_tick_11 rfl rfl
  · refine z_ic0 d_X_tick_12 ?_
    refine z_istore_n (pls' := [some (qR 1), some (qI x1), some (qI 0), none]) d_X_tick_13 (by decide) rfl rfl ?_
    refine z_ic0 d_X_tick_14 ?_
    refine z_istore_n (pls' := [some (qR 1), some (qI x1), some (qI 0), some (qI 0)]) d_X_tick_15 (by decide) rfl rfl ?_
    refine z_mask [true, true, true, true] ?_
    exact s_X_tick_16 _ _ _ _ _
/-! BubbleTorus.state -/
theorem d_X_state_0 : decode m_X_state.2.1 0 = .ok (.aload_n 0, 1) := by decide +kernel
theorem d_X_state_1 : decode m_X_state.2.1 1 = .ok (.getfield 45, 3) := by decide +kernel
theorem d_X_state_4 : decode m_X_state.2.1 4 = .ok (.istore_n 2, 1) := by decide +kernel
theorem d_X_state_5 : decode m_X_state.2.1 5 = .ok (.aload_n 0, 1) := by decide +kernel
theorem d_X_state_6 : decode m_X_state.2.1 6 = .ok (.iload_n 1, 1) := by decide +kernel
theorem d_X_state_7 : decode m_X_state.2.1 7 = .ok (.putfield 45, 3) := by decide +kernel
theorem d_X_state_10 : decode m_X_state.2.1 10 = .ok (.iload_n 2, 1) := by decide +kernel
theorem d_X_state_11 : decode m_X_state.2.1 11 = .ok (.ireturn, 1) := by decide +kernel
def f_X_state (x1 : Int) (w : qMem) : Option (Int × qMem) :=
  qlt (qud w 1 6 x1) fun w1 =>
  some ((w 1 6), w1)
set_option maxRecDepth 4000 in
theorem s_X_state (x1 : Int) (w : qMem) : qSim κI 100 100 m_X_state 0 [] [some (qR 1), some (qI x1), none] w (f_X_state x1 w) := by
  unfold f_X_state
  refine z_aload_n d_X_state_0 rfl ?_
  refine z_gi (ci := 9) (j := 6) (ji := 6) d_X_state_1 rfl fl_X_45 rfl rfl rfl ?_
  refine z_istore_n (pls' := [some (qR 1), some (qI x1), some (qI (w 1 6))]) d_X_state_4 (by decide) rfl rfl ?_
  refine z_aload_n d_X_state_5 rfl ?_
  refine z_iload_n d_X_state_6 rfl ?_
  refine z_pi (ci := 9) (j := 6) (ji := 6) d_X_state_7 rfl fl_X_45 rfl rfl rfl rfl rfl (fun w1 => ?_)
  refine z_iload_n d_X_state_10 rfl ?_
  exact z_iret d_X_state_11 rfl rfl
/-! BubbleTorus.bound -/
theorem d_X_bound_0 : decode m_X_bound.2.1 0 = .ok (.iload_n 1, 1) := by decide +kernel
theorem d_X_bound_1 : decode m_X_bound.2.1 1 = .ok (.invokestatic 57, 3) := by decide +kernel
theorem d_X_bound_4 : decode m_X_bound.2.1 4 = .ok (.ifCond .ne 5, 3) := by decide +kernel
theorem d_X_bound_7 : decode m_X_bound.2.1 7 = .ok (.iconst 0, 1) := by decide +kernel
theorem d_X_bound_8 : decode m_X_bound.2.1 8 = .ok (.ireturn, 1) := by decide +kernel
theorem d_X_bound_9 : decode m_X_bound.2.1 9 = .ok (.aload_n 0, 1) := by decide +kernel
theorem d_X_bound_10 : decode m_X_bound.2.1 10 = .ok (.getfield 12, 3) := by decide +kernel
theorem d_X_bound_13 : decode m_X_bound.2.1 13 = .ok (.iload_n 1, 1) := by decide +kernel
theorem d_X_bound_14 : decode m_X_bound.2.1 14 = .ok (.putfield 91, 3) := by decide +kernel
theorem d_X_bound_17 : decode m_X_bound.2.1 17 = .ok (.iconst 1, 1) := by decide +kernel
theorem d_X_bound_18 : decode m_X_bound.2.1 18 = .ok (.ireturn, 1) := by decide +kernel
def f_X_bound (x1 : Int) (w : qMem) : Option (Int × qMem) :=
  (f_X_isBound x1 w).bind fun q1 =>
  if q1.1 = 0 then
  some (0, q1.2)
  else
  qlt (qud q1.2 2 9 x1) fun w3 =>
  some (1, w3)
set_option maxRecDepth 4000 in
theorem s_X_bound (x1 : Int) (w : qMem) : qSim κI 100 100 m_X_bound 0 [] [some (qR 1), some (qI x1)] w (f_X_bound x1 w) := by
  unfold f_X_bound
  refine z_iload_n d_X_bound_0 rfl ?_
  refine z_cSI (av := [qI x1]) (st := []) (nl := 0) d_X_bound_1 lk_X_57 mk_X_isBound rfl rfl rfl (s_X_isBound _ _) (fun q1 _ hq1 => ?_)
  refine z_if_ne (tgt := 9) d_X_bound_4 rfl (fun c2 => ?_) (fun c2 => ?_)
  · refine z_ic0 d_X_bound_7 ?_
    exact z_zret d_X_bound_8 rfl rfl (Or.inl rfl)
  · refine z_aload_n d_X_bound_9 rfl ?_
    refine z_gr (ci := 9) (j := 0) (d := 1) (o2 := 2) d_X_bound_10 rfl fl_X_12 rfl (Nat.le_of_ble_eq_true rfl) rfl rfl ?_
    refine z_iload_n d_X_bound_13 rfl ?_
    refine z_pi (ci := 3) (j := 9) (ji := 9) d_X_bound_14 rfl fl_X_91 rfl rfl rfl rfl rfl (fun w3 => ?_)
    refine z_ic1 d_X_bound_17 ?_
    exact z_zret d_X_bound_18 rfl rfl (Or.inr rfl)
/-! BubbleTorus.packet -/
theorem d_X_packet_0 : decode m_X_packet.2.1 0 = .ok (.aload_n 0, 1) := by decide +kernel
theorem d_X_packet_1 : decode m_X_packet.2.1 1 = .ok (.getfield 12, 3) := by decide +kernel
theorem d_X_packet_4 : decode m_X_packet.2.1 4 = .ok (.getfield 94, 3) := by decide +kernel
theorem d_X_packet_7 : decode m_X_packet.2.1 7 = .ok (.iload_n 1, 1) := by decide +kernel
theorem d_X_packet_8 : decode m_X_packet.2.1 8 = .ok (.invokevirtual 98, 3) := by decide +kernel
theorem d_X_packet_11 : decode m_X_packet.2.1 11 = .ok (.ifCond .eq 18, 3) := by decide +kernel
theorem d_X_packet_14 : decode m_X_packet.2.1 14 = .ok (.aload_n 0, 1) := by decide +kernel
theorem d_X_packet_15 : decode m_X_packet.2.1 15 = .ok (.getfield 12, 3) := by decide +kernel
theorem d_X_packet_18 : decode m_X_packet.2.1 18 = .ok (.getfield 94, 3) := by decide +kernel
theorem d_X_packet_21 : decode m_X_packet.2.1 21 = .ok (.iload_n 1, 1) := by decide +kernel
theorem d_X_packet_22 : decode m_X_packet.2.1 22 = .ok (.iload_n 2, 1) := by decide +kernel
theorem d_X_packet_23 : decode m_X_packet.2.1 23 = .ok (.invokevirtual 103, 3) := by decide +kernel
theorem d_X_packet_26 : decode m_X_packet.2.1 26 = .ok (.goto 4, 3) := by decide +kernel
theorem d_X_packet_29 : decode m_X_packet.2.1 29 = .ok (.iconst (-1), 1) := by decide +kernel
theorem d_X_packet_30 : decode m_X_packet.2.1 30 = .ok (.ireturn, 1) := by decide +kernel
def f_X_packet (x1 : Int) (x2 : Int) (w : qMem) : Option (Int × qMem) :=
  (f_P_has 7 x1 w).bind fun q1 =>
  if q1.1 = 0 then
  some ((-1), q1.2)
  else
  (f_P_fact 7 x1 x2 q1.2).bind fun q3 =>
  some (q3.1, q3.2)
set_option maxRecDepth 4000 in
theorem s_X_packet (x1 : Int) (x2 : Int) (w : qMem) : qSim κI 100 100 m_X_packet 0 [] [some (qR 1), some (qI x1), some (qI x2)] w (f_X_packet x1 x2 w) := by
  unfold f_X_packet
  refine z_aload_n d_X_packet_0 rfl ?_
  refine z_gr (ci := 9) (j := 0) (d := 1) (o2 := 2) d_X_packet_1 rfl fl_X_12 rfl (Nat.le_of_ble_eq_true rfl) rfl rfl ?_
  refine z_gr (ci := 3) (j := 1) (d := 5) (o2 := 7) d_X_packet_4 rfl fl_X_94 rfl (Nat.le_of_ble_eq_true rfl) rfl rfl ?_
  refine z_iload_n d_X_packet_7 rfl ?_
  refine z_cVI (as := [qI x1]) (st := []) (nl := 0) (ci := 5) d_X_packet_8 lk_X_98 mk_P_has rfl rfl rfl rfl rfl rfl (s_P_has _ is_7_100 _) (fun q1 _ hq1 => ?_)
  refine z_if_eq (tgt := 29) d_X_packet_11 rfl (fun c2 => ?_) (fun c2 => ?_)
  · refine z_icm1 d_X_packet_29 ?_
    exact z_iret d_X_packet_30 rfl rfl
  · refine z_aload_n d_X_packet_14 rfl ?_
    refine z_gr (ci := 9) (j := 0) (d := 1) (o2 := 2) d_X_packet_15 rfl fl_X_12 rfl (Nat.le_of_ble_eq_true rfl) rfl rfl ?_
    refine z_gr (ci := 3) (j := 1) (d := 5) (o2 := 7) d_X_packet_18 rfl fl_X_94 rfl (Nat.le_of_ble_eq_true rfl) rfl rfl ?_
    refine z_iload_n d_X_packet_21 rfl ?_
    refine z_iload_n d_X_packet_22 rfl ?_
    refine z_cVI (as := [qI x1, qI x2]) (st := []) (nl := 0) (ci := 5) d_X_packet_23 lk_X_103 mk_P_fact rfl rfl rfl rfl rfl rfl (s_P_fact _ _ is_7_100 _) (fun q3 _ hq3 => ?_)
    refine z_goto (tgt := 30) d_X_packet_26 rfl ?_
    exact z_iret d_X_packet_30 rfl rfl
/-! BubbleTorus.isDirection -/
theorem d_X_isDirection_0 : decode m_X_isDirection.2.1 0 = .ok (.iload_n 0, 1) := by decide +kernel
theorem d_X_isDirection_1 : decode m_X_isDirection.2.1 1 = .ok (.iconst 0, 1) := by decide +kernel
theorem d_X_isDirection_2 : decode m_X_isDirection.2.1 2 = .ok (.iconst 3, 1) := by decide +kernel
theorem d_X_isDirection_3 : decode m_X_isDirection.2.1 3 = .ok (.invokestatic 53, 3) := by decide +kernel
theorem d_X_isDirection_6 : decode m_X_isDirection.2.1 6 = .ok (.ireturn, 1) := by decide +kernel
def f_X_isDirection (x0 : Int) (w : qMem) : Option (Int × qMem) :=
  (f_X_within x0 0 3 w).bind fun q1 =>
  some (q1.1, q1.2)
set_option maxRecDepth 4000 in
theorem s_X_isDirection {ph : Nat} (x0 : Int) (w : qMem) : qSim κI ph ph m_X_isDirection 0 [] [some (qI x0)] w (f_X_isDirection x0 w) := by
  unfold f_X_isDirection
  refine z_iload_n d_X_isDirection_0 rfl ?_
  refine z_ic0 d_X_isDirection_1 ?_
  refine z_ic3 d_X_isDirection_2 ?_
  refine z_cSI (av := [qI x0, qI 0, qI 3]) (st := []) (nl := 0) d_X_isDirection_3 lk_X_53 mk_X_within rfl rfl rfl (s_X_within _ _ _ _) (fun q1 _ hq1 => ?_)
  exact z_zret d_X_isDirection_6 rfl rfl (q_boo rfl hq1)
/-! BubbleTorus.queue -/
theorem d_X_queue_0 : decode m_X_queue.2.1 0 = .ok (.aload_n 0, 1) := by decide +kernel
theorem d_X_queue_1 : decode m_X_queue.2.1 1 = .ok (.getfield 23, 3) := by decide +kernel
theorem d_X_queue_4 : decode m_X_queue.2.1 4 = .ok (.iload_n 1, 1) := by decide +kernel
theorem d_X_queue_5 : decode m_X_queue.2.1 5 = .ok (.invokevirtual 81, 3) := by decide +kernel
theorem d_X_queue_8 : decode m_X_queue.2.1 8 = .ok (.ifCond .eq 19, 3) := by decide +kernel
theorem d_X_queue_11 : decode m_X_queue.2.1 11 = .ok (.iload_n 3, 1) := by decide +kernel
theorem d_X_queue_12 : decode m_X_queue.2.1 12 = .ok (.invokestatic 106, 3) := by decide +kernel
theorem d_X_queue_15 : decode m_X_queue.2.1 15 = .ok (.ifCond .eq 12, 3) := by decide +kernel
theorem d_X_queue_18 : decode m_X_queue.2.1 18 = .ok (.iload_n 2, 1) := by decide +kernel
theorem d_X_queue_19 : decode m_X_queue.2.1 19 = .ok (.iconst 0, 1) := by decide +kernel
theorem d_X_queue_20 : decode m_X_queue.2.1 20 = .ok (.iconst 2, 1) := by decide +kernel
theorem d_X_queue_21 : decode m_X_queue.2.1 21 = .ok (.invokestatic 53, 3) := by decide +kernel
theorem d_X_queue_24 : decode m_X_queue.2.1 24 = .ok (.ifCond .ne 5, 3) := by decide +kernel
theorem d_X_queue_27 : decode m_X_queue.2.1 27 = .ok (.iconst (-1), 1) := by decide +kernel
theorem d_X_queue_28 : decode m_X_queue.2.1 28 = .ok (.ireturn, 1) := by decide +kernel
theorem d_X_queue_29 : decode m_X_queue.2.1 29 = .ok (.iload_n 2, 1) := by decide +kernel
theorem d_X_queue_30 : decode m_X_queue.2.1 30 = .ok (.ifCond .ne 9, 3) := by decide +kernel
theorem d_X_queue_33 : decode m_X_queue.2.1 33 = .ok (.iload_n 3, 1) := by decide +kernel
theorem d_X_queue_34 : decode m_X_queue.2.1 34 = .ok (.ifCond .eq 5, 3) := by decide +kernel
theorem d_X_queue_37 : decode m_X_queue.2.1 37 = .ok (.iconst (-1), 1) := by decide +kernel
theorem d_X_queue_38 : decode m_X_queue.2.1 38 = .ok (.ireturn, 1) := by decide +kernel
theorem d_X_queue_39 : decode m_X_queue.2.1 39 = .ok (.iload_n 1, 1) := by decide +kernel
theorem d_X_queue_40 : decode m_X_queue.2.1 40 = .ok (.bipush 9, 2) := by decide +kernel
theorem d_X_queue_42 : decode m_X_queue.2.1 42 = .ok (.imul, 1) := by decide +kernel
theorem d_X_queue_43 : decode m_X_queue.2.1 43 = .ok (.iload_n 2, 1) := by decide +kernel
theorem d_X_queue_44 : decode m_X_queue.2.1 44 = .ok (.ifCond .ne 7, 3) := by decide +kernel
theorem d_X_queue_47 : decode m_X_queue.2.1 47 = .ok (.iconst 0, 1) := by decide +kernel
theorem d_X_queue_48 : decode m_X_queue.2.1 48 = .ok (.goto 9, 3) := by decide +kernel
theorem d_X_queue_51 : decode m_X_queue.2.1 51 = .ok (.iload_n 2, 1) := by decide +kernel
theorem d_X_queue_52 : decode m_X_queue.2.1 52 = .ok (.invokestatic 109, 3) := by decide +kernel
theorem d_X_queue_55 : decode m_X_queue.2.1 55 = .ok (.iload_n 3, 1) := by decide +kernel
theorem d_X_queue_56 : decode m_X_queue.2.1 56 = .ok (.iadd, 1) := by decide +kernel
theorem d_X_queue_57 : decode m_X_queue.2.1 57 = .ok (.iadd, 1) := by decide +kernel
theorem d_X_queue_58 : decode m_X_queue.2.1 58 = .ok (.istore 5, 2) := by decide +kernel
theorem d_X_queue_60 : decode m_X_queue.2.1 60 = .ok (.iload 4, 2) := by decide +kernel
theorem d_X_queue_62 : decode m_X_queue.2.1 62 = .ok (.iconst (-1), 1) := by decide +kernel
theorem d_X_queue_63 : decode m_X_queue.2.1 63 = .ok (.if_icmp .ne 19, 3) := by decide +kernel
theorem d_X_queue_66 : decode m_X_queue.2.1 66 = .ok (.aload_n 0, 1) := by decide +kernel
theorem d_X_queue_67 : decode m_X_queue.2.1 67 = .ok (.getfield 12, 3) := by decide +kernel
theorem d_X_queue_70 : decode m_X_queue.2.1 70 = .ok (.getfield 112, 3) := by decide +kernel
theorem d_X_queue_73 : decode m_X_queue.2.1 73 = .ok (.getfield 116, 3) := by decide +kernel
theorem d_X_queue_76 : decode m_X_queue.2.1 76 = .ok (.iload 5, 2) := by decide +kernel
theorem d_X_queue_78 : decode m_X_queue.2.1 78 = .ok (.iaload, 1) := by decide +kernel
theorem d_X_queue_79 : decode m_X_queue.2.1 79 = .ok (.goto 17, 3) := by decide +kernel
theorem d_X_queue_82 : decode m_X_queue.2.1 82 = .ok (.aload_n 0, 1) := by decide +kernel
theorem d_X_queue_83 : decode m_X_queue.2.1 83 = .ok (.getfield 12, 3) := by decide +kernel
theorem d_X_queue_86 : decode m_X_queue.2.1 86 = .ok (.getfield 112, 3) := by decide +kernel
theorem d_X_queue_89 : decode m_X_queue.2.1 89 = .ok (.iload 5, 2) := by decide +kernel
theorem d_X_queue_91 : decode m_X_queue.2.1 91 = .ok (.iload 4, 2) := by decide +kernel
theorem d_X_queue_93 : decode m_X_queue.2.1 93 = .ok (.invokevirtual 122, 3) := by decide +kernel
theorem d_X_queue_96 : decode m_X_queue.2.1 96 = .ok (.ireturn, 1) := by decide +kernel
def f_X_queue_57 (s0 s1 x4 : Int) (w : qMem) : Option (Int × qMem) :=
  if x4 = (-1) then
  qld w 22 144 (w32 (s0 + s1)) fun v2 =>
  some (v2, w)
  else
  (f_Q_itemAt 21 (w32 (s0 + s1)) x4 w).bind fun q3 =>
  some (q3.1, q3.2)
set_option maxRecDepth 4000 in
theorem s_X_queue_57  : ∀ (s0 s1 x4 : Int) (w : qMem), qSim κI 100 100 m_X_queue 57 [qI s1, qI s0] [some (qR 1), none, none, none, some (qI x4), none] w (f_X_queue_57 s0 s1 x4 w) := by
  intro s0 s1 x4 w
  unfold f_X_queue_57
  refine z_iadd d_X_queue_57 ?_
  refine z_istore (pls' := [some (qR 1), none, none, none, some (qI x4), some (qI (w32 (s0 + s1)))]) d_X_queue_58 (by decide) rfl rfl ?_
  refine z_iload d_X_queue_60 rfl ?_
  refine z_icm1 d_X_queue_62 ?_
  refine z_icmp_ne (tgt := 82) d_X_queue_63 rfl (fun c1 => ?_) (fun c1 => ?_)
  · refine z_aload_n d_X_queue_66 rfl ?_
    refine z_gr (ci := 9) (j := 0) (d := 1) (o2 := 2) d_X_queue_67 rfl fl_X_12 rfl (Nat.le_of_ble_eq_true rfl) rfl rfl ?_
    refine z_gr (ci := 3) (j := 2) (d := 19) (o2 := 21) d_X_queue_70 rfl fl_X_112 rfl (Nat.le_of_ble_eq_true rfl) rfl rfl ?_
    refine z_gr (ci := 6) (j := 0) (d := 1) (o2 := 22) d_X_queue_73 rfl fl_X_116 rfl (Nat.le_of_ble_eq_true rfl) rfl rfl ?_
    refine z_iload d_X_queue_76 rfl ?_
    refine z_il d_X_queue_78 rfl rfl (fun v2 => ?_)
    refine z_goto (tgt := 96) d_X_queue_79 rfl ?_
    exact z_iret d_X_queue_96 rfl rfl
  · refine z_aload_n d_X_queue_82 rfl ?_
    refine z_gr (ci := 9) (j := 0) (d := 1) (o2 := 2) d_X_queue_83 rfl fl_X_12 rfl (Nat.le_of_ble_eq_true rfl) rfl rfl ?_
    refine z_gr (ci := 3) (j := 2) (d := 19) (o2 := 21) d_X_queue_86 rfl fl_X_112 rfl (Nat.le_of_ble_eq_true rfl) rfl rfl ?_
    refine z_iload d_X_queue_89 rfl ?_
    refine z_iload d_X_queue_91 rfl ?_
    refine z_cVI (as := [qI (w32 (s0 + s1)), qI x4]) (st := []) (nl := 0) (ci := 6) d_X_queue_93 lk_X_122 mk_Q_itemAt rfl rfl rfl rfl rfl rfl (s_Q_itemAt _ _ is_21_100 _) (fun q3 _ hq3 => ?_)
    exact z_iret d_X_queue_96 rfl rfl
def f_X_queue_39 (x1 x2 x3 x4 : Int) (w : qMem) : Option (Int × qMem) :=
  if x2 = 0 then
  f_X_queue_57 (w32 (x1 * 9)) 0 x4 w
  else
  (f_X_firstOfLane x2 w).bind fun q5 =>
  f_X_queue_57 (w32 (x1 * 9)) (w32 (q5.1 + x3)) x4 q5.2
set_option maxRecDepth 4000 in
theorem s_X_queue_39  : ∀ (x1 x2 x3 x4 : Int) (w : qMem), qSim κI 100 100 m_X_queue 39 [] [some (qR 1), some (qI x1), some (qI x2), some (qI x3), some (qI x4), none] w (f_X_queue_39 x1 x2 x3 x4 w) := by
  intro x1 x2 x3 x4 w
  unfold f_X_queue_39
  refine z_iload_n d_X_queue_39 rfl ?_
  refine z_bipush d_X_queue_40 ⟨by decide, by decide⟩ ?_
  refine z_imul d_X_queue_42 ?_
  refine z_iload_n d_X_queue_43 rfl ?_
  refine z_if_ne (tgt := 51) d_X_queue_44 rfl (fun c4 => ?_) (fun c4 => ?_)
  · refine z_ic0 d_X_queue_47 ?_
    refine z_goto (tgt := 57) d_X_queue_48 rfl ?_
    refine z_mask [true, false, false, false, true, false] ?_
    exact s_X_queue_57 _ _ _ _
  · refine z_iload_n d_X_queue_51 rfl ?_
    refine z_cSI (av := [qI x2]) (st := [qI (w32 (x1 * 9))]) (nl := 0) d_X_queue_52 lk_X_109 mk_X_firstOfLane rfl rfl rfl (s_X_firstOfLane _ _) (fun q5 _ hq5 => ?_)
    refine z_iload_n d_X_queue_55 rfl ?_
    refine z_iadd d_X_queue_56 ?_
    refine z_mask [true, false, false, false, true, false] ?_
    exact s_X_queue_57 _ _ _ _
def f_X_queue (x1 : Int) (x2 : Int) (x3 : Int) (x4 : Int) (w : qMem) : Option (Int × qMem) :=
  (f_G_hasNode 3 x1 w).bind fun q6 =>
  if q6.1 = 0 then
  some ((-1), q6.2)
  else
  (f_X_isDirection x3 q6.2).bind fun q8 =>
  if q8.1 = 0 then
  some ((-1), q8.2)
  else
  (f_X_within x2 0 2 q8.2).bind fun q10 =>
  if q10.1 = 0 then
  some ((-1), q10.2)
  else
  if x2 = 0 then
  if x3 = 0 then
  f_X_queue_39 x1 x2 x3 x4 q10.2
  else
  some ((-1), q10.2)
  else
  f_X_queue_39 x1 x2 x3 x4 q10.2
set_option maxRecDepth 4000 in
theorem s_X_queue (x1 : Int) (x2 : Int) (x3 : Int) (x4 : Int) (w : qMem) : qSim κI 100 100 m_X_queue 0 [] [some (qR 1), some (qI x1), some (qI x2), some (qI x3), some (qI x4), none] w (f_X_queue x1 x2 x3 x4 w) := by
  unfold f_X_queue
  refine z_aload_n d_X_queue_0 rfl ?_
  refine z_gr (ci := 9) (j := 2) (d := 2) (o2 := 3) d_X_queue_1 rfl fl_X_23 rfl (Nat.le_of_ble_eq_true rfl) rfl rfl ?_
  refine z_iload_n d_X_queue_4 rfl ?_
  refine z_cVI (as := [qI x1]) (st := []) (nl := 0) (ci := 0) d_X_queue_5 lk_X_81 mk_G_hasNode rfl rfl rfl rfl rfl rfl (s_G_hasNode _ is_3_100 _) (fun q6 _ hq6 => ?_)
  refine z_if_eq (tgt := 27) d_X_queue_8 rfl (fun c7 => ?_) (fun c7 => ?_)
  · refine z_icm1 d_X_queue_27 ?_
    exact z_iret d_X_queue_28 rfl rfl
  · refine z_iload_n d_X_queue_11 rfl ?_
    refine z_cSI (av := [qI x3]) (st := []) (nl := 0) d_X_queue_12 lk_X_106 mk_X_isDirection rfl rfl rfl (s_X_isDirection _ _) (fun q8 _ hq8 => ?_)
    refine z_if_eq (tgt := 27) d_X_queue_15 rfl (fun c9 => ?_) (fun c9 => ?_)
    · refine z_icm1 d_X_queue_27 ?_
      exact z_iret d_X_queue_28 rfl rfl
    · refine z_iload_n d_X_queue_18 rfl ?_
      refine z_ic0 d_X_queue_19 ?_
      refine z_ic2 d_X_queue_20 ?_
      refine z_cSI (av := [qI x2, qI 0, qI 2]) (st := []) (nl := 0) d_X_queue_21 lk_X_53 mk_X_within rfl rfl rfl (s_X_within _ _ _ _) (fun q10 _ hq10 => ?_)
      refine z_if_ne (tgt := 29) d_X_queue_24 rfl (fun c11 => ?_) (fun c11 => ?_)
      · refine z_icm1 d_X_queue_27 ?_
        exact z_iret d_X_queue_28 rfl rfl
      · refine z_iload_n d_X_queue_29 rfl ?_
        refine z_if_ne (tgt := 39) d_X_queue_30 rfl (fun c12 => ?_) (fun c12 => ?_)
        · refine z_iload_n d_X_queue_33 rfl ?_
          refine z_if_eq (tgt := 39) d_X_queue_34 rfl (fun c13 => ?_) (fun c13 => ?_)
          · refine z_mask [true, true, true, true, true, false] ?_
            exact s_X_queue_39 _ _ _ _ _
          · refine z_icm1 d_X_queue_37 ?_
            exact z_iret d_X_queue_38 rfl rfl
        · refine z_mask [true, true, true, true, true, false] ?_
          exact s_X_queue_39 _ _ _ _ _
/-! BubbleTorus.next -/
theorem d_X_next_0 : decode m_X_next.2.1 0 = .ok (.aload_n 0, 1) := by decide +kernel
theorem d_X_next_1 : decode m_X_next.2.1 1 = .ok (.getfield 23, 3) := by decide +kernel
theorem d_X_next_4 : decode m_X_next.2.1 4 = .ok (.iload_n 1, 1) := by decide +kernel
theorem d_X_next_5 : decode m_X_next.2.1 5 = .ok (.invokevirtual 81, 3) := by decide +kernel
theorem d_X_next_8 : decode m_X_next.2.1 8 = .ok (.ifCond .eq 22, 3) := by decide +kernel
theorem d_X_next_11 : decode m_X_next.2.1 11 = .ok (.iload_n 2, 1) := by decide +kernel
theorem d_X_next_12 : decode m_X_next.2.1 12 = .ok (.invokestatic 106, 3) := by decide +kernel
theorem d_X_next_15 : decode m_X_next.2.1 15 = .ok (.ifCond .eq 15, 3) := by decide +kernel
theorem d_X_next_18 : decode m_X_next.2.1 18 = .ok (.aload_n 0, 1) := by decide +kernel
theorem d_X_next_19 : decode m_X_next.2.1 19 = .ok (.getfield 23, 3) := by decide +kernel
theorem d_X_next_22 : decode m_X_next.2.1 22 = .ok (.iload_n 1, 1) := by decide +kernel
theorem d_X_next_23 : decode m_X_next.2.1 23 = .ok (.iload_n 2, 1) := by decide +kernel
theorem d_X_next_24 : decode m_X_next.2.1 24 = .ok (.invokevirtual 125, 3) := by decide +kernel
theorem d_X_next_27 : decode m_X_next.2.1 27 = .ok (.goto 4, 3) := by decide +kernel
theorem d_X_next_30 : decode m_X_next.2.1 30 = .ok (.iconst (-1), 1) := by decide +kernel
theorem d_X_next_31 : decode m_X_next.2.1 31 = .ok (.ireturn, 1) := by decide +kernel
def f_X_next (x1 : Int) (x2 : Int) (w : qMem) : Option (Int × qMem) :=
  (f_G_hasNode 3 x1 w).bind fun q1 =>
  if q1.1 = 0 then
  some ((-1), q1.2)
  else
  (f_X_isDirection x2 q1.2).bind fun q3 =>
  if q3.1 = 0 then
  some ((-1), q3.2)
  else
  (f_G_nextBy 3 x1 x2 q3.2).bind fun q5 =>
  some (q5.1, q5.2)
set_option maxRecDepth 4000 in
theorem s_X_next (x1 : Int) (x2 : Int) (w : qMem) : qSim κI 100 100 m_X_next 0 [] [some (qR 1), some (qI x1), some (qI x2)] w (f_X_next x1 x2 w) := by
  unfold f_X_next
  refine z_aload_n d_X_next_0 rfl ?_
  refine z_gr (ci := 9) (j := 2) (d := 2) (o2 := 3) d_X_next_1 rfl fl_X_23 rfl (Nat.le_of_ble_eq_true rfl) rfl rfl ?_
  refine z_iload_n d_X_next_4 rfl ?_
  refine z_cVI (as := [qI x1]) (st := []) (nl := 0) (ci := 0) d_X_next_5 lk_X_81 mk_G_hasNode rfl rfl rfl rfl rfl rfl (s_G_hasNode _ is_3_100 _) (fun q1 _ hq1 => ?_)
  refine z_if_eq (tgt := 30) d_X_next_8 rfl (fun c2 => ?_) (fun c2 => ?_)
  · refine z_icm1 d_X_next_30 ?_
    exact z_iret d_X_next_31 rfl rfl
  · refine z_iload_n d_X_next_11 rfl ?_
    refine z_cSI (av := [qI x2]) (st := []) (nl := 0) d_X_next_12 lk_X_106 mk_X_isDirection rfl rfl rfl (s_X_isDirection _ _) (fun q3 _ hq3 => ?_)
    refine z_if_eq (tgt := 30) d_X_next_15 rfl (fun c4 => ?_) (fun c4 => ?_)
    · refine z_icm1 d_X_next_30 ?_
      exact z_iret d_X_next_31 rfl rfl
    · refine z_aload_n d_X_next_18 rfl ?_
      refine z_gr (ci := 9) (j := 2) (d := 2) (o2 := 3) d_X_next_19 rfl fl_X_23 rfl (Nat.le_of_ble_eq_true rfl) rfl rfl ?_
      refine z_iload_n d_X_next_22 rfl ?_
      refine z_iload_n d_X_next_23 rfl ?_
      refine z_cVI (as := [qI x1, qI x2]) (st := []) (nl := 0) (ci := 0) d_X_next_24 lk_X_125 mk_G_nextBy rfl rfl rfl rfl rfl rfl (s_G_nextBy _ _ is_3_100 _) (fun q5 _ hq5 => ?_)
      refine z_goto (tgt := 31) d_X_next_27 rfl ?_
      exact z_iret d_X_next_31 rfl rfl
/-! BubbleTorus.far -/
theorem d_X_far_0 : decode m_X_far.2.1 0 = .ok (.aload_n 0, 1) := by decide +kernel
theorem d_X_far_1 : decode m_X_far.2.1 1 = .ok (.getfield 23, 3) := by decide +kernel
theorem d_X_far_4 : decode m_X_far.2.1 4 = .ok (.iload_n 1, 1) := by decide +kernel
theorem d_X_far_5 : decode m_X_far.2.1 5 = .ok (.invokevirtual 81, 3) := by decide +kernel
theorem d_X_far_8 : decode m_X_far.2.1 8 = .ok (.ifCond .eq 26, 3) := by decide +kernel
theorem d_X_far_11 : decode m_X_far.2.1 11 = .ok (.aload_n 0, 1) := by decide +kernel
theorem d_X_far_12 : decode m_X_far.2.1 12 = .ok (.getfield 23, 3) := by decide +kernel
theorem d_X_far_15 : decode m_X_far.2.1 15 = .ok (.iload_n 2, 1) := by decide +kernel
theorem d_X_far_16 : decode m_X_far.2.1 16 = .ok (.invokevirtual 81, 3) := by decide +kernel
theorem d_X_far_19 : decode m_X_far.2.1 19 = .ok (.ifCond .eq 15, 3) := by decide +kernel
theorem d_X_far_22 : decode m_X_far.2.1 22 = .ok (.aload_n 0, 1) := by decide +kernel
theorem d_X_far_23 : decode m_X_far.2.1 23 = .ok (.getfield 23, 3) := by decide +kernel
theorem d_X_far_26 : decode m_X_far.2.1 26 = .ok (.iload_n 1, 1) := by decide +kernel
theorem d_X_far_27 : decode m_X_far.2.1 27 = .ok (.iload_n 2, 1) := by decide +kernel
theorem d_X_far_28 : decode m_X_far.2.1 28 = .ok (.invokevirtual 128, 3) := by decide +kernel
theorem d_X_far_31 : decode m_X_far.2.1 31 = .ok (.goto 4, 3) := by decide +kernel
theorem d_X_far_34 : decode m_X_far.2.1 34 = .ok (.iconst (-1), 1) := by decide +kernel
theorem d_X_far_35 : decode m_X_far.2.1 35 = .ok (.ireturn, 1) := by decide +kernel
def f_X_far (x1 : Int) (x2 : Int) (w : qMem) : Option (Int × qMem) :=
  (f_G_hasNode 3 x1 w).bind fun q1 =>
  if q1.1 = 0 then
  some ((-1), q1.2)
  else
  (f_G_hasNode 3 x2 q1.2).bind fun q3 =>
  if q3.1 = 0 then
  some ((-1), q3.2)
  else
  (f_G_distance 3 x1 x2 q3.2).bind fun q5 =>
  some (q5.1, q5.2)
set_option maxRecDepth 4000 in
theorem s_X_far (x1 : Int) (x2 : Int) (w : qMem) : qSim κI 100 100 m_X_far 0 [] [some (qR 1), some (qI x1), some (qI x2)] w (f_X_far x1 x2 w) := by
  unfold f_X_far
  refine z_aload_n d_X_far_0 rfl ?_
  refine z_gr (ci := 9) (j := 2) (d := 2) (o2 := 3) d_X_far_1 rfl fl_X_23 rfl (Nat.le_of_ble_eq_true rfl) rfl rfl ?_
  refine z_iload_n d_X_far_4 rfl ?_
  refine z_cVI (as := [qI x1]) (st := []) (nl := 0) (ci := 0) d_X_far_5 lk_X_81 mk_G_hasNode rfl rfl rfl rfl rfl rfl (s_G_hasNode _ is_3_100 _) (fun q1 _ hq1 => ?_)
  refine z_if_eq (tgt := 34) d_X_far_8 rfl (fun c2 => ?_) (fun c2 => ?_)
  · refine z_icm1 d_X_far_34 ?_
    exact z_iret d_X_far_35 rfl rfl
  · refine z_aload_n d_X_far_11 rfl ?_
    refine z_gr (ci := 9) (j := 2) (d := 2) (o2 := 3) d_X_far_12 rfl fl_X_23 rfl (Nat.le_of_ble_eq_true rfl) rfl rfl ?_
    refine z_iload_n d_X_far_15 rfl ?_
    refine z_cVI (as := [qI x2]) (st := []) (nl := 0) (ci := 0) d_X_far_16 lk_X_81 mk_G_hasNode rfl rfl rfl rfl rfl rfl (s_G_hasNode _ is_3_100 _) (fun q3 _ hq3 => ?_)
    refine z_if_eq (tgt := 34) d_X_far_19 rfl (fun c4 => ?_) (fun c4 => ?_)
    · refine z_icm1 d_X_far_34 ?_
      exact z_iret d_X_far_35 rfl rfl
    · refine z_aload_n d_X_far_22 rfl ?_
      refine z_gr (ci := 9) (j := 2) (d := 2) (o2 := 3) d_X_far_23 rfl fl_X_23 rfl (Nat.le_of_ble_eq_true rfl) rfl rfl ?_
      refine z_iload_n d_X_far_26 rfl ?_
      refine z_iload_n d_X_far_27 rfl ?_
      refine z_cVI (as := [qI x1, qI x2]) (st := []) (nl := 0) (ci := 0) d_X_far_28 lk_X_128 mk_G_distance rfl rfl rfl rfl rfl rfl (s_G_distance _ _ is_3_100 _) (fun q5 _ hq5 => ?_)
      refine z_goto (tgt := 35) d_X_far_31 rfl ?_
      exact z_iret d_X_far_35 rfl rfl
/-! BubbleTorus.profitable -/
theorem d_X_profitable_0 : decode m_X_profitable.2.1 0 = .ok (.aload_n 0, 1) := by decide +kernel
theorem d_X_profitable_1 : decode m_X_profitable.2.1 1 = .ok (.getfield 23, 3) := by decide +kernel
theorem d_X_profitable_4 : decode m_X_profitable.2.1 4 = .ok (.iload_n 1, 1) := by decide +kernel
theorem d_X_profitable_5 : decode m_X_profitable.2.1 5 = .ok (.invokevirtual 81, 3) := by decide +kernel
theorem d_X_profitable_8 : decode m_X_profitable.2.1 8 = .ok (.ifCond .eq 26, 3) := by decide +kernel
theorem d_X_profitable_11 : decode m_X_profitable.2.1 11 = .ok (.aload_n 0, 1) := by decide +kernel
theorem d_X_profitable_12 : decode m_X_profitable.2.1 12 = .ok (.getfield 23, 3) := by decide +kernel
theorem d_X_profitable_15 : decode m_X_profitable.2.1 15 = .ok (.iload_n 2, 1) := by decide +kernel
theorem d_X_profitable_16 : decode m_X_profitable.2.1 16 = .ok (.invokevirtual 81, 3) := by decide +kernel
theorem d_X_profitable_19 : decode m_X_profitable.2.1 19 = .ok (.ifCond .eq 15, 3) := by decide +kernel
theorem d_X_profitable_22 : decode m_X_profitable.2.1 22 = .ok (.aload_n 0, 1) := by decide +kernel
theorem d_X_profitable_23 : decode m_X_profitable.2.1 23 = .ok (.getfield 23, 3) := by decide +kernel
theorem d_X_profitable_26 : decode m_X_profitable.2.1 26 = .ok (.iload_n 1, 1) := by decide +kernel
theorem d_X_profitable_27 : decode m_X_profitable.2.1 27 = .ok (.iload_n 2, 1) := by decide +kernel
theorem d_X_profitable_28 : decode m_X_profitable.2.1 28 = .ok (.invokevirtual 131, 3) := by decide +kernel
theorem d_X_profitable_31 : decode m_X_profitable.2.1 31 = .ok (.goto 4, 3) := by decide +kernel
theorem d_X_profitable_34 : decode m_X_profitable.2.1 34 = .ok (.iconst (-1), 1) := by decide +kernel
theorem d_X_profitable_35 : decode m_X_profitable.2.1 35 = .ok (.ireturn, 1) := by decide +kernel
def f_X_profitable (x1 : Int) (x2 : Int) (w : qMem) : Option (Int × qMem) :=
  (f_G_hasNode 3 x1 w).bind fun q1 =>
  if q1.1 = 0 then
  some ((-1), q1.2)
  else
  (f_G_hasNode 3 x2 q1.2).bind fun q3 =>
  if q3.1 = 0 then
  some ((-1), q3.2)
  else
  (f_G_nearerBy 3 x1 x2 q3.2).bind fun q5 =>
  some (q5.1, q5.2)
set_option maxRecDepth 4000 in
theorem s_X_profitable (x1 : Int) (x2 : Int) (w : qMem) : qSim κI 100 100 m_X_profitable 0 [] [some (qR 1), some (qI x1), some (qI x2)] w (f_X_profitable x1 x2 w) := by
  unfold f_X_profitable
  refine z_aload_n d_X_profitable_0 rfl ?_
  refine z_gr (ci := 9) (j := 2) (d := 2) (o2 := 3) d_X_profitable_1 rfl fl_X_23 rfl (Nat.le_of_ble_eq_true rfl) rfl rfl ?_
  refine z_iload_n d_X_profitable_4 rfl ?_
  refine z_cVI (as := [qI x1]) (st := []) (nl := 0) (ci := 0) d_X_profitable_5 lk_X_81 mk_G_hasNode rfl rfl rfl rfl rfl rfl (s_G_hasNode _ is_3_100 _) (fun q1 _ hq1 => ?_)
  refine z_if_eq (tgt := 34) d_X_profitable_8 rfl (fun c2 => ?_) (fun c2 => ?_)
  · refine z_icm1 d_X_profitable_34 ?_
    exact z_iret d_X_profitable_35 rfl rfl
  · refine z_aload_n d_X_profitable_11 rfl ?_
    refine z_gr (ci := 9) (j := 2) (d := 2) (o2 := 3) d_X_profitable_12 rfl fl_X_23 rfl (Nat.le_of_ble_eq_true rfl) rfl rfl ?_
    refine z_iload_n d_X_profitable_15 rfl ?_
    refine z_cVI (as := [qI x2]) (st := []) (nl := 0) (ci := 0) d_X_profitable_16 lk_X_81 mk_G_hasNode rfl rfl rfl rfl rfl rfl (s_G_hasNode _ is_3_100 _) (fun q3 _ hq3 => ?_)
    refine z_if_eq (tgt := 34) d_X_profitable_19 rfl (fun c4 => ?_) (fun c4 => ?_)
    · refine z_icm1 d_X_profitable_34 ?_
      exact z_iret d_X_profitable_35 rfl rfl
    · refine z_aload_n d_X_profitable_22 rfl ?_
      refine z_gr (ci := 9) (j := 2) (d := 2) (o2 := 3) d_X_profitable_23 rfl fl_X_23 rfl (Nat.le_of_ble_eq_true rfl) rfl rfl ?_
      refine z_iload_n d_X_profitable_26 rfl ?_
      refine z_iload_n d_X_profitable_27 rfl ?_
      refine z_cVI (as := [qI x1, qI x2]) (st := []) (nl := 0) (ci := 0) d_X_profitable_28 lk_X_131 mk_G_nearerBy rfl rfl rfl rfl rfl rfl (s_G_nearerBy _ _ is_3_100 _) (fun q5 _ hq5 => ?_)
      refine z_goto (tgt := 35) d_X_profitable_31 rfl ?_
      exact z_iret d_X_profitable_35 rfl rfl
/-! BubbleTorus.way -/
theorem d_X_way_0 : decode m_X_way.2.1 0 = .ok (.aload_n 0, 1) := by decide +kernel
theorem d_X_way_1 : decode m_X_way.2.1 1 = .ok (.getfield 23, 3) := by decide +kernel
theorem d_X_way_4 : decode m_X_way.2.1 4 = .ok (.iload_n 1, 1) := by decide +kernel
theorem d_X_way_5 : decode m_X_way.2.1 5 = .ok (.invokevirtual 81, 3) := by decide +kernel
theorem d_X_way_8 : decode m_X_way.2.1 8 = .ok (.ifCond .eq 14, 3) := by decide +kernel
theorem d_X_way_11 : decode m_X_way.2.1 11 = .ok (.aload_n 0, 1) := by decide +kernel
theorem d_X_way_12 : decode m_X_way.2.1 12 = .ok (.getfield 23, 3) := by decide +kernel
theorem d_X_way_15 : decode m_X_way.2.1 15 = .ok (.iload_n 2, 1) := by decide +kernel
theorem d_X_way_16 : decode m_X_way.2.1 16 = .ok (.invokevirtual 81, 3) := by decide +kernel
theorem d_X_way_19 : decode m_X_way.2.1 19 = .ok (.ifCond .ne 5, 3) := by decide +kernel
theorem d_X_way_22 : decode m_X_way.2.1 22 = .ok (.iconst (-1), 1) := by decide +kernel
theorem d_X_way_23 : decode m_X_way.2.1 23 = .ok (.ireturn, 1) := by decide +kernel
theorem d_X_way_24 : decode m_X_way.2.1 24 = .ok (.iload_n 3, 1) := by decide +kernel
theorem d_X_way_25 : decode m_X_way.2.1 25 = .ok (.iconst (-1), 1) := by decide +kernel
theorem d_X_way_26 : decode m_X_way.2.1 26 = .ok (.if_icmp .ne 15, 3) := by decide +kernel
theorem d_X_way_29 : decode m_X_way.2.1 29 = .ok (.aload_n 0, 1) := by decide +kernel
theorem d_X_way_30 : decode m_X_way.2.1 30 = .ok (.getfield 23, 3) := by decide +kernel
theorem d_X_way_33 : decode m_X_way.2.1 33 = .ok (.iload_n 1, 1) := by decide +kernel
theorem d_X_way_34 : decode m_X_way.2.1 34 = .ok (.iload_n 2, 1) := by decide +kernel
theorem d_X_way_35 : decode m_X_way.2.1 35 = .ok (.invokevirtual 128, 3) := by decide +kernel
theorem d_X_way_38 : decode m_X_way.2.1 38 = .ok (.goto 13, 3) := by decide +kernel
theorem d_X_way_41 : decode m_X_way.2.1 41 = .ok (.aload_n 0, 1) := by decide +kernel
theorem d_X_way_42 : decode m_X_way.2.1 42 = .ok (.getfield 23, 3) := by decide +kernel
theorem d_X_way_45 : decode m_X_way.2.1 45 = .ok (.iload_n 1, 1) := by decide +kernel
theorem d_X_way_46 : decode m_X_way.2.1 46 = .ok (.iload_n 2, 1) := by decide +kernel
theorem d_X_way_47 : decode m_X_way.2.1 47 = .ok (.iload_n 3, 1) := by decide +kernel
theorem d_X_way_48 : decode m_X_way.2.1 48 = .ok (.invokevirtual 134, 3) := by decide +kernel
theorem d_X_way_51 : decode m_X_way.2.1 51 = .ok (.ireturn, 1) := by decide +kernel
def f_X_way (x1 : Int) (x2 : Int) (x3 : Int) (w : qMem) : Option (Int × qMem) :=
  (f_G_hasNode 3 x1 w).bind fun q1 =>
  if q1.1 = 0 then
  some ((-1), q1.2)
  else
  (f_G_hasNode 3 x2 q1.2).bind fun q3 =>
  if q3.1 = 0 then
  some ((-1), q3.2)
  else
  if x3 = (-1) then
  (f_G_distance 3 x1 x2 q3.2).bind fun q6 =>
  some (q6.1, q6.2)
  else
  (f_G_wayStep 3 x1 x2 x3 q3.2).bind fun q7 =>
  some (q7.1, q7.2)
set_option maxRecDepth 4000 in
theorem s_X_way (x1 : Int) (x2 : Int) (x3 : Int) (w : qMem) : qSim κI 100 100 m_X_way 0 [] [some (qR 1), some (qI x1), some (qI x2), some (qI x3)] w (f_X_way x1 x2 x3 w) := by
  unfold f_X_way
  refine z_aload_n d_X_way_0 rfl ?_
  refine z_gr (ci := 9) (j := 2) (d := 2) (o2 := 3) d_X_way_1 rfl fl_X_23 rfl (Nat.le_of_ble_eq_true rfl) rfl rfl ?_
  refine z_iload_n d_X_way_4 rfl ?_
  refine z_cVI (as := [qI x1]) (st := []) (nl := 0) (ci := 0) d_X_way_5 lk_X_81 mk_G_hasNode rfl rfl rfl rfl rfl rfl (s_G_hasNode _ is_3_100 _) (fun q1 _ hq1 => ?_)
  refine z_if_eq (tgt := 22) d_X_way_8 rfl (fun c2 => ?_) (fun c2 => ?_)
  · refine z_icm1 d_X_way_22 ?_
    exact z_iret d_X_way_23 rfl rfl
  · refine z_aload_n d_X_way_11 rfl ?_
    refine z_gr (ci := 9) (j := 2) (d := 2) (o2 := 3) d_X_way_12 rfl fl_X_23 rfl (Nat.le_of_ble_eq_true rfl) rfl rfl ?_
    refine z_iload_n d_X_way_15 rfl ?_
    refine z_cVI (as := [qI x2]) (st := []) (nl := 0) (ci := 0) d_X_way_16 lk_X_81 mk_G_hasNode rfl rfl rfl rfl rfl rfl (s_G_hasNode _ is_3_100 _) (fun q3 _ hq3 => ?_)
    refine z_if_ne (tgt := 24) d_X_way_19 rfl (fun c4 => ?_) (fun c4 => ?_)
    · refine z_icm1 d_X_way_22 ?_
      exact z_iret d_X_way_23 rfl rfl
    · refine z_iload_n d_X_way_24 rfl ?_
      refine z_icm1 d_X_way_25 ?_
      refine z_icmp_ne (tgt := 41) d_X_way_26 rfl (fun c5 => ?_) (fun c5 => ?_)
      · refine z_aload_n d_X_way_29 rfl ?_
        refine z_gr (ci := 9) (j := 2) (d := 2) (o2 := 3) d_X_way_30 rfl fl_X_23 rfl (Nat.le_of_ble_eq_true rfl) rfl rfl ?_
        refine z_iload_n d_X_way_33 rfl ?_
        refine z_iload_n d_X_way_34 rfl ?_
        refine z_cVI (as := [qI x1, qI x2]) (st := []) (nl := 0) (ci := 0) d_X_way_35 lk_X_128 mk_G_distance rfl rfl rfl rfl rfl rfl (s_G_distance _ _ is_3_100 _) (fun q6 _ hq6 => ?_)
        refine z_goto (tgt := 51) d_X_way_38 rfl ?_
        exact z_iret d_X_way_51 rfl rfl
      · refine z_aload_n d_X_way_41 rfl ?_
        refine z_gr (ci := 9) (j := 2) (d := 2) (o2 := 3) d_X_way_42 rfl fl_X_23 rfl (Nat.le_of_ble_eq_true rfl) rfl rfl ?_
        refine z_iload_n d_X_way_45 rfl ?_
        refine z_iload_n d_X_way_46 rfl ?_
        refine z_iload_n d_X_way_47 rfl ?_
        refine z_cVI (as := [qI x1, qI x2, qI x3]) (st := []) (nl := 3) (ci := 0) d_X_way_48 lk_X_134 mk_G_wayStep rfl rfl rfl rfl rfl rfl (s_G_wayStep _ _ _ is_3_100 _) (fun q7 _ hq7 => ?_)
        exact z_iret d_X_way_51 rfl rfl
/-! BubbleTorus.ring -/
theorem d_X_ring_0 : decode m_X_ring.2.1 0 = .ok (.iload_n 1, 1) := by decide +kernel
theorem d_X_ring_1 : decode m_X_ring.2.1 1 = .ok (.ifCond .lt 14, 3) := by decide +kernel
theorem d_X_ring_4 : decode m_X_ring.2.1 4 = .ok (.iload_n 1, 1) := by decide +kernel
theorem d_X_ring_5 : decode m_X_ring.2.1 5 = .ok (.aload_n 0, 1) := by decide +kernel
theorem d_X_ring_6 : decode m_X_ring.2.1 6 = .ok (.getfield 23, 3) := by decide +kernel
theorem d_X_ring_9 : decode m_X_ring.2.1 9 = .ok (.getfield 138, 3) := by decide +kernel
theorem d_X_ring_12 : decode m_X_ring.2.1 12 = .ok (.if_icmp .lt 5, 3) := by decide +kernel
theorem d_X_ring_15 : decode m_X_ring.2.1 15 = .ok (.iconst (-1), 1) := by decide +kernel
theorem d_X_ring_16 : decode m_X_ring.2.1 16 = .ok (.ireturn, 1) := by decide +kernel
theorem d_X_ring_17 : decode m_X_ring.2.1 17 = .ok (.iload_n 2, 1) := by decide +kernel
theorem d_X_ring_18 : decode m_X_ring.2.1 18 = .ok (.tableswitch 197 0 10 #[58, 67, 77, 86, 95, 104, 132, 145, 158, 171, 184], 58) := by decide +kernel
theorem d_X_ring_76 : decode m_X_ring.2.1 76 = .ok (.aload_n 0, 1) := by decide +kernel
theorem d_X_ring_77 : decode m_X_ring.2.1 77 = .ok (.getfield 23, 3) := by decide +kernel
theorem d_X_ring_80 : decode m_X_ring.2.1 80 = .ok (.iload_n 1, 1) := by decide +kernel
theorem d_X_ring_81 : decode m_X_ring.2.1 81 = .ok (.invokevirtual 141, 3) := by decide +kernel
theorem d_X_ring_84 : decode m_X_ring.2.1 84 = .ok (.ireturn, 1) := by decide +kernel
theorem d_X_ring_85 : decode m_X_ring.2.1 85 = .ok (.aload_n 0, 1) := by decide +kernel
theorem d_X_ring_86 : decode m_X_ring.2.1 86 = .ok (.getfield 23, 3) := by decide +kernel
theorem d_X_ring_89 : decode m_X_ring.2.1 89 = .ok (.iload_n 1, 1) := by decide +kernel
theorem d_X_ring_90 : decode m_X_ring.2.1 90 = .ok (.iconst 0, 1) := by decide +kernel
theorem d_X_ring_91 : decode m_X_ring.2.1 91 = .ok (.invokevirtual 144, 3) := by decide +kernel
theorem d_X_ring_94 : decode m_X_ring.2.1 94 = .ok (.ireturn, 1) := by decide +kernel
theorem d_X_ring_95 : decode m_X_ring.2.1 95 = .ok (.aload_n 0, 1) := by decide +kernel
theorem d_X_ring_96 : decode m_X_ring.2.1 96 = .ok (.getfield 23, 3) := by decide +kernel
theorem d_X_ring_99 : decode m_X_ring.2.1 99 = .ok (.iload_n 1, 1) := by decide +kernel
theorem d_X_ring_100 : decode m_X_ring.2.1 100 = .ok (.invokevirtual 147, 3) := by decide +kernel
theorem d_X_ring_103 : decode m_X_ring.2.1 103 = .ok (.ireturn, 1) := by decide +kernel
theorem d_X_ring_104 : decode m_X_ring.2.1 104 = .ok (.aload_n 0, 1) := by decide +kernel
theorem d_X_ring_105 : decode m_X_ring.2.1 105 = .ok (.getfield 12, 3) := by decide +kernel
theorem d_X_ring_108 : decode m_X_ring.2.1 108 = .ok (.iload_n 1, 1) := by decide +kernel
theorem d_X_ring_109 : decode m_X_ring.2.1 109 = .ok (.invokevirtual 150, 3) := by decide +kernel
theorem d_X_ring_112 : decode m_X_ring.2.1 112 = .ok (.ireturn, 1) := by decide +kernel
theorem d_X_ring_113 : decode m_X_ring.2.1 113 = .ok (.aload_n 0, 1) := by decide +kernel
theorem d_X_ring_114 : decode m_X_ring.2.1 114 = .ok (.getfield 12, 3) := by decide +kernel
theorem d_X_ring_117 : decode m_X_ring.2.1 117 = .ok (.iload_n 1, 1) := by decide +kernel
theorem d_X_ring_118 : decode m_X_ring.2.1 118 = .ok (.invokevirtual 153, 3) := by decide +kernel
theorem d_X_ring_121 : decode m_X_ring.2.1 121 = .ok (.ireturn, 1) := by decide +kernel
theorem d_X_ring_122 : decode m_X_ring.2.1 122 = .ok (.aload_n 0, 1) := by decide +kernel
theorem d_X_ring_123 : decode m_X_ring.2.1 123 = .ok (.getfield 12, 3) := by decide +kernel
theorem d_X_ring_126 : decode m_X_ring.2.1 126 = .ok (.getfield 156, 3) := by decide +kernel
theorem d_X_ring_129 : decode m_X_ring.2.1 129 = .ok (.iconst 2, 1) := by decide +kernel
theorem d_X_ring_130 : decode m_X_ring.2.1 130 = .ok (.if_icmp .ne 18, 3) := by decide +kernel
theorem d_X_ring_133 : decode m_X_ring.2.1 133 = .ok (.aload_n 0, 1) := by decide +kernel
theorem d_X_ring_134 : decode m_X_ring.2.1 134 = .ok (.getfield 12, 3) := by decide +kernel
theorem d_X_ring_137 : decode m_X_ring.2.1 137 = .ok (.getfield 159, 3) := by decide +kernel
theorem d_X_ring_140 : decode m_X_ring.2.1 140 = .ok (.getfield 162, 3) := by decide +kernel
theorem d_X_ring_143 : decode m_X_ring.2.1 143 = .ok (.iload_n 1, 1) := by decide +kernel
theorem d_X_ring_144 : decode m_X_ring.2.1 144 = .ok (.iaload, 1) := by decide +kernel
theorem d_X_ring_145 : decode m_X_ring.2.1 145 = .ok (.goto 4, 3) := by decide +kernel
theorem d_X_ring_148 : decode m_X_ring.2.1 148 = .ok (.iconst (-1), 1) := by decide +kernel
theorem d_X_ring_149 : decode m_X_ring.2.1 149 = .ok (.ireturn, 1) := by decide +kernel
theorem d_X_ring_150 : decode m_X_ring.2.1 150 = .ok (.aload_n 0, 1) := by decide +kernel
theorem d_X_ring_151 : decode m_X_ring.2.1 151 = .ok (.getfield 12, 3) := by decide +kernel
theorem d_X_ring_154 : decode m_X_ring.2.1 154 = .ok (.getfield 159, 3) := by decide +kernel
theorem d_X_ring_157 : decode m_X_ring.2.1 157 = .ok (.getfield 167, 3) := by decide +kernel
theorem d_X_ring_160 : decode m_X_ring.2.1 160 = .ok (.iload_n 1, 1) := by decide +kernel
theorem d_X_ring_161 : decode m_X_ring.2.1 161 = .ok (.iaload, 1) := by decide +kernel
theorem d_X_ring_162 : decode m_X_ring.2.1 162 = .ok (.ireturn, 1) := by decide +kernel
theorem d_X_ring_163 : decode m_X_ring.2.1 163 = .ok (.aload_n 0, 1) := by decide +kernel
theorem d_X_ring_164 : decode m_X_ring.2.1 164 = .ok (.getfield 12, 3) := by decide +kernel
theorem d_X_ring_167 : decode m_X_ring.2.1 167 = .ok (.getfield 159, 3) := by decide +kernel
theorem d_X_ring_170 : decode m_X_ring.2.1 170 = .ok (.getfield 170, 3) := by decide +kernel
theorem d_X_ring_173 : decode m_X_ring.2.1 173 = .ok (.iload_n 1, 1) := by decide +kernel
theorem d_X_ring_174 : decode m_X_ring.2.1 174 = .ok (.iaload, 1) := by decide +kernel
theorem d_X_ring_175 : decode m_X_ring.2.1 175 = .ok (.ireturn, 1) := by decide +kernel
theorem d_X_ring_176 : decode m_X_ring.2.1 176 = .ok (.aload_n 0, 1) := by decide +kernel
theorem d_X_ring_177 : decode m_X_ring.2.1 177 = .ok (.getfield 12, 3) := by decide +kernel
theorem d_X_ring_180 : decode m_X_ring.2.1 180 = .ok (.getfield 159, 3) := by decide +kernel
theorem d_X_ring_183 : decode m_X_ring.2.1 183 = .ok (.getfield 173, 3) := by decide +kernel
theorem d_X_ring_186 : decode m_X_ring.2.1 186 = .ok (.iload_n 1, 1) := by decide +kernel
theorem d_X_ring_187 : decode m_X_ring.2.1 187 = .ok (.iaload, 1) := by decide +kernel
theorem d_X_ring_188 : decode m_X_ring.2.1 188 = .ok (.ireturn, 1) := by decide +kernel
theorem d_X_ring_189 : decode m_X_ring.2.1 189 = .ok (.aload_n 0, 1) := by decide +kernel
theorem d_X_ring_190 : decode m_X_ring.2.1 190 = .ok (.getfield 12, 3) := by decide +kernel
theorem d_X_ring_193 : decode m_X_ring.2.1 193 = .ok (.getfield 159, 3) := by decide +kernel
theorem d_X_ring_196 : decode m_X_ring.2.1 196 = .ok (.getfield 176, 3) := by decide +kernel
theorem d_X_ring_199 : decode m_X_ring.2.1 199 = .ok (.iload_n 1, 1) := by decide +kernel
theorem d_X_ring_200 : decode m_X_ring.2.1 200 = .ok (.iaload, 1) := by decide +kernel
theorem d_X_ring_201 : decode m_X_ring.2.1 201 = .ok (.ireturn, 1) := by decide +kernel
theorem d_X_ring_202 : decode m_X_ring.2.1 202 = .ok (.aload_n 0, 1) := by decide +kernel
theorem d_X_ring_203 : decode m_X_ring.2.1 203 = .ok (.getfield 12, 3) := by decide +kernel
theorem d_X_ring_206 : decode m_X_ring.2.1 206 = .ok (.getfield 159, 3) := by decide +kernel
theorem d_X_ring_209 : decode m_X_ring.2.1 209 = .ok (.getfield 179, 3) := by decide +kernel
theorem d_X_ring_212 : decode m_X_ring.2.1 212 = .ok (.iload_n 1, 1) := by decide +kernel
theorem d_X_ring_213 : decode m_X_ring.2.1 213 = .ok (.iaload, 1) := by decide +kernel
theorem d_X_ring_214 : decode m_X_ring.2.1 214 = .ok (.ireturn, 1) := by decide +kernel
theorem d_X_ring_215 : decode m_X_ring.2.1 215 = .ok (.iconst (-1), 1) := by decide +kernel
theorem d_X_ring_216 : decode m_X_ring.2.1 216 = .ok (.ireturn, 1) := by decide +kernel
def f_X_ring (x1 : Int) (x2 : Int) (w : qMem) : Option (Int × qMem) :=
  if x1 < 0 then
  some ((-1), w)
  else
  if x1 < (w 3 6) then
  if x2 = 0 then
  (f_G_ringDirection 3 x1 w).bind fun q4 =>
  some (q4.1, q4.2)
  else
  if x2 = 1 then
  (f_G_ringNode 3 x1 0 w).bind fun q6 =>
  some (q6.1, q6.2)
  else
  if x2 = 2 then
  (f_G_ringLength 3 x1 w).bind fun q8 =>
  some (q8.1, q8.2)
  else
  if x2 = 3 then
  (f_N_heldIn 2 x1 w).bind fun q10 =>
  some (q10.1, q10.2)
  else
  if x2 = 4 then
  (f_N_freeIn 2 x1 w).bind fun q12 =>
  some (q12.1, q12.2)
  else
  if x2 = 5 then
  if (w 2 8) = 2 then
  qld w 27 16 x1 fun v15 =>
  some (v15, w)
  else
  some ((-1), w)
  else
  if x2 = 6 then
  qld w 28 16 x1 fun v17 =>
  some (v17, w)
  else
  if x2 = 7 then
  qld w 29 16 x1 fun v19 =>
  some (v19, w)
  else
  if x2 = 8 then
  qld w 30 16 x1 fun v21 =>
  some (v21, w)
  else
  if x2 = 9 then
  qld w 31 16 x1 fun v23 =>
  some (v23, w)
  else
  if x2 = 10 then
  qld w 32 16 x1 fun v25 =>
  some (v25, w)
  else
  some ((-1), w)
  else
  some ((-1), w)
set_option maxRecDepth 4000 in
theorem s_X_ring (x1 : Int) (x2 : Int) (w : qMem) : qSim κI 100 100 m_X_ring 0 [] [some (qR 1), some (qI x1), some (qI x2)] w (f_X_ring x1 x2 w) := by
  unfold f_X_ring
  refine z_iload_n d_X_ring_0 rfl ?_
  refine z_if_lt (tgt := 15) d_X_ring_1 rfl (fun c1 => ?_) (fun c1 => ?_)
  · refine z_icm1 d_X_ring_15 ?_
    exact z_iret d_X_ring_16 rfl rfl
  · refine z_iload_n d_X_ring_4 rfl ?_
    refine z_aload_n d_X_ring_5 rfl ?_
    refine z_gr (ci := 9) (j := 2) (d := 2) (o2 := 3) d_X_ring_6 rfl fl_X_23 rfl (Nat.le_of_ble_eq_true rfl) rfl rfl ?_
    refine z_gi (ci := 0) (j := 6) (ji := 6) d_X_ring_9 rfl fl_X_138 rfl rfl rfl ?_
    refine z_icmp_lt (tgt := 17) d_X_ring_12 rfl (fun c2 => ?_) (fun c2 => ?_)
    · refine z_iload_n d_X_ring_17 rfl ?_
      refine z_if (fun c3 => ?_) (fun c3 => ?_)
      · refine z_tabIn (tgt := 76) (v := 0) d_X_ring_18 c3 (by decide) (by decide) rfl rfl ?_
        refine z_aload_n d_X_ring_76 rfl ?_
        refine z_gr (ci := 9) (j := 2) (d := 2) (o2 := 3) d_X_ring_77 rfl fl_X_23 rfl (Nat.le_of_ble_eq_true rfl) rfl rfl ?_
        refine z_iload_n d_X_ring_80 rfl ?_
        refine z_cVI (as := [qI x1]) (st := []) (nl := 0) (ci := 0) d_X_ring_81 lk_X_141 mk_G_ringDirection rfl rfl rfl rfl rfl rfl (s_G_ringDirection _ is_3_100 _) (fun q4 _ hq4 => ?_)
        exact z_iret d_X_ring_84 rfl rfl
      · refine z_if (fun c5 => ?_) (fun c5 => ?_)
        · refine z_tabIn (tgt := 85) (v := 1) d_X_ring_18 c5 (by decide) (by decide) rfl rfl ?_
          refine z_aload_n d_X_ring_85 rfl ?_
          refine z_gr (ci := 9) (j := 2) (d := 2) (o2 := 3) d_X_ring_86 rfl fl_X_23 rfl (Nat.le_of_ble_eq_true rfl) rfl rfl ?_
          refine z_iload_n d_X_ring_89 rfl ?_
          refine z_ic0 d_X_ring_90 ?_
          refine z_cVI (as := [qI x1, qI 0]) (st := []) (nl := 1) (ci := 0) d_X_ring_91 lk_X_144 mk_G_ringNode rfl rfl rfl rfl rfl rfl (s_G_ringNode _ _ is_3_100 _) (fun q6 _ hq6 => ?_)
          exact z_iret d_X_ring_94 rfl rfl
        · refine z_if (fun c7 => ?_) (fun c7 => ?_)
          · refine z_tabIn (tgt := 95) (v := 2) d_X_ring_18 c7 (by decide) (by decide) rfl rfl ?_
            refine z_aload_n d_X_ring_95 rfl ?_
            refine z_gr (ci := 9) (j := 2) (d := 2) (o2 := 3) d_X_ring_96 rfl fl_X_23 rfl (Nat.le_of_ble_eq_true rfl) rfl rfl ?_
            refine z_iload_n d_X_ring_99 rfl ?_
            refine z_cVI (as := [qI x1]) (st := []) (nl := 0) (ci := 0) d_X_ring_100 lk_X_147 mk_G_ringLength rfl rfl rfl rfl rfl rfl (s_G_ringLength _ is_3_100 _) (fun q8 _ hq8 => ?_)
            exact z_iret d_X_ring_103 rfl rfl
          · refine z_if (fun c9 => ?_) (fun c9 => ?_)
            · refine z_tabIn (tgt := 104) (v := 3) d_X_ring_18 c9 (by decide) (by decide) rfl rfl ?_
              refine z_aload_n d_X_ring_104 rfl ?_
              refine z_gr (ci := 9) (j := 0) (d := 1) (o2 := 2) d_X_ring_105 rfl fl_X_12 rfl (Nat.le_of_ble_eq_true rfl) rfl rfl ?_
              refine z_iload_n d_X_ring_108 rfl ?_
              refine z_cVI (as := [qI x1]) (st := []) (nl := 3) (ci := 3) d_X_ring_109 lk_X_150 mk_N_heldIn rfl rfl rfl rfl rfl rfl (s_N_heldIn _ is_2_100 _) (fun q10 _ hq10 => ?_)
              exact z_iret d_X_ring_112 rfl rfl
            · refine z_if (fun c11 => ?_) (fun c11 => ?_)
              · refine z_tabIn (tgt := 113) (v := 4) d_X_ring_18 c11 (by decide) (by decide) rfl rfl ?_
                refine z_aload_n d_X_ring_113 rfl ?_
                refine z_gr (ci := 9) (j := 0) (d := 1) (o2 := 2) d_X_ring_114 rfl fl_X_12 rfl (Nat.le_of_ble_eq_true rfl) rfl rfl ?_
                refine z_iload_n d_X_ring_117 rfl ?_
                refine z_cVI (as := [qI x1]) (st := []) (nl := 0) (ci := 3) d_X_ring_118 lk_X_153 mk_N_freeIn rfl rfl rfl rfl rfl rfl (s_N_freeIn _ is_2_100 _) (fun q12 _ hq12 => ?_)
                exact z_iret d_X_ring_121 rfl rfl
              · refine z_if (fun c13 => ?_) (fun c13 => ?_)
                · refine z_tabIn (tgt := 122) (v := 5) d_X_ring_18 c13 (by decide) (by decide) rfl rfl ?_
                  refine z_aload_n d_X_ring_122 rfl ?_
                  refine z_gr (ci := 9) (j := 0) (d := 1) (o2 := 2) d_X_ring_123 rfl fl_X_12 rfl (Nat.le_of_ble_eq_true rfl) rfl rfl ?_
                  refine z_gi (ci := 3) (j := 8) (ji := 8) d_X_ring_126 rfl fl_X_156 rfl rfl rfl ?_
                  refine z_ic2 d_X_ring_129 ?_
                  refine z_icmp_ne (tgt := 148) d_X_ring_130 rfl (fun c14 => ?_) (fun c14 => ?_)
                  · refine z_aload_n d_X_ring_133 rfl ?_
                    refine z_gr (ci := 9) (j := 0) (d := 1) (o2 := 2) d_X_ring_134 rfl fl_X_12 rfl (Nat.le_of_ble_eq_true rfl) rfl rfl ?_
                    refine z_gr (ci := 3) (j := 4) (d := 24) (o2 := 26) d_X_ring_137 rfl fl_X_159 rfl (Nat.le_of_ble_eq_true rfl) rfl rfl ?_
                    refine z_gr (ci := 7) (j := 0) (d := 1) (o2 := 27) d_X_ring_140 rfl fl_X_162 rfl (Nat.le_of_ble_eq_true rfl) rfl rfl ?_
                    refine z_iload_n d_X_ring_143 rfl ?_
                    refine z_il d_X_ring_144 rfl rfl (fun v15 => ?_)
                    refine z_goto (tgt := 149) d_X_ring_145 rfl ?_
                    exact z_iret d_X_ring_149 rfl rfl
                  · refine z_icm1 d_X_ring_148 ?_
                    exact z_iret d_X_ring_149 rfl rfl
                · refine z_if (fun c16 => ?_) (fun c16 => ?_)
                  · refine z_tabIn (tgt := 150) (v := 6) d_X_ring_18 c16 (by decide) (by decide) rfl rfl ?_
                    refine z_aload_n d_X_ring_150 rfl ?_
                    refine z_gr (ci := 9) (j := 0) (d := 1) (o2 := 2) d_X_ring_151 rfl fl_X_12 rfl (Nat.le_of_ble_eq_true rfl) rfl rfl ?_
                    refine z_gr (ci := 3) (j := 4) (d := 24) (o2 := 26) d_X_ring_154 rfl fl_X_159 rfl (Nat.le_of_ble_eq_true rfl) rfl rfl ?_
                    refine z_gr (ci := 7) (j := 1) (d := 2) (o2 := 28) d_X_ring_157 rfl fl_X_167 rfl (Nat.le_of_ble_eq_true rfl) rfl rfl ?_
                    refine z_iload_n d_X_ring_160 rfl ?_
                    refine z_il d_X_ring_161 rfl rfl (fun v17 => ?_)
                    exact z_iret d_X_ring_162 rfl rfl
                  · refine z_if (fun c18 => ?_) (fun c18 => ?_)
                    · refine z_tabIn (tgt := 163) (v := 7) d_X_ring_18 c18 (by decide) (by decide) rfl rfl ?_
                      refine z_aload_n d_X_ring_163 rfl ?_
                      refine z_gr (ci := 9) (j := 0) (d := 1) (o2 := 2) d_X_ring_164 rfl fl_X_12 rfl (Nat.le_of_ble_eq_true rfl) rfl rfl ?_
                      refine z_gr (ci := 3) (j := 4) (d := 24) (o2 := 26) d_X_ring_167 rfl fl_X_159 rfl (Nat.le_of_ble_eq_true rfl) rfl rfl ?_
                      refine z_gr (ci := 7) (j := 2) (d := 3) (o2 := 29) d_X_ring_170 rfl fl_X_170 rfl (Nat.le_of_ble_eq_true rfl) rfl rfl ?_
                      refine z_iload_n d_X_ring_173 rfl ?_
                      refine z_il d_X_ring_174 rfl rfl (fun v19 => ?_)
                      exact z_iret d_X_ring_175 rfl rfl
                    · refine z_if (fun c20 => ?_) (fun c20 => ?_)
                      · refine z_tabIn (tgt := 176) (v := 8) d_X_ring_18 c20 (by decide) (by decide) rfl rfl ?_
                        refine z_aload_n d_X_ring_176 rfl ?_
                        refine z_gr (ci := 9) (j := 0) (d := 1) (o2 := 2) d_X_ring_177 rfl fl_X_12 rfl (Nat.le_of_ble_eq_true rfl) rfl rfl ?_
                        refine z_gr (ci := 3) (j := 4) (d := 24) (o2 := 26) d_X_ring_180 rfl fl_X_159 rfl (Nat.le_of_ble_eq_true rfl) rfl rfl ?_
                        refine z_gr (ci := 7) (j := 3) (d := 4) (o2 := 30) d_X_ring_183 rfl fl_X_173 rfl (Nat.le_of_ble_eq_true rfl) rfl rfl ?_
                        refine z_iload_n d_X_ring_186 rfl ?_
                        refine z_il d_X_ring_187 rfl rfl (fun v21 => ?_)
                        exact z_iret d_X_ring_188 rfl rfl
                      · refine z_if (fun c22 => ?_) (fun c22 => ?_)
                        · refine z_tabIn (tgt := 189) (v := 9) d_X_ring_18 c22 (by decide) (by decide) rfl rfl ?_
                          refine z_aload_n d_X_ring_189 rfl ?_
                          refine z_gr (ci := 9) (j := 0) (d := 1) (o2 := 2) d_X_ring_190 rfl fl_X_12 rfl (Nat.le_of_ble_eq_true rfl) rfl rfl ?_
                          refine z_gr (ci := 3) (j := 4) (d := 24) (o2 := 26) d_X_ring_193 rfl fl_X_159 rfl (Nat.le_of_ble_eq_true rfl) rfl rfl ?_
                          refine z_gr (ci := 7) (j := 4) (d := 5) (o2 := 31) d_X_ring_196 rfl fl_X_176 rfl (Nat.le_of_ble_eq_true rfl) rfl rfl ?_
                          refine z_iload_n d_X_ring_199 rfl ?_
                          refine z_il d_X_ring_200 rfl rfl (fun v23 => ?_)
                          exact z_iret d_X_ring_201 rfl rfl
                        · refine z_if (fun c24 => ?_) (fun c24 => ?_)
                          · refine z_tabIn (tgt := 202) (v := 10) d_X_ring_18 c24 (by decide) (by decide) rfl rfl ?_
                            refine z_aload_n d_X_ring_202 rfl ?_
                            refine z_gr (ci := 9) (j := 0) (d := 1) (o2 := 2) d_X_ring_203 rfl fl_X_12 rfl (Nat.le_of_ble_eq_true rfl) rfl rfl ?_
                            refine z_gr (ci := 3) (j := 4) (d := 24) (o2 := 26) d_X_ring_206 rfl fl_X_159 rfl (Nat.le_of_ble_eq_true rfl) rfl rfl ?_
                            refine z_gr (ci := 7) (j := 5) (d := 6) (o2 := 32) d_X_ring_209 rfl fl_X_179 rfl (Nat.le_of_ble_eq_true rfl) rfl rfl ?_
                            refine z_iload_n d_X_ring_212 rfl ?_
                            refine z_il d_X_ring_213 rfl rfl (fun v25 => ?_)
                            exact z_iret d_X_ring_214 rfl rfl
                          · refine z_tabOut (tgt := 215) d_X_ring_18 (by omega) rfl ?_
                            refine z_icm1 d_X_ring_215 ?_
                            exact z_iret d_X_ring_216 rfl rfl
    · refine z_icm1 d_X_ring_15 ?_
      exact z_iret d_X_ring_16 rfl rfl
/-! BubbleTorus.ringOf -/
theorem d_X_ringOf_0 : decode m_X_ringOf.2.1 0 = .ok (.aload_n 0, 1) := by decide +kernel
theorem d_X_ringOf_1 : decode m_X_ringOf.2.1 1 = .ok (.getfield 23, 3) := by decide +kernel
theorem d_X_ringOf_4 : decode m_X_ringOf.2.1 4 = .ok (.iload_n 1, 1) := by decide +kernel
theorem d_X_ringOf_5 : decode m_X_ringOf.2.1 5 = .ok (.invokevirtual 81, 3) := by decide +kernel
theorem d_X_ringOf_8 : decode m_X_ringOf.2.1 8 = .ok (.ifCond .eq 22, 3) := by decide +kernel
theorem d_X_ringOf_11 : decode m_X_ringOf.2.1 11 = .ok (.iload_n 2, 1) := by decide +kernel
theorem d_X_ringOf_12 : decode m_X_ringOf.2.1 12 = .ok (.invokestatic 106, 3) := by decide +kernel
theorem d_X_ringOf_15 : decode m_X_ringOf.2.1 15 = .ok (.ifCond .eq 15, 3) := by decide +kernel
theorem d_X_ringOf_18 : decode m_X_ringOf.2.1 18 = .ok (.aload_n 0, 1) := by decide +kernel
theorem d_X_ringOf_19 : decode m_X_ringOf.2.1 19 = .ok (.getfield 23, 3) := by decide +kernel
theorem d_X_ringOf_22 : decode m_X_ringOf.2.1 22 = .ok (.iload_n 1, 1) := by decide +kernel
theorem d_X_ringOf_23 : decode m_X_ringOf.2.1 23 = .ok (.iload_n 2, 1) := by decide +kernel
theorem d_X_ringOf_24 : decode m_X_ringOf.2.1 24 = .ok (.invokevirtual 182, 3) := by decide +kernel
theorem d_X_ringOf_27 : decode m_X_ringOf.2.1 27 = .ok (.goto 4, 3) := by decide +kernel
theorem d_X_ringOf_30 : decode m_X_ringOf.2.1 30 = .ok (.iconst (-1), 1) := by decide +kernel
theorem d_X_ringOf_31 : decode m_X_ringOf.2.1 31 = .ok (.ireturn, 1) := by decide +kernel
def f_X_ringOf (x1 : Int) (x2 : Int) (w : qMem) : Option (Int × qMem) :=
  (f_G_hasNode 3 x1 w).bind fun q1 =>
  if q1.1 = 0 then
  some ((-1), q1.2)
  else
  (f_X_isDirection x2 q1.2).bind fun q3 =>
  if q3.1 = 0 then
  some ((-1), q3.2)
  else
  (f_G_ringIndex 3 x1 x2 q3.2).bind fun q5 =>
  some (q5.1, q5.2)
set_option maxRecDepth 4000 in
theorem s_X_ringOf (x1 : Int) (x2 : Int) (w : qMem) : qSim κI 100 100 m_X_ringOf 0 [] [some (qR 1), some (qI x1), some (qI x2)] w (f_X_ringOf x1 x2 w) := by
  unfold f_X_ringOf
  refine z_aload_n d_X_ringOf_0 rfl ?_
  refine z_gr (ci := 9) (j := 2) (d := 2) (o2 := 3) d_X_ringOf_1 rfl fl_X_23 rfl (Nat.le_of_ble_eq_true rfl) rfl rfl ?_
  refine z_iload_n d_X_ringOf_4 rfl ?_
  refine z_cVI (as := [qI x1]) (st := []) (nl := 0) (ci := 0) d_X_ringOf_5 lk_X_81 mk_G_hasNode rfl rfl rfl rfl rfl rfl (s_G_hasNode _ is_3_100 _) (fun q1 _ hq1 => ?_)
  refine z_if_eq (tgt := 30) d_X_ringOf_8 rfl (fun c2 => ?_) (fun c2 => ?_)
  · refine z_icm1 d_X_ringOf_30 ?_
    exact z_iret d_X_ringOf_31 rfl rfl
  · refine z_iload_n d_X_ringOf_11 rfl ?_
    refine z_cSI (av := [qI x2]) (st := []) (nl := 0) d_X_ringOf_12 lk_X_106 mk_X_isDirection rfl rfl rfl (s_X_isDirection _ _) (fun q3 _ hq3 => ?_)
    refine z_if_eq (tgt := 30) d_X_ringOf_15 rfl (fun c4 => ?_) (fun c4 => ?_)
    · refine z_icm1 d_X_ringOf_30 ?_
      exact z_iret d_X_ringOf_31 rfl rfl
    · refine z_aload_n d_X_ringOf_18 rfl ?_
      refine z_gr (ci := 9) (j := 2) (d := 2) (o2 := 3) d_X_ringOf_19 rfl fl_X_23 rfl (Nat.le_of_ble_eq_true rfl) rfl rfl ?_
      refine z_iload_n d_X_ringOf_22 rfl ?_
      refine z_iload_n d_X_ringOf_23 rfl ?_
      refine z_cVI (as := [qI x1, qI x2]) (st := []) (nl := 2) (ci := 0) d_X_ringOf_24 lk_X_182 mk_G_ringIndex rfl rfl rfl rfl rfl rfl (s_G_ringIndex _ _ is_3_100 _) (fun q5 _ hq5 => ?_)
      refine z_goto (tgt := 31) d_X_ringOf_27 rfl ?_
      exact z_iret d_X_ringOf_31 rfl rfl
/-! BubbleTorus.hunger -/
theorem d_X_hunger_0 : decode m_X_hunger.2.1 0 = .ok (.aload_n 0, 1) := by decide +kernel
theorem d_X_hunger_1 : decode m_X_hunger.2.1 1 = .ok (.getfield 23, 3) := by decide +kernel
theorem d_X_hunger_4 : decode m_X_hunger.2.1 4 = .ok (.iload_n 1, 1) := by decide +kernel
theorem d_X_hunger_5 : decode m_X_hunger.2.1 5 = .ok (.invokevirtual 81, 3) := by decide +kernel
theorem d_X_hunger_8 : decode m_X_hunger.2.1 8 = .ok (.ifCond .eq 29, 3) := by decide +kernel
theorem d_X_hunger_11 : decode m_X_hunger.2.1 11 = .ok (.iload_n 2, 1) := by decide +kernel
theorem d_X_hunger_12 : decode m_X_hunger.2.1 12 = .ok (.invokestatic 106, 3) := by decide +kernel
theorem d_X_hunger_15 : decode m_X_hunger.2.1 15 = .ok (.ifCond .eq 22, 3) := by decide +kernel
theorem d_X_hunger_18 : decode m_X_hunger.2.1 18 = .ok (.aload_n 0, 1) := by decide +kernel
theorem d_X_hunger_19 : decode m_X_hunger.2.1 19 = .ok (.getfield 12, 3) := by decide +kernel
theorem d_X_hunger_22 : decode m_X_hunger.2.1 22 = .ok (.getfield 159, 3) := by decide +kernel
theorem d_X_hunger_25 : decode m_X_hunger.2.1 25 = .ok (.getfield 185, 3) := by decide +kernel
theorem d_X_hunger_28 : decode m_X_hunger.2.1 28 = .ok (.iload_n 1, 1) := by decide +kernel
theorem d_X_hunger_29 : decode m_X_hunger.2.1 29 = .ok (.iconst 4, 1) := by decide +kernel
theorem d_X_hunger_30 : decode m_X_hunger.2.1 30 = .ok (.imul, 1) := by decide +kernel
theorem d_X_hunger_31 : decode m_X_hunger.2.1 31 = .ok (.iload_n 2, 1) := by decide +kernel
theorem d_X_hunger_32 : decode m_X_hunger.2.1 32 = .ok (.iadd, 1) := by decide +kernel
theorem d_X_hunger_33 : decode m_X_hunger.2.1 33 = .ok (.iaload, 1) := by decide +kernel
theorem d_X_hunger_34 : decode m_X_hunger.2.1 34 = .ok (.goto 4, 3) := by decide +kernel
theorem d_X_hunger_37 : decode m_X_hunger.2.1 37 = .ok (.iconst (-1), 1) := by decide +kernel
theorem d_X_hunger_38 : decode m_X_hunger.2.1 38 = .ok (.ireturn, 1) := by decide +kernel
def f_X_hunger (x1 : Int) (x2 : Int) (w : qMem) : Option (Int × qMem) :=
  (f_G_hasNode 3 x1 w).bind fun q1 =>
  if q1.1 = 0 then
  some ((-1), q1.2)
  else
  (f_X_isDirection x2 q1.2).bind fun q3 =>
  if q3.1 = 0 then
  some ((-1), q3.2)
  else
  qld q3.2 33 64 (w32 ((w32 (x1 * 4)) + x2)) fun v5 =>
  some (v5, q3.2)
set_option maxRecDepth 4000 in
theorem s_X_hunger (x1 : Int) (x2 : Int) (w : qMem) : qSim κI 100 100 m_X_hunger 0 [] [some (qR 1), some (qI x1), some (qI x2)] w (f_X_hunger x1 x2 w) := by
  unfold f_X_hunger
  refine z_aload_n d_X_hunger_0 rfl ?_
  refine z_gr (ci := 9) (j := 2) (d := 2) (o2 := 3) d_X_hunger_1 rfl fl_X_23 rfl (Nat.le_of_ble_eq_true rfl) rfl rfl ?_
  refine z_iload_n d_X_hunger_4 rfl ?_
  refine z_cVI (as := [qI x1]) (st := []) (nl := 0) (ci := 0) d_X_hunger_5 lk_X_81 mk_G_hasNode rfl rfl rfl rfl rfl rfl (s_G_hasNode _ is_3_100 _) (fun q1 _ hq1 => ?_)
  refine z_if_eq (tgt := 37) d_X_hunger_8 rfl (fun c2 => ?_) (fun c2 => ?_)
  · refine z_icm1 d_X_hunger_37 ?_
    exact z_iret d_X_hunger_38 rfl rfl
  · refine z_iload_n d_X_hunger_11 rfl ?_
    refine z_cSI (av := [qI x2]) (st := []) (nl := 0) d_X_hunger_12 lk_X_106 mk_X_isDirection rfl rfl rfl (s_X_isDirection _ _) (fun q3 _ hq3 => ?_)
    refine z_if_eq (tgt := 37) d_X_hunger_15 rfl (fun c4 => ?_) (fun c4 => ?_)
    · refine z_icm1 d_X_hunger_37 ?_
      exact z_iret d_X_hunger_38 rfl rfl
    · refine z_aload_n d_X_hunger_18 rfl ?_
      refine z_gr (ci := 9) (j := 0) (d := 1) (o2 := 2) d_X_hunger_19 rfl fl_X_12 rfl (Nat.le_of_ble_eq_true rfl) rfl rfl ?_
      refine z_gr (ci := 3) (j := 4) (d := 24) (o2 := 26) d_X_hunger_22 rfl fl_X_159 rfl (Nat.le_of_ble_eq_true rfl) rfl rfl ?_
      refine z_gr (ci := 7) (j := 6) (d := 7) (o2 := 33) d_X_hunger_25 rfl fl_X_185 rfl (Nat.le_of_ble_eq_true rfl) rfl rfl ?_
      refine z_iload_n d_X_hunger_28 rfl ?_
      refine z_ic4 d_X_hunger_29 ?_
      refine z_imul d_X_hunger_30 ?_
      refine z_iload_n d_X_hunger_31 rfl ?_
      refine z_iadd d_X_hunger_32 ?_
      refine z_il d_X_hunger_33 rfl rfl (fun v5 => ?_)
      refine z_goto (tgt := 38) d_X_hunger_34 rfl ?_
      exact z_iret d_X_hunger_38 rfl rfl
/-! BubbleTorus.node -/
theorem d_X_node_0 : decode m_X_node.2.1 0 = .ok (.aload_n 0, 1) := by decide +kernel
theorem d_X_node_1 : decode m_X_node.2.1 1 = .ok (.getfield 23, 3) := by decide +kernel
theorem d_X_node_4 : decode m_X_node.2.1 4 = .ok (.iload_n 1, 1) := by decide +kernel
theorem d_X_node_5 : decode m_X_node.2.1 5 = .ok (.invokevirtual 81, 3) := by decide +kernel
theorem d_X_node_8 : decode m_X_node.2.1 8 = .ok (.ifCond .ne 5, 3) := by decide +kernel
theorem d_X_node_11 : decode m_X_node.2.1 11 = .ok (.iconst (-1), 1) := by decide +kernel
theorem d_X_node_12 : decode m_X_node.2.1 12 = .ok (.ireturn, 1) := by decide +kernel
theorem d_X_node_13 : decode m_X_node.2.1 13 = .ok (.iload_n 2, 1) := by decide +kernel
theorem d_X_node_14 : decode m_X_node.2.1 14 = .ok (.tableswitch 120 0 5 #[38, 54, 71, 83, 95, 108], 38) := by decide +kernel
theorem d_X_node_52 : decode m_X_node.2.1 52 = .ok (.aload_n 0, 1) := by decide +kernel
theorem d_X_node_53 : decode m_X_node.2.1 53 = .ok (.getfield 12, 3) := by decide +kernel
theorem d_X_node_56 : decode m_X_node.2.1 56 = .ok (.getfield 112, 3) := by decide +kernel
theorem d_X_node_59 : decode m_X_node.2.1 59 = .ok (.getfield 116, 3) := by decide +kernel
theorem d_X_node_62 : decode m_X_node.2.1 62 = .ok (.iload_n 1, 1) := by decide +kernel
theorem d_X_node_63 : decode m_X_node.2.1 63 = .ok (.bipush 9, 2) := by decide +kernel
theorem d_X_node_65 : decode m_X_node.2.1 65 = .ok (.imul, 1) := by decide +kernel
theorem d_X_node_66 : decode m_X_node.2.1 66 = .ok (.iaload, 1) := by decide +kernel
theorem d_X_node_67 : decode m_X_node.2.1 67 = .ok (.ireturn, 1) := by decide +kernel
theorem d_X_node_68 : decode m_X_node.2.1 68 = .ok (.aload_n 0, 1) := by decide +kernel
theorem d_X_node_69 : decode m_X_node.2.1 69 = .ok (.getfield 12, 3) := by decide +kernel
theorem d_X_node_72 : decode m_X_node.2.1 72 = .ok (.getfield 112, 3) := by decide +kernel
theorem d_X_node_75 : decode m_X_node.2.1 75 = .ok (.iload_n 1, 1) := by decide +kernel
theorem d_X_node_76 : decode m_X_node.2.1 76 = .ok (.bipush 9, 2) := by decide +kernel
theorem d_X_node_78 : decode m_X_node.2.1 78 = .ok (.imul, 1) := by decide +kernel
theorem d_X_node_79 : decode m_X_node.2.1 79 = .ok (.bipush 9, 2) := by decide +kernel
theorem d_X_node_81 : decode m_X_node.2.1 81 = .ok (.invokevirtual 188, 3) := by decide +kernel
theorem d_X_node_84 : decode m_X_node.2.1 84 = .ok (.ireturn, 1) := by decide +kernel
theorem d_X_node_85 : decode m_X_node.2.1 85 = .ok (.aload_n 0, 1) := by decide +kernel
theorem d_X_node_86 : decode m_X_node.2.1 86 = .ok (.getfield 12, 3) := by decide +kernel
theorem d_X_node_89 : decode m_X_node.2.1 89 = .ok (.getfield 94, 3) := by decide +kernel
theorem d_X_node_92 : decode m_X_node.2.1 92 = .ok (.iload_n 1, 1) := by decide +kernel
theorem d_X_node_93 : decode m_X_node.2.1 93 = .ok (.invokevirtual 191, 3) := by decide +kernel
theorem d_X_node_96 : decode m_X_node.2.1 96 = .ok (.ireturn, 1) := by decide +kernel
theorem d_X_node_97 : decode m_X_node.2.1 97 = .ok (.aload_n 0, 1) := by decide +kernel
theorem d_X_node_98 : decode m_X_node.2.1 98 = .ok (.getfield 12, 3) := by decide +kernel
theorem d_X_node_101 : decode m_X_node.2.1 101 = .ok (.getfield 94, 3) := by decide +kernel
theorem d_X_node_104 : decode m_X_node.2.1 104 = .ok (.iload_n 1, 1) := by decide +kernel
theorem d_X_node_105 : decode m_X_node.2.1 105 = .ok (.invokevirtual 194, 3) := by decide +kernel
theorem d_X_node_108 : decode m_X_node.2.1 108 = .ok (.ireturn, 1) := by decide +kernel
theorem d_X_node_109 : decode m_X_node.2.1 109 = .ok (.aload_n 0, 1) := by decide +kernel
theorem d_X_node_110 : decode m_X_node.2.1 110 = .ok (.getfield 12, 3) := by decide +kernel
theorem d_X_node_113 : decode m_X_node.2.1 113 = .ok (.getfield 159, 3) := by decide +kernel
theorem d_X_node_116 : decode m_X_node.2.1 116 = .ok (.getfield 197, 3) := by decide +kernel
theorem d_X_node_119 : decode m_X_node.2.1 119 = .ok (.iload_n 1, 1) := by decide +kernel
theorem d_X_node_120 : decode m_X_node.2.1 120 = .ok (.iaload, 1) := by decide +kernel
theorem d_X_node_121 : decode m_X_node.2.1 121 = .ok (.ireturn, 1) := by decide +kernel
theorem d_X_node_122 : decode m_X_node.2.1 122 = .ok (.aload_n 0, 1) := by decide +kernel
theorem d_X_node_123 : decode m_X_node.2.1 123 = .ok (.getfield 12, 3) := by decide +kernel
theorem d_X_node_126 : decode m_X_node.2.1 126 = .ok (.getfield 94, 3) := by decide +kernel
theorem d_X_node_129 : decode m_X_node.2.1 129 = .ok (.iload_n 1, 1) := by decide +kernel
theorem d_X_node_130 : decode m_X_node.2.1 130 = .ok (.invokevirtual 200, 3) := by decide +kernel
theorem d_X_node_133 : decode m_X_node.2.1 133 = .ok (.ireturn, 1) := by decide +kernel
theorem d_X_node_134 : decode m_X_node.2.1 134 = .ok (.iconst (-1), 1) := by decide +kernel
theorem d_X_node_135 : decode m_X_node.2.1 135 = .ok (.ireturn, 1) := by decide +kernel
def f_X_node (x1 : Int) (x2 : Int) (w : qMem) : Option (Int × qMem) :=
  (f_G_hasNode 3 x1 w).bind fun q1 =>
  if q1.1 = 0 then
  some ((-1), q1.2)
  else
  if x2 = 0 then
  qld q1.2 22 144 (w32 (x1 * 9)) fun v4 =>
  some (v4, q1.2)
  else
  if x2 = 1 then
  (f_Q_heldFrom 21 (w32 (x1 * 9)) 9 q1.2).bind fun q6 =>
  some (q6.1, q6.2)
  else
  if x2 = 2 then
  (f_P_sentFrom 7 x1 q1.2).bind fun q8 =>
  some (q8.1, q8.2)
  else
  if x2 = 3 then
  (f_P_deliveredTo 7 x1 q1.2).bind fun q10 =>
  some (q10.1, q10.2)
  else
  if x2 = 4 then
  qld q1.2 34 16 x1 fun v12 =>
  some (v12, q1.2)
  else
  if x2 = 5 then
  (f_P_longestAtDoor 7 x1 q1.2).bind fun q14 =>
  some (q14.1, q14.2)
  else
  some ((-1), q1.2)
set_option maxRecDepth 4000 in
theorem s_X_node (x1 : Int) (x2 : Int) (w : qMem) : qSim κI 100 100 m_X_node 0 [] [some (qR 1), some (qI x1), some (qI x2)] w (f_X_node x1 x2 w) := by
  unfold f_X_node
  refine z_aload_n d_X_node_0 rfl ?_
  refine z_gr (ci := 9) (j := 2) (d := 2) (o2 := 3) d_X_node_1 rfl fl_X_23 rfl (Nat.le_of_ble_eq_true rfl) rfl rfl ?_
  refine z_iload_n d_X_node_4 rfl ?_
  refine z_cVI (as := [qI x1]) (st := []) (nl := 0) (ci := 0) d_X_node_5 lk_X_81 mk_G_hasNode rfl rfl rfl rfl rfl rfl (s_G_hasNode _ is_3_100 _) (fun q1 _ hq1 => ?_)
  refine z_if_ne (tgt := 13) d_X_node_8 rfl (fun c2 => ?_) (fun c2 => ?_)
  · refine z_icm1 d_X_node_11 ?_
    exact z_iret d_X_node_12 rfl rfl
  · refine z_iload_n d_X_node_13 rfl ?_
    refine z_if (fun c3 => ?_) (fun c3 => ?_)
    · refine z_tabIn (tgt := 52) (v := 0) d_X_node_14 c3 (by decide) (by decide) rfl rfl ?_
      refine z_aload_n d_X_node_52 rfl ?_
      refine z_gr (ci := 9) (j := 0) (d := 1) (o2 := 2) d_X_node_53 rfl fl_X_12 rfl (Nat.le_of_ble_eq_true rfl) rfl rfl ?_
      refine z_gr (ci := 3) (j := 2) (d := 19) (o2 := 21) d_X_node_56 rfl fl_X_112 rfl (Nat.le_of_ble_eq_true rfl) rfl rfl ?_
      refine z_gr (ci := 6) (j := 0) (d := 1) (o2 := 22) d_X_node_59 rfl fl_X_116 rfl (Nat.le_of_ble_eq_true rfl) rfl rfl ?_
      refine z_iload_n d_X_node_62 rfl ?_
      refine z_bipush d_X_node_63 ⟨by decide, by decide⟩ ?_
      refine z_imul d_X_node_65 ?_
      refine z_il d_X_node_66 rfl rfl (fun v4 => ?_)
      exact z_iret d_X_node_67 rfl rfl
    · refine z_if (fun c5 => ?_) (fun c5 => ?_)
      · refine z_tabIn (tgt := 68) (v := 1) d_X_node_14 c5 (by decide) (by decide) rfl rfl ?_
        refine z_aload_n d_X_node_68 rfl ?_
        refine z_gr (ci := 9) (j := 0) (d := 1) (o2 := 2) d_X_node_69 rfl fl_X_12 rfl (Nat.le_of_ble_eq_true rfl) rfl rfl ?_
        refine z_gr (ci := 3) (j := 2) (d := 19) (o2 := 21) d_X_node_72 rfl fl_X_112 rfl (Nat.le_of_ble_eq_true rfl) rfl rfl ?_
        refine z_iload_n d_X_node_75 rfl ?_
        refine z_bipush d_X_node_76 ⟨by decide, by decide⟩ ?_
        refine z_imul d_X_node_78 ?_
        refine z_bipush d_X_node_79 ⟨by decide, by decide⟩ ?_
        refine z_cVI (as := [qI (w32 (x1 * 9)), qI 9]) (st := []) (nl := 2) (ci := 6) d_X_node_81 lk_X_188 mk_Q_heldFrom rfl rfl rfl rfl rfl rfl (s_Q_heldFrom _ _ is_21_100 _) (fun q6 _ hq6 => ?_)
        exact z_iret d_X_node_84 rfl rfl
      · refine z_if (fun c7 => ?_) (fun c7 => ?_)
        · refine z_tabIn (tgt := 85) (v := 2) d_X_node_14 c7 (by decide) (by decide) rfl rfl ?_
          refine z_aload_n d_X_node_85 rfl ?_
          refine z_gr (ci := 9) (j := 0) (d := 1) (o2 := 2) d_X_node_86 rfl fl_X_12 rfl (Nat.le_of_ble_eq_true rfl) rfl rfl ?_
          refine z_gr (ci := 3) (j := 1) (d := 5) (o2 := 7) d_X_node_89 rfl fl_X_94 rfl (Nat.le_of_ble_eq_true rfl) rfl rfl ?_
          refine z_iload_n d_X_node_92 rfl ?_
          refine z_cVI (as := [qI x1]) (st := []) (nl := 2) (ci := 5) d_X_node_93 lk_X_191 mk_P_sentFrom rfl rfl rfl rfl rfl rfl (s_P_sentFrom _ is_7_100 _) (fun q8 _ hq8 => ?_)
          exact z_iret d_X_node_96 rfl rfl
        · refine z_if (fun c9 => ?_) (fun c9 => ?_)
          · refine z_tabIn (tgt := 97) (v := 3) d_X_node_14 c9 (by decide) (by decide) rfl rfl ?_
            refine z_aload_n d_X_node_97 rfl ?_
            refine z_gr (ci := 9) (j := 0) (d := 1) (o2 := 2) d_X_node_98 rfl fl_X_12 rfl (Nat.le_of_ble_eq_true rfl) rfl rfl ?_
            refine z_gr (ci := 3) (j := 1) (d := 5) (o2 := 7) d_X_node_101 rfl fl_X_94 rfl (Nat.le_of_ble_eq_true rfl) rfl rfl ?_
            refine z_iload_n d_X_node_104 rfl ?_
            refine z_cVI (as := [qI x1]) (st := []) (nl := 2) (ci := 5) d_X_node_105 lk_X_194 mk_P_deliveredTo rfl rfl rfl rfl rfl rfl (s_P_deliveredTo _ is_7_100 _) (fun q10 _ hq10 => ?_)
            exact z_iret d_X_node_108 rfl rfl
          · refine z_if (fun c11 => ?_) (fun c11 => ?_)
            · refine z_tabIn (tgt := 109) (v := 4) d_X_node_14 c11 (by decide) (by decide) rfl rfl ?_
              refine z_aload_n d_X_node_109 rfl ?_
              refine z_gr (ci := 9) (j := 0) (d := 1) (o2 := 2) d_X_node_110 rfl fl_X_12 rfl (Nat.le_of_ble_eq_true rfl) rfl rfl ?_
              refine z_gr (ci := 3) (j := 4) (d := 24) (o2 := 26) d_X_node_113 rfl fl_X_159 rfl (Nat.le_of_ble_eq_true rfl) rfl rfl ?_
              refine z_gr (ci := 7) (j := 7) (d := 8) (o2 := 34) d_X_node_116 rfl fl_X_197 rfl (Nat.le_of_ble_eq_true rfl) rfl rfl ?_
              refine z_iload_n d_X_node_119 rfl ?_
              refine z_il d_X_node_120 rfl rfl (fun v12 => ?_)
              exact z_iret d_X_node_121 rfl rfl
            · refine z_if (fun c13 => ?_) (fun c13 => ?_)
              · refine z_tabIn (tgt := 122) (v := 5) d_X_node_14 c13 (by decide) (by decide) rfl rfl ?_
                refine z_aload_n d_X_node_122 rfl ?_
                refine z_gr (ci := 9) (j := 0) (d := 1) (o2 := 2) d_X_node_123 rfl fl_X_12 rfl (Nat.le_of_ble_eq_true rfl) rfl rfl ?_
                refine z_gr (ci := 3) (j := 1) (d := 5) (o2 := 7) d_X_node_126 rfl fl_X_94 rfl (Nat.le_of_ble_eq_true rfl) rfl rfl ?_
                refine z_iload_n d_X_node_129 rfl ?_
                refine z_cVI (as := [qI x1]) (st := []) (nl := 2) (ci := 5) d_X_node_130 lk_X_200 mk_P_longestAtDoor rfl rfl rfl rfl rfl rfl (s_P_longestAtDoor _ is_7_100 _) (fun q14 _ hq14 => ?_)
                exact z_iret d_X_node_133 rfl rfl
              · refine z_tabOut (tgt := 134) d_X_node_14 (by omega) rfl ?_
                refine z_icm1 d_X_node_134 ?_
                exact z_iret d_X_node_135 rfl rfl
/-! BubbleTorus.move -/
theorem d_X_move_0 : decode m_X_move.2.1 0 = .ok (.iload_n 2, 1) := by decide +kernel
theorem d_X_move_1 : decode m_X_move.2.1 1 = .ok (.iconst 0, 1) := by decide +kernel
theorem d_X_move_2 : decode m_X_move.2.1 2 = .ok (.iconst 4, 1) := by decide +kernel
theorem d_X_move_3 : decode m_X_move.2.1 3 = .ok (.invokestatic 53, 3) := by decide +kernel
theorem d_X_move_6 : decode m_X_move.2.1 6 = .ok (.ifCond .ne 5, 3) := by decide +kernel
theorem d_X_move_9 : decode m_X_move.2.1 9 = .ok (.iconst (-1), 1) := by decide +kernel
theorem d_X_move_10 : decode m_X_move.2.1 10 = .ok (.ireturn, 1) := by decide +kernel
theorem d_X_move_11 : decode m_X_move.2.1 11 = .ok (.iload_n 1, 1) := by decide +kernel
theorem d_X_move_12 : decode m_X_move.2.1 12 = .ok (.iconst (-1), 1) := by decide +kernel
theorem d_X_move_13 : decode m_X_move.2.1 13 = .ok (.if_icmp .ne 16, 3) := by decide +kernel
theorem d_X_move_16 : decode m_X_move.2.1 16 = .ok (.aload_n 0, 1) := by decide +kernel
theorem d_X_move_17 : decode m_X_move.2.1 17 = .ok (.getfield 12, 3) := by decide +kernel
theorem d_X_move_20 : decode m_X_move.2.1 20 = .ok (.getfield 205, 3) := by decide +kernel
theorem d_X_move_23 : decode m_X_move.2.1 23 = .ok (.getfield 209, 3) := by decide +kernel
theorem d_X_move_26 : decode m_X_move.2.1 26 = .ok (.goto 15, 3) := by decide +kernel
theorem d_X_move_29 : decode m_X_move.2.1 29 = .ok (.aload_n 0, 1) := by decide +kernel
theorem d_X_move_30 : decode m_X_move.2.1 30 = .ok (.getfield 12, 3) := by decide +kernel
theorem d_X_move_33 : decode m_X_move.2.1 33 = .ok (.getfield 205, 3) := by decide +kernel
theorem d_X_move_36 : decode m_X_move.2.1 36 = .ok (.iload_n 1, 1) := by decide +kernel
theorem d_X_move_37 : decode m_X_move.2.1 37 = .ok (.iload_n 2, 1) := by decide +kernel
theorem d_X_move_38 : decode m_X_move.2.1 38 = .ok (.invokevirtual 212, 3) := by decide +kernel
theorem d_X_move_41 : decode m_X_move.2.1 41 = .ok (.ireturn, 1) := by decide +kernel
def f_X_move (x1 : Int) (x2 : Int) (w : qMem) : Option (Int × qMem) :=
  (f_X_within x2 0 4 w).bind fun q1 =>
  if q1.1 = 0 then
  some ((-1), q1.2)
  else
  if x1 = (-1) then
  some ((q1.2 24 1), q1.2)
  else
  (f_V_fact 24 x1 x2 q1.2).bind fun q4 =>
  some (q4.1, q4.2)
set_option maxRecDepth 4000 in
theorem s_X_move (x1 : Int) (x2 : Int) (w : qMem) : qSim κI 100 100 m_X_move 0 [] [some (qR 1), some (qI x1), some (qI x2)] w (f_X_move x1 x2 w) := by
  unfold f_X_move
  refine z_iload_n d_X_move_0 rfl ?_
  refine z_ic0 d_X_move_1 ?_
  refine z_ic4 d_X_move_2 ?_
  refine z_cSI (av := [qI x2, qI 0, qI 4]) (st := []) (nl := 0) d_X_move_3 lk_X_53 mk_X_within rfl rfl rfl (s_X_within _ _ _ _) (fun q1 _ hq1 => ?_)
  refine z_if_ne (tgt := 11) d_X_move_6 rfl (fun c2 => ?_) (fun c2 => ?_)
  · refine z_icm1 d_X_move_9 ?_
    exact z_iret d_X_move_10 rfl rfl
  · refine z_iload_n d_X_move_11 rfl ?_
    refine z_icm1 d_X_move_12 ?_
    refine z_icmp_ne (tgt := 29) d_X_move_13 rfl (fun c3 => ?_) (fun c3 => ?_)
    · refine z_aload_n d_X_move_16 rfl ?_
      refine z_gr (ci := 9) (j := 0) (d := 1) (o2 := 2) d_X_move_17 rfl fl_X_12 rfl (Nat.le_of_ble_eq_true rfl) rfl rfl ?_
      refine z_gr (ci := 3) (j := 3) (d := 22) (o2 := 24) d_X_move_20 rfl fl_X_205 rfl (Nat.le_of_ble_eq_true rfl) rfl rfl ?_
      refine z_gi (ci := 2) (j := 1) (ji := 1) d_X_move_23 rfl fl_X_209 rfl rfl rfl ?_
      refine z_goto (tgt := 41) d_X_move_26 rfl ?_
      exact z_iret d_X_move_41 rfl rfl
    · refine z_aload_n d_X_move_29 rfl ?_
      refine z_gr (ci := 9) (j := 0) (d := 1) (o2 := 2) d_X_move_30 rfl fl_X_12 rfl (Nat.le_of_ble_eq_true rfl) rfl rfl ?_
      refine z_gr (ci := 3) (j := 3) (d := 22) (o2 := 24) d_X_move_33 rfl fl_X_205 rfl (Nat.le_of_ble_eq_true rfl) rfl rfl ?_
      refine z_iload_n d_X_move_36 rfl ?_
      refine z_iload_n d_X_move_37 rfl ?_
      refine z_cVI (as := [qI x1, qI x2]) (st := []) (nl := 0) (ci := 2) d_X_move_38 lk_X_212 mk_V_fact rfl rfl rfl rfl rfl rfl (s_V_fact _ _ is_24_100 _) (fun q4 _ hq4 => ?_)
      exact z_iret d_X_move_41 rfl rfl
/-! BubbleTorus.link -/
theorem d_X_link_0 : decode m_X_link.2.1 0 = .ok (.aload_n 0, 1) := by decide +kernel
theorem d_X_link_1 : decode m_X_link.2.1 1 = .ok (.getfield 23, 3) := by decide +kernel
theorem d_X_link_4 : decode m_X_link.2.1 4 = .ok (.iload_n 1, 1) := by decide +kernel
theorem d_X_link_5 : decode m_X_link.2.1 5 = .ok (.invokevirtual 81, 3) := by decide +kernel
theorem d_X_link_8 : decode m_X_link.2.1 8 = .ok (.ifCond .eq 26, 3) := by decide +kernel
theorem d_X_link_11 : decode m_X_link.2.1 11 = .ok (.iload_n 2, 1) := by decide +kernel
theorem d_X_link_12 : decode m_X_link.2.1 12 = .ok (.invokestatic 106, 3) := by decide +kernel
theorem d_X_link_15 : decode m_X_link.2.1 15 = .ok (.ifCond .eq 19, 3) := by decide +kernel
theorem d_X_link_18 : decode m_X_link.2.1 18 = .ok (.aload_n 0, 1) := by decide +kernel
theorem d_X_link_19 : decode m_X_link.2.1 19 = .ok (.getfield 12, 3) := by decide +kernel
theorem d_X_link_22 : decode m_X_link.2.1 22 = .ok (.getfield 213, 3) := by decide +kernel
theorem d_X_link_25 : decode m_X_link.2.1 25 = .ok (.iload_n 1, 1) := by decide +kernel
theorem d_X_link_26 : decode m_X_link.2.1 26 = .ok (.iconst 4, 1) := by decide +kernel
theorem d_X_link_27 : decode m_X_link.2.1 27 = .ok (.imul, 1) := by decide +kernel
theorem d_X_link_28 : decode m_X_link.2.1 28 = .ok (.iload_n 2, 1) := by decide +kernel
theorem d_X_link_29 : decode m_X_link.2.1 29 = .ok (.iadd, 1) := by decide +kernel
theorem d_X_link_30 : decode m_X_link.2.1 30 = .ok (.iaload, 1) := by decide +kernel
theorem d_X_link_31 : decode m_X_link.2.1 31 = .ok (.goto 4, 3) := by decide +kernel
theorem d_X_link_34 : decode m_X_link.2.1 34 = .ok (.iconst (-1), 1) := by decide +kernel
theorem d_X_link_35 : decode m_X_link.2.1 35 = .ok (.ireturn, 1) := by decide +kernel
def f_X_link (x1 : Int) (x2 : Int) (w : qMem) : Option (Int × qMem) :=
  (f_G_hasNode 3 x1 w).bind fun q1 =>
  if q1.1 = 0 then
  some ((-1), q1.2)
  else
  (f_X_isDirection x2 q1.2).bind fun q3 =>
  if q3.1 = 0 then
  some ((-1), q3.2)
  else
  qld q3.2 36 64 (w32 ((w32 (x1 * 4)) + x2)) fun v5 =>
  some (v5, q3.2)
set_option maxRecDepth 4000 in
theorem s_X_link (x1 : Int) (x2 : Int) (w : qMem) : qSim κI 100 100 m_X_link 0 [] [some (qR 1), some (qI x1), some (qI x2)] w (f_X_link x1 x2 w) := by
  unfold f_X_link
  refine z_aload_n d_X_link_0 rfl ?_
  refine z_gr (ci := 9) (j := 2) (d := 2) (o2 := 3) d_X_link_1 rfl fl_X_23 rfl (Nat.le_of_ble_eq_true rfl) rfl rfl ?_
  refine z_iload_n d_X_link_4 rfl ?_
  refine z_cVI (as := [qI x1]) (st := []) (nl := 0) (ci := 0) d_X_link_5 lk_X_81 mk_G_hasNode rfl rfl rfl rfl rfl rfl (s_G_hasNode _ is_3_100 _) (fun q1 _ hq1 => ?_)
  refine z_if_eq (tgt := 34) d_X_link_8 rfl (fun c2 => ?_) (fun c2 => ?_)
  · refine z_icm1 d_X_link_34 ?_
    exact z_iret d_X_link_35 rfl rfl
  · refine z_iload_n d_X_link_11 rfl ?_
    refine z_cSI (av := [qI x2]) (st := []) (nl := 0) d_X_link_12 lk_X_106 mk_X_isDirection rfl rfl rfl (s_X_isDirection _ _) (fun q3 _ hq3 => ?_)
    refine z_if_eq (tgt := 34) d_X_link_15 rfl (fun c4 => ?_) (fun c4 => ?_)
    · refine z_icm1 d_X_link_34 ?_
      exact z_iret d_X_link_35 rfl rfl
    · refine z_aload_n d_X_link_18 rfl ?_
      refine z_gr (ci := 9) (j := 0) (d := 1) (o2 := 2) d_X_link_19 rfl fl_X_12 rfl (Nat.le_of_ble_eq_true rfl) rfl rfl ?_
      refine z_gr (ci := 3) (j := 5) (d := 34) (o2 := 36) d_X_link_22 rfl fl_X_213 rfl (Nat.le_of_ble_eq_true rfl) rfl rfl ?_
      refine z_iload_n d_X_link_25 rfl ?_
      refine z_ic4 d_X_link_26 ?_
      refine z_imul d_X_link_27 ?_
      refine z_iload_n d_X_link_28 rfl ?_
      refine z_iadd d_X_link_29 ?_
      refine z_il d_X_link_30 rfl rfl (fun v5 => ?_)
      refine z_goto (tgt := 35) d_X_link_31 rfl ?_
      exact z_iret d_X_link_35 rfl rfl
/-! BubbleTorus.trace -/
theorem d_X_trace_0 : decode m_X_trace.2.1 0 = .ok (.aload_n 0, 1) := by decide +kernel
theorem d_X_trace_1 : decode m_X_trace.2.1 1 = .ok (.getfield 12, 3) := by decide +kernel
theorem d_X_trace_4 : decode m_X_trace.2.1 4 = .ok (.getfield 94, 3) := by decide +kernel
theorem d_X_trace_7 : decode m_X_trace.2.1 7 = .ok (.iload_n 1, 1) := by decide +kernel
theorem d_X_trace_8 : decode m_X_trace.2.1 8 = .ok (.invokevirtual 98, 3) := by decide +kernel
theorem d_X_trace_11 : decode m_X_trace.2.1 11 = .ok (.ifCond .eq 18, 3) := by decide +kernel
theorem d_X_trace_14 : decode m_X_trace.2.1 14 = .ok (.aload_n 0, 1) := by decide +kernel
theorem d_X_trace_15 : decode m_X_trace.2.1 15 = .ok (.getfield 12, 3) := by decide +kernel
theorem d_X_trace_18 : decode m_X_trace.2.1 18 = .ok (.getfield 94, 3) := by decide +kernel
theorem d_X_trace_21 : decode m_X_trace.2.1 21 = .ok (.iload_n 1, 1) := by decide +kernel
theorem d_X_trace_22 : decode m_X_trace.2.1 22 = .ok (.iload_n 2, 1) := by decide +kernel
theorem d_X_trace_23 : decode m_X_trace.2.1 23 = .ok (.invokevirtual 216, 3) := by decide +kernel
theorem d_X_trace_26 : decode m_X_trace.2.1 26 = .ok (.goto 4, 3) := by decide +kernel
theorem d_X_trace_29 : decode m_X_trace.2.1 29 = .ok (.iconst (-1), 1) := by decide +kernel
theorem d_X_trace_30 : decode m_X_trace.2.1 30 = .ok (.ireturn, 1) := by decide +kernel
def f_X_trace (x1 : Int) (x2 : Int) (w : qMem) : Option (Int × qMem) :=
  (f_P_has 7 x1 w).bind fun q1 =>
  if q1.1 = 0 then
  some ((-1), q1.2)
  else
  (f_P_nodeBehind 7 x1 x2 q1.2).bind fun q3 =>
  some (q3.1, q3.2)
set_option maxRecDepth 4000 in
theorem s_X_trace (x1 : Int) (x2 : Int) (w : qMem) : qSim κI 100 100 m_X_trace 0 [] [some (qR 1), some (qI x1), some (qI x2)] w (f_X_trace x1 x2 w) := by
  unfold f_X_trace
  refine z_aload_n d_X_trace_0 rfl ?_
  refine z_gr (ci := 9) (j := 0) (d := 1) (o2 := 2) d_X_trace_1 rfl fl_X_12 rfl (Nat.le_of_ble_eq_true rfl) rfl rfl ?_
  refine z_gr (ci := 3) (j := 1) (d := 5) (o2 := 7) d_X_trace_4 rfl fl_X_94 rfl (Nat.le_of_ble_eq_true rfl) rfl rfl ?_
  refine z_iload_n d_X_trace_7 rfl ?_
  refine z_cVI (as := [qI x1]) (st := []) (nl := 0) (ci := 5) d_X_trace_8 lk_X_98 mk_P_has rfl rfl rfl rfl rfl rfl (s_P_has _ is_7_100 _) (fun q1 _ hq1 => ?_)
  refine z_if_eq (tgt := 29) d_X_trace_11 rfl (fun c2 => ?_) (fun c2 => ?_)
  · refine z_icm1 d_X_trace_29 ?_
    exact z_iret d_X_trace_30 rfl rfl
  · refine z_aload_n d_X_trace_14 rfl ?_
    refine z_gr (ci := 9) (j := 0) (d := 1) (o2 := 2) d_X_trace_15 rfl fl_X_12 rfl (Nat.le_of_ble_eq_true rfl) rfl rfl ?_
    refine z_gr (ci := 3) (j := 1) (d := 5) (o2 := 7) d_X_trace_18 rfl fl_X_94 rfl (Nat.le_of_ble_eq_true rfl) rfl rfl ?_
    refine z_iload_n d_X_trace_21 rfl ?_
    refine z_iload_n d_X_trace_22 rfl ?_
    refine z_cVI (as := [qI x1, qI x2]) (st := []) (nl := 0) (ci := 5) d_X_trace_23 lk_X_216 mk_P_nodeBehind rfl rfl rfl rfl rfl rfl (s_P_nodeBehind _ _ is_7_100 _) (fun q3 _ hq3 => ?_)
    refine z_goto (tgt := 30) d_X_trace_26 rfl ?_
    exact z_iret d_X_trace_30 rfl rfl
/-! BubbleTorus.pair -/
theorem d_X_pair_0 : decode m_X_pair.2.1 0 = .ok (.aload_n 0, 1) := by decide +kernel
theorem d_X_pair_1 : decode m_X_pair.2.1 1 = .ok (.getfield 23, 3) := by decide +kernel
theorem d_X_pair_4 : decode m_X_pair.2.1 4 = .ok (.iload_n 1, 1) := by decide +kernel
theorem d_X_pair_5 : decode m_X_pair.2.1 5 = .ok (.invokevirtual 81, 3) := by decide +kernel
theorem d_X_pair_8 : decode m_X_pair.2.1 8 = .ok (.ifCond .eq 14, 3) := by decide +kernel
theorem d_X_pair_11 : decode m_X_pair.2.1 11 = .ok (.aload_n 0, 1) := by decide +kernel
theorem d_X_pair_12 : decode m_X_pair.2.1 12 = .ok (.getfield 23, 3) := by decide +kernel
theorem d_X_pair_15 : decode m_X_pair.2.1 15 = .ok (.iload_n 2, 1) := by decide +kernel
theorem d_X_pair_16 : decode m_X_pair.2.1 16 = .ok (.invokevirtual 81, 3) := by decide +kernel
theorem d_X_pair_19 : decode m_X_pair.2.1 19 = .ok (.ifCond .ne 5, 3) := by decide +kernel
theorem d_X_pair_22 : decode m_X_pair.2.1 22 = .ok (.iconst (-1), 1) := by decide +kernel
theorem d_X_pair_23 : decode m_X_pair.2.1 23 = .ok (.ireturn, 1) := by decide +kernel
theorem d_X_pair_24 : decode m_X_pair.2.1 24 = .ok (.iload_n 3, 1) := by decide +kernel
theorem d_X_pair_25 : decode m_X_pair.2.1 25 = .ok (.tableswitch 83 0 3 #[31, 44, 57, 70], 31) := by decide +kernel
theorem d_X_pair_56 : decode m_X_pair.2.1 56 = .ok (.aload_n 0, 1) := by decide +kernel
theorem d_X_pair_57 : decode m_X_pair.2.1 57 = .ok (.getfield 12, 3) := by decide +kernel
theorem d_X_pair_60 : decode m_X_pair.2.1 60 = .ok (.getfield 94, 3) := by decide +kernel
theorem d_X_pair_63 : decode m_X_pair.2.1 63 = .ok (.iload_n 1, 1) := by decide +kernel
theorem d_X_pair_64 : decode m_X_pair.2.1 64 = .ok (.iload_n 2, 1) := by decide +kernel
theorem d_X_pair_65 : decode m_X_pair.2.1 65 = .ok (.invokevirtual 219, 3) := by decide +kernel
theorem d_X_pair_68 : decode m_X_pair.2.1 68 = .ok (.ireturn, 1) := by decide +kernel
theorem d_X_pair_69 : decode m_X_pair.2.1 69 = .ok (.aload_n 0, 1) := by decide +kernel
theorem d_X_pair_70 : decode m_X_pair.2.1 70 = .ok (.getfield 12, 3) := by decide +kernel
theorem d_X_pair_73 : decode m_X_pair.2.1 73 = .ok (.getfield 94, 3) := by decide +kernel
theorem d_X_pair_76 : decode m_X_pair.2.1 76 = .ok (.iload_n 1, 1) := by decide +kernel
theorem d_X_pair_77 : decode m_X_pair.2.1 77 = .ok (.iload_n 2, 1) := by decide +kernel
theorem d_X_pair_78 : decode m_X_pair.2.1 78 = .ok (.invokevirtual 222, 3) := by decide +kernel
theorem d_X_pair_81 : decode m_X_pair.2.1 81 = .ok (.ireturn, 1) := by decide +kernel
theorem d_X_pair_82 : decode m_X_pair.2.1 82 = .ok (.aload_n 0, 1) := by decide +kernel
theorem d_X_pair_83 : decode m_X_pair.2.1 83 = .ok (.getfield 12, 3) := by decide +kernel
theorem d_X_pair_86 : decode m_X_pair.2.1 86 = .ok (.getfield 94, 3) := by decide +kernel
theorem d_X_pair_89 : decode m_X_pair.2.1 89 = .ok (.iload_n 1, 1) := by decide +kernel
theorem d_X_pair_90 : decode m_X_pair.2.1 90 = .ok (.iload_n 2, 1) := by decide +kernel
theorem d_X_pair_91 : decode m_X_pair.2.1 91 = .ok (.invokevirtual 225, 3) := by decide +kernel
theorem d_X_pair_94 : decode m_X_pair.2.1 94 = .ok (.ireturn, 1) := by decide +kernel
theorem d_X_pair_95 : decode m_X_pair.2.1 95 = .ok (.aload_n 0, 1) := by decide +kernel
theorem d_X_pair_96 : decode m_X_pair.2.1 96 = .ok (.getfield 12, 3) := by decide +kernel
theorem d_X_pair_99 : decode m_X_pair.2.1 99 = .ok (.getfield 94, 3) := by decide +kernel
theorem d_X_pair_102 : decode m_X_pair.2.1 102 = .ok (.iload_n 1, 1) := by decide +kernel
theorem d_X_pair_103 : decode m_X_pair.2.1 103 = .ok (.iload_n 2, 1) := by decide +kernel
theorem d_X_pair_104 : decode m_X_pair.2.1 104 = .ok (.invokevirtual 228, 3) := by decide +kernel
theorem d_X_pair_107 : decode m_X_pair.2.1 107 = .ok (.ireturn, 1) := by decide +kernel
theorem d_X_pair_108 : decode m_X_pair.2.1 108 = .ok (.iconst (-1), 1) := by decide +kernel
theorem d_X_pair_109 : decode m_X_pair.2.1 109 = .ok (.ireturn, 1) := by decide +kernel
def f_X_pair (x1 : Int) (x2 : Int) (x3 : Int) (w : qMem) : Option (Int × qMem) :=
  (f_G_hasNode 3 x1 w).bind fun q1 =>
  if q1.1 = 0 then
  some ((-1), q1.2)
  else
  (f_G_hasNode 3 x2 q1.2).bind fun q3 =>
  if q3.1 = 0 then
  some ((-1), q3.2)
  else
  if x3 = 0 then
  (f_P_sentBetween 7 x1 x2 q3.2).bind fun q6 =>
  some (q6.1, q6.2)
  else
  if x3 = 1 then
  (f_P_deliveredBetween 7 x1 x2 q3.2).bind fun q8 =>
  some (q8.1, q8.2)
  else
  if x3 = 2 then
  (f_P_disorderBetween 7 x1 x2 q3.2).bind fun q10 =>
  some (q10.1, q10.2)
  else
  if x3 = 3 then
  (f_P_latestBetween 7 x1 x2 q3.2).bind fun q12 =>
  some (q12.1, q12.2)
  else
  some ((-1), q3.2)
set_option maxRecDepth 4000 in
theorem s_X_pair (x1 : Int) (x2 : Int) (x3 : Int) (w : qMem) : qSim κI 100 100 m_X_pair 0 [] [some (qR 1), some (qI x1), some (qI x2), some (qI x3)] w (f_X_pair x1 x2 x3 w) := by
  unfold f_X_pair
  refine z_aload_n d_X_pair_0 rfl ?_
  refine z_gr (ci := 9) (j := 2) (d := 2) (o2 := 3) d_X_pair_1 rfl fl_X_23 rfl (Nat.le_of_ble_eq_true rfl) rfl rfl ?_
  refine z_iload_n d_X_pair_4 rfl ?_
  refine z_cVI (as := [qI x1]) (st := []) (nl := 0) (ci := 0) d_X_pair_5 lk_X_81 mk_G_hasNode rfl rfl rfl rfl rfl rfl (s_G_hasNode _ is_3_100 _) (fun q1 _ hq1 => ?_)
  refine z_if_eq (tgt := 22) d_X_pair_8 rfl (fun c2 => ?_) (fun c2 => ?_)
  · refine z_icm1 d_X_pair_22 ?_
    exact z_iret d_X_pair_23 rfl rfl
  · refine z_aload_n d_X_pair_11 rfl ?_
    refine z_gr (ci := 9) (j := 2) (d := 2) (o2 := 3) d_X_pair_12 rfl fl_X_23 rfl (Nat.le_of_ble_eq_true rfl) rfl rfl ?_
    refine z_iload_n d_X_pair_15 rfl ?_
    refine z_cVI (as := [qI x2]) (st := []) (nl := 0) (ci := 0) d_X_pair_16 lk_X_81 mk_G_hasNode rfl rfl rfl rfl rfl rfl (s_G_hasNode _ is_3_100 _) (fun q3 _ hq3 => ?_)
    refine z_if_ne (tgt := 24) d_X_pair_19 rfl (fun c4 => ?_) (fun c4 => ?_)
    · refine z_icm1 d_X_pair_22 ?_
      exact z_iret d_X_pair_23 rfl rfl
    · refine z_iload_n d_X_pair_24 rfl ?_
      refine z_if (fun c5 => ?_) (fun c5 => ?_)
      · refine z_tabIn (tgt := 56) (v := 0) d_X_pair_25 c5 (by decide) (by decide) rfl rfl ?_
        refine z_aload_n d_X_pair_56 rfl ?_
        refine z_gr (ci := 9) (j := 0) (d := 1) (o2 := 2) d_X_pair_57 rfl fl_X_12 rfl (Nat.le_of_ble_eq_true rfl) rfl rfl ?_
        refine z_gr (ci := 3) (j := 1) (d := 5) (o2 := 7) d_X_pair_60 rfl fl_X_94 rfl (Nat.le_of_ble_eq_true rfl) rfl rfl ?_
        refine z_iload_n d_X_pair_63 rfl ?_
        refine z_iload_n d_X_pair_64 rfl ?_
        refine z_cVI (as := [qI x1, qI x2]) (st := []) (nl := 2) (ci := 5) d_X_pair_65 lk_X_219 mk_P_sentBetween rfl rfl rfl rfl rfl rfl (s_P_sentBetween _ _ is_7_100 _) (fun q6 _ hq6 => ?_)
        exact z_iret d_X_pair_68 rfl rfl
      · refine z_if (fun c7 => ?_) (fun c7 => ?_)
        · refine z_tabIn (tgt := 69) (v := 1) d_X_pair_25 c7 (by decide) (by decide) rfl rfl ?_
          refine z_aload_n d_X_pair_69 rfl ?_
          refine z_gr (ci := 9) (j := 0) (d := 1) (o2 := 2) d_X_pair_70 rfl fl_X_12 rfl (Nat.le_of_ble_eq_true rfl) rfl rfl ?_
          refine z_gr (ci := 3) (j := 1) (d := 5) (o2 := 7) d_X_pair_73 rfl fl_X_94 rfl (Nat.le_of_ble_eq_true rfl) rfl rfl ?_
          refine z_iload_n d_X_pair_76 rfl ?_
          refine z_iload_n d_X_pair_77 rfl ?_
          refine z_cVI (as := [qI x1, qI x2]) (st := []) (nl := 2) (ci := 5) d_X_pair_78 lk_X_222 mk_P_deliveredBetween rfl rfl rfl rfl rfl rfl (s_P_deliveredBetween _ _ is_7_100 _) (fun q8 _ hq8 => ?_)
          exact z_iret d_X_pair_81 rfl rfl
        · refine z_if (fun c9 => ?_) (fun c9 => ?_)
          · refine z_tabIn (tgt := 82) (v := 2) d_X_pair_25 c9 (by decide) (by decide) rfl rfl ?_
            refine z_aload_n d_X_pair_82 rfl ?_
            refine z_gr (ci := 9) (j := 0) (d := 1) (o2 := 2) d_X_pair_83 rfl fl_X_12 rfl (Nat.le_of_ble_eq_true rfl) rfl rfl ?_
            refine z_gr (ci := 3) (j := 1) (d := 5) (o2 := 7) d_X_pair_86 rfl fl_X_94 rfl (Nat.le_of_ble_eq_true rfl) rfl rfl ?_
            refine z_iload_n d_X_pair_89 rfl ?_
            refine z_iload_n d_X_pair_90 rfl ?_
            refine z_cVI (as := [qI x1, qI x2]) (st := []) (nl := 2) (ci := 5) d_X_pair_91 lk_X_225 mk_P_disorderBetween rfl rfl rfl rfl rfl rfl (s_P_disorderBetween _ _ is_7_100 _) (fun q10 _ hq10 => ?_)
            exact z_iret d_X_pair_94 rfl rfl
          · refine z_if (fun c11 => ?_) (fun c11 => ?_)
            · refine z_tabIn (tgt := 95) (v := 3) d_X_pair_25 c11 (by decide) (by decide) rfl rfl ?_
              refine z_aload_n d_X_pair_95 rfl ?_
              refine z_gr (ci := 9) (j := 0) (d := 1) (o2 := 2) d_X_pair_96 rfl fl_X_12 rfl (Nat.le_of_ble_eq_true rfl) rfl rfl ?_
              refine z_gr (ci := 3) (j := 1) (d := 5) (o2 := 7) d_X_pair_99 rfl fl_X_94 rfl (Nat.le_of_ble_eq_true rfl) rfl rfl ?_
              refine z_iload_n d_X_pair_102 rfl ?_
              refine z_iload_n d_X_pair_103 rfl ?_
              refine z_cVI (as := [qI x1, qI x2]) (st := []) (nl := 2) (ci := 5) d_X_pair_104 lk_X_228 mk_P_latestBetween rfl rfl rfl rfl rfl rfl (s_P_latestBetween _ _ is_7_100 _) (fun q12 _ hq12 => ?_)
              exact z_iret d_X_pair_107 rfl rfl
            · refine z_tabOut (tgt := 108) d_X_pair_25 (by omega) rfl ?_
              refine z_icm1 d_X_pair_108 ?_
              exact z_iret d_X_pair_109 rfl rfl
/-! BubbleTorus.late -/
theorem d_X_late_0 : decode m_X_late.2.1 0 = .ok (.aload_n 0, 1) := by decide +kernel
theorem d_X_late_1 : decode m_X_late.2.1 1 = .ok (.getfield 12, 3) := by decide +kernel
theorem d_X_late_4 : decode m_X_late.2.1 4 = .ok (.getfield 94, 3) := by decide +kernel
theorem d_X_late_7 : decode m_X_late.2.1 7 = .ok (.iload_n 1, 1) := by decide +kernel
theorem d_X_late_8 : decode m_X_late.2.1 8 = .ok (.iload_n 2, 1) := by decide +kernel
theorem d_X_late_9 : decode m_X_late.2.1 9 = .ok (.invokevirtual 231, 3) := by decide +kernel
theorem d_X_late_12 : decode m_X_late.2.1 12 = .ok (.ireturn, 1) := by decide +kernel
def f_X_late (x1 : Int) (x2 : Int) (w : qMem) : Option (Int × qMem) :=
  (f_P_lateWithin 7 x1 x2 w).bind fun q1 =>
  some (q1.1, q1.2)
set_option maxRecDepth 4000 in
theorem s_X_late (x1 : Int) (x2 : Int) (w : qMem) : qSim κI 100 100 m_X_late 0 [] [some (qR 1), some (qI x1), some (qI x2)] w (f_X_late x1 x2 w) := by
  unfold f_X_late
  refine z_aload_n d_X_late_0 rfl ?_
  refine z_gr (ci := 9) (j := 0) (d := 1) (o2 := 2) d_X_late_1 rfl fl_X_12 rfl (Nat.le_of_ble_eq_true rfl) rfl rfl ?_
  refine z_gr (ci := 3) (j := 1) (d := 5) (o2 := 7) d_X_late_4 rfl fl_X_94 rfl (Nat.le_of_ble_eq_true rfl) rfl rfl ?_
  refine z_iload_n d_X_late_7 rfl ?_
  refine z_iload_n d_X_late_8 rfl ?_
  refine z_cVI (as := [qI x1, qI x2]) (st := []) (nl := 2) (ci := 5) d_X_late_9 lk_X_231 mk_P_lateWithin rfl rfl rfl rfl rfl rfl (s_P_lateWithin _ _ is_7_100 _) (fun q1 _ hq1 => ?_)
  exact z_iret d_X_late_12 rfl rfl
/-! BubbleTorus.lates -/
theorem d_X_lates_0 : decode m_X_lates.2.1 0 = .ok (.iload_n 2, 1) := by decide +kernel
theorem d_X_lates_1 : decode m_X_lates.2.1 1 = .ok (.iconst 0, 1) := by decide +kernel
theorem d_X_lates_2 : decode m_X_lates.2.1 2 = .ok (.iconst 1, 1) := by decide +kernel
theorem d_X_lates_3 : decode m_X_lates.2.1 3 = .ok (.invokestatic 53, 3) := by decide +kernel
theorem d_X_lates_6 : decode m_X_lates.2.1 6 = .ok (.ifCond .ne 5, 3) := by decide +kernel
theorem d_X_lates_9 : decode m_X_lates.2.1 9 = .ok (.iconst (-1), 1) := by decide +kernel
theorem d_X_lates_10 : decode m_X_lates.2.1 10 = .ok (.ireturn, 1) := by decide +kernel
theorem d_X_lates_11 : decode m_X_lates.2.1 11 = .ok (.iload_n 1, 1) := by decide +kernel
theorem d_X_lates_12 : decode m_X_lates.2.1 12 = .ok (.iconst (-1), 1) := by decide +kernel
theorem d_X_lates_13 : decode m_X_lates.2.1 13 = .ok (.if_icmp .ne 14, 3) := by decide +kernel
theorem d_X_lates_16 : decode m_X_lates.2.1 16 = .ok (.aload_n 0, 1) := by decide +kernel
theorem d_X_lates_17 : decode m_X_lates.2.1 17 = .ok (.getfield 12, 3) := by decide +kernel
theorem d_X_lates_20 : decode m_X_lates.2.1 20 = .ok (.getfield 94, 3) := by decide +kernel
theorem d_X_lates_23 : decode m_X_lates.2.1 23 = .ok (.invokevirtual 234, 3) := by decide +kernel
theorem d_X_lates_26 : decode m_X_lates.2.1 26 = .ok (.ireturn, 1) := by decide +kernel
theorem d_X_lates_27 : decode m_X_lates.2.1 27 = .ok (.aload_n 0, 1) := by decide +kernel
theorem d_X_lates_28 : decode m_X_lates.2.1 28 = .ok (.getfield 12, 3) := by decide +kernel
theorem d_X_lates_31 : decode m_X_lates.2.1 31 = .ok (.getfield 94, 3) := by decide +kernel
theorem d_X_lates_34 : decode m_X_lates.2.1 34 = .ok (.iload_n 1, 1) := by decide +kernel
theorem d_X_lates_35 : decode m_X_lates.2.1 35 = .ok (.invokevirtual 237, 3) := by decide +kernel
theorem d_X_lates_38 : decode m_X_lates.2.1 38 = .ok (.istore_n 3, 1) := by decide +kernel
theorem d_X_lates_39 : decode m_X_lates.2.1 39 = .ok (.iload_n 3, 1) := by decide +kernel
theorem d_X_lates_40 : decode m_X_lates.2.1 40 = .ok (.iconst (-1), 1) := by decide +kernel
theorem d_X_lates_41 : decode m_X_lates.2.1 41 = .ok (.if_icmp .ne 5, 3) := by decide +kernel
theorem d_X_lates_44 : decode m_X_lates.2.1 44 = .ok (.iconst (-1), 1) := by decide +kernel
theorem d_X_lates_45 : decode m_X_lates.2.1 45 = .ok (.ireturn, 1) := by decide +kernel
theorem d_X_lates_46 : decode m_X_lates.2.1 46 = .ok (.iload_n 2, 1) := by decide +kernel
theorem d_X_lates_47 : decode m_X_lates.2.1 47 = .ok (.ifCond .ne 7, 3) := by decide +kernel
theorem d_X_lates_50 : decode m_X_lates.2.1 50 = .ok (.iload_n 3, 1) := by decide +kernel
theorem d_X_lates_51 : decode m_X_lates.2.1 51 = .ok (.goto 15, 3) := by decide +kernel
theorem d_X_lates_54 : decode m_X_lates.2.1 54 = .ok (.aload_n 0, 1) := by decide +kernel
theorem d_X_lates_55 : decode m_X_lates.2.1 55 = .ok (.getfield 12, 3) := by decide +kernel
theorem d_X_lates_58 : decode m_X_lates.2.1 58 = .ok (.getfield 94, 3) := by decide +kernel
theorem d_X_lates_61 : decode m_X_lates.2.1 61 = .ok (.iload_n 3, 1) := by decide +kernel
theorem d_X_lates_62 : decode m_X_lates.2.1 62 = .ok (.iload_n 3, 1) := by decide +kernel
theorem d_X_lates_63 : decode m_X_lates.2.1 63 = .ok (.invokevirtual 231, 3) := by decide +kernel
theorem d_X_lates_66 : decode m_X_lates.2.1 66 = .ok (.ireturn, 1) := by decide +kernel
def f_X_lates (x1 : Int) (x2 : Int) (w : qMem) : Option (Int × qMem) :=
  (f_X_within x2 0 1 w).bind fun q1 =>
  if q1.1 = 0 then
  some ((-1), q1.2)
  else
  if x1 = (-1) then
  (f_P_differentLates 7 q1.2).bind fun q4 =>
  some (q4.1, q4.2)
  else
  (f_P_lateAt 7 x1 q1.2).bind fun q5 =>
  if q5.1 = (-1) then
  some ((-1), q5.2)
  else
  if x2 = 0 then
  some (q5.1, q5.2)
  else
  (f_P_lateWithin 7 q5.1 q5.1 q5.2).bind fun q8 =>
  some (q8.1, q8.2)
set_option maxRecDepth 4000 in
theorem s_X_lates (x1 : Int) (x2 : Int) (w : qMem) : qSim κI 100 100 m_X_lates 0 [] [some (qR 1), some (qI x1), some (qI x2), none] w (f_X_lates x1 x2 w) := by
  unfold f_X_lates
  refine z_iload_n d_X_lates_0 rfl ?_
  refine z_ic0 d_X_lates_1 ?_
  refine z_ic1 d_X_lates_2 ?_
  refine z_cSI (av := [qI x2, qI 0, qI 1]) (st := []) (nl := 0) d_X_lates_3 lk_X_53 mk_X_within rfl rfl rfl (s_X_within _ _ _ _) (fun q1 _ hq1 => ?_)
  refine z_if_ne (tgt := 11) d_X_lates_6 rfl (fun c2 => ?_) (fun c2 => ?_)
  · refine z_icm1 d_X_lates_9 ?_
    exact z_iret d_X_lates_10 rfl rfl
  · refine z_iload_n d_X_lates_11 rfl ?_
    refine z_icm1 d_X_lates_12 ?_
    refine z_icmp_ne (tgt := 27) d_X_lates_13 rfl (fun c3 => ?_) (fun c3 => ?_)
    · refine z_aload_n d_X_lates_16 rfl ?_
      refine z_gr (ci := 9) (j := 0) (d := 1) (o2 := 2) d_X_lates_17 rfl fl_X_12 rfl (Nat.le_of_ble_eq_true rfl) rfl rfl ?_
      refine z_gr (ci := 3) (j := 1) (d := 5) (o2 := 7) d_X_lates_20 rfl fl_X_94 rfl (Nat.le_of_ble_eq_true rfl) rfl rfl ?_
      refine z_cVI (as := []) (st := []) (nl := 2) (ci := 5) d_X_lates_23 lk_X_234 mk_P_differentLates rfl rfl rfl rfl rfl rfl (s_P_differentLates is_7_100 _) (fun q4 _ hq4 => ?_)
      exact z_iret d_X_lates_26 rfl rfl
    · refine z_aload_n d_X_lates_27 rfl ?_
      refine z_gr (ci := 9) (j := 0) (d := 1) (o2 := 2) d_X_lates_28 rfl fl_X_12 rfl (Nat.le_of_ble_eq_true rfl) rfl rfl ?_
      refine z_gr (ci := 3) (j := 1) (d := 5) (o2 := 7) d_X_lates_31 rfl fl_X_94 rfl (Nat.le_of_ble_eq_true rfl) rfl rfl ?_
      refine z_iload_n d_X_lates_34 rfl ?_
      refine z_cVI (as := [qI x1]) (st := []) (nl := 2) (ci := 5) d_X_lates_35 lk_X_237 mk_P_lateAt rfl rfl rfl rfl rfl rfl (s_P_lateAt _ is_7_100 _) (fun q5 _ hq5 => ?_)
      refine z_istore_n (pls' := [some (qR 1), some (qI x1), some (qI x2), some (qI q5.1)]) d_X_lates_38 (by decide) rfl rfl ?_
      refine z_iload_n d_X_lates_39 rfl ?_
      refine z_icm1 d_X_lates_40 ?_
      refine z_icmp_ne (tgt := 46) d_X_lates_41 rfl (fun c6 => ?_) (fun c6 => ?_)
      · refine z_icm1 d_X_lates_44 ?_
        exact z_iret d_X_lates_45 rfl rfl
      · refine z_iload_n d_X_lates_46 rfl ?_
        refine z_if_ne (tgt := 54) d_X_lates_47 rfl (fun c7 => ?_) (fun c7 => ?_)
        · refine z_iload_n d_X_lates_50 rfl ?_
          refine z_goto (tgt := 66) d_X_lates_51 rfl ?_
          exact z_iret d_X_lates_66 rfl rfl
        · refine z_aload_n d_X_lates_54 rfl ?_
          refine z_gr (ci := 9) (j := 0) (d := 1) (o2 := 2) d_X_lates_55 rfl fl_X_12 rfl (Nat.le_of_ble_eq_true rfl) rfl rfl ?_
          refine z_gr (ci := 3) (j := 1) (d := 5) (o2 := 7) d_X_lates_58 rfl fl_X_94 rfl (Nat.le_of_ble_eq_true rfl) rfl rfl ?_
          refine z_iload_n d_X_lates_61 rfl ?_
          refine z_iload_n d_X_lates_62 rfl ?_
          refine z_cVI (as := [qI q5.1, qI q5.1]) (st := []) (nl := 2) (ci := 5) d_X_lates_63 lk_X_231 mk_P_lateWithin rfl rfl rfl rfl rfl rfl (s_P_lateWithin _ _ is_7_100 _) (fun q8 _ hq8 => ?_)
          exact z_iret d_X_lates_66 rfl rfl
/-! BubbleTorus.goesOn -/
theorem d_X_goesOn_0 : decode m_X_goesOn.2.1 0 = .ok (.aload_n 0, 1) := by decide +kernel
theorem d_X_goesOn_1 : decode m_X_goesOn.2.1 1 = .ok (.getfield 12, 3) := by decide +kernel
theorem d_X_goesOn_4 : decode m_X_goesOn.2.1 4 = .ok (.getfield 94, 3) := by decide +kernel
theorem d_X_goesOn_7 : decode m_X_goesOn.2.1 7 = .ok (.iload_n 1, 1) := by decide +kernel
theorem d_X_goesOn_8 : decode m_X_goesOn.2.1 8 = .ok (.invokevirtual 98, 3) := by decide +kernel
theorem d_X_goesOn_11 : decode m_X_goesOn.2.1 11 = .ok (.ifCond .eq 17, 3) := by decide +kernel
theorem d_X_goesOn_14 : decode m_X_goesOn.2.1 14 = .ok (.aload_n 0, 1) := by decide +kernel
theorem d_X_goesOn_15 : decode m_X_goesOn.2.1 15 = .ok (.getfield 12, 3) := by decide +kernel
theorem d_X_goesOn_18 : decode m_X_goesOn.2.1 18 = .ok (.getfield 94, 3) := by decide +kernel
theorem d_X_goesOn_21 : decode m_X_goesOn.2.1 21 = .ok (.iload_n 1, 1) := by decide +kernel
theorem d_X_goesOn_22 : decode m_X_goesOn.2.1 22 = .ok (.invokevirtual 240, 3) := by decide +kernel
theorem d_X_goesOn_25 : decode m_X_goesOn.2.1 25 = .ok (.ifCond .eq 5, 3) := by decide +kernel
theorem d_X_goesOn_28 : decode m_X_goesOn.2.1 28 = .ok (.iconst (-1), 1) := by decide +kernel
theorem d_X_goesOn_29 : decode m_X_goesOn.2.1 29 = .ok (.ireturn, 1) := by decide +kernel
theorem d_X_goesOn_30 : decode m_X_goesOn.2.1 30 = .ok (.aload_n 0, 1) := by decide +kernel
theorem d_X_goesOn_31 : decode m_X_goesOn.2.1 31 = .ok (.getfield 12, 3) := by decide +kernel
theorem d_X_goesOn_34 : decode m_X_goesOn.2.1 34 = .ok (.iload_n 1, 1) := by decide +kernel
theorem d_X_goesOn_35 : decode m_X_goesOn.2.1 35 = .ok (.invokevirtual 243, 3) := by decide +kernel
theorem d_X_goesOn_38 : decode m_X_goesOn.2.1 38 = .ok (.istore_n 2, 1) := by decide +kernel
theorem d_X_goesOn_39 : decode m_X_goesOn.2.1 39 = .ok (.aload_n 0, 1) := by decide +kernel
theorem d_X_goesOn_40 : decode m_X_goesOn.2.1 40 = .ok (.getfield 12, 3) := by decide +kernel
theorem d_X_goesOn_43 : decode m_X_goesOn.2.1 43 = .ok (.getfield 112, 3) := by decide +kernel
theorem d_X_goesOn_46 : decode m_X_goesOn.2.1 46 = .ok (.iload_n 2, 1) := by decide +kernel
theorem d_X_goesOn_47 : decode m_X_goesOn.2.1 47 = .ok (.invokevirtual 246, 3) := by decide +kernel
theorem d_X_goesOn_50 : decode m_X_goesOn.2.1 50 = .ok (.iload_n 1, 1) := by decide +kernel
theorem d_X_goesOn_51 : decode m_X_goesOn.2.1 51 = .ok (.if_icmp .eq 5, 3) := by decide +kernel
theorem d_X_goesOn_54 : decode m_X_goesOn.2.1 54 = .ok (.iconst (-1), 1) := by decide +kernel
theorem d_X_goesOn_55 : decode m_X_goesOn.2.1 55 = .ok (.ireturn, 1) := by decide +kernel
theorem d_X_goesOn_56 : decode m_X_goesOn.2.1 56 = .ok (.aload_n 0, 1) := by decide +kernel
theorem d_X_goesOn_57 : decode m_X_goesOn.2.1 57 = .ok (.getfield 27, 3) := by decide +kernel
theorem d_X_goesOn_60 : decode m_X_goesOn.2.1 60 = .ok (.aload_n 0, 1) := by decide +kernel
theorem d_X_goesOn_61 : decode m_X_goesOn.2.1 61 = .ok (.getfield 12, 3) := by decide +kernel
theorem d_X_goesOn_64 : decode m_X_goesOn.2.1 64 = .ok (.invokevirtual 249, 3) := by decide +kernel
theorem d_X_goesOn_67 : decode m_X_goesOn.2.1 67 = .ok (.aload_n 0, 1) := by decide +kernel
theorem d_X_goesOn_68 : decode m_X_goesOn.2.1 68 = .ok (.getfield 27, 3) := by decide +kernel
theorem d_X_goesOn_71 : decode m_X_goesOn.2.1 71 = .ok (.getfield 253, 3) := by decide +kernel
theorem d_X_goesOn_74 : decode m_X_goesOn.2.1 74 = .ok (.iload_n 2, 1) := by decide +kernel
theorem d_X_goesOn_75 : decode m_X_goesOn.2.1 75 = .ok (.baload, 1) := by decide +kernel
theorem d_X_goesOn_76 : decode m_X_goesOn.2.1 76 = .ok (.ifCond .eq 7, 3) := by decide +kernel
theorem d_X_goesOn_79 : decode m_X_goesOn.2.1 79 = .ok (.iconst 1, 1) := by decide +kernel
theorem d_X_goesOn_80 : decode m_X_goesOn.2.1 80 = .ok (.goto 4, 3) := by decide +kernel
theorem d_X_goesOn_83 : decode m_X_goesOn.2.1 83 = .ok (.iconst 0, 1) := by decide +kernel
theorem d_X_goesOn_84 : decode m_X_goesOn.2.1 84 = .ok (.ireturn, 1) := by decide +kernel
def f_X_goesOn (x1 : Int) (w : qMem) : Option (Int × qMem) :=
  (f_P_has 7 x1 w).bind fun q1 =>
  if q1.1 = 0 then
  some ((-1), q1.2)
  else
  (f_P_isDelivered 7 x1 q1.2).bind fun q3 =>
  if q3.1 = 0 then
  (f_N_queueOf 2 x1 q3.2).bind fun q5 =>
  (f_Q_first 21 q5.1 q5.2).bind fun q6 =>
  if q6.1 = x1 then
  (f_O_judge 2 q6.2).bind fun q8 =>
  qld q8 73 144 q5.1 fun v9 =>
  if v9 = 0 then
  some (0, q8)
  else
  some (1, q8)
  else
  some ((-1), q6.2)
  else
  some ((-1), q3.2)
set_option maxRecDepth 4000 in
theorem s_X_goesOn (x1 : Int) (w : qMem) : qSim κI 100 100 m_X_goesOn 0 [] [some (qR 1), some (qI x1), none] w (f_X_goesOn x1 w) := by
  unfold f_X_goesOn
  refine z_aload_n d_X_goesOn_0 rfl ?_
  refine z_gr (ci := 9) (j := 0) (d := 1) (o2 := 2) d_X_goesOn_1 rfl fl_X_12 rfl (Nat.le_of_ble_eq_true rfl) rfl rfl ?_
  refine z_gr (ci := 3) (j := 1) (d := 5) (o2 := 7) d_X_goesOn_4 rfl fl_X_94 rfl (Nat.le_of_ble_eq_true rfl) rfl rfl ?_
  refine z_iload_n d_X_goesOn_7 rfl ?_
  refine z_cVI (as := [qI x1]) (st := []) (nl := 0) (ci := 5) d_X_goesOn_8 lk_X_98 mk_P_has rfl rfl rfl rfl rfl rfl (s_P_has _ is_7_100 _) (fun q1 _ hq1 => ?_)
  refine z_if_eq (tgt := 28) d_X_goesOn_11 rfl (fun c2 => ?_) (fun c2 => ?_)
  · refine z_icm1 d_X_goesOn_28 ?_
    exact z_iret d_X_goesOn_29 rfl rfl
  · refine z_aload_n d_X_goesOn_14 rfl ?_
    refine z_gr (ci := 9) (j := 0) (d := 1) (o2 := 2) d_X_goesOn_15 rfl fl_X_12 rfl (Nat.le_of_ble_eq_true rfl) rfl rfl ?_
    refine z_gr (ci := 3) (j := 1) (d := 5) (o2 := 7) d_X_goesOn_18 rfl fl_X_94 rfl (Nat.le_of_ble_eq_true rfl) rfl rfl ?_
    refine z_iload_n d_X_goesOn_21 rfl ?_
    refine z_cVI (as := [qI x1]) (st := []) (nl := 0) (ci := 5) d_X_goesOn_22 lk_X_240 mk_P_isDelivered rfl rfl rfl rfl rfl rfl (s_P_isDelivered _ is_7_100 _) (fun q3 _ hq3 => ?_)
    refine z_if_eq (tgt := 30) d_X_goesOn_25 rfl (fun c4 => ?_) (fun c4 => ?_)
    · refine z_aload_n d_X_goesOn_30 rfl ?_
      refine z_gr (ci := 9) (j := 0) (d := 1) (o2 := 2) d_X_goesOn_31 rfl fl_X_12 rfl (Nat.le_of_ble_eq_true rfl) rfl rfl ?_
      refine z_iload_n d_X_goesOn_34 rfl ?_
      refine z_cVI (as := [qI x1]) (st := []) (nl := 1) (ci := 3) d_X_goesOn_35 lk_X_243 mk_N_queueOf rfl rfl rfl rfl rfl rfl (s_N_queueOf _ is_2_100 _) (fun q5 _ hq5 => ?_)
      refine z_istore_n (pls' := [some (qR 1), some (qI x1), some (qI q5.1)]) d_X_goesOn_38 (by decide) rfl rfl ?_
      refine z_aload_n d_X_goesOn_39 rfl ?_
      refine z_gr (ci := 9) (j := 0) (d := 1) (o2 := 2) d_X_goesOn_40 rfl fl_X_12 rfl (Nat.le_of_ble_eq_true rfl) rfl rfl ?_
      refine z_gr (ci := 3) (j := 2) (d := 19) (o2 := 21) d_X_goesOn_43 rfl fl_X_112 rfl (Nat.le_of_ble_eq_true rfl) rfl rfl ?_
      refine z_iload_n d_X_goesOn_46 rfl ?_
      refine z_cVI (as := [qI q5.1]) (st := []) (nl := 0) (ci := 6) d_X_goesOn_47 lk_X_246 mk_Q_first rfl rfl rfl rfl rfl rfl (s_Q_first _ is_21_100 _) (fun q6 _ hq6 => ?_)
      refine z_iload_n d_X_goesOn_50 rfl ?_
      refine z_icmp_eq (tgt := 56) d_X_goesOn_51 rfl (fun c7 => ?_) (fun c7 => ?_)
      · refine z_aload_n d_X_goesOn_56 rfl ?_
        refine z_gr (ci := 9) (j := 3) (d := 71) (o2 := 72) d_X_goesOn_57 rfl fl_X_27 rfl (Nat.le_of_ble_eq_true rfl) rfl rfl ?_
        refine z_aload_n d_X_goesOn_60 rfl ?_
        refine z_gr (ci := 9) (j := 0) (d := 1) (o2 := 2) d_X_goesOn_61 rfl fl_X_12 rfl (Nat.le_of_ble_eq_true rfl) rfl rfl ?_
        refine z_cVV (as := [qR 2]) (st := []) (nl := 3) (ci := 4) d_X_goesOn_64 lk_X_249 mk_O_judge rfl rfl rfl rfl rfl rfl (s_O_judge is_2_100 _) (fun q8 _ => ?_)
        refine z_aload_n d_X_goesOn_67 rfl ?_
        refine z_gr (ci := 9) (j := 3) (d := 71) (o2 := 72) d_X_goesOn_68 rfl fl_X_27 rfl (Nat.le_of_ble_eq_true rfl) rfl rfl ?_
        refine z_gr (ci := 4) (j := 0) (d := 1) (o2 := 73) d_X_goesOn_71 rfl fl_X_253 rfl (Nat.le_of_ble_eq_true rfl) rfl rfl ?_
        refine z_iload_n d_X_goesOn_74 rfl ?_
        refine z_zl d_X_goesOn_75 rfl rfl (fun v9 hz10 => ?_)
        refine z_if_eq (tgt := 83) d_X_goesOn_76 rfl (fun c11 => ?_) (fun c11 => ?_)
        · refine z_ic0 d_X_goesOn_83 ?_
          exact z_iret d_X_goesOn_84 rfl rfl
        · refine z_ic1 d_X_goesOn_79 ?_
          refine z_goto (tgt := 84) d_X_goesOn_80 rfl ?_
          exact z_iret d_X_goesOn_84 rfl rfl
      · refine z_icm1 d_X_goesOn_54 ?_
        exact z_iret d_X_goesOn_55 rfl rfl
    · refine z_icm1 d_X_goesOn_28 ?_
      exact z_iret d_X_goesOn_29 rfl rfl
/-! BubbleTorus.stuck -/
theorem d_X_stuck_0 : decode m_X_stuck.2.1 0 = .ok (.aload_n 0, 1) := by decide +kernel
theorem d_X_stuck_1 : decode m_X_stuck.2.1 1 = .ok (.getfield 27, 3) := by decide +kernel
theorem d_X_stuck_4 : decode m_X_stuck.2.1 4 = .ok (.aload_n 0, 1) := by decide +kernel
theorem d_X_stuck_5 : decode m_X_stuck.2.1 5 = .ok (.getfield 12, 3) := by decide +kernel
theorem d_X_stuck_8 : decode m_X_stuck.2.1 8 = .ok (.invokevirtual 249, 3) := by decide +kernel
theorem d_X_stuck_11 : decode m_X_stuck.2.1 11 = .ok (.aload_n 0, 1) := by decide +kernel
theorem d_X_stuck_12 : decode m_X_stuck.2.1 12 = .ok (.getfield 27, 3) := by decide +kernel
theorem d_X_stuck_15 : decode m_X_stuck.2.1 15 = .ok (.aload_n 0, 1) := by decide +kernel
theorem d_X_stuck_16 : decode m_X_stuck.2.1 16 = .ok (.getfield 12, 3) := by decide +kernel
theorem d_X_stuck_19 : decode m_X_stuck.2.1 19 = .ok (.invokevirtual 257, 3) := by decide +kernel
theorem d_X_stuck_22 : decode m_X_stuck.2.1 22 = .ok (.ireturn, 1) := by decide +kernel
def f_X_stuck (w : qMem) : Option (Int × qMem) :=
  (f_O_judge 2 w).bind fun q1 =>
  (f_O_held 2 q1).bind fun q2 =>
  some (q2.1, q2.2)
set_option maxRecDepth 4000 in
theorem s_X_stuck (w : qMem) : qSim κI 100 100 m_X_stuck 0 [] [some (qR 1)] w (f_X_stuck w) := by
  unfold f_X_stuck
  refine z_aload_n d_X_stuck_0 rfl ?_
  refine z_gr (ci := 9) (j := 3) (d := 71) (o2 := 72) d_X_stuck_1 rfl fl_X_27 rfl (Nat.le_of_ble_eq_true rfl) rfl rfl ?_
  refine z_aload_n d_X_stuck_4 rfl ?_
  refine z_gr (ci := 9) (j := 0) (d := 1) (o2 := 2) d_X_stuck_5 rfl fl_X_12 rfl (Nat.le_of_ble_eq_true rfl) rfl rfl ?_
  refine z_cVV (as := [qR 2]) (st := []) (nl := 3) (ci := 4) d_X_stuck_8 lk_X_249 mk_O_judge rfl rfl rfl rfl rfl rfl (s_O_judge is_2_100 _) (fun q1 _ => ?_)
  refine z_aload_n d_X_stuck_11 rfl ?_
  refine z_gr (ci := 9) (j := 3) (d := 71) (o2 := 72) d_X_stuck_12 rfl fl_X_27 rfl (Nat.le_of_ble_eq_true rfl) rfl rfl ?_
  refine z_aload_n d_X_stuck_15 rfl ?_
  refine z_gr (ci := 9) (j := 0) (d := 1) (o2 := 2) d_X_stuck_16 rfl fl_X_12 rfl (Nat.le_of_ble_eq_true rfl) rfl rfl ?_
  refine z_cVI (as := [qR 2]) (st := []) (nl := 2) (ci := 4) d_X_stuck_19 lk_X_257 mk_O_held rfl rfl rfl rfl rfl rfl (s_O_held is_2_100 _) (fun q2 _ hq2 => ?_)
  exact z_iret d_X_stuck_22 rfl rfl
/-! BubbleTorus.dead -/
theorem d_X_dead_0 : decode m_X_dead.2.1 0 = .ok (.aload_n 0, 1) := by decide +kernel
theorem d_X_dead_1 : decode m_X_dead.2.1 1 = .ok (.getfield 12, 3) := by decide +kernel
theorem d_X_dead_4 : decode m_X_dead.2.1 4 = .ok (.getfield 94, 3) := by decide +kernel
theorem d_X_dead_7 : decode m_X_dead.2.1 7 = .ok (.invokevirtual 261, 3) := by decide +kernel
theorem d_X_dead_10 : decode m_X_dead.2.1 10 = .ok (.ifCond .ne 5, 3) := by decide +kernel
theorem d_X_dead_13 : decode m_X_dead.2.1 13 = .ok (.iconst 0, 1) := by decide +kernel
theorem d_X_dead_14 : decode m_X_dead.2.1 14 = .ok (.ireturn, 1) := by decide +kernel
theorem d_X_dead_15 : decode m_X_dead.2.1 15 = .ok (.aload_n 0, 1) := by decide +kernel
theorem d_X_dead_16 : decode m_X_dead.2.1 16 = .ok (.getfield 27, 3) := by decide +kernel
theorem d_X_dead_19 : decode m_X_dead.2.1 19 = .ok (.aload_n 0, 1) := by decide +kernel
theorem d_X_dead_20 : decode m_X_dead.2.1 20 = .ok (.getfield 12, 3) := by decide +kernel
theorem d_X_dead_23 : decode m_X_dead.2.1 23 = .ok (.invokevirtual 249, 3) := by decide +kernel
theorem d_X_dead_26 : decode m_X_dead.2.1 26 = .ok (.aload_n 0, 1) := by decide +kernel
theorem d_X_dead_27 : decode m_X_dead.2.1 27 = .ok (.getfield 27, 3) := by decide +kernel
theorem d_X_dead_30 : decode m_X_dead.2.1 30 = .ok (.invokevirtual 264, 3) := by decide +kernel
theorem d_X_dead_33 : decode m_X_dead.2.1 33 = .ok (.ifCond .eq 7, 3) := by decide +kernel
theorem d_X_dead_36 : decode m_X_dead.2.1 36 = .ok (.iconst 0, 1) := by decide +kernel
theorem d_X_dead_37 : decode m_X_dead.2.1 37 = .ok (.goto 4, 3) := by decide +kernel
theorem d_X_dead_40 : decode m_X_dead.2.1 40 = .ok (.iconst 1, 1) := by decide +kernel
theorem d_X_dead_41 : decode m_X_dead.2.1 41 = .ok (.ireturn, 1) := by decide +kernel
def f_X_dead (w : qMem) : Option (Int × qMem) :=
  (f_P_left 7 w).bind fun q1 =>
  if q1.1 = 0 then
  some (0, q1.2)
  else
  (f_O_judge 2 q1.2).bind fun q3 =>
  (f_O_anyGoesOn q3).bind fun q4 =>
  if q4.1 = 0 then
  some (1, q4.2)
  else
  some (0, q4.2)
set_option maxRecDepth 4000 in
theorem s_X_dead (w : qMem) : qSim κI 100 100 m_X_dead 0 [] [some (qR 1)] w (f_X_dead w) := by
  unfold f_X_dead
  refine z_aload_n d_X_dead_0 rfl ?_
  refine z_gr (ci := 9) (j := 0) (d := 1) (o2 := 2) d_X_dead_1 rfl fl_X_12 rfl (Nat.le_of_ble_eq_true rfl) rfl rfl ?_
  refine z_gr (ci := 3) (j := 1) (d := 5) (o2 := 7) d_X_dead_4 rfl fl_X_94 rfl (Nat.le_of_ble_eq_true rfl) rfl rfl ?_
  refine z_cVI (as := []) (st := []) (nl := 0) (ci := 5) d_X_dead_7 lk_X_261 mk_P_left rfl rfl rfl rfl rfl rfl (s_P_left is_7_100 _) (fun q1 _ hq1 => ?_)
  refine z_if_ne (tgt := 15) d_X_dead_10 rfl (fun c2 => ?_) (fun c2 => ?_)
  · refine z_ic0 d_X_dead_13 ?_
    exact z_iret d_X_dead_14 rfl rfl
  · refine z_aload_n d_X_dead_15 rfl ?_
    refine z_gr (ci := 9) (j := 3) (d := 71) (o2 := 72) d_X_dead_16 rfl fl_X_27 rfl (Nat.le_of_ble_eq_true rfl) rfl rfl ?_
    refine z_aload_n d_X_dead_19 rfl ?_
    refine z_gr (ci := 9) (j := 0) (d := 1) (o2 := 2) d_X_dead_20 rfl fl_X_12 rfl (Nat.le_of_ble_eq_true rfl) rfl rfl ?_
    refine z_cVV (as := [qR 2]) (st := []) (nl := 3) (ci := 4) d_X_dead_23 lk_X_249 mk_O_judge rfl rfl rfl rfl rfl rfl (s_O_judge is_2_100 _) (fun q3 _ => ?_)
    refine z_aload_n d_X_dead_26 rfl ?_
    refine z_gr (ci := 9) (j := 3) (d := 71) (o2 := 72) d_X_dead_27 rfl fl_X_27 rfl (Nat.le_of_ble_eq_true rfl) rfl rfl ?_
    refine z_cVI (as := []) (st := []) (nl := 1) (ci := 4) d_X_dead_30 lk_X_264 mk_O_anyGoesOn rfl rfl rfl rfl rfl rfl (s_O_anyGoesOn _) (fun q4 _ hq4 => ?_)
    refine z_if_eq (tgt := 40) d_X_dead_33 rfl (fun c5 => ?_) (fun c5 => ?_)
    · refine z_ic1 d_X_dead_40 ?_
      exact z_iret d_X_dead_41 rfl rfl
    · refine z_ic0 d_X_dead_36 ?_
      refine z_goto (tgt := 41) d_X_dead_37 rfl ?_
      exact z_iret d_X_dead_41 rfl rfl
/-! BubbleTorus.ticksUntilDelivered -/
theorem d_X_ticksUntilDelivered_0 : decode m_X_ticksUntilDelivered.2.1 0 = .ok (.iconst 0, 1) := by decide +kernel
theorem d_X_ticksUntilDelivered_1 : decode m_X_ticksUntilDelivered.2.1 1 = .ok (.istore_n 2, 1) := by decide +kernel
theorem d_X_ticksUntilDelivered_2 : decode m_X_ticksUntilDelivered.2.1 2 = .ok (.iconst 0, 1) := by decide +kernel
theorem d_X_ticksUntilDelivered_3 : decode m_X_ticksUntilDelivered.2.1 3 = .ok (.istore_n 3, 1) := by decide +kernel
theorem d_X_ticksUntilDelivered_4 : decode m_X_ticksUntilDelivered.2.1 4 = .ok (.iload_n 3, 1) := by decide +kernel
theorem d_X_ticksUntilDelivered_5 : decode m_X_ticksUntilDelivered.2.1 5 = .ok (.sipush 1000, 3) := by decide +kernel
theorem d_X_ticksUntilDelivered_8 : decode m_X_ticksUntilDelivered.2.1 8 = .ok (.if_icmp .gt 88, 3) := by decide +kernel
theorem d_X_ticksUntilDelivered_11 : decode m_X_ticksUntilDelivered.2.1 11 = .ok (.iload_n 1, 1) := by decide +kernel
theorem d_X_ticksUntilDelivered_12 : decode m_X_ticksUntilDelivered.2.1 12 = .ok (.iconst (-1), 1) := by decide +kernel
theorem d_X_ticksUntilDelivered_13 : decode m_X_ticksUntilDelivered.2.1 13 = .ok (.if_icmp .ne 19, 3) := by decide +kernel
theorem d_X_ticksUntilDelivered_16 : decode m_X_ticksUntilDelivered.2.1 16 = .ok (.aload_n 0, 1) := by decide +kernel
theorem d_X_ticksUntilDelivered_17 : decode m_X_ticksUntilDelivered.2.1 17 = .ok (.getfield 16, 3) := by decide +kernel
theorem d_X_ticksUntilDelivered_20 : decode m_X_ticksUntilDelivered.2.1 20 = .ok (.getfield 94, 3) := by decide +kernel
theorem d_X_ticksUntilDelivered_23 : decode m_X_ticksUntilDelivered.2.1 23 = .ok (.invokevirtual 261, 3) := by decide +kernel
theorem d_X_ticksUntilDelivered_26 : decode m_X_ticksUntilDelivered.2.1 26 = .ok (.ifCond .ne 22, 3) := by decide +kernel
theorem d_X_ticksUntilDelivered_29 : decode m_X_ticksUntilDelivered.2.1 29 = .ok (.goto 17, 3) := by decide +kernel
theorem d_X_ticksUntilDelivered_32 : decode m_X_ticksUntilDelivered.2.1 32 = .ok (.aload_n 0, 1) := by decide +kernel
theorem d_X_ticksUntilDelivered_33 : decode m_X_ticksUntilDelivered.2.1 33 = .ok (.getfield 16, 3) := by decide +kernel
theorem d_X_ticksUntilDelivered_36 : decode m_X_ticksUntilDelivered.2.1 36 = .ok (.getfield 94, 3) := by decide +kernel
theorem d_X_ticksUntilDelivered_39 : decode m_X_ticksUntilDelivered.2.1 39 = .ok (.iload_n 1, 1) := by decide +kernel
theorem d_X_ticksUntilDelivered_40 : decode m_X_ticksUntilDelivered.2.1 40 = .ok (.invokevirtual 240, 3) := by decide +kernel
theorem d_X_ticksUntilDelivered_43 : decode m_X_ticksUntilDelivered.2.1 43 = .ok (.ifCond .eq 5, 3) := by decide +kernel
theorem d_X_ticksUntilDelivered_46 : decode m_X_ticksUntilDelivered.2.1 46 = .ok (.iload_n 3, 1) := by decide +kernel
theorem d_X_ticksUntilDelivered_47 : decode m_X_ticksUntilDelivered.2.1 47 = .ok (.ireturn, 1) := by decide +kernel
theorem d_X_ticksUntilDelivered_48 : decode m_X_ticksUntilDelivered.2.1 48 = .ok (.iload_n 2, 1) := by decide +kernel
theorem d_X_ticksUntilDelivered_49 : decode m_X_ticksUntilDelivered.2.1 49 = .ok (.iconst 2, 1) := by decide +kernel
theorem d_X_ticksUntilDelivered_50 : decode m_X_ticksUntilDelivered.2.1 50 = .ok (.if_icmp .ne 5, 3) := by decide +kernel
theorem d_X_ticksUntilDelivered_53 : decode m_X_ticksUntilDelivered.2.1 53 = .ok (.iconst (-1), 1) := by decide +kernel
theorem d_X_ticksUntilDelivered_54 : decode m_X_ticksUntilDelivered.2.1 54 = .ok (.ireturn, 1) := by decide +kernel
theorem d_X_ticksUntilDelivered_55 : decode m_X_ticksUntilDelivered.2.1 55 = .ok (.aload_n 0, 1) := by decide +kernel
theorem d_X_ticksUntilDelivered_56 : decode m_X_ticksUntilDelivered.2.1 56 = .ok (.getfield 16, 3) := by decide +kernel
theorem d_X_ticksUntilDelivered_59 : decode m_X_ticksUntilDelivered.2.1 59 = .ok (.invokevirtual 87, 3) := by decide +kernel
theorem d_X_ticksUntilDelivered_62 : decode m_X_ticksUntilDelivered.2.1 62 = .ok (.istore 4, 2) := by decide +kernel
theorem d_X_ticksUntilDelivered_64 : decode m_X_ticksUntilDelivered.2.1 64 = .ok (.iload 4, 2) := by decide +kernel
theorem d_X_ticksUntilDelivered_66 : decode m_X_ticksUntilDelivered.2.1 66 = .ok (.ifCond .ne 22, 3) := by decide +kernel
theorem d_X_ticksUntilDelivered_69 : decode m_X_ticksUntilDelivered.2.1 69 = .ok (.aload_n 0, 1) := by decide +kernel
theorem d_X_ticksUntilDelivered_70 : decode m_X_ticksUntilDelivered.2.1 70 = .ok (.getfield 16, 3) := by decide +kernel
theorem d_X_ticksUntilDelivered_73 : decode m_X_ticksUntilDelivered.2.1 73 = .ok (.getfield 205, 3) := by decide +kernel
theorem d_X_ticksUntilDelivered_76 : decode m_X_ticksUntilDelivered.2.1 76 = .ok (.getfield 209, 3) := by decide +kernel
theorem d_X_ticksUntilDelivered_79 : decode m_X_ticksUntilDelivered.2.1 79 = .ok (.ifCond .ne 9, 3) := by decide +kernel
theorem d_X_ticksUntilDelivered_82 : decode m_X_ticksUntilDelivered.2.1 82 = .ok (.iload_n 2, 1) := by decide +kernel
theorem d_X_ticksUntilDelivered_83 : decode m_X_ticksUntilDelivered.2.1 83 = .ok (.iconst 1, 1) := by decide +kernel
theorem d_X_ticksUntilDelivered_84 : decode m_X_ticksUntilDelivered.2.1 84 = .ok (.iadd, 1) := by decide +kernel
theorem d_X_ticksUntilDelivered_85 : decode m_X_ticksUntilDelivered.2.1 85 = .ok (.goto 4, 3) := by decide +kernel
theorem d_X_ticksUntilDelivered_88 : decode m_X_ticksUntilDelivered.2.1 88 = .ok (.iconst 0, 1) := by decide +kernel
theorem d_X_ticksUntilDelivered_89 : decode m_X_ticksUntilDelivered.2.1 89 = .ok (.istore_n 2, 1) := by decide +kernel
theorem d_X_ticksUntilDelivered_90 : decode m_X_ticksUntilDelivered.2.1 90 = .ok (.iinc 3 1, 3) := by decide +kernel
theorem d_X_ticksUntilDelivered_93 : decode m_X_ticksUntilDelivered.2.1 93 = .ok (.goto (-89), 3) := by decide +kernel
theorem d_X_ticksUntilDelivered_96 : decode m_X_ticksUntilDelivered.2.1 96 = .ok (.iconst (-1), 1) := by decide +kernel
theorem d_X_ticksUntilDelivered_97 : decode m_X_ticksUntilDelivered.2.1 97 = .ok (.ireturn, 1) := by decide +kernel
def f_X_ticksUntilDelivered_89 (r4 : Int → Int → Int → qMem → Option (Int × qMem)) (s0 x1 x3 : Int) (w : qMem) : Option (Int × qMem) :=
  r4 x1 s0 (w32 (x3 + 1)) w
set_option maxRecDepth 4000 in
theorem s_X_ticksUntilDelivered_89  {r4 : Int → Int → Int → qMem → Option (Int × qMem)} (hr4 : ∀ x1 x2 x3 w, qSim κI 100 100 m_X_ticksUntilDelivered 4 [] [some (qR 1), some (qI x1), some (qI x2), some (qI x3), none] w (r4 x1 x2 x3 w)) : ∀ (s0 x1 x3 : Int) (w : qMem), qSim κI 100 100 m_X_ticksUntilDelivered 89 [qI s0] [some (qR 1), some (qI x1), none, some (qI x3), none] w (f_X_ticksUntilDelivered_89 r4 s0 x1 x3 w) := by
  intro s0 x1 x3 w
  unfold f_X_ticksUntilDelivered_89
  refine z_istore_n (pls' := [some (qR 1), some (qI x1), some (qI s0), some (qI x3), none]) d_X_ticksUntilDelivered_89 (by decide) rfl rfl ?_
  refine z_iinc (pls' := [some (qR 1), some (qI x1), some (qI s0), some (qI (w32 (x3 + 1))), none]) d_X_ticksUntilDelivered_90 (by decide) rfl rfl rfl ?_
  refine z_goto (tgt := 4) d_X_ticksUntilDelivered_93 rfl ?_
  refine z_mask [true, true, true, true, false] ?_
  exact hr4 _ _ _ _
def f_X_ticksUntilDelivered_48 (r4 : Int → Int → Int → qMem → Option (Int × qMem)) (x1 x2 x3 : Int) (w : qMem) : Option (Int × qMem) :=
  if x2 = 2 then
  some ((-1), w)
  else
  (f_N_runTick 37 w).bind fun q2 =>
  if q2.1 = 0 then
  if (q2.2 59 1) = 0 then
  f_X_ticksUntilDelivered_89 r4 (w32 (x2 + 1)) x1 x3 q2.2
  else
  f_X_ticksUntilDelivered_89 r4 0 x1 x3 q2.2
  else
  f_X_ticksUntilDelivered_89 r4 0 x1 x3 q2.2
set_option maxRecDepth 4000 in
theorem s_X_ticksUntilDelivered_48  {r4 : Int → Int → Int → qMem → Option (Int × qMem)} (hr4 : ∀ x1 x2 x3 w, qSim κI 100 100 m_X_ticksUntilDelivered 4 [] [some (qR 1), some (qI x1), some (qI x2), some (qI x3), none] w (r4 x1 x2 x3 w)) : ∀ (x1 x2 x3 : Int) (w : qMem), qSim κI 100 100 m_X_ticksUntilDelivered 48 [] [some (qR 1), some (qI x1), some (qI x2), some (qI x3), none] w (f_X_ticksUntilDelivered_48 r4 x1 x2 x3 w) := by
  intro x1 x2 x3 w
  unfold f_X_ticksUntilDelivered_48
  refine z_iload_n d_X_ticksUntilDelivered_48 rfl ?_
  refine z_ic2 d_X_ticksUntilDelivered_49 ?_
  refine z_icmp_ne (tgt := 55) d_X_ticksUntilDelivered_50 rfl (fun c1 => ?_) (fun c1 => ?_)
  · refine z_icm1 d_X_ticksUntilDelivered_53 ?_
    exact z_iret d_X_ticksUntilDelivered_54 rfl rfl
  · refine z_aload_n d_X_ticksUntilDelivered_55 rfl ?_
    refine z_gr (ci := 9) (j := 1) (d := 36) (o2 := 37) d_X_ticksUntilDelivered_56 rfl fl_X_16 rfl (Nat.le_of_ble_eq_true rfl) rfl rfl ?_
    refine z_cVI (as := []) (st := []) (nl := 5) (ci := 3) d_X_ticksUntilDelivered_59 lk_X_87 mk_N_runTick rfl rfl rfl rfl rfl rfl (s_N_runTick is_37_100 _) (fun q2 _ hq2 => ?_)
    refine z_istore (pls' := [some (qR 1), some (qI x1), some (qI x2), some (qI x3), some (qI q2.1)]) d_X_ticksUntilDelivered_62 (by decide) rfl rfl ?_
    refine z_iload d_X_ticksUntilDelivered_64 rfl ?_
    refine z_if_ne (tgt := 88) d_X_ticksUntilDelivered_66 rfl (fun c3 => ?_) (fun c3 => ?_)
    · refine z_aload_n d_X_ticksUntilDelivered_69 rfl ?_
      refine z_gr (ci := 9) (j := 1) (d := 36) (o2 := 37) d_X_ticksUntilDelivered_70 rfl fl_X_16 rfl (Nat.le_of_ble_eq_true rfl) rfl rfl ?_
      refine z_gr (ci := 3) (j := 3) (d := 22) (o2 := 59) d_X_ticksUntilDelivered_73 rfl fl_X_205 rfl (Nat.le_of_ble_eq_true rfl) rfl rfl ?_
      refine z_gi (ci := 2) (j := 1) (ji := 1) d_X_ticksUntilDelivered_76 rfl fl_X_209 rfl rfl rfl ?_
      refine z_if_ne (tgt := 88) d_X_ticksUntilDelivered_79 rfl (fun c4 => ?_) (fun c4 => ?_)
      · refine z_iload_n d_X_ticksUntilDelivered_82 rfl ?_
        refine z_ic1 d_X_ticksUntilDelivered_83 ?_
        refine z_iadd d_X_ticksUntilDelivered_84 ?_
        refine z_goto (tgt := 89) d_X_ticksUntilDelivered_85 rfl ?_
        refine z_mask [true, true, false, true, false] ?_
        exact s_X_ticksUntilDelivered_89 hr4 _ _ _ _
      · refine z_ic0 d_X_ticksUntilDelivered_88 ?_
        refine z_mask [true, true, false, true, false] ?_
        exact s_X_ticksUntilDelivered_89 hr4 _ _ _ _
    · refine z_ic0 d_X_ticksUntilDelivered_88 ?_
      refine z_mask [true, true, false, true, false] ?_
      exact s_X_ticksUntilDelivered_89 hr4 _ _ _ _
def f_X_ticksUntilDelivered_4 : Nat → Int → Int → Int → qMem → Option (Int × qMem)
  | 0, _, _, _, _ => none
  | n + 1, x1, x2, x3, w =>
    if x3 ≤ 1000 then
    if x1 = (-1) then
    (f_P_left 42 w).bind fun q7 =>
    if q7.1 = 0 then
    some (x3, q7.2)
    else
    f_X_ticksUntilDelivered_48 (f_X_ticksUntilDelivered_4 n) x1 x2 x3 q7.2
    else
    (f_P_isDelivered 42 x1 w).bind fun q9 =>
    if q9.1 = 0 then
    f_X_ticksUntilDelivered_48 (f_X_ticksUntilDelivered_4 n) x1 x2 x3 q9.2
    else
    some (x3, q9.2)
    else
    some ((-1), w)
set_option maxRecDepth 4000 in
theorem s_X_ticksUntilDelivered_4  : ∀ (n : Nat), ∀ (x1 x2 x3 : Int) (w : qMem), qSim κI 100 100 m_X_ticksUntilDelivered 4 [] [some (qR 1), some (qI x1), some (qI x2), some (qI x3), none] w (f_X_ticksUntilDelivered_4 n x1 x2 x3 w) := by
  intro n
  induction n with
  | zero => intro x1 x2 x3 w; exact z_none
  | succ n ih =>
    intro x1 x2 x3 w
    rw [f_X_ticksUntilDelivered_4]
    refine z_iload_n d_X_ticksUntilDelivered_4 rfl ?_
    refine z_sipush d_X_ticksUntilDelivered_5 ⟨by decide, by decide⟩ ?_
    refine z_icmp_gt (tgt := 96) d_X_ticksUntilDelivered_8 rfl (fun c5 => ?_) (fun c5 => ?_)
    · refine z_iload_n d_X_ticksUntilDelivered_11 rfl ?_
      refine z_icm1 d_X_ticksUntilDelivered_12 ?_
      refine z_icmp_ne (tgt := 32) d_X_ticksUntilDelivered_13 rfl (fun c6 => ?_) (fun c6 => ?_)
      · refine z_aload_n d_X_ticksUntilDelivered_16 rfl ?_
        refine z_gr (ci := 9) (j := 1) (d := 36) (o2 := 37) d_X_ticksUntilDelivered_17 rfl fl_X_16 rfl (Nat.le_of_ble_eq_true rfl) rfl rfl ?_
        refine z_gr (ci := 3) (j := 1) (d := 5) (o2 := 42) d_X_ticksUntilDelivered_20 rfl fl_X_94 rfl (Nat.le_of_ble_eq_true rfl) rfl rfl ?_
        refine z_cVI (as := []) (st := []) (nl := 0) (ci := 5) d_X_ticksUntilDelivered_23 lk_X_261 mk_P_left rfl rfl rfl rfl rfl rfl (s_P_left is_42_100 _) (fun q7 _ hq7 => ?_)
        refine z_if_ne (tgt := 48) d_X_ticksUntilDelivered_26 rfl (fun c8 => ?_) (fun c8 => ?_)
        · refine z_goto (tgt := 46) d_X_ticksUntilDelivered_29 rfl ?_
          refine z_iload_n d_X_ticksUntilDelivered_46 rfl ?_
          exact z_iret d_X_ticksUntilDelivered_47 rfl rfl
        · refine z_mask [true, true, true, true, false] ?_
          exact s_X_ticksUntilDelivered_48 ih _ _ _ _
      · refine z_aload_n d_X_ticksUntilDelivered_32 rfl ?_
        refine z_gr (ci := 9) (j := 1) (d := 36) (o2 := 37) d_X_ticksUntilDelivered_33 rfl fl_X_16 rfl (Nat.le_of_ble_eq_true rfl) rfl rfl ?_
        refine z_gr (ci := 3) (j := 1) (d := 5) (o2 := 42) d_X_ticksUntilDelivered_36 rfl fl_X_94 rfl (Nat.le_of_ble_eq_true rfl) rfl rfl ?_
        refine z_iload_n d_X_ticksUntilDelivered_39 rfl ?_
        refine z_cVI (as := [qI x1]) (st := []) (nl := 0) (ci := 5) d_X_ticksUntilDelivered_40 lk_X_240 mk_P_isDelivered rfl rfl rfl rfl rfl rfl (s_P_isDelivered _ is_42_100 _) (fun q9 _ hq9 => ?_)
        refine z_if_eq (tgt := 48) d_X_ticksUntilDelivered_43 rfl (fun c10 => ?_) (fun c10 => ?_)
        · refine z_mask [true, true, true, true, false] ?_
          exact s_X_ticksUntilDelivered_48 ih _ _ _ _
        · refine z_iload_n d_X_ticksUntilDelivered_46 rfl ?_
          exact z_iret d_X_ticksUntilDelivered_47 rfl rfl
    · refine z_icm1 d_X_ticksUntilDelivered_96 ?_
      exact z_iret d_X_ticksUntilDelivered_97 rfl rfl
def f_X_ticksUntilDelivered (x1 : Int) (w : qMem) : Option (Int × qMem) :=
  f_X_ticksUntilDelivered_4 qFU x1 0 0 w
set_option maxRecDepth 4000 in
theorem s_X_ticksUntilDelivered (x1 : Int) (w : qMem) : qSim κI 100 100 m_X_ticksUntilDelivered 0 [] [some (qR 1), some (qI x1), none, none, none] w (f_X_ticksUntilDelivered x1 w) := by
  unfold f_X_ticksUntilDelivered
  refine z_ic0 d_X_ticksUntilDelivered_0 ?_
  refine z_istore_n (pls' := [some (qR 1), some (qI x1), some (qI 0), none, none]) d_X_ticksUntilDelivered_1 (by decide) rfl rfl ?_
  refine z_ic0 d_X_ticksUntilDelivered_2 ?_
  refine z_istore_n (pls' := [some (qR 1), some (qI x1), some (qI 0), some (qI 0), none]) d_X_ticksUntilDelivered_3 (by decide) rfl rfl ?_
  refine z_mask [true, true, true, true, false] ?_
  exact s_X_ticksUntilDelivered_4 _ _ _ _ _
/-! BubbleTorus.through -/
theorem d_X_through_0 : decode m_X_through.2.1 0 = .ok (.aload_n 0, 1) := by decide +kernel
theorem d_X_through_1 : decode m_X_through.2.1 1 = .ok (.getfield 16, 3) := by decide +kernel
theorem d_X_through_4 : decode m_X_through.2.1 4 = .ok (.aload_n 0, 1) := by decide +kernel
theorem d_X_through_5 : decode m_X_through.2.1 5 = .ok (.getfield 12, 3) := by decide +kernel
theorem d_X_through_8 : decode m_X_through.2.1 8 = .ok (.invokevirtual 268, 3) := by decide +kernel
theorem d_X_through_11 : decode m_X_through.2.1 11 = .ok (.aload_n 0, 1) := by decide +kernel
theorem d_X_through_12 : decode m_X_through.2.1 12 = .ok (.iconst (-1), 1) := by decide +kernel
theorem d_X_through_13 : decode m_X_through.2.1 13 = .ok (.invokevirtual 271, 3) := by decide +kernel
theorem d_X_through_16 : decode m_X_through.2.1 16 = .ok (.ireturn, 1) := by decide +kernel
def f_X_through (w : qMem) : Option (Int × qMem) :=
  (f_N_copyFrom 37 2 w).bind fun q1 =>
  (f_X_ticksUntilDelivered (-1) q1).bind fun q2 =>
  some (q2.1, q2.2)
set_option maxRecDepth 4000 in
theorem s_X_through (w : qMem) : qSim κI 100 100 m_X_through 0 [] [some (qR 1)] w (f_X_through w) := by
  unfold f_X_through
  refine z_aload_n d_X_through_0 rfl ?_
  refine z_gr (ci := 9) (j := 1) (d := 36) (o2 := 37) d_X_through_1 rfl fl_X_16 rfl (Nat.le_of_ble_eq_true rfl) rfl rfl ?_
  refine z_aload_n d_X_through_4 rfl ?_
  refine z_gr (ci := 9) (j := 0) (d := 1) (o2 := 2) d_X_through_5 rfl fl_X_12 rfl (Nat.le_of_ble_eq_true rfl) rfl rfl ?_
  refine z_cVV (as := [qR 2]) (st := []) (nl := 0) (ci := 3) d_X_through_8 lk_X_268 mk_N_copyFrom rfl rfl rfl rfl rfl rfl (s_N_copyFrom is_37_100 is_2_100 _) (fun q1 _ => ?_)
  refine z_aload_n d_X_through_11 rfl ?_
  refine z_icm1 d_X_through_12 ?_
  refine z_cVI (as := [qI (-1)]) (st := []) (nl := 3) (ci := 9) d_X_through_13 lk_X_271 mk_X_ticksUntilDelivered rfl rfl rfl rfl rfl rfl (s_X_ticksUntilDelivered _ _) (fun q2 _ hq2 => ?_)
  exact z_iret d_X_through_16 rfl rfl
/-! BubbleTorus.arrives -/
theorem d_X_arrives_0 : decode m_X_arrives.2.1 0 = .ok (.aload_n 0, 1) := by decide +kernel
theorem d_X_arrives_1 : decode m_X_arrives.2.1 1 = .ok (.getfield 16, 3) := by decide +kernel
theorem d_X_arrives_4 : decode m_X_arrives.2.1 4 = .ok (.aload_n 0, 1) := by decide +kernel
theorem d_X_arrives_5 : decode m_X_arrives.2.1 5 = .ok (.getfield 12, 3) := by decide +kernel
theorem d_X_arrives_8 : decode m_X_arrives.2.1 8 = .ok (.invokevirtual 268, 3) := by decide +kernel
theorem d_X_arrives_11 : decode m_X_arrives.2.1 11 = .ok (.aload_n 0, 1) := by decide +kernel
theorem d_X_arrives_12 : decode m_X_arrives.2.1 12 = .ok (.getfield 16, 3) := by decide +kernel
theorem d_X_arrives_15 : decode m_X_arrives.2.1 15 = .ok (.iload_n 1, 1) := by decide +kernel
theorem d_X_arrives_16 : decode m_X_arrives.2.1 16 = .ok (.iload_n 2, 1) := by decide +kernel
theorem d_X_arrives_17 : decode m_X_arrives.2.1 17 = .ok (.invokevirtual 67, 3) := by decide +kernel
theorem d_X_arrives_20 : decode m_X_arrives.2.1 20 = .ok (.istore_n 3, 1) := by decide +kernel
theorem d_X_arrives_21 : decode m_X_arrives.2.1 21 = .ok (.iload_n 3, 1) := by decide +kernel
theorem d_X_arrives_22 : decode m_X_arrives.2.1 22 = .ok (.iconst (-1), 1) := by decide +kernel
theorem d_X_arrives_23 : decode m_X_arrives.2.1 23 = .ok (.if_icmp .ne 7, 3) := by decide +kernel
theorem d_X_arrives_26 : decode m_X_arrives.2.1 26 = .ok (.iconst (-1), 1) := by decide +kernel
theorem d_X_arrives_27 : decode m_X_arrives.2.1 27 = .ok (.goto 8, 3) := by decide +kernel
theorem d_X_arrives_30 : decode m_X_arrives.2.1 30 = .ok (.aload_n 0, 1) := by decide +kernel
theorem d_X_arrives_31 : decode m_X_arrives.2.1 31 = .ok (.iload_n 3, 1) := by decide +kernel
theorem d_X_arrives_32 : decode m_X_arrives.2.1 32 = .ok (.invokevirtual 271, 3) := by decide +kernel
theorem d_X_arrives_35 : decode m_X_arrives.2.1 35 = .ok (.ireturn, 1) := by decide +kernel
def f_X_arrives (x1 : Int) (x2 : Int) (w : qMem) : Option (Int × qMem) :=
  (f_N_copyFrom 37 2 w).bind fun q1 =>
  (f_N_admit 37 x1 x2 q1).bind fun q2 =>
  if q2.1 = (-1) then
  some ((-1), q2.2)
  else
  (f_X_ticksUntilDelivered q2.1 q2.2).bind fun q4 =>
  some (q4.1, q4.2)
set_option maxRecDepth 4000 in
theorem s_X_arrives (x1 : Int) (x2 : Int) (w : qMem) : qSim κI 100 100 m_X_arrives 0 [] [some (qR 1), some (qI x1), some (qI x2), none] w (f_X_arrives x1 x2 w) := by
  unfold f_X_arrives
  refine z_aload_n d_X_arrives_0 rfl ?_
  refine z_gr (ci := 9) (j := 1) (d := 36) (o2 := 37) d_X_arrives_1 rfl fl_X_16 rfl (Nat.le_of_ble_eq_true rfl) rfl rfl ?_
  refine z_aload_n d_X_arrives_4 rfl ?_
  refine z_gr (ci := 9) (j := 0) (d := 1) (o2 := 2) d_X_arrives_5 rfl fl_X_12 rfl (Nat.le_of_ble_eq_true rfl) rfl rfl ?_
  refine z_cVV (as := [qR 2]) (st := []) (nl := 0) (ci := 3) d_X_arrives_8 lk_X_268 mk_N_copyFrom rfl rfl rfl rfl rfl rfl (s_N_copyFrom is_37_100 is_2_100 _) (fun q1 _ => ?_)
  refine z_aload_n d_X_arrives_11 rfl ?_
  refine z_gr (ci := 9) (j := 1) (d := 36) (o2 := 37) d_X_arrives_12 rfl fl_X_16 rfl (Nat.le_of_ble_eq_true rfl) rfl rfl ?_
  refine z_iload_n d_X_arrives_15 rfl ?_
  refine z_iload_n d_X_arrives_16 rfl ?_
  refine z_cVI (as := [qI x1, qI x2]) (st := []) (nl := 2) (ci := 3) d_X_arrives_17 lk_X_67 mk_N_admit rfl rfl rfl rfl rfl rfl (s_N_admit _ _ is_37_100 _) (fun q2 _ hq2 => ?_)
  refine z_istore_n (pls' := [some (qR 1), some (qI x1), some (qI x2), some (qI q2.1)]) d_X_arrives_20 (by decide) rfl rfl ?_
  refine z_iload_n d_X_arrives_21 rfl ?_
  refine z_icm1 d_X_arrives_22 ?_
  refine z_icmp_ne (tgt := 30) d_X_arrives_23 rfl (fun c3 => ?_) (fun c3 => ?_)
  · refine z_icm1 d_X_arrives_26 ?_
    refine z_goto (tgt := 35) d_X_arrives_27 rfl ?_
    exact z_iret d_X_arrives_35 rfl rfl
  · refine z_aload_n d_X_arrives_30 rfl ?_
    refine z_iload_n d_X_arrives_31 rfl ?_
    refine z_cVI (as := [qI q2.1]) (st := []) (nl := 3) (ci := 9) d_X_arrives_32 lk_X_271 mk_X_ticksUntilDelivered rfl rfl rfl rfl rfl rfl (s_X_ticksUntilDelivered _ _) (fun q4 _ hq4 => ?_)
    exact z_iret d_X_arrives_35 rfl rfl
/-! BubbleTorus.enters -/
theorem d_X_enters_0 : decode m_X_enters.2.1 0 = .ok (.aload_n 0, 1) := by decide +kernel
theorem d_X_enters_1 : decode m_X_enters.2.1 1 = .ok (.getfield 23, 3) := by decide +kernel
theorem d_X_enters_4 : decode m_X_enters.2.1 4 = .ok (.iload_n 1, 1) := by decide +kernel
theorem d_X_enters_5 : decode m_X_enters.2.1 5 = .ok (.invokevirtual 81, 3) := by decide +kernel
theorem d_X_enters_8 : decode m_X_enters.2.1 8 = .ok (.ifCond .eq 10, 3) := by decide +kernel
theorem d_X_enters_11 : decode m_X_enters.2.1 11 = .ok (.iload_n 2, 1) := by decide +kernel
theorem d_X_enters_12 : decode m_X_enters.2.1 12 = .ok (.invokestatic 106, 3) := by decide +kernel
theorem d_X_enters_15 : decode m_X_enters.2.1 15 = .ok (.ifCond .ne 5, 3) := by decide +kernel
theorem d_X_enters_18 : decode m_X_enters.2.1 18 = .ok (.iconst (-1), 1) := by decide +kernel
theorem d_X_enters_19 : decode m_X_enters.2.1 19 = .ok (.ireturn, 1) := by decide +kernel
theorem d_X_enters_20 : decode m_X_enters.2.1 20 = .ok (.aload_n 0, 1) := by decide +kernel
theorem d_X_enters_21 : decode m_X_enters.2.1 21 = .ok (.getfield 12, 3) := by decide +kernel
theorem d_X_enters_24 : decode m_X_enters.2.1 24 = .ok (.iload_n 1, 1) := by decide +kernel
theorem d_X_enters_25 : decode m_X_enters.2.1 25 = .ok (.iload_n 2, 1) := by decide +kernel
theorem d_X_enters_26 : decode m_X_enters.2.1 26 = .ok (.invokevirtual 274, 3) := by decide +kernel
theorem d_X_enters_29 : decode m_X_enters.2.1 29 = .ok (.ifCond .eq 19, 3) := by decide +kernel
theorem d_X_enters_32 : decode m_X_enters.2.1 32 = .ok (.aload_n 0, 1) := by decide +kernel
theorem d_X_enters_33 : decode m_X_enters.2.1 33 = .ok (.getfield 12, 3) := by decide +kernel
theorem d_X_enters_36 : decode m_X_enters.2.1 36 = .ok (.iload_n 1, 1) := by decide +kernel
theorem d_X_enters_37 : decode m_X_enters.2.1 37 = .ok (.iload_n 2, 1) := by decide +kernel
theorem d_X_enters_38 : decode m_X_enters.2.1 38 = .ok (.invokevirtual 278, 3) := by decide +kernel
theorem d_X_enters_41 : decode m_X_enters.2.1 41 = .ok (.ifCond .ne 7, 3) := by decide +kernel
theorem d_X_enters_44 : decode m_X_enters.2.1 44 = .ok (.iconst 1, 1) := by decide +kernel
theorem d_X_enters_45 : decode m_X_enters.2.1 45 = .ok (.goto 4, 3) := by decide +kernel
theorem d_X_enters_48 : decode m_X_enters.2.1 48 = .ok (.iconst 0, 1) := by decide +kernel
theorem d_X_enters_49 : decode m_X_enters.2.1 49 = .ok (.ireturn, 1) := by decide +kernel
def f_X_enters (x1 : Int) (x2 : Int) (w : qMem) : Option (Int × qMem) :=
  (f_G_hasNode 3 x1 w).bind fun q1 =>
  if q1.1 = 0 then
  some ((-1), q1.2)
  else
  (f_X_isDirection x2 q1.2).bind fun q3 =>
  if q3.1 = 0 then
  some ((-1), q3.2)
  else
  (f_N_ruleLets 2 x1 x2 q3.2).bind fun q5 =>
  if q5.1 = 0 then
  some (0, q5.2)
  else
  (f_N_isBarred 2 x1 x2 q5.2).bind fun q7 =>
  if q7.1 = 0 then
  some (1, q7.2)
  else
  some (0, q7.2)
set_option maxRecDepth 4000 in
theorem s_X_enters (x1 : Int) (x2 : Int) (w : qMem) : qSim κI 100 100 m_X_enters 0 [] [some (qR 1), some (qI x1), some (qI x2)] w (f_X_enters x1 x2 w) := by
  unfold f_X_enters
  refine z_aload_n d_X_enters_0 rfl ?_
  refine z_gr (ci := 9) (j := 2) (d := 2) (o2 := 3) d_X_enters_1 rfl fl_X_23 rfl (Nat.le_of_ble_eq_true rfl) rfl rfl ?_
  refine z_iload_n d_X_enters_4 rfl ?_
  refine z_cVI (as := [qI x1]) (st := []) (nl := 0) (ci := 0) d_X_enters_5 lk_X_81 mk_G_hasNode rfl rfl rfl rfl rfl rfl (s_G_hasNode _ is_3_100 _) (fun q1 _ hq1 => ?_)
  refine z_if_eq (tgt := 18) d_X_enters_8 rfl (fun c2 => ?_) (fun c2 => ?_)
  · refine z_icm1 d_X_enters_18 ?_
    exact z_iret d_X_enters_19 rfl rfl
  · refine z_iload_n d_X_enters_11 rfl ?_
    refine z_cSI (av := [qI x2]) (st := []) (nl := 0) d_X_enters_12 lk_X_106 mk_X_isDirection rfl rfl rfl (s_X_isDirection _ _) (fun q3 _ hq3 => ?_)
    refine z_if_ne (tgt := 20) d_X_enters_15 rfl (fun c4 => ?_) (fun c4 => ?_)
    · refine z_icm1 d_X_enters_18 ?_
      exact z_iret d_X_enters_19 rfl rfl
    · refine z_aload_n d_X_enters_20 rfl ?_
      refine z_gr (ci := 9) (j := 0) (d := 1) (o2 := 2) d_X_enters_21 rfl fl_X_12 rfl (Nat.le_of_ble_eq_true rfl) rfl rfl ?_
      refine z_iload_n d_X_enters_24 rfl ?_
      refine z_iload_n d_X_enters_25 rfl ?_
      refine z_cVI (as := [qI x1, qI x2]) (st := []) (nl := 1) (ci := 3) d_X_enters_26 lk_X_274 mk_N_ruleLets rfl rfl rfl rfl rfl rfl (s_N_ruleLets _ _ is_2_100 _) (fun q5 _ hq5 => ?_)
      refine z_if_eq (tgt := 48) d_X_enters_29 rfl (fun c6 => ?_) (fun c6 => ?_)
      · refine z_ic0 d_X_enters_48 ?_
        exact z_iret d_X_enters_49 rfl rfl
      · refine z_aload_n d_X_enters_32 rfl ?_
        refine z_gr (ci := 9) (j := 0) (d := 1) (o2 := 2) d_X_enters_33 rfl fl_X_12 rfl (Nat.le_of_ble_eq_true rfl) rfl rfl ?_
        refine z_iload_n d_X_enters_36 rfl ?_
        refine z_iload_n d_X_enters_37 rfl ?_
        refine z_cVI (as := [qI x1, qI x2]) (st := []) (nl := 0) (ci := 3) d_X_enters_38 lk_X_278 mk_N_isBarred rfl rfl rfl rfl rfl rfl (s_N_isBarred _ _ is_2_100 _) (fun q7 _ hq7 => ?_)
        refine z_if_ne (tgt := 48) d_X_enters_41 rfl (fun c8 => ?_) (fun c8 => ?_)
        · refine z_ic1 d_X_enters_44 ?_
          refine z_goto (tgt := 49) d_X_enters_45 rfl ?_
          exact z_iret d_X_enters_49 rfl rfl
        · refine z_ic0 d_X_enters_48 ?_
          exact z_iret d_X_enters_49 rfl rfl
/-! BubbleTorus.schedules -/
theorem d_X_schedules_0 : decode m_X_schedules.2.1 0 = .ok (.iload_n 1, 1) := by decide +kernel
theorem d_X_schedules_1 : decode m_X_schedules.2.1 1 = .ok (.iconst 0, 1) := by decide +kernel
theorem d_X_schedules_2 : decode m_X_schedules.2.1 2 = .ok (.iconst 4, 1) := by decide +kernel
theorem d_X_schedules_3 : decode m_X_schedules.2.1 3 = .ok (.invokestatic 53, 3) := by decide +kernel
theorem d_X_schedules_6 : decode m_X_schedules.2.1 6 = .ok (.ifCond .ne 5, 3) := by decide +kernel
theorem d_X_schedules_9 : decode m_X_schedules.2.1 9 = .ok (.iconst (-1), 1) := by decide +kernel
theorem d_X_schedules_10 : decode m_X_schedules.2.1 10 = .ok (.ireturn, 1) := by decide +kernel
theorem d_X_schedules_11 : decode m_X_schedules.2.1 11 = .ok (.aload_n 0, 1) := by decide +kernel
theorem d_X_schedules_12 : decode m_X_schedules.2.1 12 = .ok (.getfield 16, 3) := by decide +kernel
theorem d_X_schedules_15 : decode m_X_schedules.2.1 15 = .ok (.aload_n 0, 1) := by decide +kernel
theorem d_X_schedules_16 : decode m_X_schedules.2.1 16 = .ok (.getfield 12, 3) := by decide +kernel
theorem d_X_schedules_19 : decode m_X_schedules.2.1 19 = .ok (.invokevirtual 268, 3) := by decide +kernel
theorem d_X_schedules_22 : decode m_X_schedules.2.1 22 = .ok (.aload_n 0, 1) := by decide +kernel
theorem d_X_schedules_23 : decode m_X_schedules.2.1 23 = .ok (.getfield 34, 3) := by decide +kernel
theorem d_X_schedules_26 : decode m_X_schedules.2.1 26 = .ok (.aload_n 0, 1) := by decide +kernel
theorem d_X_schedules_27 : decode m_X_schedules.2.1 27 = .ok (.getfield 16, 3) := by decide +kernel
theorem d_X_schedules_30 : decode m_X_schedules.2.1 30 = .ok (.invokevirtual 281, 3) := by decide +kernel
theorem d_X_schedules_33 : decode m_X_schedules.2.1 33 = .ok (.ifCond .eq 15, 3) := by decide +kernel
theorem d_X_schedules_36 : decode m_X_schedules.2.1 36 = .ok (.aload_n 0, 1) := by decide +kernel
theorem d_X_schedules_37 : decode m_X_schedules.2.1 37 = .ok (.getfield 34, 3) := by decide +kernel
theorem d_X_schedules_40 : decode m_X_schedules.2.1 40 = .ok (.getfield 285, 3) := by decide +kernel
theorem d_X_schedules_43 : decode m_X_schedules.2.1 43 = .ok (.iload_n 1, 1) := by decide +kernel
theorem d_X_schedules_44 : decode m_X_schedules.2.1 44 = .ok (.iaload, 1) := by decide +kernel
theorem d_X_schedules_45 : decode m_X_schedules.2.1 45 = .ok (.goto 4, 3) := by decide +kernel
theorem d_X_schedules_48 : decode m_X_schedules.2.1 48 = .ok (.iconst (-1), 1) := by decide +kernel
theorem d_X_schedules_49 : decode m_X_schedules.2.1 49 = .ok (.ireturn, 1) := by decide +kernel
def f_X_schedules (x1 : Int) (w : qMem) : Option (Int × qMem) :=
  (f_X_within x1 0 4 w).bind fun q1 =>
  if q1.1 = 0 then
  some ((-1), q1.2)
  else
  (f_N_copyFrom 37 2 q1.2).bind fun q3 =>
  (f_S_run 37 q3).bind fun q4 =>
  if q4.1 = 0 then
  some ((-1), q4.2)
  else
  qld q4.2 80 5 x1 fun v6 =>
  some (v6, q4.2)
set_option maxRecDepth 4000 in
theorem s_X_schedules (x1 : Int) (w : qMem) : qSim κI 100 100 m_X_schedules 0 [] [some (qR 1), some (qI x1)] w (f_X_schedules x1 w) := by
  unfold f_X_schedules
  refine z_iload_n d_X_schedules_0 rfl ?_
  refine z_ic0 d_X_schedules_1 ?_
  refine z_ic4 d_X_schedules_2 ?_
  refine z_cSI (av := [qI x1, qI 0, qI 4]) (st := []) (nl := 0) d_X_schedules_3 lk_X_53 mk_X_within rfl rfl rfl (s_X_within _ _ _ _) (fun q1 _ hq1 => ?_)
  refine z_if_ne (tgt := 11) d_X_schedules_6 rfl (fun c2 => ?_) (fun c2 => ?_)
  · refine z_icm1 d_X_schedules_9 ?_
    exact z_iret d_X_schedules_10 rfl rfl
  · refine z_aload_n d_X_schedules_11 rfl ?_
    refine z_gr (ci := 9) (j := 1) (d := 36) (o2 := 37) d_X_schedules_12 rfl fl_X_16 rfl (Nat.le_of_ble_eq_true rfl) rfl rfl ?_
    refine z_aload_n d_X_schedules_15 rfl ?_
    refine z_gr (ci := 9) (j := 0) (d := 1) (o2 := 2) d_X_schedules_16 rfl fl_X_12 rfl (Nat.le_of_ble_eq_true rfl) rfl rfl ?_
    refine z_cVV (as := [qR 2]) (st := []) (nl := 0) (ci := 3) d_X_schedules_19 lk_X_268 mk_N_copyFrom rfl rfl rfl rfl rfl rfl (s_N_copyFrom is_37_100 is_2_100 _) (fun q3 _ => ?_)
    refine z_aload_n d_X_schedules_22 rfl ?_
    refine z_gr (ci := 9) (j := 4) (d := 73) (o2 := 74) d_X_schedules_23 rfl fl_X_34 rfl (Nat.le_of_ble_eq_true rfl) rfl rfl ?_
    refine z_aload_n d_X_schedules_26 rfl ?_
    refine z_gr (ci := 9) (j := 1) (d := 36) (o2 := 37) d_X_schedules_27 rfl fl_X_16 rfl (Nat.le_of_ble_eq_true rfl) rfl rfl ?_
    refine z_cVI (as := [qR 37]) (st := []) (nl := 1) (ci := 8) d_X_schedules_30 lk_X_281 mk_S_run rfl rfl rfl rfl rfl rfl (s_S_run is_37_100 _) (fun q4 _ hq4 => ?_)
    refine z_if_eq (tgt := 48) d_X_schedules_33 rfl (fun c5 => ?_) (fun c5 => ?_)
    · refine z_icm1 d_X_schedules_48 ?_
      exact z_iret d_X_schedules_49 rfl rfl
    · refine z_aload_n d_X_schedules_36 rfl ?_
      refine z_gr (ci := 9) (j := 4) (d := 73) (o2 := 74) d_X_schedules_37 rfl fl_X_34 rfl (Nat.le_of_ble_eq_true rfl) rfl rfl ?_
      refine z_gr (ci := 8) (j := 5) (d := 6) (o2 := 80) d_X_schedules_40 rfl fl_X_285 rfl (Nat.le_of_ble_eq_true rfl) rfl rfl ?_
      refine z_iload_n d_X_schedules_43 rfl ?_
      refine z_il d_X_schedules_44 rfl rfl (fun v6 => ?_)
      refine z_goto (tgt := 49) d_X_schedules_45 rfl ?_
      exact z_iret d_X_schedules_49 rfl rfl
