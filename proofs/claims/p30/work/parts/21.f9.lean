/-! BubbleTorusModel.laysAside -/
theorem d_M_laysAside_0 : decode m_M_laysAside.2.1 0 = .ok (.iconst 0, 1) := by decide +kernel
theorem d_M_laysAside_1 : decode m_M_laysAside.2.1 1 = .ok (.istore_n 1, 1) := by decide +kernel
theorem d_M_laysAside_2 : decode m_M_laysAside.2.1 2 = .ok (.iload_n 1, 1) := by decide +kernel
theorem d_M_laysAside_3 : decode m_M_laysAside.2.1 3 = .ok (.sipush 5898, 3) := by decide +kernel
theorem d_M_laysAside_6 : decode m_M_laysAside.2.1 6 = .ok (.if_icmp .ge 21, 3) := by decide +kernel
theorem d_M_laysAside_9 : decode m_M_laysAside.2.1 9 = .ok (.aload_n 0, 1) := by decide +kernel
theorem d_M_laysAside_10 : decode m_M_laysAside.2.1 10 = .ok (.getfield 13, 3) := by decide +kernel
theorem d_M_laysAside_13 : decode m_M_laysAside.2.1 13 = .ok (.iload_n 1, 1) := by decide +kernel
theorem d_M_laysAside_14 : decode m_M_laysAside.2.1 14 = .ok (.aload_n 0, 1) := by decide +kernel
theorem d_M_laysAside_15 : decode m_M_laysAside.2.1 15 = .ok (.getfield 7, 3) := by decide +kernel
theorem d_M_laysAside_18 : decode m_M_laysAside.2.1 18 = .ok (.iload_n 1, 1) := by decide +kernel
theorem d_M_laysAside_19 : decode m_M_laysAside.2.1 19 = .ok (.iaload, 1) := by decide +kernel
theorem d_M_laysAside_20 : decode m_M_laysAside.2.1 20 = .ok (.iastore, 1) := by decide +kernel
theorem d_M_laysAside_21 : decode m_M_laysAside.2.1 21 = .ok (.iinc 1 1, 3) := by decide +kernel
theorem d_M_laysAside_24 : decode m_M_laysAside.2.1 24 = .ok (.goto (-22), 3) := by decide +kernel
theorem d_M_laysAside_27 : decode m_M_laysAside.2.1 27 = .ok (.return_, 1) := by decide +kernel
def f_M_laysAside_2 : Nat → Int → qMem → Option (qMem)
  | 0, _, _ => none
  | n + 1, x1, w =>
    if x1 < 5898 then
    qld w 89 5898 x1 fun v2 =>
    qst w 90 5898 x1 v2 fun w3 =>
    (f_M_laysAside_2 n) (w32 (x1 + 1)) w3
    else
    some w
set_option maxRecDepth 4000 in
theorem s_M_laysAside_2  : ∀ (n : Nat), ∀ (x1 : Int) (w : qMem), qSim κV 100 100 m_M_laysAside 2 [] [some (qR 88), some (qI x1)] w (f_M_laysAside_2 n x1 w) := by
  intro n
  induction n with
  | zero => intro x1 w; exact z_none
  | succ n ih =>
    intro x1 w
    rw [f_M_laysAside_2]
    refine z_iload_n d_M_laysAside_2 rfl ?_
    refine z_sipush d_M_laysAside_3 ⟨by decide, by decide⟩ ?_
    refine z_icmp_ge (tgt := 27) d_M_laysAside_6 rfl (fun c1 => ?_) (fun c1 => ?_)
    · refine z_aload_n d_M_laysAside_9 rfl ?_
      refine z_gr (ci := 10) (j := 1) (d := 2) (o2 := 90) d_M_laysAside_10 rfl fl_M_13 rfl (Nat.le_of_ble_eq_true rfl) rfl rfl ?_
      refine z_iload_n d_M_laysAside_13 rfl ?_
      refine z_aload_n d_M_laysAside_14 rfl ?_
      refine z_gr (ci := 10) (j := 0) (d := 1) (o2 := 89) d_M_laysAside_15 rfl fl_M_7 rfl (Nat.le_of_ble_eq_true rfl) rfl rfl ?_
      refine z_iload_n d_M_laysAside_18 rfl ?_
      refine z_il d_M_laysAside_19 rfl rfl (fun v2 => ?_)
      refine z_is d_M_laysAside_20 rfl rfl (fun w3 => ?_)
      refine z_iinc (pls' := [some (qR 88), some (qI (w32 (x1 + 1)))]) d_M_laysAside_21 (by decide) rfl rfl rfl ?_
      refine z_goto (tgt := 2) d_M_laysAside_24 rfl ?_
      refine z_mask [true, true] ?_
      exact ih _ _
    · exact z_vret d_M_laysAside_27 rfl rfl
def f_M_laysAside (w : qMem) : Option (qMem) :=
  f_M_laysAside_2 qFU 0 w
set_option maxRecDepth 4000 in
theorem s_M_laysAside (w : qMem) : qSim κV 100 100 m_M_laysAside 0 [] [some (qR 88), none] w (f_M_laysAside w) := by
  unfold f_M_laysAside
  refine z_ic0 d_M_laysAside_0 ?_
  refine z_istore_n (pls' := [some (qR 88), some (qI 0)]) d_M_laysAside_1 (by decide) rfl rfl ?_
  refine z_mask [true, true] ?_
  exact s_M_laysAside_2 _ _ _
/-! BubbleTorusModel.comesBack -/
theorem d_M_comesBack_0 : decode m_M_comesBack.2.1 0 = .ok (.iconst 0, 1) := by decide +kernel
theorem d_M_comesBack_1 : decode m_M_comesBack.2.1 1 = .ok (.istore_n 1, 1) := by decide +kernel
theorem d_M_comesBack_2 : decode m_M_comesBack.2.1 2 = .ok (.iload_n 1, 1) := by decide +kernel
theorem d_M_comesBack_3 : decode m_M_comesBack.2.1 3 = .ok (.sipush 5898, 3) := by decide +kernel
theorem d_M_comesBack_6 : decode m_M_comesBack.2.1 6 = .ok (.if_icmp .ge 21, 3) := by decide +kernel
theorem d_M_comesBack_9 : decode m_M_comesBack.2.1 9 = .ok (.aload_n 0, 1) := by decide +kernel
theorem d_M_comesBack_10 : decode m_M_comesBack.2.1 10 = .ok (.getfield 7, 3) := by decide +kernel
theorem d_M_comesBack_13 : decode m_M_comesBack.2.1 13 = .ok (.iload_n 1, 1) := by decide +kernel
theorem d_M_comesBack_14 : decode m_M_comesBack.2.1 14 = .ok (.aload_n 0, 1) := by decide +kernel
theorem d_M_comesBack_15 : decode m_M_comesBack.2.1 15 = .ok (.getfield 13, 3) := by decide +kernel
theorem d_M_comesBack_18 : decode m_M_comesBack.2.1 18 = .ok (.iload_n 1, 1) := by decide +kernel
theorem d_M_comesBack_19 : decode m_M_comesBack.2.1 19 = .ok (.iaload, 1) := by decide +kernel
theorem d_M_comesBack_20 : decode m_M_comesBack.2.1 20 = .ok (.iastore, 1) := by decide +kernel
theorem d_M_comesBack_21 : decode m_M_comesBack.2.1 21 = .ok (.iinc 1 1, 3) := by decide +kernel
theorem d_M_comesBack_24 : decode m_M_comesBack.2.1 24 = .ok (.goto (-22), 3) := by decide +kernel
theorem d_M_comesBack_27 : decode m_M_comesBack.2.1 27 = .ok (.return_, 1) := by decide +kernel
def f_M_comesBack_2 : Nat → Int → qMem → Option (qMem)
  | 0, _, _ => none
  | n + 1, x1, w =>
    if x1 < 5898 then
    qld w 90 5898 x1 fun v2 =>
    qst w 89 5898 x1 v2 fun w3 =>
    (f_M_comesBack_2 n) (w32 (x1 + 1)) w3
    else
    some w
set_option maxRecDepth 4000 in
theorem s_M_comesBack_2  : ∀ (n : Nat), ∀ (x1 : Int) (w : qMem), qSim κV 100 100 m_M_comesBack 2 [] [some (qR 88), some (qI x1)] w (f_M_comesBack_2 n x1 w) := by
  intro n
  induction n with
  | zero => intro x1 w; exact z_none
  | succ n ih =>
    intro x1 w
    rw [f_M_comesBack_2]
    refine z_iload_n d_M_comesBack_2 rfl ?_
    refine z_sipush d_M_comesBack_3 ⟨by decide, by decide⟩ ?_
    refine z_icmp_ge (tgt := 27) d_M_comesBack_6 rfl (fun c1 => ?_) (fun c1 => ?_)
    · refine z_aload_n d_M_comesBack_9 rfl ?_
      refine z_gr (ci := 10) (j := 0) (d := 1) (o2 := 89) d_M_comesBack_10 rfl fl_M_7 rfl (Nat.le_of_ble_eq_true rfl) rfl rfl ?_
      refine z_iload_n d_M_comesBack_13 rfl ?_
      refine z_aload_n d_M_comesBack_14 rfl ?_
      refine z_gr (ci := 10) (j := 1) (d := 2) (o2 := 90) d_M_comesBack_15 rfl fl_M_13 rfl (Nat.le_of_ble_eq_true rfl) rfl rfl ?_
      refine z_iload_n d_M_comesBack_18 rfl ?_
      refine z_il d_M_comesBack_19 rfl rfl (fun v2 => ?_)
      refine z_is d_M_comesBack_20 rfl rfl (fun w3 => ?_)
      refine z_iinc (pls' := [some (qR 88), some (qI (w32 (x1 + 1)))]) d_M_comesBack_21 (by decide) rfl rfl rfl ?_
      refine z_goto (tgt := 2) d_M_comesBack_24 rfl ?_
      refine z_mask [true, true] ?_
      exact ih _ _
    · exact z_vret d_M_comesBack_27 rfl rfl
def f_M_comesBack (w : qMem) : Option (qMem) :=
  f_M_comesBack_2 qFU 0 w
set_option maxRecDepth 4000 in
theorem s_M_comesBack (w : qMem) : qSim κV 100 100 m_M_comesBack 0 [] [some (qR 88), none] w (f_M_comesBack w) := by
  unfold f_M_comesBack
  refine z_ic0 d_M_comesBack_0 ?_
  refine z_istore_n (pls' := [some (qR 88), some (qI 0)]) d_M_comesBack_1 (by decide) rfl rfl ?_
  refine z_mask [true, true] ?_
  exact s_M_comesBack_2 _ _ _
/-! BubbleTorusModel.through -/
theorem d_M_through_0 : decode m_M_through.2.1 0 = .ok (.aload_n 0, 1) := by decide +kernel
theorem d_M_through_1 : decode m_M_through.2.1 1 = .ok (.invokevirtual 255, 3) := by decide +kernel
theorem d_M_through_4 : decode m_M_through.2.1 4 = .ok (.iconst 0, 1) := by decide +kernel
theorem d_M_through_5 : decode m_M_through.2.1 5 = .ok (.istore_n 1, 1) := by decide +kernel
theorem d_M_through_6 : decode m_M_through.2.1 6 = .ok (.iload_n 1, 1) := by decide +kernel
theorem d_M_through_7 : decode m_M_through.2.1 7 = .ok (.sipush 1000, 3) := by decide +kernel
theorem d_M_through_10 : decode m_M_through.2.1 10 = .ok (.if_icmp .ge 30, 3) := by decide +kernel
theorem d_M_through_13 : decode m_M_through.2.1 13 = .ok (.aload_n 0, 1) := by decide +kernel
theorem d_M_through_14 : decode m_M_through.2.1 14 = .ok (.getfield 7, 3) := by decide +kernel
theorem d_M_through_17 : decode m_M_through.2.1 17 = .ok (.bipush 8, 2) := by decide +kernel
theorem d_M_through_19 : decode m_M_through.2.1 19 = .ok (.iaload, 1) := by decide +kernel
theorem d_M_through_20 : decode m_M_through.2.1 20 = .ok (.aload_n 0, 1) := by decide +kernel
theorem d_M_through_21 : decode m_M_through.2.1 21 = .ok (.getfield 7, 3) := by decide +kernel
theorem d_M_through_24 : decode m_M_through.2.1 24 = .ok (.bipush 7, 2) := by decide +kernel
theorem d_M_through_26 : decode m_M_through.2.1 26 = .ok (.iaload, 1) := by decide +kernel
theorem d_M_through_27 : decode m_M_through.2.1 27 = .ok (.if_icmp .ge 13, 3) := by decide +kernel
theorem d_M_through_30 : decode m_M_through.2.1 30 = .ok (.aload_n 0, 1) := by decide +kernel
theorem d_M_through_31 : decode m_M_through.2.1 31 = .ok (.invokevirtual 212, 3) := by decide +kernel
theorem d_M_through_34 : decode m_M_through.2.1 34 = .ok (.iinc 1 1, 3) := by decide +kernel
theorem d_M_through_37 : decode m_M_through.2.1 37 = .ok (.goto (-31), 3) := by decide +kernel
theorem d_M_through_40 : decode m_M_through.2.1 40 = .ok (.aload_n 0, 1) := by decide +kernel
theorem d_M_through_41 : decode m_M_through.2.1 41 = .ok (.getfield 7, 3) := by decide +kernel
theorem d_M_through_44 : decode m_M_through.2.1 44 = .ok (.bipush 8, 2) := by decide +kernel
theorem d_M_through_46 : decode m_M_through.2.1 46 = .ok (.iaload, 1) := by decide +kernel
theorem d_M_through_47 : decode m_M_through.2.1 47 = .ok (.aload_n 0, 1) := by decide +kernel
theorem d_M_through_48 : decode m_M_through.2.1 48 = .ok (.getfield 7, 3) := by decide +kernel
theorem d_M_through_51 : decode m_M_through.2.1 51 = .ok (.bipush 7, 2) := by decide +kernel
theorem d_M_through_53 : decode m_M_through.2.1 53 = .ok (.iaload, 1) := by decide +kernel
theorem d_M_through_54 : decode m_M_through.2.1 54 = .ok (.if_icmp .ne 7, 3) := by decide +kernel
theorem d_M_through_57 : decode m_M_through.2.1 57 = .ok (.iconst 1, 1) := by decide +kernel
theorem d_M_through_58 : decode m_M_through.2.1 58 = .ok (.goto 4, 3) := by decide +kernel
theorem d_M_through_61 : decode m_M_through.2.1 61 = .ok (.iconst 0, 1) := by decide +kernel
theorem d_M_through_62 : decode m_M_through.2.1 62 = .ok (.istore_n 2, 1) := by decide +kernel
theorem d_M_through_63 : decode m_M_through.2.1 63 = .ok (.aload_n 0, 1) := by decide +kernel
theorem d_M_through_64 : decode m_M_through.2.1 64 = .ok (.invokevirtual 258, 3) := by decide +kernel
theorem d_M_through_67 : decode m_M_through.2.1 67 = .ok (.iload_n 2, 1) := by decide +kernel
theorem d_M_through_68 : decode m_M_through.2.1 68 = .ok (.ifCond .eq 7, 3) := by decide +kernel
theorem d_M_through_71 : decode m_M_through.2.1 71 = .ok (.iload_n 1, 1) := by decide +kernel
theorem d_M_through_72 : decode m_M_through.2.1 72 = .ok (.goto 4, 3) := by decide +kernel
theorem d_M_through_75 : decode m_M_through.2.1 75 = .ok (.iconst (-1), 1) := by decide +kernel
theorem d_M_through_76 : decode m_M_through.2.1 76 = .ok (.ireturn, 1) := by decide +kernel
def f_M_through_62 (s0 x1 : Int) (w : qMem) : Option (Int × qMem) :=
  (f_M_comesBack w).bind fun q1 =>
  if s0 = 0 then
  some ((-1), q1)
  else
  some (x1, q1)
set_option maxRecDepth 4000 in
theorem s_M_through_62  : ∀ (s0 x1 : Int) (w : qMem), (s0 = 0 ∨ s0 = 1) → qSim κI 100 100 m_M_through 62 [qI s0] [some (qR 88), some (qI x1), none] w (f_M_through_62 s0 x1 w) := by
  intro s0 x1 w hs0
  unfold f_M_through_62
  refine z_istore_n (pls' := [some (qR 88), some (qI x1), some (qI s0)]) d_M_through_62 (by decide) rfl rfl ?_
  refine z_aload_n d_M_through_63 rfl ?_
  refine z_cVV (as := []) (st := []) (nl := 1) (ci := 10) d_M_through_64 lk_M_258 mk_M_comesBack rfl rfl rfl rfl rfl rfl (s_M_comesBack _) (fun q1 _ => ?_)
  refine z_iload_n d_M_through_67 rfl ?_
  refine z_if_eq (tgt := 75) d_M_through_68 rfl (fun c2 => ?_) (fun c2 => ?_)
  · refine z_icm1 d_M_through_75 ?_
    exact z_iret d_M_through_76 rfl rfl
  · refine z_iload_n d_M_through_71 rfl ?_
    refine z_goto (tgt := 76) d_M_through_72 rfl ?_
    exact z_iret d_M_through_76 rfl rfl
def f_M_through_40 (x1 : Int) (w : qMem) : Option (Int × qMem) :=
  qld w 89 5898 8 fun v3 =>
  qld w 89 5898 7 fun v4 =>
  if v3 = v4 then
  f_M_through_62 1 x1 w
  else
  f_M_through_62 0 x1 w
set_option maxRecDepth 4000 in
theorem s_M_through_40  : ∀ (x1 : Int) (w : qMem), qSim κI 100 100 m_M_through 40 [] [some (qR 88), some (qI x1), none] w (f_M_through_40 x1 w) := by
  intro x1 w
  unfold f_M_through_40
  refine z_aload_n d_M_through_40 rfl ?_
  refine z_gr (ci := 10) (j := 0) (d := 1) (o2 := 89) d_M_through_41 rfl fl_M_7 rfl (Nat.le_of_ble_eq_true rfl) rfl rfl ?_
  refine z_bipush d_M_through_44 ⟨by decide, by decide⟩ ?_
  refine z_il d_M_through_46 rfl rfl (fun v3 => ?_)
  refine z_aload_n d_M_through_47 rfl ?_
  refine z_gr (ci := 10) (j := 0) (d := 1) (o2 := 89) d_M_through_48 rfl fl_M_7 rfl (Nat.le_of_ble_eq_true rfl) rfl rfl ?_
  refine z_bipush d_M_through_51 ⟨by decide, by decide⟩ ?_
  refine z_il d_M_through_53 rfl rfl (fun v4 => ?_)
  refine z_icmp_ne (tgt := 61) d_M_through_54 rfl (fun c5 => ?_) (fun c5 => ?_)
  · refine z_ic1 d_M_through_57 ?_
    refine z_goto (tgt := 62) d_M_through_58 rfl ?_
    refine z_mask [true, true, false] ?_
    exact s_M_through_62 _ _ _ (Or.inr rfl)
  · refine z_ic0 d_M_through_61 ?_
    refine z_mask [true, true, false] ?_
    exact s_M_through_62 _ _ _ (Or.inl rfl)
def f_M_through_6 : Nat → Int → qMem → Option (Int × qMem)
  | 0, _, _ => none
  | n + 1, x1, w =>
    if x1 < 1000 then
    qld w 89 5898 8 fun v7 =>
    qld w 89 5898 7 fun v8 =>
    if v7 < v8 then
    (f_M_ticks w).bind fun q10 =>
    (f_M_through_6 n) (w32 (x1 + 1)) q10
    else
    f_M_through_40 x1 w
    else
    f_M_through_40 x1 w
set_option maxRecDepth 4000 in
theorem s_M_through_6  : ∀ (n : Nat), ∀ (x1 : Int) (w : qMem), qSim κI 100 100 m_M_through 6 [] [some (qR 88), some (qI x1), none] w (f_M_through_6 n x1 w) := by
  intro n
  induction n with
  | zero => intro x1 w; exact z_none
  | succ n ih =>
    intro x1 w
    rw [f_M_through_6]
    refine z_iload_n d_M_through_6 rfl ?_
    refine z_sipush d_M_through_7 ⟨by decide, by decide⟩ ?_
    refine z_icmp_ge (tgt := 40) d_M_through_10 rfl (fun c6 => ?_) (fun c6 => ?_)
    · refine z_aload_n d_M_through_13 rfl ?_
      refine z_gr (ci := 10) (j := 0) (d := 1) (o2 := 89) d_M_through_14 rfl fl_M_7 rfl (Nat.le_of_ble_eq_true rfl) rfl rfl ?_
      refine z_bipush d_M_through_17 ⟨by decide, by decide⟩ ?_
      refine z_il d_M_through_19 rfl rfl (fun v7 => ?_)
      refine z_aload_n d_M_through_20 rfl ?_
      refine z_gr (ci := 10) (j := 0) (d := 1) (o2 := 89) d_M_through_21 rfl fl_M_7 rfl (Nat.le_of_ble_eq_true rfl) rfl rfl ?_
      refine z_bipush d_M_through_24 ⟨by decide, by decide⟩ ?_
      refine z_il d_M_through_26 rfl rfl (fun v8 => ?_)
      refine z_icmp_ge (tgt := 40) d_M_through_27 rfl (fun c9 => ?_) (fun c9 => ?_)
      · refine z_aload_n d_M_through_30 rfl ?_
        refine z_cVV (as := []) (st := []) (nl := 3) (ci := 10) d_M_through_31 lk_M_212 mk_M_ticks rfl rfl rfl rfl rfl rfl (s_M_ticks _) (fun q10 _ => ?_)
        refine z_iinc (pls' := [some (qR 88), some (qI (w32 (x1 + 1))), none]) d_M_through_34 (by decide) rfl rfl rfl ?_
        refine z_goto (tgt := 6) d_M_through_37 rfl ?_
        refine z_mask [true, true, false] ?_
        exact ih _ _
      · refine z_mask [true, true, false] ?_
        exact s_M_through_40 _ _
    · refine z_mask [true, true, false] ?_
      exact s_M_through_40 _ _
def f_M_through (w : qMem) : Option (Int × qMem) :=
  (f_M_laysAside w).bind fun q11 =>
  f_M_through_6 qFU 0 q11
set_option maxRecDepth 4000 in
theorem s_M_through (w : qMem) : qSim κI 100 100 m_M_through 0 [] [some (qR 88), none, none] w (f_M_through w) := by
  unfold f_M_through
  refine z_aload_n d_M_through_0 rfl ?_
  refine z_cVV (as := []) (st := []) (nl := 1) (ci := 10) d_M_through_1 lk_M_255 mk_M_laysAside rfl rfl rfl rfl rfl rfl (s_M_laysAside _) (fun q11 _ => ?_)
  refine z_ic0 d_M_through_4 ?_
  refine z_istore_n (pls' := [some (qR 88), some (qI 0), none]) d_M_through_5 (by decide) rfl rfl ?_
  refine z_mask [true, true, false] ?_
  exact s_M_through_6 _ _ _
/-! BubbleTorusModel.arrives -/
theorem d_M_arrives_0 : decode m_M_arrives.2.1 0 = .ok (.aload_n 0, 1) := by decide +kernel
theorem d_M_arrives_1 : decode m_M_arrives.2.1 1 = .ok (.iload_n 1, 1) := by decide +kernel
theorem d_M_arrives_2 : decode m_M_arrives.2.1 2 = .ok (.invokevirtual 92, 3) := by decide +kernel
theorem d_M_arrives_5 : decode m_M_arrives.2.1 5 = .ok (.ifCond .eq 16, 3) := by decide +kernel
theorem d_M_arrives_8 : decode m_M_arrives.2.1 8 = .ok (.aload_n 0, 1) := by decide +kernel
theorem d_M_arrives_9 : decode m_M_arrives.2.1 9 = .ok (.iload_n 2, 1) := by decide +kernel
theorem d_M_arrives_10 : decode m_M_arrives.2.1 10 = .ok (.invokevirtual 92, 3) := by decide +kernel
theorem d_M_arrives_13 : decode m_M_arrives.2.1 13 = .ok (.ifCond .eq 8, 3) := by decide +kernel
theorem d_M_arrives_16 : decode m_M_arrives.2.1 16 = .ok (.iload_n 1, 1) := by decide +kernel
theorem d_M_arrives_17 : decode m_M_arrives.2.1 17 = .ok (.iload_n 2, 1) := by decide +kernel
theorem d_M_arrives_18 : decode m_M_arrives.2.1 18 = .ok (.if_icmp .ne 5, 3) := by decide +kernel
theorem d_M_arrives_21 : decode m_M_arrives.2.1 21 = .ok (.iconst (-1), 1) := by decide +kernel
theorem d_M_arrives_22 : decode m_M_arrives.2.1 22 = .ok (.ireturn, 1) := by decide +kernel
theorem d_M_arrives_23 : decode m_M_arrives.2.1 23 = .ok (.aload_n 0, 1) := by decide +kernel
theorem d_M_arrives_24 : decode m_M_arrives.2.1 24 = .ok (.invokevirtual 255, 3) := by decide +kernel
theorem d_M_arrives_27 : decode m_M_arrives.2.1 27 = .ok (.aload_n 0, 1) := by decide +kernel
theorem d_M_arrives_28 : decode m_M_arrives.2.1 28 = .ok (.iload_n 1, 1) := by decide +kernel
theorem d_M_arrives_29 : decode m_M_arrives.2.1 29 = .ok (.iload_n 2, 1) := by decide +kernel
theorem d_M_arrives_30 : decode m_M_arrives.2.1 30 = .ok (.invokevirtual 124, 3) := by decide +kernel
theorem d_M_arrives_33 : decode m_M_arrives.2.1 33 = .ok (.istore_n 3, 1) := by decide +kernel
theorem d_M_arrives_34 : decode m_M_arrives.2.1 34 = .ok (.iconst 0, 1) := by decide +kernel
theorem d_M_arrives_35 : decode m_M_arrives.2.1 35 = .ok (.istore 4, 2) := by decide +kernel
theorem d_M_arrives_37 : decode m_M_arrives.2.1 37 = .ok (.iload_n 3, 1) := by decide +kernel
theorem d_M_arrives_38 : decode m_M_arrives.2.1 38 = .ok (.iconst (-1), 1) := by decide +kernel
theorem d_M_arrives_39 : decode m_M_arrives.2.1 39 = .ok (.if_icmp .eq 32, 3) := by decide +kernel
theorem d_M_arrives_42 : decode m_M_arrives.2.1 42 = .ok (.iload 4, 2) := by decide +kernel
theorem d_M_arrives_44 : decode m_M_arrives.2.1 44 = .ok (.sipush 1000, 3) := by decide +kernel
theorem d_M_arrives_47 : decode m_M_arrives.2.1 47 = .ok (.if_icmp .ge 24, 3) := by decide +kernel
theorem d_M_arrives_50 : decode m_M_arrives.2.1 50 = .ok (.aload_n 0, 1) := by decide +kernel
theorem d_M_arrives_51 : decode m_M_arrives.2.1 51 = .ok (.iload_n 3, 1) := by decide +kernel
theorem d_M_arrives_52 : decode m_M_arrives.2.1 52 = .ok (.bipush 7, 2) := by decide +kernel
theorem d_M_arrives_54 : decode m_M_arrives.2.1 54 = .ok (.invokevirtual 142, 3) := by decide +kernel
theorem d_M_arrives_57 : decode m_M_arrives.2.1 57 = .ok (.iconst (-1), 1) := by decide +kernel
theorem d_M_arrives_58 : decode m_M_arrives.2.1 58 = .ok (.if_icmp .ne 13, 3) := by decide +kernel
theorem d_M_arrives_61 : decode m_M_arrives.2.1 61 = .ok (.aload_n 0, 1) := by decide +kernel
theorem d_M_arrives_62 : decode m_M_arrives.2.1 62 = .ok (.invokevirtual 212, 3) := by decide +kernel
theorem d_M_arrives_65 : decode m_M_arrives.2.1 65 = .ok (.iinc 4 1, 3) := by decide +kernel
theorem d_M_arrives_68 : decode m_M_arrives.2.1 68 = .ok (.goto (-31), 3) := by decide +kernel
theorem d_M_arrives_71 : decode m_M_arrives.2.1 71 = .ok (.iload_n 3, 1) := by decide +kernel
theorem d_M_arrives_72 : decode m_M_arrives.2.1 72 = .ok (.iconst (-1), 1) := by decide +kernel
theorem d_M_arrives_73 : decode m_M_arrives.2.1 73 = .ok (.if_icmp .eq 18, 3) := by decide +kernel
theorem d_M_arrives_76 : decode m_M_arrives.2.1 76 = .ok (.aload_n 0, 1) := by decide +kernel
theorem d_M_arrives_77 : decode m_M_arrives.2.1 77 = .ok (.iload_n 3, 1) := by decide +kernel
theorem d_M_arrives_78 : decode m_M_arrives.2.1 78 = .ok (.bipush 7, 2) := by decide +kernel
theorem d_M_arrives_80 : decode m_M_arrives.2.1 80 = .ok (.invokevirtual 142, 3) := by decide +kernel
theorem d_M_arrives_83 : decode m_M_arrives.2.1 83 = .ok (.iconst (-1), 1) := by decide +kernel
theorem d_M_arrives_84 : decode m_M_arrives.2.1 84 = .ok (.if_icmp .eq 7, 3) := by decide +kernel
theorem d_M_arrives_87 : decode m_M_arrives.2.1 87 = .ok (.iconst 1, 1) := by decide +kernel
theorem d_M_arrives_88 : decode m_M_arrives.2.1 88 = .ok (.goto 4, 3) := by decide +kernel
theorem d_M_arrives_91 : decode m_M_arrives.2.1 91 = .ok (.iconst 0, 1) := by decide +kernel
theorem d_M_arrives_92 : decode m_M_arrives.2.1 92 = .ok (.istore 5, 2) := by decide +kernel
theorem d_M_arrives_94 : decode m_M_arrives.2.1 94 = .ok (.aload_n 0, 1) := by decide +kernel
theorem d_M_arrives_95 : decode m_M_arrives.2.1 95 = .ok (.invokevirtual 258, 3) := by decide +kernel
theorem d_M_arrives_98 : decode m_M_arrives.2.1 98 = .ok (.iload 5, 2) := by decide +kernel
theorem d_M_arrives_100 : decode m_M_arrives.2.1 100 = .ok (.ifCond .eq 8, 3) := by decide +kernel
theorem d_M_arrives_103 : decode m_M_arrives.2.1 103 = .ok (.iload 4, 2) := by decide +kernel
theorem d_M_arrives_105 : decode m_M_arrives.2.1 105 = .ok (.goto 4, 3) := by decide +kernel
theorem d_M_arrives_108 : decode m_M_arrives.2.1 108 = .ok (.iconst (-1), 1) := by decide +kernel
theorem d_M_arrives_109 : decode m_M_arrives.2.1 109 = .ok (.ireturn, 1) := by decide +kernel
def f_M_arrives_92 (s0 x4 : Int) (w : qMem) : Option (Int × qMem) :=
  (f_M_comesBack w).bind fun q1 =>
  if s0 = 0 then
  some ((-1), q1)
  else
  some (x4, q1)
set_option maxRecDepth 4000 in
theorem s_M_arrives_92  : ∀ (s0 x4 : Int) (w : qMem), (s0 = 0 ∨ s0 = 1) → qSim κI 100 100 m_M_arrives 92 [qI s0] [some (qR 88), none, none, none, some (qI x4), none] w (f_M_arrives_92 s0 x4 w) := by
  intro s0 x4 w hs0
  unfold f_M_arrives_92
  refine z_istore (pls' := [some (qR 88), none, none, none, some (qI x4), some (qI s0)]) d_M_arrives_92 (by decide) rfl rfl ?_
  refine z_aload_n d_M_arrives_94 rfl ?_
  refine z_cVV (as := []) (st := []) (nl := 1) (ci := 10) d_M_arrives_95 lk_M_258 mk_M_comesBack rfl rfl rfl rfl rfl rfl (s_M_comesBack _) (fun q1 _ => ?_)
  refine z_iload d_M_arrives_98 rfl ?_
  refine z_if_eq (tgt := 108) d_M_arrives_100 rfl (fun c2 => ?_) (fun c2 => ?_)
  · refine z_icm1 d_M_arrives_108 ?_
    exact z_iret d_M_arrives_109 rfl rfl
  · refine z_iload d_M_arrives_103 rfl ?_
    refine z_goto (tgt := 109) d_M_arrives_105 rfl ?_
    exact z_iret d_M_arrives_109 rfl rfl
def f_M_arrives_71 (x3 x4 : Int) (w : qMem) : Option (Int × qMem) :=
  if x3 = (-1) then
  f_M_arrives_92 0 x4 w
  else
  (f_M_of x3 7 w).bind fun q4 =>
  if q4.1 = (-1) then
  f_M_arrives_92 0 x4 q4.2
  else
  f_M_arrives_92 1 x4 q4.2
set_option maxRecDepth 4000 in
theorem s_M_arrives_71  : ∀ (x3 x4 : Int) (w : qMem), qSim κI 100 100 m_M_arrives 71 [] [some (qR 88), none, none, some (qI x3), some (qI x4), none] w (f_M_arrives_71 x3 x4 w) := by
  intro x3 x4 w
  unfold f_M_arrives_71
  refine z_iload_n d_M_arrives_71 rfl ?_
  refine z_icm1 d_M_arrives_72 ?_
  refine z_icmp_eq (tgt := 91) d_M_arrives_73 rfl (fun c3 => ?_) (fun c3 => ?_)
  · refine z_ic0 d_M_arrives_91 ?_
    refine z_mask [true, false, false, false, true, false] ?_
    exact s_M_arrives_92 _ _ _ (Or.inl rfl)
  · refine z_aload_n d_M_arrives_76 rfl ?_
    refine z_iload_n d_M_arrives_77 rfl ?_
    refine z_bipush d_M_arrives_78 ⟨by decide, by decide⟩ ?_
    refine z_cVI (as := [qI x3, qI 7]) (st := []) (nl := 0) (ci := 10) d_M_arrives_80 lk_M_142 mk_M_of rfl rfl rfl rfl rfl rfl (s_M_of _ _ _) (fun q4 _ hq4 => ?_)
    refine z_icm1 d_M_arrives_83 ?_
    refine z_icmp_eq (tgt := 91) d_M_arrives_84 rfl (fun c5 => ?_) (fun c5 => ?_)
    · refine z_ic0 d_M_arrives_91 ?_
      refine z_mask [true, false, false, false, true, false] ?_
      exact s_M_arrives_92 _ _ _ (Or.inl rfl)
    · refine z_ic1 d_M_arrives_87 ?_
      refine z_goto (tgt := 92) d_M_arrives_88 rfl ?_
      refine z_mask [true, false, false, false, true, false] ?_
      exact s_M_arrives_92 _ _ _ (Or.inr rfl)
def f_M_arrives_37 : Nat → Int → Int → qMem → Option (Int × qMem)
  | 0, _, _, _ => none
  | n + 1, x3, x4, w =>
    if x3 = (-1) then
    f_M_arrives_71 x3 x4 w
    else
    if x4 < 1000 then
    (f_M_of x3 7 w).bind fun q8 =>
    if q8.1 = (-1) then
    (f_M_ticks q8.2).bind fun q10 =>
    (f_M_arrives_37 n) x3 (w32 (x4 + 1)) q10
    else
    f_M_arrives_71 x3 x4 q8.2
    else
    f_M_arrives_71 x3 x4 w
set_option maxRecDepth 4000 in
theorem s_M_arrives_37  : ∀ (n : Nat), ∀ (x3 x4 : Int) (w : qMem), qSim κI 100 100 m_M_arrives 37 [] [some (qR 88), none, none, some (qI x3), some (qI x4), none] w (f_M_arrives_37 n x3 x4 w) := by
  intro n
  induction n with
  | zero => intro x3 x4 w; exact z_none
  | succ n ih =>
    intro x3 x4 w
    rw [f_M_arrives_37]
    refine z_iload_n d_M_arrives_37 rfl ?_
    refine z_icm1 d_M_arrives_38 ?_
    refine z_icmp_eq (tgt := 71) d_M_arrives_39 rfl (fun c6 => ?_) (fun c6 => ?_)
    · refine z_mask [true, false, false, true, true, false] ?_
      exact s_M_arrives_71 _ _ _
    · refine z_iload d_M_arrives_42 rfl ?_
      refine z_sipush d_M_arrives_44 ⟨by decide, by decide⟩ ?_
      refine z_icmp_ge (tgt := 71) d_M_arrives_47 rfl (fun c7 => ?_) (fun c7 => ?_)
      · refine z_aload_n d_M_arrives_50 rfl ?_
        refine z_iload_n d_M_arrives_51 rfl ?_
        refine z_bipush d_M_arrives_52 ⟨by decide, by decide⟩ ?_
        refine z_cVI (as := [qI x3, qI 7]) (st := []) (nl := 0) (ci := 10) d_M_arrives_54 lk_M_142 mk_M_of rfl rfl rfl rfl rfl rfl (s_M_of _ _ _) (fun q8 _ hq8 => ?_)
        refine z_icm1 d_M_arrives_57 ?_
        refine z_icmp_ne (tgt := 71) d_M_arrives_58 rfl (fun c9 => ?_) (fun c9 => ?_)
        · refine z_aload_n d_M_arrives_61 rfl ?_
          refine z_cVV (as := []) (st := []) (nl := 3) (ci := 10) d_M_arrives_62 lk_M_212 mk_M_ticks rfl rfl rfl rfl rfl rfl (s_M_ticks _) (fun q10 _ => ?_)
          refine z_iinc (pls' := [some (qR 88), none, none, some (qI x3), some (qI (w32 (x4 + 1))), none]) d_M_arrives_65 (by decide) rfl rfl rfl ?_
          refine z_goto (tgt := 37) d_M_arrives_68 rfl ?_
          refine z_mask [true, false, false, true, true, false] ?_
          exact ih _ _ _
        · refine z_mask [true, false, false, true, true, false] ?_
          exact s_M_arrives_71 _ _ _
      · refine z_mask [true, false, false, true, true, false] ?_
        exact s_M_arrives_71 _ _ _
def f_M_arrives (x1 : Int) (x2 : Int) (w : qMem) : Option (Int × qMem) :=
  (f_M_isNode x1 w).bind fun q11 =>
  if q11.1 = 0 then
  some ((-1), q11.2)
  else
  (f_M_isNode x2 q11.2).bind fun q13 =>
  if q13.1 = 0 then
  some ((-1), q13.2)
  else
  if x1 = x2 then
  some ((-1), q13.2)
  else
  (f_M_laysAside q13.2).bind fun q16 =>
  (f_M_sends x1 x2 q16).bind fun q17 =>
  f_M_arrives_37 qFU q17.1 0 q17.2
set_option maxRecDepth 4000 in
theorem s_M_arrives (x1 : Int) (x2 : Int) (w : qMem) : qSim κI 100 100 m_M_arrives 0 [] [some (qR 88), some (qI x1), some (qI x2), none, none, none] w (f_M_arrives x1 x2 w) := by
  unfold f_M_arrives
  refine z_aload_n d_M_arrives_0 rfl ?_
  refine z_iload_n d_M_arrives_1 rfl ?_
  refine z_cVI (as := [qI x1]) (st := []) (nl := 0) (ci := 10) d_M_arrives_2 lk_M_92 mk_M_isNode rfl rfl rfl rfl rfl rfl (s_M_isNode _ _) (fun q11 _ hq11 => ?_)
  refine z_if_eq (tgt := 21) d_M_arrives_5 rfl (fun c12 => ?_) (fun c12 => ?_)
  · refine z_icm1 d_M_arrives_21 ?_
    exact z_iret d_M_arrives_22 rfl rfl
  · refine z_aload_n d_M_arrives_8 rfl ?_
    refine z_iload_n d_M_arrives_9 rfl ?_
    refine z_cVI (as := [qI x2]) (st := []) (nl := 0) (ci := 10) d_M_arrives_10 lk_M_92 mk_M_isNode rfl rfl rfl rfl rfl rfl (s_M_isNode _ _) (fun q13 _ hq13 => ?_)
    refine z_if_eq (tgt := 21) d_M_arrives_13 rfl (fun c14 => ?_) (fun c14 => ?_)
    · refine z_icm1 d_M_arrives_21 ?_
      exact z_iret d_M_arrives_22 rfl rfl
    · refine z_iload_n d_M_arrives_16 rfl ?_
      refine z_iload_n d_M_arrives_17 rfl ?_
      refine z_icmp_ne (tgt := 23) d_M_arrives_18 rfl (fun c15 => ?_) (fun c15 => ?_)
      · refine z_icm1 d_M_arrives_21 ?_
        exact z_iret d_M_arrives_22 rfl rfl
      · refine z_aload_n d_M_arrives_23 rfl ?_
        refine z_cVV (as := []) (st := []) (nl := 1) (ci := 10) d_M_arrives_24 lk_M_255 mk_M_laysAside rfl rfl rfl rfl rfl rfl (s_M_laysAside _) (fun q16 _ => ?_)
        refine z_aload_n d_M_arrives_27 rfl ?_
        refine z_iload_n d_M_arrives_28 rfl ?_
        refine z_iload_n d_M_arrives_29 rfl ?_
        refine z_cVI (as := [qI x1, qI x2]) (st := []) (nl := 3) (ci := 10) d_M_arrives_30 lk_M_124 mk_M_sends rfl rfl rfl rfl rfl rfl (s_M_sends _ _ _) (fun q17 _ hq17 => ?_)
        refine z_istore_n (pls' := [some (qR 88), some (qI x1), some (qI x2), some (qI q17.1), none, none]) d_M_arrives_33 (by decide) rfl rfl ?_
        refine z_ic0 d_M_arrives_34 ?_
        refine z_istore (pls' := [some (qR 88), some (qI x1), some (qI x2), some (qI q17.1), some (qI 0), none]) d_M_arrives_35 (by decide) rfl rfl ?_
        refine z_mask [true, false, false, true, true, false] ?_
        exact s_M_arrives_37 _ _ _ _
/-! BubbleTorusModel.enters -/
theorem d_M_enters_0 : decode m_M_enters.2.1 0 = .ok (.aload_n 0, 1) := by decide +kernel
theorem d_M_enters_1 : decode m_M_enters.2.1 1 = .ok (.iload_n 1, 1) := by decide +kernel
theorem d_M_enters_2 : decode m_M_enters.2.1 2 = .ok (.invokevirtual 92, 3) := by decide +kernel
theorem d_M_enters_5 : decode m_M_enters.2.1 5 = .ok (.ifCond .eq 10, 3) := by decide +kernel
theorem d_M_enters_8 : decode m_M_enters.2.1 8 = .ok (.iload_n 2, 1) := by decide +kernel
theorem d_M_enters_9 : decode m_M_enters.2.1 9 = .ok (.invokestatic 96, 3) := by decide +kernel
theorem d_M_enters_12 : decode m_M_enters.2.1 12 = .ok (.ifCond .ne 5, 3) := by decide +kernel
theorem d_M_enters_15 : decode m_M_enters.2.1 15 = .ok (.iconst (-1), 1) := by decide +kernel
theorem d_M_enters_16 : decode m_M_enters.2.1 16 = .ok (.ireturn, 1) := by decide +kernel
theorem d_M_enters_17 : decode m_M_enters.2.1 17 = .ok (.aload_n 0, 1) := by decide +kernel
theorem d_M_enters_18 : decode m_M_enters.2.1 18 = .ok (.iload_n 1, 1) := by decide +kernel
theorem d_M_enters_19 : decode m_M_enters.2.1 19 = .ok (.iload_n 2, 1) := by decide +kernel
theorem d_M_enters_20 : decode m_M_enters.2.1 20 = .ok (.invokevirtual 158, 3) := by decide +kernel
theorem d_M_enters_23 : decode m_M_enters.2.1 23 = .ok (.ifCond .ne 21, 3) := by decide +kernel
theorem d_M_enters_26 : decode m_M_enters.2.1 26 = .ok (.aload_n 0, 1) := by decide +kernel
theorem d_M_enters_27 : decode m_M_enters.2.1 27 = .ok (.aload_n 0, 1) := by decide +kernel
theorem d_M_enters_28 : decode m_M_enters.2.1 28 = .ok (.iload_n 1, 1) := by decide +kernel
theorem d_M_enters_29 : decode m_M_enters.2.1 29 = .ok (.iload_n 2, 1) := by decide +kernel
theorem d_M_enters_30 : decode m_M_enters.2.1 30 = .ok (.invokevirtual 79, 3) := by decide +kernel
theorem d_M_enters_33 : decode m_M_enters.2.1 33 = .ok (.iload_n 2, 1) := by decide +kernel
theorem d_M_enters_34 : decode m_M_enters.2.1 34 = .ok (.invokevirtual 162, 3) := by decide +kernel
theorem d_M_enters_37 : decode m_M_enters.2.1 37 = .ok (.ifCond .eq 7, 3) := by decide +kernel
theorem d_M_enters_40 : decode m_M_enters.2.1 40 = .ok (.iconst 1, 1) := by decide +kernel
theorem d_M_enters_41 : decode m_M_enters.2.1 41 = .ok (.goto 4, 3) := by decide +kernel
theorem d_M_enters_44 : decode m_M_enters.2.1 44 = .ok (.iconst 0, 1) := by decide +kernel
theorem d_M_enters_45 : decode m_M_enters.2.1 45 = .ok (.ireturn, 1) := by decide +kernel
def f_M_enters (x1 : Int) (x2 : Int) (w : qMem) : Option (Int × qMem) :=
  (f_M_isNode x1 w).bind fun q1 =>
  if q1.1 = 0 then
  some ((-1), q1.2)
  else
  (f_M_isDirection x2 q1.2).bind fun q3 =>
  if q3.1 = 0 then
  some ((-1), q3.2)
  else
  (f_M_isBarred x1 x2 q3.2).bind fun q5 =>
  if q5.1 = 0 then
  (f_M_nextOf x1 x2 q5.2).bind fun q7 =>
  (f_M_doesRuleLet q7.1 x2 q7.2).bind fun q8 =>
  if q8.1 = 0 then
  some (0, q8.2)
  else
  some (1, q8.2)
  else
  some (0, q5.2)
set_option maxRecDepth 4000 in
theorem s_M_enters (x1 : Int) (x2 : Int) (w : qMem) : qSim κI 100 100 m_M_enters 0 [] [some (qR 88), some (qI x1), some (qI x2)] w (f_M_enters x1 x2 w) := by
  unfold f_M_enters
  refine z_aload_n d_M_enters_0 rfl ?_
  refine z_iload_n d_M_enters_1 rfl ?_
  refine z_cVI (as := [qI x1]) (st := []) (nl := 0) (ci := 10) d_M_enters_2 lk_M_92 mk_M_isNode rfl rfl rfl rfl rfl rfl (s_M_isNode _ _) (fun q1 _ hq1 => ?_)
  refine z_if_eq (tgt := 15) d_M_enters_5 rfl (fun c2 => ?_) (fun c2 => ?_)
  · refine z_icm1 d_M_enters_15 ?_
    exact z_iret d_M_enters_16 rfl rfl
  · refine z_iload_n d_M_enters_8 rfl ?_
    refine z_cSI (av := [qI x2]) (st := []) (nl := 0) d_M_enters_9 lk_M_96 mk_M_isDirection rfl rfl rfl (s_M_isDirection _ _) (fun q3 _ hq3 => ?_)
    refine z_if_ne (tgt := 17) d_M_enters_12 rfl (fun c4 => ?_) (fun c4 => ?_)
    · refine z_icm1 d_M_enters_15 ?_
      exact z_iret d_M_enters_16 rfl rfl
    · refine z_aload_n d_M_enters_17 rfl ?_
      refine z_iload_n d_M_enters_18 rfl ?_
      refine z_iload_n d_M_enters_19 rfl ?_
      refine z_cVI (as := [qI x1, qI x2]) (st := []) (nl := 0) (ci := 10) d_M_enters_20 lk_M_158 mk_M_isBarred rfl rfl rfl rfl rfl rfl (s_M_isBarred _ _ _) (fun q5 _ hq5 => ?_)
      refine z_if_ne (tgt := 44) d_M_enters_23 rfl (fun c6 => ?_) (fun c6 => ?_)
      · refine z_aload_n d_M_enters_26 rfl ?_
        refine z_aload_n d_M_enters_27 rfl ?_
        refine z_iload_n d_M_enters_28 rfl ?_
        refine z_iload_n d_M_enters_29 rfl ?_
        refine z_cVI (as := [qI x1, qI x2]) (st := [qR 88]) (nl := 2) (ci := 10) d_M_enters_30 lk_M_79 mk_M_nextOf rfl rfl rfl rfl rfl rfl (s_M_nextOf _ _ _) (fun q7 _ hq7 => ?_)
        refine z_iload_n d_M_enters_33 rfl ?_
        refine z_cVI (as := [qI q7.1, qI x2]) (st := []) (nl := 1) (ci := 10) d_M_enters_34 lk_M_162 mk_M_doesRuleLet rfl rfl rfl rfl rfl rfl (s_M_doesRuleLet _ _ _) (fun q8 _ hq8 => ?_)
        refine z_if_eq (tgt := 44) d_M_enters_37 rfl (fun c9 => ?_) (fun c9 => ?_)
        · refine z_ic0 d_M_enters_44 ?_
          exact z_iret d_M_enters_45 rfl rfl
        · refine z_ic1 d_M_enters_40 ?_
          refine z_goto (tgt := 45) d_M_enters_41 rfl ?_
          exact z_iret d_M_enters_45 rfl rfl
      · refine z_ic0 d_M_enters_44 ?_
        exact z_iret d_M_enters_45 rfl rfl
/-! BubbleTorusModel.laysLive -/
theorem d_M_laysLive_0 : decode m_M_laysLive.2.1 0 = .ok (.aload_n 0, 1) := by decide +kernel
theorem d_M_laysLive_1 : decode m_M_laysLive.2.1 1 = .ok (.iconst 0, 1) := by decide +kernel
theorem d_M_laysLive_2 : decode m_M_laysLive.2.1 2 = .ok (.putfield 261, 3) := by decide +kernel
theorem d_M_laysLive_5 : decode m_M_laysLive.2.1 5 = .ok (.iconst 0, 1) := by decide +kernel
theorem d_M_laysLive_6 : decode m_M_laysLive.2.1 6 = .ok (.istore_n 1, 1) := by decide +kernel
theorem d_M_laysLive_7 : decode m_M_laysLive.2.1 7 = .ok (.iload_n 1, 1) := by decide +kernel
theorem d_M_laysLive_8 : decode m_M_laysLive.2.1 8 = .ok (.aload_n 0, 1) := by decide +kernel
theorem d_M_laysLive_9 : decode m_M_laysLive.2.1 9 = .ok (.getfield 7, 3) := by decide +kernel
theorem d_M_laysLive_12 : decode m_M_laysLive.2.1 12 = .ok (.bipush 7, 2) := by decide +kernel
theorem d_M_laysLive_14 : decode m_M_laysLive.2.1 14 = .ok (.iaload, 1) := by decide +kernel
theorem d_M_laysLive_15 : decode m_M_laysLive.2.1 15 = .ok (.if_icmp .ge 53, 3) := by decide +kernel
theorem d_M_laysLive_18 : decode m_M_laysLive.2.1 18 = .ok (.aload_n 0, 1) := by decide +kernel
theorem d_M_laysLive_19 : decode m_M_laysLive.2.1 19 = .ok (.iload_n 1, 1) := by decide +kernel
theorem d_M_laysLive_20 : decode m_M_laysLive.2.1 20 = .ok (.bipush 7, 2) := by decide +kernel
theorem d_M_laysLive_22 : decode m_M_laysLive.2.1 22 = .ok (.invokevirtual 142, 3) := by decide +kernel
theorem d_M_laysLive_25 : decode m_M_laysLive.2.1 25 = .ok (.iconst (-1), 1) := by decide +kernel
theorem d_M_laysLive_26 : decode m_M_laysLive.2.1 26 = .ok (.if_icmp .eq 6, 3) := by decide +kernel
theorem d_M_laysLive_29 : decode m_M_laysLive.2.1 29 = .ok (.goto 33, 3) := by decide +kernel
theorem d_M_laysLive_32 : decode m_M_laysLive.2.1 32 = .ok (.aload_n 0, 1) := by decide +kernel
theorem d_M_laysLive_33 : decode m_M_laysLive.2.1 33 = .ok (.getfield 261, 3) := by decide +kernel
theorem d_M_laysLive_36 : decode m_M_laysLive.2.1 36 = .ok (.iconst 3, 1) := by decide +kernel
theorem d_M_laysLive_37 : decode m_M_laysLive.2.1 37 = .ok (.if_icmp .ne 5, 3) := by decide +kernel
theorem d_M_laysLive_40 : decode m_M_laysLive.2.1 40 = .ok (.iconst 0, 1) := by decide +kernel
theorem d_M_laysLive_41 : decode m_M_laysLive.2.1 41 = .ok (.ireturn, 1) := by decide +kernel
theorem d_M_laysLive_42 : decode m_M_laysLive.2.1 42 = .ok (.aload_n 0, 1) := by decide +kernel
theorem d_M_laysLive_43 : decode m_M_laysLive.2.1 43 = .ok (.getfield 26, 3) := by decide +kernel
theorem d_M_laysLive_46 : decode m_M_laysLive.2.1 46 = .ok (.aload_n 0, 1) := by decide +kernel
theorem d_M_laysLive_47 : decode m_M_laysLive.2.1 47 = .ok (.getfield 261, 3) := by decide +kernel
theorem d_M_laysLive_50 : decode m_M_laysLive.2.1 50 = .ok (.iload_n 1, 1) := by decide +kernel
theorem d_M_laysLive_51 : decode m_M_laysLive.2.1 51 = .ok (.iastore, 1) := by decide +kernel
theorem d_M_laysLive_52 : decode m_M_laysLive.2.1 52 = .ok (.aload_n 0, 1) := by decide +kernel
theorem d_M_laysLive_53 : decode m_M_laysLive.2.1 53 = .ok (.dup, 1) := by decide +kernel
theorem d_M_laysLive_54 : decode m_M_laysLive.2.1 54 = .ok (.getfield 261, 3) := by decide +kernel
theorem d_M_laysLive_57 : decode m_M_laysLive.2.1 57 = .ok (.iconst 1, 1) := by decide +kernel
theorem d_M_laysLive_58 : decode m_M_laysLive.2.1 58 = .ok (.iadd, 1) := by decide +kernel
theorem d_M_laysLive_59 : decode m_M_laysLive.2.1 59 = .ok (.putfield 261, 3) := by decide +kernel
theorem d_M_laysLive_62 : decode m_M_laysLive.2.1 62 = .ok (.iinc 1 1, 3) := by decide +kernel
theorem d_M_laysLive_65 : decode m_M_laysLive.2.1 65 = .ok (.goto (-58), 3) := by decide +kernel
theorem d_M_laysLive_68 : decode m_M_laysLive.2.1 68 = .ok (.iconst 1, 1) := by decide +kernel
theorem d_M_laysLive_69 : decode m_M_laysLive.2.1 69 = .ok (.ireturn, 1) := by decide +kernel
def f_M_laysLive_7 : Nat → Int → qMem → Option (Int × qMem)
  | 0, _, _ => none
  | n + 1, x1, w =>
    qld w 89 5898 7 fun v1 =>
    if x1 < v1 then
    (f_M_of x1 7 w).bind fun q3 =>
    if q3.1 = (-1) then
    if (q3.2 88 7) = 3 then
    some (0, q3.2)
    else
    qst q3.2 94 3 (q3.2 88 7) x1 fun w6 =>
    qlt (qud w6 88 7 (w32 ((w6 88 7) + 1))) fun w7 =>
    (f_M_laysLive_7 n) (w32 (x1 + 1)) w7
    else
    (f_M_laysLive_7 n) (w32 (x1 + 1)) q3.2
    else
    some (1, w)
set_option maxRecDepth 4000 in
theorem s_M_laysLive_7  : ∀ (n : Nat), ∀ (x1 : Int) (w : qMem), qSim κI 100 100 m_M_laysLive 7 [] [some (qR 88), some (qI x1)] w (f_M_laysLive_7 n x1 w) := by
  intro n
  induction n with
  | zero => intro x1 w; exact z_none
  | succ n ih =>
    intro x1 w
    rw [f_M_laysLive_7]
    refine z_iload_n d_M_laysLive_7 rfl ?_
    refine z_aload_n d_M_laysLive_8 rfl ?_
    refine z_gr (ci := 10) (j := 0) (d := 1) (o2 := 89) d_M_laysLive_9 rfl fl_M_7 rfl (Nat.le_of_ble_eq_true rfl) rfl rfl ?_
    refine z_bipush d_M_laysLive_12 ⟨by decide, by decide⟩ ?_
    refine z_il d_M_laysLive_14 rfl rfl (fun v1 => ?_)
    refine z_icmp_ge (tgt := 68) d_M_laysLive_15 rfl (fun c2 => ?_) (fun c2 => ?_)
    · refine z_aload_n d_M_laysLive_18 rfl ?_
      refine z_iload_n d_M_laysLive_19 rfl ?_
      refine z_bipush d_M_laysLive_20 ⟨by decide, by decide⟩ ?_
      refine z_cVI (as := [qI x1, qI 7]) (st := []) (nl := 0) (ci := 10) d_M_laysLive_22 lk_M_142 mk_M_of rfl rfl rfl rfl rfl rfl (s_M_of _ _ _) (fun q3 _ hq3 => ?_)
      refine z_icm1 d_M_laysLive_25 ?_
      refine z_icmp_eq (tgt := 32) d_M_laysLive_26 rfl (fun c4 => ?_) (fun c4 => ?_)
      · refine z_aload_n d_M_laysLive_32 rfl ?_
        refine z_gi (ci := 10) (j := 7) (ji := 7) d_M_laysLive_33 rfl fl_M_261 rfl rfl rfl ?_
        refine z_ic3 d_M_laysLive_36 ?_
        refine z_icmp_ne (tgt := 42) d_M_laysLive_37 rfl (fun c5 => ?_) (fun c5 => ?_)
        · refine z_ic0 d_M_laysLive_40 ?_
          exact z_zret d_M_laysLive_41 rfl rfl (Or.inl rfl)
        · refine z_aload_n d_M_laysLive_42 rfl ?_
          refine z_gr (ci := 10) (j := 6) (d := 6) (o2 := 94) d_M_laysLive_43 rfl fl_M_26 rfl (Nat.le_of_ble_eq_true rfl) rfl rfl ?_
          refine z_aload_n d_M_laysLive_46 rfl ?_
          refine z_gi (ci := 10) (j := 7) (ji := 7) d_M_laysLive_47 rfl fl_M_261 rfl rfl rfl ?_
          refine z_iload_n d_M_laysLive_50 rfl ?_
          refine z_is d_M_laysLive_51 rfl rfl (fun w6 => ?_)
          refine z_aload_n d_M_laysLive_52 rfl ?_
          refine z_dup d_M_laysLive_53 rfl ?_
          refine z_gi (ci := 10) (j := 7) (ji := 7) d_M_laysLive_54 rfl fl_M_261 rfl rfl rfl ?_
          refine z_ic1 d_M_laysLive_57 ?_
          refine z_iadd d_M_laysLive_58 ?_
          refine z_pi (ci := 10) (j := 7) (ji := 7) d_M_laysLive_59 rfl fl_M_261 rfl rfl rfl rfl rfl (fun w7 => ?_)
          refine z_iinc (pls' := [some (qR 88), some (qI (w32 (x1 + 1)))]) d_M_laysLive_62 (by decide) rfl rfl rfl ?_
          refine z_goto (tgt := 7) d_M_laysLive_65 rfl ?_
          refine z_mask [true, true] ?_
          exact ih _ _
      · refine z_goto (tgt := 62) d_M_laysLive_29 rfl ?_
        refine z_iinc (pls' := [some (qR 88), some (qI (w32 (x1 + 1)))]) d_M_laysLive_62 (by decide) rfl rfl rfl ?_
        refine z_goto (tgt := 7) d_M_laysLive_65 rfl ?_
        refine z_mask [true, true] ?_
        exact ih _ _
    · refine z_ic1 d_M_laysLive_68 ?_
      exact z_zret d_M_laysLive_69 rfl rfl (Or.inr rfl)
def f_M_laysLive (w : qMem) : Option (Int × qMem) :=
  qlt (qud w 88 7 0) fun w8 =>
  f_M_laysLive_7 qFU 0 w8
set_option maxRecDepth 4000 in
theorem s_M_laysLive (w : qMem) : qSim κI 100 100 m_M_laysLive 0 [] [some (qR 88), none] w (f_M_laysLive w) := by
  unfold f_M_laysLive
  refine z_aload_n d_M_laysLive_0 rfl ?_
  refine z_ic0 d_M_laysLive_1 ?_
  refine z_pi (ci := 10) (j := 7) (ji := 7) d_M_laysLive_2 rfl fl_M_261 rfl rfl rfl rfl rfl (fun w8 => ?_)
  refine z_ic0 d_M_laysLive_5 ?_
  refine z_istore_n (pls' := [some (qR 88), some (qI 0)]) d_M_laysLive_6 (by decide) rfl rfl ?_
  refine z_mask [true, true] ?_
  exact s_M_laysLive_7 _ _ _
/-! BubbleTorusModel.placeIn -/
theorem d_M_placeIn_0 : decode m_M_placeIn.2.1 0 = .ok (.iconst 0, 1) := by decide +kernel
theorem d_M_placeIn_1 : decode m_M_placeIn.2.1 1 = .ok (.istore_n 2, 1) := by decide +kernel
theorem d_M_placeIn_2 : decode m_M_placeIn.2.1 2 = .ok (.iload_n 2, 1) := by decide +kernel
theorem d_M_placeIn_3 : decode m_M_placeIn.2.1 3 = .ok (.aload_n 0, 1) := by decide +kernel
theorem d_M_placeIn_4 : decode m_M_placeIn.2.1 4 = .ok (.invokevirtual 72, 3) := by decide +kernel
theorem d_M_placeIn_7 : decode m_M_placeIn.2.1 7 = .ok (.if_icmp .ge 73, 3) := by decide +kernel
theorem d_M_placeIn_10 : decode m_M_placeIn.2.1 10 = .ok (.iconst 0, 1) := by decide +kernel
theorem d_M_placeIn_11 : decode m_M_placeIn.2.1 11 = .ok (.istore_n 3, 1) := by decide +kernel
theorem d_M_placeIn_12 : decode m_M_placeIn.2.1 12 = .ok (.iload_n 3, 1) := by decide +kernel
theorem d_M_placeIn_13 : decode m_M_placeIn.2.1 13 = .ok (.bipush 9, 2) := by decide +kernel
theorem d_M_placeIn_15 : decode m_M_placeIn.2.1 15 = .ok (.if_icmp .ge 59, 3) := by decide +kernel
theorem d_M_placeIn_18 : decode m_M_placeIn.2.1 18 = .ok (.iconst 0, 1) := by decide +kernel
theorem d_M_placeIn_19 : decode m_M_placeIn.2.1 19 = .ok (.istore 4, 2) := by decide +kernel
theorem d_M_placeIn_21 : decode m_M_placeIn.2.1 21 = .ok (.iload 4, 2) := by decide +kernel
theorem d_M_placeIn_23 : decode m_M_placeIn.2.1 23 = .ok (.aload_n 0, 1) := by decide +kernel
theorem d_M_placeIn_24 : decode m_M_placeIn.2.1 24 = .ok (.iload_n 2, 1) := by decide +kernel
theorem d_M_placeIn_25 : decode m_M_placeIn.2.1 25 = .ok (.iload_n 3, 1) := by decide +kernel
theorem d_M_placeIn_26 : decode m_M_placeIn.2.1 26 = .ok (.invokevirtual 108, 3) := by decide +kernel
theorem d_M_placeIn_29 : decode m_M_placeIn.2.1 29 = .ok (.if_icmp .ge 39, 3) := by decide +kernel
theorem d_M_placeIn_32 : decode m_M_placeIn.2.1 32 = .ok (.aload_n 0, 1) := by decide +kernel
theorem d_M_placeIn_33 : decode m_M_placeIn.2.1 33 = .ok (.getfield 7, 3) := by decide +kernel
theorem d_M_placeIn_36 : decode m_M_placeIn.2.1 36 = .ok (.iload_n 2, 1) := by decide +kernel
theorem d_M_placeIn_37 : decode m_M_placeIn.2.1 37 = .ok (.iload_n 3, 1) := by decide +kernel
theorem d_M_placeIn_38 : decode m_M_placeIn.2.1 38 = .ok (.invokestatic 105, 3) := by decide +kernel
theorem d_M_placeIn_41 : decode m_M_placeIn.2.1 41 = .ok (.iconst 1, 1) := by decide +kernel
theorem d_M_placeIn_42 : decode m_M_placeIn.2.1 42 = .ok (.iadd, 1) := by decide +kernel
theorem d_M_placeIn_43 : decode m_M_placeIn.2.1 43 = .ok (.iload 4, 2) := by decide +kernel
theorem d_M_placeIn_45 : decode m_M_placeIn.2.1 45 = .ok (.iadd, 1) := by decide +kernel
theorem d_M_placeIn_46 : decode m_M_placeIn.2.1 46 = .ok (.iaload, 1) := by decide +kernel
theorem d_M_placeIn_47 : decode m_M_placeIn.2.1 47 = .ok (.iload_n 1, 1) := by decide +kernel
theorem d_M_placeIn_48 : decode m_M_placeIn.2.1 48 = .ok (.if_icmp .ne 14, 3) := by decide +kernel
theorem d_M_placeIn_51 : decode m_M_placeIn.2.1 51 = .ok (.iconst 3, 1) := by decide +kernel
theorem d_M_placeIn_52 : decode m_M_placeIn.2.1 52 = .ok (.iload_n 2, 1) := by decide +kernel
theorem d_M_placeIn_53 : decode m_M_placeIn.2.1 53 = .ok (.iload_n 3, 1) := by decide +kernel
theorem d_M_placeIn_54 : decode m_M_placeIn.2.1 54 = .ok (.invokestatic 237, 3) := by decide +kernel
theorem d_M_placeIn_57 : decode m_M_placeIn.2.1 57 = .ok (.imul, 1) := by decide +kernel
theorem d_M_placeIn_58 : decode m_M_placeIn.2.1 58 = .ok (.iload 4, 2) := by decide +kernel
theorem d_M_placeIn_60 : decode m_M_placeIn.2.1 60 = .ok (.iadd, 1) := by decide +kernel
theorem d_M_placeIn_61 : decode m_M_placeIn.2.1 61 = .ok (.ireturn, 1) := by decide +kernel
theorem d_M_placeIn_62 : decode m_M_placeIn.2.1 62 = .ok (.iinc 4 1, 3) := by decide +kernel
theorem d_M_placeIn_65 : decode m_M_placeIn.2.1 65 = .ok (.goto (-44), 3) := by decide +kernel
theorem d_M_placeIn_68 : decode m_M_placeIn.2.1 68 = .ok (.iinc 3 1, 3) := by decide +kernel
theorem d_M_placeIn_71 : decode m_M_placeIn.2.1 71 = .ok (.goto (-59), 3) := by decide +kernel
theorem d_M_placeIn_74 : decode m_M_placeIn.2.1 74 = .ok (.iinc 2 1, 3) := by decide +kernel
theorem d_M_placeIn_77 : decode m_M_placeIn.2.1 77 = .ok (.goto (-75), 3) := by decide +kernel
theorem d_M_placeIn_80 : decode m_M_placeIn.2.1 80 = .ok (.sipush 432, 3) := by decide +kernel
theorem d_M_placeIn_83 : decode m_M_placeIn.2.1 83 = .ok (.ireturn, 1) := by decide +kernel
def f_M_placeIn_51 (x2 x3 x4 : Int) (w : qMem) : Option (Int × qMem) :=
  (f_M_slot x2 x3 w).bind fun q1 =>
  some ((w32 ((w32 (3 * q1.1)) + x4)), q1.2)
set_option maxRecDepth 4000 in
theorem s_M_placeIn_51  : ∀ (x2 x3 x4 : Int) (w : qMem), qSim κI 100 100 m_M_placeIn 51 [] [none, none, some (qI x2), some (qI x3), some (qI x4)] w (f_M_placeIn_51 x2 x3 x4 w) := by
  intro x2 x3 x4 w
  unfold f_M_placeIn_51
  refine z_ic3 d_M_placeIn_51 ?_
  refine z_iload_n d_M_placeIn_52 rfl ?_
  refine z_iload_n d_M_placeIn_53 rfl ?_
  refine z_cSI (av := [qI x2, qI x3]) (st := [qI 3]) (nl := 0) d_M_placeIn_54 lk_M_237 mk_M_slot rfl rfl rfl (s_M_slot _ _ _) (fun q1 _ hq1 => ?_)
  refine z_imul d_M_placeIn_57 ?_
  refine z_iload d_M_placeIn_58 rfl ?_
  refine z_iadd d_M_placeIn_60 ?_
  exact z_iret d_M_placeIn_61 rfl rfl
def f_M_placeIn_21 (r2 : Int → Int → qMem → Option (Int × qMem)) (r12 : Int → Int → Int → qMem → Option (Int × qMem)) : Nat → Int → Int → Int → Int → qMem → Option (Int × qMem)
  | 0, _, _, _, _, _ => none
  | n + 1, x1, x2, x3, x4, w =>
    (f_M_many x2 x3 w).bind fun q2 =>
    if x4 < q2.1 then
    (f_M_queueAt x2 x3 q2.2).bind fun q4 =>
    qld q4.2 89 5898 (w32 ((w32 (q4.1 + 1)) + x4)) fun v5 =>
    if v5 = x1 then
    f_M_placeIn_51 x2 x3 x4 q4.2
    else
    (f_M_placeIn_21 r2 r12 n) x1 x2 x3 (w32 (x4 + 1)) q4.2
    else
    r12 x1 x2 (w32 (x3 + 1)) q2.2
set_option maxRecDepth 4000 in
theorem s_M_placeIn_21  {r2 : Int → Int → qMem → Option (Int × qMem)} {r12 : Int → Int → Int → qMem → Option (Int × qMem)} (hr2 : ∀ x1 x2 w, qSim κI 100 100 m_M_placeIn 2 [] [some (qR 88), some (qI x1), some (qI x2), none, none] w (r2 x1 x2 w)) (hr12 : ∀ x1 x2 x3 w, qSim κI 100 100 m_M_placeIn 12 [] [some (qR 88), some (qI x1), some (qI x2), some (qI x3), none] w (r12 x1 x2 x3 w)) : ∀ (n : Nat), ∀ (x1 x2 x3 x4 : Int) (w : qMem), qSim κI 100 100 m_M_placeIn 21 [] [some (qR 88), some (qI x1), some (qI x2), some (qI x3), some (qI x4)] w (f_M_placeIn_21 r2 r12 n x1 x2 x3 x4 w) := by
  intro n
  induction n with
  | zero => intro x1 x2 x3 x4 w; exact z_none
  | succ n ih =>
    intro x1 x2 x3 x4 w
    rw [f_M_placeIn_21]
    refine z_iload d_M_placeIn_21 rfl ?_
    refine z_aload_n d_M_placeIn_23 rfl ?_
    refine z_iload_n d_M_placeIn_24 rfl ?_
    refine z_iload_n d_M_placeIn_25 rfl ?_
    refine z_cVI (as := [qI x2, qI x3]) (st := [qI x4]) (nl := 0) (ci := 10) d_M_placeIn_26 lk_M_108 mk_M_many rfl rfl rfl rfl rfl rfl (s_M_many _ _ _) (fun q2 _ hq2 => ?_)
    refine z_icmp_ge (tgt := 68) d_M_placeIn_29 rfl (fun c3 => ?_) (fun c3 => ?_)
    · refine z_aload_n d_M_placeIn_32 rfl ?_
      refine z_gr (ci := 10) (j := 0) (d := 1) (o2 := 89) d_M_placeIn_33 rfl fl_M_7 rfl (Nat.le_of_ble_eq_true rfl) rfl rfl ?_
      refine z_iload_n d_M_placeIn_36 rfl ?_
      refine z_iload_n d_M_placeIn_37 rfl ?_
      refine z_cSI (av := [qI x2, qI x3]) (st := [qR 89]) (nl := 0) d_M_placeIn_38 lk_M_105 mk_M_queueAt rfl rfl rfl (s_M_queueAt _ _ _) (fun q4 _ hq4 => ?_)
      refine z_ic1 d_M_placeIn_41 ?_
      refine z_iadd d_M_placeIn_42 ?_
      refine z_iload d_M_placeIn_43 rfl ?_
      refine z_iadd d_M_placeIn_45 ?_
      refine z_il d_M_placeIn_46 rfl rfl (fun v5 => ?_)
      refine z_iload_n d_M_placeIn_47 rfl ?_
      refine z_icmp_ne (tgt := 62) d_M_placeIn_48 rfl (fun c6 => ?_) (fun c6 => ?_)
      · refine z_mask [false, false, true, true, true] ?_
        exact s_M_placeIn_51 _ _ _ _
      · refine z_iinc (pls' := [some (qR 88), some (qI x1), some (qI x2), some (qI x3), some (qI (w32 (x4 + 1)))]) d_M_placeIn_62 (by decide) rfl rfl rfl ?_
        refine z_goto (tgt := 21) d_M_placeIn_65 rfl ?_
        refine z_mask [true, true, true, true, true] ?_
        exact ih _ _ _ _ _
    · refine z_iinc (pls' := [some (qR 88), some (qI x1), some (qI x2), some (qI (w32 (x3 + 1))), some (qI x4)]) d_M_placeIn_68 (by decide) rfl rfl rfl ?_
      refine z_goto (tgt := 12) d_M_placeIn_71 rfl ?_
      refine z_mask [true, true, true, true, false] ?_
      exact hr12 _ _ _ _
def f_M_placeIn_12 (r2 : Int → Int → qMem → Option (Int × qMem)) : Nat → Int → Int → Int → qMem → Option (Int × qMem)
  | 0, _, _, _, _ => none
  | n + 1, x1, x2, x3, w =>
    if x3 < 9 then
    f_M_placeIn_21 r2 (f_M_placeIn_12 r2 n) qFU x1 x2 x3 0 w
    else
    r2 x1 (w32 (x2 + 1)) w
set_option maxRecDepth 4000 in
theorem s_M_placeIn_12  {r2 : Int → Int → qMem → Option (Int × qMem)} (hr2 : ∀ x1 x2 w, qSim κI 100 100 m_M_placeIn 2 [] [some (qR 88), some (qI x1), some (qI x2), none, none] w (r2 x1 x2 w)) : ∀ (n : Nat), ∀ (x1 x2 x3 : Int) (w : qMem), qSim κI 100 100 m_M_placeIn 12 [] [some (qR 88), some (qI x1), some (qI x2), some (qI x3), none] w (f_M_placeIn_12 r2 n x1 x2 x3 w) := by
  intro n
  induction n with
  | zero => intro x1 x2 x3 w; exact z_none
  | succ n ih =>
    intro x1 x2 x3 w
    rw [f_M_placeIn_12]
    refine z_iload_n d_M_placeIn_12 rfl ?_
    refine z_bipush d_M_placeIn_13 ⟨by decide, by decide⟩ ?_
    refine z_icmp_ge (tgt := 74) d_M_placeIn_15 rfl (fun c7 => ?_) (fun c7 => ?_)
    · refine z_ic0 d_M_placeIn_18 ?_
      refine z_istore (pls' := [some (qR 88), some (qI x1), some (qI x2), some (qI x3), some (qI 0)]) d_M_placeIn_19 (by decide) rfl rfl ?_
      refine z_mask [true, true, true, true, true] ?_
      exact s_M_placeIn_21 hr2 ih _ _ _ _ _ _
    · refine z_iinc (pls' := [some (qR 88), some (qI x1), some (qI (w32 (x2 + 1))), some (qI x3), none]) d_M_placeIn_74 (by decide) rfl rfl rfl ?_
      refine z_goto (tgt := 2) d_M_placeIn_77 rfl ?_
      refine z_mask [true, true, true, false, false] ?_
      exact hr2 _ _ _
def f_M_placeIn_2 : Nat → Int → Int → qMem → Option (Int × qMem)
  | 0, _, _, _ => none
  | n + 1, x1, x2, w =>
    (f_M_nodes w).bind fun q8 =>
    if x2 < q8.1 then
    f_M_placeIn_12 (f_M_placeIn_2 n) qFU x1 x2 0 q8.2
    else
    some (432, q8.2)
set_option maxRecDepth 4000 in
theorem s_M_placeIn_2  : ∀ (n : Nat), ∀ (x1 x2 : Int) (w : qMem), qSim κI 100 100 m_M_placeIn 2 [] [some (qR 88), some (qI x1), some (qI x2), none, none] w (f_M_placeIn_2 n x1 x2 w) := by
  intro n
  induction n with
  | zero => intro x1 x2 w; exact z_none
  | succ n ih =>
    intro x1 x2 w
    rw [f_M_placeIn_2]
    refine z_iload_n d_M_placeIn_2 rfl ?_
    refine z_aload_n d_M_placeIn_3 rfl ?_
    refine z_cVI (as := []) (st := [qI x2]) (nl := 0) (ci := 10) d_M_placeIn_4 lk_M_72 mk_M_nodes rfl rfl rfl rfl rfl rfl (s_M_nodes _) (fun q8 _ hq8 => ?_)
    refine z_icmp_ge (tgt := 80) d_M_placeIn_7 rfl (fun c9 => ?_) (fun c9 => ?_)
    · refine z_ic0 d_M_placeIn_10 ?_
      refine z_istore_n (pls' := [some (qR 88), some (qI x1), some (qI x2), some (qI 0), none]) d_M_placeIn_11 (by decide) rfl rfl ?_
      refine z_mask [true, true, true, true, false] ?_
      exact s_M_placeIn_12 ih _ _ _ _ _
    · refine z_sipush d_M_placeIn_80 ⟨by decide, by decide⟩ ?_
      exact z_iret d_M_placeIn_83 rfl rfl
def f_M_placeIn (x1 : Int) (w : qMem) : Option (Int × qMem) :=
  f_M_placeIn_2 qFU x1 0 w
set_option maxRecDepth 4000 in
theorem s_M_placeIn (x1 : Int) (w : qMem) : qSim κI 100 100 m_M_placeIn 0 [] [some (qR 88), some (qI x1), none, none, none] w (f_M_placeIn x1 w) := by
  unfold f_M_placeIn
  refine z_ic0 d_M_placeIn_0 ?_
  refine z_istore_n (pls' := [some (qR 88), some (qI x1), some (qI 0), none, none]) d_M_placeIn_1 (by decide) rfl rfl ?_
  refine z_mask [true, true, true, false, false] ?_
  exact s_M_placeIn_2 _ _ _ _
/-! BubbleTorusModel.meetsState -/
theorem d_M_meetsState_0 : decode m_M_meetsState.2.1 0 = .ok (.bipush 19, 2) := by decide +kernel
theorem d_M_meetsState_2 : decode m_M_meetsState.2.1 2 = .ok (.aload_n 0, 1) := by decide +kernel
theorem d_M_meetsState_3 : decode m_M_meetsState.2.1 3 = .ok (.getfield 264, 3) := by decide +kernel
theorem d_M_meetsState_6 : decode m_M_meetsState.2.1 6 = .ok (.imul, 1) := by decide +kernel
theorem d_M_meetsState_7 : decode m_M_meetsState.2.1 7 = .ok (.istore_n 1, 1) := by decide +kernel
theorem d_M_meetsState_8 : decode m_M_meetsState.2.1 8 = .ok (.iconst 0, 1) := by decide +kernel
theorem d_M_meetsState_9 : decode m_M_meetsState.2.1 9 = .ok (.istore_n 2, 1) := by decide +kernel
theorem d_M_meetsState_10 : decode m_M_meetsState.2.1 10 = .ok (.iload_n 2, 1) := by decide +kernel
theorem d_M_meetsState_11 : decode m_M_meetsState.2.1 11 = .ok (.iconst 3, 1) := by decide +kernel
theorem d_M_meetsState_12 : decode m_M_meetsState.2.1 12 = .ok (.if_icmp .ge 41, 3) := by decide +kernel
theorem d_M_meetsState_15 : decode m_M_meetsState.2.1 15 = .ok (.aload_n 0, 1) := by decide +kernel
theorem d_M_meetsState_16 : decode m_M_meetsState.2.1 16 = .ok (.getfield 20, 3) := by decide +kernel
theorem d_M_meetsState_19 : decode m_M_meetsState.2.1 19 = .ok (.iload_n 1, 1) := by decide +kernel
theorem d_M_meetsState_20 : decode m_M_meetsState.2.1 20 = .ok (.iload_n 2, 1) := by decide +kernel
theorem d_M_meetsState_21 : decode m_M_meetsState.2.1 21 = .ok (.iadd, 1) := by decide +kernel
theorem d_M_meetsState_22 : decode m_M_meetsState.2.1 22 = .ok (.iload_n 2, 1) := by decide +kernel
theorem d_M_meetsState_23 : decode m_M_meetsState.2.1 23 = .ok (.aload_n 0, 1) := by decide +kernel
theorem d_M_meetsState_24 : decode m_M_meetsState.2.1 24 = .ok (.getfield 261, 3) := by decide +kernel
theorem d_M_meetsState_27 : decode m_M_meetsState.2.1 27 = .ok (.if_icmp .ge 16, 3) := by decide +kernel
theorem d_M_meetsState_30 : decode m_M_meetsState.2.1 30 = .ok (.aload_n 0, 1) := by decide +kernel
theorem d_M_meetsState_31 : decode m_M_meetsState.2.1 31 = .ok (.aload_n 0, 1) := by decide +kernel
theorem d_M_meetsState_32 : decode m_M_meetsState.2.1 32 = .ok (.getfield 26, 3) := by decide +kernel
theorem d_M_meetsState_35 : decode m_M_meetsState.2.1 35 = .ok (.iload_n 2, 1) := by decide +kernel
theorem d_M_meetsState_36 : decode m_M_meetsState.2.1 36 = .ok (.iaload, 1) := by decide +kernel
theorem d_M_meetsState_37 : decode m_M_meetsState.2.1 37 = .ok (.invokevirtual 267, 3) := by decide +kernel
theorem d_M_meetsState_40 : decode m_M_meetsState.2.1 40 = .ok (.goto 6, 3) := by decide +kernel
theorem d_M_meetsState_43 : decode m_M_meetsState.2.1 43 = .ok (.sipush 432, 3) := by decide +kernel
theorem d_M_meetsState_46 : decode m_M_meetsState.2.1 46 = .ok (.iastore, 1) := by decide +kernel
theorem d_M_meetsState_47 : decode m_M_meetsState.2.1 47 = .ok (.iinc 2 1, 3) := by decide +kernel
theorem d_M_meetsState_50 : decode m_M_meetsState.2.1 50 = .ok (.goto (-40), 3) := by decide +kernel
theorem d_M_meetsState_53 : decode m_M_meetsState.2.1 53 = .ok (.iconst 0, 1) := by decide +kernel
theorem d_M_meetsState_54 : decode m_M_meetsState.2.1 54 = .ok (.istore_n 2, 1) := by decide +kernel
theorem d_M_meetsState_55 : decode m_M_meetsState.2.1 55 = .ok (.iload_n 2, 1) := by decide +kernel
theorem d_M_meetsState_56 : decode m_M_meetsState.2.1 56 = .ok (.bipush 16, 2) := by decide +kernel
theorem d_M_meetsState_58 : decode m_M_meetsState.2.1 58 = .ok (.if_icmp .ge 30, 3) := by decide +kernel
theorem d_M_meetsState_61 : decode m_M_meetsState.2.1 61 = .ok (.aload_n 0, 1) := by decide +kernel
theorem d_M_meetsState_62 : decode m_M_meetsState.2.1 62 = .ok (.getfield 20, 3) := by decide +kernel
theorem d_M_meetsState_65 : decode m_M_meetsState.2.1 65 = .ok (.iload_n 1, 1) := by decide +kernel
theorem d_M_meetsState_66 : decode m_M_meetsState.2.1 66 = .ok (.iconst 3, 1) := by decide +kernel
theorem d_M_meetsState_67 : decode m_M_meetsState.2.1 67 = .ok (.iadd, 1) := by decide +kernel
theorem d_M_meetsState_68 : decode m_M_meetsState.2.1 68 = .ok (.iload_n 2, 1) := by decide +kernel
theorem d_M_meetsState_69 : decode m_M_meetsState.2.1 69 = .ok (.iadd, 1) := by decide +kernel
theorem d_M_meetsState_70 : decode m_M_meetsState.2.1 70 = .ok (.aload_n 0, 1) := by decide +kernel
theorem d_M_meetsState_71 : decode m_M_meetsState.2.1 71 = .ok (.getfield 7, 3) := by decide +kernel
theorem d_M_meetsState_74 : decode m_M_meetsState.2.1 74 = .ok (.iload_n 2, 1) := by decide +kernel
theorem d_M_meetsState_75 : decode m_M_meetsState.2.1 75 = .ok (.invokestatic 58, 3) := by decide +kernel
theorem d_M_meetsState_78 : decode m_M_meetsState.2.1 78 = .ok (.iconst 0, 1) := by decide +kernel
theorem d_M_meetsState_79 : decode m_M_meetsState.2.1 79 = .ok (.iadd, 1) := by decide +kernel
theorem d_M_meetsState_80 : decode m_M_meetsState.2.1 80 = .ok (.iaload, 1) := by decide +kernel
theorem d_M_meetsState_81 : decode m_M_meetsState.2.1 81 = .ok (.iastore, 1) := by decide +kernel
theorem d_M_meetsState_82 : decode m_M_meetsState.2.1 82 = .ok (.iinc 2 1, 3) := by decide +kernel
theorem d_M_meetsState_85 : decode m_M_meetsState.2.1 85 = .ok (.goto (-30), 3) := by decide +kernel
theorem d_M_meetsState_88 : decode m_M_meetsState.2.1 88 = .ok (.iconst 0, 1) := by decide +kernel
theorem d_M_meetsState_89 : decode m_M_meetsState.2.1 89 = .ok (.istore_n 2, 1) := by decide +kernel
theorem d_M_meetsState_90 : decode m_M_meetsState.2.1 90 = .ok (.iload_n 2, 1) := by decide +kernel
theorem d_M_meetsState_91 : decode m_M_meetsState.2.1 91 = .ok (.aload_n 0, 1) := by decide +kernel
theorem d_M_meetsState_92 : decode m_M_meetsState.2.1 92 = .ok (.getfield 264, 3) := by decide +kernel
theorem d_M_meetsState_95 : decode m_M_meetsState.2.1 95 = .ok (.if_icmp .ge 53, 3) := by decide +kernel
theorem d_M_meetsState_98 : decode m_M_meetsState.2.1 98 = .ok (.iconst 0, 1) := by decide +kernel
theorem d_M_meetsState_99 : decode m_M_meetsState.2.1 99 = .ok (.istore_n 3, 1) := by decide +kernel
theorem d_M_meetsState_100 : decode m_M_meetsState.2.1 100 = .ok (.iload_n 3, 1) := by decide +kernel
theorem d_M_meetsState_101 : decode m_M_meetsState.2.1 101 = .ok (.bipush 19, 2) := by decide +kernel
theorem d_M_meetsState_103 : decode m_M_meetsState.2.1 103 = .ok (.if_icmp .ge 31, 3) := by decide +kernel
theorem d_M_meetsState_106 : decode m_M_meetsState.2.1 106 = .ok (.aload_n 0, 1) := by decide +kernel
theorem d_M_meetsState_107 : decode m_M_meetsState.2.1 107 = .ok (.getfield 20, 3) := by decide +kernel
theorem d_M_meetsState_110 : decode m_M_meetsState.2.1 110 = .ok (.bipush 19, 2) := by decide +kernel
theorem d_M_meetsState_112 : decode m_M_meetsState.2.1 112 = .ok (.iload_n 2, 1) := by decide +kernel
theorem d_M_meetsState_113 : decode m_M_meetsState.2.1 113 = .ok (.imul, 1) := by decide +kernel
theorem d_M_meetsState_114 : decode m_M_meetsState.2.1 114 = .ok (.iload_n 3, 1) := by decide +kernel
theorem d_M_meetsState_115 : decode m_M_meetsState.2.1 115 = .ok (.iadd, 1) := by decide +kernel
theorem d_M_meetsState_116 : decode m_M_meetsState.2.1 116 = .ok (.iaload, 1) := by decide +kernel
theorem d_M_meetsState_117 : decode m_M_meetsState.2.1 117 = .ok (.aload_n 0, 1) := by decide +kernel
theorem d_M_meetsState_118 : decode m_M_meetsState.2.1 118 = .ok (.getfield 20, 3) := by decide +kernel
theorem d_M_meetsState_121 : decode m_M_meetsState.2.1 121 = .ok (.iload_n 1, 1) := by decide +kernel
theorem d_M_meetsState_122 : decode m_M_meetsState.2.1 122 = .ok (.iload_n 3, 1) := by decide +kernel
theorem d_M_meetsState_123 : decode m_M_meetsState.2.1 123 = .ok (.iadd, 1) := by decide +kernel
theorem d_M_meetsState_124 : decode m_M_meetsState.2.1 124 = .ok (.iaload, 1) := by decide +kernel
theorem d_M_meetsState_125 : decode m_M_meetsState.2.1 125 = .ok (.if_icmp .ne 9, 3) := by decide +kernel
theorem d_M_meetsState_128 : decode m_M_meetsState.2.1 128 = .ok (.iinc 3 1, 3) := by decide +kernel
theorem d_M_meetsState_131 : decode m_M_meetsState.2.1 131 = .ok (.goto (-31), 3) := by decide +kernel
theorem d_M_meetsState_134 : decode m_M_meetsState.2.1 134 = .ok (.iload_n 3, 1) := by decide +kernel
theorem d_M_meetsState_135 : decode m_M_meetsState.2.1 135 = .ok (.bipush 19, 2) := by decide +kernel
theorem d_M_meetsState_137 : decode m_M_meetsState.2.1 137 = .ok (.if_icmp .ne 5, 3) := by decide +kernel
theorem d_M_meetsState_140 : decode m_M_meetsState.2.1 140 = .ok (.iload_n 2, 1) := by decide +kernel
theorem d_M_meetsState_141 : decode m_M_meetsState.2.1 141 = .ok (.ireturn, 1) := by decide +kernel
theorem d_M_meetsState_142 : decode m_M_meetsState.2.1 142 = .ok (.iinc 2 1, 3) := by decide +kernel
theorem d_M_meetsState_145 : decode m_M_meetsState.2.1 145 = .ok (.goto (-55), 3) := by decide +kernel
theorem d_M_meetsState_148 : decode m_M_meetsState.2.1 148 = .ok (.aload_n 0, 1) := by decide +kernel
theorem d_M_meetsState_149 : decode m_M_meetsState.2.1 149 = .ok (.getfield 23, 3) := by decide +kernel
theorem d_M_meetsState_152 : decode m_M_meetsState.2.1 152 = .ok (.aload_n 0, 1) := by decide +kernel
theorem d_M_meetsState_153 : decode m_M_meetsState.2.1 153 = .ok (.getfield 264, 3) := by decide +kernel
theorem d_M_meetsState_156 : decode m_M_meetsState.2.1 156 = .ok (.iconst 0, 1) := by decide +kernel
theorem d_M_meetsState_157 : decode m_M_meetsState.2.1 157 = .ok (.iastore, 1) := by decide +kernel
theorem d_M_meetsState_158 : decode m_M_meetsState.2.1 158 = .ok (.aload_n 0, 1) := by decide +kernel
theorem d_M_meetsState_159 : decode m_M_meetsState.2.1 159 = .ok (.dup, 1) := by decide +kernel
theorem d_M_meetsState_160 : decode m_M_meetsState.2.1 160 = .ok (.getfield 264, 3) := by decide +kernel
theorem d_M_meetsState_163 : decode m_M_meetsState.2.1 163 = .ok (.iconst 1, 1) := by decide +kernel
theorem d_M_meetsState_164 : decode m_M_meetsState.2.1 164 = .ok (.iadd, 1) := by decide +kernel
theorem d_M_meetsState_165 : decode m_M_meetsState.2.1 165 = .ok (.putfield 264, 3) := by decide +kernel
theorem d_M_meetsState_168 : decode m_M_meetsState.2.1 168 = .ok (.aload_n 0, 1) := by decide +kernel
theorem d_M_meetsState_169 : decode m_M_meetsState.2.1 169 = .ok (.getfield 264, 3) := by decide +kernel
theorem d_M_meetsState_172 : decode m_M_meetsState.2.1 172 = .ok (.iconst 1, 1) := by decide +kernel
theorem d_M_meetsState_173 : decode m_M_meetsState.2.1 173 = .ok (.isub, 1) := by decide +kernel
theorem d_M_meetsState_174 : decode m_M_meetsState.2.1 174 = .ok (.ireturn, 1) := by decide +kernel
def f_M_meetsState_46 (r10 : Int → Int → qMem → Option (Int × qMem)) (s1 s2 x1 x2 : Int) (w : qMem) : Option (Int × qMem) :=
  qst w 92 7619 s1 s2 fun w1 =>
  r10 x1 (w32 (x2 + 1)) w1
set_option maxRecDepth 4000 in
theorem s_M_meetsState_46  {r10 : Int → Int → qMem → Option (Int × qMem)} (hr10 : ∀ x1 x2 w, qSim κI 100 100 m_M_meetsState 10 [] [some (qR 88), some (qI x1), some (qI x2), none] w (r10 x1 x2 w)) : ∀ (s1 s2 x1 x2 : Int) (w : qMem), qSim κI 100 100 m_M_meetsState 46 [qI s2, qI s1, qR 92] [some (qR 88), some (qI x1), some (qI x2), none] w (f_M_meetsState_46 r10 s1 s2 x1 x2 w) := by
  intro s1 s2 x1 x2 w
  unfold f_M_meetsState_46
  refine z_is d_M_meetsState_46 rfl rfl (fun w1 => ?_)
  refine z_iinc (pls' := [some (qR 88), some (qI x1), some (qI (w32 (x2 + 1))), none]) d_M_meetsState_47 (by decide) rfl rfl rfl ?_
  refine z_goto (tgt := 10) d_M_meetsState_50 rfl ?_
  refine z_mask [true, true, true, false] ?_
  exact hr10 _ _ _
def f_M_meetsState_134 (r90 : Int → Int → qMem → Option (Int × qMem)) (x1 x2 x3 : Int) (w : qMem) : Option (Int × qMem) :=
  if x3 = 19 then
  some (x2, w)
  else
  r90 x1 (w32 (x2 + 1)) w
set_option maxRecDepth 4000 in
theorem s_M_meetsState_134  {r90 : Int → Int → qMem → Option (Int × qMem)} (hr90 : ∀ x1 x2 w, qSim κI 100 100 m_M_meetsState 90 [] [some (qR 88), some (qI x1), some (qI x2), none] w (r90 x1 x2 w)) : ∀ (x1 x2 x3 : Int) (w : qMem), qSim κI 100 100 m_M_meetsState 134 [] [some (qR 88), some (qI x1), some (qI x2), some (qI x3)] w (f_M_meetsState_134 r90 x1 x2 x3 w) := by
  intro x1 x2 x3 w
  unfold f_M_meetsState_134
  refine z_iload_n d_M_meetsState_134 rfl ?_
  refine z_bipush d_M_meetsState_135 ⟨by decide, by decide⟩ ?_
  refine z_icmp_ne (tgt := 142) d_M_meetsState_137 rfl (fun c2 => ?_) (fun c2 => ?_)
  · refine z_iload_n d_M_meetsState_140 rfl ?_
    exact z_iret d_M_meetsState_141 rfl rfl
  · refine z_iinc (pls' := [some (qR 88), some (qI x1), some (qI (w32 (x2 + 1))), some (qI x3)]) d_M_meetsState_142 (by decide) rfl rfl rfl ?_
    refine z_goto (tgt := 90) d_M_meetsState_145 rfl ?_
    refine z_mask [true, true, true, false] ?_
    exact hr90 _ _ _
def f_M_meetsState_100 (r90 : Int → Int → qMem → Option (Int × qMem)) : Nat → Int → Int → Int → qMem → Option (Int × qMem)
  | 0, _, _, _, _ => none
  | n + 1, x1, x2, x3, w =>
    if x3 < 19 then
    qld w 92 7619 (w32 ((w32 (19 * x2)) + x3)) fun v4 =>
    qld w 92 7619 (w32 (x1 + x3)) fun v5 =>
    if v4 = v5 then
    (f_M_meetsState_100 r90 n) x1 x2 (w32 (x3 + 1)) w
    else
    f_M_meetsState_134 r90 x1 x2 x3 w
    else
    f_M_meetsState_134 r90 x1 x2 x3 w
set_option maxRecDepth 4000 in
theorem s_M_meetsState_100  {r90 : Int → Int → qMem → Option (Int × qMem)} (hr90 : ∀ x1 x2 w, qSim κI 100 100 m_M_meetsState 90 [] [some (qR 88), some (qI x1), some (qI x2), none] w (r90 x1 x2 w)) : ∀ (n : Nat), ∀ (x1 x2 x3 : Int) (w : qMem), qSim κI 100 100 m_M_meetsState 100 [] [some (qR 88), some (qI x1), some (qI x2), some (qI x3)] w (f_M_meetsState_100 r90 n x1 x2 x3 w) := by
  intro n
  induction n with
  | zero => intro x1 x2 x3 w; exact z_none
  | succ n ih =>
    intro x1 x2 x3 w
    rw [f_M_meetsState_100]
    refine z_iload_n d_M_meetsState_100 rfl ?_
    refine z_bipush d_M_meetsState_101 ⟨by decide, by decide⟩ ?_
    refine z_icmp_ge (tgt := 134) d_M_meetsState_103 rfl (fun c3 => ?_) (fun c3 => ?_)
    · refine z_aload_n d_M_meetsState_106 rfl ?_
      refine z_gr (ci := 10) (j := 4) (d := 4) (o2 := 92) d_M_meetsState_107 rfl fl_M_20 rfl (Nat.le_of_ble_eq_true rfl) rfl rfl ?_
      refine z_bipush d_M_meetsState_110 ⟨by decide, by decide⟩ ?_
      refine z_iload_n d_M_meetsState_112 rfl ?_
      refine z_imul d_M_meetsState_113 ?_
      refine z_iload_n d_M_meetsState_114 rfl ?_
      refine z_iadd d_M_meetsState_115 ?_
      refine z_il d_M_meetsState_116 rfl rfl (fun v4 => ?_)
      refine z_aload_n d_M_meetsState_117 rfl ?_
      refine z_gr (ci := 10) (j := 4) (d := 4) (o2 := 92) d_M_meetsState_118 rfl fl_M_20 rfl (Nat.le_of_ble_eq_true rfl) rfl rfl ?_
      refine z_iload_n d_M_meetsState_121 rfl ?_
      refine z_iload_n d_M_meetsState_122 rfl ?_
      refine z_iadd d_M_meetsState_123 ?_
      refine z_il d_M_meetsState_124 rfl rfl (fun v5 => ?_)
      refine z_icmp_ne (tgt := 134) d_M_meetsState_125 rfl (fun c6 => ?_) (fun c6 => ?_)
      · refine z_iinc (pls' := [some (qR 88), some (qI x1), some (qI x2), some (qI (w32 (x3 + 1)))]) d_M_meetsState_128 (by decide) rfl rfl rfl ?_
        refine z_goto (tgt := 100) d_M_meetsState_131 rfl ?_
        refine z_mask [true, true, true, true] ?_
        exact ih _ _ _ _
      · refine z_mask [true, true, true, true] ?_
        exact s_M_meetsState_134 hr90 _ _ _ _
    · refine z_mask [true, true, true, true] ?_
      exact s_M_meetsState_134 hr90 _ _ _ _
def f_M_meetsState_148 (w : qMem) : Option (Int × qMem) :=
  qst w 93 401 (w 88 8) 0 fun w7 =>
  qlt (qud w7 88 8 (w32 ((w7 88 8) + 1))) fun w8 =>
  some ((w32 ((w8 88 8) - 1)), w8)
set_option maxRecDepth 4000 in
theorem s_M_meetsState_148  : ∀ (w : qMem), qSim κI 100 100 m_M_meetsState 148 [] [some (qR 88), none, none, none] w (f_M_meetsState_148 w) := by
  intro w
  unfold f_M_meetsState_148
  refine z_aload_n d_M_meetsState_148 rfl ?_
  refine z_gr (ci := 10) (j := 5) (d := 5) (o2 := 93) d_M_meetsState_149 rfl fl_M_23 rfl (Nat.le_of_ble_eq_true rfl) rfl rfl ?_
  refine z_aload_n d_M_meetsState_152 rfl ?_
  refine z_gi (ci := 10) (j := 8) (ji := 8) d_M_meetsState_153 rfl fl_M_264 rfl rfl rfl ?_
  refine z_ic0 d_M_meetsState_156 ?_
  refine z_is d_M_meetsState_157 rfl rfl (fun w7 => ?_)
  refine z_aload_n d_M_meetsState_158 rfl ?_
  refine z_dup d_M_meetsState_159 rfl ?_
  refine z_gi (ci := 10) (j := 8) (ji := 8) d_M_meetsState_160 rfl fl_M_264 rfl rfl rfl ?_
  refine z_ic1 d_M_meetsState_163 ?_
  refine z_iadd d_M_meetsState_164 ?_
  refine z_pi (ci := 10) (j := 8) (ji := 8) d_M_meetsState_165 rfl fl_M_264 rfl rfl rfl rfl rfl (fun w8 => ?_)
  refine z_aload_n d_M_meetsState_168 rfl ?_
  refine z_gi (ci := 10) (j := 8) (ji := 8) d_M_meetsState_169 rfl fl_M_264 rfl rfl rfl ?_
  refine z_ic1 d_M_meetsState_172 ?_
  refine z_isub d_M_meetsState_173 ?_
  exact z_iret d_M_meetsState_174 rfl rfl
def f_M_meetsState_90 : Nat → Int → Int → qMem → Option (Int × qMem)
  | 0, _, _, _ => none
  | n + 1, x1, x2, w =>
    if x2 < (w 88 8) then
    f_M_meetsState_100 (f_M_meetsState_90 n) qFU x1 x2 0 w
    else
    f_M_meetsState_148 w
set_option maxRecDepth 4000 in
theorem s_M_meetsState_90  : ∀ (n : Nat), ∀ (x1 x2 : Int) (w : qMem), qSim κI 100 100 m_M_meetsState 90 [] [some (qR 88), some (qI x1), some (qI x2), none] w (f_M_meetsState_90 n x1 x2 w) := by
  intro n
  induction n with
  | zero => intro x1 x2 w; exact z_none
  | succ n ih =>
    intro x1 x2 w
    rw [f_M_meetsState_90]
    refine z_iload_n d_M_meetsState_90 rfl ?_
    refine z_aload_n d_M_meetsState_91 rfl ?_
    refine z_gi (ci := 10) (j := 8) (ji := 8) d_M_meetsState_92 rfl fl_M_264 rfl rfl rfl ?_
    refine z_icmp_ge (tgt := 148) d_M_meetsState_95 rfl (fun c9 => ?_) (fun c9 => ?_)
    · refine z_ic0 d_M_meetsState_98 ?_
      refine z_istore_n (pls' := [some (qR 88), some (qI x1), some (qI x2), some (qI 0)]) d_M_meetsState_99 (by decide) rfl rfl ?_
      refine z_mask [true, true, true, true] ?_
      exact s_M_meetsState_100 ih _ _ _ _ _
    · refine z_mask [true, false, false, false] ?_
      exact s_M_meetsState_148 _
def f_M_meetsState_88 (x1 : Int) (w : qMem) : Option (Int × qMem) :=
  f_M_meetsState_90 qFU x1 0 w
set_option maxRecDepth 4000 in
theorem s_M_meetsState_88  : ∀ (x1 : Int) (w : qMem), qSim κI 100 100 m_M_meetsState 88 [] [some (qR 88), some (qI x1), none, none] w (f_M_meetsState_88 x1 w) := by
  intro x1 w
  unfold f_M_meetsState_88
  refine z_ic0 d_M_meetsState_88 ?_
  refine z_istore_n (pls' := [some (qR 88), some (qI x1), some (qI 0), none]) d_M_meetsState_89 (by decide) rfl rfl ?_
  refine z_mask [true, true, true, false] ?_
  exact s_M_meetsState_90 _ _ _ _
def f_M_meetsState_55 : Nat → Int → Int → qMem → Option (Int × qMem)
  | 0, _, _, _ => none
  | n + 1, x1, x2, w =>
    if x2 < 16 then
    (f_M_ringAt x2 w).bind fun q11 =>
    qld q11.2 89 5898 (w32 (q11.1 + 0)) fun v12 =>
    qst q11.2 92 7619 (w32 ((w32 (x1 + 3)) + x2)) v12 fun w13 =>
    (f_M_meetsState_55 n) x1 (w32 (x2 + 1)) w13
    else
    f_M_meetsState_88 x1 w
set_option maxRecDepth 4000 in
theorem s_M_meetsState_55  : ∀ (n : Nat), ∀ (x1 x2 : Int) (w : qMem), qSim κI 100 100 m_M_meetsState 55 [] [some (qR 88), some (qI x1), some (qI x2), none] w (f_M_meetsState_55 n x1 x2 w) := by
  intro n
  induction n with
  | zero => intro x1 x2 w; exact z_none
  | succ n ih =>
    intro x1 x2 w
    rw [f_M_meetsState_55]
    refine z_iload_n d_M_meetsState_55 rfl ?_
    refine z_bipush d_M_meetsState_56 ⟨by decide, by decide⟩ ?_
    refine z_icmp_ge (tgt := 88) d_M_meetsState_58 rfl (fun c10 => ?_) (fun c10 => ?_)
    · refine z_aload_n d_M_meetsState_61 rfl ?_
      refine z_gr (ci := 10) (j := 4) (d := 4) (o2 := 92) d_M_meetsState_62 rfl fl_M_20 rfl (Nat.le_of_ble_eq_true rfl) rfl rfl ?_
      refine z_iload_n d_M_meetsState_65 rfl ?_
      refine z_ic3 d_M_meetsState_66 ?_
      refine z_iadd d_M_meetsState_67 ?_
      refine z_iload_n d_M_meetsState_68 rfl ?_
      refine z_iadd d_M_meetsState_69 ?_
      refine z_aload_n d_M_meetsState_70 rfl ?_
      refine z_gr (ci := 10) (j := 0) (d := 1) (o2 := 89) d_M_meetsState_71 rfl fl_M_7 rfl (Nat.le_of_ble_eq_true rfl) rfl rfl ?_
      refine z_iload_n d_M_meetsState_74 rfl ?_
      refine z_cSI (av := [qI x2]) (st := [qR 89, qI (w32 ((w32 (x1 + 3)) + x2)), qR 92]) (nl := 0) d_M_meetsState_75 lk_M_58 mk_M_ringAt rfl rfl rfl (s_M_ringAt _ _) (fun q11 _ hq11 => ?_)
      refine z_ic0 d_M_meetsState_78 ?_
      refine z_iadd d_M_meetsState_79 ?_
      refine z_il d_M_meetsState_80 rfl rfl (fun v12 => ?_)
      refine z_is d_M_meetsState_81 rfl rfl (fun w13 => ?_)
      refine z_iinc (pls' := [some (qR 88), some (qI x1), some (qI (w32 (x2 + 1))), none]) d_M_meetsState_82 (by decide) rfl rfl rfl ?_
      refine z_goto (tgt := 55) d_M_meetsState_85 rfl ?_
      refine z_mask [true, true, true, false] ?_
      exact ih _ _ _
    · refine z_mask [true, true, false, false] ?_
      exact s_M_meetsState_88 _ _
def f_M_meetsState_53 (x1 : Int) (w : qMem) : Option (Int × qMem) :=
  f_M_meetsState_55 qFU x1 0 w
set_option maxRecDepth 4000 in
theorem s_M_meetsState_53  : ∀ (x1 : Int) (w : qMem), qSim κI 100 100 m_M_meetsState 53 [] [some (qR 88), some (qI x1), none, none] w (f_M_meetsState_53 x1 w) := by
  intro x1 w
  unfold f_M_meetsState_53
  refine z_ic0 d_M_meetsState_53 ?_
  refine z_istore_n (pls' := [some (qR 88), some (qI x1), some (qI 0), none]) d_M_meetsState_54 (by decide) rfl rfl ?_
  refine z_mask [true, true, true, false] ?_
  exact s_M_meetsState_55 _ _ _ _
def f_M_meetsState_10 : Nat → Int → Int → qMem → Option (Int × qMem)
  | 0, _, _, _ => none
  | n + 1, x1, x2, w =>
    if x2 < 3 then
    if x2 < (w 88 7) then
    qld w 94 3 x2 fun v16 =>
    (f_M_placeIn v16 w).bind fun q17 =>
    f_M_meetsState_46 (f_M_meetsState_10 n) (w32 (x1 + x2)) q17.1 x1 x2 q17.2
    else
    f_M_meetsState_46 (f_M_meetsState_10 n) (w32 (x1 + x2)) 432 x1 x2 w
    else
    f_M_meetsState_53 x1 w
set_option maxRecDepth 4000 in
theorem s_M_meetsState_10  : ∀ (n : Nat), ∀ (x1 x2 : Int) (w : qMem), qSim κI 100 100 m_M_meetsState 10 [] [some (qR 88), some (qI x1), some (qI x2), none] w (f_M_meetsState_10 n x1 x2 w) := by
  intro n
  induction n with
  | zero => intro x1 x2 w; exact z_none
  | succ n ih =>
    intro x1 x2 w
    rw [f_M_meetsState_10]
    refine z_iload_n d_M_meetsState_10 rfl ?_
    refine z_ic3 d_M_meetsState_11 ?_
    refine z_icmp_ge (tgt := 53) d_M_meetsState_12 rfl (fun c14 => ?_) (fun c14 => ?_)
    · refine z_aload_n d_M_meetsState_15 rfl ?_
      refine z_gr (ci := 10) (j := 4) (d := 4) (o2 := 92) d_M_meetsState_16 rfl fl_M_20 rfl (Nat.le_of_ble_eq_true rfl) rfl rfl ?_
      refine z_iload_n d_M_meetsState_19 rfl ?_
      refine z_iload_n d_M_meetsState_20 rfl ?_
      refine z_iadd d_M_meetsState_21 ?_
      refine z_iload_n d_M_meetsState_22 rfl ?_
      refine z_aload_n d_M_meetsState_23 rfl ?_
      refine z_gi (ci := 10) (j := 7) (ji := 7) d_M_meetsState_24 rfl fl_M_261 rfl rfl rfl ?_
      refine z_icmp_ge (tgt := 43) d_M_meetsState_27 rfl (fun c15 => ?_) (fun c15 => ?_)
      · refine z_aload_n d_M_meetsState_30 rfl ?_
        refine z_aload_n d_M_meetsState_31 rfl ?_
        refine z_gr (ci := 10) (j := 6) (d := 6) (o2 := 94) d_M_meetsState_32 rfl fl_M_26 rfl (Nat.le_of_ble_eq_true rfl) rfl rfl ?_
        refine z_iload_n d_M_meetsState_35 rfl ?_
        refine z_il d_M_meetsState_36 rfl rfl (fun v16 => ?_)
        refine z_cVI (as := [qI v16]) (st := [qI (w32 (x1 + x2)), qR 92]) (nl := 3) (ci := 10) d_M_meetsState_37 lk_M_267 mk_M_placeIn rfl rfl rfl rfl rfl rfl (s_M_placeIn _ _) (fun q17 _ hq17 => ?_)
        refine z_goto (tgt := 46) d_M_meetsState_40 rfl ?_
        refine z_mask [true, true, true, false] ?_
        exact s_M_meetsState_46 ih _ _ _ _ _
      · refine z_sipush d_M_meetsState_43 ⟨by decide, by decide⟩ ?_
        refine z_mask [true, true, true, false] ?_
        exact s_M_meetsState_46 ih _ _ _ _ _
    · refine z_mask [true, true, false, false] ?_
      exact s_M_meetsState_53 _ _
def f_M_meetsState (w : qMem) : Option (Int × qMem) :=
  f_M_meetsState_10 qFU (w32 (19 * (w 88 8))) 0 w
set_option maxRecDepth 4000 in
theorem s_M_meetsState (w : qMem) : qSim κI 100 100 m_M_meetsState 0 [] [some (qR 88), none, none, none] w (f_M_meetsState w) := by
  unfold f_M_meetsState
  refine z_bipush d_M_meetsState_0 ⟨by decide, by decide⟩ ?_
  refine z_aload_n d_M_meetsState_2 rfl ?_
  refine z_gi (ci := 10) (j := 8) (ji := 8) d_M_meetsState_3 rfl fl_M_264 rfl rfl rfl ?_
  refine z_imul d_M_meetsState_6 ?_
  refine z_istore_n (pls' := [some (qR 88), some (qI (w32 (19 * (w 88 8)))), none, none]) d_M_meetsState_7 (by decide) rfl rfl ?_
  refine z_ic0 d_M_meetsState_8 ?_
  refine z_istore_n (pls' := [some (qR 88), some (qI (w32 (19 * (w 88 8)))), some (qI 0), none]) d_M_meetsState_9 (by decide) rfl rfl ?_
  refine z_mask [true, true, true, false] ?_
  exact s_M_meetsState_10 _ _ _ _
/-! BubbleTorusModel.opensState -/
theorem d_M_opensState_0 : decode m_M_opensState.2.1 0 = .ok (.bipush 19, 2) := by decide +kernel
theorem d_M_opensState_2 : decode m_M_opensState.2.1 2 = .ok (.iload_n 1, 1) := by decide +kernel
theorem d_M_opensState_3 : decode m_M_opensState.2.1 3 = .ok (.imul, 1) := by decide +kernel
theorem d_M_opensState_4 : decode m_M_opensState.2.1 4 = .ok (.istore_n 2, 1) := by decide +kernel
theorem d_M_opensState_5 : decode m_M_opensState.2.1 5 = .ok (.iconst 0, 1) := by decide +kernel
theorem d_M_opensState_6 : decode m_M_opensState.2.1 6 = .ok (.istore_n 3, 1) := by decide +kernel
theorem d_M_opensState_7 : decode m_M_opensState.2.1 7 = .ok (.iload_n 3, 1) := by decide +kernel
theorem d_M_opensState_8 : decode m_M_opensState.2.1 8 = .ok (.aload_n 0, 1) := by decide +kernel
theorem d_M_opensState_9 : decode m_M_opensState.2.1 9 = .ok (.invokevirtual 72, 3) := by decide +kernel
theorem d_M_opensState_12 : decode m_M_opensState.2.1 12 = .ok (.if_icmp .ge 37, 3) := by decide +kernel
theorem d_M_opensState_15 : decode m_M_opensState.2.1 15 = .ok (.iconst 0, 1) := by decide +kernel
theorem d_M_opensState_16 : decode m_M_opensState.2.1 16 = .ok (.istore 4, 2) := by decide +kernel
theorem d_M_opensState_18 : decode m_M_opensState.2.1 18 = .ok (.iload 4, 2) := by decide +kernel
theorem d_M_opensState_20 : decode m_M_opensState.2.1 20 = .ok (.bipush 9, 2) := by decide +kernel
theorem d_M_opensState_22 : decode m_M_opensState.2.1 22 = .ok (.if_icmp .ge 21, 3) := by decide +kernel
theorem d_M_opensState_25 : decode m_M_opensState.2.1 25 = .ok (.aload_n 0, 1) := by decide +kernel
theorem d_M_opensState_26 : decode m_M_opensState.2.1 26 = .ok (.getfield 7, 3) := by decide +kernel
theorem d_M_opensState_29 : decode m_M_opensState.2.1 29 = .ok (.iload_n 3, 1) := by decide +kernel
theorem d_M_opensState_30 : decode m_M_opensState.2.1 30 = .ok (.iload 4, 2) := by decide +kernel
theorem d_M_opensState_32 : decode m_M_opensState.2.1 32 = .ok (.invokestatic 105, 3) := by decide +kernel
theorem d_M_opensState_35 : decode m_M_opensState.2.1 35 = .ok (.iconst 0, 1) := by decide +kernel
theorem d_M_opensState_36 : decode m_M_opensState.2.1 36 = .ok (.iastore, 1) := by decide +kernel
theorem d_M_opensState_37 : decode m_M_opensState.2.1 37 = .ok (.iinc 4 1, 3) := by decide +kernel
theorem d_M_opensState_40 : decode m_M_opensState.2.1 40 = .ok (.goto (-22), 3) := by decide +kernel
theorem d_M_opensState_43 : decode m_M_opensState.2.1 43 = .ok (.iinc 3 1, 3) := by decide +kernel
theorem d_M_opensState_46 : decode m_M_opensState.2.1 46 = .ok (.goto (-39), 3) := by decide +kernel
theorem d_M_opensState_49 : decode m_M_opensState.2.1 49 = .ok (.iconst 0, 1) := by decide +kernel
theorem d_M_opensState_50 : decode m_M_opensState.2.1 50 = .ok (.istore_n 3, 1) := by decide +kernel
theorem d_M_opensState_51 : decode m_M_opensState.2.1 51 = .ok (.iload_n 3, 1) := by decide +kernel
theorem d_M_opensState_52 : decode m_M_opensState.2.1 52 = .ok (.iconst 3, 1) := by decide +kernel
theorem d_M_opensState_53 : decode m_M_opensState.2.1 53 = .ok (.if_icmp .ge 163, 3) := by decide +kernel
theorem d_M_opensState_56 : decode m_M_opensState.2.1 56 = .ok (.iconst 0, 1) := by decide +kernel
theorem d_M_opensState_57 : decode m_M_opensState.2.1 57 = .ok (.istore 4, 2) := by decide +kernel
theorem d_M_opensState_59 : decode m_M_opensState.2.1 59 = .ok (.iload 4, 2) := by decide +kernel
theorem d_M_opensState_61 : decode m_M_opensState.2.1 61 = .ok (.aload_n 0, 1) := by decide +kernel
theorem d_M_opensState_62 : decode m_M_opensState.2.1 62 = .ok (.getfield 261, 3) := by decide +kernel
theorem d_M_opensState_65 : decode m_M_opensState.2.1 65 = .ok (.if_icmp .ge 145, 3) := by decide +kernel
theorem d_M_opensState_68 : decode m_M_opensState.2.1 68 = .ok (.aload_n 0, 1) := by decide +kernel
theorem d_M_opensState_69 : decode m_M_opensState.2.1 69 = .ok (.getfield 20, 3) := by decide +kernel
theorem d_M_opensState_72 : decode m_M_opensState.2.1 72 = .ok (.iload_n 2, 1) := by decide +kernel
theorem d_M_opensState_73 : decode m_M_opensState.2.1 73 = .ok (.iload 4, 2) := by decide +kernel
theorem d_M_opensState_75 : decode m_M_opensState.2.1 75 = .ok (.iadd, 1) := by decide +kernel
theorem d_M_opensState_76 : decode m_M_opensState.2.1 76 = .ok (.iaload, 1) := by decide +kernel
theorem d_M_opensState_77 : decode m_M_opensState.2.1 77 = .ok (.istore 5, 2) := by decide +kernel
theorem d_M_opensState_79 : decode m_M_opensState.2.1 79 = .ok (.iload 5, 2) := by decide +kernel
theorem d_M_opensState_81 : decode m_M_opensState.2.1 81 = .ok (.sipush 432, 3) := by decide +kernel
theorem d_M_opensState_84 : decode m_M_opensState.2.1 84 = .ok (.if_icmp .eq 120, 3) := by decide +kernel
theorem d_M_opensState_87 : decode m_M_opensState.2.1 87 = .ok (.iload 5, 2) := by decide +kernel
theorem d_M_opensState_89 : decode m_M_opensState.2.1 89 = .ok (.iconst 3, 1) := by decide +kernel
theorem d_M_opensState_90 : decode m_M_opensState.2.1 90 = .ok (.irem, 1) := by decide +kernel
theorem d_M_opensState_91 : decode m_M_opensState.2.1 91 = .ok (.iload_n 3, 1) := by decide +kernel
theorem d_M_opensState_92 : decode m_M_opensState.2.1 92 = .ok (.if_icmp .eq 6, 3) := by decide +kernel
theorem d_M_opensState_95 : decode m_M_opensState.2.1 95 = .ok (.goto 109, 3) := by decide +kernel
theorem d_M_opensState_98 : decode m_M_opensState.2.1 98 = .ok (.iload 5, 2) := by decide +kernel
theorem d_M_opensState_100 : decode m_M_opensState.2.1 100 = .ok (.iconst 3, 1) := by decide +kernel
theorem d_M_opensState_101 : decode m_M_opensState.2.1 101 = .ok (.idiv, 1) := by decide +kernel
theorem d_M_opensState_102 : decode m_M_opensState.2.1 102 = .ok (.bipush 9, 2) := by decide +kernel
theorem d_M_opensState_104 : decode m_M_opensState.2.1 104 = .ok (.irem, 1) := by decide +kernel
theorem d_M_opensState_105 : decode m_M_opensState.2.1 105 = .ok (.istore 6, 2) := by decide +kernel
theorem d_M_opensState_107 : decode m_M_opensState.2.1 107 = .ok (.aload_n 0, 1) := by decide +kernel
theorem d_M_opensState_108 : decode m_M_opensState.2.1 108 = .ok (.getfield 26, 3) := by decide +kernel
theorem d_M_opensState_111 : decode m_M_opensState.2.1 111 = .ok (.iload 4, 2) := by decide +kernel
theorem d_M_opensState_113 : decode m_M_opensState.2.1 113 = .ok (.iaload, 1) := by decide +kernel
theorem d_M_opensState_114 : decode m_M_opensState.2.1 114 = .ok (.invokestatic 114, 3) := by decide +kernel
theorem d_M_opensState_117 : decode m_M_opensState.2.1 117 = .ok (.istore 7, 2) := by decide +kernel
theorem d_M_opensState_119 : decode m_M_opensState.2.1 119 = .ok (.aload_n 0, 1) := by decide +kernel
theorem d_M_opensState_120 : decode m_M_opensState.2.1 120 = .ok (.iload 5, 2) := by decide +kernel
theorem d_M_opensState_122 : decode m_M_opensState.2.1 122 = .ok (.bipush 27, 2) := by decide +kernel
theorem d_M_opensState_124 : decode m_M_opensState.2.1 124 = .ok (.idiv, 1) := by decide +kernel
theorem d_M_opensState_125 : decode m_M_opensState.2.1 125 = .ok (.iload 6, 2) := by decide +kernel
theorem d_M_opensState_127 : decode m_M_opensState.2.1 127 = .ok (.aload_n 0, 1) := by decide +kernel
theorem d_M_opensState_128 : decode m_M_opensState.2.1 128 = .ok (.getfield 26, 3) := by decide +kernel
theorem d_M_opensState_131 : decode m_M_opensState.2.1 131 = .ok (.iload 4, 2) := by decide +kernel
theorem d_M_opensState_133 : decode m_M_opensState.2.1 133 = .ok (.iaload, 1) := by decide +kernel
theorem d_M_opensState_134 : decode m_M_opensState.2.1 134 = .ok (.invokevirtual 120, 3) := by decide +kernel
theorem d_M_opensState_137 : decode m_M_opensState.2.1 137 = .ok (.aload_n 0, 1) := by decide +kernel
theorem d_M_opensState_138 : decode m_M_opensState.2.1 138 = .ok (.getfield 7, 3) := by decide +kernel
theorem d_M_opensState_141 : decode m_M_opensState.2.1 141 = .ok (.iload 7, 2) := by decide +kernel
theorem d_M_opensState_143 : decode m_M_opensState.2.1 143 = .ok (.iconst 3, 1) := by decide +kernel
theorem d_M_opensState_144 : decode m_M_opensState.2.1 144 = .ok (.iadd, 1) := by decide +kernel
theorem d_M_opensState_145 : decode m_M_opensState.2.1 145 = .ok (.iload 6, 2) := by decide +kernel
theorem d_M_opensState_147 : decode m_M_opensState.2.1 147 = .ok (.ifCond .ne 7, 3) := by decide +kernel
theorem d_M_opensState_150 : decode m_M_opensState.2.1 150 = .ok (.iconst 0, 1) := by decide +kernel
theorem d_M_opensState_151 : decode m_M_opensState.2.1 151 = .ok (.goto 14, 3) := by decide +kernel
theorem d_M_opensState_154 : decode m_M_opensState.2.1 154 = .ok (.iload 6, 2) := by decide +kernel
theorem d_M_opensState_156 : decode m_M_opensState.2.1 156 = .ok (.iconst 5, 1) := by decide +kernel
theorem d_M_opensState_157 : decode m_M_opensState.2.1 157 = .ok (.if_icmp .ge 7, 3) := by decide +kernel
theorem d_M_opensState_160 : decode m_M_opensState.2.1 160 = .ok (.iconst 1, 1) := by decide +kernel
theorem d_M_opensState_161 : decode m_M_opensState.2.1 161 = .ok (.goto 4, 3) := by decide +kernel
theorem d_M_opensState_164 : decode m_M_opensState.2.1 164 = .ok (.iconst 2, 1) := by decide +kernel
theorem d_M_opensState_165 : decode m_M_opensState.2.1 165 = .ok (.iastore, 1) := by decide +kernel
theorem d_M_opensState_166 : decode m_M_opensState.2.1 166 = .ok (.aload_n 0, 1) := by decide +kernel
theorem d_M_opensState_167 : decode m_M_opensState.2.1 167 = .ok (.getfield 7, 3) := by decide +kernel
theorem d_M_opensState_170 : decode m_M_opensState.2.1 170 = .ok (.iload 7, 2) := by decide +kernel
theorem d_M_opensState_172 : decode m_M_opensState.2.1 172 = .ok (.iconst 4, 1) := by decide +kernel
theorem d_M_opensState_173 : decode m_M_opensState.2.1 173 = .ok (.iadd, 1) := by decide +kernel
theorem d_M_opensState_174 : decode m_M_opensState.2.1 174 = .ok (.iload 5, 2) := by decide +kernel
theorem d_M_opensState_176 : decode m_M_opensState.2.1 176 = .ok (.bipush 27, 2) := by decide +kernel
theorem d_M_opensState_178 : decode m_M_opensState.2.1 178 = .ok (.idiv, 1) := by decide +kernel
theorem d_M_opensState_179 : decode m_M_opensState.2.1 179 = .ok (.iastore, 1) := by decide +kernel
theorem d_M_opensState_180 : decode m_M_opensState.2.1 180 = .ok (.aload_n 0, 1) := by decide +kernel
theorem d_M_opensState_181 : decode m_M_opensState.2.1 181 = .ok (.getfield 7, 3) := by decide +kernel
theorem d_M_opensState_184 : decode m_M_opensState.2.1 184 = .ok (.iload 7, 2) := by decide +kernel
theorem d_M_opensState_186 : decode m_M_opensState.2.1 186 = .ok (.iconst 5, 1) := by decide +kernel
theorem d_M_opensState_187 : decode m_M_opensState.2.1 187 = .ok (.iadd, 1) := by decide +kernel
theorem d_M_opensState_188 : decode m_M_opensState.2.1 188 = .ok (.iload 6, 2) := by decide +kernel
theorem d_M_opensState_190 : decode m_M_opensState.2.1 190 = .ok (.ifCond .ne 7, 3) := by decide +kernel
theorem d_M_opensState_193 : decode m_M_opensState.2.1 193 = .ok (.iconst (-1), 1) := by decide +kernel
theorem d_M_opensState_194 : decode m_M_opensState.2.1 194 = .ok (.goto 9, 3) := by decide +kernel
theorem d_M_opensState_197 : decode m_M_opensState.2.1 197 = .ok (.iload 6, 2) := by decide +kernel
theorem d_M_opensState_199 : decode m_M_opensState.2.1 199 = .ok (.iconst 1, 1) := by decide +kernel
theorem d_M_opensState_200 : decode m_M_opensState.2.1 200 = .ok (.isub, 1) := by decide +kernel
theorem d_M_opensState_201 : decode m_M_opensState.2.1 201 = .ok (.iconst 4, 1) := by decide +kernel
theorem d_M_opensState_202 : decode m_M_opensState.2.1 202 = .ok (.irem, 1) := by decide +kernel
theorem d_M_opensState_203 : decode m_M_opensState.2.1 203 = .ok (.iastore, 1) := by decide +kernel
theorem d_M_opensState_204 : decode m_M_opensState.2.1 204 = .ok (.iinc 4 1, 3) := by decide +kernel
theorem d_M_opensState_207 : decode m_M_opensState.2.1 207 = .ok (.goto (-148), 3) := by decide +kernel
theorem d_M_opensState_210 : decode m_M_opensState.2.1 210 = .ok (.iinc 3 1, 3) := by decide +kernel
theorem d_M_opensState_213 : decode m_M_opensState.2.1 213 = .ok (.goto (-162), 3) := by decide +kernel
theorem d_M_opensState_216 : decode m_M_opensState.2.1 216 = .ok (.iconst 0, 1) := by decide +kernel
theorem d_M_opensState_217 : decode m_M_opensState.2.1 217 = .ok (.istore_n 3, 1) := by decide +kernel
theorem d_M_opensState_218 : decode m_M_opensState.2.1 218 = .ok (.iload_n 3, 1) := by decide +kernel
theorem d_M_opensState_219 : decode m_M_opensState.2.1 219 = .ok (.bipush 16, 2) := by decide +kernel
theorem d_M_opensState_221 : decode m_M_opensState.2.1 221 = .ok (.if_icmp .ge 30, 3) := by decide +kernel
theorem d_M_opensState_224 : decode m_M_opensState.2.1 224 = .ok (.aload_n 0, 1) := by decide +kernel
theorem d_M_opensState_225 : decode m_M_opensState.2.1 225 = .ok (.getfield 7, 3) := by decide +kernel
theorem d_M_opensState_228 : decode m_M_opensState.2.1 228 = .ok (.iload_n 3, 1) := by decide +kernel
theorem d_M_opensState_229 : decode m_M_opensState.2.1 229 = .ok (.invokestatic 58, 3) := by decide +kernel
theorem d_M_opensState_232 : decode m_M_opensState.2.1 232 = .ok (.iconst 0, 1) := by decide +kernel
theorem d_M_opensState_233 : decode m_M_opensState.2.1 233 = .ok (.iadd, 1) := by decide +kernel
theorem d_M_opensState_234 : decode m_M_opensState.2.1 234 = .ok (.aload_n 0, 1) := by decide +kernel
theorem d_M_opensState_235 : decode m_M_opensState.2.1 235 = .ok (.getfield 20, 3) := by decide +kernel
theorem d_M_opensState_238 : decode m_M_opensState.2.1 238 = .ok (.iload_n 2, 1) := by decide +kernel
theorem d_M_opensState_239 : decode m_M_opensState.2.1 239 = .ok (.iconst 3, 1) := by decide +kernel
theorem d_M_opensState_240 : decode m_M_opensState.2.1 240 = .ok (.iadd, 1) := by decide +kernel
theorem d_M_opensState_241 : decode m_M_opensState.2.1 241 = .ok (.iload_n 3, 1) := by decide +kernel
theorem d_M_opensState_242 : decode m_M_opensState.2.1 242 = .ok (.iadd, 1) := by decide +kernel
theorem d_M_opensState_243 : decode m_M_opensState.2.1 243 = .ok (.iaload, 1) := by decide +kernel
theorem d_M_opensState_244 : decode m_M_opensState.2.1 244 = .ok (.iastore, 1) := by decide +kernel
theorem d_M_opensState_245 : decode m_M_opensState.2.1 245 = .ok (.iinc 3 1, 3) := by decide +kernel
theorem d_M_opensState_248 : decode m_M_opensState.2.1 248 = .ok (.goto (-30), 3) := by decide +kernel
theorem d_M_opensState_251 : decode m_M_opensState.2.1 251 = .ok (.return_, 1) := by decide +kernel
def f_M_opensState_18 (r7 : Int → Int → qMem → Option (qMem)) : Nat → Int → Int → Int → qMem → Option (qMem)
  | 0, _, _, _, _ => none
  | n + 1, x2, x3, x4, w =>
    if x4 < 9 then
    (f_M_queueAt x3 x4 w).bind fun q2 =>
    qst q2.2 89 5898 q2.1 0 fun w3 =>
    (f_M_opensState_18 r7 n) x2 x3 (w32 (x4 + 1)) w3
    else
    r7 x2 (w32 (x3 + 1)) w
set_option maxRecDepth 4000 in
theorem s_M_opensState_18  {r7 : Int → Int → qMem → Option (qMem)} (hr7 : ∀ x2 x3 w, qSim κV 100 100 m_M_opensState 7 [] [some (qR 88), none, some (qI x2), some (qI x3), none, none, none, none] w (r7 x2 x3 w)) : ∀ (n : Nat), ∀ (x2 x3 x4 : Int) (w : qMem), qSim κV 100 100 m_M_opensState 18 [] [some (qR 88), none, some (qI x2), some (qI x3), some (qI x4), none, none, none] w (f_M_opensState_18 r7 n x2 x3 x4 w) := by
  intro n
  induction n with
  | zero => intro x2 x3 x4 w; exact z_none
  | succ n ih =>
    intro x2 x3 x4 w
    rw [f_M_opensState_18]
    refine z_iload d_M_opensState_18 rfl ?_
    refine z_bipush d_M_opensState_20 ⟨by decide, by decide⟩ ?_
    refine z_icmp_ge (tgt := 43) d_M_opensState_22 rfl (fun c1 => ?_) (fun c1 => ?_)
    · refine z_aload_n d_M_opensState_25 rfl ?_
      refine z_gr (ci := 10) (j := 0) (d := 1) (o2 := 89) d_M_opensState_26 rfl fl_M_7 rfl (Nat.le_of_ble_eq_true rfl) rfl rfl ?_
      refine z_iload_n d_M_opensState_29 rfl ?_
      refine z_iload d_M_opensState_30 rfl ?_
      refine z_cSI (av := [qI x3, qI x4]) (st := [qR 89]) (nl := 0) d_M_opensState_32 lk_M_105 mk_M_queueAt rfl rfl rfl (s_M_queueAt _ _ _) (fun q2 _ hq2 => ?_)
      refine z_ic0 d_M_opensState_35 ?_
      refine z_is d_M_opensState_36 rfl rfl (fun w3 => ?_)
      refine z_iinc (pls' := [some (qR 88), none, some (qI x2), some (qI x3), some (qI (w32 (x4 + 1))), none, none, none]) d_M_opensState_37 (by decide) rfl rfl rfl ?_
      refine z_goto (tgt := 18) d_M_opensState_40 rfl ?_
      refine z_mask [true, false, true, true, true, false, false, false] ?_
      exact ih _ _ _ _
    · refine z_iinc (pls' := [some (qR 88), none, some (qI x2), some (qI (w32 (x3 + 1))), some (qI x4), none, none, none]) d_M_opensState_43 (by decide) rfl rfl rfl ?_
      refine z_goto (tgt := 7) d_M_opensState_46 rfl ?_
      refine z_mask [true, false, true, true, false, false, false, false] ?_
      exact hr7 _ _ _
def f_M_opensState_203 (r51 : Int → Int → qMem → Option (qMem)) (r59 : Int → Int → Int → qMem → Option (qMem)) (s1 s2 x2 x3 x4 : Int) (w : qMem) : Option (qMem) :=
  qst w 89 5898 s1 s2 fun w4 =>
  r59 x2 x3 (w32 (x4 + 1)) w4
set_option maxRecDepth 4000 in
theorem s_M_opensState_203  {r51 : Int → Int → qMem → Option (qMem)} {r59 : Int → Int → Int → qMem → Option (qMem)} (hr51 : ∀ x2 x3 w, qSim κV 100 100 m_M_opensState 51 [] [some (qR 88), none, some (qI x2), some (qI x3), none, none, none, none] w (r51 x2 x3 w)) (hr59 : ∀ x2 x3 x4 w, qSim κV 100 100 m_M_opensState 59 [] [some (qR 88), none, some (qI x2), some (qI x3), some (qI x4), none, none, none] w (r59 x2 x3 x4 w)) : ∀ (s1 s2 x2 x3 x4 : Int) (w : qMem), qSim κV 100 100 m_M_opensState 203 [qI s2, qI s1, qR 89] [some (qR 88), none, some (qI x2), some (qI x3), some (qI x4), none, none, none] w (f_M_opensState_203 r51 r59 s1 s2 x2 x3 x4 w) := by
  intro s1 s2 x2 x3 x4 w
  unfold f_M_opensState_203
  refine z_is d_M_opensState_203 rfl rfl (fun w4 => ?_)
  refine z_iinc (pls' := [some (qR 88), none, some (qI x2), some (qI x3), some (qI (w32 (x4 + 1))), none, none, none]) d_M_opensState_204 (by decide) rfl rfl rfl ?_
  refine z_goto (tgt := 59) d_M_opensState_207 rfl ?_
  refine z_mask [true, false, true, true, true, false, false, false] ?_
  exact hr59 _ _ _ _
def f_M_opensState_165 (r51 : Int → Int → qMem → Option (qMem)) (r59 : Int → Int → Int → qMem → Option (qMem)) (s1 s2 x2 x3 x4 x5 x6 x7 : Int) (w : qMem) : Option (qMem) :=
  qst w 89 5898 s1 s2 fun w5 =>
  qdv 27 <|
  qst w5 89 5898 (w32 (x7 + 4)) (jdiv x5 27) fun w6 =>
  if x6 = 0 then
  f_M_opensState_203 r51 r59 (w32 (x7 + 5)) (-1) x2 x3 x4 w6
  else
  qdv 4 <|
  f_M_opensState_203 r51 r59 (w32 (x7 + 5)) (jrem (w32 (x6 - 1)) 4) x2 x3 x4 w6
set_option maxRecDepth 4000 in
theorem s_M_opensState_165  {r51 : Int → Int → qMem → Option (qMem)} {r59 : Int → Int → Int → qMem → Option (qMem)} (hr51 : ∀ x2 x3 w, qSim κV 100 100 m_M_opensState 51 [] [some (qR 88), none, some (qI x2), some (qI x3), none, none, none, none] w (r51 x2 x3 w)) (hr59 : ∀ x2 x3 x4 w, qSim κV 100 100 m_M_opensState 59 [] [some (qR 88), none, some (qI x2), some (qI x3), some (qI x4), none, none, none] w (r59 x2 x3 x4 w)) : ∀ (s1 s2 x2 x3 x4 x5 x6 x7 : Int) (w : qMem), qSim κV 100 100 m_M_opensState 165 [qI s2, qI s1, qR 89] [some (qR 88), none, some (qI x2), some (qI x3), some (qI x4), some (qI x5), some (qI x6), some (qI x7)] w (f_M_opensState_165 r51 r59 s1 s2 x2 x3 x4 x5 x6 x7 w) := by
  intro s1 s2 x2 x3 x4 x5 x6 x7 w
  unfold f_M_opensState_165
  refine z_is d_M_opensState_165 rfl rfl (fun w5 => ?_)
  refine z_aload_n d_M_opensState_166 rfl ?_
  refine z_gr (ci := 10) (j := 0) (d := 1) (o2 := 89) d_M_opensState_167 rfl fl_M_7 rfl (Nat.le_of_ble_eq_true rfl) rfl rfl ?_
  refine z_iload d_M_opensState_170 rfl ?_
  refine z_ic4 d_M_opensState_172 ?_
  refine z_iadd d_M_opensState_173 ?_
  refine z_iload d_M_opensState_174 rfl ?_
  refine z_bipush d_M_opensState_176 ⟨by decide, by decide⟩ ?_
  refine z_idiv d_M_opensState_178 (fun _ => ?_)
  refine z_is d_M_opensState_179 rfl rfl (fun w6 => ?_)
  refine z_aload_n d_M_opensState_180 rfl ?_
  refine z_gr (ci := 10) (j := 0) (d := 1) (o2 := 89) d_M_opensState_181 rfl fl_M_7 rfl (Nat.le_of_ble_eq_true rfl) rfl rfl ?_
  refine z_iload d_M_opensState_184 rfl ?_
  refine z_ic5 d_M_opensState_186 ?_
  refine z_iadd d_M_opensState_187 ?_
  refine z_iload d_M_opensState_188 rfl ?_
  refine z_if_ne (tgt := 197) d_M_opensState_190 rfl (fun c7 => ?_) (fun c7 => ?_)
  · refine z_icm1 d_M_opensState_193 ?_
    refine z_goto (tgt := 203) d_M_opensState_194 rfl ?_
    refine z_mask [true, false, true, true, true, false, false, false] ?_
    exact s_M_opensState_203 hr51 hr59 _ _ _ _ _ _
  · refine z_iload d_M_opensState_197 rfl ?_
    refine z_ic1 d_M_opensState_199 ?_
    refine z_isub d_M_opensState_200 ?_
    refine z_ic4 d_M_opensState_201 ?_
    refine z_irem d_M_opensState_202 (fun _ => ?_)
    refine z_mask [true, false, true, true, true, false, false, false] ?_
    exact s_M_opensState_203 hr51 hr59 _ _ _ _ _ _
def f_M_opensState_59 (r51 : Int → Int → qMem → Option (qMem)) : Nat → Int → Int → Int → qMem → Option (qMem)
  | 0, _, _, _, _ => none
  | n + 1, x2, x3, x4, w =>
    if x4 < (w 88 7) then
    qld w 92 7619 (w32 (x2 + x4)) fun v9 =>
    if v9 = 432 then
    (f_M_opensState_59 r51 n) x2 x3 (w32 (x4 + 1)) w
    else
    qdv 3 <|
    if (jrem v9 3) = x3 then
    qdv 3 <|
    qdv 9 <|
    qld w 94 3 x4 fun v12 =>
    (f_M_packetAt v12 w).bind fun q13 =>
    qdv 27 <|
    qld q13.2 94 3 x4 fun v14 =>
    (f_M_comes (jdiv v9 27) (jrem (jdiv v9 3) 9) v14 q13.2).bind fun q15 =>
    if (jrem (jdiv v9 3) 9) = 0 then
    f_M_opensState_165 r51 (f_M_opensState_59 r51 n) (w32 (q13.1 + 3)) 0 x2 x3 x4 v9 (jrem (jdiv v9 3) 9) q13.1 q15
    else
    if (jrem (jdiv v9 3) 9) < 5 then
    f_M_opensState_165 r51 (f_M_opensState_59 r51 n) (w32 (q13.1 + 3)) 1 x2 x3 x4 v9 (jrem (jdiv v9 3) 9) q13.1 q15
    else
    f_M_opensState_165 r51 (f_M_opensState_59 r51 n) (w32 (q13.1 + 3)) 2 x2 x3 x4 v9 (jrem (jdiv v9 3) 9) q13.1 q15
    else
    (f_M_opensState_59 r51 n) x2 x3 (w32 (x4 + 1)) w
    else
    r51 x2 (w32 (x3 + 1)) w
set_option maxRecDepth 4000 in
theorem s_M_opensState_59  {r51 : Int → Int → qMem → Option (qMem)} (hr51 : ∀ x2 x3 w, qSim κV 100 100 m_M_opensState 51 [] [some (qR 88), none, some (qI x2), some (qI x3), none, none, none, none] w (r51 x2 x3 w)) : ∀ (n : Nat), ∀ (x2 x3 x4 : Int) (w : qMem), qSim κV 100 100 m_M_opensState 59 [] [some (qR 88), none, some (qI x2), some (qI x3), some (qI x4), none, none, none] w (f_M_opensState_59 r51 n x2 x3 x4 w) := by
  intro n
  induction n with
  | zero => intro x2 x3 x4 w; exact z_none
  | succ n ih =>
    intro x2 x3 x4 w
    rw [f_M_opensState_59]
    refine z_iload d_M_opensState_59 rfl ?_
    refine z_aload_n d_M_opensState_61 rfl ?_
    refine z_gi (ci := 10) (j := 7) (ji := 7) d_M_opensState_62 rfl fl_M_261 rfl rfl rfl ?_
    refine z_icmp_ge (tgt := 210) d_M_opensState_65 rfl (fun c8 => ?_) (fun c8 => ?_)
    · refine z_aload_n d_M_opensState_68 rfl ?_
      refine z_gr (ci := 10) (j := 4) (d := 4) (o2 := 92) d_M_opensState_69 rfl fl_M_20 rfl (Nat.le_of_ble_eq_true rfl) rfl rfl ?_
      refine z_iload_n d_M_opensState_72 rfl ?_
      refine z_iload d_M_opensState_73 rfl ?_
      refine z_iadd d_M_opensState_75 ?_
      refine z_il d_M_opensState_76 rfl rfl (fun v9 => ?_)
      refine z_istore (pls' := [some (qR 88), none, some (qI x2), some (qI x3), some (qI x4), some (qI v9), none, none]) d_M_opensState_77 (by decide) rfl rfl ?_
      refine z_iload d_M_opensState_79 rfl ?_
      refine z_sipush d_M_opensState_81 ⟨by decide, by decide⟩ ?_
      refine z_icmp_eq (tgt := 204) d_M_opensState_84 rfl (fun c10 => ?_) (fun c10 => ?_)
      · refine z_iinc (pls' := [some (qR 88), none, some (qI x2), some (qI x3), some (qI (w32 (x4 + 1))), some (qI v9), none, none]) d_M_opensState_204 (by decide) rfl rfl rfl ?_
        refine z_goto (tgt := 59) d_M_opensState_207 rfl ?_
        refine z_mask [true, false, true, true, true, false, false, false] ?_
        exact ih _ _ _ _
      · refine z_iload d_M_opensState_87 rfl ?_
        refine z_ic3 d_M_opensState_89 ?_
        refine z_irem d_M_opensState_90 (fun _ => ?_)
        refine z_iload_n d_M_opensState_91 rfl ?_
        refine z_icmp_eq (tgt := 98) d_M_opensState_92 rfl (fun c11 => ?_) (fun c11 => ?_)
        · refine z_iload d_M_opensState_98 rfl ?_
          refine z_ic3 d_M_opensState_100 ?_
          refine z_idiv d_M_opensState_101 (fun _ => ?_)
          refine z_bipush d_M_opensState_102 ⟨by decide, by decide⟩ ?_
          refine z_irem d_M_opensState_104 (fun _ => ?_)
          refine z_istore (pls' := [some (qR 88), none, some (qI x2), some (qI x3), some (qI x4), some (qI v9), some (qI (jrem (jdiv v9 3) 9)), none]) d_M_opensState_105 (by decide) rfl rfl ?_
          refine z_aload_n d_M_opensState_107 rfl ?_
          refine z_gr (ci := 10) (j := 6) (d := 6) (o2 := 94) d_M_opensState_108 rfl fl_M_26 rfl (Nat.le_of_ble_eq_true rfl) rfl rfl ?_
          refine z_iload d_M_opensState_111 rfl ?_
          refine z_il d_M_opensState_113 rfl rfl (fun v12 => ?_)
          refine z_cSI (av := [qI v12]) (st := []) (nl := 0) d_M_opensState_114 lk_M_114 mk_M_packetAt rfl rfl rfl (s_M_packetAt _ _) (fun q13 _ hq13 => ?_)
          refine z_istore (pls' := [some (qR 88), none, some (qI x2), some (qI x3), some (qI x4), some (qI v9), some (qI (jrem (jdiv v9 3) 9)), some (qI q13.1)]) d_M_opensState_117 (by decide) rfl rfl ?_
          refine z_aload_n d_M_opensState_119 rfl ?_
          refine z_iload d_M_opensState_120 rfl ?_
          refine z_bipush d_M_opensState_122 ⟨by decide, by decide⟩ ?_
          refine z_idiv d_M_opensState_124 (fun _ => ?_)
          refine z_iload d_M_opensState_125 rfl ?_
          refine z_aload_n d_M_opensState_127 rfl ?_
          refine z_gr (ci := 10) (j := 6) (d := 6) (o2 := 94) d_M_opensState_128 rfl fl_M_26 rfl (Nat.le_of_ble_eq_true rfl) rfl rfl ?_
          refine z_iload d_M_opensState_131 rfl ?_
          refine z_il d_M_opensState_133 rfl rfl (fun v14 => ?_)
          refine z_cVV (as := [qI (jdiv v9 27), qI (jrem (jdiv v9 3) 9), qI v14]) (st := []) (nl := 1) (ci := 10) d_M_opensState_134 lk_M_120 mk_M_comes rfl rfl rfl rfl rfl rfl (s_M_comes _ _ _ _) (fun q15 _ => ?_)
          refine z_aload_n d_M_opensState_137 rfl ?_
          refine z_gr (ci := 10) (j := 0) (d := 1) (o2 := 89) d_M_opensState_138 rfl fl_M_7 rfl (Nat.le_of_ble_eq_true rfl) rfl rfl ?_
          refine z_iload d_M_opensState_141 rfl ?_
          refine z_ic3 d_M_opensState_143 ?_
          refine z_iadd d_M_opensState_144 ?_
          refine z_iload d_M_opensState_145 rfl ?_
          refine z_if_ne (tgt := 154) d_M_opensState_147 rfl (fun c16 => ?_) (fun c16 => ?_)
          · refine z_ic0 d_M_opensState_150 ?_
            refine z_goto (tgt := 165) d_M_opensState_151 rfl ?_
            refine z_mask [true, false, true, true, true, true, true, true] ?_
            exact s_M_opensState_165 hr51 ih _ _ _ _ _ _ _ _ _
          · refine z_iload d_M_opensState_154 rfl ?_
            refine z_ic5 d_M_opensState_156 ?_
            refine z_icmp_ge (tgt := 164) d_M_opensState_157 rfl (fun c17 => ?_) (fun c17 => ?_)
            · refine z_ic1 d_M_opensState_160 ?_
              refine z_goto (tgt := 165) d_M_opensState_161 rfl ?_
              refine z_mask [true, false, true, true, true, true, true, true] ?_
              exact s_M_opensState_165 hr51 ih _ _ _ _ _ _ _ _ _
            · refine z_ic2 d_M_opensState_164 ?_
              refine z_mask [true, false, true, true, true, true, true, true] ?_
              exact s_M_opensState_165 hr51 ih _ _ _ _ _ _ _ _ _
        · refine z_goto (tgt := 204) d_M_opensState_95 rfl ?_
          refine z_iinc (pls' := [some (qR 88), none, some (qI x2), some (qI x3), some (qI (w32 (x4 + 1))), some (qI v9), none, none]) d_M_opensState_204 (by decide) rfl rfl rfl ?_
          refine z_goto (tgt := 59) d_M_opensState_207 rfl ?_
          refine z_mask [true, false, true, true, true, false, false, false] ?_
          exact ih _ _ _ _
    · refine z_iinc (pls' := [some (qR 88), none, some (qI x2), some (qI (w32 (x3 + 1))), some (qI x4), none, none, none]) d_M_opensState_210 (by decide) rfl rfl rfl ?_
      refine z_goto (tgt := 51) d_M_opensState_213 rfl ?_
      refine z_mask [true, false, true, true, false, false, false, false] ?_
      exact hr51 _ _ _
def f_M_opensState_218 : Nat → Int → Int → qMem → Option (qMem)
  | 0, _, _, _ => none
  | n + 1, x2, x3, w =>
    if x3 < 16 then
    (f_M_ringAt x3 w).bind fun q19 =>
    qld q19.2 92 7619 (w32 ((w32 (x2 + 3)) + x3)) fun v20 =>
    qst q19.2 89 5898 (w32 (q19.1 + 0)) v20 fun w21 =>
    (f_M_opensState_218 n) x2 (w32 (x3 + 1)) w21
    else
    some w
set_option maxRecDepth 4000 in
theorem s_M_opensState_218  : ∀ (n : Nat), ∀ (x2 x3 : Int) (w : qMem), qSim κV 100 100 m_M_opensState 218 [] [some (qR 88), none, some (qI x2), some (qI x3), none, none, none, none] w (f_M_opensState_218 n x2 x3 w) := by
  intro n
  induction n with
  | zero => intro x2 x3 w; exact z_none
  | succ n ih =>
    intro x2 x3 w
    rw [f_M_opensState_218]
    refine z_iload_n d_M_opensState_218 rfl ?_
    refine z_bipush d_M_opensState_219 ⟨by decide, by decide⟩ ?_
    refine z_icmp_ge (tgt := 251) d_M_opensState_221 rfl (fun c18 => ?_) (fun c18 => ?_)
    · refine z_aload_n d_M_opensState_224 rfl ?_
      refine z_gr (ci := 10) (j := 0) (d := 1) (o2 := 89) d_M_opensState_225 rfl fl_M_7 rfl (Nat.le_of_ble_eq_true rfl) rfl rfl ?_
      refine z_iload_n d_M_opensState_228 rfl ?_
      refine z_cSI (av := [qI x3]) (st := [qR 89]) (nl := 0) d_M_opensState_229 lk_M_58 mk_M_ringAt rfl rfl rfl (s_M_ringAt _ _) (fun q19 _ hq19 => ?_)
      refine z_ic0 d_M_opensState_232 ?_
      refine z_iadd d_M_opensState_233 ?_
      refine z_aload_n d_M_opensState_234 rfl ?_
      refine z_gr (ci := 10) (j := 4) (d := 4) (o2 := 92) d_M_opensState_235 rfl fl_M_20 rfl (Nat.le_of_ble_eq_true rfl) rfl rfl ?_
      refine z_iload_n d_M_opensState_238 rfl ?_
      refine z_ic3 d_M_opensState_239 ?_
      refine z_iadd d_M_opensState_240 ?_
      refine z_iload_n d_M_opensState_241 rfl ?_
      refine z_iadd d_M_opensState_242 ?_
      refine z_il d_M_opensState_243 rfl rfl (fun v20 => ?_)
      refine z_is d_M_opensState_244 rfl rfl (fun w21 => ?_)
      refine z_iinc (pls' := [some (qR 88), none, some (qI x2), some (qI (w32 (x3 + 1))), none, none, none, none]) d_M_opensState_245 (by decide) rfl rfl rfl ?_
      refine z_goto (tgt := 218) d_M_opensState_248 rfl ?_
      refine z_mask [true, false, true, true, false, false, false, false] ?_
      exact ih _ _ _
    · exact z_vret d_M_opensState_251 rfl rfl
def f_M_opensState_216 (x2 : Int) (w : qMem) : Option (qMem) :=
  f_M_opensState_218 qFU x2 0 w
set_option maxRecDepth 4000 in
theorem s_M_opensState_216  : ∀ (x2 : Int) (w : qMem), qSim κV 100 100 m_M_opensState 216 [] [some (qR 88), none, some (qI x2), none, none, none, none, none] w (f_M_opensState_216 x2 w) := by
  intro x2 w
  unfold f_M_opensState_216
  refine z_ic0 d_M_opensState_216 ?_
  refine z_istore_n (pls' := [some (qR 88), none, some (qI x2), some (qI 0), none, none, none, none]) d_M_opensState_217 (by decide) rfl rfl ?_
  refine z_mask [true, false, true, true, false, false, false, false] ?_
  exact s_M_opensState_218 _ _ _ _
def f_M_opensState_51 : Nat → Int → Int → qMem → Option (qMem)
  | 0, _, _, _ => none
  | n + 1, x2, x3, w =>
    if x3 < 3 then
    f_M_opensState_59 (f_M_opensState_51 n) qFU x2 x3 0 w
    else
    f_M_opensState_216 x2 w
set_option maxRecDepth 4000 in
theorem s_M_opensState_51  : ∀ (n : Nat), ∀ (x2 x3 : Int) (w : qMem), qSim κV 100 100 m_M_opensState 51 [] [some (qR 88), none, some (qI x2), some (qI x3), none, none, none, none] w (f_M_opensState_51 n x2 x3 w) := by
  intro n
  induction n with
  | zero => intro x2 x3 w; exact z_none
  | succ n ih =>
    intro x2 x3 w
    rw [f_M_opensState_51]
    refine z_iload_n d_M_opensState_51 rfl ?_
    refine z_ic3 d_M_opensState_52 ?_
    refine z_icmp_ge (tgt := 216) d_M_opensState_53 rfl (fun c22 => ?_) (fun c22 => ?_)
    · refine z_ic0 d_M_opensState_56 ?_
      refine z_istore (pls' := [some (qR 88), none, some (qI x2), some (qI x3), some (qI 0), none, none, none]) d_M_opensState_57 (by decide) rfl rfl ?_
      refine z_mask [true, false, true, true, true, false, false, false] ?_
      exact s_M_opensState_59 ih _ _ _ _ _
    · refine z_mask [true, false, true, false, false, false, false, false] ?_
      exact s_M_opensState_216 _ _
def f_M_opensState_49 (x2 : Int) (w : qMem) : Option (qMem) :=
  f_M_opensState_51 qFU x2 0 w
set_option maxRecDepth 4000 in
theorem s_M_opensState_49  : ∀ (x2 : Int) (w : qMem), qSim κV 100 100 m_M_opensState 49 [] [some (qR 88), none, some (qI x2), none, none, none, none, none] w (f_M_opensState_49 x2 w) := by
  intro x2 w
  unfold f_M_opensState_49
  refine z_ic0 d_M_opensState_49 ?_
  refine z_istore_n (pls' := [some (qR 88), none, some (qI x2), some (qI 0), none, none, none, none]) d_M_opensState_50 (by decide) rfl rfl ?_
  refine z_mask [true, false, true, true, false, false, false, false] ?_
  exact s_M_opensState_51 _ _ _ _
def f_M_opensState_7 : Nat → Int → Int → qMem → Option (qMem)
  | 0, _, _, _ => none
  | n + 1, x2, x3, w =>
    (f_M_nodes w).bind fun q23 =>
    if x3 < q23.1 then
    f_M_opensState_18 (f_M_opensState_7 n) qFU x2 x3 0 q23.2
    else
    f_M_opensState_49 x2 q23.2
set_option maxRecDepth 4000 in
theorem s_M_opensState_7  : ∀ (n : Nat), ∀ (x2 x3 : Int) (w : qMem), qSim κV 100 100 m_M_opensState 7 [] [some (qR 88), none, some (qI x2), some (qI x3), none, none, none, none] w (f_M_opensState_7 n x2 x3 w) := by
  intro n
  induction n with
  | zero => intro x2 x3 w; exact z_none
  | succ n ih =>
    intro x2 x3 w
    rw [f_M_opensState_7]
    refine z_iload_n d_M_opensState_7 rfl ?_
    refine z_aload_n d_M_opensState_8 rfl ?_
    refine z_cVI (as := []) (st := [qI x3]) (nl := 0) (ci := 10) d_M_opensState_9 lk_M_72 mk_M_nodes rfl rfl rfl rfl rfl rfl (s_M_nodes _) (fun q23 _ hq23 => ?_)
    refine z_icmp_ge (tgt := 49) d_M_opensState_12 rfl (fun c24 => ?_) (fun c24 => ?_)
    · refine z_ic0 d_M_opensState_15 ?_
      refine z_istore (pls' := [some (qR 88), none, some (qI x2), some (qI x3), some (qI 0), none, none, none]) d_M_opensState_16 (by decide) rfl rfl ?_
      refine z_mask [true, false, true, true, true, false, false, false] ?_
      exact s_M_opensState_18 ih _ _ _ _ _
    · refine z_mask [true, false, true, false, false, false, false, false] ?_
      exact s_M_opensState_49 _ _
def f_M_opensState (x1 : Int) (w : qMem) : Option (qMem) :=
  f_M_opensState_7 qFU (w32 (19 * x1)) 0 w
set_option maxRecDepth 4000 in
theorem s_M_opensState (x1 : Int) (w : qMem) : qSim κV 100 100 m_M_opensState 0 [] [some (qR 88), some (qI x1), none, none, none, none, none, none] w (f_M_opensState x1 w) := by
  unfold f_M_opensState
  refine z_bipush d_M_opensState_0 ⟨by decide, by decide⟩ ?_
  refine z_iload_n d_M_opensState_2 rfl ?_
  refine z_imul d_M_opensState_3 ?_
  refine z_istore_n (pls' := [some (qR 88), some (qI x1), some (qI (w32 (19 * x1))), none, none, none, none, none]) d_M_opensState_4 (by decide) rfl rfl ?_
  refine z_ic0 d_M_opensState_5 ?_
  refine z_istore_n (pls' := [some (qR 88), some (qI x1), some (qI (w32 (19 * x1))), some (qI 0), none, none, none, none]) d_M_opensState_6 (by decide) rfl rfl ?_
  refine z_mask [true, false, true, true, false, false, false, false] ?_
  exact s_M_opensState_7 _ _ _ _
/-! BubbleTorusModel.comesFrom -/
theorem d_M_comesFrom_0 : decode m_M_comesFrom.2.1 0 = .ok (.aload_n 0, 1) := by decide +kernel
theorem d_M_comesFrom_1 : decode m_M_comesFrom.2.1 1 = .ok (.invokevirtual 270, 3) := by decide +kernel
theorem d_M_comesFrom_4 : decode m_M_comesFrom.2.1 4 = .ok (.istore_n 2, 1) := by decide +kernel
theorem d_M_comesFrom_5 : decode m_M_comesFrom.2.1 5 = .ok (.aload_n 0, 1) := by decide +kernel
theorem d_M_comesFrom_6 : decode m_M_comesFrom.2.1 6 = .ok (.getfield 264, 3) := by decide +kernel
theorem d_M_comesFrom_9 : decode m_M_comesFrom.2.1 9 = .ok (.sipush 400, 3) := by decide +kernel
theorem d_M_comesFrom_12 : decode m_M_comesFrom.2.1 12 = .ok (.if_icmp .le 5, 3) := by decide +kernel
theorem d_M_comesFrom_15 : decode m_M_comesFrom.2.1 15 = .ok (.iconst 0, 1) := by decide +kernel
theorem d_M_comesFrom_16 : decode m_M_comesFrom.2.1 16 = .ok (.ireturn, 1) := by decide +kernel
theorem d_M_comesFrom_17 : decode m_M_comesFrom.2.1 17 = .ok (.aload_n 0, 1) := by decide +kernel
theorem d_M_comesFrom_18 : decode m_M_comesFrom.2.1 18 = .ok (.getfield 23, 3) := by decide +kernel
theorem d_M_comesFrom_21 : decode m_M_comesFrom.2.1 21 = .ok (.iload_n 2, 1) := by decide +kernel
theorem d_M_comesFrom_22 : decode m_M_comesFrom.2.1 22 = .ok (.aload_n 0, 1) := by decide +kernel
theorem d_M_comesFrom_23 : decode m_M_comesFrom.2.1 23 = .ok (.getfield 23, 3) := by decide +kernel
theorem d_M_comesFrom_26 : decode m_M_comesFrom.2.1 26 = .ok (.iload_n 2, 1) := by decide +kernel
theorem d_M_comesFrom_27 : decode m_M_comesFrom.2.1 27 = .ok (.iaload, 1) := by decide +kernel
theorem d_M_comesFrom_28 : decode m_M_comesFrom.2.1 28 = .ok (.aload_n 0, 1) := by decide +kernel
theorem d_M_comesFrom_29 : decode m_M_comesFrom.2.1 29 = .ok (.getfield 23, 3) := by decide +kernel
theorem d_M_comesFrom_32 : decode m_M_comesFrom.2.1 32 = .ok (.iload_n 1, 1) := by decide +kernel
theorem d_M_comesFrom_33 : decode m_M_comesFrom.2.1 33 = .ok (.iaload, 1) := by decide +kernel
theorem d_M_comesFrom_34 : decode m_M_comesFrom.2.1 34 = .ok (.iadd, 1) := by decide +kernel
theorem d_M_comesFrom_35 : decode m_M_comesFrom.2.1 35 = .ok (.ldc_w 273, 3) := by decide +kernel
theorem d_M_comesFrom_38 : decode m_M_comesFrom.2.1 38 = .ok (.irem, 1) := by decide +kernel
theorem d_M_comesFrom_39 : decode m_M_comesFrom.2.1 39 = .ok (.iastore, 1) := by decide +kernel
theorem d_M_comesFrom_40 : decode m_M_comesFrom.2.1 40 = .ok (.aload_n 0, 1) := by decide +kernel
theorem d_M_comesFrom_41 : decode m_M_comesFrom.2.1 41 = .ok (.iload_n 1, 1) := by decide +kernel
theorem d_M_comesFrom_42 : decode m_M_comesFrom.2.1 42 = .ok (.invokevirtual 274, 3) := by decide +kernel
theorem d_M_comesFrom_45 : decode m_M_comesFrom.2.1 45 = .ok (.iconst 1, 1) := by decide +kernel
theorem d_M_comesFrom_46 : decode m_M_comesFrom.2.1 46 = .ok (.ireturn, 1) := by decide +kernel
def f_M_comesFrom (x1 : Int) (w : qMem) : Option (Int × qMem) :=
  (f_M_meetsState w).bind fun q1 =>
  if (q1.2 88 8) ≤ 400 then
  qld q1.2 93 401 q1.1 fun v3 =>
  qld q1.2 93 401 x1 fun v4 =>
  qdv 1000003 <|
  qst q1.2 93 401 q1.1 (jrem (w32 (v3 + v4)) 1000003) fun w5 =>
  (f_M_opensState x1 w5).bind fun q6 =>
  some (1, q6)
  else
  some (0, q1.2)
set_option maxRecDepth 4000 in
theorem s_M_comesFrom (x1 : Int) (w : qMem) : qSim κI 100 100 m_M_comesFrom 0 [] [some (qR 88), some (qI x1), none] w (f_M_comesFrom x1 w) := by
  unfold f_M_comesFrom
  refine z_aload_n d_M_comesFrom_0 rfl ?_
  refine z_cVI (as := []) (st := []) (nl := 3) (ci := 10) d_M_comesFrom_1 lk_M_270 mk_M_meetsState rfl rfl rfl rfl rfl rfl (s_M_meetsState _) (fun q1 _ hq1 => ?_)
  refine z_istore_n (pls' := [some (qR 88), some (qI x1), some (qI q1.1)]) d_M_comesFrom_4 (by decide) rfl rfl ?_
  refine z_aload_n d_M_comesFrom_5 rfl ?_
  refine z_gi (ci := 10) (j := 8) (ji := 8) d_M_comesFrom_6 rfl fl_M_264 rfl rfl rfl ?_
  refine z_sipush d_M_comesFrom_9 ⟨by decide, by decide⟩ ?_
  refine z_icmp_le (tgt := 17) d_M_comesFrom_12 rfl (fun c2 => ?_) (fun c2 => ?_)
  · refine z_aload_n d_M_comesFrom_17 rfl ?_
    refine z_gr (ci := 10) (j := 5) (d := 5) (o2 := 93) d_M_comesFrom_18 rfl fl_M_23 rfl (Nat.le_of_ble_eq_true rfl) rfl rfl ?_
    refine z_iload_n d_M_comesFrom_21 rfl ?_
    refine z_aload_n d_M_comesFrom_22 rfl ?_
    refine z_gr (ci := 10) (j := 5) (d := 5) (o2 := 93) d_M_comesFrom_23 rfl fl_M_23 rfl (Nat.le_of_ble_eq_true rfl) rfl rfl ?_
    refine z_iload_n d_M_comesFrom_26 rfl ?_
    refine z_il d_M_comesFrom_27 rfl rfl (fun v3 => ?_)
    refine z_aload_n d_M_comesFrom_28 rfl ?_
    refine z_gr (ci := 10) (j := 5) (d := 5) (o2 := 93) d_M_comesFrom_29 rfl fl_M_23 rfl (Nat.le_of_ble_eq_true rfl) rfl rfl ?_
    refine z_iload_n d_M_comesFrom_32 rfl ?_
    refine z_il d_M_comesFrom_33 rfl rfl (fun v4 => ?_)
    refine z_iadd d_M_comesFrom_34 ?_
    refine z_ldc_w (n := 1000003) d_M_comesFrom_35 ck_M_273 (by decide) ?_
    refine z_irem d_M_comesFrom_38 (fun _ => ?_)
    refine z_is d_M_comesFrom_39 rfl rfl (fun w5 => ?_)
    refine z_aload_n d_M_comesFrom_40 rfl ?_
    refine z_iload_n d_M_comesFrom_41 rfl ?_
    refine z_cVV (as := [qI x1]) (st := []) (nl := 6) (ci := 10) d_M_comesFrom_42 lk_M_274 mk_M_opensState rfl rfl rfl rfl rfl rfl (s_M_opensState _ _) (fun q6 _ => ?_)
    refine z_ic1 d_M_comesFrom_45 ?_
    exact z_zret d_M_comesFrom_46 rfl rfl (Or.inr rfl)
  · refine z_ic0 d_M_comesFrom_15 ?_
    exact z_zret d_M_comesFrom_16 rfl rfl (Or.inl rfl)
/-! BubbleTorusModel.stepsTo -/
theorem d_M_stepsTo_0 : decode m_M_stepsTo.2.1 0 = .ok (.aload_n 0, 1) := by decide +kernel
theorem d_M_stepsTo_1 : decode m_M_stepsTo.2.1 1 = .ok (.iload_n 2, 1) := by decide +kernel
theorem d_M_stepsTo_2 : decode m_M_stepsTo.2.1 2 = .ok (.iload_n 3, 1) := by decide +kernel
theorem d_M_stepsTo_3 : decode m_M_stepsTo.2.1 3 = .ok (.invokevirtual 145, 3) := by decide +kernel
theorem d_M_stepsTo_6 : decode m_M_stepsTo.2.1 6 = .ok (.istore 6, 2) := by decide +kernel
theorem d_M_stepsTo_8 : decode m_M_stepsTo.2.1 8 = .ok (.aload_n 0, 1) := by decide +kernel
theorem d_M_stepsTo_9 : decode m_M_stepsTo.2.1 9 = .ok (.iload_n 2, 1) := by decide +kernel
theorem d_M_stepsTo_10 : decode m_M_stepsTo.2.1 10 = .ok (.iload 4, 2) := by decide +kernel
theorem d_M_stepsTo_12 : decode m_M_stepsTo.2.1 12 = .ok (.invokevirtual 79, 3) := by decide +kernel
theorem d_M_stepsTo_15 : decode m_M_stepsTo.2.1 15 = .ok (.istore 7, 2) := by decide +kernel
theorem d_M_stepsTo_17 : decode m_M_stepsTo.2.1 17 = .ok (.aload_n 0, 1) := by decide +kernel
theorem d_M_stepsTo_18 : decode m_M_stepsTo.2.1 18 = .ok (.iload_n 2, 1) := by decide +kernel
theorem d_M_stepsTo_19 : decode m_M_stepsTo.2.1 19 = .ok (.iload 4, 2) := by decide +kernel
theorem d_M_stepsTo_21 : decode m_M_stepsTo.2.1 21 = .ok (.invokevirtual 102, 3) := by decide +kernel
theorem d_M_stepsTo_24 : decode m_M_stepsTo.2.1 24 = .ok (.invokestatic 58, 3) := by decide +kernel
theorem d_M_stepsTo_27 : decode m_M_stepsTo.2.1 27 = .ok (.istore 8, 2) := by decide +kernel
theorem d_M_stepsTo_29 : decode m_M_stepsTo.2.1 29 = .ok (.iload 5, 2) := by decide +kernel
theorem d_M_stepsTo_31 : decode m_M_stepsTo.2.1 31 = .ok (.ifCond .ne 63, 3) := by decide +kernel
theorem d_M_stepsTo_34 : decode m_M_stepsTo.2.1 34 = .ok (.aload_n 0, 1) := by decide +kernel
theorem d_M_stepsTo_35 : decode m_M_stepsTo.2.1 35 = .ok (.iload 6, 2) := by decide +kernel
theorem d_M_stepsTo_37 : decode m_M_stepsTo.2.1 37 = .ok (.iload_n 2, 1) := by decide +kernel
theorem d_M_stepsTo_38 : decode m_M_stepsTo.2.1 38 = .ok (.iload 4, 2) := by decide +kernel
theorem d_M_stepsTo_40 : decode m_M_stepsTo.2.1 40 = .ok (.invokevirtual 155, 3) := by decide +kernel
theorem d_M_stepsTo_43 : decode m_M_stepsTo.2.1 43 = .ok (.ifCond .eq 51, 3) := by decide +kernel
theorem d_M_stepsTo_46 : decode m_M_stepsTo.2.1 46 = .ok (.aload_n 0, 1) := by decide +kernel
theorem d_M_stepsTo_47 : decode m_M_stepsTo.2.1 47 = .ok (.getfield 7, 3) := by decide +kernel
theorem d_M_stepsTo_50 : decode m_M_stepsTo.2.1 50 = .ok (.iconst 4, 1) := by decide +kernel
theorem d_M_stepsTo_51 : decode m_M_stepsTo.2.1 51 = .ok (.iaload, 1) := by decide +kernel
theorem d_M_stepsTo_52 : decode m_M_stepsTo.2.1 52 = .ok (.iconst 2, 1) := by decide +kernel
theorem d_M_stepsTo_53 : decode m_M_stepsTo.2.1 53 = .ok (.if_icmp .ne 41, 3) := by decide +kernel
theorem d_M_stepsTo_56 : decode m_M_stepsTo.2.1 56 = .ok (.aload_n 0, 1) := by decide +kernel
theorem d_M_stepsTo_57 : decode m_M_stepsTo.2.1 57 = .ok (.getfield 7, 3) := by decide +kernel
theorem d_M_stepsTo_60 : decode m_M_stepsTo.2.1 60 = .ok (.iload 8, 2) := by decide +kernel
theorem d_M_stepsTo_62 : decode m_M_stepsTo.2.1 62 = .ok (.iconst 0, 1) := by decide +kernel
theorem d_M_stepsTo_63 : decode m_M_stepsTo.2.1 63 = .ok (.iadd, 1) := by decide +kernel
theorem d_M_stepsTo_64 : decode m_M_stepsTo.2.1 64 = .ok (.iaload, 1) := by decide +kernel
theorem d_M_stepsTo_65 : decode m_M_stepsTo.2.1 65 = .ok (.iload 7, 2) := by decide +kernel
theorem d_M_stepsTo_67 : decode m_M_stepsTo.2.1 67 = .ok (.if_icmp .ne 27, 3) := by decide +kernel
theorem d_M_stepsTo_70 : decode m_M_stepsTo.2.1 70 = .ok (.aload_n 0, 1) := by decide +kernel
theorem d_M_stepsTo_71 : decode m_M_stepsTo.2.1 71 = .ok (.iload 7, 2) := by decide +kernel
theorem d_M_stepsTo_73 : decode m_M_stepsTo.2.1 73 = .ok (.iconst 1, 1) := by decide +kernel
theorem d_M_stepsTo_74 : decode m_M_stepsTo.2.1 74 = .ok (.iload 4, 2) := by decide +kernel
theorem d_M_stepsTo_76 : decode m_M_stepsTo.2.1 76 = .ok (.iadd, 1) := by decide +kernel
theorem d_M_stepsTo_77 : decode m_M_stepsTo.2.1 77 = .ok (.invokevirtual 117, 3) := by decide +kernel
theorem d_M_stepsTo_80 : decode m_M_stepsTo.2.1 80 = .ok (.iconst 1, 1) := by decide +kernel
theorem d_M_stepsTo_81 : decode m_M_stepsTo.2.1 81 = .ok (.if_icmp .ne 13, 3) := by decide +kernel
theorem d_M_stepsTo_84 : decode m_M_stepsTo.2.1 84 = .ok (.aload_n 0, 1) := by decide +kernel
theorem d_M_stepsTo_85 : decode m_M_stepsTo.2.1 85 = .ok (.getfield 7, 3) := by decide +kernel
theorem d_M_stepsTo_88 : decode m_M_stepsTo.2.1 88 = .ok (.iload 8, 2) := by decide +kernel
theorem d_M_stepsTo_90 : decode m_M_stepsTo.2.1 90 = .ok (.iconst 0, 1) := by decide +kernel
theorem d_M_stepsTo_91 : decode m_M_stepsTo.2.1 91 = .ok (.iadd, 1) := by decide +kernel
theorem d_M_stepsTo_92 : decode m_M_stepsTo.2.1 92 = .ok (.iload_n 2, 1) := by decide +kernel
theorem d_M_stepsTo_93 : decode m_M_stepsTo.2.1 93 = .ok (.iastore, 1) := by decide +kernel
theorem d_M_stepsTo_94 : decode m_M_stepsTo.2.1 94 = .ok (.aload_n 0, 1) := by decide +kernel
theorem d_M_stepsTo_95 : decode m_M_stepsTo.2.1 95 = .ok (.iload_n 2, 1) := by decide +kernel
theorem d_M_stepsTo_96 : decode m_M_stepsTo.2.1 96 = .ok (.iload_n 3, 1) := by decide +kernel
theorem d_M_stepsTo_97 : decode m_M_stepsTo.2.1 97 = .ok (.invokevirtual 148, 3) := by decide +kernel
theorem d_M_stepsTo_100 : decode m_M_stepsTo.2.1 100 = .ok (.aload_n 0, 1) := by decide +kernel
theorem d_M_stepsTo_101 : decode m_M_stepsTo.2.1 101 = .ok (.iload 7, 2) := by decide +kernel
theorem d_M_stepsTo_103 : decode m_M_stepsTo.2.1 103 = .ok (.iload 5, 2) := by decide +kernel
theorem d_M_stepsTo_105 : decode m_M_stepsTo.2.1 105 = .ok (.ifCond .eq 7, 3) := by decide +kernel
theorem d_M_stepsTo_108 : decode m_M_stepsTo.2.1 108 = .ok (.iconst 5, 1) := by decide +kernel
theorem d_M_stepsTo_109 : decode m_M_stepsTo.2.1 109 = .ok (.goto 4, 3) := by decide +kernel
theorem d_M_stepsTo_112 : decode m_M_stepsTo.2.1 112 = .ok (.iconst 1, 1) := by decide +kernel
theorem d_M_stepsTo_113 : decode m_M_stepsTo.2.1 113 = .ok (.iload 4, 2) := by decide +kernel
theorem d_M_stepsTo_115 : decode m_M_stepsTo.2.1 115 = .ok (.iadd, 1) := by decide +kernel
theorem d_M_stepsTo_116 : decode m_M_stepsTo.2.1 116 = .ok (.iload 6, 2) := by decide +kernel
theorem d_M_stepsTo_118 : decode m_M_stepsTo.2.1 118 = .ok (.invokevirtual 120, 3) := by decide +kernel
theorem d_M_stepsTo_121 : decode m_M_stepsTo.2.1 121 = .ok (.aload_n 0, 1) := by decide +kernel
theorem d_M_stepsTo_122 : decode m_M_stepsTo.2.1 122 = .ok (.iload_n 1, 1) := by decide +kernel
theorem d_M_stepsTo_123 : decode m_M_stepsTo.2.1 123 = .ok (.invokevirtual 277, 3) := by decide +kernel
theorem d_M_stepsTo_126 : decode m_M_stepsTo.2.1 126 = .ok (.ireturn, 1) := by decide +kernel
def f_M_stepsTo_113 (s1 s2 x1 x4 x6 : Int) (w : qMem) : Option (Int × qMem) :=
  (f_M_comes s1 (w32 (s2 + x4)) x6 w).bind fun q1 =>
  (f_M_comesFrom x1 q1).bind fun q2 =>
  some (q2.1, q2.2)
set_option maxRecDepth 4000 in
theorem s_M_stepsTo_113  : ∀ (s1 s2 x1 x4 x6 : Int) (w : qMem), qSim κI 100 100 m_M_stepsTo 113 [qI s2, qI s1, qR 88] [some (qR 88), some (qI x1), none, none, some (qI x4), none, some (qI x6), none, none] w (f_M_stepsTo_113 s1 s2 x1 x4 x6 w) := by
  intro s1 s2 x1 x4 x6 w
  unfold f_M_stepsTo_113
  refine z_iload d_M_stepsTo_113 rfl ?_
  refine z_iadd d_M_stepsTo_115 ?_
  refine z_iload d_M_stepsTo_116 rfl ?_
  refine z_cVV (as := [qI s1, qI (w32 (s2 + x4)), qI x6]) (st := []) (nl := 1) (ci := 10) d_M_stepsTo_118 lk_M_120 mk_M_comes rfl rfl rfl rfl rfl rfl (s_M_comes _ _ _ _) (fun q1 _ => ?_)
  refine z_aload_n d_M_stepsTo_121 rfl ?_
  refine z_iload_n d_M_stepsTo_122 rfl ?_
  refine z_cVI (as := [qI x1]) (st := []) (nl := 1) (ci := 10) d_M_stepsTo_123 lk_M_277 mk_M_comesFrom rfl rfl rfl rfl rfl rfl (s_M_comesFrom _ _) (fun q2 _ hq2 => ?_)
  exact z_zret d_M_stepsTo_126 rfl rfl (q_boo rfl hq2)
def f_M_stepsTo_94 (x1 x2 x3 x4 x5 x6 x7 : Int) (w : qMem) : Option (Int × qMem) :=
  (f_M_leaves x2 x3 w).bind fun q3 =>
  if x5 = 0 then
  f_M_stepsTo_113 x7 1 x1 x4 x6 q3
  else
  f_M_stepsTo_113 x7 5 x1 x4 x6 q3
set_option maxRecDepth 4000 in
theorem s_M_stepsTo_94  : ∀ (x1 x2 x3 x4 x5 x6 x7 : Int) (w : qMem), qSim κI 100 100 m_M_stepsTo 94 [] [some (qR 88), some (qI x1), some (qI x2), some (qI x3), some (qI x4), some (qI x5), some (qI x6), some (qI x7), none] w (f_M_stepsTo_94 x1 x2 x3 x4 x5 x6 x7 w) := by
  intro x1 x2 x3 x4 x5 x6 x7 w
  unfold f_M_stepsTo_94
  refine z_aload_n d_M_stepsTo_94 rfl ?_
  refine z_iload_n d_M_stepsTo_95 rfl ?_
  refine z_iload_n d_M_stepsTo_96 rfl ?_
  refine z_cVV (as := [qI x2, qI x3]) (st := []) (nl := 2) (ci := 10) d_M_stepsTo_97 lk_M_148 mk_M_leaves rfl rfl rfl rfl rfl rfl (s_M_leaves _ _ _) (fun q3 _ => ?_)
  refine z_aload_n d_M_stepsTo_100 rfl ?_
  refine z_iload d_M_stepsTo_101 rfl ?_
  refine z_iload d_M_stepsTo_103 rfl ?_
  refine z_if_eq (tgt := 112) d_M_stepsTo_105 rfl (fun c4 => ?_) (fun c4 => ?_)
  · refine z_ic1 d_M_stepsTo_112 ?_
    refine z_mask [true, true, false, false, true, false, true, false, false] ?_
    exact s_M_stepsTo_113 _ _ _ _ _ _
  · refine z_ic5 d_M_stepsTo_108 ?_
    refine z_goto (tgt := 113) d_M_stepsTo_109 rfl ?_
    refine z_mask [true, true, false, false, true, false, true, false, false] ?_
    exact s_M_stepsTo_113 _ _ _ _ _ _
def f_M_stepsTo (x1 : Int) (x2 : Int) (x3 : Int) (x4 : Int) (x5 : Int) (w : qMem) : Option (Int × qMem) :=
  (f_M_firstOf x2 x3 w).bind fun q5 =>
  (f_M_nextOf x2 x4 q5.2).bind fun q6 =>
  (f_M_ringFor x2 x4 q6.2).bind fun q7 =>
  (f_M_ringAt q7.1 q7.2).bind fun q8 =>
  if x5 = 0 then
  (f_M_doesContinue q5.1 x2 x4 q8.2).bind fun q10 =>
  if q10.1 = 0 then
  f_M_stepsTo_94 x1 x2 x3 x4 x5 q5.1 q6.1 q10.2
  else
  qld q10.2 89 5898 4 fun v12 =>
  if v12 = 2 then
  qld q10.2 89 5898 (w32 (q8.1 + 0)) fun v14 =>
  if v14 = q6.1 then
  (f_M_free q6.1 (w32 (1 + x4)) q10.2).bind fun q16 =>
  if q16.1 = 1 then
  qst q16.2 89 5898 (w32 (q8.1 + 0)) x2 fun w18 =>
  f_M_stepsTo_94 x1 x2 x3 x4 x5 q5.1 q6.1 w18
  else
  f_M_stepsTo_94 x1 x2 x3 x4 x5 q5.1 q6.1 q16.2
  else
  f_M_stepsTo_94 x1 x2 x3 x4 x5 q5.1 q6.1 q10.2
  else
  f_M_stepsTo_94 x1 x2 x3 x4 x5 q5.1 q6.1 q10.2
  else
  f_M_stepsTo_94 x1 x2 x3 x4 x5 q5.1 q6.1 q8.2
set_option maxRecDepth 4000 in
theorem s_M_stepsTo (x1 : Int) (x2 : Int) (x3 : Int) (x4 : Int) (x5 : Int) (w : qMem) : qSim κI 100 100 m_M_stepsTo 0 [] [some (qR 88), some (qI x1), some (qI x2), some (qI x3), some (qI x4), some (qI x5), none, none, none] w (f_M_stepsTo x1 x2 x3 x4 x5 w) := by
  unfold f_M_stepsTo
  refine z_aload_n d_M_stepsTo_0 rfl ?_
  refine z_iload_n d_M_stepsTo_1 rfl ?_
  refine z_iload_n d_M_stepsTo_2 rfl ?_
  refine z_cVI (as := [qI x2, qI x3]) (st := []) (nl := 0) (ci := 10) d_M_stepsTo_3 lk_M_145 mk_M_firstOf rfl rfl rfl rfl rfl rfl (s_M_firstOf _ _ _) (fun q5 _ hq5 => ?_)
  refine z_istore (pls' := [some (qR 88), some (qI x1), some (qI x2), some (qI x3), some (qI x4), some (qI x5), some (qI q5.1), none, none]) d_M_stepsTo_6 (by decide) rfl rfl ?_
  refine z_aload_n d_M_stepsTo_8 rfl ?_
  refine z_iload_n d_M_stepsTo_9 rfl ?_
  refine z_iload d_M_stepsTo_10 rfl ?_
  refine z_cVI (as := [qI x2, qI x4]) (st := []) (nl := 2) (ci := 10) d_M_stepsTo_12 lk_M_79 mk_M_nextOf rfl rfl rfl rfl rfl rfl (s_M_nextOf _ _ _) (fun q6 _ hq6 => ?_)
  refine z_istore (pls' := [some (qR 88), some (qI x1), some (qI x2), some (qI x3), some (qI x4), some (qI x5), some (qI q5.1), some (qI q6.1), none]) d_M_stepsTo_15 (by decide) rfl rfl ?_
  refine z_aload_n d_M_stepsTo_17 rfl ?_
  refine z_iload_n d_M_stepsTo_18 rfl ?_
  refine z_iload d_M_stepsTo_19 rfl ?_
  refine z_cVI (as := [qI x2, qI x4]) (st := []) (nl := 0) (ci := 10) d_M_stepsTo_21 lk_M_102 mk_M_ringFor rfl rfl rfl rfl rfl rfl (s_M_ringFor _ _ _) (fun q7 _ hq7 => ?_)
  refine z_cSI (av := [qI q7.1]) (st := []) (nl := 0) d_M_stepsTo_24 lk_M_58 mk_M_ringAt rfl rfl rfl (s_M_ringAt _ _) (fun q8 _ hq8 => ?_)
  refine z_istore (pls' := [some (qR 88), some (qI x1), some (qI x2), some (qI x3), some (qI x4), some (qI x5), some (qI q5.1), some (qI q6.1), some (qI q8.1)]) d_M_stepsTo_27 (by decide) rfl rfl ?_
  refine z_iload d_M_stepsTo_29 rfl ?_
  refine z_if_ne (tgt := 94) d_M_stepsTo_31 rfl (fun c9 => ?_) (fun c9 => ?_)
  · refine z_aload_n d_M_stepsTo_34 rfl ?_
    refine z_iload d_M_stepsTo_35 rfl ?_
    refine z_iload_n d_M_stepsTo_37 rfl ?_
    refine z_iload d_M_stepsTo_38 rfl ?_
    refine z_cVI (as := [qI q5.1, qI x2, qI x4]) (st := []) (nl := 0) (ci := 10) d_M_stepsTo_40 lk_M_155 mk_M_doesContinue rfl rfl rfl rfl rfl rfl (s_M_doesContinue _ _ _ _) (fun q10 _ hq10 => ?_)
    refine z_if_eq (tgt := 94) d_M_stepsTo_43 rfl (fun c11 => ?_) (fun c11 => ?_)
    · refine z_mask [true, true, true, true, true, true, true, true, false] ?_
      exact s_M_stepsTo_94 _ _ _ _ _ _ _ _
    · refine z_aload_n d_M_stepsTo_46 rfl ?_
      refine z_gr (ci := 10) (j := 0) (d := 1) (o2 := 89) d_M_stepsTo_47 rfl fl_M_7 rfl (Nat.le_of_ble_eq_true rfl) rfl rfl ?_
      refine z_ic4 d_M_stepsTo_50 ?_
      refine z_il d_M_stepsTo_51 rfl rfl (fun v12 => ?_)
      refine z_ic2 d_M_stepsTo_52 ?_
      refine z_icmp_ne (tgt := 94) d_M_stepsTo_53 rfl (fun c13 => ?_) (fun c13 => ?_)
      · refine z_aload_n d_M_stepsTo_56 rfl ?_
        refine z_gr (ci := 10) (j := 0) (d := 1) (o2 := 89) d_M_stepsTo_57 rfl fl_M_7 rfl (Nat.le_of_ble_eq_true rfl) rfl rfl ?_
        refine z_iload d_M_stepsTo_60 rfl ?_
        refine z_ic0 d_M_stepsTo_62 ?_
        refine z_iadd d_M_stepsTo_63 ?_
        refine z_il d_M_stepsTo_64 rfl rfl (fun v14 => ?_)
        refine z_iload d_M_stepsTo_65 rfl ?_
        refine z_icmp_ne (tgt := 94) d_M_stepsTo_67 rfl (fun c15 => ?_) (fun c15 => ?_)
        · refine z_aload_n d_M_stepsTo_70 rfl ?_
          refine z_iload d_M_stepsTo_71 rfl ?_
          refine z_ic1 d_M_stepsTo_73 ?_
          refine z_iload d_M_stepsTo_74 rfl ?_
          refine z_iadd d_M_stepsTo_76 ?_
          refine z_cVI (as := [qI q6.1, qI (w32 (1 + x4))]) (st := []) (nl := 0) (ci := 10) d_M_stepsTo_77 lk_M_117 mk_M_free rfl rfl rfl rfl rfl rfl (s_M_free _ _ _) (fun q16 _ hq16 => ?_)
          refine z_ic1 d_M_stepsTo_80 ?_
          refine z_icmp_ne (tgt := 94) d_M_stepsTo_81 rfl (fun c17 => ?_) (fun c17 => ?_)
          · refine z_aload_n d_M_stepsTo_84 rfl ?_
            refine z_gr (ci := 10) (j := 0) (d := 1) (o2 := 89) d_M_stepsTo_85 rfl fl_M_7 rfl (Nat.le_of_ble_eq_true rfl) rfl rfl ?_
            refine z_iload d_M_stepsTo_88 rfl ?_
            refine z_ic0 d_M_stepsTo_90 ?_
            refine z_iadd d_M_stepsTo_91 ?_
            refine z_iload_n d_M_stepsTo_92 rfl ?_
            refine z_is d_M_stepsTo_93 rfl rfl (fun w18 => ?_)
            refine z_mask [true, true, true, true, true, true, true, true, false] ?_
            exact s_M_stepsTo_94 _ _ _ _ _ _ _ _
          · refine z_mask [true, true, true, true, true, true, true, true, false] ?_
            exact s_M_stepsTo_94 _ _ _ _ _ _ _ _
        · refine z_mask [true, true, true, true, true, true, true, true, false] ?_
          exact s_M_stepsTo_94 _ _ _ _ _ _ _ _
      · refine z_mask [true, true, true, true, true, true, true, true, false] ?_
        exact s_M_stepsTo_94 _ _ _ _ _ _ _ _
  · refine z_mask [true, true, true, true, true, true, true, true, false] ?_
    exact s_M_stepsTo_94 _ _ _ _ _ _ _ _
/-! BubbleTorusModel.goesAll -/
theorem d_M_goesAll_0 : decode m_M_goesAll.2.1 0 = .ok (.aload_n 0, 1) := by decide +kernel
theorem d_M_goesAll_1 : decode m_M_goesAll.2.1 1 = .ok (.iload_n 2, 1) := by decide +kernel
theorem d_M_goesAll_2 : decode m_M_goesAll.2.1 2 = .ok (.iload_n 3, 1) := by decide +kernel
theorem d_M_goesAll_3 : decode m_M_goesAll.2.1 3 = .ok (.invokevirtual 145, 3) := by decide +kernel
theorem d_M_goesAll_6 : decode m_M_goesAll.2.1 6 = .ok (.istore 4, 2) := by decide +kernel
theorem d_M_goesAll_8 : decode m_M_goesAll.2.1 8 = .ok (.aload_n 0, 1) := by decide +kernel
theorem d_M_goesAll_9 : decode m_M_goesAll.2.1 9 = .ok (.iload 4, 2) := by decide +kernel
theorem d_M_goesAll_11 : decode m_M_goesAll.2.1 11 = .ok (.iconst 1, 1) := by decide +kernel
theorem d_M_goesAll_12 : decode m_M_goesAll.2.1 12 = .ok (.invokevirtual 142, 3) := by decide +kernel
theorem d_M_goesAll_15 : decode m_M_goesAll.2.1 15 = .ok (.iload_n 2, 1) := by decide +kernel
theorem d_M_goesAll_16 : decode m_M_goesAll.2.1 16 = .ok (.if_icmp .ne 25, 3) := by decide +kernel
theorem d_M_goesAll_19 : decode m_M_goesAll.2.1 19 = .ok (.aload_n 0, 1) := by decide +kernel
theorem d_M_goesAll_20 : decode m_M_goesAll.2.1 20 = .ok (.dup, 1) := by decide +kernel
theorem d_M_goesAll_21 : decode m_M_goesAll.2.1 21 = .ok (.getfield 280, 3) := by decide +kernel
theorem d_M_goesAll_24 : decode m_M_goesAll.2.1 24 = .ok (.iconst 1, 1) := by decide +kernel
theorem d_M_goesAll_25 : decode m_M_goesAll.2.1 25 = .ok (.iadd, 1) := by decide +kernel
theorem d_M_goesAll_26 : decode m_M_goesAll.2.1 26 = .ok (.putfield 280, 3) := by decide +kernel
theorem d_M_goesAll_29 : decode m_M_goesAll.2.1 29 = .ok (.aload_n 0, 1) := by decide +kernel
theorem d_M_goesAll_30 : decode m_M_goesAll.2.1 30 = .ok (.iload_n 2, 1) := by decide +kernel
theorem d_M_goesAll_31 : decode m_M_goesAll.2.1 31 = .ok (.iload_n 3, 1) := by decide +kernel
theorem d_M_goesAll_32 : decode m_M_goesAll.2.1 32 = .ok (.invokevirtual 148, 3) := by decide +kernel
theorem d_M_goesAll_35 : decode m_M_goesAll.2.1 35 = .ok (.aload_n 0, 1) := by decide +kernel
theorem d_M_goesAll_36 : decode m_M_goesAll.2.1 36 = .ok (.iload_n 1, 1) := by decide +kernel
theorem d_M_goesAll_37 : decode m_M_goesAll.2.1 37 = .ok (.invokevirtual 277, 3) := by decide +kernel
theorem d_M_goesAll_40 : decode m_M_goesAll.2.1 40 = .ok (.ireturn, 1) := by decide +kernel
theorem d_M_goesAll_41 : decode m_M_goesAll.2.1 41 = .ok (.iconst 0, 1) := by decide +kernel
theorem d_M_goesAll_42 : decode m_M_goesAll.2.1 42 = .ok (.istore 5, 2) := by decide +kernel
theorem d_M_goesAll_44 : decode m_M_goesAll.2.1 44 = .ok (.iload 5, 2) := by decide +kernel
theorem d_M_goesAll_46 : decode m_M_goesAll.2.1 46 = .ok (.iconst 4, 1) := by decide +kernel
theorem d_M_goesAll_47 : decode m_M_goesAll.2.1 47 = .ok (.if_icmp .ge 84, 3) := by decide +kernel
theorem d_M_goesAll_50 : decode m_M_goesAll.2.1 50 = .ok (.aload_n 0, 1) := by decide +kernel
theorem d_M_goesAll_51 : decode m_M_goesAll.2.1 51 = .ok (.iload 4, 2) := by decide +kernel
theorem d_M_goesAll_53 : decode m_M_goesAll.2.1 53 = .ok (.iload_n 2, 1) := by decide +kernel
theorem d_M_goesAll_54 : decode m_M_goesAll.2.1 54 = .ok (.iload 5, 2) := by decide +kernel
theorem d_M_goesAll_56 : decode m_M_goesAll.2.1 56 = .ok (.invokevirtual 165, 3) := by decide +kernel
theorem d_M_goesAll_59 : decode m_M_goesAll.2.1 59 = .ok (.ifCond .eq 28, 3) := by decide +kernel
theorem d_M_goesAll_62 : decode m_M_goesAll.2.1 62 = .ok (.aload_n 0, 1) := by decide +kernel
theorem d_M_goesAll_63 : decode m_M_goesAll.2.1 63 = .ok (.dup, 1) := by decide +kernel
theorem d_M_goesAll_64 : decode m_M_goesAll.2.1 64 = .ok (.getfield 280, 3) := by decide +kernel
theorem d_M_goesAll_67 : decode m_M_goesAll.2.1 67 = .ok (.iconst 1, 1) := by decide +kernel
theorem d_M_goesAll_68 : decode m_M_goesAll.2.1 68 = .ok (.iadd, 1) := by decide +kernel
theorem d_M_goesAll_69 : decode m_M_goesAll.2.1 69 = .ok (.putfield 280, 3) := by decide +kernel
theorem d_M_goesAll_72 : decode m_M_goesAll.2.1 72 = .ok (.aload_n 0, 1) := by decide +kernel
theorem d_M_goesAll_73 : decode m_M_goesAll.2.1 73 = .ok (.iload_n 1, 1) := by decide +kernel
theorem d_M_goesAll_74 : decode m_M_goesAll.2.1 74 = .ok (.iload_n 2, 1) := by decide +kernel
theorem d_M_goesAll_75 : decode m_M_goesAll.2.1 75 = .ok (.iload_n 3, 1) := by decide +kernel
theorem d_M_goesAll_76 : decode m_M_goesAll.2.1 76 = .ok (.iload 5, 2) := by decide +kernel
theorem d_M_goesAll_78 : decode m_M_goesAll.2.1 78 = .ok (.iconst 1, 1) := by decide +kernel
theorem d_M_goesAll_79 : decode m_M_goesAll.2.1 79 = .ok (.invokevirtual 283, 3) := by decide +kernel
theorem d_M_goesAll_82 : decode m_M_goesAll.2.1 82 = .ok (.ifCond .ne 5, 3) := by decide +kernel
theorem d_M_goesAll_85 : decode m_M_goesAll.2.1 85 = .ok (.iconst 0, 1) := by decide +kernel
theorem d_M_goesAll_86 : decode m_M_goesAll.2.1 86 = .ok (.ireturn, 1) := by decide +kernel
theorem d_M_goesAll_87 : decode m_M_goesAll.2.1 87 = .ok (.aload_n 0, 1) := by decide +kernel
theorem d_M_goesAll_88 : decode m_M_goesAll.2.1 88 = .ok (.iload 4, 2) := by decide +kernel
theorem d_M_goesAll_90 : decode m_M_goesAll.2.1 90 = .ok (.iload_n 2, 1) := by decide +kernel
theorem d_M_goesAll_91 : decode m_M_goesAll.2.1 91 = .ok (.iload 5, 2) := by decide +kernel
theorem d_M_goesAll_93 : decode m_M_goesAll.2.1 93 = .ok (.iconst 0, 1) := by decide +kernel
theorem d_M_goesAll_94 : decode m_M_goesAll.2.1 94 = .ok (.invokevirtual 168, 3) := by decide +kernel
theorem d_M_goesAll_97 : decode m_M_goesAll.2.1 97 = .ok (.ifCond .eq 28, 3) := by decide +kernel
theorem d_M_goesAll_100 : decode m_M_goesAll.2.1 100 = .ok (.aload_n 0, 1) := by decide +kernel
theorem d_M_goesAll_101 : decode m_M_goesAll.2.1 101 = .ok (.dup, 1) := by decide +kernel
theorem d_M_goesAll_102 : decode m_M_goesAll.2.1 102 = .ok (.getfield 280, 3) := by decide +kernel
theorem d_M_goesAll_105 : decode m_M_goesAll.2.1 105 = .ok (.iconst 1, 1) := by decide +kernel
theorem d_M_goesAll_106 : decode m_M_goesAll.2.1 106 = .ok (.iadd, 1) := by decide +kernel
theorem d_M_goesAll_107 : decode m_M_goesAll.2.1 107 = .ok (.putfield 280, 3) := by decide +kernel
theorem d_M_goesAll_110 : decode m_M_goesAll.2.1 110 = .ok (.aload_n 0, 1) := by decide +kernel
theorem d_M_goesAll_111 : decode m_M_goesAll.2.1 111 = .ok (.iload_n 1, 1) := by decide +kernel
theorem d_M_goesAll_112 : decode m_M_goesAll.2.1 112 = .ok (.iload_n 2, 1) := by decide +kernel
theorem d_M_goesAll_113 : decode m_M_goesAll.2.1 113 = .ok (.iload_n 3, 1) := by decide +kernel
theorem d_M_goesAll_114 : decode m_M_goesAll.2.1 114 = .ok (.iload 5, 2) := by decide +kernel
theorem d_M_goesAll_116 : decode m_M_goesAll.2.1 116 = .ok (.iconst 0, 1) := by decide +kernel
theorem d_M_goesAll_117 : decode m_M_goesAll.2.1 117 = .ok (.invokevirtual 283, 3) := by decide +kernel
theorem d_M_goesAll_120 : decode m_M_goesAll.2.1 120 = .ok (.ifCond .ne 5, 3) := by decide +kernel
theorem d_M_goesAll_123 : decode m_M_goesAll.2.1 123 = .ok (.iconst 0, 1) := by decide +kernel
theorem d_M_goesAll_124 : decode m_M_goesAll.2.1 124 = .ok (.ireturn, 1) := by decide +kernel
theorem d_M_goesAll_125 : decode m_M_goesAll.2.1 125 = .ok (.iinc 5 1, 3) := by decide +kernel
theorem d_M_goesAll_128 : decode m_M_goesAll.2.1 128 = .ok (.goto (-84), 3) := by decide +kernel
theorem d_M_goesAll_131 : decode m_M_goesAll.2.1 131 = .ok (.iconst 1, 1) := by decide +kernel
theorem d_M_goesAll_132 : decode m_M_goesAll.2.1 132 = .ok (.ireturn, 1) := by decide +kernel
def f_M_goesAll_87 (r44 : Int → Int → Int → Int → Int → qMem → Option (Int × qMem)) (x1 x2 x3 x4 x5 : Int) (w : qMem) : Option (Int × qMem) :=
  (f_M_canByEscape x4 x2 x5 0 w).bind fun q1 =>
  if q1.1 = 0 then
  r44 x1 x2 x3 x4 (w32 (x5 + 1)) q1.2
  else
  qlt (qud q1.2 88 9 (w32 ((q1.2 88 9) + 1))) fun w3 =>
  (f_M_stepsTo x1 x2 x3 x5 0 w3).bind fun q4 =>
  if q4.1 = 0 then
  some (0, q4.2)
  else
  r44 x1 x2 x3 x4 (w32 (x5 + 1)) q4.2
set_option maxRecDepth 4000 in
theorem s_M_goesAll_87  {r44 : Int → Int → Int → Int → Int → qMem → Option (Int × qMem)} (hr44 : ∀ x1 x2 x3 x4 x5 w, qSim κI 100 100 m_M_goesAll 44 [] [some (qR 88), some (qI x1), some (qI x2), some (qI x3), some (qI x4), some (qI x5)] w (r44 x1 x2 x3 x4 x5 w)) : ∀ (x1 x2 x3 x4 x5 : Int) (w : qMem), qSim κI 100 100 m_M_goesAll 87 [] [some (qR 88), some (qI x1), some (qI x2), some (qI x3), some (qI x4), some (qI x5)] w (f_M_goesAll_87 r44 x1 x2 x3 x4 x5 w) := by
  intro x1 x2 x3 x4 x5 w
  unfold f_M_goesAll_87
  refine z_aload_n d_M_goesAll_87 rfl ?_
  refine z_iload d_M_goesAll_88 rfl ?_
  refine z_iload_n d_M_goesAll_90 rfl ?_
  refine z_iload d_M_goesAll_91 rfl ?_
  refine z_ic0 d_M_goesAll_93 ?_
  refine z_cVI (as := [qI x4, qI x2, qI x5, qI 0]) (st := []) (nl := 1) (ci := 10) d_M_goesAll_94 lk_M_168 mk_M_canByEscape rfl rfl rfl rfl rfl rfl (s_M_canByEscape _ _ _ _ _) (fun q1 _ hq1 => ?_)
  refine z_if_eq (tgt := 125) d_M_goesAll_97 rfl (fun c2 => ?_) (fun c2 => ?_)
  · refine z_iinc (pls' := [some (qR 88), some (qI x1), some (qI x2), some (qI x3), some (qI x4), some (qI (w32 (x5 + 1)))]) d_M_goesAll_125 (by decide) rfl rfl rfl ?_
    refine z_goto (tgt := 44) d_M_goesAll_128 rfl ?_
    refine z_mask [true, true, true, true, true, true] ?_
    exact hr44 _ _ _ _ _ _
  · refine z_aload_n d_M_goesAll_100 rfl ?_
    refine z_dup d_M_goesAll_101 rfl ?_
    refine z_gi (ci := 10) (j := 9) (ji := 9) d_M_goesAll_102 rfl fl_M_280 rfl rfl rfl ?_
    refine z_ic1 d_M_goesAll_105 ?_
    refine z_iadd d_M_goesAll_106 ?_
    refine z_pi (ci := 10) (j := 9) (ji := 9) d_M_goesAll_107 rfl fl_M_280 rfl rfl rfl rfl rfl (fun w3 => ?_)
    refine z_aload_n d_M_goesAll_110 rfl ?_
    refine z_iload_n d_M_goesAll_111 rfl ?_
    refine z_iload_n d_M_goesAll_112 rfl ?_
    refine z_iload_n d_M_goesAll_113 rfl ?_
    refine z_iload d_M_goesAll_114 rfl ?_
    refine z_ic0 d_M_goesAll_116 ?_
    refine z_cVI (as := [qI x1, qI x2, qI x3, qI x5, qI 0]) (st := []) (nl := 3) (ci := 10) d_M_goesAll_117 lk_M_283 mk_M_stepsTo rfl rfl rfl rfl rfl rfl (s_M_stepsTo _ _ _ _ _ _) (fun q4 _ hq4 => ?_)
    refine z_if_ne (tgt := 125) d_M_goesAll_120 rfl (fun c5 => ?_) (fun c5 => ?_)
    · refine z_ic0 d_M_goesAll_123 ?_
      exact z_zret d_M_goesAll_124 rfl rfl (Or.inl rfl)
    · refine z_iinc (pls' := [some (qR 88), some (qI x1), some (qI x2), some (qI x3), some (qI x4), some (qI (w32 (x5 + 1)))]) d_M_goesAll_125 (by decide) rfl rfl rfl ?_
      refine z_goto (tgt := 44) d_M_goesAll_128 rfl ?_
      refine z_mask [true, true, true, true, true, true] ?_
      exact hr44 _ _ _ _ _ _
def f_M_goesAll_44 : Nat → Int → Int → Int → Int → Int → qMem → Option (Int × qMem)
  | 0, _, _, _, _, _, _ => none
  | n + 1, x1, x2, x3, x4, x5, w =>
    if x5 < 4 then
    (f_M_canByAdaptive x4 x2 x5 w).bind fun q7 =>
    if q7.1 = 0 then
    f_M_goesAll_87 (f_M_goesAll_44 n) x1 x2 x3 x4 x5 q7.2
    else
    qlt (qud q7.2 88 9 (w32 ((q7.2 88 9) + 1))) fun w9 =>
    (f_M_stepsTo x1 x2 x3 x5 1 w9).bind fun q10 =>
    if q10.1 = 0 then
    some (0, q10.2)
    else
    f_M_goesAll_87 (f_M_goesAll_44 n) x1 x2 x3 x4 x5 q10.2
    else
    some (1, w)
set_option maxRecDepth 4000 in
theorem s_M_goesAll_44  : ∀ (n : Nat), ∀ (x1 x2 x3 x4 x5 : Int) (w : qMem), qSim κI 100 100 m_M_goesAll 44 [] [some (qR 88), some (qI x1), some (qI x2), some (qI x3), some (qI x4), some (qI x5)] w (f_M_goesAll_44 n x1 x2 x3 x4 x5 w) := by
  intro n
  induction n with
  | zero => intro x1 x2 x3 x4 x5 w; exact z_none
  | succ n ih =>
    intro x1 x2 x3 x4 x5 w
    rw [f_M_goesAll_44]
    refine z_iload d_M_goesAll_44 rfl ?_
    refine z_ic4 d_M_goesAll_46 ?_
    refine z_icmp_ge (tgt := 131) d_M_goesAll_47 rfl (fun c6 => ?_) (fun c6 => ?_)
    · refine z_aload_n d_M_goesAll_50 rfl ?_
      refine z_iload d_M_goesAll_51 rfl ?_
      refine z_iload_n d_M_goesAll_53 rfl ?_
      refine z_iload d_M_goesAll_54 rfl ?_
      refine z_cVI (as := [qI x4, qI x2, qI x5]) (st := []) (nl := 0) (ci := 10) d_M_goesAll_56 lk_M_165 mk_M_canByAdaptive rfl rfl rfl rfl rfl rfl (s_M_canByAdaptive _ _ _ _) (fun q7 _ hq7 => ?_)
      refine z_if_eq (tgt := 87) d_M_goesAll_59 rfl (fun c8 => ?_) (fun c8 => ?_)
      · refine z_mask [true, true, true, true, true, true] ?_
        exact s_M_goesAll_87 ih _ _ _ _ _ _
      · refine z_aload_n d_M_goesAll_62 rfl ?_
        refine z_dup d_M_goesAll_63 rfl ?_
        refine z_gi (ci := 10) (j := 9) (ji := 9) d_M_goesAll_64 rfl fl_M_280 rfl rfl rfl ?_
        refine z_ic1 d_M_goesAll_67 ?_
        refine z_iadd d_M_goesAll_68 ?_
        refine z_pi (ci := 10) (j := 9) (ji := 9) d_M_goesAll_69 rfl fl_M_280 rfl rfl rfl rfl rfl (fun w9 => ?_)
        refine z_aload_n d_M_goesAll_72 rfl ?_
        refine z_iload_n d_M_goesAll_73 rfl ?_
        refine z_iload_n d_M_goesAll_74 rfl ?_
        refine z_iload_n d_M_goesAll_75 rfl ?_
        refine z_iload d_M_goesAll_76 rfl ?_
        refine z_ic1 d_M_goesAll_78 ?_
        refine z_cVI (as := [qI x1, qI x2, qI x3, qI x5, qI 1]) (st := []) (nl := 3) (ci := 10) d_M_goesAll_79 lk_M_283 mk_M_stepsTo rfl rfl rfl rfl rfl rfl (s_M_stepsTo _ _ _ _ _ _) (fun q10 _ hq10 => ?_)
        refine z_if_ne (tgt := 87) d_M_goesAll_82 rfl (fun c11 => ?_) (fun c11 => ?_)
        · refine z_ic0 d_M_goesAll_85 ?_
          exact z_zret d_M_goesAll_86 rfl rfl (Or.inl rfl)
        · refine z_mask [true, true, true, true, true, true] ?_
          exact s_M_goesAll_87 ih _ _ _ _ _ _
    · refine z_ic1 d_M_goesAll_131 ?_
      exact z_zret d_M_goesAll_132 rfl rfl (Or.inr rfl)
def f_M_goesAll (x1 : Int) (x2 : Int) (x3 : Int) (w : qMem) : Option (Int × qMem) :=
  (f_M_firstOf x2 x3 w).bind fun q12 =>
  (f_M_of q12.1 1 q12.2).bind fun q13 =>
  if q13.1 = x2 then
  qlt (qud q13.2 88 9 (w32 ((q13.2 88 9) + 1))) fun w15 =>
  (f_M_leaves x2 x3 w15).bind fun q16 =>
  (f_M_comesFrom x1 q16).bind fun q17 =>
  some (q17.1, q17.2)
  else
  f_M_goesAll_44 qFU x1 x2 x3 q12.1 0 q13.2
set_option maxRecDepth 4000 in
theorem s_M_goesAll (x1 : Int) (x2 : Int) (x3 : Int) (w : qMem) : qSim κI 100 100 m_M_goesAll 0 [] [some (qR 88), some (qI x1), some (qI x2), some (qI x3), none, none] w (f_M_goesAll x1 x2 x3 w) := by
  unfold f_M_goesAll
  refine z_aload_n d_M_goesAll_0 rfl ?_
  refine z_iload_n d_M_goesAll_1 rfl ?_
  refine z_iload_n d_M_goesAll_2 rfl ?_
  refine z_cVI (as := [qI x2, qI x3]) (st := []) (nl := 0) (ci := 10) d_M_goesAll_3 lk_M_145 mk_M_firstOf rfl rfl rfl rfl rfl rfl (s_M_firstOf _ _ _) (fun q12 _ hq12 => ?_)
  refine z_istore (pls' := [some (qR 88), some (qI x1), some (qI x2), some (qI x3), some (qI q12.1), none]) d_M_goesAll_6 (by decide) rfl rfl ?_
  refine z_aload_n d_M_goesAll_8 rfl ?_
  refine z_iload d_M_goesAll_9 rfl ?_
  refine z_ic1 d_M_goesAll_11 ?_
  refine z_cVI (as := [qI q12.1, qI 1]) (st := []) (nl := 0) (ci := 10) d_M_goesAll_12 lk_M_142 mk_M_of rfl rfl rfl rfl rfl rfl (s_M_of _ _ _) (fun q13 _ hq13 => ?_)
  refine z_iload_n d_M_goesAll_15 rfl ?_
  refine z_icmp_ne (tgt := 41) d_M_goesAll_16 rfl (fun c14 => ?_) (fun c14 => ?_)
  · refine z_aload_n d_M_goesAll_19 rfl ?_
    refine z_dup d_M_goesAll_20 rfl ?_
    refine z_gi (ci := 10) (j := 9) (ji := 9) d_M_goesAll_21 rfl fl_M_280 rfl rfl rfl ?_
    refine z_ic1 d_M_goesAll_24 ?_
    refine z_iadd d_M_goesAll_25 ?_
    refine z_pi (ci := 10) (j := 9) (ji := 9) d_M_goesAll_26 rfl fl_M_280 rfl rfl rfl rfl rfl (fun w15 => ?_)
    refine z_aload_n d_M_goesAll_29 rfl ?_
    refine z_iload_n d_M_goesAll_30 rfl ?_
    refine z_iload_n d_M_goesAll_31 rfl ?_
    refine z_cVV (as := [qI x2, qI x3]) (st := []) (nl := 2) (ci := 10) d_M_goesAll_32 lk_M_148 mk_M_leaves rfl rfl rfl rfl rfl rfl (s_M_leaves _ _ _) (fun q16 _ => ?_)
    refine z_aload_n d_M_goesAll_35 rfl ?_
    refine z_iload_n d_M_goesAll_36 rfl ?_
    refine z_cVI (as := [qI x1]) (st := []) (nl := 1) (ci := 10) d_M_goesAll_37 lk_M_277 mk_M_comesFrom rfl rfl rfl rfl rfl rfl (s_M_comesFrom _ _) (fun q17 _ hq17 => ?_)
    exact z_zret d_M_goesAll_40 rfl rfl (q_boo rfl hq17)
  · refine z_ic0 d_M_goesAll_41 ?_
    refine z_istore (pls' := [some (qR 88), some (qI x1), some (qI x2), some (qI x3), some (qI q12.1), some (qI 0)]) d_M_goesAll_42 (by decide) rfl rfl ?_
    refine z_mask [true, true, true, true, true, true] ?_
    exact s_M_goesAll_44 _ _ _ _ _ _ _
/-! BubbleTorusModel.fewestFree -/
theorem d_M_fewestFree_0 : decode m_M_fewestFree.2.1 0 = .ok (.sipush 1000, 3) := by decide +kernel
theorem d_M_fewestFree_3 : decode m_M_fewestFree.2.1 3 = .ok (.istore_n 1, 1) := by decide +kernel
theorem d_M_fewestFree_4 : decode m_M_fewestFree.2.1 4 = .ok (.iconst 0, 1) := by decide +kernel
theorem d_M_fewestFree_5 : decode m_M_fewestFree.2.1 5 = .ok (.istore_n 2, 1) := by decide +kernel
theorem d_M_fewestFree_6 : decode m_M_fewestFree.2.1 6 = .ok (.iload_n 2, 1) := by decide +kernel
theorem d_M_fewestFree_7 : decode m_M_fewestFree.2.1 7 = .ok (.aload_n 0, 1) := by decide +kernel
theorem d_M_fewestFree_8 : decode m_M_fewestFree.2.1 8 = .ok (.invokevirtual 54, 3) := by decide +kernel
theorem d_M_fewestFree_11 : decode m_M_fewestFree.2.1 11 = .ok (.if_icmp .ge 28, 3) := by decide +kernel
theorem d_M_fewestFree_14 : decode m_M_fewestFree.2.1 14 = .ok (.aload_n 0, 1) := by decide +kernel
theorem d_M_fewestFree_15 : decode m_M_fewestFree.2.1 15 = .ok (.iload_n 2, 1) := by decide +kernel
theorem d_M_fewestFree_16 : decode m_M_fewestFree.2.1 16 = .ok (.invokevirtual 209, 3) := by decide +kernel
theorem d_M_fewestFree_19 : decode m_M_fewestFree.2.1 19 = .ok (.iload_n 1, 1) := by decide +kernel
theorem d_M_fewestFree_20 : decode m_M_fewestFree.2.1 20 = .ok (.if_icmp .ge 11, 3) := by decide +kernel
theorem d_M_fewestFree_23 : decode m_M_fewestFree.2.1 23 = .ok (.aload_n 0, 1) := by decide +kernel
theorem d_M_fewestFree_24 : decode m_M_fewestFree.2.1 24 = .ok (.iload_n 2, 1) := by decide +kernel
theorem d_M_fewestFree_25 : decode m_M_fewestFree.2.1 25 = .ok (.invokevirtual 209, 3) := by decide +kernel
theorem d_M_fewestFree_28 : decode m_M_fewestFree.2.1 28 = .ok (.goto 4, 3) := by decide +kernel
theorem d_M_fewestFree_31 : decode m_M_fewestFree.2.1 31 = .ok (.iload_n 1, 1) := by decide +kernel
theorem d_M_fewestFree_32 : decode m_M_fewestFree.2.1 32 = .ok (.istore_n 1, 1) := by decide +kernel
theorem d_M_fewestFree_33 : decode m_M_fewestFree.2.1 33 = .ok (.iinc 2 1, 3) := by decide +kernel
theorem d_M_fewestFree_36 : decode m_M_fewestFree.2.1 36 = .ok (.goto (-30), 3) := by decide +kernel
theorem d_M_fewestFree_39 : decode m_M_fewestFree.2.1 39 = .ok (.iload_n 1, 1) := by decide +kernel
theorem d_M_fewestFree_40 : decode m_M_fewestFree.2.1 40 = .ok (.ireturn, 1) := by decide +kernel
def f_M_fewestFree_32 (r6 : Int → Int → qMem → Option (Int × qMem)) (s0 x2 : Int) (w : qMem) : Option (Int × qMem) :=
  r6 s0 (w32 (x2 + 1)) w
set_option maxRecDepth 4000 in
theorem s_M_fewestFree_32  {r6 : Int → Int → qMem → Option (Int × qMem)} (hr6 : ∀ x1 x2 w, qSim κI 100 100 m_M_fewestFree 6 [] [some (qR 88), some (qI x1), some (qI x2)] w (r6 x1 x2 w)) : ∀ (s0 x2 : Int) (w : qMem), qSim κI 100 100 m_M_fewestFree 32 [qI s0] [some (qR 88), none, some (qI x2)] w (f_M_fewestFree_32 r6 s0 x2 w) := by
  intro s0 x2 w
  unfold f_M_fewestFree_32
  refine z_istore_n (pls' := [some (qR 88), some (qI s0), some (qI x2)]) d_M_fewestFree_32 (by decide) rfl rfl ?_
  refine z_iinc (pls' := [some (qR 88), some (qI s0), some (qI (w32 (x2 + 1)))]) d_M_fewestFree_33 (by decide) rfl rfl rfl ?_
  refine z_goto (tgt := 6) d_M_fewestFree_36 rfl ?_
  refine z_mask [true, true, true] ?_
  exact hr6 _ _ _
def f_M_fewestFree_6 : Nat → Int → Int → qMem → Option (Int × qMem)
  | 0, _, _, _ => none
  | n + 1, x1, x2, w =>
    (f_M_rings w).bind fun q1 =>
    if x2 < q1.1 then
    (f_M_freeIn x2 q1.2).bind fun q3 =>
    if q3.1 < x1 then
    (f_M_freeIn x2 q3.2).bind fun q5 =>
    f_M_fewestFree_32 (f_M_fewestFree_6 n) q5.1 x2 q5.2
    else
    f_M_fewestFree_32 (f_M_fewestFree_6 n) x1 x2 q3.2
    else
    some (x1, q1.2)
set_option maxRecDepth 4000 in
theorem s_M_fewestFree_6  : ∀ (n : Nat), ∀ (x1 x2 : Int) (w : qMem), qSim κI 100 100 m_M_fewestFree 6 [] [some (qR 88), some (qI x1), some (qI x2)] w (f_M_fewestFree_6 n x1 x2 w) := by
  intro n
  induction n with
  | zero => intro x1 x2 w; exact z_none
  | succ n ih =>
    intro x1 x2 w
    rw [f_M_fewestFree_6]
    refine z_iload_n d_M_fewestFree_6 rfl ?_
    refine z_aload_n d_M_fewestFree_7 rfl ?_
    refine z_cVI (as := []) (st := [qI x2]) (nl := 0) (ci := 10) d_M_fewestFree_8 lk_M_54 mk_M_rings rfl rfl rfl rfl rfl rfl (s_M_rings _) (fun q1 _ hq1 => ?_)
    refine z_icmp_ge (tgt := 39) d_M_fewestFree_11 rfl (fun c2 => ?_) (fun c2 => ?_)
    · refine z_aload_n d_M_fewestFree_14 rfl ?_
      refine z_iload_n d_M_fewestFree_15 rfl ?_
      refine z_cVI (as := [qI x2]) (st := []) (nl := 3) (ci := 10) d_M_fewestFree_16 lk_M_209 mk_M_freeIn rfl rfl rfl rfl rfl rfl (s_M_freeIn _ _) (fun q3 _ hq3 => ?_)
      refine z_iload_n d_M_fewestFree_19 rfl ?_
      refine z_icmp_ge (tgt := 31) d_M_fewestFree_20 rfl (fun c4 => ?_) (fun c4 => ?_)
      · refine z_aload_n d_M_fewestFree_23 rfl ?_
        refine z_iload_n d_M_fewestFree_24 rfl ?_
        refine z_cVI (as := [qI x2]) (st := []) (nl := 3) (ci := 10) d_M_fewestFree_25 lk_M_209 mk_M_freeIn rfl rfl rfl rfl rfl rfl (s_M_freeIn _ _) (fun q5 _ hq5 => ?_)
        refine z_goto (tgt := 32) d_M_fewestFree_28 rfl ?_
        refine z_mask [true, false, true] ?_
        exact s_M_fewestFree_32 ih _ _ _
      · refine z_iload_n d_M_fewestFree_31 rfl ?_
        refine z_mask [true, false, true] ?_
        exact s_M_fewestFree_32 ih _ _ _
    · refine z_iload_n d_M_fewestFree_39 rfl ?_
      exact z_iret d_M_fewestFree_40 rfl rfl
def f_M_fewestFree (w : qMem) : Option (Int × qMem) :=
  f_M_fewestFree_6 qFU 1000 0 w
set_option maxRecDepth 4000 in
theorem s_M_fewestFree (w : qMem) : qSim κI 100 100 m_M_fewestFree 0 [] [some (qR 88), none, none] w (f_M_fewestFree w) := by
  unfold f_M_fewestFree
  refine z_sipush d_M_fewestFree_0 ⟨by decide, by decide⟩ ?_
  refine z_istore_n (pls' := [some (qR 88), some (qI 1000), none]) d_M_fewestFree_3 (by decide) rfl rfl ?_
  refine z_ic0 d_M_fewestFree_4 ?_
  refine z_istore_n (pls' := [some (qR 88), some (qI 1000), some (qI 0)]) d_M_fewestFree_5 (by decide) rfl rfl ?_
  refine z_mask [true, true, true] ?_
  exact s_M_fewestFree_6 _ _ _ _
/-! BubbleTorusModel.inLane -/
theorem d_M_inLane_0 : decode m_M_inLane.2.1 0 = .ok (.iconst 0, 1) := by decide +kernel
theorem d_M_inLane_1 : decode m_M_inLane.2.1 1 = .ok (.istore_n 2, 1) := by decide +kernel
theorem d_M_inLane_2 : decode m_M_inLane.2.1 2 = .ok (.iconst 0, 1) := by decide +kernel
theorem d_M_inLane_3 : decode m_M_inLane.2.1 3 = .ok (.istore_n 3, 1) := by decide +kernel
theorem d_M_inLane_4 : decode m_M_inLane.2.1 4 = .ok (.iload_n 3, 1) := by decide +kernel
theorem d_M_inLane_5 : decode m_M_inLane.2.1 5 = .ok (.aload_n 0, 1) := by decide +kernel
theorem d_M_inLane_6 : decode m_M_inLane.2.1 6 = .ok (.invokevirtual 72, 3) := by decide +kernel
theorem d_M_inLane_9 : decode m_M_inLane.2.1 9 = .ok (.if_icmp .ge 49, 3) := by decide +kernel
theorem d_M_inLane_12 : decode m_M_inLane.2.1 12 = .ok (.iconst 0, 1) := by decide +kernel
theorem d_M_inLane_13 : decode m_M_inLane.2.1 13 = .ok (.istore 4, 2) := by decide +kernel
theorem d_M_inLane_15 : decode m_M_inLane.2.1 15 = .ok (.iload 4, 2) := by decide +kernel
theorem d_M_inLane_17 : decode m_M_inLane.2.1 17 = .ok (.bipush 9, 2) := by decide +kernel
theorem d_M_inLane_19 : decode m_M_inLane.2.1 19 = .ok (.if_icmp .ge 33, 3) := by decide +kernel
theorem d_M_inLane_22 : decode m_M_inLane.2.1 22 = .ok (.iload_n 2, 1) := by decide +kernel
theorem d_M_inLane_23 : decode m_M_inLane.2.1 23 = .ok (.iload 4, 2) := by decide +kernel
theorem d_M_inLane_25 : decode m_M_inLane.2.1 25 = .ok (.iconst 3, 1) := by decide +kernel
theorem d_M_inLane_26 : decode m_M_inLane.2.1 26 = .ok (.iadd, 1) := by decide +kernel
theorem d_M_inLane_27 : decode m_M_inLane.2.1 27 = .ok (.iconst 4, 1) := by decide +kernel
theorem d_M_inLane_28 : decode m_M_inLane.2.1 28 = .ok (.idiv, 1) := by decide +kernel
theorem d_M_inLane_29 : decode m_M_inLane.2.1 29 = .ok (.iload_n 1, 1) := by decide +kernel
theorem d_M_inLane_30 : decode m_M_inLane.2.1 30 = .ok (.if_icmp .ne 13, 3) := by decide +kernel
theorem d_M_inLane_33 : decode m_M_inLane.2.1 33 = .ok (.aload_n 0, 1) := by decide +kernel
theorem d_M_inLane_34 : decode m_M_inLane.2.1 34 = .ok (.iload_n 3, 1) := by decide +kernel
theorem d_M_inLane_35 : decode m_M_inLane.2.1 35 = .ok (.iload 4, 2) := by decide +kernel
theorem d_M_inLane_37 : decode m_M_inLane.2.1 37 = .ok (.invokevirtual 108, 3) := by decide +kernel
theorem d_M_inLane_40 : decode m_M_inLane.2.1 40 = .ok (.goto 4, 3) := by decide +kernel
theorem d_M_inLane_43 : decode m_M_inLane.2.1 43 = .ok (.iconst 0, 1) := by decide +kernel
theorem d_M_inLane_44 : decode m_M_inLane.2.1 44 = .ok (.iadd, 1) := by decide +kernel
theorem d_M_inLane_45 : decode m_M_inLane.2.1 45 = .ok (.istore_n 2, 1) := by decide +kernel
theorem d_M_inLane_46 : decode m_M_inLane.2.1 46 = .ok (.iinc 4 1, 3) := by decide +kernel
theorem d_M_inLane_49 : decode m_M_inLane.2.1 49 = .ok (.goto (-34), 3) := by decide +kernel
theorem d_M_inLane_52 : decode m_M_inLane.2.1 52 = .ok (.iinc 3 1, 3) := by decide +kernel
theorem d_M_inLane_55 : decode m_M_inLane.2.1 55 = .ok (.goto (-51), 3) := by decide +kernel
theorem d_M_inLane_58 : decode m_M_inLane.2.1 58 = .ok (.iload_n 2, 1) := by decide +kernel
theorem d_M_inLane_59 : decode m_M_inLane.2.1 59 = .ok (.ireturn, 1) := by decide +kernel
def f_M_inLane_44 (r4 : Int → Int → Int → qMem → Option (Int × qMem)) (r15 : Int → Int → Int → Int → qMem → Option (Int × qMem)) (s0 s1 x1 x3 x4 : Int) (w : qMem) : Option (Int × qMem) :=
  r15 x1 (w32 (s0 + s1)) x3 (w32 (x4 + 1)) w
set_option maxRecDepth 4000 in
theorem s_M_inLane_44  {r4 : Int → Int → Int → qMem → Option (Int × qMem)} {r15 : Int → Int → Int → Int → qMem → Option (Int × qMem)} (hr4 : ∀ x1 x2 x3 w, qSim κI 100 100 m_M_inLane 4 [] [some (qR 88), some (qI x1), some (qI x2), some (qI x3), none] w (r4 x1 x2 x3 w)) (hr15 : ∀ x1 x2 x3 x4 w, qSim κI 100 100 m_M_inLane 15 [] [some (qR 88), some (qI x1), some (qI x2), some (qI x3), some (qI x4)] w (r15 x1 x2 x3 x4 w)) : ∀ (s0 s1 x1 x3 x4 : Int) (w : qMem), qSim κI 100 100 m_M_inLane 44 [qI s1, qI s0] [some (qR 88), some (qI x1), none, some (qI x3), some (qI x4)] w (f_M_inLane_44 r4 r15 s0 s1 x1 x3 x4 w) := by
  intro s0 s1 x1 x3 x4 w
  unfold f_M_inLane_44
  refine z_iadd d_M_inLane_44 ?_
  refine z_istore_n (pls' := [some (qR 88), some (qI x1), some (qI (w32 (s0 + s1))), some (qI x3), some (qI x4)]) d_M_inLane_45 (by decide) rfl rfl ?_
  refine z_iinc (pls' := [some (qR 88), some (qI x1), some (qI (w32 (s0 + s1))), some (qI x3), some (qI (w32 (x4 + 1)))]) d_M_inLane_46 (by decide) rfl rfl rfl ?_
  refine z_goto (tgt := 15) d_M_inLane_49 rfl ?_
  refine z_mask [true, true, true, true, true] ?_
  exact hr15 _ _ _ _ _
def f_M_inLane_15 (r4 : Int → Int → Int → qMem → Option (Int × qMem)) : Nat → Int → Int → Int → Int → qMem → Option (Int × qMem)
  | 0, _, _, _, _, _ => none
  | n + 1, x1, x2, x3, x4, w =>
    if x4 < 9 then
    qdv 4 <|
    if (jdiv (w32 (x4 + 3)) 4) = x1 then
    (f_M_many x3 x4 w).bind fun q3 =>
    f_M_inLane_44 r4 (f_M_inLane_15 r4 n) x2 q3.1 x1 x3 x4 q3.2
    else
    f_M_inLane_44 r4 (f_M_inLane_15 r4 n) x2 0 x1 x3 x4 w
    else
    r4 x1 x2 (w32 (x3 + 1)) w
set_option maxRecDepth 4000 in
theorem s_M_inLane_15  {r4 : Int → Int → Int → qMem → Option (Int × qMem)} (hr4 : ∀ x1 x2 x3 w, qSim κI 100 100 m_M_inLane 4 [] [some (qR 88), some (qI x1), some (qI x2), some (qI x3), none] w (r4 x1 x2 x3 w)) : ∀ (n : Nat), ∀ (x1 x2 x3 x4 : Int) (w : qMem), qSim κI 100 100 m_M_inLane 15 [] [some (qR 88), some (qI x1), some (qI x2), some (qI x3), some (qI x4)] w (f_M_inLane_15 r4 n x1 x2 x3 x4 w) := by
  intro n
  induction n with
  | zero => intro x1 x2 x3 x4 w; exact z_none
  | succ n ih =>
    intro x1 x2 x3 x4 w
    rw [f_M_inLane_15]
    refine z_iload d_M_inLane_15 rfl ?_
    refine z_bipush d_M_inLane_17 ⟨by decide, by decide⟩ ?_
    refine z_icmp_ge (tgt := 52) d_M_inLane_19 rfl (fun c1 => ?_) (fun c1 => ?_)
    · refine z_iload_n d_M_inLane_22 rfl ?_
      refine z_iload d_M_inLane_23 rfl ?_
      refine z_ic3 d_M_inLane_25 ?_
      refine z_iadd d_M_inLane_26 ?_
      refine z_ic4 d_M_inLane_27 ?_
      refine z_idiv d_M_inLane_28 (fun _ => ?_)
      refine z_iload_n d_M_inLane_29 rfl ?_
      refine z_icmp_ne (tgt := 43) d_M_inLane_30 rfl (fun c2 => ?_) (fun c2 => ?_)
      · refine z_aload_n d_M_inLane_33 rfl ?_
        refine z_iload_n d_M_inLane_34 rfl ?_
        refine z_iload d_M_inLane_35 rfl ?_
        refine z_cVI (as := [qI x3, qI x4]) (st := [qI x2]) (nl := 0) (ci := 10) d_M_inLane_37 lk_M_108 mk_M_many rfl rfl rfl rfl rfl rfl (s_M_many _ _ _) (fun q3 _ hq3 => ?_)
        refine z_goto (tgt := 44) d_M_inLane_40 rfl ?_
        refine z_mask [true, true, false, true, true] ?_
        exact s_M_inLane_44 hr4 ih _ _ _ _ _ _
      · refine z_ic0 d_M_inLane_43 ?_
        refine z_mask [true, true, false, true, true] ?_
        exact s_M_inLane_44 hr4 ih _ _ _ _ _ _
    · refine z_iinc (pls' := [some (qR 88), some (qI x1), some (qI x2), some (qI (w32 (x3 + 1))), some (qI x4)]) d_M_inLane_52 (by decide) rfl rfl rfl ?_
      refine z_goto (tgt := 4) d_M_inLane_55 rfl ?_
      refine z_mask [true, true, true, true, false] ?_
      exact hr4 _ _ _ _
def f_M_inLane_4 : Nat → Int → Int → Int → qMem → Option (Int × qMem)
  | 0, _, _, _, _ => none
  | n + 1, x1, x2, x3, w =>
    (f_M_nodes w).bind fun q4 =>
    if x3 < q4.1 then
    f_M_inLane_15 (f_M_inLane_4 n) qFU x1 x2 x3 0 q4.2
    else
    some (x2, q4.2)
set_option maxRecDepth 4000 in
theorem s_M_inLane_4  : ∀ (n : Nat), ∀ (x1 x2 x3 : Int) (w : qMem), qSim κI 100 100 m_M_inLane 4 [] [some (qR 88), some (qI x1), some (qI x2), some (qI x3), none] w (f_M_inLane_4 n x1 x2 x3 w) := by
  intro n
  induction n with
  | zero => intro x1 x2 x3 w; exact z_none
  | succ n ih =>
    intro x1 x2 x3 w
    rw [f_M_inLane_4]
    refine z_iload_n d_M_inLane_4 rfl ?_
    refine z_aload_n d_M_inLane_5 rfl ?_
    refine z_cVI (as := []) (st := [qI x3]) (nl := 0) (ci := 10) d_M_inLane_6 lk_M_72 mk_M_nodes rfl rfl rfl rfl rfl rfl (s_M_nodes _) (fun q4 _ hq4 => ?_)
    refine z_icmp_ge (tgt := 58) d_M_inLane_9 rfl (fun c5 => ?_) (fun c5 => ?_)
    · refine z_ic0 d_M_inLane_12 ?_
      refine z_istore (pls' := [some (qR 88), some (qI x1), some (qI x2), some (qI x3), some (qI 0)]) d_M_inLane_13 (by decide) rfl rfl ?_
      refine z_mask [true, true, true, true, true] ?_
      exact s_M_inLane_15 ih _ _ _ _ _ _
    · refine z_iload_n d_M_inLane_58 rfl ?_
      exact z_iret d_M_inLane_59 rfl rfl
def f_M_inLane (x1 : Int) (w : qMem) : Option (Int × qMem) :=
  f_M_inLane_4 qFU x1 0 0 w
set_option maxRecDepth 4000 in
theorem s_M_inLane (x1 : Int) (w : qMem) : qSim κI 100 100 m_M_inLane 0 [] [some (qR 88), some (qI x1), none, none, none] w (f_M_inLane x1 w) := by
  unfold f_M_inLane
  refine z_ic0 d_M_inLane_0 ?_
  refine z_istore_n (pls' := [some (qR 88), some (qI x1), some (qI 0), none, none]) d_M_inLane_1 (by decide) rfl rfl ?_
  refine z_ic0 d_M_inLane_2 ?_
  refine z_istore_n (pls' := [some (qR 88), some (qI x1), some (qI 0), some (qI 0), none]) d_M_inLane_3 (by decide) rfl rfl ?_
  refine z_mask [true, true, true, true, false] ?_
  exact s_M_inLane_4 _ _ _ _ _
/-! BubbleTorusModel.laysSchedules -/
theorem d_M_laysSchedules_0 : decode m_M_laysSchedules.2.1 0 = .ok (.aload_n 0, 1) := by decide +kernel
theorem d_M_laysSchedules_1 : decode m_M_laysSchedules.2.1 1 = .ok (.iconst 0, 1) := by decide +kernel
theorem d_M_laysSchedules_2 : decode m_M_laysSchedules.2.1 2 = .ok (.putfield 264, 3) := by decide +kernel
theorem d_M_laysSchedules_5 : decode m_M_laysSchedules.2.1 5 = .ok (.iconst 0, 1) := by decide +kernel
theorem d_M_laysSchedules_6 : decode m_M_laysSchedules.2.1 6 = .ok (.istore_n 2, 1) := by decide +kernel
theorem d_M_laysSchedules_7 : decode m_M_laysSchedules.2.1 7 = .ok (.iconst 0, 1) := by decide +kernel
theorem d_M_laysSchedules_8 : decode m_M_laysSchedules.2.1 8 = .ok (.istore_n 3, 1) := by decide +kernel
theorem d_M_laysSchedules_9 : decode m_M_laysSchedules.2.1 9 = .ok (.iconst 0, 1) := by decide +kernel
theorem d_M_laysSchedules_10 : decode m_M_laysSchedules.2.1 10 = .ok (.istore 4, 2) := by decide +kernel
theorem d_M_laysSchedules_12 : decode m_M_laysSchedules.2.1 12 = .ok (.sipush 1000, 3) := by decide +kernel
theorem d_M_laysSchedules_15 : decode m_M_laysSchedules.2.1 15 = .ok (.istore 5, 2) := by decide +kernel
theorem d_M_laysSchedules_17 : decode m_M_laysSchedules.2.1 17 = .ok (.aload_n 0, 1) := by decide +kernel
theorem d_M_laysSchedules_18 : decode m_M_laysSchedules.2.1 18 = .ok (.getfield 23, 3) := by decide +kernel
theorem d_M_laysSchedules_21 : decode m_M_laysSchedules.2.1 21 = .ok (.aload_n 0, 1) := by decide +kernel
theorem d_M_laysSchedules_22 : decode m_M_laysSchedules.2.1 22 = .ok (.invokevirtual 270, 3) := by decide +kernel
theorem d_M_laysSchedules_25 : decode m_M_laysSchedules.2.1 25 = .ok (.iconst 1, 1) := by decide +kernel
theorem d_M_laysSchedules_26 : decode m_M_laysSchedules.2.1 26 = .ok (.iastore, 1) := by decide +kernel
theorem d_M_laysSchedules_27 : decode m_M_laysSchedules.2.1 27 = .ok (.iconst 0, 1) := by decide +kernel
theorem d_M_laysSchedules_28 : decode m_M_laysSchedules.2.1 28 = .ok (.istore 6, 2) := by decide +kernel
theorem d_M_laysSchedules_30 : decode m_M_laysSchedules.2.1 30 = .ok (.iload 6, 2) := by decide +kernel
theorem d_M_laysSchedules_32 : decode m_M_laysSchedules.2.1 32 = .ok (.aload_n 0, 1) := by decide +kernel
theorem d_M_laysSchedules_33 : decode m_M_laysSchedules.2.1 33 = .ok (.getfield 264, 3) := by decide +kernel
theorem d_M_laysSchedules_36 : decode m_M_laysSchedules.2.1 36 = .ok (.if_icmp .ge 185, 3) := by decide +kernel
theorem d_M_laysSchedules_39 : decode m_M_laysSchedules.2.1 39 = .ok (.aload_n 0, 1) := by decide +kernel
theorem d_M_laysSchedules_40 : decode m_M_laysSchedules.2.1 40 = .ok (.iload 6, 2) := by decide +kernel
theorem d_M_laysSchedules_42 : decode m_M_laysSchedules.2.1 42 = .ok (.invokevirtual 274, 3) := by decide +kernel
theorem d_M_laysSchedules_45 : decode m_M_laysSchedules.2.1 45 = .ok (.aload_n 0, 1) := by decide +kernel
theorem d_M_laysSchedules_46 : decode m_M_laysSchedules.2.1 46 = .ok (.iconst 0, 1) := by decide +kernel
theorem d_M_laysSchedules_47 : decode m_M_laysSchedules.2.1 47 = .ok (.invokevirtual 286, 3) := by decide +kernel
theorem d_M_laysSchedules_50 : decode m_M_laysSchedules.2.1 50 = .ok (.aload_n 0, 1) := by decide +kernel
theorem d_M_laysSchedules_51 : decode m_M_laysSchedules.2.1 51 = .ok (.iconst 1, 1) := by decide +kernel
theorem d_M_laysSchedules_52 : decode m_M_laysSchedules.2.1 52 = .ok (.invokevirtual 286, 3) := by decide +kernel
theorem d_M_laysSchedules_55 : decode m_M_laysSchedules.2.1 55 = .ok (.iadd, 1) := by decide +kernel
theorem d_M_laysSchedules_56 : decode m_M_laysSchedules.2.1 56 = .ok (.aload_n 0, 1) := by decide +kernel
theorem d_M_laysSchedules_57 : decode m_M_laysSchedules.2.1 57 = .ok (.iconst 2, 1) := by decide +kernel
theorem d_M_laysSchedules_58 : decode m_M_laysSchedules.2.1 58 = .ok (.invokevirtual 286, 3) := by decide +kernel
theorem d_M_laysSchedules_61 : decode m_M_laysSchedules.2.1 61 = .ok (.iadd, 1) := by decide +kernel
theorem d_M_laysSchedules_62 : decode m_M_laysSchedules.2.1 62 = .ok (.istore 7, 2) := by decide +kernel
theorem d_M_laysSchedules_64 : decode m_M_laysSchedules.2.1 64 = .ok (.aload_n 0, 1) := by decide +kernel
theorem d_M_laysSchedules_65 : decode m_M_laysSchedules.2.1 65 = .ok (.iconst 1, 1) := by decide +kernel
theorem d_M_laysSchedules_66 : decode m_M_laysSchedules.2.1 66 = .ok (.invokevirtual 286, 3) := by decide +kernel
theorem d_M_laysSchedules_69 : decode m_M_laysSchedules.2.1 69 = .ok (.iload 4, 2) := by decide +kernel
theorem d_M_laysSchedules_71 : decode m_M_laysSchedules.2.1 71 = .ok (.if_icmp .le 11, 3) := by decide +kernel
theorem d_M_laysSchedules_74 : decode m_M_laysSchedules.2.1 74 = .ok (.aload_n 0, 1) := by decide +kernel
theorem d_M_laysSchedules_75 : decode m_M_laysSchedules.2.1 75 = .ok (.iconst 1, 1) := by decide +kernel
theorem d_M_laysSchedules_76 : decode m_M_laysSchedules.2.1 76 = .ok (.invokevirtual 286, 3) := by decide +kernel
theorem d_M_laysSchedules_79 : decode m_M_laysSchedules.2.1 79 = .ok (.goto 5, 3) := by decide +kernel
theorem d_M_laysSchedules_82 : decode m_M_laysSchedules.2.1 82 = .ok (.iload 4, 2) := by decide +kernel
theorem d_M_laysSchedules_84 : decode m_M_laysSchedules.2.1 84 = .ok (.istore 4, 2) := by decide +kernel
theorem d_M_laysSchedules_86 : decode m_M_laysSchedules.2.1 86 = .ok (.aload_n 0, 1) := by decide +kernel
theorem d_M_laysSchedules_87 : decode m_M_laysSchedules.2.1 87 = .ok (.invokevirtual 289, 3) := by decide +kernel
theorem d_M_laysSchedules_90 : decode m_M_laysSchedules.2.1 90 = .ok (.iload 5, 2) := by decide +kernel
theorem d_M_laysSchedules_92 : decode m_M_laysSchedules.2.1 92 = .ok (.if_icmp .ge 10, 3) := by decide +kernel
theorem d_M_laysSchedules_95 : decode m_M_laysSchedules.2.1 95 = .ok (.aload_n 0, 1) := by decide +kernel
theorem d_M_laysSchedules_96 : decode m_M_laysSchedules.2.1 96 = .ok (.invokevirtual 289, 3) := by decide +kernel
theorem d_M_laysSchedules_99 : decode m_M_laysSchedules.2.1 99 = .ok (.goto 5, 3) := by decide +kernel
theorem d_M_laysSchedules_102 : decode m_M_laysSchedules.2.1 102 = .ok (.iload 5, 2) := by decide +kernel
theorem d_M_laysSchedules_104 : decode m_M_laysSchedules.2.1 104 = .ok (.istore 5, 2) := by decide +kernel
theorem d_M_laysSchedules_106 : decode m_M_laysSchedules.2.1 106 = .ok (.aload_n 0, 1) := by decide +kernel
theorem d_M_laysSchedules_107 : decode m_M_laysSchedules.2.1 107 = .ok (.iconst 0, 1) := by decide +kernel
theorem d_M_laysSchedules_108 : decode m_M_laysSchedules.2.1 108 = .ok (.putfield 280, 3) := by decide +kernel
theorem d_M_laysSchedules_111 : decode m_M_laysSchedules.2.1 111 = .ok (.iconst 0, 1) := by decide +kernel
theorem d_M_laysSchedules_112 : decode m_M_laysSchedules.2.1 112 = .ok (.istore 8, 2) := by decide +kernel
theorem d_M_laysSchedules_114 : decode m_M_laysSchedules.2.1 114 = .ok (.iload 8, 2) := by decide +kernel
theorem d_M_laysSchedules_116 : decode m_M_laysSchedules.2.1 116 = .ok (.aload_n 0, 1) := by decide +kernel
theorem d_M_laysSchedules_117 : decode m_M_laysSchedules.2.1 117 = .ok (.invokevirtual 72, 3) := by decide +kernel
theorem d_M_laysSchedules_120 : decode m_M_laysSchedules.2.1 120 = .ok (.if_icmp .ge 52, 3) := by decide +kernel
theorem d_M_laysSchedules_123 : decode m_M_laysSchedules.2.1 123 = .ok (.iconst 0, 1) := by decide +kernel
theorem d_M_laysSchedules_124 : decode m_M_laysSchedules.2.1 124 = .ok (.istore 9, 2) := by decide +kernel
theorem d_M_laysSchedules_126 : decode m_M_laysSchedules.2.1 126 = .ok (.iload 9, 2) := by decide +kernel
theorem d_M_laysSchedules_128 : decode m_M_laysSchedules.2.1 128 = .ok (.bipush 9, 2) := by decide +kernel
theorem d_M_laysSchedules_130 : decode m_M_laysSchedules.2.1 130 = .ok (.if_icmp .ge 36, 3) := by decide +kernel
theorem d_M_laysSchedules_133 : decode m_M_laysSchedules.2.1 133 = .ok (.aload_n 0, 1) := by decide +kernel
theorem d_M_laysSchedules_134 : decode m_M_laysSchedules.2.1 134 = .ok (.iload 8, 2) := by decide +kernel
theorem d_M_laysSchedules_136 : decode m_M_laysSchedules.2.1 136 = .ok (.iload 9, 2) := by decide +kernel
theorem d_M_laysSchedules_138 : decode m_M_laysSchedules.2.1 138 = .ok (.invokevirtual 145, 3) := by decide +kernel
theorem d_M_laysSchedules_141 : decode m_M_laysSchedules.2.1 141 = .ok (.iconst (-1), 1) := by decide +kernel
theorem d_M_laysSchedules_142 : decode m_M_laysSchedules.2.1 142 = .ok (.if_icmp .eq 18, 3) := by decide +kernel
theorem d_M_laysSchedules_145 : decode m_M_laysSchedules.2.1 145 = .ok (.aload_n 0, 1) := by decide +kernel
theorem d_M_laysSchedules_146 : decode m_M_laysSchedules.2.1 146 = .ok (.iload 6, 2) := by decide +kernel
theorem d_M_laysSchedules_148 : decode m_M_laysSchedules.2.1 148 = .ok (.iload 8, 2) := by decide +kernel
theorem d_M_laysSchedules_150 : decode m_M_laysSchedules.2.1 150 = .ok (.iload 9, 2) := by decide +kernel
theorem d_M_laysSchedules_152 : decode m_M_laysSchedules.2.1 152 = .ok (.invokevirtual 292, 3) := by decide +kernel
theorem d_M_laysSchedules_155 : decode m_M_laysSchedules.2.1 155 = .ok (.ifCond .ne 5, 3) := by decide +kernel
theorem d_M_laysSchedules_158 : decode m_M_laysSchedules.2.1 158 = .ok (.iconst (-1), 1) := by decide +kernel
theorem d_M_laysSchedules_159 : decode m_M_laysSchedules.2.1 159 = .ok (.ireturn, 1) := by decide +kernel
theorem d_M_laysSchedules_160 : decode m_M_laysSchedules.2.1 160 = .ok (.iinc 9 1, 3) := by decide +kernel
theorem d_M_laysSchedules_163 : decode m_M_laysSchedules.2.1 163 = .ok (.goto (-37), 3) := by decide +kernel
theorem d_M_laysSchedules_166 : decode m_M_laysSchedules.2.1 166 = .ok (.iinc 8 1, 3) := by decide +kernel
theorem d_M_laysSchedules_169 : decode m_M_laysSchedules.2.1 169 = .ok (.goto (-55), 3) := by decide +kernel
theorem d_M_laysSchedules_172 : decode m_M_laysSchedules.2.1 172 = .ok (.iload_n 2, 1) := by decide +kernel
theorem d_M_laysSchedules_173 : decode m_M_laysSchedules.2.1 173 = .ok (.iload 7, 2) := by decide +kernel
theorem d_M_laysSchedules_175 : decode m_M_laysSchedules.2.1 175 = .ok (.ifCond .le 14, 3) := by decide +kernel
theorem d_M_laysSchedules_178 : decode m_M_laysSchedules.2.1 178 = .ok (.aload_n 0, 1) := by decide +kernel
theorem d_M_laysSchedules_179 : decode m_M_laysSchedules.2.1 179 = .ok (.getfield 280, 3) := by decide +kernel
theorem d_M_laysSchedules_182 : decode m_M_laysSchedules.2.1 182 = .ok (.ifCond .ne 7, 3) := by decide +kernel
theorem d_M_laysSchedules_185 : decode m_M_laysSchedules.2.1 185 = .ok (.iconst 1, 1) := by decide +kernel
theorem d_M_laysSchedules_186 : decode m_M_laysSchedules.2.1 186 = .ok (.goto 4, 3) := by decide +kernel
theorem d_M_laysSchedules_189 : decode m_M_laysSchedules.2.1 189 = .ok (.iconst 0, 1) := by decide +kernel
theorem d_M_laysSchedules_190 : decode m_M_laysSchedules.2.1 190 = .ok (.iadd, 1) := by decide +kernel
theorem d_M_laysSchedules_191 : decode m_M_laysSchedules.2.1 191 = .ok (.istore_n 2, 1) := by decide +kernel
theorem d_M_laysSchedules_192 : decode m_M_laysSchedules.2.1 192 = .ok (.iload 7, 2) := by decide +kernel
theorem d_M_laysSchedules_194 : decode m_M_laysSchedules.2.1 194 = .ok (.ifCond .ne 19, 3) := by decide +kernel
theorem d_M_laysSchedules_197 : decode m_M_laysSchedules.2.1 197 = .ok (.iload_n 3, 1) := by decide +kernel
theorem d_M_laysSchedules_198 : decode m_M_laysSchedules.2.1 198 = .ok (.aload_n 0, 1) := by decide +kernel
theorem d_M_laysSchedules_199 : decode m_M_laysSchedules.2.1 199 = .ok (.getfield 23, 3) := by decide +kernel
theorem d_M_laysSchedules_202 : decode m_M_laysSchedules.2.1 202 = .ok (.iload 6, 2) := by decide +kernel
theorem d_M_laysSchedules_204 : decode m_M_laysSchedules.2.1 204 = .ok (.iaload, 1) := by decide +kernel
theorem d_M_laysSchedules_205 : decode m_M_laysSchedules.2.1 205 = .ok (.iadd, 1) := by decide +kernel
theorem d_M_laysSchedules_206 : decode m_M_laysSchedules.2.1 206 = .ok (.ldc_w 273, 3) := by decide +kernel
theorem d_M_laysSchedules_209 : decode m_M_laysSchedules.2.1 209 = .ok (.irem, 1) := by decide +kernel
theorem d_M_laysSchedules_210 : decode m_M_laysSchedules.2.1 210 = .ok (.goto 4, 3) := by decide +kernel
theorem d_M_laysSchedules_213 : decode m_M_laysSchedules.2.1 213 = .ok (.iload_n 3, 1) := by decide +kernel
theorem d_M_laysSchedules_214 : decode m_M_laysSchedules.2.1 214 = .ok (.istore_n 3, 1) := by decide +kernel
theorem d_M_laysSchedules_215 : decode m_M_laysSchedules.2.1 215 = .ok (.iinc 6 1, 3) := by decide +kernel
theorem d_M_laysSchedules_218 : decode m_M_laysSchedules.2.1 218 = .ok (.goto (-188), 3) := by decide +kernel
theorem d_M_laysSchedules_221 : decode m_M_laysSchedules.2.1 221 = .ok (.iload_n 1, 1) := by decide +kernel
theorem d_M_laysSchedules_222 : decode m_M_laysSchedules.2.1 222 = .ok (.tableswitch 42 0 3 #[30, 35, 37, 39], 30) := by decide +kernel
theorem d_M_laysSchedules_252 : decode m_M_laysSchedules.2.1 252 = .ok (.aload_n 0, 1) := by decide +kernel
theorem d_M_laysSchedules_253 : decode m_M_laysSchedules.2.1 253 = .ok (.getfield 264, 3) := by decide +kernel
theorem d_M_laysSchedules_256 : decode m_M_laysSchedules.2.1 256 = .ok (.ireturn, 1) := by decide +kernel
theorem d_M_laysSchedules_257 : decode m_M_laysSchedules.2.1 257 = .ok (.iload_n 2, 1) := by decide +kernel
theorem d_M_laysSchedules_258 : decode m_M_laysSchedules.2.1 258 = .ok (.ireturn, 1) := by decide +kernel
theorem d_M_laysSchedules_259 : decode m_M_laysSchedules.2.1 259 = .ok (.iload_n 3, 1) := by decide +kernel
theorem d_M_laysSchedules_260 : decode m_M_laysSchedules.2.1 260 = .ok (.ireturn, 1) := by decide +kernel
theorem d_M_laysSchedules_261 : decode m_M_laysSchedules.2.1 261 = .ok (.iload 4, 2) := by decide +kernel
theorem d_M_laysSchedules_263 : decode m_M_laysSchedules.2.1 263 = .ok (.ireturn, 1) := by decide +kernel
theorem d_M_laysSchedules_264 : decode m_M_laysSchedules.2.1 264 = .ok (.iload 5, 2) := by decide +kernel
theorem d_M_laysSchedules_266 : decode m_M_laysSchedules.2.1 266 = .ok (.ireturn, 1) := by decide +kernel
def f_M_laysSchedules_126 (r30 : Int → Int → Int → Int → Int → Int → qMem → Option (Int × qMem)) (r114 : Int → Int → Int → Int → Int → Int → Int → Int → qMem → Option (Int × qMem)) : Nat → Int → Int → Int → Int → Int → Int → Int → Int → Int → qMem → Option (Int × qMem)
  | 0, _, _, _, _, _, _, _, _, _, _ => none
  | n + 1, x1, x2, x3, x4, x5, x6, x7, x8, x9, w =>
    if x9 < 9 then
    (f_M_firstOf x8 x9 w).bind fun q2 =>
    if q2.1 = (-1) then
    (f_M_laysSchedules_126 r30 r114 n) x1 x2 x3 x4 x5 x6 x7 x8 (w32 (x9 + 1)) q2.2
    else
    (f_M_goesAll x6 x8 x9 q2.2).bind fun q4 =>
    if q4.1 = 0 then
    some ((-1), q4.2)
    else
    (f_M_laysSchedules_126 r30 r114 n) x1 x2 x3 x4 x5 x6 x7 x8 (w32 (x9 + 1)) q4.2
    else
    r114 x1 x2 x3 x4 x5 x6 x7 (w32 (x8 + 1)) w
set_option maxRecDepth 4000 in
theorem s_M_laysSchedules_126  {r30 : Int → Int → Int → Int → Int → Int → qMem → Option (Int × qMem)} {r114 : Int → Int → Int → Int → Int → Int → Int → Int → qMem → Option (Int × qMem)} (hr30 : ∀ x1 x2 x3 x4 x5 x6 w, qSim κI 100 100 m_M_laysSchedules 30 [] [some (qR 88), some (qI x1), some (qI x2), some (qI x3), some (qI x4), some (qI x5), some (qI x6), none, none, none] w (r30 x1 x2 x3 x4 x5 x6 w)) (hr114 : ∀ x1 x2 x3 x4 x5 x6 x7 x8 w, qSim κI 100 100 m_M_laysSchedules 114 [] [some (qR 88), some (qI x1), some (qI x2), some (qI x3), some (qI x4), some (qI x5), some (qI x6), some (qI x7), some (qI x8), none] w (r114 x1 x2 x3 x4 x5 x6 x7 x8 w)) : ∀ (n : Nat), ∀ (x1 x2 x3 x4 x5 x6 x7 x8 x9 : Int) (w : qMem), qSim κI 100 100 m_M_laysSchedules 126 [] [some (qR 88), some (qI x1), some (qI x2), some (qI x3), some (qI x4), some (qI x5), some (qI x6), some (qI x7), some (qI x8), some (qI x9)] w (f_M_laysSchedules_126 r30 r114 n x1 x2 x3 x4 x5 x6 x7 x8 x9 w) := by
  intro n
  induction n with
  | zero => intro x1 x2 x3 x4 x5 x6 x7 x8 x9 w; exact z_none
  | succ n ih =>
    intro x1 x2 x3 x4 x5 x6 x7 x8 x9 w
    rw [f_M_laysSchedules_126]
    refine z_iload d_M_laysSchedules_126 rfl ?_
    refine z_bipush d_M_laysSchedules_128 ⟨by decide, by decide⟩ ?_
    refine z_icmp_ge (tgt := 166) d_M_laysSchedules_130 rfl (fun c1 => ?_) (fun c1 => ?_)
    · refine z_aload_n d_M_laysSchedules_133 rfl ?_
      refine z_iload d_M_laysSchedules_134 rfl ?_
      refine z_iload d_M_laysSchedules_136 rfl ?_
      refine z_cVI (as := [qI x8, qI x9]) (st := []) (nl := 0) (ci := 10) d_M_laysSchedules_138 lk_M_145 mk_M_firstOf rfl rfl rfl rfl rfl rfl (s_M_firstOf _ _ _) (fun q2 _ hq2 => ?_)
      refine z_icm1 d_M_laysSchedules_141 ?_
      refine z_icmp_eq (tgt := 160) d_M_laysSchedules_142 rfl (fun c3 => ?_) (fun c3 => ?_)
      · refine z_iinc (pls' := [some (qR 88), some (qI x1), some (qI x2), some (qI x3), some (qI x4), some (qI x5), some (qI x6), some (qI x7), some (qI x8), some (qI (w32 (x9 + 1)))]) d_M_laysSchedules_160 (by decide) rfl rfl rfl ?_
        refine z_goto (tgt := 126) d_M_laysSchedules_163 rfl ?_
        refine z_mask [true, true, true, true, true, true, true, true, true, true] ?_
        exact ih _ _ _ _ _ _ _ _ _ _
      · refine z_aload_n d_M_laysSchedules_145 rfl ?_
        refine z_iload d_M_laysSchedules_146 rfl ?_
        refine z_iload d_M_laysSchedules_148 rfl ?_
        refine z_iload d_M_laysSchedules_150 rfl ?_
        refine z_cVI (as := [qI x6, qI x8, qI x9]) (st := []) (nl := 2) (ci := 10) d_M_laysSchedules_152 lk_M_292 mk_M_goesAll rfl rfl rfl rfl rfl rfl (s_M_goesAll _ _ _ _) (fun q4 _ hq4 => ?_)
        refine z_if_ne (tgt := 160) d_M_laysSchedules_155 rfl (fun c5 => ?_) (fun c5 => ?_)
        · refine z_icm1 d_M_laysSchedules_158 ?_
          exact z_iret d_M_laysSchedules_159 rfl rfl
        · refine z_iinc (pls' := [some (qR 88), some (qI x1), some (qI x2), some (qI x3), some (qI x4), some (qI x5), some (qI x6), some (qI x7), some (qI x8), some (qI (w32 (x9 + 1)))]) d_M_laysSchedules_160 (by decide) rfl rfl rfl ?_
          refine z_goto (tgt := 126) d_M_laysSchedules_163 rfl ?_
          refine z_mask [true, true, true, true, true, true, true, true, true, true] ?_
          exact ih _ _ _ _ _ _ _ _ _ _
    · refine z_iinc (pls' := [some (qR 88), some (qI x1), some (qI x2), some (qI x3), some (qI x4), some (qI x5), some (qI x6), some (qI x7), some (qI (w32 (x8 + 1))), some (qI x9)]) d_M_laysSchedules_166 (by decide) rfl rfl rfl ?_
      refine z_goto (tgt := 114) d_M_laysSchedules_169 rfl ?_
      refine z_mask [true, true, true, true, true, true, true, true, true, false] ?_
      exact hr114 _ _ _ _ _ _ _ _ _
def f_M_laysSchedules_214 (r30 : Int → Int → Int → Int → Int → Int → qMem → Option (Int × qMem)) (s0 x1 x2 x4 x5 x6 : Int) (w : qMem) : Option (Int × qMem) :=
  r30 x1 x2 s0 x4 x5 (w32 (x6 + 1)) w
set_option maxRecDepth 4000 in
theorem s_M_laysSchedules_214  {r30 : Int → Int → Int → Int → Int → Int → qMem → Option (Int × qMem)} (hr30 : ∀ x1 x2 x3 x4 x5 x6 w, qSim κI 100 100 m_M_laysSchedules 30 [] [some (qR 88), some (qI x1), some (qI x2), some (qI x3), some (qI x4), some (qI x5), some (qI x6), none, none, none] w (r30 x1 x2 x3 x4 x5 x6 w)) : ∀ (s0 x1 x2 x4 x5 x6 : Int) (w : qMem), qSim κI 100 100 m_M_laysSchedules 214 [qI s0] [some (qR 88), some (qI x1), some (qI x2), none, some (qI x4), some (qI x5), some (qI x6), none, none, none] w (f_M_laysSchedules_214 r30 s0 x1 x2 x4 x5 x6 w) := by
  intro s0 x1 x2 x4 x5 x6 w
  unfold f_M_laysSchedules_214
  refine z_istore_n (pls' := [some (qR 88), some (qI x1), some (qI x2), some (qI s0), some (qI x4), some (qI x5), some (qI x6), none, none, none]) d_M_laysSchedules_214 (by decide) rfl rfl ?_
  refine z_iinc (pls' := [some (qR 88), some (qI x1), some (qI x2), some (qI s0), some (qI x4), some (qI x5), some (qI (w32 (x6 + 1))), none, none, none]) d_M_laysSchedules_215 (by decide) rfl rfl rfl ?_
  refine z_goto (tgt := 30) d_M_laysSchedules_218 rfl ?_
  refine z_mask [true, true, true, true, true, true, true, false, false, false] ?_
  exact hr30 _ _ _ _ _ _ _
def f_M_laysSchedules_190 (r30 : Int → Int → Int → Int → Int → Int → qMem → Option (Int × qMem)) (s0 s1 x1 x3 x4 x5 x6 x7 : Int) (w : qMem) : Option (Int × qMem) :=
  if x7 = 0 then
  qld w 93 401 x6 fun v7 =>
  qdv 1000003 <|
  f_M_laysSchedules_214 r30 (jrem (w32 (x3 + v7)) 1000003) x1 (w32 (s0 + s1)) x4 x5 x6 w
  else
  f_M_laysSchedules_214 r30 x3 x1 (w32 (s0 + s1)) x4 x5 x6 w
set_option maxRecDepth 4000 in
theorem s_M_laysSchedules_190  {r30 : Int → Int → Int → Int → Int → Int → qMem → Option (Int × qMem)} (hr30 : ∀ x1 x2 x3 x4 x5 x6 w, qSim κI 100 100 m_M_laysSchedules 30 [] [some (qR 88), some (qI x1), some (qI x2), some (qI x3), some (qI x4), some (qI x5), some (qI x6), none, none, none] w (r30 x1 x2 x3 x4 x5 x6 w)) : ∀ (s0 s1 x1 x3 x4 x5 x6 x7 : Int) (w : qMem), (s1 = 0 ∨ s1 = 1) → qSim κI 100 100 m_M_laysSchedules 190 [qI s1, qI s0] [some (qR 88), some (qI x1), none, some (qI x3), some (qI x4), some (qI x5), some (qI x6), some (qI x7), none, none] w (f_M_laysSchedules_190 r30 s0 s1 x1 x3 x4 x5 x6 x7 w) := by
  intro s0 s1 x1 x3 x4 x5 x6 x7 w hs1
  unfold f_M_laysSchedules_190
  refine z_iadd d_M_laysSchedules_190 ?_
  refine z_istore_n (pls' := [some (qR 88), some (qI x1), some (qI (w32 (s0 + s1))), some (qI x3), some (qI x4), some (qI x5), some (qI x6), some (qI x7), none, none]) d_M_laysSchedules_191 (by decide) rfl rfl ?_
  refine z_iload d_M_laysSchedules_192 rfl ?_
  refine z_if_ne (tgt := 213) d_M_laysSchedules_194 rfl (fun c6 => ?_) (fun c6 => ?_)
  · refine z_iload_n d_M_laysSchedules_197 rfl ?_
    refine z_aload_n d_M_laysSchedules_198 rfl ?_
    refine z_gr (ci := 10) (j := 5) (d := 5) (o2 := 93) d_M_laysSchedules_199 rfl fl_M_23 rfl (Nat.le_of_ble_eq_true rfl) rfl rfl ?_
    refine z_iload d_M_laysSchedules_202 rfl ?_
    refine z_il d_M_laysSchedules_204 rfl rfl (fun v7 => ?_)
    refine z_iadd d_M_laysSchedules_205 ?_
    refine z_ldc_w (n := 1000003) d_M_laysSchedules_206 ck_M_273 (by decide) ?_
    refine z_irem d_M_laysSchedules_209 (fun _ => ?_)
    refine z_goto (tgt := 214) d_M_laysSchedules_210 rfl ?_
    refine z_mask [true, true, true, false, true, true, true, false, false, false] ?_
    exact s_M_laysSchedules_214 hr30 _ _ _ _ _ _ _
  · refine z_iload_n d_M_laysSchedules_213 rfl ?_
    refine z_mask [true, true, true, false, true, true, true, false, false, false] ?_
    exact s_M_laysSchedules_214 hr30 _ _ _ _ _ _ _
def f_M_laysSchedules_172 (r30 : Int → Int → Int → Int → Int → Int → qMem → Option (Int × qMem)) (x1 x2 x3 x4 x5 x6 x7 : Int) (w : qMem) : Option (Int × qMem) :=
  if x7 ≤ 0 then
  f_M_laysSchedules_190 r30 x2 0 x1 x3 x4 x5 x6 x7 w
  else
  if (w 88 9) = 0 then
  f_M_laysSchedules_190 r30 x2 1 x1 x3 x4 x5 x6 x7 w
  else
  f_M_laysSchedules_190 r30 x2 0 x1 x3 x4 x5 x6 x7 w
set_option maxRecDepth 4000 in
theorem s_M_laysSchedules_172  {r30 : Int → Int → Int → Int → Int → Int → qMem → Option (Int × qMem)} (hr30 : ∀ x1 x2 x3 x4 x5 x6 w, qSim κI 100 100 m_M_laysSchedules 30 [] [some (qR 88), some (qI x1), some (qI x2), some (qI x3), some (qI x4), some (qI x5), some (qI x6), none, none, none] w (r30 x1 x2 x3 x4 x5 x6 w)) : ∀ (x1 x2 x3 x4 x5 x6 x7 : Int) (w : qMem), qSim κI 100 100 m_M_laysSchedules 172 [] [some (qR 88), some (qI x1), some (qI x2), some (qI x3), some (qI x4), some (qI x5), some (qI x6), some (qI x7), none, none] w (f_M_laysSchedules_172 r30 x1 x2 x3 x4 x5 x6 x7 w) := by
  intro x1 x2 x3 x4 x5 x6 x7 w
  unfold f_M_laysSchedules_172
  refine z_iload_n d_M_laysSchedules_172 rfl ?_
  refine z_iload d_M_laysSchedules_173 rfl ?_
  refine z_if_le (tgt := 189) d_M_laysSchedules_175 rfl (fun c8 => ?_) (fun c8 => ?_)
  · refine z_ic0 d_M_laysSchedules_189 ?_
    refine z_mask [true, true, false, true, true, true, true, true, false, false] ?_
    exact s_M_laysSchedules_190 hr30 _ _ _ _ _ _ _ _ _ (Or.inl rfl)
  · refine z_aload_n d_M_laysSchedules_178 rfl ?_
    refine z_gi (ci := 10) (j := 9) (ji := 9) d_M_laysSchedules_179 rfl fl_M_280 rfl rfl rfl ?_
    refine z_if_ne (tgt := 189) d_M_laysSchedules_182 rfl (fun c9 => ?_) (fun c9 => ?_)
    · refine z_ic1 d_M_laysSchedules_185 ?_
      refine z_goto (tgt := 190) d_M_laysSchedules_186 rfl ?_
      refine z_mask [true, true, false, true, true, true, true, true, false, false] ?_
      exact s_M_laysSchedules_190 hr30 _ _ _ _ _ _ _ _ _ (Or.inr rfl)
    · refine z_ic0 d_M_laysSchedules_189 ?_
      refine z_mask [true, true, false, true, true, true, true, true, false, false] ?_
      exact s_M_laysSchedules_190 hr30 _ _ _ _ _ _ _ _ _ (Or.inl rfl)
def f_M_laysSchedules_114 (r30 : Int → Int → Int → Int → Int → Int → qMem → Option (Int × qMem)) : Nat → Int → Int → Int → Int → Int → Int → Int → Int → qMem → Option (Int × qMem)
  | 0, _, _, _, _, _, _, _, _, _ => none
  | n + 1, x1, x2, x3, x4, x5, x6, x7, x8, w =>
    (f_M_nodes w).bind fun q10 =>
    if x8 < q10.1 then
    f_M_laysSchedules_126 r30 (f_M_laysSchedules_114 r30 n) qFU x1 x2 x3 x4 x5 x6 x7 x8 0 q10.2
    else
    f_M_laysSchedules_172 r30 x1 x2 x3 x4 x5 x6 x7 q10.2
set_option maxRecDepth 4000 in
theorem s_M_laysSchedules_114  {r30 : Int → Int → Int → Int → Int → Int → qMem → Option (Int × qMem)} (hr30 : ∀ x1 x2 x3 x4 x5 x6 w, qSim κI 100 100 m_M_laysSchedules 30 [] [some (qR 88), some (qI x1), some (qI x2), some (qI x3), some (qI x4), some (qI x5), some (qI x6), none, none, none] w (r30 x1 x2 x3 x4 x5 x6 w)) : ∀ (n : Nat), ∀ (x1 x2 x3 x4 x5 x6 x7 x8 : Int) (w : qMem), qSim κI 100 100 m_M_laysSchedules 114 [] [some (qR 88), some (qI x1), some (qI x2), some (qI x3), some (qI x4), some (qI x5), some (qI x6), some (qI x7), some (qI x8), none] w (f_M_laysSchedules_114 r30 n x1 x2 x3 x4 x5 x6 x7 x8 w) := by
  intro n
  induction n with
  | zero => intro x1 x2 x3 x4 x5 x6 x7 x8 w; exact z_none
  | succ n ih =>
    intro x1 x2 x3 x4 x5 x6 x7 x8 w
    rw [f_M_laysSchedules_114]
    refine z_iload d_M_laysSchedules_114 rfl ?_
    refine z_aload_n d_M_laysSchedules_116 rfl ?_
    refine z_cVI (as := []) (st := [qI x8]) (nl := 0) (ci := 10) d_M_laysSchedules_117 lk_M_72 mk_M_nodes rfl rfl rfl rfl rfl rfl (s_M_nodes _) (fun q10 _ hq10 => ?_)
    refine z_icmp_ge (tgt := 172) d_M_laysSchedules_120 rfl (fun c11 => ?_) (fun c11 => ?_)
    · refine z_ic0 d_M_laysSchedules_123 ?_
      refine z_istore (pls' := [some (qR 88), some (qI x1), some (qI x2), some (qI x3), some (qI x4), some (qI x5), some (qI x6), some (qI x7), some (qI x8), some (qI 0)]) d_M_laysSchedules_124 (by decide) rfl rfl ?_
      refine z_mask [true, true, true, true, true, true, true, true, true, true] ?_
      exact s_M_laysSchedules_126 hr30 ih _ _ _ _ _ _ _ _ _ _ _
    · refine z_mask [true, true, true, true, true, true, true, true, false, false] ?_
      exact s_M_laysSchedules_172 hr30 _ _ _ _ _ _ _ _
def f_M_laysSchedules_104 (r30 : Int → Int → Int → Int → Int → Int → qMem → Option (Int × qMem)) (s0 x1 x2 x3 x4 x6 x7 : Int) (w : qMem) : Option (Int × qMem) :=
  qlt (qud w 88 9 0) fun w12 =>
  f_M_laysSchedules_114 r30 qFU x1 x2 x3 x4 s0 x6 x7 0 w12
set_option maxRecDepth 4000 in
theorem s_M_laysSchedules_104  {r30 : Int → Int → Int → Int → Int → Int → qMem → Option (Int × qMem)} (hr30 : ∀ x1 x2 x3 x4 x5 x6 w, qSim κI 100 100 m_M_laysSchedules 30 [] [some (qR 88), some (qI x1), some (qI x2), some (qI x3), some (qI x4), some (qI x5), some (qI x6), none, none, none] w (r30 x1 x2 x3 x4 x5 x6 w)) : ∀ (s0 x1 x2 x3 x4 x6 x7 : Int) (w : qMem), qSim κI 100 100 m_M_laysSchedules 104 [qI s0] [some (qR 88), some (qI x1), some (qI x2), some (qI x3), some (qI x4), none, some (qI x6), some (qI x7), none, none] w (f_M_laysSchedules_104 r30 s0 x1 x2 x3 x4 x6 x7 w) := by
  intro s0 x1 x2 x3 x4 x6 x7 w
  unfold f_M_laysSchedules_104
  refine z_istore (pls' := [some (qR 88), some (qI x1), some (qI x2), some (qI x3), some (qI x4), some (qI s0), some (qI x6), some (qI x7), none, none]) d_M_laysSchedules_104 (by decide) rfl rfl ?_
  refine z_aload_n d_M_laysSchedules_106 rfl ?_
  refine z_ic0 d_M_laysSchedules_107 ?_
  refine z_pi (ci := 10) (j := 9) (ji := 9) d_M_laysSchedules_108 rfl fl_M_280 rfl rfl rfl rfl rfl (fun w12 => ?_)
  refine z_ic0 d_M_laysSchedules_111 ?_
  refine z_istore (pls' := [some (qR 88), some (qI x1), some (qI x2), some (qI x3), some (qI x4), some (qI s0), some (qI x6), some (qI x7), some (qI 0), none]) d_M_laysSchedules_112 (by decide) rfl rfl ?_
  refine z_mask [true, true, true, true, true, true, true, true, true, false] ?_
  exact s_M_laysSchedules_114 hr30 _ _ _ _ _ _ _ _ _ _
def f_M_laysSchedules_84 (r30 : Int → Int → Int → Int → Int → Int → qMem → Option (Int × qMem)) (s0 x1 x2 x3 x5 x6 x7 : Int) (w : qMem) : Option (Int × qMem) :=
  (f_M_fewestFree w).bind fun q13 =>
  if q13.1 < x5 then
  (f_M_fewestFree q13.2).bind fun q15 =>
  f_M_laysSchedules_104 r30 q15.1 x1 x2 x3 s0 x6 x7 q15.2
  else
  f_M_laysSchedules_104 r30 x5 x1 x2 x3 s0 x6 x7 q13.2
set_option maxRecDepth 4000 in
theorem s_M_laysSchedules_84  {r30 : Int → Int → Int → Int → Int → Int → qMem → Option (Int × qMem)} (hr30 : ∀ x1 x2 x3 x4 x5 x6 w, qSim κI 100 100 m_M_laysSchedules 30 [] [some (qR 88), some (qI x1), some (qI x2), some (qI x3), some (qI x4), some (qI x5), some (qI x6), none, none, none] w (r30 x1 x2 x3 x4 x5 x6 w)) : ∀ (s0 x1 x2 x3 x5 x6 x7 : Int) (w : qMem), qSim κI 100 100 m_M_laysSchedules 84 [qI s0] [some (qR 88), some (qI x1), some (qI x2), some (qI x3), none, some (qI x5), some (qI x6), some (qI x7), none, none] w (f_M_laysSchedules_84 r30 s0 x1 x2 x3 x5 x6 x7 w) := by
  intro s0 x1 x2 x3 x5 x6 x7 w
  unfold f_M_laysSchedules_84
  refine z_istore (pls' := [some (qR 88), some (qI x1), some (qI x2), some (qI x3), some (qI s0), some (qI x5), some (qI x6), some (qI x7), none, none]) d_M_laysSchedules_84 (by decide) rfl rfl ?_
  refine z_aload_n d_M_laysSchedules_86 rfl ?_
  refine z_cVI (as := []) (st := []) (nl := 2) (ci := 10) d_M_laysSchedules_87 lk_M_289 mk_M_fewestFree rfl rfl rfl rfl rfl rfl (s_M_fewestFree _) (fun q13 _ hq13 => ?_)
  refine z_iload d_M_laysSchedules_90 rfl ?_
  refine z_icmp_ge (tgt := 102) d_M_laysSchedules_92 rfl (fun c14 => ?_) (fun c14 => ?_)
  · refine z_aload_n d_M_laysSchedules_95 rfl ?_
    refine z_cVI (as := []) (st := []) (nl := 2) (ci := 10) d_M_laysSchedules_96 lk_M_289 mk_M_fewestFree rfl rfl rfl rfl rfl rfl (s_M_fewestFree _) (fun q15 _ hq15 => ?_)
    refine z_goto (tgt := 104) d_M_laysSchedules_99 rfl ?_
    refine z_mask [true, true, true, true, true, false, true, true, false, false] ?_
    exact s_M_laysSchedules_104 hr30 _ _ _ _ _ _ _ _
  · refine z_iload d_M_laysSchedules_102 rfl ?_
    refine z_mask [true, true, true, true, true, false, true, true, false, false] ?_
    exact s_M_laysSchedules_104 hr30 _ _ _ _ _ _ _ _
def f_M_laysSchedules_221 (x1 x2 x3 x4 x5 : Int) (w : qMem) : Option (Int × qMem) :=
  if x1 = 0 then
  some ((w 88 8), w)
  else
  if x1 = 1 then
  some (x2, w)
  else
  if x1 = 2 then
  some (x3, w)
  else
  if x1 = 3 then
  some (x4, w)
  else
  some (x5, w)
set_option maxRecDepth 4000 in
theorem s_M_laysSchedules_221  : ∀ (x1 x2 x3 x4 x5 : Int) (w : qMem), qSim κI 100 100 m_M_laysSchedules 221 [] [some (qR 88), some (qI x1), some (qI x2), some (qI x3), some (qI x4), some (qI x5), none, none, none, none] w (f_M_laysSchedules_221 x1 x2 x3 x4 x5 w) := by
  intro x1 x2 x3 x4 x5 w
  unfold f_M_laysSchedules_221
  refine z_iload_n d_M_laysSchedules_221 rfl ?_
  refine z_if (fun c16 => ?_) (fun c16 => ?_)
  · refine z_tabIn (tgt := 252) (v := 0) d_M_laysSchedules_222 c16 (by decide) (by decide) rfl rfl ?_
    refine z_aload_n d_M_laysSchedules_252 rfl ?_
    refine z_gi (ci := 10) (j := 8) (ji := 8) d_M_laysSchedules_253 rfl fl_M_264 rfl rfl rfl ?_
    exact z_iret d_M_laysSchedules_256 rfl rfl
  · refine z_if (fun c17 => ?_) (fun c17 => ?_)
    · refine z_tabIn (tgt := 257) (v := 1) d_M_laysSchedules_222 c17 (by decide) (by decide) rfl rfl ?_
      refine z_iload_n d_M_laysSchedules_257 rfl ?_
      exact z_iret d_M_laysSchedules_258 rfl rfl
    · refine z_if (fun c18 => ?_) (fun c18 => ?_)
      · refine z_tabIn (tgt := 259) (v := 2) d_M_laysSchedules_222 c18 (by decide) (by decide) rfl rfl ?_
        refine z_iload_n d_M_laysSchedules_259 rfl ?_
        exact z_iret d_M_laysSchedules_260 rfl rfl
      · refine z_if (fun c19 => ?_) (fun c19 => ?_)
        · refine z_tabIn (tgt := 261) (v := 3) d_M_laysSchedules_222 c19 (by decide) (by decide) rfl rfl ?_
          refine z_iload d_M_laysSchedules_261 rfl ?_
          exact z_iret d_M_laysSchedules_263 rfl rfl
        · refine z_tabOut (tgt := 264) d_M_laysSchedules_222 (by omega) rfl ?_
          refine z_iload d_M_laysSchedules_264 rfl ?_
          exact z_iret d_M_laysSchedules_266 rfl rfl
def f_M_laysSchedules_30 : Nat → Int → Int → Int → Int → Int → Int → qMem → Option (Int × qMem)
  | 0, _, _, _, _, _, _, _ => none
  | n + 1, x1, x2, x3, x4, x5, x6, w =>
    if x6 < (w 88 8) then
    (f_M_opensState x6 w).bind fun q21 =>
    (f_M_inLane 0 q21).bind fun q22 =>
    (f_M_inLane 1 q22.2).bind fun q23 =>
    (f_M_inLane 2 q23.2).bind fun q24 =>
    (f_M_inLane 1 q24.2).bind fun q25 =>
    if q25.1 ≤ x4 then
    f_M_laysSchedules_84 (f_M_laysSchedules_30 n) x4 x1 x2 x3 x5 x6 (w32 ((w32 (q22.1 + q23.1)) + q24.1)) q25.2
    else
    (f_M_inLane 1 q25.2).bind fun q27 =>
    f_M_laysSchedules_84 (f_M_laysSchedules_30 n) q27.1 x1 x2 x3 x5 x6 (w32 ((w32 (q22.1 + q23.1)) + q24.1)) q27.2
    else
    f_M_laysSchedules_221 x1 x2 x3 x4 x5 w
set_option maxRecDepth 4000 in
theorem s_M_laysSchedules_30  : ∀ (n : Nat), ∀ (x1 x2 x3 x4 x5 x6 : Int) (w : qMem), qSim κI 100 100 m_M_laysSchedules 30 [] [some (qR 88), some (qI x1), some (qI x2), some (qI x3), some (qI x4), some (qI x5), some (qI x6), none, none, none] w (f_M_laysSchedules_30 n x1 x2 x3 x4 x5 x6 w) := by
  intro n
  induction n with
  | zero => intro x1 x2 x3 x4 x5 x6 w; exact z_none
  | succ n ih =>
    intro x1 x2 x3 x4 x5 x6 w
    rw [f_M_laysSchedules_30]
    refine z_iload d_M_laysSchedules_30 rfl ?_
    refine z_aload_n d_M_laysSchedules_32 rfl ?_
    refine z_gi (ci := 10) (j := 8) (ji := 8) d_M_laysSchedules_33 rfl fl_M_264 rfl rfl rfl ?_
    refine z_icmp_ge (tgt := 221) d_M_laysSchedules_36 rfl (fun c20 => ?_) (fun c20 => ?_)
    · refine z_aload_n d_M_laysSchedules_39 rfl ?_
      refine z_iload d_M_laysSchedules_40 rfl ?_
      refine z_cVV (as := [qI x6]) (st := []) (nl := 6) (ci := 10) d_M_laysSchedules_42 lk_M_274 mk_M_opensState rfl rfl rfl rfl rfl rfl (s_M_opensState _ _) (fun q21 _ => ?_)
      refine z_aload_n d_M_laysSchedules_45 rfl ?_
      refine z_ic0 d_M_laysSchedules_46 ?_
      refine z_cVI (as := [qI 0]) (st := []) (nl := 3) (ci := 10) d_M_laysSchedules_47 lk_M_286 mk_M_inLane rfl rfl rfl rfl rfl rfl (s_M_inLane _ _) (fun q22 _ hq22 => ?_)
      refine z_aload_n d_M_laysSchedules_50 rfl ?_
      refine z_ic1 d_M_laysSchedules_51 ?_
      refine z_cVI (as := [qI 1]) (st := [qI q22.1]) (nl := 3) (ci := 10) d_M_laysSchedules_52 lk_M_286 mk_M_inLane rfl rfl rfl rfl rfl rfl (s_M_inLane _ _) (fun q23 _ hq23 => ?_)
      refine z_iadd d_M_laysSchedules_55 ?_
      refine z_aload_n d_M_laysSchedules_56 rfl ?_
      refine z_ic2 d_M_laysSchedules_57 ?_
      refine z_cVI (as := [qI 2]) (st := [qI (w32 (q22.1 + q23.1))]) (nl := 3) (ci := 10) d_M_laysSchedules_58 lk_M_286 mk_M_inLane rfl rfl rfl rfl rfl rfl (s_M_inLane _ _) (fun q24 _ hq24 => ?_)
      refine z_iadd d_M_laysSchedules_61 ?_
      refine z_istore (pls' := [some (qR 88), some (qI x1), some (qI x2), some (qI x3), some (qI x4), some (qI x5), some (qI x6), some (qI (w32 ((w32 (q22.1 + q23.1)) + q24.1))), none, none]) d_M_laysSchedules_62 (by decide) rfl rfl ?_
      refine z_aload_n d_M_laysSchedules_64 rfl ?_
      refine z_ic1 d_M_laysSchedules_65 ?_
      refine z_cVI (as := [qI 1]) (st := []) (nl := 3) (ci := 10) d_M_laysSchedules_66 lk_M_286 mk_M_inLane rfl rfl rfl rfl rfl rfl (s_M_inLane _ _) (fun q25 _ hq25 => ?_)
      refine z_iload d_M_laysSchedules_69 rfl ?_
      refine z_icmp_le (tgt := 82) d_M_laysSchedules_71 rfl (fun c26 => ?_) (fun c26 => ?_)
      · refine z_iload d_M_laysSchedules_82 rfl ?_
        refine z_mask [true, true, true, true, false, true, true, true, false, false] ?_
        exact s_M_laysSchedules_84 ih _ _ _ _ _ _ _ _
      · refine z_aload_n d_M_laysSchedules_74 rfl ?_
        refine z_ic1 d_M_laysSchedules_75 ?_
        refine z_cVI (as := [qI 1]) (st := []) (nl := 3) (ci := 10) d_M_laysSchedules_76 lk_M_286 mk_M_inLane rfl rfl rfl rfl rfl rfl (s_M_inLane _ _) (fun q27 _ hq27 => ?_)
        refine z_goto (tgt := 84) d_M_laysSchedules_79 rfl ?_
        refine z_mask [true, true, true, true, false, true, true, true, false, false] ?_
        exact s_M_laysSchedules_84 ih _ _ _ _ _ _ _ _
    · refine z_mask [true, true, true, true, true, true, false, false, false, false] ?_
      exact s_M_laysSchedules_221 _ _ _ _ _ _
def f_M_laysSchedules (x1 : Int) (w : qMem) : Option (Int × qMem) :=
  qlt (qud w 88 8 0) fun w28 =>
  (f_M_meetsState w28).bind fun q29 =>
  qst q29.2 93 401 q29.1 1 fun w30 =>
  f_M_laysSchedules_30 qFU x1 0 0 0 1000 0 w30
set_option maxRecDepth 4000 in
theorem s_M_laysSchedules (x1 : Int) (w : qMem) : qSim κI 100 100 m_M_laysSchedules 0 [] [some (qR 88), some (qI x1), none, none, none, none, none, none, none, none] w (f_M_laysSchedules x1 w) := by
  unfold f_M_laysSchedules
  refine z_aload_n d_M_laysSchedules_0 rfl ?_
  refine z_ic0 d_M_laysSchedules_1 ?_
  refine z_pi (ci := 10) (j := 8) (ji := 8) d_M_laysSchedules_2 rfl fl_M_264 rfl rfl rfl rfl rfl (fun w28 => ?_)
  refine z_ic0 d_M_laysSchedules_5 ?_
  refine z_istore_n (pls' := [some (qR 88), some (qI x1), some (qI 0), none, none, none, none, none, none, none]) d_M_laysSchedules_6 (by decide) rfl rfl ?_
  refine z_ic0 d_M_laysSchedules_7 ?_
  refine z_istore_n (pls' := [some (qR 88), some (qI x1), some (qI 0), some (qI 0), none, none, none, none, none, none]) d_M_laysSchedules_8 (by decide) rfl rfl ?_
  refine z_ic0 d_M_laysSchedules_9 ?_
  refine z_istore (pls' := [some (qR 88), some (qI x1), some (qI 0), some (qI 0), some (qI 0), none, none, none, none, none]) d_M_laysSchedules_10 (by decide) rfl rfl ?_
  refine z_sipush d_M_laysSchedules_12 ⟨by decide, by decide⟩ ?_
  refine z_istore (pls' := [some (qR 88), some (qI x1), some (qI 0), some (qI 0), some (qI 0), some (qI 1000), none, none, none, none]) d_M_laysSchedules_15 (by decide) rfl rfl ?_
  refine z_aload_n d_M_laysSchedules_17 rfl ?_
  refine z_gr (ci := 10) (j := 5) (d := 5) (o2 := 93) d_M_laysSchedules_18 rfl fl_M_23 rfl (Nat.le_of_ble_eq_true rfl) rfl rfl ?_
  refine z_aload_n d_M_laysSchedules_21 rfl ?_
  refine z_cVI (as := []) (st := [qR 93]) (nl := 3) (ci := 10) d_M_laysSchedules_22 lk_M_270 mk_M_meetsState rfl rfl rfl rfl rfl rfl (s_M_meetsState _) (fun q29 _ hq29 => ?_)
  refine z_ic1 d_M_laysSchedules_25 ?_
  refine z_is d_M_laysSchedules_26 rfl rfl (fun w30 => ?_)
  refine z_ic0 d_M_laysSchedules_27 ?_
  refine z_istore (pls' := [some (qR 88), some (qI x1), some (qI 0), some (qI 0), some (qI 0), some (qI 1000), some (qI 0), none, none, none]) d_M_laysSchedules_28 (by decide) rfl rfl ?_
  refine z_mask [true, true, true, true, true, true, true, false, false, false] ?_
  exact s_M_laysSchedules_30 _ _ _ _ _ _ _ _
/-! BubbleTorusModel.schedules -/
theorem d_M_schedules_0 : decode m_M_schedules.2.1 0 = .ok (.iload_n 1, 1) := by decide +kernel
theorem d_M_schedules_1 : decode m_M_schedules.2.1 1 = .ok (.iconst 0, 1) := by decide +kernel
theorem d_M_schedules_2 : decode m_M_schedules.2.1 2 = .ok (.iconst 4, 1) := by decide +kernel
theorem d_M_schedules_3 : decode m_M_schedules.2.1 3 = .ok (.invokestatic 68, 3) := by decide +kernel
theorem d_M_schedules_6 : decode m_M_schedules.2.1 6 = .ok (.ifCond .eq 10, 3) := by decide +kernel
theorem d_M_schedules_9 : decode m_M_schedules.2.1 9 = .ok (.aload_n 0, 1) := by decide +kernel
theorem d_M_schedules_10 : decode m_M_schedules.2.1 10 = .ok (.invokevirtual 295, 3) := by decide +kernel
theorem d_M_schedules_13 : decode m_M_schedules.2.1 13 = .ok (.ifCond .ne 5, 3) := by decide +kernel
theorem d_M_schedules_16 : decode m_M_schedules.2.1 16 = .ok (.iconst (-1), 1) := by decide +kernel
theorem d_M_schedules_17 : decode m_M_schedules.2.1 17 = .ok (.ireturn, 1) := by decide +kernel
theorem d_M_schedules_18 : decode m_M_schedules.2.1 18 = .ok (.aload_n 0, 1) := by decide +kernel
theorem d_M_schedules_19 : decode m_M_schedules.2.1 19 = .ok (.invokevirtual 255, 3) := by decide +kernel
theorem d_M_schedules_22 : decode m_M_schedules.2.1 22 = .ok (.aload_n 0, 1) := by decide +kernel
theorem d_M_schedules_23 : decode m_M_schedules.2.1 23 = .ok (.iload_n 1, 1) := by decide +kernel
theorem d_M_schedules_24 : decode m_M_schedules.2.1 24 = .ok (.invokevirtual 299, 3) := by decide +kernel
theorem d_M_schedules_27 : decode m_M_schedules.2.1 27 = .ok (.istore_n 2, 1) := by decide +kernel
theorem d_M_schedules_28 : decode m_M_schedules.2.1 28 = .ok (.aload_n 0, 1) := by decide +kernel
theorem d_M_schedules_29 : decode m_M_schedules.2.1 29 = .ok (.invokevirtual 258, 3) := by decide +kernel
theorem d_M_schedules_32 : decode m_M_schedules.2.1 32 = .ok (.iload_n 2, 1) := by decide +kernel
theorem d_M_schedules_33 : decode m_M_schedules.2.1 33 = .ok (.ireturn, 1) := by decide +kernel
def f_M_schedules (x1 : Int) (w : qMem) : Option (Int × qMem) :=
  (f_M_isIn x1 0 4 w).bind fun q1 =>
  if q1.1 = 0 then
  some ((-1), q1.2)
  else
  (f_M_laysLive q1.2).bind fun q3 =>
  if q3.1 = 0 then
  some ((-1), q3.2)
  else
  (f_M_laysAside q3.2).bind fun q5 =>
  (f_M_laysSchedules x1 q5).bind fun q6 =>
  (f_M_comesBack q6.2).bind fun q7 =>
  some (q6.1, q7)
set_option maxRecDepth 4000 in
theorem s_M_schedules (x1 : Int) (w : qMem) : qSim κI 100 100 m_M_schedules 0 [] [some (qR 88), some (qI x1), none] w (f_M_schedules x1 w) := by
  unfold f_M_schedules
  refine z_iload_n d_M_schedules_0 rfl ?_
  refine z_ic0 d_M_schedules_1 ?_
  refine z_ic4 d_M_schedules_2 ?_
  refine z_cSI (av := [qI x1, qI 0, qI 4]) (st := []) (nl := 0) d_M_schedules_3 lk_M_68 mk_M_isIn rfl rfl rfl (s_M_isIn _ _ _ _) (fun q1 _ hq1 => ?_)
  refine z_if_eq (tgt := 16) d_M_schedules_6 rfl (fun c2 => ?_) (fun c2 => ?_)
  · refine z_icm1 d_M_schedules_16 ?_
    exact z_iret d_M_schedules_17 rfl rfl
  · refine z_aload_n d_M_schedules_9 rfl ?_
    refine z_cVI (as := []) (st := []) (nl := 1) (ci := 10) d_M_schedules_10 lk_M_295 mk_M_laysLive rfl rfl rfl rfl rfl rfl (s_M_laysLive _) (fun q3 _ hq3 => ?_)
    refine z_if_ne (tgt := 18) d_M_schedules_13 rfl (fun c4 => ?_) (fun c4 => ?_)
    · refine z_icm1 d_M_schedules_16 ?_
      exact z_iret d_M_schedules_17 rfl rfl
    · refine z_aload_n d_M_schedules_18 rfl ?_
      refine z_cVV (as := []) (st := []) (nl := 1) (ci := 10) d_M_schedules_19 lk_M_255 mk_M_laysAside rfl rfl rfl rfl rfl rfl (s_M_laysAside _) (fun q5 _ => ?_)
      refine z_aload_n d_M_schedules_22 rfl ?_
      refine z_iload_n d_M_schedules_23 rfl ?_
      refine z_cVI (as := [qI x1]) (st := []) (nl := 8) (ci := 10) d_M_schedules_24 lk_M_299 mk_M_laysSchedules rfl rfl rfl rfl rfl rfl (s_M_laysSchedules _ _) (fun q6 _ hq6 => ?_)
      refine z_istore_n (pls' := [some (qR 88), some (qI x1), some (qI q6.1)]) d_M_schedules_27 (by decide) rfl rfl ?_
      refine z_aload_n d_M_schedules_28 rfl ?_
      refine z_cVV (as := []) (st := []) (nl := 1) (ci := 10) d_M_schedules_29 lk_M_258 mk_M_comesBack rfl rfl rfl rfl rfl rfl (s_M_comesBack _) (fun q7 _ => ?_)
      refine z_iload_n d_M_schedules_32 rfl ?_
      exact z_iret d_M_schedules_33 rfl rfl
/-! BubbleTorusModel.longQueue -/
theorem d_M_longQueue_0 : decode m_M_longQueue.2.1 0 = .ok (.iconst 0, 1) := by decide +kernel
theorem d_M_longQueue_1 : decode m_M_longQueue.2.1 1 = .ok (.istore_n 2, 1) := by decide +kernel
theorem d_M_longQueue_2 : decode m_M_longQueue.2.1 2 = .ok (.iconst 1, 1) := by decide +kernel
theorem d_M_longQueue_3 : decode m_M_longQueue.2.1 3 = .ok (.istore_n 3, 1) := by decide +kernel
theorem d_M_longQueue_4 : decode m_M_longQueue.2.1 4 = .ok (.iload_n 1, 1) := by decide +kernel
theorem d_M_longQueue_5 : decode m_M_longQueue.2.1 5 = .ok (.istore 4, 2) := by decide +kernel
theorem d_M_longQueue_7 : decode m_M_longQueue.2.1 7 = .ok (.iload 4, 2) := by decide +kernel
theorem d_M_longQueue_9 : decode m_M_longQueue.2.1 9 = .ok (.iload_n 3, 1) := by decide +kernel
theorem d_M_longQueue_10 : decode m_M_longQueue.2.1 10 = .ok (.if_icmp .lt 22, 3) := by decide +kernel
theorem d_M_longQueue_13 : decode m_M_longQueue.2.1 13 = .ok (.iload 4, 2) := by decide +kernel
theorem d_M_longQueue_15 : decode m_M_longQueue.2.1 15 = .ok (.iload_n 3, 1) := by decide +kernel
theorem d_M_longQueue_16 : decode m_M_longQueue.2.1 16 = .ok (.isub, 1) := by decide +kernel
theorem d_M_longQueue_17 : decode m_M_longQueue.2.1 17 = .ok (.istore 4, 2) := by decide +kernel
theorem d_M_longQueue_19 : decode m_M_longQueue.2.1 19 = .ok (.iload_n 3, 1) := by decide +kernel
theorem d_M_longQueue_20 : decode m_M_longQueue.2.1 20 = .ok (.aload_n 0, 1) := by decide +kernel
theorem d_M_longQueue_21 : decode m_M_longQueue.2.1 21 = .ok (.getfield 302, 3) := by decide +kernel
theorem d_M_longQueue_24 : decode m_M_longQueue.2.1 24 = .ok (.imul, 1) := by decide +kernel
theorem d_M_longQueue_25 : decode m_M_longQueue.2.1 25 = .ok (.istore_n 3, 1) := by decide +kernel
theorem d_M_longQueue_26 : decode m_M_longQueue.2.1 26 = .ok (.iinc 2 1, 3) := by decide +kernel
theorem d_M_longQueue_29 : decode m_M_longQueue.2.1 29 = .ok (.goto (-22), 3) := by decide +kernel
theorem d_M_longQueue_32 : decode m_M_longQueue.2.1 32 = .ok (.iload_n 2, 1) := by decide +kernel
theorem d_M_longQueue_33 : decode m_M_longQueue.2.1 33 = .ok (.ireturn, 1) := by decide +kernel
def f_M_longQueue_7 : Nat → Int → Int → Int → qMem → Option (Int × qMem)
  | 0, _, _, _, _ => none
  | n + 1, x2, x3, x4, w =>
    if x4 < x3 then
    some (x2, w)
    else
    (f_M_longQueue_7 n) (w32 (x2 + 1)) (w32 (x3 * (w 88 13))) (w32 (x4 - x3)) w
set_option maxRecDepth 4000 in
theorem s_M_longQueue_7  : ∀ (n : Nat), ∀ (x2 x3 x4 : Int) (w : qMem), qSim κI 100 100 m_M_longQueue 7 [] [some (qR 88), none, some (qI x2), some (qI x3), some (qI x4)] w (f_M_longQueue_7 n x2 x3 x4 w) := by
  intro n
  induction n with
  | zero => intro x2 x3 x4 w; exact z_none
  | succ n ih =>
    intro x2 x3 x4 w
    rw [f_M_longQueue_7]
    refine z_iload d_M_longQueue_7 rfl ?_
    refine z_iload_n d_M_longQueue_9 rfl ?_
    refine z_icmp_lt (tgt := 32) d_M_longQueue_10 rfl (fun c1 => ?_) (fun c1 => ?_)
    · refine z_iload_n d_M_longQueue_32 rfl ?_
      exact z_iret d_M_longQueue_33 rfl rfl
    · refine z_iload d_M_longQueue_13 rfl ?_
      refine z_iload_n d_M_longQueue_15 rfl ?_
      refine z_isub d_M_longQueue_16 ?_
      refine z_istore (pls' := [some (qR 88), none, some (qI x2), some (qI x3), some (qI (w32 (x4 - x3)))]) d_M_longQueue_17 (by decide) rfl rfl ?_
      refine z_iload_n d_M_longQueue_19 rfl ?_
      refine z_aload_n d_M_longQueue_20 rfl ?_
      refine z_gi (ci := 10) (j := 13) (ji := 13) d_M_longQueue_21 rfl fl_M_302 rfl rfl rfl ?_
      refine z_imul d_M_longQueue_24 ?_
      refine z_istore_n (pls' := [some (qR 88), none, some (qI x2), some (qI (w32 (x3 * (w 88 13)))), some (qI (w32 (x4 - x3)))]) d_M_longQueue_25 (by decide) rfl rfl ?_
      refine z_iinc (pls' := [some (qR 88), none, some (qI (w32 (x2 + 1))), some (qI (w32 (x3 * (w 88 13)))), some (qI (w32 (x4 - x3)))]) d_M_longQueue_26 (by decide) rfl rfl rfl ?_
      refine z_goto (tgt := 7) d_M_longQueue_29 rfl ?_
      refine z_mask [true, false, true, true, true] ?_
      exact ih _ _ _ _
def f_M_longQueue (x1 : Int) (w : qMem) : Option (Int × qMem) :=
  f_M_longQueue_7 qFU 0 1 x1 w
set_option maxRecDepth 4000 in
theorem s_M_longQueue (x1 : Int) (w : qMem) : qSim κI 100 100 m_M_longQueue 0 [] [some (qR 88), some (qI x1), none, none, none] w (f_M_longQueue x1 w) := by
  unfold f_M_longQueue
  refine z_ic0 d_M_longQueue_0 ?_
  refine z_istore_n (pls' := [some (qR 88), some (qI x1), some (qI 0), none, none]) d_M_longQueue_1 (by decide) rfl rfl ?_
  refine z_ic1 d_M_longQueue_2 ?_
  refine z_istore_n (pls' := [some (qR 88), some (qI x1), some (qI 0), some (qI 1), none]) d_M_longQueue_3 (by decide) rfl rfl ?_
  refine z_iload_n d_M_longQueue_4 rfl ?_
  refine z_istore (pls' := [some (qR 88), some (qI x1), some (qI 0), some (qI 1), some (qI x1)]) d_M_longQueue_5 (by decide) rfl rfl ?_
  refine z_mask [true, false, true, true, true] ?_
  exact s_M_longQueue_7 _ _ _ _ _
/-! BubbleTorusModel.firstKind -/
theorem d_M_firstKind_0 : decode m_M_firstKind.2.1 0 = .ok (.iconst 0, 1) := by decide +kernel
theorem d_M_firstKind_1 : decode m_M_firstKind.2.1 1 = .ok (.istore_n 2, 1) := by decide +kernel
theorem d_M_firstKind_2 : decode m_M_firstKind.2.1 2 = .ok (.iconst 1, 1) := by decide +kernel
theorem d_M_firstKind_3 : decode m_M_firstKind.2.1 3 = .ok (.istore_n 3, 1) := by decide +kernel
theorem d_M_firstKind_4 : decode m_M_firstKind.2.1 4 = .ok (.iconst 0, 1) := by decide +kernel
theorem d_M_firstKind_5 : decode m_M_firstKind.2.1 5 = .ok (.istore 4, 2) := by decide +kernel
theorem d_M_firstKind_7 : decode m_M_firstKind.2.1 7 = .ok (.iload 4, 2) := by decide +kernel
theorem d_M_firstKind_9 : decode m_M_firstKind.2.1 9 = .ok (.iload_n 1, 1) := by decide +kernel
theorem d_M_firstKind_10 : decode m_M_firstKind.2.1 10 = .ok (.if_icmp .ge 20, 3) := by decide +kernel
theorem d_M_firstKind_13 : decode m_M_firstKind.2.1 13 = .ok (.iload_n 2, 1) := by decide +kernel
theorem d_M_firstKind_14 : decode m_M_firstKind.2.1 14 = .ok (.iload_n 3, 1) := by decide +kernel
theorem d_M_firstKind_15 : decode m_M_firstKind.2.1 15 = .ok (.iadd, 1) := by decide +kernel
theorem d_M_firstKind_16 : decode m_M_firstKind.2.1 16 = .ok (.istore_n 2, 1) := by decide +kernel
theorem d_M_firstKind_17 : decode m_M_firstKind.2.1 17 = .ok (.iload_n 3, 1) := by decide +kernel
theorem d_M_firstKind_18 : decode m_M_firstKind.2.1 18 = .ok (.aload_n 0, 1) := by decide +kernel
theorem d_M_firstKind_19 : decode m_M_firstKind.2.1 19 = .ok (.getfield 302, 3) := by decide +kernel
theorem d_M_firstKind_22 : decode m_M_firstKind.2.1 22 = .ok (.imul, 1) := by decide +kernel
theorem d_M_firstKind_23 : decode m_M_firstKind.2.1 23 = .ok (.istore_n 3, 1) := by decide +kernel
theorem d_M_firstKind_24 : decode m_M_firstKind.2.1 24 = .ok (.iinc 4 1, 3) := by decide +kernel
theorem d_M_firstKind_27 : decode m_M_firstKind.2.1 27 = .ok (.goto (-20), 3) := by decide +kernel
theorem d_M_firstKind_30 : decode m_M_firstKind.2.1 30 = .ok (.iload_n 2, 1) := by decide +kernel
theorem d_M_firstKind_31 : decode m_M_firstKind.2.1 31 = .ok (.ireturn, 1) := by decide +kernel
def f_M_firstKind_7 : Nat → Int → Int → Int → Int → qMem → Option (Int × qMem)
  | 0, _, _, _, _, _ => none
  | n + 1, x1, x2, x3, x4, w =>
    if x4 < x1 then
    (f_M_firstKind_7 n) x1 (w32 (x2 + x3)) (w32 (x3 * (w 88 13))) (w32 (x4 + 1)) w
    else
    some (x2, w)
set_option maxRecDepth 4000 in
theorem s_M_firstKind_7  : ∀ (n : Nat), ∀ (x1 x2 x3 x4 : Int) (w : qMem), qSim κI 100 100 m_M_firstKind 7 [] [some (qR 88), some (qI x1), some (qI x2), some (qI x3), some (qI x4)] w (f_M_firstKind_7 n x1 x2 x3 x4 w) := by
  intro n
  induction n with
  | zero => intro x1 x2 x3 x4 w; exact z_none
  | succ n ih =>
    intro x1 x2 x3 x4 w
    rw [f_M_firstKind_7]
    refine z_iload d_M_firstKind_7 rfl ?_
    refine z_iload_n d_M_firstKind_9 rfl ?_
    refine z_icmp_ge (tgt := 30) d_M_firstKind_10 rfl (fun c1 => ?_) (fun c1 => ?_)
    · refine z_iload_n d_M_firstKind_13 rfl ?_
      refine z_iload_n d_M_firstKind_14 rfl ?_
      refine z_iadd d_M_firstKind_15 ?_
      refine z_istore_n (pls' := [some (qR 88), some (qI x1), some (qI (w32 (x2 + x3))), some (qI x3), some (qI x4)]) d_M_firstKind_16 (by decide) rfl rfl ?_
      refine z_iload_n d_M_firstKind_17 rfl ?_
      refine z_aload_n d_M_firstKind_18 rfl ?_
      refine z_gi (ci := 10) (j := 13) (ji := 13) d_M_firstKind_19 rfl fl_M_302 rfl rfl rfl ?_
      refine z_imul d_M_firstKind_22 ?_
      refine z_istore_n (pls' := [some (qR 88), some (qI x1), some (qI (w32 (x2 + x3))), some (qI (w32 (x3 * (w 88 13)))), some (qI x4)]) d_M_firstKind_23 (by decide) rfl rfl ?_
      refine z_iinc (pls' := [some (qR 88), some (qI x1), some (qI (w32 (x2 + x3))), some (qI (w32 (x3 * (w 88 13)))), some (qI (w32 (x4 + 1)))]) d_M_firstKind_24 (by decide) rfl rfl rfl ?_
      refine z_goto (tgt := 7) d_M_firstKind_27 rfl ?_
      refine z_mask [true, true, true, true, true] ?_
      exact ih _ _ _ _ _
    · refine z_iload_n d_M_firstKind_30 rfl ?_
      exact z_iret d_M_firstKind_31 rfl rfl
def f_M_firstKind (x1 : Int) (w : qMem) : Option (Int × qMem) :=
  f_M_firstKind_7 qFU x1 0 1 0 w
set_option maxRecDepth 4000 in
theorem s_M_firstKind (x1 : Int) (w : qMem) : qSim κI 100 100 m_M_firstKind 0 [] [some (qR 88), some (qI x1), none, none, none] w (f_M_firstKind x1 w) := by
  unfold f_M_firstKind
  refine z_ic0 d_M_firstKind_0 ?_
  refine z_istore_n (pls' := [some (qR 88), some (qI x1), some (qI 0), none, none]) d_M_firstKind_1 (by decide) rfl rfl ?_
  refine z_ic1 d_M_firstKind_2 ?_
  refine z_istore_n (pls' := [some (qR 88), some (qI x1), some (qI 0), some (qI 1), none]) d_M_firstKind_3 (by decide) rfl rfl ?_
  refine z_ic0 d_M_firstKind_4 ?_
  refine z_istore (pls' := [some (qR 88), some (qI x1), some (qI 0), some (qI 1), some (qI 0)]) d_M_firstKind_5 (by decide) rfl rfl ?_
  refine z_mask [true, true, true, true, true] ?_
  exact s_M_firstKind_7 _ _ _ _ _ _
/-! BubbleTorusModel.power -/
theorem d_M_power_0 : decode m_M_power.2.1 0 = .ok (.iconst 1, 1) := by decide +kernel
theorem d_M_power_1 : decode m_M_power.2.1 1 = .ok (.istore_n 2, 1) := by decide +kernel
theorem d_M_power_2 : decode m_M_power.2.1 2 = .ok (.iconst 0, 1) := by decide +kernel
theorem d_M_power_3 : decode m_M_power.2.1 3 = .ok (.istore_n 3, 1) := by decide +kernel
theorem d_M_power_4 : decode m_M_power.2.1 4 = .ok (.iload_n 3, 1) := by decide +kernel
theorem d_M_power_5 : decode m_M_power.2.1 5 = .ok (.iload_n 1, 1) := by decide +kernel
theorem d_M_power_6 : decode m_M_power.2.1 6 = .ok (.if_icmp .ge 16, 3) := by decide +kernel
theorem d_M_power_9 : decode m_M_power.2.1 9 = .ok (.iload_n 2, 1) := by decide +kernel
theorem d_M_power_10 : decode m_M_power.2.1 10 = .ok (.aload_n 0, 1) := by decide +kernel
theorem d_M_power_11 : decode m_M_power.2.1 11 = .ok (.getfield 302, 3) := by decide +kernel
theorem d_M_power_14 : decode m_M_power.2.1 14 = .ok (.imul, 1) := by decide +kernel
theorem d_M_power_15 : decode m_M_power.2.1 15 = .ok (.istore_n 2, 1) := by decide +kernel
theorem d_M_power_16 : decode m_M_power.2.1 16 = .ok (.iinc 3 1, 3) := by decide +kernel
theorem d_M_power_19 : decode m_M_power.2.1 19 = .ok (.goto (-15), 3) := by decide +kernel
theorem d_M_power_22 : decode m_M_power.2.1 22 = .ok (.iload_n 2, 1) := by decide +kernel
theorem d_M_power_23 : decode m_M_power.2.1 23 = .ok (.ireturn, 1) := by decide +kernel
def f_M_power_4 : Nat → Int → Int → Int → qMem → Option (Int × qMem)
  | 0, _, _, _, _ => none
  | n + 1, x1, x2, x3, w =>
    if x3 < x1 then
    (f_M_power_4 n) x1 (w32 (x2 * (w 88 13))) (w32 (x3 + 1)) w
    else
    some (x2, w)
set_option maxRecDepth 4000 in
theorem s_M_power_4  : ∀ (n : Nat), ∀ (x1 x2 x3 : Int) (w : qMem), qSim κI 100 100 m_M_power 4 [] [some (qR 88), some (qI x1), some (qI x2), some (qI x3)] w (f_M_power_4 n x1 x2 x3 w) := by
  intro n
  induction n with
  | zero => intro x1 x2 x3 w; exact z_none
  | succ n ih =>
    intro x1 x2 x3 w
    rw [f_M_power_4]
    refine z_iload_n d_M_power_4 rfl ?_
    refine z_iload_n d_M_power_5 rfl ?_
    refine z_icmp_ge (tgt := 22) d_M_power_6 rfl (fun c1 => ?_) (fun c1 => ?_)
    · refine z_iload_n d_M_power_9 rfl ?_
      refine z_aload_n d_M_power_10 rfl ?_
      refine z_gi (ci := 10) (j := 13) (ji := 13) d_M_power_11 rfl fl_M_302 rfl rfl rfl ?_
      refine z_imul d_M_power_14 ?_
      refine z_istore_n (pls' := [some (qR 88), some (qI x1), some (qI (w32 (x2 * (w 88 13)))), some (qI x3)]) d_M_power_15 (by decide) rfl rfl ?_
      refine z_iinc (pls' := [some (qR 88), some (qI x1), some (qI (w32 (x2 * (w 88 13)))), some (qI (w32 (x3 + 1)))]) d_M_power_16 (by decide) rfl rfl rfl ?_
      refine z_goto (tgt := 4) d_M_power_19 rfl ?_
      refine z_mask [true, true, true, true] ?_
      exact ih _ _ _ _
    · refine z_iload_n d_M_power_22 rfl ?_
      exact z_iret d_M_power_23 rfl rfl
def f_M_power (x1 : Int) (w : qMem) : Option (Int × qMem) :=
  f_M_power_4 qFU x1 1 0 w
set_option maxRecDepth 4000 in
theorem s_M_power (x1 : Int) (w : qMem) : qSim κI 100 100 m_M_power 0 [] [some (qR 88), some (qI x1), none, none] w (f_M_power x1 w) := by
  unfold f_M_power
  refine z_ic1 d_M_power_0 ?_
  refine z_istore_n (pls' := [some (qR 88), some (qI x1), some (qI 1), none]) d_M_power_1 (by decide) rfl rfl ?_
  refine z_ic0 d_M_power_2 ?_
  refine z_istore_n (pls' := [some (qR 88), some (qI x1), some (qI 1), some (qI 0)]) d_M_power_3 (by decide) rfl rfl ?_
  refine z_mask [true, true, true, true] ?_
  exact s_M_power_4 _ _ _ _ _
/-! BubbleTorusModel.goalOf -/
theorem d_M_goalOf_0 : decode m_M_goalOf.2.1 0 = .ok (.aload_n 0, 1) := by decide +kernel
theorem d_M_goalOf_1 : decode m_M_goalOf.2.1 1 = .ok (.iload_n 1, 1) := by decide +kernel
theorem d_M_goalOf_2 : decode m_M_goalOf.2.1 2 = .ok (.invokevirtual 305, 3) := by decide +kernel
theorem d_M_goalOf_5 : decode m_M_goalOf.2.1 5 = .ok (.istore_n 2, 1) := by decide +kernel
theorem d_M_goalOf_6 : decode m_M_goalOf.2.1 6 = .ok (.iload_n 2, 1) := by decide +kernel
theorem d_M_goalOf_7 : decode m_M_goalOf.2.1 7 = .ok (.ifCond .ne 7, 3) := by decide +kernel
theorem d_M_goalOf_10 : decode m_M_goalOf.2.1 10 = .ok (.iconst (-1), 1) := by decide +kernel
theorem d_M_goalOf_11 : decode m_M_goalOf.2.1 11 = .ok (.goto 18, 3) := by decide +kernel
theorem d_M_goalOf_14 : decode m_M_goalOf.2.1 14 = .ok (.iload_n 1, 1) := by decide +kernel
theorem d_M_goalOf_15 : decode m_M_goalOf.2.1 15 = .ok (.aload_n 0, 1) := by decide +kernel
theorem d_M_goalOf_16 : decode m_M_goalOf.2.1 16 = .ok (.iload_n 2, 1) := by decide +kernel
theorem d_M_goalOf_17 : decode m_M_goalOf.2.1 17 = .ok (.invokevirtual 308, 3) := by decide +kernel
theorem d_M_goalOf_20 : decode m_M_goalOf.2.1 20 = .ok (.isub, 1) := by decide +kernel
theorem d_M_goalOf_21 : decode m_M_goalOf.2.1 21 = .ok (.aload_n 0, 1) := by decide +kernel
theorem d_M_goalOf_22 : decode m_M_goalOf.2.1 22 = .ok (.iload_n 2, 1) := by decide +kernel
theorem d_M_goalOf_23 : decode m_M_goalOf.2.1 23 = .ok (.iconst 1, 1) := by decide +kernel
theorem d_M_goalOf_24 : decode m_M_goalOf.2.1 24 = .ok (.isub, 1) := by decide +kernel
theorem d_M_goalOf_25 : decode m_M_goalOf.2.1 25 = .ok (.invokevirtual 311, 3) := by decide +kernel
theorem d_M_goalOf_28 : decode m_M_goalOf.2.1 28 = .ok (.idiv, 1) := by decide +kernel
theorem d_M_goalOf_29 : decode m_M_goalOf.2.1 29 = .ok (.ireturn, 1) := by decide +kernel
def f_M_goalOf (x1 : Int) (w : qMem) : Option (Int × qMem) :=
  (f_M_longQueue x1 w).bind fun q1 =>
  if q1.1 = 0 then
  some ((-1), q1.2)
  else
  (f_M_firstKind q1.1 q1.2).bind fun q3 =>
  (f_M_power (w32 (q1.1 - 1)) q3.2).bind fun q4 =>
  qdv q4.1 <|
  some ((jdiv (w32 (x1 - q3.1)) q4.1), q4.2)
set_option maxRecDepth 4000 in
theorem s_M_goalOf (x1 : Int) (w : qMem) : qSim κI 100 100 m_M_goalOf 0 [] [some (qR 88), some (qI x1), none] w (f_M_goalOf x1 w) := by
  unfold f_M_goalOf
  refine z_aload_n d_M_goalOf_0 rfl ?_
  refine z_iload_n d_M_goalOf_1 rfl ?_
  refine z_cVI (as := [qI x1]) (st := []) (nl := 3) (ci := 10) d_M_goalOf_2 lk_M_305 mk_M_longQueue rfl rfl rfl rfl rfl rfl (s_M_longQueue _ _) (fun q1 _ hq1 => ?_)
  refine z_istore_n (pls' := [some (qR 88), some (qI x1), some (qI q1.1)]) d_M_goalOf_5 (by decide) rfl rfl ?_
  refine z_iload_n d_M_goalOf_6 rfl ?_
  refine z_if_ne (tgt := 14) d_M_goalOf_7 rfl (fun c2 => ?_) (fun c2 => ?_)
  · refine z_icm1 d_M_goalOf_10 ?_
    refine z_goto (tgt := 29) d_M_goalOf_11 rfl ?_
    exact z_iret d_M_goalOf_29 rfl rfl
  · refine z_iload_n d_M_goalOf_14 rfl ?_
    refine z_aload_n d_M_goalOf_15 rfl ?_
    refine z_iload_n d_M_goalOf_16 rfl ?_
    refine z_cVI (as := [qI q1.1]) (st := [qI x1]) (nl := 3) (ci := 10) d_M_goalOf_17 lk_M_308 mk_M_firstKind rfl rfl rfl rfl rfl rfl (s_M_firstKind _ _) (fun q3 _ hq3 => ?_)
    refine z_isub d_M_goalOf_20 ?_
    refine z_aload_n d_M_goalOf_21 rfl ?_
    refine z_iload_n d_M_goalOf_22 rfl ?_
    refine z_ic1 d_M_goalOf_23 ?_
    refine z_isub d_M_goalOf_24 ?_
    refine z_cVI (as := [qI (w32 (q1.1 - 1))]) (st := [qI (w32 (x1 - q3.1))]) (nl := 2) (ci := 10) d_M_goalOf_25 lk_M_311 mk_M_power rfl rfl rfl rfl rfl rfl (s_M_power _ _) (fun q4 _ hq4 => ?_)
    refine z_idiv d_M_goalOf_28 (fun _ => ?_)
    exact z_iret d_M_goalOf_29 rfl rfl
/-! BubbleTorusModel.without -/
theorem d_M_without_0 : decode m_M_without.2.1 0 = .ok (.aload_n 0, 1) := by decide +kernel
theorem d_M_without_1 : decode m_M_without.2.1 1 = .ok (.iload_n 1, 1) := by decide +kernel
theorem d_M_without_2 : decode m_M_without.2.1 2 = .ok (.invokevirtual 305, 3) := by decide +kernel
theorem d_M_without_5 : decode m_M_without.2.1 5 = .ok (.istore_n 2, 1) := by decide +kernel
theorem d_M_without_6 : decode m_M_without.2.1 6 = .ok (.aload_n 0, 1) := by decide +kernel
theorem d_M_without_7 : decode m_M_without.2.1 7 = .ok (.iload_n 2, 1) := by decide +kernel
theorem d_M_without_8 : decode m_M_without.2.1 8 = .ok (.iconst 1, 1) := by decide +kernel
theorem d_M_without_9 : decode m_M_without.2.1 9 = .ok (.isub, 1) := by decide +kernel
theorem d_M_without_10 : decode m_M_without.2.1 10 = .ok (.invokevirtual 308, 3) := by decide +kernel
theorem d_M_without_13 : decode m_M_without.2.1 13 = .ok (.iload_n 1, 1) := by decide +kernel
theorem d_M_without_14 : decode m_M_without.2.1 14 = .ok (.aload_n 0, 1) := by decide +kernel
theorem d_M_without_15 : decode m_M_without.2.1 15 = .ok (.iload_n 2, 1) := by decide +kernel
theorem d_M_without_16 : decode m_M_without.2.1 16 = .ok (.invokevirtual 308, 3) := by decide +kernel
theorem d_M_without_19 : decode m_M_without.2.1 19 = .ok (.isub, 1) := by decide +kernel
theorem d_M_without_20 : decode m_M_without.2.1 20 = .ok (.aload_n 0, 1) := by decide +kernel
theorem d_M_without_21 : decode m_M_without.2.1 21 = .ok (.iload_n 2, 1) := by decide +kernel
theorem d_M_without_22 : decode m_M_without.2.1 22 = .ok (.iconst 1, 1) := by decide +kernel
theorem d_M_without_23 : decode m_M_without.2.1 23 = .ok (.isub, 1) := by decide +kernel
theorem d_M_without_24 : decode m_M_without.2.1 24 = .ok (.invokevirtual 311, 3) := by decide +kernel
theorem d_M_without_27 : decode m_M_without.2.1 27 = .ok (.irem, 1) := by decide +kernel
theorem d_M_without_28 : decode m_M_without.2.1 28 = .ok (.iadd, 1) := by decide +kernel
theorem d_M_without_29 : decode m_M_without.2.1 29 = .ok (.ireturn, 1) := by decide +kernel
def f_M_without (x1 : Int) (w : qMem) : Option (Int × qMem) :=
  (f_M_longQueue x1 w).bind fun q1 =>
  (f_M_firstKind (w32 (q1.1 - 1)) q1.2).bind fun q2 =>
  (f_M_firstKind q1.1 q2.2).bind fun q3 =>
  (f_M_power (w32 (q1.1 - 1)) q3.2).bind fun q4 =>
  qdv q4.1 <|
  some ((w32 (q2.1 + (jrem (w32 (x1 - q3.1)) q4.1))), q4.2)
set_option maxRecDepth 4000 in
theorem s_M_without (x1 : Int) (w : qMem) : qSim κI 100 100 m_M_without 0 [] [some (qR 88), some (qI x1), none] w (f_M_without x1 w) := by
  unfold f_M_without
  refine z_aload_n d_M_without_0 rfl ?_
  refine z_iload_n d_M_without_1 rfl ?_
  refine z_cVI (as := [qI x1]) (st := []) (nl := 3) (ci := 10) d_M_without_2 lk_M_305 mk_M_longQueue rfl rfl rfl rfl rfl rfl (s_M_longQueue _ _) (fun q1 _ hq1 => ?_)
  refine z_istore_n (pls' := [some (qR 88), some (qI x1), some (qI q1.1)]) d_M_without_5 (by decide) rfl rfl ?_
  refine z_aload_n d_M_without_6 rfl ?_
  refine z_iload_n d_M_without_7 rfl ?_
  refine z_ic1 d_M_without_8 ?_
  refine z_isub d_M_without_9 ?_
  refine z_cVI (as := [qI (w32 (q1.1 - 1))]) (st := []) (nl := 3) (ci := 10) d_M_without_10 lk_M_308 mk_M_firstKind rfl rfl rfl rfl rfl rfl (s_M_firstKind _ _) (fun q2 _ hq2 => ?_)
  refine z_iload_n d_M_without_13 rfl ?_
  refine z_aload_n d_M_without_14 rfl ?_
  refine z_iload_n d_M_without_15 rfl ?_
  refine z_cVI (as := [qI q1.1]) (st := [qI x1, qI q2.1]) (nl := 3) (ci := 10) d_M_without_16 lk_M_308 mk_M_firstKind rfl rfl rfl rfl rfl rfl (s_M_firstKind _ _) (fun q3 _ hq3 => ?_)
  refine z_isub d_M_without_19 ?_
  refine z_aload_n d_M_without_20 rfl ?_
  refine z_iload_n d_M_without_21 rfl ?_
  refine z_ic1 d_M_without_22 ?_
  refine z_isub d_M_without_23 ?_
  refine z_cVI (as := [qI (w32 (q1.1 - 1))]) (st := [qI (w32 (x1 - q3.1)), qI q2.1]) (nl := 2) (ci := 10) d_M_without_24 lk_M_311 mk_M_power rfl rfl rfl rfl rfl rfl (s_M_power _ _) (fun q4 _ hq4 => ?_)
  refine z_irem d_M_without_27 (fun _ => ?_)
  refine z_iadd d_M_without_28 ?_
  exact z_iret d_M_without_29 rfl rfl
/-! BubbleTorusModel.withOne -/
theorem d_M_withOne_0 : decode m_M_withOne.2.1 0 = .ok (.aload_n 0, 1) := by decide +kernel
theorem d_M_withOne_1 : decode m_M_withOne.2.1 1 = .ok (.iload_n 1, 1) := by decide +kernel
theorem d_M_withOne_2 : decode m_M_withOne.2.1 2 = .ok (.invokevirtual 305, 3) := by decide +kernel
theorem d_M_withOne_5 : decode m_M_withOne.2.1 5 = .ok (.istore_n 3, 1) := by decide +kernel
theorem d_M_withOne_6 : decode m_M_withOne.2.1 6 = .ok (.aload_n 0, 1) := by decide +kernel
theorem d_M_withOne_7 : decode m_M_withOne.2.1 7 = .ok (.iload_n 3, 1) := by decide +kernel
theorem d_M_withOne_8 : decode m_M_withOne.2.1 8 = .ok (.iconst 1, 1) := by decide +kernel
theorem d_M_withOne_9 : decode m_M_withOne.2.1 9 = .ok (.iadd, 1) := by decide +kernel
theorem d_M_withOne_10 : decode m_M_withOne.2.1 10 = .ok (.invokevirtual 308, 3) := by decide +kernel
theorem d_M_withOne_13 : decode m_M_withOne.2.1 13 = .ok (.iload_n 1, 1) := by decide +kernel
theorem d_M_withOne_14 : decode m_M_withOne.2.1 14 = .ok (.aload_n 0, 1) := by decide +kernel
theorem d_M_withOne_15 : decode m_M_withOne.2.1 15 = .ok (.iload_n 3, 1) := by decide +kernel
theorem d_M_withOne_16 : decode m_M_withOne.2.1 16 = .ok (.invokevirtual 308, 3) := by decide +kernel
theorem d_M_withOne_19 : decode m_M_withOne.2.1 19 = .ok (.isub, 1) := by decide +kernel
theorem d_M_withOne_20 : decode m_M_withOne.2.1 20 = .ok (.aload_n 0, 1) := by decide +kernel
theorem d_M_withOne_21 : decode m_M_withOne.2.1 21 = .ok (.getfield 302, 3) := by decide +kernel
theorem d_M_withOne_24 : decode m_M_withOne.2.1 24 = .ok (.imul, 1) := by decide +kernel
theorem d_M_withOne_25 : decode m_M_withOne.2.1 25 = .ok (.iadd, 1) := by decide +kernel
theorem d_M_withOne_26 : decode m_M_withOne.2.1 26 = .ok (.iload_n 2, 1) := by decide +kernel
theorem d_M_withOne_27 : decode m_M_withOne.2.1 27 = .ok (.iadd, 1) := by decide +kernel
theorem d_M_withOne_28 : decode m_M_withOne.2.1 28 = .ok (.ireturn, 1) := by decide +kernel
def f_M_withOne (x1 : Int) (x2 : Int) (w : qMem) : Option (Int × qMem) :=
  (f_M_longQueue x1 w).bind fun q1 =>
  (f_M_firstKind (w32 (q1.1 + 1)) q1.2).bind fun q2 =>
  (f_M_firstKind q1.1 q2.2).bind fun q3 =>
  some ((w32 ((w32 (q2.1 + (w32 ((w32 (x1 - q3.1)) * (q3.2 88 13))))) + x2)), q3.2)
set_option maxRecDepth 4000 in
theorem s_M_withOne (x1 : Int) (x2 : Int) (w : qMem) : qSim κI 100 100 m_M_withOne 0 [] [some (qR 88), some (qI x1), some (qI x2), none] w (f_M_withOne x1 x2 w) := by
  unfold f_M_withOne
  refine z_aload_n d_M_withOne_0 rfl ?_
  refine z_iload_n d_M_withOne_1 rfl ?_
  refine z_cVI (as := [qI x1]) (st := []) (nl := 3) (ci := 10) d_M_withOne_2 lk_M_305 mk_M_longQueue rfl rfl rfl rfl rfl rfl (s_M_longQueue _ _) (fun q1 _ hq1 => ?_)
  refine z_istore_n (pls' := [some (qR 88), some (qI x1), some (qI x2), some (qI q1.1)]) d_M_withOne_5 (by decide) rfl rfl ?_
  refine z_aload_n d_M_withOne_6 rfl ?_
  refine z_iload_n d_M_withOne_7 rfl ?_
  refine z_ic1 d_M_withOne_8 ?_
  refine z_iadd d_M_withOne_9 ?_
  refine z_cVI (as := [qI (w32 (q1.1 + 1))]) (st := []) (nl := 3) (ci := 10) d_M_withOne_10 lk_M_308 mk_M_firstKind rfl rfl rfl rfl rfl rfl (s_M_firstKind _ _) (fun q2 _ hq2 => ?_)
  refine z_iload_n d_M_withOne_13 rfl ?_
  refine z_aload_n d_M_withOne_14 rfl ?_
  refine z_iload_n d_M_withOne_15 rfl ?_
  refine z_cVI (as := [qI q1.1]) (st := [qI x1, qI q2.1]) (nl := 3) (ci := 10) d_M_withOne_16 lk_M_308 mk_M_firstKind rfl rfl rfl rfl rfl rfl (s_M_firstKind _ _) (fun q3 _ hq3 => ?_)
  refine z_isub d_M_withOne_19 ?_
  refine z_aload_n d_M_withOne_20 rfl ?_
  refine z_gi (ci := 10) (j := 13) (ji := 13) d_M_withOne_21 rfl fl_M_302 rfl rfl rfl ?_
  refine z_imul d_M_withOne_24 ?_
  refine z_iadd d_M_withOne_25 ?_
  refine z_iload_n d_M_withOne_26 rfl ?_
  refine z_iadd d_M_withOne_27 ?_
  exact z_iret d_M_withOne_28 rfl rfl
/-! BubbleTorusModel.number -/
theorem d_M_number_0 : decode m_M_number.2.1 0 = .ok (.aload_n 0, 1) := by decide +kernel
theorem d_M_number_1 : decode m_M_number.2.1 1 = .ok (.getfield 314, 3) := by decide +kernel
theorem d_M_number_4 : decode m_M_number.2.1 4 = .ok (.istore_n 1, 1) := by decide +kernel
theorem d_M_number_5 : decode m_M_number.2.1 5 = .ok (.aload_n 0, 1) := by decide +kernel
theorem d_M_number_6 : decode m_M_number.2.1 6 = .ok (.getfield 317, 3) := by decide +kernel
theorem d_M_number_9 : decode m_M_number.2.1 9 = .ok (.iconst 1, 1) := by decide +kernel
theorem d_M_number_10 : decode m_M_number.2.1 10 = .ok (.isub, 1) := by decide +kernel
theorem d_M_number_11 : decode m_M_number.2.1 11 = .ok (.istore_n 2, 1) := by decide +kernel
theorem d_M_number_12 : decode m_M_number.2.1 12 = .ok (.iload_n 2, 1) := by decide +kernel
theorem d_M_number_13 : decode m_M_number.2.1 13 = .ok (.ifCond .lt 23, 3) := by decide +kernel
theorem d_M_number_16 : decode m_M_number.2.1 16 = .ok (.iload_n 1, 1) := by decide +kernel
theorem d_M_number_17 : decode m_M_number.2.1 17 = .ok (.aload_n 0, 1) := by decide +kernel
theorem d_M_number_18 : decode m_M_number.2.1 18 = .ok (.getfield 320, 3) := by decide +kernel
theorem d_M_number_21 : decode m_M_number.2.1 21 = .ok (.imul, 1) := by decide +kernel
theorem d_M_number_22 : decode m_M_number.2.1 22 = .ok (.aload_n 0, 1) := by decide +kernel
theorem d_M_number_23 : decode m_M_number.2.1 23 = .ok (.getfield 29, 3) := by decide +kernel
theorem d_M_number_26 : decode m_M_number.2.1 26 = .ok (.iload_n 2, 1) := by decide +kernel
theorem d_M_number_27 : decode m_M_number.2.1 27 = .ok (.iaload, 1) := by decide +kernel
theorem d_M_number_28 : decode m_M_number.2.1 28 = .ok (.iadd, 1) := by decide +kernel
theorem d_M_number_29 : decode m_M_number.2.1 29 = .ok (.istore_n 1, 1) := by decide +kernel
theorem d_M_number_30 : decode m_M_number.2.1 30 = .ok (.iinc 2 (-1), 3) := by decide +kernel
theorem d_M_number_33 : decode m_M_number.2.1 33 = .ok (.goto (-21), 3) := by decide +kernel
theorem d_M_number_36 : decode m_M_number.2.1 36 = .ok (.iload_n 1, 1) := by decide +kernel
theorem d_M_number_37 : decode m_M_number.2.1 37 = .ok (.ireturn, 1) := by decide +kernel
def f_M_number_12 : Nat → Int → Int → qMem → Option (Int × qMem)
  | 0, _, _, _ => none
  | n + 1, x1, x2, w =>
    if x2 < 0 then
    some (x1, w)
    else
    qld w 95 4 x2 fun v2 =>
    (f_M_number_12 n) (w32 ((w32 (x1 * (w 88 14))) + v2)) (w32 (x2 + (-1))) w
set_option maxRecDepth 4000 in
theorem s_M_number_12  : ∀ (n : Nat), ∀ (x1 x2 : Int) (w : qMem), qSim κI 100 100 m_M_number 12 [] [some (qR 88), some (qI x1), some (qI x2)] w (f_M_number_12 n x1 x2 w) := by
  intro n
  induction n with
  | zero => intro x1 x2 w; exact z_none
  | succ n ih =>
    intro x1 x2 w
    rw [f_M_number_12]
    refine z_iload_n d_M_number_12 rfl ?_
    refine z_if_lt (tgt := 36) d_M_number_13 rfl (fun c1 => ?_) (fun c1 => ?_)
    · refine z_iload_n d_M_number_36 rfl ?_
      exact z_iret d_M_number_37 rfl rfl
    · refine z_iload_n d_M_number_16 rfl ?_
      refine z_aload_n d_M_number_17 rfl ?_
      refine z_gi (ci := 10) (j := 14) (ji := 14) d_M_number_18 rfl fl_M_320 rfl rfl rfl ?_
      refine z_imul d_M_number_21 ?_
      refine z_aload_n d_M_number_22 rfl ?_
      refine z_gr (ci := 10) (j := 15) (d := 7) (o2 := 95) d_M_number_23 rfl fl_M_29 rfl (Nat.le_of_ble_eq_true rfl) rfl rfl ?_
      refine z_iload_n d_M_number_26 rfl ?_
      refine z_il d_M_number_27 rfl rfl (fun v2 => ?_)
      refine z_iadd d_M_number_28 ?_
      refine z_istore_n (pls' := [some (qR 88), some (qI (w32 ((w32 (x1 * (w 88 14))) + v2))), some (qI x2)]) d_M_number_29 (by decide) rfl rfl ?_
      refine z_iinc (pls' := [some (qR 88), some (qI (w32 ((w32 (x1 * (w 88 14))) + v2))), some (qI (w32 (x2 + (-1))))]) d_M_number_30 (by decide) rfl rfl rfl ?_
      refine z_goto (tgt := 12) d_M_number_33 rfl ?_
      refine z_mask [true, true, true] ?_
      exact ih _ _ _
def f_M_number (w : qMem) : Option (Int × qMem) :=
  f_M_number_12 qFU (w 88 16) (w32 ((w 88 10) - 1)) w
set_option maxRecDepth 4000 in
theorem s_M_number (w : qMem) : qSim κI 100 100 m_M_number 0 [] [some (qR 88), none, none] w (f_M_number w) := by
  unfold f_M_number
  refine z_aload_n d_M_number_0 rfl ?_
  refine z_gi (ci := 10) (j := 16) (ji := 16) d_M_number_1 rfl fl_M_314 rfl rfl rfl ?_
  refine z_istore_n (pls' := [some (qR 88), some (qI (w 88 16)), none]) d_M_number_4 (by decide) rfl rfl ?_
  refine z_aload_n d_M_number_5 rfl ?_
  refine z_gi (ci := 10) (j := 10) (ji := 10) d_M_number_6 rfl fl_M_317 rfl rfl rfl ?_
  refine z_ic1 d_M_number_9 ?_
  refine z_isub d_M_number_10 ?_
  refine z_istore_n (pls' := [some (qR 88), some (qI (w 88 16)), some (qI (w32 ((w 88 10) - 1)))]) d_M_number_11 (by decide) rfl rfl ?_
  refine z_mask [true, true, true] ?_
  exact s_M_number_12 _ _ _ _
/-! BubbleTorusModel.opens -/
theorem d_M_opens_0 : decode m_M_opens.2.1 0 = .ok (.iload_n 1, 1) := by decide +kernel
theorem d_M_opens_1 : decode m_M_opens.2.1 1 = .ok (.istore_n 2, 1) := by decide +kernel
theorem d_M_opens_2 : decode m_M_opens.2.1 2 = .ok (.iconst 0, 1) := by decide +kernel
theorem d_M_opens_3 : decode m_M_opens.2.1 3 = .ok (.istore_n 3, 1) := by decide +kernel
theorem d_M_opens_4 : decode m_M_opens.2.1 4 = .ok (.iload_n 3, 1) := by decide +kernel
theorem d_M_opens_5 : decode m_M_opens.2.1 5 = .ok (.aload_n 0, 1) := by decide +kernel
theorem d_M_opens_6 : decode m_M_opens.2.1 6 = .ok (.getfield 317, 3) := by decide +kernel
theorem d_M_opens_9 : decode m_M_opens.2.1 9 = .ok (.if_icmp .ge 28, 3) := by decide +kernel
theorem d_M_opens_12 : decode m_M_opens.2.1 12 = .ok (.aload_n 0, 1) := by decide +kernel
theorem d_M_opens_13 : decode m_M_opens.2.1 13 = .ok (.getfield 29, 3) := by decide +kernel
theorem d_M_opens_16 : decode m_M_opens.2.1 16 = .ok (.iload_n 3, 1) := by decide +kernel
theorem d_M_opens_17 : decode m_M_opens.2.1 17 = .ok (.iload_n 2, 1) := by decide +kernel
theorem d_M_opens_18 : decode m_M_opens.2.1 18 = .ok (.aload_n 0, 1) := by decide +kernel
theorem d_M_opens_19 : decode m_M_opens.2.1 19 = .ok (.getfield 320, 3) := by decide +kernel
theorem d_M_opens_22 : decode m_M_opens.2.1 22 = .ok (.irem, 1) := by decide +kernel
theorem d_M_opens_23 : decode m_M_opens.2.1 23 = .ok (.iastore, 1) := by decide +kernel
theorem d_M_opens_24 : decode m_M_opens.2.1 24 = .ok (.iload_n 2, 1) := by decide +kernel
theorem d_M_opens_25 : decode m_M_opens.2.1 25 = .ok (.aload_n 0, 1) := by decide +kernel
theorem d_M_opens_26 : decode m_M_opens.2.1 26 = .ok (.getfield 320, 3) := by decide +kernel
theorem d_M_opens_29 : decode m_M_opens.2.1 29 = .ok (.idiv, 1) := by decide +kernel
theorem d_M_opens_30 : decode m_M_opens.2.1 30 = .ok (.istore_n 2, 1) := by decide +kernel
theorem d_M_opens_31 : decode m_M_opens.2.1 31 = .ok (.iinc 3 1, 3) := by decide +kernel
theorem d_M_opens_34 : decode m_M_opens.2.1 34 = .ok (.goto (-30), 3) := by decide +kernel
theorem d_M_opens_37 : decode m_M_opens.2.1 37 = .ok (.aload_n 0, 1) := by decide +kernel
theorem d_M_opens_38 : decode m_M_opens.2.1 38 = .ok (.iload_n 2, 1) := by decide +kernel
theorem d_M_opens_39 : decode m_M_opens.2.1 39 = .ok (.putfield 314, 3) := by decide +kernel
theorem d_M_opens_42 : decode m_M_opens.2.1 42 = .ok (.return_, 1) := by decide +kernel
def f_M_opens_37 (x2 : Int) (w : qMem) : Option (qMem) :=
  qlt (qud w 88 16 x2) fun w1 =>
  some w1
set_option maxRecDepth 4000 in
theorem s_M_opens_37  : ∀ (x2 : Int) (w : qMem), qSim κV 100 100 m_M_opens 37 [] [some (qR 88), none, some (qI x2), none] w (f_M_opens_37 x2 w) := by
  intro x2 w
  unfold f_M_opens_37
  refine z_aload_n d_M_opens_37 rfl ?_
  refine z_iload_n d_M_opens_38 rfl ?_
  refine z_pi (ci := 10) (j := 16) (ji := 16) d_M_opens_39 rfl fl_M_314 rfl rfl rfl rfl rfl (fun w1 => ?_)
  exact z_vret d_M_opens_42 rfl rfl
def f_M_opens_4 : Nat → Int → Int → qMem → Option (qMem)
  | 0, _, _, _ => none
  | n + 1, x2, x3, w =>
    if x3 < (w 88 10) then
    qdv (w 88 14) <|
    qst w 95 4 x3 (jrem x2 (w 88 14)) fun w3 =>
    qdv (w3 88 14) <|
    (f_M_opens_4 n) (jdiv x2 (w3 88 14)) (w32 (x3 + 1)) w3
    else
    f_M_opens_37 x2 w
set_option maxRecDepth 4000 in
theorem s_M_opens_4  : ∀ (n : Nat), ∀ (x2 x3 : Int) (w : qMem), qSim κV 100 100 m_M_opens 4 [] [some (qR 88), none, some (qI x2), some (qI x3)] w (f_M_opens_4 n x2 x3 w) := by
  intro n
  induction n with
  | zero => intro x2 x3 w; exact z_none
  | succ n ih =>
    intro x2 x3 w
    rw [f_M_opens_4]
    refine z_iload_n d_M_opens_4 rfl ?_
    refine z_aload_n d_M_opens_5 rfl ?_
    refine z_gi (ci := 10) (j := 10) (ji := 10) d_M_opens_6 rfl fl_M_317 rfl rfl rfl ?_
    refine z_icmp_ge (tgt := 37) d_M_opens_9 rfl (fun c2 => ?_) (fun c2 => ?_)
    · refine z_aload_n d_M_opens_12 rfl ?_
      refine z_gr (ci := 10) (j := 15) (d := 7) (o2 := 95) d_M_opens_13 rfl fl_M_29 rfl (Nat.le_of_ble_eq_true rfl) rfl rfl ?_
      refine z_iload_n d_M_opens_16 rfl ?_
      refine z_iload_n d_M_opens_17 rfl ?_
      refine z_aload_n d_M_opens_18 rfl ?_
      refine z_gi (ci := 10) (j := 14) (ji := 14) d_M_opens_19 rfl fl_M_320 rfl rfl rfl ?_
      refine z_irem d_M_opens_22 (fun _ => ?_)
      refine z_is d_M_opens_23 rfl rfl (fun w3 => ?_)
      refine z_iload_n d_M_opens_24 rfl ?_
      refine z_aload_n d_M_opens_25 rfl ?_
      refine z_gi (ci := 10) (j := 14) (ji := 14) d_M_opens_26 rfl fl_M_320 rfl rfl rfl ?_
      refine z_idiv d_M_opens_29 (fun _ => ?_)
      refine z_istore_n (pls' := [some (qR 88), none, some (qI (jdiv x2 (w3 88 14))), some (qI x3)]) d_M_opens_30 (by decide) rfl rfl ?_
      refine z_iinc (pls' := [some (qR 88), none, some (qI (jdiv x2 (w3 88 14))), some (qI (w32 (x3 + 1)))]) d_M_opens_31 (by decide) rfl rfl rfl ?_
      refine z_goto (tgt := 4) d_M_opens_34 rfl ?_
      refine z_mask [true, false, true, true] ?_
      exact ih _ _ _
    · refine z_mask [true, false, true, false] ?_
      exact s_M_opens_37 _ _
def f_M_opens (x1 : Int) (w : qMem) : Option (qMem) :=
  f_M_opens_4 qFU x1 0 w
set_option maxRecDepth 4000 in
theorem s_M_opens (x1 : Int) (w : qMem) : qSim κV 100 100 m_M_opens 0 [] [some (qR 88), some (qI x1), none, none] w (f_M_opens x1 w) := by
  unfold f_M_opens
  refine z_iload_n d_M_opens_0 rfl ?_
  refine z_istore_n (pls' := [some (qR 88), some (qI x1), some (qI x1), none]) d_M_opens_1 (by decide) rfl rfl ?_
  refine z_ic0 d_M_opens_2 ?_
  refine z_istore_n (pls' := [some (qR 88), some (qI x1), some (qI x1), some (qI 0)]) d_M_opens_3 (by decide) rfl rfl ?_
  refine z_mask [true, false, true, true] ?_
  exact s_M_opens_4 _ _ _ _
/-! BubbleTorusModel.freeAt -/
theorem d_M_freeAt_0 : decode m_M_freeAt.2.1 0 = .ok (.aload_n 0, 1) := by decide +kernel
theorem d_M_freeAt_1 : decode m_M_freeAt.2.1 1 = .ok (.getfield 323, 3) := by decide +kernel
theorem d_M_freeAt_4 : decode m_M_freeAt.2.1 4 = .ok (.aload_n 0, 1) := by decide +kernel
theorem d_M_freeAt_5 : decode m_M_freeAt.2.1 5 = .ok (.aload_n 0, 1) := by decide +kernel
theorem d_M_freeAt_6 : decode m_M_freeAt.2.1 6 = .ok (.getfield 29, 3) := by decide +kernel
theorem d_M_freeAt_9 : decode m_M_freeAt.2.1 9 = .ok (.iload_n 1, 1) := by decide +kernel
theorem d_M_freeAt_10 : decode m_M_freeAt.2.1 10 = .ok (.iaload, 1) := by decide +kernel
theorem d_M_freeAt_11 : decode m_M_freeAt.2.1 11 = .ok (.invokevirtual 305, 3) := by decide +kernel
theorem d_M_freeAt_14 : decode m_M_freeAt.2.1 14 = .ok (.isub, 1) := by decide +kernel
theorem d_M_freeAt_15 : decode m_M_freeAt.2.1 15 = .ok (.ireturn, 1) := by decide +kernel
def f_M_freeAt (x1 : Int) (w : qMem) : Option (Int × qMem) :=
  qld w 95 4 x1 fun v1 =>
  (f_M_longQueue v1 w).bind fun q2 =>
  some ((w32 ((w 88 11) - q2.1)), q2.2)
set_option maxRecDepth 4000 in
theorem s_M_freeAt (x1 : Int) (w : qMem) : qSim κI 100 100 m_M_freeAt 0 [] [some (qR 88), some (qI x1)] w (f_M_freeAt x1 w) := by
  unfold f_M_freeAt
  refine z_aload_n d_M_freeAt_0 rfl ?_
  refine z_gi (ci := 10) (j := 11) (ji := 11) d_M_freeAt_1 rfl fl_M_323 rfl rfl rfl ?_
  refine z_aload_n d_M_freeAt_4 rfl ?_
  refine z_aload_n d_M_freeAt_5 rfl ?_
  refine z_gr (ci := 10) (j := 15) (d := 7) (o2 := 95) d_M_freeAt_6 rfl fl_M_29 rfl (Nat.le_of_ble_eq_true rfl) rfl rfl ?_
  refine z_iload_n d_M_freeAt_9 rfl ?_
  refine z_il d_M_freeAt_10 rfl rfl (fun v1 => ?_)
  refine z_cVI (as := [qI v1]) (st := [qI (w 88 11)]) (nl := 3) (ci := 10) d_M_freeAt_11 lk_M_305 mk_M_longQueue rfl rfl rfl rfl rfl rfl (s_M_longQueue _ _) (fun q2 _ hq2 => ?_)
  refine z_isub d_M_freeAt_14 ?_
  exact z_iret d_M_freeAt_15 rfl rfl
/-! BubbleTorusModel.mayEnter -/
theorem d_M_mayEnter_0 : decode m_M_mayEnter.2.1 0 = .ok (.aload_n 0, 1) := by decide +kernel
theorem d_M_mayEnter_1 : decode m_M_mayEnter.2.1 1 = .ok (.getfield 326, 3) := by decide +kernel
theorem d_M_mayEnter_4 : decode m_M_mayEnter.2.1 4 = .ok (.ifCond .ne 7, 3) := by decide +kernel
theorem d_M_mayEnter_7 : decode m_M_mayEnter.2.1 7 = .ok (.iconst 1, 1) := by decide +kernel
theorem d_M_mayEnter_8 : decode m_M_mayEnter.2.1 8 = .ok (.goto 28, 3) := by decide +kernel
theorem d_M_mayEnter_11 : decode m_M_mayEnter.2.1 11 = .ok (.aload_n 0, 1) := by decide +kernel
theorem d_M_mayEnter_12 : decode m_M_mayEnter.2.1 12 = .ok (.getfield 326, 3) := by decide +kernel
theorem d_M_mayEnter_15 : decode m_M_mayEnter.2.1 15 = .ok (.iconst 1, 1) := by decide +kernel
theorem d_M_mayEnter_16 : decode m_M_mayEnter.2.1 16 = .ok (.if_icmp .ne 7, 3) := by decide +kernel
theorem d_M_mayEnter_19 : decode m_M_mayEnter.2.1 19 = .ok (.iconst 2, 1) := by decide +kernel
theorem d_M_mayEnter_20 : decode m_M_mayEnter.2.1 20 = .ok (.goto 16, 3) := by decide +kernel
theorem d_M_mayEnter_23 : decode m_M_mayEnter.2.1 23 = .ok (.aload_n 0, 1) := by decide +kernel
theorem d_M_mayEnter_24 : decode m_M_mayEnter.2.1 24 = .ok (.getfield 314, 3) := by decide +kernel
theorem d_M_mayEnter_27 : decode m_M_mayEnter.2.1 27 = .ok (.iload_n 1, 1) := by decide +kernel
theorem d_M_mayEnter_28 : decode m_M_mayEnter.2.1 28 = .ok (.if_icmp .ne 7, 3) := by decide +kernel
theorem d_M_mayEnter_31 : decode m_M_mayEnter.2.1 31 = .ok (.iconst 2, 1) := by decide +kernel
theorem d_M_mayEnter_32 : decode m_M_mayEnter.2.1 32 = .ok (.goto 4, 3) := by decide +kernel
theorem d_M_mayEnter_35 : decode m_M_mayEnter.2.1 35 = .ok (.iconst 1, 1) := by decide +kernel
theorem d_M_mayEnter_36 : decode m_M_mayEnter.2.1 36 = .ok (.istore_n 2, 1) := by decide +kernel
theorem d_M_mayEnter_37 : decode m_M_mayEnter.2.1 37 = .ok (.aload_n 0, 1) := by decide +kernel
theorem d_M_mayEnter_38 : decode m_M_mayEnter.2.1 38 = .ok (.iload_n 1, 1) := by decide +kernel
theorem d_M_mayEnter_39 : decode m_M_mayEnter.2.1 39 = .ok (.invokevirtual 329, 3) := by decide +kernel
theorem d_M_mayEnter_42 : decode m_M_mayEnter.2.1 42 = .ok (.iload_n 2, 1) := by decide +kernel
theorem d_M_mayEnter_43 : decode m_M_mayEnter.2.1 43 = .ok (.if_icmp .lt 7, 3) := by decide +kernel
theorem d_M_mayEnter_46 : decode m_M_mayEnter.2.1 46 = .ok (.iconst 1, 1) := by decide +kernel
theorem d_M_mayEnter_47 : decode m_M_mayEnter.2.1 47 = .ok (.goto 4, 3) := by decide +kernel
theorem d_M_mayEnter_50 : decode m_M_mayEnter.2.1 50 = .ok (.iconst 0, 1) := by decide +kernel
theorem d_M_mayEnter_51 : decode m_M_mayEnter.2.1 51 = .ok (.ireturn, 1) := by decide +kernel
def f_M_mayEnter_36 (s0 x1 : Int) (w : qMem) : Option (Int × qMem) :=
  (f_M_freeAt x1 w).bind fun q1 =>
  if q1.1 < s0 then
  some (0, q1.2)
  else
  some (1, q1.2)
set_option maxRecDepth 4000 in
theorem s_M_mayEnter_36  : ∀ (s0 x1 : Int) (w : qMem), qSim κI 100 100 m_M_mayEnter 36 [qI s0] [some (qR 88), some (qI x1), none] w (f_M_mayEnter_36 s0 x1 w) := by
  intro s0 x1 w
  unfold f_M_mayEnter_36
  refine z_istore_n (pls' := [some (qR 88), some (qI x1), some (qI s0)]) d_M_mayEnter_36 (by decide) rfl rfl ?_
  refine z_aload_n d_M_mayEnter_37 rfl ?_
  refine z_iload_n d_M_mayEnter_38 rfl ?_
  refine z_cVI (as := [qI x1]) (st := []) (nl := 0) (ci := 10) d_M_mayEnter_39 lk_M_329 mk_M_freeAt rfl rfl rfl rfl rfl rfl (s_M_freeAt _ _) (fun q1 _ hq1 => ?_)
  refine z_iload_n d_M_mayEnter_42 rfl ?_
  refine z_icmp_lt (tgt := 50) d_M_mayEnter_43 rfl (fun c2 => ?_) (fun c2 => ?_)
  · refine z_ic0 d_M_mayEnter_50 ?_
    exact z_zret d_M_mayEnter_51 rfl rfl (Or.inl rfl)
  · refine z_ic1 d_M_mayEnter_46 ?_
    refine z_goto (tgt := 51) d_M_mayEnter_47 rfl ?_
    exact z_zret d_M_mayEnter_51 rfl rfl (Or.inr rfl)
def f_M_mayEnter (x1 : Int) (w : qMem) : Option (Int × qMem) :=
  if (w 88 12) = 0 then
  f_M_mayEnter_36 1 x1 w
  else
  if (w 88 12) = 1 then
  f_M_mayEnter_36 2 x1 w
  else
  if (w 88 16) = x1 then
  f_M_mayEnter_36 2 x1 w
  else
  f_M_mayEnter_36 1 x1 w
set_option maxRecDepth 4000 in
theorem s_M_mayEnter (x1 : Int) (w : qMem) : qSim κI 100 100 m_M_mayEnter 0 [] [some (qR 88), some (qI x1), none] w (f_M_mayEnter x1 w) := by
  unfold f_M_mayEnter
  refine z_aload_n d_M_mayEnter_0 rfl ?_
  refine z_gi (ci := 10) (j := 12) (ji := 12) d_M_mayEnter_1 rfl fl_M_326 rfl rfl rfl ?_
  refine z_if_ne (tgt := 11) d_M_mayEnter_4 rfl (fun c3 => ?_) (fun c3 => ?_)
  · refine z_ic1 d_M_mayEnter_7 ?_
    refine z_goto (tgt := 36) d_M_mayEnter_8 rfl ?_
    refine z_mask [true, true, false] ?_
    exact s_M_mayEnter_36 _ _ _
  · refine z_aload_n d_M_mayEnter_11 rfl ?_
    refine z_gi (ci := 10) (j := 12) (ji := 12) d_M_mayEnter_12 rfl fl_M_326 rfl rfl rfl ?_
    refine z_ic1 d_M_mayEnter_15 ?_
    refine z_icmp_ne (tgt := 23) d_M_mayEnter_16 rfl (fun c4 => ?_) (fun c4 => ?_)
    · refine z_ic2 d_M_mayEnter_19 ?_
      refine z_goto (tgt := 36) d_M_mayEnter_20 rfl ?_
      refine z_mask [true, true, false] ?_
      exact s_M_mayEnter_36 _ _ _
    · refine z_aload_n d_M_mayEnter_23 rfl ?_
      refine z_gi (ci := 10) (j := 16) (ji := 16) d_M_mayEnter_24 rfl fl_M_314 rfl rfl rfl ?_
      refine z_iload_n d_M_mayEnter_27 rfl ?_
      refine z_icmp_ne (tgt := 35) d_M_mayEnter_28 rfl (fun c5 => ?_) (fun c5 => ?_)
      · refine z_ic2 d_M_mayEnter_31 ?_
        refine z_goto (tgt := 36) d_M_mayEnter_32 rfl ?_
        refine z_mask [true, true, false] ?_
        exact s_M_mayEnter_36 _ _ _
      · refine z_ic1 d_M_mayEnter_35 ?_
        refine z_mask [true, true, false] ?_
        exact s_M_mayEnter_36 _ _ _
/-! BubbleTorusModel.laysAfter -/
theorem d_M_laysAfter_0 : decode m_M_laysAfter.2.1 0 = .ok (.aload_n 0, 1) := by decide +kernel
theorem d_M_laysAfter_1 : decode m_M_laysAfter.2.1 1 = .ok (.iload_n 1, 1) := by decide +kernel
theorem d_M_laysAfter_2 : decode m_M_laysAfter.2.1 2 = .ok (.invokevirtual 332, 3) := by decide +kernel
theorem d_M_laysAfter_5 : decode m_M_laysAfter.2.1 5 = .ok (.aload_n 0, 1) := by decide +kernel
theorem d_M_laysAfter_6 : decode m_M_laysAfter.2.1 6 = .ok (.iconst 0, 1) := by decide +kernel
theorem d_M_laysAfter_7 : decode m_M_laysAfter.2.1 7 = .ok (.putfield 335, 3) := by decide +kernel
theorem d_M_laysAfter_10 : decode m_M_laysAfter.2.1 10 = .ok (.iconst 0, 1) := by decide +kernel
theorem d_M_laysAfter_11 : decode m_M_laysAfter.2.1 11 = .ok (.istore_n 2, 1) := by decide +kernel
theorem d_M_laysAfter_12 : decode m_M_laysAfter.2.1 12 = .ok (.iload_n 2, 1) := by decide +kernel
theorem d_M_laysAfter_13 : decode m_M_laysAfter.2.1 13 = .ok (.aload_n 0, 1) := by decide +kernel
theorem d_M_laysAfter_14 : decode m_M_laysAfter.2.1 14 = .ok (.getfield 317, 3) := by decide +kernel
theorem d_M_laysAfter_17 : decode m_M_laysAfter.2.1 17 = .ok (.if_icmp .ge 168, 3) := by decide +kernel
theorem d_M_laysAfter_20 : decode m_M_laysAfter.2.1 20 = .ok (.aload_n 0, 1) := by decide +kernel
theorem d_M_laysAfter_21 : decode m_M_laysAfter.2.1 21 = .ok (.aload_n 0, 1) := by decide +kernel
theorem d_M_laysAfter_22 : decode m_M_laysAfter.2.1 22 = .ok (.getfield 29, 3) := by decide +kernel
theorem d_M_laysAfter_25 : decode m_M_laysAfter.2.1 25 = .ok (.iload_n 2, 1) := by decide +kernel
theorem d_M_laysAfter_26 : decode m_M_laysAfter.2.1 26 = .ok (.iaload, 1) := by decide +kernel
theorem d_M_laysAfter_27 : decode m_M_laysAfter.2.1 27 = .ok (.invokevirtual 338, 3) := by decide +kernel
theorem d_M_laysAfter_30 : decode m_M_laysAfter.2.1 30 = .ok (.istore_n 3, 1) := by decide +kernel
theorem d_M_laysAfter_31 : decode m_M_laysAfter.2.1 31 = .ok (.iload_n 2, 1) := by decide +kernel
theorem d_M_laysAfter_32 : decode m_M_laysAfter.2.1 32 = .ok (.iconst 1, 1) := by decide +kernel
theorem d_M_laysAfter_33 : decode m_M_laysAfter.2.1 33 = .ok (.iadd, 1) := by decide +kernel
theorem d_M_laysAfter_34 : decode m_M_laysAfter.2.1 34 = .ok (.aload_n 0, 1) := by decide +kernel
theorem d_M_laysAfter_35 : decode m_M_laysAfter.2.1 35 = .ok (.getfield 317, 3) := by decide +kernel
theorem d_M_laysAfter_38 : decode m_M_laysAfter.2.1 38 = .ok (.irem, 1) := by decide +kernel
theorem d_M_laysAfter_39 : decode m_M_laysAfter.2.1 39 = .ok (.istore 4, 2) := by decide +kernel
theorem d_M_laysAfter_41 : decode m_M_laysAfter.2.1 41 = .ok (.iload_n 3, 1) := by decide +kernel
theorem d_M_laysAfter_42 : decode m_M_laysAfter.2.1 42 = .ok (.iconst (-1), 1) := by decide +kernel
theorem d_M_laysAfter_43 : decode m_M_laysAfter.2.1 43 = .ok (.if_icmp .eq 136, 3) := by decide +kernel
theorem d_M_laysAfter_46 : decode m_M_laysAfter.2.1 46 = .ok (.iload_n 3, 1) := by decide +kernel
theorem d_M_laysAfter_47 : decode m_M_laysAfter.2.1 47 = .ok (.ifCond .le 15, 3) := by decide +kernel
theorem d_M_laysAfter_50 : decode m_M_laysAfter.2.1 50 = .ok (.aload_n 0, 1) := by decide +kernel
theorem d_M_laysAfter_51 : decode m_M_laysAfter.2.1 51 = .ok (.iload 4, 2) := by decide +kernel
theorem d_M_laysAfter_53 : decode m_M_laysAfter.2.1 53 = .ok (.invokevirtual 329, 3) := by decide +kernel
theorem d_M_laysAfter_56 : decode m_M_laysAfter.2.1 56 = .ok (.ifCond .ne 6, 3) := by decide +kernel
theorem d_M_laysAfter_59 : decode m_M_laysAfter.2.1 59 = .ok (.goto 120, 3) := by decide +kernel
theorem d_M_laysAfter_62 : decode m_M_laysAfter.2.1 62 = .ok (.iload_n 3, 1) := by decide +kernel
theorem d_M_laysAfter_63 : decode m_M_laysAfter.2.1 63 = .ok (.ifCond .le 34, 3) := by decide +kernel
theorem d_M_laysAfter_66 : decode m_M_laysAfter.2.1 66 = .ok (.aload_n 0, 1) := by decide +kernel
theorem d_M_laysAfter_67 : decode m_M_laysAfter.2.1 67 = .ok (.getfield 326, 3) := by decide +kernel
theorem d_M_laysAfter_70 : decode m_M_laysAfter.2.1 70 = .ok (.iconst 2, 1) := by decide +kernel
theorem d_M_laysAfter_71 : decode m_M_laysAfter.2.1 71 = .ok (.if_icmp .ne 26, 3) := by decide +kernel
theorem d_M_laysAfter_74 : decode m_M_laysAfter.2.1 74 = .ok (.aload_n 0, 1) := by decide +kernel
theorem d_M_laysAfter_75 : decode m_M_laysAfter.2.1 75 = .ok (.getfield 314, 3) := by decide +kernel
theorem d_M_laysAfter_78 : decode m_M_laysAfter.2.1 78 = .ok (.iload 4, 2) := by decide +kernel
theorem d_M_laysAfter_80 : decode m_M_laysAfter.2.1 80 = .ok (.if_icmp .ne 17, 3) := by decide +kernel
theorem d_M_laysAfter_83 : decode m_M_laysAfter.2.1 83 = .ok (.aload_n 0, 1) := by decide +kernel
theorem d_M_laysAfter_84 : decode m_M_laysAfter.2.1 84 = .ok (.iload 4, 2) := by decide +kernel
theorem d_M_laysAfter_86 : decode m_M_laysAfter.2.1 86 = .ok (.invokevirtual 329, 3) := by decide +kernel
theorem d_M_laysAfter_89 : decode m_M_laysAfter.2.1 89 = .ok (.iconst 1, 1) := by decide +kernel
theorem d_M_laysAfter_90 : decode m_M_laysAfter.2.1 90 = .ok (.if_icmp .ne 7, 3) := by decide +kernel
theorem d_M_laysAfter_93 : decode m_M_laysAfter.2.1 93 = .ok (.iconst 1, 1) := by decide +kernel
theorem d_M_laysAfter_94 : decode m_M_laysAfter.2.1 94 = .ok (.goto 4, 3) := by decide +kernel
theorem d_M_laysAfter_97 : decode m_M_laysAfter.2.1 97 = .ok (.iconst 0, 1) := by decide +kernel
theorem d_M_laysAfter_98 : decode m_M_laysAfter.2.1 98 = .ok (.istore 5, 2) := by decide +kernel
theorem d_M_laysAfter_100 : decode m_M_laysAfter.2.1 100 = .ok (.aload_n 0, 1) := by decide +kernel
theorem d_M_laysAfter_101 : decode m_M_laysAfter.2.1 101 = .ok (.getfield 29, 3) := by decide +kernel
theorem d_M_laysAfter_104 : decode m_M_laysAfter.2.1 104 = .ok (.iload_n 2, 1) := by decide +kernel
theorem d_M_laysAfter_105 : decode m_M_laysAfter.2.1 105 = .ok (.aload_n 0, 1) := by decide +kernel
theorem d_M_laysAfter_106 : decode m_M_laysAfter.2.1 106 = .ok (.aload_n 0, 1) := by decide +kernel
theorem d_M_laysAfter_107 : decode m_M_laysAfter.2.1 107 = .ok (.getfield 29, 3) := by decide +kernel
theorem d_M_laysAfter_110 : decode m_M_laysAfter.2.1 110 = .ok (.iload_n 2, 1) := by decide +kernel
theorem d_M_laysAfter_111 : decode m_M_laysAfter.2.1 111 = .ok (.iaload, 1) := by decide +kernel
theorem d_M_laysAfter_112 : decode m_M_laysAfter.2.1 112 = .ok (.invokevirtual 341, 3) := by decide +kernel
theorem d_M_laysAfter_115 : decode m_M_laysAfter.2.1 115 = .ok (.iastore, 1) := by decide +kernel
theorem d_M_laysAfter_116 : decode m_M_laysAfter.2.1 116 = .ok (.iload_n 3, 1) := by decide +kernel
theorem d_M_laysAfter_117 : decode m_M_laysAfter.2.1 117 = .ok (.ifCond .le 24, 3) := by decide +kernel
theorem d_M_laysAfter_120 : decode m_M_laysAfter.2.1 120 = .ok (.aload_n 0, 1) := by decide +kernel
theorem d_M_laysAfter_121 : decode m_M_laysAfter.2.1 121 = .ok (.getfield 29, 3) := by decide +kernel
theorem d_M_laysAfter_124 : decode m_M_laysAfter.2.1 124 = .ok (.iload 4, 2) := by decide +kernel
theorem d_M_laysAfter_126 : decode m_M_laysAfter.2.1 126 = .ok (.aload_n 0, 1) := by decide +kernel
theorem d_M_laysAfter_127 : decode m_M_laysAfter.2.1 127 = .ok (.aload_n 0, 1) := by decide +kernel
theorem d_M_laysAfter_128 : decode m_M_laysAfter.2.1 128 = .ok (.getfield 29, 3) := by decide +kernel
theorem d_M_laysAfter_131 : decode m_M_laysAfter.2.1 131 = .ok (.iload 4, 2) := by decide +kernel
theorem d_M_laysAfter_133 : decode m_M_laysAfter.2.1 133 = .ok (.iaload, 1) := by decide +kernel
theorem d_M_laysAfter_134 : decode m_M_laysAfter.2.1 134 = .ok (.iload_n 3, 1) := by decide +kernel
theorem d_M_laysAfter_135 : decode m_M_laysAfter.2.1 135 = .ok (.iconst 1, 1) := by decide +kernel
theorem d_M_laysAfter_136 : decode m_M_laysAfter.2.1 136 = .ok (.isub, 1) := by decide +kernel
theorem d_M_laysAfter_137 : decode m_M_laysAfter.2.1 137 = .ok (.invokevirtual 344, 3) := by decide +kernel
theorem d_M_laysAfter_140 : decode m_M_laysAfter.2.1 140 = .ok (.iastore, 1) := by decide +kernel
theorem d_M_laysAfter_141 : decode m_M_laysAfter.2.1 141 = .ok (.iload 5, 2) := by decide +kernel
theorem d_M_laysAfter_143 : decode m_M_laysAfter.2.1 143 = .ok (.ifCond .eq 8, 3) := by decide +kernel
theorem d_M_laysAfter_146 : decode m_M_laysAfter.2.1 146 = .ok (.aload_n 0, 1) := by decide +kernel
theorem d_M_laysAfter_147 : decode m_M_laysAfter.2.1 147 = .ok (.iload_n 2, 1) := by decide +kernel
theorem d_M_laysAfter_148 : decode m_M_laysAfter.2.1 148 = .ok (.putfield 314, 3) := by decide +kernel
theorem d_M_laysAfter_151 : decode m_M_laysAfter.2.1 151 = .ok (.aload_n 0, 1) := by decide +kernel
theorem d_M_laysAfter_152 : decode m_M_laysAfter.2.1 152 = .ok (.getfield 47, 3) := by decide +kernel
theorem d_M_laysAfter_155 : decode m_M_laysAfter.2.1 155 = .ok (.aload_n 0, 1) := by decide +kernel
theorem d_M_laysAfter_156 : decode m_M_laysAfter.2.1 156 = .ok (.getfield 335, 3) := by decide +kernel
theorem d_M_laysAfter_159 : decode m_M_laysAfter.2.1 159 = .ok (.aload_n 0, 1) := by decide +kernel
theorem d_M_laysAfter_160 : decode m_M_laysAfter.2.1 160 = .ok (.invokevirtual 347, 3) := by decide +kernel
theorem d_M_laysAfter_163 : decode m_M_laysAfter.2.1 163 = .ok (.iastore, 1) := by decide +kernel
theorem d_M_laysAfter_164 : decode m_M_laysAfter.2.1 164 = .ok (.aload_n 0, 1) := by decide +kernel
theorem d_M_laysAfter_165 : decode m_M_laysAfter.2.1 165 = .ok (.dup, 1) := by decide +kernel
theorem d_M_laysAfter_166 : decode m_M_laysAfter.2.1 166 = .ok (.getfield 335, 3) := by decide +kernel
theorem d_M_laysAfter_169 : decode m_M_laysAfter.2.1 169 = .ok (.iconst 1, 1) := by decide +kernel
theorem d_M_laysAfter_170 : decode m_M_laysAfter.2.1 170 = .ok (.iadd, 1) := by decide +kernel
theorem d_M_laysAfter_171 : decode m_M_laysAfter.2.1 171 = .ok (.putfield 335, 3) := by decide +kernel
theorem d_M_laysAfter_174 : decode m_M_laysAfter.2.1 174 = .ok (.aload_n 0, 1) := by decide +kernel
theorem d_M_laysAfter_175 : decode m_M_laysAfter.2.1 175 = .ok (.iload_n 1, 1) := by decide +kernel
theorem d_M_laysAfter_176 : decode m_M_laysAfter.2.1 176 = .ok (.invokevirtual 332, 3) := by decide +kernel
theorem d_M_laysAfter_179 : decode m_M_laysAfter.2.1 179 = .ok (.iinc 2 1, 3) := by decide +kernel
theorem d_M_laysAfter_182 : decode m_M_laysAfter.2.1 182 = .ok (.goto (-170), 3) := by decide +kernel
theorem d_M_laysAfter_185 : decode m_M_laysAfter.2.1 185 = .ok (.aload_n 0, 1) := by decide +kernel
theorem d_M_laysAfter_186 : decode m_M_laysAfter.2.1 186 = .ok (.aload_n 0, 1) := by decide +kernel
theorem d_M_laysAfter_187 : decode m_M_laysAfter.2.1 187 = .ok (.getfield 335, 3) := by decide +kernel
theorem d_M_laysAfter_190 : decode m_M_laysAfter.2.1 190 = .ok (.putfield 350, 3) := by decide +kernel
theorem d_M_laysAfter_193 : decode m_M_laysAfter.2.1 193 = .ok (.iconst 0, 1) := by decide +kernel
theorem d_M_laysAfter_194 : decode m_M_laysAfter.2.1 194 = .ok (.istore_n 2, 1) := by decide +kernel
theorem d_M_laysAfter_195 : decode m_M_laysAfter.2.1 195 = .ok (.iload_n 2, 1) := by decide +kernel
theorem d_M_laysAfter_196 : decode m_M_laysAfter.2.1 196 = .ok (.aload_n 0, 1) := by decide +kernel
theorem d_M_laysAfter_197 : decode m_M_laysAfter.2.1 197 = .ok (.getfield 317, 3) := by decide +kernel
theorem d_M_laysAfter_200 : decode m_M_laysAfter.2.1 200 = .ok (.if_icmp .ge 78, 3) := by decide +kernel
theorem d_M_laysAfter_203 : decode m_M_laysAfter.2.1 203 = .ok (.iconst 0, 1) := by decide +kernel
theorem d_M_laysAfter_204 : decode m_M_laysAfter.2.1 204 = .ok (.istore_n 3, 1) := by decide +kernel
theorem d_M_laysAfter_205 : decode m_M_laysAfter.2.1 205 = .ok (.iload_n 3, 1) := by decide +kernel
theorem d_M_laysAfter_206 : decode m_M_laysAfter.2.1 206 = .ok (.aload_n 0, 1) := by decide +kernel
theorem d_M_laysAfter_207 : decode m_M_laysAfter.2.1 207 = .ok (.getfield 302, 3) := by decide +kernel
theorem d_M_laysAfter_210 : decode m_M_laysAfter.2.1 210 = .ok (.if_icmp .ge 62, 3) := by decide +kernel
theorem d_M_laysAfter_213 : decode m_M_laysAfter.2.1 213 = .ok (.aload_n 0, 1) := by decide +kernel
theorem d_M_laysAfter_214 : decode m_M_laysAfter.2.1 214 = .ok (.iload_n 2, 1) := by decide +kernel
theorem d_M_laysAfter_215 : decode m_M_laysAfter.2.1 215 = .ok (.invokevirtual 353, 3) := by decide +kernel
theorem d_M_laysAfter_218 : decode m_M_laysAfter.2.1 218 = .ok (.ifCond .eq 54, 3) := by decide +kernel
theorem d_M_laysAfter_221 : decode m_M_laysAfter.2.1 221 = .ok (.aload_n 0, 1) := by decide +kernel
theorem d_M_laysAfter_222 : decode m_M_laysAfter.2.1 222 = .ok (.getfield 29, 3) := by decide +kernel
theorem d_M_laysAfter_225 : decode m_M_laysAfter.2.1 225 = .ok (.iload_n 2, 1) := by decide +kernel
theorem d_M_laysAfter_226 : decode m_M_laysAfter.2.1 226 = .ok (.aload_n 0, 1) := by decide +kernel
theorem d_M_laysAfter_227 : decode m_M_laysAfter.2.1 227 = .ok (.aload_n 0, 1) := by decide +kernel
theorem d_M_laysAfter_228 : decode m_M_laysAfter.2.1 228 = .ok (.getfield 29, 3) := by decide +kernel
theorem d_M_laysAfter_231 : decode m_M_laysAfter.2.1 231 = .ok (.iload_n 2, 1) := by decide +kernel
theorem d_M_laysAfter_232 : decode m_M_laysAfter.2.1 232 = .ok (.iaload, 1) := by decide +kernel
theorem d_M_laysAfter_233 : decode m_M_laysAfter.2.1 233 = .ok (.iload_n 3, 1) := by decide +kernel
theorem d_M_laysAfter_234 : decode m_M_laysAfter.2.1 234 = .ok (.invokevirtual 344, 3) := by decide +kernel
theorem d_M_laysAfter_237 : decode m_M_laysAfter.2.1 237 = .ok (.iastore, 1) := by decide +kernel
theorem d_M_laysAfter_238 : decode m_M_laysAfter.2.1 238 = .ok (.aload_n 0, 1) := by decide +kernel
theorem d_M_laysAfter_239 : decode m_M_laysAfter.2.1 239 = .ok (.getfield 47, 3) := by decide +kernel
theorem d_M_laysAfter_242 : decode m_M_laysAfter.2.1 242 = .ok (.aload_n 0, 1) := by decide +kernel
theorem d_M_laysAfter_243 : decode m_M_laysAfter.2.1 243 = .ok (.getfield 335, 3) := by decide +kernel
theorem d_M_laysAfter_246 : decode m_M_laysAfter.2.1 246 = .ok (.aload_n 0, 1) := by decide +kernel
theorem d_M_laysAfter_247 : decode m_M_laysAfter.2.1 247 = .ok (.invokevirtual 347, 3) := by decide +kernel
theorem d_M_laysAfter_250 : decode m_M_laysAfter.2.1 250 = .ok (.iastore, 1) := by decide +kernel
theorem d_M_laysAfter_251 : decode m_M_laysAfter.2.1 251 = .ok (.aload_n 0, 1) := by decide +kernel
theorem d_M_laysAfter_252 : decode m_M_laysAfter.2.1 252 = .ok (.dup, 1) := by decide +kernel
theorem d_M_laysAfter_253 : decode m_M_laysAfter.2.1 253 = .ok (.getfield 335, 3) := by decide +kernel
theorem d_M_laysAfter_256 : decode m_M_laysAfter.2.1 256 = .ok (.iconst 1, 1) := by decide +kernel
theorem d_M_laysAfter_257 : decode m_M_laysAfter.2.1 257 = .ok (.iadd, 1) := by decide +kernel
theorem d_M_laysAfter_258 : decode m_M_laysAfter.2.1 258 = .ok (.putfield 335, 3) := by decide +kernel
theorem d_M_laysAfter_261 : decode m_M_laysAfter.2.1 261 = .ok (.aload_n 0, 1) := by decide +kernel
theorem d_M_laysAfter_262 : decode m_M_laysAfter.2.1 262 = .ok (.iload_n 1, 1) := by decide +kernel
theorem d_M_laysAfter_263 : decode m_M_laysAfter.2.1 263 = .ok (.invokevirtual 332, 3) := by decide +kernel
theorem d_M_laysAfter_266 : decode m_M_laysAfter.2.1 266 = .ok (.iinc 3 1, 3) := by decide +kernel
theorem d_M_laysAfter_269 : decode m_M_laysAfter.2.1 269 = .ok (.goto (-64), 3) := by decide +kernel
theorem d_M_laysAfter_272 : decode m_M_laysAfter.2.1 272 = .ok (.iinc 2 1, 3) := by decide +kernel
theorem d_M_laysAfter_275 : decode m_M_laysAfter.2.1 275 = .ok (.goto (-80), 3) := by decide +kernel
theorem d_M_laysAfter_278 : decode m_M_laysAfter.2.1 278 = .ok (.return_, 1) := by decide +kernel
def f_M_laysAfter_151 (r12 : Int → Int → qMem → Option (qMem)) (x1 x2 : Int) (w : qMem) : Option (qMem) :=
  (f_M_number w).bind fun q1 =>
  qst q1.2 101 24 (w 88 24) q1.1 fun w2 =>
  qlt (qud w2 88 24 (w32 ((w2 88 24) + 1))) fun w3 =>
  (f_M_opens x1 w3).bind fun q4 =>
  r12 x1 (w32 (x2 + 1)) q4
set_option maxRecDepth 4000 in
theorem s_M_laysAfter_151  {r12 : Int → Int → qMem → Option (qMem)} (hr12 : ∀ x1 x2 w, qSim κV 100 100 m_M_laysAfter 12 [] [some (qR 88), some (qI x1), some (qI x2), none, none, none] w (r12 x1 x2 w)) : ∀ (x1 x2 : Int) (w : qMem), qSim κV 100 100 m_M_laysAfter 151 [] [some (qR 88), some (qI x1), some (qI x2), none, none, none] w (f_M_laysAfter_151 r12 x1 x2 w) := by
  intro x1 x2 w
  unfold f_M_laysAfter_151
  refine z_aload_n d_M_laysAfter_151 rfl ?_
  refine z_gr (ci := 10) (j := 23) (d := 13) (o2 := 101) d_M_laysAfter_152 rfl fl_M_47 rfl (Nat.le_of_ble_eq_true rfl) rfl rfl ?_
  refine z_aload_n d_M_laysAfter_155 rfl ?_
  refine z_gi (ci := 10) (j := 24) (ji := 24) d_M_laysAfter_156 rfl fl_M_335 rfl rfl rfl ?_
  refine z_aload_n d_M_laysAfter_159 rfl ?_
  refine z_cVI (as := []) (st := [qI (w 88 24), qR 101]) (nl := 2) (ci := 10) d_M_laysAfter_160 lk_M_347 mk_M_number rfl rfl rfl rfl rfl rfl (s_M_number _) (fun q1 _ hq1 => ?_)
  refine z_is d_M_laysAfter_163 rfl rfl (fun w2 => ?_)
  refine z_aload_n d_M_laysAfter_164 rfl ?_
  refine z_dup d_M_laysAfter_165 rfl ?_
  refine z_gi (ci := 10) (j := 24) (ji := 24) d_M_laysAfter_166 rfl fl_M_335 rfl rfl rfl ?_
  refine z_ic1 d_M_laysAfter_169 ?_
  refine z_iadd d_M_laysAfter_170 ?_
  refine z_pi (ci := 10) (j := 24) (ji := 24) d_M_laysAfter_171 rfl fl_M_335 rfl rfl rfl rfl rfl (fun w3 => ?_)
  refine z_aload_n d_M_laysAfter_174 rfl ?_
  refine z_iload_n d_M_laysAfter_175 rfl ?_
  refine z_cVV (as := [qI x1]) (st := []) (nl := 2) (ci := 10) d_M_laysAfter_176 lk_M_332 mk_M_opens rfl rfl rfl rfl rfl rfl (s_M_opens _ _) (fun q4 _ => ?_)
  refine z_iinc (pls' := [some (qR 88), some (qI x1), some (qI (w32 (x2 + 1))), none, none, none]) d_M_laysAfter_179 (by decide) rfl rfl rfl ?_
  refine z_goto (tgt := 12) d_M_laysAfter_182 rfl ?_
  refine z_mask [true, true, true, false, false, false] ?_
  exact hr12 _ _ _
def f_M_laysAfter_141 (r12 : Int → Int → qMem → Option (qMem)) (x1 x2 x5 : Int) (w : qMem) : Option (qMem) :=
  if x5 = 0 then
  f_M_laysAfter_151 r12 x1 x2 w
  else
  qlt (qud w 88 16 x2) fun w6 =>
  f_M_laysAfter_151 r12 x1 x2 w6
set_option maxRecDepth 4000 in
theorem s_M_laysAfter_141  {r12 : Int → Int → qMem → Option (qMem)} (hr12 : ∀ x1 x2 w, qSim κV 100 100 m_M_laysAfter 12 [] [some (qR 88), some (qI x1), some (qI x2), none, none, none] w (r12 x1 x2 w)) : ∀ (x1 x2 x5 : Int) (w : qMem), (x5 = 0 ∨ x5 = 1) → qSim κV 100 100 m_M_laysAfter 141 [] [some (qR 88), some (qI x1), some (qI x2), none, none, some (qI x5)] w (f_M_laysAfter_141 r12 x1 x2 x5 w) := by
  intro x1 x2 x5 w hx5
  unfold f_M_laysAfter_141
  refine z_iload d_M_laysAfter_141 rfl ?_
  refine z_if_eq (tgt := 151) d_M_laysAfter_143 rfl (fun c5 => ?_) (fun c5 => ?_)
  · refine z_mask [true, true, true, false, false, false] ?_
    exact s_M_laysAfter_151 hr12 _ _ _
  · refine z_aload_n d_M_laysAfter_146 rfl ?_
    refine z_iload_n d_M_laysAfter_147 rfl ?_
    refine z_pi (ci := 10) (j := 16) (ji := 16) d_M_laysAfter_148 rfl fl_M_314 rfl rfl rfl rfl rfl (fun w6 => ?_)
    refine z_mask [true, true, true, false, false, false] ?_
    exact s_M_laysAfter_151 hr12 _ _ _
def f_M_laysAfter_98 (r12 : Int → Int → qMem → Option (qMem)) (s0 x1 x2 x3 x4 : Int) (w : qMem) : Option (qMem) :=
  qld w 95 4 x2 fun v7 =>
  (f_M_without v7 w).bind fun q8 =>
  qst q8.2 95 4 x2 q8.1 fun w9 =>
  if x3 ≤ 0 then
  f_M_laysAfter_141 r12 x1 x2 s0 w9
  else
  qld w9 95 4 x4 fun v11 =>
  (f_M_withOne v11 (w32 (x3 - 1)) w9).bind fun q12 =>
  qst q12.2 95 4 x4 q12.1 fun w13 =>
  f_M_laysAfter_141 r12 x1 x2 s0 w13
set_option maxRecDepth 4000 in
theorem s_M_laysAfter_98  {r12 : Int → Int → qMem → Option (qMem)} (hr12 : ∀ x1 x2 w, qSim κV 100 100 m_M_laysAfter 12 [] [some (qR 88), some (qI x1), some (qI x2), none, none, none] w (r12 x1 x2 w)) : ∀ (s0 x1 x2 x3 x4 : Int) (w : qMem), (s0 = 0 ∨ s0 = 1) → qSim κV 100 100 m_M_laysAfter 98 [qI s0] [some (qR 88), some (qI x1), some (qI x2), some (qI x3), some (qI x4), none] w (f_M_laysAfter_98 r12 s0 x1 x2 x3 x4 w) := by
  intro s0 x1 x2 x3 x4 w hs0
  unfold f_M_laysAfter_98
  refine z_istore (pls' := [some (qR 88), some (qI x1), some (qI x2), some (qI x3), some (qI x4), some (qI s0)]) d_M_laysAfter_98 (by decide) rfl rfl ?_
  refine z_aload_n d_M_laysAfter_100 rfl ?_
  refine z_gr (ci := 10) (j := 15) (d := 7) (o2 := 95) d_M_laysAfter_101 rfl fl_M_29 rfl (Nat.le_of_ble_eq_true rfl) rfl rfl ?_
  refine z_iload_n d_M_laysAfter_104 rfl ?_
  refine z_aload_n d_M_laysAfter_105 rfl ?_
  refine z_aload_n d_M_laysAfter_106 rfl ?_
  refine z_gr (ci := 10) (j := 15) (d := 7) (o2 := 95) d_M_laysAfter_107 rfl fl_M_29 rfl (Nat.le_of_ble_eq_true rfl) rfl rfl ?_
  refine z_iload_n d_M_laysAfter_110 rfl ?_
  refine z_il d_M_laysAfter_111 rfl rfl (fun v7 => ?_)
  refine z_cVI (as := [qI v7]) (st := [qI x2, qR 95]) (nl := 1) (ci := 10) d_M_laysAfter_112 lk_M_341 mk_M_without rfl rfl rfl rfl rfl rfl (s_M_without _ _) (fun q8 _ hq8 => ?_)
  refine z_is d_M_laysAfter_115 rfl rfl (fun w9 => ?_)
  refine z_iload_n d_M_laysAfter_116 rfl ?_
  refine z_if_le (tgt := 141) d_M_laysAfter_117 rfl (fun c10 => ?_) (fun c10 => ?_)
  · refine z_mask [true, true, true, false, false, true] ?_
    exact s_M_laysAfter_141 hr12 _ _ _ _ hs0
  · refine z_aload_n d_M_laysAfter_120 rfl ?_
    refine z_gr (ci := 10) (j := 15) (d := 7) (o2 := 95) d_M_laysAfter_121 rfl fl_M_29 rfl (Nat.le_of_ble_eq_true rfl) rfl rfl ?_
    refine z_iload d_M_laysAfter_124 rfl ?_
    refine z_aload_n d_M_laysAfter_126 rfl ?_
    refine z_aload_n d_M_laysAfter_127 rfl ?_
    refine z_gr (ci := 10) (j := 15) (d := 7) (o2 := 95) d_M_laysAfter_128 rfl fl_M_29 rfl (Nat.le_of_ble_eq_true rfl) rfl rfl ?_
    refine z_iload d_M_laysAfter_131 rfl ?_
    refine z_il d_M_laysAfter_133 rfl rfl (fun v11 => ?_)
    refine z_iload_n d_M_laysAfter_134 rfl ?_
    refine z_ic1 d_M_laysAfter_135 ?_
    refine z_isub d_M_laysAfter_136 ?_
    refine z_cVI (as := [qI v11, qI (w32 (x3 - 1))]) (st := [qI x4, qR 95]) (nl := 1) (ci := 10) d_M_laysAfter_137 lk_M_344 mk_M_withOne rfl rfl rfl rfl rfl rfl (s_M_withOne _ _ _) (fun q12 _ hq12 => ?_)
    refine z_is d_M_laysAfter_140 rfl rfl (fun w13 => ?_)
    refine z_mask [true, true, true, false, false, true] ?_
    exact s_M_laysAfter_141 hr12 _ _ _ _ hs0
def f_M_laysAfter_62 (r12 : Int → Int → qMem → Option (qMem)) (x1 x2 x3 x4 : Int) (w : qMem) : Option (qMem) :=
  if x3 ≤ 0 then
  f_M_laysAfter_98 r12 0 x1 x2 x3 x4 w
  else
  if (w 88 12) = 2 then
  if (w 88 16) = x4 then
  (f_M_freeAt x4 w).bind fun q17 =>
  if q17.1 = 1 then
  f_M_laysAfter_98 r12 1 x1 x2 x3 x4 q17.2
  else
  f_M_laysAfter_98 r12 0 x1 x2 x3 x4 q17.2
  else
  f_M_laysAfter_98 r12 0 x1 x2 x3 x4 w
  else
  f_M_laysAfter_98 r12 0 x1 x2 x3 x4 w
set_option maxRecDepth 4000 in
theorem s_M_laysAfter_62  {r12 : Int → Int → qMem → Option (qMem)} (hr12 : ∀ x1 x2 w, qSim κV 100 100 m_M_laysAfter 12 [] [some (qR 88), some (qI x1), some (qI x2), none, none, none] w (r12 x1 x2 w)) : ∀ (x1 x2 x3 x4 : Int) (w : qMem), qSim κV 100 100 m_M_laysAfter 62 [] [some (qR 88), some (qI x1), some (qI x2), some (qI x3), some (qI x4), none] w (f_M_laysAfter_62 r12 x1 x2 x3 x4 w) := by
  intro x1 x2 x3 x4 w
  unfold f_M_laysAfter_62
  refine z_iload_n d_M_laysAfter_62 rfl ?_
  refine z_if_le (tgt := 97) d_M_laysAfter_63 rfl (fun c14 => ?_) (fun c14 => ?_)
  · refine z_ic0 d_M_laysAfter_97 ?_
    refine z_mask [true, true, true, true, true, false] ?_
    exact s_M_laysAfter_98 hr12 _ _ _ _ _ _ (Or.inl rfl)
  · refine z_aload_n d_M_laysAfter_66 rfl ?_
    refine z_gi (ci := 10) (j := 12) (ji := 12) d_M_laysAfter_67 rfl fl_M_326 rfl rfl rfl ?_
    refine z_ic2 d_M_laysAfter_70 ?_
    refine z_icmp_ne (tgt := 97) d_M_laysAfter_71 rfl (fun c15 => ?_) (fun c15 => ?_)
    · refine z_aload_n d_M_laysAfter_74 rfl ?_
      refine z_gi (ci := 10) (j := 16) (ji := 16) d_M_laysAfter_75 rfl fl_M_314 rfl rfl rfl ?_
      refine z_iload d_M_laysAfter_78 rfl ?_
      refine z_icmp_ne (tgt := 97) d_M_laysAfter_80 rfl (fun c16 => ?_) (fun c16 => ?_)
      · refine z_aload_n d_M_laysAfter_83 rfl ?_
        refine z_iload d_M_laysAfter_84 rfl ?_
        refine z_cVI (as := [qI x4]) (st := []) (nl := 0) (ci := 10) d_M_laysAfter_86 lk_M_329 mk_M_freeAt rfl rfl rfl rfl rfl rfl (s_M_freeAt _ _) (fun q17 _ hq17 => ?_)
        refine z_ic1 d_M_laysAfter_89 ?_
        refine z_icmp_ne (tgt := 97) d_M_laysAfter_90 rfl (fun c18 => ?_) (fun c18 => ?_)
        · refine z_ic1 d_M_laysAfter_93 ?_
          refine z_goto (tgt := 98) d_M_laysAfter_94 rfl ?_
          refine z_mask [true, true, true, true, true, false] ?_
          exact s_M_laysAfter_98 hr12 _ _ _ _ _ _ (Or.inr rfl)
        · refine z_ic0 d_M_laysAfter_97 ?_
          refine z_mask [true, true, true, true, true, false] ?_
          exact s_M_laysAfter_98 hr12 _ _ _ _ _ _ (Or.inl rfl)
      · refine z_ic0 d_M_laysAfter_97 ?_
        refine z_mask [true, true, true, true, true, false] ?_
        exact s_M_laysAfter_98 hr12 _ _ _ _ _ _ (Or.inl rfl)
    · refine z_ic0 d_M_laysAfter_97 ?_
      refine z_mask [true, true, true, true, true, false] ?_
      exact s_M_laysAfter_98 hr12 _ _ _ _ _ _ (Or.inl rfl)
def f_M_laysAfter_205 (r195 : Int → Int → qMem → Option (qMem)) : Nat → Int → Int → Int → qMem → Option (qMem)
  | 0, _, _, _, _ => none
  | n + 1, x1, x2, x3, w =>
    if x3 < (w 88 13) then
    (f_M_mayEnter x2 w).bind fun q20 =>
    if q20.1 = 0 then
    r195 x1 (w32 (x2 + 1)) q20.2
    else
    qld q20.2 95 4 x2 fun v22 =>
    (f_M_withOne v22 x3 q20.2).bind fun q23 =>
    qst q23.2 95 4 x2 q23.1 fun w24 =>
    (f_M_number w24).bind fun q25 =>
    qst q25.2 101 24 (w24 88 24) q25.1 fun w26 =>
    qlt (qud w26 88 24 (w32 ((w26 88 24) + 1))) fun w27 =>
    (f_M_opens x1 w27).bind fun q28 =>
    (f_M_laysAfter_205 r195 n) x1 x2 (w32 (x3 + 1)) q28
    else
    r195 x1 (w32 (x2 + 1)) w
set_option maxRecDepth 4000 in
theorem s_M_laysAfter_205  {r195 : Int → Int → qMem → Option (qMem)} (hr195 : ∀ x1 x2 w, qSim κV 100 100 m_M_laysAfter 195 [] [some (qR 88), some (qI x1), some (qI x2), none, none, none] w (r195 x1 x2 w)) : ∀ (n : Nat), ∀ (x1 x2 x3 : Int) (w : qMem), qSim κV 100 100 m_M_laysAfter 205 [] [some (qR 88), some (qI x1), some (qI x2), some (qI x3), none, none] w (f_M_laysAfter_205 r195 n x1 x2 x3 w) := by
  intro n
  induction n with
  | zero => intro x1 x2 x3 w; exact z_none
  | succ n ih =>
    intro x1 x2 x3 w
    rw [f_M_laysAfter_205]
    refine z_iload_n d_M_laysAfter_205 rfl ?_
    refine z_aload_n d_M_laysAfter_206 rfl ?_
    refine z_gi (ci := 10) (j := 13) (ji := 13) d_M_laysAfter_207 rfl fl_M_302 rfl rfl rfl ?_
    refine z_icmp_ge (tgt := 272) d_M_laysAfter_210 rfl (fun c19 => ?_) (fun c19 => ?_)
    · refine z_aload_n d_M_laysAfter_213 rfl ?_
      refine z_iload_n d_M_laysAfter_214 rfl ?_
      refine z_cVI (as := [qI x2]) (st := []) (nl := 1) (ci := 10) d_M_laysAfter_215 lk_M_353 mk_M_mayEnter rfl rfl rfl rfl rfl rfl (s_M_mayEnter _ _) (fun q20 _ hq20 => ?_)
      refine z_if_eq (tgt := 272) d_M_laysAfter_218 rfl (fun c21 => ?_) (fun c21 => ?_)
      · refine z_iinc (pls' := [some (qR 88), some (qI x1), some (qI (w32 (x2 + 1))), some (qI x3), none, none]) d_M_laysAfter_272 (by decide) rfl rfl rfl ?_
        refine z_goto (tgt := 195) d_M_laysAfter_275 rfl ?_
        refine z_mask [true, true, true, false, false, false] ?_
        exact hr195 _ _ _
      · refine z_aload_n d_M_laysAfter_221 rfl ?_
        refine z_gr (ci := 10) (j := 15) (d := 7) (o2 := 95) d_M_laysAfter_222 rfl fl_M_29 rfl (Nat.le_of_ble_eq_true rfl) rfl rfl ?_
        refine z_iload_n d_M_laysAfter_225 rfl ?_
        refine z_aload_n d_M_laysAfter_226 rfl ?_
        refine z_aload_n d_M_laysAfter_227 rfl ?_
        refine z_gr (ci := 10) (j := 15) (d := 7) (o2 := 95) d_M_laysAfter_228 rfl fl_M_29 rfl (Nat.le_of_ble_eq_true rfl) rfl rfl ?_
        refine z_iload_n d_M_laysAfter_231 rfl ?_
        refine z_il d_M_laysAfter_232 rfl rfl (fun v22 => ?_)
        refine z_iload_n d_M_laysAfter_233 rfl ?_
        refine z_cVI (as := [qI v22, qI x3]) (st := [qI x2, qR 95]) (nl := 1) (ci := 10) d_M_laysAfter_234 lk_M_344 mk_M_withOne rfl rfl rfl rfl rfl rfl (s_M_withOne _ _ _) (fun q23 _ hq23 => ?_)
        refine z_is d_M_laysAfter_237 rfl rfl (fun w24 => ?_)
        refine z_aload_n d_M_laysAfter_238 rfl ?_
        refine z_gr (ci := 10) (j := 23) (d := 13) (o2 := 101) d_M_laysAfter_239 rfl fl_M_47 rfl (Nat.le_of_ble_eq_true rfl) rfl rfl ?_
        refine z_aload_n d_M_laysAfter_242 rfl ?_
        refine z_gi (ci := 10) (j := 24) (ji := 24) d_M_laysAfter_243 rfl fl_M_335 rfl rfl rfl ?_
        refine z_aload_n d_M_laysAfter_246 rfl ?_
        refine z_cVI (as := []) (st := [qI (w24 88 24), qR 101]) (nl := 2) (ci := 10) d_M_laysAfter_247 lk_M_347 mk_M_number rfl rfl rfl rfl rfl rfl (s_M_number _) (fun q25 _ hq25 => ?_)
        refine z_is d_M_laysAfter_250 rfl rfl (fun w26 => ?_)
        refine z_aload_n d_M_laysAfter_251 rfl ?_
        refine z_dup d_M_laysAfter_252 rfl ?_
        refine z_gi (ci := 10) (j := 24) (ji := 24) d_M_laysAfter_253 rfl fl_M_335 rfl rfl rfl ?_
        refine z_ic1 d_M_laysAfter_256 ?_
        refine z_iadd d_M_laysAfter_257 ?_
        refine z_pi (ci := 10) (j := 24) (ji := 24) d_M_laysAfter_258 rfl fl_M_335 rfl rfl rfl rfl rfl (fun w27 => ?_)
        refine z_aload_n d_M_laysAfter_261 rfl ?_
        refine z_iload_n d_M_laysAfter_262 rfl ?_
        refine z_cVV (as := [qI x1]) (st := []) (nl := 2) (ci := 10) d_M_laysAfter_263 lk_M_332 mk_M_opens rfl rfl rfl rfl rfl rfl (s_M_opens _ _) (fun q28 _ => ?_)
        refine z_iinc (pls' := [some (qR 88), some (qI x1), some (qI x2), some (qI (w32 (x3 + 1))), none, none]) d_M_laysAfter_266 (by decide) rfl rfl rfl ?_
        refine z_goto (tgt := 205) d_M_laysAfter_269 rfl ?_
        refine z_mask [true, true, true, true, false, false] ?_
        exact ih _ _ _ _
    · refine z_iinc (pls' := [some (qR 88), some (qI x1), some (qI (w32 (x2 + 1))), some (qI x3), none, none]) d_M_laysAfter_272 (by decide) rfl rfl rfl ?_
      refine z_goto (tgt := 195) d_M_laysAfter_275 rfl ?_
      refine z_mask [true, true, true, false, false, false] ?_
      exact hr195 _ _ _
def f_M_laysAfter_195 : Nat → Int → Int → qMem → Option (qMem)
  | 0, _, _, _ => none
  | n + 1, x1, x2, w =>
    if x2 < (w 88 10) then
    f_M_laysAfter_205 (f_M_laysAfter_195 n) qFU x1 x2 0 w
    else
    some w
set_option maxRecDepth 4000 in
theorem s_M_laysAfter_195  : ∀ (n : Nat), ∀ (x1 x2 : Int) (w : qMem), qSim κV 100 100 m_M_laysAfter 195 [] [some (qR 88), some (qI x1), some (qI x2), none, none, none] w (f_M_laysAfter_195 n x1 x2 w) := by
  intro n
  induction n with
  | zero => intro x1 x2 w; exact z_none
  | succ n ih =>
    intro x1 x2 w
    rw [f_M_laysAfter_195]
    refine z_iload_n d_M_laysAfter_195 rfl ?_
    refine z_aload_n d_M_laysAfter_196 rfl ?_
    refine z_gi (ci := 10) (j := 10) (ji := 10) d_M_laysAfter_197 rfl fl_M_317 rfl rfl rfl ?_
    refine z_icmp_ge (tgt := 278) d_M_laysAfter_200 rfl (fun c29 => ?_) (fun c29 => ?_)
    · refine z_ic0 d_M_laysAfter_203 ?_
      refine z_istore_n (pls' := [some (qR 88), some (qI x1), some (qI x2), some (qI 0), none, none]) d_M_laysAfter_204 (by decide) rfl rfl ?_
      refine z_mask [true, true, true, true, false, false] ?_
      exact s_M_laysAfter_205 ih _ _ _ _ _
    · exact z_vret d_M_laysAfter_278 rfl rfl
def f_M_laysAfter_185 (x1 : Int) (w : qMem) : Option (qMem) :=
  qlt (qud w 88 25 (w 88 24)) fun w30 =>
  f_M_laysAfter_195 qFU x1 0 w30
set_option maxRecDepth 4000 in
theorem s_M_laysAfter_185  : ∀ (x1 : Int) (w : qMem), qSim κV 100 100 m_M_laysAfter 185 [] [some (qR 88), some (qI x1), none, none, none, none] w (f_M_laysAfter_185 x1 w) := by
  intro x1 w
  unfold f_M_laysAfter_185
  refine z_aload_n d_M_laysAfter_185 rfl ?_
  refine z_aload_n d_M_laysAfter_186 rfl ?_
  refine z_gi (ci := 10) (j := 24) (ji := 24) d_M_laysAfter_187 rfl fl_M_335 rfl rfl rfl ?_
  refine z_pi (ci := 10) (j := 25) (ji := 25) d_M_laysAfter_190 rfl fl_M_350 rfl rfl rfl rfl rfl (fun w30 => ?_)
  refine z_ic0 d_M_laysAfter_193 ?_
  refine z_istore_n (pls' := [some (qR 88), some (qI x1), some (qI 0), none, none, none]) d_M_laysAfter_194 (by decide) rfl rfl ?_
  refine z_mask [true, true, true, false, false, false] ?_
  exact s_M_laysAfter_195 _ _ _ _
def f_M_laysAfter_12 : Nat → Int → Int → qMem → Option (qMem)
  | 0, _, _, _ => none
  | n + 1, x1, x2, w =>
    if x2 < (w 88 10) then
    qld w 95 4 x2 fun v32 =>
    (f_M_goalOf v32 w).bind fun q33 =>
    qdv (q33.2 88 10) <|
    if q33.1 = (-1) then
    (f_M_laysAfter_12 n) x1 (w32 (x2 + 1)) q33.2
    else
    if q33.1 ≤ 0 then
    f_M_laysAfter_62 (f_M_laysAfter_12 n) x1 x2 q33.1 (jrem (w32 (x2 + 1)) (q33.2 88 10)) q33.2
    else
    (f_M_freeAt (jrem (w32 (x2 + 1)) (q33.2 88 10)) q33.2).bind fun q36 =>
    if q36.1 = 0 then
    (f_M_laysAfter_12 n) x1 (w32 (x2 + 1)) q36.2
    else
    f_M_laysAfter_62 (f_M_laysAfter_12 n) x1 x2 q33.1 (jrem (w32 (x2 + 1)) (q33.2 88 10)) q36.2
    else
    f_M_laysAfter_185 x1 w
set_option maxRecDepth 4000 in
theorem s_M_laysAfter_12  : ∀ (n : Nat), ∀ (x1 x2 : Int) (w : qMem), qSim κV 100 100 m_M_laysAfter 12 [] [some (qR 88), some (qI x1), some (qI x2), none, none, none] w (f_M_laysAfter_12 n x1 x2 w) := by
  intro n
  induction n with
  | zero => intro x1 x2 w; exact z_none
  | succ n ih =>
    intro x1 x2 w
    rw [f_M_laysAfter_12]
    refine z_iload_n d_M_laysAfter_12 rfl ?_
    refine z_aload_n d_M_laysAfter_13 rfl ?_
    refine z_gi (ci := 10) (j := 10) (ji := 10) d_M_laysAfter_14 rfl fl_M_317 rfl rfl rfl ?_
    refine z_icmp_ge (tgt := 185) d_M_laysAfter_17 rfl (fun c31 => ?_) (fun c31 => ?_)
    · refine z_aload_n d_M_laysAfter_20 rfl ?_
      refine z_aload_n d_M_laysAfter_21 rfl ?_
      refine z_gr (ci := 10) (j := 15) (d := 7) (o2 := 95) d_M_laysAfter_22 rfl fl_M_29 rfl (Nat.le_of_ble_eq_true rfl) rfl rfl ?_
      refine z_iload_n d_M_laysAfter_25 rfl ?_
      refine z_il d_M_laysAfter_26 rfl rfl (fun v32 => ?_)
      refine z_cVI (as := [qI v32]) (st := []) (nl := 1) (ci := 10) d_M_laysAfter_27 lk_M_338 mk_M_goalOf rfl rfl rfl rfl rfl rfl (s_M_goalOf _ _) (fun q33 _ hq33 => ?_)
      refine z_istore_n (pls' := [some (qR 88), some (qI x1), some (qI x2), some (qI q33.1), none, none]) d_M_laysAfter_30 (by decide) rfl rfl ?_
      refine z_iload_n d_M_laysAfter_31 rfl ?_
      refine z_ic1 d_M_laysAfter_32 ?_
      refine z_iadd d_M_laysAfter_33 ?_
      refine z_aload_n d_M_laysAfter_34 rfl ?_
      refine z_gi (ci := 10) (j := 10) (ji := 10) d_M_laysAfter_35 rfl fl_M_317 rfl rfl rfl ?_
      refine z_irem d_M_laysAfter_38 (fun _ => ?_)
      refine z_istore (pls' := [some (qR 88), some (qI x1), some (qI x2), some (qI q33.1), some (qI (jrem (w32 (x2 + 1)) (q33.2 88 10))), none]) d_M_laysAfter_39 (by decide) rfl rfl ?_
      refine z_iload_n d_M_laysAfter_41 rfl ?_
      refine z_icm1 d_M_laysAfter_42 ?_
      refine z_icmp_eq (tgt := 179) d_M_laysAfter_43 rfl (fun c34 => ?_) (fun c34 => ?_)
      · refine z_iinc (pls' := [some (qR 88), some (qI x1), some (qI (w32 (x2 + 1))), some (qI q33.1), some (qI (jrem (w32 (x2 + 1)) (q33.2 88 10))), none]) d_M_laysAfter_179 (by decide) rfl rfl rfl ?_
        refine z_goto (tgt := 12) d_M_laysAfter_182 rfl ?_
        refine z_mask [true, true, true, false, false, false] ?_
        exact ih _ _ _
      · refine z_iload_n d_M_laysAfter_46 rfl ?_
        refine z_if_le (tgt := 62) d_M_laysAfter_47 rfl (fun c35 => ?_) (fun c35 => ?_)
        · refine z_mask [true, true, true, true, true, false] ?_
          exact s_M_laysAfter_62 ih _ _ _ _ _
        · refine z_aload_n d_M_laysAfter_50 rfl ?_
          refine z_iload d_M_laysAfter_51 rfl ?_
          refine z_cVI (as := [qI (jrem (w32 (x2 + 1)) (q33.2 88 10))]) (st := []) (nl := 0) (ci := 10) d_M_laysAfter_53 lk_M_329 mk_M_freeAt rfl rfl rfl rfl rfl rfl (s_M_freeAt _ _) (fun q36 _ hq36 => ?_)
          refine z_if_ne (tgt := 62) d_M_laysAfter_56 rfl (fun c37 => ?_) (fun c37 => ?_)
          · refine z_goto (tgt := 179) d_M_laysAfter_59 rfl ?_
            refine z_iinc (pls' := [some (qR 88), some (qI x1), some (qI (w32 (x2 + 1))), some (qI q33.1), some (qI (jrem (w32 (x2 + 1)) (q33.2 88 10))), none]) d_M_laysAfter_179 (by decide) rfl rfl rfl ?_
            refine z_goto (tgt := 12) d_M_laysAfter_182 rfl ?_
            refine z_mask [true, true, true, false, false, false] ?_
            exact ih _ _ _
          · refine z_mask [true, true, true, true, true, false] ?_
            exact s_M_laysAfter_62 ih _ _ _ _ _
    · refine z_mask [true, true, false, false, false, false] ?_
      exact s_M_laysAfter_185 _ _
def f_M_laysAfter (x1 : Int) (w : qMem) : Option (qMem) :=
  (f_M_opens x1 w).bind fun q38 =>
  qlt (qud q38 88 24 0) fun w39 =>
  f_M_laysAfter_12 qFU x1 0 w39
set_option maxRecDepth 4000 in
theorem s_M_laysAfter (x1 : Int) (w : qMem) : qSim κV 100 100 m_M_laysAfter 0 [] [some (qR 88), some (qI x1), none, none, none, none] w (f_M_laysAfter x1 w) := by
  unfold f_M_laysAfter
  refine z_aload_n d_M_laysAfter_0 rfl ?_
  refine z_iload_n d_M_laysAfter_1 rfl ?_
  refine z_cVV (as := [qI x1]) (st := []) (nl := 2) (ci := 10) d_M_laysAfter_2 lk_M_332 mk_M_opens rfl rfl rfl rfl rfl rfl (s_M_opens _ _) (fun q38 _ => ?_)
  refine z_aload_n d_M_laysAfter_5 rfl ?_
  refine z_ic0 d_M_laysAfter_6 ?_
  refine z_pi (ci := 10) (j := 24) (ji := 24) d_M_laysAfter_7 rfl fl_M_335 rfl rfl rfl rfl rfl (fun w39 => ?_)
  refine z_ic0 d_M_laysAfter_10 ?_
  refine z_istore_n (pls' := [some (qR 88), some (qI x1), some (qI 0), none, none, none]) d_M_laysAfter_11 (by decide) rfl rfl ?_
  refine z_mask [true, true, true, false, false, false] ?_
  exact s_M_laysAfter_12 _ _ _ _
