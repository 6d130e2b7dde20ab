/-! BubbleTorus$Search.reach -/
theorem d_S_reach_0 : decode m_S_reach.2.1 0 = .ok (.aload_n 0, 1) := by decide +kernel
theorem d_S_reach_1 : decode m_S_reach.2.1 1 = .ok (.aload_n 1, 1) := by decide +kernel
theorem d_S_reach_2 : decode m_S_reach.2.1 2 = .ok (.invokevirtual 134, 3) := by decide +kernel
theorem d_S_reach_5 : decode m_S_reach.2.1 5 = .ok (.lstore_n 3, 1) := by decide +kernel
theorem d_S_reach_6 : decode m_S_reach.2.1 6 = .ok (.iconst 0, 1) := by decide +kernel
theorem d_S_reach_7 : decode m_S_reach.2.1 7 = .ok (.istore 5, 2) := by decide +kernel
theorem d_S_reach_9 : decode m_S_reach.2.1 9 = .ok (.iload 5, 2) := by decide +kernel
theorem d_S_reach_11 : decode m_S_reach.2.1 11 = .ok (.aload_n 0, 1) := by decide +kernel
theorem d_S_reach_12 : decode m_S_reach.2.1 12 = .ok (.getfield 35, 3) := by decide +kernel
theorem d_S_reach_15 : decode m_S_reach.2.1 15 = .ok (.if_icmp .ge 41, 3) := by decide +kernel
theorem d_S_reach_18 : decode m_S_reach.2.1 18 = .ok (.aload_n 0, 1) := by decide +kernel
theorem d_S_reach_19 : decode m_S_reach.2.1 19 = .ok (.getfield 11, 3) := by decide +kernel
theorem d_S_reach_22 : decode m_S_reach.2.1 22 = .ok (.iload 5, 2) := by decide +kernel
theorem d_S_reach_24 : decode m_S_reach.2.1 24 = .ok (.laload, 1) := by decide +kernel
theorem d_S_reach_25 : decode m_S_reach.2.1 25 = .ok (.lload_n 3, 1) := by decide +kernel
theorem d_S_reach_26 : decode m_S_reach.2.1 26 = .ok (.lcmp, 1) := by decide +kernel
theorem d_S_reach_27 : decode m_S_reach.2.1 27 = .ok (.ifCond .ne 23, 3) := by decide +kernel
theorem d_S_reach_30 : decode m_S_reach.2.1 30 = .ok (.aload_n 0, 1) := by decide +kernel
theorem d_S_reach_31 : decode m_S_reach.2.1 31 = .ok (.getfield 15, 3) := by decide +kernel
theorem d_S_reach_34 : decode m_S_reach.2.1 34 = .ok (.iload 5, 2) := by decide +kernel
theorem d_S_reach_36 : decode m_S_reach.2.1 36 = .ok (.aload_n 0, 1) := by decide +kernel
theorem d_S_reach_37 : decode m_S_reach.2.1 37 = .ok (.getfield 15, 3) := by decide +kernel
theorem d_S_reach_40 : decode m_S_reach.2.1 40 = .ok (.iload 5, 2) := by decide +kernel
theorem d_S_reach_42 : decode m_S_reach.2.1 42 = .ok (.iaload, 1) := by decide +kernel
theorem d_S_reach_43 : decode m_S_reach.2.1 43 = .ok (.iload_n 2, 1) := by decide +kernel
theorem d_S_reach_44 : decode m_S_reach.2.1 44 = .ok (.iadd, 1) := by decide +kernel
theorem d_S_reach_45 : decode m_S_reach.2.1 45 = .ok (.ldc 138, 2) := by decide +kernel
theorem d_S_reach_47 : decode m_S_reach.2.1 47 = .ok (.irem, 1) := by decide +kernel
theorem d_S_reach_48 : decode m_S_reach.2.1 48 = .ok (.iastore, 1) := by decide +kernel
theorem d_S_reach_49 : decode m_S_reach.2.1 49 = .ok (.return_, 1) := by decide +kernel
theorem d_S_reach_50 : decode m_S_reach.2.1 50 = .ok (.iinc 5 1, 3) := by decide +kernel
theorem d_S_reach_53 : decode m_S_reach.2.1 53 = .ok (.goto (-44), 3) := by decide +kernel
theorem d_S_reach_56 : decode m_S_reach.2.1 56 = .ok (.aload_n 0, 1) := by decide +kernel
theorem d_S_reach_57 : decode m_S_reach.2.1 57 = .ok (.getfield 35, 3) := by decide +kernel
theorem d_S_reach_60 : decode m_S_reach.2.1 60 = .ok (.sipush 400, 3) := by decide +kernel
theorem d_S_reach_63 : decode m_S_reach.2.1 63 = .ok (.if_icmp .lt 9, 3) := by decide +kernel
theorem d_S_reach_66 : decode m_S_reach.2.1 66 = .ok (.aload_n 0, 1) := by decide +kernel
theorem d_S_reach_67 : decode m_S_reach.2.1 67 = .ok (.iconst 1, 1) := by decide +kernel
theorem d_S_reach_68 : decode m_S_reach.2.1 68 = .ok (.putfield 41, 3) := by decide +kernel
theorem d_S_reach_71 : decode m_S_reach.2.1 71 = .ok (.return_, 1) := by decide +kernel
theorem d_S_reach_72 : decode m_S_reach.2.1 72 = .ok (.aload_n 0, 1) := by decide +kernel
theorem d_S_reach_73 : decode m_S_reach.2.1 73 = .ok (.getfield 11, 3) := by decide +kernel
theorem d_S_reach_76 : decode m_S_reach.2.1 76 = .ok (.aload_n 0, 1) := by decide +kernel
theorem d_S_reach_77 : decode m_S_reach.2.1 77 = .ok (.getfield 35, 3) := by decide +kernel
theorem d_S_reach_80 : decode m_S_reach.2.1 80 = .ok (.lload_n 3, 1) := by decide +kernel
theorem d_S_reach_81 : decode m_S_reach.2.1 81 = .ok (.lastore, 1) := by decide +kernel
theorem d_S_reach_82 : decode m_S_reach.2.1 82 = .ok (.aload_n 0, 1) := by decide +kernel
theorem d_S_reach_83 : decode m_S_reach.2.1 83 = .ok (.getfield 15, 3) := by decide +kernel
theorem d_S_reach_86 : decode m_S_reach.2.1 86 = .ok (.aload_n 0, 1) := by decide +kernel
theorem d_S_reach_87 : decode m_S_reach.2.1 87 = .ok (.getfield 35, 3) := by decide +kernel
theorem d_S_reach_90 : decode m_S_reach.2.1 90 = .ok (.iload_n 2, 1) := by decide +kernel
theorem d_S_reach_91 : decode m_S_reach.2.1 91 = .ok (.iastore, 1) := by decide +kernel
theorem d_S_reach_92 : decode m_S_reach.2.1 92 = .ok (.aload_n 0, 1) := by decide +kernel
theorem d_S_reach_93 : decode m_S_reach.2.1 93 = .ok (.dup, 1) := by decide +kernel
theorem d_S_reach_94 : decode m_S_reach.2.1 94 = .ok (.getfield 35, 3) := by decide +kernel
theorem d_S_reach_97 : decode m_S_reach.2.1 97 = .ok (.iconst 1, 1) := by decide +kernel
theorem d_S_reach_98 : decode m_S_reach.2.1 98 = .ok (.iadd, 1) := by decide +kernel
theorem d_S_reach_99 : decode m_S_reach.2.1 99 = .ok (.putfield 35, 3) := by decide +kernel
theorem d_S_reach_102 : decode m_S_reach.2.1 102 = .ok (.return_, 1) := by decide +kernel
def f_S_reach_30 (p1 : Nat) (x2 x5 : Int) (w : qMem) : Option (qMem) :=
  qld w 76 400 x5 fun v1 =>
  qdv 1000003 <|
  qst w 76 400 x5 (jrem (w32 (v1 + x2)) 1000003) fun w2 =>
  some w2
set_option maxRecDepth 4000 in
theorem s_S_reach_30 {p1 : Nat} (hp1 : qIs kLN 100 p1) : ∀ (x2 x5 : Int) (w : qMem), qSim κV 100 100 m_S_reach 30 [] [some (qR 74), none, some (qI x2), none, none, some (qI x5)] w (f_S_reach_30 p1 x2 x5 w) := by
  intro x2 x5 w
  unfold f_S_reach_30
  refine z_aload_n d_S_reach_30 rfl ?_
  refine z_gr (ci := 8) (j := 1) (d := 2) (o2 := 76) d_S_reach_31 rfl fl_S_15 rfl (Nat.le_of_ble_eq_true rfl) rfl rfl ?_
  refine z_iload d_S_reach_34 rfl ?_
  refine z_aload_n d_S_reach_36 rfl ?_
  refine z_gr (ci := 8) (j := 1) (d := 2) (o2 := 76) d_S_reach_37 rfl fl_S_15 rfl (Nat.le_of_ble_eq_true rfl) rfl rfl ?_
  refine z_iload d_S_reach_40 rfl ?_
  refine z_il d_S_reach_42 rfl rfl (fun v1 => ?_)
  refine z_iload_n d_S_reach_43 rfl ?_
  refine z_iadd d_S_reach_44 ?_
  refine z_ldc (n := 1000003) d_S_reach_45 ck_S_138 (by decide) ?_
  refine z_irem d_S_reach_47 (fun _ => ?_)
  refine z_is d_S_reach_48 rfl rfl (fun w2 => ?_)
  exact z_vret d_S_reach_49 rfl rfl
def f_S_reach_56 (p1 : Nat) (x2 x3 : Int) (w : qMem) : Option (qMem) :=
  if (w 74 7) < 400 then
  qst w 75 400 (w 74 7) x3 fun w4 =>
  qst w4 76 400 (w4 74 7) x2 fun w5 =>
  qlt (qud w5 74 7 (w32 ((w5 74 7) + 1))) fun w6 =>
  some w6
  else
  qlt (qud w 74 9 1) fun w7 =>
  some w7
set_option maxRecDepth 4000 in
theorem s_S_reach_56 {p1 : Nat} (hp1 : qIs kLN 100 p1) : ∀ (x2 x3 : Int) (w : qMem), qSim κV 100 100 m_S_reach 56 [] [some (qR 74), none, some (qI x2), some (qL x3), none, none] w (f_S_reach_56 p1 x2 x3 w) := by
  intro x2 x3 w
  unfold f_S_reach_56
  refine z_aload_n d_S_reach_56 rfl ?_
  refine z_gi (ci := 8) (j := 7) (ji := 7) d_S_reach_57 rfl fl_S_35 rfl rfl rfl ?_
  refine z_sipush d_S_reach_60 ⟨by decide, by decide⟩ ?_
  refine z_icmp_lt (tgt := 72) d_S_reach_63 rfl (fun c3 => ?_) (fun c3 => ?_)
  · refine z_aload_n d_S_reach_72 rfl ?_
    refine z_gr (ci := 8) (j := 0) (d := 1) (o2 := 75) d_S_reach_73 rfl fl_S_11 rfl (Nat.le_of_ble_eq_true rfl) rfl rfl ?_
    refine z_aload_n d_S_reach_76 rfl ?_
    refine z_gi (ci := 8) (j := 7) (ji := 7) d_S_reach_77 rfl fl_S_35 rfl rfl rfl ?_
    refine z_lload_n d_S_reach_80 rfl ?_
    refine z_ls d_S_reach_81 rfl rfl (fun w4 => ?_)
    refine z_aload_n d_S_reach_82 rfl ?_
    refine z_gr (ci := 8) (j := 1) (d := 2) (o2 := 76) d_S_reach_83 rfl fl_S_15 rfl (Nat.le_of_ble_eq_true rfl) rfl rfl ?_
    refine z_aload_n d_S_reach_86 rfl ?_
    refine z_gi (ci := 8) (j := 7) (ji := 7) d_S_reach_87 rfl fl_S_35 rfl rfl rfl ?_
    refine z_iload_n d_S_reach_90 rfl ?_
    refine z_is d_S_reach_91 rfl rfl (fun w5 => ?_)
    refine z_aload_n d_S_reach_92 rfl ?_
    refine z_dup d_S_reach_93 rfl ?_
    refine z_gi (ci := 8) (j := 7) (ji := 7) d_S_reach_94 rfl fl_S_35 rfl rfl rfl ?_
    refine z_ic1 d_S_reach_97 ?_
    refine z_iadd d_S_reach_98 ?_
    refine z_pi (ci := 8) (j := 7) (ji := 7) d_S_reach_99 rfl fl_S_35 rfl rfl rfl rfl rfl (fun w6 => ?_)
    exact z_vret d_S_reach_102 rfl rfl
  · refine z_aload_n d_S_reach_66 rfl ?_
    refine z_ic1 d_S_reach_67 ?_
    refine z_pz (ci := 8) (j := 9) (ji := 9) d_S_reach_68 rfl fl_S_41 rfl rfl rfl rfl rfl (Or.inr rfl) (fun w7 => ?_)
    exact z_vret d_S_reach_71 rfl rfl
def f_S_reach_9 (p1 : Nat) : Nat → Int → Int → Int → qMem → Option (qMem)
  | 0, _, _, _, _ => none
  | n + 1, x2, x3, x5, w =>
    if x5 < (w 74 7) then
    qld w 75 400 x5 fun v9 =>
    if (klcmp v9 x3) = 0 then
    f_S_reach_30 p1 x2 x5 w
    else
    (f_S_reach_9 p1 n) x2 x3 (w32 (x5 + 1)) w
    else
    f_S_reach_56 p1 x2 x3 w
set_option maxRecDepth 4000 in
theorem s_S_reach_9 {p1 : Nat} (hp1 : qIs kLN 100 p1) : ∀ (n : Nat), ∀ (x2 x3 x5 : Int) (w : qMem), qSim κV 100 100 m_S_reach 9 [] [some (qR 74), none, some (qI x2), some (qL x3), none, some (qI x5)] w (f_S_reach_9 p1 n x2 x3 x5 w) := by
  intro n
  induction n with
  | zero => intro x2 x3 x5 w; exact z_none
  | succ n ih =>
    intro x2 x3 x5 w
    rw [f_S_reach_9]
    refine z_iload d_S_reach_9 rfl ?_
    refine z_aload_n d_S_reach_11 rfl ?_
    refine z_gi (ci := 8) (j := 7) (ji := 7) d_S_reach_12 rfl fl_S_35 rfl rfl rfl ?_
    refine z_icmp_ge (tgt := 56) d_S_reach_15 rfl (fun c8 => ?_) (fun c8 => ?_)
    · refine z_aload_n d_S_reach_18 rfl ?_
      refine z_gr (ci := 8) (j := 0) (d := 1) (o2 := 75) d_S_reach_19 rfl fl_S_11 rfl (Nat.le_of_ble_eq_true rfl) rfl rfl ?_
      refine z_iload d_S_reach_22 rfl ?_
      refine z_ll d_S_reach_24 rfl rfl (fun v9 => ?_)
      refine z_lload_n d_S_reach_25 rfl ?_
      refine z_lcmp d_S_reach_26 ?_
      refine z_if_ne (tgt := 50) d_S_reach_27 rfl (fun c10 => ?_) (fun c10 => ?_)
      · refine z_mask [true, false, true, false, false, true] ?_
        exact s_S_reach_30 hp1 _ _ _
      · refine z_iinc (pls' := [some (qR 74), none, some (qI x2), some (qL x3), none, some (qI (w32 (x5 + 1)))]) d_S_reach_50 (by decide) rfl rfl rfl ?_
        refine z_goto (tgt := 9) d_S_reach_53 rfl ?_
        refine z_mask [true, false, true, true, false, true] ?_
        exact ih _ _ _ _
    · refine z_mask [true, false, true, true, false, false] ?_
      exact s_S_reach_56 hp1 _ _ _
def f_S_reach (p1 : Nat) (x2 : Int) (w : qMem) : Option (qMem) :=
  (f_S_keyOf p1 w).bind fun q11 =>
  f_S_reach_9 p1 qFU x2 q11.1 0 q11.2
set_option maxRecDepth 4000 in
theorem s_S_reach {p1 : Nat} (x2 : Int) (hp1 : qIs kLN 100 p1) (w : qMem) : qSim κV 100 100 m_S_reach 0 [] [some (qR 74), some (qR p1), some (qI x2), none, none, none] w (f_S_reach p1 x2 w) := by
  unfold f_S_reach
  refine z_aload_n d_S_reach_0 rfl ?_
  refine z_aload_n d_S_reach_1 rfl ?_
  refine z_cVL (as := [qR p1]) (st := []) (nl := 4) (ci := 8) d_S_reach_2 lk_S_134 mk_S_keyOf rfl rfl rfl rfl rfl rfl (s_S_keyOf hp1 _) (fun q11 _ hq11 => ?_)
  refine z_lstore_n (pls' := [some (qR 74), some (qR p1), some (qI x2), some (qL q11.1), none, none]) d_S_reach_5 (by decide) rfl rfl ?_
  refine z_ic0 d_S_reach_6 ?_
  refine z_istore (pls' := [some (qR 74), some (qR p1), some (qI x2), some (qL q11.1), none, some (qI 0)]) d_S_reach_7 (by decide) rfl rfl ?_
  refine z_mask [true, false, true, true, false, true] ?_
  exact s_S_reach_9 hp1 _ _ _ _ _
/-! BubbleTorus$Search.open -/
theorem d_S_open_0 : decode m_S_open.2.1 0 = .ok (.lload_n 2, 1) := by decide +kernel
theorem d_S_open_1 : decode m_S_open.2.1 1 = .ok (.lstore 4, 2) := by decide +kernel
theorem d_S_open_3 : decode m_S_open.2.1 3 = .ok (.bipush 15, 2) := by decide +kernel
theorem d_S_open_5 : decode m_S_open.2.1 5 = .ok (.istore 6, 2) := by decide +kernel
theorem d_S_open_7 : decode m_S_open.2.1 7 = .ok (.iload 6, 2) := by decide +kernel
theorem d_S_open_9 : decode m_S_open.2.1 9 = .ok (.ifCond .lt 53, 3) := by decide +kernel
theorem d_S_open_12 : decode m_S_open.2.1 12 = .ok (.iload 6, 2) := by decide +kernel
theorem d_S_open_14 : decode m_S_open.2.1 14 = .ok (.aload_n 1, 1) := by decide +kernel
theorem d_S_open_15 : decode m_S_open.2.1 15 = .ok (.getfield 113, 3) := by decide +kernel
theorem d_S_open_18 : decode m_S_open.2.1 18 = .ok (.getfield 142, 3) := by decide +kernel
theorem d_S_open_21 : decode m_S_open.2.1 21 = .ok (.if_icmp .ge 29, 3) := by decide +kernel
theorem d_S_open_24 : decode m_S_open.2.1 24 = .ok (.aload_n 1, 1) := by decide +kernel
theorem d_S_open_25 : decode m_S_open.2.1 25 = .ok (.getfield 145, 3) := by decide +kernel
theorem d_S_open_28 : decode m_S_open.2.1 28 = .ok (.getfield 148, 3) := by decide +kernel
theorem d_S_open_31 : decode m_S_open.2.1 31 = .ok (.iload 6, 2) := by decide +kernel
theorem d_S_open_33 : decode m_S_open.2.1 33 = .ok (.aload_n 1, 1) := by decide +kernel
theorem d_S_open_34 : decode m_S_open.2.1 34 = .ok (.getfield 113, 3) := by decide +kernel
theorem d_S_open_37 : decode m_S_open.2.1 37 = .ok (.iload 6, 2) := by decide +kernel
theorem d_S_open_39 : decode m_S_open.2.1 39 = .ok (.lload 4, 2) := by decide +kernel
theorem d_S_open_41 : decode m_S_open.2.1 41 = .ok (.ldc2_w 159, 3) := by decide +kernel
theorem d_S_open_44 : decode m_S_open.2.1 44 = .ok (.land, 1) := by decide +kernel
theorem d_S_open_45 : decode m_S_open.2.1 45 = .ok (.l2i, 1) := by decide +kernel
theorem d_S_open_46 : decode m_S_open.2.1 46 = .ok (.invokevirtual 161, 3) := by decide +kernel
theorem d_S_open_49 : decode m_S_open.2.1 49 = .ok (.iastore, 1) := by decide +kernel
theorem d_S_open_50 : decode m_S_open.2.1 50 = .ok (.lload 4, 2) := by decide +kernel
theorem d_S_open_52 : decode m_S_open.2.1 52 = .ok (.iconst 2, 1) := by decide +kernel
theorem d_S_open_53 : decode m_S_open.2.1 53 = .ok (.lushr, 1) := by decide +kernel
theorem d_S_open_54 : decode m_S_open.2.1 54 = .ok (.lstore 4, 2) := by decide +kernel
theorem d_S_open_56 : decode m_S_open.2.1 56 = .ok (.iinc 6 (-1), 3) := by decide +kernel
theorem d_S_open_59 : decode m_S_open.2.1 59 = .ok (.goto (-52), 3) := by decide +kernel
theorem d_S_open_62 : decode m_S_open.2.1 62 = .ok (.iconst 2, 1) := by decide +kernel
theorem d_S_open_63 : decode m_S_open.2.1 63 = .ok (.istore 6, 2) := by decide +kernel
theorem d_S_open_65 : decode m_S_open.2.1 65 = .ok (.iload 6, 2) := by decide +kernel
theorem d_S_open_67 : decode m_S_open.2.1 67 = .ok (.ifCond .lt 75, 3) := by decide +kernel
theorem d_S_open_70 : decode m_S_open.2.1 70 = .ok (.aload_n 0, 1) := by decide +kernel
theorem d_S_open_71 : decode m_S_open.2.1 71 = .ok (.getfield 22, 3) := by decide +kernel
theorem d_S_open_74 : decode m_S_open.2.1 74 = .ok (.iload 6, 2) := by decide +kernel
theorem d_S_open_76 : decode m_S_open.2.1 76 = .ok (.iaload, 1) := by decide +kernel
theorem d_S_open_77 : decode m_S_open.2.1 77 = .ok (.sipush 144, 3) := by decide +kernel
theorem d_S_open_80 : decode m_S_open.2.1 80 = .ok (.if_icmp .eq 19, 3) := by decide +kernel
theorem d_S_open_83 : decode m_S_open.2.1 83 = .ok (.aload_n 1, 1) := by decide +kernel
theorem d_S_open_84 : decode m_S_open.2.1 84 = .ok (.getfield 89, 3) := by decide +kernel
theorem d_S_open_87 : decode m_S_open.2.1 87 = .ok (.getfield 164, 3) := by decide +kernel
theorem d_S_open_90 : decode m_S_open.2.1 90 = .ok (.aload_n 0, 1) := by decide +kernel
theorem d_S_open_91 : decode m_S_open.2.1 91 = .ok (.getfield 22, 3) := by decide +kernel
theorem d_S_open_94 : decode m_S_open.2.1 94 = .ok (.iload 6, 2) := by decide +kernel
theorem d_S_open_96 : decode m_S_open.2.1 96 = .ok (.iaload, 1) := by decide +kernel
theorem d_S_open_97 : decode m_S_open.2.1 97 = .ok (.iconst 0, 1) := by decide +kernel
theorem d_S_open_98 : decode m_S_open.2.1 98 = .ok (.iastore, 1) := by decide +kernel
theorem d_S_open_99 : decode m_S_open.2.1 99 = .ok (.aload_n 0, 1) := by decide +kernel
theorem d_S_open_100 : decode m_S_open.2.1 100 = .ok (.getfield 25, 3) := by decide +kernel
theorem d_S_open_103 : decode m_S_open.2.1 103 = .ok (.iload 6, 2) := by decide +kernel
theorem d_S_open_105 : decode m_S_open.2.1 105 = .ok (.lload 4, 2) := by decide +kernel
theorem d_S_open_107 : decode m_S_open.2.1 107 = .ok (.ldc2_w 159, 3) := by decide +kernel
theorem d_S_open_110 : decode m_S_open.2.1 110 = .ok (.land, 1) := by decide +kernel
theorem d_S_open_111 : decode m_S_open.2.1 111 = .ok (.l2i, 1) := by decide +kernel
theorem d_S_open_112 : decode m_S_open.2.1 112 = .ok (.iastore, 1) := by decide +kernel
theorem d_S_open_113 : decode m_S_open.2.1 113 = .ok (.aload_n 0, 1) := by decide +kernel
theorem d_S_open_114 : decode m_S_open.2.1 114 = .ok (.getfield 22, 3) := by decide +kernel
theorem d_S_open_117 : decode m_S_open.2.1 117 = .ok (.iload 6, 2) := by decide +kernel
theorem d_S_open_119 : decode m_S_open.2.1 119 = .ok (.lload 4, 2) := by decide +kernel
theorem d_S_open_121 : decode m_S_open.2.1 121 = .ok (.iconst 2, 1) := by decide +kernel
theorem d_S_open_122 : decode m_S_open.2.1 122 = .ok (.lushr, 1) := by decide +kernel
theorem d_S_open_123 : decode m_S_open.2.1 123 = .ok (.ldc2_w 167, 3) := by decide +kernel
theorem d_S_open_126 : decode m_S_open.2.1 126 = .ok (.land, 1) := by decide +kernel
theorem d_S_open_127 : decode m_S_open.2.1 127 = .ok (.l2i, 1) := by decide +kernel
theorem d_S_open_128 : decode m_S_open.2.1 128 = .ok (.iastore, 1) := by decide +kernel
theorem d_S_open_129 : decode m_S_open.2.1 129 = .ok (.lload 4, 2) := by decide +kernel
theorem d_S_open_131 : decode m_S_open.2.1 131 = .ok (.bipush 10, 2) := by decide +kernel
theorem d_S_open_133 : decode m_S_open.2.1 133 = .ok (.lushr, 1) := by decide +kernel
theorem d_S_open_134 : decode m_S_open.2.1 134 = .ok (.lstore 4, 2) := by decide +kernel
theorem d_S_open_136 : decode m_S_open.2.1 136 = .ok (.iinc 6 (-1), 3) := by decide +kernel
theorem d_S_open_139 : decode m_S_open.2.1 139 = .ok (.goto (-74), 3) := by decide +kernel
theorem d_S_open_142 : decode m_S_open.2.1 142 = .ok (.iconst 0, 1) := by decide +kernel
theorem d_S_open_143 : decode m_S_open.2.1 143 = .ok (.istore 6, 2) := by decide +kernel
theorem d_S_open_145 : decode m_S_open.2.1 145 = .ok (.iload 6, 2) := by decide +kernel
theorem d_S_open_147 : decode m_S_open.2.1 147 = .ok (.iconst 3, 1) := by decide +kernel
theorem d_S_open_148 : decode m_S_open.2.1 148 = .ok (.if_icmp .ge 73, 3) := by decide +kernel
theorem d_S_open_151 : decode m_S_open.2.1 151 = .ok (.iconst 0, 1) := by decide +kernel
theorem d_S_open_152 : decode m_S_open.2.1 152 = .ok (.istore 7, 2) := by decide +kernel
theorem d_S_open_154 : decode m_S_open.2.1 154 = .ok (.iload 7, 2) := by decide +kernel
theorem d_S_open_156 : decode m_S_open.2.1 156 = .ok (.aload_n 0, 1) := by decide +kernel
theorem d_S_open_157 : decode m_S_open.2.1 157 = .ok (.getfield 31, 3) := by decide +kernel
theorem d_S_open_160 : decode m_S_open.2.1 160 = .ok (.if_icmp .ge 55, 3) := by decide +kernel
theorem d_S_open_163 : decode m_S_open.2.1 163 = .ok (.aload_n 0, 1) := by decide +kernel
theorem d_S_open_164 : decode m_S_open.2.1 164 = .ok (.getfield 22, 3) := by decide +kernel
theorem d_S_open_167 : decode m_S_open.2.1 167 = .ok (.iload 7, 2) := by decide +kernel
theorem d_S_open_169 : decode m_S_open.2.1 169 = .ok (.iaload, 1) := by decide +kernel
theorem d_S_open_170 : decode m_S_open.2.1 170 = .ok (.sipush 144, 3) := by decide +kernel
theorem d_S_open_173 : decode m_S_open.2.1 173 = .ok (.if_icmp .eq 36, 3) := by decide +kernel
theorem d_S_open_176 : decode m_S_open.2.1 176 = .ok (.aload_n 0, 1) := by decide +kernel
theorem d_S_open_177 : decode m_S_open.2.1 177 = .ok (.getfield 25, 3) := by decide +kernel
theorem d_S_open_180 : decode m_S_open.2.1 180 = .ok (.iload 7, 2) := by decide +kernel
theorem d_S_open_182 : decode m_S_open.2.1 182 = .ok (.iaload, 1) := by decide +kernel
theorem d_S_open_183 : decode m_S_open.2.1 183 = .ok (.iload 6, 2) := by decide +kernel
theorem d_S_open_185 : decode m_S_open.2.1 185 = .ok (.if_icmp .ne 24, 3) := by decide +kernel
theorem d_S_open_188 : decode m_S_open.2.1 188 = .ok (.aload_n 1, 1) := by decide +kernel
theorem d_S_open_189 : decode m_S_open.2.1 189 = .ok (.getfield 89, 3) := by decide +kernel
theorem d_S_open_192 : decode m_S_open.2.1 192 = .ok (.aload_n 0, 1) := by decide +kernel
theorem d_S_open_193 : decode m_S_open.2.1 193 = .ok (.getfield 22, 3) := by decide +kernel
theorem d_S_open_196 : decode m_S_open.2.1 196 = .ok (.iload 7, 2) := by decide +kernel
theorem d_S_open_198 : decode m_S_open.2.1 198 = .ok (.iaload, 1) := by decide +kernel
theorem d_S_open_199 : decode m_S_open.2.1 199 = .ok (.aload_n 0, 1) := by decide +kernel
theorem d_S_open_200 : decode m_S_open.2.1 200 = .ok (.getfield 19, 3) := by decide +kernel
theorem d_S_open_203 : decode m_S_open.2.1 203 = .ok (.iload 7, 2) := by decide +kernel
theorem d_S_open_205 : decode m_S_open.2.1 205 = .ok (.iaload, 1) := by decide +kernel
theorem d_S_open_206 : decode m_S_open.2.1 206 = .ok (.invokevirtual 169, 3) := by decide +kernel
theorem d_S_open_209 : decode m_S_open.2.1 209 = .ok (.iinc 7 1, 3) := by decide +kernel
theorem d_S_open_212 : decode m_S_open.2.1 212 = .ok (.goto (-58), 3) := by decide +kernel
theorem d_S_open_215 : decode m_S_open.2.1 215 = .ok (.iinc 6 1, 3) := by decide +kernel
theorem d_S_open_218 : decode m_S_open.2.1 218 = .ok (.goto (-73), 3) := by decide +kernel
theorem d_S_open_221 : decode m_S_open.2.1 221 = .ok (.return_, 1) := by decide +kernel
def f_S_open_50 (p1 : Nat) (r7 : Int → Int → qMem → Option (qMem)) (x4 x6 : Int) (w : qMem) : Option (qMem) :=
  r7 (klushr x4 2) (w32 (x6 + (-1))) w
set_option maxRecDepth 4000 in
theorem s_S_open_50 {p1 : Nat} (hp1 : qIs kLN 100 p1) {r7 : Int → Int → qMem → Option (qMem)} (hr7 : ∀ x4 x6 w, qSim κV 100 100 m_S_open 7 [] [some (qR 74), some (qR p1), none, none, some (qL x4), none, some (qI x6), none] w (r7 x4 x6 w)) : ∀ (x4 x6 : Int) (w : qMem), qSim κV 100 100 m_S_open 50 [] [some (qR 74), some (qR p1), none, none, some (qL x4), none, some (qI x6), none] w (f_S_open_50 p1 r7 x4 x6 w) := by
  intro x4 x6 w
  unfold f_S_open_50
  refine z_lload d_S_open_50 rfl ?_
  refine z_ic2 d_S_open_52 ?_
  refine z_lushr d_S_open_53 ?_
  refine z_lstore (pls' := [some (qR 74), some (qR p1), none, none, some (qL (klushr x4 2)), none, some (qI x6), none]) d_S_open_54 (by decide) rfl rfl ?_
  refine z_iinc (pls' := [some (qR 74), some (qR p1), none, none, some (qL (klushr x4 2)), none, some (qI (w32 (x6 + (-1)))), none]) d_S_open_56 (by decide) rfl rfl rfl ?_
  refine z_goto (tgt := 7) d_S_open_59 rfl ?_
  refine z_mask [true, true, false, false, true, false, true, false] ?_
  exact hr7 _ _ _
def f_S_open_99 (p1 : Nat) (r65 : Int → Int → qMem → Option (qMem)) (x4 x6 : Int) (w : qMem) : Option (qMem) :=
  qst w 79 3 x6 (kl2i (kland x4 3)) fun w1 =>
  qst w1 78 3 x6 (kl2i (kland (klushr x4 2) 255)) fun w2 =>
  r65 (klushr x4 10) (w32 (x6 + (-1))) w2
set_option maxRecDepth 4000 in
theorem s_S_open_99 {p1 : Nat} (hp1 : qIs kLN 100 p1) {r65 : Int → Int → qMem → Option (qMem)} (hr65 : ∀ x4 x6 w, qSim κV 100 100 m_S_open 65 [] [some (qR 74), some (qR p1), none, none, some (qL x4), none, some (qI x6), none] w (r65 x4 x6 w)) : ∀ (x4 x6 : Int) (w : qMem), qSim κV 100 100 m_S_open 99 [] [some (qR 74), some (qR p1), none, none, some (qL x4), none, some (qI x6), none] w (f_S_open_99 p1 r65 x4 x6 w) := by
  intro x4 x6 w
  unfold f_S_open_99
  refine z_aload_n d_S_open_99 rfl ?_
  refine z_gr (ci := 8) (j := 4) (d := 5) (o2 := 79) d_S_open_100 rfl fl_S_25 rfl (Nat.le_of_ble_eq_true rfl) rfl rfl ?_
  refine z_iload d_S_open_103 rfl ?_
  refine z_lload d_S_open_105 rfl ?_
  refine z_ldc2 (n := 3) d_S_open_107 ck_S_159 (by decide) ?_
  refine z_land d_S_open_110 ?_
  refine z_l2i d_S_open_111 ?_
  refine z_is d_S_open_112 rfl rfl (fun w1 => ?_)
  refine z_aload_n d_S_open_113 rfl ?_
  refine z_gr (ci := 8) (j := 3) (d := 4) (o2 := 78) d_S_open_114 rfl fl_S_22 rfl (Nat.le_of_ble_eq_true rfl) rfl rfl ?_
  refine z_iload d_S_open_117 rfl ?_
  refine z_lload d_S_open_119 rfl ?_
  refine z_ic2 d_S_open_121 ?_
  refine z_lushr d_S_open_122 ?_
  refine z_ldc2 (n := 255) d_S_open_123 ck_S_167 (by decide) ?_
  refine z_land d_S_open_126 ?_
  refine z_l2i d_S_open_127 ?_
  refine z_is d_S_open_128 rfl rfl (fun w2 => ?_)
  refine z_lload d_S_open_129 rfl ?_
  refine z_bipush d_S_open_131 ⟨by decide, by decide⟩ ?_
  refine z_lushr d_S_open_133 ?_
  refine z_lstore (pls' := [some (qR 74), some (qR p1), none, none, some (qL (klushr x4 10)), none, some (qI x6), none]) d_S_open_134 (by decide) rfl rfl ?_
  refine z_iinc (pls' := [some (qR 74), some (qR p1), none, none, some (qL (klushr x4 10)), none, some (qI (w32 (x6 + (-1)))), none]) d_S_open_136 (by decide) rfl rfl rfl ?_
  refine z_goto (tgt := 65) d_S_open_139 rfl ?_
  refine z_mask [true, true, false, false, true, false, true, false] ?_
  exact hr65 _ _ _
def f_S_open_154 (p1 : Nat) (r145 : Int → qMem → Option (qMem)) : Nat → Int → Int → qMem → Option (qMem)
  | 0, _, _, _ => none
  | n + 1, x6, x7, w =>
    if x7 < (w 74 6) then
    qld w 78 3 x7 fun v4 =>
    if v4 = 144 then
    (f_S_open_154 p1 r145 n) x6 (w32 (x7 + 1)) w
    else
    qld w 79 3 x7 fun v6 =>
    if v6 = x6 then
    qld w 78 3 x7 fun v8 =>
    qld w 77 3 x7 fun v9 =>
    (f_Q_put (p1 + 19) v8 v9 w).bind fun q10 =>
    (f_S_open_154 p1 r145 n) x6 (w32 (x7 + 1)) q10
    else
    (f_S_open_154 p1 r145 n) x6 (w32 (x7 + 1)) w
    else
    r145 (w32 (x6 + 1)) w
set_option maxRecDepth 4000 in
theorem s_S_open_154 {p1 : Nat} (hp1 : qIs kLN 100 p1) {r145 : Int → qMem → Option (qMem)} (hr145 : ∀ x6 w, qSim κV 100 100 m_S_open 145 [] [some (qR 74), some (qR p1), none, none, none, none, some (qI x6), none] w (r145 x6 w)) : ∀ (n : Nat), ∀ (x6 x7 : Int) (w : qMem), qSim κV 100 100 m_S_open 154 [] [some (qR 74), some (qR p1), none, none, none, none, some (qI x6), some (qI x7)] w (f_S_open_154 p1 r145 n x6 x7 w) := by
  intro n
  induction n with
  | zero => intro x6 x7 w; exact z_none
  | succ n ih =>
    intro x6 x7 w
    rw [f_S_open_154]
    refine z_iload d_S_open_154 rfl ?_
    refine z_aload_n d_S_open_156 rfl ?_
    refine z_gi (ci := 8) (j := 6) (ji := 6) d_S_open_157 rfl fl_S_31 rfl rfl rfl ?_
    refine z_icmp_ge (tgt := 215) d_S_open_160 rfl (fun c3 => ?_) (fun c3 => ?_)
    · refine z_aload_n d_S_open_163 rfl ?_
      refine z_gr (ci := 8) (j := 3) (d := 4) (o2 := 78) d_S_open_164 rfl fl_S_22 rfl (Nat.le_of_ble_eq_true rfl) rfl rfl ?_
      refine z_iload d_S_open_167 rfl ?_
      refine z_il d_S_open_169 rfl rfl (fun v4 => ?_)
      refine z_sipush d_S_open_170 ⟨by decide, by decide⟩ ?_
      refine z_icmp_eq (tgt := 209) d_S_open_173 rfl (fun c5 => ?_) (fun c5 => ?_)
      · refine z_iinc (pls' := [some (qR 74), some (qR p1), none, none, none, none, some (qI x6), some (qI (w32 (x7 + 1)))]) d_S_open_209 (by decide) rfl rfl rfl ?_
        refine z_goto (tgt := 154) d_S_open_212 rfl ?_
        refine z_mask [true, true, false, false, false, false, true, true] ?_
        exact ih _ _ _
      · refine z_aload_n d_S_open_176 rfl ?_
        refine z_gr (ci := 8) (j := 4) (d := 5) (o2 := 79) d_S_open_177 rfl fl_S_25 rfl (Nat.le_of_ble_eq_true rfl) rfl rfl ?_
        refine z_iload d_S_open_180 rfl ?_
        refine z_il d_S_open_182 rfl rfl (fun v6 => ?_)
        refine z_iload d_S_open_183 rfl ?_
        refine z_icmp_ne (tgt := 209) d_S_open_185 rfl (fun c7 => ?_) (fun c7 => ?_)
        · refine z_aload_n d_S_open_188 rfl ?_
          refine z_gr (ci := 3) (j := 2) (d := 19) (o2 := (p1 + 19)) d_S_open_189 rfl fl_S_89 (hp1 0 _ rfl).1 ((hp1 0 _ rfl).2 (Nat.le_of_ble_eq_true rfl)) rfl rfl ?_
          refine z_aload_n d_S_open_192 rfl ?_
          refine z_gr (ci := 8) (j := 3) (d := 4) (o2 := 78) d_S_open_193 rfl fl_S_22 rfl (Nat.le_of_ble_eq_true rfl) rfl rfl ?_
          refine z_iload d_S_open_196 rfl ?_
          refine z_il d_S_open_198 rfl rfl (fun v8 => ?_)
          refine z_aload_n d_S_open_199 rfl ?_
          refine z_gr (ci := 8) (j := 2) (d := 3) (o2 := 77) d_S_open_200 rfl fl_S_19 rfl (Nat.le_of_ble_eq_true rfl) rfl rfl ?_
          refine z_iload d_S_open_203 rfl ?_
          refine z_il d_S_open_205 rfl rfl (fun v9 => ?_)
          refine z_cVV (as := [qI v8, qI v9]) (st := []) (nl := 0) (ci := 6) d_S_open_206 lk_S_169 mk_Q_put rfl rfl (hp1 19 _ rfl).1 rfl rfl rfl (s_Q_put _ _ (is_N_Q hp1) _) (fun q10 _ => ?_)
          refine z_iinc (pls' := [some (qR 74), some (qR p1), none, none, none, none, some (qI x6), some (qI (w32 (x7 + 1)))]) d_S_open_209 (by decide) rfl rfl rfl ?_
          refine z_goto (tgt := 154) d_S_open_212 rfl ?_
          refine z_mask [true, true, false, false, false, false, true, true] ?_
          exact ih _ _ _
        · refine z_iinc (pls' := [some (qR 74), some (qR p1), none, none, none, none, some (qI x6), some (qI (w32 (x7 + 1)))]) d_S_open_209 (by decide) rfl rfl rfl ?_
          refine z_goto (tgt := 154) d_S_open_212 rfl ?_
          refine z_mask [true, true, false, false, false, false, true, true] ?_
          exact ih _ _ _
    · refine z_iinc (pls' := [some (qR 74), some (qR p1), none, none, none, none, some (qI (w32 (x6 + 1))), some (qI x7)]) d_S_open_215 (by decide) rfl rfl rfl ?_
      refine z_goto (tgt := 145) d_S_open_218 rfl ?_
      refine z_mask [true, true, false, false, false, false, true, false] ?_
      exact hr145 _ _
def f_S_open_145 (p1 : Nat) : Nat → Int → qMem → Option (qMem)
  | 0, _, _ => none
  | n + 1, x6, w =>
    if x6 < 3 then
    f_S_open_154 p1 (f_S_open_145 p1 n) qFU x6 0 w
    else
    some w
set_option maxRecDepth 4000 in
theorem s_S_open_145 {p1 : Nat} (hp1 : qIs kLN 100 p1) : ∀ (n : Nat), ∀ (x6 : Int) (w : qMem), qSim κV 100 100 m_S_open 145 [] [some (qR 74), some (qR p1), none, none, none, none, some (qI x6), none] w (f_S_open_145 p1 n x6 w) := by
  intro n
  induction n with
  | zero => intro x6 w; exact z_none
  | succ n ih =>
    intro x6 w
    rw [f_S_open_145]
    refine z_iload d_S_open_145 rfl ?_
    refine z_ic3 d_S_open_147 ?_
    refine z_icmp_ge (tgt := 221) d_S_open_148 rfl (fun c11 => ?_) (fun c11 => ?_)
    · refine z_ic0 d_S_open_151 ?_
      refine z_istore (pls' := [some (qR 74), some (qR p1), none, none, none, none, some (qI x6), some (qI 0)]) d_S_open_152 (by decide) rfl rfl ?_
      refine z_mask [true, true, false, false, false, false, true, true] ?_
      exact s_S_open_154 hp1 ih _ _ _ _
    · exact z_vret d_S_open_221 rfl rfl
def f_S_open_142 (p1 : Nat) (w : qMem) : Option (qMem) :=
  f_S_open_145 p1 qFU 0 w
set_option maxRecDepth 4000 in
theorem s_S_open_142 {p1 : Nat} (hp1 : qIs kLN 100 p1) : ∀ (w : qMem), qSim κV 100 100 m_S_open 142 [] [some (qR 74), some (qR p1), none, none, none, none, none, none] w (f_S_open_142 p1 w) := by
  intro w
  unfold f_S_open_142
  refine z_ic0 d_S_open_142 ?_
  refine z_istore (pls' := [some (qR 74), some (qR p1), none, none, none, none, some (qI 0), none]) d_S_open_143 (by decide) rfl rfl ?_
  refine z_mask [true, true, false, false, false, false, true, false] ?_
  exact s_S_open_145 hp1 _ _ _
def f_S_open_65 (p1 : Nat) : Nat → Int → Int → qMem → Option (qMem)
  | 0, _, _, _ => none
  | n + 1, x4, x6, w =>
    if x6 < 0 then
    f_S_open_142 p1 w
    else
    qld w 78 3 x6 fun v13 =>
    if v13 = 144 then
    f_S_open_99 p1 (f_S_open_65 p1 n) x4 x6 w
    else
    qld w 78 3 x6 fun v15 =>
    qst w (p1 + 20) 144 v15 0 fun w16 =>
    f_S_open_99 p1 (f_S_open_65 p1 n) x4 x6 w16
set_option maxRecDepth 4000 in
theorem s_S_open_65 {p1 : Nat} (hp1 : qIs kLN 100 p1) : ∀ (n : Nat), ∀ (x4 x6 : Int) (w : qMem), qSim κV 100 100 m_S_open 65 [] [some (qR 74), some (qR p1), none, none, some (qL x4), none, some (qI x6), none] w (f_S_open_65 p1 n x4 x6 w) := by
  intro n
  induction n with
  | zero => intro x4 x6 w; exact z_none
  | succ n ih =>
    intro x4 x6 w
    rw [f_S_open_65]
    refine z_iload d_S_open_65 rfl ?_
    refine z_if_lt (tgt := 142) d_S_open_67 rfl (fun c12 => ?_) (fun c12 => ?_)
    · refine z_mask [true, true, false, false, false, false, false, false] ?_
      exact s_S_open_142 hp1 _
    · refine z_aload_n d_S_open_70 rfl ?_
      refine z_gr (ci := 8) (j := 3) (d := 4) (o2 := 78) d_S_open_71 rfl fl_S_22 rfl (Nat.le_of_ble_eq_true rfl) rfl rfl ?_
      refine z_iload d_S_open_74 rfl ?_
      refine z_il d_S_open_76 rfl rfl (fun v13 => ?_)
      refine z_sipush d_S_open_77 ⟨by decide, by decide⟩ ?_
      refine z_icmp_eq (tgt := 99) d_S_open_80 rfl (fun c14 => ?_) (fun c14 => ?_)
      · refine z_mask [true, true, false, false, true, false, true, false] ?_
        exact s_S_open_99 hp1 ih _ _ _
      · refine z_aload_n d_S_open_83 rfl ?_
        refine z_gr (ci := 3) (j := 2) (d := 19) (o2 := (p1 + 19)) d_S_open_84 rfl fl_S_89 (hp1 0 _ rfl).1 ((hp1 0 _ rfl).2 (Nat.le_of_ble_eq_true rfl)) rfl rfl ?_
        refine z_gr (ci := 6) (j := 0) (d := 1) (o2 := (p1 + 20)) d_S_open_87 rfl fl_S_164 (hp1 19 _ rfl).1 ((hp1 19 _ rfl).2 (Nat.le_of_ble_eq_true rfl)) rfl rfl ?_
        refine z_aload_n d_S_open_90 rfl ?_
        refine z_gr (ci := 8) (j := 3) (d := 4) (o2 := 78) d_S_open_91 rfl fl_S_22 rfl (Nat.le_of_ble_eq_true rfl) rfl rfl ?_
        refine z_iload d_S_open_94 rfl ?_
        refine z_il d_S_open_96 rfl rfl (fun v15 => ?_)
        refine z_ic0 d_S_open_97 ?_
        refine z_is d_S_open_98 (hp1 20 _ rfl).1 rfl (fun w16 => ?_)
        refine z_mask [true, true, false, false, true, false, true, false] ?_
        exact s_S_open_99 hp1 ih _ _ _
def f_S_open_62 (p1 : Nat) (x4 : Int) (w : qMem) : Option (qMem) :=
  f_S_open_65 p1 qFU x4 2 w
set_option maxRecDepth 4000 in
theorem s_S_open_62 {p1 : Nat} (hp1 : qIs kLN 100 p1) : ∀ (x4 : Int) (w : qMem), qSim κV 100 100 m_S_open 62 [] [some (qR 74), some (qR p1), none, none, some (qL x4), none, none, none] w (f_S_open_62 p1 x4 w) := by
  intro x4 w
  unfold f_S_open_62
  refine z_ic2 d_S_open_62 ?_
  refine z_istore (pls' := [some (qR 74), some (qR p1), none, none, some (qL x4), none, some (qI 2), none]) d_S_open_63 (by decide) rfl rfl ?_
  refine z_mask [true, true, false, false, true, false, true, false] ?_
  exact s_S_open_65 hp1 _ _ _ _
def f_S_open_7 (p1 : Nat) : Nat → Int → Int → qMem → Option (qMem)
  | 0, _, _, _ => none
  | n + 1, x4, x6, w =>
    if x6 < 0 then
    f_S_open_62 p1 x4 w
    else
    if x6 < (w (p1 + 1) 6) then
    (f_G_ringNode (p1 + 1) x6 (kl2i (kland x4 3)) w).bind fun q19 =>
    qst q19.2 (p1 + 25) 16 x6 q19.1 fun w20 =>
    f_S_open_50 p1 (f_S_open_7 p1 n) x4 x6 w20
    else
    f_S_open_50 p1 (f_S_open_7 p1 n) x4 x6 w
set_option maxRecDepth 4000 in
theorem s_S_open_7 {p1 : Nat} (hp1 : qIs kLN 100 p1) : ∀ (n : Nat), ∀ (x4 x6 : Int) (w : qMem), qSim κV 100 100 m_S_open 7 [] [some (qR 74), some (qR p1), none, none, some (qL x4), none, some (qI x6), none] w (f_S_open_7 p1 n x4 x6 w) := by
  intro n
  induction n with
  | zero => intro x4 x6 w; exact z_none
  | succ n ih =>
    intro x4 x6 w
    rw [f_S_open_7]
    refine z_iload d_S_open_7 rfl ?_
    refine z_if_lt (tgt := 62) d_S_open_9 rfl (fun c17 => ?_) (fun c17 => ?_)
    · refine z_mask [true, true, false, false, true, false, false, false] ?_
      exact s_S_open_62 hp1 _ _
    · refine z_iload d_S_open_12 rfl ?_
      refine z_aload_n d_S_open_14 rfl ?_
      refine z_gr (ci := 3) (j := 0) (d := 1) (o2 := (p1 + 1)) d_S_open_15 rfl fl_S_113 (hp1 0 _ rfl).1 ((hp1 0 _ rfl).2 (Nat.le_of_ble_eq_true rfl)) rfl rfl ?_
      refine z_gi (ci := 0) (j := 6) (ji := 6) d_S_open_18 rfl fl_S_142 (hp1 1 _ rfl).1 rfl rfl ?_
      refine z_icmp_ge (tgt := 50) d_S_open_21 rfl (fun c18 => ?_) (fun c18 => ?_)
      · refine z_aload_n d_S_open_24 rfl ?_
        refine z_gr (ci := 3) (j := 4) (d := 24) (o2 := (p1 + 24)) d_S_open_25 rfl fl_S_145 (hp1 0 _ rfl).1 ((hp1 0 _ rfl).2 (Nat.le_of_ble_eq_true rfl)) rfl rfl ?_
        refine z_gr (ci := 7) (j := 0) (d := 1) (o2 := (p1 + 25)) d_S_open_28 rfl fl_S_148 (hp1 24 _ rfl).1 ((hp1 24 _ rfl).2 (Nat.le_of_ble_eq_true rfl)) rfl rfl ?_
        refine z_iload d_S_open_31 rfl ?_
        refine z_aload_n d_S_open_33 rfl ?_
        refine z_gr (ci := 3) (j := 0) (d := 1) (o2 := (p1 + 1)) d_S_open_34 rfl fl_S_113 (hp1 0 _ rfl).1 ((hp1 0 _ rfl).2 (Nat.le_of_ble_eq_true rfl)) rfl rfl ?_
        refine z_iload d_S_open_37 rfl ?_
        refine z_lload d_S_open_39 rfl ?_
        refine z_ldc2 (n := 3) d_S_open_41 ck_S_159 (by decide) ?_
        refine z_land d_S_open_44 ?_
        refine z_l2i d_S_open_45 ?_
        refine z_cVI (as := [qI x6, qI (kl2i (kland x4 3))]) (st := [qI x6, qR (p1 + 25)]) (nl := 1) (ci := 0) d_S_open_46 lk_S_161 mk_G_ringNode rfl rfl (hp1 1 _ rfl).1 rfl rfl rfl (s_G_ringNode _ _ (is_N_G hp1) _) (fun q19 _ hq19 => ?_)
        refine z_is d_S_open_49 (hp1 25 _ rfl).1 rfl (fun w20 => ?_)
        refine z_mask [true, true, false, false, true, false, true, false] ?_
        exact s_S_open_50 hp1 ih _ _ _
      · refine z_mask [true, true, false, false, true, false, true, false] ?_
        exact s_S_open_50 hp1 ih _ _ _
def f_S_open (p1 : Nat) (y2 : Int) (w : qMem) : Option (qMem) :=
  f_S_open_7 p1 qFU y2 15 w
set_option maxRecDepth 4000 in
theorem s_S_open {p1 : Nat} (y2 : Int) (hp1 : qIs kLN 100 p1) (w : qMem) : qSim κV 100 100 m_S_open 0 [] [some (qR 74), some (qR p1), some (qL y2), none, none, none, none, none] w (f_S_open p1 y2 w) := by
  unfold f_S_open
  refine z_lload_n d_S_open_0 rfl ?_
  refine z_lstore (pls' := [some (qR 74), some (qR p1), some (qL y2), none, some (qL y2), none, none, none]) d_S_open_1 (by decide) rfl rfl ?_
  refine z_bipush d_S_open_3 ⟨by decide, by decide⟩ ?_
  refine z_istore (pls' := [some (qR 74), some (qR p1), some (qL y2), none, some (qL y2), none, some (qI 15), none]) d_S_open_5 (by decide) rfl rfl ?_
  refine z_mask [true, true, false, false, true, false, true, false] ?_
  exact s_S_open_7 hp1 _ _ _ _
/-! BubbleTorus$Search.close -/
theorem d_S_close_0 : decode m_S_close.2.1 0 = .ok (.aload_n 0, 1) := by decide +kernel
theorem d_S_close_1 : decode m_S_close.2.1 1 = .ok (.getfield 22, 3) := by decide +kernel
theorem d_S_close_4 : decode m_S_close.2.1 4 = .ok (.iload_n 3, 1) := by decide +kernel
theorem d_S_close_5 : decode m_S_close.2.1 5 = .ok (.iload 4, 2) := by decide +kernel
theorem d_S_close_7 : decode m_S_close.2.1 7 = .ok (.iastore, 1) := by decide +kernel
theorem d_S_close_8 : decode m_S_close.2.1 8 = .ok (.aload_n 0, 1) := by decide +kernel
theorem d_S_close_9 : decode m_S_close.2.1 9 = .ok (.dup, 1) := by decide +kernel
theorem d_S_close_10 : decode m_S_close.2.1 10 = .ok (.getfield 38, 3) := by decide +kernel
theorem d_S_close_13 : decode m_S_close.2.1 13 = .ok (.iconst 1, 1) := by decide +kernel
theorem d_S_close_14 : decode m_S_close.2.1 14 = .ok (.iadd, 1) := by decide +kernel
theorem d_S_close_15 : decode m_S_close.2.1 15 = .ok (.putfield 38, 3) := by decide +kernel
theorem d_S_close_18 : decode m_S_close.2.1 18 = .ok (.aload_n 0, 1) := by decide +kernel
theorem d_S_close_19 : decode m_S_close.2.1 19 = .ok (.aload_n 1, 1) := by decide +kernel
theorem d_S_close_20 : decode m_S_close.2.1 20 = .ok (.aload_n 0, 1) := by decide +kernel
theorem d_S_close_21 : decode m_S_close.2.1 21 = .ok (.getfield 15, 3) := by decide +kernel
theorem d_S_close_24 : decode m_S_close.2.1 24 = .ok (.iload_n 2, 1) := by decide +kernel
theorem d_S_close_25 : decode m_S_close.2.1 25 = .ok (.iaload, 1) := by decide +kernel
theorem d_S_close_26 : decode m_S_close.2.1 26 = .ok (.invokevirtual 66, 3) := by decide +kernel
theorem d_S_close_29 : decode m_S_close.2.1 29 = .ok (.aload_n 0, 1) := by decide +kernel
theorem d_S_close_30 : decode m_S_close.2.1 30 = .ok (.aload_n 1, 1) := by decide +kernel
theorem d_S_close_31 : decode m_S_close.2.1 31 = .ok (.aload_n 0, 1) := by decide +kernel
theorem d_S_close_32 : decode m_S_close.2.1 32 = .ok (.getfield 11, 3) := by decide +kernel
theorem d_S_close_35 : decode m_S_close.2.1 35 = .ok (.iload_n 2, 1) := by decide +kernel
theorem d_S_close_36 : decode m_S_close.2.1 36 = .ok (.laload, 1) := by decide +kernel
theorem d_S_close_37 : decode m_S_close.2.1 37 = .ok (.invokevirtual 70, 3) := by decide +kernel
theorem d_S_close_40 : decode m_S_close.2.1 40 = .ok (.return_, 1) := by decide +kernel
def f_S_close (p1 : Nat) (x2 : Int) (x3 : Int) (x4 : Int) (w : qMem) : Option (qMem) :=
  qst w 78 3 x3 x4 fun w1 =>
  qlt (qud w1 74 8 (w32 ((w1 74 8) + 1))) fun w2 =>
  qld w2 76 400 x2 fun v3 =>
  (f_S_reach p1 v3 w2).bind fun q4 =>
  qld q4 75 400 x2 fun v5 =>
  (f_S_open p1 v5 q4).bind fun q6 =>
  some q6
set_option maxRecDepth 4000 in
theorem s_S_close {p1 : Nat} (x2 : Int) (x3 : Int) (x4 : Int) (hp1 : qIs kLN 100 p1) (w : qMem) : qSim κV 100 100 m_S_close 0 [] [some (qR 74), some (qR p1), some (qI x2), some (qI x3), some (qI x4)] w (f_S_close p1 x2 x3 x4 w) := by
  unfold f_S_close
  refine z_aload_n d_S_close_0 rfl ?_
  refine z_gr (ci := 8) (j := 3) (d := 4) (o2 := 78) d_S_close_1 rfl fl_S_22 rfl (Nat.le_of_ble_eq_true rfl) rfl rfl ?_
  refine z_iload_n d_S_close_4 rfl ?_
  refine z_iload d_S_close_5 rfl ?_
  refine z_is d_S_close_7 rfl rfl (fun w1 => ?_)
  refine z_aload_n d_S_close_8 rfl ?_
  refine z_dup d_S_close_9 rfl ?_
  refine z_gi (ci := 8) (j := 8) (ji := 8) d_S_close_10 rfl fl_S_38 rfl rfl rfl ?_
  refine z_ic1 d_S_close_13 ?_
  refine z_iadd d_S_close_14 ?_
  refine z_pi (ci := 8) (j := 8) (ji := 8) d_S_close_15 rfl fl_S_38 rfl rfl rfl rfl rfl (fun w2 => ?_)
  refine z_aload_n d_S_close_18 rfl ?_
  refine z_aload_n d_S_close_19 rfl ?_
  refine z_aload_n d_S_close_20 rfl ?_
  refine z_gr (ci := 8) (j := 1) (d := 2) (o2 := 76) d_S_close_21 rfl fl_S_15 rfl (Nat.le_of_ble_eq_true rfl) rfl rfl ?_
  refine z_iload_n d_S_close_24 rfl ?_
  refine z_il d_S_close_25 rfl rfl (fun v3 => ?_)
  refine z_cVV (as := [qR p1, qI v3]) (st := []) (nl := 3) (ci := 8) d_S_close_26 lk_S_66 mk_S_reach rfl rfl rfl rfl rfl rfl (s_S_reach _ hp1 _) (fun q4 _ => ?_)
  refine z_aload_n d_S_close_29 rfl ?_
  refine z_aload_n d_S_close_30 rfl ?_
  refine z_aload_n d_S_close_31 rfl ?_
  refine z_gr (ci := 8) (j := 0) (d := 1) (o2 := 75) d_S_close_32 rfl fl_S_11 rfl (Nat.le_of_ble_eq_true rfl) rfl rfl ?_
  refine z_iload_n d_S_close_35 rfl ?_
  refine z_ll d_S_close_36 rfl rfl (fun v5 => ?_)
  refine z_cVV (as := [qR p1, qL v5]) (st := []) (nl := 4) (ci := 8) d_S_close_37 lk_S_70 mk_S_open rfl rfl rfl rfl rfl rfl (s_S_open _ hp1 _) (fun q6 _ => ?_)
  exact z_vret d_S_close_40 rfl rfl
/-! BubbleTorus$Search.tryBy -/
theorem d_S_tryBy_0 : decode m_S_tryBy.2.1 0 = .ok (.aload_n 0, 1) := by decide +kernel
theorem d_S_tryBy_1 : decode m_S_tryBy.2.1 1 = .ok (.getfield 22, 3) := by decide +kernel
theorem d_S_tryBy_4 : decode m_S_tryBy.2.1 4 = .ok (.iload_n 3, 1) := by decide +kernel
theorem d_S_tryBy_5 : decode m_S_tryBy.2.1 5 = .ok (.iaload, 1) := by decide +kernel
theorem d_S_tryBy_6 : decode m_S_tryBy.2.1 6 = .ok (.bipush 9, 2) := by decide +kernel
theorem d_S_tryBy_8 : decode m_S_tryBy.2.1 8 = .ok (.idiv, 1) := by decide +kernel
theorem d_S_tryBy_9 : decode m_S_tryBy.2.1 9 = .ok (.istore 5, 2) := by decide +kernel
theorem d_S_tryBy_11 : decode m_S_tryBy.2.1 11 = .ok (.aload_n 0, 1) := by decide +kernel
theorem d_S_tryBy_12 : decode m_S_tryBy.2.1 12 = .ok (.getfield 22, 3) := by decide +kernel
theorem d_S_tryBy_15 : decode m_S_tryBy.2.1 15 = .ok (.iload_n 3, 1) := by decide +kernel
theorem d_S_tryBy_16 : decode m_S_tryBy.2.1 16 = .ok (.iaload, 1) := by decide +kernel
theorem d_S_tryBy_17 : decode m_S_tryBy.2.1 17 = .ok (.bipush 9, 2) := by decide +kernel
theorem d_S_tryBy_19 : decode m_S_tryBy.2.1 19 = .ok (.irem, 1) := by decide +kernel
theorem d_S_tryBy_20 : decode m_S_tryBy.2.1 20 = .ok (.istore 6, 2) := by decide +kernel
theorem d_S_tryBy_22 : decode m_S_tryBy.2.1 22 = .ok (.aload_n 1, 1) := by decide +kernel
theorem d_S_tryBy_23 : decode m_S_tryBy.2.1 23 = .ok (.getfield 113, 3) := by decide +kernel
theorem d_S_tryBy_26 : decode m_S_tryBy.2.1 26 = .ok (.iload 5, 2) := by decide +kernel
theorem d_S_tryBy_28 : decode m_S_tryBy.2.1 28 = .ok (.iload 4, 2) := by decide +kernel
theorem d_S_tryBy_30 : decode m_S_tryBy.2.1 30 = .ok (.invokevirtual 117, 3) := by decide +kernel
theorem d_S_tryBy_33 : decode m_S_tryBy.2.1 33 = .ok (.bipush 9, 2) := by decide +kernel
theorem d_S_tryBy_35 : decode m_S_tryBy.2.1 35 = .ok (.imul, 1) := by decide +kernel
theorem d_S_tryBy_36 : decode m_S_tryBy.2.1 36 = .ok (.iload 4, 2) := by decide +kernel
theorem d_S_tryBy_38 : decode m_S_tryBy.2.1 38 = .ok (.iadd, 1) := by decide +kernel
theorem d_S_tryBy_39 : decode m_S_tryBy.2.1 39 = .ok (.istore 7, 2) := by decide +kernel
theorem d_S_tryBy_41 : decode m_S_tryBy.2.1 41 = .ok (.aload_n 1, 1) := by decide +kernel
theorem d_S_tryBy_42 : decode m_S_tryBy.2.1 42 = .ok (.iload 5, 2) := by decide +kernel
theorem d_S_tryBy_44 : decode m_S_tryBy.2.1 44 = .ok (.iload 6, 2) := by decide +kernel
theorem d_S_tryBy_46 : decode m_S_tryBy.2.1 46 = .ok (.iload 4, 2) := by decide +kernel
theorem d_S_tryBy_48 : decode m_S_tryBy.2.1 48 = .ok (.invokevirtual 123, 3) := by decide +kernel
theorem d_S_tryBy_51 : decode m_S_tryBy.2.1 51 = .ok (.ifCond .eq 25, 3) := by decide +kernel
theorem d_S_tryBy_54 : decode m_S_tryBy.2.1 54 = .ok (.aload_n 1, 1) := by decide +kernel
theorem d_S_tryBy_55 : decode m_S_tryBy.2.1 55 = .ok (.iload 5, 2) := by decide +kernel
theorem d_S_tryBy_57 : decode m_S_tryBy.2.1 57 = .ok (.iload 6, 2) := by decide +kernel
theorem d_S_tryBy_59 : decode m_S_tryBy.2.1 59 = .ok (.iload 4, 2) := by decide +kernel
theorem d_S_tryBy_61 : decode m_S_tryBy.2.1 61 = .ok (.iconst 2, 1) := by decide +kernel
theorem d_S_tryBy_62 : decode m_S_tryBy.2.1 62 = .ok (.invokevirtual 127, 3) := by decide +kernel
theorem d_S_tryBy_65 : decode m_S_tryBy.2.1 65 = .ok (.aload_n 0, 1) := by decide +kernel
theorem d_S_tryBy_66 : decode m_S_tryBy.2.1 66 = .ok (.aload_n 1, 1) := by decide +kernel
theorem d_S_tryBy_67 : decode m_S_tryBy.2.1 67 = .ok (.iload_n 2, 1) := by decide +kernel
theorem d_S_tryBy_68 : decode m_S_tryBy.2.1 68 = .ok (.iload_n 3, 1) := by decide +kernel
theorem d_S_tryBy_69 : decode m_S_tryBy.2.1 69 = .ok (.iload 7, 2) := by decide +kernel
theorem d_S_tryBy_71 : decode m_S_tryBy.2.1 71 = .ok (.iconst 5, 1) := by decide +kernel
theorem d_S_tryBy_72 : decode m_S_tryBy.2.1 72 = .ok (.iadd, 1) := by decide +kernel
theorem d_S_tryBy_73 : decode m_S_tryBy.2.1 73 = .ok (.invokevirtual 106, 3) := by decide +kernel
theorem d_S_tryBy_76 : decode m_S_tryBy.2.1 76 = .ok (.aload_n 1, 1) := by decide +kernel
theorem d_S_tryBy_77 : decode m_S_tryBy.2.1 77 = .ok (.iload 5, 2) := by decide +kernel
theorem d_S_tryBy_79 : decode m_S_tryBy.2.1 79 = .ok (.iload 6, 2) := by decide +kernel
theorem d_S_tryBy_81 : decode m_S_tryBy.2.1 81 = .ok (.iload 4, 2) := by decide +kernel
theorem d_S_tryBy_83 : decode m_S_tryBy.2.1 83 = .ok (.invokevirtual 131, 3) := by decide +kernel
theorem d_S_tryBy_86 : decode m_S_tryBy.2.1 86 = .ok (.ifCond .eq 25, 3) := by decide +kernel
theorem d_S_tryBy_89 : decode m_S_tryBy.2.1 89 = .ok (.aload_n 1, 1) := by decide +kernel
theorem d_S_tryBy_90 : decode m_S_tryBy.2.1 90 = .ok (.iload 5, 2) := by decide +kernel
theorem d_S_tryBy_92 : decode m_S_tryBy.2.1 92 = .ok (.iload 6, 2) := by decide +kernel
theorem d_S_tryBy_94 : decode m_S_tryBy.2.1 94 = .ok (.iload 4, 2) := by decide +kernel
theorem d_S_tryBy_96 : decode m_S_tryBy.2.1 96 = .ok (.iconst 1, 1) := by decide +kernel
theorem d_S_tryBy_97 : decode m_S_tryBy.2.1 97 = .ok (.invokevirtual 127, 3) := by decide +kernel
theorem d_S_tryBy_100 : decode m_S_tryBy.2.1 100 = .ok (.aload_n 0, 1) := by decide +kernel
theorem d_S_tryBy_101 : decode m_S_tryBy.2.1 101 = .ok (.aload_n 1, 1) := by decide +kernel
theorem d_S_tryBy_102 : decode m_S_tryBy.2.1 102 = .ok (.iload_n 2, 1) := by decide +kernel
theorem d_S_tryBy_103 : decode m_S_tryBy.2.1 103 = .ok (.iload_n 3, 1) := by decide +kernel
theorem d_S_tryBy_104 : decode m_S_tryBy.2.1 104 = .ok (.iload 7, 2) := by decide +kernel
theorem d_S_tryBy_106 : decode m_S_tryBy.2.1 106 = .ok (.iconst 1, 1) := by decide +kernel
theorem d_S_tryBy_107 : decode m_S_tryBy.2.1 107 = .ok (.iadd, 1) := by decide +kernel
theorem d_S_tryBy_108 : decode m_S_tryBy.2.1 108 = .ok (.invokevirtual 106, 3) := by decide +kernel
theorem d_S_tryBy_111 : decode m_S_tryBy.2.1 111 = .ok (.return_, 1) := by decide +kernel
def f_S_tryBy_76 (p1 : Nat) (x2 x3 x4 x5 x6 x7 : Int) (w : qMem) : Option (qMem) :=
  (f_N_escapeLets p1 x5 x6 x4 w).bind fun q1 =>
  if q1.1 = 0 then
  some q1.2
  else
  (f_N_shift p1 x5 x6 x4 1 q1.2).bind fun q3 =>
  (f_S_close p1 x2 x3 (w32 (x7 + 1)) q3).bind fun q4 =>
  some q4
set_option maxRecDepth 4000 in
theorem s_S_tryBy_76 {p1 : Nat} (hp1 : qIs kLN 100 p1) : ∀ (x2 x3 x4 x5 x6 x7 : Int) (w : qMem), qSim κV 100 100 m_S_tryBy 76 [] [some (qR 74), some (qR p1), some (qI x2), some (qI x3), some (qI x4), some (qI x5), some (qI x6), some (qI x7)] w (f_S_tryBy_76 p1 x2 x3 x4 x5 x6 x7 w) := by
  intro x2 x3 x4 x5 x6 x7 w
  unfold f_S_tryBy_76
  refine z_aload_n d_S_tryBy_76 rfl ?_
  refine z_iload d_S_tryBy_77 rfl ?_
  refine z_iload d_S_tryBy_79 rfl ?_
  refine z_iload d_S_tryBy_81 rfl ?_
  refine z_cVI (as := [qI x5, qI x6, qI x4]) (st := []) (nl := 0) (ci := 3) d_S_tryBy_83 lk_S_131 mk_N_escapeLets rfl rfl (hp1 0 _ rfl).1 rfl rfl rfl (s_N_escapeLets _ _ _ hp1 _) (fun q1 _ hq1 => ?_)
  refine z_if_eq (tgt := 111) d_S_tryBy_86 rfl (fun c2 => ?_) (fun c2 => ?_)
  · exact z_vret d_S_tryBy_111 rfl rfl
  · refine z_aload_n d_S_tryBy_89 rfl ?_
    refine z_iload d_S_tryBy_90 rfl ?_
    refine z_iload d_S_tryBy_92 rfl ?_
    refine z_iload d_S_tryBy_94 rfl ?_
    refine z_ic1 d_S_tryBy_96 ?_
    refine z_cVV (as := [qI x5, qI x6, qI x4, qI 1]) (st := []) (nl := 4) (ci := 3) d_S_tryBy_97 lk_S_127 mk_N_shift rfl rfl (hp1 0 _ rfl).1 rfl rfl rfl (s_N_shift _ _ _ _ hp1 _) (fun q3 _ => ?_)
    refine z_aload_n d_S_tryBy_100 rfl ?_
    refine z_aload_n d_S_tryBy_101 rfl ?_
    refine z_iload_n d_S_tryBy_102 rfl ?_
    refine z_iload_n d_S_tryBy_103 rfl ?_
    refine z_iload d_S_tryBy_104 rfl ?_
    refine z_ic1 d_S_tryBy_106 ?_
    refine z_iadd d_S_tryBy_107 ?_
    refine z_cVV (as := [qR p1, qI x2, qI x3, qI (w32 (x7 + 1))]) (st := []) (nl := 0) (ci := 8) d_S_tryBy_108 lk_S_106 mk_S_close rfl rfl rfl rfl rfl rfl (s_S_close _ _ _ hp1 _) (fun q4 _ => ?_)
    exact z_vret d_S_tryBy_111 rfl rfl
def f_S_tryBy (p1 : Nat) (x2 : Int) (x3 : Int) (x4 : Int) (w : qMem) : Option (qMem) :=
  qld w 78 3 x3 fun v5 =>
  qdv 9 <|
  qld w 78 3 x3 fun v6 =>
  qdv 9 <|
  (f_G_nextBy (p1 + 1) (jdiv v5 9) x4 w).bind fun q7 =>
  (f_N_adaptiveLets p1 (jdiv v5 9) (jrem v6 9) x4 q7.2).bind fun q8 =>
  if q8.1 = 0 then
  f_S_tryBy_76 p1 x2 x3 x4 (jdiv v5 9) (jrem v6 9) (w32 ((w32 (q7.1 * 9)) + x4)) q8.2
  else
  (f_N_shift p1 (jdiv v5 9) (jrem v6 9) x4 2 q8.2).bind fun q10 =>
  (f_S_close p1 x2 x3 (w32 ((w32 ((w32 (q7.1 * 9)) + x4)) + 5)) q10).bind fun q11 =>
  f_S_tryBy_76 p1 x2 x3 x4 (jdiv v5 9) (jrem v6 9) (w32 ((w32 (q7.1 * 9)) + x4)) q11
set_option maxRecDepth 4000 in
theorem s_S_tryBy {p1 : Nat} (x2 : Int) (x3 : Int) (x4 : Int) (hp1 : qIs kLN 100 p1) (w : qMem) : qSim κV 100 100 m_S_tryBy 0 [] [some (qR 74), some (qR p1), some (qI x2), some (qI x3), some (qI x4), none, none, none] w (f_S_tryBy p1 x2 x3 x4 w) := by
  unfold f_S_tryBy
  refine z_aload_n d_S_tryBy_0 rfl ?_
  refine z_gr (ci := 8) (j := 3) (d := 4) (o2 := 78) d_S_tryBy_1 rfl fl_S_22 rfl (Nat.le_of_ble_eq_true rfl) rfl rfl ?_
  refine z_iload_n d_S_tryBy_4 rfl ?_
  refine z_il d_S_tryBy_5 rfl rfl (fun v5 => ?_)
  refine z_bipush d_S_tryBy_6 ⟨by decide, by decide⟩ ?_
  refine z_idiv d_S_tryBy_8 (fun _ => ?_)
  refine z_istore (pls' := [some (qR 74), some (qR p1), some (qI x2), some (qI x3), some (qI x4), some (qI (jdiv v5 9)), none, none]) d_S_tryBy_9 (by decide) rfl rfl ?_
  refine z_aload_n d_S_tryBy_11 rfl ?_
  refine z_gr (ci := 8) (j := 3) (d := 4) (o2 := 78) d_S_tryBy_12 rfl fl_S_22 rfl (Nat.le_of_ble_eq_true rfl) rfl rfl ?_
  refine z_iload_n d_S_tryBy_15 rfl ?_
  refine z_il d_S_tryBy_16 rfl rfl (fun v6 => ?_)
  refine z_bipush d_S_tryBy_17 ⟨by decide, by decide⟩ ?_
  refine z_irem d_S_tryBy_19 (fun _ => ?_)
  refine z_istore (pls' := [some (qR 74), some (qR p1), some (qI x2), some (qI x3), some (qI x4), some (qI (jdiv v5 9)), some (qI (jrem v6 9)), none]) d_S_tryBy_20 (by decide) rfl rfl ?_
  refine z_aload_n d_S_tryBy_22 rfl ?_
  refine z_gr (ci := 3) (j := 0) (d := 1) (o2 := (p1 + 1)) d_S_tryBy_23 rfl fl_S_113 (hp1 0 _ rfl).1 ((hp1 0 _ rfl).2 (Nat.le_of_ble_eq_true rfl)) rfl rfl ?_
  refine z_iload d_S_tryBy_26 rfl ?_
  refine z_iload d_S_tryBy_28 rfl ?_
  refine z_cVI (as := [qI (jdiv v5 9), qI x4]) (st := []) (nl := 0) (ci := 0) d_S_tryBy_30 lk_S_117 mk_G_nextBy rfl rfl (hp1 1 _ rfl).1 rfl rfl rfl (s_G_nextBy _ _ (is_N_G hp1) _) (fun q7 _ hq7 => ?_)
  refine z_bipush d_S_tryBy_33 ⟨by decide, by decide⟩ ?_
  refine z_imul d_S_tryBy_35 ?_
  refine z_iload d_S_tryBy_36 rfl ?_
  refine z_iadd d_S_tryBy_38 ?_
  refine z_istore (pls' := [some (qR 74), some (qR p1), some (qI x2), some (qI x3), some (qI x4), some (qI (jdiv v5 9)), some (qI (jrem v6 9)), some (qI (w32 ((w32 (q7.1 * 9)) + x4)))]) d_S_tryBy_39 (by decide) rfl rfl ?_
  refine z_aload_n d_S_tryBy_41 rfl ?_
  refine z_iload d_S_tryBy_42 rfl ?_
  refine z_iload d_S_tryBy_44 rfl ?_
  refine z_iload d_S_tryBy_46 rfl ?_
  refine z_cVI (as := [qI (jdiv v5 9), qI (jrem v6 9), qI x4]) (st := []) (nl := 0) (ci := 3) d_S_tryBy_48 lk_S_123 mk_N_adaptiveLets rfl rfl (hp1 0 _ rfl).1 rfl rfl rfl (s_N_adaptiveLets _ _ _ hp1 _) (fun q8 _ hq8 => ?_)
  refine z_if_eq (tgt := 76) d_S_tryBy_51 rfl (fun c9 => ?_) (fun c9 => ?_)
  · refine z_mask [true, true, true, true, true, true, true, true] ?_
    exact s_S_tryBy_76 hp1 _ _ _ _ _ _ _
  · refine z_aload_n d_S_tryBy_54 rfl ?_
    refine z_iload d_S_tryBy_55 rfl ?_
    refine z_iload d_S_tryBy_57 rfl ?_
    refine z_iload d_S_tryBy_59 rfl ?_
    refine z_ic2 d_S_tryBy_61 ?_
    refine z_cVV (as := [qI (jdiv v5 9), qI (jrem v6 9), qI x4, qI 2]) (st := []) (nl := 4) (ci := 3) d_S_tryBy_62 lk_S_127 mk_N_shift rfl rfl (hp1 0 _ rfl).1 rfl rfl rfl (s_N_shift _ _ _ _ hp1 _) (fun q10 _ => ?_)
    refine z_aload_n d_S_tryBy_65 rfl ?_
    refine z_aload_n d_S_tryBy_66 rfl ?_
    refine z_iload_n d_S_tryBy_67 rfl ?_
    refine z_iload_n d_S_tryBy_68 rfl ?_
    refine z_iload d_S_tryBy_69 rfl ?_
    refine z_ic5 d_S_tryBy_71 ?_
    refine z_iadd d_S_tryBy_72 ?_
    refine z_cVV (as := [qR p1, qI x2, qI x3, qI (w32 ((w32 ((w32 (q7.1 * 9)) + x4)) + 5))]) (st := []) (nl := 0) (ci := 8) d_S_tryBy_73 lk_S_106 mk_S_close rfl rfl rfl rfl rfl rfl (s_S_close _ _ _ hp1 _) (fun q11 _ => ?_)
    refine z_mask [true, true, true, true, true, true, true, true] ?_
    exact s_S_tryBy_76 hp1 _ _ _ _ _ _ _
/-! BubbleTorus$Search.extend -/
theorem d_S_extend_0 : decode m_S_extend.2.1 0 = .ok (.aload_n 0, 1) := by decide +kernel
theorem d_S_extend_1 : decode m_S_extend.2.1 1 = .ok (.iconst 0, 1) := by decide +kernel
theorem d_S_extend_2 : decode m_S_extend.2.1 2 = .ok (.putfield 38, 3) := by decide +kernel
theorem d_S_extend_5 : decode m_S_extend.2.1 5 = .ok (.iconst 0, 1) := by decide +kernel
theorem d_S_extend_6 : decode m_S_extend.2.1 6 = .ok (.istore_n 3, 1) := by decide +kernel
theorem d_S_extend_7 : decode m_S_extend.2.1 7 = .ok (.iload_n 3, 1) := by decide +kernel
theorem d_S_extend_8 : decode m_S_extend.2.1 8 = .ok (.aload_n 0, 1) := by decide +kernel
theorem d_S_extend_9 : decode m_S_extend.2.1 9 = .ok (.getfield 31, 3) := by decide +kernel
theorem d_S_extend_12 : decode m_S_extend.2.1 12 = .ok (.if_icmp .ge 109, 3) := by decide +kernel
theorem d_S_extend_15 : decode m_S_extend.2.1 15 = .ok (.aload_n 0, 1) := by decide +kernel
theorem d_S_extend_16 : decode m_S_extend.2.1 16 = .ok (.getfield 22, 3) := by decide +kernel
theorem d_S_extend_19 : decode m_S_extend.2.1 19 = .ok (.iload_n 3, 1) := by decide +kernel
theorem d_S_extend_20 : decode m_S_extend.2.1 20 = .ok (.iaload, 1) := by decide +kernel
theorem d_S_extend_21 : decode m_S_extend.2.1 21 = .ok (.istore 4, 2) := by decide +kernel
theorem d_S_extend_23 : decode m_S_extend.2.1 23 = .ok (.iload 4, 2) := by decide +kernel
theorem d_S_extend_25 : decode m_S_extend.2.1 25 = .ok (.sipush 144, 3) := by decide +kernel
theorem d_S_extend_28 : decode m_S_extend.2.1 28 = .ok (.if_icmp .eq 87, 3) := by decide +kernel
theorem d_S_extend_31 : decode m_S_extend.2.1 31 = .ok (.aload_n 1, 1) := by decide +kernel
theorem d_S_extend_32 : decode m_S_extend.2.1 32 = .ok (.getfield 89, 3) := by decide +kernel
theorem d_S_extend_35 : decode m_S_extend.2.1 35 = .ok (.iload 4, 2) := by decide +kernel
theorem d_S_extend_37 : decode m_S_extend.2.1 37 = .ok (.invokevirtual 93, 3) := by decide +kernel
theorem d_S_extend_40 : decode m_S_extend.2.1 40 = .ok (.aload_n 0, 1) := by decide +kernel
theorem d_S_extend_41 : decode m_S_extend.2.1 41 = .ok (.getfield 19, 3) := by decide +kernel
theorem d_S_extend_44 : decode m_S_extend.2.1 44 = .ok (.iload_n 3, 1) := by decide +kernel
theorem d_S_extend_45 : decode m_S_extend.2.1 45 = .ok (.iaload, 1) := by decide +kernel
theorem d_S_extend_46 : decode m_S_extend.2.1 46 = .ok (.if_icmp .eq 6, 3) := by decide +kernel
theorem d_S_extend_49 : decode m_S_extend.2.1 49 = .ok (.goto 66, 3) := by decide +kernel
theorem d_S_extend_52 : decode m_S_extend.2.1 52 = .ok (.aload_n 1, 1) := by decide +kernel
theorem d_S_extend_53 : decode m_S_extend.2.1 53 = .ok (.iload 4, 2) := by decide +kernel
theorem d_S_extend_55 : decode m_S_extend.2.1 55 = .ok (.bipush 9, 2) := by decide +kernel
theorem d_S_extend_57 : decode m_S_extend.2.1 57 = .ok (.idiv, 1) := by decide +kernel
theorem d_S_extend_58 : decode m_S_extend.2.1 58 = .ok (.iload 4, 2) := by decide +kernel
theorem d_S_extend_60 : decode m_S_extend.2.1 60 = .ok (.bipush 9, 2) := by decide +kernel
theorem d_S_extend_62 : decode m_S_extend.2.1 62 = .ok (.irem, 1) := by decide +kernel
theorem d_S_extend_63 : decode m_S_extend.2.1 63 = .ok (.invokevirtual 98, 3) := by decide +kernel
theorem d_S_extend_66 : decode m_S_extend.2.1 66 = .ok (.ifCond .eq 25, 3) := by decide +kernel
theorem d_S_extend_69 : decode m_S_extend.2.1 69 = .ok (.aload_n 1, 1) := by decide +kernel
theorem d_S_extend_70 : decode m_S_extend.2.1 70 = .ok (.getfield 89, 3) := by decide +kernel
theorem d_S_extend_73 : decode m_S_extend.2.1 73 = .ok (.iload 4, 2) := by decide +kernel
theorem d_S_extend_75 : decode m_S_extend.2.1 75 = .ok (.invokevirtual 102, 3) := by decide +kernel
theorem d_S_extend_78 : decode m_S_extend.2.1 78 = .ok (.aload_n 0, 1) := by decide +kernel
theorem d_S_extend_79 : decode m_S_extend.2.1 79 = .ok (.aload_n 1, 1) := by decide +kernel
theorem d_S_extend_80 : decode m_S_extend.2.1 80 = .ok (.iload_n 2, 1) := by decide +kernel
theorem d_S_extend_81 : decode m_S_extend.2.1 81 = .ok (.iload_n 3, 1) := by decide +kernel
theorem d_S_extend_82 : decode m_S_extend.2.1 82 = .ok (.sipush 144, 3) := by decide +kernel
theorem d_S_extend_85 : decode m_S_extend.2.1 85 = .ok (.invokevirtual 106, 3) := by decide +kernel
theorem d_S_extend_88 : decode m_S_extend.2.1 88 = .ok (.goto 27, 3) := by decide +kernel
theorem d_S_extend_91 : decode m_S_extend.2.1 91 = .ok (.iconst 0, 1) := by decide +kernel
theorem d_S_extend_92 : decode m_S_extend.2.1 92 = .ok (.istore 5, 2) := by decide +kernel
theorem d_S_extend_94 : decode m_S_extend.2.1 94 = .ok (.iload 5, 2) := by decide +kernel
theorem d_S_extend_96 : decode m_S_extend.2.1 96 = .ok (.iconst 4, 1) := by decide +kernel
theorem d_S_extend_97 : decode m_S_extend.2.1 97 = .ok (.if_icmp .ge 18, 3) := by decide +kernel
theorem d_S_extend_100 : decode m_S_extend.2.1 100 = .ok (.aload_n 0, 1) := by decide +kernel
theorem d_S_extend_101 : decode m_S_extend.2.1 101 = .ok (.aload_n 1, 1) := by decide +kernel
theorem d_S_extend_102 : decode m_S_extend.2.1 102 = .ok (.iload_n 2, 1) := by decide +kernel
theorem d_S_extend_103 : decode m_S_extend.2.1 103 = .ok (.iload_n 3, 1) := by decide +kernel
theorem d_S_extend_104 : decode m_S_extend.2.1 104 = .ok (.iload 5, 2) := by decide +kernel
theorem d_S_extend_106 : decode m_S_extend.2.1 106 = .ok (.invokevirtual 110, 3) := by decide +kernel
theorem d_S_extend_109 : decode m_S_extend.2.1 109 = .ok (.iinc 5 1, 3) := by decide +kernel
theorem d_S_extend_112 : decode m_S_extend.2.1 112 = .ok (.goto (-18), 3) := by decide +kernel
theorem d_S_extend_115 : decode m_S_extend.2.1 115 = .ok (.iinc 3 1, 3) := by decide +kernel
theorem d_S_extend_118 : decode m_S_extend.2.1 118 = .ok (.goto (-111), 3) := by decide +kernel
theorem d_S_extend_121 : decode m_S_extend.2.1 121 = .ok (.return_, 1) := by decide +kernel
def f_S_extend_94 (p1 : Nat) (r7 : Int → Int → qMem → Option (qMem)) : Nat → Int → Int → Int → qMem → Option (qMem)
  | 0, _, _, _, _ => none
  | n + 1, x2, x3, x5, w =>
    if x5 < 4 then
    (f_S_tryBy p1 x2 x3 x5 w).bind fun q2 =>
    (f_S_extend_94 p1 r7 n) x2 x3 (w32 (x5 + 1)) q2
    else
    r7 x2 (w32 (x3 + 1)) w
set_option maxRecDepth 4000 in
theorem s_S_extend_94 {p1 : Nat} (hp1 : qIs kLN 100 p1) {r7 : Int → Int → qMem → Option (qMem)} (hr7 : ∀ x2 x3 w, qSim κV 100 100 m_S_extend 7 [] [some (qR 74), some (qR p1), some (qI x2), some (qI x3), none, none] w (r7 x2 x3 w)) : ∀ (n : Nat), ∀ (x2 x3 x5 : Int) (w : qMem), qSim κV 100 100 m_S_extend 94 [] [some (qR 74), some (qR p1), some (qI x2), some (qI x3), none, some (qI x5)] w (f_S_extend_94 p1 r7 n x2 x3 x5 w) := by
  intro n
  induction n with
  | zero => intro x2 x3 x5 w; exact z_none
  | succ n ih =>
    intro x2 x3 x5 w
    rw [f_S_extend_94]
    refine z_iload d_S_extend_94 rfl ?_
    refine z_ic4 d_S_extend_96 ?_
    refine z_icmp_ge (tgt := 115) d_S_extend_97 rfl (fun c1 => ?_) (fun c1 => ?_)
    · refine z_aload_n d_S_extend_100 rfl ?_
      refine z_aload_n d_S_extend_101 rfl ?_
      refine z_iload_n d_S_extend_102 rfl ?_
      refine z_iload_n d_S_extend_103 rfl ?_
      refine z_iload d_S_extend_104 rfl ?_
      refine z_cVV (as := [qR p1, qI x2, qI x3, qI x5]) (st := []) (nl := 3) (ci := 8) d_S_extend_106 lk_S_110 mk_S_tryBy rfl rfl rfl rfl rfl rfl (s_S_tryBy _ _ _ hp1 _) (fun q2 _ => ?_)
      refine z_iinc (pls' := [some (qR 74), some (qR p1), some (qI x2), some (qI x3), none, some (qI (w32 (x5 + 1)))]) d_S_extend_109 (by decide) rfl rfl rfl ?_
      refine z_goto (tgt := 94) d_S_extend_112 rfl ?_
      refine z_mask [true, true, true, true, false, true] ?_
      exact ih _ _ _ _
    · refine z_iinc (pls' := [some (qR 74), some (qR p1), some (qI x2), some (qI (w32 (x3 + 1))), none, some (qI x5)]) d_S_extend_115 (by decide) rfl rfl rfl ?_
      refine z_goto (tgt := 7) d_S_extend_118 rfl ?_
      refine z_mask [true, true, true, true, false, false] ?_
      exact hr7 _ _ _
def f_S_extend_7 (p1 : Nat) : Nat → Int → Int → qMem → Option (qMem)
  | 0, _, _, _ => none
  | n + 1, x2, x3, w =>
    if x3 < (w 74 6) then
    qld w 78 3 x3 fun v4 =>
    if v4 = 144 then
    (f_S_extend_7 p1 n) x2 (w32 (x3 + 1)) w
    else
    (f_Q_first (p1 + 19) v4 w).bind fun q6 =>
    qld q6.2 77 3 x3 fun v7 =>
    if q6.1 = v7 then
    qdv 9 <|
    qdv 9 <|
    (f_N_isInTo p1 (jdiv v4 9) (jrem v4 9) q6.2).bind fun q9 =>
    if q9.1 = 0 then
    f_S_extend_94 p1 (f_S_extend_7 p1 n) qFU x2 x3 0 q9.2
    else
    (f_Q_dropFirst (p1 + 19) v4 q9.2).bind fun q11 =>
    (f_S_close p1 x2 x3 144 q11).bind fun q12 =>
    (f_S_extend_7 p1 n) x2 (w32 (x3 + 1)) q12
    else
    (f_S_extend_7 p1 n) x2 (w32 (x3 + 1)) q6.2
    else
    some w
set_option maxRecDepth 4000 in
theorem s_S_extend_7 {p1 : Nat} (hp1 : qIs kLN 100 p1) : ∀ (n : Nat), ∀ (x2 x3 : Int) (w : qMem), qSim κV 100 100 m_S_extend 7 [] [some (qR 74), some (qR p1), some (qI x2), some (qI x3), none, none] w (f_S_extend_7 p1 n x2 x3 w) := by
  intro n
  induction n with
  | zero => intro x2 x3 w; exact z_none
  | succ n ih =>
    intro x2 x3 w
    rw [f_S_extend_7]
    refine z_iload_n d_S_extend_7 rfl ?_
    refine z_aload_n d_S_extend_8 rfl ?_
    refine z_gi (ci := 8) (j := 6) (ji := 6) d_S_extend_9 rfl fl_S_31 rfl rfl rfl ?_
    refine z_icmp_ge (tgt := 121) d_S_extend_12 rfl (fun c3 => ?_) (fun c3 => ?_)
    · refine z_aload_n d_S_extend_15 rfl ?_
      refine z_gr (ci := 8) (j := 3) (d := 4) (o2 := 78) d_S_extend_16 rfl fl_S_22 rfl (Nat.le_of_ble_eq_true rfl) rfl rfl ?_
      refine z_iload_n d_S_extend_19 rfl ?_
      refine z_il d_S_extend_20 rfl rfl (fun v4 => ?_)
      refine z_istore (pls' := [some (qR 74), some (qR p1), some (qI x2), some (qI x3), some (qI v4), none]) d_S_extend_21 (by decide) rfl rfl ?_
      refine z_iload d_S_extend_23 rfl ?_
      refine z_sipush d_S_extend_25 ⟨by decide, by decide⟩ ?_
      refine z_icmp_eq (tgt := 115) d_S_extend_28 rfl (fun c5 => ?_) (fun c5 => ?_)
      · refine z_iinc (pls' := [some (qR 74), some (qR p1), some (qI x2), some (qI (w32 (x3 + 1))), some (qI v4), none]) d_S_extend_115 (by decide) rfl rfl rfl ?_
        refine z_goto (tgt := 7) d_S_extend_118 rfl ?_
        refine z_mask [true, true, true, true, false, false] ?_
        exact ih _ _ _
      · refine z_aload_n d_S_extend_31 rfl ?_
        refine z_gr (ci := 3) (j := 2) (d := 19) (o2 := (p1 + 19)) d_S_extend_32 rfl fl_S_89 (hp1 0 _ rfl).1 ((hp1 0 _ rfl).2 (Nat.le_of_ble_eq_true rfl)) rfl rfl ?_
        refine z_iload d_S_extend_35 rfl ?_
        refine z_cVI (as := [qI v4]) (st := []) (nl := 0) (ci := 6) d_S_extend_37 lk_S_93 mk_Q_first rfl rfl (hp1 19 _ rfl).1 rfl rfl rfl (s_Q_first _ (is_N_Q hp1) _) (fun q6 _ hq6 => ?_)
        refine z_aload_n d_S_extend_40 rfl ?_
        refine z_gr (ci := 8) (j := 2) (d := 3) (o2 := 77) d_S_extend_41 rfl fl_S_19 rfl (Nat.le_of_ble_eq_true rfl) rfl rfl ?_
        refine z_iload_n d_S_extend_44 rfl ?_
        refine z_il d_S_extend_45 rfl rfl (fun v7 => ?_)
        refine z_icmp_eq (tgt := 52) d_S_extend_46 rfl (fun c8 => ?_) (fun c8 => ?_)
        · refine z_aload_n d_S_extend_52 rfl ?_
          refine z_iload d_S_extend_53 rfl ?_
          refine z_bipush d_S_extend_55 ⟨by decide, by decide⟩ ?_
          refine z_idiv d_S_extend_57 (fun _ => ?_)
          refine z_iload d_S_extend_58 rfl ?_
          refine z_bipush d_S_extend_60 ⟨by decide, by decide⟩ ?_
          refine z_irem d_S_extend_62 (fun _ => ?_)
          refine z_cVI (as := [qI (jdiv v4 9), qI (jrem v4 9)]) (st := []) (nl := 1) (ci := 3) d_S_extend_63 lk_S_98 mk_N_isInTo rfl rfl (hp1 0 _ rfl).1 rfl rfl rfl (s_N_isInTo _ _ hp1 _) (fun q9 _ hq9 => ?_)
          refine z_if_eq (tgt := 91) d_S_extend_66 rfl (fun c10 => ?_) (fun c10 => ?_)
          · refine z_ic0 d_S_extend_91 ?_
            refine z_istore (pls' := [some (qR 74), some (qR p1), some (qI x2), some (qI x3), some (qI v4), some (qI 0)]) d_S_extend_92 (by decide) rfl rfl ?_
            refine z_mask [true, true, true, true, false, true] ?_
            exact s_S_extend_94 hp1 ih _ _ _ _ _
          · refine z_aload_n d_S_extend_69 rfl ?_
            refine z_gr (ci := 3) (j := 2) (d := 19) (o2 := (p1 + 19)) d_S_extend_70 rfl fl_S_89 (hp1 0 _ rfl).1 ((hp1 0 _ rfl).2 (Nat.le_of_ble_eq_true rfl)) rfl rfl ?_
            refine z_iload d_S_extend_73 rfl ?_
            refine z_cVV (as := [qI v4]) (st := []) (nl := 2) (ci := 6) d_S_extend_75 lk_S_102 mk_Q_dropFirst rfl rfl (hp1 19 _ rfl).1 rfl rfl rfl (s_Q_dropFirst _ (is_N_Q hp1) _) (fun q11 _ => ?_)
            refine z_aload_n d_S_extend_78 rfl ?_
            refine z_aload_n d_S_extend_79 rfl ?_
            refine z_iload_n d_S_extend_80 rfl ?_
            refine z_iload_n d_S_extend_81 rfl ?_
            refine z_sipush d_S_extend_82 ⟨by decide, by decide⟩ ?_
            refine z_cVV (as := [qR p1, qI x2, qI x3, qI 144]) (st := []) (nl := 0) (ci := 8) d_S_extend_85 lk_S_106 mk_S_close rfl rfl rfl rfl rfl rfl (s_S_close _ _ _ hp1 _) (fun q12 _ => ?_)
            refine z_goto (tgt := 115) d_S_extend_88 rfl ?_
            refine z_iinc (pls' := [some (qR 74), some (qR p1), some (qI x2), some (qI (w32 (x3 + 1))), some (qI v4), none]) d_S_extend_115 (by decide) rfl rfl rfl ?_
            refine z_goto (tgt := 7) d_S_extend_118 rfl ?_
            refine z_mask [true, true, true, true, false, false] ?_
            exact ih _ _ _
        · refine z_goto (tgt := 115) d_S_extend_49 rfl ?_
          refine z_iinc (pls' := [some (qR 74), some (qR p1), some (qI x2), some (qI (w32 (x3 + 1))), some (qI v4), none]) d_S_extend_115 (by decide) rfl rfl rfl ?_
          refine z_goto (tgt := 7) d_S_extend_118 rfl ?_
          refine z_mask [true, true, true, true, false, false] ?_
          exact ih _ _ _
    · exact z_vret d_S_extend_121 rfl rfl
def f_S_extend (p1 : Nat) (x2 : Int) (w : qMem) : Option (qMem) :=
  qlt (qud w 74 8 0) fun w13 =>
  f_S_extend_7 p1 qFU x2 0 w13
set_option maxRecDepth 4000 in
theorem s_S_extend {p1 : Nat} (x2 : Int) (hp1 : qIs kLN 100 p1) (w : qMem) : qSim κV 100 100 m_S_extend 0 [] [some (qR 74), some (qR p1), some (qI x2), none, none, none] w (f_S_extend p1 x2 w) := by
  unfold f_S_extend
  refine z_aload_n d_S_extend_0 rfl ?_
  refine z_ic0 d_S_extend_1 ?_
  refine z_pi (ci := 8) (j := 8) (ji := 8) d_S_extend_2 rfl fl_S_38 rfl rfl rfl rfl rfl (fun w13 => ?_)
  refine z_ic0 d_S_extend_5 ?_
  refine z_istore_n (pls' := [some (qR 74), some (qR p1), some (qI x2), some (qI 0), none, none]) d_S_extend_6 (by decide) rfl rfl ?_
  refine z_mask [true, true, true, true, false, false] ?_
  exact s_S_extend_7 hp1 _ _ _ _
/-! BubbleTorus$Search.weigh -/
theorem d_S_weigh_0 : decode m_S_weigh.2.1 0 = .ok (.iconst 1, 1) := by decide +kernel
theorem d_S_weigh_1 : decode m_S_weigh.2.1 1 = .ok (.istore_n 3, 1) := by decide +kernel
theorem d_S_weigh_2 : decode m_S_weigh.2.1 2 = .ok (.iconst 0, 1) := by decide +kernel
theorem d_S_weigh_3 : decode m_S_weigh.2.1 3 = .ok (.istore 4, 2) := by decide +kernel
theorem d_S_weigh_5 : decode m_S_weigh.2.1 5 = .ok (.iload 4, 2) := by decide +kernel
theorem d_S_weigh_7 : decode m_S_weigh.2.1 7 = .ok (.aload_n 0, 1) := by decide +kernel
theorem d_S_weigh_8 : decode m_S_weigh.2.1 8 = .ok (.getfield 31, 3) := by decide +kernel
theorem d_S_weigh_11 : decode m_S_weigh.2.1 11 = .ok (.if_icmp .ge 32, 3) := by decide +kernel
theorem d_S_weigh_14 : decode m_S_weigh.2.1 14 = .ok (.iload_n 3, 1) := by decide +kernel
theorem d_S_weigh_15 : decode m_S_weigh.2.1 15 = .ok (.ifCond .eq 20, 3) := by decide +kernel
theorem d_S_weigh_18 : decode m_S_weigh.2.1 18 = .ok (.aload_n 0, 1) := by decide +kernel
theorem d_S_weigh_19 : decode m_S_weigh.2.1 19 = .ok (.getfield 22, 3) := by decide +kernel
theorem d_S_weigh_22 : decode m_S_weigh.2.1 22 = .ok (.iload 4, 2) := by decide +kernel
theorem d_S_weigh_24 : decode m_S_weigh.2.1 24 = .ok (.iaload, 1) := by decide +kernel
theorem d_S_weigh_25 : decode m_S_weigh.2.1 25 = .ok (.sipush 144, 3) := by decide +kernel
theorem d_S_weigh_28 : decode m_S_weigh.2.1 28 = .ok (.if_icmp .ne 7, 3) := by decide +kernel
theorem d_S_weigh_31 : decode m_S_weigh.2.1 31 = .ok (.iconst 1, 1) := by decide +kernel
theorem d_S_weigh_32 : decode m_S_weigh.2.1 32 = .ok (.goto 4, 3) := by decide +kernel
theorem d_S_weigh_35 : decode m_S_weigh.2.1 35 = .ok (.iconst 0, 1) := by decide +kernel
theorem d_S_weigh_36 : decode m_S_weigh.2.1 36 = .ok (.istore_n 3, 1) := by decide +kernel
theorem d_S_weigh_37 : decode m_S_weigh.2.1 37 = .ok (.iinc 4 1, 3) := by decide +kernel
theorem d_S_weigh_40 : decode m_S_weigh.2.1 40 = .ok (.goto (-35), 3) := by decide +kernel
theorem d_S_weigh_43 : decode m_S_weigh.2.1 43 = .ok (.iload_n 3, 1) := by decide +kernel
theorem d_S_weigh_44 : decode m_S_weigh.2.1 44 = .ok (.ifCond .eq 28, 3) := by decide +kernel
theorem d_S_weigh_47 : decode m_S_weigh.2.1 47 = .ok (.aload_n 0, 1) := by decide +kernel
theorem d_S_weigh_48 : decode m_S_weigh.2.1 48 = .ok (.getfield 28, 3) := by decide +kernel
theorem d_S_weigh_51 : decode m_S_weigh.2.1 51 = .ok (.iconst 2, 1) := by decide +kernel
theorem d_S_weigh_52 : decode m_S_weigh.2.1 52 = .ok (.aload_n 0, 1) := by decide +kernel
theorem d_S_weigh_53 : decode m_S_weigh.2.1 53 = .ok (.getfield 28, 3) := by decide +kernel
theorem d_S_weigh_56 : decode m_S_weigh.2.1 56 = .ok (.iconst 2, 1) := by decide +kernel
theorem d_S_weigh_57 : decode m_S_weigh.2.1 57 = .ok (.iaload, 1) := by decide +kernel
theorem d_S_weigh_58 : decode m_S_weigh.2.1 58 = .ok (.aload_n 0, 1) := by decide +kernel
theorem d_S_weigh_59 : decode m_S_weigh.2.1 59 = .ok (.getfield 15, 3) := by decide +kernel
theorem d_S_weigh_62 : decode m_S_weigh.2.1 62 = .ok (.iload_n 2, 1) := by decide +kernel
theorem d_S_weigh_63 : decode m_S_weigh.2.1 63 = .ok (.iaload, 1) := by decide +kernel
theorem d_S_weigh_64 : decode m_S_weigh.2.1 64 = .ok (.iadd, 1) := by decide +kernel
theorem d_S_weigh_65 : decode m_S_weigh.2.1 65 = .ok (.ldc 138, 2) := by decide +kernel
theorem d_S_weigh_67 : decode m_S_weigh.2.1 67 = .ok (.irem, 1) := by decide +kernel
theorem d_S_weigh_68 : decode m_S_weigh.2.1 68 = .ok (.iastore, 1) := by decide +kernel
theorem d_S_weigh_69 : decode m_S_weigh.2.1 69 = .ok (.goto 20, 3) := by decide +kernel
theorem d_S_weigh_72 : decode m_S_weigh.2.1 72 = .ok (.aload_n 0, 1) := by decide +kernel
theorem d_S_weigh_73 : decode m_S_weigh.2.1 73 = .ok (.getfield 38, 3) := by decide +kernel
theorem d_S_weigh_76 : decode m_S_weigh.2.1 76 = .ok (.ifCond .ne 13, 3) := by decide +kernel
theorem d_S_weigh_79 : decode m_S_weigh.2.1 79 = .ok (.aload_n 0, 1) := by decide +kernel
theorem d_S_weigh_80 : decode m_S_weigh.2.1 80 = .ok (.getfield 28, 3) := by decide +kernel
theorem d_S_weigh_83 : decode m_S_weigh.2.1 83 = .ok (.iconst 1, 1) := by decide +kernel
theorem d_S_weigh_84 : decode m_S_weigh.2.1 84 = .ok (.dup2, 1) := by decide +kernel
theorem d_S_weigh_85 : decode m_S_weigh.2.1 85 = .ok (.iaload, 1) := by decide +kernel
theorem d_S_weigh_86 : decode m_S_weigh.2.1 86 = .ok (.iconst 1, 1) := by decide +kernel
theorem d_S_weigh_87 : decode m_S_weigh.2.1 87 = .ok (.iadd, 1) := by decide +kernel
theorem d_S_weigh_88 : decode m_S_weigh.2.1 88 = .ok (.iastore, 1) := by decide +kernel
theorem d_S_weigh_89 : decode m_S_weigh.2.1 89 = .ok (.aload_n 0, 1) := by decide +kernel
theorem d_S_weigh_90 : decode m_S_weigh.2.1 90 = .ok (.getfield 28, 3) := by decide +kernel
theorem d_S_weigh_93 : decode m_S_weigh.2.1 93 = .ok (.iconst 3, 1) := by decide +kernel
theorem d_S_weigh_94 : decode m_S_weigh.2.1 94 = .ok (.aload_n 0, 1) := by decide +kernel
theorem d_S_weigh_95 : decode m_S_weigh.2.1 95 = .ok (.getfield 28, 3) := by decide +kernel
theorem d_S_weigh_98 : decode m_S_weigh.2.1 98 = .ok (.iconst 3, 1) := by decide +kernel
theorem d_S_weigh_99 : decode m_S_weigh.2.1 99 = .ok (.iaload, 1) := by decide +kernel
theorem d_S_weigh_100 : decode m_S_weigh.2.1 100 = .ok (.aload_n 1, 1) := by decide +kernel
theorem d_S_weigh_101 : decode m_S_weigh.2.1 101 = .ok (.iconst 1, 1) := by decide +kernel
theorem d_S_weigh_102 : decode m_S_weigh.2.1 102 = .ok (.invokevirtual 173, 3) := by decide +kernel
theorem d_S_weigh_105 : decode m_S_weigh.2.1 105 = .ok (.invokestatic 176, 3) := by decide +kernel
theorem d_S_weigh_108 : decode m_S_weigh.2.1 108 = .ok (.iastore, 1) := by decide +kernel
theorem d_S_weigh_109 : decode m_S_weigh.2.1 109 = .ok (.iconst 0, 1) := by decide +kernel
theorem d_S_weigh_110 : decode m_S_weigh.2.1 110 = .ok (.istore 4, 2) := by decide +kernel
theorem d_S_weigh_112 : decode m_S_weigh.2.1 112 = .ok (.iload 4, 2) := by decide +kernel
theorem d_S_weigh_114 : decode m_S_weigh.2.1 114 = .ok (.aload_n 1, 1) := by decide +kernel
theorem d_S_weigh_115 : decode m_S_weigh.2.1 115 = .ok (.getfield 113, 3) := by decide +kernel
theorem d_S_weigh_118 : decode m_S_weigh.2.1 118 = .ok (.getfield 142, 3) := by decide +kernel
theorem d_S_weigh_121 : decode m_S_weigh.2.1 121 = .ok (.if_icmp .ge 30, 3) := by decide +kernel
theorem d_S_weigh_124 : decode m_S_weigh.2.1 124 = .ok (.aload_n 0, 1) := by decide +kernel
theorem d_S_weigh_125 : decode m_S_weigh.2.1 125 = .ok (.getfield 28, 3) := by decide +kernel
theorem d_S_weigh_128 : decode m_S_weigh.2.1 128 = .ok (.iconst 4, 1) := by decide +kernel
theorem d_S_weigh_129 : decode m_S_weigh.2.1 129 = .ok (.aload_n 0, 1) := by decide +kernel
theorem d_S_weigh_130 : decode m_S_weigh.2.1 130 = .ok (.getfield 28, 3) := by decide +kernel
theorem d_S_weigh_133 : decode m_S_weigh.2.1 133 = .ok (.iconst 4, 1) := by decide +kernel
theorem d_S_weigh_134 : decode m_S_weigh.2.1 134 = .ok (.iaload, 1) := by decide +kernel
theorem d_S_weigh_135 : decode m_S_weigh.2.1 135 = .ok (.aload_n 1, 1) := by decide +kernel
theorem d_S_weigh_136 : decode m_S_weigh.2.1 136 = .ok (.iload 4, 2) := by decide +kernel
theorem d_S_weigh_138 : decode m_S_weigh.2.1 138 = .ok (.invokevirtual 181, 3) := by decide +kernel
theorem d_S_weigh_141 : decode m_S_weigh.2.1 141 = .ok (.invokestatic 184, 3) := by decide +kernel
theorem d_S_weigh_144 : decode m_S_weigh.2.1 144 = .ok (.iastore, 1) := by decide +kernel
theorem d_S_weigh_145 : decode m_S_weigh.2.1 145 = .ok (.iinc 4 1, 3) := by decide +kernel
theorem d_S_weigh_148 : decode m_S_weigh.2.1 148 = .ok (.goto (-36), 3) := by decide +kernel
theorem d_S_weigh_151 : decode m_S_weigh.2.1 151 = .ok (.return_, 1) := by decide +kernel
def f_S_weigh_36 (p1 : Nat) (r5 : Int → Int → Int → qMem → Option (qMem)) (s0 x2 x4 : Int) (w : qMem) : Option (qMem) :=
  r5 x2 s0 (w32 (x4 + 1)) w
set_option maxRecDepth 4000 in
theorem s_S_weigh_36 {p1 : Nat} (hp1 : qIs kLN 100 p1) {r5 : Int → Int → Int → qMem → Option (qMem)} (hr5 : ∀ (x2 x3 x4 : Int) (w : qMem) (hx3 : x3 = 0 ∨ x3 = 1), qSim κV 100 100 m_S_weigh 5 [] [some (qR 74), some (qR p1), some (qI x2), some (qI x3), some (qI x4)] w (r5 x2 x3 x4 w)) : ∀ (s0 x2 x4 : Int) (w : qMem), (s0 = 0 ∨ s0 = 1) → qSim κV 100 100 m_S_weigh 36 [qI s0] [some (qR 74), some (qR p1), some (qI x2), none, some (qI x4)] w (f_S_weigh_36 p1 r5 s0 x2 x4 w) := by
  intro s0 x2 x4 w hs0
  unfold f_S_weigh_36
  refine z_istore_n (pls' := [some (qR 74), some (qR p1), some (qI x2), some (qI s0), some (qI x4)]) d_S_weigh_36 (by decide) rfl rfl ?_
  refine z_iinc (pls' := [some (qR 74), some (qR p1), some (qI x2), some (qI s0), some (qI (w32 (x4 + 1)))]) d_S_weigh_37 (by decide) rfl rfl rfl ?_
  refine z_goto (tgt := 5) d_S_weigh_40 rfl ?_
  refine z_mask [true, true, true, true, true] ?_
  exact hr5 _ _ _ _ hs0
def f_S_weigh_112 (p1 : Nat) : Nat → Int → qMem → Option (qMem)
  | 0, _, _ => none
  | n + 1, x4, w =>
    if x4 < (w (p1 + 1) 6) then
    qld w 80 5 4 fun v2 =>
    (f_N_freeIn p1 x4 w).bind fun q3 =>
    qst q3.2 80 5 4 (if q3.1 < v2 then q3.1 else v2) fun w4 =>
    (f_S_weigh_112 p1 n) (w32 (x4 + 1)) w4
    else
    some w
set_option maxRecDepth 4000 in
theorem s_S_weigh_112 {p1 : Nat} (hp1 : qIs kLN 100 p1) : ∀ (n : Nat), ∀ (x4 : Int) (w : qMem), qSim κV 100 100 m_S_weigh 112 [] [some (qR 74), some (qR p1), none, none, some (qI x4)] w (f_S_weigh_112 p1 n x4 w) := by
  intro n
  induction n with
  | zero => intro x4 w; exact z_none
  | succ n ih =>
    intro x4 w
    rw [f_S_weigh_112]
    refine z_iload d_S_weigh_112 rfl ?_
    refine z_aload_n d_S_weigh_114 rfl ?_
    refine z_gr (ci := 3) (j := 0) (d := 1) (o2 := (p1 + 1)) d_S_weigh_115 rfl fl_S_113 (hp1 0 _ rfl).1 ((hp1 0 _ rfl).2 (Nat.le_of_ble_eq_true rfl)) rfl rfl ?_
    refine z_gi (ci := 0) (j := 6) (ji := 6) d_S_weigh_118 rfl fl_S_142 (hp1 1 _ rfl).1 rfl rfl ?_
    refine z_icmp_ge (tgt := 151) d_S_weigh_121 rfl (fun c1 => ?_) (fun c1 => ?_)
    · refine z_aload_n d_S_weigh_124 rfl ?_
      refine z_gr (ci := 8) (j := 5) (d := 6) (o2 := 80) d_S_weigh_125 rfl fl_S_28 rfl (Nat.le_of_ble_eq_true rfl) rfl rfl ?_
      refine z_ic4 d_S_weigh_128 ?_
      refine z_aload_n d_S_weigh_129 rfl ?_
      refine z_gr (ci := 8) (j := 5) (d := 6) (o2 := 80) d_S_weigh_130 rfl fl_S_28 rfl (Nat.le_of_ble_eq_true rfl) rfl rfl ?_
      refine z_ic4 d_S_weigh_133 ?_
      refine z_il d_S_weigh_134 rfl rfl (fun v2 => ?_)
      refine z_aload_n d_S_weigh_135 rfl ?_
      refine z_iload d_S_weigh_136 rfl ?_
      refine z_cVI (as := [qI x4]) (st := [qI v2, qI 4, qR 80]) (nl := 0) (ci := 3) d_S_weigh_138 lk_S_181 mk_N_freeIn rfl rfl (hp1 0 _ rfl).1 rfl rfl rfl (s_N_freeIn _ hp1 _) (fun q3 _ hq3 => ?_)
      refine z_min d_S_weigh_141 lk_S_184 (Nat.le_of_ble_eq_true rfl) (Nat.le_of_ble_eq_true rfl) ?_
      refine z_is d_S_weigh_144 rfl rfl (fun w4 => ?_)
      refine z_iinc (pls' := [some (qR 74), some (qR p1), none, none, some (qI (w32 (x4 + 1)))]) d_S_weigh_145 (by decide) rfl rfl rfl ?_
      refine z_goto (tgt := 112) d_S_weigh_148 rfl ?_
      refine z_mask [true, true, false, false, true] ?_
      exact ih _ _
    · exact z_vret d_S_weigh_151 rfl rfl
def f_S_weigh_89 (p1 : Nat) (w : qMem) : Option (qMem) :=
  qld w 80 5 3 fun v5 =>
  (f_N_heldInLane p1 1 w).bind fun q6 =>
  qst q6.2 80 5 3 (if v5 < q6.1 then q6.1 else v5) fun w7 =>
  f_S_weigh_112 p1 qFU 0 w7
set_option maxRecDepth 4000 in
theorem s_S_weigh_89 {p1 : Nat} (hp1 : qIs kLN 100 p1) : ∀ (w : qMem), qSim κV 100 100 m_S_weigh 89 [] [some (qR 74), some (qR p1), none, none, none] w (f_S_weigh_89 p1 w) := by
  intro w
  unfold f_S_weigh_89
  refine z_aload_n d_S_weigh_89 rfl ?_
  refine z_gr (ci := 8) (j := 5) (d := 6) (o2 := 80) d_S_weigh_90 rfl fl_S_28 rfl (Nat.le_of_ble_eq_true rfl) rfl rfl ?_
  refine z_ic3 d_S_weigh_93 ?_
  refine z_aload_n d_S_weigh_94 rfl ?_
  refine z_gr (ci := 8) (j := 5) (d := 6) (o2 := 80) d_S_weigh_95 rfl fl_S_28 rfl (Nat.le_of_ble_eq_true rfl) rfl rfl ?_
  refine z_ic3 d_S_weigh_98 ?_
  refine z_il d_S_weigh_99 rfl rfl (fun v5 => ?_)
  refine z_aload_n d_S_weigh_100 rfl ?_
  refine z_ic1 d_S_weigh_101 ?_
  refine z_cVI (as := [qI 1]) (st := [qI v5, qI 3, qR 80]) (nl := 2) (ci := 3) d_S_weigh_102 lk_S_173 mk_N_heldInLane rfl rfl (hp1 0 _ rfl).1 rfl rfl rfl (s_N_heldInLane _ hp1 _) (fun q6 _ hq6 => ?_)
  refine z_max d_S_weigh_105 lk_S_176 (Nat.le_of_ble_eq_true rfl) (Nat.le_of_ble_eq_true rfl) ?_
  refine z_is d_S_weigh_108 rfl rfl (fun w7 => ?_)
  refine z_ic0 d_S_weigh_109 ?_
  refine z_istore (pls' := [some (qR 74), some (qR p1), none, none, some (qI 0)]) d_S_weigh_110 (by decide) rfl rfl ?_
  refine z_mask [true, true, false, false, true] ?_
  exact s_S_weigh_112 hp1 _ _ _
def f_S_weigh_43 (p1 : Nat) (x2 x3 : Int) (w : qMem) : Option (qMem) :=
  if x3 = 0 then
  if (w 74 8) = 0 then
  qld w 80 5 1 fun v10 =>
  qst w 80 5 1 (w32 (v10 + 1)) fun w11 =>
  f_S_weigh_89 p1 w11
  else
  f_S_weigh_89 p1 w
  else
  qld w 80 5 2 fun v12 =>
  qld w 76 400 x2 fun v13 =>
  qdv 1000003 <|
  qst w 80 5 2 (jrem (w32 (v12 + v13)) 1000003) fun w14 =>
  f_S_weigh_89 p1 w14
set_option maxRecDepth 4000 in
theorem s_S_weigh_43 {p1 : Nat} (hp1 : qIs kLN 100 p1) : ∀ (x2 x3 : Int) (w : qMem), (x3 = 0 ∨ x3 = 1) → qSim κV 100 100 m_S_weigh 43 [] [some (qR 74), some (qR p1), some (qI x2), some (qI x3), none] w (f_S_weigh_43 p1 x2 x3 w) := by
  intro x2 x3 w hx3
  unfold f_S_weigh_43
  refine z_iload_n d_S_weigh_43 rfl ?_
  refine z_if_eq (tgt := 72) d_S_weigh_44 rfl (fun c8 => ?_) (fun c8 => ?_)
  · refine z_aload_n d_S_weigh_72 rfl ?_
    refine z_gi (ci := 8) (j := 8) (ji := 8) d_S_weigh_73 rfl fl_S_38 rfl rfl rfl ?_
    refine z_if_ne (tgt := 89) d_S_weigh_76 rfl (fun c9 => ?_) (fun c9 => ?_)
    · refine z_aload_n d_S_weigh_79 rfl ?_
      refine z_gr (ci := 8) (j := 5) (d := 6) (o2 := 80) d_S_weigh_80 rfl fl_S_28 rfl (Nat.le_of_ble_eq_true rfl) rfl rfl ?_
      refine z_ic1 d_S_weigh_83 ?_
      refine z_dup2 d_S_weigh_84 rfl rfl ?_
      refine z_il d_S_weigh_85 rfl rfl (fun v10 => ?_)
      refine z_ic1 d_S_weigh_86 ?_
      refine z_iadd d_S_weigh_87 ?_
      refine z_is d_S_weigh_88 rfl rfl (fun w11 => ?_)
      refine z_mask [true, true, false, false, false] ?_
      exact s_S_weigh_89 hp1 _
    · refine z_mask [true, true, false, false, false] ?_
      exact s_S_weigh_89 hp1 _
  · refine z_aload_n d_S_weigh_47 rfl ?_
    refine z_gr (ci := 8) (j := 5) (d := 6) (o2 := 80) d_S_weigh_48 rfl fl_S_28 rfl (Nat.le_of_ble_eq_true rfl) rfl rfl ?_
    refine z_ic2 d_S_weigh_51 ?_
    refine z_aload_n d_S_weigh_52 rfl ?_
    refine z_gr (ci := 8) (j := 5) (d := 6) (o2 := 80) d_S_weigh_53 rfl fl_S_28 rfl (Nat.le_of_ble_eq_true rfl) rfl rfl ?_
    refine z_ic2 d_S_weigh_56 ?_
    refine z_il d_S_weigh_57 rfl rfl (fun v12 => ?_)
    refine z_aload_n d_S_weigh_58 rfl ?_
    refine z_gr (ci := 8) (j := 1) (d := 2) (o2 := 76) d_S_weigh_59 rfl fl_S_15 rfl (Nat.le_of_ble_eq_true rfl) rfl rfl ?_
    refine z_iload_n d_S_weigh_62 rfl ?_
    refine z_il d_S_weigh_63 rfl rfl (fun v13 => ?_)
    refine z_iadd d_S_weigh_64 ?_
    refine z_ldc (n := 1000003) d_S_weigh_65 ck_S_138 (by decide) ?_
    refine z_irem d_S_weigh_67 (fun _ => ?_)
    refine z_is d_S_weigh_68 rfl rfl (fun w14 => ?_)
    refine z_goto (tgt := 89) d_S_weigh_69 rfl ?_
    refine z_mask [true, true, false, false, false] ?_
    exact s_S_weigh_89 hp1 _
def f_S_weigh_5 (p1 : Nat) : Nat → Int → Int → Int → qMem → Option (qMem)
  | 0, _, _, _, _ => none
  | n + 1, x2, x3, x4, w =>
    if x4 < (w 74 6) then
    if x3 = 0 then
    f_S_weigh_36 p1 (f_S_weigh_5 p1 n) 0 x2 x4 w
    else
    qld w 78 3 x4 fun v17 =>
    if v17 = 144 then
    f_S_weigh_36 p1 (f_S_weigh_5 p1 n) 1 x2 x4 w
    else
    f_S_weigh_36 p1 (f_S_weigh_5 p1 n) 0 x2 x4 w
    else
    f_S_weigh_43 p1 x2 x3 w
set_option maxRecDepth 4000 in
theorem s_S_weigh_5 {p1 : Nat} (hp1 : qIs kLN 100 p1) : ∀ (n : Nat), ∀ (x2 x3 x4 : Int) (w : qMem), (x3 = 0 ∨ x3 = 1) → qSim κV 100 100 m_S_weigh 5 [] [some (qR 74), some (qR p1), some (qI x2), some (qI x3), some (qI x4)] w (f_S_weigh_5 p1 n x2 x3 x4 w) := by
  intro n
  induction n with
  | zero => intro x2 x3 x4 w hx3; exact z_none
  | succ n ih =>
    intro x2 x3 x4 w hx3
    rw [f_S_weigh_5]
    refine z_iload d_S_weigh_5 rfl ?_
    refine z_aload_n d_S_weigh_7 rfl ?_
    refine z_gi (ci := 8) (j := 6) (ji := 6) d_S_weigh_8 rfl fl_S_31 rfl rfl rfl ?_
    refine z_icmp_ge (tgt := 43) d_S_weigh_11 rfl (fun c15 => ?_) (fun c15 => ?_)
    · refine z_iload_n d_S_weigh_14 rfl ?_
      refine z_if_eq (tgt := 35) d_S_weigh_15 rfl (fun c16 => ?_) (fun c16 => ?_)
      · refine z_ic0 d_S_weigh_35 ?_
        refine z_mask [true, true, true, false, true] ?_
        exact s_S_weigh_36 hp1 ih _ _ _ _ (Or.inl rfl)
      · refine z_aload_n d_S_weigh_18 rfl ?_
        refine z_gr (ci := 8) (j := 3) (d := 4) (o2 := 78) d_S_weigh_19 rfl fl_S_22 rfl (Nat.le_of_ble_eq_true rfl) rfl rfl ?_
        refine z_iload d_S_weigh_22 rfl ?_
        refine z_il d_S_weigh_24 rfl rfl (fun v17 => ?_)
        refine z_sipush d_S_weigh_25 ⟨by decide, by decide⟩ ?_
        refine z_icmp_ne (tgt := 35) d_S_weigh_28 rfl (fun c18 => ?_) (fun c18 => ?_)
        · refine z_ic1 d_S_weigh_31 ?_
          refine z_goto (tgt := 36) d_S_weigh_32 rfl ?_
          refine z_mask [true, true, true, false, true] ?_
          exact s_S_weigh_36 hp1 ih _ _ _ _ (Or.inr rfl)
        · refine z_ic0 d_S_weigh_35 ?_
          refine z_mask [true, true, true, false, true] ?_
          exact s_S_weigh_36 hp1 ih _ _ _ _ (Or.inl rfl)
    · refine z_mask [true, true, true, true, false] ?_
      exact s_S_weigh_43 hp1 _ _ _ hx3
def f_S_weigh (p1 : Nat) (x2 : Int) (w : qMem) : Option (qMem) :=
  f_S_weigh_5 p1 qFU x2 1 0 w
set_option maxRecDepth 4000 in
theorem s_S_weigh {p1 : Nat} (x2 : Int) (hp1 : qIs kLN 100 p1) (w : qMem) : qSim κV 100 100 m_S_weigh 0 [] [some (qR 74), some (qR p1), some (qI x2), none, none] w (f_S_weigh p1 x2 w) := by
  unfold f_S_weigh
  refine z_ic1 d_S_weigh_0 ?_
  refine z_istore_n (pls' := [some (qR 74), some (qR p1), some (qI x2), some (qI 1), none]) d_S_weigh_1 (by decide) rfl rfl ?_
  refine z_ic0 d_S_weigh_2 ?_
  refine z_istore (pls' := [some (qR 74), some (qR p1), some (qI x2), some (qI 1), some (qI 0)]) d_S_weigh_3 (by decide) rfl rfl ?_
  refine z_mask [true, true, true, true, true] ?_
  exact s_S_weigh_5 hp1 _ _ _ _ _ (Or.inr rfl)
/-! BubbleTorus$Search.run -/
theorem d_S_run_0 : decode m_S_run.2.1 0 = .ok (.aload_n 1, 1) := by decide +kernel
theorem d_S_run_1 : decode m_S_run.2.1 1 = .ok (.getfield 45, 3) := by decide +kernel
theorem d_S_run_4 : decode m_S_run.2.1 4 = .ok (.invokevirtual 51, 3) := by decide +kernel
theorem d_S_run_7 : decode m_S_run.2.1 7 = .ok (.iconst 3, 1) := by decide +kernel
theorem d_S_run_8 : decode m_S_run.2.1 8 = .ok (.if_icmp .le 5, 3) := by decide +kernel
theorem d_S_run_11 : decode m_S_run.2.1 11 = .ok (.iconst 0, 1) := by decide +kernel
theorem d_S_run_12 : decode m_S_run.2.1 12 = .ok (.ireturn, 1) := by decide +kernel
theorem d_S_run_13 : decode m_S_run.2.1 13 = .ok (.aload_n 0, 1) := by decide +kernel
theorem d_S_run_14 : decode m_S_run.2.1 14 = .ok (.aload_n 1, 1) := by decide +kernel
theorem d_S_run_15 : decode m_S_run.2.1 15 = .ok (.invokevirtual 56, 3) := by decide +kernel
theorem d_S_run_18 : decode m_S_run.2.1 18 = .ok (.aload_n 0, 1) := by decide +kernel
theorem d_S_run_19 : decode m_S_run.2.1 19 = .ok (.getfield 28, 3) := by decide +kernel
theorem d_S_run_22 : decode m_S_run.2.1 22 = .ok (.iconst 0, 1) := by decide +kernel
theorem d_S_run_23 : decode m_S_run.2.1 23 = .ok (.invokestatic 60, 3) := by decide +kernel
theorem d_S_run_26 : decode m_S_run.2.1 26 = .ok (.aload_n 0, 1) := by decide +kernel
theorem d_S_run_27 : decode m_S_run.2.1 27 = .ok (.getfield 28, 3) := by decide +kernel
theorem d_S_run_30 : decode m_S_run.2.1 30 = .ok (.iconst 4, 1) := by decide +kernel
theorem d_S_run_31 : decode m_S_run.2.1 31 = .ok (.bipush 16, 2) := by decide +kernel
theorem d_S_run_33 : decode m_S_run.2.1 33 = .ok (.iastore, 1) := by decide +kernel
theorem d_S_run_34 : decode m_S_run.2.1 34 = .ok (.aload_n 0, 1) := by decide +kernel
theorem d_S_run_35 : decode m_S_run.2.1 35 = .ok (.iconst 0, 1) := by decide +kernel
theorem d_S_run_36 : decode m_S_run.2.1 36 = .ok (.putfield 35, 3) := by decide +kernel
theorem d_S_run_39 : decode m_S_run.2.1 39 = .ok (.aload_n 0, 1) := by decide +kernel
theorem d_S_run_40 : decode m_S_run.2.1 40 = .ok (.iconst 0, 1) := by decide +kernel
theorem d_S_run_41 : decode m_S_run.2.1 41 = .ok (.putfield 41, 3) := by decide +kernel
theorem d_S_run_44 : decode m_S_run.2.1 44 = .ok (.aload_n 0, 1) := by decide +kernel
theorem d_S_run_45 : decode m_S_run.2.1 45 = .ok (.aload_n 1, 1) := by decide +kernel
theorem d_S_run_46 : decode m_S_run.2.1 46 = .ok (.iconst 1, 1) := by decide +kernel
theorem d_S_run_47 : decode m_S_run.2.1 47 = .ok (.invokevirtual 66, 3) := by decide +kernel
theorem d_S_run_50 : decode m_S_run.2.1 50 = .ok (.iconst 0, 1) := by decide +kernel
theorem d_S_run_51 : decode m_S_run.2.1 51 = .ok (.istore_n 2, 1) := by decide +kernel
theorem d_S_run_52 : decode m_S_run.2.1 52 = .ok (.iload_n 2, 1) := by decide +kernel
theorem d_S_run_53 : decode m_S_run.2.1 53 = .ok (.aload_n 0, 1) := by decide +kernel
theorem d_S_run_54 : decode m_S_run.2.1 54 = .ok (.getfield 35, 3) := by decide +kernel
theorem d_S_run_57 : decode m_S_run.2.1 57 = .ok (.if_icmp .ge 46, 3) := by decide +kernel
theorem d_S_run_60 : decode m_S_run.2.1 60 = .ok (.iload_n 2, 1) := by decide +kernel
theorem d_S_run_61 : decode m_S_run.2.1 61 = .ok (.sipush 400, 3) := by decide +kernel
theorem d_S_run_64 : decode m_S_run.2.1 64 = .ok (.if_icmp .ge 39, 3) := by decide +kernel
theorem d_S_run_67 : decode m_S_run.2.1 67 = .ok (.aload_n 0, 1) := by decide +kernel
theorem d_S_run_68 : decode m_S_run.2.1 68 = .ok (.getfield 41, 3) := by decide +kernel
theorem d_S_run_71 : decode m_S_run.2.1 71 = .ok (.ifCond .ne 32, 3) := by decide +kernel
theorem d_S_run_74 : decode m_S_run.2.1 74 = .ok (.aload_n 0, 1) := by decide +kernel
theorem d_S_run_75 : decode m_S_run.2.1 75 = .ok (.aload_n 1, 1) := by decide +kernel
theorem d_S_run_76 : decode m_S_run.2.1 76 = .ok (.aload_n 0, 1) := by decide +kernel
theorem d_S_run_77 : decode m_S_run.2.1 77 = .ok (.getfield 11, 3) := by decide +kernel
theorem d_S_run_80 : decode m_S_run.2.1 80 = .ok (.iload_n 2, 1) := by decide +kernel
theorem d_S_run_81 : decode m_S_run.2.1 81 = .ok (.laload, 1) := by decide +kernel
theorem d_S_run_82 : decode m_S_run.2.1 82 = .ok (.invokevirtual 70, 3) := by decide +kernel
theorem d_S_run_85 : decode m_S_run.2.1 85 = .ok (.aload_n 0, 1) := by decide +kernel
theorem d_S_run_86 : decode m_S_run.2.1 86 = .ok (.aload_n 1, 1) := by decide +kernel
theorem d_S_run_87 : decode m_S_run.2.1 87 = .ok (.iload_n 2, 1) := by decide +kernel
theorem d_S_run_88 : decode m_S_run.2.1 88 = .ok (.invokevirtual 74, 3) := by decide +kernel
theorem d_S_run_91 : decode m_S_run.2.1 91 = .ok (.aload_n 0, 1) := by decide +kernel
theorem d_S_run_92 : decode m_S_run.2.1 92 = .ok (.aload_n 1, 1) := by decide +kernel
theorem d_S_run_93 : decode m_S_run.2.1 93 = .ok (.iload_n 2, 1) := by decide +kernel
theorem d_S_run_94 : decode m_S_run.2.1 94 = .ok (.invokevirtual 77, 3) := by decide +kernel
theorem d_S_run_97 : decode m_S_run.2.1 97 = .ok (.iinc 2 1, 3) := by decide +kernel
theorem d_S_run_100 : decode m_S_run.2.1 100 = .ok (.goto (-48), 3) := by decide +kernel
theorem d_S_run_103 : decode m_S_run.2.1 103 = .ok (.aload_n 0, 1) := by decide +kernel
theorem d_S_run_104 : decode m_S_run.2.1 104 = .ok (.getfield 28, 3) := by decide +kernel
theorem d_S_run_107 : decode m_S_run.2.1 107 = .ok (.iconst 0, 1) := by decide +kernel
theorem d_S_run_108 : decode m_S_run.2.1 108 = .ok (.aload_n 0, 1) := by decide +kernel
theorem d_S_run_109 : decode m_S_run.2.1 109 = .ok (.getfield 35, 3) := by decide +kernel
theorem d_S_run_112 : decode m_S_run.2.1 112 = .ok (.iastore, 1) := by decide +kernel
theorem d_S_run_113 : decode m_S_run.2.1 113 = .ok (.aload_n 0, 1) := by decide +kernel
theorem d_S_run_114 : decode m_S_run.2.1 114 = .ok (.getfield 41, 3) := by decide +kernel
theorem d_S_run_117 : decode m_S_run.2.1 117 = .ok (.ifCond .ne 7, 3) := by decide +kernel
theorem d_S_run_120 : decode m_S_run.2.1 120 = .ok (.iconst 1, 1) := by decide +kernel
theorem d_S_run_121 : decode m_S_run.2.1 121 = .ok (.goto 4, 3) := by decide +kernel
theorem d_S_run_124 : decode m_S_run.2.1 124 = .ok (.iconst 0, 1) := by decide +kernel
theorem d_S_run_125 : decode m_S_run.2.1 125 = .ok (.ireturn, 1) := by decide +kernel
def f_S_run_103 (p1 : Nat) (w : qMem) : Option (Int × qMem) :=
  qst w 80 5 0 (w 74 7) fun w1 =>
  if (w1 74 9) = 0 then
  some (1, w1)
  else
  some (0, w1)
set_option maxRecDepth 4000 in
theorem s_S_run_103 {p1 : Nat} (hp1 : qIs kLN 100 p1) : ∀ (w : qMem), qSim κI 100 100 m_S_run 103 [] [some (qR 74), none, none] w (f_S_run_103 p1 w) := by
  intro w
  unfold f_S_run_103
  refine z_aload_n d_S_run_103 rfl ?_
  refine z_gr (ci := 8) (j := 5) (d := 6) (o2 := 80) d_S_run_104 rfl fl_S_28 rfl (Nat.le_of_ble_eq_true rfl) rfl rfl ?_
  refine z_ic0 d_S_run_107 ?_
  refine z_aload_n d_S_run_108 rfl ?_
  refine z_gi (ci := 8) (j := 7) (ji := 7) d_S_run_109 rfl fl_S_35 rfl rfl rfl ?_
  refine z_is d_S_run_112 rfl rfl (fun w1 => ?_)
  refine z_aload_n d_S_run_113 rfl ?_
  refine z_gi (ci := 8) (j := 9) (ji := 9) d_S_run_114 rfl fl_S_41 rfl rfl rfl ?_
  refine z_if_ne (tgt := 124) d_S_run_117 rfl (fun c2 => ?_) (fun c2 => ?_)
  · refine z_ic1 d_S_run_120 ?_
    refine z_goto (tgt := 125) d_S_run_121 rfl ?_
    exact z_zret d_S_run_125 rfl rfl (Or.inr rfl)
  · refine z_ic0 d_S_run_124 ?_
    exact z_zret d_S_run_125 rfl rfl (Or.inl rfl)
def f_S_run_52 (p1 : Nat) : Nat → Int → qMem → Option (Int × qMem)
  | 0, _, _ => none
  | n + 1, x2, w =>
    if x2 < (w 74 7) then
    if x2 < 400 then
    if (w 74 9) = 0 then
    qld w 75 400 x2 fun v6 =>
    (f_S_open p1 v6 w).bind fun q7 =>
    (f_S_extend p1 x2 q7).bind fun q8 =>
    (f_S_weigh p1 x2 q8).bind fun q9 =>
    (f_S_run_52 p1 n) (w32 (x2 + 1)) q9
    else
    f_S_run_103 p1 w
    else
    f_S_run_103 p1 w
    else
    f_S_run_103 p1 w
set_option maxRecDepth 4000 in
theorem s_S_run_52 {p1 : Nat} (hp1 : qIs kLN 100 p1) : ∀ (n : Nat), ∀ (x2 : Int) (w : qMem), qSim κI 100 100 m_S_run 52 [] [some (qR 74), some (qR p1), some (qI x2)] w (f_S_run_52 p1 n x2 w) := by
  intro n
  induction n with
  | zero => intro x2 w; exact z_none
  | succ n ih =>
    intro x2 w
    rw [f_S_run_52]
    refine z_iload_n d_S_run_52 rfl ?_
    refine z_aload_n d_S_run_53 rfl ?_
    refine z_gi (ci := 8) (j := 7) (ji := 7) d_S_run_54 rfl fl_S_35 rfl rfl rfl ?_
    refine z_icmp_ge (tgt := 103) d_S_run_57 rfl (fun c3 => ?_) (fun c3 => ?_)
    · refine z_iload_n d_S_run_60 rfl ?_
      refine z_sipush d_S_run_61 ⟨by decide, by decide⟩ ?_
      refine z_icmp_ge (tgt := 103) d_S_run_64 rfl (fun c4 => ?_) (fun c4 => ?_)
      · refine z_aload_n d_S_run_67 rfl ?_
        refine z_gi (ci := 8) (j := 9) (ji := 9) d_S_run_68 rfl fl_S_41 rfl rfl rfl ?_
        refine z_if_ne (tgt := 103) d_S_run_71 rfl (fun c5 => ?_) (fun c5 => ?_)
        · refine z_aload_n d_S_run_74 rfl ?_
          refine z_aload_n d_S_run_75 rfl ?_
          refine z_aload_n d_S_run_76 rfl ?_
          refine z_gr (ci := 8) (j := 0) (d := 1) (o2 := 75) d_S_run_77 rfl fl_S_11 rfl (Nat.le_of_ble_eq_true rfl) rfl rfl ?_
          refine z_iload_n d_S_run_80 rfl ?_
          refine z_ll d_S_run_81 rfl rfl (fun v6 => ?_)
          refine z_cVV (as := [qR p1, qL v6]) (st := []) (nl := 4) (ci := 8) d_S_run_82 lk_S_70 mk_S_open rfl rfl rfl rfl rfl rfl (s_S_open _ hp1 _) (fun q7 _ => ?_)
          refine z_aload_n d_S_run_85 rfl ?_
          refine z_aload_n d_S_run_86 rfl ?_
          refine z_iload_n d_S_run_87 rfl ?_
          refine z_cVV (as := [qR p1, qI x2]) (st := []) (nl := 3) (ci := 8) d_S_run_88 lk_S_74 mk_S_extend rfl rfl rfl rfl rfl rfl (s_S_extend _ hp1 _) (fun q8 _ => ?_)
          refine z_aload_n d_S_run_91 rfl ?_
          refine z_aload_n d_S_run_92 rfl ?_
          refine z_iload_n d_S_run_93 rfl ?_
          refine z_cVV (as := [qR p1, qI x2]) (st := []) (nl := 2) (ci := 8) d_S_run_94 lk_S_77 mk_S_weigh rfl rfl rfl rfl rfl rfl (s_S_weigh _ hp1 _) (fun q9 _ => ?_)
          refine z_iinc (pls' := [some (qR 74), some (qR p1), some (qI (w32 (x2 + 1)))]) d_S_run_97 (by decide) rfl rfl rfl ?_
          refine z_goto (tgt := 52) d_S_run_100 rfl ?_
          refine z_mask [true, true, true] ?_
          exact ih _ _
        · refine z_mask [true, false, false] ?_
          exact s_S_run_103 hp1 _
      · refine z_mask [true, false, false] ?_
        exact s_S_run_103 hp1 _
    · refine z_mask [true, false, false] ?_
      exact s_S_run_103 hp1 _
def f_S_run (p1 : Nat) (w : qMem) : Option (Int × qMem) :=
  (f_P_left (p1 + 5) w).bind fun q10 =>
  if q10.1 ≤ 3 then
  (f_S_findLeft p1 q10.2).bind fun q12 =>
  (f_JA_fill 80 5 0 q12).bind fun q13 =>
  qst q13 80 5 4 16 fun w14 =>
  qlt (qud w14 74 7 0) fun w15 =>
  qlt (qud w15 74 9 0) fun w16 =>
  (f_S_reach p1 1 w16).bind fun q17 =>
  f_S_run_52 p1 qFU 0 q17
  else
  some (0, q10.2)
set_option maxRecDepth 4000 in
theorem s_S_run {p1 : Nat} (hp1 : qIs kLN 100 p1) (w : qMem) : qSim κI 100 100 m_S_run 0 [] [some (qR 74), some (qR p1), none] w (f_S_run p1 w) := by
  unfold f_S_run
  refine z_aload_n d_S_run_0 rfl ?_
  refine z_gr (ci := 3) (j := 1) (d := 5) (o2 := (p1 + 5)) d_S_run_1 rfl fl_S_45 (hp1 0 _ rfl).1 ((hp1 0 _ rfl).2 (Nat.le_of_ble_eq_true rfl)) rfl rfl ?_
  refine z_cVI (as := []) (st := []) (nl := 0) (ci := 5) d_S_run_4 lk_S_51 mk_P_left rfl rfl (hp1 5 _ rfl).1 rfl rfl rfl (s_P_left (is_N_P hp1) _) (fun q10 _ hq10 => ?_)
  refine z_ic3 d_S_run_7 ?_
  refine z_icmp_le (tgt := 13) d_S_run_8 rfl (fun c11 => ?_) (fun c11 => ?_)
  · refine z_aload_n d_S_run_13 rfl ?_
    refine z_aload_n d_S_run_14 rfl ?_
    refine z_cVV (as := [qR p1]) (st := []) (nl := 1) (ci := 8) d_S_run_15 lk_S_56 mk_S_findLeft rfl rfl rfl rfl rfl rfl (s_S_findLeft hp1 _) (fun q12 _ => ?_)
    refine z_aload_n d_S_run_18 rfl ?_
    refine z_gr (ci := 8) (j := 5) (d := 6) (o2 := 80) d_S_run_19 rfl fl_S_28 rfl (Nat.le_of_ble_eq_true rfl) rfl rfl ?_
    refine z_ic0 d_S_run_22 ?_
    refine z_cSV (av := [qR 80, qI 0]) (st := []) (nl := 2) d_S_run_23 lk_S_60 mk_JA_fill rfl rfl rfl (s_JA_fill _ rfl rfl (by decide) _) (fun q13 _ => ?_)
    refine z_aload_n d_S_run_26 rfl ?_
    refine z_gr (ci := 8) (j := 5) (d := 6) (o2 := 80) d_S_run_27 rfl fl_S_28 rfl (Nat.le_of_ble_eq_true rfl) rfl rfl ?_
    refine z_ic4 d_S_run_30 ?_
    refine z_bipush d_S_run_31 ⟨by decide, by decide⟩ ?_
    refine z_is d_S_run_33 rfl rfl (fun w14 => ?_)
    refine z_aload_n d_S_run_34 rfl ?_
    refine z_ic0 d_S_run_35 ?_
    refine z_pi (ci := 8) (j := 7) (ji := 7) d_S_run_36 rfl fl_S_35 rfl rfl rfl rfl rfl (fun w15 => ?_)
    refine z_aload_n d_S_run_39 rfl ?_
    refine z_ic0 d_S_run_40 ?_
    refine z_pz (ci := 8) (j := 9) (ji := 9) d_S_run_41 rfl fl_S_41 rfl rfl rfl rfl rfl (Or.inl rfl) (fun w16 => ?_)
    refine z_aload_n d_S_run_44 rfl ?_
    refine z_aload_n d_S_run_45 rfl ?_
    refine z_ic1 d_S_run_46 ?_
    refine z_cVV (as := [qR p1, qI 1]) (st := []) (nl := 3) (ci := 8) d_S_run_47 lk_S_66 mk_S_reach rfl rfl rfl rfl rfl rfl (s_S_reach _ hp1 _) (fun q17 _ => ?_)
    refine z_ic0 d_S_run_50 ?_
    refine z_istore_n (pls' := [some (qR 74), some (qR p1), some (qI 0)]) d_S_run_51 (by decide) rfl rfl ?_
    refine z_mask [true, true, true] ?_
    exact s_S_run_52 hp1 _ _ _
  · refine z_ic0 d_S_run_11 ?_
    exact z_zret d_S_run_12 rfl rfl (Or.inl rfl)
/-! BubbleTorus$LoneRing.canBe -/
theorem d_L_canBe_0 : decode m_L_canBe.2.1 0 = .ok (.iload_n 0, 1) := by decide +kernel
theorem d_L_canBe_1 : decode m_L_canBe.2.1 1 = .ok (.iconst 2, 1) := by decide +kernel
theorem d_L_canBe_2 : decode m_L_canBe.2.1 2 = .ok (.iconst 3, 1) := by decide +kernel
theorem d_L_canBe_3 : decode m_L_canBe.2.1 3 = .ok (.invokestatic 62, 3) := by decide +kernel
theorem d_L_canBe_6 : decode m_L_canBe.2.1 6 = .ok (.ifCond .eq 12, 3) := by decide +kernel
theorem d_L_canBe_9 : decode m_L_canBe.2.1 9 = .ok (.iload_n 1, 1) := by decide +kernel
theorem d_L_canBe_10 : decode m_L_canBe.2.1 10 = .ok (.iconst 1, 1) := by decide +kernel
theorem d_L_canBe_11 : decode m_L_canBe.2.1 11 = .ok (.iconst 3, 1) := by decide +kernel
theorem d_L_canBe_12 : decode m_L_canBe.2.1 12 = .ok (.invokestatic 62, 3) := by decide +kernel
theorem d_L_canBe_15 : decode m_L_canBe.2.1 15 = .ok (.ifCond .ne 13, 3) := by decide +kernel
theorem d_L_canBe_18 : decode m_L_canBe.2.1 18 = .ok (.iload_n 0, 1) := by decide +kernel
theorem d_L_canBe_19 : decode m_L_canBe.2.1 19 = .ok (.iconst 4, 1) := by decide +kernel
theorem d_L_canBe_20 : decode m_L_canBe.2.1 20 = .ok (.if_icmp .ne 12, 3) := by decide +kernel
theorem d_L_canBe_23 : decode m_L_canBe.2.1 23 = .ok (.iload_n 1, 1) := by decide +kernel
theorem d_L_canBe_24 : decode m_L_canBe.2.1 24 = .ok (.iconst 1, 1) := by decide +kernel
theorem d_L_canBe_25 : decode m_L_canBe.2.1 25 = .ok (.if_icmp .ne 7, 3) := by decide +kernel
theorem d_L_canBe_28 : decode m_L_canBe.2.1 28 = .ok (.iconst 1, 1) := by decide +kernel
theorem d_L_canBe_29 : decode m_L_canBe.2.1 29 = .ok (.goto 4, 3) := by decide +kernel
theorem d_L_canBe_32 : decode m_L_canBe.2.1 32 = .ok (.iconst 0, 1) := by decide +kernel
theorem d_L_canBe_33 : decode m_L_canBe.2.1 33 = .ok (.ireturn, 1) := by decide +kernel
def f_L_canBe_18 (x0 x1 : Int) (w : qMem) : Option (Int × qMem) :=
  if x0 = 4 then
  if x1 = 1 then
  some (1, w)
  else
  some (0, w)
  else
  some (0, w)
set_option maxRecDepth 4000 in
theorem s_L_canBe_18 {ph : Nat}  : ∀ (x0 x1 : Int) (w : qMem), qSim κI ph ph m_L_canBe 18 [] [some (qI x0), some (qI x1)] w (f_L_canBe_18 x0 x1 w) := by
  intro x0 x1 w
  unfold f_L_canBe_18
  refine z_iload_n d_L_canBe_18 rfl ?_
  refine z_ic4 d_L_canBe_19 ?_
  refine z_icmp_ne (tgt := 32) d_L_canBe_20 rfl (fun c1 => ?_) (fun c1 => ?_)
  · refine z_iload_n d_L_canBe_23 rfl ?_
    refine z_ic1 d_L_canBe_24 ?_
    refine z_icmp_ne (tgt := 32) d_L_canBe_25 rfl (fun c2 => ?_) (fun c2 => ?_)
    · refine z_ic1 d_L_canBe_28 ?_
      refine z_goto (tgt := 33) d_L_canBe_29 rfl ?_
      exact z_zret d_L_canBe_33 rfl rfl (Or.inr rfl)
    · refine z_ic0 d_L_canBe_32 ?_
      exact z_zret d_L_canBe_33 rfl rfl (Or.inl rfl)
  · refine z_ic0 d_L_canBe_32 ?_
    exact z_zret d_L_canBe_33 rfl rfl (Or.inl rfl)
def f_L_canBe (x0 : Int) (x1 : Int) (w : qMem) : Option (Int × qMem) :=
  (f_X_within x0 2 3 w).bind fun q3 =>
  if q3.1 = 0 then
  f_L_canBe_18 x0 x1 q3.2
  else
  (f_X_within x1 1 3 q3.2).bind fun q5 =>
  if q5.1 = 0 then
  f_L_canBe_18 x0 x1 q5.2
  else
  some (1, q5.2)
set_option maxRecDepth 4000 in
theorem s_L_canBe {ph : Nat} (x0 : Int) (x1 : Int) (w : qMem) : qSim κI ph ph m_L_canBe 0 [] [some (qI x0), some (qI x1)] w (f_L_canBe x0 x1 w) := by
  unfold f_L_canBe
  refine z_iload_n d_L_canBe_0 rfl ?_
  refine z_ic2 d_L_canBe_1 ?_
  refine z_ic3 d_L_canBe_2 ?_
  refine z_cNI (av := [qI x0, qI 2, qI 3]) (st := []) (nl := 0) d_L_canBe_3 lk_L_62 mk_X_within rfl rfl rfl (s_X_within _ _ _ _) (fun q3 _ hq3 => ?_)
  refine z_if_eq (tgt := 18) d_L_canBe_6 rfl (fun c4 => ?_) (fun c4 => ?_)
  · refine z_mask [true, true] ?_
    exact s_L_canBe_18 _ _ _
  · refine z_iload_n d_L_canBe_9 rfl ?_
    refine z_ic1 d_L_canBe_10 ?_
    refine z_ic3 d_L_canBe_11 ?_
    refine z_cNI (av := [qI x1, qI 1, qI 3]) (st := []) (nl := 0) d_L_canBe_12 lk_L_62 mk_X_within rfl rfl rfl (s_X_within _ _ _ _) (fun q5 _ hq5 => ?_)
    refine z_if_ne (tgt := 28) d_L_canBe_15 rfl (fun c6 => ?_) (fun c6 => ?_)
    · refine z_mask [true, true] ?_
      exact s_L_canBe_18 _ _ _
    · refine z_ic1 d_L_canBe_28 ?_
      refine z_goto (tgt := 33) d_L_canBe_29 rfl ?_
      exact z_zret d_L_canBe_33 rfl rfl (Or.inr rfl)
/-! BubbleTorus$LoneRing.prepare -/
theorem d_L_prepare_0 : decode m_L_prepare.2.1 0 = .ok (.aload_n 0, 1) := by decide +kernel
theorem d_L_prepare_1 : decode m_L_prepare.2.1 1 = .ok (.getfield 31, 3) := by decide +kernel
theorem d_L_prepare_4 : decode m_L_prepare.2.1 4 = .ok (.ifnull 10, 3) := by decide +kernel
theorem d_L_prepare_7 : decode m_L_prepare.2.1 7 = .ok (.aload_n 0, 1) := by decide +kernel
theorem d_L_prepare_8 : decode m_L_prepare.2.1 8 = .ok (.getfield 34, 3) := by decide +kernel
theorem d_L_prepare_11 : decode m_L_prepare.2.1 11 = .ok (.ifnonnull 21, 3) := by decide +kernel
theorem d_L_prepare_14 : decode m_L_prepare.2.1 14 = .ok (.aload_n 0, 1) := by decide +kernel
theorem d_L_prepare_15 : decode m_L_prepare.2.1 15 = .ok (.sipush 10125, 3) := by decide +kernel
theorem d_L_prepare_18 : decode m_L_prepare.2.1 18 = .ok (.newarray .int, 2) := by decide +kernel
theorem d_L_prepare_20 : decode m_L_prepare.2.1 20 = .ok (.putfield 31, 3) := by decide +kernel
theorem d_L_prepare_23 : decode m_L_prepare.2.1 23 = .ok (.aload_n 0, 1) := by decide +kernel
theorem d_L_prepare_24 : decode m_L_prepare.2.1 24 = .ok (.sipush 10125, 3) := by decide +kernel
theorem d_L_prepare_27 : decode m_L_prepare.2.1 27 = .ok (.newarray .int, 2) := by decide +kernel
theorem d_L_prepare_29 : decode m_L_prepare.2.1 29 = .ok (.putfield 34, 3) := by decide +kernel
theorem d_L_prepare_32 : decode m_L_prepare.2.1 32 = .ok (.aload_n 0, 1) := by decide +kernel
theorem d_L_prepare_33 : decode m_L_prepare.2.1 33 = .ok (.iload_n 1, 1) := by decide +kernel
theorem d_L_prepare_34 : decode m_L_prepare.2.1 34 = .ok (.putfield 37, 3) := by decide +kernel
theorem d_L_prepare_37 : decode m_L_prepare.2.1 37 = .ok (.aload_n 0, 1) := by decide +kernel
theorem d_L_prepare_38 : decode m_L_prepare.2.1 38 = .ok (.iload_n 2, 1) := by decide +kernel
theorem d_L_prepare_39 : decode m_L_prepare.2.1 39 = .ok (.putfield 41, 3) := by decide +kernel
theorem d_L_prepare_42 : decode m_L_prepare.2.1 42 = .ok (.aload_n 0, 1) := by decide +kernel
theorem d_L_prepare_43 : decode m_L_prepare.2.1 43 = .ok (.iload_n 3, 1) := by decide +kernel
theorem d_L_prepare_44 : decode m_L_prepare.2.1 44 = .ok (.putfield 44, 3) := by decide +kernel
theorem d_L_prepare_47 : decode m_L_prepare.2.1 47 = .ok (.aload_n 0, 1) := by decide +kernel
theorem d_L_prepare_48 : decode m_L_prepare.2.1 48 = .ok (.iload_n 1, 1) := by decide +kernel
theorem d_L_prepare_49 : decode m_L_prepare.2.1 49 = .ok (.iconst 1, 1) := by decide +kernel
theorem d_L_prepare_50 : decode m_L_prepare.2.1 50 = .ok (.isub, 1) := by decide +kernel
theorem d_L_prepare_51 : decode m_L_prepare.2.1 51 = .ok (.putfield 47, 3) := by decide +kernel
theorem d_L_prepare_54 : decode m_L_prepare.2.1 54 = .ok (.iconst 1, 1) := by decide +kernel
theorem d_L_prepare_55 : decode m_L_prepare.2.1 55 = .ok (.istore 4, 2) := by decide +kernel
theorem d_L_prepare_57 : decode m_L_prepare.2.1 57 = .ok (.iconst 0, 1) := by decide +kernel
theorem d_L_prepare_58 : decode m_L_prepare.2.1 58 = .ok (.istore 5, 2) := by decide +kernel
theorem d_L_prepare_60 : decode m_L_prepare.2.1 60 = .ok (.iload 5, 2) := by decide +kernel
theorem d_L_prepare_62 : decode m_L_prepare.2.1 62 = .ok (.iload_n 2, 1) := by decide +kernel
theorem d_L_prepare_63 : decode m_L_prepare.2.1 63 = .ok (.if_icmp .ge 20, 3) := by decide +kernel
theorem d_L_prepare_66 : decode m_L_prepare.2.1 66 = .ok (.iload 4, 2) := by decide +kernel
theorem d_L_prepare_68 : decode m_L_prepare.2.1 68 = .ok (.aload_n 0, 1) := by decide +kernel
theorem d_L_prepare_69 : decode m_L_prepare.2.1 69 = .ok (.getfield 47, 3) := by decide +kernel
theorem d_L_prepare_72 : decode m_L_prepare.2.1 72 = .ok (.imul, 1) := by decide +kernel
theorem d_L_prepare_73 : decode m_L_prepare.2.1 73 = .ok (.iconst 1, 1) := by decide +kernel
theorem d_L_prepare_74 : decode m_L_prepare.2.1 74 = .ok (.iadd, 1) := by decide +kernel
theorem d_L_prepare_75 : decode m_L_prepare.2.1 75 = .ok (.istore 4, 2) := by decide +kernel
theorem d_L_prepare_77 : decode m_L_prepare.2.1 77 = .ok (.iinc 5 1, 3) := by decide +kernel
theorem d_L_prepare_80 : decode m_L_prepare.2.1 80 = .ok (.goto (-20), 3) := by decide +kernel
theorem d_L_prepare_83 : decode m_L_prepare.2.1 83 = .ok (.aload_n 0, 1) := by decide +kernel
theorem d_L_prepare_84 : decode m_L_prepare.2.1 84 = .ok (.getfield 25, 3) := by decide +kernel
theorem d_L_prepare_87 : decode m_L_prepare.2.1 87 = .ok (.iconst 0, 1) := by decide +kernel
theorem d_L_prepare_88 : decode m_L_prepare.2.1 88 = .ok (.iconst 1, 1) := by decide +kernel
theorem d_L_prepare_89 : decode m_L_prepare.2.1 89 = .ok (.iastore, 1) := by decide +kernel
theorem d_L_prepare_90 : decode m_L_prepare.2.1 90 = .ok (.iconst 0, 1) := by decide +kernel
theorem d_L_prepare_91 : decode m_L_prepare.2.1 91 = .ok (.istore 5, 2) := by decide +kernel
theorem d_L_prepare_93 : decode m_L_prepare.2.1 93 = .ok (.iload 5, 2) := by decide +kernel
theorem d_L_prepare_95 : decode m_L_prepare.2.1 95 = .ok (.iload_n 1, 1) := by decide +kernel
theorem d_L_prepare_96 : decode m_L_prepare.2.1 96 = .ok (.if_icmp .ge 28, 3) := by decide +kernel
theorem d_L_prepare_99 : decode m_L_prepare.2.1 99 = .ok (.aload_n 0, 1) := by decide +kernel
theorem d_L_prepare_100 : decode m_L_prepare.2.1 100 = .ok (.getfield 25, 3) := by decide +kernel
theorem d_L_prepare_103 : decode m_L_prepare.2.1 103 = .ok (.iload 5, 2) := by decide +kernel
theorem d_L_prepare_105 : decode m_L_prepare.2.1 105 = .ok (.iconst 1, 1) := by decide +kernel
theorem d_L_prepare_106 : decode m_L_prepare.2.1 106 = .ok (.iadd, 1) := by decide +kernel
theorem d_L_prepare_107 : decode m_L_prepare.2.1 107 = .ok (.aload_n 0, 1) := by decide +kernel
theorem d_L_prepare_108 : decode m_L_prepare.2.1 108 = .ok (.getfield 25, 3) := by decide +kernel
theorem d_L_prepare_111 : decode m_L_prepare.2.1 111 = .ok (.iload 5, 2) := by decide +kernel
theorem d_L_prepare_113 : decode m_L_prepare.2.1 113 = .ok (.iaload, 1) := by decide +kernel
theorem d_L_prepare_114 : decode m_L_prepare.2.1 114 = .ok (.iload 4, 2) := by decide +kernel
theorem d_L_prepare_116 : decode m_L_prepare.2.1 116 = .ok (.imul, 1) := by decide +kernel
theorem d_L_prepare_117 : decode m_L_prepare.2.1 117 = .ok (.iastore, 1) := by decide +kernel
theorem d_L_prepare_118 : decode m_L_prepare.2.1 118 = .ok (.iinc 5 1, 3) := by decide +kernel
theorem d_L_prepare_121 : decode m_L_prepare.2.1 121 = .ok (.goto (-28), 3) := by decide +kernel
theorem d_L_prepare_124 : decode m_L_prepare.2.1 124 = .ok (.return_, 1) := by decide +kernel
def f_L_prepare_93 : Nat → Int → Int → Int → qMem → Option (qMem)
  | 0, _, _, _, _ => none
  | n + 1, x1, x4, x5, w =>
    if x5 < x1 then
    qld w 86 5 x5 fun v2 =>
    qst w 86 5 (w32 (x5 + 1)) (w32 (v2 * x4)) fun w3 =>
    (f_L_prepare_93 n) x1 x4 (w32 (x5 + 1)) w3
    else
    some w
set_option maxRecDepth 4000 in
theorem s_L_prepare_93  : ∀ (n : Nat), ∀ (x1 x4 x5 : Int) (w : qMem), qSim κV 100 100 m_L_prepare 93 [] [some (qR 81), some (qI x1), none, none, some (qI x4), some (qI x5)] w (f_L_prepare_93 n x1 x4 x5 w) := by
  intro n
  induction n with
  | zero => intro x1 x4 x5 w; exact z_none
  | succ n ih =>
    intro x1 x4 x5 w
    rw [f_L_prepare_93]
    refine z_iload d_L_prepare_93 rfl ?_
    refine z_iload_n d_L_prepare_95 rfl ?_
    refine z_icmp_ge (tgt := 124) d_L_prepare_96 rfl (fun c1 => ?_) (fun c1 => ?_)
    · refine z_aload_n d_L_prepare_99 rfl ?_
      refine z_gr (ci := 1) (j := 4) (d := 5) (o2 := 86) d_L_prepare_100 rfl fl_L_25 rfl (Nat.le_of_ble_eq_true rfl) rfl rfl ?_
      refine z_iload d_L_prepare_103 rfl ?_
      refine z_ic1 d_L_prepare_105 ?_
      refine z_iadd d_L_prepare_106 ?_
      refine z_aload_n d_L_prepare_107 rfl ?_
      refine z_gr (ci := 1) (j := 4) (d := 5) (o2 := 86) d_L_prepare_108 rfl fl_L_25 rfl (Nat.le_of_ble_eq_true rfl) rfl rfl ?_
      refine z_iload d_L_prepare_111 rfl ?_
      refine z_il d_L_prepare_113 rfl rfl (fun v2 => ?_)
      refine z_iload d_L_prepare_114 rfl ?_
      refine z_imul d_L_prepare_116 ?_
      refine z_is d_L_prepare_117 rfl rfl (fun w3 => ?_)
      refine z_iinc (pls' := [some (qR 81), some (qI x1), none, none, some (qI x4), some (qI (w32 (x5 + 1)))]) d_L_prepare_118 (by decide) rfl rfl rfl ?_
      refine z_goto (tgt := 93) d_L_prepare_121 rfl ?_
      refine z_mask [true, true, false, false, true, true] ?_
      exact ih _ _ _ _
    · exact z_vret d_L_prepare_124 rfl rfl
def f_L_prepare_83 (x1 x4 : Int) (w : qMem) : Option (qMem) :=
  qst w 86 5 0 1 fun w4 =>
  f_L_prepare_93 qFU x1 x4 0 w4
set_option maxRecDepth 4000 in
theorem s_L_prepare_83  : ∀ (x1 x4 : Int) (w : qMem), qSim κV 100 100 m_L_prepare 83 [] [some (qR 81), some (qI x1), none, none, some (qI x4), none] w (f_L_prepare_83 x1 x4 w) := by
  intro x1 x4 w
  unfold f_L_prepare_83
  refine z_aload_n d_L_prepare_83 rfl ?_
  refine z_gr (ci := 1) (j := 4) (d := 5) (o2 := 86) d_L_prepare_84 rfl fl_L_25 rfl (Nat.le_of_ble_eq_true rfl) rfl rfl ?_
  refine z_ic0 d_L_prepare_87 ?_
  refine z_ic1 d_L_prepare_88 ?_
  refine z_is d_L_prepare_89 rfl rfl (fun w4 => ?_)
  refine z_ic0 d_L_prepare_90 ?_
  refine z_istore (pls' := [some (qR 81), some (qI x1), none, none, some (qI x4), some (qI 0)]) d_L_prepare_91 (by decide) rfl rfl ?_
  refine z_mask [true, true, false, false, true, true] ?_
  exact s_L_prepare_93 _ _ _ _ _
def f_L_prepare_60 : Nat → Int → Int → Int → Int → qMem → Option (qMem)
  | 0, _, _, _, _, _ => none
  | n + 1, x1, x2, x4, x5, w =>
    if x5 < x2 then
    (f_L_prepare_60 n) x1 x2 (w32 ((w32 (x4 * (w 81 11))) + 1)) (w32 (x5 + 1)) w
    else
    f_L_prepare_83 x1 x4 w
set_option maxRecDepth 4000 in
theorem s_L_prepare_60  : ∀ (n : Nat), ∀ (x1 x2 x4 x5 : Int) (w : qMem), qSim κV 100 100 m_L_prepare 60 [] [some (qR 81), some (qI x1), some (qI x2), none, some (qI x4), some (qI x5)] w (f_L_prepare_60 n x1 x2 x4 x5 w) := by
  intro n
  induction n with
  | zero => intro x1 x2 x4 x5 w; exact z_none
  | succ n ih =>
    intro x1 x2 x4 x5 w
    rw [f_L_prepare_60]
    refine z_iload d_L_prepare_60 rfl ?_
    refine z_iload_n d_L_prepare_62 rfl ?_
    refine z_icmp_ge (tgt := 83) d_L_prepare_63 rfl (fun c5 => ?_) (fun c5 => ?_)
    · refine z_iload d_L_prepare_66 rfl ?_
      refine z_aload_n d_L_prepare_68 rfl ?_
      refine z_gi (ci := 1) (j := 11) (ji := 11) d_L_prepare_69 rfl fl_L_47 rfl rfl rfl ?_
      refine z_imul d_L_prepare_72 ?_
      refine z_ic1 d_L_prepare_73 ?_
      refine z_iadd d_L_prepare_74 ?_
      refine z_istore (pls' := [some (qR 81), some (qI x1), some (qI x2), none, some (qI (w32 ((w32 (x4 * (w 81 11))) + 1))), some (qI x5)]) d_L_prepare_75 (by decide) rfl rfl ?_
      refine z_iinc (pls' := [some (qR 81), some (qI x1), some (qI x2), none, some (qI (w32 ((w32 (x4 * (w 81 11))) + 1))), some (qI (w32 (x5 + 1)))]) d_L_prepare_77 (by decide) rfl rfl rfl ?_
      refine z_goto (tgt := 60) d_L_prepare_80 rfl ?_
      refine z_mask [true, true, true, false, true, true] ?_
      exact ih _ _ _ _ _
    · refine z_mask [true, true, false, false, true, false] ?_
      exact s_L_prepare_83 _ _ _
def f_L_prepare_32 (x1 x2 x3 : Int) (w : qMem) : Option (qMem) :=
  qlt (qud w 81 8 x1) fun w6 =>
  qlt (qud w6 81 9 x2) fun w7 =>
  qlt (qud w7 81 10 x3) fun w8 =>
  qlt (qud w8 81 11 (w32 (x1 - 1))) fun w9 =>
  f_L_prepare_60 qFU x1 x2 1 0 w9
set_option maxRecDepth 4000 in
theorem s_L_prepare_32  : ∀ (x1 x2 x3 : Int) (w : qMem), qSim κV 100 100 m_L_prepare 32 [] [some (qR 81), some (qI x1), some (qI x2), some (qI x3), none, none] w (f_L_prepare_32 x1 x2 x3 w) := by
  intro x1 x2 x3 w
  unfold f_L_prepare_32
  refine z_aload_n d_L_prepare_32 rfl ?_
  refine z_iload_n d_L_prepare_33 rfl ?_
  refine z_pi (ci := 1) (j := 8) (ji := 8) d_L_prepare_34 rfl fl_L_37 rfl rfl rfl rfl rfl (fun w6 => ?_)
  refine z_aload_n d_L_prepare_37 rfl ?_
  refine z_iload_n d_L_prepare_38 rfl ?_
  refine z_pi (ci := 1) (j := 9) (ji := 9) d_L_prepare_39 rfl fl_L_41 rfl rfl rfl rfl rfl (fun w7 => ?_)
  refine z_aload_n d_L_prepare_42 rfl ?_
  refine z_iload_n d_L_prepare_43 rfl ?_
  refine z_pi (ci := 1) (j := 10) (ji := 10) d_L_prepare_44 rfl fl_L_44 rfl rfl rfl rfl rfl (fun w8 => ?_)
  refine z_aload_n d_L_prepare_47 rfl ?_
  refine z_iload_n d_L_prepare_48 rfl ?_
  refine z_ic1 d_L_prepare_49 ?_
  refine z_isub d_L_prepare_50 ?_
  refine z_pi (ci := 1) (j := 11) (ji := 11) d_L_prepare_51 rfl fl_L_47 rfl rfl rfl rfl rfl (fun w9 => ?_)
  refine z_ic1 d_L_prepare_54 ?_
  refine z_istore (pls' := [some (qR 81), some (qI x1), some (qI x2), some (qI x3), some (qI 1), none]) d_L_prepare_55 (by decide) rfl rfl ?_
  refine z_ic0 d_L_prepare_57 ?_
  refine z_istore (pls' := [some (qR 81), some (qI x1), some (qI x2), some (qI x3), some (qI 1), some (qI 0)]) d_L_prepare_58 (by decide) rfl rfl ?_
  refine z_mask [true, true, true, false, true, true] ?_
  exact s_L_prepare_60 _ _ _ _ _ _
def f_L_prepare_14 (x1 x2 x3 : Int) (w : qMem) : Option (qMem) :=
  qnw w 102 fun w10 =>
  qlt (qud w10 81 6 ((102 : Nat) : Int)) fun w11 =>
  qnw w11 103 fun w12 =>
  qlt (qud w12 81 7 ((103 : Nat) : Int)) fun w13 =>
  f_L_prepare_32 x1 x2 x3 w13
set_option maxRecDepth 4000 in
theorem s_L_prepare_14  : ∀ (x1 x2 x3 : Int) (w : qMem), qSim κV 100 100 m_L_prepare 14 [] [some (qR 81), some (qI x1), some (qI x2), some (qI x3), none, none] w (f_L_prepare_14 x1 x2 x3 w) := by
  intro x1 x2 x3 w
  unfold f_L_prepare_14
  refine z_aload_n d_L_prepare_14 rfl ?_
  refine z_sipush d_L_prepare_15 ⟨by decide, by decide⟩ ?_
  refine z_na_int (o := 102) d_L_prepare_18 rfl rfl (by decide) (fun w10 => ?_)
  refine z_pd (ci := 1) (j := 6) (ji := 6) d_L_prepare_20 rfl fl_L_31 rfl rfl rfl rfl (Or.inr ⟨_, rfl⟩) (by decide) (by decide) (by decide) (fun w11 => ?_)
  refine z_aload_n d_L_prepare_23 rfl ?_
  refine z_sipush d_L_prepare_24 ⟨by decide, by decide⟩ ?_
  refine z_na_int (o := 103) d_L_prepare_27 rfl rfl (by decide) (fun w12 => ?_)
  refine z_pd (ci := 1) (j := 7) (ji := 7) d_L_prepare_29 rfl fl_L_34 rfl rfl rfl rfl (Or.inr ⟨_, rfl⟩) (by decide) (by decide) (by decide) (fun w13 => ?_)
  refine z_mask [true, true, true, true, false, false] ?_
  exact s_L_prepare_32 _ _ _ _
def f_L_prepare (x1 : Int) (x2 : Int) (x3 : Int) (w : qMem) : Option (qMem) :=
  if w 81 6 = 0 then
  f_L_prepare_14 x1 x2 x3 w
  else if w 81 6 = 102 then
  if w 81 7 = 0 then
  f_L_prepare_14 x1 x2 x3 w
  else if w 81 7 = 103 then
  f_L_prepare_32 x1 x2 x3 w
  else none
  else none
set_option maxRecDepth 4000 in
theorem s_L_prepare (x1 : Int) (x2 : Int) (x3 : Int) (w : qMem) : qSim κV 100 100 m_L_prepare 0 [] [some (qR 81), some (qI x1), some (qI x2), some (qI x3), none, none] w (f_L_prepare x1 x2 x3 w) := by
  unfold f_L_prepare
  refine z_aload_n d_L_prepare_0 rfl ?_
  refine z_if (fun c14 => ?_) (fun _ => ?_)
  · refine z_getn (ci := 1) (j := 6) (ji := 6) d_L_prepare_1 rfl fl_L_31 rfl (by decide) rfl rfl c14 ?_
    refine z_ifnull_n (tgt := 14) d_L_prepare_4 rfl ?_
    refine z_mask [true, true, true, true, false, false] ?_
    exact s_L_prepare_14 _ _ _ _
  · refine z_if (fun c14 => ?_) (fun _ => z_none)
    refine z_getd (ci := 1) (j := 6) (d := 102) (ji := 6) d_L_prepare_1 rfl fl_L_31 rfl (by decide) rfl rfl c14 (by decide) ?_
    refine z_ifnull_r d_L_prepare_4 ?_
    refine z_aload_n d_L_prepare_7 rfl ?_
    refine z_if (fun c15 => ?_) (fun _ => ?_)
    · refine z_getn (ci := 1) (j := 7) (ji := 7) d_L_prepare_8 rfl fl_L_34 rfl (by decide) rfl rfl c15 ?_
      refine z_ifnn_n d_L_prepare_11 ?_
      refine z_mask [true, true, true, true, false, false] ?_
      exact s_L_prepare_14 _ _ _ _
    · refine z_if (fun c15 => ?_) (fun _ => z_none)
      refine z_getd (ci := 1) (j := 7) (d := 103) (ji := 7) d_L_prepare_8 rfl fl_L_34 rfl (by decide) rfl rfl c15 (by decide) ?_
      refine z_ifnn_r (tgt := 32) d_L_prepare_11 rfl ?_
      refine z_mask [true, true, true, true, false, false] ?_
      exact s_L_prepare_32 _ _ _ _
/-! BubbleTorus$LoneRing.lengthOf -/
theorem d_L_lengthOf_0 : decode m_L_lengthOf.2.1 0 = .ok (.iconst 0, 1) := by decide +kernel
theorem d_L_lengthOf_1 : decode m_L_lengthOf.2.1 1 = .ok (.istore_n 2, 1) := by decide +kernel
theorem d_L_lengthOf_2 : decode m_L_lengthOf.2.1 2 = .ok (.iload_n 1, 1) := by decide +kernel
theorem d_L_lengthOf_3 : decode m_L_lengthOf.2.1 3 = .ok (.istore_n 3, 1) := by decide +kernel
theorem d_L_lengthOf_4 : decode m_L_lengthOf.2.1 4 = .ok (.iload_n 3, 1) := by decide +kernel
theorem d_L_lengthOf_5 : decode m_L_lengthOf.2.1 5 = .ok (.ifCond .le 26, 3) := by decide +kernel
theorem d_L_lengthOf_8 : decode m_L_lengthOf.2.1 8 = .ok (.iload_n 2, 1) := by decide +kernel
theorem d_L_lengthOf_9 : decode m_L_lengthOf.2.1 9 = .ok (.aload_n 0, 1) := by decide +kernel
theorem d_L_lengthOf_10 : decode m_L_lengthOf.2.1 10 = .ok (.getfield 41, 3) := by decide +kernel
theorem d_L_lengthOf_13 : decode m_L_lengthOf.2.1 13 = .ok (.if_icmp .ge 18, 3) := by decide +kernel
theorem d_L_lengthOf_16 : decode m_L_lengthOf.2.1 16 = .ok (.iinc 2 1, 3) := by decide +kernel
theorem d_L_lengthOf_19 : decode m_L_lengthOf.2.1 19 = .ok (.iload_n 3, 1) := by decide +kernel
theorem d_L_lengthOf_20 : decode m_L_lengthOf.2.1 20 = .ok (.iconst 1, 1) := by decide +kernel
theorem d_L_lengthOf_21 : decode m_L_lengthOf.2.1 21 = .ok (.isub, 1) := by decide +kernel
theorem d_L_lengthOf_22 : decode m_L_lengthOf.2.1 22 = .ok (.aload_n 0, 1) := by decide +kernel
theorem d_L_lengthOf_23 : decode m_L_lengthOf.2.1 23 = .ok (.getfield 47, 3) := by decide +kernel
theorem d_L_lengthOf_26 : decode m_L_lengthOf.2.1 26 = .ok (.idiv, 1) := by decide +kernel
theorem d_L_lengthOf_27 : decode m_L_lengthOf.2.1 27 = .ok (.istore_n 3, 1) := by decide +kernel
theorem d_L_lengthOf_28 : decode m_L_lengthOf.2.1 28 = .ok (.goto (-24), 3) := by decide +kernel
theorem d_L_lengthOf_31 : decode m_L_lengthOf.2.1 31 = .ok (.iload_n 2, 1) := by decide +kernel
theorem d_L_lengthOf_32 : decode m_L_lengthOf.2.1 32 = .ok (.ireturn, 1) := by decide +kernel
def f_L_lengthOf_4 : Nat → Int → Int → qMem → Option (Int × qMem)
  | 0, _, _, _ => none
  | n + 1, x2, x3, w =>
    if x3 ≤ 0 then
    some (x2, w)
    else
    if x2 < (w 81 9) then
    qdv (w 81 11) <|
    (f_L_lengthOf_4 n) (w32 (x2 + 1)) (jdiv (w32 (x3 - 1)) (w 81 11)) w
    else
    some (x2, w)
set_option maxRecDepth 4000 in
theorem s_L_lengthOf_4  : ∀ (n : Nat), ∀ (x2 x3 : Int) (w : qMem), qSim κI 100 100 m_L_lengthOf 4 [] [some (qR 81), none, some (qI x2), some (qI x3)] w (f_L_lengthOf_4 n x2 x3 w) := by
  intro n
  induction n with
  | zero => intro x2 x3 w; exact z_none
  | succ n ih =>
    intro x2 x3 w
    rw [f_L_lengthOf_4]
    refine z_iload_n d_L_lengthOf_4 rfl ?_
    refine z_if_le (tgt := 31) d_L_lengthOf_5 rfl (fun c1 => ?_) (fun c1 => ?_)
    · refine z_iload_n d_L_lengthOf_31 rfl ?_
      exact z_iret d_L_lengthOf_32 rfl rfl
    · refine z_iload_n d_L_lengthOf_8 rfl ?_
      refine z_aload_n d_L_lengthOf_9 rfl ?_
      refine z_gi (ci := 1) (j := 9) (ji := 9) d_L_lengthOf_10 rfl fl_L_41 rfl rfl rfl ?_
      refine z_icmp_ge (tgt := 31) d_L_lengthOf_13 rfl (fun c2 => ?_) (fun c2 => ?_)
      · refine z_iinc (pls' := [some (qR 81), none, some (qI (w32 (x2 + 1))), some (qI x3)]) d_L_lengthOf_16 (by decide) rfl rfl rfl ?_
        refine z_iload_n d_L_lengthOf_19 rfl ?_
        refine z_ic1 d_L_lengthOf_20 ?_
        refine z_isub d_L_lengthOf_21 ?_
        refine z_aload_n d_L_lengthOf_22 rfl ?_
        refine z_gi (ci := 1) (j := 11) (ji := 11) d_L_lengthOf_23 rfl fl_L_47 rfl rfl rfl ?_
        refine z_idiv d_L_lengthOf_26 (fun _ => ?_)
        refine z_istore_n (pls' := [some (qR 81), none, some (qI (w32 (x2 + 1))), some (qI (jdiv (w32 (x3 - 1)) (w 81 11)))]) d_L_lengthOf_27 (by decide) rfl rfl ?_
        refine z_goto (tgt := 4) d_L_lengthOf_28 rfl ?_
        refine z_mask [true, false, true, true] ?_
        exact ih _ _ _
      · refine z_iload_n d_L_lengthOf_31 rfl ?_
        exact z_iret d_L_lengthOf_32 rfl rfl
def f_L_lengthOf (x1 : Int) (w : qMem) : Option (Int × qMem) :=
  f_L_lengthOf_4 qFU 0 x1 w
set_option maxRecDepth 4000 in
theorem s_L_lengthOf (x1 : Int) (w : qMem) : qSim κI 100 100 m_L_lengthOf 0 [] [some (qR 81), some (qI x1), none, none] w (f_L_lengthOf x1 w) := by
  unfold f_L_lengthOf
  refine z_ic0 d_L_lengthOf_0 ?_
  refine z_istore_n (pls' := [some (qR 81), some (qI x1), some (qI 0), none]) d_L_lengthOf_1 (by decide) rfl rfl ?_
  refine z_iload_n d_L_lengthOf_2 rfl ?_
  refine z_istore_n (pls' := [some (qR 81), some (qI x1), some (qI 0), some (qI x1)]) d_L_lengthOf_3 (by decide) rfl rfl ?_
  refine z_mask [true, false, true, true] ?_
  exact s_L_lengthOf_4 _ _ _ _
/-! BubbleTorus$LoneRing.open -/
theorem d_L_open_0 : decode m_L_open.2.1 0 = .ok (.iconst 0, 1) := by decide +kernel
theorem d_L_open_1 : decode m_L_open.2.1 1 = .ok (.istore_n 2, 1) := by decide +kernel
theorem d_L_open_2 : decode m_L_open.2.1 2 = .ok (.iload_n 2, 1) := by decide +kernel
theorem d_L_open_3 : decode m_L_open.2.1 3 = .ok (.aload_n 0, 1) := by decide +kernel
theorem d_L_open_4 : decode m_L_open.2.1 4 = .ok (.getfield 37, 3) := by decide +kernel
theorem d_L_open_7 : decode m_L_open.2.1 7 = .ok (.if_icmp .ge 48, 3) := by decide +kernel
theorem d_L_open_10 : decode m_L_open.2.1 10 = .ok (.aload_n 0, 1) := by decide +kernel
theorem d_L_open_11 : decode m_L_open.2.1 11 = .ok (.getfield 19, 3) := by decide +kernel
theorem d_L_open_14 : decode m_L_open.2.1 14 = .ok (.iload_n 2, 1) := by decide +kernel
theorem d_L_open_15 : decode m_L_open.2.1 15 = .ok (.iload_n 1, 1) := by decide +kernel
theorem d_L_open_16 : decode m_L_open.2.1 16 = .ok (.aload_n 0, 1) := by decide +kernel
theorem d_L_open_17 : decode m_L_open.2.1 17 = .ok (.getfield 25, 3) := by decide +kernel
theorem d_L_open_20 : decode m_L_open.2.1 20 = .ok (.iload_n 2, 1) := by decide +kernel
theorem d_L_open_21 : decode m_L_open.2.1 21 = .ok (.iconst 1, 1) := by decide +kernel
theorem d_L_open_22 : decode m_L_open.2.1 22 = .ok (.iadd, 1) := by decide +kernel
theorem d_L_open_23 : decode m_L_open.2.1 23 = .ok (.iaload, 1) := by decide +kernel
theorem d_L_open_24 : decode m_L_open.2.1 24 = .ok (.irem, 1) := by decide +kernel
theorem d_L_open_25 : decode m_L_open.2.1 25 = .ok (.aload_n 0, 1) := by decide +kernel
theorem d_L_open_26 : decode m_L_open.2.1 26 = .ok (.getfield 25, 3) := by decide +kernel
theorem d_L_open_29 : decode m_L_open.2.1 29 = .ok (.iload_n 2, 1) := by decide +kernel
theorem d_L_open_30 : decode m_L_open.2.1 30 = .ok (.iaload, 1) := by decide +kernel
theorem d_L_open_31 : decode m_L_open.2.1 31 = .ok (.idiv, 1) := by decide +kernel
theorem d_L_open_32 : decode m_L_open.2.1 32 = .ok (.iastore, 1) := by decide +kernel
theorem d_L_open_33 : decode m_L_open.2.1 33 = .ok (.aload_n 0, 1) := by decide +kernel
theorem d_L_open_34 : decode m_L_open.2.1 34 = .ok (.getfield 22, 3) := by decide +kernel
theorem d_L_open_37 : decode m_L_open.2.1 37 = .ok (.iload_n 2, 1) := by decide +kernel
theorem d_L_open_38 : decode m_L_open.2.1 38 = .ok (.aload_n 0, 1) := by decide +kernel
theorem d_L_open_39 : decode m_L_open.2.1 39 = .ok (.aload_n 0, 1) := by decide +kernel
theorem d_L_open_40 : decode m_L_open.2.1 40 = .ok (.getfield 19, 3) := by decide +kernel
theorem d_L_open_43 : decode m_L_open.2.1 43 = .ok (.iload_n 2, 1) := by decide +kernel
theorem d_L_open_44 : decode m_L_open.2.1 44 = .ok (.iaload, 1) := by decide +kernel
theorem d_L_open_45 : decode m_L_open.2.1 45 = .ok (.invokevirtual 123, 3) := by decide +kernel
theorem d_L_open_48 : decode m_L_open.2.1 48 = .ok (.iastore, 1) := by decide +kernel
theorem d_L_open_49 : decode m_L_open.2.1 49 = .ok (.iinc 2 1, 3) := by decide +kernel
theorem d_L_open_52 : decode m_L_open.2.1 52 = .ok (.goto (-50), 3) := by decide +kernel
theorem d_L_open_55 : decode m_L_open.2.1 55 = .ok (.aload_n 0, 1) := by decide +kernel
theorem d_L_open_56 : decode m_L_open.2.1 56 = .ok (.iload_n 1, 1) := by decide +kernel
theorem d_L_open_57 : decode m_L_open.2.1 57 = .ok (.aload_n 0, 1) := by decide +kernel
theorem d_L_open_58 : decode m_L_open.2.1 58 = .ok (.getfield 25, 3) := by decide +kernel
theorem d_L_open_61 : decode m_L_open.2.1 61 = .ok (.aload_n 0, 1) := by decide +kernel
theorem d_L_open_62 : decode m_L_open.2.1 62 = .ok (.getfield 37, 3) := by decide +kernel
theorem d_L_open_65 : decode m_L_open.2.1 65 = .ok (.iaload, 1) := by decide +kernel
theorem d_L_open_66 : decode m_L_open.2.1 66 = .ok (.idiv, 1) := by decide +kernel
theorem d_L_open_67 : decode m_L_open.2.1 67 = .ok (.putfield 50, 3) := by decide +kernel
theorem d_L_open_70 : decode m_L_open.2.1 70 = .ok (.return_, 1) := by decide +kernel
def f_L_open_55 (x1 : Int) (w : qMem) : Option (qMem) :=
  qld w 86 5 (w 81 8) fun v1 =>
  qdv v1 <|
  qlt (qud w 81 12 (jdiv x1 v1)) fun w2 =>
  some w2
set_option maxRecDepth 4000 in
theorem s_L_open_55  : ∀ (x1 : Int) (w : qMem), qSim κV 100 100 m_L_open 55 [] [some (qR 81), some (qI x1), none] w (f_L_open_55 x1 w) := by
  intro x1 w
  unfold f_L_open_55
  refine z_aload_n d_L_open_55 rfl ?_
  refine z_iload_n d_L_open_56 rfl ?_
  refine z_aload_n d_L_open_57 rfl ?_
  refine z_gr (ci := 1) (j := 4) (d := 5) (o2 := 86) d_L_open_58 rfl fl_L_25 rfl (Nat.le_of_ble_eq_true rfl) rfl rfl ?_
  refine z_aload_n d_L_open_61 rfl ?_
  refine z_gi (ci := 1) (j := 8) (ji := 8) d_L_open_62 rfl fl_L_37 rfl rfl rfl ?_
  refine z_il d_L_open_65 rfl rfl (fun v1 => ?_)
  refine z_idiv d_L_open_66 (fun _ => ?_)
  refine z_pi (ci := 1) (j := 12) (ji := 12) d_L_open_67 rfl fl_L_50 rfl rfl rfl rfl rfl (fun w2 => ?_)
  exact z_vret d_L_open_70 rfl rfl
def f_L_open_2 : Nat → Int → Int → qMem → Option (qMem)
  | 0, _, _, _ => none
  | n + 1, x1, x2, w =>
    if x2 < (w 81 8) then
    qld w 86 5 (w32 (x2 + 1)) fun v4 =>
    qdv v4 <|
    qld w 86 5 x2 fun v5 =>
    qdv v5 <|
    qst w 84 4 x2 (jdiv (jrem x1 v4) v5) fun w6 =>
    qld w6 84 4 x2 fun v7 =>
    (f_L_lengthOf v7 w6).bind fun q8 =>
    qst q8.2 85 4 x2 q8.1 fun w9 =>
    (f_L_open_2 n) x1 (w32 (x2 + 1)) w9
    else
    f_L_open_55 x1 w
set_option maxRecDepth 4000 in
theorem s_L_open_2  : ∀ (n : Nat), ∀ (x1 x2 : Int) (w : qMem), qSim κV 100 100 m_L_open 2 [] [some (qR 81), some (qI x1), some (qI x2)] w (f_L_open_2 n x1 x2 w) := by
  intro n
  induction n with
  | zero => intro x1 x2 w; exact z_none
  | succ n ih =>
    intro x1 x2 w
    rw [f_L_open_2]
    refine z_iload_n d_L_open_2 rfl ?_
    refine z_aload_n d_L_open_3 rfl ?_
    refine z_gi (ci := 1) (j := 8) (ji := 8) d_L_open_4 rfl fl_L_37 rfl rfl rfl ?_
    refine z_icmp_ge (tgt := 55) d_L_open_7 rfl (fun c3 => ?_) (fun c3 => ?_)
    · refine z_aload_n d_L_open_10 rfl ?_
      refine z_gr (ci := 1) (j := 2) (d := 3) (o2 := 84) d_L_open_11 rfl fl_L_19 rfl (Nat.le_of_ble_eq_true rfl) rfl rfl ?_
      refine z_iload_n d_L_open_14 rfl ?_
      refine z_iload_n d_L_open_15 rfl ?_
      refine z_aload_n d_L_open_16 rfl ?_
      refine z_gr (ci := 1) (j := 4) (d := 5) (o2 := 86) d_L_open_17 rfl fl_L_25 rfl (Nat.le_of_ble_eq_true rfl) rfl rfl ?_
      refine z_iload_n d_L_open_20 rfl ?_
      refine z_ic1 d_L_open_21 ?_
      refine z_iadd d_L_open_22 ?_
      refine z_il d_L_open_23 rfl rfl (fun v4 => ?_)
      refine z_irem d_L_open_24 (fun _ => ?_)
      refine z_aload_n d_L_open_25 rfl ?_
      refine z_gr (ci := 1) (j := 4) (d := 5) (o2 := 86) d_L_open_26 rfl fl_L_25 rfl (Nat.le_of_ble_eq_true rfl) rfl rfl ?_
      refine z_iload_n d_L_open_29 rfl ?_
      refine z_il d_L_open_30 rfl rfl (fun v5 => ?_)
      refine z_idiv d_L_open_31 (fun _ => ?_)
      refine z_is d_L_open_32 rfl rfl (fun w6 => ?_)
      refine z_aload_n d_L_open_33 rfl ?_
      refine z_gr (ci := 1) (j := 3) (d := 4) (o2 := 85) d_L_open_34 rfl fl_L_22 rfl (Nat.le_of_ble_eq_true rfl) rfl rfl ?_
      refine z_iload_n d_L_open_37 rfl ?_
      refine z_aload_n d_L_open_38 rfl ?_
      refine z_aload_n d_L_open_39 rfl ?_
      refine z_gr (ci := 1) (j := 2) (d := 3) (o2 := 84) d_L_open_40 rfl fl_L_19 rfl (Nat.le_of_ble_eq_true rfl) rfl rfl ?_
      refine z_iload_n d_L_open_43 rfl ?_
      refine z_il d_L_open_44 rfl rfl (fun v7 => ?_)
      refine z_cVI (as := [qI v7]) (st := [qI x2, qR 85]) (nl := 2) (ci := 1) d_L_open_45 lk_L_123 mk_L_lengthOf rfl rfl rfl rfl rfl rfl (s_L_lengthOf _ _) (fun q8 _ hq8 => ?_)
      refine z_is d_L_open_48 rfl rfl (fun w9 => ?_)
      refine z_iinc (pls' := [some (qR 81), some (qI x1), some (qI (w32 (x2 + 1)))]) d_L_open_49 (by decide) rfl rfl rfl ?_
      refine z_goto (tgt := 2) d_L_open_52 rfl ?_
      refine z_mask [true, true, true] ?_
      exact ih _ _ _
    · refine z_mask [true, true, false] ?_
      exact s_L_open_55 _ _
def f_L_open (x1 : Int) (w : qMem) : Option (qMem) :=
  f_L_open_2 qFU x1 0 w
set_option maxRecDepth 4000 in
theorem s_L_open (x1 : Int) (w : qMem) : qSim κV 100 100 m_L_open 0 [] [some (qR 81), some (qI x1), none] w (f_L_open x1 w) := by
  unfold f_L_open
  refine z_ic0 d_L_open_0 ?_
  refine z_istore_n (pls' := [some (qR 81), some (qI x1), some (qI 0)]) d_L_open_1 (by decide) rfl rfl ?_
  refine z_mask [true, true, true] ?_
  exact s_L_open_2 _ _ _ _
/-! BubbleTorus$LoneRing.addStep -/
theorem d_L_addStep_0 : decode m_L_addStep.2.1 0 = .ok (.aload_n 0, 1) := by decide +kernel
theorem d_L_addStep_1 : decode m_L_addStep.2.1 1 = .ok (.getfield 56, 3) := by decide +kernel
theorem d_L_addStep_4 : decode m_L_addStep.2.1 4 = .ok (.aload_n 0, 1) := by decide +kernel
theorem d_L_addStep_5 : decode m_L_addStep.2.1 5 = .ok (.getfield 28, 3) := by decide +kernel
theorem d_L_addStep_8 : decode m_L_addStep.2.1 8 = .ok (.arraylength, 1) := by decide +kernel
theorem d_L_addStep_9 : decode m_L_addStep.2.1 9 = .ok (.if_icmp .ge 34, 3) := by decide +kernel
theorem d_L_addStep_12 : decode m_L_addStep.2.1 12 = .ok (.iload_n 1, 1) := by decide +kernel
theorem d_L_addStep_13 : decode m_L_addStep.2.1 13 = .ok (.ifCond .lt 30, 3) := by decide +kernel
theorem d_L_addStep_16 : decode m_L_addStep.2.1 16 = .ok (.iload_n 1, 1) := by decide +kernel
theorem d_L_addStep_17 : decode m_L_addStep.2.1 17 = .ok (.sipush 10125, 3) := by decide +kernel
theorem d_L_addStep_20 : decode m_L_addStep.2.1 20 = .ok (.if_icmp .ge 23, 3) := by decide +kernel
theorem d_L_addStep_23 : decode m_L_addStep.2.1 23 = .ok (.aload_n 0, 1) := by decide +kernel
theorem d_L_addStep_24 : decode m_L_addStep.2.1 24 = .ok (.getfield 28, 3) := by decide +kernel
theorem d_L_addStep_27 : decode m_L_addStep.2.1 27 = .ok (.aload_n 0, 1) := by decide +kernel
theorem d_L_addStep_28 : decode m_L_addStep.2.1 28 = .ok (.getfield 56, 3) := by decide +kernel
theorem d_L_addStep_31 : decode m_L_addStep.2.1 31 = .ok (.iload_n 1, 1) := by decide +kernel
theorem d_L_addStep_32 : decode m_L_addStep.2.1 32 = .ok (.iastore, 1) := by decide +kernel
theorem d_L_addStep_33 : decode m_L_addStep.2.1 33 = .ok (.aload_n 0, 1) := by decide +kernel
theorem d_L_addStep_34 : decode m_L_addStep.2.1 34 = .ok (.dup, 1) := by decide +kernel
theorem d_L_addStep_35 : decode m_L_addStep.2.1 35 = .ok (.getfield 56, 3) := by decide +kernel
theorem d_L_addStep_38 : decode m_L_addStep.2.1 38 = .ok (.iconst 1, 1) := by decide +kernel
theorem d_L_addStep_39 : decode m_L_addStep.2.1 39 = .ok (.iadd, 1) := by decide +kernel
theorem d_L_addStep_40 : decode m_L_addStep.2.1 40 = .ok (.putfield 56, 3) := by decide +kernel
theorem d_L_addStep_43 : decode m_L_addStep.2.1 43 = .ok (.return_, 1) := by decide +kernel
def f_L_addStep (x1 : Int) (w : qMem) : Option (qMem) :=
  if (w 81 14) < 16 then
  if x1 < 0 then
  some w
  else
  if x1 < 10125 then
  qst w 87 16 (w 81 14) x1 fun w4 =>
  qlt (qud w4 81 14 (w32 ((w4 81 14) + 1))) fun w5 =>
  some w5
  else
  some w
  else
  some w
set_option maxRecDepth 4000 in
theorem s_L_addStep (x1 : Int) (w : qMem) : qSim κV 100 100 m_L_addStep 0 [] [some (qR 81), some (qI x1)] w (f_L_addStep x1 w) := by
  unfold f_L_addStep
  refine z_aload_n d_L_addStep_0 rfl ?_
  refine z_gi (ci := 1) (j := 14) (ji := 14) d_L_addStep_1 rfl fl_L_56 rfl rfl rfl ?_
  refine z_aload_n d_L_addStep_4 rfl ?_
  refine z_gr (ci := 1) (j := 5) (d := 6) (o2 := 87) d_L_addStep_5 rfl fl_L_28 rfl (Nat.le_of_ble_eq_true rfl) rfl rfl ?_
  refine z_alen (Ni := 16) d_L_addStep_8 rfl (by decide) rfl (by decide) ?_
  refine z_icmp_ge (tgt := 43) d_L_addStep_9 rfl (fun c1 => ?_) (fun c1 => ?_)
  · refine z_iload_n d_L_addStep_12 rfl ?_
    refine z_if_lt (tgt := 43) d_L_addStep_13 rfl (fun c2 => ?_) (fun c2 => ?_)
    · exact z_vret d_L_addStep_43 rfl rfl
    · refine z_iload_n d_L_addStep_16 rfl ?_
      refine z_sipush d_L_addStep_17 ⟨by decide, by decide⟩ ?_
      refine z_icmp_ge (tgt := 43) d_L_addStep_20 rfl (fun c3 => ?_) (fun c3 => ?_)
      · refine z_aload_n d_L_addStep_23 rfl ?_
        refine z_gr (ci := 1) (j := 5) (d := 6) (o2 := 87) d_L_addStep_24 rfl fl_L_28 rfl (Nat.le_of_ble_eq_true rfl) rfl rfl ?_
        refine z_aload_n d_L_addStep_27 rfl ?_
        refine z_gi (ci := 1) (j := 14) (ji := 14) d_L_addStep_28 rfl fl_L_56 rfl rfl rfl ?_
        refine z_iload_n d_L_addStep_31 rfl ?_
        refine z_is d_L_addStep_32 rfl rfl (fun w4 => ?_)
        refine z_aload_n d_L_addStep_33 rfl ?_
        refine z_dup d_L_addStep_34 rfl ?_
        refine z_gi (ci := 1) (j := 14) (ji := 14) d_L_addStep_35 rfl fl_L_56 rfl rfl rfl ?_
        refine z_ic1 d_L_addStep_38 ?_
        refine z_iadd d_L_addStep_39 ?_
        refine z_pi (ci := 1) (j := 14) (ji := 14) d_L_addStep_40 rfl fl_L_56 rfl rfl rfl rfl rfl (fun w5 => ?_)
        exact z_vret d_L_addStep_43 rfl rfl
      · exact z_vret d_L_addStep_43 rfl rfl
  · exact z_vret d_L_addStep_43 rfl rfl
/-! BubbleTorus$LoneRing.put -/
theorem d_L_put_0 : decode m_L_put.2.1 0 = .ok (.iload_n 2, 1) := by decide +kernel
theorem d_L_put_1 : decode m_L_put.2.1 1 = .ok (.iconst 1, 1) := by decide +kernel
theorem d_L_put_2 : decode m_L_put.2.1 2 = .ok (.iadd, 1) := by decide +kernel
theorem d_L_put_3 : decode m_L_put.2.1 3 = .ok (.istore_n 3, 1) := by decide +kernel
theorem d_L_put_4 : decode m_L_put.2.1 4 = .ok (.iconst 0, 1) := by decide +kernel
theorem d_L_put_5 : decode m_L_put.2.1 5 = .ok (.istore 4, 2) := by decide +kernel
theorem d_L_put_7 : decode m_L_put.2.1 7 = .ok (.iload 4, 2) := by decide +kernel
theorem d_L_put_9 : decode m_L_put.2.1 9 = .ok (.aload_n 0, 1) := by decide +kernel
theorem d_L_put_10 : decode m_L_put.2.1 10 = .ok (.getfield 22, 3) := by decide +kernel
theorem d_L_put_13 : decode m_L_put.2.1 13 = .ok (.iload_n 1, 1) := by decide +kernel
theorem d_L_put_14 : decode m_L_put.2.1 14 = .ok (.iaload, 1) := by decide +kernel
theorem d_L_put_15 : decode m_L_put.2.1 15 = .ok (.if_icmp .ge 16, 3) := by decide +kernel
theorem d_L_put_18 : decode m_L_put.2.1 18 = .ok (.iload_n 3, 1) := by decide +kernel
theorem d_L_put_19 : decode m_L_put.2.1 19 = .ok (.aload_n 0, 1) := by decide +kernel
theorem d_L_put_20 : decode m_L_put.2.1 20 = .ok (.getfield 47, 3) := by decide +kernel
theorem d_L_put_23 : decode m_L_put.2.1 23 = .ok (.imul, 1) := by decide +kernel
theorem d_L_put_24 : decode m_L_put.2.1 24 = .ok (.istore_n 3, 1) := by decide +kernel
theorem d_L_put_25 : decode m_L_put.2.1 25 = .ok (.iinc 4 1, 3) := by decide +kernel
theorem d_L_put_28 : decode m_L_put.2.1 28 = .ok (.goto (-21), 3) := by decide +kernel
theorem d_L_put_31 : decode m_L_put.2.1 31 = .ok (.iload_n 3, 1) := by decide +kernel
theorem d_L_put_32 : decode m_L_put.2.1 32 = .ok (.aload_n 0, 1) := by decide +kernel
theorem d_L_put_33 : decode m_L_put.2.1 33 = .ok (.getfield 25, 3) := by decide +kernel
theorem d_L_put_36 : decode m_L_put.2.1 36 = .ok (.iload_n 1, 1) := by decide +kernel
theorem d_L_put_37 : decode m_L_put.2.1 37 = .ok (.iaload, 1) := by decide +kernel
theorem d_L_put_38 : decode m_L_put.2.1 38 = .ok (.imul, 1) := by decide +kernel
theorem d_L_put_39 : decode m_L_put.2.1 39 = .ok (.ireturn, 1) := by decide +kernel
def f_L_put_31 (x1 x3 : Int) (w : qMem) : Option (Int × qMem) :=
  qld w 86 5 x1 fun v1 =>
  some ((w32 (x3 * v1)), w)
set_option maxRecDepth 4000 in
theorem s_L_put_31  : ∀ (x1 x3 : Int) (w : qMem), qSim κI 100 100 m_L_put 31 [] [some (qR 81), some (qI x1), none, some (qI x3), none] w (f_L_put_31 x1 x3 w) := by
  intro x1 x3 w
  unfold f_L_put_31
  refine z_iload_n d_L_put_31 rfl ?_
  refine z_aload_n d_L_put_32 rfl ?_
  refine z_gr (ci := 1) (j := 4) (d := 5) (o2 := 86) d_L_put_33 rfl fl_L_25 rfl (Nat.le_of_ble_eq_true rfl) rfl rfl ?_
  refine z_iload_n d_L_put_36 rfl ?_
  refine z_il d_L_put_37 rfl rfl (fun v1 => ?_)
  refine z_imul d_L_put_38 ?_
  exact z_iret d_L_put_39 rfl rfl
def f_L_put_7 : Nat → Int → Int → Int → qMem → Option (Int × qMem)
  | 0, _, _, _, _ => none
  | n + 1, x1, x3, x4, w =>
    qld w 85 4 x1 fun v2 =>
    if x4 < v2 then
    (f_L_put_7 n) x1 (w32 (x3 * (w 81 11))) (w32 (x4 + 1)) w
    else
    f_L_put_31 x1 x3 w
set_option maxRecDepth 4000 in
theorem s_L_put_7  : ∀ (n : Nat), ∀ (x1 x3 x4 : Int) (w : qMem), qSim κI 100 100 m_L_put 7 [] [some (qR 81), some (qI x1), none, some (qI x3), some (qI x4)] w (f_L_put_7 n x1 x3 x4 w) := by
  intro n
  induction n with
  | zero => intro x1 x3 x4 w; exact z_none
  | succ n ih =>
    intro x1 x3 x4 w
    rw [f_L_put_7]
    refine z_iload d_L_put_7 rfl ?_
    refine z_aload_n d_L_put_9 rfl ?_
    refine z_gr (ci := 1) (j := 3) (d := 4) (o2 := 85) d_L_put_10 rfl fl_L_22 rfl (Nat.le_of_ble_eq_true rfl) rfl rfl ?_
    refine z_iload_n d_L_put_13 rfl ?_
    refine z_il d_L_put_14 rfl rfl (fun v2 => ?_)
    refine z_icmp_ge (tgt := 31) d_L_put_15 rfl (fun c3 => ?_) (fun c3 => ?_)
    · refine z_iload_n d_L_put_18 rfl ?_
      refine z_aload_n d_L_put_19 rfl ?_
      refine z_gi (ci := 1) (j := 11) (ji := 11) d_L_put_20 rfl fl_L_47 rfl rfl rfl ?_
      refine z_imul d_L_put_23 ?_
      refine z_istore_n (pls' := [some (qR 81), some (qI x1), none, some (qI (w32 (x3 * (w 81 11)))), some (qI x4)]) d_L_put_24 (by decide) rfl rfl ?_
      refine z_iinc (pls' := [some (qR 81), some (qI x1), none, some (qI (w32 (x3 * (w 81 11)))), some (qI (w32 (x4 + 1)))]) d_L_put_25 (by decide) rfl rfl rfl ?_
      refine z_goto (tgt := 7) d_L_put_28 rfl ?_
      refine z_mask [true, true, false, true, true] ?_
      exact ih _ _ _ _
    · refine z_mask [true, true, false, true, false] ?_
      exact s_L_put_31 _ _ _
def f_L_put (x1 : Int) (x2 : Int) (w : qMem) : Option (Int × qMem) :=
  f_L_put_7 qFU x1 (w32 (x2 + 1)) 0 w
set_option maxRecDepth 4000 in
theorem s_L_put (x1 : Int) (x2 : Int) (w : qMem) : qSim κI 100 100 m_L_put 0 [] [some (qR 81), some (qI x1), some (qI x2), none, none] w (f_L_put x1 x2 w) := by
  unfold f_L_put
  refine z_iload_n d_L_put_0 rfl ?_
  refine z_ic1 d_L_put_1 ?_
  refine z_iadd d_L_put_2 ?_
  refine z_istore_n (pls' := [some (qR 81), some (qI x1), some (qI x2), some (qI (w32 (x2 + 1))), none]) d_L_put_3 (by decide) rfl rfl ?_
  refine z_ic0 d_L_put_4 ?_
  refine z_istore (pls' := [some (qR 81), some (qI x1), some (qI x2), some (qI (w32 (x2 + 1))), some (qI 0)]) d_L_put_5 (by decide) rfl rfl ?_
  refine z_mask [true, true, false, true, true] ?_
  exact s_L_put_7 _ _ _ _ _
/-! BubbleTorus$LoneRing.listStepOfFirst -/
theorem d_L_listStepOfFirst_0 : decode m_L_listStepOfFirst.2.1 0 = .ok (.aload_n 0, 1) := by decide +kernel
theorem d_L_listStepOfFirst_1 : decode m_L_listStepOfFirst.2.1 1 = .ok (.getfield 19, 3) := by decide +kernel
theorem d_L_listStepOfFirst_4 : decode m_L_listStepOfFirst.2.1 4 = .ok (.iload_n 2, 1) := by decide +kernel
theorem d_L_listStepOfFirst_5 : decode m_L_listStepOfFirst.2.1 5 = .ok (.iaload, 1) := by decide +kernel
theorem d_L_listStepOfFirst_6 : decode m_L_listStepOfFirst.2.1 6 = .ok (.iconst 1, 1) := by decide +kernel
theorem d_L_listStepOfFirst_7 : decode m_L_listStepOfFirst.2.1 7 = .ok (.isub, 1) := by decide +kernel
theorem d_L_listStepOfFirst_8 : decode m_L_listStepOfFirst.2.1 8 = .ok (.aload_n 0, 1) := by decide +kernel
theorem d_L_listStepOfFirst_9 : decode m_L_listStepOfFirst.2.1 9 = .ok (.getfield 47, 3) := by decide +kernel
theorem d_L_listStepOfFirst_12 : decode m_L_listStepOfFirst.2.1 12 = .ok (.idiv, 1) := by decide +kernel
theorem d_L_listStepOfFirst_13 : decode m_L_listStepOfFirst.2.1 13 = .ok (.istore_n 3, 1) := by decide +kernel
theorem d_L_listStepOfFirst_14 : decode m_L_listStepOfFirst.2.1 14 = .ok (.aload_n 0, 1) := by decide +kernel
theorem d_L_listStepOfFirst_15 : decode m_L_listStepOfFirst.2.1 15 = .ok (.getfield 19, 3) := by decide +kernel
theorem d_L_listStepOfFirst_18 : decode m_L_listStepOfFirst.2.1 18 = .ok (.iload_n 2, 1) := by decide +kernel
theorem d_L_listStepOfFirst_19 : decode m_L_listStepOfFirst.2.1 19 = .ok (.iaload, 1) := by decide +kernel
theorem d_L_listStepOfFirst_20 : decode m_L_listStepOfFirst.2.1 20 = .ok (.iconst 1, 1) := by decide +kernel
theorem d_L_listStepOfFirst_21 : decode m_L_listStepOfFirst.2.1 21 = .ok (.isub, 1) := by decide +kernel
theorem d_L_listStepOfFirst_22 : decode m_L_listStepOfFirst.2.1 22 = .ok (.aload_n 0, 1) := by decide +kernel
theorem d_L_listStepOfFirst_23 : decode m_L_listStepOfFirst.2.1 23 = .ok (.getfield 47, 3) := by decide +kernel
theorem d_L_listStepOfFirst_26 : decode m_L_listStepOfFirst.2.1 26 = .ok (.irem, 1) := by decide +kernel
theorem d_L_listStepOfFirst_27 : decode m_L_listStepOfFirst.2.1 27 = .ok (.istore 4, 2) := by decide +kernel
theorem d_L_listStepOfFirst_29 : decode m_L_listStepOfFirst.2.1 29 = .ok (.iload_n 1, 1) := by decide +kernel
theorem d_L_listStepOfFirst_30 : decode m_L_listStepOfFirst.2.1 30 = .ok (.iload_n 3, 1) := by decide +kernel
theorem d_L_listStepOfFirst_31 : decode m_L_listStepOfFirst.2.1 31 = .ok (.aload_n 0, 1) := by decide +kernel
theorem d_L_listStepOfFirst_32 : decode m_L_listStepOfFirst.2.1 32 = .ok (.getfield 19, 3) := by decide +kernel
theorem d_L_listStepOfFirst_35 : decode m_L_listStepOfFirst.2.1 35 = .ok (.iload_n 2, 1) := by decide +kernel
theorem d_L_listStepOfFirst_36 : decode m_L_listStepOfFirst.2.1 36 = .ok (.iaload, 1) := by decide +kernel
theorem d_L_listStepOfFirst_37 : decode m_L_listStepOfFirst.2.1 37 = .ok (.isub, 1) := by decide +kernel
theorem d_L_listStepOfFirst_38 : decode m_L_listStepOfFirst.2.1 38 = .ok (.aload_n 0, 1) := by decide +kernel
theorem d_L_listStepOfFirst_39 : decode m_L_listStepOfFirst.2.1 39 = .ok (.getfield 25, 3) := by decide +kernel
theorem d_L_listStepOfFirst_42 : decode m_L_listStepOfFirst.2.1 42 = .ok (.iload_n 2, 1) := by decide +kernel
theorem d_L_listStepOfFirst_43 : decode m_L_listStepOfFirst.2.1 43 = .ok (.iaload, 1) := by decide +kernel
theorem d_L_listStepOfFirst_44 : decode m_L_listStepOfFirst.2.1 44 = .ok (.imul, 1) := by decide +kernel
theorem d_L_listStepOfFirst_45 : decode m_L_listStepOfFirst.2.1 45 = .ok (.iadd, 1) := by decide +kernel
theorem d_L_listStepOfFirst_46 : decode m_L_listStepOfFirst.2.1 46 = .ok (.istore 5, 2) := by decide +kernel
theorem d_L_listStepOfFirst_48 : decode m_L_listStepOfFirst.2.1 48 = .ok (.iload 4, 2) := by decide +kernel
theorem d_L_listStepOfFirst_50 : decode m_L_listStepOfFirst.2.1 50 = .ok (.ifCond .ne 10, 3) := by decide +kernel
theorem d_L_listStepOfFirst_53 : decode m_L_listStepOfFirst.2.1 53 = .ok (.aload_n 0, 1) := by decide +kernel
theorem d_L_listStepOfFirst_54 : decode m_L_listStepOfFirst.2.1 54 = .ok (.iload 5, 2) := by decide +kernel
theorem d_L_listStepOfFirst_56 : decode m_L_listStepOfFirst.2.1 56 = .ok (.invokevirtual 132, 3) := by decide +kernel
theorem d_L_listStepOfFirst_59 : decode m_L_listStepOfFirst.2.1 59 = .ok (.return_, 1) := by decide +kernel
theorem d_L_listStepOfFirst_60 : decode m_L_listStepOfFirst.2.1 60 = .ok (.iload_n 2, 1) := by decide +kernel
theorem d_L_listStepOfFirst_61 : decode m_L_listStepOfFirst.2.1 61 = .ok (.iconst 1, 1) := by decide +kernel
theorem d_L_listStepOfFirst_62 : decode m_L_listStepOfFirst.2.1 62 = .ok (.iadd, 1) := by decide +kernel
theorem d_L_listStepOfFirst_63 : decode m_L_listStepOfFirst.2.1 63 = .ok (.aload_n 0, 1) := by decide +kernel
theorem d_L_listStepOfFirst_64 : decode m_L_listStepOfFirst.2.1 64 = .ok (.getfield 37, 3) := by decide +kernel
theorem d_L_listStepOfFirst_67 : decode m_L_listStepOfFirst.2.1 67 = .ok (.irem, 1) := by decide +kernel
theorem d_L_listStepOfFirst_68 : decode m_L_listStepOfFirst.2.1 68 = .ok (.istore 6, 2) := by decide +kernel
theorem d_L_listStepOfFirst_70 : decode m_L_listStepOfFirst.2.1 70 = .ok (.aload_n 0, 1) := by decide +kernel
theorem d_L_listStepOfFirst_71 : decode m_L_listStepOfFirst.2.1 71 = .ok (.getfield 41, 3) := by decide +kernel
theorem d_L_listStepOfFirst_74 : decode m_L_listStepOfFirst.2.1 74 = .ok (.aload_n 0, 1) := by decide +kernel
theorem d_L_listStepOfFirst_75 : decode m_L_listStepOfFirst.2.1 75 = .ok (.getfield 22, 3) := by decide +kernel
theorem d_L_listStepOfFirst_78 : decode m_L_listStepOfFirst.2.1 78 = .ok (.iload 6, 2) := by decide +kernel
theorem d_L_listStepOfFirst_80 : decode m_L_listStepOfFirst.2.1 80 = .ok (.iaload, 1) := by decide +kernel
theorem d_L_listStepOfFirst_81 : decode m_L_listStepOfFirst.2.1 81 = .ok (.isub, 1) := by decide +kernel
theorem d_L_listStepOfFirst_82 : decode m_L_listStepOfFirst.2.1 82 = .ok (.istore 7, 2) := by decide +kernel
theorem d_L_listStepOfFirst_84 : decode m_L_listStepOfFirst.2.1 84 = .ok (.iload 7, 2) := by decide +kernel
theorem d_L_listStepOfFirst_86 : decode m_L_listStepOfFirst.2.1 86 = .ok (.ifCond .le 76, 3) := by decide +kernel
theorem d_L_listStepOfFirst_89 : decode m_L_listStepOfFirst.2.1 89 = .ok (.aload_n 0, 1) := by decide +kernel
theorem d_L_listStepOfFirst_90 : decode m_L_listStepOfFirst.2.1 90 = .ok (.getfield 44, 3) := by decide +kernel
theorem d_L_listStepOfFirst_93 : decode m_L_listStepOfFirst.2.1 93 = .ok (.iconst 2, 1) := by decide +kernel
theorem d_L_listStepOfFirst_94 : decode m_L_listStepOfFirst.2.1 94 = .ok (.if_icmp .ne 22, 3) := by decide +kernel
theorem d_L_listStepOfFirst_97 : decode m_L_listStepOfFirst.2.1 97 = .ok (.aload_n 0, 1) := by decide +kernel
theorem d_L_listStepOfFirst_98 : decode m_L_listStepOfFirst.2.1 98 = .ok (.getfield 50, 3) := by decide +kernel
theorem d_L_listStepOfFirst_101 : decode m_L_listStepOfFirst.2.1 101 = .ok (.iload 6, 2) := by decide +kernel
theorem d_L_listStepOfFirst_103 : decode m_L_listStepOfFirst.2.1 103 = .ok (.if_icmp .ne 13, 3) := by decide +kernel
theorem d_L_listStepOfFirst_106 : decode m_L_listStepOfFirst.2.1 106 = .ok (.iload 7, 2) := by decide +kernel
theorem d_L_listStepOfFirst_108 : decode m_L_listStepOfFirst.2.1 108 = .ok (.iconst 1, 1) := by decide +kernel
theorem d_L_listStepOfFirst_109 : decode m_L_listStepOfFirst.2.1 109 = .ok (.if_icmp .ne 7, 3) := by decide +kernel
theorem d_L_listStepOfFirst_112 : decode m_L_listStepOfFirst.2.1 112 = .ok (.iconst 1, 1) := by decide +kernel
theorem d_L_listStepOfFirst_113 : decode m_L_listStepOfFirst.2.1 113 = .ok (.goto 4, 3) := by decide +kernel
theorem d_L_listStepOfFirst_116 : decode m_L_listStepOfFirst.2.1 116 = .ok (.iconst 0, 1) := by decide +kernel
theorem d_L_listStepOfFirst_117 : decode m_L_listStepOfFirst.2.1 117 = .ok (.istore 8, 2) := by decide +kernel
theorem d_L_listStepOfFirst_119 : decode m_L_listStepOfFirst.2.1 119 = .ok (.aload_n 0, 1) := by decide +kernel
theorem d_L_listStepOfFirst_120 : decode m_L_listStepOfFirst.2.1 120 = .ok (.iload 5, 2) := by decide +kernel
theorem d_L_listStepOfFirst_122 : decode m_L_listStepOfFirst.2.1 122 = .ok (.aload_n 0, 1) := by decide +kernel
theorem d_L_listStepOfFirst_123 : decode m_L_listStepOfFirst.2.1 123 = .ok (.iload 6, 2) := by decide +kernel
theorem d_L_listStepOfFirst_125 : decode m_L_listStepOfFirst.2.1 125 = .ok (.iload 4, 2) := by decide +kernel
theorem d_L_listStepOfFirst_127 : decode m_L_listStepOfFirst.2.1 127 = .ok (.iconst 1, 1) := by decide +kernel
theorem d_L_listStepOfFirst_128 : decode m_L_listStepOfFirst.2.1 128 = .ok (.isub, 1) := by decide +kernel
theorem d_L_listStepOfFirst_129 : decode m_L_listStepOfFirst.2.1 129 = .ok (.invokevirtual 129, 3) := by decide +kernel
theorem d_L_listStepOfFirst_132 : decode m_L_listStepOfFirst.2.1 132 = .ok (.iadd, 1) := by decide +kernel
theorem d_L_listStepOfFirst_133 : decode m_L_listStepOfFirst.2.1 133 = .ok (.iload 8, 2) := by decide +kernel
theorem d_L_listStepOfFirst_135 : decode m_L_listStepOfFirst.2.1 135 = .ok (.ifCond .eq 22, 3) := by decide +kernel
theorem d_L_listStepOfFirst_138 : decode m_L_listStepOfFirst.2.1 138 = .ok (.iload_n 2, 1) := by decide +kernel
theorem d_L_listStepOfFirst_139 : decode m_L_listStepOfFirst.2.1 139 = .ok (.aload_n 0, 1) := by decide +kernel
theorem d_L_listStepOfFirst_140 : decode m_L_listStepOfFirst.2.1 140 = .ok (.getfield 50, 3) := by decide +kernel
theorem d_L_listStepOfFirst_143 : decode m_L_listStepOfFirst.2.1 143 = .ok (.isub, 1) := by decide +kernel
theorem d_L_listStepOfFirst_144 : decode m_L_listStepOfFirst.2.1 144 = .ok (.aload_n 0, 1) := by decide +kernel
theorem d_L_listStepOfFirst_145 : decode m_L_listStepOfFirst.2.1 145 = .ok (.getfield 25, 3) := by decide +kernel
theorem d_L_listStepOfFirst_148 : decode m_L_listStepOfFirst.2.1 148 = .ok (.aload_n 0, 1) := by decide +kernel
theorem d_L_listStepOfFirst_149 : decode m_L_listStepOfFirst.2.1 149 = .ok (.getfield 37, 3) := by decide +kernel
theorem d_L_listStepOfFirst_152 : decode m_L_listStepOfFirst.2.1 152 = .ok (.iaload, 1) := by decide +kernel
theorem d_L_listStepOfFirst_153 : decode m_L_listStepOfFirst.2.1 153 = .ok (.imul, 1) := by decide +kernel
theorem d_L_listStepOfFirst_154 : decode m_L_listStepOfFirst.2.1 154 = .ok (.goto 4, 3) := by decide +kernel
theorem d_L_listStepOfFirst_157 : decode m_L_listStepOfFirst.2.1 157 = .ok (.iconst 0, 1) := by decide +kernel
theorem d_L_listStepOfFirst_158 : decode m_L_listStepOfFirst.2.1 158 = .ok (.iadd, 1) := by decide +kernel
theorem d_L_listStepOfFirst_159 : decode m_L_listStepOfFirst.2.1 159 = .ok (.invokevirtual 132, 3) := by decide +kernel
theorem d_L_listStepOfFirst_162 : decode m_L_listStepOfFirst.2.1 162 = .ok (.return_, 1) := by decide +kernel
def f_L_listStepOfFirst_158 (s1 s2 : Int) (w : qMem) : Option (qMem) :=
  (f_L_addStep (w32 (s1 + s2)) w).bind fun q1 =>
  some q1
set_option maxRecDepth 4000 in
theorem s_L_listStepOfFirst_158  : ∀ (s1 s2 : Int) (w : qMem), qSim κV 100 100 m_L_listStepOfFirst 158 [qI s2, qI s1, qR 81] [none, none, none, none, none, none, none, none, none] w (f_L_listStepOfFirst_158 s1 s2 w) := by
  intro s1 s2 w
  unfold f_L_listStepOfFirst_158
  refine z_iadd d_L_listStepOfFirst_158 ?_
  refine z_cVV (as := [qI (w32 (s1 + s2))]) (st := []) (nl := 0) (ci := 1) d_L_listStepOfFirst_159 lk_L_132 mk_L_addStep rfl rfl rfl rfl rfl rfl (s_L_addStep _ _) (fun q1 _ => ?_)
  exact z_vret d_L_listStepOfFirst_162 rfl rfl
def f_L_listStepOfFirst_117 (s0 x2 x4 x5 x6 : Int) (w : qMem) : Option (qMem) :=
  (f_L_put x6 (w32 (x4 - 1)) w).bind fun q2 =>
  if s0 = 0 then
  f_L_listStepOfFirst_158 (w32 (x5 + q2.1)) 0 q2.2
  else
  qld q2.2 86 5 (q2.2 81 8) fun v4 =>
  f_L_listStepOfFirst_158 (w32 (x5 + q2.1)) (w32 ((w32 (x2 - (q2.2 81 12))) * v4)) q2.2
set_option maxRecDepth 4000 in
theorem s_L_listStepOfFirst_117  : ∀ (s0 x2 x4 x5 x6 : Int) (w : qMem), (s0 = 0 ∨ s0 = 1) → qSim κV 100 100 m_L_listStepOfFirst 117 [qI s0] [some (qR 81), none, some (qI x2), none, some (qI x4), some (qI x5), some (qI x6), none, none] w (f_L_listStepOfFirst_117 s0 x2 x4 x5 x6 w) := by
  intro s0 x2 x4 x5 x6 w hs0
  unfold f_L_listStepOfFirst_117
  refine z_istore (pls' := [some (qR 81), none, some (qI x2), none, some (qI x4), some (qI x5), some (qI x6), none, some (qI s0)]) d_L_listStepOfFirst_117 (by decide) rfl rfl ?_
  refine z_aload_n d_L_listStepOfFirst_119 rfl ?_
  refine z_iload d_L_listStepOfFirst_120 rfl ?_
  refine z_aload_n d_L_listStepOfFirst_122 rfl ?_
  refine z_iload d_L_listStepOfFirst_123 rfl ?_
  refine z_iload d_L_listStepOfFirst_125 rfl ?_
  refine z_ic1 d_L_listStepOfFirst_127 ?_
  refine z_isub d_L_listStepOfFirst_128 ?_
  refine z_cVI (as := [qI x6, qI (w32 (x4 - 1))]) (st := [qI x5, qR 81]) (nl := 2) (ci := 1) d_L_listStepOfFirst_129 lk_L_129 mk_L_put rfl rfl rfl rfl rfl rfl (s_L_put _ _ _) (fun q2 _ hq2 => ?_)
  refine z_iadd d_L_listStepOfFirst_132 ?_
  refine z_iload d_L_listStepOfFirst_133 rfl ?_
  refine z_if_eq (tgt := 157) d_L_listStepOfFirst_135 rfl (fun c3 => ?_) (fun c3 => ?_)
  · refine z_ic0 d_L_listStepOfFirst_157 ?_
    refine z_mask [false, false, false, false, false, false, false, false, false] ?_
    exact s_L_listStepOfFirst_158 _ _ _
  · refine z_iload_n d_L_listStepOfFirst_138 rfl ?_
    refine z_aload_n d_L_listStepOfFirst_139 rfl ?_
    refine z_gi (ci := 1) (j := 12) (ji := 12) d_L_listStepOfFirst_140 rfl fl_L_50 rfl rfl rfl ?_
    refine z_isub d_L_listStepOfFirst_143 ?_
    refine z_aload_n d_L_listStepOfFirst_144 rfl ?_
    refine z_gr (ci := 1) (j := 4) (d := 5) (o2 := 86) d_L_listStepOfFirst_145 rfl fl_L_25 rfl (Nat.le_of_ble_eq_true rfl) rfl rfl ?_
    refine z_aload_n d_L_listStepOfFirst_148 rfl ?_
    refine z_gi (ci := 1) (j := 8) (ji := 8) d_L_listStepOfFirst_149 rfl fl_L_37 rfl rfl rfl ?_
    refine z_il d_L_listStepOfFirst_152 rfl rfl (fun v4 => ?_)
    refine z_imul d_L_listStepOfFirst_153 ?_
    refine z_goto (tgt := 158) d_L_listStepOfFirst_154 rfl ?_
    refine z_mask [false, false, false, false, false, false, false, false, false] ?_
    exact s_L_listStepOfFirst_158 _ _ _
def f_L_listStepOfFirst (x1 : Int) (x2 : Int) (w : qMem) : Option (qMem) :=
  qld w 84 4 x2 fun v5 =>
  qdv (w 81 11) <|
  qld w 84 4 x2 fun v6 =>
  qdv (w 81 11) <|
  qld w 84 4 x2 fun v7 =>
  qld w 86 5 x2 fun v8 =>
  if (jrem (w32 (v6 - 1)) (w 81 11)) = 0 then
  (f_L_addStep (w32 (x1 + (w32 ((w32 ((jdiv (w32 (v5 - 1)) (w 81 11)) - v7)) * v8)))) w).bind fun q10 =>
  some q10
  else
  qdv (w 81 8) <|
  qld w 85 4 (jrem (w32 (x2 + 1)) (w 81 8)) fun v11 =>
  if (w32 ((w 81 9) - v11)) ≤ 0 then
  some w
  else
  if (w 81 10) = 2 then
  if (w 81 12) = (jrem (w32 (x2 + 1)) (w 81 8)) then
  if (w32 ((w 81 9) - v11)) = 1 then
  f_L_listStepOfFirst_117 1 x2 (jrem (w32 (v6 - 1)) (w 81 11)) (w32 (x1 + (w32 ((w32 ((jdiv (w32 (v5 - 1)) (w 81 11)) - v7)) * v8)))) (jrem (w32 (x2 + 1)) (w 81 8)) w
  else
  f_L_listStepOfFirst_117 0 x2 (jrem (w32 (v6 - 1)) (w 81 11)) (w32 (x1 + (w32 ((w32 ((jdiv (w32 (v5 - 1)) (w 81 11)) - v7)) * v8)))) (jrem (w32 (x2 + 1)) (w 81 8)) w
  else
  f_L_listStepOfFirst_117 0 x2 (jrem (w32 (v6 - 1)) (w 81 11)) (w32 (x1 + (w32 ((w32 ((jdiv (w32 (v5 - 1)) (w 81 11)) - v7)) * v8)))) (jrem (w32 (x2 + 1)) (w 81 8)) w
  else
  f_L_listStepOfFirst_117 0 x2 (jrem (w32 (v6 - 1)) (w 81 11)) (w32 (x1 + (w32 ((w32 ((jdiv (w32 (v5 - 1)) (w 81 11)) - v7)) * v8)))) (jrem (w32 (x2 + 1)) (w 81 8)) w
set_option maxRecDepth 4000 in
theorem s_L_listStepOfFirst (x1 : Int) (x2 : Int) (w : qMem) : qSim κV 100 100 m_L_listStepOfFirst 0 [] [some (qR 81), some (qI x1), some (qI x2), none, none, none, none, none, none] w (f_L_listStepOfFirst x1 x2 w) := by
  unfold f_L_listStepOfFirst
  refine z_aload_n d_L_listStepOfFirst_0 rfl ?_
  refine z_gr (ci := 1) (j := 2) (d := 3) (o2 := 84) d_L_listStepOfFirst_1 rfl fl_L_19 rfl (Nat.le_of_ble_eq_true rfl) rfl rfl ?_
  refine z_iload_n d_L_listStepOfFirst_4 rfl ?_
  refine z_il d_L_listStepOfFirst_5 rfl rfl (fun v5 => ?_)
  refine z_ic1 d_L_listStepOfFirst_6 ?_
  refine z_isub d_L_listStepOfFirst_7 ?_
  refine z_aload_n d_L_listStepOfFirst_8 rfl ?_
  refine z_gi (ci := 1) (j := 11) (ji := 11) d_L_listStepOfFirst_9 rfl fl_L_47 rfl rfl rfl ?_
  refine z_idiv d_L_listStepOfFirst_12 (fun _ => ?_)
  refine z_istore_n (pls' := [some (qR 81), some (qI x1), some (qI x2), some (qI (jdiv (w32 (v5 - 1)) (w 81 11))), none, none, none, none, none]) d_L_listStepOfFirst_13 (by decide) rfl rfl ?_
  refine z_aload_n d_L_listStepOfFirst_14 rfl ?_
  refine z_gr (ci := 1) (j := 2) (d := 3) (o2 := 84) d_L_listStepOfFirst_15 rfl fl_L_19 rfl (Nat.le_of_ble_eq_true rfl) rfl rfl ?_
  refine z_iload_n d_L_listStepOfFirst_18 rfl ?_
  refine z_il d_L_listStepOfFirst_19 rfl rfl (fun v6 => ?_)
  refine z_ic1 d_L_listStepOfFirst_20 ?_
  refine z_isub d_L_listStepOfFirst_21 ?_
  refine z_aload_n d_L_listStepOfFirst_22 rfl ?_
  refine z_gi (ci := 1) (j := 11) (ji := 11) d_L_listStepOfFirst_23 rfl fl_L_47 rfl rfl rfl ?_
  refine z_irem d_L_listStepOfFirst_26 (fun _ => ?_)
  refine z_istore (pls' := [some (qR 81), some (qI x1), some (qI x2), some (qI (jdiv (w32 (v5 - 1)) (w 81 11))), some (qI (jrem (w32 (v6 - 1)) (w 81 11))), none, none, none, none]) d_L_listStepOfFirst_27 (by decide) rfl rfl ?_
  refine z_iload_n d_L_listStepOfFirst_29 rfl ?_
  refine z_iload_n d_L_listStepOfFirst_30 rfl ?_
  refine z_aload_n d_L_listStepOfFirst_31 rfl ?_
  refine z_gr (ci := 1) (j := 2) (d := 3) (o2 := 84) d_L_listStepOfFirst_32 rfl fl_L_19 rfl (Nat.le_of_ble_eq_true rfl) rfl rfl ?_
  refine z_iload_n d_L_listStepOfFirst_35 rfl ?_
  refine z_il d_L_listStepOfFirst_36 rfl rfl (fun v7 => ?_)
  refine z_isub d_L_listStepOfFirst_37 ?_
  refine z_aload_n d_L_listStepOfFirst_38 rfl ?_
  refine z_gr (ci := 1) (j := 4) (d := 5) (o2 := 86) d_L_listStepOfFirst_39 rfl fl_L_25 rfl (Nat.le_of_ble_eq_true rfl) rfl rfl ?_
  refine z_iload_n d_L_listStepOfFirst_42 rfl ?_
  refine z_il d_L_listStepOfFirst_43 rfl rfl (fun v8 => ?_)
  refine z_imul d_L_listStepOfFirst_44 ?_
  refine z_iadd d_L_listStepOfFirst_45 ?_
  refine z_istore (pls' := [some (qR 81), some (qI x1), some (qI x2), some (qI (jdiv (w32 (v5 - 1)) (w 81 11))), some (qI (jrem (w32 (v6 - 1)) (w 81 11))), some (qI (w32 (x1 + (w32 ((w32 ((jdiv (w32 (v5 - 1)) (w 81 11)) - v7)) * v8))))), none, none, none]) d_L_listStepOfFirst_46 (by decide) rfl rfl ?_
  refine z_iload d_L_listStepOfFirst_48 rfl ?_
  refine z_if_ne (tgt := 60) d_L_listStepOfFirst_50 rfl (fun c9 => ?_) (fun c9 => ?_)
  · refine z_aload_n d_L_listStepOfFirst_53 rfl ?_
    refine z_iload d_L_listStepOfFirst_54 rfl ?_
    refine z_cVV (as := [qI (w32 (x1 + (w32 ((w32 ((jdiv (w32 (v5 - 1)) (w 81 11)) - v7)) * v8))))]) (st := []) (nl := 0) (ci := 1) d_L_listStepOfFirst_56 lk_L_132 mk_L_addStep rfl rfl rfl rfl rfl rfl (s_L_addStep _ _) (fun q10 _ => ?_)
    exact z_vret d_L_listStepOfFirst_59 rfl rfl
  · refine z_iload_n d_L_listStepOfFirst_60 rfl ?_
    refine z_ic1 d_L_listStepOfFirst_61 ?_
    refine z_iadd d_L_listStepOfFirst_62 ?_
    refine z_aload_n d_L_listStepOfFirst_63 rfl ?_
    refine z_gi (ci := 1) (j := 8) (ji := 8) d_L_listStepOfFirst_64 rfl fl_L_37 rfl rfl rfl ?_
    refine z_irem d_L_listStepOfFirst_67 (fun _ => ?_)
    refine z_istore (pls' := [some (qR 81), some (qI x1), some (qI x2), some (qI (jdiv (w32 (v5 - 1)) (w 81 11))), some (qI (jrem (w32 (v6 - 1)) (w 81 11))), some (qI (w32 (x1 + (w32 ((w32 ((jdiv (w32 (v5 - 1)) (w 81 11)) - v7)) * v8))))), some (qI (jrem (w32 (x2 + 1)) (w 81 8))), none, none]) d_L_listStepOfFirst_68 (by decide) rfl rfl ?_
    refine z_aload_n d_L_listStepOfFirst_70 rfl ?_
    refine z_gi (ci := 1) (j := 9) (ji := 9) d_L_listStepOfFirst_71 rfl fl_L_41 rfl rfl rfl ?_
    refine z_aload_n d_L_listStepOfFirst_74 rfl ?_
    refine z_gr (ci := 1) (j := 3) (d := 4) (o2 := 85) d_L_listStepOfFirst_75 rfl fl_L_22 rfl (Nat.le_of_ble_eq_true rfl) rfl rfl ?_
    refine z_iload d_L_listStepOfFirst_78 rfl ?_
    refine z_il d_L_listStepOfFirst_80 rfl rfl (fun v11 => ?_)
    refine z_isub d_L_listStepOfFirst_81 ?_
    refine z_istore (pls' := [some (qR 81), some (qI x1), some (qI x2), some (qI (jdiv (w32 (v5 - 1)) (w 81 11))), some (qI (jrem (w32 (v6 - 1)) (w 81 11))), some (qI (w32 (x1 + (w32 ((w32 ((jdiv (w32 (v5 - 1)) (w 81 11)) - v7)) * v8))))), some (qI (jrem (w32 (x2 + 1)) (w 81 8))), some (qI (w32 ((w 81 9) - v11))), none]) d_L_listStepOfFirst_82 (by decide) rfl rfl ?_
    refine z_iload d_L_listStepOfFirst_84 rfl ?_
    refine z_if_le (tgt := 162) d_L_listStepOfFirst_86 rfl (fun c12 => ?_) (fun c12 => ?_)
    · exact z_vret d_L_listStepOfFirst_162 rfl rfl
    · refine z_aload_n d_L_listStepOfFirst_89 rfl ?_
      refine z_gi (ci := 1) (j := 10) (ji := 10) d_L_listStepOfFirst_90 rfl fl_L_44 rfl rfl rfl ?_
      refine z_ic2 d_L_listStepOfFirst_93 ?_
      refine z_icmp_ne (tgt := 116) d_L_listStepOfFirst_94 rfl (fun c13 => ?_) (fun c13 => ?_)
      · refine z_aload_n d_L_listStepOfFirst_97 rfl ?_
        refine z_gi (ci := 1) (j := 12) (ji := 12) d_L_listStepOfFirst_98 rfl fl_L_50 rfl rfl rfl ?_
        refine z_iload d_L_listStepOfFirst_101 rfl ?_
        refine z_icmp_ne (tgt := 116) d_L_listStepOfFirst_103 rfl (fun c14 => ?_) (fun c14 => ?_)
        · refine z_iload d_L_listStepOfFirst_106 rfl ?_
          refine z_ic1 d_L_listStepOfFirst_108 ?_
          refine z_icmp_ne (tgt := 116) d_L_listStepOfFirst_109 rfl (fun c15 => ?_) (fun c15 => ?_)
          · refine z_ic1 d_L_listStepOfFirst_112 ?_
            refine z_goto (tgt := 117) d_L_listStepOfFirst_113 rfl ?_
            refine z_mask [true, false, true, false, true, true, true, false, false] ?_
            exact s_L_listStepOfFirst_117 _ _ _ _ _ _ (Or.inr rfl)
          · refine z_ic0 d_L_listStepOfFirst_116 ?_
            refine z_mask [true, false, true, false, true, true, true, false, false] ?_
            exact s_L_listStepOfFirst_117 _ _ _ _ _ _ (Or.inl rfl)
        · refine z_ic0 d_L_listStepOfFirst_116 ?_
          refine z_mask [true, false, true, false, true, true, true, false, false] ?_
          exact s_L_listStepOfFirst_117 _ _ _ _ _ _ (Or.inl rfl)
      · refine z_ic0 d_L_listStepOfFirst_116 ?_
        refine z_mask [true, false, true, false, true, true, true, false, false] ?_
        exact s_L_listStepOfFirst_117 _ _ _ _ _ _ (Or.inl rfl)
/-! BubbleTorus$LoneRing.ruleLets -/
theorem d_L_ruleLets_0 : decode m_L_ruleLets.2.1 0 = .ok (.aload_n 0, 1) := by decide +kernel
theorem d_L_ruleLets_1 : decode m_L_ruleLets.2.1 1 = .ok (.getfield 44, 3) := by decide +kernel
theorem d_L_ruleLets_4 : decode m_L_ruleLets.2.1 4 = .ok (.iconst 1, 1) := by decide +kernel
theorem d_L_ruleLets_5 : decode m_L_ruleLets.2.1 5 = .ok (.if_icmp .eq 19, 3) := by decide +kernel
theorem d_L_ruleLets_8 : decode m_L_ruleLets.2.1 8 = .ok (.aload_n 0, 1) := by decide +kernel
theorem d_L_ruleLets_9 : decode m_L_ruleLets.2.1 9 = .ok (.getfield 44, 3) := by decide +kernel
theorem d_L_ruleLets_12 : decode m_L_ruleLets.2.1 12 = .ok (.iconst 2, 1) := by decide +kernel
theorem d_L_ruleLets_13 : decode m_L_ruleLets.2.1 13 = .ok (.if_icmp .ne 15, 3) := by decide +kernel
theorem d_L_ruleLets_16 : decode m_L_ruleLets.2.1 16 = .ok (.aload_n 0, 1) := by decide +kernel
theorem d_L_ruleLets_17 : decode m_L_ruleLets.2.1 17 = .ok (.getfield 50, 3) := by decide +kernel
theorem d_L_ruleLets_20 : decode m_L_ruleLets.2.1 20 = .ok (.iload_n 1, 1) := by decide +kernel
theorem d_L_ruleLets_21 : decode m_L_ruleLets.2.1 21 = .ok (.if_icmp .ne 7, 3) := by decide +kernel
theorem d_L_ruleLets_24 : decode m_L_ruleLets.2.1 24 = .ok (.iconst 1, 1) := by decide +kernel
theorem d_L_ruleLets_25 : decode m_L_ruleLets.2.1 25 = .ok (.goto 4, 3) := by decide +kernel
theorem d_L_ruleLets_28 : decode m_L_ruleLets.2.1 28 = .ok (.iconst 0, 1) := by decide +kernel
theorem d_L_ruleLets_29 : decode m_L_ruleLets.2.1 29 = .ok (.istore_n 2, 1) := by decide +kernel
theorem d_L_ruleLets_30 : decode m_L_ruleLets.2.1 30 = .ok (.aload_n 0, 1) := by decide +kernel
theorem d_L_ruleLets_31 : decode m_L_ruleLets.2.1 31 = .ok (.getfield 41, 3) := by decide +kernel
theorem d_L_ruleLets_34 : decode m_L_ruleLets.2.1 34 = .ok (.aload_n 0, 1) := by decide +kernel
theorem d_L_ruleLets_35 : decode m_L_ruleLets.2.1 35 = .ok (.getfield 22, 3) := by decide +kernel
theorem d_L_ruleLets_38 : decode m_L_ruleLets.2.1 38 = .ok (.iload_n 1, 1) := by decide +kernel
theorem d_L_ruleLets_39 : decode m_L_ruleLets.2.1 39 = .ok (.iaload, 1) := by decide +kernel
theorem d_L_ruleLets_40 : decode m_L_ruleLets.2.1 40 = .ok (.isub, 1) := by decide +kernel
theorem d_L_ruleLets_41 : decode m_L_ruleLets.2.1 41 = .ok (.iload_n 2, 1) := by decide +kernel
theorem d_L_ruleLets_42 : decode m_L_ruleLets.2.1 42 = .ok (.ifCond .eq 7, 3) := by decide +kernel
theorem d_L_ruleLets_45 : decode m_L_ruleLets.2.1 45 = .ok (.iconst 2, 1) := by decide +kernel
theorem d_L_ruleLets_46 : decode m_L_ruleLets.2.1 46 = .ok (.goto 4, 3) := by decide +kernel
theorem d_L_ruleLets_49 : decode m_L_ruleLets.2.1 49 = .ok (.iconst 1, 1) := by decide +kernel
theorem d_L_ruleLets_50 : decode m_L_ruleLets.2.1 50 = .ok (.if_icmp .lt 7, 3) := by decide +kernel
theorem d_L_ruleLets_53 : decode m_L_ruleLets.2.1 53 = .ok (.iconst 1, 1) := by decide +kernel
theorem d_L_ruleLets_54 : decode m_L_ruleLets.2.1 54 = .ok (.goto 4, 3) := by decide +kernel
theorem d_L_ruleLets_57 : decode m_L_ruleLets.2.1 57 = .ok (.iconst 0, 1) := by decide +kernel
theorem d_L_ruleLets_58 : decode m_L_ruleLets.2.1 58 = .ok (.ireturn, 1) := by decide +kernel
def f_L_ruleLets_50 (s0 s1 : Int) (w : qMem) : Option (Int × qMem) :=
  if s0 < s1 then
  some (0, w)
  else
  some (1, w)
set_option maxRecDepth 4000 in
theorem s_L_ruleLets_50  : ∀ (s0 s1 : Int) (w : qMem), qSim κI 100 100 m_L_ruleLets 50 [qI s1, qI s0] [none, none, none] w (f_L_ruleLets_50 s0 s1 w) := by
  intro s0 s1 w
  unfold f_L_ruleLets_50
  refine z_icmp_lt (tgt := 57) d_L_ruleLets_50 rfl (fun c1 => ?_) (fun c1 => ?_)
  · refine z_ic0 d_L_ruleLets_57 ?_
    exact z_zret d_L_ruleLets_58 rfl rfl (Or.inl rfl)
  · refine z_ic1 d_L_ruleLets_53 ?_
    refine z_goto (tgt := 58) d_L_ruleLets_54 rfl ?_
    exact z_zret d_L_ruleLets_58 rfl rfl (Or.inr rfl)
def f_L_ruleLets_29 (s0 x1 : Int) (w : qMem) : Option (Int × qMem) :=
  qld w 85 4 x1 fun v2 =>
  if s0 = 0 then
  f_L_ruleLets_50 (w32 ((w 81 9) - v2)) 1 w
  else
  f_L_ruleLets_50 (w32 ((w 81 9) - v2)) 2 w
set_option maxRecDepth 4000 in
theorem s_L_ruleLets_29  : ∀ (s0 x1 : Int) (w : qMem), (s0 = 0 ∨ s0 = 1) → qSim κI 100 100 m_L_ruleLets 29 [qI s0] [some (qR 81), some (qI x1), none] w (f_L_ruleLets_29 s0 x1 w) := by
  intro s0 x1 w hs0
  unfold f_L_ruleLets_29
  refine z_istore_n (pls' := [some (qR 81), some (qI x1), some (qI s0)]) d_L_ruleLets_29 (by decide) rfl rfl ?_
  refine z_aload_n d_L_ruleLets_30 rfl ?_
  refine z_gi (ci := 1) (j := 9) (ji := 9) d_L_ruleLets_31 rfl fl_L_41 rfl rfl rfl ?_
  refine z_aload_n d_L_ruleLets_34 rfl ?_
  refine z_gr (ci := 1) (j := 3) (d := 4) (o2 := 85) d_L_ruleLets_35 rfl fl_L_22 rfl (Nat.le_of_ble_eq_true rfl) rfl rfl ?_
  refine z_iload_n d_L_ruleLets_38 rfl ?_
  refine z_il d_L_ruleLets_39 rfl rfl (fun v2 => ?_)
  refine z_isub d_L_ruleLets_40 ?_
  refine z_iload_n d_L_ruleLets_41 rfl ?_
  refine z_if_eq (tgt := 49) d_L_ruleLets_42 rfl (fun c3 => ?_) (fun c3 => ?_)
  · refine z_ic1 d_L_ruleLets_49 ?_
    refine z_mask [false, false, false] ?_
    exact s_L_ruleLets_50 _ _ _
  · refine z_ic2 d_L_ruleLets_45 ?_
    refine z_goto (tgt := 50) d_L_ruleLets_46 rfl ?_
    refine z_mask [false, false, false] ?_
    exact s_L_ruleLets_50 _ _ _
def f_L_ruleLets (x1 : Int) (w : qMem) : Option (Int × qMem) :=
  if (w 81 10) = 1 then
  f_L_ruleLets_29 1 x1 w
  else
  if (w 81 10) = 2 then
  if (w 81 12) = x1 then
  f_L_ruleLets_29 1 x1 w
  else
  f_L_ruleLets_29 0 x1 w
  else
  f_L_ruleLets_29 0 x1 w
set_option maxRecDepth 4000 in
theorem s_L_ruleLets (x1 : Int) (w : qMem) : qSim κI 100 100 m_L_ruleLets 0 [] [some (qR 81), some (qI x1), none] w (f_L_ruleLets x1 w) := by
  unfold f_L_ruleLets
  refine z_aload_n d_L_ruleLets_0 rfl ?_
  refine z_gi (ci := 1) (j := 10) (ji := 10) d_L_ruleLets_1 rfl fl_L_44 rfl rfl rfl ?_
  refine z_ic1 d_L_ruleLets_4 ?_
  refine z_icmp_eq (tgt := 24) d_L_ruleLets_5 rfl (fun c4 => ?_) (fun c4 => ?_)
  · refine z_ic1 d_L_ruleLets_24 ?_
    refine z_goto (tgt := 29) d_L_ruleLets_25 rfl ?_
    refine z_mask [true, true, false] ?_
    exact s_L_ruleLets_29 _ _ _ (Or.inr rfl)
  · refine z_aload_n d_L_ruleLets_8 rfl ?_
    refine z_gi (ci := 1) (j := 10) (ji := 10) d_L_ruleLets_9 rfl fl_L_44 rfl rfl rfl ?_
    refine z_ic2 d_L_ruleLets_12 ?_
    refine z_icmp_ne (tgt := 28) d_L_ruleLets_13 rfl (fun c5 => ?_) (fun c5 => ?_)
    · refine z_aload_n d_L_ruleLets_16 rfl ?_
      refine z_gi (ci := 1) (j := 12) (ji := 12) d_L_ruleLets_17 rfl fl_L_50 rfl rfl rfl ?_
      refine z_iload_n d_L_ruleLets_20 rfl ?_
      refine z_icmp_ne (tgt := 28) d_L_ruleLets_21 rfl (fun c6 => ?_) (fun c6 => ?_)
      · refine z_ic1 d_L_ruleLets_24 ?_
        refine z_goto (tgt := 29) d_L_ruleLets_25 rfl ?_
        refine z_mask [true, true, false] ?_
        exact s_L_ruleLets_29 _ _ _ (Or.inr rfl)
      · refine z_ic0 d_L_ruleLets_28 ?_
        refine z_mask [true, true, false] ?_
        exact s_L_ruleLets_29 _ _ _ (Or.inl rfl)
    · refine z_ic0 d_L_ruleLets_28 ?_
      refine z_mask [true, true, false] ?_
      exact s_L_ruleLets_29 _ _ _ (Or.inl rfl)
/-! BubbleTorus$LoneRing.listSteps -/
theorem d_L_listSteps_0 : decode m_L_listSteps.2.1 0 = .ok (.aload_n 0, 1) := by decide +kernel
theorem d_L_listSteps_1 : decode m_L_listSteps.2.1 1 = .ok (.iconst 0, 1) := by decide +kernel
theorem d_L_listSteps_2 : decode m_L_listSteps.2.1 2 = .ok (.putfield 56, 3) := by decide +kernel
theorem d_L_listSteps_5 : decode m_L_listSteps.2.1 5 = .ok (.iconst 0, 1) := by decide +kernel
theorem d_L_listSteps_6 : decode m_L_listSteps.2.1 6 = .ok (.istore_n 2, 1) := by decide +kernel
theorem d_L_listSteps_7 : decode m_L_listSteps.2.1 7 = .ok (.iload_n 2, 1) := by decide +kernel
theorem d_L_listSteps_8 : decode m_L_listSteps.2.1 8 = .ok (.aload_n 0, 1) := by decide +kernel
theorem d_L_listSteps_9 : decode m_L_listSteps.2.1 9 = .ok (.getfield 37, 3) := by decide +kernel
theorem d_L_listSteps_12 : decode m_L_listSteps.2.1 12 = .ok (.if_icmp .ge 24, 3) := by decide +kernel
theorem d_L_listSteps_15 : decode m_L_listSteps.2.1 15 = .ok (.aload_n 0, 1) := by decide +kernel
theorem d_L_listSteps_16 : decode m_L_listSteps.2.1 16 = .ok (.getfield 19, 3) := by decide +kernel
theorem d_L_listSteps_19 : decode m_L_listSteps.2.1 19 = .ok (.iload_n 2, 1) := by decide +kernel
theorem d_L_listSteps_20 : decode m_L_listSteps.2.1 20 = .ok (.iaload, 1) := by decide +kernel
theorem d_L_listSteps_21 : decode m_L_listSteps.2.1 21 = .ok (.ifCond .le 9, 3) := by decide +kernel
theorem d_L_listSteps_24 : decode m_L_listSteps.2.1 24 = .ok (.aload_n 0, 1) := by decide +kernel
theorem d_L_listSteps_25 : decode m_L_listSteps.2.1 25 = .ok (.iload_n 1, 1) := by decide +kernel
theorem d_L_listSteps_26 : decode m_L_listSteps.2.1 26 = .ok (.iload_n 2, 1) := by decide +kernel
theorem d_L_listSteps_27 : decode m_L_listSteps.2.1 27 = .ok (.invokevirtual 126, 3) := by decide +kernel
theorem d_L_listSteps_30 : decode m_L_listSteps.2.1 30 = .ok (.iinc 2 1, 3) := by decide +kernel
theorem d_L_listSteps_33 : decode m_L_listSteps.2.1 33 = .ok (.goto (-26), 3) := by decide +kernel
theorem d_L_listSteps_36 : decode m_L_listSteps.2.1 36 = .ok (.aload_n 0, 1) := by decide +kernel
theorem d_L_listSteps_37 : decode m_L_listSteps.2.1 37 = .ok (.aload_n 0, 1) := by decide +kernel
theorem d_L_listSteps_38 : decode m_L_listSteps.2.1 38 = .ok (.getfield 56, 3) := by decide +kernel
theorem d_L_listSteps_41 : decode m_L_listSteps.2.1 41 = .ok (.putfield 59, 3) := by decide +kernel
theorem d_L_listSteps_44 : decode m_L_listSteps.2.1 44 = .ok (.iconst 0, 1) := by decide +kernel
theorem d_L_listSteps_45 : decode m_L_listSteps.2.1 45 = .ok (.istore_n 2, 1) := by decide +kernel
theorem d_L_listSteps_46 : decode m_L_listSteps.2.1 46 = .ok (.iload_n 2, 1) := by decide +kernel
theorem d_L_listSteps_47 : decode m_L_listSteps.2.1 47 = .ok (.aload_n 0, 1) := by decide +kernel
theorem d_L_listSteps_48 : decode m_L_listSteps.2.1 48 = .ok (.getfield 37, 3) := by decide +kernel
theorem d_L_listSteps_51 : decode m_L_listSteps.2.1 51 = .ok (.if_icmp .ge 45, 3) := by decide +kernel
theorem d_L_listSteps_54 : decode m_L_listSteps.2.1 54 = .ok (.iconst 0, 1) := by decide +kernel
theorem d_L_listSteps_55 : decode m_L_listSteps.2.1 55 = .ok (.istore_n 3, 1) := by decide +kernel
theorem d_L_listSteps_56 : decode m_L_listSteps.2.1 56 = .ok (.iload_n 3, 1) := by decide +kernel
theorem d_L_listSteps_57 : decode m_L_listSteps.2.1 57 = .ok (.aload_n 0, 1) := by decide +kernel
theorem d_L_listSteps_58 : decode m_L_listSteps.2.1 58 = .ok (.getfield 47, 3) := by decide +kernel
theorem d_L_listSteps_61 : decode m_L_listSteps.2.1 61 = .ok (.if_icmp .ge 29, 3) := by decide +kernel
theorem d_L_listSteps_64 : decode m_L_listSteps.2.1 64 = .ok (.aload_n 0, 1) := by decide +kernel
theorem d_L_listSteps_65 : decode m_L_listSteps.2.1 65 = .ok (.iload_n 2, 1) := by decide +kernel
theorem d_L_listSteps_66 : decode m_L_listSteps.2.1 66 = .ok (.invokevirtual 112, 3) := by decide +kernel
theorem d_L_listSteps_69 : decode m_L_listSteps.2.1 69 = .ok (.ifCond .eq 21, 3) := by decide +kernel
theorem d_L_listSteps_72 : decode m_L_listSteps.2.1 72 = .ok (.aload_n 0, 1) := by decide +kernel
theorem d_L_listSteps_73 : decode m_L_listSteps.2.1 73 = .ok (.iload_n 1, 1) := by decide +kernel
theorem d_L_listSteps_74 : decode m_L_listSteps.2.1 74 = .ok (.aload_n 0, 1) := by decide +kernel
theorem d_L_listSteps_75 : decode m_L_listSteps.2.1 75 = .ok (.iload_n 2, 1) := by decide +kernel
theorem d_L_listSteps_76 : decode m_L_listSteps.2.1 76 = .ok (.iload_n 3, 1) := by decide +kernel
theorem d_L_listSteps_77 : decode m_L_listSteps.2.1 77 = .ok (.invokevirtual 129, 3) := by decide +kernel
theorem d_L_listSteps_80 : decode m_L_listSteps.2.1 80 = .ok (.iadd, 1) := by decide +kernel
theorem d_L_listSteps_81 : decode m_L_listSteps.2.1 81 = .ok (.invokevirtual 132, 3) := by decide +kernel
theorem d_L_listSteps_84 : decode m_L_listSteps.2.1 84 = .ok (.iinc 3 1, 3) := by decide +kernel
theorem d_L_listSteps_87 : decode m_L_listSteps.2.1 87 = .ok (.goto (-31), 3) := by decide +kernel
theorem d_L_listSteps_90 : decode m_L_listSteps.2.1 90 = .ok (.iinc 2 1, 3) := by decide +kernel
theorem d_L_listSteps_93 : decode m_L_listSteps.2.1 93 = .ok (.goto (-47), 3) := by decide +kernel
theorem d_L_listSteps_96 : decode m_L_listSteps.2.1 96 = .ok (.return_, 1) := by decide +kernel
def f_L_listSteps_56 (r46 : Int → Int → qMem → Option (qMem)) : Nat → Int → Int → Int → qMem → Option (qMem)
  | 0, _, _, _, _ => none
  | n + 1, x1, x2, x3, w =>
    if x3 < (w 81 11) then
    (f_L_ruleLets x2 w).bind fun q2 =>
    if q2.1 = 0 then
    r46 x1 (w32 (x2 + 1)) q2.2
    else
    (f_L_put x2 x3 q2.2).bind fun q4 =>
    (f_L_addStep (w32 (x1 + q4.1)) q4.2).bind fun q5 =>
    (f_L_listSteps_56 r46 n) x1 x2 (w32 (x3 + 1)) q5
    else
    r46 x1 (w32 (x2 + 1)) w
set_option maxRecDepth 4000 in
theorem s_L_listSteps_56  {r46 : Int → Int → qMem → Option (qMem)} (hr46 : ∀ x1 x2 w, qSim κV 100 100 m_L_listSteps 46 [] [some (qR 81), some (qI x1), some (qI x2), none] w (r46 x1 x2 w)) : ∀ (n : Nat), ∀ (x1 x2 x3 : Int) (w : qMem), qSim κV 100 100 m_L_listSteps 56 [] [some (qR 81), some (qI x1), some (qI x2), some (qI x3)] w (f_L_listSteps_56 r46 n x1 x2 x3 w) := by
  intro n
  induction n with
  | zero => intro x1 x2 x3 w; exact z_none
  | succ n ih =>
    intro x1 x2 x3 w
    rw [f_L_listSteps_56]
    refine z_iload_n d_L_listSteps_56 rfl ?_
    refine z_aload_n d_L_listSteps_57 rfl ?_
    refine z_gi (ci := 1) (j := 11) (ji := 11) d_L_listSteps_58 rfl fl_L_47 rfl rfl rfl ?_
    refine z_icmp_ge (tgt := 90) d_L_listSteps_61 rfl (fun c1 => ?_) (fun c1 => ?_)
    · refine z_aload_n d_L_listSteps_64 rfl ?_
      refine z_iload_n d_L_listSteps_65 rfl ?_
      refine z_cVI (as := [qI x2]) (st := []) (nl := 1) (ci := 1) d_L_listSteps_66 lk_L_112 mk_L_ruleLets rfl rfl rfl rfl rfl rfl (s_L_ruleLets _ _) (fun q2 _ hq2 => ?_)
      refine z_if_eq (tgt := 90) d_L_listSteps_69 rfl (fun c3 => ?_) (fun c3 => ?_)
      · refine z_iinc (pls' := [some (qR 81), some (qI x1), some (qI (w32 (x2 + 1))), some (qI x3)]) d_L_listSteps_90 (by decide) rfl rfl rfl ?_
        refine z_goto (tgt := 46) d_L_listSteps_93 rfl ?_
        refine z_mask [true, true, true, false] ?_
        exact hr46 _ _ _
      · refine z_aload_n d_L_listSteps_72 rfl ?_
        refine z_iload_n d_L_listSteps_73 rfl ?_
        refine z_aload_n d_L_listSteps_74 rfl ?_
        refine z_iload_n d_L_listSteps_75 rfl ?_
        refine z_iload_n d_L_listSteps_76 rfl ?_
        refine z_cVI (as := [qI x2, qI x3]) (st := [qI x1, qR 81]) (nl := 2) (ci := 1) d_L_listSteps_77 lk_L_129 mk_L_put rfl rfl rfl rfl rfl rfl (s_L_put _ _ _) (fun q4 _ hq4 => ?_)
        refine z_iadd d_L_listSteps_80 ?_
        refine z_cVV (as := [qI (w32 (x1 + q4.1))]) (st := []) (nl := 0) (ci := 1) d_L_listSteps_81 lk_L_132 mk_L_addStep rfl rfl rfl rfl rfl rfl (s_L_addStep _ _) (fun q5 _ => ?_)
        refine z_iinc (pls' := [some (qR 81), some (qI x1), some (qI x2), some (qI (w32 (x3 + 1)))]) d_L_listSteps_84 (by decide) rfl rfl rfl ?_
        refine z_goto (tgt := 56) d_L_listSteps_87 rfl ?_
        refine z_mask [true, true, true, true] ?_
        exact ih _ _ _ _
    · refine z_iinc (pls' := [some (qR 81), some (qI x1), some (qI (w32 (x2 + 1))), some (qI x3)]) d_L_listSteps_90 (by decide) rfl rfl rfl ?_
      refine z_goto (tgt := 46) d_L_listSteps_93 rfl ?_
      refine z_mask [true, true, true, false] ?_
      exact hr46 _ _ _
def f_L_listSteps_46 : Nat → Int → Int → qMem → Option (qMem)
  | 0, _, _, _ => none
  | n + 1, x1, x2, w =>
    if x2 < (w 81 8) then
    f_L_listSteps_56 (f_L_listSteps_46 n) qFU x1 x2 0 w
    else
    some w
set_option maxRecDepth 4000 in
theorem s_L_listSteps_46  : ∀ (n : Nat), ∀ (x1 x2 : Int) (w : qMem), qSim κV 100 100 m_L_listSteps 46 [] [some (qR 81), some (qI x1), some (qI x2), none] w (f_L_listSteps_46 n x1 x2 w) := by
  intro n
  induction n with
  | zero => intro x1 x2 w; exact z_none
  | succ n ih =>
    intro x1 x2 w
    rw [f_L_listSteps_46]
    refine z_iload_n d_L_listSteps_46 rfl ?_
    refine z_aload_n d_L_listSteps_47 rfl ?_
    refine z_gi (ci := 1) (j := 8) (ji := 8) d_L_listSteps_48 rfl fl_L_37 rfl rfl rfl ?_
    refine z_icmp_ge (tgt := 96) d_L_listSteps_51 rfl (fun c6 => ?_) (fun c6 => ?_)
    · refine z_ic0 d_L_listSteps_54 ?_
      refine z_istore_n (pls' := [some (qR 81), some (qI x1), some (qI x2), some (qI 0)]) d_L_listSteps_55 (by decide) rfl rfl ?_
      refine z_mask [true, true, true, true] ?_
      exact s_L_listSteps_56 ih _ _ _ _ _
    · exact z_vret d_L_listSteps_96 rfl rfl
def f_L_listSteps_36 (x1 : Int) (w : qMem) : Option (qMem) :=
  qlt (qud w 81 15 (w 81 14)) fun w7 =>
  f_L_listSteps_46 qFU x1 0 w7
set_option maxRecDepth 4000 in
theorem s_L_listSteps_36  : ∀ (x1 : Int) (w : qMem), qSim κV 100 100 m_L_listSteps 36 [] [some (qR 81), some (qI x1), none, none] w (f_L_listSteps_36 x1 w) := by
  intro x1 w
  unfold f_L_listSteps_36
  refine z_aload_n d_L_listSteps_36 rfl ?_
  refine z_aload_n d_L_listSteps_37 rfl ?_
  refine z_gi (ci := 1) (j := 14) (ji := 14) d_L_listSteps_38 rfl fl_L_56 rfl rfl rfl ?_
  refine z_pi (ci := 1) (j := 15) (ji := 15) d_L_listSteps_41 rfl fl_L_59 rfl rfl rfl rfl rfl (fun w7 => ?_)
  refine z_ic0 d_L_listSteps_44 ?_
  refine z_istore_n (pls' := [some (qR 81), some (qI x1), some (qI 0), none]) d_L_listSteps_45 (by decide) rfl rfl ?_
  refine z_mask [true, true, true, false] ?_
  exact s_L_listSteps_46 _ _ _ _
def f_L_listSteps_7 : Nat → Int → Int → qMem → Option (qMem)
  | 0, _, _, _ => none
  | n + 1, x1, x2, w =>
    if x2 < (w 81 8) then
    qld w 84 4 x2 fun v9 =>
    if v9 ≤ 0 then
    (f_L_listSteps_7 n) x1 (w32 (x2 + 1)) w
    else
    (f_L_listStepOfFirst x1 x2 w).bind fun q11 =>
    (f_L_listSteps_7 n) x1 (w32 (x2 + 1)) q11
    else
    f_L_listSteps_36 x1 w
set_option maxRecDepth 4000 in
theorem s_L_listSteps_7  : ∀ (n : Nat), ∀ (x1 x2 : Int) (w : qMem), qSim κV 100 100 m_L_listSteps 7 [] [some (qR 81), some (qI x1), some (qI x2), none] w (f_L_listSteps_7 n x1 x2 w) := by
  intro n
  induction n with
  | zero => intro x1 x2 w; exact z_none
  | succ n ih =>
    intro x1 x2 w
    rw [f_L_listSteps_7]
    refine z_iload_n d_L_listSteps_7 rfl ?_
    refine z_aload_n d_L_listSteps_8 rfl ?_
    refine z_gi (ci := 1) (j := 8) (ji := 8) d_L_listSteps_9 rfl fl_L_37 rfl rfl rfl ?_
    refine z_icmp_ge (tgt := 36) d_L_listSteps_12 rfl (fun c8 => ?_) (fun c8 => ?_)
    · refine z_aload_n d_L_listSteps_15 rfl ?_
      refine z_gr (ci := 1) (j := 2) (d := 3) (o2 := 84) d_L_listSteps_16 rfl fl_L_19 rfl (Nat.le_of_ble_eq_true rfl) rfl rfl ?_
      refine z_iload_n d_L_listSteps_19 rfl ?_
      refine z_il d_L_listSteps_20 rfl rfl (fun v9 => ?_)
      refine z_if_le (tgt := 30) d_L_listSteps_21 rfl (fun c10 => ?_) (fun c10 => ?_)
      · refine z_iinc (pls' := [some (qR 81), some (qI x1), some (qI (w32 (x2 + 1))), none]) d_L_listSteps_30 (by decide) rfl rfl rfl ?_
        refine z_goto (tgt := 7) d_L_listSteps_33 rfl ?_
        refine z_mask [true, true, true, false] ?_
        exact ih _ _ _
      · refine z_aload_n d_L_listSteps_24 rfl ?_
        refine z_iload_n d_L_listSteps_25 rfl ?_
        refine z_iload_n d_L_listSteps_26 rfl ?_
        refine z_cVV (as := [qI x1, qI x2]) (st := []) (nl := 6) (ci := 1) d_L_listSteps_27 lk_L_126 mk_L_listStepOfFirst rfl rfl rfl rfl rfl rfl (s_L_listStepOfFirst _ _ _) (fun q11 _ => ?_)
        refine z_iinc (pls' := [some (qR 81), some (qI x1), some (qI (w32 (x2 + 1))), none]) d_L_listSteps_30 (by decide) rfl rfl rfl ?_
        refine z_goto (tgt := 7) d_L_listSteps_33 rfl ?_
        refine z_mask [true, true, true, false] ?_
        exact ih _ _ _
    · refine z_mask [true, true, false, false] ?_
      exact s_L_listSteps_36 _ _
def f_L_listSteps (x1 : Int) (w : qMem) : Option (qMem) :=
  qlt (qud w 81 14 0) fun w12 =>
  f_L_listSteps_7 qFU x1 0 w12
set_option maxRecDepth 4000 in
theorem s_L_listSteps (x1 : Int) (w : qMem) : qSim κV 100 100 m_L_listSteps 0 [] [some (qR 81), some (qI x1), none, none] w (f_L_listSteps x1 w) := by
  unfold f_L_listSteps
  refine z_aload_n d_L_listSteps_0 rfl ?_
  refine z_ic0 d_L_listSteps_1 ?_
  refine z_pi (ci := 1) (j := 14) (ji := 14) d_L_listSteps_2 rfl fl_L_56 rfl rfl rfl rfl rfl (fun w12 => ?_)
  refine z_ic0 d_L_listSteps_5 ?_
  refine z_istore_n (pls' := [some (qR 81), some (qI x1), some (qI 0), none]) d_L_listSteps_6 (by decide) rfl rfl ?_
  refine z_mask [true, true, true, false] ?_
  exact s_L_listSteps_7 _ _ _ _
/-! BubbleTorus$LoneRing.explore -/
theorem d_L_explore_0 : decode m_L_explore.2.1 0 = .ok (.aload_n 0, 1) := by decide +kernel
theorem d_L_explore_1 : decode m_L_explore.2.1 1 = .ok (.getfield 34, 3) := by decide +kernel
theorem d_L_explore_4 : decode m_L_explore.2.1 4 = .ok (.iconst (-1), 1) := by decide +kernel
theorem d_L_explore_5 : decode m_L_explore.2.1 5 = .ok (.invokestatic 93, 3) := by decide +kernel
theorem d_L_explore_8 : decode m_L_explore.2.1 8 = .ok (.aload_n 0, 1) := by decide +kernel
theorem d_L_explore_9 : decode m_L_explore.2.1 9 = .ok (.getfield 31, 3) := by decide +kernel
theorem d_L_explore_12 : decode m_L_explore.2.1 12 = .ok (.iconst 0, 1) := by decide +kernel
theorem d_L_explore_13 : decode m_L_explore.2.1 13 = .ok (.iconst 0, 1) := by decide +kernel
theorem d_L_explore_14 : decode m_L_explore.2.1 14 = .ok (.iastore, 1) := by decide +kernel
theorem d_L_explore_15 : decode m_L_explore.2.1 15 = .ok (.aload_n 0, 1) := by decide +kernel
theorem d_L_explore_16 : decode m_L_explore.2.1 16 = .ok (.getfield 34, 3) := by decide +kernel
theorem d_L_explore_19 : decode m_L_explore.2.1 19 = .ok (.iconst 0, 1) := by decide +kernel
theorem d_L_explore_20 : decode m_L_explore.2.1 20 = .ok (.iconst 0, 1) := by decide +kernel
theorem d_L_explore_21 : decode m_L_explore.2.1 21 = .ok (.iastore, 1) := by decide +kernel
theorem d_L_explore_22 : decode m_L_explore.2.1 22 = .ok (.aload_n 0, 1) := by decide +kernel
theorem d_L_explore_23 : decode m_L_explore.2.1 23 = .ok (.iconst 1, 1) := by decide +kernel
theorem d_L_explore_24 : decode m_L_explore.2.1 24 = .ok (.putfield 53, 3) := by decide +kernel
theorem d_L_explore_27 : decode m_L_explore.2.1 27 = .ok (.iconst 0, 1) := by decide +kernel
theorem d_L_explore_28 : decode m_L_explore.2.1 28 = .ok (.istore_n 1, 1) := by decide +kernel
theorem d_L_explore_29 : decode m_L_explore.2.1 29 = .ok (.iload_n 1, 1) := by decide +kernel
theorem d_L_explore_30 : decode m_L_explore.2.1 30 = .ok (.aload_n 0, 1) := by decide +kernel
theorem d_L_explore_31 : decode m_L_explore.2.1 31 = .ok (.getfield 53, 3) := by decide +kernel
theorem d_L_explore_34 : decode m_L_explore.2.1 34 = .ok (.if_icmp .ge 118, 3) := by decide +kernel
theorem d_L_explore_37 : decode m_L_explore.2.1 37 = .ok (.iload_n 1, 1) := by decide +kernel
theorem d_L_explore_38 : decode m_L_explore.2.1 38 = .ok (.sipush 10125, 3) := by decide +kernel
theorem d_L_explore_41 : decode m_L_explore.2.1 41 = .ok (.if_icmp .ge 111, 3) := by decide +kernel
theorem d_L_explore_44 : decode m_L_explore.2.1 44 = .ok (.aload_n 0, 1) := by decide +kernel
theorem d_L_explore_45 : decode m_L_explore.2.1 45 = .ok (.getfield 31, 3) := by decide +kernel
theorem d_L_explore_48 : decode m_L_explore.2.1 48 = .ok (.iload_n 1, 1) := by decide +kernel
theorem d_L_explore_49 : decode m_L_explore.2.1 49 = .ok (.iaload, 1) := by decide +kernel
theorem d_L_explore_50 : decode m_L_explore.2.1 50 = .ok (.istore_n 2, 1) := by decide +kernel
theorem d_L_explore_51 : decode m_L_explore.2.1 51 = .ok (.aload_n 0, 1) := by decide +kernel
theorem d_L_explore_52 : decode m_L_explore.2.1 52 = .ok (.iload_n 2, 1) := by decide +kernel
theorem d_L_explore_53 : decode m_L_explore.2.1 53 = .ok (.invokevirtual 99, 3) := by decide +kernel
theorem d_L_explore_56 : decode m_L_explore.2.1 56 = .ok (.aload_n 0, 1) := by decide +kernel
theorem d_L_explore_57 : decode m_L_explore.2.1 57 = .ok (.iload_n 2, 1) := by decide +kernel
theorem d_L_explore_58 : decode m_L_explore.2.1 58 = .ok (.invokevirtual 103, 3) := by decide +kernel
theorem d_L_explore_61 : decode m_L_explore.2.1 61 = .ok (.iconst 0, 1) := by decide +kernel
theorem d_L_explore_62 : decode m_L_explore.2.1 62 = .ok (.istore_n 3, 1) := by decide +kernel
theorem d_L_explore_63 : decode m_L_explore.2.1 63 = .ok (.iload_n 3, 1) := by decide +kernel
theorem d_L_explore_64 : decode m_L_explore.2.1 64 = .ok (.aload_n 0, 1) := by decide +kernel
theorem d_L_explore_65 : decode m_L_explore.2.1 65 = .ok (.getfield 56, 3) := by decide +kernel
theorem d_L_explore_68 : decode m_L_explore.2.1 68 = .ok (.if_icmp .ge 78, 3) := by decide +kernel
theorem d_L_explore_71 : decode m_L_explore.2.1 71 = .ok (.aload_n 0, 1) := by decide +kernel
theorem d_L_explore_72 : decode m_L_explore.2.1 72 = .ok (.getfield 34, 3) := by decide +kernel
theorem d_L_explore_75 : decode m_L_explore.2.1 75 = .ok (.aload_n 0, 1) := by decide +kernel
theorem d_L_explore_76 : decode m_L_explore.2.1 76 = .ok (.getfield 28, 3) := by decide +kernel
theorem d_L_explore_79 : decode m_L_explore.2.1 79 = .ok (.iload_n 3, 1) := by decide +kernel
theorem d_L_explore_80 : decode m_L_explore.2.1 80 = .ok (.iaload, 1) := by decide +kernel
theorem d_L_explore_81 : decode m_L_explore.2.1 81 = .ok (.iaload, 1) := by decide +kernel
theorem d_L_explore_82 : decode m_L_explore.2.1 82 = .ok (.iconst (-1), 1) := by decide +kernel
theorem d_L_explore_83 : decode m_L_explore.2.1 83 = .ok (.if_icmp .ne 57, 3) := by decide +kernel
theorem d_L_explore_86 : decode m_L_explore.2.1 86 = .ok (.aload_n 0, 1) := by decide +kernel
theorem d_L_explore_87 : decode m_L_explore.2.1 87 = .ok (.getfield 53, 3) := by decide +kernel
theorem d_L_explore_90 : decode m_L_explore.2.1 90 = .ok (.sipush 10125, 3) := by decide +kernel
theorem d_L_explore_93 : decode m_L_explore.2.1 93 = .ok (.if_icmp .ge 47, 3) := by decide +kernel
theorem d_L_explore_96 : decode m_L_explore.2.1 96 = .ok (.aload_n 0, 1) := by decide +kernel
theorem d_L_explore_97 : decode m_L_explore.2.1 97 = .ok (.getfield 34, 3) := by decide +kernel
theorem d_L_explore_100 : decode m_L_explore.2.1 100 = .ok (.aload_n 0, 1) := by decide +kernel
theorem d_L_explore_101 : decode m_L_explore.2.1 101 = .ok (.getfield 28, 3) := by decide +kernel
theorem d_L_explore_104 : decode m_L_explore.2.1 104 = .ok (.iload_n 3, 1) := by decide +kernel
theorem d_L_explore_105 : decode m_L_explore.2.1 105 = .ok (.iaload, 1) := by decide +kernel
theorem d_L_explore_106 : decode m_L_explore.2.1 106 = .ok (.aload_n 0, 1) := by decide +kernel
theorem d_L_explore_107 : decode m_L_explore.2.1 107 = .ok (.getfield 34, 3) := by decide +kernel
theorem d_L_explore_110 : decode m_L_explore.2.1 110 = .ok (.iload_n 2, 1) := by decide +kernel
theorem d_L_explore_111 : decode m_L_explore.2.1 111 = .ok (.iaload, 1) := by decide +kernel
theorem d_L_explore_112 : decode m_L_explore.2.1 112 = .ok (.iconst 1, 1) := by decide +kernel
theorem d_L_explore_113 : decode m_L_explore.2.1 113 = .ok (.iadd, 1) := by decide +kernel
theorem d_L_explore_114 : decode m_L_explore.2.1 114 = .ok (.iastore, 1) := by decide +kernel
theorem d_L_explore_115 : decode m_L_explore.2.1 115 = .ok (.aload_n 0, 1) := by decide +kernel
theorem d_L_explore_116 : decode m_L_explore.2.1 116 = .ok (.getfield 31, 3) := by decide +kernel
theorem d_L_explore_119 : decode m_L_explore.2.1 119 = .ok (.aload_n 0, 1) := by decide +kernel
theorem d_L_explore_120 : decode m_L_explore.2.1 120 = .ok (.getfield 53, 3) := by decide +kernel
theorem d_L_explore_123 : decode m_L_explore.2.1 123 = .ok (.aload_n 0, 1) := by decide +kernel
theorem d_L_explore_124 : decode m_L_explore.2.1 124 = .ok (.getfield 28, 3) := by decide +kernel
theorem d_L_explore_127 : decode m_L_explore.2.1 127 = .ok (.iload_n 3, 1) := by decide +kernel
theorem d_L_explore_128 : decode m_L_explore.2.1 128 = .ok (.iaload, 1) := by decide +kernel
theorem d_L_explore_129 : decode m_L_explore.2.1 129 = .ok (.iastore, 1) := by decide +kernel
theorem d_L_explore_130 : decode m_L_explore.2.1 130 = .ok (.aload_n 0, 1) := by decide +kernel
theorem d_L_explore_131 : decode m_L_explore.2.1 131 = .ok (.dup, 1) := by decide +kernel
theorem d_L_explore_132 : decode m_L_explore.2.1 132 = .ok (.getfield 53, 3) := by decide +kernel
theorem d_L_explore_135 : decode m_L_explore.2.1 135 = .ok (.iconst 1, 1) := by decide +kernel
theorem d_L_explore_136 : decode m_L_explore.2.1 136 = .ok (.iadd, 1) := by decide +kernel
theorem d_L_explore_137 : decode m_L_explore.2.1 137 = .ok (.putfield 53, 3) := by decide +kernel
theorem d_L_explore_140 : decode m_L_explore.2.1 140 = .ok (.iinc 3 1, 3) := by decide +kernel
theorem d_L_explore_143 : decode m_L_explore.2.1 143 = .ok (.goto (-80), 3) := by decide +kernel
theorem d_L_explore_146 : decode m_L_explore.2.1 146 = .ok (.iinc 1 1, 3) := by decide +kernel
theorem d_L_explore_149 : decode m_L_explore.2.1 149 = .ok (.goto (-120), 3) := by decide +kernel
theorem d_L_explore_152 : decode m_L_explore.2.1 152 = .ok (.return_, 1) := by decide +kernel
def f_L_explore_63 (r29 : Int → qMem → Option (qMem)) : Nat → Int → Int → Int → qMem → Option (qMem)
  | 0, _, _, _, _ => none
  | n + 1, x1, x2, x3, w =>
    if x3 < (w 81 14) then
    if w 81 7 = 103 then
    qld w 87 16 x3 fun v3 =>
    qld w 103 10125 v3 fun v4 =>
    if v4 = (-1) then
    if (w 81 13) < 10125 then
    if w 81 7 = 103 then
    qld w 87 16 x3 fun v8 =>
    if w 81 7 = 103 then
    qld w 103 10125 x2 fun v10 =>
    qst w 103 10125 v8 (w32 (v10 + 1)) fun w11 =>
    if w11 81 6 = 102 then
    qld w11 87 16 x3 fun v13 =>
    qst w11 102 10125 (w11 81 13) v13 fun w14 =>
    qlt (qud w14 81 13 (w32 ((w14 81 13) + 1))) fun w15 =>
    (f_L_explore_63 r29 n) x1 x2 (w32 (x3 + 1)) w15
    else none
    else none
    else none
    else
    (f_L_explore_63 r29 n) x1 x2 (w32 (x3 + 1)) w
    else
    (f_L_explore_63 r29 n) x1 x2 (w32 (x3 + 1)) w
    else none
    else
    r29 (w32 (x1 + 1)) w
set_option maxRecDepth 4000 in
theorem s_L_explore_63  {r29 : Int → qMem → Option (qMem)} (hr29 : ∀ x1 w, qSim κV 100 100 m_L_explore 29 [] [some (qR 81), some (qI x1), none, none] w (r29 x1 w)) : ∀ (n : Nat), ∀ (x1 x2 x3 : Int) (w : qMem), qSim κV 100 100 m_L_explore 63 [] [some (qR 81), some (qI x1), some (qI x2), some (qI x3)] w (f_L_explore_63 r29 n x1 x2 x3 w) := by
  intro n
  induction n with
  | zero => intro x1 x2 x3 w; exact z_none
  | succ n ih =>
    intro x1 x2 x3 w
    rw [f_L_explore_63]
    refine z_iload_n d_L_explore_63 rfl ?_
    refine z_aload_n d_L_explore_64 rfl ?_
    refine z_gi (ci := 1) (j := 14) (ji := 14) d_L_explore_65 rfl fl_L_56 rfl rfl rfl ?_
    refine z_icmp_ge (tgt := 146) d_L_explore_68 rfl (fun c1 => ?_) (fun c1 => ?_)
    · refine z_aload_n d_L_explore_71 rfl ?_
      refine z_if (fun c2 => ?_) (fun _ => z_none)
      refine z_getd (ci := 1) (j := 7) (d := 103) (ji := 7) d_L_explore_72 rfl fl_L_34 rfl (by decide) rfl rfl c2 (by decide) ?_
      refine z_aload_n d_L_explore_75 rfl ?_
      refine z_gr (ci := 1) (j := 5) (d := 6) (o2 := 87) d_L_explore_76 rfl fl_L_28 rfl (Nat.le_of_ble_eq_true rfl) rfl rfl ?_
      refine z_iload_n d_L_explore_79 rfl ?_
      refine z_il d_L_explore_80 rfl rfl (fun v3 => ?_)
      refine z_il d_L_explore_81 rfl rfl (fun v4 => ?_)
      refine z_icm1 d_L_explore_82 ?_
      refine z_icmp_ne (tgt := 140) d_L_explore_83 rfl (fun c5 => ?_) (fun c5 => ?_)
      · refine z_aload_n d_L_explore_86 rfl ?_
        refine z_gi (ci := 1) (j := 13) (ji := 13) d_L_explore_87 rfl fl_L_53 rfl rfl rfl ?_
        refine z_sipush d_L_explore_90 ⟨by decide, by decide⟩ ?_
        refine z_icmp_ge (tgt := 140) d_L_explore_93 rfl (fun c6 => ?_) (fun c6 => ?_)
        · refine z_aload_n d_L_explore_96 rfl ?_
          refine z_if (fun c7 => ?_) (fun _ => z_none)
          refine z_getd (ci := 1) (j := 7) (d := 103) (ji := 7) d_L_explore_97 rfl fl_L_34 rfl (by decide) rfl rfl c7 (by decide) ?_
          refine z_aload_n d_L_explore_100 rfl ?_
          refine z_gr (ci := 1) (j := 5) (d := 6) (o2 := 87) d_L_explore_101 rfl fl_L_28 rfl (Nat.le_of_ble_eq_true rfl) rfl rfl ?_
          refine z_iload_n d_L_explore_104 rfl ?_
          refine z_il d_L_explore_105 rfl rfl (fun v8 => ?_)
          refine z_aload_n d_L_explore_106 rfl ?_
          refine z_if (fun c9 => ?_) (fun _ => z_none)
          refine z_getd (ci := 1) (j := 7) (d := 103) (ji := 7) d_L_explore_107 rfl fl_L_34 rfl (by decide) rfl rfl c9 (by decide) ?_
          refine z_iload_n d_L_explore_110 rfl ?_
          refine z_il d_L_explore_111 rfl rfl (fun v10 => ?_)
          refine z_ic1 d_L_explore_112 ?_
          refine z_iadd d_L_explore_113 ?_
          refine z_is d_L_explore_114 rfl rfl (fun w11 => ?_)
          refine z_aload_n d_L_explore_115 rfl ?_
          refine z_if (fun c12 => ?_) (fun _ => z_none)
          refine z_getd (ci := 1) (j := 6) (d := 102) (ji := 6) d_L_explore_116 rfl fl_L_31 rfl (by decide) rfl rfl c12 (by decide) ?_
          refine z_aload_n d_L_explore_119 rfl ?_
          refine z_gi (ci := 1) (j := 13) (ji := 13) d_L_explore_120 rfl fl_L_53 rfl rfl rfl ?_
          refine z_aload_n d_L_explore_123 rfl ?_
          refine z_gr (ci := 1) (j := 5) (d := 6) (o2 := 87) d_L_explore_124 rfl fl_L_28 rfl (Nat.le_of_ble_eq_true rfl) rfl rfl ?_
          refine z_iload_n d_L_explore_127 rfl ?_
          refine z_il d_L_explore_128 rfl rfl (fun v13 => ?_)
          refine z_is d_L_explore_129 rfl rfl (fun w14 => ?_)
          refine z_aload_n d_L_explore_130 rfl ?_
          refine z_dup d_L_explore_131 rfl ?_
          refine z_gi (ci := 1) (j := 13) (ji := 13) d_L_explore_132 rfl fl_L_53 rfl rfl rfl ?_
          refine z_ic1 d_L_explore_135 ?_
          refine z_iadd d_L_explore_136 ?_
          refine z_pi (ci := 1) (j := 13) (ji := 13) d_L_explore_137 rfl fl_L_53 rfl rfl rfl rfl rfl (fun w15 => ?_)
          refine z_iinc (pls' := [some (qR 81), some (qI x1), some (qI x2), some (qI (w32 (x3 + 1)))]) d_L_explore_140 (by decide) rfl rfl rfl ?_
          refine z_goto (tgt := 63) d_L_explore_143 rfl ?_
          refine z_mask [true, true, true, true] ?_
          exact ih _ _ _ _
        · refine z_iinc (pls' := [some (qR 81), some (qI x1), some (qI x2), some (qI (w32 (x3 + 1)))]) d_L_explore_140 (by decide) rfl rfl rfl ?_
          refine z_goto (tgt := 63) d_L_explore_143 rfl ?_
          refine z_mask [true, true, true, true] ?_
          exact ih _ _ _ _
      · refine z_iinc (pls' := [some (qR 81), some (qI x1), some (qI x2), some (qI (w32 (x3 + 1)))]) d_L_explore_140 (by decide) rfl rfl rfl ?_
        refine z_goto (tgt := 63) d_L_explore_143 rfl ?_
        refine z_mask [true, true, true, true] ?_
        exact ih _ _ _ _
    · refine z_iinc (pls' := [some (qR 81), some (qI (w32 (x1 + 1))), some (qI x2), some (qI x3)]) d_L_explore_146 (by decide) rfl rfl rfl ?_
      refine z_goto (tgt := 29) d_L_explore_149 rfl ?_
      refine z_mask [true, true, false, false] ?_
      exact hr29 _ _
def f_L_explore_29 : Nat → Int → qMem → Option (qMem)
  | 0, _, _ => none
  | n + 1, x1, w =>
    if x1 < (w 81 13) then
    if x1 < 10125 then
    if w 81 6 = 102 then
    qld w 102 10125 x1 fun v19 =>
    (f_L_open v19 w).bind fun q20 =>
    (f_L_listSteps v19 q20).bind fun q21 =>
    f_L_explore_63 (f_L_explore_29 n) qFU x1 v19 0 q21
    else none
    else
    some w
    else
    some w
set_option maxRecDepth 4000 in
theorem s_L_explore_29  : ∀ (n : Nat), ∀ (x1 : Int) (w : qMem), qSim κV 100 100 m_L_explore 29 [] [some (qR 81), some (qI x1), none, none] w (f_L_explore_29 n x1 w) := by
  intro n
  induction n with
  | zero => intro x1 w; exact z_none
  | succ n ih =>
    intro x1 w
    rw [f_L_explore_29]
    refine z_iload_n d_L_explore_29 rfl ?_
    refine z_aload_n d_L_explore_30 rfl ?_
    refine z_gi (ci := 1) (j := 13) (ji := 13) d_L_explore_31 rfl fl_L_53 rfl rfl rfl ?_
    refine z_icmp_ge (tgt := 152) d_L_explore_34 rfl (fun c16 => ?_) (fun c16 => ?_)
    · refine z_iload_n d_L_explore_37 rfl ?_
      refine z_sipush d_L_explore_38 ⟨by decide, by decide⟩ ?_
      refine z_icmp_ge (tgt := 152) d_L_explore_41 rfl (fun c17 => ?_) (fun c17 => ?_)
      · refine z_aload_n d_L_explore_44 rfl ?_
        refine z_if (fun c18 => ?_) (fun _ => z_none)
        refine z_getd (ci := 1) (j := 6) (d := 102) (ji := 6) d_L_explore_45 rfl fl_L_31 rfl (by decide) rfl rfl c18 (by decide) ?_
        refine z_iload_n d_L_explore_48 rfl ?_
        refine z_il d_L_explore_49 rfl rfl (fun v19 => ?_)
        refine z_istore_n (pls' := [some (qR 81), some (qI x1), some (qI v19), none]) d_L_explore_50 (by decide) rfl rfl ?_
        refine z_aload_n d_L_explore_51 rfl ?_
        refine z_iload_n d_L_explore_52 rfl ?_
        refine z_cVV (as := [qI v19]) (st := []) (nl := 1) (ci := 1) d_L_explore_53 lk_L_99 mk_L_open rfl rfl rfl rfl rfl rfl (s_L_open _ _) (fun q20 _ => ?_)
        refine z_aload_n d_L_explore_56 rfl ?_
        refine z_iload_n d_L_explore_57 rfl ?_
        refine z_cVV (as := [qI v19]) (st := []) (nl := 2) (ci := 1) d_L_explore_58 lk_L_103 mk_L_listSteps rfl rfl rfl rfl rfl rfl (s_L_listSteps _ _) (fun q21 _ => ?_)
        refine z_ic0 d_L_explore_61 ?_
        refine z_istore_n (pls' := [some (qR 81), some (qI x1), some (qI v19), some (qI 0)]) d_L_explore_62 (by decide) rfl rfl ?_
        refine z_mask [true, true, true, true] ?_
        exact s_L_explore_63 ih _ _ _ _ _
      · exact z_vret d_L_explore_152 rfl rfl
    · exact z_vret d_L_explore_152 rfl rfl
def f_L_explore (w : qMem) : Option (qMem) :=
  if w 81 7 = 103 then
  (f_JA_fill 103 10125 (-1) w).bind fun q23 =>
  if q23 81 6 = 102 then
  qst q23 102 10125 0 0 fun w25 =>
  if w25 81 7 = 103 then
  qst w25 103 10125 0 0 fun w27 =>
  qlt (qud w27 81 13 1) fun w28 =>
  f_L_explore_29 qFU 0 w28
  else none
  else none
  else none
set_option maxRecDepth 4000 in
theorem s_L_explore (w : qMem) : qSim κV 100 100 m_L_explore 0 [] [some (qR 81), none, none, none] w (f_L_explore w) := by
  unfold f_L_explore
  refine z_aload_n d_L_explore_0 rfl ?_
  refine z_if (fun c22 => ?_) (fun _ => z_none)
  refine z_getd (ci := 1) (j := 7) (d := 103) (ji := 7) d_L_explore_1 rfl fl_L_34 rfl (by decide) rfl rfl c22 (by decide) ?_
  refine z_icm1 d_L_explore_4 ?_
  refine z_cSV (av := [qR 103, qI (-1)]) (st := []) (nl := 2) d_L_explore_5 lk_L_93 mk_JA_fill rfl rfl rfl (s_JA_fill _ rfl rfl (by decide) _) (fun q23 _ => ?_)
  refine z_aload_n d_L_explore_8 rfl ?_
  refine z_if (fun c24 => ?_) (fun _ => z_none)
  refine z_getd (ci := 1) (j := 6) (d := 102) (ji := 6) d_L_explore_9 rfl fl_L_31 rfl (by decide) rfl rfl c24 (by decide) ?_
  refine z_ic0 d_L_explore_12 ?_
  refine z_ic0 d_L_explore_13 ?_
  refine z_is d_L_explore_14 rfl rfl (fun w25 => ?_)
  refine z_aload_n d_L_explore_15 rfl ?_
  refine z_if (fun c26 => ?_) (fun _ => z_none)
  refine z_getd (ci := 1) (j := 7) (d := 103) (ji := 7) d_L_explore_16 rfl fl_L_34 rfl (by decide) rfl rfl c26 (by decide) ?_
  refine z_ic0 d_L_explore_19 ?_
  refine z_ic0 d_L_explore_20 ?_
  refine z_is d_L_explore_21 rfl rfl (fun w27 => ?_)
  refine z_aload_n d_L_explore_22 rfl ?_
  refine z_ic1 d_L_explore_23 ?_
  refine z_pi (ci := 1) (j := 13) (ji := 13) d_L_explore_24 rfl fl_L_53 rfl rfl rfl rfl rfl (fun w28 => ?_)
  refine z_ic0 d_L_explore_27 ?_
  refine z_istore_n (pls' := [some (qR 81), some (qI 0), none, none]) d_L_explore_28 (by decide) rfl rfl ?_
  refine z_mask [true, true, false, false] ?_
  exact s_L_explore_29 _ _ _
/-! BubbleTorus$LoneRing.weigh -/
theorem d_L_weigh_0 : decode m_L_weigh.2.1 0 = .ok (.aload_n 0, 1) := by decide +kernel
theorem d_L_weigh_1 : decode m_L_weigh.2.1 1 = .ok (.iload_n 1, 1) := by decide +kernel
theorem d_L_weigh_2 : decode m_L_weigh.2.1 2 = .ok (.invokevirtual 99, 3) := by decide +kernel
theorem d_L_weigh_5 : decode m_L_weigh.2.1 5 = .ok (.aload_n 0, 1) := by decide +kernel
theorem d_L_weigh_6 : decode m_L_weigh.2.1 6 = .ok (.iload_n 1, 1) := by decide +kernel
theorem d_L_weigh_7 : decode m_L_weigh.2.1 7 = .ok (.invokevirtual 103, 3) := by decide +kernel
theorem d_L_weigh_10 : decode m_L_weigh.2.1 10 = .ok (.iconst 0, 1) := by decide +kernel
theorem d_L_weigh_11 : decode m_L_weigh.2.1 11 = .ok (.istore_n 3, 1) := by decide +kernel
theorem d_L_weigh_12 : decode m_L_weigh.2.1 12 = .ok (.iconst 0, 1) := by decide +kernel
theorem d_L_weigh_13 : decode m_L_weigh.2.1 13 = .ok (.istore 4, 2) := by decide +kernel
theorem d_L_weigh_15 : decode m_L_weigh.2.1 15 = .ok (.iload 4, 2) := by decide +kernel
theorem d_L_weigh_17 : decode m_L_weigh.2.1 17 = .ok (.aload_n 0, 1) := by decide +kernel
theorem d_L_weigh_18 : decode m_L_weigh.2.1 18 = .ok (.getfield 37, 3) := by decide +kernel
theorem d_L_weigh_21 : decode m_L_weigh.2.1 21 = .ok (.if_icmp .ge 19, 3) := by decide +kernel
theorem d_L_weigh_24 : decode m_L_weigh.2.1 24 = .ok (.iload_n 3, 1) := by decide +kernel
theorem d_L_weigh_25 : decode m_L_weigh.2.1 25 = .ok (.aload_n 0, 1) := by decide +kernel
theorem d_L_weigh_26 : decode m_L_weigh.2.1 26 = .ok (.getfield 22, 3) := by decide +kernel
theorem d_L_weigh_29 : decode m_L_weigh.2.1 29 = .ok (.iload 4, 2) := by decide +kernel
theorem d_L_weigh_31 : decode m_L_weigh.2.1 31 = .ok (.iaload, 1) := by decide +kernel
theorem d_L_weigh_32 : decode m_L_weigh.2.1 32 = .ok (.iadd, 1) := by decide +kernel
theorem d_L_weigh_33 : decode m_L_weigh.2.1 33 = .ok (.istore_n 3, 1) := by decide +kernel
theorem d_L_weigh_34 : decode m_L_weigh.2.1 34 = .ok (.iinc 4 1, 3) := by decide +kernel
theorem d_L_weigh_37 : decode m_L_weigh.2.1 37 = .ok (.goto (-22), 3) := by decide +kernel
theorem d_L_weigh_40 : decode m_L_weigh.2.1 40 = .ok (.iload_n 3, 1) := by decide +kernel
theorem d_L_weigh_41 : decode m_L_weigh.2.1 41 = .ok (.aload_n 0, 1) := by decide +kernel
theorem d_L_weigh_42 : decode m_L_weigh.2.1 42 = .ok (.getfield 37, 3) := by decide +kernel
theorem d_L_weigh_45 : decode m_L_weigh.2.1 45 = .ok (.aload_n 0, 1) := by decide +kernel
theorem d_L_weigh_46 : decode m_L_weigh.2.1 46 = .ok (.getfield 41, 3) := by decide +kernel
theorem d_L_weigh_49 : decode m_L_weigh.2.1 49 = .ok (.imul, 1) := by decide +kernel
theorem d_L_weigh_50 : decode m_L_weigh.2.1 50 = .ok (.if_icmp .ne 15, 3) := by decide +kernel
theorem d_L_weigh_53 : decode m_L_weigh.2.1 53 = .ok (.aload_n 0, 1) := by decide +kernel
theorem d_L_weigh_54 : decode m_L_weigh.2.1 54 = .ok (.getfield 11, 3) := by decide +kernel
theorem d_L_weigh_57 : decode m_L_weigh.2.1 57 = .ok (.iload_n 2, 1) := by decide +kernel
theorem d_L_weigh_58 : decode m_L_weigh.2.1 58 = .ok (.iconst 1, 1) := by decide +kernel
theorem d_L_weigh_59 : decode m_L_weigh.2.1 59 = .ok (.iadd, 1) := by decide +kernel
theorem d_L_weigh_60 : decode m_L_weigh.2.1 60 = .ok (.dup2, 1) := by decide +kernel
theorem d_L_weigh_61 : decode m_L_weigh.2.1 61 = .ok (.iaload, 1) := by decide +kernel
theorem d_L_weigh_62 : decode m_L_weigh.2.1 62 = .ok (.iconst 1, 1) := by decide +kernel
theorem d_L_weigh_63 : decode m_L_weigh.2.1 63 = .ok (.iadd, 1) := by decide +kernel
theorem d_L_weigh_64 : decode m_L_weigh.2.1 64 = .ok (.iastore, 1) := by decide +kernel
theorem d_L_weigh_65 : decode m_L_weigh.2.1 65 = .ok (.iload_n 3, 1) := by decide +kernel
theorem d_L_weigh_66 : decode m_L_weigh.2.1 66 = .ok (.ifCond .le 65, 3) := by decide +kernel
theorem d_L_weigh_69 : decode m_L_weigh.2.1 69 = .ok (.aload_n 0, 1) := by decide +kernel
theorem d_L_weigh_70 : decode m_L_weigh.2.1 70 = .ok (.getfield 59, 3) := by decide +kernel
theorem d_L_weigh_73 : decode m_L_weigh.2.1 73 = .ok (.ifCond .ne 58, 3) := by decide +kernel
theorem d_L_weigh_76 : decode m_L_weigh.2.1 76 = .ok (.aload_n 0, 1) := by decide +kernel
theorem d_L_weigh_77 : decode m_L_weigh.2.1 77 = .ok (.getfield 11, 3) := by decide +kernel
theorem d_L_weigh_80 : decode m_L_weigh.2.1 80 = .ok (.iload_n 2, 1) := by decide +kernel
theorem d_L_weigh_81 : decode m_L_weigh.2.1 81 = .ok (.iconst 2, 1) := by decide +kernel
theorem d_L_weigh_82 : decode m_L_weigh.2.1 82 = .ok (.iadd, 1) := by decide +kernel
theorem d_L_weigh_83 : decode m_L_weigh.2.1 83 = .ok (.dup2, 1) := by decide +kernel
theorem d_L_weigh_84 : decode m_L_weigh.2.1 84 = .ok (.iaload, 1) := by decide +kernel
theorem d_L_weigh_85 : decode m_L_weigh.2.1 85 = .ok (.iconst 1, 1) := by decide +kernel
theorem d_L_weigh_86 : decode m_L_weigh.2.1 86 = .ok (.iadd, 1) := by decide +kernel
theorem d_L_weigh_87 : decode m_L_weigh.2.1 87 = .ok (.iastore, 1) := by decide +kernel
theorem d_L_weigh_88 : decode m_L_weigh.2.1 88 = .ok (.aload_n 0, 1) := by decide +kernel
theorem d_L_weigh_89 : decode m_L_weigh.2.1 89 = .ok (.getfield 11, 3) := by decide +kernel
theorem d_L_weigh_92 : decode m_L_weigh.2.1 92 = .ok (.iload_n 2, 1) := by decide +kernel
theorem d_L_weigh_93 : decode m_L_weigh.2.1 93 = .ok (.iconst 3, 1) := by decide +kernel
theorem d_L_weigh_94 : decode m_L_weigh.2.1 94 = .ok (.iadd, 1) := by decide +kernel
theorem d_L_weigh_95 : decode m_L_weigh.2.1 95 = .ok (.iaload, 1) := by decide +kernel
theorem d_L_weigh_96 : decode m_L_weigh.2.1 96 = .ok (.iconst (-1), 1) := by decide +kernel
theorem d_L_weigh_97 : decode m_L_weigh.2.1 97 = .ok (.if_icmp .eq 20, 3) := by decide +kernel
theorem d_L_weigh_100 : decode m_L_weigh.2.1 100 = .ok (.aload_n 0, 1) := by decide +kernel
theorem d_L_weigh_101 : decode m_L_weigh.2.1 101 = .ok (.getfield 34, 3) := by decide +kernel
theorem d_L_weigh_104 : decode m_L_weigh.2.1 104 = .ok (.iload_n 1, 1) := by decide +kernel
theorem d_L_weigh_105 : decode m_L_weigh.2.1 105 = .ok (.iaload, 1) := by decide +kernel
theorem d_L_weigh_106 : decode m_L_weigh.2.1 106 = .ok (.aload_n 0, 1) := by decide +kernel
theorem d_L_weigh_107 : decode m_L_weigh.2.1 107 = .ok (.getfield 11, 3) := by decide +kernel
theorem d_L_weigh_110 : decode m_L_weigh.2.1 110 = .ok (.iload_n 2, 1) := by decide +kernel
theorem d_L_weigh_111 : decode m_L_weigh.2.1 111 = .ok (.iconst 3, 1) := by decide +kernel
theorem d_L_weigh_112 : decode m_L_weigh.2.1 112 = .ok (.iadd, 1) := by decide +kernel
theorem d_L_weigh_113 : decode m_L_weigh.2.1 113 = .ok (.iaload, 1) := by decide +kernel
theorem d_L_weigh_114 : decode m_L_weigh.2.1 114 = .ok (.if_icmp .ge 17, 3) := by decide +kernel
theorem d_L_weigh_117 : decode m_L_weigh.2.1 117 = .ok (.aload_n 0, 1) := by decide +kernel
theorem d_L_weigh_118 : decode m_L_weigh.2.1 118 = .ok (.getfield 11, 3) := by decide +kernel
theorem d_L_weigh_121 : decode m_L_weigh.2.1 121 = .ok (.iload_n 2, 1) := by decide +kernel
theorem d_L_weigh_122 : decode m_L_weigh.2.1 122 = .ok (.iconst 3, 1) := by decide +kernel
theorem d_L_weigh_123 : decode m_L_weigh.2.1 123 = .ok (.iadd, 1) := by decide +kernel
theorem d_L_weigh_124 : decode m_L_weigh.2.1 124 = .ok (.aload_n 0, 1) := by decide +kernel
theorem d_L_weigh_125 : decode m_L_weigh.2.1 125 = .ok (.getfield 34, 3) := by decide +kernel
theorem d_L_weigh_128 : decode m_L_weigh.2.1 128 = .ok (.iload_n 1, 1) := by decide +kernel
theorem d_L_weigh_129 : decode m_L_weigh.2.1 129 = .ok (.iaload, 1) := by decide +kernel
theorem d_L_weigh_130 : decode m_L_weigh.2.1 130 = .ok (.iastore, 1) := by decide +kernel
theorem d_L_weigh_131 : decode m_L_weigh.2.1 131 = .ok (.aload_n 0, 1) := by decide +kernel
theorem d_L_weigh_132 : decode m_L_weigh.2.1 132 = .ok (.getfield 11, 3) := by decide +kernel
theorem d_L_weigh_135 : decode m_L_weigh.2.1 135 = .ok (.iload_n 2, 1) := by decide +kernel
theorem d_L_weigh_136 : decode m_L_weigh.2.1 136 = .ok (.iconst 4, 1) := by decide +kernel
theorem d_L_weigh_137 : decode m_L_weigh.2.1 137 = .ok (.iadd, 1) := by decide +kernel
theorem d_L_weigh_138 : decode m_L_weigh.2.1 138 = .ok (.aload_n 0, 1) := by decide +kernel
theorem d_L_weigh_139 : decode m_L_weigh.2.1 139 = .ok (.getfield 11, 3) := by decide +kernel
theorem d_L_weigh_142 : decode m_L_weigh.2.1 142 = .ok (.iload_n 2, 1) := by decide +kernel
theorem d_L_weigh_143 : decode m_L_weigh.2.1 143 = .ok (.iconst 4, 1) := by decide +kernel
theorem d_L_weigh_144 : decode m_L_weigh.2.1 144 = .ok (.iadd, 1) := by decide +kernel
theorem d_L_weigh_145 : decode m_L_weigh.2.1 145 = .ok (.iaload, 1) := by decide +kernel
theorem d_L_weigh_146 : decode m_L_weigh.2.1 146 = .ok (.iload_n 3, 1) := by decide +kernel
theorem d_L_weigh_147 : decode m_L_weigh.2.1 147 = .ok (.invokestatic 106, 3) := by decide +kernel
theorem d_L_weigh_150 : decode m_L_weigh.2.1 150 = .ok (.iastore, 1) := by decide +kernel
theorem d_L_weigh_151 : decode m_L_weigh.2.1 151 = .ok (.aload_n 0, 1) := by decide +kernel
theorem d_L_weigh_152 : decode m_L_weigh.2.1 152 = .ok (.iconst 0, 1) := by decide +kernel
theorem d_L_weigh_153 : decode m_L_weigh.2.1 153 = .ok (.invokevirtual 112, 3) := by decide +kernel
theorem d_L_weigh_156 : decode m_L_weigh.2.1 156 = .ok (.ifCond .ne 15, 3) := by decide +kernel
theorem d_L_weigh_159 : decode m_L_weigh.2.1 159 = .ok (.aload_n 0, 1) := by decide +kernel
theorem d_L_weigh_160 : decode m_L_weigh.2.1 160 = .ok (.getfield 11, 3) := by decide +kernel
theorem d_L_weigh_163 : decode m_L_weigh.2.1 163 = .ok (.iload_n 2, 1) := by decide +kernel
theorem d_L_weigh_164 : decode m_L_weigh.2.1 164 = .ok (.iconst 5, 1) := by decide +kernel
theorem d_L_weigh_165 : decode m_L_weigh.2.1 165 = .ok (.iadd, 1) := by decide +kernel
theorem d_L_weigh_166 : decode m_L_weigh.2.1 166 = .ok (.dup2, 1) := by decide +kernel
theorem d_L_weigh_167 : decode m_L_weigh.2.1 167 = .ok (.iaload, 1) := by decide +kernel
theorem d_L_weigh_168 : decode m_L_weigh.2.1 168 = .ok (.iconst 1, 1) := by decide +kernel
theorem d_L_weigh_169 : decode m_L_weigh.2.1 169 = .ok (.iadd, 1) := by decide +kernel
theorem d_L_weigh_170 : decode m_L_weigh.2.1 170 = .ok (.iastore, 1) := by decide +kernel
theorem d_L_weigh_171 : decode m_L_weigh.2.1 171 = .ok (.return_, 1) := by decide +kernel
def f_L_weigh_131 (x2 x3 : Int) (w : qMem) : Option (qMem) :=
  qld w 82 168 (w32 (x2 + 4)) fun v1 =>
  qst w 82 168 (w32 (x2 + 4)) (if v1 < x3 then x3 else v1) fun w2 =>
  (f_L_ruleLets 0 w2).bind fun q3 =>
  if q3.1 = 0 then
  qld q3.2 82 168 (w32 (x2 + 5)) fun v5 =>
  qst q3.2 82 168 (w32 (x2 + 5)) (w32 (v5 + 1)) fun w6 =>
  some w6
  else
  some q3.2
set_option maxRecDepth 4000 in
theorem s_L_weigh_131  : ∀ (x2 x3 : Int) (w : qMem), qSim κV 100 100 m_L_weigh 131 [] [some (qR 81), none, some (qI x2), some (qI x3), none] w (f_L_weigh_131 x2 x3 w) := by
  intro x2 x3 w
  unfold f_L_weigh_131
  refine z_aload_n d_L_weigh_131 rfl ?_
  refine z_gr (ci := 1) (j := 0) (d := 1) (o2 := 82) d_L_weigh_132 rfl fl_L_11 rfl (Nat.le_of_ble_eq_true rfl) rfl rfl ?_
  refine z_iload_n d_L_weigh_135 rfl ?_
  refine z_ic4 d_L_weigh_136 ?_
  refine z_iadd d_L_weigh_137 ?_
  refine z_aload_n d_L_weigh_138 rfl ?_
  refine z_gr (ci := 1) (j := 0) (d := 1) (o2 := 82) d_L_weigh_139 rfl fl_L_11 rfl (Nat.le_of_ble_eq_true rfl) rfl rfl ?_
  refine z_iload_n d_L_weigh_142 rfl ?_
  refine z_ic4 d_L_weigh_143 ?_
  refine z_iadd d_L_weigh_144 ?_
  refine z_il d_L_weigh_145 rfl rfl (fun v1 => ?_)
  refine z_iload_n d_L_weigh_146 rfl ?_
  refine z_max d_L_weigh_147 lk_L_106 (Nat.le_of_ble_eq_true rfl) (Nat.le_of_ble_eq_true rfl) ?_
  refine z_is d_L_weigh_150 rfl rfl (fun w2 => ?_)
  refine z_aload_n d_L_weigh_151 rfl ?_
  refine z_ic0 d_L_weigh_152 ?_
  refine z_cVI (as := [qI 0]) (st := []) (nl := 1) (ci := 1) d_L_weigh_153 lk_L_112 mk_L_ruleLets rfl rfl rfl rfl rfl rfl (s_L_ruleLets _ _) (fun q3 _ hq3 => ?_)
  refine z_if_ne (tgt := 171) d_L_weigh_156 rfl (fun c4 => ?_) (fun c4 => ?_)
  · refine z_aload_n d_L_weigh_159 rfl ?_
    refine z_gr (ci := 1) (j := 0) (d := 1) (o2 := 82) d_L_weigh_160 rfl fl_L_11 rfl (Nat.le_of_ble_eq_true rfl) rfl rfl ?_
    refine z_iload_n d_L_weigh_163 rfl ?_
    refine z_ic5 d_L_weigh_164 ?_
    refine z_iadd d_L_weigh_165 ?_
    refine z_dup2 d_L_weigh_166 rfl rfl ?_
    refine z_il d_L_weigh_167 rfl rfl (fun v5 => ?_)
    refine z_ic1 d_L_weigh_168 ?_
    refine z_iadd d_L_weigh_169 ?_
    refine z_is d_L_weigh_170 rfl rfl (fun w6 => ?_)
    exact z_vret d_L_weigh_171 rfl rfl
  · exact z_vret d_L_weigh_171 rfl rfl
def f_L_weigh_117 (x1 x2 x3 : Int) (w : qMem) : Option (qMem) :=
  if w 81 7 = 103 then
  qld w 103 10125 x1 fun v8 =>
  qst w 82 168 (w32 (x2 + 3)) v8 fun w9 =>
  f_L_weigh_131 x2 x3 w9
  else none
set_option maxRecDepth 4000 in
theorem s_L_weigh_117  : ∀ (x1 x2 x3 : Int) (w : qMem), qSim κV 100 100 m_L_weigh 117 [] [some (qR 81), some (qI x1), some (qI x2), some (qI x3), none] w (f_L_weigh_117 x1 x2 x3 w) := by
  intro x1 x2 x3 w
  unfold f_L_weigh_117
  refine z_aload_n d_L_weigh_117 rfl ?_
  refine z_gr (ci := 1) (j := 0) (d := 1) (o2 := 82) d_L_weigh_118 rfl fl_L_11 rfl (Nat.le_of_ble_eq_true rfl) rfl rfl ?_
  refine z_iload_n d_L_weigh_121 rfl ?_
  refine z_ic3 d_L_weigh_122 ?_
  refine z_iadd d_L_weigh_123 ?_
  refine z_aload_n d_L_weigh_124 rfl ?_
  refine z_if (fun c7 => ?_) (fun _ => z_none)
  refine z_getd (ci := 1) (j := 7) (d := 103) (ji := 7) d_L_weigh_125 rfl fl_L_34 rfl (by decide) rfl rfl c7 (by decide) ?_
  refine z_iload_n d_L_weigh_128 rfl ?_
  refine z_il d_L_weigh_129 rfl rfl (fun v8 => ?_)
  refine z_is d_L_weigh_130 rfl rfl (fun w9 => ?_)
  refine z_mask [true, false, true, true, false] ?_
  exact s_L_weigh_131 _ _ _
def f_L_weigh_65 (x1 x2 x3 : Int) (w : qMem) : Option (qMem) :=
  if x3 ≤ 0 then
  f_L_weigh_131 x2 x3 w
  else
  if (w 81 15) = 0 then
  qld w 82 168 (w32 (x2 + 2)) fun v12 =>
  qst w 82 168 (w32 (x2 + 2)) (w32 (v12 + 1)) fun w13 =>
  qld w13 82 168 (w32 (x2 + 3)) fun v14 =>
  if v14 = (-1) then
  f_L_weigh_117 x1 x2 x3 w13
  else
  if w13 81 7 = 103 then
  qld w13 103 10125 x1 fun v17 =>
  qld w13 82 168 (w32 (x2 + 3)) fun v18 =>
  if v17 < v18 then
  f_L_weigh_117 x1 x2 x3 w13
  else
  f_L_weigh_131 x2 x3 w13
  else none
  else
  f_L_weigh_131 x2 x3 w
set_option maxRecDepth 4000 in
theorem s_L_weigh_65  : ∀ (x1 x2 x3 : Int) (w : qMem), qSim κV 100 100 m_L_weigh 65 [] [some (qR 81), some (qI x1), some (qI x2), some (qI x3), none] w (f_L_weigh_65 x1 x2 x3 w) := by
  intro x1 x2 x3 w
  unfold f_L_weigh_65
  refine z_iload_n d_L_weigh_65 rfl ?_
  refine z_if_le (tgt := 131) d_L_weigh_66 rfl (fun c10 => ?_) (fun c10 => ?_)
  · refine z_mask [true, false, true, true, false] ?_
    exact s_L_weigh_131 _ _ _
  · refine z_aload_n d_L_weigh_69 rfl ?_
    refine z_gi (ci := 1) (j := 15) (ji := 15) d_L_weigh_70 rfl fl_L_59 rfl rfl rfl ?_
    refine z_if_ne (tgt := 131) d_L_weigh_73 rfl (fun c11 => ?_) (fun c11 => ?_)
    · refine z_aload_n d_L_weigh_76 rfl ?_
      refine z_gr (ci := 1) (j := 0) (d := 1) (o2 := 82) d_L_weigh_77 rfl fl_L_11 rfl (Nat.le_of_ble_eq_true rfl) rfl rfl ?_
      refine z_iload_n d_L_weigh_80 rfl ?_
      refine z_ic2 d_L_weigh_81 ?_
      refine z_iadd d_L_weigh_82 ?_
      refine z_dup2 d_L_weigh_83 rfl rfl ?_
      refine z_il d_L_weigh_84 rfl rfl (fun v12 => ?_)
      refine z_ic1 d_L_weigh_85 ?_
      refine z_iadd d_L_weigh_86 ?_
      refine z_is d_L_weigh_87 rfl rfl (fun w13 => ?_)
      refine z_aload_n d_L_weigh_88 rfl ?_
      refine z_gr (ci := 1) (j := 0) (d := 1) (o2 := 82) d_L_weigh_89 rfl fl_L_11 rfl (Nat.le_of_ble_eq_true rfl) rfl rfl ?_
      refine z_iload_n d_L_weigh_92 rfl ?_
      refine z_ic3 d_L_weigh_93 ?_
      refine z_iadd d_L_weigh_94 ?_
      refine z_il d_L_weigh_95 rfl rfl (fun v14 => ?_)
      refine z_icm1 d_L_weigh_96 ?_
      refine z_icmp_eq (tgt := 117) d_L_weigh_97 rfl (fun c15 => ?_) (fun c15 => ?_)
      · refine z_mask [true, true, true, true, false] ?_
        exact s_L_weigh_117 _ _ _ _
      · refine z_aload_n d_L_weigh_100 rfl ?_
        refine z_if (fun c16 => ?_) (fun _ => z_none)
        refine z_getd (ci := 1) (j := 7) (d := 103) (ji := 7) d_L_weigh_101 rfl fl_L_34 rfl (by decide) rfl rfl c16 (by decide) ?_
        refine z_iload_n d_L_weigh_104 rfl ?_
        refine z_il d_L_weigh_105 rfl rfl (fun v17 => ?_)
        refine z_aload_n d_L_weigh_106 rfl ?_
        refine z_gr (ci := 1) (j := 0) (d := 1) (o2 := 82) d_L_weigh_107 rfl fl_L_11 rfl (Nat.le_of_ble_eq_true rfl) rfl rfl ?_
        refine z_iload_n d_L_weigh_110 rfl ?_
        refine z_ic3 d_L_weigh_111 ?_
        refine z_iadd d_L_weigh_112 ?_
        refine z_il d_L_weigh_113 rfl rfl (fun v18 => ?_)
        refine z_icmp_ge (tgt := 131) d_L_weigh_114 rfl (fun c19 => ?_) (fun c19 => ?_)
        · refine z_mask [true, true, true, true, false] ?_
          exact s_L_weigh_117 _ _ _ _
        · refine z_mask [true, false, true, true, false] ?_
          exact s_L_weigh_131 _ _ _
    · refine z_mask [true, false, true, true, false] ?_
      exact s_L_weigh_131 _ _ _
def f_L_weigh_40 (x1 x2 x3 : Int) (w : qMem) : Option (qMem) :=
  if x3 = (w32 ((w 81 8) * (w 81 9))) then
  qld w 82 168 (w32 (x2 + 1)) fun v21 =>
  qst w 82 168 (w32 (x2 + 1)) (w32 (v21 + 1)) fun w22 =>
  f_L_weigh_65 x1 x2 x3 w22
  else
  f_L_weigh_65 x1 x2 x3 w
set_option maxRecDepth 4000 in
theorem s_L_weigh_40  : ∀ (x1 x2 x3 : Int) (w : qMem), qSim κV 100 100 m_L_weigh 40 [] [some (qR 81), some (qI x1), some (qI x2), some (qI x3), none] w (f_L_weigh_40 x1 x2 x3 w) := by
  intro x1 x2 x3 w
  unfold f_L_weigh_40
  refine z_iload_n d_L_weigh_40 rfl ?_
  refine z_aload_n d_L_weigh_41 rfl ?_
  refine z_gi (ci := 1) (j := 8) (ji := 8) d_L_weigh_42 rfl fl_L_37 rfl rfl rfl ?_
  refine z_aload_n d_L_weigh_45 rfl ?_
  refine z_gi (ci := 1) (j := 9) (ji := 9) d_L_weigh_46 rfl fl_L_41 rfl rfl rfl ?_
  refine z_imul d_L_weigh_49 ?_
  refine z_icmp_ne (tgt := 65) d_L_weigh_50 rfl (fun c20 => ?_) (fun c20 => ?_)
  · refine z_aload_n d_L_weigh_53 rfl ?_
    refine z_gr (ci := 1) (j := 0) (d := 1) (o2 := 82) d_L_weigh_54 rfl fl_L_11 rfl (Nat.le_of_ble_eq_true rfl) rfl rfl ?_
    refine z_iload_n d_L_weigh_57 rfl ?_
    refine z_ic1 d_L_weigh_58 ?_
    refine z_iadd d_L_weigh_59 ?_
    refine z_dup2 d_L_weigh_60 rfl rfl ?_
    refine z_il d_L_weigh_61 rfl rfl (fun v21 => ?_)
    refine z_ic1 d_L_weigh_62 ?_
    refine z_iadd d_L_weigh_63 ?_
    refine z_is d_L_weigh_64 rfl rfl (fun w22 => ?_)
    refine z_mask [true, true, true, true, false] ?_
    exact s_L_weigh_65 _ _ _ _
  · refine z_mask [true, true, true, true, false] ?_
    exact s_L_weigh_65 _ _ _ _
def f_L_weigh_15 : Nat → Int → Int → Int → Int → qMem → Option (qMem)
  | 0, _, _, _, _, _ => none
  | n + 1, x1, x2, x3, x4, w =>
    if x4 < (w 81 8) then
    qld w 85 4 x4 fun v24 =>
    (f_L_weigh_15 n) x1 x2 (w32 (x3 + v24)) (w32 (x4 + 1)) w
    else
    f_L_weigh_40 x1 x2 x3 w
set_option maxRecDepth 4000 in
theorem s_L_weigh_15  : ∀ (n : Nat), ∀ (x1 x2 x3 x4 : Int) (w : qMem), qSim κV 100 100 m_L_weigh 15 [] [some (qR 81), some (qI x1), some (qI x2), some (qI x3), some (qI x4)] w (f_L_weigh_15 n x1 x2 x3 x4 w) := by
  intro n
  induction n with
  | zero => intro x1 x2 x3 x4 w; exact z_none
  | succ n ih =>
    intro x1 x2 x3 x4 w
    rw [f_L_weigh_15]
    refine z_iload d_L_weigh_15 rfl ?_
    refine z_aload_n d_L_weigh_17 rfl ?_
    refine z_gi (ci := 1) (j := 8) (ji := 8) d_L_weigh_18 rfl fl_L_37 rfl rfl rfl ?_
    refine z_icmp_ge (tgt := 40) d_L_weigh_21 rfl (fun c23 => ?_) (fun c23 => ?_)
    · refine z_iload_n d_L_weigh_24 rfl ?_
      refine z_aload_n d_L_weigh_25 rfl ?_
      refine z_gr (ci := 1) (j := 3) (d := 4) (o2 := 85) d_L_weigh_26 rfl fl_L_22 rfl (Nat.le_of_ble_eq_true rfl) rfl rfl ?_
      refine z_iload d_L_weigh_29 rfl ?_
      refine z_il d_L_weigh_31 rfl rfl (fun v24 => ?_)
      refine z_iadd d_L_weigh_32 ?_
      refine z_istore_n (pls' := [some (qR 81), some (qI x1), some (qI x2), some (qI (w32 (x3 + v24))), some (qI x4)]) d_L_weigh_33 (by decide) rfl rfl ?_
      refine z_iinc (pls' := [some (qR 81), some (qI x1), some (qI x2), some (qI (w32 (x3 + v24))), some (qI (w32 (x4 + 1)))]) d_L_weigh_34 (by decide) rfl rfl rfl ?_
      refine z_goto (tgt := 15) d_L_weigh_37 rfl ?_
      refine z_mask [true, true, true, true, true] ?_
      exact ih _ _ _ _ _
    · refine z_mask [true, true, true, true, false] ?_
      exact s_L_weigh_40 _ _ _ _
def f_L_weigh (x1 : Int) (x2 : Int) (w : qMem) : Option (qMem) :=
  (f_L_open x1 w).bind fun q25 =>
  (f_L_listSteps x1 q25).bind fun q26 =>
  f_L_weigh_15 qFU x1 x2 0 0 q26
set_option maxRecDepth 4000 in
theorem s_L_weigh (x1 : Int) (x2 : Int) (w : qMem) : qSim κV 100 100 m_L_weigh 0 [] [some (qR 81), some (qI x1), some (qI x2), none, none] w (f_L_weigh x1 x2 w) := by
  unfold f_L_weigh
  refine z_aload_n d_L_weigh_0 rfl ?_
  refine z_iload_n d_L_weigh_1 rfl ?_
  refine z_cVV (as := [qI x1]) (st := []) (nl := 1) (ci := 1) d_L_weigh_2 lk_L_99 mk_L_open rfl rfl rfl rfl rfl rfl (s_L_open _ _) (fun q25 _ => ?_)
  refine z_aload_n d_L_weigh_5 rfl ?_
  refine z_iload_n d_L_weigh_6 rfl ?_
  refine z_cVV (as := [qI x1]) (st := []) (nl := 2) (ci := 1) d_L_weigh_7 lk_L_103 mk_L_listSteps rfl rfl rfl rfl rfl rfl (s_L_listSteps _ _) (fun q26 _ => ?_)
  refine z_ic0 d_L_weigh_10 ?_
  refine z_istore_n (pls' := [some (qR 81), some (qI x1), some (qI x2), some (qI 0), none]) d_L_weigh_11 (by decide) rfl rfl ?_
  refine z_ic0 d_L_weigh_12 ?_
  refine z_istore (pls' := [some (qR 81), some (qI x1), some (qI x2), some (qI 0), some (qI 0)]) d_L_weigh_13 (by decide) rfl rfl ?_
  refine z_mask [true, true, true, true, true] ?_
  exact s_L_weigh_15 _ _ _ _ _ _
/-! BubbleTorus$LoneRing.leadsOn -/
theorem d_L_leadsOn_0 : decode m_L_leadsOn.2.1 0 = .ok (.aload_n 0, 1) := by decide +kernel
theorem d_L_leadsOn_1 : decode m_L_leadsOn.2.1 1 = .ok (.iload_n 1, 1) := by decide +kernel
theorem d_L_leadsOn_2 : decode m_L_leadsOn.2.1 2 = .ok (.invokevirtual 99, 3) := by decide +kernel
theorem d_L_leadsOn_5 : decode m_L_leadsOn.2.1 5 = .ok (.aload_n 0, 1) := by decide +kernel
theorem d_L_leadsOn_6 : decode m_L_leadsOn.2.1 6 = .ok (.iload_n 1, 1) := by decide +kernel
theorem d_L_leadsOn_7 : decode m_L_leadsOn.2.1 7 = .ok (.invokevirtual 103, 3) := by decide +kernel
theorem d_L_leadsOn_10 : decode m_L_leadsOn.2.1 10 = .ok (.iconst 0, 1) := by decide +kernel
theorem d_L_leadsOn_11 : decode m_L_leadsOn.2.1 11 = .ok (.istore_n 2, 1) := by decide +kernel
theorem d_L_leadsOn_12 : decode m_L_leadsOn.2.1 12 = .ok (.iload_n 2, 1) := by decide +kernel
theorem d_L_leadsOn_13 : decode m_L_leadsOn.2.1 13 = .ok (.aload_n 0, 1) := by decide +kernel
theorem d_L_leadsOn_14 : decode m_L_leadsOn.2.1 14 = .ok (.getfield 56, 3) := by decide +kernel
theorem d_L_leadsOn_17 : decode m_L_leadsOn.2.1 17 = .ok (.if_icmp .ge 26, 3) := by decide +kernel
theorem d_L_leadsOn_20 : decode m_L_leadsOn.2.1 20 = .ok (.aload_n 0, 1) := by decide +kernel
theorem d_L_leadsOn_21 : decode m_L_leadsOn.2.1 21 = .ok (.getfield 34, 3) := by decide +kernel
theorem d_L_leadsOn_24 : decode m_L_leadsOn.2.1 24 = .ok (.aload_n 0, 1) := by decide +kernel
theorem d_L_leadsOn_25 : decode m_L_leadsOn.2.1 25 = .ok (.getfield 28, 3) := by decide +kernel
theorem d_L_leadsOn_28 : decode m_L_leadsOn.2.1 28 = .ok (.iload_n 2, 1) := by decide +kernel
theorem d_L_leadsOn_29 : decode m_L_leadsOn.2.1 29 = .ok (.iaload, 1) := by decide +kernel
theorem d_L_leadsOn_30 : decode m_L_leadsOn.2.1 30 = .ok (.iaload, 1) := by decide +kernel
theorem d_L_leadsOn_31 : decode m_L_leadsOn.2.1 31 = .ok (.iconst 1, 1) := by decide +kernel
theorem d_L_leadsOn_32 : decode m_L_leadsOn.2.1 32 = .ok (.if_icmp .ne 5, 3) := by decide +kernel
theorem d_L_leadsOn_35 : decode m_L_leadsOn.2.1 35 = .ok (.iconst 1, 1) := by decide +kernel
theorem d_L_leadsOn_36 : decode m_L_leadsOn.2.1 36 = .ok (.ireturn, 1) := by decide +kernel
theorem d_L_leadsOn_37 : decode m_L_leadsOn.2.1 37 = .ok (.iinc 2 1, 3) := by decide +kernel
theorem d_L_leadsOn_40 : decode m_L_leadsOn.2.1 40 = .ok (.goto (-28), 3) := by decide +kernel
theorem d_L_leadsOn_43 : decode m_L_leadsOn.2.1 43 = .ok (.iconst 0, 1) := by decide +kernel
theorem d_L_leadsOn_44 : decode m_L_leadsOn.2.1 44 = .ok (.ireturn, 1) := by decide +kernel
def f_L_leadsOn_12 : Nat → Int → qMem → Option (Int × qMem)
  | 0, _, _ => none
  | n + 1, x2, w =>
    if x2 < (w 81 14) then
    if w 81 7 = 103 then
    qld w 87 16 x2 fun v3 =>
    qld w 103 10125 v3 fun v4 =>
    if v4 = 1 then
    some (1, w)
    else
    (f_L_leadsOn_12 n) (w32 (x2 + 1)) w
    else none
    else
    some (0, w)
set_option maxRecDepth 4000 in
theorem s_L_leadsOn_12  : ∀ (n : Nat), ∀ (x2 : Int) (w : qMem), qSim κI 100 100 m_L_leadsOn 12 [] [some (qR 81), none, some (qI x2)] w (f_L_leadsOn_12 n x2 w) := by
  intro n
  induction n with
  | zero => intro x2 w; exact z_none
  | succ n ih =>
    intro x2 w
    rw [f_L_leadsOn_12]
    refine z_iload_n d_L_leadsOn_12 rfl ?_
    refine z_aload_n d_L_leadsOn_13 rfl ?_
    refine z_gi (ci := 1) (j := 14) (ji := 14) d_L_leadsOn_14 rfl fl_L_56 rfl rfl rfl ?_
    refine z_icmp_ge (tgt := 43) d_L_leadsOn_17 rfl (fun c1 => ?_) (fun c1 => ?_)
    · refine z_aload_n d_L_leadsOn_20 rfl ?_
      refine z_if (fun c2 => ?_) (fun _ => z_none)
      refine z_getd (ci := 1) (j := 7) (d := 103) (ji := 7) d_L_leadsOn_21 rfl fl_L_34 rfl (by decide) rfl rfl c2 (by decide) ?_
      refine z_aload_n d_L_leadsOn_24 rfl ?_
      refine z_gr (ci := 1) (j := 5) (d := 6) (o2 := 87) d_L_leadsOn_25 rfl fl_L_28 rfl (Nat.le_of_ble_eq_true rfl) rfl rfl ?_
      refine z_iload_n d_L_leadsOn_28 rfl ?_
      refine z_il d_L_leadsOn_29 rfl rfl (fun v3 => ?_)
      refine z_il d_L_leadsOn_30 rfl rfl (fun v4 => ?_)
      refine z_ic1 d_L_leadsOn_31 ?_
      refine z_icmp_ne (tgt := 37) d_L_leadsOn_32 rfl (fun c5 => ?_) (fun c5 => ?_)
      · refine z_ic1 d_L_leadsOn_35 ?_
        exact z_zret d_L_leadsOn_36 rfl rfl (Or.inr rfl)
      · refine z_iinc (pls' := [some (qR 81), none, some (qI (w32 (x2 + 1)))]) d_L_leadsOn_37 (by decide) rfl rfl rfl ?_
        refine z_goto (tgt := 12) d_L_leadsOn_40 rfl ?_
        refine z_mask [true, false, true] ?_
        exact ih _ _
    · refine z_ic0 d_L_leadsOn_43 ?_
      exact z_zret d_L_leadsOn_44 rfl rfl (Or.inl rfl)
def f_L_leadsOn (x1 : Int) (w : qMem) : Option (Int × qMem) :=
  (f_L_open x1 w).bind fun q6 =>
  (f_L_listSteps x1 q6).bind fun q7 =>
  f_L_leadsOn_12 qFU 0 q7
set_option maxRecDepth 4000 in
theorem s_L_leadsOn (x1 : Int) (w : qMem) : qSim κI 100 100 m_L_leadsOn 0 [] [some (qR 81), some (qI x1), none] w (f_L_leadsOn x1 w) := by
  unfold f_L_leadsOn
  refine z_aload_n d_L_leadsOn_0 rfl ?_
  refine z_iload_n d_L_leadsOn_1 rfl ?_
  refine z_cVV (as := [qI x1]) (st := []) (nl := 1) (ci := 1) d_L_leadsOn_2 lk_L_99 mk_L_open rfl rfl rfl rfl rfl rfl (s_L_open _ _) (fun q6 _ => ?_)
  refine z_aload_n d_L_leadsOn_5 rfl ?_
  refine z_iload_n d_L_leadsOn_6 rfl ?_
  refine z_cVV (as := [qI x1]) (st := []) (nl := 2) (ci := 1) d_L_leadsOn_7 lk_L_103 mk_L_listSteps rfl rfl rfl rfl rfl rfl (s_L_listSteps _ _) (fun q7 _ => ?_)
  refine z_ic0 d_L_leadsOn_10 ?_
  refine z_istore_n (pls' := [some (qR 81), some (qI x1), some (qI 0)]) d_L_leadsOn_11 (by decide) rfl rfl ?_
  refine z_mask [true, false, true] ?_
  exact s_L_leadsOn_12 _ _ _
/-! BubbleTorus$LoneRing.isStarving -/
theorem d_L_isStarving_0 : decode m_L_isStarving.2.1 0 = .ok (.iconst 0, 1) := by decide +kernel
theorem d_L_isStarving_1 : decode m_L_isStarving.2.1 1 = .ok (.istore_n 1, 1) := by decide +kernel
theorem d_L_isStarving_2 : decode m_L_isStarving.2.1 2 = .ok (.iconst 0, 1) := by decide +kernel
theorem d_L_isStarving_3 : decode m_L_isStarving.2.1 3 = .ok (.istore_n 2, 1) := by decide +kernel
theorem d_L_isStarving_4 : decode m_L_isStarving.2.1 4 = .ok (.iload_n 2, 1) := by decide +kernel
theorem d_L_isStarving_5 : decode m_L_isStarving.2.1 5 = .ok (.aload_n 0, 1) := by decide +kernel
theorem d_L_isStarving_6 : decode m_L_isStarving.2.1 6 = .ok (.getfield 53, 3) := by decide +kernel
theorem d_L_isStarving_9 : decode m_L_isStarving.2.1 9 = .ok (.if_icmp .ge 57, 3) := by decide +kernel
theorem d_L_isStarving_12 : decode m_L_isStarving.2.1 12 = .ok (.aload_n 0, 1) := by decide +kernel
theorem d_L_isStarving_13 : decode m_L_isStarving.2.1 13 = .ok (.aload_n 0, 1) := by decide +kernel
theorem d_L_isStarving_14 : decode m_L_isStarving.2.1 14 = .ok (.getfield 31, 3) := by decide +kernel
theorem d_L_isStarving_17 : decode m_L_isStarving.2.1 17 = .ok (.iload_n 2, 1) := by decide +kernel
theorem d_L_isStarving_18 : decode m_L_isStarving.2.1 18 = .ok (.iaload, 1) := by decide +kernel
theorem d_L_isStarving_19 : decode m_L_isStarving.2.1 19 = .ok (.invokevirtual 99, 3) := by decide +kernel
theorem d_L_isStarving_22 : decode m_L_isStarving.2.1 22 = .ok (.aload_n 0, 1) := by decide +kernel
theorem d_L_isStarving_23 : decode m_L_isStarving.2.1 23 = .ok (.getfield 34, 3) := by decide +kernel
theorem d_L_isStarving_26 : decode m_L_isStarving.2.1 26 = .ok (.aload_n 0, 1) := by decide +kernel
theorem d_L_isStarving_27 : decode m_L_isStarving.2.1 27 = .ok (.getfield 31, 3) := by decide +kernel
theorem d_L_isStarving_30 : decode m_L_isStarving.2.1 30 = .ok (.iload_n 2, 1) := by decide +kernel
theorem d_L_isStarving_31 : decode m_L_isStarving.2.1 31 = .ok (.iaload, 1) := by decide +kernel
theorem d_L_isStarving_32 : decode m_L_isStarving.2.1 32 = .ok (.aload_n 0, 1) := by decide +kernel
theorem d_L_isStarving_33 : decode m_L_isStarving.2.1 33 = .ok (.iconst 0, 1) := by decide +kernel
theorem d_L_isStarving_34 : decode m_L_isStarving.2.1 34 = .ok (.invokevirtual 112, 3) := by decide +kernel
theorem d_L_isStarving_37 : decode m_L_isStarving.2.1 37 = .ok (.ifCond .eq 7, 3) := by decide +kernel
theorem d_L_isStarving_40 : decode m_L_isStarving.2.1 40 = .ok (.iconst 0, 1) := by decide +kernel
theorem d_L_isStarving_41 : decode m_L_isStarving.2.1 41 = .ok (.goto 4, 3) := by decide +kernel
theorem d_L_isStarving_44 : decode m_L_isStarving.2.1 44 = .ok (.iconst 1, 1) := by decide +kernel
theorem d_L_isStarving_45 : decode m_L_isStarving.2.1 45 = .ok (.iastore, 1) := by decide +kernel
theorem d_L_isStarving_46 : decode m_L_isStarving.2.1 46 = .ok (.iload_n 1, 1) := by decide +kernel
theorem d_L_isStarving_47 : decode m_L_isStarving.2.1 47 = .ok (.aload_n 0, 1) := by decide +kernel
theorem d_L_isStarving_48 : decode m_L_isStarving.2.1 48 = .ok (.getfield 34, 3) := by decide +kernel
theorem d_L_isStarving_51 : decode m_L_isStarving.2.1 51 = .ok (.aload_n 0, 1) := by decide +kernel
theorem d_L_isStarving_52 : decode m_L_isStarving.2.1 52 = .ok (.getfield 31, 3) := by decide +kernel
theorem d_L_isStarving_55 : decode m_L_isStarving.2.1 55 = .ok (.iload_n 2, 1) := by decide +kernel
theorem d_L_isStarving_56 : decode m_L_isStarving.2.1 56 = .ok (.iaload, 1) := by decide +kernel
theorem d_L_isStarving_57 : decode m_L_isStarving.2.1 57 = .ok (.iaload, 1) := by decide +kernel
theorem d_L_isStarving_58 : decode m_L_isStarving.2.1 58 = .ok (.iadd, 1) := by decide +kernel
theorem d_L_isStarving_59 : decode m_L_isStarving.2.1 59 = .ok (.istore_n 1, 1) := by decide +kernel
theorem d_L_isStarving_60 : decode m_L_isStarving.2.1 60 = .ok (.iinc 2 1, 3) := by decide +kernel
theorem d_L_isStarving_63 : decode m_L_isStarving.2.1 63 = .ok (.goto (-59), 3) := by decide +kernel
theorem d_L_isStarving_66 : decode m_L_isStarving.2.1 66 = .ok (.iconst 1, 1) := by decide +kernel
theorem d_L_isStarving_67 : decode m_L_isStarving.2.1 67 = .ok (.istore_n 2, 1) := by decide +kernel
theorem d_L_isStarving_68 : decode m_L_isStarving.2.1 68 = .ok (.iconst 0, 1) := by decide +kernel
theorem d_L_isStarving_69 : decode m_L_isStarving.2.1 69 = .ok (.istore_n 3, 1) := by decide +kernel
theorem d_L_isStarving_70 : decode m_L_isStarving.2.1 70 = .ok (.iload_n 3, 1) := by decide +kernel
theorem d_L_isStarving_71 : decode m_L_isStarving.2.1 71 = .ok (.sipush 10125, 3) := by decide +kernel
theorem d_L_isStarving_74 : decode m_L_isStarving.2.1 74 = .ok (.if_icmp .gt 82, 3) := by decide +kernel
theorem d_L_isStarving_77 : decode m_L_isStarving.2.1 77 = .ok (.iload_n 2, 1) := by decide +kernel
theorem d_L_isStarving_78 : decode m_L_isStarving.2.1 78 = .ok (.ifCond .eq 78, 3) := by decide +kernel
theorem d_L_isStarving_81 : decode m_L_isStarving.2.1 81 = .ok (.iconst 0, 1) := by decide +kernel
theorem d_L_isStarving_82 : decode m_L_isStarving.2.1 82 = .ok (.istore_n 2, 1) := by decide +kernel
theorem d_L_isStarving_83 : decode m_L_isStarving.2.1 83 = .ok (.aload_n 0, 1) := by decide +kernel
theorem d_L_isStarving_84 : decode m_L_isStarving.2.1 84 = .ok (.getfield 53, 3) := by decide +kernel
theorem d_L_isStarving_87 : decode m_L_isStarving.2.1 87 = .ok (.iconst 1, 1) := by decide +kernel
theorem d_L_isStarving_88 : decode m_L_isStarving.2.1 88 = .ok (.isub, 1) := by decide +kernel
theorem d_L_isStarving_89 : decode m_L_isStarving.2.1 89 = .ok (.istore 4, 2) := by decide +kernel
theorem d_L_isStarving_91 : decode m_L_isStarving.2.1 91 = .ok (.iload 4, 2) := by decide +kernel
theorem d_L_isStarving_93 : decode m_L_isStarving.2.1 93 = .ok (.ifCond .lt 57, 3) := by decide +kernel
theorem d_L_isStarving_96 : decode m_L_isStarving.2.1 96 = .ok (.aload_n 0, 1) := by decide +kernel
theorem d_L_isStarving_97 : decode m_L_isStarving.2.1 97 = .ok (.getfield 34, 3) := by decide +kernel
theorem d_L_isStarving_100 : decode m_L_isStarving.2.1 100 = .ok (.aload_n 0, 1) := by decide +kernel
theorem d_L_isStarving_101 : decode m_L_isStarving.2.1 101 = .ok (.getfield 31, 3) := by decide +kernel
theorem d_L_isStarving_104 : decode m_L_isStarving.2.1 104 = .ok (.iload 4, 2) := by decide +kernel
theorem d_L_isStarving_106 : decode m_L_isStarving.2.1 106 = .ok (.iaload, 1) := by decide +kernel
theorem d_L_isStarving_107 : decode m_L_isStarving.2.1 107 = .ok (.iaload, 1) := by decide +kernel
theorem d_L_isStarving_108 : decode m_L_isStarving.2.1 108 = .ok (.iconst 1, 1) := by decide +kernel
theorem d_L_isStarving_109 : decode m_L_isStarving.2.1 109 = .ok (.if_icmp .ne 35, 3) := by decide +kernel
theorem d_L_isStarving_112 : decode m_L_isStarving.2.1 112 = .ok (.aload_n 0, 1) := by decide +kernel
theorem d_L_isStarving_113 : decode m_L_isStarving.2.1 113 = .ok (.aload_n 0, 1) := by decide +kernel
theorem d_L_isStarving_114 : decode m_L_isStarving.2.1 114 = .ok (.getfield 31, 3) := by decide +kernel
theorem d_L_isStarving_117 : decode m_L_isStarving.2.1 117 = .ok (.iload 4, 2) := by decide +kernel
theorem d_L_isStarving_119 : decode m_L_isStarving.2.1 119 = .ok (.iaload, 1) := by decide +kernel
theorem d_L_isStarving_120 : decode m_L_isStarving.2.1 120 = .ok (.invokevirtual 116, 3) := by decide +kernel
theorem d_L_isStarving_123 : decode m_L_isStarving.2.1 123 = .ok (.ifCond .ne 21, 3) := by decide +kernel
theorem d_L_isStarving_126 : decode m_L_isStarving.2.1 126 = .ok (.aload_n 0, 1) := by decide +kernel
theorem d_L_isStarving_127 : decode m_L_isStarving.2.1 127 = .ok (.getfield 34, 3) := by decide +kernel
theorem d_L_isStarving_130 : decode m_L_isStarving.2.1 130 = .ok (.aload_n 0, 1) := by decide +kernel
theorem d_L_isStarving_131 : decode m_L_isStarving.2.1 131 = .ok (.getfield 31, 3) := by decide +kernel
theorem d_L_isStarving_134 : decode m_L_isStarving.2.1 134 = .ok (.iload 4, 2) := by decide +kernel
theorem d_L_isStarving_136 : decode m_L_isStarving.2.1 136 = .ok (.iaload, 1) := by decide +kernel
theorem d_L_isStarving_137 : decode m_L_isStarving.2.1 137 = .ok (.iconst 0, 1) := by decide +kernel
theorem d_L_isStarving_138 : decode m_L_isStarving.2.1 138 = .ok (.iastore, 1) := by decide +kernel
theorem d_L_isStarving_139 : decode m_L_isStarving.2.1 139 = .ok (.iinc 1 (-1), 3) := by decide +kernel
theorem d_L_isStarving_142 : decode m_L_isStarving.2.1 142 = .ok (.iconst 1, 1) := by decide +kernel
theorem d_L_isStarving_143 : decode m_L_isStarving.2.1 143 = .ok (.istore_n 2, 1) := by decide +kernel
theorem d_L_isStarving_144 : decode m_L_isStarving.2.1 144 = .ok (.iinc 4 (-1), 3) := by decide +kernel
theorem d_L_isStarving_147 : decode m_L_isStarving.2.1 147 = .ok (.goto (-56), 3) := by decide +kernel
theorem d_L_isStarving_150 : decode m_L_isStarving.2.1 150 = .ok (.iinc 3 1, 3) := by decide +kernel
theorem d_L_isStarving_153 : decode m_L_isStarving.2.1 153 = .ok (.goto (-83), 3) := by decide +kernel
theorem d_L_isStarving_156 : decode m_L_isStarving.2.1 156 = .ok (.iload_n 1, 1) := by decide +kernel
theorem d_L_isStarving_157 : decode m_L_isStarving.2.1 157 = .ok (.ifCond .le 7, 3) := by decide +kernel
theorem d_L_isStarving_160 : decode m_L_isStarving.2.1 160 = .ok (.iconst 1, 1) := by decide +kernel
theorem d_L_isStarving_161 : decode m_L_isStarving.2.1 161 = .ok (.goto 4, 3) := by decide +kernel
theorem d_L_isStarving_164 : decode m_L_isStarving.2.1 164 = .ok (.iconst 0, 1) := by decide +kernel
theorem d_L_isStarving_165 : decode m_L_isStarving.2.1 165 = .ok (.ireturn, 1) := by decide +kernel
def f_L_isStarving_45 (r4 : Int → Int → qMem → Option (Int × qMem)) (s1 s2 x1 x2 : Int) (w : qMem) : Option (Int × qMem) :=
  qst w 103 10125 s1 s2 fun w1 =>
  if w1 81 7 = 103 then
  if w1 81 6 = 102 then
  qld w1 102 10125 x2 fun v4 =>
  qld w1 103 10125 v4 fun v5 =>
  r4 (w32 (x1 + v5)) (w32 (x2 + 1)) w1
  else none
  else none
set_option maxRecDepth 4000 in
theorem s_L_isStarving_45  {r4 : Int → Int → qMem → Option (Int × qMem)} (hr4 : ∀ x1 x2 w, qSim κI 100 100 m_L_isStarving 4 [] [some (qR 81), some (qI x1), some (qI x2), none, none] w (r4 x1 x2 w)) : ∀ (s1 s2 x1 x2 : Int) (w : qMem), (s2 = 0 ∨ s2 = 1) → qSim κI 100 100 m_L_isStarving 45 [qI s2, qI s1, qR 103] [some (qR 81), some (qI x1), some (qI x2), none, none] w (f_L_isStarving_45 r4 s1 s2 x1 x2 w) := by
  intro s1 s2 x1 x2 w hs2
  unfold f_L_isStarving_45
  refine z_is d_L_isStarving_45 rfl rfl (fun w1 => ?_)
  refine z_iload_n d_L_isStarving_46 rfl ?_
  refine z_aload_n d_L_isStarving_47 rfl ?_
  refine z_if (fun c2 => ?_) (fun _ => z_none)
  refine z_getd (ci := 1) (j := 7) (d := 103) (ji := 7) d_L_isStarving_48 rfl fl_L_34 rfl (by decide) rfl rfl c2 (by decide) ?_
  refine z_aload_n d_L_isStarving_51 rfl ?_
  refine z_if (fun c3 => ?_) (fun _ => z_none)
  refine z_getd (ci := 1) (j := 6) (d := 102) (ji := 6) d_L_isStarving_52 rfl fl_L_31 rfl (by decide) rfl rfl c3 (by decide) ?_
  refine z_iload_n d_L_isStarving_55 rfl ?_
  refine z_il d_L_isStarving_56 rfl rfl (fun v4 => ?_)
  refine z_il d_L_isStarving_57 rfl rfl (fun v5 => ?_)
  refine z_iadd d_L_isStarving_58 ?_
  refine z_istore_n (pls' := [some (qR 81), some (qI (w32 (x1 + v5))), some (qI x2), none, none]) d_L_isStarving_59 (by decide) rfl rfl ?_
  refine z_iinc (pls' := [some (qR 81), some (qI (w32 (x1 + v5))), some (qI (w32 (x2 + 1))), none, none]) d_L_isStarving_60 (by decide) rfl rfl rfl ?_
  refine z_goto (tgt := 4) d_L_isStarving_63 rfl ?_
  refine z_mask [true, true, true, false, false] ?_
  exact hr4 _ _ _
def f_L_isStarving_91 (r70 : Int → Int → Int → qMem → Option (Int × qMem)) : Nat → Int → Int → Int → Int → qMem → Option (Int × qMem)
  | 0, _, _, _, _, _ => none
  | n + 1, x1, x2, x3, x4, w =>
    if x4 < 0 then
    r70 x1 x2 (w32 (x3 + 1)) w
    else
    if w 81 7 = 103 then
    if w 81 6 = 102 then
    qld w 102 10125 x4 fun v9 =>
    qld w 103 10125 v9 fun v10 =>
    if v10 = 1 then
    if w 81 6 = 102 then
    qld w 102 10125 x4 fun v13 =>
    (f_L_leadsOn v13 w).bind fun q14 =>
    if q14.1 = 0 then
    if q14.2 81 7 = 103 then
    if q14.2 81 6 = 102 then
    qld q14.2 102 10125 x4 fun v18 =>
    qst q14.2 103 10125 v18 0 fun w19 =>
    (f_L_isStarving_91 r70 n) (w32 (x1 + (-1))) 1 x3 (w32 (x4 + (-1))) w19
    else none
    else none
    else
    (f_L_isStarving_91 r70 n) x1 x2 x3 (w32 (x4 + (-1))) q14.2
    else none
    else
    (f_L_isStarving_91 r70 n) x1 x2 x3 (w32 (x4 + (-1))) w
    else none
    else none
set_option maxRecDepth 4000 in
theorem s_L_isStarving_91  {r70 : Int → Int → Int → qMem → Option (Int × qMem)} (hr70 : ∀ (x1 x2 x3 : Int) (w : qMem) (hx2 : x2 = 0 ∨ x2 = 1), qSim κI 100 100 m_L_isStarving 70 [] [some (qR 81), some (qI x1), some (qI x2), some (qI x3), none] w (r70 x1 x2 x3 w)) : ∀ (n : Nat), ∀ (x1 x2 x3 x4 : Int) (w : qMem), (x2 = 0 ∨ x2 = 1) → qSim κI 100 100 m_L_isStarving 91 [] [some (qR 81), some (qI x1), some (qI x2), some (qI x3), some (qI x4)] w (f_L_isStarving_91 r70 n x1 x2 x3 x4 w) := by
  intro n
  induction n with
  | zero => intro x1 x2 x3 x4 w hx2; exact z_none
  | succ n ih =>
    intro x1 x2 x3 x4 w hx2
    rw [f_L_isStarving_91]
    refine z_iload d_L_isStarving_91 rfl ?_
    refine z_if_lt (tgt := 150) d_L_isStarving_93 rfl (fun c6 => ?_) (fun c6 => ?_)
    · refine z_iinc (pls' := [some (qR 81), some (qI x1), some (qI x2), some (qI (w32 (x3 + 1))), some (qI x4)]) d_L_isStarving_150 (by decide) rfl rfl rfl ?_
      refine z_goto (tgt := 70) d_L_isStarving_153 rfl ?_
      refine z_mask [true, true, true, true, false] ?_
      exact hr70 _ _ _ _ hx2
    · refine z_aload_n d_L_isStarving_96 rfl ?_
      refine z_if (fun c7 => ?_) (fun _ => z_none)
      refine z_getd (ci := 1) (j := 7) (d := 103) (ji := 7) d_L_isStarving_97 rfl fl_L_34 rfl (by decide) rfl rfl c7 (by decide) ?_
      refine z_aload_n d_L_isStarving_100 rfl ?_
      refine z_if (fun c8 => ?_) (fun _ => z_none)
      refine z_getd (ci := 1) (j := 6) (d := 102) (ji := 6) d_L_isStarving_101 rfl fl_L_31 rfl (by decide) rfl rfl c8 (by decide) ?_
      refine z_iload d_L_isStarving_104 rfl ?_
      refine z_il d_L_isStarving_106 rfl rfl (fun v9 => ?_)
      refine z_il d_L_isStarving_107 rfl rfl (fun v10 => ?_)
      refine z_ic1 d_L_isStarving_108 ?_
      refine z_icmp_ne (tgt := 144) d_L_isStarving_109 rfl (fun c11 => ?_) (fun c11 => ?_)
      · refine z_aload_n d_L_isStarving_112 rfl ?_
        refine z_aload_n d_L_isStarving_113 rfl ?_
        refine z_if (fun c12 => ?_) (fun _ => z_none)
        refine z_getd (ci := 1) (j := 6) (d := 102) (ji := 6) d_L_isStarving_114 rfl fl_L_31 rfl (by decide) rfl rfl c12 (by decide) ?_
        refine z_iload d_L_isStarving_117 rfl ?_
        refine z_il d_L_isStarving_119 rfl rfl (fun v13 => ?_)
        refine z_cVI (as := [qI v13]) (st := []) (nl := 1) (ci := 1) d_L_isStarving_120 lk_L_116 mk_L_leadsOn rfl rfl rfl rfl rfl rfl (s_L_leadsOn _ _) (fun q14 _ hq14 => ?_)
        refine z_if_ne (tgt := 144) d_L_isStarving_123 rfl (fun c15 => ?_) (fun c15 => ?_)
        · refine z_aload_n d_L_isStarving_126 rfl ?_
          refine z_if (fun c16 => ?_) (fun _ => z_none)
          refine z_getd (ci := 1) (j := 7) (d := 103) (ji := 7) d_L_isStarving_127 rfl fl_L_34 rfl (by decide) rfl rfl c16 (by decide) ?_
          refine z_aload_n d_L_isStarving_130 rfl ?_
          refine z_if (fun c17 => ?_) (fun _ => z_none)
          refine z_getd (ci := 1) (j := 6) (d := 102) (ji := 6) d_L_isStarving_131 rfl fl_L_31 rfl (by decide) rfl rfl c17 (by decide) ?_
          refine z_iload d_L_isStarving_134 rfl ?_
          refine z_il d_L_isStarving_136 rfl rfl (fun v18 => ?_)
          refine z_ic0 d_L_isStarving_137 ?_
          refine z_is d_L_isStarving_138 rfl rfl (fun w19 => ?_)
          refine z_iinc (pls' := [some (qR 81), some (qI (w32 (x1 + (-1)))), some (qI x2), some (qI x3), some (qI x4)]) d_L_isStarving_139 (by decide) rfl rfl rfl ?_
          refine z_ic1 d_L_isStarving_142 ?_
          refine z_istore_n (pls' := [some (qR 81), some (qI (w32 (x1 + (-1)))), some (qI 1), some (qI x3), some (qI x4)]) d_L_isStarving_143 (by decide) rfl rfl ?_
          refine z_iinc (pls' := [some (qR 81), some (qI (w32 (x1 + (-1)))), some (qI 1), some (qI x3), some (qI (w32 (x4 + (-1))))]) d_L_isStarving_144 (by decide) rfl rfl rfl ?_
          refine z_goto (tgt := 91) d_L_isStarving_147 rfl ?_
          refine z_mask [true, true, true, true, true] ?_
          exact ih _ _ _ _ _ (Or.inr rfl)
        · refine z_iinc (pls' := [some (qR 81), some (qI x1), some (qI x2), some (qI x3), some (qI (w32 (x4 + (-1))))]) d_L_isStarving_144 (by decide) rfl rfl rfl ?_
          refine z_goto (tgt := 91) d_L_isStarving_147 rfl ?_
          refine z_mask [true, true, true, true, true] ?_
          exact ih _ _ _ _ _ hx2
      · refine z_iinc (pls' := [some (qR 81), some (qI x1), some (qI x2), some (qI x3), some (qI (w32 (x4 + (-1))))]) d_L_isStarving_144 (by decide) rfl rfl rfl ?_
        refine z_goto (tgt := 91) d_L_isStarving_147 rfl ?_
        refine z_mask [true, true, true, true, true] ?_
        exact ih _ _ _ _ _ hx2
def f_L_isStarving_156 (x1 : Int) (w : qMem) : Option (Int × qMem) :=
  if x1 ≤ 0 then
  some (0, w)
  else
  some (1, w)
set_option maxRecDepth 4000 in
theorem s_L_isStarving_156  : ∀ (x1 : Int) (w : qMem), qSim κI 100 100 m_L_isStarving 156 [] [none, some (qI x1), none, none, none] w (f_L_isStarving_156 x1 w) := by
  intro x1 w
  unfold f_L_isStarving_156
  refine z_iload_n d_L_isStarving_156 rfl ?_
  refine z_if_le (tgt := 164) d_L_isStarving_157 rfl (fun c20 => ?_) (fun c20 => ?_)
  · refine z_ic0 d_L_isStarving_164 ?_
    exact z_zret d_L_isStarving_165 rfl rfl (Or.inl rfl)
  · refine z_ic1 d_L_isStarving_160 ?_
    refine z_goto (tgt := 165) d_L_isStarving_161 rfl ?_
    exact z_zret d_L_isStarving_165 rfl rfl (Or.inr rfl)
def f_L_isStarving_70 : Nat → Int → Int → Int → qMem → Option (Int × qMem)
  | 0, _, _, _, _ => none
  | n + 1, x1, x2, x3, w =>
    if x3 ≤ 10125 then
    if x2 = 0 then
    f_L_isStarving_156 x1 w
    else
    f_L_isStarving_91 (f_L_isStarving_70 n) qFU x1 0 x3 (w32 ((w 81 13) - 1)) w
    else
    f_L_isStarving_156 x1 w
set_option maxRecDepth 4000 in
theorem s_L_isStarving_70  : ∀ (n : Nat), ∀ (x1 x2 x3 : Int) (w : qMem), (x2 = 0 ∨ x2 = 1) → qSim κI 100 100 m_L_isStarving 70 [] [some (qR 81), some (qI x1), some (qI x2), some (qI x3), none] w (f_L_isStarving_70 n x1 x2 x3 w) := by
  intro n
  induction n with
  | zero => intro x1 x2 x3 w hx2; exact z_none
  | succ n ih =>
    intro x1 x2 x3 w hx2
    rw [f_L_isStarving_70]
    refine z_iload_n d_L_isStarving_70 rfl ?_
    refine z_sipush d_L_isStarving_71 ⟨by decide, by decide⟩ ?_
    refine z_icmp_gt (tgt := 156) d_L_isStarving_74 rfl (fun c21 => ?_) (fun c21 => ?_)
    · refine z_iload_n d_L_isStarving_77 rfl ?_
      refine z_if_eq (tgt := 156) d_L_isStarving_78 rfl (fun c22 => ?_) (fun c22 => ?_)
      · refine z_mask [false, true, false, false, false] ?_
        exact s_L_isStarving_156 _ _
      · refine z_ic0 d_L_isStarving_81 ?_
        refine z_istore_n (pls' := [some (qR 81), some (qI x1), some (qI 0), some (qI x3), none]) d_L_isStarving_82 (by decide) rfl rfl ?_
        refine z_aload_n d_L_isStarving_83 rfl ?_
        refine z_gi (ci := 1) (j := 13) (ji := 13) d_L_isStarving_84 rfl fl_L_53 rfl rfl rfl ?_
        refine z_ic1 d_L_isStarving_87 ?_
        refine z_isub d_L_isStarving_88 ?_
        refine z_istore (pls' := [some (qR 81), some (qI x1), some (qI 0), some (qI x3), some (qI (w32 ((w 81 13) - 1)))]) d_L_isStarving_89 (by decide) rfl rfl ?_
        refine z_mask [true, true, true, true, true] ?_
        exact s_L_isStarving_91 ih _ _ _ _ _ _ (Or.inl rfl)
    · refine z_mask [false, true, false, false, false] ?_
      exact s_L_isStarving_156 _ _
def f_L_isStarving_66 (x1 : Int) (w : qMem) : Option (Int × qMem) :=
  f_L_isStarving_70 qFU x1 1 0 w
set_option maxRecDepth 4000 in
theorem s_L_isStarving_66  : ∀ (x1 : Int) (w : qMem), qSim κI 100 100 m_L_isStarving 66 [] [some (qR 81), some (qI x1), none, none, none] w (f_L_isStarving_66 x1 w) := by
  intro x1 w
  unfold f_L_isStarving_66
  refine z_ic1 d_L_isStarving_66 ?_
  refine z_istore_n (pls' := [some (qR 81), some (qI x1), some (qI 1), none, none]) d_L_isStarving_67 (by decide) rfl rfl ?_
  refine z_ic0 d_L_isStarving_68 ?_
  refine z_istore_n (pls' := [some (qR 81), some (qI x1), some (qI 1), some (qI 0), none]) d_L_isStarving_69 (by decide) rfl rfl ?_
  refine z_mask [true, true, true, true, false] ?_
  exact s_L_isStarving_70 _ _ _ _ _ (Or.inr rfl)
def f_L_isStarving_4 : Nat → Int → Int → qMem → Option (Int × qMem)
  | 0, _, _, _ => none
  | n + 1, x1, x2, w =>
    if x2 < (w 81 13) then
    if w 81 6 = 102 then
    qld w 102 10125 x2 fun v25 =>
    (f_L_open v25 w).bind fun q26 =>
    if q26 81 7 = 103 then
    if q26 81 6 = 102 then
    qld q26 102 10125 x2 fun v29 =>
    (f_L_ruleLets 0 q26).bind fun q30 =>
    if q30.1 = 0 then
    f_L_isStarving_45 (f_L_isStarving_4 n) v29 1 x1 x2 q30.2
    else
    f_L_isStarving_45 (f_L_isStarving_4 n) v29 0 x1 x2 q30.2
    else none
    else none
    else none
    else
    f_L_isStarving_66 x1 w
set_option maxRecDepth 4000 in
theorem s_L_isStarving_4  : ∀ (n : Nat), ∀ (x1 x2 : Int) (w : qMem), qSim κI 100 100 m_L_isStarving 4 [] [some (qR 81), some (qI x1), some (qI x2), none, none] w (f_L_isStarving_4 n x1 x2 w) := by
  intro n
  induction n with
  | zero => intro x1 x2 w; exact z_none
  | succ n ih =>
    intro x1 x2 w
    rw [f_L_isStarving_4]
    refine z_iload_n d_L_isStarving_4 rfl ?_
    refine z_aload_n d_L_isStarving_5 rfl ?_
    refine z_gi (ci := 1) (j := 13) (ji := 13) d_L_isStarving_6 rfl fl_L_53 rfl rfl rfl ?_
    refine z_icmp_ge (tgt := 66) d_L_isStarving_9 rfl (fun c23 => ?_) (fun c23 => ?_)
    · refine z_aload_n d_L_isStarving_12 rfl ?_
      refine z_aload_n d_L_isStarving_13 rfl ?_
      refine z_if (fun c24 => ?_) (fun _ => z_none)
      refine z_getd (ci := 1) (j := 6) (d := 102) (ji := 6) d_L_isStarving_14 rfl fl_L_31 rfl (by decide) rfl rfl c24 (by decide) ?_
      refine z_iload_n d_L_isStarving_17 rfl ?_
      refine z_il d_L_isStarving_18 rfl rfl (fun v25 => ?_)
      refine z_cVV (as := [qI v25]) (st := []) (nl := 1) (ci := 1) d_L_isStarving_19 lk_L_99 mk_L_open rfl rfl rfl rfl rfl rfl (s_L_open _ _) (fun q26 _ => ?_)
      refine z_aload_n d_L_isStarving_22 rfl ?_
      refine z_if (fun c27 => ?_) (fun _ => z_none)
      refine z_getd (ci := 1) (j := 7) (d := 103) (ji := 7) d_L_isStarving_23 rfl fl_L_34 rfl (by decide) rfl rfl c27 (by decide) ?_
      refine z_aload_n d_L_isStarving_26 rfl ?_
      refine z_if (fun c28 => ?_) (fun _ => z_none)
      refine z_getd (ci := 1) (j := 6) (d := 102) (ji := 6) d_L_isStarving_27 rfl fl_L_31 rfl (by decide) rfl rfl c28 (by decide) ?_
      refine z_iload_n d_L_isStarving_30 rfl ?_
      refine z_il d_L_isStarving_31 rfl rfl (fun v29 => ?_)
      refine z_aload_n d_L_isStarving_32 rfl ?_
      refine z_ic0 d_L_isStarving_33 ?_
      refine z_cVI (as := [qI 0]) (st := [qI v29, qR 103]) (nl := 1) (ci := 1) d_L_isStarving_34 lk_L_112 mk_L_ruleLets rfl rfl rfl rfl rfl rfl (s_L_ruleLets _ _) (fun q30 _ hq30 => ?_)
      refine z_if_eq (tgt := 44) d_L_isStarving_37 rfl (fun c31 => ?_) (fun c31 => ?_)
      · refine z_ic1 d_L_isStarving_44 ?_
        refine z_mask [true, true, true, false, false] ?_
        exact s_L_isStarving_45 ih _ _ _ _ _ (Or.inr rfl)
      · refine z_ic0 d_L_isStarving_40 ?_
        refine z_goto (tgt := 45) d_L_isStarving_41 rfl ?_
        refine z_mask [true, true, true, false, false] ?_
        exact s_L_isStarving_45 ih _ _ _ _ _ (Or.inl rfl)
    · refine z_mask [true, true, false, false, false] ?_
      exact s_L_isStarving_66 _ _
def f_L_isStarving (w : qMem) : Option (Int × qMem) :=
  f_L_isStarving_4 qFU 0 0 w
set_option maxRecDepth 4000 in
theorem s_L_isStarving (w : qMem) : qSim κI 100 100 m_L_isStarving 0 [] [some (qR 81), none, none, none, none] w (f_L_isStarving w) := by
  unfold f_L_isStarving
  refine z_ic0 d_L_isStarving_0 ?_
  refine z_istore_n (pls' := [some (qR 81), some (qI 0), none, none, none]) d_L_isStarving_1 (by decide) rfl rfl ?_
  refine z_ic0 d_L_isStarving_2 ?_
  refine z_istore_n (pls' := [some (qR 81), some (qI 0), some (qI 0), none, none]) d_L_isStarving_3 (by decide) rfl rfl ?_
  refine z_mask [true, true, true, false, false] ?_
  exact s_L_isStarving_4 _ _ _ _
