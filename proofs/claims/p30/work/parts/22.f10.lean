/-! BubbleTorusModel.finds -/
theorem d_M_finds_0 : decode m_M_finds.2.1 0 = .ok (.aload_n 0, 1) := by decide +kernel
theorem d_M_finds_1 : decode m_M_finds.2.1 1 = .ok (.getfield 32, 3) := by decide +kernel
theorem d_M_finds_4 : decode m_M_finds.2.1 4 = .ok (.iload_n 1, 1) := by decide +kernel
theorem d_M_finds_5 : decode m_M_finds.2.1 5 = .ok (.iaload, 1) := by decide +kernel
theorem d_M_finds_6 : decode m_M_finds.2.1 6 = .ok (.iconst (-1), 1) := by decide +kernel
theorem d_M_finds_7 : decode m_M_finds.2.1 7 = .ok (.if_icmp .eq 4, 3) := by decide +kernel
theorem d_M_finds_10 : decode m_M_finds.2.1 10 = .ok (.return_, 1) := by decide +kernel
theorem d_M_finds_11 : decode m_M_finds.2.1 11 = .ok (.aload_n 0, 1) := by decide +kernel
theorem d_M_finds_12 : decode m_M_finds.2.1 12 = .ok (.getfield 32, 3) := by decide +kernel
theorem d_M_finds_15 : decode m_M_finds.2.1 15 = .ok (.iload_n 1, 1) := by decide +kernel
theorem d_M_finds_16 : decode m_M_finds.2.1 16 = .ok (.iload_n 2, 1) := by decide +kernel
theorem d_M_finds_17 : decode m_M_finds.2.1 17 = .ok (.iastore, 1) := by decide +kernel
theorem d_M_finds_18 : decode m_M_finds.2.1 18 = .ok (.aload_n 0, 1) := by decide +kernel
theorem d_M_finds_19 : decode m_M_finds.2.1 19 = .ok (.getfield 35, 3) := by decide +kernel
theorem d_M_finds_22 : decode m_M_finds.2.1 22 = .ok (.aload_n 0, 1) := by decide +kernel
theorem d_M_finds_23 : decode m_M_finds.2.1 23 = .ok (.getfield 356, 3) := by decide +kernel
theorem d_M_finds_26 : decode m_M_finds.2.1 26 = .ok (.iload_n 1, 1) := by decide +kernel
theorem d_M_finds_27 : decode m_M_finds.2.1 27 = .ok (.iastore, 1) := by decide +kernel
theorem d_M_finds_28 : decode m_M_finds.2.1 28 = .ok (.aload_n 0, 1) := by decide +kernel
theorem d_M_finds_29 : decode m_M_finds.2.1 29 = .ok (.dup, 1) := by decide +kernel
theorem d_M_finds_30 : decode m_M_finds.2.1 30 = .ok (.getfield 356, 3) := by decide +kernel
theorem d_M_finds_33 : decode m_M_finds.2.1 33 = .ok (.iconst 1, 1) := by decide +kernel
theorem d_M_finds_34 : decode m_M_finds.2.1 34 = .ok (.iadd, 1) := by decide +kernel
theorem d_M_finds_35 : decode m_M_finds.2.1 35 = .ok (.putfield 356, 3) := by decide +kernel
theorem d_M_finds_38 : decode m_M_finds.2.1 38 = .ok (.return_, 1) := by decide +kernel
def f_M_finds (x1 : Int) (x2 : Int) (w : qMem) : Option (qMem) :=
  qld w 96 10240 x1 fun v1 =>
  if v1 = (-1) then
  qst w 96 10240 x1 x2 fun w3 =>
  qst w3 97 10240 (w3 88 19) x1 fun w4 =>
  qlt (qud w4 88 19 (w32 ((w4 88 19) + 1))) fun w5 =>
  some w5
  else
  some w
set_option maxRecDepth 4000 in
theorem s_M_finds (x1 : Int) (x2 : Int) (w : qMem) : qSim κV 100 100 m_M_finds 0 [] [some (qR 88), some (qI x1), some (qI x2)] w (f_M_finds x1 x2 w) := by
  unfold f_M_finds
  refine z_aload_n d_M_finds_0 rfl ?_
  refine z_gr (ci := 10) (j := 17) (d := 8) (o2 := 96) d_M_finds_1 rfl fl_M_32 rfl (Nat.le_of_ble_eq_true rfl) rfl rfl ?_
  refine z_iload_n d_M_finds_4 rfl ?_
  refine z_il d_M_finds_5 rfl rfl (fun v1 => ?_)
  refine z_icm1 d_M_finds_6 ?_
  refine z_icmp_eq (tgt := 11) d_M_finds_7 rfl (fun c2 => ?_) (fun c2 => ?_)
  · refine z_aload_n d_M_finds_11 rfl ?_
    refine z_gr (ci := 10) (j := 17) (d := 8) (o2 := 96) d_M_finds_12 rfl fl_M_32 rfl (Nat.le_of_ble_eq_true rfl) rfl rfl ?_
    refine z_iload_n d_M_finds_15 rfl ?_
    refine z_iload_n d_M_finds_16 rfl ?_
    refine z_is d_M_finds_17 rfl rfl (fun w3 => ?_)
    refine z_aload_n d_M_finds_18 rfl ?_
    refine z_gr (ci := 10) (j := 18) (d := 9) (o2 := 97) d_M_finds_19 rfl fl_M_35 rfl (Nat.le_of_ble_eq_true rfl) rfl rfl ?_
    refine z_aload_n d_M_finds_22 rfl ?_
    refine z_gi (ci := 10) (j := 19) (ji := 19) d_M_finds_23 rfl fl_M_356 rfl rfl rfl ?_
    refine z_iload_n d_M_finds_26 rfl ?_
    refine z_is d_M_finds_27 rfl rfl (fun w4 => ?_)
    refine z_aload_n d_M_finds_28 rfl ?_
    refine z_dup d_M_finds_29 rfl ?_
    refine z_gi (ci := 10) (j := 19) (ji := 19) d_M_finds_30 rfl fl_M_356 rfl rfl rfl ?_
    refine z_ic1 d_M_finds_33 ?_
    refine z_iadd d_M_finds_34 ?_
    refine z_pi (ci := 10) (j := 19) (ji := 19) d_M_finds_35 rfl fl_M_356 rfl rfl rfl rfl rfl (fun w5 => ?_)
    exact z_vret d_M_finds_38 rfl rfl
  · exact z_vret d_M_finds_10 rfl rfl
/-! BubbleTorusModel.searches -/
theorem d_M_searches_0 : decode m_M_searches.2.1 0 = .ok (.iconst 0, 1) := by decide +kernel
theorem d_M_searches_1 : decode m_M_searches.2.1 1 = .ok (.istore_n 1, 1) := by decide +kernel
theorem d_M_searches_2 : decode m_M_searches.2.1 2 = .ok (.iload_n 1, 1) := by decide +kernel
theorem d_M_searches_3 : decode m_M_searches.2.1 3 = .ok (.sipush 10240, 3) := by decide +kernel
theorem d_M_searches_6 : decode m_M_searches.2.1 6 = .ok (.if_icmp .ge 16, 3) := by decide +kernel
theorem d_M_searches_9 : decode m_M_searches.2.1 9 = .ok (.aload_n 0, 1) := by decide +kernel
theorem d_M_searches_10 : decode m_M_searches.2.1 10 = .ok (.getfield 32, 3) := by decide +kernel
theorem d_M_searches_13 : decode m_M_searches.2.1 13 = .ok (.iload_n 1, 1) := by decide +kernel
theorem d_M_searches_14 : decode m_M_searches.2.1 14 = .ok (.iconst (-1), 1) := by decide +kernel
theorem d_M_searches_15 : decode m_M_searches.2.1 15 = .ok (.iastore, 1) := by decide +kernel
theorem d_M_searches_16 : decode m_M_searches.2.1 16 = .ok (.iinc 1 1, 3) := by decide +kernel
theorem d_M_searches_19 : decode m_M_searches.2.1 19 = .ok (.goto (-17), 3) := by decide +kernel
theorem d_M_searches_22 : decode m_M_searches.2.1 22 = .ok (.aload_n 0, 1) := by decide +kernel
theorem d_M_searches_23 : decode m_M_searches.2.1 23 = .ok (.iconst 0, 1) := by decide +kernel
theorem d_M_searches_24 : decode m_M_searches.2.1 24 = .ok (.putfield 356, 3) := by decide +kernel
theorem d_M_searches_27 : decode m_M_searches.2.1 27 = .ok (.aload_n 0, 1) := by decide +kernel
theorem d_M_searches_28 : decode m_M_searches.2.1 28 = .ok (.iconst 0, 1) := by decide +kernel
theorem d_M_searches_29 : decode m_M_searches.2.1 29 = .ok (.iconst 0, 1) := by decide +kernel
theorem d_M_searches_30 : decode m_M_searches.2.1 30 = .ok (.invokevirtual 359, 3) := by decide +kernel
theorem d_M_searches_33 : decode m_M_searches.2.1 33 = .ok (.iconst 0, 1) := by decide +kernel
theorem d_M_searches_34 : decode m_M_searches.2.1 34 = .ok (.istore_n 1, 1) := by decide +kernel
theorem d_M_searches_35 : decode m_M_searches.2.1 35 = .ok (.iload_n 1, 1) := by decide +kernel
theorem d_M_searches_36 : decode m_M_searches.2.1 36 = .ok (.aload_n 0, 1) := by decide +kernel
theorem d_M_searches_37 : decode m_M_searches.2.1 37 = .ok (.getfield 356, 3) := by decide +kernel
theorem d_M_searches_40 : decode m_M_searches.2.1 40 = .ok (.if_icmp .ge 79, 3) := by decide +kernel
theorem d_M_searches_43 : decode m_M_searches.2.1 43 = .ok (.aload_n 0, 1) := by decide +kernel
theorem d_M_searches_44 : decode m_M_searches.2.1 44 = .ok (.getfield 35, 3) := by decide +kernel
theorem d_M_searches_47 : decode m_M_searches.2.1 47 = .ok (.iload_n 1, 1) := by decide +kernel
theorem d_M_searches_48 : decode m_M_searches.2.1 48 = .ok (.iaload, 1) := by decide +kernel
theorem d_M_searches_49 : decode m_M_searches.2.1 49 = .ok (.istore_n 2, 1) := by decide +kernel
theorem d_M_searches_50 : decode m_M_searches.2.1 50 = .ok (.aload_n 0, 1) := by decide +kernel
theorem d_M_searches_51 : decode m_M_searches.2.1 51 = .ok (.iload_n 2, 1) := by decide +kernel
theorem d_M_searches_52 : decode m_M_searches.2.1 52 = .ok (.invokevirtual 362, 3) := by decide +kernel
theorem d_M_searches_55 : decode m_M_searches.2.1 55 = .ok (.iconst 0, 1) := by decide +kernel
theorem d_M_searches_56 : decode m_M_searches.2.1 56 = .ok (.istore_n 3, 1) := by decide +kernel
theorem d_M_searches_57 : decode m_M_searches.2.1 57 = .ok (.iload_n 3, 1) := by decide +kernel
theorem d_M_searches_58 : decode m_M_searches.2.1 58 = .ok (.aload_n 0, 1) := by decide +kernel
theorem d_M_searches_59 : decode m_M_searches.2.1 59 = .ok (.getfield 335, 3) := by decide +kernel
theorem d_M_searches_62 : decode m_M_searches.2.1 62 = .ok (.if_icmp .ge 27, 3) := by decide +kernel
theorem d_M_searches_65 : decode m_M_searches.2.1 65 = .ok (.aload_n 0, 1) := by decide +kernel
theorem d_M_searches_66 : decode m_M_searches.2.1 66 = .ok (.aload_n 0, 1) := by decide +kernel
theorem d_M_searches_67 : decode m_M_searches.2.1 67 = .ok (.getfield 47, 3) := by decide +kernel
theorem d_M_searches_70 : decode m_M_searches.2.1 70 = .ok (.iload_n 3, 1) := by decide +kernel
theorem d_M_searches_71 : decode m_M_searches.2.1 71 = .ok (.iaload, 1) := by decide +kernel
theorem d_M_searches_72 : decode m_M_searches.2.1 72 = .ok (.aload_n 0, 1) := by decide +kernel
theorem d_M_searches_73 : decode m_M_searches.2.1 73 = .ok (.getfield 32, 3) := by decide +kernel
theorem d_M_searches_76 : decode m_M_searches.2.1 76 = .ok (.iload_n 2, 1) := by decide +kernel
theorem d_M_searches_77 : decode m_M_searches.2.1 77 = .ok (.iaload, 1) := by decide +kernel
theorem d_M_searches_78 : decode m_M_searches.2.1 78 = .ok (.iconst 1, 1) := by decide +kernel
theorem d_M_searches_79 : decode m_M_searches.2.1 79 = .ok (.iadd, 1) := by decide +kernel
theorem d_M_searches_80 : decode m_M_searches.2.1 80 = .ok (.invokevirtual 359, 3) := by decide +kernel
theorem d_M_searches_83 : decode m_M_searches.2.1 83 = .ok (.iinc 3 1, 3) := by decide +kernel
theorem d_M_searches_86 : decode m_M_searches.2.1 86 = .ok (.goto (-29), 3) := by decide +kernel
theorem d_M_searches_89 : decode m_M_searches.2.1 89 = .ok (.aload_n 0, 1) := by decide +kernel
theorem d_M_searches_90 : decode m_M_searches.2.1 90 = .ok (.iload_n 2, 1) := by decide +kernel
theorem d_M_searches_91 : decode m_M_searches.2.1 91 = .ok (.invokevirtual 332, 3) := by decide +kernel
theorem d_M_searches_94 : decode m_M_searches.2.1 94 = .ok (.aload_n 0, 1) := by decide +kernel
theorem d_M_searches_95 : decode m_M_searches.2.1 95 = .ok (.getfield 38, 3) := by decide +kernel
theorem d_M_searches_98 : decode m_M_searches.2.1 98 = .ok (.iload_n 2, 1) := by decide +kernel
theorem d_M_searches_99 : decode m_M_searches.2.1 99 = .ok (.aload_n 0, 1) := by decide +kernel
theorem d_M_searches_100 : decode m_M_searches.2.1 100 = .ok (.iconst 0, 1) := by decide +kernel
theorem d_M_searches_101 : decode m_M_searches.2.1 101 = .ok (.invokevirtual 353, 3) := by decide +kernel
theorem d_M_searches_104 : decode m_M_searches.2.1 104 = .ok (.ifCond .ne 7, 3) := by decide +kernel
theorem d_M_searches_107 : decode m_M_searches.2.1 107 = .ok (.iconst 1, 1) := by decide +kernel
theorem d_M_searches_108 : decode m_M_searches.2.1 108 = .ok (.goto 4, 3) := by decide +kernel
theorem d_M_searches_111 : decode m_M_searches.2.1 111 = .ok (.iconst 0, 1) := by decide +kernel
theorem d_M_searches_112 : decode m_M_searches.2.1 112 = .ok (.bastore, 1) := by decide +kernel
theorem d_M_searches_113 : decode m_M_searches.2.1 113 = .ok (.iinc 1 1, 3) := by decide +kernel
theorem d_M_searches_116 : decode m_M_searches.2.1 116 = .ok (.goto (-81), 3) := by decide +kernel
theorem d_M_searches_119 : decode m_M_searches.2.1 119 = .ok (.return_, 1) := by decide +kernel
def f_M_searches_112 (r35 : Int → qMem → Option (qMem)) (s1 s2 x1 : Int) (w : qMem) : Option (qMem) :=
  qstz w 98 10240 s1 s2 fun w1 =>
  r35 (w32 (x1 + 1)) w1
set_option maxRecDepth 4000 in
theorem s_M_searches_112  {r35 : Int → qMem → Option (qMem)} (hr35 : ∀ x1 w, qSim κV 100 100 m_M_searches 35 [] [some (qR 88), some (qI x1), none, none] w (r35 x1 w)) : ∀ (s1 s2 x1 : Int) (w : qMem), (s2 = 0 ∨ s2 = 1) → qSim κV 100 100 m_M_searches 112 [qI s2, qI s1, qR 98] [some (qR 88), some (qI x1), none, none] w (f_M_searches_112 r35 s1 s2 x1 w) := by
  intro s1 s2 x1 w hs2
  unfold f_M_searches_112
  refine z_zs d_M_searches_112 rfl rfl (fun w1 => ?_)
  refine z_iinc (pls' := [some (qR 88), some (qI (w32 (x1 + 1))), none, none]) d_M_searches_113 (by decide) rfl rfl rfl ?_
  refine z_goto (tgt := 35) d_M_searches_116 rfl ?_
  refine z_mask [true, true, false, false] ?_
  exact hr35 _ _
def f_M_searches_89 (r35 : Int → qMem → Option (qMem)) (x1 x2 : Int) (w : qMem) : Option (qMem) :=
  (f_M_opens x2 w).bind fun q2 =>
  (f_M_mayEnter 0 q2).bind fun q3 =>
  if q3.1 = 0 then
  f_M_searches_112 r35 x2 1 x1 q3.2
  else
  f_M_searches_112 r35 x2 0 x1 q3.2
set_option maxRecDepth 4000 in
theorem s_M_searches_89  {r35 : Int → qMem → Option (qMem)} (hr35 : ∀ x1 w, qSim κV 100 100 m_M_searches 35 [] [some (qR 88), some (qI x1), none, none] w (r35 x1 w)) : ∀ (x1 x2 : Int) (w : qMem), qSim κV 100 100 m_M_searches 89 [] [some (qR 88), some (qI x1), some (qI x2), none] w (f_M_searches_89 r35 x1 x2 w) := by
  intro x1 x2 w
  unfold f_M_searches_89
  refine z_aload_n d_M_searches_89 rfl ?_
  refine z_iload_n d_M_searches_90 rfl ?_
  refine z_cVV (as := [qI x2]) (st := []) (nl := 2) (ci := 10) d_M_searches_91 lk_M_332 mk_M_opens rfl rfl rfl rfl rfl rfl (s_M_opens _ _) (fun q2 _ => ?_)
  refine z_aload_n d_M_searches_94 rfl ?_
  refine z_gr (ci := 10) (j := 20) (d := 10) (o2 := 98) d_M_searches_95 rfl fl_M_38 rfl (Nat.le_of_ble_eq_true rfl) rfl rfl ?_
  refine z_iload_n d_M_searches_98 rfl ?_
  refine z_aload_n d_M_searches_99 rfl ?_
  refine z_ic0 d_M_searches_100 ?_
  refine z_cVI (as := [qI 0]) (st := [qI x2, qR 98]) (nl := 1) (ci := 10) d_M_searches_101 lk_M_353 mk_M_mayEnter rfl rfl rfl rfl rfl rfl (s_M_mayEnter _ _) (fun q3 _ hq3 => ?_)
  refine z_if_ne (tgt := 111) d_M_searches_104 rfl (fun c4 => ?_) (fun c4 => ?_)
  · refine z_ic1 d_M_searches_107 ?_
    refine z_goto (tgt := 112) d_M_searches_108 rfl ?_
    refine z_mask [true, true, false, false] ?_
    exact s_M_searches_112 hr35 _ _ _ _ (Or.inr rfl)
  · refine z_ic0 d_M_searches_111 ?_
    refine z_mask [true, true, false, false] ?_
    exact s_M_searches_112 hr35 _ _ _ _ (Or.inl rfl)
def f_M_searches_57 (r35 : Int → qMem → Option (qMem)) : Nat → Int → Int → Int → qMem → Option (qMem)
  | 0, _, _, _, _ => none
  | n + 1, x1, x2, x3, w =>
    if x3 < (w 88 24) then
    qld w 101 24 x3 fun v6 =>
    qld w 96 10240 x2 fun v7 =>
    (f_M_finds v6 (w32 (v7 + 1)) w).bind fun q8 =>
    (f_M_searches_57 r35 n) x1 x2 (w32 (x3 + 1)) q8
    else
    f_M_searches_89 r35 x1 x2 w
set_option maxRecDepth 4000 in
theorem s_M_searches_57  {r35 : Int → qMem → Option (qMem)} (hr35 : ∀ x1 w, qSim κV 100 100 m_M_searches 35 [] [some (qR 88), some (qI x1), none, none] w (r35 x1 w)) : ∀ (n : Nat), ∀ (x1 x2 x3 : Int) (w : qMem), qSim κV 100 100 m_M_searches 57 [] [some (qR 88), some (qI x1), some (qI x2), some (qI x3)] w (f_M_searches_57 r35 n x1 x2 x3 w) := by
  intro n
  induction n with
  | zero => intro x1 x2 x3 w; exact z_none
  | succ n ih =>
    intro x1 x2 x3 w
    rw [f_M_searches_57]
    refine z_iload_n d_M_searches_57 rfl ?_
    refine z_aload_n d_M_searches_58 rfl ?_
    refine z_gi (ci := 10) (j := 24) (ji := 24) d_M_searches_59 rfl fl_M_335 rfl rfl rfl ?_
    refine z_icmp_ge (tgt := 89) d_M_searches_62 rfl (fun c5 => ?_) (fun c5 => ?_)
    · refine z_aload_n d_M_searches_65 rfl ?_
      refine z_aload_n d_M_searches_66 rfl ?_
      refine z_gr (ci := 10) (j := 23) (d := 13) (o2 := 101) d_M_searches_67 rfl fl_M_47 rfl (Nat.le_of_ble_eq_true rfl) rfl rfl ?_
      refine z_iload_n d_M_searches_70 rfl ?_
      refine z_il d_M_searches_71 rfl rfl (fun v6 => ?_)
      refine z_aload_n d_M_searches_72 rfl ?_
      refine z_gr (ci := 10) (j := 17) (d := 8) (o2 := 96) d_M_searches_73 rfl fl_M_32 rfl (Nat.le_of_ble_eq_true rfl) rfl rfl ?_
      refine z_iload_n d_M_searches_76 rfl ?_
      refine z_il d_M_searches_77 rfl rfl (fun v7 => ?_)
      refine z_ic1 d_M_searches_78 ?_
      refine z_iadd d_M_searches_79 ?_
      refine z_cVV (as := [qI v6, qI (w32 (v7 + 1))]) (st := []) (nl := 0) (ci := 10) d_M_searches_80 lk_M_359 mk_M_finds rfl rfl rfl rfl rfl rfl (s_M_finds _ _ _) (fun q8 _ => ?_)
      refine z_iinc (pls' := [some (qR 88), some (qI x1), some (qI x2), some (qI (w32 (x3 + 1)))]) d_M_searches_83 (by decide) rfl rfl rfl ?_
      refine z_goto (tgt := 57) d_M_searches_86 rfl ?_
      refine z_mask [true, true, true, true] ?_
      exact ih _ _ _ _
    · refine z_mask [true, true, true, false] ?_
      exact s_M_searches_89 hr35 _ _ _
def f_M_searches_35 : Nat → Int → qMem → Option (qMem)
  | 0, _, _ => none
  | n + 1, x1, w =>
    if x1 < (w 88 19) then
    qld w 97 10240 x1 fun v10 =>
    (f_M_laysAfter v10 w).bind fun q11 =>
    f_M_searches_57 (f_M_searches_35 n) qFU x1 v10 0 q11
    else
    some w
set_option maxRecDepth 4000 in
theorem s_M_searches_35  : ∀ (n : Nat), ∀ (x1 : Int) (w : qMem), qSim κV 100 100 m_M_searches 35 [] [some (qR 88), some (qI x1), none, none] w (f_M_searches_35 n x1 w) := by
  intro n
  induction n with
  | zero => intro x1 w; exact z_none
  | succ n ih =>
    intro x1 w
    rw [f_M_searches_35]
    refine z_iload_n d_M_searches_35 rfl ?_
    refine z_aload_n d_M_searches_36 rfl ?_
    refine z_gi (ci := 10) (j := 19) (ji := 19) d_M_searches_37 rfl fl_M_356 rfl rfl rfl ?_
    refine z_icmp_ge (tgt := 119) d_M_searches_40 rfl (fun c9 => ?_) (fun c9 => ?_)
    · refine z_aload_n d_M_searches_43 rfl ?_
      refine z_gr (ci := 10) (j := 18) (d := 9) (o2 := 97) d_M_searches_44 rfl fl_M_35 rfl (Nat.le_of_ble_eq_true rfl) rfl rfl ?_
      refine z_iload_n d_M_searches_47 rfl ?_
      refine z_il d_M_searches_48 rfl rfl (fun v10 => ?_)
      refine z_istore_n (pls' := [some (qR 88), some (qI x1), some (qI v10), none]) d_M_searches_49 (by decide) rfl rfl ?_
      refine z_aload_n d_M_searches_50 rfl ?_
      refine z_iload_n d_M_searches_51 rfl ?_
      refine z_cVV (as := [qI v10]) (st := []) (nl := 4) (ci := 10) d_M_searches_52 lk_M_362 mk_M_laysAfter rfl rfl rfl rfl rfl rfl (s_M_laysAfter _ _) (fun q11 _ => ?_)
      refine z_ic0 d_M_searches_55 ?_
      refine z_istore_n (pls' := [some (qR 88), some (qI x1), some (qI v10), some (qI 0)]) d_M_searches_56 (by decide) rfl rfl ?_
      refine z_mask [true, true, true, true] ?_
      exact s_M_searches_57 ih _ _ _ _ _
    · exact z_vret d_M_searches_119 rfl rfl
def f_M_searches_22 (w : qMem) : Option (qMem) :=
  qlt (qud w 88 19 0) fun w12 =>
  (f_M_finds 0 0 w12).bind fun q13 =>
  f_M_searches_35 qFU 0 q13
set_option maxRecDepth 4000 in
theorem s_M_searches_22  : ∀ (w : qMem), qSim κV 100 100 m_M_searches 22 [] [some (qR 88), none, none, none] w (f_M_searches_22 w) := by
  intro w
  unfold f_M_searches_22
  refine z_aload_n d_M_searches_22 rfl ?_
  refine z_ic0 d_M_searches_23 ?_
  refine z_pi (ci := 10) (j := 19) (ji := 19) d_M_searches_24 rfl fl_M_356 rfl rfl rfl rfl rfl (fun w12 => ?_)
  refine z_aload_n d_M_searches_27 rfl ?_
  refine z_ic0 d_M_searches_28 ?_
  refine z_ic0 d_M_searches_29 ?_
  refine z_cVV (as := [qI 0, qI 0]) (st := []) (nl := 0) (ci := 10) d_M_searches_30 lk_M_359 mk_M_finds rfl rfl rfl rfl rfl rfl (s_M_finds _ _ _) (fun q13 _ => ?_)
  refine z_ic0 d_M_searches_33 ?_
  refine z_istore_n (pls' := [some (qR 88), some (qI 0), none, none]) d_M_searches_34 (by decide) rfl rfl ?_
  refine z_mask [true, true, false, false] ?_
  exact s_M_searches_35 _ _ _
def f_M_searches_2 : Nat → Int → qMem → Option (qMem)
  | 0, _, _ => none
  | n + 1, x1, w =>
    if x1 < 10240 then
    qst w 96 10240 x1 (-1) fun w15 =>
    (f_M_searches_2 n) (w32 (x1 + 1)) w15
    else
    f_M_searches_22 w
set_option maxRecDepth 4000 in
theorem s_M_searches_2  : ∀ (n : Nat), ∀ (x1 : Int) (w : qMem), qSim κV 100 100 m_M_searches 2 [] [some (qR 88), some (qI x1), none, none] w (f_M_searches_2 n x1 w) := by
  intro n
  induction n with
  | zero => intro x1 w; exact z_none
  | succ n ih =>
    intro x1 w
    rw [f_M_searches_2]
    refine z_iload_n d_M_searches_2 rfl ?_
    refine z_sipush d_M_searches_3 ⟨by decide, by decide⟩ ?_
    refine z_icmp_ge (tgt := 22) d_M_searches_6 rfl (fun c14 => ?_) (fun c14 => ?_)
    · refine z_aload_n d_M_searches_9 rfl ?_
      refine z_gr (ci := 10) (j := 17) (d := 8) (o2 := 96) d_M_searches_10 rfl fl_M_32 rfl (Nat.le_of_ble_eq_true rfl) rfl rfl ?_
      refine z_iload_n d_M_searches_13 rfl ?_
      refine z_icm1 d_M_searches_14 ?_
      refine z_is d_M_searches_15 rfl rfl (fun w15 => ?_)
      refine z_iinc (pls' := [some (qR 88), some (qI (w32 (x1 + 1))), none, none]) d_M_searches_16 (by decide) rfl rfl rfl ?_
      refine z_goto (tgt := 2) d_M_searches_19 rfl ?_
      refine z_mask [true, true, false, false] ?_
      exact ih _ _
    · refine z_mask [true, false, false, false] ?_
      exact s_M_searches_22 _
def f_M_searches (w : qMem) : Option (qMem) :=
  f_M_searches_2 qFU 0 w
set_option maxRecDepth 4000 in
theorem s_M_searches (w : qMem) : qSim κV 100 100 m_M_searches 0 [] [some (qR 88), none, none, none] w (f_M_searches w) := by
  unfold f_M_searches
  refine z_ic0 d_M_searches_0 ?_
  refine z_istore_n (pls' := [some (qR 88), some (qI 0), none, none]) d_M_searches_1 (by decide) rfl rfl ?_
  refine z_mask [true, true, false, false] ?_
  exact s_M_searches_2 _ _ _
/-! BubbleTorusModel.packetsIn -/
theorem d_M_packetsIn_0 : decode m_M_packetsIn.2.1 0 = .ok (.iconst 0, 1) := by decide +kernel
theorem d_M_packetsIn_1 : decode m_M_packetsIn.2.1 1 = .ok (.istore_n 1, 1) := by decide +kernel
theorem d_M_packetsIn_2 : decode m_M_packetsIn.2.1 2 = .ok (.iconst 0, 1) := by decide +kernel
theorem d_M_packetsIn_3 : decode m_M_packetsIn.2.1 3 = .ok (.istore_n 2, 1) := by decide +kernel
theorem d_M_packetsIn_4 : decode m_M_packetsIn.2.1 4 = .ok (.iload_n 2, 1) := by decide +kernel
theorem d_M_packetsIn_5 : decode m_M_packetsIn.2.1 5 = .ok (.aload_n 0, 1) := by decide +kernel
theorem d_M_packetsIn_6 : decode m_M_packetsIn.2.1 6 = .ok (.getfield 317, 3) := by decide +kernel
theorem d_M_packetsIn_9 : decode m_M_packetsIn.2.1 9 = .ok (.if_icmp .ge 22, 3) := by decide +kernel
theorem d_M_packetsIn_12 : decode m_M_packetsIn.2.1 12 = .ok (.iload_n 1, 1) := by decide +kernel
theorem d_M_packetsIn_13 : decode m_M_packetsIn.2.1 13 = .ok (.aload_n 0, 1) := by decide +kernel
theorem d_M_packetsIn_14 : decode m_M_packetsIn.2.1 14 = .ok (.aload_n 0, 1) := by decide +kernel
theorem d_M_packetsIn_15 : decode m_M_packetsIn.2.1 15 = .ok (.getfield 29, 3) := by decide +kernel
theorem d_M_packetsIn_18 : decode m_M_packetsIn.2.1 18 = .ok (.iload_n 2, 1) := by decide +kernel
theorem d_M_packetsIn_19 : decode m_M_packetsIn.2.1 19 = .ok (.iaload, 1) := by decide +kernel
theorem d_M_packetsIn_20 : decode m_M_packetsIn.2.1 20 = .ok (.invokevirtual 305, 3) := by decide +kernel
theorem d_M_packetsIn_23 : decode m_M_packetsIn.2.1 23 = .ok (.iadd, 1) := by decide +kernel
theorem d_M_packetsIn_24 : decode m_M_packetsIn.2.1 24 = .ok (.istore_n 1, 1) := by decide +kernel
theorem d_M_packetsIn_25 : decode m_M_packetsIn.2.1 25 = .ok (.iinc 2 1, 3) := by decide +kernel
theorem d_M_packetsIn_28 : decode m_M_packetsIn.2.1 28 = .ok (.goto (-24), 3) := by decide +kernel
theorem d_M_packetsIn_31 : decode m_M_packetsIn.2.1 31 = .ok (.iload_n 1, 1) := by decide +kernel
theorem d_M_packetsIn_32 : decode m_M_packetsIn.2.1 32 = .ok (.ireturn, 1) := by decide +kernel
def f_M_packetsIn_4 : Nat → Int → Int → qMem → Option (Int × qMem)
  | 0, _, _, _ => none
  | n + 1, x1, x2, w =>
    if x2 < (w 88 10) then
    qld w 95 4 x2 fun v2 =>
    (f_M_longQueue v2 w).bind fun q3 =>
    (f_M_packetsIn_4 n) (w32 (x1 + q3.1)) (w32 (x2 + 1)) q3.2
    else
    some (x1, w)
set_option maxRecDepth 4000 in
theorem s_M_packetsIn_4  : ∀ (n : Nat), ∀ (x1 x2 : Int) (w : qMem), qSim κI 100 100 m_M_packetsIn 4 [] [some (qR 88), some (qI x1), some (qI x2)] w (f_M_packetsIn_4 n x1 x2 w) := by
  intro n
  induction n with
  | zero => intro x1 x2 w; exact z_none
  | succ n ih =>
    intro x1 x2 w
    rw [f_M_packetsIn_4]
    refine z_iload_n d_M_packetsIn_4 rfl ?_
    refine z_aload_n d_M_packetsIn_5 rfl ?_
    refine z_gi (ci := 10) (j := 10) (ji := 10) d_M_packetsIn_6 rfl fl_M_317 rfl rfl rfl ?_
    refine z_icmp_ge (tgt := 31) d_M_packetsIn_9 rfl (fun c1 => ?_) (fun c1 => ?_)
    · refine z_iload_n d_M_packetsIn_12 rfl ?_
      refine z_aload_n d_M_packetsIn_13 rfl ?_
      refine z_aload_n d_M_packetsIn_14 rfl ?_
      refine z_gr (ci := 10) (j := 15) (d := 7) (o2 := 95) d_M_packetsIn_15 rfl fl_M_29 rfl (Nat.le_of_ble_eq_true rfl) rfl rfl ?_
      refine z_iload_n d_M_packetsIn_18 rfl ?_
      refine z_il d_M_packetsIn_19 rfl rfl (fun v2 => ?_)
      refine z_cVI (as := [qI v2]) (st := [qI x1]) (nl := 3) (ci := 10) d_M_packetsIn_20 lk_M_305 mk_M_longQueue rfl rfl rfl rfl rfl rfl (s_M_longQueue _ _) (fun q3 _ hq3 => ?_)
      refine z_iadd d_M_packetsIn_23 ?_
      refine z_istore_n (pls' := [some (qR 88), some (qI (w32 (x1 + q3.1))), some (qI x2)]) d_M_packetsIn_24 (by decide) rfl rfl ?_
      refine z_iinc (pls' := [some (qR 88), some (qI (w32 (x1 + q3.1))), some (qI (w32 (x2 + 1)))]) d_M_packetsIn_25 (by decide) rfl rfl rfl ?_
      refine z_goto (tgt := 4) d_M_packetsIn_28 rfl ?_
      refine z_mask [true, true, true] ?_
      exact ih _ _ _
    · refine z_iload_n d_M_packetsIn_31 rfl ?_
      exact z_iret d_M_packetsIn_32 rfl rfl
def f_M_packetsIn (w : qMem) : Option (Int × qMem) :=
  f_M_packetsIn_4 qFU 0 0 w
set_option maxRecDepth 4000 in
theorem s_M_packetsIn (w : qMem) : qSim κI 100 100 m_M_packetsIn 0 [] [some (qR 88), none, none] w (f_M_packetsIn w) := by
  unfold f_M_packetsIn
  refine z_ic0 d_M_packetsIn_0 ?_
  refine z_istore_n (pls' := [some (qR 88), some (qI 0), none]) d_M_packetsIn_1 (by decide) rfl rfl ?_
  refine z_ic0 d_M_packetsIn_2 ?_
  refine z_istore_n (pls' := [some (qR 88), some (qI 0), some (qI 0)]) d_M_packetsIn_3 (by decide) rfl rfl ?_
  refine z_mask [true, true, true] ?_
  exact s_M_packetsIn_4 _ _ _ _
/-! BubbleTorusModel.isDeadState -/
theorem d_M_isDeadState_0 : decode m_M_isDeadState.2.1 0 = .ok (.aload_n 0, 1) := by decide +kernel
theorem d_M_isDeadState_1 : decode m_M_isDeadState.2.1 1 = .ok (.iload_n 1, 1) := by decide +kernel
theorem d_M_isDeadState_2 : decode m_M_isDeadState.2.1 2 = .ok (.invokevirtual 362, 3) := by decide +kernel
theorem d_M_isDeadState_5 : decode m_M_isDeadState.2.1 5 = .ok (.aload_n 0, 1) := by decide +kernel
theorem d_M_isDeadState_6 : decode m_M_isDeadState.2.1 6 = .ok (.iload_n 1, 1) := by decide +kernel
theorem d_M_isDeadState_7 : decode m_M_isDeadState.2.1 7 = .ok (.invokevirtual 332, 3) := by decide +kernel
theorem d_M_isDeadState_10 : decode m_M_isDeadState.2.1 10 = .ok (.aload_n 0, 1) := by decide +kernel
theorem d_M_isDeadState_11 : decode m_M_isDeadState.2.1 11 = .ok (.invokevirtual 365, 3) := by decide +kernel
theorem d_M_isDeadState_14 : decode m_M_isDeadState.2.1 14 = .ok (.ifCond .le 14, 3) := by decide +kernel
theorem d_M_isDeadState_17 : decode m_M_isDeadState.2.1 17 = .ok (.aload_n 0, 1) := by decide +kernel
theorem d_M_isDeadState_18 : decode m_M_isDeadState.2.1 18 = .ok (.getfield 350, 3) := by decide +kernel
theorem d_M_isDeadState_21 : decode m_M_isDeadState.2.1 21 = .ok (.ifCond .ne 7, 3) := by decide +kernel
theorem d_M_isDeadState_24 : decode m_M_isDeadState.2.1 24 = .ok (.iconst 1, 1) := by decide +kernel
theorem d_M_isDeadState_25 : decode m_M_isDeadState.2.1 25 = .ok (.goto 4, 3) := by decide +kernel
theorem d_M_isDeadState_28 : decode m_M_isDeadState.2.1 28 = .ok (.iconst 0, 1) := by decide +kernel
theorem d_M_isDeadState_29 : decode m_M_isDeadState.2.1 29 = .ok (.ireturn, 1) := by decide +kernel
def f_M_isDeadState (x1 : Int) (w : qMem) : Option (Int × qMem) :=
  (f_M_laysAfter x1 w).bind fun q1 =>
  (f_M_opens x1 q1).bind fun q2 =>
  (f_M_packetsIn q2).bind fun q3 =>
  if q3.1 ≤ 0 then
  some (0, q3.2)
  else
  if (q3.2 88 25) = 0 then
  some (1, q3.2)
  else
  some (0, q3.2)
set_option maxRecDepth 4000 in
theorem s_M_isDeadState (x1 : Int) (w : qMem) : qSim κI 100 100 m_M_isDeadState 0 [] [some (qR 88), some (qI x1)] w (f_M_isDeadState x1 w) := by
  unfold f_M_isDeadState
  refine z_aload_n d_M_isDeadState_0 rfl ?_
  refine z_iload_n d_M_isDeadState_1 rfl ?_
  refine z_cVV (as := [qI x1]) (st := []) (nl := 4) (ci := 10) d_M_isDeadState_2 lk_M_362 mk_M_laysAfter rfl rfl rfl rfl rfl rfl (s_M_laysAfter _ _) (fun q1 _ => ?_)
  refine z_aload_n d_M_isDeadState_5 rfl ?_
  refine z_iload_n d_M_isDeadState_6 rfl ?_
  refine z_cVV (as := [qI x1]) (st := []) (nl := 2) (ci := 10) d_M_isDeadState_7 lk_M_332 mk_M_opens rfl rfl rfl rfl rfl rfl (s_M_opens _ _) (fun q2 _ => ?_)
  refine z_aload_n d_M_isDeadState_10 rfl ?_
  refine z_cVI (as := []) (st := []) (nl := 2) (ci := 10) d_M_isDeadState_11 lk_M_365 mk_M_packetsIn rfl rfl rfl rfl rfl rfl (s_M_packetsIn _) (fun q3 _ hq3 => ?_)
  refine z_if_le (tgt := 28) d_M_isDeadState_14 rfl (fun c4 => ?_) (fun c4 => ?_)
  · refine z_ic0 d_M_isDeadState_28 ?_
    exact z_zret d_M_isDeadState_29 rfl rfl (Or.inl rfl)
  · refine z_aload_n d_M_isDeadState_17 rfl ?_
    refine z_gi (ci := 10) (j := 25) (ji := 25) d_M_isDeadState_18 rfl fl_M_350 rfl rfl rfl ?_
    refine z_if_ne (tgt := 28) d_M_isDeadState_21 rfl (fun c5 => ?_) (fun c5 => ?_)
    · refine z_ic1 d_M_isDeadState_24 ?_
      refine z_goto (tgt := 29) d_M_isDeadState_25 rfl ?_
      exact z_zret d_M_isDeadState_29 rfl rfl (Or.inr rfl)
    · refine z_ic0 d_M_isDeadState_28 ?_
      exact z_zret d_M_isDeadState_29 rfl rfl (Or.inl rfl)
/-! BubbleTorusModel.leadsOn -/
theorem d_M_leadsOn_0 : decode m_M_leadsOn.2.1 0 = .ok (.aload_n 0, 1) := by decide +kernel
theorem d_M_leadsOn_1 : decode m_M_leadsOn.2.1 1 = .ok (.iload_n 1, 1) := by decide +kernel
theorem d_M_leadsOn_2 : decode m_M_leadsOn.2.1 2 = .ok (.invokevirtual 362, 3) := by decide +kernel
theorem d_M_leadsOn_5 : decode m_M_leadsOn.2.1 5 = .ok (.iconst 0, 1) := by decide +kernel
theorem d_M_leadsOn_6 : decode m_M_leadsOn.2.1 6 = .ok (.istore_n 2, 1) := by decide +kernel
theorem d_M_leadsOn_7 : decode m_M_leadsOn.2.1 7 = .ok (.iload_n 2, 1) := by decide +kernel
theorem d_M_leadsOn_8 : decode m_M_leadsOn.2.1 8 = .ok (.aload_n 0, 1) := by decide +kernel
theorem d_M_leadsOn_9 : decode m_M_leadsOn.2.1 9 = .ok (.getfield 335, 3) := by decide +kernel
theorem d_M_leadsOn_12 : decode m_M_leadsOn.2.1 12 = .ok (.if_icmp .ge 25, 3) := by decide +kernel
theorem d_M_leadsOn_15 : decode m_M_leadsOn.2.1 15 = .ok (.aload_n 0, 1) := by decide +kernel
theorem d_M_leadsOn_16 : decode m_M_leadsOn.2.1 16 = .ok (.getfield 44, 3) := by decide +kernel
theorem d_M_leadsOn_19 : decode m_M_leadsOn.2.1 19 = .ok (.aload_n 0, 1) := by decide +kernel
theorem d_M_leadsOn_20 : decode m_M_leadsOn.2.1 20 = .ok (.getfield 47, 3) := by decide +kernel
theorem d_M_leadsOn_23 : decode m_M_leadsOn.2.1 23 = .ok (.iload_n 2, 1) := by decide +kernel
theorem d_M_leadsOn_24 : decode m_M_leadsOn.2.1 24 = .ok (.iaload, 1) := by decide +kernel
theorem d_M_leadsOn_25 : decode m_M_leadsOn.2.1 25 = .ok (.baload, 1) := by decide +kernel
theorem d_M_leadsOn_26 : decode m_M_leadsOn.2.1 26 = .ok (.ifCond .ne 5, 3) := by decide +kernel
theorem d_M_leadsOn_29 : decode m_M_leadsOn.2.1 29 = .ok (.iconst 1, 1) := by decide +kernel
theorem d_M_leadsOn_30 : decode m_M_leadsOn.2.1 30 = .ok (.ireturn, 1) := by decide +kernel
theorem d_M_leadsOn_31 : decode m_M_leadsOn.2.1 31 = .ok (.iinc 2 1, 3) := by decide +kernel
theorem d_M_leadsOn_34 : decode m_M_leadsOn.2.1 34 = .ok (.goto (-27), 3) := by decide +kernel
theorem d_M_leadsOn_37 : decode m_M_leadsOn.2.1 37 = .ok (.iconst 0, 1) := by decide +kernel
theorem d_M_leadsOn_38 : decode m_M_leadsOn.2.1 38 = .ok (.ireturn, 1) := by decide +kernel
def f_M_leadsOn_7 : Nat → Int → qMem → Option (Int × qMem)
  | 0, _, _ => none
  | n + 1, x2, w =>
    if x2 < (w 88 24) then
    qld w 101 24 x2 fun v2 =>
    qld w 100 10240 v2 fun v3 =>
    if v3 = 0 then
    some (1, w)
    else
    (f_M_leadsOn_7 n) (w32 (x2 + 1)) w
    else
    some (0, w)
set_option maxRecDepth 4000 in
theorem s_M_leadsOn_7  : ∀ (n : Nat), ∀ (x2 : Int) (w : qMem), qSim κI 100 100 m_M_leadsOn 7 [] [some (qR 88), none, some (qI x2)] w (f_M_leadsOn_7 n x2 w) := by
  intro n
  induction n with
  | zero => intro x2 w; exact z_none
  | succ n ih =>
    intro x2 w
    rw [f_M_leadsOn_7]
    refine z_iload_n d_M_leadsOn_7 rfl ?_
    refine z_aload_n d_M_leadsOn_8 rfl ?_
    refine z_gi (ci := 10) (j := 24) (ji := 24) d_M_leadsOn_9 rfl fl_M_335 rfl rfl rfl ?_
    refine z_icmp_ge (tgt := 37) d_M_leadsOn_12 rfl (fun c1 => ?_) (fun c1 => ?_)
    · refine z_aload_n d_M_leadsOn_15 rfl ?_
      refine z_gr (ci := 10) (j := 22) (d := 12) (o2 := 100) d_M_leadsOn_16 rfl fl_M_44 rfl (Nat.le_of_ble_eq_true rfl) rfl rfl ?_
      refine z_aload_n d_M_leadsOn_19 rfl ?_
      refine z_gr (ci := 10) (j := 23) (d := 13) (o2 := 101) d_M_leadsOn_20 rfl fl_M_47 rfl (Nat.le_of_ble_eq_true rfl) rfl rfl ?_
      refine z_iload_n d_M_leadsOn_23 rfl ?_
      refine z_il d_M_leadsOn_24 rfl rfl (fun v2 => ?_)
      refine z_zl d_M_leadsOn_25 rfl rfl (fun v3 hz4 => ?_)
      refine z_if_ne (tgt := 31) d_M_leadsOn_26 rfl (fun c5 => ?_) (fun c5 => ?_)
      · refine z_ic1 d_M_leadsOn_29 ?_
        exact z_zret d_M_leadsOn_30 rfl rfl (Or.inr rfl)
      · refine z_iinc (pls' := [some (qR 88), none, some (qI (w32 (x2 + 1)))]) d_M_leadsOn_31 (by decide) rfl rfl rfl ?_
        refine z_goto (tgt := 7) d_M_leadsOn_34 rfl ?_
        refine z_mask [true, false, true] ?_
        exact ih _ _
    · refine z_ic0 d_M_leadsOn_37 ?_
      exact z_zret d_M_leadsOn_38 rfl rfl (Or.inl rfl)
def f_M_leadsOn (x1 : Int) (w : qMem) : Option (Int × qMem) :=
  (f_M_laysAfter x1 w).bind fun q6 =>
  f_M_leadsOn_7 qFU 0 q6
set_option maxRecDepth 4000 in
theorem s_M_leadsOn (x1 : Int) (w : qMem) : qSim κI 100 100 m_M_leadsOn 0 [] [some (qR 88), some (qI x1), none] w (f_M_leadsOn x1 w) := by
  unfold f_M_leadsOn
  refine z_aload_n d_M_leadsOn_0 rfl ?_
  refine z_iload_n d_M_leadsOn_1 rfl ?_
  refine z_cVV (as := [qI x1]) (st := []) (nl := 4) (ci := 10) d_M_leadsOn_2 lk_M_362 mk_M_laysAfter rfl rfl rfl rfl rfl rfl (s_M_laysAfter _ _) (fun q6 _ => ?_)
  refine z_ic0 d_M_leadsOn_5 ?_
  refine z_istore_n (pls' := [some (qR 88), some (qI x1), some (qI 0)]) d_M_leadsOn_6 (by decide) rfl rfl ?_
  refine z_mask [true, false, true] ?_
  exact s_M_leadsOn_7 _ _ _
/-! BubbleTorusModel.isStarving -/
theorem d_M_isStarving_0 : decode m_M_isStarving.2.1 0 = .ok (.iconst 0, 1) := by decide +kernel
theorem d_M_isStarving_1 : decode m_M_isStarving.2.1 1 = .ok (.istore_n 1, 1) := by decide +kernel
theorem d_M_isStarving_2 : decode m_M_isStarving.2.1 2 = .ok (.iconst 0, 1) := by decide +kernel
theorem d_M_isStarving_3 : decode m_M_isStarving.2.1 3 = .ok (.istore_n 2, 1) := by decide +kernel
theorem d_M_isStarving_4 : decode m_M_isStarving.2.1 4 = .ok (.iload_n 2, 1) := by decide +kernel
theorem d_M_isStarving_5 : decode m_M_isStarving.2.1 5 = .ok (.aload_n 0, 1) := by decide +kernel
theorem d_M_isStarving_6 : decode m_M_isStarving.2.1 6 = .ok (.getfield 356, 3) := by decide +kernel
theorem d_M_isStarving_9 : decode m_M_isStarving.2.1 9 = .ok (.if_icmp .ge 61, 3) := by decide +kernel
theorem d_M_isStarving_12 : decode m_M_isStarving.2.1 12 = .ok (.aload_n 0, 1) := by decide +kernel
theorem d_M_isStarving_13 : decode m_M_isStarving.2.1 13 = .ok (.getfield 44, 3) := by decide +kernel
theorem d_M_isStarving_16 : decode m_M_isStarving.2.1 16 = .ok (.aload_n 0, 1) := by decide +kernel
theorem d_M_isStarving_17 : decode m_M_isStarving.2.1 17 = .ok (.getfield 35, 3) := by decide +kernel
theorem d_M_isStarving_20 : decode m_M_isStarving.2.1 20 = .ok (.iload_n 2, 1) := by decide +kernel
theorem d_M_isStarving_21 : decode m_M_isStarving.2.1 21 = .ok (.iaload, 1) := by decide +kernel
theorem d_M_isStarving_22 : decode m_M_isStarving.2.1 22 = .ok (.aload_n 0, 1) := by decide +kernel
theorem d_M_isStarving_23 : decode m_M_isStarving.2.1 23 = .ok (.getfield 38, 3) := by decide +kernel
theorem d_M_isStarving_26 : decode m_M_isStarving.2.1 26 = .ok (.aload_n 0, 1) := by decide +kernel
theorem d_M_isStarving_27 : decode m_M_isStarving.2.1 27 = .ok (.getfield 35, 3) := by decide +kernel
theorem d_M_isStarving_30 : decode m_M_isStarving.2.1 30 = .ok (.iload_n 2, 1) := by decide +kernel
theorem d_M_isStarving_31 : decode m_M_isStarving.2.1 31 = .ok (.iaload, 1) := by decide +kernel
theorem d_M_isStarving_32 : decode m_M_isStarving.2.1 32 = .ok (.baload, 1) := by decide +kernel
theorem d_M_isStarving_33 : decode m_M_isStarving.2.1 33 = .ok (.ifCond .ne 7, 3) := by decide +kernel
theorem d_M_isStarving_36 : decode m_M_isStarving.2.1 36 = .ok (.iconst 1, 1) := by decide +kernel
theorem d_M_isStarving_37 : decode m_M_isStarving.2.1 37 = .ok (.goto 4, 3) := by decide +kernel
theorem d_M_isStarving_40 : decode m_M_isStarving.2.1 40 = .ok (.iconst 0, 1) := by decide +kernel
theorem d_M_isStarving_41 : decode m_M_isStarving.2.1 41 = .ok (.bastore, 1) := by decide +kernel
theorem d_M_isStarving_42 : decode m_M_isStarving.2.1 42 = .ok (.iload_n 1, 1) := by decide +kernel
theorem d_M_isStarving_43 : decode m_M_isStarving.2.1 43 = .ok (.aload_n 0, 1) := by decide +kernel
theorem d_M_isStarving_44 : decode m_M_isStarving.2.1 44 = .ok (.getfield 38, 3) := by decide +kernel
theorem d_M_isStarving_47 : decode m_M_isStarving.2.1 47 = .ok (.aload_n 0, 1) := by decide +kernel
theorem d_M_isStarving_48 : decode m_M_isStarving.2.1 48 = .ok (.getfield 35, 3) := by decide +kernel
theorem d_M_isStarving_51 : decode m_M_isStarving.2.1 51 = .ok (.iload_n 2, 1) := by decide +kernel
theorem d_M_isStarving_52 : decode m_M_isStarving.2.1 52 = .ok (.iaload, 1) := by decide +kernel
theorem d_M_isStarving_53 : decode m_M_isStarving.2.1 53 = .ok (.baload, 1) := by decide +kernel
theorem d_M_isStarving_54 : decode m_M_isStarving.2.1 54 = .ok (.ifCond .eq 7, 3) := by decide +kernel
theorem d_M_isStarving_57 : decode m_M_isStarving.2.1 57 = .ok (.iconst 1, 1) := by decide +kernel
theorem d_M_isStarving_58 : decode m_M_isStarving.2.1 58 = .ok (.goto 4, 3) := by decide +kernel
theorem d_M_isStarving_61 : decode m_M_isStarving.2.1 61 = .ok (.iconst 0, 1) := by decide +kernel
theorem d_M_isStarving_62 : decode m_M_isStarving.2.1 62 = .ok (.iadd, 1) := by decide +kernel
theorem d_M_isStarving_63 : decode m_M_isStarving.2.1 63 = .ok (.istore_n 1, 1) := by decide +kernel
theorem d_M_isStarving_64 : decode m_M_isStarving.2.1 64 = .ok (.iinc 2 1, 3) := by decide +kernel
theorem d_M_isStarving_67 : decode m_M_isStarving.2.1 67 = .ok (.goto (-63), 3) := by decide +kernel
theorem d_M_isStarving_70 : decode m_M_isStarving.2.1 70 = .ok (.iconst 1, 1) := by decide +kernel
theorem d_M_isStarving_71 : decode m_M_isStarving.2.1 71 = .ok (.istore_n 2, 1) := by decide +kernel
theorem d_M_isStarving_72 : decode m_M_isStarving.2.1 72 = .ok (.iload_n 2, 1) := by decide +kernel
theorem d_M_isStarving_73 : decode m_M_isStarving.2.1 73 = .ok (.ifCond .eq 67, 3) := by decide +kernel
theorem d_M_isStarving_76 : decode m_M_isStarving.2.1 76 = .ok (.iconst 0, 1) := by decide +kernel
theorem d_M_isStarving_77 : decode m_M_isStarving.2.1 77 = .ok (.istore_n 2, 1) := by decide +kernel
theorem d_M_isStarving_78 : decode m_M_isStarving.2.1 78 = .ok (.iconst 0, 1) := by decide +kernel
theorem d_M_isStarving_79 : decode m_M_isStarving.2.1 79 = .ok (.istore_n 3, 1) := by decide +kernel
theorem d_M_isStarving_80 : decode m_M_isStarving.2.1 80 = .ok (.iload_n 3, 1) := by decide +kernel
theorem d_M_isStarving_81 : decode m_M_isStarving.2.1 81 = .ok (.aload_n 0, 1) := by decide +kernel
theorem d_M_isStarving_82 : decode m_M_isStarving.2.1 82 = .ok (.getfield 356, 3) := by decide +kernel
theorem d_M_isStarving_85 : decode m_M_isStarving.2.1 85 = .ok (.if_icmp .ge 52, 3) := by decide +kernel
theorem d_M_isStarving_88 : decode m_M_isStarving.2.1 88 = .ok (.aload_n 0, 1) := by decide +kernel
theorem d_M_isStarving_89 : decode m_M_isStarving.2.1 89 = .ok (.getfield 35, 3) := by decide +kernel
theorem d_M_isStarving_92 : decode m_M_isStarving.2.1 92 = .ok (.iload_n 3, 1) := by decide +kernel
theorem d_M_isStarving_93 : decode m_M_isStarving.2.1 93 = .ok (.iaload, 1) := by decide +kernel
theorem d_M_isStarving_94 : decode m_M_isStarving.2.1 94 = .ok (.istore 4, 2) := by decide +kernel
theorem d_M_isStarving_96 : decode m_M_isStarving.2.1 96 = .ok (.aload_n 0, 1) := by decide +kernel
theorem d_M_isStarving_97 : decode m_M_isStarving.2.1 97 = .ok (.getfield 44, 3) := by decide +kernel
theorem d_M_isStarving_100 : decode m_M_isStarving.2.1 100 = .ok (.iload 4, 2) := by decide +kernel
theorem d_M_isStarving_102 : decode m_M_isStarving.2.1 102 = .ok (.baload, 1) := by decide +kernel
theorem d_M_isStarving_103 : decode m_M_isStarving.2.1 103 = .ok (.ifCond .ne 28, 3) := by decide +kernel
theorem d_M_isStarving_106 : decode m_M_isStarving.2.1 106 = .ok (.aload_n 0, 1) := by decide +kernel
theorem d_M_isStarving_107 : decode m_M_isStarving.2.1 107 = .ok (.iload 4, 2) := by decide +kernel
theorem d_M_isStarving_109 : decode m_M_isStarving.2.1 109 = .ok (.invokevirtual 368, 3) := by decide +kernel
theorem d_M_isStarving_112 : decode m_M_isStarving.2.1 112 = .ok (.ifCond .eq 6, 3) := by decide +kernel
theorem d_M_isStarving_115 : decode m_M_isStarving.2.1 115 = .ok (.goto 16, 3) := by decide +kernel
theorem d_M_isStarving_118 : decode m_M_isStarving.2.1 118 = .ok (.aload_n 0, 1) := by decide +kernel
theorem d_M_isStarving_119 : decode m_M_isStarving.2.1 119 = .ok (.getfield 44, 3) := by decide +kernel
theorem d_M_isStarving_122 : decode m_M_isStarving.2.1 122 = .ok (.iload 4, 2) := by decide +kernel
theorem d_M_isStarving_124 : decode m_M_isStarving.2.1 124 = .ok (.iconst 1, 1) := by decide +kernel
theorem d_M_isStarving_125 : decode m_M_isStarving.2.1 125 = .ok (.bastore, 1) := by decide +kernel
theorem d_M_isStarving_126 : decode m_M_isStarving.2.1 126 = .ok (.iinc 1 (-1), 3) := by decide +kernel
theorem d_M_isStarving_129 : decode m_M_isStarving.2.1 129 = .ok (.iconst 1, 1) := by decide +kernel
theorem d_M_isStarving_130 : decode m_M_isStarving.2.1 130 = .ok (.istore_n 2, 1) := by decide +kernel
theorem d_M_isStarving_131 : decode m_M_isStarving.2.1 131 = .ok (.iinc 3 1, 3) := by decide +kernel
theorem d_M_isStarving_134 : decode m_M_isStarving.2.1 134 = .ok (.goto (-54), 3) := by decide +kernel
theorem d_M_isStarving_137 : decode m_M_isStarving.2.1 137 = .ok (.goto (-65), 3) := by decide +kernel
theorem d_M_isStarving_140 : decode m_M_isStarving.2.1 140 = .ok (.iload_n 1, 1) := by decide +kernel
theorem d_M_isStarving_141 : decode m_M_isStarving.2.1 141 = .ok (.ifCond .le 7, 3) := by decide +kernel
theorem d_M_isStarving_144 : decode m_M_isStarving.2.1 144 = .ok (.iconst 1, 1) := by decide +kernel
theorem d_M_isStarving_145 : decode m_M_isStarving.2.1 145 = .ok (.goto 4, 3) := by decide +kernel
theorem d_M_isStarving_148 : decode m_M_isStarving.2.1 148 = .ok (.iconst 0, 1) := by decide +kernel
theorem d_M_isStarving_149 : decode m_M_isStarving.2.1 149 = .ok (.ireturn, 1) := by decide +kernel
def f_M_isStarving_62 (r4 : Int → Int → qMem → Option (Int × qMem)) (s0 s1 x2 : Int) (w : qMem) : Option (Int × qMem) :=
  r4 (w32 (s0 + s1)) (w32 (x2 + 1)) w
set_option maxRecDepth 4000 in
theorem s_M_isStarving_62  {r4 : Int → Int → qMem → Option (Int × qMem)} (hr4 : ∀ x1 x2 w, qSim κI 100 100 m_M_isStarving 4 [] [some (qR 88), some (qI x1), some (qI x2), none, none] w (r4 x1 x2 w)) : ∀ (s0 s1 x2 : Int) (w : qMem), (s1 = 0 ∨ s1 = 1) → qSim κI 100 100 m_M_isStarving 62 [qI s1, qI s0] [some (qR 88), none, some (qI x2), none, none] w (f_M_isStarving_62 r4 s0 s1 x2 w) := by
  intro s0 s1 x2 w hs1
  unfold f_M_isStarving_62
  refine z_iadd d_M_isStarving_62 ?_
  refine z_istore_n (pls' := [some (qR 88), some (qI (w32 (s0 + s1))), some (qI x2), none, none]) d_M_isStarving_63 (by decide) rfl rfl ?_
  refine z_iinc (pls' := [some (qR 88), some (qI (w32 (s0 + s1))), some (qI (w32 (x2 + 1))), none, none]) d_M_isStarving_64 (by decide) rfl rfl rfl ?_
  refine z_goto (tgt := 4) d_M_isStarving_67 rfl ?_
  refine z_mask [true, true, true, false, false] ?_
  exact hr4 _ _ _
def f_M_isStarving_41 (r4 : Int → Int → qMem → Option (Int × qMem)) (s1 s2 x1 x2 : Int) (w : qMem) : Option (Int × qMem) :=
  qstz w 100 10240 s1 s2 fun w1 =>
  qld w1 97 10240 x2 fun v2 =>
  qld w1 98 10240 v2 fun v3 =>
  if v3 = 0 then
  f_M_isStarving_62 r4 x1 0 x2 w1
  else
  f_M_isStarving_62 r4 x1 1 x2 w1
set_option maxRecDepth 4000 in
theorem s_M_isStarving_41  {r4 : Int → Int → qMem → Option (Int × qMem)} (hr4 : ∀ x1 x2 w, qSim κI 100 100 m_M_isStarving 4 [] [some (qR 88), some (qI x1), some (qI x2), none, none] w (r4 x1 x2 w)) : ∀ (s1 s2 x1 x2 : Int) (w : qMem), (s2 = 0 ∨ s2 = 1) → qSim κI 100 100 m_M_isStarving 41 [qI s2, qI s1, qR 100] [some (qR 88), some (qI x1), some (qI x2), none, none] w (f_M_isStarving_41 r4 s1 s2 x1 x2 w) := by
  intro s1 s2 x1 x2 w hs2
  unfold f_M_isStarving_41
  refine z_zs d_M_isStarving_41 rfl rfl (fun w1 => ?_)
  refine z_iload_n d_M_isStarving_42 rfl ?_
  refine z_aload_n d_M_isStarving_43 rfl ?_
  refine z_gr (ci := 10) (j := 20) (d := 10) (o2 := 98) d_M_isStarving_44 rfl fl_M_38 rfl (Nat.le_of_ble_eq_true rfl) rfl rfl ?_
  refine z_aload_n d_M_isStarving_47 rfl ?_
  refine z_gr (ci := 10) (j := 18) (d := 9) (o2 := 97) d_M_isStarving_48 rfl fl_M_35 rfl (Nat.le_of_ble_eq_true rfl) rfl rfl ?_
  refine z_iload_n d_M_isStarving_51 rfl ?_
  refine z_il d_M_isStarving_52 rfl rfl (fun v2 => ?_)
  refine z_zl d_M_isStarving_53 rfl rfl (fun v3 hz4 => ?_)
  refine z_if_eq (tgt := 61) d_M_isStarving_54 rfl (fun c5 => ?_) (fun c5 => ?_)
  · refine z_ic0 d_M_isStarving_61 ?_
    refine z_mask [true, false, true, false, false] ?_
    exact s_M_isStarving_62 hr4 _ _ _ _ (Or.inl rfl)
  · refine z_ic1 d_M_isStarving_57 ?_
    refine z_goto (tgt := 62) d_M_isStarving_58 rfl ?_
    refine z_mask [true, false, true, false, false] ?_
    exact s_M_isStarving_62 hr4 _ _ _ _ (Or.inr rfl)
def f_M_isStarving_80 (r72 : Int → Int → qMem → Option (Int × qMem)) : Nat → Int → Int → Int → qMem → Option (Int × qMem)
  | 0, _, _, _, _ => none
  | n + 1, x1, x2, x3, w =>
    if x3 < (w 88 19) then
    qld w 97 10240 x3 fun v7 =>
    qld w 100 10240 v7 fun v8 =>
    if v8 = 0 then
    (f_M_leadsOn v7 w).bind fun q11 =>
    if q11.1 = 0 then
    qstz q11.2 100 10240 v7 1 fun w13 =>
    (f_M_isStarving_80 r72 n) (w32 (x1 + (-1))) 1 (w32 (x3 + 1)) w13
    else
    (f_M_isStarving_80 r72 n) x1 x2 (w32 (x3 + 1)) q11.2
    else
    (f_M_isStarving_80 r72 n) x1 x2 (w32 (x3 + 1)) w
    else
    r72 x1 x2 w
set_option maxRecDepth 4000 in
theorem s_M_isStarving_80  {r72 : Int → Int → qMem → Option (Int × qMem)} (hr72 : ∀ (x1 x2 : Int) (w : qMem) (hx2 : x2 = 0 ∨ x2 = 1), qSim κI 100 100 m_M_isStarving 72 [] [some (qR 88), some (qI x1), some (qI x2), none, none] w (r72 x1 x2 w)) : ∀ (n : Nat), ∀ (x1 x2 x3 : Int) (w : qMem), (x2 = 0 ∨ x2 = 1) → qSim κI 100 100 m_M_isStarving 80 [] [some (qR 88), some (qI x1), some (qI x2), some (qI x3), none] w (f_M_isStarving_80 r72 n x1 x2 x3 w) := by
  intro n
  induction n with
  | zero => intro x1 x2 x3 w hx2; exact z_none
  | succ n ih =>
    intro x1 x2 x3 w hx2
    rw [f_M_isStarving_80]
    refine z_iload_n d_M_isStarving_80 rfl ?_
    refine z_aload_n d_M_isStarving_81 rfl ?_
    refine z_gi (ci := 10) (j := 19) (ji := 19) d_M_isStarving_82 rfl fl_M_356 rfl rfl rfl ?_
    refine z_icmp_ge (tgt := 137) d_M_isStarving_85 rfl (fun c6 => ?_) (fun c6 => ?_)
    · refine z_aload_n d_M_isStarving_88 rfl ?_
      refine z_gr (ci := 10) (j := 18) (d := 9) (o2 := 97) d_M_isStarving_89 rfl fl_M_35 rfl (Nat.le_of_ble_eq_true rfl) rfl rfl ?_
      refine z_iload_n d_M_isStarving_92 rfl ?_
      refine z_il d_M_isStarving_93 rfl rfl (fun v7 => ?_)
      refine z_istore (pls' := [some (qR 88), some (qI x1), some (qI x2), some (qI x3), some (qI v7)]) d_M_isStarving_94 (by decide) rfl rfl ?_
      refine z_aload_n d_M_isStarving_96 rfl ?_
      refine z_gr (ci := 10) (j := 22) (d := 12) (o2 := 100) d_M_isStarving_97 rfl fl_M_44 rfl (Nat.le_of_ble_eq_true rfl) rfl rfl ?_
      refine z_iload d_M_isStarving_100 rfl ?_
      refine z_zl d_M_isStarving_102 rfl rfl (fun v8 hz9 => ?_)
      refine z_if_ne (tgt := 131) d_M_isStarving_103 rfl (fun c10 => ?_) (fun c10 => ?_)
      · refine z_aload_n d_M_isStarving_106 rfl ?_
        refine z_iload d_M_isStarving_107 rfl ?_
        refine z_cVI (as := [qI v7]) (st := []) (nl := 1) (ci := 10) d_M_isStarving_109 lk_M_368 mk_M_leadsOn rfl rfl rfl rfl rfl rfl (s_M_leadsOn _ _) (fun q11 _ hq11 => ?_)
        refine z_if_eq (tgt := 118) d_M_isStarving_112 rfl (fun c12 => ?_) (fun c12 => ?_)
        · refine z_aload_n d_M_isStarving_118 rfl ?_
          refine z_gr (ci := 10) (j := 22) (d := 12) (o2 := 100) d_M_isStarving_119 rfl fl_M_44 rfl (Nat.le_of_ble_eq_true rfl) rfl rfl ?_
          refine z_iload d_M_isStarving_122 rfl ?_
          refine z_ic1 d_M_isStarving_124 ?_
          refine z_zs d_M_isStarving_125 rfl rfl (fun w13 => ?_)
          refine z_iinc (pls' := [some (qR 88), some (qI (w32 (x1 + (-1)))), some (qI x2), some (qI x3), some (qI v7)]) d_M_isStarving_126 (by decide) rfl rfl rfl ?_
          refine z_ic1 d_M_isStarving_129 ?_
          refine z_istore_n (pls' := [some (qR 88), some (qI (w32 (x1 + (-1)))), some (qI 1), some (qI x3), some (qI v7)]) d_M_isStarving_130 (by decide) rfl rfl ?_
          refine z_iinc (pls' := [some (qR 88), some (qI (w32 (x1 + (-1)))), some (qI 1), some (qI (w32 (x3 + 1))), some (qI v7)]) d_M_isStarving_131 (by decide) rfl rfl rfl ?_
          refine z_goto (tgt := 80) d_M_isStarving_134 rfl ?_
          refine z_mask [true, true, true, true, false] ?_
          exact ih _ _ _ _ (Or.inr rfl)
        · refine z_goto (tgt := 131) d_M_isStarving_115 rfl ?_
          refine z_iinc (pls' := [some (qR 88), some (qI x1), some (qI x2), some (qI (w32 (x3 + 1))), some (qI v7)]) d_M_isStarving_131 (by decide) rfl rfl rfl ?_
          refine z_goto (tgt := 80) d_M_isStarving_134 rfl ?_
          refine z_mask [true, true, true, true, false] ?_
          exact ih _ _ _ _ hx2
      · refine z_iinc (pls' := [some (qR 88), some (qI x1), some (qI x2), some (qI (w32 (x3 + 1))), some (qI v7)]) d_M_isStarving_131 (by decide) rfl rfl rfl ?_
        refine z_goto (tgt := 80) d_M_isStarving_134 rfl ?_
        refine z_mask [true, true, true, true, false] ?_
        exact ih _ _ _ _ hx2
    · refine z_goto (tgt := 72) d_M_isStarving_137 rfl ?_
      refine z_mask [true, true, true, false, false] ?_
      exact hr72 _ _ _ hx2
def f_M_isStarving_140 (x1 : Int) (w : qMem) : Option (Int × qMem) :=
  if x1 ≤ 0 then
  some (0, w)
  else
  some (1, w)
set_option maxRecDepth 4000 in
theorem s_M_isStarving_140  : ∀ (x1 : Int) (w : qMem), qSim κI 100 100 m_M_isStarving 140 [] [none, some (qI x1), none, none, none] w (f_M_isStarving_140 x1 w) := by
  intro x1 w
  unfold f_M_isStarving_140
  refine z_iload_n d_M_isStarving_140 rfl ?_
  refine z_if_le (tgt := 148) d_M_isStarving_141 rfl (fun c14 => ?_) (fun c14 => ?_)
  · refine z_ic0 d_M_isStarving_148 ?_
    exact z_zret d_M_isStarving_149 rfl rfl (Or.inl rfl)
  · refine z_ic1 d_M_isStarving_144 ?_
    refine z_goto (tgt := 149) d_M_isStarving_145 rfl ?_
    exact z_zret d_M_isStarving_149 rfl rfl (Or.inr rfl)
def f_M_isStarving_72 : Nat → Int → Int → qMem → Option (Int × qMem)
  | 0, _, _, _ => none
  | n + 1, x1, x2, w =>
    if x2 = 0 then
    f_M_isStarving_140 x1 w
    else
    f_M_isStarving_80 (f_M_isStarving_72 n) qFU x1 0 0 w
set_option maxRecDepth 4000 in
theorem s_M_isStarving_72  : ∀ (n : Nat), ∀ (x1 x2 : Int) (w : qMem), (x2 = 0 ∨ x2 = 1) → qSim κI 100 100 m_M_isStarving 72 [] [some (qR 88), some (qI x1), some (qI x2), none, none] w (f_M_isStarving_72 n x1 x2 w) := by
  intro n
  induction n with
  | zero => intro x1 x2 w hx2; exact z_none
  | succ n ih =>
    intro x1 x2 w hx2
    rw [f_M_isStarving_72]
    refine z_iload_n d_M_isStarving_72 rfl ?_
    refine z_if_eq (tgt := 140) d_M_isStarving_73 rfl (fun c15 => ?_) (fun c15 => ?_)
    · refine z_mask [false, true, false, false, false] ?_
      exact s_M_isStarving_140 _ _
    · refine z_ic0 d_M_isStarving_76 ?_
      refine z_istore_n (pls' := [some (qR 88), some (qI x1), some (qI 0), none, none]) d_M_isStarving_77 (by decide) rfl rfl ?_
      refine z_ic0 d_M_isStarving_78 ?_
      refine z_istore_n (pls' := [some (qR 88), some (qI x1), some (qI 0), some (qI 0), none]) d_M_isStarving_79 (by decide) rfl rfl ?_
      refine z_mask [true, true, true, true, false] ?_
      exact s_M_isStarving_80 ih _ _ _ _ _ (Or.inl rfl)
def f_M_isStarving_70 (x1 : Int) (w : qMem) : Option (Int × qMem) :=
  f_M_isStarving_72 qFU x1 1 w
set_option maxRecDepth 4000 in
theorem s_M_isStarving_70  : ∀ (x1 : Int) (w : qMem), qSim κI 100 100 m_M_isStarving 70 [] [some (qR 88), some (qI x1), none, none, none] w (f_M_isStarving_70 x1 w) := by
  intro x1 w
  unfold f_M_isStarving_70
  refine z_ic1 d_M_isStarving_70 ?_
  refine z_istore_n (pls' := [some (qR 88), some (qI x1), some (qI 1), none, none]) d_M_isStarving_71 (by decide) rfl rfl ?_
  refine z_mask [true, true, true, false, false] ?_
  exact s_M_isStarving_72 _ _ _ _ (Or.inr rfl)
def f_M_isStarving_4 : Nat → Int → Int → qMem → Option (Int × qMem)
  | 0, _, _, _ => none
  | n + 1, x1, x2, w =>
    if x2 < (w 88 19) then
    qld w 97 10240 x2 fun v17 =>
    qld w 97 10240 x2 fun v18 =>
    qld w 98 10240 v18 fun v19 =>
    if v19 = 0 then
    f_M_isStarving_41 (f_M_isStarving_4 n) v17 1 x1 x2 w
    else
    f_M_isStarving_41 (f_M_isStarving_4 n) v17 0 x1 x2 w
    else
    f_M_isStarving_70 x1 w
set_option maxRecDepth 4000 in
theorem s_M_isStarving_4  : ∀ (n : Nat), ∀ (x1 x2 : Int) (w : qMem), qSim κI 100 100 m_M_isStarving 4 [] [some (qR 88), some (qI x1), some (qI x2), none, none] w (f_M_isStarving_4 n x1 x2 w) := by
  intro n
  induction n with
  | zero => intro x1 x2 w; exact z_none
  | succ n ih =>
    intro x1 x2 w
    rw [f_M_isStarving_4]
    refine z_iload_n d_M_isStarving_4 rfl ?_
    refine z_aload_n d_M_isStarving_5 rfl ?_
    refine z_gi (ci := 10) (j := 19) (ji := 19) d_M_isStarving_6 rfl fl_M_356 rfl rfl rfl ?_
    refine z_icmp_ge (tgt := 70) d_M_isStarving_9 rfl (fun c16 => ?_) (fun c16 => ?_)
    · refine z_aload_n d_M_isStarving_12 rfl ?_
      refine z_gr (ci := 10) (j := 22) (d := 12) (o2 := 100) d_M_isStarving_13 rfl fl_M_44 rfl (Nat.le_of_ble_eq_true rfl) rfl rfl ?_
      refine z_aload_n d_M_isStarving_16 rfl ?_
      refine z_gr (ci := 10) (j := 18) (d := 9) (o2 := 97) d_M_isStarving_17 rfl fl_M_35 rfl (Nat.le_of_ble_eq_true rfl) rfl rfl ?_
      refine z_iload_n d_M_isStarving_20 rfl ?_
      refine z_il d_M_isStarving_21 rfl rfl (fun v17 => ?_)
      refine z_aload_n d_M_isStarving_22 rfl ?_
      refine z_gr (ci := 10) (j := 20) (d := 10) (o2 := 98) d_M_isStarving_23 rfl fl_M_38 rfl (Nat.le_of_ble_eq_true rfl) rfl rfl ?_
      refine z_aload_n d_M_isStarving_26 rfl ?_
      refine z_gr (ci := 10) (j := 18) (d := 9) (o2 := 97) d_M_isStarving_27 rfl fl_M_35 rfl (Nat.le_of_ble_eq_true rfl) rfl rfl ?_
      refine z_iload_n d_M_isStarving_30 rfl ?_
      refine z_il d_M_isStarving_31 rfl rfl (fun v18 => ?_)
      refine z_zl d_M_isStarving_32 rfl rfl (fun v19 hz20 => ?_)
      refine z_if_ne (tgt := 40) d_M_isStarving_33 rfl (fun c21 => ?_) (fun c21 => ?_)
      · refine z_ic1 d_M_isStarving_36 ?_
        refine z_goto (tgt := 41) d_M_isStarving_37 rfl ?_
        refine z_mask [true, true, true, false, false] ?_
        exact s_M_isStarving_41 ih _ _ _ _ _ (Or.inr rfl)
      · refine z_ic0 d_M_isStarving_40 ?_
        refine z_mask [true, true, true, false, false] ?_
        exact s_M_isStarving_41 ih _ _ _ _ _ (Or.inl rfl)
    · refine z_mask [true, true, false, false, false] ?_
      exact s_M_isStarving_70 _ _
def f_M_isStarving (w : qMem) : Option (Int × qMem) :=
  f_M_isStarving_4 qFU 0 0 w
set_option maxRecDepth 4000 in
theorem s_M_isStarving (w : qMem) : qSim κI 100 100 m_M_isStarving 0 [] [some (qR 88), none, none, none, none] w (f_M_isStarving w) := by
  unfold f_M_isStarving
  refine z_ic0 d_M_isStarving_0 ?_
  refine z_istore_n (pls' := [some (qR 88), some (qI 0), none, none, none]) d_M_isStarving_1 (by decide) rfl rfl ?_
  refine z_ic0 d_M_isStarving_2 ?_
  refine z_istore_n (pls' := [some (qR 88), some (qI 0), some (qI 0), none, none]) d_M_isStarving_3 (by decide) rfl rfl ?_
  refine z_mask [true, true, true, false, false] ?_
  exact s_M_isStarving_4 _ _ _ _
/-! BubbleTorusModel.longestWait -/
theorem d_M_longestWait_0 : decode m_M_longestWait.2.1 0 = .ok (.iconst 0, 1) := by decide +kernel
theorem d_M_longestWait_1 : decode m_M_longestWait.2.1 1 = .ok (.istore_n 1, 1) := by decide +kernel
theorem d_M_longestWait_2 : decode m_M_longestWait.2.1 2 = .ok (.iload_n 1, 1) := by decide +kernel
theorem d_M_longestWait_3 : decode m_M_longestWait.2.1 3 = .ok (.aload_n 0, 1) := by decide +kernel
theorem d_M_longestWait_4 : decode m_M_longestWait.2.1 4 = .ok (.getfield 356, 3) := by decide +kernel
theorem d_M_longestWait_7 : decode m_M_longestWait.2.1 7 = .ok (.if_icmp .ge 21, 3) := by decide +kernel
theorem d_M_longestWait_10 : decode m_M_longestWait.2.1 10 = .ok (.aload_n 0, 1) := by decide +kernel
theorem d_M_longestWait_11 : decode m_M_longestWait.2.1 11 = .ok (.getfield 41, 3) := by decide +kernel
theorem d_M_longestWait_14 : decode m_M_longestWait.2.1 14 = .ok (.aload_n 0, 1) := by decide +kernel
theorem d_M_longestWait_15 : decode m_M_longestWait.2.1 15 = .ok (.getfield 35, 3) := by decide +kernel
theorem d_M_longestWait_18 : decode m_M_longestWait.2.1 18 = .ok (.iload_n 1, 1) := by decide +kernel
theorem d_M_longestWait_19 : decode m_M_longestWait.2.1 19 = .ok (.iaload, 1) := by decide +kernel
theorem d_M_longestWait_20 : decode m_M_longestWait.2.1 20 = .ok (.iconst 0, 1) := by decide +kernel
theorem d_M_longestWait_21 : decode m_M_longestWait.2.1 21 = .ok (.iastore, 1) := by decide +kernel
theorem d_M_longestWait_22 : decode m_M_longestWait.2.1 22 = .ok (.iinc 1 1, 3) := by decide +kernel
theorem d_M_longestWait_25 : decode m_M_longestWait.2.1 25 = .ok (.goto (-23), 3) := by decide +kernel
theorem d_M_longestWait_28 : decode m_M_longestWait.2.1 28 = .ok (.iconst 0, 1) := by decide +kernel
theorem d_M_longestWait_29 : decode m_M_longestWait.2.1 29 = .ok (.istore_n 1, 1) := by decide +kernel
theorem d_M_longestWait_30 : decode m_M_longestWait.2.1 30 = .ok (.iconst 1, 1) := by decide +kernel
theorem d_M_longestWait_31 : decode m_M_longestWait.2.1 31 = .ok (.istore_n 2, 1) := by decide +kernel
theorem d_M_longestWait_32 : decode m_M_longestWait.2.1 32 = .ok (.iload_n 2, 1) := by decide +kernel
theorem d_M_longestWait_33 : decode m_M_longestWait.2.1 33 = .ok (.ifCond .eq 137, 3) := by decide +kernel
theorem d_M_longestWait_36 : decode m_M_longestWait.2.1 36 = .ok (.iconst 0, 1) := by decide +kernel
theorem d_M_longestWait_37 : decode m_M_longestWait.2.1 37 = .ok (.istore_n 2, 1) := by decide +kernel
theorem d_M_longestWait_38 : decode m_M_longestWait.2.1 38 = .ok (.iconst 0, 1) := by decide +kernel
theorem d_M_longestWait_39 : decode m_M_longestWait.2.1 39 = .ok (.istore_n 3, 1) := by decide +kernel
theorem d_M_longestWait_40 : decode m_M_longestWait.2.1 40 = .ok (.iload_n 3, 1) := by decide +kernel
theorem d_M_longestWait_41 : decode m_M_longestWait.2.1 41 = .ok (.aload_n 0, 1) := by decide +kernel
theorem d_M_longestWait_42 : decode m_M_longestWait.2.1 42 = .ok (.getfield 356, 3) := by decide +kernel
theorem d_M_longestWait_45 : decode m_M_longestWait.2.1 45 = .ok (.if_icmp .ge 122, 3) := by decide +kernel
theorem d_M_longestWait_48 : decode m_M_longestWait.2.1 48 = .ok (.aload_n 0, 1) := by decide +kernel
theorem d_M_longestWait_49 : decode m_M_longestWait.2.1 49 = .ok (.getfield 35, 3) := by decide +kernel
theorem d_M_longestWait_52 : decode m_M_longestWait.2.1 52 = .ok (.iload_n 3, 1) := by decide +kernel
theorem d_M_longestWait_53 : decode m_M_longestWait.2.1 53 = .ok (.iaload, 1) := by decide +kernel
theorem d_M_longestWait_54 : decode m_M_longestWait.2.1 54 = .ok (.istore 4, 2) := by decide +kernel
theorem d_M_longestWait_56 : decode m_M_longestWait.2.1 56 = .ok (.aload_n 0, 1) := by decide +kernel
theorem d_M_longestWait_57 : decode m_M_longestWait.2.1 57 = .ok (.getfield 38, 3) := by decide +kernel
theorem d_M_longestWait_60 : decode m_M_longestWait.2.1 60 = .ok (.iload 4, 2) := by decide +kernel
theorem d_M_longestWait_62 : decode m_M_longestWait.2.1 62 = .ok (.baload, 1) := by decide +kernel
theorem d_M_longestWait_63 : decode m_M_longestWait.2.1 63 = .ok (.ifCond .ne 6, 3) := by decide +kernel
theorem d_M_longestWait_66 : decode m_M_longestWait.2.1 66 = .ok (.goto 95, 3) := by decide +kernel
theorem d_M_longestWait_69 : decode m_M_longestWait.2.1 69 = .ok (.aload_n 0, 1) := by decide +kernel
theorem d_M_longestWait_70 : decode m_M_longestWait.2.1 70 = .ok (.iload 4, 2) := by decide +kernel
theorem d_M_longestWait_72 : decode m_M_longestWait.2.1 72 = .ok (.invokevirtual 362, 3) := by decide +kernel
theorem d_M_longestWait_75 : decode m_M_longestWait.2.1 75 = .ok (.aload_n 0, 1) := by decide +kernel
theorem d_M_longestWait_76 : decode m_M_longestWait.2.1 76 = .ok (.getfield 41, 3) := by decide +kernel
theorem d_M_longestWait_79 : decode m_M_longestWait.2.1 79 = .ok (.iload 4, 2) := by decide +kernel
theorem d_M_longestWait_81 : decode m_M_longestWait.2.1 81 = .ok (.iaload, 1) := by decide +kernel
theorem d_M_longestWait_82 : decode m_M_longestWait.2.1 82 = .ok (.istore 5, 2) := by decide +kernel
theorem d_M_longestWait_84 : decode m_M_longestWait.2.1 84 = .ok (.iconst 0, 1) := by decide +kernel
theorem d_M_longestWait_85 : decode m_M_longestWait.2.1 85 = .ok (.istore 6, 2) := by decide +kernel
theorem d_M_longestWait_87 : decode m_M_longestWait.2.1 87 = .ok (.iload 6, 2) := by decide +kernel
theorem d_M_longestWait_89 : decode m_M_longestWait.2.1 89 = .ok (.aload_n 0, 1) := by decide +kernel
theorem d_M_longestWait_90 : decode m_M_longestWait.2.1 90 = .ok (.getfield 350, 3) := by decide +kernel
theorem d_M_longestWait_93 : decode m_M_longestWait.2.1 93 = .ok (.if_icmp .ge 30, 3) := by decide +kernel
theorem d_M_longestWait_96 : decode m_M_longestWait.2.1 96 = .ok (.iload 5, 2) := by decide +kernel
theorem d_M_longestWait_98 : decode m_M_longestWait.2.1 98 = .ok (.iconst 1, 1) := by decide +kernel
theorem d_M_longestWait_99 : decode m_M_longestWait.2.1 99 = .ok (.aload_n 0, 1) := by decide +kernel
theorem d_M_longestWait_100 : decode m_M_longestWait.2.1 100 = .ok (.getfield 41, 3) := by decide +kernel
theorem d_M_longestWait_103 : decode m_M_longestWait.2.1 103 = .ok (.aload_n 0, 1) := by decide +kernel
theorem d_M_longestWait_104 : decode m_M_longestWait.2.1 104 = .ok (.getfield 47, 3) := by decide +kernel
theorem d_M_longestWait_107 : decode m_M_longestWait.2.1 107 = .ok (.iload 6, 2) := by decide +kernel
theorem d_M_longestWait_109 : decode m_M_longestWait.2.1 109 = .ok (.iaload, 1) := by decide +kernel
theorem d_M_longestWait_110 : decode m_M_longestWait.2.1 110 = .ok (.iaload, 1) := by decide +kernel
theorem d_M_longestWait_111 : decode m_M_longestWait.2.1 111 = .ok (.iadd, 1) := by decide +kernel
theorem d_M_longestWait_112 : decode m_M_longestWait.2.1 112 = .ok (.invokestatic 371, 3) := by decide +kernel
theorem d_M_longestWait_115 : decode m_M_longestWait.2.1 115 = .ok (.istore 5, 2) := by decide +kernel
theorem d_M_longestWait_117 : decode m_M_longestWait.2.1 117 = .ok (.iinc 6 1, 3) := by decide +kernel
theorem d_M_longestWait_120 : decode m_M_longestWait.2.1 120 = .ok (.goto (-33), 3) := by decide +kernel
theorem d_M_longestWait_123 : decode m_M_longestWait.2.1 123 = .ok (.iload_n 2, 1) := by decide +kernel
theorem d_M_longestWait_124 : decode m_M_longestWait.2.1 124 = .ok (.ifCond .ne 15, 3) := by decide +kernel
theorem d_M_longestWait_127 : decode m_M_longestWait.2.1 127 = .ok (.iload 5, 2) := by decide +kernel
theorem d_M_longestWait_129 : decode m_M_longestWait.2.1 129 = .ok (.aload_n 0, 1) := by decide +kernel
theorem d_M_longestWait_130 : decode m_M_longestWait.2.1 130 = .ok (.getfield 41, 3) := by decide +kernel
theorem d_M_longestWait_133 : decode m_M_longestWait.2.1 133 = .ok (.iload 4, 2) := by decide +kernel
theorem d_M_longestWait_135 : decode m_M_longestWait.2.1 135 = .ok (.iaload, 1) := by decide +kernel
theorem d_M_longestWait_136 : decode m_M_longestWait.2.1 136 = .ok (.if_icmp .eq 7, 3) := by decide +kernel
theorem d_M_longestWait_139 : decode m_M_longestWait.2.1 139 = .ok (.iconst 1, 1) := by decide +kernel
theorem d_M_longestWait_140 : decode m_M_longestWait.2.1 140 = .ok (.goto 4, 3) := by decide +kernel
theorem d_M_longestWait_143 : decode m_M_longestWait.2.1 143 = .ok (.iconst 0, 1) := by decide +kernel
theorem d_M_longestWait_144 : decode m_M_longestWait.2.1 144 = .ok (.istore_n 2, 1) := by decide +kernel
theorem d_M_longestWait_145 : decode m_M_longestWait.2.1 145 = .ok (.aload_n 0, 1) := by decide +kernel
theorem d_M_longestWait_146 : decode m_M_longestWait.2.1 146 = .ok (.getfield 41, 3) := by decide +kernel
theorem d_M_longestWait_149 : decode m_M_longestWait.2.1 149 = .ok (.iload 4, 2) := by decide +kernel
theorem d_M_longestWait_151 : decode m_M_longestWait.2.1 151 = .ok (.iload 5, 2) := by decide +kernel
theorem d_M_longestWait_153 : decode m_M_longestWait.2.1 153 = .ok (.iastore, 1) := by decide +kernel
theorem d_M_longestWait_154 : decode m_M_longestWait.2.1 154 = .ok (.iload_n 1, 1) := by decide +kernel
theorem d_M_longestWait_155 : decode m_M_longestWait.2.1 155 = .ok (.iload 5, 2) := by decide +kernel
theorem d_M_longestWait_157 : decode m_M_longestWait.2.1 157 = .ok (.invokestatic 371, 3) := by decide +kernel
theorem d_M_longestWait_160 : decode m_M_longestWait.2.1 160 = .ok (.istore_n 1, 1) := by decide +kernel
theorem d_M_longestWait_161 : decode m_M_longestWait.2.1 161 = .ok (.iinc 3 1, 3) := by decide +kernel
theorem d_M_longestWait_164 : decode m_M_longestWait.2.1 164 = .ok (.goto (-124), 3) := by decide +kernel
theorem d_M_longestWait_167 : decode m_M_longestWait.2.1 167 = .ok (.goto (-135), 3) := by decide +kernel
theorem d_M_longestWait_170 : decode m_M_longestWait.2.1 170 = .ok (.iload_n 1, 1) := by decide +kernel
theorem d_M_longestWait_171 : decode m_M_longestWait.2.1 171 = .ok (.ireturn, 1) := by decide +kernel
def f_M_longestWait_144 (r32 : Int → Int → qMem → Option (Int × qMem)) (r40 : Int → Int → Int → qMem → Option (Int × qMem)) (s0 x1 x3 x4 x5 : Int) (w : qMem) : Option (Int × qMem) :=
  qst w 99 10240 x4 x5 fun w1 =>
  r40 (if x1 < x5 then x5 else x1) s0 (w32 (x3 + 1)) w1
set_option maxRecDepth 4000 in
theorem s_M_longestWait_144  {r32 : Int → Int → qMem → Option (Int × qMem)} {r40 : Int → Int → Int → qMem → Option (Int × qMem)} (hr32 : ∀ (x1 x2 : Int) (w : qMem) (hx2 : x2 = 0 ∨ x2 = 1), qSim κI 100 100 m_M_longestWait 32 [] [some (qR 88), some (qI x1), some (qI x2), none, none, none, none] w (r32 x1 x2 w)) (hr40 : ∀ (x1 x2 x3 : Int) (w : qMem) (hx2 : x2 = 0 ∨ x2 = 1), qSim κI 100 100 m_M_longestWait 40 [] [some (qR 88), some (qI x1), some (qI x2), some (qI x3), none, none, none] w (r40 x1 x2 x3 w)) : ∀ (s0 x1 x3 x4 x5 : Int) (w : qMem), (s0 = 0 ∨ s0 = 1) → qSim κI 100 100 m_M_longestWait 144 [qI s0] [some (qR 88), some (qI x1), none, some (qI x3), some (qI x4), some (qI x5), none] w (f_M_longestWait_144 r32 r40 s0 x1 x3 x4 x5 w) := by
  intro s0 x1 x3 x4 x5 w hs0
  unfold f_M_longestWait_144
  refine z_istore_n (pls' := [some (qR 88), some (qI x1), some (qI s0), some (qI x3), some (qI x4), some (qI x5), none]) d_M_longestWait_144 (by decide) rfl rfl ?_
  refine z_aload_n d_M_longestWait_145 rfl ?_
  refine z_gr (ci := 10) (j := 21) (d := 11) (o2 := 99) d_M_longestWait_146 rfl fl_M_41 rfl (Nat.le_of_ble_eq_true rfl) rfl rfl ?_
  refine z_iload d_M_longestWait_149 rfl ?_
  refine z_iload d_M_longestWait_151 rfl ?_
  refine z_is d_M_longestWait_153 rfl rfl (fun w1 => ?_)
  refine z_iload_n d_M_longestWait_154 rfl ?_
  refine z_iload d_M_longestWait_155 rfl ?_
  refine z_max d_M_longestWait_157 lk_M_371 (Nat.le_of_ble_eq_true rfl) (Nat.le_of_ble_eq_true rfl) ?_
  refine z_istore_n (pls' := [some (qR 88), some (qI (if x1 < x5 then x5 else x1)), some (qI s0), some (qI x3), some (qI x4), some (qI x5), none]) d_M_longestWait_160 (by decide) rfl rfl ?_
  refine z_iinc (pls' := [some (qR 88), some (qI (if x1 < x5 then x5 else x1)), some (qI s0), some (qI (w32 (x3 + 1))), some (qI x4), some (qI x5), none]) d_M_longestWait_161 (by decide) rfl rfl rfl ?_
  refine z_goto (tgt := 40) d_M_longestWait_164 rfl ?_
  refine z_mask [true, true, true, true, false, false, false] ?_
  exact hr40 _ _ _ _ hs0
def f_M_longestWait_123 (r32 : Int → Int → qMem → Option (Int × qMem)) (r40 : Int → Int → Int → qMem → Option (Int × qMem)) (x1 x2 x3 x4 x5 : Int) (w : qMem) : Option (Int × qMem) :=
  if x2 = 0 then
  qld w 99 10240 x4 fun v3 =>
  if x5 = v3 then
  f_M_longestWait_144 r32 r40 0 x1 x3 x4 x5 w
  else
  f_M_longestWait_144 r32 r40 1 x1 x3 x4 x5 w
  else
  f_M_longestWait_144 r32 r40 1 x1 x3 x4 x5 w
set_option maxRecDepth 4000 in
theorem s_M_longestWait_123  {r32 : Int → Int → qMem → Option (Int × qMem)} {r40 : Int → Int → Int → qMem → Option (Int × qMem)} (hr32 : ∀ (x1 x2 : Int) (w : qMem) (hx2 : x2 = 0 ∨ x2 = 1), qSim κI 100 100 m_M_longestWait 32 [] [some (qR 88), some (qI x1), some (qI x2), none, none, none, none] w (r32 x1 x2 w)) (hr40 : ∀ (x1 x2 x3 : Int) (w : qMem) (hx2 : x2 = 0 ∨ x2 = 1), qSim κI 100 100 m_M_longestWait 40 [] [some (qR 88), some (qI x1), some (qI x2), some (qI x3), none, none, none] w (r40 x1 x2 x3 w)) : ∀ (x1 x2 x3 x4 x5 : Int) (w : qMem), (x2 = 0 ∨ x2 = 1) → qSim κI 100 100 m_M_longestWait 123 [] [some (qR 88), some (qI x1), some (qI x2), some (qI x3), some (qI x4), some (qI x5), none] w (f_M_longestWait_123 r32 r40 x1 x2 x3 x4 x5 w) := by
  intro x1 x2 x3 x4 x5 w hx2
  unfold f_M_longestWait_123
  refine z_iload_n d_M_longestWait_123 rfl ?_
  refine z_if_ne (tgt := 139) d_M_longestWait_124 rfl (fun c2 => ?_) (fun c2 => ?_)
  · refine z_iload d_M_longestWait_127 rfl ?_
    refine z_aload_n d_M_longestWait_129 rfl ?_
    refine z_gr (ci := 10) (j := 21) (d := 11) (o2 := 99) d_M_longestWait_130 rfl fl_M_41 rfl (Nat.le_of_ble_eq_true rfl) rfl rfl ?_
    refine z_iload d_M_longestWait_133 rfl ?_
    refine z_il d_M_longestWait_135 rfl rfl (fun v3 => ?_)
    refine z_icmp_eq (tgt := 143) d_M_longestWait_136 rfl (fun c4 => ?_) (fun c4 => ?_)
    · refine z_ic0 d_M_longestWait_143 ?_
      refine z_mask [true, true, false, true, true, true, false] ?_
      exact s_M_longestWait_144 hr32 hr40 _ _ _ _ _ _ (Or.inl rfl)
    · refine z_ic1 d_M_longestWait_139 ?_
      refine z_goto (tgt := 144) d_M_longestWait_140 rfl ?_
      refine z_mask [true, true, false, true, true, true, false] ?_
      exact s_M_longestWait_144 hr32 hr40 _ _ _ _ _ _ (Or.inr rfl)
  · refine z_ic1 d_M_longestWait_139 ?_
    refine z_goto (tgt := 144) d_M_longestWait_140 rfl ?_
    refine z_mask [true, true, false, true, true, true, false] ?_
    exact s_M_longestWait_144 hr32 hr40 _ _ _ _ _ _ (Or.inr rfl)
def f_M_longestWait_87 (r32 : Int → Int → qMem → Option (Int × qMem)) (r40 : Int → Int → Int → qMem → Option (Int × qMem)) : Nat → Int → Int → Int → Int → Int → Int → qMem → Option (Int × qMem)
  | 0, _, _, _, _, _, _, _ => none
  | n + 1, x1, x2, x3, x4, x5, x6, w =>
    if x6 < (w 88 25) then
    qld w 101 24 x6 fun v6 =>
    qld w 99 10240 v6 fun v7 =>
    (f_M_longestWait_87 r32 r40 n) x1 x2 x3 x4 (if x5 < (w32 (1 + v7)) then (w32 (1 + v7)) else x5) (w32 (x6 + 1)) w
    else
    f_M_longestWait_123 r32 r40 x1 x2 x3 x4 x5 w
set_option maxRecDepth 4000 in
theorem s_M_longestWait_87  {r32 : Int → Int → qMem → Option (Int × qMem)} {r40 : Int → Int → Int → qMem → Option (Int × qMem)} (hr32 : ∀ (x1 x2 : Int) (w : qMem) (hx2 : x2 = 0 ∨ x2 = 1), qSim κI 100 100 m_M_longestWait 32 [] [some (qR 88), some (qI x1), some (qI x2), none, none, none, none] w (r32 x1 x2 w)) (hr40 : ∀ (x1 x2 x3 : Int) (w : qMem) (hx2 : x2 = 0 ∨ x2 = 1), qSim κI 100 100 m_M_longestWait 40 [] [some (qR 88), some (qI x1), some (qI x2), some (qI x3), none, none, none] w (r40 x1 x2 x3 w)) : ∀ (n : Nat), ∀ (x1 x2 x3 x4 x5 x6 : Int) (w : qMem), (x2 = 0 ∨ x2 = 1) → qSim κI 100 100 m_M_longestWait 87 [] [some (qR 88), some (qI x1), some (qI x2), some (qI x3), some (qI x4), some (qI x5), some (qI x6)] w (f_M_longestWait_87 r32 r40 n x1 x2 x3 x4 x5 x6 w) := by
  intro n
  induction n with
  | zero => intro x1 x2 x3 x4 x5 x6 w hx2; exact z_none
  | succ n ih =>
    intro x1 x2 x3 x4 x5 x6 w hx2
    rw [f_M_longestWait_87]
    refine z_iload d_M_longestWait_87 rfl ?_
    refine z_aload_n d_M_longestWait_89 rfl ?_
    refine z_gi (ci := 10) (j := 25) (ji := 25) d_M_longestWait_90 rfl fl_M_350 rfl rfl rfl ?_
    refine z_icmp_ge (tgt := 123) d_M_longestWait_93 rfl (fun c5 => ?_) (fun c5 => ?_)
    · refine z_iload d_M_longestWait_96 rfl ?_
      refine z_ic1 d_M_longestWait_98 ?_
      refine z_aload_n d_M_longestWait_99 rfl ?_
      refine z_gr (ci := 10) (j := 21) (d := 11) (o2 := 99) d_M_longestWait_100 rfl fl_M_41 rfl (Nat.le_of_ble_eq_true rfl) rfl rfl ?_
      refine z_aload_n d_M_longestWait_103 rfl ?_
      refine z_gr (ci := 10) (j := 23) (d := 13) (o2 := 101) d_M_longestWait_104 rfl fl_M_47 rfl (Nat.le_of_ble_eq_true rfl) rfl rfl ?_
      refine z_iload d_M_longestWait_107 rfl ?_
      refine z_il d_M_longestWait_109 rfl rfl (fun v6 => ?_)
      refine z_il d_M_longestWait_110 rfl rfl (fun v7 => ?_)
      refine z_iadd d_M_longestWait_111 ?_
      refine z_max d_M_longestWait_112 lk_M_371 (Nat.le_of_ble_eq_true rfl) (Nat.le_of_ble_eq_true rfl) ?_
      refine z_istore (pls' := [some (qR 88), some (qI x1), some (qI x2), some (qI x3), some (qI x4), some (qI (if x5 < (w32 (1 + v7)) then (w32 (1 + v7)) else x5)), some (qI x6)]) d_M_longestWait_115 (by decide) rfl rfl ?_
      refine z_iinc (pls' := [some (qR 88), some (qI x1), some (qI x2), some (qI x3), some (qI x4), some (qI (if x5 < (w32 (1 + v7)) then (w32 (1 + v7)) else x5)), some (qI (w32 (x6 + 1)))]) d_M_longestWait_117 (by decide) rfl rfl rfl ?_
      refine z_goto (tgt := 87) d_M_longestWait_120 rfl ?_
      refine z_mask [true, true, true, true, true, true, true] ?_
      exact ih _ _ _ _ _ _ _ hx2
    · refine z_mask [true, true, true, true, true, true, false] ?_
      exact s_M_longestWait_123 hr32 hr40 _ _ _ _ _ _ hx2
def f_M_longestWait_40 (r32 : Int → Int → qMem → Option (Int × qMem)) : Nat → Int → Int → Int → qMem → Option (Int × qMem)
  | 0, _, _, _, _ => none
  | n + 1, x1, x2, x3, w =>
    if x3 < (w 88 19) then
    qld w 97 10240 x3 fun v9 =>
    qld w 98 10240 v9 fun v10 =>
    if v10 = 0 then
    (f_M_longestWait_40 r32 n) x1 x2 (w32 (x3 + 1)) w
    else
    (f_M_laysAfter v9 w).bind fun q13 =>
    qld q13 99 10240 v9 fun v14 =>
    f_M_longestWait_87 r32 (f_M_longestWait_40 r32 n) qFU x1 x2 x3 v9 v14 0 q13
    else
    r32 x1 x2 w
set_option maxRecDepth 4000 in
theorem s_M_longestWait_40  {r32 : Int → Int → qMem → Option (Int × qMem)} (hr32 : ∀ (x1 x2 : Int) (w : qMem) (hx2 : x2 = 0 ∨ x2 = 1), qSim κI 100 100 m_M_longestWait 32 [] [some (qR 88), some (qI x1), some (qI x2), none, none, none, none] w (r32 x1 x2 w)) : ∀ (n : Nat), ∀ (x1 x2 x3 : Int) (w : qMem), (x2 = 0 ∨ x2 = 1) → qSim κI 100 100 m_M_longestWait 40 [] [some (qR 88), some (qI x1), some (qI x2), some (qI x3), none, none, none] w (f_M_longestWait_40 r32 n x1 x2 x3 w) := by
  intro n
  induction n with
  | zero => intro x1 x2 x3 w hx2; exact z_none
  | succ n ih =>
    intro x1 x2 x3 w hx2
    rw [f_M_longestWait_40]
    refine z_iload_n d_M_longestWait_40 rfl ?_
    refine z_aload_n d_M_longestWait_41 rfl ?_
    refine z_gi (ci := 10) (j := 19) (ji := 19) d_M_longestWait_42 rfl fl_M_356 rfl rfl rfl ?_
    refine z_icmp_ge (tgt := 167) d_M_longestWait_45 rfl (fun c8 => ?_) (fun c8 => ?_)
    · refine z_aload_n d_M_longestWait_48 rfl ?_
      refine z_gr (ci := 10) (j := 18) (d := 9) (o2 := 97) d_M_longestWait_49 rfl fl_M_35 rfl (Nat.le_of_ble_eq_true rfl) rfl rfl ?_
      refine z_iload_n d_M_longestWait_52 rfl ?_
      refine z_il d_M_longestWait_53 rfl rfl (fun v9 => ?_)
      refine z_istore (pls' := [some (qR 88), some (qI x1), some (qI x2), some (qI x3), some (qI v9), none, none]) d_M_longestWait_54 (by decide) rfl rfl ?_
      refine z_aload_n d_M_longestWait_56 rfl ?_
      refine z_gr (ci := 10) (j := 20) (d := 10) (o2 := 98) d_M_longestWait_57 rfl fl_M_38 rfl (Nat.le_of_ble_eq_true rfl) rfl rfl ?_
      refine z_iload d_M_longestWait_60 rfl ?_
      refine z_zl d_M_longestWait_62 rfl rfl (fun v10 hz11 => ?_)
      refine z_if_ne (tgt := 69) d_M_longestWait_63 rfl (fun c12 => ?_) (fun c12 => ?_)
      · refine z_goto (tgt := 161) d_M_longestWait_66 rfl ?_
        refine z_iinc (pls' := [some (qR 88), some (qI x1), some (qI x2), some (qI (w32 (x3 + 1))), some (qI v9), none, none]) d_M_longestWait_161 (by decide) rfl rfl rfl ?_
        refine z_goto (tgt := 40) d_M_longestWait_164 rfl ?_
        refine z_mask [true, true, true, true, false, false, false] ?_
        exact ih _ _ _ _ hx2
      · refine z_aload_n d_M_longestWait_69 rfl ?_
        refine z_iload d_M_longestWait_70 rfl ?_
        refine z_cVV (as := [qI v9]) (st := []) (nl := 4) (ci := 10) d_M_longestWait_72 lk_M_362 mk_M_laysAfter rfl rfl rfl rfl rfl rfl (s_M_laysAfter _ _) (fun q13 _ => ?_)
        refine z_aload_n d_M_longestWait_75 rfl ?_
        refine z_gr (ci := 10) (j := 21) (d := 11) (o2 := 99) d_M_longestWait_76 rfl fl_M_41 rfl (Nat.le_of_ble_eq_true rfl) rfl rfl ?_
        refine z_iload d_M_longestWait_79 rfl ?_
        refine z_il d_M_longestWait_81 rfl rfl (fun v14 => ?_)
        refine z_istore (pls' := [some (qR 88), some (qI x1), some (qI x2), some (qI x3), some (qI v9), some (qI v14), none]) d_M_longestWait_82 (by decide) rfl rfl ?_
        refine z_ic0 d_M_longestWait_84 ?_
        refine z_istore (pls' := [some (qR 88), some (qI x1), some (qI x2), some (qI x3), some (qI v9), some (qI v14), some (qI 0)]) d_M_longestWait_85 (by decide) rfl rfl ?_
        refine z_mask [true, true, true, true, true, true, true] ?_
        exact s_M_longestWait_87 hr32 ih _ _ _ _ _ _ _ _ hx2
    · refine z_goto (tgt := 32) d_M_longestWait_167 rfl ?_
      refine z_mask [true, true, true, false, false, false, false] ?_
      exact hr32 _ _ _ hx2
def f_M_longestWait_32 : Nat → Int → Int → qMem → Option (Int × qMem)
  | 0, _, _, _ => none
  | n + 1, x1, x2, w =>
    if x2 = 0 then
    some (x1, w)
    else
    f_M_longestWait_40 (f_M_longestWait_32 n) qFU x1 0 0 w
set_option maxRecDepth 4000 in
theorem s_M_longestWait_32  : ∀ (n : Nat), ∀ (x1 x2 : Int) (w : qMem), (x2 = 0 ∨ x2 = 1) → qSim κI 100 100 m_M_longestWait 32 [] [some (qR 88), some (qI x1), some (qI x2), none, none, none, none] w (f_M_longestWait_32 n x1 x2 w) := by
  intro n
  induction n with
  | zero => intro x1 x2 w hx2; exact z_none
  | succ n ih =>
    intro x1 x2 w hx2
    rw [f_M_longestWait_32]
    refine z_iload_n d_M_longestWait_32 rfl ?_
    refine z_if_eq (tgt := 170) d_M_longestWait_33 rfl (fun c15 => ?_) (fun c15 => ?_)
    · refine z_iload_n d_M_longestWait_170 rfl ?_
      exact z_iret d_M_longestWait_171 rfl rfl
    · refine z_ic0 d_M_longestWait_36 ?_
      refine z_istore_n (pls' := [some (qR 88), some (qI x1), some (qI 0), none, none, none, none]) d_M_longestWait_37 (by decide) rfl rfl ?_
      refine z_ic0 d_M_longestWait_38 ?_
      refine z_istore_n (pls' := [some (qR 88), some (qI x1), some (qI 0), some (qI 0), none, none, none]) d_M_longestWait_39 (by decide) rfl rfl ?_
      refine z_mask [true, true, true, true, false, false, false] ?_
      exact s_M_longestWait_40 ih _ _ _ _ _ (Or.inl rfl)
def f_M_longestWait_28 (w : qMem) : Option (Int × qMem) :=
  f_M_longestWait_32 qFU 0 1 w
set_option maxRecDepth 4000 in
theorem s_M_longestWait_28  : ∀ (w : qMem), qSim κI 100 100 m_M_longestWait 28 [] [some (qR 88), none, none, none, none, none, none] w (f_M_longestWait_28 w) := by
  intro w
  unfold f_M_longestWait_28
  refine z_ic0 d_M_longestWait_28 ?_
  refine z_istore_n (pls' := [some (qR 88), some (qI 0), none, none, none, none, none]) d_M_longestWait_29 (by decide) rfl rfl ?_
  refine z_ic1 d_M_longestWait_30 ?_
  refine z_istore_n (pls' := [some (qR 88), some (qI 0), some (qI 1), none, none, none, none]) d_M_longestWait_31 (by decide) rfl rfl ?_
  refine z_mask [true, true, true, false, false, false, false] ?_
  exact s_M_longestWait_32 _ _ _ _ (Or.inr rfl)
def f_M_longestWait_2 : Nat → Int → qMem → Option (Int × qMem)
  | 0, _, _ => none
  | n + 1, x1, w =>
    if x1 < (w 88 19) then
    qld w 97 10240 x1 fun v17 =>
    qst w 99 10240 v17 0 fun w18 =>
    (f_M_longestWait_2 n) (w32 (x1 + 1)) w18
    else
    f_M_longestWait_28 w
set_option maxRecDepth 4000 in
theorem s_M_longestWait_2  : ∀ (n : Nat), ∀ (x1 : Int) (w : qMem), qSim κI 100 100 m_M_longestWait 2 [] [some (qR 88), some (qI x1), none, none, none, none, none] w (f_M_longestWait_2 n x1 w) := by
  intro n
  induction n with
  | zero => intro x1 w; exact z_none
  | succ n ih =>
    intro x1 w
    rw [f_M_longestWait_2]
    refine z_iload_n d_M_longestWait_2 rfl ?_
    refine z_aload_n d_M_longestWait_3 rfl ?_
    refine z_gi (ci := 10) (j := 19) (ji := 19) d_M_longestWait_4 rfl fl_M_356 rfl rfl rfl ?_
    refine z_icmp_ge (tgt := 28) d_M_longestWait_7 rfl (fun c16 => ?_) (fun c16 => ?_)
    · refine z_aload_n d_M_longestWait_10 rfl ?_
      refine z_gr (ci := 10) (j := 21) (d := 11) (o2 := 99) d_M_longestWait_11 rfl fl_M_41 rfl (Nat.le_of_ble_eq_true rfl) rfl rfl ?_
      refine z_aload_n d_M_longestWait_14 rfl ?_
      refine z_gr (ci := 10) (j := 18) (d := 9) (o2 := 97) d_M_longestWait_15 rfl fl_M_35 rfl (Nat.le_of_ble_eq_true rfl) rfl rfl ?_
      refine z_iload_n d_M_longestWait_18 rfl ?_
      refine z_il d_M_longestWait_19 rfl rfl (fun v17 => ?_)
      refine z_ic0 d_M_longestWait_20 ?_
      refine z_is d_M_longestWait_21 rfl rfl (fun w18 => ?_)
      refine z_iinc (pls' := [some (qR 88), some (qI (w32 (x1 + 1))), none, none, none, none, none]) d_M_longestWait_22 (by decide) rfl rfl rfl ?_
      refine z_goto (tgt := 2) d_M_longestWait_25 rfl ?_
      refine z_mask [true, true, false, false, false, false, false] ?_
      exact ih _ _
    · refine z_mask [true, false, false, false, false, false, false] ?_
      exact s_M_longestWait_28 _
def f_M_longestWait (w : qMem) : Option (Int × qMem) :=
  f_M_longestWait_2 qFU 0 w
set_option maxRecDepth 4000 in
theorem s_M_longestWait (w : qMem) : qSim κI 100 100 m_M_longestWait 0 [] [some (qR 88), none, none, none, none, none, none] w (f_M_longestWait w) := by
  unfold f_M_longestWait
  refine z_ic0 d_M_longestWait_0 ?_
  refine z_istore_n (pls' := [some (qR 88), some (qI 0), none, none, none, none, none]) d_M_longestWait_1 (by decide) rfl rfl ?_
  refine z_mask [true, true, false, false, false, false, false] ?_
  exact s_M_longestWait_2 _ _ _
/-! BubbleTorusModel.countOf -/
theorem d_M_countOf_0 : decode m_M_countOf.2.1 0 = .ok (.iconst 0, 1) := by decide +kernel
theorem d_M_countOf_1 : decode m_M_countOf.2.1 1 = .ok (.istore_n 2, 1) := by decide +kernel
theorem d_M_countOf_2 : decode m_M_countOf.2.1 2 = .ok (.iconst 0, 1) := by decide +kernel
theorem d_M_countOf_3 : decode m_M_countOf.2.1 3 = .ok (.istore_n 3, 1) := by decide +kernel
theorem d_M_countOf_4 : decode m_M_countOf.2.1 4 = .ok (.iconst 0, 1) := by decide +kernel
theorem d_M_countOf_5 : decode m_M_countOf.2.1 5 = .ok (.istore 4, 2) := by decide +kernel
theorem d_M_countOf_7 : decode m_M_countOf.2.1 7 = .ok (.iload 4, 2) := by decide +kernel
theorem d_M_countOf_9 : decode m_M_countOf.2.1 9 = .ok (.aload_n 0, 1) := by decide +kernel
theorem d_M_countOf_10 : decode m_M_countOf.2.1 10 = .ok (.getfield 356, 3) := by decide +kernel
theorem d_M_countOf_13 : decode m_M_countOf.2.1 13 = .ok (.if_icmp .ge 115, 3) := by decide +kernel
theorem d_M_countOf_16 : decode m_M_countOf.2.1 16 = .ok (.aload_n 0, 1) := by decide +kernel
theorem d_M_countOf_17 : decode m_M_countOf.2.1 17 = .ok (.aload_n 0, 1) := by decide +kernel
theorem d_M_countOf_18 : decode m_M_countOf.2.1 18 = .ok (.getfield 35, 3) := by decide +kernel
theorem d_M_countOf_21 : decode m_M_countOf.2.1 21 = .ok (.iload 4, 2) := by decide +kernel
theorem d_M_countOf_23 : decode m_M_countOf.2.1 23 = .ok (.iaload, 1) := by decide +kernel
theorem d_M_countOf_24 : decode m_M_countOf.2.1 24 = .ok (.invokevirtual 332, 3) := by decide +kernel
theorem d_M_countOf_27 : decode m_M_countOf.2.1 27 = .ok (.aload_n 0, 1) := by decide +kernel
theorem d_M_countOf_28 : decode m_M_countOf.2.1 28 = .ok (.invokevirtual 365, 3) := by decide +kernel
theorem d_M_countOf_31 : decode m_M_countOf.2.1 31 = .ok (.istore 5, 2) := by decide +kernel
theorem d_M_countOf_33 : decode m_M_countOf.2.1 33 = .ok (.iload_n 3, 1) := by decide +kernel
theorem d_M_countOf_34 : decode m_M_countOf.2.1 34 = .ok (.iload 5, 2) := by decide +kernel
theorem d_M_countOf_36 : decode m_M_countOf.2.1 36 = .ok (.invokestatic 371, 3) := by decide +kernel
theorem d_M_countOf_39 : decode m_M_countOf.2.1 39 = .ok (.istore_n 3, 1) := by decide +kernel
theorem d_M_countOf_40 : decode m_M_countOf.2.1 40 = .ok (.iload_n 2, 1) := by decide +kernel
theorem d_M_countOf_41 : decode m_M_countOf.2.1 41 = .ok (.iload_n 1, 1) := by decide +kernel
theorem d_M_countOf_42 : decode m_M_countOf.2.1 42 = .ok (.iconst 1, 1) := by decide +kernel
theorem d_M_countOf_43 : decode m_M_countOf.2.1 43 = .ok (.if_icmp .ne 25, 3) := by decide +kernel
theorem d_M_countOf_46 : decode m_M_countOf.2.1 46 = .ok (.iload 5, 2) := by decide +kernel
theorem d_M_countOf_48 : decode m_M_countOf.2.1 48 = .ok (.aload_n 0, 1) := by decide +kernel
theorem d_M_countOf_49 : decode m_M_countOf.2.1 49 = .ok (.getfield 317, 3) := by decide +kernel
theorem d_M_countOf_52 : decode m_M_countOf.2.1 52 = .ok (.aload_n 0, 1) := by decide +kernel
theorem d_M_countOf_53 : decode m_M_countOf.2.1 53 = .ok (.getfield 323, 3) := by decide +kernel
theorem d_M_countOf_56 : decode m_M_countOf.2.1 56 = .ok (.imul, 1) := by decide +kernel
theorem d_M_countOf_57 : decode m_M_countOf.2.1 57 = .ok (.if_icmp .ne 7, 3) := by decide +kernel
theorem d_M_countOf_60 : decode m_M_countOf.2.1 60 = .ok (.iconst 1, 1) := by decide +kernel
theorem d_M_countOf_61 : decode m_M_countOf.2.1 61 = .ok (.goto 59, 3) := by decide +kernel
theorem d_M_countOf_64 : decode m_M_countOf.2.1 64 = .ok (.iconst 0, 1) := by decide +kernel
theorem d_M_countOf_65 : decode m_M_countOf.2.1 65 = .ok (.goto 55, 3) := by decide +kernel
theorem d_M_countOf_68 : decode m_M_countOf.2.1 68 = .ok (.iload_n 1, 1) := by decide +kernel
theorem d_M_countOf_69 : decode m_M_countOf.2.1 69 = .ok (.iconst 2, 1) := by decide +kernel
theorem d_M_countOf_70 : decode m_M_countOf.2.1 70 = .ok (.if_icmp .ne 25, 3) := by decide +kernel
theorem d_M_countOf_73 : decode m_M_countOf.2.1 73 = .ok (.aload_n 0, 1) := by decide +kernel
theorem d_M_countOf_74 : decode m_M_countOf.2.1 74 = .ok (.aload_n 0, 1) := by decide +kernel
theorem d_M_countOf_75 : decode m_M_countOf.2.1 75 = .ok (.getfield 35, 3) := by decide +kernel
theorem d_M_countOf_78 : decode m_M_countOf.2.1 78 = .ok (.iload 4, 2) := by decide +kernel
theorem d_M_countOf_80 : decode m_M_countOf.2.1 80 = .ok (.iaload, 1) := by decide +kernel
theorem d_M_countOf_81 : decode m_M_countOf.2.1 81 = .ok (.invokevirtual 376, 3) := by decide +kernel
theorem d_M_countOf_84 : decode m_M_countOf.2.1 84 = .ok (.ifCond .eq 7, 3) := by decide +kernel
theorem d_M_countOf_87 : decode m_M_countOf.2.1 87 = .ok (.iconst 1, 1) := by decide +kernel
theorem d_M_countOf_88 : decode m_M_countOf.2.1 88 = .ok (.goto 32, 3) := by decide +kernel
theorem d_M_countOf_91 : decode m_M_countOf.2.1 91 = .ok (.iconst 0, 1) := by decide +kernel
theorem d_M_countOf_92 : decode m_M_countOf.2.1 92 = .ok (.goto 28, 3) := by decide +kernel
theorem d_M_countOf_95 : decode m_M_countOf.2.1 95 = .ok (.iload_n 1, 1) := by decide +kernel
theorem d_M_countOf_96 : decode m_M_countOf.2.1 96 = .ok (.iconst 5, 1) := by decide +kernel
theorem d_M_countOf_97 : decode m_M_countOf.2.1 97 = .ok (.if_icmp .ne 22, 3) := by decide +kernel
theorem d_M_countOf_100 : decode m_M_countOf.2.1 100 = .ok (.aload_n 0, 1) := by decide +kernel
theorem d_M_countOf_101 : decode m_M_countOf.2.1 101 = .ok (.getfield 38, 3) := by decide +kernel
theorem d_M_countOf_104 : decode m_M_countOf.2.1 104 = .ok (.aload_n 0, 1) := by decide +kernel
theorem d_M_countOf_105 : decode m_M_countOf.2.1 105 = .ok (.getfield 35, 3) := by decide +kernel
theorem d_M_countOf_108 : decode m_M_countOf.2.1 108 = .ok (.iload 4, 2) := by decide +kernel
theorem d_M_countOf_110 : decode m_M_countOf.2.1 110 = .ok (.iaload, 1) := by decide +kernel
theorem d_M_countOf_111 : decode m_M_countOf.2.1 111 = .ok (.baload, 1) := by decide +kernel
theorem d_M_countOf_112 : decode m_M_countOf.2.1 112 = .ok (.ifCond .eq 7, 3) := by decide +kernel
theorem d_M_countOf_115 : decode m_M_countOf.2.1 115 = .ok (.iconst 1, 1) := by decide +kernel
theorem d_M_countOf_116 : decode m_M_countOf.2.1 116 = .ok (.goto 4, 3) := by decide +kernel
theorem d_M_countOf_119 : decode m_M_countOf.2.1 119 = .ok (.iconst 0, 1) := by decide +kernel
theorem d_M_countOf_120 : decode m_M_countOf.2.1 120 = .ok (.iadd, 1) := by decide +kernel
theorem d_M_countOf_121 : decode m_M_countOf.2.1 121 = .ok (.istore_n 2, 1) := by decide +kernel
theorem d_M_countOf_122 : decode m_M_countOf.2.1 122 = .ok (.iinc 4 1, 3) := by decide +kernel
theorem d_M_countOf_125 : decode m_M_countOf.2.1 125 = .ok (.goto (-118), 3) := by decide +kernel
theorem d_M_countOf_128 : decode m_M_countOf.2.1 128 = .ok (.iload_n 1, 1) := by decide +kernel
theorem d_M_countOf_129 : decode m_M_countOf.2.1 129 = .ok (.iconst 4, 1) := by decide +kernel
theorem d_M_countOf_130 : decode m_M_countOf.2.1 130 = .ok (.if_icmp .ne 7, 3) := by decide +kernel
theorem d_M_countOf_133 : decode m_M_countOf.2.1 133 = .ok (.iload_n 3, 1) := by decide +kernel
theorem d_M_countOf_134 : decode m_M_countOf.2.1 134 = .ok (.goto 4, 3) := by decide +kernel
theorem d_M_countOf_137 : decode m_M_countOf.2.1 137 = .ok (.iload_n 2, 1) := by decide +kernel
theorem d_M_countOf_138 : decode m_M_countOf.2.1 138 = .ok (.ireturn, 1) := by decide +kernel
def f_M_countOf_120 (r7 : Int → Int → Int → Int → qMem → Option (Int × qMem)) (s0 s1 x1 x3 x4 : Int) (w : qMem) : Option (Int × qMem) :=
  r7 x1 (w32 (s0 + s1)) x3 (w32 (x4 + 1)) w
set_option maxRecDepth 4000 in
theorem s_M_countOf_120  {r7 : Int → Int → Int → Int → qMem → Option (Int × qMem)} (hr7 : ∀ x1 x2 x3 x4 w, qSim κI 100 100 m_M_countOf 7 [] [some (qR 88), some (qI x1), some (qI x2), some (qI x3), some (qI x4), none] w (r7 x1 x2 x3 x4 w)) : ∀ (s0 s1 x1 x3 x4 : Int) (w : qMem), (s1 = 0 ∨ s1 = 1) → qSim κI 100 100 m_M_countOf 120 [qI s1, qI s0] [some (qR 88), some (qI x1), none, some (qI x3), some (qI x4), none] w (f_M_countOf_120 r7 s0 s1 x1 x3 x4 w) := by
  intro s0 s1 x1 x3 x4 w hs1
  unfold f_M_countOf_120
  refine z_iadd d_M_countOf_120 ?_
  refine z_istore_n (pls' := [some (qR 88), some (qI x1), some (qI (w32 (s0 + s1))), some (qI x3), some (qI x4), none]) d_M_countOf_121 (by decide) rfl rfl ?_
  refine z_iinc (pls' := [some (qR 88), some (qI x1), some (qI (w32 (s0 + s1))), some (qI x3), some (qI (w32 (x4 + 1))), none]) d_M_countOf_122 (by decide) rfl rfl rfl ?_
  refine z_goto (tgt := 7) d_M_countOf_125 rfl ?_
  refine z_mask [true, true, true, true, true, false] ?_
  exact hr7 _ _ _ _ _
def f_M_countOf_128 (x1 x2 x3 : Int) (w : qMem) : Option (Int × qMem) :=
  if x1 = 4 then
  some (x3, w)
  else
  some (x2, w)
set_option maxRecDepth 4000 in
theorem s_M_countOf_128  : ∀ (x1 x2 x3 : Int) (w : qMem), qSim κI 100 100 m_M_countOf 128 [] [none, some (qI x1), some (qI x2), some (qI x3), none, none] w (f_M_countOf_128 x1 x2 x3 w) := by
  intro x1 x2 x3 w
  unfold f_M_countOf_128
  refine z_iload_n d_M_countOf_128 rfl ?_
  refine z_ic4 d_M_countOf_129 ?_
  refine z_icmp_ne (tgt := 137) d_M_countOf_130 rfl (fun c1 => ?_) (fun c1 => ?_)
  · refine z_iload_n d_M_countOf_133 rfl ?_
    refine z_goto (tgt := 138) d_M_countOf_134 rfl ?_
    exact z_iret d_M_countOf_138 rfl rfl
  · refine z_iload_n d_M_countOf_137 rfl ?_
    exact z_iret d_M_countOf_138 rfl rfl
def f_M_countOf_7 : Nat → Int → Int → Int → Int → qMem → Option (Int × qMem)
  | 0, _, _, _, _, _ => none
  | n + 1, x1, x2, x3, x4, w =>
    if x4 < (w 88 19) then
    qld w 97 10240 x4 fun v3 =>
    (f_M_opens v3 w).bind fun q4 =>
    (f_M_packetsIn q4).bind fun q5 =>
    if x1 = 1 then
    if q5.1 = (w32 ((q5.2 88 10) * (q5.2 88 11))) then
    f_M_countOf_120 (f_M_countOf_7 n) x2 1 x1 (if x3 < q5.1 then q5.1 else x3) x4 q5.2
    else
    f_M_countOf_120 (f_M_countOf_7 n) x2 0 x1 (if x3 < q5.1 then q5.1 else x3) x4 q5.2
    else
    if x1 = 2 then
    qld q5.2 97 10240 x4 fun v9 =>
    (f_M_isDeadState v9 q5.2).bind fun q10 =>
    if q10.1 = 0 then
    f_M_countOf_120 (f_M_countOf_7 n) x2 0 x1 (if x3 < q5.1 then q5.1 else x3) x4 q10.2
    else
    f_M_countOf_120 (f_M_countOf_7 n) x2 1 x1 (if x3 < q5.1 then q5.1 else x3) x4 q10.2
    else
    if x1 = 5 then
    qld q5.2 97 10240 x4 fun v13 =>
    qld q5.2 98 10240 v13 fun v14 =>
    if v14 = 0 then
    f_M_countOf_120 (f_M_countOf_7 n) x2 0 x1 (if x3 < q5.1 then q5.1 else x3) x4 q5.2
    else
    f_M_countOf_120 (f_M_countOf_7 n) x2 1 x1 (if x3 < q5.1 then q5.1 else x3) x4 q5.2
    else
    f_M_countOf_120 (f_M_countOf_7 n) x2 0 x1 (if x3 < q5.1 then q5.1 else x3) x4 q5.2
    else
    f_M_countOf_128 x1 x2 x3 w
set_option maxRecDepth 4000 in
theorem s_M_countOf_7  : ∀ (n : Nat), ∀ (x1 x2 x3 x4 : Int) (w : qMem), qSim κI 100 100 m_M_countOf 7 [] [some (qR 88), some (qI x1), some (qI x2), some (qI x3), some (qI x4), none] w (f_M_countOf_7 n x1 x2 x3 x4 w) := by
  intro n
  induction n with
  | zero => intro x1 x2 x3 x4 w; exact z_none
  | succ n ih =>
    intro x1 x2 x3 x4 w
    rw [f_M_countOf_7]
    refine z_iload d_M_countOf_7 rfl ?_
    refine z_aload_n d_M_countOf_9 rfl ?_
    refine z_gi (ci := 10) (j := 19) (ji := 19) d_M_countOf_10 rfl fl_M_356 rfl rfl rfl ?_
    refine z_icmp_ge (tgt := 128) d_M_countOf_13 rfl (fun c2 => ?_) (fun c2 => ?_)
    · refine z_aload_n d_M_countOf_16 rfl ?_
      refine z_aload_n d_M_countOf_17 rfl ?_
      refine z_gr (ci := 10) (j := 18) (d := 9) (o2 := 97) d_M_countOf_18 rfl fl_M_35 rfl (Nat.le_of_ble_eq_true rfl) rfl rfl ?_
      refine z_iload d_M_countOf_21 rfl ?_
      refine z_il d_M_countOf_23 rfl rfl (fun v3 => ?_)
      refine z_cVV (as := [qI v3]) (st := []) (nl := 2) (ci := 10) d_M_countOf_24 lk_M_332 mk_M_opens rfl rfl rfl rfl rfl rfl (s_M_opens _ _) (fun q4 _ => ?_)
      refine z_aload_n d_M_countOf_27 rfl ?_
      refine z_cVI (as := []) (st := []) (nl := 2) (ci := 10) d_M_countOf_28 lk_M_365 mk_M_packetsIn rfl rfl rfl rfl rfl rfl (s_M_packetsIn _) (fun q5 _ hq5 => ?_)
      refine z_istore (pls' := [some (qR 88), some (qI x1), some (qI x2), some (qI x3), some (qI x4), some (qI q5.1)]) d_M_countOf_31 (by decide) rfl rfl ?_
      refine z_iload_n d_M_countOf_33 rfl ?_
      refine z_iload d_M_countOf_34 rfl ?_
      refine z_max d_M_countOf_36 lk_M_371 (Nat.le_of_ble_eq_true rfl) (Nat.le_of_ble_eq_true rfl) ?_
      refine z_istore_n (pls' := [some (qR 88), some (qI x1), some (qI x2), some (qI (if x3 < q5.1 then q5.1 else x3)), some (qI x4), some (qI q5.1)]) d_M_countOf_39 (by decide) rfl rfl ?_
      refine z_iload_n d_M_countOf_40 rfl ?_
      refine z_iload_n d_M_countOf_41 rfl ?_
      refine z_ic1 d_M_countOf_42 ?_
      refine z_icmp_ne (tgt := 68) d_M_countOf_43 rfl (fun c6 => ?_) (fun c6 => ?_)
      · refine z_iload d_M_countOf_46 rfl ?_
        refine z_aload_n d_M_countOf_48 rfl ?_
        refine z_gi (ci := 10) (j := 10) (ji := 10) d_M_countOf_49 rfl fl_M_317 rfl rfl rfl ?_
        refine z_aload_n d_M_countOf_52 rfl ?_
        refine z_gi (ci := 10) (j := 11) (ji := 11) d_M_countOf_53 rfl fl_M_323 rfl rfl rfl ?_
        refine z_imul d_M_countOf_56 ?_
        refine z_icmp_ne (tgt := 64) d_M_countOf_57 rfl (fun c7 => ?_) (fun c7 => ?_)
        · refine z_ic1 d_M_countOf_60 ?_
          refine z_goto (tgt := 120) d_M_countOf_61 rfl ?_
          refine z_mask [true, true, false, true, true, false] ?_
          exact s_M_countOf_120 ih _ _ _ _ _ _ (Or.inr rfl)
        · refine z_ic0 d_M_countOf_64 ?_
          refine z_goto (tgt := 120) d_M_countOf_65 rfl ?_
          refine z_mask [true, true, false, true, true, false] ?_
          exact s_M_countOf_120 ih _ _ _ _ _ _ (Or.inl rfl)
      · refine z_iload_n d_M_countOf_68 rfl ?_
        refine z_ic2 d_M_countOf_69 ?_
        refine z_icmp_ne (tgt := 95) d_M_countOf_70 rfl (fun c8 => ?_) (fun c8 => ?_)
        · refine z_aload_n d_M_countOf_73 rfl ?_
          refine z_aload_n d_M_countOf_74 rfl ?_
          refine z_gr (ci := 10) (j := 18) (d := 9) (o2 := 97) d_M_countOf_75 rfl fl_M_35 rfl (Nat.le_of_ble_eq_true rfl) rfl rfl ?_
          refine z_iload d_M_countOf_78 rfl ?_
          refine z_il d_M_countOf_80 rfl rfl (fun v9 => ?_)
          refine z_cVI (as := [qI v9]) (st := [qI x2]) (nl := 0) (ci := 10) d_M_countOf_81 lk_M_376 mk_M_isDeadState rfl rfl rfl rfl rfl rfl (s_M_isDeadState _ _) (fun q10 _ hq10 => ?_)
          refine z_if_eq (tgt := 91) d_M_countOf_84 rfl (fun c11 => ?_) (fun c11 => ?_)
          · refine z_ic0 d_M_countOf_91 ?_
            refine z_goto (tgt := 120) d_M_countOf_92 rfl ?_
            refine z_mask [true, true, false, true, true, false] ?_
            exact s_M_countOf_120 ih _ _ _ _ _ _ (Or.inl rfl)
          · refine z_ic1 d_M_countOf_87 ?_
            refine z_goto (tgt := 120) d_M_countOf_88 rfl ?_
            refine z_mask [true, true, false, true, true, false] ?_
            exact s_M_countOf_120 ih _ _ _ _ _ _ (Or.inr rfl)
        · refine z_iload_n d_M_countOf_95 rfl ?_
          refine z_ic5 d_M_countOf_96 ?_
          refine z_icmp_ne (tgt := 119) d_M_countOf_97 rfl (fun c12 => ?_) (fun c12 => ?_)
          · refine z_aload_n d_M_countOf_100 rfl ?_
            refine z_gr (ci := 10) (j := 20) (d := 10) (o2 := 98) d_M_countOf_101 rfl fl_M_38 rfl (Nat.le_of_ble_eq_true rfl) rfl rfl ?_
            refine z_aload_n d_M_countOf_104 rfl ?_
            refine z_gr (ci := 10) (j := 18) (d := 9) (o2 := 97) d_M_countOf_105 rfl fl_M_35 rfl (Nat.le_of_ble_eq_true rfl) rfl rfl ?_
            refine z_iload d_M_countOf_108 rfl ?_
            refine z_il d_M_countOf_110 rfl rfl (fun v13 => ?_)
            refine z_zl d_M_countOf_111 rfl rfl (fun v14 hz15 => ?_)
            refine z_if_eq (tgt := 119) d_M_countOf_112 rfl (fun c16 => ?_) (fun c16 => ?_)
            · refine z_ic0 d_M_countOf_119 ?_
              refine z_mask [true, true, false, true, true, false] ?_
              exact s_M_countOf_120 ih _ _ _ _ _ _ (Or.inl rfl)
            · refine z_ic1 d_M_countOf_115 ?_
              refine z_goto (tgt := 120) d_M_countOf_116 rfl ?_
              refine z_mask [true, true, false, true, true, false] ?_
              exact s_M_countOf_120 ih _ _ _ _ _ _ (Or.inr rfl)
          · refine z_ic0 d_M_countOf_119 ?_
            refine z_mask [true, true, false, true, true, false] ?_
            exact s_M_countOf_120 ih _ _ _ _ _ _ (Or.inl rfl)
    · refine z_mask [false, true, true, true, false, false] ?_
      exact s_M_countOf_128 _ _ _ _
def f_M_countOf (x1 : Int) (w : qMem) : Option (Int × qMem) :=
  f_M_countOf_7 qFU x1 0 0 0 w
set_option maxRecDepth 4000 in
theorem s_M_countOf (x1 : Int) (w : qMem) : qSim κI 100 100 m_M_countOf 0 [] [some (qR 88), some (qI x1), none, none, none, none] w (f_M_countOf x1 w) := by
  unfold f_M_countOf
  refine z_ic0 d_M_countOf_0 ?_
  refine z_istore_n (pls' := [some (qR 88), some (qI x1), some (qI 0), none, none, none]) d_M_countOf_1 (by decide) rfl rfl ?_
  refine z_ic0 d_M_countOf_2 ?_
  refine z_istore_n (pls' := [some (qR 88), some (qI x1), some (qI 0), some (qI 0), none, none]) d_M_countOf_3 (by decide) rfl rfl ?_
  refine z_ic0 d_M_countOf_4 ?_
  refine z_istore (pls' := [some (qR 88), some (qI x1), some (qI 0), some (qI 0), some (qI 0), none]) d_M_countOf_5 (by decide) rfl rfl ?_
  refine z_mask [true, true, true, true, true, false] ?_
  exact s_M_countOf_7 _ _ _ _ _ _
/-! BubbleTorusModel.soonestDead -/
theorem d_M_soonestDead_0 : decode m_M_soonestDead.2.1 0 = .ok (.iconst 0, 1) := by decide +kernel
theorem d_M_soonestDead_1 : decode m_M_soonestDead.2.1 1 = .ok (.istore_n 1, 1) := by decide +kernel
theorem d_M_soonestDead_2 : decode m_M_soonestDead.2.1 2 = .ok (.iload_n 1, 1) := by decide +kernel
theorem d_M_soonestDead_3 : decode m_M_soonestDead.2.1 3 = .ok (.aload_n 0, 1) := by decide +kernel
theorem d_M_soonestDead_4 : decode m_M_soonestDead.2.1 4 = .ok (.getfield 356, 3) := by decide +kernel
theorem d_M_soonestDead_7 : decode m_M_soonestDead.2.1 7 = .ok (.if_icmp .ge 34, 3) := by decide +kernel
theorem d_M_soonestDead_10 : decode m_M_soonestDead.2.1 10 = .ok (.aload_n 0, 1) := by decide +kernel
theorem d_M_soonestDead_11 : decode m_M_soonestDead.2.1 11 = .ok (.aload_n 0, 1) := by decide +kernel
theorem d_M_soonestDead_12 : decode m_M_soonestDead.2.1 12 = .ok (.getfield 35, 3) := by decide +kernel
theorem d_M_soonestDead_15 : decode m_M_soonestDead.2.1 15 = .ok (.iload_n 1, 1) := by decide +kernel
theorem d_M_soonestDead_16 : decode m_M_soonestDead.2.1 16 = .ok (.iaload, 1) := by decide +kernel
theorem d_M_soonestDead_17 : decode m_M_soonestDead.2.1 17 = .ok (.invokevirtual 376, 3) := by decide +kernel
theorem d_M_soonestDead_20 : decode m_M_soonestDead.2.1 20 = .ok (.ifCond .eq 15, 3) := by decide +kernel
theorem d_M_soonestDead_23 : decode m_M_soonestDead.2.1 23 = .ok (.aload_n 0, 1) := by decide +kernel
theorem d_M_soonestDead_24 : decode m_M_soonestDead.2.1 24 = .ok (.getfield 32, 3) := by decide +kernel
theorem d_M_soonestDead_27 : decode m_M_soonestDead.2.1 27 = .ok (.aload_n 0, 1) := by decide +kernel
theorem d_M_soonestDead_28 : decode m_M_soonestDead.2.1 28 = .ok (.getfield 35, 3) := by decide +kernel
theorem d_M_soonestDead_31 : decode m_M_soonestDead.2.1 31 = .ok (.iload_n 1, 1) := by decide +kernel
theorem d_M_soonestDead_32 : decode m_M_soonestDead.2.1 32 = .ok (.iaload, 1) := by decide +kernel
theorem d_M_soonestDead_33 : decode m_M_soonestDead.2.1 33 = .ok (.iaload, 1) := by decide +kernel
theorem d_M_soonestDead_34 : decode m_M_soonestDead.2.1 34 = .ok (.ireturn, 1) := by decide +kernel
theorem d_M_soonestDead_35 : decode m_M_soonestDead.2.1 35 = .ok (.iinc 1 1, 3) := by decide +kernel
theorem d_M_soonestDead_38 : decode m_M_soonestDead.2.1 38 = .ok (.goto (-36), 3) := by decide +kernel
theorem d_M_soonestDead_41 : decode m_M_soonestDead.2.1 41 = .ok (.iconst (-1), 1) := by decide +kernel
theorem d_M_soonestDead_42 : decode m_M_soonestDead.2.1 42 = .ok (.ireturn, 1) := by decide +kernel
def f_M_soonestDead_23 (x1 : Int) (w : qMem) : Option (Int × qMem) :=
  qld w 97 10240 x1 fun v1 =>
  qld w 96 10240 v1 fun v2 =>
  some (v2, w)
set_option maxRecDepth 4000 in
theorem s_M_soonestDead_23  : ∀ (x1 : Int) (w : qMem), qSim κI 100 100 m_M_soonestDead 23 [] [some (qR 88), some (qI x1)] w (f_M_soonestDead_23 x1 w) := by
  intro x1 w
  unfold f_M_soonestDead_23
  refine z_aload_n d_M_soonestDead_23 rfl ?_
  refine z_gr (ci := 10) (j := 17) (d := 8) (o2 := 96) d_M_soonestDead_24 rfl fl_M_32 rfl (Nat.le_of_ble_eq_true rfl) rfl rfl ?_
  refine z_aload_n d_M_soonestDead_27 rfl ?_
  refine z_gr (ci := 10) (j := 18) (d := 9) (o2 := 97) d_M_soonestDead_28 rfl fl_M_35 rfl (Nat.le_of_ble_eq_true rfl) rfl rfl ?_
  refine z_iload_n d_M_soonestDead_31 rfl ?_
  refine z_il d_M_soonestDead_32 rfl rfl (fun v1 => ?_)
  refine z_il d_M_soonestDead_33 rfl rfl (fun v2 => ?_)
  exact z_iret d_M_soonestDead_34 rfl rfl
def f_M_soonestDead_2 : Nat → Int → qMem → Option (Int × qMem)
  | 0, _, _ => none
  | n + 1, x1, w =>
    if x1 < (w 88 19) then
    qld w 97 10240 x1 fun v4 =>
    (f_M_isDeadState v4 w).bind fun q5 =>
    if q5.1 = 0 then
    (f_M_soonestDead_2 n) (w32 (x1 + 1)) q5.2
    else
    f_M_soonestDead_23 x1 q5.2
    else
    some ((-1), w)
set_option maxRecDepth 4000 in
theorem s_M_soonestDead_2  : ∀ (n : Nat), ∀ (x1 : Int) (w : qMem), qSim κI 100 100 m_M_soonestDead 2 [] [some (qR 88), some (qI x1)] w (f_M_soonestDead_2 n x1 w) := by
  intro n
  induction n with
  | zero => intro x1 w; exact z_none
  | succ n ih =>
    intro x1 w
    rw [f_M_soonestDead_2]
    refine z_iload_n d_M_soonestDead_2 rfl ?_
    refine z_aload_n d_M_soonestDead_3 rfl ?_
    refine z_gi (ci := 10) (j := 19) (ji := 19) d_M_soonestDead_4 rfl fl_M_356 rfl rfl rfl ?_
    refine z_icmp_ge (tgt := 41) d_M_soonestDead_7 rfl (fun c3 => ?_) (fun c3 => ?_)
    · refine z_aload_n d_M_soonestDead_10 rfl ?_
      refine z_aload_n d_M_soonestDead_11 rfl ?_
      refine z_gr (ci := 10) (j := 18) (d := 9) (o2 := 97) d_M_soonestDead_12 rfl fl_M_35 rfl (Nat.le_of_ble_eq_true rfl) rfl rfl ?_
      refine z_iload_n d_M_soonestDead_15 rfl ?_
      refine z_il d_M_soonestDead_16 rfl rfl (fun v4 => ?_)
      refine z_cVI (as := [qI v4]) (st := []) (nl := 0) (ci := 10) d_M_soonestDead_17 lk_M_376 mk_M_isDeadState rfl rfl rfl rfl rfl rfl (s_M_isDeadState _ _) (fun q5 _ hq5 => ?_)
      refine z_if_eq (tgt := 35) d_M_soonestDead_20 rfl (fun c6 => ?_) (fun c6 => ?_)
      · refine z_iinc (pls' := [some (qR 88), some (qI (w32 (x1 + 1)))]) d_M_soonestDead_35 (by decide) rfl rfl rfl ?_
        refine z_goto (tgt := 2) d_M_soonestDead_38 rfl ?_
        refine z_mask [true, true] ?_
        exact ih _ _
      · refine z_mask [true, true] ?_
        exact s_M_soonestDead_23 _ _
    · refine z_icm1 d_M_soonestDead_41 ?_
      exact z_iret d_M_soonestDead_42 rfl rfl
def f_M_soonestDead (w : qMem) : Option (Int × qMem) :=
  f_M_soonestDead_2 qFU 0 w
set_option maxRecDepth 4000 in
theorem s_M_soonestDead (w : qMem) : qSim κI 100 100 m_M_soonestDead 0 [] [some (qR 88), none] w (f_M_soonestDead w) := by
  unfold f_M_soonestDead
  refine z_ic0 d_M_soonestDead_0 ?_
  refine z_istore_n (pls' := [some (qR 88), some (qI 0)]) d_M_soonestDead_1 (by decide) rfl rfl ?_
  refine z_mask [true, true] ?_
  exact s_M_soonestDead_2 _ _ _
/-! BubbleTorusModel.alone -/
theorem d_M_alone_0 : decode m_M_alone.2.1 0 = .ok (.iload_n 1, 1) := by decide +kernel
theorem d_M_alone_1 : decode m_M_alone.2.1 1 = .ok (.iconst 2, 1) := by decide +kernel
theorem d_M_alone_2 : decode m_M_alone.2.1 2 = .ok (.iconst 3, 1) := by decide +kernel
theorem d_M_alone_3 : decode m_M_alone.2.1 3 = .ok (.invokestatic 68, 3) := by decide +kernel
theorem d_M_alone_6 : decode m_M_alone.2.1 6 = .ok (.ifCond .eq 12, 3) := by decide +kernel
theorem d_M_alone_9 : decode m_M_alone.2.1 9 = .ok (.iload_n 2, 1) := by decide +kernel
theorem d_M_alone_10 : decode m_M_alone.2.1 10 = .ok (.iconst 1, 1) := by decide +kernel
theorem d_M_alone_11 : decode m_M_alone.2.1 11 = .ok (.iconst 3, 1) := by decide +kernel
theorem d_M_alone_12 : decode m_M_alone.2.1 12 = .ok (.invokestatic 68, 3) := by decide +kernel
theorem d_M_alone_15 : decode m_M_alone.2.1 15 = .ok (.ifCond .ne 13, 3) := by decide +kernel
theorem d_M_alone_18 : decode m_M_alone.2.1 18 = .ok (.iload_n 1, 1) := by decide +kernel
theorem d_M_alone_19 : decode m_M_alone.2.1 19 = .ok (.iconst 4, 1) := by decide +kernel
theorem d_M_alone_20 : decode m_M_alone.2.1 20 = .ok (.if_icmp .ne 12, 3) := by decide +kernel
theorem d_M_alone_23 : decode m_M_alone.2.1 23 = .ok (.iload_n 2, 1) := by decide +kernel
theorem d_M_alone_24 : decode m_M_alone.2.1 24 = .ok (.iconst 1, 1) := by decide +kernel
theorem d_M_alone_25 : decode m_M_alone.2.1 25 = .ok (.if_icmp .ne 7, 3) := by decide +kernel
theorem d_M_alone_28 : decode m_M_alone.2.1 28 = .ok (.iconst 1, 1) := by decide +kernel
theorem d_M_alone_29 : decode m_M_alone.2.1 29 = .ok (.goto 4, 3) := by decide +kernel
theorem d_M_alone_32 : decode m_M_alone.2.1 32 = .ok (.iconst 0, 1) := by decide +kernel
theorem d_M_alone_33 : decode m_M_alone.2.1 33 = .ok (.istore 5, 2) := by decide +kernel
theorem d_M_alone_35 : decode m_M_alone.2.1 35 = .ok (.iload 5, 2) := by decide +kernel
theorem d_M_alone_37 : decode m_M_alone.2.1 37 = .ok (.ifCond .eq 23, 3) := by decide +kernel
theorem d_M_alone_40 : decode m_M_alone.2.1 40 = .ok (.iload_n 3, 1) := by decide +kernel
theorem d_M_alone_41 : decode m_M_alone.2.1 41 = .ok (.iconst 0, 1) := by decide +kernel
theorem d_M_alone_42 : decode m_M_alone.2.1 42 = .ok (.iconst 2, 1) := by decide +kernel
theorem d_M_alone_43 : decode m_M_alone.2.1 43 = .ok (.invokestatic 68, 3) := by decide +kernel
theorem d_M_alone_46 : decode m_M_alone.2.1 46 = .ok (.ifCond .eq 14, 3) := by decide +kernel
theorem d_M_alone_49 : decode m_M_alone.2.1 49 = .ok (.iload 4, 2) := by decide +kernel
theorem d_M_alone_51 : decode m_M_alone.2.1 51 = .ok (.iconst 0, 1) := by decide +kernel
theorem d_M_alone_52 : decode m_M_alone.2.1 52 = .ok (.bipush 7, 2) := by decide +kernel
theorem d_M_alone_54 : decode m_M_alone.2.1 54 = .ok (.invokestatic 68, 3) := by decide +kernel
theorem d_M_alone_57 : decode m_M_alone.2.1 57 = .ok (.ifCond .ne 5, 3) := by decide +kernel
theorem d_M_alone_60 : decode m_M_alone.2.1 60 = .ok (.iconst (-1), 1) := by decide +kernel
theorem d_M_alone_61 : decode m_M_alone.2.1 61 = .ok (.ireturn, 1) := by decide +kernel
theorem d_M_alone_62 : decode m_M_alone.2.1 62 = .ok (.aload_n 0, 1) := by decide +kernel
theorem d_M_alone_63 : decode m_M_alone.2.1 63 = .ok (.iload_n 1, 1) := by decide +kernel
theorem d_M_alone_64 : decode m_M_alone.2.1 64 = .ok (.putfield 317, 3) := by decide +kernel
theorem d_M_alone_67 : decode m_M_alone.2.1 67 = .ok (.aload_n 0, 1) := by decide +kernel
theorem d_M_alone_68 : decode m_M_alone.2.1 68 = .ok (.iload_n 2, 1) := by decide +kernel
theorem d_M_alone_69 : decode m_M_alone.2.1 69 = .ok (.putfield 323, 3) := by decide +kernel
theorem d_M_alone_72 : decode m_M_alone.2.1 72 = .ok (.aload_n 0, 1) := by decide +kernel
theorem d_M_alone_73 : decode m_M_alone.2.1 73 = .ok (.iload_n 3, 1) := by decide +kernel
theorem d_M_alone_74 : decode m_M_alone.2.1 74 = .ok (.putfield 326, 3) := by decide +kernel
theorem d_M_alone_77 : decode m_M_alone.2.1 77 = .ok (.aload_n 0, 1) := by decide +kernel
theorem d_M_alone_78 : decode m_M_alone.2.1 78 = .ok (.iload_n 1, 1) := by decide +kernel
theorem d_M_alone_79 : decode m_M_alone.2.1 79 = .ok (.iconst 1, 1) := by decide +kernel
theorem d_M_alone_80 : decode m_M_alone.2.1 80 = .ok (.isub, 1) := by decide +kernel
theorem d_M_alone_81 : decode m_M_alone.2.1 81 = .ok (.putfield 302, 3) := by decide +kernel
theorem d_M_alone_84 : decode m_M_alone.2.1 84 = .ok (.aload_n 0, 1) := by decide +kernel
theorem d_M_alone_85 : decode m_M_alone.2.1 85 = .ok (.aload_n 0, 1) := by decide +kernel
theorem d_M_alone_86 : decode m_M_alone.2.1 86 = .ok (.iload_n 2, 1) := by decide +kernel
theorem d_M_alone_87 : decode m_M_alone.2.1 87 = .ok (.iconst 1, 1) := by decide +kernel
theorem d_M_alone_88 : decode m_M_alone.2.1 88 = .ok (.iadd, 1) := by decide +kernel
theorem d_M_alone_89 : decode m_M_alone.2.1 89 = .ok (.invokevirtual 308, 3) := by decide +kernel
theorem d_M_alone_92 : decode m_M_alone.2.1 92 = .ok (.putfield 320, 3) := by decide +kernel
theorem d_M_alone_95 : decode m_M_alone.2.1 95 = .ok (.aload_n 0, 1) := by decide +kernel
theorem d_M_alone_96 : decode m_M_alone.2.1 96 = .ok (.invokevirtual 379, 3) := by decide +kernel
theorem d_M_alone_99 : decode m_M_alone.2.1 99 = .ok (.iload 4, 2) := by decide +kernel
theorem d_M_alone_101 : decode m_M_alone.2.1 101 = .ok (.tableswitch 75 0 7 #[47, 75, 75, 52, 75, 75, 57, 70], 47) := by decide +kernel
theorem d_M_alone_148 : decode m_M_alone.2.1 148 = .ok (.aload_n 0, 1) := by decide +kernel
theorem d_M_alone_149 : decode m_M_alone.2.1 149 = .ok (.getfield 356, 3) := by decide +kernel
theorem d_M_alone_152 : decode m_M_alone.2.1 152 = .ok (.ireturn, 1) := by decide +kernel
theorem d_M_alone_153 : decode m_M_alone.2.1 153 = .ok (.aload_n 0, 1) := by decide +kernel
theorem d_M_alone_154 : decode m_M_alone.2.1 154 = .ok (.invokevirtual 382, 3) := by decide +kernel
theorem d_M_alone_157 : decode m_M_alone.2.1 157 = .ok (.ireturn, 1) := by decide +kernel
theorem d_M_alone_158 : decode m_M_alone.2.1 158 = .ok (.aload_n 0, 1) := by decide +kernel
theorem d_M_alone_159 : decode m_M_alone.2.1 159 = .ok (.invokevirtual 385, 3) := by decide +kernel
theorem d_M_alone_162 : decode m_M_alone.2.1 162 = .ok (.ifCond .eq 7, 3) := by decide +kernel
theorem d_M_alone_165 : decode m_M_alone.2.1 165 = .ok (.iconst 1, 1) := by decide +kernel
theorem d_M_alone_166 : decode m_M_alone.2.1 166 = .ok (.goto 4, 3) := by decide +kernel
theorem d_M_alone_169 : decode m_M_alone.2.1 169 = .ok (.iconst 0, 1) := by decide +kernel
theorem d_M_alone_170 : decode m_M_alone.2.1 170 = .ok (.ireturn, 1) := by decide +kernel
theorem d_M_alone_171 : decode m_M_alone.2.1 171 = .ok (.aload_n 0, 1) := by decide +kernel
theorem d_M_alone_172 : decode m_M_alone.2.1 172 = .ok (.invokevirtual 388, 3) := by decide +kernel
theorem d_M_alone_175 : decode m_M_alone.2.1 175 = .ok (.ireturn, 1) := by decide +kernel
theorem d_M_alone_176 : decode m_M_alone.2.1 176 = .ok (.aload_n 0, 1) := by decide +kernel
theorem d_M_alone_177 : decode m_M_alone.2.1 177 = .ok (.iload 4, 2) := by decide +kernel
theorem d_M_alone_179 : decode m_M_alone.2.1 179 = .ok (.invokevirtual 391, 3) := by decide +kernel
theorem d_M_alone_182 : decode m_M_alone.2.1 182 = .ok (.ireturn, 1) := by decide +kernel
def f_M_alone_176 (x4 : Int) (w : qMem) : Option (Int × qMem) :=
  (f_M_countOf x4 w).bind fun q1 =>
  some (q1.1, q1.2)
set_option maxRecDepth 4000 in
theorem s_M_alone_176  : ∀ (x4 : Int) (w : qMem), qSim κI 100 100 m_M_alone 176 [] [some (qR 88), none, none, none, some (qI x4), none] w (f_M_alone_176 x4 w) := by
  intro x4 w
  unfold f_M_alone_176
  refine z_aload_n d_M_alone_176 rfl ?_
  refine z_iload d_M_alone_177 rfl ?_
  refine z_cVI (as := [qI x4]) (st := []) (nl := 4) (ci := 10) d_M_alone_179 lk_M_391 mk_M_countOf rfl rfl rfl rfl rfl rfl (s_M_countOf _ _) (fun q1 _ hq1 => ?_)
  exact z_iret d_M_alone_182 rfl rfl
def f_M_alone_33 (s0 x1 x2 x3 x4 : Int) (w : qMem) : Option (Int × qMem) :=
  if s0 = 0 then
  some ((-1), w)
  else
  (f_M_isIn x3 0 2 w).bind fun q3 =>
  if q3.1 = 0 then
  some ((-1), q3.2)
  else
  (f_M_isIn x4 0 7 q3.2).bind fun q5 =>
  if q5.1 = 0 then
  some ((-1), q5.2)
  else
  qlt (qud q5.2 88 10 x1) fun w7 =>
  qlt (qud w7 88 11 x2) fun w8 =>
  qlt (qud w8 88 12 x3) fun w9 =>
  qlt (qud w9 88 13 (w32 (x1 - 1))) fun w10 =>
  (f_M_firstKind (w32 (x2 + 1)) w10).bind fun q11 =>
  qlt (qud q11.2 88 14 q11.1) fun w12 =>
  (f_M_searches w12).bind fun q13 =>
  if x4 = 0 then
  some ((q13 88 19), q13)
  else
  if x4 = 1 then
  f_M_alone_176 x4 q13
  else
  if x4 = 2 then
  f_M_alone_176 x4 q13
  else
  if x4 = 3 then
  (f_M_soonestDead q13).bind fun q18 =>
  some (q18.1, q18.2)
  else
  if x4 = 4 then
  f_M_alone_176 x4 q13
  else
  if x4 = 5 then
  f_M_alone_176 x4 q13
  else
  if x4 = 6 then
  (f_M_isStarving q13).bind fun q22 =>
  if q22.1 = 0 then
  some (0, q22.2)
  else
  some (1, q22.2)
  else
  if x4 = 7 then
  (f_M_longestWait q13).bind fun q25 =>
  some (q25.1, q25.2)
  else
  f_M_alone_176 x4 q13
set_option maxRecDepth 4000 in
theorem s_M_alone_33  : ∀ (s0 x1 x2 x3 x4 : Int) (w : qMem), (s0 = 0 ∨ s0 = 1) → qSim κI 100 100 m_M_alone 33 [qI s0] [some (qR 88), some (qI x1), some (qI x2), some (qI x3), some (qI x4), none] w (f_M_alone_33 s0 x1 x2 x3 x4 w) := by
  intro s0 x1 x2 x3 x4 w hs0
  unfold f_M_alone_33
  refine z_istore (pls' := [some (qR 88), some (qI x1), some (qI x2), some (qI x3), some (qI x4), some (qI s0)]) d_M_alone_33 (by decide) rfl rfl ?_
  refine z_iload d_M_alone_35 rfl ?_
  refine z_if_eq (tgt := 60) d_M_alone_37 rfl (fun c2 => ?_) (fun c2 => ?_)
  · refine z_icm1 d_M_alone_60 ?_
    exact z_iret d_M_alone_61 rfl rfl
  · refine z_iload_n d_M_alone_40 rfl ?_
    refine z_ic0 d_M_alone_41 ?_
    refine z_ic2 d_M_alone_42 ?_
    refine z_cSI (av := [qI x3, qI 0, qI 2]) (st := []) (nl := 0) d_M_alone_43 lk_M_68 mk_M_isIn rfl rfl rfl (s_M_isIn _ _ _ _) (fun q3 _ hq3 => ?_)
    refine z_if_eq (tgt := 60) d_M_alone_46 rfl (fun c4 => ?_) (fun c4 => ?_)
    · refine z_icm1 d_M_alone_60 ?_
      exact z_iret d_M_alone_61 rfl rfl
    · refine z_iload d_M_alone_49 rfl ?_
      refine z_ic0 d_M_alone_51 ?_
      refine z_bipush d_M_alone_52 ⟨by decide, by decide⟩ ?_
      refine z_cSI (av := [qI x4, qI 0, qI 7]) (st := []) (nl := 0) d_M_alone_54 lk_M_68 mk_M_isIn rfl rfl rfl (s_M_isIn _ _ _ _) (fun q5 _ hq5 => ?_)
      refine z_if_ne (tgt := 62) d_M_alone_57 rfl (fun c6 => ?_) (fun c6 => ?_)
      · refine z_icm1 d_M_alone_60 ?_
        exact z_iret d_M_alone_61 rfl rfl
      · refine z_aload_n d_M_alone_62 rfl ?_
        refine z_iload_n d_M_alone_63 rfl ?_
        refine z_pi (ci := 10) (j := 10) (ji := 10) d_M_alone_64 rfl fl_M_317 rfl rfl rfl rfl rfl (fun w7 => ?_)
        refine z_aload_n d_M_alone_67 rfl ?_
        refine z_iload_n d_M_alone_68 rfl ?_
        refine z_pi (ci := 10) (j := 11) (ji := 11) d_M_alone_69 rfl fl_M_323 rfl rfl rfl rfl rfl (fun w8 => ?_)
        refine z_aload_n d_M_alone_72 rfl ?_
        refine z_iload_n d_M_alone_73 rfl ?_
        refine z_pi (ci := 10) (j := 12) (ji := 12) d_M_alone_74 rfl fl_M_326 rfl rfl rfl rfl rfl (fun w9 => ?_)
        refine z_aload_n d_M_alone_77 rfl ?_
        refine z_iload_n d_M_alone_78 rfl ?_
        refine z_ic1 d_M_alone_79 ?_
        refine z_isub d_M_alone_80 ?_
        refine z_pi (ci := 10) (j := 13) (ji := 13) d_M_alone_81 rfl fl_M_302 rfl rfl rfl rfl rfl (fun w10 => ?_)
        refine z_aload_n d_M_alone_84 rfl ?_
        refine z_aload_n d_M_alone_85 rfl ?_
        refine z_iload_n d_M_alone_86 rfl ?_
        refine z_ic1 d_M_alone_87 ?_
        refine z_iadd d_M_alone_88 ?_
        refine z_cVI (as := [qI (w32 (x2 + 1))]) (st := [qR 88]) (nl := 3) (ci := 10) d_M_alone_89 lk_M_308 mk_M_firstKind rfl rfl rfl rfl rfl rfl (s_M_firstKind _ _) (fun q11 _ hq11 => ?_)
        refine z_pi (ci := 10) (j := 14) (ji := 14) d_M_alone_92 rfl fl_M_320 rfl rfl rfl rfl rfl (fun w12 => ?_)
        refine z_aload_n d_M_alone_95 rfl ?_
        refine z_cVV (as := []) (st := []) (nl := 3) (ci := 10) d_M_alone_96 lk_M_379 mk_M_searches rfl rfl rfl rfl rfl rfl (s_M_searches _) (fun q13 _ => ?_)
        refine z_iload d_M_alone_99 rfl ?_
        refine z_if (fun c14 => ?_) (fun c14 => ?_)
        · refine z_tabIn (tgt := 148) (v := 0) d_M_alone_101 c14 (by decide) (by decide) rfl rfl ?_
          refine z_aload_n d_M_alone_148 rfl ?_
          refine z_gi (ci := 10) (j := 19) (ji := 19) d_M_alone_149 rfl fl_M_356 rfl rfl rfl ?_
          exact z_iret d_M_alone_152 rfl rfl
        · refine z_if (fun c15 => ?_) (fun c15 => ?_)
          · refine z_tabIn (tgt := 176) (v := 1) d_M_alone_101 c15 (by decide) (by decide) rfl rfl ?_
            refine z_mask [true, false, false, false, true, false] ?_
            exact s_M_alone_176 _ _
          · refine z_if (fun c16 => ?_) (fun c16 => ?_)
            · refine z_tabIn (tgt := 176) (v := 2) d_M_alone_101 c16 (by decide) (by decide) rfl rfl ?_
              refine z_mask [true, false, false, false, true, false] ?_
              exact s_M_alone_176 _ _
            · refine z_if (fun c17 => ?_) (fun c17 => ?_)
              · refine z_tabIn (tgt := 153) (v := 3) d_M_alone_101 c17 (by decide) (by decide) rfl rfl ?_
                refine z_aload_n d_M_alone_153 rfl ?_
                refine z_cVI (as := []) (st := []) (nl := 1) (ci := 10) d_M_alone_154 lk_M_382 mk_M_soonestDead rfl rfl rfl rfl rfl rfl (s_M_soonestDead _) (fun q18 _ hq18 => ?_)
                exact z_iret d_M_alone_157 rfl rfl
              · refine z_if (fun c19 => ?_) (fun c19 => ?_)
                · refine z_tabIn (tgt := 176) (v := 4) d_M_alone_101 c19 (by decide) (by decide) rfl rfl ?_
                  refine z_mask [true, false, false, false, true, false] ?_
                  exact s_M_alone_176 _ _
                · refine z_if (fun c20 => ?_) (fun c20 => ?_)
                  · refine z_tabIn (tgt := 176) (v := 5) d_M_alone_101 c20 (by decide) (by decide) rfl rfl ?_
                    refine z_mask [true, false, false, false, true, false] ?_
                    exact s_M_alone_176 _ _
                  · refine z_if (fun c21 => ?_) (fun c21 => ?_)
                    · refine z_tabIn (tgt := 158) (v := 6) d_M_alone_101 c21 (by decide) (by decide) rfl rfl ?_
                      refine z_aload_n d_M_alone_158 rfl ?_
                      refine z_cVI (as := []) (st := []) (nl := 4) (ci := 10) d_M_alone_159 lk_M_385 mk_M_isStarving rfl rfl rfl rfl rfl rfl (s_M_isStarving _) (fun q22 _ hq22 => ?_)
                      refine z_if_eq (tgt := 169) d_M_alone_162 rfl (fun c23 => ?_) (fun c23 => ?_)
                      · refine z_ic0 d_M_alone_169 ?_
                        exact z_iret d_M_alone_170 rfl rfl
                      · refine z_ic1 d_M_alone_165 ?_
                        refine z_goto (tgt := 170) d_M_alone_166 rfl ?_
                        exact z_iret d_M_alone_170 rfl rfl
                    · refine z_if (fun c24 => ?_) (fun c24 => ?_)
                      · refine z_tabIn (tgt := 171) (v := 7) d_M_alone_101 c24 (by decide) (by decide) rfl rfl ?_
                        refine z_aload_n d_M_alone_171 rfl ?_
                        refine z_cVI (as := []) (st := []) (nl := 6) (ci := 10) d_M_alone_172 lk_M_388 mk_M_longestWait rfl rfl rfl rfl rfl rfl (s_M_longestWait _) (fun q25 _ hq25 => ?_)
                        exact z_iret d_M_alone_175 rfl rfl
                      · refine z_tabOut (tgt := 176) d_M_alone_101 (by omega) rfl ?_
                        refine z_mask [true, false, false, false, true, false] ?_
                        exact s_M_alone_176 _ _
def f_M_alone_18 (x1 x2 x3 x4 : Int) (w : qMem) : Option (Int × qMem) :=
  if x1 = 4 then
  if x2 = 1 then
  f_M_alone_33 1 x1 x2 x3 x4 w
  else
  f_M_alone_33 0 x1 x2 x3 x4 w
  else
  f_M_alone_33 0 x1 x2 x3 x4 w
set_option maxRecDepth 4000 in
theorem s_M_alone_18  : ∀ (x1 x2 x3 x4 : Int) (w : qMem), qSim κI 100 100 m_M_alone 18 [] [some (qR 88), some (qI x1), some (qI x2), some (qI x3), some (qI x4), none] w (f_M_alone_18 x1 x2 x3 x4 w) := by
  intro x1 x2 x3 x4 w
  unfold f_M_alone_18
  refine z_iload_n d_M_alone_18 rfl ?_
  refine z_ic4 d_M_alone_19 ?_
  refine z_icmp_ne (tgt := 32) d_M_alone_20 rfl (fun c26 => ?_) (fun c26 => ?_)
  · refine z_iload_n d_M_alone_23 rfl ?_
    refine z_ic1 d_M_alone_24 ?_
    refine z_icmp_ne (tgt := 32) d_M_alone_25 rfl (fun c27 => ?_) (fun c27 => ?_)
    · refine z_ic1 d_M_alone_28 ?_
      refine z_goto (tgt := 33) d_M_alone_29 rfl ?_
      refine z_mask [true, true, true, true, true, false] ?_
      exact s_M_alone_33 _ _ _ _ _ _ (Or.inr rfl)
    · refine z_ic0 d_M_alone_32 ?_
      refine z_mask [true, true, true, true, true, false] ?_
      exact s_M_alone_33 _ _ _ _ _ _ (Or.inl rfl)
  · refine z_ic0 d_M_alone_32 ?_
    refine z_mask [true, true, true, true, true, false] ?_
    exact s_M_alone_33 _ _ _ _ _ _ (Or.inl rfl)
def f_M_alone (x1 : Int) (x2 : Int) (x3 : Int) (x4 : Int) (w : qMem) : Option (Int × qMem) :=
  (f_M_isIn x1 2 3 w).bind fun q28 =>
  if q28.1 = 0 then
  f_M_alone_18 x1 x2 x3 x4 q28.2
  else
  (f_M_isIn x2 1 3 q28.2).bind fun q30 =>
  if q30.1 = 0 then
  f_M_alone_18 x1 x2 x3 x4 q30.2
  else
  f_M_alone_33 1 x1 x2 x3 x4 q30.2
set_option maxRecDepth 4000 in
theorem s_M_alone (x1 : Int) (x2 : Int) (x3 : Int) (x4 : Int) (w : qMem) : qSim κI 100 100 m_M_alone 0 [] [some (qR 88), some (qI x1), some (qI x2), some (qI x3), some (qI x4), none] w (f_M_alone x1 x2 x3 x4 w) := by
  unfold f_M_alone
  refine z_iload_n d_M_alone_0 rfl ?_
  refine z_ic2 d_M_alone_1 ?_
  refine z_ic3 d_M_alone_2 ?_
  refine z_cSI (av := [qI x1, qI 2, qI 3]) (st := []) (nl := 0) d_M_alone_3 lk_M_68 mk_M_isIn rfl rfl rfl (s_M_isIn _ _ _ _) (fun q28 _ hq28 => ?_)
  refine z_if_eq (tgt := 18) d_M_alone_6 rfl (fun c29 => ?_) (fun c29 => ?_)
  · refine z_mask [true, true, true, true, true, false] ?_
    exact s_M_alone_18 _ _ _ _ _
  · refine z_iload_n d_M_alone_9 rfl ?_
    refine z_ic1 d_M_alone_10 ?_
    refine z_ic3 d_M_alone_11 ?_
    refine z_cSI (av := [qI x2, qI 1, qI 3]) (st := []) (nl := 0) d_M_alone_12 lk_M_68 mk_M_isIn rfl rfl rfl (s_M_isIn _ _ _ _) (fun q30 _ hq30 => ?_)
    refine z_if_ne (tgt := 28) d_M_alone_15 rfl (fun c31 => ?_) (fun c31 => ?_)
    · refine z_mask [true, true, true, true, true, false] ?_
      exact s_M_alone_18 _ _ _ _ _
    · refine z_ic1 d_M_alone_28 ?_
      refine z_goto (tgt := 33) d_M_alone_29 rfl ?_
      refine z_mask [true, true, true, true, true, false] ?_
      exact s_M_alone_33 _ _ _ _ _ _ (Or.inr rfl)
/-! BubbleTorusModel.marksNow -/
theorem d_M_marksNow_0 : decode m_M_marksNow.2.1 0 = .ok (.iconst 0, 1) := by decide +kernel
theorem d_M_marksNow_1 : decode m_M_marksNow.2.1 1 = .ok (.istore_n 1, 1) := by decide +kernel
theorem d_M_marksNow_2 : decode m_M_marksNow.2.1 2 = .ok (.iconst 0, 1) := by decide +kernel
theorem d_M_marksNow_3 : decode m_M_marksNow.2.1 3 = .ok (.istore_n 2, 1) := by decide +kernel
theorem d_M_marksNow_4 : decode m_M_marksNow.2.1 4 = .ok (.iload_n 2, 1) := by decide +kernel
theorem d_M_marksNow_5 : decode m_M_marksNow.2.1 5 = .ok (.aload_n 0, 1) := by decide +kernel
theorem d_M_marksNow_6 : decode m_M_marksNow.2.1 6 = .ok (.invokevirtual 54, 3) := by decide +kernel
theorem d_M_marksNow_9 : decode m_M_marksNow.2.1 9 = .ok (.if_icmp .ge 32, 3) := by decide +kernel
theorem d_M_marksNow_12 : decode m_M_marksNow.2.1 12 = .ok (.iload_n 1, 1) := by decide +kernel
theorem d_M_marksNow_13 : decode m_M_marksNow.2.1 13 = .ok (.aload_n 0, 1) := by decide +kernel
theorem d_M_marksNow_14 : decode m_M_marksNow.2.1 14 = .ok (.getfield 7, 3) := by decide +kernel
theorem d_M_marksNow_17 : decode m_M_marksNow.2.1 17 = .ok (.iload_n 2, 1) := by decide +kernel
theorem d_M_marksNow_18 : decode m_M_marksNow.2.1 18 = .ok (.invokestatic 58, 3) := by decide +kernel
theorem d_M_marksNow_21 : decode m_M_marksNow.2.1 21 = .ok (.iconst 1, 1) := by decide +kernel
theorem d_M_marksNow_22 : decode m_M_marksNow.2.1 22 = .ok (.iadd, 1) := by decide +kernel
theorem d_M_marksNow_23 : decode m_M_marksNow.2.1 23 = .ok (.iaload, 1) := by decide +kernel
theorem d_M_marksNow_24 : decode m_M_marksNow.2.1 24 = .ok (.iconst (-1), 1) := by decide +kernel
theorem d_M_marksNow_25 : decode m_M_marksNow.2.1 25 = .ok (.if_icmp .ne 7, 3) := by decide +kernel
theorem d_M_marksNow_28 : decode m_M_marksNow.2.1 28 = .ok (.iconst 0, 1) := by decide +kernel
theorem d_M_marksNow_29 : decode m_M_marksNow.2.1 29 = .ok (.goto 4, 3) := by decide +kernel
theorem d_M_marksNow_32 : decode m_M_marksNow.2.1 32 = .ok (.iconst 1, 1) := by decide +kernel
theorem d_M_marksNow_33 : decode m_M_marksNow.2.1 33 = .ok (.iadd, 1) := by decide +kernel
theorem d_M_marksNow_34 : decode m_M_marksNow.2.1 34 = .ok (.istore_n 1, 1) := by decide +kernel
theorem d_M_marksNow_35 : decode m_M_marksNow.2.1 35 = .ok (.iinc 2 1, 3) := by decide +kernel
theorem d_M_marksNow_38 : decode m_M_marksNow.2.1 38 = .ok (.goto (-34), 3) := by decide +kernel
theorem d_M_marksNow_41 : decode m_M_marksNow.2.1 41 = .ok (.iload_n 1, 1) := by decide +kernel
theorem d_M_marksNow_42 : decode m_M_marksNow.2.1 42 = .ok (.ireturn, 1) := by decide +kernel
def f_M_marksNow_33 (r4 : Int → Int → qMem → Option (Int × qMem)) (s0 s1 x2 : Int) (w : qMem) : Option (Int × qMem) :=
  r4 (w32 (s0 + s1)) (w32 (x2 + 1)) w
set_option maxRecDepth 4000 in
theorem s_M_marksNow_33  {r4 : Int → Int → qMem → Option (Int × qMem)} (hr4 : ∀ x1 x2 w, qSim κI 100 100 m_M_marksNow 4 [] [some (qR 88), some (qI x1), some (qI x2)] w (r4 x1 x2 w)) : ∀ (s0 s1 x2 : Int) (w : qMem), (s1 = 0 ∨ s1 = 1) → qSim κI 100 100 m_M_marksNow 33 [qI s1, qI s0] [some (qR 88), none, some (qI x2)] w (f_M_marksNow_33 r4 s0 s1 x2 w) := by
  intro s0 s1 x2 w hs1
  unfold f_M_marksNow_33
  refine z_iadd d_M_marksNow_33 ?_
  refine z_istore_n (pls' := [some (qR 88), some (qI (w32 (s0 + s1))), some (qI x2)]) d_M_marksNow_34 (by decide) rfl rfl ?_
  refine z_iinc (pls' := [some (qR 88), some (qI (w32 (s0 + s1))), some (qI (w32 (x2 + 1)))]) d_M_marksNow_35 (by decide) rfl rfl rfl ?_
  refine z_goto (tgt := 4) d_M_marksNow_38 rfl ?_
  refine z_mask [true, true, true] ?_
  exact hr4 _ _ _
def f_M_marksNow_4 : Nat → Int → Int → qMem → Option (Int × qMem)
  | 0, _, _, _ => none
  | n + 1, x1, x2, w =>
    (f_M_rings w).bind fun q1 =>
    if x2 < q1.1 then
    (f_M_ringAt x2 q1.2).bind fun q3 =>
    qld q3.2 89 5898 (w32 (q3.1 + 1)) fun v4 =>
    if v4 = (-1) then
    f_M_marksNow_33 (f_M_marksNow_4 n) x1 0 x2 q3.2
    else
    f_M_marksNow_33 (f_M_marksNow_4 n) x1 1 x2 q3.2
    else
    some (x1, q1.2)
set_option maxRecDepth 4000 in
theorem s_M_marksNow_4  : ∀ (n : Nat), ∀ (x1 x2 : Int) (w : qMem), qSim κI 100 100 m_M_marksNow 4 [] [some (qR 88), some (qI x1), some (qI x2)] w (f_M_marksNow_4 n x1 x2 w) := by
  intro n
  induction n with
  | zero => intro x1 x2 w; exact z_none
  | succ n ih =>
    intro x1 x2 w
    rw [f_M_marksNow_4]
    refine z_iload_n d_M_marksNow_4 rfl ?_
    refine z_aload_n d_M_marksNow_5 rfl ?_
    refine z_cVI (as := []) (st := [qI x2]) (nl := 0) (ci := 10) d_M_marksNow_6 lk_M_54 mk_M_rings rfl rfl rfl rfl rfl rfl (s_M_rings _) (fun q1 _ hq1 => ?_)
    refine z_icmp_ge (tgt := 41) d_M_marksNow_9 rfl (fun c2 => ?_) (fun c2 => ?_)
    · refine z_iload_n d_M_marksNow_12 rfl ?_
      refine z_aload_n d_M_marksNow_13 rfl ?_
      refine z_gr (ci := 10) (j := 0) (d := 1) (o2 := 89) d_M_marksNow_14 rfl fl_M_7 rfl (Nat.le_of_ble_eq_true rfl) rfl rfl ?_
      refine z_iload_n d_M_marksNow_17 rfl ?_
      refine z_cSI (av := [qI x2]) (st := [qR 89, qI x1]) (nl := 0) d_M_marksNow_18 lk_M_58 mk_M_ringAt rfl rfl rfl (s_M_ringAt _ _) (fun q3 _ hq3 => ?_)
      refine z_ic1 d_M_marksNow_21 ?_
      refine z_iadd d_M_marksNow_22 ?_
      refine z_il d_M_marksNow_23 rfl rfl (fun v4 => ?_)
      refine z_icm1 d_M_marksNow_24 ?_
      refine z_icmp_ne (tgt := 32) d_M_marksNow_25 rfl (fun c5 => ?_) (fun c5 => ?_)
      · refine z_ic0 d_M_marksNow_28 ?_
        refine z_goto (tgt := 33) d_M_marksNow_29 rfl ?_
        refine z_mask [true, false, true] ?_
        exact s_M_marksNow_33 ih _ _ _ _ (Or.inl rfl)
      · refine z_ic1 d_M_marksNow_32 ?_
        refine z_mask [true, false, true] ?_
        exact s_M_marksNow_33 ih _ _ _ _ (Or.inr rfl)
    · refine z_iload_n d_M_marksNow_41 rfl ?_
      exact z_iret d_M_marksNow_42 rfl rfl
def f_M_marksNow (w : qMem) : Option (Int × qMem) :=
  f_M_marksNow_4 qFU 0 0 w
set_option maxRecDepth 4000 in
theorem s_M_marksNow (w : qMem) : qSim κI 100 100 m_M_marksNow 0 [] [some (qR 88), none, none] w (f_M_marksNow w) := by
  unfold f_M_marksNow
  refine z_ic0 d_M_marksNow_0 ?_
  refine z_istore_n (pls' := [some (qR 88), some (qI 0), none]) d_M_marksNow_1 (by decide) rfl rfl ?_
  refine z_ic0 d_M_marksNow_2 ?_
  refine z_istore_n (pls' := [some (qR 88), some (qI 0), some (qI 0)]) d_M_marksNow_3 (by decide) rfl rfl ?_
  refine z_mask [true, true, true] ?_
  exact s_M_marksNow_4 _ _ _ _
/-! BubbleTorusModel.look -/
theorem d_M_look_0 : decode m_M_look.2.1 0 = .ok (.iload_n 1, 1) := by decide +kernel
theorem d_M_look_1 : decode m_M_look.2.1 1 = .ok (.iconst 0, 1) := by decide +kernel
theorem d_M_look_2 : decode m_M_look.2.1 2 = .ok (.bipush 8, 2) := by decide +kernel
theorem d_M_look_4 : decode m_M_look.2.1 4 = .ok (.invokestatic 68, 3) := by decide +kernel
theorem d_M_look_7 : decode m_M_look.2.1 7 = .ok (.ifCond .eq 10, 3) := by decide +kernel
theorem d_M_look_10 : decode m_M_look.2.1 10 = .ok (.aload_n 0, 1) := by decide +kernel
theorem d_M_look_11 : decode m_M_look.2.1 11 = .ok (.getfield 7, 3) := by decide +kernel
theorem d_M_look_14 : decode m_M_look.2.1 14 = .ok (.iload_n 1, 1) := by decide +kernel
theorem d_M_look_15 : decode m_M_look.2.1 15 = .ok (.iaload, 1) := by decide +kernel
theorem d_M_look_16 : decode m_M_look.2.1 16 = .ok (.ireturn, 1) := by decide +kernel
theorem d_M_look_17 : decode m_M_look.2.1 17 = .ok (.iload_n 1, 1) := by decide +kernel
theorem d_M_look_18 : decode m_M_look.2.1 18 = .ok (.tableswitch 134 9 19 #[58, 64, 70, 76, 84, 92, 100, 108, 113, 118, 126], 58) := by decide +kernel
theorem d_M_look_76 : decode m_M_look.2.1 76 = .ok (.aload_n 0, 1) := by decide +kernel
theorem d_M_look_77 : decode m_M_look.2.1 77 = .ok (.iconst 0, 1) := by decide +kernel
theorem d_M_look_78 : decode m_M_look.2.1 78 = .ok (.invokevirtual 286, 3) := by decide +kernel
theorem d_M_look_81 : decode m_M_look.2.1 81 = .ok (.ireturn, 1) := by decide +kernel
theorem d_M_look_82 : decode m_M_look.2.1 82 = .ok (.aload_n 0, 1) := by decide +kernel
theorem d_M_look_83 : decode m_M_look.2.1 83 = .ok (.iconst 1, 1) := by decide +kernel
theorem d_M_look_84 : decode m_M_look.2.1 84 = .ok (.invokevirtual 286, 3) := by decide +kernel
theorem d_M_look_87 : decode m_M_look.2.1 87 = .ok (.ireturn, 1) := by decide +kernel
theorem d_M_look_88 : decode m_M_look.2.1 88 = .ok (.aload_n 0, 1) := by decide +kernel
theorem d_M_look_89 : decode m_M_look.2.1 89 = .ok (.iconst 2, 1) := by decide +kernel
theorem d_M_look_90 : decode m_M_look.2.1 90 = .ok (.invokevirtual 286, 3) := by decide +kernel
theorem d_M_look_93 : decode m_M_look.2.1 93 = .ok (.ireturn, 1) := by decide +kernel
theorem d_M_look_94 : decode m_M_look.2.1 94 = .ok (.aload_n 0, 1) := by decide +kernel
theorem d_M_look_95 : decode m_M_look.2.1 95 = .ok (.getfield 7, 3) := by decide +kernel
theorem d_M_look_98 : decode m_M_look.2.1 98 = .ok (.bipush 9, 2) := by decide +kernel
theorem d_M_look_100 : decode m_M_look.2.1 100 = .ok (.iaload, 1) := by decide +kernel
theorem d_M_look_101 : decode m_M_look.2.1 101 = .ok (.ireturn, 1) := by decide +kernel
theorem d_M_look_102 : decode m_M_look.2.1 102 = .ok (.aload_n 0, 1) := by decide +kernel
theorem d_M_look_103 : decode m_M_look.2.1 103 = .ok (.getfield 7, 3) := by decide +kernel
theorem d_M_look_106 : decode m_M_look.2.1 106 = .ok (.bipush 10, 2) := by decide +kernel
theorem d_M_look_108 : decode m_M_look.2.1 108 = .ok (.iaload, 1) := by decide +kernel
theorem d_M_look_109 : decode m_M_look.2.1 109 = .ok (.ireturn, 1) := by decide +kernel
theorem d_M_look_110 : decode m_M_look.2.1 110 = .ok (.aload_n 0, 1) := by decide +kernel
theorem d_M_look_111 : decode m_M_look.2.1 111 = .ok (.getfield 7, 3) := by decide +kernel
theorem d_M_look_114 : decode m_M_look.2.1 114 = .ok (.bipush 11, 2) := by decide +kernel
theorem d_M_look_116 : decode m_M_look.2.1 116 = .ok (.iaload, 1) := by decide +kernel
theorem d_M_look_117 : decode m_M_look.2.1 117 = .ok (.ireturn, 1) := by decide +kernel
theorem d_M_look_118 : decode m_M_look.2.1 118 = .ok (.aload_n 0, 1) := by decide +kernel
theorem d_M_look_119 : decode m_M_look.2.1 119 = .ok (.getfield 7, 3) := by decide +kernel
theorem d_M_look_122 : decode m_M_look.2.1 122 = .ok (.bipush 12, 2) := by decide +kernel
theorem d_M_look_124 : decode m_M_look.2.1 124 = .ok (.iaload, 1) := by decide +kernel
theorem d_M_look_125 : decode m_M_look.2.1 125 = .ok (.ireturn, 1) := by decide +kernel
theorem d_M_look_126 : decode m_M_look.2.1 126 = .ok (.aload_n 0, 1) := by decide +kernel
theorem d_M_look_127 : decode m_M_look.2.1 127 = .ok (.invokevirtual 394, 3) := by decide +kernel
theorem d_M_look_130 : decode m_M_look.2.1 130 = .ok (.ireturn, 1) := by decide +kernel
theorem d_M_look_131 : decode m_M_look.2.1 131 = .ok (.aload_n 0, 1) := by decide +kernel
theorem d_M_look_132 : decode m_M_look.2.1 132 = .ok (.getfield 128, 3) := by decide +kernel
theorem d_M_look_135 : decode m_M_look.2.1 135 = .ok (.ireturn, 1) := by decide +kernel
theorem d_M_look_136 : decode m_M_look.2.1 136 = .ok (.aload_n 0, 1) := by decide +kernel
theorem d_M_look_137 : decode m_M_look.2.1 137 = .ok (.getfield 7, 3) := by decide +kernel
theorem d_M_look_140 : decode m_M_look.2.1 140 = .ok (.bipush 13, 2) := by decide +kernel
theorem d_M_look_142 : decode m_M_look.2.1 142 = .ok (.iaload, 1) := by decide +kernel
theorem d_M_look_143 : decode m_M_look.2.1 143 = .ok (.ireturn, 1) := by decide +kernel
theorem d_M_look_144 : decode m_M_look.2.1 144 = .ok (.aload_n 0, 1) := by decide +kernel
theorem d_M_look_145 : decode m_M_look.2.1 145 = .ok (.getfield 7, 3) := by decide +kernel
theorem d_M_look_148 : decode m_M_look.2.1 148 = .ok (.bipush 14, 2) := by decide +kernel
theorem d_M_look_150 : decode m_M_look.2.1 150 = .ok (.iaload, 1) := by decide +kernel
theorem d_M_look_151 : decode m_M_look.2.1 151 = .ok (.ireturn, 1) := by decide +kernel
theorem d_M_look_152 : decode m_M_look.2.1 152 = .ok (.bipush (-10), 2) := by decide +kernel
theorem d_M_look_154 : decode m_M_look.2.1 154 = .ok (.ireturn, 1) := by decide +kernel
def f_M_look (x1 : Int) (w : qMem) : Option (Int × qMem) :=
  (f_M_isIn x1 0 8 w).bind fun q1 =>
  if q1.1 = 0 then
  if x1 = 9 then
  (f_M_inLane 0 q1.2).bind fun q4 =>
  some (q4.1, q4.2)
  else
  if x1 = 10 then
  (f_M_inLane 1 q1.2).bind fun q6 =>
  some (q6.1, q6.2)
  else
  if x1 = 11 then
  (f_M_inLane 2 q1.2).bind fun q8 =>
  some (q8.1, q8.2)
  else
  if x1 = 12 then
  qld q1.2 89 5898 9 fun v10 =>
  some (v10, q1.2)
  else
  if x1 = 13 then
  qld q1.2 89 5898 10 fun v12 =>
  some (v12, q1.2)
  else
  if x1 = 14 then
  qld q1.2 89 5898 11 fun v14 =>
  some (v14, q1.2)
  else
  if x1 = 15 then
  qld q1.2 89 5898 12 fun v16 =>
  some (v16, q1.2)
  else
  if x1 = 16 then
  (f_M_marksNow q1.2).bind fun q18 =>
  some (q18.1, q18.2)
  else
  if x1 = 17 then
  some ((q1.2 88 2), q1.2)
  else
  if x1 = 18 then
  qld q1.2 89 5898 13 fun v21 =>
  some (v21, q1.2)
  else
  if x1 = 19 then
  qld q1.2 89 5898 14 fun v23 =>
  some (v23, q1.2)
  else
  some ((-10), q1.2)
  else
  qld q1.2 89 5898 x1 fun v24 =>
  some (v24, q1.2)
set_option maxRecDepth 4000 in
theorem s_M_look (x1 : Int) (w : qMem) : qSim κI 100 100 m_M_look 0 [] [some (qR 88), some (qI x1)] w (f_M_look x1 w) := by
  unfold f_M_look
  refine z_iload_n d_M_look_0 rfl ?_
  refine z_ic0 d_M_look_1 ?_
  refine z_bipush d_M_look_2 ⟨by decide, by decide⟩ ?_
  refine z_cSI (av := [qI x1, qI 0, qI 8]) (st := []) (nl := 0) d_M_look_4 lk_M_68 mk_M_isIn rfl rfl rfl (s_M_isIn _ _ _ _) (fun q1 _ hq1 => ?_)
  refine z_if_eq (tgt := 17) d_M_look_7 rfl (fun c2 => ?_) (fun c2 => ?_)
  · refine z_iload_n d_M_look_17 rfl ?_
    refine z_if (fun c3 => ?_) (fun c3 => ?_)
    · refine z_tabIn (tgt := 76) (v := 9) d_M_look_18 c3 (by decide) (by decide) rfl rfl ?_
      refine z_aload_n d_M_look_76 rfl ?_
      refine z_ic0 d_M_look_77 ?_
      refine z_cVI (as := [qI 0]) (st := []) (nl := 3) (ci := 10) d_M_look_78 lk_M_286 mk_M_inLane rfl rfl rfl rfl rfl rfl (s_M_inLane _ _) (fun q4 _ hq4 => ?_)
      exact z_iret d_M_look_81 rfl rfl
    · refine z_if (fun c5 => ?_) (fun c5 => ?_)
      · refine z_tabIn (tgt := 82) (v := 10) d_M_look_18 c5 (by decide) (by decide) rfl rfl ?_
        refine z_aload_n d_M_look_82 rfl ?_
        refine z_ic1 d_M_look_83 ?_
        refine z_cVI (as := [qI 1]) (st := []) (nl := 3) (ci := 10) d_M_look_84 lk_M_286 mk_M_inLane rfl rfl rfl rfl rfl rfl (s_M_inLane _ _) (fun q6 _ hq6 => ?_)
        exact z_iret d_M_look_87 rfl rfl
      · refine z_if (fun c7 => ?_) (fun c7 => ?_)
        · refine z_tabIn (tgt := 88) (v := 11) d_M_look_18 c7 (by decide) (by decide) rfl rfl ?_
          refine z_aload_n d_M_look_88 rfl ?_
          refine z_ic2 d_M_look_89 ?_
          refine z_cVI (as := [qI 2]) (st := []) (nl := 3) (ci := 10) d_M_look_90 lk_M_286 mk_M_inLane rfl rfl rfl rfl rfl rfl (s_M_inLane _ _) (fun q8 _ hq8 => ?_)
          exact z_iret d_M_look_93 rfl rfl
        · refine z_if (fun c9 => ?_) (fun c9 => ?_)
          · refine z_tabIn (tgt := 94) (v := 12) d_M_look_18 c9 (by decide) (by decide) rfl rfl ?_
            refine z_aload_n d_M_look_94 rfl ?_
            refine z_gr (ci := 10) (j := 0) (d := 1) (o2 := 89) d_M_look_95 rfl fl_M_7 rfl (Nat.le_of_ble_eq_true rfl) rfl rfl ?_
            refine z_bipush d_M_look_98 ⟨by decide, by decide⟩ ?_
            refine z_il d_M_look_100 rfl rfl (fun v10 => ?_)
            exact z_iret d_M_look_101 rfl rfl
          · refine z_if (fun c11 => ?_) (fun c11 => ?_)
            · refine z_tabIn (tgt := 102) (v := 13) d_M_look_18 c11 (by decide) (by decide) rfl rfl ?_
              refine z_aload_n d_M_look_102 rfl ?_
              refine z_gr (ci := 10) (j := 0) (d := 1) (o2 := 89) d_M_look_103 rfl fl_M_7 rfl (Nat.le_of_ble_eq_true rfl) rfl rfl ?_
              refine z_bipush d_M_look_106 ⟨by decide, by decide⟩ ?_
              refine z_il d_M_look_108 rfl rfl (fun v12 => ?_)
              exact z_iret d_M_look_109 rfl rfl
            · refine z_if (fun c13 => ?_) (fun c13 => ?_)
              · refine z_tabIn (tgt := 110) (v := 14) d_M_look_18 c13 (by decide) (by decide) rfl rfl ?_
                refine z_aload_n d_M_look_110 rfl ?_
                refine z_gr (ci := 10) (j := 0) (d := 1) (o2 := 89) d_M_look_111 rfl fl_M_7 rfl (Nat.le_of_ble_eq_true rfl) rfl rfl ?_
                refine z_bipush d_M_look_114 ⟨by decide, by decide⟩ ?_
                refine z_il d_M_look_116 rfl rfl (fun v14 => ?_)
                exact z_iret d_M_look_117 rfl rfl
              · refine z_if (fun c15 => ?_) (fun c15 => ?_)
                · refine z_tabIn (tgt := 118) (v := 15) d_M_look_18 c15 (by decide) (by decide) rfl rfl ?_
                  refine z_aload_n d_M_look_118 rfl ?_
                  refine z_gr (ci := 10) (j := 0) (d := 1) (o2 := 89) d_M_look_119 rfl fl_M_7 rfl (Nat.le_of_ble_eq_true rfl) rfl rfl ?_
                  refine z_bipush d_M_look_122 ⟨by decide, by decide⟩ ?_
                  refine z_il d_M_look_124 rfl rfl (fun v16 => ?_)
                  exact z_iret d_M_look_125 rfl rfl
                · refine z_if (fun c17 => ?_) (fun c17 => ?_)
                  · refine z_tabIn (tgt := 126) (v := 16) d_M_look_18 c17 (by decide) (by decide) rfl rfl ?_
                    refine z_aload_n d_M_look_126 rfl ?_
                    refine z_cVI (as := []) (st := []) (nl := 2) (ci := 10) d_M_look_127 lk_M_394 mk_M_marksNow rfl rfl rfl rfl rfl rfl (s_M_marksNow _) (fun q18 _ hq18 => ?_)
                    exact z_iret d_M_look_130 rfl rfl
                  · refine z_if (fun c19 => ?_) (fun c19 => ?_)
                    · refine z_tabIn (tgt := 131) (v := 17) d_M_look_18 c19 (by decide) (by decide) rfl rfl ?_
                      refine z_aload_n d_M_look_131 rfl ?_
                      refine z_gi (ci := 10) (j := 2) (ji := 2) d_M_look_132 rfl fl_M_128 rfl rfl rfl ?_
                      exact z_iret d_M_look_135 rfl rfl
                    · refine z_if (fun c20 => ?_) (fun c20 => ?_)
                      · refine z_tabIn (tgt := 136) (v := 18) d_M_look_18 c20 (by decide) (by decide) rfl rfl ?_
                        refine z_aload_n d_M_look_136 rfl ?_
                        refine z_gr (ci := 10) (j := 0) (d := 1) (o2 := 89) d_M_look_137 rfl fl_M_7 rfl (Nat.le_of_ble_eq_true rfl) rfl rfl ?_
                        refine z_bipush d_M_look_140 ⟨by decide, by decide⟩ ?_
                        refine z_il d_M_look_142 rfl rfl (fun v21 => ?_)
                        exact z_iret d_M_look_143 rfl rfl
                      · refine z_if (fun c22 => ?_) (fun c22 => ?_)
                        · refine z_tabIn (tgt := 144) (v := 19) d_M_look_18 c22 (by decide) (by decide) rfl rfl ?_
                          refine z_aload_n d_M_look_144 rfl ?_
                          refine z_gr (ci := 10) (j := 0) (d := 1) (o2 := 89) d_M_look_145 rfl fl_M_7 rfl (Nat.le_of_ble_eq_true rfl) rfl rfl ?_
                          refine z_bipush d_M_look_148 ⟨by decide, by decide⟩ ?_
                          refine z_il d_M_look_150 rfl rfl (fun v23 => ?_)
                          exact z_iret d_M_look_151 rfl rfl
                        · refine z_tabOut (tgt := 152) d_M_look_18 (by omega) rfl ?_
                          refine z_bipush d_M_look_152 ⟨by decide, by decide⟩ ?_
                          exact z_iret d_M_look_154 rfl rfl
  · refine z_aload_n d_M_look_10 rfl ?_
    refine z_gr (ci := 10) (j := 0) (d := 1) (o2 := 89) d_M_look_11 rfl fl_M_7 rfl (Nat.le_of_ble_eq_true rfl) rfl rfl ?_
    refine z_iload_n d_M_look_14 rfl ?_
    refine z_il d_M_look_15 rfl rfl (fun v24 => ?_)
    exact z_iret d_M_look_16 rfl rfl
