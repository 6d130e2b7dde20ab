/-! BubbleTorus$Packets.nodeBehind -/
theorem d_P_nodeBehind_0 : decode m_P_nodeBehind.2.1 0 = .ok (.iload_n 2, 1) := by decide +kernel
theorem d_P_nodeBehind_1 : decode m_P_nodeBehind.2.1 1 = .ok (.ifCond .lt 31, 3) := by decide +kernel
theorem d_P_nodeBehind_4 : decode m_P_nodeBehind.2.1 4 = .ok (.iload_n 2, 1) := by decide +kernel
theorem d_P_nodeBehind_5 : decode m_P_nodeBehind.2.1 5 = .ok (.aload_n 0, 1) := by decide +kernel
theorem d_P_nodeBehind_6 : decode m_P_nodeBehind.2.1 6 = .ok (.getfield 30, 3) := by decide +kernel
theorem d_P_nodeBehind_9 : decode m_P_nodeBehind.2.1 9 = .ok (.iload_n 1, 1) := by decide +kernel
theorem d_P_nodeBehind_10 : decode m_P_nodeBehind.2.1 10 = .ok (.iaload, 1) := by decide +kernel
theorem d_P_nodeBehind_11 : decode m_P_nodeBehind.2.1 11 = .ok (.if_icmp .gt 21, 3) := by decide +kernel
theorem d_P_nodeBehind_14 : decode m_P_nodeBehind.2.1 14 = .ok (.iload_n 2, 1) := by decide +kernel
theorem d_P_nodeBehind_15 : decode m_P_nodeBehind.2.1 15 = .ok (.iconst 5, 1) := by decide +kernel
theorem d_P_nodeBehind_16 : decode m_P_nodeBehind.2.1 16 = .ok (.if_icmp .ge 16, 3) := by decide +kernel
theorem d_P_nodeBehind_19 : decode m_P_nodeBehind.2.1 19 = .ok (.aload_n 0, 1) := by decide +kernel
theorem d_P_nodeBehind_20 : decode m_P_nodeBehind.2.1 20 = .ok (.getfield 48, 3) := by decide +kernel
theorem d_P_nodeBehind_23 : decode m_P_nodeBehind.2.1 23 = .ok (.iload_n 1, 1) := by decide +kernel
theorem d_P_nodeBehind_24 : decode m_P_nodeBehind.2.1 24 = .ok (.iconst 5, 1) := by decide +kernel
theorem d_P_nodeBehind_25 : decode m_P_nodeBehind.2.1 25 = .ok (.imul, 1) := by decide +kernel
theorem d_P_nodeBehind_26 : decode m_P_nodeBehind.2.1 26 = .ok (.iload_n 2, 1) := by decide +kernel
theorem d_P_nodeBehind_27 : decode m_P_nodeBehind.2.1 27 = .ok (.iadd, 1) := by decide +kernel
theorem d_P_nodeBehind_28 : decode m_P_nodeBehind.2.1 28 = .ok (.iaload, 1) := by decide +kernel
theorem d_P_nodeBehind_29 : decode m_P_nodeBehind.2.1 29 = .ok (.goto 4, 3) := by decide +kernel
theorem d_P_nodeBehind_32 : decode m_P_nodeBehind.2.1 32 = .ok (.iconst (-1), 1) := by decide +kernel
theorem d_P_nodeBehind_33 : decode m_P_nodeBehind.2.1 33 = .ok (.ireturn, 1) := by decide +kernel
def f_P_nodeBehind (o : Nat) (x1 : Int) (x2 : Int) (w : qMem) : Option (Int × qMem) :=
  if x2 < 0 then
  some ((-1), w)
  else
  qld w (o + 7) 250 x1 fun v2 =>
  if x2 ≤ v2 then
  if x2 < 5 then
  qld w (o + 13) 1250 (w32 ((w32 (x1 * 5)) + x2)) fun v5 =>
  some (v5, w)
  else
  some ((-1), w)
  else
  some ((-1), w)
set_option maxRecDepth 4000 in
theorem s_P_nodeBehind {ph : Nat} {o : Nat} (x1 : Int) (x2 : Int) (hI : qIs kLP ph o) (w : qMem) : qSim κI ph ph m_P_nodeBehind 0 [] [some (qR o), some (qI x1), some (qI x2)] w (f_P_nodeBehind o x1 x2 w) := by
  unfold f_P_nodeBehind
  refine z_iload_n d_P_nodeBehind_0 rfl ?_
  refine z_if_lt (tgt := 32) d_P_nodeBehind_1 rfl (fun c1 => ?_) (fun c1 => ?_)
  · refine z_icm1 d_P_nodeBehind_32 ?_
    exact z_iret d_P_nodeBehind_33 rfl rfl
  · refine z_iload_n d_P_nodeBehind_4 rfl ?_
    refine z_aload_n d_P_nodeBehind_5 rfl ?_
    refine z_gr (ci := 5) (j := 6) (d := 7) (o2 := (o + 7)) d_P_nodeBehind_6 rfl fl_P_30 (hI 0 _ rfl).1 ((hI 0 _ rfl).2 (Nat.le_of_ble_eq_true rfl)) rfl rfl ?_
    refine z_iload_n d_P_nodeBehind_9 rfl ?_
    refine z_il d_P_nodeBehind_10 (hI 7 _ rfl).1 rfl (fun v2 => ?_)
    refine z_icmp_gt (tgt := 32) d_P_nodeBehind_11 rfl (fun c3 => ?_) (fun c3 => ?_)
    · refine z_iload_n d_P_nodeBehind_14 rfl ?_
      refine z_ic5 d_P_nodeBehind_15 ?_
      refine z_icmp_ge (tgt := 32) d_P_nodeBehind_16 rfl (fun c4 => ?_) (fun c4 => ?_)
      · refine z_aload_n d_P_nodeBehind_19 rfl ?_
        refine z_gr (ci := 5) (j := 12) (d := 13) (o2 := (o + 13)) d_P_nodeBehind_20 rfl fl_P_48 (hI 0 _ rfl).1 ((hI 0 _ rfl).2 (Nat.le_of_ble_eq_true rfl)) rfl rfl ?_
        refine z_iload_n d_P_nodeBehind_23 rfl ?_
        refine z_ic5 d_P_nodeBehind_24 ?_
        refine z_imul d_P_nodeBehind_25 ?_
        refine z_iload_n d_P_nodeBehind_26 rfl ?_
        refine z_iadd d_P_nodeBehind_27 ?_
        refine z_il d_P_nodeBehind_28 (hI 13 _ rfl).1 rfl (fun v5 => ?_)
        refine z_goto (tgt := 33) d_P_nodeBehind_29 rfl ?_
        exact z_iret d_P_nodeBehind_33 rfl rfl
      · refine z_icm1 d_P_nodeBehind_32 ?_
        exact z_iret d_P_nodeBehind_33 rfl rfl
    · refine z_icm1 d_P_nodeBehind_32 ?_
      exact z_iret d_P_nodeBehind_33 rfl rfl
/-! BubbleTorus$Packets.sentFrom -/
theorem d_P_sentFrom_0 : decode m_P_sentFrom.2.1 0 = .ok (.iconst 0, 1) := by decide +kernel
theorem d_P_sentFrom_1 : decode m_P_sentFrom.2.1 1 = .ok (.istore_n 2, 1) := by decide +kernel
theorem d_P_sentFrom_2 : decode m_P_sentFrom.2.1 2 = .ok (.iconst 0, 1) := by decide +kernel
theorem d_P_sentFrom_3 : decode m_P_sentFrom.2.1 3 = .ok (.istore_n 3, 1) := by decide +kernel
theorem d_P_sentFrom_4 : decode m_P_sentFrom.2.1 4 = .ok (.iload_n 3, 1) := by decide +kernel
theorem d_P_sentFrom_5 : decode m_P_sentFrom.2.1 5 = .ok (.aload_n 0, 1) := by decide +kernel
theorem d_P_sentFrom_6 : decode m_P_sentFrom.2.1 6 = .ok (.getfield 51, 3) := by decide +kernel
theorem d_P_sentFrom_9 : decode m_P_sentFrom.2.1 9 = .ok (.if_icmp .ge 22, 3) := by decide +kernel
theorem d_P_sentFrom_12 : decode m_P_sentFrom.2.1 12 = .ok (.aload_n 0, 1) := by decide +kernel
theorem d_P_sentFrom_13 : decode m_P_sentFrom.2.1 13 = .ok (.getfield 9, 3) := by decide +kernel
theorem d_P_sentFrom_16 : decode m_P_sentFrom.2.1 16 = .ok (.iload_n 3, 1) := by decide +kernel
theorem d_P_sentFrom_17 : decode m_P_sentFrom.2.1 17 = .ok (.iaload, 1) := by decide +kernel
theorem d_P_sentFrom_18 : decode m_P_sentFrom.2.1 18 = .ok (.iload_n 1, 1) := by decide +kernel
theorem d_P_sentFrom_19 : decode m_P_sentFrom.2.1 19 = .ok (.if_icmp .ne 6, 3) := by decide +kernel
theorem d_P_sentFrom_22 : decode m_P_sentFrom.2.1 22 = .ok (.iinc 2 1, 3) := by decide +kernel
theorem d_P_sentFrom_25 : decode m_P_sentFrom.2.1 25 = .ok (.iinc 3 1, 3) := by decide +kernel
theorem d_P_sentFrom_28 : decode m_P_sentFrom.2.1 28 = .ok (.goto (-24), 3) := by decide +kernel
theorem d_P_sentFrom_31 : decode m_P_sentFrom.2.1 31 = .ok (.iload_n 2, 1) := by decide +kernel
theorem d_P_sentFrom_32 : decode m_P_sentFrom.2.1 32 = .ok (.ireturn, 1) := by decide +kernel
def f_P_sentFrom_4 (o : Nat) : Nat → Int → Int → Int → qMem → Option (Int × qMem)
  | 0, _, _, _, _ => none
  | n + 1, x1, x2, x3, w =>
    if x3 < (w o 13) then
    qld w (o + 1) 250 x3 fun v2 =>
    if v2 = x1 then
    (f_P_sentFrom_4 o n) x1 (w32 (x2 + 1)) (w32 (x3 + 1)) w
    else
    (f_P_sentFrom_4 o n) x1 x2 (w32 (x3 + 1)) w
    else
    some (x2, w)
set_option maxRecDepth 4000 in
theorem s_P_sentFrom_4 {ph : Nat} {o : Nat} (hI : qIs kLP ph o) : ∀ (n : Nat), ∀ (x1 x2 x3 : Int) (w : qMem), qSim κI ph ph m_P_sentFrom 4 [] [some (qR o), some (qI x1), some (qI x2), some (qI x3)] w (f_P_sentFrom_4 o n x1 x2 x3 w) := by
  intro n
  induction n with
  | zero => intro x1 x2 x3 w; exact z_none
  | succ n ih =>
    intro x1 x2 x3 w
    rw [f_P_sentFrom_4]
    refine z_iload_n d_P_sentFrom_4 rfl ?_
    refine z_aload_n d_P_sentFrom_5 rfl ?_
    refine z_gi (ci := 5) (j := 13) (ji := 13) d_P_sentFrom_6 rfl fl_P_51 (hI 0 _ rfl).1 rfl rfl ?_
    refine z_icmp_ge (tgt := 31) d_P_sentFrom_9 rfl (fun c1 => ?_) (fun c1 => ?_)
    · refine z_aload_n d_P_sentFrom_12 rfl ?_
      refine z_gr (ci := 5) (j := 0) (d := 1) (o2 := (o + 1)) d_P_sentFrom_13 rfl fl_P_9 (hI 0 _ rfl).1 ((hI 0 _ rfl).2 (Nat.le_of_ble_eq_true rfl)) rfl rfl ?_
      refine z_iload_n d_P_sentFrom_16 rfl ?_
      refine z_il d_P_sentFrom_17 (hI 1 _ rfl).1 rfl (fun v2 => ?_)
      refine z_iload_n d_P_sentFrom_18 rfl ?_
      refine z_icmp_ne (tgt := 25) d_P_sentFrom_19 rfl (fun c3 => ?_) (fun c3 => ?_)
      · refine z_iinc (pls' := [some (qR o), some (qI x1), some (qI (w32 (x2 + 1))), some (qI x3)]) d_P_sentFrom_22 (by decide) rfl rfl rfl ?_
        refine z_iinc (pls' := [some (qR o), some (qI x1), some (qI (w32 (x2 + 1))), some (qI (w32 (x3 + 1)))]) d_P_sentFrom_25 (by decide) rfl rfl rfl ?_
        refine z_goto (tgt := 4) d_P_sentFrom_28 rfl ?_
        refine z_mask [true, true, true, true] ?_
        exact ih _ _ _ _
      · refine z_iinc (pls' := [some (qR o), some (qI x1), some (qI x2), some (qI (w32 (x3 + 1)))]) d_P_sentFrom_25 (by decide) rfl rfl rfl ?_
        refine z_goto (tgt := 4) d_P_sentFrom_28 rfl ?_
        refine z_mask [true, true, true, true] ?_
        exact ih _ _ _ _
    · refine z_iload_n d_P_sentFrom_31 rfl ?_
      exact z_iret d_P_sentFrom_32 rfl rfl
def f_P_sentFrom (o : Nat) (x1 : Int) (w : qMem) : Option (Int × qMem) :=
  f_P_sentFrom_4 o qFU x1 0 0 w
set_option maxRecDepth 4000 in
theorem s_P_sentFrom {ph : Nat} {o : Nat} (x1 : Int) (hI : qIs kLP ph o) (w : qMem) : qSim κI ph ph m_P_sentFrom 0 [] [some (qR o), some (qI x1), none, none] w (f_P_sentFrom o x1 w) := by
  unfold f_P_sentFrom
  refine z_ic0 d_P_sentFrom_0 ?_
  refine z_istore_n (pls' := [some (qR o), some (qI x1), some (qI 0), none]) d_P_sentFrom_1 (by decide) rfl rfl ?_
  refine z_ic0 d_P_sentFrom_2 ?_
  refine z_istore_n (pls' := [some (qR o), some (qI x1), some (qI 0), some (qI 0)]) d_P_sentFrom_3 (by decide) rfl rfl ?_
  refine z_mask [true, true, true, true] ?_
  exact s_P_sentFrom_4 hI _ _ _ _ _
/-! BubbleTorus$Packets.deliveredTo -/
theorem d_P_deliveredTo_0 : decode m_P_deliveredTo.2.1 0 = .ok (.iconst 0, 1) := by decide +kernel
theorem d_P_deliveredTo_1 : decode m_P_deliveredTo.2.1 1 = .ok (.istore_n 2, 1) := by decide +kernel
theorem d_P_deliveredTo_2 : decode m_P_deliveredTo.2.1 2 = .ok (.iconst 0, 1) := by decide +kernel
theorem d_P_deliveredTo_3 : decode m_P_deliveredTo.2.1 3 = .ok (.istore_n 3, 1) := by decide +kernel
theorem d_P_deliveredTo_4 : decode m_P_deliveredTo.2.1 4 = .ok (.iload_n 3, 1) := by decide +kernel
theorem d_P_deliveredTo_5 : decode m_P_deliveredTo.2.1 5 = .ok (.aload_n 0, 1) := by decide +kernel
theorem d_P_deliveredTo_6 : decode m_P_deliveredTo.2.1 6 = .ok (.getfield 51, 3) := by decide +kernel
theorem d_P_deliveredTo_9 : decode m_P_deliveredTo.2.1 9 = .ok (.if_icmp .ge 30, 3) := by decide +kernel
theorem d_P_deliveredTo_12 : decode m_P_deliveredTo.2.1 12 = .ok (.aload_n 0, 1) := by decide +kernel
theorem d_P_deliveredTo_13 : decode m_P_deliveredTo.2.1 13 = .ok (.getfield 15, 3) := by decide +kernel
theorem d_P_deliveredTo_16 : decode m_P_deliveredTo.2.1 16 = .ok (.iload_n 3, 1) := by decide +kernel
theorem d_P_deliveredTo_17 : decode m_P_deliveredTo.2.1 17 = .ok (.iaload, 1) := by decide +kernel
theorem d_P_deliveredTo_18 : decode m_P_deliveredTo.2.1 18 = .ok (.iload_n 1, 1) := by decide +kernel
theorem d_P_deliveredTo_19 : decode m_P_deliveredTo.2.1 19 = .ok (.if_icmp .ne 14, 3) := by decide +kernel
theorem d_P_deliveredTo_22 : decode m_P_deliveredTo.2.1 22 = .ok (.aload_n 0, 1) := by decide +kernel
theorem d_P_deliveredTo_23 : decode m_P_deliveredTo.2.1 23 = .ok (.iload_n 3, 1) := by decide +kernel
theorem d_P_deliveredTo_24 : decode m_P_deliveredTo.2.1 24 = .ok (.invokevirtual 76, 3) := by decide +kernel
theorem d_P_deliveredTo_27 : decode m_P_deliveredTo.2.1 27 = .ok (.ifCond .eq 6, 3) := by decide +kernel
theorem d_P_deliveredTo_30 : decode m_P_deliveredTo.2.1 30 = .ok (.iinc 2 1, 3) := by decide +kernel
theorem d_P_deliveredTo_33 : decode m_P_deliveredTo.2.1 33 = .ok (.iinc 3 1, 3) := by decide +kernel
theorem d_P_deliveredTo_36 : decode m_P_deliveredTo.2.1 36 = .ok (.goto (-32), 3) := by decide +kernel
theorem d_P_deliveredTo_39 : decode m_P_deliveredTo.2.1 39 = .ok (.iload_n 2, 1) := by decide +kernel
theorem d_P_deliveredTo_40 : decode m_P_deliveredTo.2.1 40 = .ok (.ireturn, 1) := by decide +kernel
def f_P_deliveredTo_4 (o : Nat) : Nat → Int → Int → Int → qMem → Option (Int × qMem)
  | 0, _, _, _, _ => none
  | n + 1, x1, x2, x3, w =>
    if x3 < (w o 13) then
    qld w (o + 2) 250 x3 fun v2 =>
    if v2 = x1 then
    (f_P_isDelivered o x3 w).bind fun q4 =>
    if q4.1 = 0 then
    (f_P_deliveredTo_4 o n) x1 x2 (w32 (x3 + 1)) q4.2
    else
    (f_P_deliveredTo_4 o n) x1 (w32 (x2 + 1)) (w32 (x3 + 1)) q4.2
    else
    (f_P_deliveredTo_4 o n) x1 x2 (w32 (x3 + 1)) w
    else
    some (x2, w)
set_option maxRecDepth 4000 in
theorem s_P_deliveredTo_4 {ph : Nat} {o : Nat} (hI : qIs kLP ph o) : ∀ (n : Nat), ∀ (x1 x2 x3 : Int) (w : qMem), qSim κI ph ph m_P_deliveredTo 4 [] [some (qR o), some (qI x1), some (qI x2), some (qI x3)] w (f_P_deliveredTo_4 o n x1 x2 x3 w) := by
  intro n
  induction n with
  | zero => intro x1 x2 x3 w; exact z_none
  | succ n ih =>
    intro x1 x2 x3 w
    rw [f_P_deliveredTo_4]
    refine z_iload_n d_P_deliveredTo_4 rfl ?_
    refine z_aload_n d_P_deliveredTo_5 rfl ?_
    refine z_gi (ci := 5) (j := 13) (ji := 13) d_P_deliveredTo_6 rfl fl_P_51 (hI 0 _ rfl).1 rfl rfl ?_
    refine z_icmp_ge (tgt := 39) d_P_deliveredTo_9 rfl (fun c1 => ?_) (fun c1 => ?_)
    · refine z_aload_n d_P_deliveredTo_12 rfl ?_
      refine z_gr (ci := 5) (j := 1) (d := 2) (o2 := (o + 2)) d_P_deliveredTo_13 rfl fl_P_15 (hI 0 _ rfl).1 ((hI 0 _ rfl).2 (Nat.le_of_ble_eq_true rfl)) rfl rfl ?_
      refine z_iload_n d_P_deliveredTo_16 rfl ?_
      refine z_il d_P_deliveredTo_17 (hI 2 _ rfl).1 rfl (fun v2 => ?_)
      refine z_iload_n d_P_deliveredTo_18 rfl ?_
      refine z_icmp_ne (tgt := 33) d_P_deliveredTo_19 rfl (fun c3 => ?_) (fun c3 => ?_)
      · refine z_aload_n d_P_deliveredTo_22 rfl ?_
        refine z_iload_n d_P_deliveredTo_23 rfl ?_
        refine z_cVI (as := [qI x3]) (st := []) (nl := 0) (ci := 5) d_P_deliveredTo_24 lk_P_76 mk_P_isDelivered rfl rfl (hI 0 _ rfl).1 rfl rfl rfl (s_P_isDelivered _ hI _) (fun q4 _ hq4 => ?_)
        refine z_if_eq (tgt := 33) d_P_deliveredTo_27 rfl (fun c5 => ?_) (fun c5 => ?_)
        · refine z_iinc (pls' := [some (qR o), some (qI x1), some (qI x2), some (qI (w32 (x3 + 1)))]) d_P_deliveredTo_33 (by decide) rfl rfl rfl ?_
          refine z_goto (tgt := 4) d_P_deliveredTo_36 rfl ?_
          refine z_mask [true, true, true, true] ?_
          exact ih _ _ _ _
        · refine z_iinc (pls' := [some (qR o), some (qI x1), some (qI (w32 (x2 + 1))), some (qI x3)]) d_P_deliveredTo_30 (by decide) rfl rfl rfl ?_
          refine z_iinc (pls' := [some (qR o), some (qI x1), some (qI (w32 (x2 + 1))), some (qI (w32 (x3 + 1)))]) d_P_deliveredTo_33 (by decide) rfl rfl rfl ?_
          refine z_goto (tgt := 4) d_P_deliveredTo_36 rfl ?_
          refine z_mask [true, true, true, true] ?_
          exact ih _ _ _ _
      · refine z_iinc (pls' := [some (qR o), some (qI x1), some (qI x2), some (qI (w32 (x3 + 1)))]) d_P_deliveredTo_33 (by decide) rfl rfl rfl ?_
        refine z_goto (tgt := 4) d_P_deliveredTo_36 rfl ?_
        refine z_mask [true, true, true, true] ?_
        exact ih _ _ _ _
    · refine z_iload_n d_P_deliveredTo_39 rfl ?_
      exact z_iret d_P_deliveredTo_40 rfl rfl
def f_P_deliveredTo (o : Nat) (x1 : Int) (w : qMem) : Option (Int × qMem) :=
  f_P_deliveredTo_4 o qFU x1 0 0 w
set_option maxRecDepth 4000 in
theorem s_P_deliveredTo {ph : Nat} {o : Nat} (x1 : Int) (hI : qIs kLP ph o) (w : qMem) : qSim κI ph ph m_P_deliveredTo 0 [] [some (qR o), some (qI x1), none, none] w (f_P_deliveredTo o x1 w) := by
  unfold f_P_deliveredTo
  refine z_ic0 d_P_deliveredTo_0 ?_
  refine z_istore_n (pls' := [some (qR o), some (qI x1), some (qI 0), none]) d_P_deliveredTo_1 (by decide) rfl rfl ?_
  refine z_ic0 d_P_deliveredTo_2 ?_
  refine z_istore_n (pls' := [some (qR o), some (qI x1), some (qI 0), some (qI 0)]) d_P_deliveredTo_3 (by decide) rfl rfl ?_
  refine z_mask [true, true, true, true] ?_
  exact s_P_deliveredTo_4 hI _ _ _ _ _
/-! BubbleTorus$Packets.longestAtDoor -/
theorem d_P_longestAtDoor_0 : decode m_P_longestAtDoor.2.1 0 = .ok (.iconst 0, 1) := by decide +kernel
theorem d_P_longestAtDoor_1 : decode m_P_longestAtDoor.2.1 1 = .ok (.istore_n 2, 1) := by decide +kernel
theorem d_P_longestAtDoor_2 : decode m_P_longestAtDoor.2.1 2 = .ok (.iconst 0, 1) := by decide +kernel
theorem d_P_longestAtDoor_3 : decode m_P_longestAtDoor.2.1 3 = .ok (.istore_n 3, 1) := by decide +kernel
theorem d_P_longestAtDoor_4 : decode m_P_longestAtDoor.2.1 4 = .ok (.iload_n 3, 1) := by decide +kernel
theorem d_P_longestAtDoor_5 : decode m_P_longestAtDoor.2.1 5 = .ok (.aload_n 0, 1) := by decide +kernel
theorem d_P_longestAtDoor_6 : decode m_P_longestAtDoor.2.1 6 = .ok (.getfield 51, 3) := by decide +kernel
theorem d_P_longestAtDoor_9 : decode m_P_longestAtDoor.2.1 9 = .ok (.if_icmp .ge 47, 3) := by decide +kernel
theorem d_P_longestAtDoor_12 : decode m_P_longestAtDoor.2.1 12 = .ok (.aload_n 0, 1) := by decide +kernel
theorem d_P_longestAtDoor_13 : decode m_P_longestAtDoor.2.1 13 = .ok (.getfield 9, 3) := by decide +kernel
theorem d_P_longestAtDoor_16 : decode m_P_longestAtDoor.2.1 16 = .ok (.iload_n 3, 1) := by decide +kernel
theorem d_P_longestAtDoor_17 : decode m_P_longestAtDoor.2.1 17 = .ok (.iaload, 1) := by decide +kernel
theorem d_P_longestAtDoor_18 : decode m_P_longestAtDoor.2.1 18 = .ok (.iload_n 1, 1) := by decide +kernel
theorem d_P_longestAtDoor_19 : decode m_P_longestAtDoor.2.1 19 = .ok (.if_icmp .ne 31, 3) := by decide +kernel
theorem d_P_longestAtDoor_22 : decode m_P_longestAtDoor.2.1 22 = .ok (.aload_n 0, 1) := by decide +kernel
theorem d_P_longestAtDoor_23 : decode m_P_longestAtDoor.2.1 23 = .ok (.getfield 42, 3) := by decide +kernel
theorem d_P_longestAtDoor_26 : decode m_P_longestAtDoor.2.1 26 = .ok (.iload_n 3, 1) := by decide +kernel
theorem d_P_longestAtDoor_27 : decode m_P_longestAtDoor.2.1 27 = .ok (.iaload, 1) := by decide +kernel
theorem d_P_longestAtDoor_28 : decode m_P_longestAtDoor.2.1 28 = .ok (.iconst (-1), 1) := by decide +kernel
theorem d_P_longestAtDoor_29 : decode m_P_longestAtDoor.2.1 29 = .ok (.if_icmp .eq 21, 3) := by decide +kernel
theorem d_P_longestAtDoor_32 : decode m_P_longestAtDoor.2.1 32 = .ok (.iload_n 2, 1) := by decide +kernel
theorem d_P_longestAtDoor_33 : decode m_P_longestAtDoor.2.1 33 = .ok (.aload_n 0, 1) := by decide +kernel
theorem d_P_longestAtDoor_34 : decode m_P_longestAtDoor.2.1 34 = .ok (.getfield 42, 3) := by decide +kernel
theorem d_P_longestAtDoor_37 : decode m_P_longestAtDoor.2.1 37 = .ok (.iload_n 3, 1) := by decide +kernel
theorem d_P_longestAtDoor_38 : decode m_P_longestAtDoor.2.1 38 = .ok (.iaload, 1) := by decide +kernel
theorem d_P_longestAtDoor_39 : decode m_P_longestAtDoor.2.1 39 = .ok (.aload_n 0, 1) := by decide +kernel
theorem d_P_longestAtDoor_40 : decode m_P_longestAtDoor.2.1 40 = .ok (.getfield 18, 3) := by decide +kernel
theorem d_P_longestAtDoor_43 : decode m_P_longestAtDoor.2.1 43 = .ok (.iload_n 3, 1) := by decide +kernel
theorem d_P_longestAtDoor_44 : decode m_P_longestAtDoor.2.1 44 = .ok (.iaload, 1) := by decide +kernel
theorem d_P_longestAtDoor_45 : decode m_P_longestAtDoor.2.1 45 = .ok (.isub, 1) := by decide +kernel
theorem d_P_longestAtDoor_46 : decode m_P_longestAtDoor.2.1 46 = .ok (.invokestatic 79, 3) := by decide +kernel
theorem d_P_longestAtDoor_49 : decode m_P_longestAtDoor.2.1 49 = .ok (.istore_n 2, 1) := by decide +kernel
theorem d_P_longestAtDoor_50 : decode m_P_longestAtDoor.2.1 50 = .ok (.iinc 3 1, 3) := by decide +kernel
theorem d_P_longestAtDoor_53 : decode m_P_longestAtDoor.2.1 53 = .ok (.goto (-49), 3) := by decide +kernel
theorem d_P_longestAtDoor_56 : decode m_P_longestAtDoor.2.1 56 = .ok (.iload_n 2, 1) := by decide +kernel
theorem d_P_longestAtDoor_57 : decode m_P_longestAtDoor.2.1 57 = .ok (.ireturn, 1) := by decide +kernel
def f_P_longestAtDoor_4 (o : Nat) : Nat → Int → Int → Int → qMem → Option (Int × qMem)
  | 0, _, _, _, _ => none
  | n + 1, x1, x2, x3, w =>
    if x3 < (w o 13) then
    qld w (o + 1) 250 x3 fun v2 =>
    if v2 = x1 then
    qld w (o + 11) 250 x3 fun v4 =>
    if v4 = (-1) then
    (f_P_longestAtDoor_4 o n) x1 x2 (w32 (x3 + 1)) w
    else
    qld w (o + 11) 250 x3 fun v6 =>
    qld w (o + 3) 250 x3 fun v7 =>
    (f_P_longestAtDoor_4 o n) x1 (if x2 < (w32 (v6 - v7)) then (w32 (v6 - v7)) else x2) (w32 (x3 + 1)) w
    else
    (f_P_longestAtDoor_4 o n) x1 x2 (w32 (x3 + 1)) w
    else
    some (x2, w)
set_option maxRecDepth 4000 in
theorem s_P_longestAtDoor_4 {ph : Nat} {o : Nat} (hI : qIs kLP ph o) : ∀ (n : Nat), ∀ (x1 x2 x3 : Int) (w : qMem), qSim κI ph ph m_P_longestAtDoor 4 [] [some (qR o), some (qI x1), some (qI x2), some (qI x3)] w (f_P_longestAtDoor_4 o n x1 x2 x3 w) := by
  intro n
  induction n with
  | zero => intro x1 x2 x3 w; exact z_none
  | succ n ih =>
    intro x1 x2 x3 w
    rw [f_P_longestAtDoor_4]
    refine z_iload_n d_P_longestAtDoor_4 rfl ?_
    refine z_aload_n d_P_longestAtDoor_5 rfl ?_
    refine z_gi (ci := 5) (j := 13) (ji := 13) d_P_longestAtDoor_6 rfl fl_P_51 (hI 0 _ rfl).1 rfl rfl ?_
    refine z_icmp_ge (tgt := 56) d_P_longestAtDoor_9 rfl (fun c1 => ?_) (fun c1 => ?_)
    · refine z_aload_n d_P_longestAtDoor_12 rfl ?_
      refine z_gr (ci := 5) (j := 0) (d := 1) (o2 := (o + 1)) d_P_longestAtDoor_13 rfl fl_P_9 (hI 0 _ rfl).1 ((hI 0 _ rfl).2 (Nat.le_of_ble_eq_true rfl)) rfl rfl ?_
      refine z_iload_n d_P_longestAtDoor_16 rfl ?_
      refine z_il d_P_longestAtDoor_17 (hI 1 _ rfl).1 rfl (fun v2 => ?_)
      refine z_iload_n d_P_longestAtDoor_18 rfl ?_
      refine z_icmp_ne (tgt := 50) d_P_longestAtDoor_19 rfl (fun c3 => ?_) (fun c3 => ?_)
      · refine z_aload_n d_P_longestAtDoor_22 rfl ?_
        refine z_gr (ci := 5) (j := 10) (d := 11) (o2 := (o + 11)) d_P_longestAtDoor_23 rfl fl_P_42 (hI 0 _ rfl).1 ((hI 0 _ rfl).2 (Nat.le_of_ble_eq_true rfl)) rfl rfl ?_
        refine z_iload_n d_P_longestAtDoor_26 rfl ?_
        refine z_il d_P_longestAtDoor_27 (hI 11 _ rfl).1 rfl (fun v4 => ?_)
        refine z_icm1 d_P_longestAtDoor_28 ?_
        refine z_icmp_eq (tgt := 50) d_P_longestAtDoor_29 rfl (fun c5 => ?_) (fun c5 => ?_)
        · refine z_iinc (pls' := [some (qR o), some (qI x1), some (qI x2), some (qI (w32 (x3 + 1)))]) d_P_longestAtDoor_50 (by decide) rfl rfl rfl ?_
          refine z_goto (tgt := 4) d_P_longestAtDoor_53 rfl ?_
          refine z_mask [true, true, true, true] ?_
          exact ih _ _ _ _
        · refine z_iload_n d_P_longestAtDoor_32 rfl ?_
          refine z_aload_n d_P_longestAtDoor_33 rfl ?_
          refine z_gr (ci := 5) (j := 10) (d := 11) (o2 := (o + 11)) d_P_longestAtDoor_34 rfl fl_P_42 (hI 0 _ rfl).1 ((hI 0 _ rfl).2 (Nat.le_of_ble_eq_true rfl)) rfl rfl ?_
          refine z_iload_n d_P_longestAtDoor_37 rfl ?_
          refine z_il d_P_longestAtDoor_38 (hI 11 _ rfl).1 rfl (fun v6 => ?_)
          refine z_aload_n d_P_longestAtDoor_39 rfl ?_
          refine z_gr (ci := 5) (j := 2) (d := 3) (o2 := (o + 3)) d_P_longestAtDoor_40 rfl fl_P_18 (hI 0 _ rfl).1 ((hI 0 _ rfl).2 (Nat.le_of_ble_eq_true rfl)) rfl rfl ?_
          refine z_iload_n d_P_longestAtDoor_43 rfl ?_
          refine z_il d_P_longestAtDoor_44 (hI 3 _ rfl).1 rfl (fun v7 => ?_)
          refine z_isub d_P_longestAtDoor_45 ?_
          refine z_max d_P_longestAtDoor_46 lk_P_79 (Nat.le_of_ble_eq_true rfl) (Nat.le_of_ble_eq_true rfl) ?_
          refine z_istore_n (pls' := [some (qR o), some (qI x1), some (qI (if x2 < (w32 (v6 - v7)) then (w32 (v6 - v7)) else x2)), some (qI x3)]) d_P_longestAtDoor_49 (by decide) rfl rfl ?_
          refine z_iinc (pls' := [some (qR o), some (qI x1), some (qI (if x2 < (w32 (v6 - v7)) then (w32 (v6 - v7)) else x2)), some (qI (w32 (x3 + 1)))]) d_P_longestAtDoor_50 (by decide) rfl rfl rfl ?_
          refine z_goto (tgt := 4) d_P_longestAtDoor_53 rfl ?_
          refine z_mask [true, true, true, true] ?_
          exact ih _ _ _ _
      · refine z_iinc (pls' := [some (qR o), some (qI x1), some (qI x2), some (qI (w32 (x3 + 1)))]) d_P_longestAtDoor_50 (by decide) rfl rfl rfl ?_
        refine z_goto (tgt := 4) d_P_longestAtDoor_53 rfl ?_
        refine z_mask [true, true, true, true] ?_
        exact ih _ _ _ _
    · refine z_iload_n d_P_longestAtDoor_56 rfl ?_
      exact z_iret d_P_longestAtDoor_57 rfl rfl
def f_P_longestAtDoor (o : Nat) (x1 : Int) (w : qMem) : Option (Int × qMem) :=
  f_P_longestAtDoor_4 o qFU x1 0 0 w
set_option maxRecDepth 4000 in
theorem s_P_longestAtDoor {ph : Nat} {o : Nat} (x1 : Int) (hI : qIs kLP ph o) (w : qMem) : qSim κI ph ph m_P_longestAtDoor 0 [] [some (qR o), some (qI x1), none, none] w (f_P_longestAtDoor o x1 w) := by
  unfold f_P_longestAtDoor
  refine z_ic0 d_P_longestAtDoor_0 ?_
  refine z_istore_n (pls' := [some (qR o), some (qI x1), some (qI 0), none]) d_P_longestAtDoor_1 (by decide) rfl rfl ?_
  refine z_ic0 d_P_longestAtDoor_2 ?_
  refine z_istore_n (pls' := [some (qR o), some (qI x1), some (qI 0), some (qI 0)]) d_P_longestAtDoor_3 (by decide) rfl rfl ?_
  refine z_mask [true, true, true, true] ?_
  exact s_P_longestAtDoor_4 hI _ _ _ _ _
/-! BubbleTorus$Packets.sentBetween -/
theorem d_P_sentBetween_0 : decode m_P_sentBetween.2.1 0 = .ok (.iconst 0, 1) := by decide +kernel
theorem d_P_sentBetween_1 : decode m_P_sentBetween.2.1 1 = .ok (.istore_n 3, 1) := by decide +kernel
theorem d_P_sentBetween_2 : decode m_P_sentBetween.2.1 2 = .ok (.iconst 0, 1) := by decide +kernel
theorem d_P_sentBetween_3 : decode m_P_sentBetween.2.1 3 = .ok (.istore 4, 2) := by decide +kernel
theorem d_P_sentBetween_5 : decode m_P_sentBetween.2.1 5 = .ok (.iload 4, 2) := by decide +kernel
theorem d_P_sentBetween_7 : decode m_P_sentBetween.2.1 7 = .ok (.aload_n 0, 1) := by decide +kernel
theorem d_P_sentBetween_8 : decode m_P_sentBetween.2.1 8 = .ok (.getfield 51, 3) := by decide +kernel
theorem d_P_sentBetween_11 : decode m_P_sentBetween.2.1 11 = .ok (.if_icmp .ge 23, 3) := by decide +kernel
theorem d_P_sentBetween_14 : decode m_P_sentBetween.2.1 14 = .ok (.aload_n 0, 1) := by decide +kernel
theorem d_P_sentBetween_15 : decode m_P_sentBetween.2.1 15 = .ok (.iload 4, 2) := by decide +kernel
theorem d_P_sentBetween_17 : decode m_P_sentBetween.2.1 17 = .ok (.iload_n 1, 1) := by decide +kernel
theorem d_P_sentBetween_18 : decode m_P_sentBetween.2.1 18 = .ok (.iload_n 2, 1) := by decide +kernel
theorem d_P_sentBetween_19 : decode m_P_sentBetween.2.1 19 = .ok (.invokevirtual 72, 3) := by decide +kernel
theorem d_P_sentBetween_22 : decode m_P_sentBetween.2.1 22 = .ok (.ifCond .eq 6, 3) := by decide +kernel
theorem d_P_sentBetween_25 : decode m_P_sentBetween.2.1 25 = .ok (.iinc 3 1, 3) := by decide +kernel
theorem d_P_sentBetween_28 : decode m_P_sentBetween.2.1 28 = .ok (.iinc 4 1, 3) := by decide +kernel
theorem d_P_sentBetween_31 : decode m_P_sentBetween.2.1 31 = .ok (.goto (-26), 3) := by decide +kernel
theorem d_P_sentBetween_34 : decode m_P_sentBetween.2.1 34 = .ok (.iload_n 3, 1) := by decide +kernel
theorem d_P_sentBetween_35 : decode m_P_sentBetween.2.1 35 = .ok (.ireturn, 1) := by decide +kernel
def f_P_sentBetween_5 (o : Nat) : Nat → Int → Int → Int → Int → qMem → Option (Int × qMem)
  | 0, _, _, _, _, _ => none
  | n + 1, x1, x2, x3, x4, w =>
    if x4 < (w o 13) then
    (f_P_isBetween o x4 x1 x2 w).bind fun q2 =>
    if q2.1 = 0 then
    (f_P_sentBetween_5 o n) x1 x2 x3 (w32 (x4 + 1)) q2.2
    else
    (f_P_sentBetween_5 o n) x1 x2 (w32 (x3 + 1)) (w32 (x4 + 1)) q2.2
    else
    some (x3, w)
set_option maxRecDepth 4000 in
theorem s_P_sentBetween_5 {ph : Nat} {o : Nat} (hI : qIs kLP ph o) : ∀ (n : Nat), ∀ (x1 x2 x3 x4 : Int) (w : qMem), qSim κI ph ph m_P_sentBetween 5 [] [some (qR o), some (qI x1), some (qI x2), some (qI x3), some (qI x4)] w (f_P_sentBetween_5 o n x1 x2 x3 x4 w) := by
  intro n
  induction n with
  | zero => intro x1 x2 x3 x4 w; exact z_none
  | succ n ih =>
    intro x1 x2 x3 x4 w
    rw [f_P_sentBetween_5]
    refine z_iload d_P_sentBetween_5 rfl ?_
    refine z_aload_n d_P_sentBetween_7 rfl ?_
    refine z_gi (ci := 5) (j := 13) (ji := 13) d_P_sentBetween_8 rfl fl_P_51 (hI 0 _ rfl).1 rfl rfl ?_
    refine z_icmp_ge (tgt := 34) d_P_sentBetween_11 rfl (fun c1 => ?_) (fun c1 => ?_)
    · refine z_aload_n d_P_sentBetween_14 rfl ?_
      refine z_iload d_P_sentBetween_15 rfl ?_
      refine z_iload_n d_P_sentBetween_17 rfl ?_
      refine z_iload_n d_P_sentBetween_18 rfl ?_
      refine z_cVI (as := [qI x4, qI x1, qI x2]) (st := []) (nl := 0) (ci := 5) d_P_sentBetween_19 lk_P_72 mk_P_isBetween rfl rfl (hI 0 _ rfl).1 rfl rfl rfl (s_P_isBetween _ _ _ hI _) (fun q2 _ hq2 => ?_)
      refine z_if_eq (tgt := 28) d_P_sentBetween_22 rfl (fun c3 => ?_) (fun c3 => ?_)
      · refine z_iinc (pls' := [some (qR o), some (qI x1), some (qI x2), some (qI x3), some (qI (w32 (x4 + 1)))]) d_P_sentBetween_28 (by decide) rfl rfl rfl ?_
        refine z_goto (tgt := 5) d_P_sentBetween_31 rfl ?_
        refine z_mask [true, true, true, true, true] ?_
        exact ih _ _ _ _ _
      · refine z_iinc (pls' := [some (qR o), some (qI x1), some (qI x2), some (qI (w32 (x3 + 1))), some (qI x4)]) d_P_sentBetween_25 (by decide) rfl rfl rfl ?_
        refine z_iinc (pls' := [some (qR o), some (qI x1), some (qI x2), some (qI (w32 (x3 + 1))), some (qI (w32 (x4 + 1)))]) d_P_sentBetween_28 (by decide) rfl rfl rfl ?_
        refine z_goto (tgt := 5) d_P_sentBetween_31 rfl ?_
        refine z_mask [true, true, true, true, true] ?_
        exact ih _ _ _ _ _
    · refine z_iload_n d_P_sentBetween_34 rfl ?_
      exact z_iret d_P_sentBetween_35 rfl rfl
def f_P_sentBetween (o : Nat) (x1 : Int) (x2 : Int) (w : qMem) : Option (Int × qMem) :=
  f_P_sentBetween_5 o qFU x1 x2 0 0 w
set_option maxRecDepth 4000 in
theorem s_P_sentBetween {ph : Nat} {o : Nat} (x1 : Int) (x2 : Int) (hI : qIs kLP ph o) (w : qMem) : qSim κI ph ph m_P_sentBetween 0 [] [some (qR o), some (qI x1), some (qI x2), none, none] w (f_P_sentBetween o x1 x2 w) := by
  unfold f_P_sentBetween
  refine z_ic0 d_P_sentBetween_0 ?_
  refine z_istore_n (pls' := [some (qR o), some (qI x1), some (qI x2), some (qI 0), none]) d_P_sentBetween_1 (by decide) rfl rfl ?_
  refine z_ic0 d_P_sentBetween_2 ?_
  refine z_istore (pls' := [some (qR o), some (qI x1), some (qI x2), some (qI 0), some (qI 0)]) d_P_sentBetween_3 (by decide) rfl rfl ?_
  refine z_mask [true, true, true, true, true] ?_
  exact s_P_sentBetween_5 hI _ _ _ _ _ _
/-! BubbleTorus$Packets.deliveredBetween -/
theorem d_P_deliveredBetween_0 : decode m_P_deliveredBetween.2.1 0 = .ok (.iconst 0, 1) := by decide +kernel
theorem d_P_deliveredBetween_1 : decode m_P_deliveredBetween.2.1 1 = .ok (.istore_n 3, 1) := by decide +kernel
theorem d_P_deliveredBetween_2 : decode m_P_deliveredBetween.2.1 2 = .ok (.iconst 0, 1) := by decide +kernel
theorem d_P_deliveredBetween_3 : decode m_P_deliveredBetween.2.1 3 = .ok (.istore 4, 2) := by decide +kernel
theorem d_P_deliveredBetween_5 : decode m_P_deliveredBetween.2.1 5 = .ok (.iload 4, 2) := by decide +kernel
theorem d_P_deliveredBetween_7 : decode m_P_deliveredBetween.2.1 7 = .ok (.aload_n 0, 1) := by decide +kernel
theorem d_P_deliveredBetween_8 : decode m_P_deliveredBetween.2.1 8 = .ok (.getfield 51, 3) := by decide +kernel
theorem d_P_deliveredBetween_11 : decode m_P_deliveredBetween.2.1 11 = .ok (.if_icmp .ge 32, 3) := by decide +kernel
theorem d_P_deliveredBetween_14 : decode m_P_deliveredBetween.2.1 14 = .ok (.aload_n 0, 1) := by decide +kernel
theorem d_P_deliveredBetween_15 : decode m_P_deliveredBetween.2.1 15 = .ok (.iload 4, 2) := by decide +kernel
theorem d_P_deliveredBetween_17 : decode m_P_deliveredBetween.2.1 17 = .ok (.iload_n 1, 1) := by decide +kernel
theorem d_P_deliveredBetween_18 : decode m_P_deliveredBetween.2.1 18 = .ok (.iload_n 2, 1) := by decide +kernel
theorem d_P_deliveredBetween_19 : decode m_P_deliveredBetween.2.1 19 = .ok (.invokevirtual 72, 3) := by decide +kernel
theorem d_P_deliveredBetween_22 : decode m_P_deliveredBetween.2.1 22 = .ok (.ifCond .eq 15, 3) := by decide +kernel
theorem d_P_deliveredBetween_25 : decode m_P_deliveredBetween.2.1 25 = .ok (.aload_n 0, 1) := by decide +kernel
theorem d_P_deliveredBetween_26 : decode m_P_deliveredBetween.2.1 26 = .ok (.iload 4, 2) := by decide +kernel
theorem d_P_deliveredBetween_28 : decode m_P_deliveredBetween.2.1 28 = .ok (.invokevirtual 76, 3) := by decide +kernel
theorem d_P_deliveredBetween_31 : decode m_P_deliveredBetween.2.1 31 = .ok (.ifCond .eq 6, 3) := by decide +kernel
theorem d_P_deliveredBetween_34 : decode m_P_deliveredBetween.2.1 34 = .ok (.iinc 3 1, 3) := by decide +kernel
theorem d_P_deliveredBetween_37 : decode m_P_deliveredBetween.2.1 37 = .ok (.iinc 4 1, 3) := by decide +kernel
theorem d_P_deliveredBetween_40 : decode m_P_deliveredBetween.2.1 40 = .ok (.goto (-35), 3) := by decide +kernel
theorem d_P_deliveredBetween_43 : decode m_P_deliveredBetween.2.1 43 = .ok (.iload_n 3, 1) := by decide +kernel
theorem d_P_deliveredBetween_44 : decode m_P_deliveredBetween.2.1 44 = .ok (.ireturn, 1) := by decide +kernel
def f_P_deliveredBetween_5 (o : Nat) : Nat → Int → Int → Int → Int → qMem → Option (Int × qMem)
  | 0, _, _, _, _, _ => none
  | n + 1, x1, x2, x3, x4, w =>
    if x4 < (w o 13) then
    (f_P_isBetween o x4 x1 x2 w).bind fun q2 =>
    if q2.1 = 0 then
    (f_P_deliveredBetween_5 o n) x1 x2 x3 (w32 (x4 + 1)) q2.2
    else
    (f_P_isDelivered o x4 q2.2).bind fun q4 =>
    if q4.1 = 0 then
    (f_P_deliveredBetween_5 o n) x1 x2 x3 (w32 (x4 + 1)) q4.2
    else
    (f_P_deliveredBetween_5 o n) x1 x2 (w32 (x3 + 1)) (w32 (x4 + 1)) q4.2
    else
    some (x3, w)
set_option maxRecDepth 4000 in
theorem s_P_deliveredBetween_5 {ph : Nat} {o : Nat} (hI : qIs kLP ph o) : ∀ (n : Nat), ∀ (x1 x2 x3 x4 : Int) (w : qMem), qSim κI ph ph m_P_deliveredBetween 5 [] [some (qR o), some (qI x1), some (qI x2), some (qI x3), some (qI x4)] w (f_P_deliveredBetween_5 o n x1 x2 x3 x4 w) := by
  intro n
  induction n with
  | zero => intro x1 x2 x3 x4 w; exact z_none
  | succ n ih =>
    intro x1 x2 x3 x4 w
    rw [f_P_deliveredBetween_5]
    refine z_iload d_P_deliveredBetween_5 rfl ?_
    refine z_aload_n d_P_deliveredBetween_7 rfl ?_
    refine z_gi (ci := 5) (j := 13) (ji := 13) d_P_deliveredBetween_8 rfl fl_P_51 (hI 0 _ rfl).1 rfl rfl ?_
    refine z_icmp_ge (tgt := 43) d_P_deliveredBetween_11 rfl (fun c1 => ?_) (fun c1 => ?_)
    · refine z_aload_n d_P_deliveredBetween_14 rfl ?_
      refine z_iload d_P_deliveredBetween_15 rfl ?_
      refine z_iload_n d_P_deliveredBetween_17 rfl ?_
      refine z_iload_n d_P_deliveredBetween_18 rfl ?_
      refine z_cVI (as := [qI x4, qI x1, qI x2]) (st := []) (nl := 0) (ci := 5) d_P_deliveredBetween_19 lk_P_72 mk_P_isBetween rfl rfl (hI 0 _ rfl).1 rfl rfl rfl (s_P_isBetween _ _ _ hI _) (fun q2 _ hq2 => ?_)
      refine z_if_eq (tgt := 37) d_P_deliveredBetween_22 rfl (fun c3 => ?_) (fun c3 => ?_)
      · refine z_iinc (pls' := [some (qR o), some (qI x1), some (qI x2), some (qI x3), some (qI (w32 (x4 + 1)))]) d_P_deliveredBetween_37 (by decide) rfl rfl rfl ?_
        refine z_goto (tgt := 5) d_P_deliveredBetween_40 rfl ?_
        refine z_mask [true, true, true, true, true] ?_
        exact ih _ _ _ _ _
      · refine z_aload_n d_P_deliveredBetween_25 rfl ?_
        refine z_iload d_P_deliveredBetween_26 rfl ?_
        refine z_cVI (as := [qI x4]) (st := []) (nl := 0) (ci := 5) d_P_deliveredBetween_28 lk_P_76 mk_P_isDelivered rfl rfl (hI 0 _ rfl).1 rfl rfl rfl (s_P_isDelivered _ hI _) (fun q4 _ hq4 => ?_)
        refine z_if_eq (tgt := 37) d_P_deliveredBetween_31 rfl (fun c5 => ?_) (fun c5 => ?_)
        · refine z_iinc (pls' := [some (qR o), some (qI x1), some (qI x2), some (qI x3), some (qI (w32 (x4 + 1)))]) d_P_deliveredBetween_37 (by decide) rfl rfl rfl ?_
          refine z_goto (tgt := 5) d_P_deliveredBetween_40 rfl ?_
          refine z_mask [true, true, true, true, true] ?_
          exact ih _ _ _ _ _
        · refine z_iinc (pls' := [some (qR o), some (qI x1), some (qI x2), some (qI (w32 (x3 + 1))), some (qI x4)]) d_P_deliveredBetween_34 (by decide) rfl rfl rfl ?_
          refine z_iinc (pls' := [some (qR o), some (qI x1), some (qI x2), some (qI (w32 (x3 + 1))), some (qI (w32 (x4 + 1)))]) d_P_deliveredBetween_37 (by decide) rfl rfl rfl ?_
          refine z_goto (tgt := 5) d_P_deliveredBetween_40 rfl ?_
          refine z_mask [true, true, true, true, true] ?_
          exact ih _ _ _ _ _
    · refine z_iload_n d_P_deliveredBetween_43 rfl ?_
      exact z_iret d_P_deliveredBetween_44 rfl rfl
def f_P_deliveredBetween (o : Nat) (x1 : Int) (x2 : Int) (w : qMem) : Option (Int × qMem) :=
  f_P_deliveredBetween_5 o qFU x1 x2 0 0 w
set_option maxRecDepth 4000 in
theorem s_P_deliveredBetween {ph : Nat} {o : Nat} (x1 : Int) (x2 : Int) (hI : qIs kLP ph o) (w : qMem) : qSim κI ph ph m_P_deliveredBetween 0 [] [some (qR o), some (qI x1), some (qI x2), none, none] w (f_P_deliveredBetween o x1 x2 w) := by
  unfold f_P_deliveredBetween
  refine z_ic0 d_P_deliveredBetween_0 ?_
  refine z_istore_n (pls' := [some (qR o), some (qI x1), some (qI x2), some (qI 0), none]) d_P_deliveredBetween_1 (by decide) rfl rfl ?_
  refine z_ic0 d_P_deliveredBetween_2 ?_
  refine z_istore (pls' := [some (qR o), some (qI x1), some (qI x2), some (qI 0), some (qI 0)]) d_P_deliveredBetween_3 (by decide) rfl rfl ?_
  refine z_mask [true, true, true, true, true] ?_
  exact s_P_deliveredBetween_5 hI _ _ _ _ _ _
/-! BubbleTorus$Packets.disorderBetween -/
theorem d_P_disorderBetween_0 : decode m_P_disorderBetween.2.1 0 = .ok (.iconst 0, 1) := by decide +kernel
theorem d_P_disorderBetween_1 : decode m_P_disorderBetween.2.1 1 = .ok (.istore_n 3, 1) := by decide +kernel
theorem d_P_disorderBetween_2 : decode m_P_disorderBetween.2.1 2 = .ok (.iconst 0, 1) := by decide +kernel
theorem d_P_disorderBetween_3 : decode m_P_disorderBetween.2.1 3 = .ok (.istore 4, 2) := by decide +kernel
theorem d_P_disorderBetween_5 : decode m_P_disorderBetween.2.1 5 = .ok (.iload 4, 2) := by decide +kernel
theorem d_P_disorderBetween_7 : decode m_P_disorderBetween.2.1 7 = .ok (.aload_n 0, 1) := by decide +kernel
theorem d_P_disorderBetween_8 : decode m_P_disorderBetween.2.1 8 = .ok (.getfield 51, 3) := by decide +kernel
theorem d_P_disorderBetween_11 : decode m_P_disorderBetween.2.1 11 = .ok (.if_icmp .ge 30, 3) := by decide +kernel
theorem d_P_disorderBetween_14 : decode m_P_disorderBetween.2.1 14 = .ok (.aload_n 0, 1) := by decide +kernel
theorem d_P_disorderBetween_15 : decode m_P_disorderBetween.2.1 15 = .ok (.iload 4, 2) := by decide +kernel
theorem d_P_disorderBetween_17 : decode m_P_disorderBetween.2.1 17 = .ok (.iload_n 1, 1) := by decide +kernel
theorem d_P_disorderBetween_18 : decode m_P_disorderBetween.2.1 18 = .ok (.iload_n 2, 1) := by decide +kernel
theorem d_P_disorderBetween_19 : decode m_P_disorderBetween.2.1 19 = .ok (.invokevirtual 72, 3) := by decide +kernel
theorem d_P_disorderBetween_22 : decode m_P_disorderBetween.2.1 22 = .ok (.ifCond .eq 13, 3) := by decide +kernel
theorem d_P_disorderBetween_25 : decode m_P_disorderBetween.2.1 25 = .ok (.iload_n 3, 1) := by decide +kernel
theorem d_P_disorderBetween_26 : decode m_P_disorderBetween.2.1 26 = .ok (.aload_n 0, 1) := by decide +kernel
theorem d_P_disorderBetween_27 : decode m_P_disorderBetween.2.1 27 = .ok (.getfield 39, 3) := by decide +kernel
theorem d_P_disorderBetween_30 : decode m_P_disorderBetween.2.1 30 = .ok (.iload 4, 2) := by decide +kernel
theorem d_P_disorderBetween_32 : decode m_P_disorderBetween.2.1 32 = .ok (.iaload, 1) := by decide +kernel
theorem d_P_disorderBetween_33 : decode m_P_disorderBetween.2.1 33 = .ok (.iadd, 1) := by decide +kernel
theorem d_P_disorderBetween_34 : decode m_P_disorderBetween.2.1 34 = .ok (.istore_n 3, 1) := by decide +kernel
theorem d_P_disorderBetween_35 : decode m_P_disorderBetween.2.1 35 = .ok (.iinc 4 1, 3) := by decide +kernel
theorem d_P_disorderBetween_38 : decode m_P_disorderBetween.2.1 38 = .ok (.goto (-33), 3) := by decide +kernel
theorem d_P_disorderBetween_41 : decode m_P_disorderBetween.2.1 41 = .ok (.iload_n 3, 1) := by decide +kernel
theorem d_P_disorderBetween_42 : decode m_P_disorderBetween.2.1 42 = .ok (.ireturn, 1) := by decide +kernel
def f_P_disorderBetween_5 (o : Nat) : Nat → Int → Int → Int → Int → qMem → Option (Int × qMem)
  | 0, _, _, _, _, _ => none
  | n + 1, x1, x2, x3, x4, w =>
    if x4 < (w o 13) then
    (f_P_isBetween o x4 x1 x2 w).bind fun q2 =>
    if q2.1 = 0 then
    (f_P_disorderBetween_5 o n) x1 x2 x3 (w32 (x4 + 1)) q2.2
    else
    qld q2.2 (o + 10) 250 x4 fun v4 =>
    (f_P_disorderBetween_5 o n) x1 x2 (w32 (x3 + v4)) (w32 (x4 + 1)) q2.2
    else
    some (x3, w)
set_option maxRecDepth 4000 in
theorem s_P_disorderBetween_5 {ph : Nat} {o : Nat} (hI : qIs kLP ph o) : ∀ (n : Nat), ∀ (x1 x2 x3 x4 : Int) (w : qMem), qSim κI ph ph m_P_disorderBetween 5 [] [some (qR o), some (qI x1), some (qI x2), some (qI x3), some (qI x4)] w (f_P_disorderBetween_5 o n x1 x2 x3 x4 w) := by
  intro n
  induction n with
  | zero => intro x1 x2 x3 x4 w; exact z_none
  | succ n ih =>
    intro x1 x2 x3 x4 w
    rw [f_P_disorderBetween_5]
    refine z_iload d_P_disorderBetween_5 rfl ?_
    refine z_aload_n d_P_disorderBetween_7 rfl ?_
    refine z_gi (ci := 5) (j := 13) (ji := 13) d_P_disorderBetween_8 rfl fl_P_51 (hI 0 _ rfl).1 rfl rfl ?_
    refine z_icmp_ge (tgt := 41) d_P_disorderBetween_11 rfl (fun c1 => ?_) (fun c1 => ?_)
    · refine z_aload_n d_P_disorderBetween_14 rfl ?_
      refine z_iload d_P_disorderBetween_15 rfl ?_
      refine z_iload_n d_P_disorderBetween_17 rfl ?_
      refine z_iload_n d_P_disorderBetween_18 rfl ?_
      refine z_cVI (as := [qI x4, qI x1, qI x2]) (st := []) (nl := 0) (ci := 5) d_P_disorderBetween_19 lk_P_72 mk_P_isBetween rfl rfl (hI 0 _ rfl).1 rfl rfl rfl (s_P_isBetween _ _ _ hI _) (fun q2 _ hq2 => ?_)
      refine z_if_eq (tgt := 35) d_P_disorderBetween_22 rfl (fun c3 => ?_) (fun c3 => ?_)
      · refine z_iinc (pls' := [some (qR o), some (qI x1), some (qI x2), some (qI x3), some (qI (w32 (x4 + 1)))]) d_P_disorderBetween_35 (by decide) rfl rfl rfl ?_
        refine z_goto (tgt := 5) d_P_disorderBetween_38 rfl ?_
        refine z_mask [true, true, true, true, true] ?_
        exact ih _ _ _ _ _
      · refine z_iload_n d_P_disorderBetween_25 rfl ?_
        refine z_aload_n d_P_disorderBetween_26 rfl ?_
        refine z_gr (ci := 5) (j := 9) (d := 10) (o2 := (o + 10)) d_P_disorderBetween_27 rfl fl_P_39 (hI 0 _ rfl).1 ((hI 0 _ rfl).2 (Nat.le_of_ble_eq_true rfl)) rfl rfl ?_
        refine z_iload d_P_disorderBetween_30 rfl ?_
        refine z_il d_P_disorderBetween_32 (hI 10 _ rfl).1 rfl (fun v4 => ?_)
        refine z_iadd d_P_disorderBetween_33 ?_
        refine z_istore_n (pls' := [some (qR o), some (qI x1), some (qI x2), some (qI (w32 (x3 + v4))), some (qI x4)]) d_P_disorderBetween_34 (by decide) rfl rfl ?_
        refine z_iinc (pls' := [some (qR o), some (qI x1), some (qI x2), some (qI (w32 (x3 + v4))), some (qI (w32 (x4 + 1)))]) d_P_disorderBetween_35 (by decide) rfl rfl rfl ?_
        refine z_goto (tgt := 5) d_P_disorderBetween_38 rfl ?_
        refine z_mask [true, true, true, true, true] ?_
        exact ih _ _ _ _ _
    · refine z_iload_n d_P_disorderBetween_41 rfl ?_
      exact z_iret d_P_disorderBetween_42 rfl rfl
def f_P_disorderBetween (o : Nat) (x1 : Int) (x2 : Int) (w : qMem) : Option (Int × qMem) :=
  f_P_disorderBetween_5 o qFU x1 x2 0 0 w
set_option maxRecDepth 4000 in
theorem s_P_disorderBetween {ph : Nat} {o : Nat} (x1 : Int) (x2 : Int) (hI : qIs kLP ph o) (w : qMem) : qSim κI ph ph m_P_disorderBetween 0 [] [some (qR o), some (qI x1), some (qI x2), none, none] w (f_P_disorderBetween o x1 x2 w) := by
  unfold f_P_disorderBetween
  refine z_ic0 d_P_disorderBetween_0 ?_
  refine z_istore_n (pls' := [some (qR o), some (qI x1), some (qI x2), some (qI 0), none]) d_P_disorderBetween_1 (by decide) rfl rfl ?_
  refine z_ic0 d_P_disorderBetween_2 ?_
  refine z_istore (pls' := [some (qR o), some (qI x1), some (qI x2), some (qI 0), some (qI 0)]) d_P_disorderBetween_3 (by decide) rfl rfl ?_
  refine z_mask [true, true, true, true, true] ?_
  exact s_P_disorderBetween_5 hI _ _ _ _ _ _
/-! BubbleTorus$Packets.lateness -/
theorem d_P_lateness_0 : decode m_P_lateness.2.1 0 = .ok (.aload_n 0, 1) := by decide +kernel
theorem d_P_lateness_1 : decode m_P_lateness.2.1 1 = .ok (.getfield 33, 3) := by decide +kernel
theorem d_P_lateness_4 : decode m_P_lateness.2.1 4 = .ok (.iload_n 1, 1) := by decide +kernel
theorem d_P_lateness_5 : decode m_P_lateness.2.1 5 = .ok (.iaload, 1) := by decide +kernel
theorem d_P_lateness_6 : decode m_P_lateness.2.1 6 = .ok (.aload_n 0, 1) := by decide +kernel
theorem d_P_lateness_7 : decode m_P_lateness.2.1 7 = .ok (.getfield 18, 3) := by decide +kernel
theorem d_P_lateness_10 : decode m_P_lateness.2.1 10 = .ok (.iload_n 1, 1) := by decide +kernel
theorem d_P_lateness_11 : decode m_P_lateness.2.1 11 = .ok (.iaload, 1) := by decide +kernel
theorem d_P_lateness_12 : decode m_P_lateness.2.1 12 = .ok (.isub, 1) := by decide +kernel
theorem d_P_lateness_13 : decode m_P_lateness.2.1 13 = .ok (.ireturn, 1) := by decide +kernel
def f_P_lateness (o : Nat) (x1 : Int) (w : qMem) : Option (Int × qMem) :=
  qld w (o + 8) 250 x1 fun v1 =>
  qld w (o + 3) 250 x1 fun v2 =>
  some ((w32 (v1 - v2)), w)
set_option maxRecDepth 4000 in
theorem s_P_lateness {ph : Nat} {o : Nat} (x1 : Int) (hI : qIs kLP ph o) (w : qMem) : qSim κI ph ph m_P_lateness 0 [] [some (qR o), some (qI x1)] w (f_P_lateness o x1 w) := by
  unfold f_P_lateness
  refine z_aload_n d_P_lateness_0 rfl ?_
  refine z_gr (ci := 5) (j := 7) (d := 8) (o2 := (o + 8)) d_P_lateness_1 rfl fl_P_33 (hI 0 _ rfl).1 ((hI 0 _ rfl).2 (Nat.le_of_ble_eq_true rfl)) rfl rfl ?_
  refine z_iload_n d_P_lateness_4 rfl ?_
  refine z_il d_P_lateness_5 (hI 8 _ rfl).1 rfl (fun v1 => ?_)
  refine z_aload_n d_P_lateness_6 rfl ?_
  refine z_gr (ci := 5) (j := 2) (d := 3) (o2 := (o + 3)) d_P_lateness_7 rfl fl_P_18 (hI 0 _ rfl).1 ((hI 0 _ rfl).2 (Nat.le_of_ble_eq_true rfl)) rfl rfl ?_
  refine z_iload_n d_P_lateness_10 rfl ?_
  refine z_il d_P_lateness_11 (hI 3 _ rfl).1 rfl (fun v2 => ?_)
  refine z_isub d_P_lateness_12 ?_
  exact z_iret d_P_lateness_13 rfl rfl
/-! BubbleTorus$Packets.latestBetween -/
theorem d_P_latestBetween_0 : decode m_P_latestBetween.2.1 0 = .ok (.iconst (-1), 1) := by decide +kernel
theorem d_P_latestBetween_1 : decode m_P_latestBetween.2.1 1 = .ok (.istore_n 3, 1) := by decide +kernel
theorem d_P_latestBetween_2 : decode m_P_latestBetween.2.1 2 = .ok (.iconst 0, 1) := by decide +kernel
theorem d_P_latestBetween_3 : decode m_P_latestBetween.2.1 3 = .ok (.istore 4, 2) := by decide +kernel
theorem d_P_latestBetween_5 : decode m_P_latestBetween.2.1 5 = .ok (.iload 4, 2) := by decide +kernel
theorem d_P_latestBetween_7 : decode m_P_latestBetween.2.1 7 = .ok (.aload_n 0, 1) := by decide +kernel
theorem d_P_latestBetween_8 : decode m_P_latestBetween.2.1 8 = .ok (.getfield 51, 3) := by decide +kernel
theorem d_P_latestBetween_11 : decode m_P_latestBetween.2.1 11 = .ok (.if_icmp .ge 40, 3) := by decide +kernel
theorem d_P_latestBetween_14 : decode m_P_latestBetween.2.1 14 = .ok (.aload_n 0, 1) := by decide +kernel
theorem d_P_latestBetween_15 : decode m_P_latestBetween.2.1 15 = .ok (.iload 4, 2) := by decide +kernel
theorem d_P_latestBetween_17 : decode m_P_latestBetween.2.1 17 = .ok (.iload_n 1, 1) := by decide +kernel
theorem d_P_latestBetween_18 : decode m_P_latestBetween.2.1 18 = .ok (.iload_n 2, 1) := by decide +kernel
theorem d_P_latestBetween_19 : decode m_P_latestBetween.2.1 19 = .ok (.invokevirtual 72, 3) := by decide +kernel
theorem d_P_latestBetween_22 : decode m_P_latestBetween.2.1 22 = .ok (.ifCond .eq 23, 3) := by decide +kernel
theorem d_P_latestBetween_25 : decode m_P_latestBetween.2.1 25 = .ok (.aload_n 0, 1) := by decide +kernel
theorem d_P_latestBetween_26 : decode m_P_latestBetween.2.1 26 = .ok (.iload 4, 2) := by decide +kernel
theorem d_P_latestBetween_28 : decode m_P_latestBetween.2.1 28 = .ok (.invokevirtual 76, 3) := by decide +kernel
theorem d_P_latestBetween_31 : decode m_P_latestBetween.2.1 31 = .ok (.ifCond .eq 14, 3) := by decide +kernel
theorem d_P_latestBetween_34 : decode m_P_latestBetween.2.1 34 = .ok (.iload_n 3, 1) := by decide +kernel
theorem d_P_latestBetween_35 : decode m_P_latestBetween.2.1 35 = .ok (.aload_n 0, 1) := by decide +kernel
theorem d_P_latestBetween_36 : decode m_P_latestBetween.2.1 36 = .ok (.iload 4, 2) := by decide +kernel
theorem d_P_latestBetween_38 : decode m_P_latestBetween.2.1 38 = .ok (.invokevirtual 85, 3) := by decide +kernel
theorem d_P_latestBetween_41 : decode m_P_latestBetween.2.1 41 = .ok (.invokestatic 79, 3) := by decide +kernel
theorem d_P_latestBetween_44 : decode m_P_latestBetween.2.1 44 = .ok (.istore_n 3, 1) := by decide +kernel
theorem d_P_latestBetween_45 : decode m_P_latestBetween.2.1 45 = .ok (.iinc 4 1, 3) := by decide +kernel
theorem d_P_latestBetween_48 : decode m_P_latestBetween.2.1 48 = .ok (.goto (-43), 3) := by decide +kernel
theorem d_P_latestBetween_51 : decode m_P_latestBetween.2.1 51 = .ok (.iload_n 3, 1) := by decide +kernel
theorem d_P_latestBetween_52 : decode m_P_latestBetween.2.1 52 = .ok (.ireturn, 1) := by decide +kernel
def f_P_latestBetween_5 (o : Nat) : Nat → Int → Int → Int → Int → qMem → Option (Int × qMem)
  | 0, _, _, _, _, _ => none
  | n + 1, x1, x2, x3, x4, w =>
    if x4 < (w o 13) then
    (f_P_isBetween o x4 x1 x2 w).bind fun q2 =>
    if q2.1 = 0 then
    (f_P_latestBetween_5 o n) x1 x2 x3 (w32 (x4 + 1)) q2.2
    else
    (f_P_isDelivered o x4 q2.2).bind fun q4 =>
    if q4.1 = 0 then
    (f_P_latestBetween_5 o n) x1 x2 x3 (w32 (x4 + 1)) q4.2
    else
    (f_P_lateness o x4 q4.2).bind fun q6 =>
    (f_P_latestBetween_5 o n) x1 x2 (if x3 < q6.1 then q6.1 else x3) (w32 (x4 + 1)) q6.2
    else
    some (x3, w)
set_option maxRecDepth 4000 in
theorem s_P_latestBetween_5 {ph : Nat} {o : Nat} (hI : qIs kLP ph o) : ∀ (n : Nat), ∀ (x1 x2 x3 x4 : Int) (w : qMem), qSim κI ph ph m_P_latestBetween 5 [] [some (qR o), some (qI x1), some (qI x2), some (qI x3), some (qI x4)] w (f_P_latestBetween_5 o n x1 x2 x3 x4 w) := by
  intro n
  induction n with
  | zero => intro x1 x2 x3 x4 w; exact z_none
  | succ n ih =>
    intro x1 x2 x3 x4 w
    rw [f_P_latestBetween_5]
    refine z_iload d_P_latestBetween_5 rfl ?_
    refine z_aload_n d_P_latestBetween_7 rfl ?_
    refine z_gi (ci := 5) (j := 13) (ji := 13) d_P_latestBetween_8 rfl fl_P_51 (hI 0 _ rfl).1 rfl rfl ?_
    refine z_icmp_ge (tgt := 51) d_P_latestBetween_11 rfl (fun c1 => ?_) (fun c1 => ?_)
    · refine z_aload_n d_P_latestBetween_14 rfl ?_
      refine z_iload d_P_latestBetween_15 rfl ?_
      refine z_iload_n d_P_latestBetween_17 rfl ?_
      refine z_iload_n d_P_latestBetween_18 rfl ?_
      refine z_cVI (as := [qI x4, qI x1, qI x2]) (st := []) (nl := 0) (ci := 5) d_P_latestBetween_19 lk_P_72 mk_P_isBetween rfl rfl (hI 0 _ rfl).1 rfl rfl rfl (s_P_isBetween _ _ _ hI _) (fun q2 _ hq2 => ?_)
      refine z_if_eq (tgt := 45) d_P_latestBetween_22 rfl (fun c3 => ?_) (fun c3 => ?_)
      · refine z_iinc (pls' := [some (qR o), some (qI x1), some (qI x2), some (qI x3), some (qI (w32 (x4 + 1)))]) d_P_latestBetween_45 (by decide) rfl rfl rfl ?_
        refine z_goto (tgt := 5) d_P_latestBetween_48 rfl ?_
        refine z_mask [true, true, true, true, true] ?_
        exact ih _ _ _ _ _
      · refine z_aload_n d_P_latestBetween_25 rfl ?_
        refine z_iload d_P_latestBetween_26 rfl ?_
        refine z_cVI (as := [qI x4]) (st := []) (nl := 0) (ci := 5) d_P_latestBetween_28 lk_P_76 mk_P_isDelivered rfl rfl (hI 0 _ rfl).1 rfl rfl rfl (s_P_isDelivered _ hI _) (fun q4 _ hq4 => ?_)
        refine z_if_eq (tgt := 45) d_P_latestBetween_31 rfl (fun c5 => ?_) (fun c5 => ?_)
        · refine z_iinc (pls' := [some (qR o), some (qI x1), some (qI x2), some (qI x3), some (qI (w32 (x4 + 1)))]) d_P_latestBetween_45 (by decide) rfl rfl rfl ?_
          refine z_goto (tgt := 5) d_P_latestBetween_48 rfl ?_
          refine z_mask [true, true, true, true, true] ?_
          exact ih _ _ _ _ _
        · refine z_iload_n d_P_latestBetween_34 rfl ?_
          refine z_aload_n d_P_latestBetween_35 rfl ?_
          refine z_iload d_P_latestBetween_36 rfl ?_
          refine z_cVI (as := [qI x4]) (st := [qI x3]) (nl := 0) (ci := 5) d_P_latestBetween_38 lk_P_85 mk_P_lateness rfl rfl (hI 0 _ rfl).1 rfl rfl rfl (s_P_lateness _ hI _) (fun q6 _ hq6 => ?_)
          refine z_max d_P_latestBetween_41 lk_P_79 (Nat.le_of_ble_eq_true rfl) (Nat.le_of_ble_eq_true rfl) ?_
          refine z_istore_n (pls' := [some (qR o), some (qI x1), some (qI x2), some (qI (if x3 < q6.1 then q6.1 else x3)), some (qI x4)]) d_P_latestBetween_44 (by decide) rfl rfl ?_
          refine z_iinc (pls' := [some (qR o), some (qI x1), some (qI x2), some (qI (if x3 < q6.1 then q6.1 else x3)), some (qI (w32 (x4 + 1)))]) d_P_latestBetween_45 (by decide) rfl rfl rfl ?_
          refine z_goto (tgt := 5) d_P_latestBetween_48 rfl ?_
          refine z_mask [true, true, true, true, true] ?_
          exact ih _ _ _ _ _
    · refine z_iload_n d_P_latestBetween_51 rfl ?_
      exact z_iret d_P_latestBetween_52 rfl rfl
def f_P_latestBetween (o : Nat) (x1 : Int) (x2 : Int) (w : qMem) : Option (Int × qMem) :=
  f_P_latestBetween_5 o qFU x1 x2 (-1) 0 w
set_option maxRecDepth 4000 in
theorem s_P_latestBetween {ph : Nat} {o : Nat} (x1 : Int) (x2 : Int) (hI : qIs kLP ph o) (w : qMem) : qSim κI ph ph m_P_latestBetween 0 [] [some (qR o), some (qI x1), some (qI x2), none, none] w (f_P_latestBetween o x1 x2 w) := by
  unfold f_P_latestBetween
  refine z_icm1 d_P_latestBetween_0 ?_
  refine z_istore_n (pls' := [some (qR o), some (qI x1), some (qI x2), some (qI (-1)), none]) d_P_latestBetween_1 (by decide) rfl rfl ?_
  refine z_ic0 d_P_latestBetween_2 ?_
  refine z_istore (pls' := [some (qR o), some (qI x1), some (qI x2), some (qI (-1)), some (qI 0)]) d_P_latestBetween_3 (by decide) rfl rfl ?_
  refine z_mask [true, true, true, true, true] ?_
  exact s_P_latestBetween_5 hI _ _ _ _ _ _
/-! BubbleTorus$Packets.lateWithin -/
theorem d_P_lateWithin_0 : decode m_P_lateWithin.2.1 0 = .ok (.iconst 0, 1) := by decide +kernel
theorem d_P_lateWithin_1 : decode m_P_lateWithin.2.1 1 = .ok (.istore_n 3, 1) := by decide +kernel
theorem d_P_lateWithin_2 : decode m_P_lateWithin.2.1 2 = .ok (.iconst 0, 1) := by decide +kernel
theorem d_P_lateWithin_3 : decode m_P_lateWithin.2.1 3 = .ok (.istore 4, 2) := by decide +kernel
theorem d_P_lateWithin_5 : decode m_P_lateWithin.2.1 5 = .ok (.iload 4, 2) := by decide +kernel
theorem d_P_lateWithin_7 : decode m_P_lateWithin.2.1 7 = .ok (.aload_n 0, 1) := by decide +kernel
theorem d_P_lateWithin_8 : decode m_P_lateWithin.2.1 8 = .ok (.getfield 51, 3) := by decide +kernel
theorem d_P_lateWithin_11 : decode m_P_lateWithin.2.1 11 = .ok (.if_icmp .ge 41, 3) := by decide +kernel
theorem d_P_lateWithin_14 : decode m_P_lateWithin.2.1 14 = .ok (.aload_n 0, 1) := by decide +kernel
theorem d_P_lateWithin_15 : decode m_P_lateWithin.2.1 15 = .ok (.iload 4, 2) := by decide +kernel
theorem d_P_lateWithin_17 : decode m_P_lateWithin.2.1 17 = .ok (.invokevirtual 76, 3) := by decide +kernel
theorem d_P_lateWithin_20 : decode m_P_lateWithin.2.1 20 = .ok (.ifCond .eq 26, 3) := by decide +kernel
theorem d_P_lateWithin_23 : decode m_P_lateWithin.2.1 23 = .ok (.aload_n 0, 1) := by decide +kernel
theorem d_P_lateWithin_24 : decode m_P_lateWithin.2.1 24 = .ok (.iload 4, 2) := by decide +kernel
theorem d_P_lateWithin_26 : decode m_P_lateWithin.2.1 26 = .ok (.invokevirtual 85, 3) := by decide +kernel
theorem d_P_lateWithin_29 : decode m_P_lateWithin.2.1 29 = .ok (.iload_n 1, 1) := by decide +kernel
theorem d_P_lateWithin_30 : decode m_P_lateWithin.2.1 30 = .ok (.if_icmp .lt 16, 3) := by decide +kernel
theorem d_P_lateWithin_33 : decode m_P_lateWithin.2.1 33 = .ok (.aload_n 0, 1) := by decide +kernel
theorem d_P_lateWithin_34 : decode m_P_lateWithin.2.1 34 = .ok (.iload 4, 2) := by decide +kernel
theorem d_P_lateWithin_36 : decode m_P_lateWithin.2.1 36 = .ok (.invokevirtual 85, 3) := by decide +kernel
theorem d_P_lateWithin_39 : decode m_P_lateWithin.2.1 39 = .ok (.iload_n 2, 1) := by decide +kernel
theorem d_P_lateWithin_40 : decode m_P_lateWithin.2.1 40 = .ok (.if_icmp .gt 6, 3) := by decide +kernel
theorem d_P_lateWithin_43 : decode m_P_lateWithin.2.1 43 = .ok (.iinc 3 1, 3) := by decide +kernel
theorem d_P_lateWithin_46 : decode m_P_lateWithin.2.1 46 = .ok (.iinc 4 1, 3) := by decide +kernel
theorem d_P_lateWithin_49 : decode m_P_lateWithin.2.1 49 = .ok (.goto (-44), 3) := by decide +kernel
theorem d_P_lateWithin_52 : decode m_P_lateWithin.2.1 52 = .ok (.iload_n 3, 1) := by decide +kernel
theorem d_P_lateWithin_53 : decode m_P_lateWithin.2.1 53 = .ok (.ireturn, 1) := by decide +kernel
def f_P_lateWithin_5 (o : Nat) : Nat → Int → Int → Int → Int → qMem → Option (Int × qMem)
  | 0, _, _, _, _, _ => none
  | n + 1, x1, x2, x3, x4, w =>
    if x4 < (w o 13) then
    (f_P_isDelivered o x4 w).bind fun q2 =>
    if q2.1 = 0 then
    (f_P_lateWithin_5 o n) x1 x2 x3 (w32 (x4 + 1)) q2.2
    else
    (f_P_lateness o x4 q2.2).bind fun q4 =>
    if q4.1 < x1 then
    (f_P_lateWithin_5 o n) x1 x2 x3 (w32 (x4 + 1)) q4.2
    else
    (f_P_lateness o x4 q4.2).bind fun q6 =>
    if q6.1 ≤ x2 then
    (f_P_lateWithin_5 o n) x1 x2 (w32 (x3 + 1)) (w32 (x4 + 1)) q6.2
    else
    (f_P_lateWithin_5 o n) x1 x2 x3 (w32 (x4 + 1)) q6.2
    else
    some (x3, w)
set_option maxRecDepth 4000 in
theorem s_P_lateWithin_5 {ph : Nat} {o : Nat} (hI : qIs kLP ph o) : ∀ (n : Nat), ∀ (x1 x2 x3 x4 : Int) (w : qMem), qSim κI ph ph m_P_lateWithin 5 [] [some (qR o), some (qI x1), some (qI x2), some (qI x3), some (qI x4)] w (f_P_lateWithin_5 o n x1 x2 x3 x4 w) := by
  intro n
  induction n with
  | zero => intro x1 x2 x3 x4 w; exact z_none
  | succ n ih =>
    intro x1 x2 x3 x4 w
    rw [f_P_lateWithin_5]
    refine z_iload d_P_lateWithin_5 rfl ?_
    refine z_aload_n d_P_lateWithin_7 rfl ?_
    refine z_gi (ci := 5) (j := 13) (ji := 13) d_P_lateWithin_8 rfl fl_P_51 (hI 0 _ rfl).1 rfl rfl ?_
    refine z_icmp_ge (tgt := 52) d_P_lateWithin_11 rfl (fun c1 => ?_) (fun c1 => ?_)
    · refine z_aload_n d_P_lateWithin_14 rfl ?_
      refine z_iload d_P_lateWithin_15 rfl ?_
      refine z_cVI (as := [qI x4]) (st := []) (nl := 0) (ci := 5) d_P_lateWithin_17 lk_P_76 mk_P_isDelivered rfl rfl (hI 0 _ rfl).1 rfl rfl rfl (s_P_isDelivered _ hI _) (fun q2 _ hq2 => ?_)
      refine z_if_eq (tgt := 46) d_P_lateWithin_20 rfl (fun c3 => ?_) (fun c3 => ?_)
      · refine z_iinc (pls' := [some (qR o), some (qI x1), some (qI x2), some (qI x3), some (qI (w32 (x4 + 1)))]) d_P_lateWithin_46 (by decide) rfl rfl rfl ?_
        refine z_goto (tgt := 5) d_P_lateWithin_49 rfl ?_
        refine z_mask [true, true, true, true, true] ?_
        exact ih _ _ _ _ _
      · refine z_aload_n d_P_lateWithin_23 rfl ?_
        refine z_iload d_P_lateWithin_24 rfl ?_
        refine z_cVI (as := [qI x4]) (st := []) (nl := 0) (ci := 5) d_P_lateWithin_26 lk_P_85 mk_P_lateness rfl rfl (hI 0 _ rfl).1 rfl rfl rfl (s_P_lateness _ hI _) (fun q4 _ hq4 => ?_)
        refine z_iload_n d_P_lateWithin_29 rfl ?_
        refine z_icmp_lt (tgt := 46) d_P_lateWithin_30 rfl (fun c5 => ?_) (fun c5 => ?_)
        · refine z_iinc (pls' := [some (qR o), some (qI x1), some (qI x2), some (qI x3), some (qI (w32 (x4 + 1)))]) d_P_lateWithin_46 (by decide) rfl rfl rfl ?_
          refine z_goto (tgt := 5) d_P_lateWithin_49 rfl ?_
          refine z_mask [true, true, true, true, true] ?_
          exact ih _ _ _ _ _
        · refine z_aload_n d_P_lateWithin_33 rfl ?_
          refine z_iload d_P_lateWithin_34 rfl ?_
          refine z_cVI (as := [qI x4]) (st := []) (nl := 0) (ci := 5) d_P_lateWithin_36 lk_P_85 mk_P_lateness rfl rfl (hI 0 _ rfl).1 rfl rfl rfl (s_P_lateness _ hI _) (fun q6 _ hq6 => ?_)
          refine z_iload_n d_P_lateWithin_39 rfl ?_
          refine z_icmp_gt (tgt := 46) d_P_lateWithin_40 rfl (fun c7 => ?_) (fun c7 => ?_)
          · refine z_iinc (pls' := [some (qR o), some (qI x1), some (qI x2), some (qI (w32 (x3 + 1))), some (qI x4)]) d_P_lateWithin_43 (by decide) rfl rfl rfl ?_
            refine z_iinc (pls' := [some (qR o), some (qI x1), some (qI x2), some (qI (w32 (x3 + 1))), some (qI (w32 (x4 + 1)))]) d_P_lateWithin_46 (by decide) rfl rfl rfl ?_
            refine z_goto (tgt := 5) d_P_lateWithin_49 rfl ?_
            refine z_mask [true, true, true, true, true] ?_
            exact ih _ _ _ _ _
          · refine z_iinc (pls' := [some (qR o), some (qI x1), some (qI x2), some (qI x3), some (qI (w32 (x4 + 1)))]) d_P_lateWithin_46 (by decide) rfl rfl rfl ?_
            refine z_goto (tgt := 5) d_P_lateWithin_49 rfl ?_
            refine z_mask [true, true, true, true, true] ?_
            exact ih _ _ _ _ _
    · refine z_iload_n d_P_lateWithin_52 rfl ?_
      exact z_iret d_P_lateWithin_53 rfl rfl
def f_P_lateWithin (o : Nat) (x1 : Int) (x2 : Int) (w : qMem) : Option (Int × qMem) :=
  f_P_lateWithin_5 o qFU x1 x2 0 0 w
set_option maxRecDepth 4000 in
theorem s_P_lateWithin {ph : Nat} {o : Nat} (x1 : Int) (x2 : Int) (hI : qIs kLP ph o) (w : qMem) : qSim κI ph ph m_P_lateWithin 0 [] [some (qR o), some (qI x1), some (qI x2), none, none] w (f_P_lateWithin o x1 x2 w) := by
  unfold f_P_lateWithin
  refine z_ic0 d_P_lateWithin_0 ?_
  refine z_istore_n (pls' := [some (qR o), some (qI x1), some (qI x2), some (qI 0), none]) d_P_lateWithin_1 (by decide) rfl rfl ?_
  refine z_ic0 d_P_lateWithin_2 ?_
  refine z_istore (pls' := [some (qR o), some (qI x1), some (qI x2), some (qI 0), some (qI 0)]) d_P_lateWithin_3 (by decide) rfl rfl ?_
  refine z_mask [true, true, true, true, true] ?_
  exact s_P_lateWithin_5 hI _ _ _ _ _ _
/-! BubbleTorus$Packets.lateAbove -/
theorem d_P_lateAbove_0 : decode m_P_lateAbove.2.1 0 = .ok (.iconst (-1), 1) := by decide +kernel
theorem d_P_lateAbove_1 : decode m_P_lateAbove.2.1 1 = .ok (.istore_n 2, 1) := by decide +kernel
theorem d_P_lateAbove_2 : decode m_P_lateAbove.2.1 2 = .ok (.iconst 0, 1) := by decide +kernel
theorem d_P_lateAbove_3 : decode m_P_lateAbove.2.1 3 = .ok (.istore_n 3, 1) := by decide +kernel
theorem d_P_lateAbove_4 : decode m_P_lateAbove.2.1 4 = .ok (.iload_n 3, 1) := by decide +kernel
theorem d_P_lateAbove_5 : decode m_P_lateAbove.2.1 5 = .ok (.aload_n 0, 1) := by decide +kernel
theorem d_P_lateAbove_6 : decode m_P_lateAbove.2.1 6 = .ok (.getfield 51, 3) := by decide +kernel
theorem d_P_lateAbove_9 : decode m_P_lateAbove.2.1 9 = .ok (.if_icmp .ge 46, 3) := by decide +kernel
theorem d_P_lateAbove_12 : decode m_P_lateAbove.2.1 12 = .ok (.aload_n 0, 1) := by decide +kernel
theorem d_P_lateAbove_13 : decode m_P_lateAbove.2.1 13 = .ok (.iload_n 3, 1) := by decide +kernel
theorem d_P_lateAbove_14 : decode m_P_lateAbove.2.1 14 = .ok (.invokevirtual 76, 3) := by decide +kernel
theorem d_P_lateAbove_17 : decode m_P_lateAbove.2.1 17 = .ok (.ifCond .eq 32, 3) := by decide +kernel
theorem d_P_lateAbove_20 : decode m_P_lateAbove.2.1 20 = .ok (.aload_n 0, 1) := by decide +kernel
theorem d_P_lateAbove_21 : decode m_P_lateAbove.2.1 21 = .ok (.iload_n 3, 1) := by decide +kernel
theorem d_P_lateAbove_22 : decode m_P_lateAbove.2.1 22 = .ok (.invokevirtual 85, 3) := by decide +kernel
theorem d_P_lateAbove_25 : decode m_P_lateAbove.2.1 25 = .ok (.iload_n 1, 1) := by decide +kernel
theorem d_P_lateAbove_26 : decode m_P_lateAbove.2.1 26 = .ok (.if_icmp .le 23, 3) := by decide +kernel
theorem d_P_lateAbove_29 : decode m_P_lateAbove.2.1 29 = .ok (.iload_n 2, 1) := by decide +kernel
theorem d_P_lateAbove_30 : decode m_P_lateAbove.2.1 30 = .ok (.iconst (-1), 1) := by decide +kernel
theorem d_P_lateAbove_31 : decode m_P_lateAbove.2.1 31 = .ok (.if_icmp .eq 12, 3) := by decide +kernel
theorem d_P_lateAbove_34 : decode m_P_lateAbove.2.1 34 = .ok (.aload_n 0, 1) := by decide +kernel
theorem d_P_lateAbove_35 : decode m_P_lateAbove.2.1 35 = .ok (.iload_n 3, 1) := by decide +kernel
theorem d_P_lateAbove_36 : decode m_P_lateAbove.2.1 36 = .ok (.invokevirtual 85, 3) := by decide +kernel
theorem d_P_lateAbove_39 : decode m_P_lateAbove.2.1 39 = .ok (.iload_n 2, 1) := by decide +kernel
theorem d_P_lateAbove_40 : decode m_P_lateAbove.2.1 40 = .ok (.if_icmp .ge 9, 3) := by decide +kernel
theorem d_P_lateAbove_43 : decode m_P_lateAbove.2.1 43 = .ok (.aload_n 0, 1) := by decide +kernel
theorem d_P_lateAbove_44 : decode m_P_lateAbove.2.1 44 = .ok (.iload_n 3, 1) := by decide +kernel
theorem d_P_lateAbove_45 : decode m_P_lateAbove.2.1 45 = .ok (.invokevirtual 85, 3) := by decide +kernel
theorem d_P_lateAbove_48 : decode m_P_lateAbove.2.1 48 = .ok (.istore_n 2, 1) := by decide +kernel
theorem d_P_lateAbove_49 : decode m_P_lateAbove.2.1 49 = .ok (.iinc 3 1, 3) := by decide +kernel
theorem d_P_lateAbove_52 : decode m_P_lateAbove.2.1 52 = .ok (.goto (-48), 3) := by decide +kernel
theorem d_P_lateAbove_55 : decode m_P_lateAbove.2.1 55 = .ok (.iload_n 2, 1) := by decide +kernel
theorem d_P_lateAbove_56 : decode m_P_lateAbove.2.1 56 = .ok (.ireturn, 1) := by decide +kernel
def f_P_lateAbove_43 (o : Nat) (r4 : Int → Int → Int → qMem → Option (Int × qMem)) (x1 x3 : Int) (w : qMem) : Option (Int × qMem) :=
  (f_P_lateness o x3 w).bind fun q1 =>
  r4 x1 q1.1 (w32 (x3 + 1)) q1.2
set_option maxRecDepth 4000 in
theorem s_P_lateAbove_43 {ph : Nat} {o : Nat} (hI : qIs kLP ph o) {r4 : Int → Int → Int → qMem → Option (Int × qMem)} (hr4 : ∀ x1 x2 x3 w, qSim κI ph ph m_P_lateAbove 4 [] [some (qR o), some (qI x1), some (qI x2), some (qI x3)] w (r4 x1 x2 x3 w)) : ∀ (x1 x3 : Int) (w : qMem), qSim κI ph ph m_P_lateAbove 43 [] [some (qR o), some (qI x1), none, some (qI x3)] w (f_P_lateAbove_43 o r4 x1 x3 w) := by
  intro x1 x3 w
  unfold f_P_lateAbove_43
  refine z_aload_n d_P_lateAbove_43 rfl ?_
  refine z_iload_n d_P_lateAbove_44 rfl ?_
  refine z_cVI (as := [qI x3]) (st := []) (nl := 0) (ci := 5) d_P_lateAbove_45 lk_P_85 mk_P_lateness rfl rfl (hI 0 _ rfl).1 rfl rfl rfl (s_P_lateness _ hI _) (fun q1 _ hq1 => ?_)
  refine z_istore_n (pls' := [some (qR o), some (qI x1), some (qI q1.1), some (qI x3)]) d_P_lateAbove_48 (by decide) rfl rfl ?_
  refine z_iinc (pls' := [some (qR o), some (qI x1), some (qI q1.1), some (qI (w32 (x3 + 1)))]) d_P_lateAbove_49 (by decide) rfl rfl rfl ?_
  refine z_goto (tgt := 4) d_P_lateAbove_52 rfl ?_
  refine z_mask [true, true, true, true] ?_
  exact hr4 _ _ _ _
def f_P_lateAbove_4 (o : Nat) : Nat → Int → Int → Int → qMem → Option (Int × qMem)
  | 0, _, _, _, _ => none
  | n + 1, x1, x2, x3, w =>
    if x3 < (w o 13) then
    (f_P_isDelivered o x3 w).bind fun q3 =>
    if q3.1 = 0 then
    (f_P_lateAbove_4 o n) x1 x2 (w32 (x3 + 1)) q3.2
    else
    (f_P_lateness o x3 q3.2).bind fun q5 =>
    if q5.1 ≤ x1 then
    (f_P_lateAbove_4 o n) x1 x2 (w32 (x3 + 1)) q5.2
    else
    if x2 = (-1) then
    f_P_lateAbove_43 o (f_P_lateAbove_4 o n) x1 x3 q5.2
    else
    (f_P_lateness o x3 q5.2).bind fun q8 =>
    if q8.1 < x2 then
    f_P_lateAbove_43 o (f_P_lateAbove_4 o n) x1 x3 q8.2
    else
    (f_P_lateAbove_4 o n) x1 x2 (w32 (x3 + 1)) q8.2
    else
    some (x2, w)
set_option maxRecDepth 4000 in
theorem s_P_lateAbove_4 {ph : Nat} {o : Nat} (hI : qIs kLP ph o) : ∀ (n : Nat), ∀ (x1 x2 x3 : Int) (w : qMem), qSim κI ph ph m_P_lateAbove 4 [] [some (qR o), some (qI x1), some (qI x2), some (qI x3)] w (f_P_lateAbove_4 o n x1 x2 x3 w) := by
  intro n
  induction n with
  | zero => intro x1 x2 x3 w; exact z_none
  | succ n ih =>
    intro x1 x2 x3 w
    rw [f_P_lateAbove_4]
    refine z_iload_n d_P_lateAbove_4 rfl ?_
    refine z_aload_n d_P_lateAbove_5 rfl ?_
    refine z_gi (ci := 5) (j := 13) (ji := 13) d_P_lateAbove_6 rfl fl_P_51 (hI 0 _ rfl).1 rfl rfl ?_
    refine z_icmp_ge (tgt := 55) d_P_lateAbove_9 rfl (fun c2 => ?_) (fun c2 => ?_)
    · refine z_aload_n d_P_lateAbove_12 rfl ?_
      refine z_iload_n d_P_lateAbove_13 rfl ?_
      refine z_cVI (as := [qI x3]) (st := []) (nl := 0) (ci := 5) d_P_lateAbove_14 lk_P_76 mk_P_isDelivered rfl rfl (hI 0 _ rfl).1 rfl rfl rfl (s_P_isDelivered _ hI _) (fun q3 _ hq3 => ?_)
      refine z_if_eq (tgt := 49) d_P_lateAbove_17 rfl (fun c4 => ?_) (fun c4 => ?_)
      · refine z_iinc (pls' := [some (qR o), some (qI x1), some (qI x2), some (qI (w32 (x3 + 1)))]) d_P_lateAbove_49 (by decide) rfl rfl rfl ?_
        refine z_goto (tgt := 4) d_P_lateAbove_52 rfl ?_
        refine z_mask [true, true, true, true] ?_
        exact ih _ _ _ _
      · refine z_aload_n d_P_lateAbove_20 rfl ?_
        refine z_iload_n d_P_lateAbove_21 rfl ?_
        refine z_cVI (as := [qI x3]) (st := []) (nl := 0) (ci := 5) d_P_lateAbove_22 lk_P_85 mk_P_lateness rfl rfl (hI 0 _ rfl).1 rfl rfl rfl (s_P_lateness _ hI _) (fun q5 _ hq5 => ?_)
        refine z_iload_n d_P_lateAbove_25 rfl ?_
        refine z_icmp_le (tgt := 49) d_P_lateAbove_26 rfl (fun c6 => ?_) (fun c6 => ?_)
        · refine z_iinc (pls' := [some (qR o), some (qI x1), some (qI x2), some (qI (w32 (x3 + 1)))]) d_P_lateAbove_49 (by decide) rfl rfl rfl ?_
          refine z_goto (tgt := 4) d_P_lateAbove_52 rfl ?_
          refine z_mask [true, true, true, true] ?_
          exact ih _ _ _ _
        · refine z_iload_n d_P_lateAbove_29 rfl ?_
          refine z_icm1 d_P_lateAbove_30 ?_
          refine z_icmp_eq (tgt := 43) d_P_lateAbove_31 rfl (fun c7 => ?_) (fun c7 => ?_)
          · refine z_mask [true, true, false, true] ?_
            exact s_P_lateAbove_43 hI ih _ _ _
          · refine z_aload_n d_P_lateAbove_34 rfl ?_
            refine z_iload_n d_P_lateAbove_35 rfl ?_
            refine z_cVI (as := [qI x3]) (st := []) (nl := 0) (ci := 5) d_P_lateAbove_36 lk_P_85 mk_P_lateness rfl rfl (hI 0 _ rfl).1 rfl rfl rfl (s_P_lateness _ hI _) (fun q8 _ hq8 => ?_)
            refine z_iload_n d_P_lateAbove_39 rfl ?_
            refine z_icmp_ge (tgt := 49) d_P_lateAbove_40 rfl (fun c9 => ?_) (fun c9 => ?_)
            · refine z_mask [true, true, false, true] ?_
              exact s_P_lateAbove_43 hI ih _ _ _
            · refine z_iinc (pls' := [some (qR o), some (qI x1), some (qI x2), some (qI (w32 (x3 + 1)))]) d_P_lateAbove_49 (by decide) rfl rfl rfl ?_
              refine z_goto (tgt := 4) d_P_lateAbove_52 rfl ?_
              refine z_mask [true, true, true, true] ?_
              exact ih _ _ _ _
    · refine z_iload_n d_P_lateAbove_55 rfl ?_
      exact z_iret d_P_lateAbove_56 rfl rfl
def f_P_lateAbove (o : Nat) (x1 : Int) (w : qMem) : Option (Int × qMem) :=
  f_P_lateAbove_4 o qFU x1 (-1) 0 w
set_option maxRecDepth 4000 in
theorem s_P_lateAbove {ph : Nat} {o : Nat} (x1 : Int) (hI : qIs kLP ph o) (w : qMem) : qSim κI ph ph m_P_lateAbove 0 [] [some (qR o), some (qI x1), none, none] w (f_P_lateAbove o x1 w) := by
  unfold f_P_lateAbove
  refine z_icm1 d_P_lateAbove_0 ?_
  refine z_istore_n (pls' := [some (qR o), some (qI x1), some (qI (-1)), none]) d_P_lateAbove_1 (by decide) rfl rfl ?_
  refine z_ic0 d_P_lateAbove_2 ?_
  refine z_istore_n (pls' := [some (qR o), some (qI x1), some (qI (-1)), some (qI 0)]) d_P_lateAbove_3 (by decide) rfl rfl ?_
  refine z_mask [true, true, true, true] ?_
  exact s_P_lateAbove_4 hI _ _ _ _ _
/-! BubbleTorus$Packets.differentLates -/
theorem d_P_differentLates_0 : decode m_P_differentLates.2.1 0 = .ok (.iconst 0, 1) := by decide +kernel
theorem d_P_differentLates_1 : decode m_P_differentLates.2.1 1 = .ok (.istore_n 1, 1) := by decide +kernel
theorem d_P_differentLates_2 : decode m_P_differentLates.2.1 2 = .ok (.aload_n 0, 1) := by decide +kernel
theorem d_P_differentLates_3 : decode m_P_differentLates.2.1 3 = .ok (.iconst (-1), 1) := by decide +kernel
theorem d_P_differentLates_4 : decode m_P_differentLates.2.1 4 = .ok (.invokevirtual 89, 3) := by decide +kernel
theorem d_P_differentLates_7 : decode m_P_differentLates.2.1 7 = .ok (.istore_n 2, 1) := by decide +kernel
theorem d_P_differentLates_8 : decode m_P_differentLates.2.1 8 = .ok (.iload_n 2, 1) := by decide +kernel
theorem d_P_differentLates_9 : decode m_P_differentLates.2.1 9 = .ok (.iconst (-1), 1) := by decide +kernel
theorem d_P_differentLates_10 : decode m_P_differentLates.2.1 10 = .ok (.if_icmp .eq 22, 3) := by decide +kernel
theorem d_P_differentLates_13 : decode m_P_differentLates.2.1 13 = .ok (.iload_n 1, 1) := by decide +kernel
theorem d_P_differentLates_14 : decode m_P_differentLates.2.1 14 = .ok (.sipush 250, 3) := by decide +kernel
theorem d_P_differentLates_17 : decode m_P_differentLates.2.1 17 = .ok (.if_icmp .ge 15, 3) := by decide +kernel
theorem d_P_differentLates_20 : decode m_P_differentLates.2.1 20 = .ok (.iinc 1 1, 3) := by decide +kernel
theorem d_P_differentLates_23 : decode m_P_differentLates.2.1 23 = .ok (.aload_n 0, 1) := by decide +kernel
theorem d_P_differentLates_24 : decode m_P_differentLates.2.1 24 = .ok (.iload_n 2, 1) := by decide +kernel
theorem d_P_differentLates_25 : decode m_P_differentLates.2.1 25 = .ok (.invokevirtual 89, 3) := by decide +kernel
theorem d_P_differentLates_28 : decode m_P_differentLates.2.1 28 = .ok (.istore_n 2, 1) := by decide +kernel
theorem d_P_differentLates_29 : decode m_P_differentLates.2.1 29 = .ok (.goto (-21), 3) := by decide +kernel
theorem d_P_differentLates_32 : decode m_P_differentLates.2.1 32 = .ok (.iload_n 1, 1) := by decide +kernel
theorem d_P_differentLates_33 : decode m_P_differentLates.2.1 33 = .ok (.ireturn, 1) := by decide +kernel
def f_P_differentLates_8 (o : Nat) : Nat → Int → Int → qMem → Option (Int × qMem)
  | 0, _, _, _ => none
  | n + 1, x1, x2, w =>
    if x2 = (-1) then
    some (x1, w)
    else
    if x1 < 250 then
    (f_P_lateAbove o x2 w).bind fun q3 =>
    (f_P_differentLates_8 o n) (w32 (x1 + 1)) q3.1 q3.2
    else
    some (x1, w)
set_option maxRecDepth 4000 in
theorem s_P_differentLates_8 {ph : Nat} {o : Nat} (hI : qIs kLP ph o) : ∀ (n : Nat), ∀ (x1 x2 : Int) (w : qMem), qSim κI ph ph m_P_differentLates 8 [] [some (qR o), some (qI x1), some (qI x2)] w (f_P_differentLates_8 o n x1 x2 w) := by
  intro n
  induction n with
  | zero => intro x1 x2 w; exact z_none
  | succ n ih =>
    intro x1 x2 w
    rw [f_P_differentLates_8]
    refine z_iload_n d_P_differentLates_8 rfl ?_
    refine z_icm1 d_P_differentLates_9 ?_
    refine z_icmp_eq (tgt := 32) d_P_differentLates_10 rfl (fun c1 => ?_) (fun c1 => ?_)
    · refine z_iload_n d_P_differentLates_32 rfl ?_
      exact z_iret d_P_differentLates_33 rfl rfl
    · refine z_iload_n d_P_differentLates_13 rfl ?_
      refine z_sipush d_P_differentLates_14 ⟨by decide, by decide⟩ ?_
      refine z_icmp_ge (tgt := 32) d_P_differentLates_17 rfl (fun c2 => ?_) (fun c2 => ?_)
      · refine z_iinc (pls' := [some (qR o), some (qI (w32 (x1 + 1))), some (qI x2)]) d_P_differentLates_20 (by decide) rfl rfl rfl ?_
        refine z_aload_n d_P_differentLates_23 rfl ?_
        refine z_iload_n d_P_differentLates_24 rfl ?_
        refine z_cVI (as := [qI x2]) (st := []) (nl := 2) (ci := 5) d_P_differentLates_25 lk_P_89 mk_P_lateAbove rfl rfl (hI 0 _ rfl).1 rfl rfl rfl (s_P_lateAbove _ hI _) (fun q3 _ hq3 => ?_)
        refine z_istore_n (pls' := [some (qR o), some (qI (w32 (x1 + 1))), some (qI q3.1)]) d_P_differentLates_28 (by decide) rfl rfl ?_
        refine z_goto (tgt := 8) d_P_differentLates_29 rfl ?_
        refine z_mask [true, true, true] ?_
        exact ih _ _ _
      · refine z_iload_n d_P_differentLates_32 rfl ?_
        exact z_iret d_P_differentLates_33 rfl rfl
def f_P_differentLates (o : Nat) (w : qMem) : Option (Int × qMem) :=
  (f_P_lateAbove o (-1) w).bind fun q4 =>
  f_P_differentLates_8 o qFU 0 q4.1 q4.2
set_option maxRecDepth 4000 in
theorem s_P_differentLates {ph : Nat} {o : Nat} (hI : qIs kLP ph o) (w : qMem) : qSim κI ph ph m_P_differentLates 0 [] [some (qR o), none, none] w (f_P_differentLates o w) := by
  unfold f_P_differentLates
  refine z_ic0 d_P_differentLates_0 ?_
  refine z_istore_n (pls' := [some (qR o), some (qI 0), none]) d_P_differentLates_1 (by decide) rfl rfl ?_
  refine z_aload_n d_P_differentLates_2 rfl ?_
  refine z_icm1 d_P_differentLates_3 ?_
  refine z_cVI (as := [qI (-1)]) (st := []) (nl := 2) (ci := 5) d_P_differentLates_4 lk_P_89 mk_P_lateAbove rfl rfl (hI 0 _ rfl).1 rfl rfl rfl (s_P_lateAbove _ hI _) (fun q4 _ hq4 => ?_)
  refine z_istore_n (pls' := [some (qR o), some (qI 0), some (qI q4.1)]) d_P_differentLates_7 (by decide) rfl rfl ?_
  refine z_mask [true, true, true] ?_
  exact s_P_differentLates_8 hI _ _ _ _
/-! BubbleTorus$Packets.lateAt -/
theorem d_P_lateAt_0 : decode m_P_lateAt.2.1 0 = .ok (.iload_n 1, 1) := by decide +kernel
theorem d_P_lateAt_1 : decode m_P_lateAt.2.1 1 = .ok (.ifCond .lt 11, 3) := by decide +kernel
theorem d_P_lateAt_4 : decode m_P_lateAt.2.1 4 = .ok (.iload_n 1, 1) := by decide +kernel
theorem d_P_lateAt_5 : decode m_P_lateAt.2.1 5 = .ok (.aload_n 0, 1) := by decide +kernel
theorem d_P_lateAt_6 : decode m_P_lateAt.2.1 6 = .ok (.getfield 51, 3) := by decide +kernel
theorem d_P_lateAt_9 : decode m_P_lateAt.2.1 9 = .ok (.if_icmp .lt 5, 3) := by decide +kernel
theorem d_P_lateAt_12 : decode m_P_lateAt.2.1 12 = .ok (.iconst (-1), 1) := by decide +kernel
theorem d_P_lateAt_13 : decode m_P_lateAt.2.1 13 = .ok (.ireturn, 1) := by decide +kernel
theorem d_P_lateAt_14 : decode m_P_lateAt.2.1 14 = .ok (.aload_n 0, 1) := by decide +kernel
theorem d_P_lateAt_15 : decode m_P_lateAt.2.1 15 = .ok (.iconst (-1), 1) := by decide +kernel
theorem d_P_lateAt_16 : decode m_P_lateAt.2.1 16 = .ok (.invokevirtual 89, 3) := by decide +kernel
theorem d_P_lateAt_19 : decode m_P_lateAt.2.1 19 = .ok (.istore_n 2, 1) := by decide +kernel
theorem d_P_lateAt_20 : decode m_P_lateAt.2.1 20 = .ok (.iconst 0, 1) := by decide +kernel
theorem d_P_lateAt_21 : decode m_P_lateAt.2.1 21 = .ok (.istore_n 3, 1) := by decide +kernel
theorem d_P_lateAt_22 : decode m_P_lateAt.2.1 22 = .ok (.iload_n 3, 1) := by decide +kernel
theorem d_P_lateAt_23 : decode m_P_lateAt.2.1 23 = .ok (.iload_n 1, 1) := by decide +kernel
theorem d_P_lateAt_24 : decode m_P_lateAt.2.1 24 = .ok (.if_icmp .ge 20, 3) := by decide +kernel
theorem d_P_lateAt_27 : decode m_P_lateAt.2.1 27 = .ok (.iload_n 2, 1) := by decide +kernel
theorem d_P_lateAt_28 : decode m_P_lateAt.2.1 28 = .ok (.iconst (-1), 1) := by decide +kernel
theorem d_P_lateAt_29 : decode m_P_lateAt.2.1 29 = .ok (.if_icmp .eq 15, 3) := by decide +kernel
theorem d_P_lateAt_32 : decode m_P_lateAt.2.1 32 = .ok (.aload_n 0, 1) := by decide +kernel
theorem d_P_lateAt_33 : decode m_P_lateAt.2.1 33 = .ok (.iload_n 2, 1) := by decide +kernel
theorem d_P_lateAt_34 : decode m_P_lateAt.2.1 34 = .ok (.invokevirtual 89, 3) := by decide +kernel
theorem d_P_lateAt_37 : decode m_P_lateAt.2.1 37 = .ok (.istore_n 2, 1) := by decide +kernel
theorem d_P_lateAt_38 : decode m_P_lateAt.2.1 38 = .ok (.iinc 3 1, 3) := by decide +kernel
theorem d_P_lateAt_41 : decode m_P_lateAt.2.1 41 = .ok (.goto (-19), 3) := by decide +kernel
theorem d_P_lateAt_44 : decode m_P_lateAt.2.1 44 = .ok (.iload_n 2, 1) := by decide +kernel
theorem d_P_lateAt_45 : decode m_P_lateAt.2.1 45 = .ok (.ireturn, 1) := by decide +kernel
def f_P_lateAt_22 (o : Nat) : Nat → Int → Int → Int → qMem → Option (Int × qMem)
  | 0, _, _, _, _ => none
  | n + 1, x1, x2, x3, w =>
    if x3 < x1 then
    if x2 = (-1) then
    some (x2, w)
    else
    (f_P_lateAbove o x2 w).bind fun q3 =>
    (f_P_lateAt_22 o n) x1 q3.1 (w32 (x3 + 1)) q3.2
    else
    some (x2, w)
set_option maxRecDepth 4000 in
theorem s_P_lateAt_22 {ph : Nat} {o : Nat} (hI : qIs kLP ph o) : ∀ (n : Nat), ∀ (x1 x2 x3 : Int) (w : qMem), qSim κI ph ph m_P_lateAt 22 [] [some (qR o), some (qI x1), some (qI x2), some (qI x3)] w (f_P_lateAt_22 o n x1 x2 x3 w) := by
  intro n
  induction n with
  | zero => intro x1 x2 x3 w; exact z_none
  | succ n ih =>
    intro x1 x2 x3 w
    rw [f_P_lateAt_22]
    refine z_iload_n d_P_lateAt_22 rfl ?_
    refine z_iload_n d_P_lateAt_23 rfl ?_
    refine z_icmp_ge (tgt := 44) d_P_lateAt_24 rfl (fun c1 => ?_) (fun c1 => ?_)
    · refine z_iload_n d_P_lateAt_27 rfl ?_
      refine z_icm1 d_P_lateAt_28 ?_
      refine z_icmp_eq (tgt := 44) d_P_lateAt_29 rfl (fun c2 => ?_) (fun c2 => ?_)
      · refine z_iload_n d_P_lateAt_44 rfl ?_
        exact z_iret d_P_lateAt_45 rfl rfl
      · refine z_aload_n d_P_lateAt_32 rfl ?_
        refine z_iload_n d_P_lateAt_33 rfl ?_
        refine z_cVI (as := [qI x2]) (st := []) (nl := 2) (ci := 5) d_P_lateAt_34 lk_P_89 mk_P_lateAbove rfl rfl (hI 0 _ rfl).1 rfl rfl rfl (s_P_lateAbove _ hI _) (fun q3 _ hq3 => ?_)
        refine z_istore_n (pls' := [some (qR o), some (qI x1), some (qI q3.1), some (qI x3)]) d_P_lateAt_37 (by decide) rfl rfl ?_
        refine z_iinc (pls' := [some (qR o), some (qI x1), some (qI q3.1), some (qI (w32 (x3 + 1)))]) d_P_lateAt_38 (by decide) rfl rfl rfl ?_
        refine z_goto (tgt := 22) d_P_lateAt_41 rfl ?_
        refine z_mask [true, true, true, true] ?_
        exact ih _ _ _ _
    · refine z_iload_n d_P_lateAt_44 rfl ?_
      exact z_iret d_P_lateAt_45 rfl rfl
def f_P_lateAt (o : Nat) (x1 : Int) (w : qMem) : Option (Int × qMem) :=
  if x1 < 0 then
  some ((-1), w)
  else
  if x1 < (w o 13) then
  (f_P_lateAbove o (-1) w).bind fun q6 =>
  f_P_lateAt_22 o qFU x1 q6.1 0 q6.2
  else
  some ((-1), w)
set_option maxRecDepth 4000 in
theorem s_P_lateAt {ph : Nat} {o : Nat} (x1 : Int) (hI : qIs kLP ph o) (w : qMem) : qSim κI ph ph m_P_lateAt 0 [] [some (qR o), some (qI x1), none, none] w (f_P_lateAt o x1 w) := by
  unfold f_P_lateAt
  refine z_iload_n d_P_lateAt_0 rfl ?_
  refine z_if_lt (tgt := 12) d_P_lateAt_1 rfl (fun c4 => ?_) (fun c4 => ?_)
  · refine z_icm1 d_P_lateAt_12 ?_
    exact z_iret d_P_lateAt_13 rfl rfl
  · refine z_iload_n d_P_lateAt_4 rfl ?_
    refine z_aload_n d_P_lateAt_5 rfl ?_
    refine z_gi (ci := 5) (j := 13) (ji := 13) d_P_lateAt_6 rfl fl_P_51 (hI 0 _ rfl).1 rfl rfl ?_
    refine z_icmp_lt (tgt := 14) d_P_lateAt_9 rfl (fun c5 => ?_) (fun c5 => ?_)
    · refine z_aload_n d_P_lateAt_14 rfl ?_
      refine z_icm1 d_P_lateAt_15 ?_
      refine z_cVI (as := [qI (-1)]) (st := []) (nl := 2) (ci := 5) d_P_lateAt_16 lk_P_89 mk_P_lateAbove rfl rfl (hI 0 _ rfl).1 rfl rfl rfl (s_P_lateAbove _ hI _) (fun q6 _ hq6 => ?_)
      refine z_istore_n (pls' := [some (qR o), some (qI x1), some (qI q6.1), none]) d_P_lateAt_19 (by decide) rfl rfl ?_
      refine z_ic0 d_P_lateAt_20 ?_
      refine z_istore_n (pls' := [some (qR o), some (qI x1), some (qI q6.1), some (qI 0)]) d_P_lateAt_21 (by decide) rfl rfl ?_
      refine z_mask [true, true, true, true] ?_
      exact s_P_lateAt_22 hI _ _ _ _ _
    · refine z_icm1 d_P_lateAt_12 ?_
      exact z_iret d_P_lateAt_13 rfl rfl
/-! BubbleTorus$Packets.lateTogether -/
theorem d_P_lateTogether_0 : decode m_P_lateTogether.2.1 0 = .ok (.iconst 0, 1) := by decide +kernel
theorem d_P_lateTogether_1 : decode m_P_lateTogether.2.1 1 = .ok (.istore_n 1, 1) := by decide +kernel
theorem d_P_lateTogether_2 : decode m_P_lateTogether.2.1 2 = .ok (.iconst 0, 1) := by decide +kernel
theorem d_P_lateTogether_3 : decode m_P_lateTogether.2.1 3 = .ok (.istore_n 2, 1) := by decide +kernel
theorem d_P_lateTogether_4 : decode m_P_lateTogether.2.1 4 = .ok (.iload_n 2, 1) := by decide +kernel
theorem d_P_lateTogether_5 : decode m_P_lateTogether.2.1 5 = .ok (.aload_n 0, 1) := by decide +kernel
theorem d_P_lateTogether_6 : decode m_P_lateTogether.2.1 6 = .ok (.getfield 51, 3) := by decide +kernel
theorem d_P_lateTogether_9 : decode m_P_lateTogether.2.1 9 = .ok (.if_icmp .ge 25, 3) := by decide +kernel
theorem d_P_lateTogether_12 : decode m_P_lateTogether.2.1 12 = .ok (.aload_n 0, 1) := by decide +kernel
theorem d_P_lateTogether_13 : decode m_P_lateTogether.2.1 13 = .ok (.iload_n 2, 1) := by decide +kernel
theorem d_P_lateTogether_14 : decode m_P_lateTogether.2.1 14 = .ok (.invokevirtual 76, 3) := by decide +kernel
theorem d_P_lateTogether_17 : decode m_P_lateTogether.2.1 17 = .ok (.ifCond .eq 11, 3) := by decide +kernel
theorem d_P_lateTogether_20 : decode m_P_lateTogether.2.1 20 = .ok (.iload_n 1, 1) := by decide +kernel
theorem d_P_lateTogether_21 : decode m_P_lateTogether.2.1 21 = .ok (.aload_n 0, 1) := by decide +kernel
theorem d_P_lateTogether_22 : decode m_P_lateTogether.2.1 22 = .ok (.iload_n 2, 1) := by decide +kernel
theorem d_P_lateTogether_23 : decode m_P_lateTogether.2.1 23 = .ok (.invokevirtual 85, 3) := by decide +kernel
theorem d_P_lateTogether_26 : decode m_P_lateTogether.2.1 26 = .ok (.iadd, 1) := by decide +kernel
theorem d_P_lateTogether_27 : decode m_P_lateTogether.2.1 27 = .ok (.istore_n 1, 1) := by decide +kernel
theorem d_P_lateTogether_28 : decode m_P_lateTogether.2.1 28 = .ok (.iinc 2 1, 3) := by decide +kernel
theorem d_P_lateTogether_31 : decode m_P_lateTogether.2.1 31 = .ok (.goto (-27), 3) := by decide +kernel
theorem d_P_lateTogether_34 : decode m_P_lateTogether.2.1 34 = .ok (.iload_n 1, 1) := by decide +kernel
theorem d_P_lateTogether_35 : decode m_P_lateTogether.2.1 35 = .ok (.ireturn, 1) := by decide +kernel
def f_P_lateTogether_4 (o : Nat) : Nat → Int → Int → qMem → Option (Int × qMem)
  | 0, _, _, _ => none
  | n + 1, x1, x2, w =>
    if x2 < (w o 13) then
    (f_P_isDelivered o x2 w).bind fun q2 =>
    if q2.1 = 0 then
    (f_P_lateTogether_4 o n) x1 (w32 (x2 + 1)) q2.2
    else
    (f_P_lateness o x2 q2.2).bind fun q4 =>
    (f_P_lateTogether_4 o n) (w32 (x1 + q4.1)) (w32 (x2 + 1)) q4.2
    else
    some (x1, w)
set_option maxRecDepth 4000 in
theorem s_P_lateTogether_4 {ph : Nat} {o : Nat} (hI : qIs kLP ph o) : ∀ (n : Nat), ∀ (x1 x2 : Int) (w : qMem), qSim κI ph ph m_P_lateTogether 4 [] [some (qR o), some (qI x1), some (qI x2)] w (f_P_lateTogether_4 o n x1 x2 w) := by
  intro n
  induction n with
  | zero => intro x1 x2 w; exact z_none
  | succ n ih =>
    intro x1 x2 w
    rw [f_P_lateTogether_4]
    refine z_iload_n d_P_lateTogether_4 rfl ?_
    refine z_aload_n d_P_lateTogether_5 rfl ?_
    refine z_gi (ci := 5) (j := 13) (ji := 13) d_P_lateTogether_6 rfl fl_P_51 (hI 0 _ rfl).1 rfl rfl ?_
    refine z_icmp_ge (tgt := 34) d_P_lateTogether_9 rfl (fun c1 => ?_) (fun c1 => ?_)
    · refine z_aload_n d_P_lateTogether_12 rfl ?_
      refine z_iload_n d_P_lateTogether_13 rfl ?_
      refine z_cVI (as := [qI x2]) (st := []) (nl := 0) (ci := 5) d_P_lateTogether_14 lk_P_76 mk_P_isDelivered rfl rfl (hI 0 _ rfl).1 rfl rfl rfl (s_P_isDelivered _ hI _) (fun q2 _ hq2 => ?_)
      refine z_if_eq (tgt := 28) d_P_lateTogether_17 rfl (fun c3 => ?_) (fun c3 => ?_)
      · refine z_iinc (pls' := [some (qR o), some (qI x1), some (qI (w32 (x2 + 1)))]) d_P_lateTogether_28 (by decide) rfl rfl rfl ?_
        refine z_goto (tgt := 4) d_P_lateTogether_31 rfl ?_
        refine z_mask [true, true, true] ?_
        exact ih _ _ _
      · refine z_iload_n d_P_lateTogether_20 rfl ?_
        refine z_aload_n d_P_lateTogether_21 rfl ?_
        refine z_iload_n d_P_lateTogether_22 rfl ?_
        refine z_cVI (as := [qI x2]) (st := [qI x1]) (nl := 0) (ci := 5) d_P_lateTogether_23 lk_P_85 mk_P_lateness rfl rfl (hI 0 _ rfl).1 rfl rfl rfl (s_P_lateness _ hI _) (fun q4 _ hq4 => ?_)
        refine z_iadd d_P_lateTogether_26 ?_
        refine z_istore_n (pls' := [some (qR o), some (qI (w32 (x1 + q4.1))), some (qI x2)]) d_P_lateTogether_27 (by decide) rfl rfl ?_
        refine z_iinc (pls' := [some (qR o), some (qI (w32 (x1 + q4.1))), some (qI (w32 (x2 + 1)))]) d_P_lateTogether_28 (by decide) rfl rfl rfl ?_
        refine z_goto (tgt := 4) d_P_lateTogether_31 rfl ?_
        refine z_mask [true, true, true] ?_
        exact ih _ _ _
    · refine z_iload_n d_P_lateTogether_34 rfl ?_
      exact z_iret d_P_lateTogether_35 rfl rfl
def f_P_lateTogether (o : Nat) (w : qMem) : Option (Int × qMem) :=
  f_P_lateTogether_4 o qFU 0 0 w
set_option maxRecDepth 4000 in
theorem s_P_lateTogether {ph : Nat} {o : Nat} (hI : qIs kLP ph o) (w : qMem) : qSim κI ph ph m_P_lateTogether 0 [] [some (qR o), none, none] w (f_P_lateTogether o w) := by
  unfold f_P_lateTogether
  refine z_ic0 d_P_lateTogether_0 ?_
  refine z_istore_n (pls' := [some (qR o), some (qI 0), none]) d_P_lateTogether_1 (by decide) rfl rfl ?_
  refine z_ic0 d_P_lateTogether_2 ?_
  refine z_istore_n (pls' := [some (qR o), some (qI 0), some (qI 0)]) d_P_lateTogether_3 (by decide) rfl rfl ?_
  refine z_mask [true, true, true] ?_
  exact s_P_lateTogether_4 hI _ _ _ _
/-! BubbleTorus$Packets.hopsTogether -/
theorem d_P_hopsTogether_0 : decode m_P_hopsTogether.2.1 0 = .ok (.iconst 0, 1) := by decide +kernel
theorem d_P_hopsTogether_1 : decode m_P_hopsTogether.2.1 1 = .ok (.istore_n 1, 1) := by decide +kernel
theorem d_P_hopsTogether_2 : decode m_P_hopsTogether.2.1 2 = .ok (.iconst 0, 1) := by decide +kernel
theorem d_P_hopsTogether_3 : decode m_P_hopsTogether.2.1 3 = .ok (.istore_n 2, 1) := by decide +kernel
theorem d_P_hopsTogether_4 : decode m_P_hopsTogether.2.1 4 = .ok (.iload_n 2, 1) := by decide +kernel
theorem d_P_hopsTogether_5 : decode m_P_hopsTogether.2.1 5 = .ok (.aload_n 0, 1) := by decide +kernel
theorem d_P_hopsTogether_6 : decode m_P_hopsTogether.2.1 6 = .ok (.getfield 51, 3) := by decide +kernel
theorem d_P_hopsTogether_9 : decode m_P_hopsTogether.2.1 9 = .ok (.if_icmp .ge 18, 3) := by decide +kernel
theorem d_P_hopsTogether_12 : decode m_P_hopsTogether.2.1 12 = .ok (.iload_n 1, 1) := by decide +kernel
theorem d_P_hopsTogether_13 : decode m_P_hopsTogether.2.1 13 = .ok (.aload_n 0, 1) := by decide +kernel
theorem d_P_hopsTogether_14 : decode m_P_hopsTogether.2.1 14 = .ok (.getfield 30, 3) := by decide +kernel
theorem d_P_hopsTogether_17 : decode m_P_hopsTogether.2.1 17 = .ok (.iload_n 2, 1) := by decide +kernel
theorem d_P_hopsTogether_18 : decode m_P_hopsTogether.2.1 18 = .ok (.iaload, 1) := by decide +kernel
theorem d_P_hopsTogether_19 : decode m_P_hopsTogether.2.1 19 = .ok (.iadd, 1) := by decide +kernel
theorem d_P_hopsTogether_20 : decode m_P_hopsTogether.2.1 20 = .ok (.istore_n 1, 1) := by decide +kernel
theorem d_P_hopsTogether_21 : decode m_P_hopsTogether.2.1 21 = .ok (.iinc 2 1, 3) := by decide +kernel
theorem d_P_hopsTogether_24 : decode m_P_hopsTogether.2.1 24 = .ok (.goto (-20), 3) := by decide +kernel
theorem d_P_hopsTogether_27 : decode m_P_hopsTogether.2.1 27 = .ok (.iload_n 1, 1) := by decide +kernel
theorem d_P_hopsTogether_28 : decode m_P_hopsTogether.2.1 28 = .ok (.ireturn, 1) := by decide +kernel
def f_P_hopsTogether_4 (o : Nat) : Nat → Int → Int → qMem → Option (Int × qMem)
  | 0, _, _, _ => none
  | n + 1, x1, x2, w =>
    if x2 < (w o 13) then
    qld w (o + 7) 250 x2 fun v2 =>
    (f_P_hopsTogether_4 o n) (w32 (x1 + v2)) (w32 (x2 + 1)) w
    else
    some (x1, w)
set_option maxRecDepth 4000 in
theorem s_P_hopsTogether_4 {ph : Nat} {o : Nat} (hI : qIs kLP ph o) : ∀ (n : Nat), ∀ (x1 x2 : Int) (w : qMem), qSim κI ph ph m_P_hopsTogether 4 [] [some (qR o), some (qI x1), some (qI x2)] w (f_P_hopsTogether_4 o n x1 x2 w) := by
  intro n
  induction n with
  | zero => intro x1 x2 w; exact z_none
  | succ n ih =>
    intro x1 x2 w
    rw [f_P_hopsTogether_4]
    refine z_iload_n d_P_hopsTogether_4 rfl ?_
    refine z_aload_n d_P_hopsTogether_5 rfl ?_
    refine z_gi (ci := 5) (j := 13) (ji := 13) d_P_hopsTogether_6 rfl fl_P_51 (hI 0 _ rfl).1 rfl rfl ?_
    refine z_icmp_ge (tgt := 27) d_P_hopsTogether_9 rfl (fun c1 => ?_) (fun c1 => ?_)
    · refine z_iload_n d_P_hopsTogether_12 rfl ?_
      refine z_aload_n d_P_hopsTogether_13 rfl ?_
      refine z_gr (ci := 5) (j := 6) (d := 7) (o2 := (o + 7)) d_P_hopsTogether_14 rfl fl_P_30 (hI 0 _ rfl).1 ((hI 0 _ rfl).2 (Nat.le_of_ble_eq_true rfl)) rfl rfl ?_
      refine z_iload_n d_P_hopsTogether_17 rfl ?_
      refine z_il d_P_hopsTogether_18 (hI 7 _ rfl).1 rfl (fun v2 => ?_)
      refine z_iadd d_P_hopsTogether_19 ?_
      refine z_istore_n (pls' := [some (qR o), some (qI (w32 (x1 + v2))), some (qI x2)]) d_P_hopsTogether_20 (by decide) rfl rfl ?_
      refine z_iinc (pls' := [some (qR o), some (qI (w32 (x1 + v2))), some (qI (w32 (x2 + 1)))]) d_P_hopsTogether_21 (by decide) rfl rfl rfl ?_
      refine z_goto (tgt := 4) d_P_hopsTogether_24 rfl ?_
      refine z_mask [true, true, true] ?_
      exact ih _ _ _
    · refine z_iload_n d_P_hopsTogether_27 rfl ?_
      exact z_iret d_P_hopsTogether_28 rfl rfl
def f_P_hopsTogether (o : Nat) (w : qMem) : Option (Int × qMem) :=
  f_P_hopsTogether_4 o qFU 0 0 w
set_option maxRecDepth 4000 in
theorem s_P_hopsTogether {ph : Nat} {o : Nat} (hI : qIs kLP ph o) (w : qMem) : qSim κI ph ph m_P_hopsTogether 0 [] [some (qR o), none, none] w (f_P_hopsTogether o w) := by
  unfold f_P_hopsTogether
  refine z_ic0 d_P_hopsTogether_0 ?_
  refine z_istore_n (pls' := [some (qR o), some (qI 0), none]) d_P_hopsTogether_1 (by decide) rfl rfl ?_
  refine z_ic0 d_P_hopsTogether_2 ?_
  refine z_istore_n (pls' := [some (qR o), some (qI 0), some (qI 0)]) d_P_hopsTogether_3 (by decide) rfl rfl ?_
  refine z_mask [true, true, true] ?_
  exact s_P_hopsTogether_4 hI _ _ _ _
/-! BubbleTorus$Packets.disorderTogether -/
theorem d_P_disorderTogether_0 : decode m_P_disorderTogether.2.1 0 = .ok (.iconst 0, 1) := by decide +kernel
theorem d_P_disorderTogether_1 : decode m_P_disorderTogether.2.1 1 = .ok (.istore_n 1, 1) := by decide +kernel
theorem d_P_disorderTogether_2 : decode m_P_disorderTogether.2.1 2 = .ok (.iconst 0, 1) := by decide +kernel
theorem d_P_disorderTogether_3 : decode m_P_disorderTogether.2.1 3 = .ok (.istore_n 2, 1) := by decide +kernel
theorem d_P_disorderTogether_4 : decode m_P_disorderTogether.2.1 4 = .ok (.iload_n 2, 1) := by decide +kernel
theorem d_P_disorderTogether_5 : decode m_P_disorderTogether.2.1 5 = .ok (.aload_n 0, 1) := by decide +kernel
theorem d_P_disorderTogether_6 : decode m_P_disorderTogether.2.1 6 = .ok (.getfield 51, 3) := by decide +kernel
theorem d_P_disorderTogether_9 : decode m_P_disorderTogether.2.1 9 = .ok (.if_icmp .ge 18, 3) := by decide +kernel
theorem d_P_disorderTogether_12 : decode m_P_disorderTogether.2.1 12 = .ok (.iload_n 1, 1) := by decide +kernel
theorem d_P_disorderTogether_13 : decode m_P_disorderTogether.2.1 13 = .ok (.aload_n 0, 1) := by decide +kernel
theorem d_P_disorderTogether_14 : decode m_P_disorderTogether.2.1 14 = .ok (.getfield 39, 3) := by decide +kernel
theorem d_P_disorderTogether_17 : decode m_P_disorderTogether.2.1 17 = .ok (.iload_n 2, 1) := by decide +kernel
theorem d_P_disorderTogether_18 : decode m_P_disorderTogether.2.1 18 = .ok (.iaload, 1) := by decide +kernel
theorem d_P_disorderTogether_19 : decode m_P_disorderTogether.2.1 19 = .ok (.iadd, 1) := by decide +kernel
theorem d_P_disorderTogether_20 : decode m_P_disorderTogether.2.1 20 = .ok (.istore_n 1, 1) := by decide +kernel
theorem d_P_disorderTogether_21 : decode m_P_disorderTogether.2.1 21 = .ok (.iinc 2 1, 3) := by decide +kernel
theorem d_P_disorderTogether_24 : decode m_P_disorderTogether.2.1 24 = .ok (.goto (-20), 3) := by decide +kernel
theorem d_P_disorderTogether_27 : decode m_P_disorderTogether.2.1 27 = .ok (.iload_n 1, 1) := by decide +kernel
theorem d_P_disorderTogether_28 : decode m_P_disorderTogether.2.1 28 = .ok (.ireturn, 1) := by decide +kernel
def f_P_disorderTogether_4 (o : Nat) : Nat → Int → Int → qMem → Option (Int × qMem)
  | 0, _, _, _ => none
  | n + 1, x1, x2, w =>
    if x2 < (w o 13) then
    qld w (o + 10) 250 x2 fun v2 =>
    (f_P_disorderTogether_4 o n) (w32 (x1 + v2)) (w32 (x2 + 1)) w
    else
    some (x1, w)
set_option maxRecDepth 4000 in
theorem s_P_disorderTogether_4 {ph : Nat} {o : Nat} (hI : qIs kLP ph o) : ∀ (n : Nat), ∀ (x1 x2 : Int) (w : qMem), qSim κI ph ph m_P_disorderTogether 4 [] [some (qR o), some (qI x1), some (qI x2)] w (f_P_disorderTogether_4 o n x1 x2 w) := by
  intro n
  induction n with
  | zero => intro x1 x2 w; exact z_none
  | succ n ih =>
    intro x1 x2 w
    rw [f_P_disorderTogether_4]
    refine z_iload_n d_P_disorderTogether_4 rfl ?_
    refine z_aload_n d_P_disorderTogether_5 rfl ?_
    refine z_gi (ci := 5) (j := 13) (ji := 13) d_P_disorderTogether_6 rfl fl_P_51 (hI 0 _ rfl).1 rfl rfl ?_
    refine z_icmp_ge (tgt := 27) d_P_disorderTogether_9 rfl (fun c1 => ?_) (fun c1 => ?_)
    · refine z_iload_n d_P_disorderTogether_12 rfl ?_
      refine z_aload_n d_P_disorderTogether_13 rfl ?_
      refine z_gr (ci := 5) (j := 9) (d := 10) (o2 := (o + 10)) d_P_disorderTogether_14 rfl fl_P_39 (hI 0 _ rfl).1 ((hI 0 _ rfl).2 (Nat.le_of_ble_eq_true rfl)) rfl rfl ?_
      refine z_iload_n d_P_disorderTogether_17 rfl ?_
      refine z_il d_P_disorderTogether_18 (hI 10 _ rfl).1 rfl (fun v2 => ?_)
      refine z_iadd d_P_disorderTogether_19 ?_
      refine z_istore_n (pls' := [some (qR o), some (qI (w32 (x1 + v2))), some (qI x2)]) d_P_disorderTogether_20 (by decide) rfl rfl ?_
      refine z_iinc (pls' := [some (qR o), some (qI (w32 (x1 + v2))), some (qI (w32 (x2 + 1)))]) d_P_disorderTogether_21 (by decide) rfl rfl rfl ?_
      refine z_goto (tgt := 4) d_P_disorderTogether_24 rfl ?_
      refine z_mask [true, true, true] ?_
      exact ih _ _ _
    · refine z_iload_n d_P_disorderTogether_27 rfl ?_
      exact z_iret d_P_disorderTogether_28 rfl rfl
def f_P_disorderTogether (o : Nat) (w : qMem) : Option (Int × qMem) :=
  f_P_disorderTogether_4 o qFU 0 0 w
set_option maxRecDepth 4000 in
theorem s_P_disorderTogether {ph : Nat} {o : Nat} (hI : qIs kLP ph o) (w : qMem) : qSim κI ph ph m_P_disorderTogether 0 [] [some (qR o), none, none] w (f_P_disorderTogether o w) := by
  unfold f_P_disorderTogether
  refine z_ic0 d_P_disorderTogether_0 ?_
  refine z_istore_n (pls' := [some (qR o), some (qI 0), none]) d_P_disorderTogether_1 (by decide) rfl rfl ?_
  refine z_ic0 d_P_disorderTogether_2 ?_
  refine z_istore_n (pls' := [some (qR o), some (qI 0), some (qI 0)]) d_P_disorderTogether_3 (by decide) rfl rfl ?_
  refine z_mask [true, true, true] ?_
  exact s_P_disorderTogether_4 hI _ _ _ _
/-! BubbleTorus$Moves.copyFrom -/
theorem d_V_copyFrom_0 : decode m_V_copyFrom.2.1 0 = .ok (.aload_n 0, 1) := by decide +kernel
theorem d_V_copyFrom_1 : decode m_V_copyFrom.2.1 1 = .ok (.aload_n 1, 1) := by decide +kernel
theorem d_V_copyFrom_2 : decode m_V_copyFrom.2.1 2 = .ok (.getfield 15, 3) := by decide +kernel
theorem d_V_copyFrom_5 : decode m_V_copyFrom.2.1 5 = .ok (.putfield 15, 3) := by decide +kernel
theorem d_V_copyFrom_8 : decode m_V_copyFrom.2.1 8 = .ok (.aload_n 1, 1) := by decide +kernel
theorem d_V_copyFrom_9 : decode m_V_copyFrom.2.1 9 = .ok (.getfield 11, 3) := by decide +kernel
theorem d_V_copyFrom_12 : decode m_V_copyFrom.2.1 12 = .ok (.iconst 0, 1) := by decide +kernel
theorem d_V_copyFrom_13 : decode m_V_copyFrom.2.1 13 = .ok (.aload_n 0, 1) := by decide +kernel
theorem d_V_copyFrom_14 : decode m_V_copyFrom.2.1 14 = .ok (.getfield 11, 3) := by decide +kernel
theorem d_V_copyFrom_17 : decode m_V_copyFrom.2.1 17 = .ok (.iconst 0, 1) := by decide +kernel
theorem d_V_copyFrom_18 : decode m_V_copyFrom.2.1 18 = .ok (.aload_n 0, 1) := by decide +kernel
theorem d_V_copyFrom_19 : decode m_V_copyFrom.2.1 19 = .ok (.getfield 15, 3) := by decide +kernel
theorem d_V_copyFrom_22 : decode m_V_copyFrom.2.1 22 = .ok (.iconst 5, 1) := by decide +kernel
theorem d_V_copyFrom_23 : decode m_V_copyFrom.2.1 23 = .ok (.imul, 1) := by decide +kernel
theorem d_V_copyFrom_24 : decode m_V_copyFrom.2.1 24 = .ok (.invokestatic 19, 3) := by decide +kernel
theorem d_V_copyFrom_27 : decode m_V_copyFrom.2.1 27 = .ok (.return_, 1) := by decide +kernel
def f_V_copyFrom (o : Nat) (p1 : Nat) (w : qMem) : Option (qMem) :=
  qlt (qud w o 1 (w p1 1)) fun w1 =>
  qcpy w1 (p1 + 1) 320 0 (o + 1) 320 0 (w32 ((w1 o 1) * 5)) fun w2 =>
  some w2
set_option maxRecDepth 4000 in
theorem s_V_copyFrom {ph : Nat} {o : Nat} {p1 : Nat} (hI : qIs kLV ph o) (hp1 : qIs kLV ph p1) (w : qMem) : qSim κV ph ph m_V_copyFrom 0 [] [some (qR o), some (qR p1)] w (f_V_copyFrom o p1 w) := by
  unfold f_V_copyFrom
  refine z_aload_n d_V_copyFrom_0 rfl ?_
  refine z_aload_n d_V_copyFrom_1 rfl ?_
  refine z_gi (ci := 2) (j := 1) (ji := 1) d_V_copyFrom_2 rfl fl_V_15 (hp1 0 _ rfl).1 rfl rfl ?_
  refine z_pi (ci := 2) (j := 1) (ji := 1) d_V_copyFrom_5 rfl fl_V_15 (hI 0 _ rfl).1 rfl rfl rfl rfl (fun w1 => ?_)
  refine z_aload_n d_V_copyFrom_8 rfl ?_
  refine z_gr (ci := 2) (j := 0) (d := 1) (o2 := (p1 + 1)) d_V_copyFrom_9 rfl fl_V_11 (hp1 0 _ rfl).1 ((hp1 0 _ rfl).2 (Nat.le_of_ble_eq_true rfl)) rfl rfl ?_
  refine z_ic0 d_V_copyFrom_12 ?_
  refine z_aload_n d_V_copyFrom_13 rfl ?_
  refine z_gr (ci := 2) (j := 0) (d := 1) (o2 := (o + 1)) d_V_copyFrom_14 rfl fl_V_11 (hI 0 _ rfl).1 ((hI 0 _ rfl).2 (Nat.le_of_ble_eq_true rfl)) rfl rfl ?_
  refine z_ic0 d_V_copyFrom_17 ?_
  refine z_aload_n d_V_copyFrom_18 rfl ?_
  refine z_gi (ci := 2) (j := 1) (ji := 1) d_V_copyFrom_19 rfl fl_V_15 (hI 0 _ rfl).1 rfl rfl ?_
  refine z_ic5 d_V_copyFrom_22 ?_
  refine z_imul d_V_copyFrom_23 ?_
  refine z_cp d_V_copyFrom_24 lk_V_19 (by decide) (hp1 1 _ rfl).1 (hI 1 _ rfl).1 rfl rfl (Nat.le_of_ble_eq_true rfl) (Nat.le_of_ble_eq_true rfl) (fun w2 => ?_)
  exact z_vret d_V_copyFrom_27 rfl rfl
/-! BubbleTorus$Moves.add -/
theorem d_V_add_0 : decode m_V_add.2.1 0 = .ok (.aload_n 0, 1) := by decide +kernel
theorem d_V_add_1 : decode m_V_add.2.1 1 = .ok (.getfield 15, 3) := by decide +kernel
theorem d_V_add_4 : decode m_V_add.2.1 4 = .ok (.bipush 64, 2) := by decide +kernel
theorem d_V_add_6 : decode m_V_add.2.1 6 = .ok (.if_icmp .lt 4, 3) := by decide +kernel
theorem d_V_add_9 : decode m_V_add.2.1 9 = .ok (.return_, 1) := by decide +kernel
theorem d_V_add_10 : decode m_V_add.2.1 10 = .ok (.aload_n 0, 1) := by decide +kernel
theorem d_V_add_11 : decode m_V_add.2.1 11 = .ok (.getfield 15, 3) := by decide +kernel
theorem d_V_add_14 : decode m_V_add.2.1 14 = .ok (.iconst 5, 1) := by decide +kernel
theorem d_V_add_15 : decode m_V_add.2.1 15 = .ok (.imul, 1) := by decide +kernel
theorem d_V_add_16 : decode m_V_add.2.1 16 = .ok (.istore 6, 2) := by decide +kernel
theorem d_V_add_18 : decode m_V_add.2.1 18 = .ok (.aload_n 0, 1) := by decide +kernel
theorem d_V_add_19 : decode m_V_add.2.1 19 = .ok (.getfield 11, 3) := by decide +kernel
theorem d_V_add_22 : decode m_V_add.2.1 22 = .ok (.iload 6, 2) := by decide +kernel
theorem d_V_add_24 : decode m_V_add.2.1 24 = .ok (.iload_n 1, 1) := by decide +kernel
theorem d_V_add_25 : decode m_V_add.2.1 25 = .ok (.iastore, 1) := by decide +kernel
theorem d_V_add_26 : decode m_V_add.2.1 26 = .ok (.aload_n 0, 1) := by decide +kernel
theorem d_V_add_27 : decode m_V_add.2.1 27 = .ok (.getfield 11, 3) := by decide +kernel
theorem d_V_add_30 : decode m_V_add.2.1 30 = .ok (.iload 6, 2) := by decide +kernel
theorem d_V_add_32 : decode m_V_add.2.1 32 = .ok (.iconst 1, 1) := by decide +kernel
theorem d_V_add_33 : decode m_V_add.2.1 33 = .ok (.iadd, 1) := by decide +kernel
theorem d_V_add_34 : decode m_V_add.2.1 34 = .ok (.iload_n 2, 1) := by decide +kernel
theorem d_V_add_35 : decode m_V_add.2.1 35 = .ok (.iastore, 1) := by decide +kernel
theorem d_V_add_36 : decode m_V_add.2.1 36 = .ok (.aload_n 0, 1) := by decide +kernel
theorem d_V_add_37 : decode m_V_add.2.1 37 = .ok (.getfield 11, 3) := by decide +kernel
theorem d_V_add_40 : decode m_V_add.2.1 40 = .ok (.iload 6, 2) := by decide +kernel
theorem d_V_add_42 : decode m_V_add.2.1 42 = .ok (.iconst 2, 1) := by decide +kernel
theorem d_V_add_43 : decode m_V_add.2.1 43 = .ok (.iadd, 1) := by decide +kernel
theorem d_V_add_44 : decode m_V_add.2.1 44 = .ok (.iload_n 3, 1) := by decide +kernel
theorem d_V_add_45 : decode m_V_add.2.1 45 = .ok (.iastore, 1) := by decide +kernel
theorem d_V_add_46 : decode m_V_add.2.1 46 = .ok (.aload_n 0, 1) := by decide +kernel
theorem d_V_add_47 : decode m_V_add.2.1 47 = .ok (.getfield 11, 3) := by decide +kernel
theorem d_V_add_50 : decode m_V_add.2.1 50 = .ok (.iload 6, 2) := by decide +kernel
theorem d_V_add_52 : decode m_V_add.2.1 52 = .ok (.iconst 3, 1) := by decide +kernel
theorem d_V_add_53 : decode m_V_add.2.1 53 = .ok (.iadd, 1) := by decide +kernel
theorem d_V_add_54 : decode m_V_add.2.1 54 = .ok (.iload 4, 2) := by decide +kernel
theorem d_V_add_56 : decode m_V_add.2.1 56 = .ok (.iastore, 1) := by decide +kernel
theorem d_V_add_57 : decode m_V_add.2.1 57 = .ok (.aload_n 0, 1) := by decide +kernel
theorem d_V_add_58 : decode m_V_add.2.1 58 = .ok (.getfield 11, 3) := by decide +kernel
theorem d_V_add_61 : decode m_V_add.2.1 61 = .ok (.iload 6, 2) := by decide +kernel
theorem d_V_add_63 : decode m_V_add.2.1 63 = .ok (.iconst 4, 1) := by decide +kernel
theorem d_V_add_64 : decode m_V_add.2.1 64 = .ok (.iadd, 1) := by decide +kernel
theorem d_V_add_65 : decode m_V_add.2.1 65 = .ok (.iload 5, 2) := by decide +kernel
theorem d_V_add_67 : decode m_V_add.2.1 67 = .ok (.iastore, 1) := by decide +kernel
theorem d_V_add_68 : decode m_V_add.2.1 68 = .ok (.aload_n 0, 1) := by decide +kernel
theorem d_V_add_69 : decode m_V_add.2.1 69 = .ok (.dup, 1) := by decide +kernel
theorem d_V_add_70 : decode m_V_add.2.1 70 = .ok (.getfield 15, 3) := by decide +kernel
theorem d_V_add_73 : decode m_V_add.2.1 73 = .ok (.iconst 1, 1) := by decide +kernel
theorem d_V_add_74 : decode m_V_add.2.1 74 = .ok (.iadd, 1) := by decide +kernel
theorem d_V_add_75 : decode m_V_add.2.1 75 = .ok (.putfield 15, 3) := by decide +kernel
theorem d_V_add_78 : decode m_V_add.2.1 78 = .ok (.return_, 1) := by decide +kernel
def f_V_add (o : Nat) (x1 : Int) (x2 : Int) (x3 : Int) (x4 : Int) (x5 : Int) (w : qMem) : Option (qMem) :=
  if (w o 1) < 64 then
  qst w (o + 1) 320 (w32 ((w o 1) * 5)) x1 fun w2 =>
  qst w2 (o + 1) 320 (w32 ((w32 ((w o 1) * 5)) + 1)) x2 fun w3 =>
  qst w3 (o + 1) 320 (w32 ((w32 ((w o 1) * 5)) + 2)) x3 fun w4 =>
  qst w4 (o + 1) 320 (w32 ((w32 ((w o 1) * 5)) + 3)) x4 fun w5 =>
  qst w5 (o + 1) 320 (w32 ((w32 ((w o 1) * 5)) + 4)) x5 fun w6 =>
  qlt (qud w6 o 1 (w32 ((w6 o 1) + 1))) fun w7 =>
  some w7
  else
  some w
set_option maxRecDepth 4000 in
theorem s_V_add {ph : Nat} {o : Nat} (x1 : Int) (x2 : Int) (x3 : Int) (x4 : Int) (x5 : Int) (hI : qIs kLV ph o) (w : qMem) : qSim κV ph ph m_V_add 0 [] [some (qR o), some (qI x1), some (qI x2), some (qI x3), some (qI x4), some (qI x5), none] w (f_V_add o x1 x2 x3 x4 x5 w) := by
  unfold f_V_add
  refine z_aload_n d_V_add_0 rfl ?_
  refine z_gi (ci := 2) (j := 1) (ji := 1) d_V_add_1 rfl fl_V_15 (hI 0 _ rfl).1 rfl rfl ?_
  refine z_bipush d_V_add_4 ⟨by decide, by decide⟩ ?_
  refine z_icmp_lt (tgt := 10) d_V_add_6 rfl (fun c1 => ?_) (fun c1 => ?_)
  · refine z_aload_n d_V_add_10 rfl ?_
    refine z_gi (ci := 2) (j := 1) (ji := 1) d_V_add_11 rfl fl_V_15 (hI 0 _ rfl).1 rfl rfl ?_
    refine z_ic5 d_V_add_14 ?_
    refine z_imul d_V_add_15 ?_
    refine z_istore (pls' := [some (qR o), some (qI x1), some (qI x2), some (qI x3), some (qI x4), some (qI x5), some (qI (w32 ((w o 1) * 5)))]) d_V_add_16 (by decide) rfl rfl ?_
    refine z_aload_n d_V_add_18 rfl ?_
    refine z_gr (ci := 2) (j := 0) (d := 1) (o2 := (o + 1)) d_V_add_19 rfl fl_V_11 (hI 0 _ rfl).1 ((hI 0 _ rfl).2 (Nat.le_of_ble_eq_true rfl)) rfl rfl ?_
    refine z_iload d_V_add_22 rfl ?_
    refine z_iload_n d_V_add_24 rfl ?_
    refine z_is d_V_add_25 (hI 1 _ rfl).1 rfl (fun w2 => ?_)
    refine z_aload_n d_V_add_26 rfl ?_
    refine z_gr (ci := 2) (j := 0) (d := 1) (o2 := (o + 1)) d_V_add_27 rfl fl_V_11 (hI 0 _ rfl).1 ((hI 0 _ rfl).2 (Nat.le_of_ble_eq_true rfl)) rfl rfl ?_
    refine z_iload d_V_add_30 rfl ?_
    refine z_ic1 d_V_add_32 ?_
    refine z_iadd d_V_add_33 ?_
    refine z_iload_n d_V_add_34 rfl ?_
    refine z_is d_V_add_35 (hI 1 _ rfl).1 rfl (fun w3 => ?_)
    refine z_aload_n d_V_add_36 rfl ?_
    refine z_gr (ci := 2) (j := 0) (d := 1) (o2 := (o + 1)) d_V_add_37 rfl fl_V_11 (hI 0 _ rfl).1 ((hI 0 _ rfl).2 (Nat.le_of_ble_eq_true rfl)) rfl rfl ?_
    refine z_iload d_V_add_40 rfl ?_
    refine z_ic2 d_V_add_42 ?_
    refine z_iadd d_V_add_43 ?_
    refine z_iload_n d_V_add_44 rfl ?_
    refine z_is d_V_add_45 (hI 1 _ rfl).1 rfl (fun w4 => ?_)
    refine z_aload_n d_V_add_46 rfl ?_
    refine z_gr (ci := 2) (j := 0) (d := 1) (o2 := (o + 1)) d_V_add_47 rfl fl_V_11 (hI 0 _ rfl).1 ((hI 0 _ rfl).2 (Nat.le_of_ble_eq_true rfl)) rfl rfl ?_
    refine z_iload d_V_add_50 rfl ?_
    refine z_ic3 d_V_add_52 ?_
    refine z_iadd d_V_add_53 ?_
    refine z_iload d_V_add_54 rfl ?_
    refine z_is d_V_add_56 (hI 1 _ rfl).1 rfl (fun w5 => ?_)
    refine z_aload_n d_V_add_57 rfl ?_
    refine z_gr (ci := 2) (j := 0) (d := 1) (o2 := (o + 1)) d_V_add_58 rfl fl_V_11 (hI 0 _ rfl).1 ((hI 0 _ rfl).2 (Nat.le_of_ble_eq_true rfl)) rfl rfl ?_
    refine z_iload d_V_add_61 rfl ?_
    refine z_ic4 d_V_add_63 ?_
    refine z_iadd d_V_add_64 ?_
    refine z_iload d_V_add_65 rfl ?_
    refine z_is d_V_add_67 (hI 1 _ rfl).1 rfl (fun w6 => ?_)
    refine z_aload_n d_V_add_68 rfl ?_
    refine z_dup d_V_add_69 rfl ?_
    refine z_gi (ci := 2) (j := 1) (ji := 1) d_V_add_70 rfl fl_V_15 (hI 0 _ rfl).1 rfl rfl ?_
    refine z_ic1 d_V_add_73 ?_
    refine z_iadd d_V_add_74 ?_
    refine z_pi (ci := 2) (j := 1) (ji := 1) d_V_add_75 rfl fl_V_15 (hI 0 _ rfl).1 rfl rfl rfl rfl (fun w7 => ?_)
    exact z_vret d_V_add_78 rfl rfl
  · exact z_vret d_V_add_9 rfl rfl
/-! BubbleTorus$Moves.fact -/
theorem d_V_fact_0 : decode m_V_fact.2.1 0 = .ok (.iload_n 1, 1) := by decide +kernel
theorem d_V_fact_1 : decode m_V_fact.2.1 1 = .ok (.ifCond .lt 33, 3) := by decide +kernel
theorem d_V_fact_4 : decode m_V_fact.2.1 4 = .ok (.iload_n 1, 1) := by decide +kernel
theorem d_V_fact_5 : decode m_V_fact.2.1 5 = .ok (.aload_n 0, 1) := by decide +kernel
theorem d_V_fact_6 : decode m_V_fact.2.1 6 = .ok (.getfield 15, 3) := by decide +kernel
theorem d_V_fact_9 : decode m_V_fact.2.1 9 = .ok (.if_icmp .ge 25, 3) := by decide +kernel
theorem d_V_fact_12 : decode m_V_fact.2.1 12 = .ok (.iload_n 2, 1) := by decide +kernel
theorem d_V_fact_13 : decode m_V_fact.2.1 13 = .ok (.iconst 0, 1) := by decide +kernel
theorem d_V_fact_14 : decode m_V_fact.2.1 14 = .ok (.iconst 4, 1) := by decide +kernel
theorem d_V_fact_15 : decode m_V_fact.2.1 15 = .ok (.invokestatic 25, 3) := by decide +kernel
theorem d_V_fact_18 : decode m_V_fact.2.1 18 = .ok (.ifCond .eq 16, 3) := by decide +kernel
theorem d_V_fact_21 : decode m_V_fact.2.1 21 = .ok (.aload_n 0, 1) := by decide +kernel
theorem d_V_fact_22 : decode m_V_fact.2.1 22 = .ok (.getfield 11, 3) := by decide +kernel
theorem d_V_fact_25 : decode m_V_fact.2.1 25 = .ok (.iload_n 1, 1) := by decide +kernel
theorem d_V_fact_26 : decode m_V_fact.2.1 26 = .ok (.iconst 5, 1) := by decide +kernel
theorem d_V_fact_27 : decode m_V_fact.2.1 27 = .ok (.imul, 1) := by decide +kernel
theorem d_V_fact_28 : decode m_V_fact.2.1 28 = .ok (.iload_n 2, 1) := by decide +kernel
theorem d_V_fact_29 : decode m_V_fact.2.1 29 = .ok (.iadd, 1) := by decide +kernel
theorem d_V_fact_30 : decode m_V_fact.2.1 30 = .ok (.iaload, 1) := by decide +kernel
theorem d_V_fact_31 : decode m_V_fact.2.1 31 = .ok (.goto 4, 3) := by decide +kernel
theorem d_V_fact_34 : decode m_V_fact.2.1 34 = .ok (.iconst (-1), 1) := by decide +kernel
theorem d_V_fact_35 : decode m_V_fact.2.1 35 = .ok (.ireturn, 1) := by decide +kernel
def f_V_fact (o : Nat) (x1 : Int) (x2 : Int) (w : qMem) : Option (Int × qMem) :=
  if x1 < 0 then
  some ((-1), w)
  else
  if x1 < (w o 1) then
  (f_X_within x2 0 4 w).bind fun q3 =>
  if q3.1 = 0 then
  some ((-1), q3.2)
  else
  qld q3.2 (o + 1) 320 (w32 ((w32 (x1 * 5)) + x2)) fun v5 =>
  some (v5, q3.2)
  else
  some ((-1), w)
set_option maxRecDepth 4000 in
theorem s_V_fact {ph : Nat} {o : Nat} (x1 : Int) (x2 : Int) (hI : qIs kLV ph o) (w : qMem) : qSim κI ph ph m_V_fact 0 [] [some (qR o), some (qI x1), some (qI x2)] w (f_V_fact o x1 x2 w) := by
  unfold f_V_fact
  refine z_iload_n d_V_fact_0 rfl ?_
  refine z_if_lt (tgt := 34) d_V_fact_1 rfl (fun c1 => ?_) (fun c1 => ?_)
  · refine z_icm1 d_V_fact_34 ?_
    exact z_iret d_V_fact_35 rfl rfl
  · refine z_iload_n d_V_fact_4 rfl ?_
    refine z_aload_n d_V_fact_5 rfl ?_
    refine z_gi (ci := 2) (j := 1) (ji := 1) d_V_fact_6 rfl fl_V_15 (hI 0 _ rfl).1 rfl rfl ?_
    refine z_icmp_ge (tgt := 34) d_V_fact_9 rfl (fun c2 => ?_) (fun c2 => ?_)
    · refine z_iload_n d_V_fact_12 rfl ?_
      refine z_ic0 d_V_fact_13 ?_
      refine z_ic4 d_V_fact_14 ?_
      refine z_cNI (av := [qI x2, qI 0, qI 4]) (st := []) (nl := 0) d_V_fact_15 lk_V_25 mk_X_within rfl rfl rfl (s_X_within _ _ _ _) (fun q3 _ hq3 => ?_)
      refine z_if_eq (tgt := 34) d_V_fact_18 rfl (fun c4 => ?_) (fun c4 => ?_)
      · refine z_icm1 d_V_fact_34 ?_
        exact z_iret d_V_fact_35 rfl rfl
      · refine z_aload_n d_V_fact_21 rfl ?_
        refine z_gr (ci := 2) (j := 0) (d := 1) (o2 := (o + 1)) d_V_fact_22 rfl fl_V_11 (hI 0 _ rfl).1 ((hI 0 _ rfl).2 (Nat.le_of_ble_eq_true rfl)) rfl rfl ?_
        refine z_iload_n d_V_fact_25 rfl ?_
        refine z_ic5 d_V_fact_26 ?_
        refine z_imul d_V_fact_27 ?_
        refine z_iload_n d_V_fact_28 rfl ?_
        refine z_iadd d_V_fact_29 ?_
        refine z_il d_V_fact_30 (hI 1 _ rfl).1 rfl (fun v5 => ?_)
        refine z_goto (tgt := 35) d_V_fact_31 rfl ?_
        exact z_iret d_V_fact_35 rfl rfl
    · refine z_icm1 d_V_fact_34 ?_
      exact z_iret d_V_fact_35 rfl rfl
/-! BubbleTorus$Rings.forgetEntries -/
theorem d_R_forgetEntries_0 : decode m_R_forgetEntries.2.1 0 = .ok (.iconst 0, 1) := by decide +kernel
theorem d_R_forgetEntries_1 : decode m_R_forgetEntries.2.1 1 = .ok (.istore_n 1, 1) := by decide +kernel
theorem d_R_forgetEntries_2 : decode m_R_forgetEntries.2.1 2 = .ok (.iload_n 1, 1) := by decide +kernel
theorem d_R_forgetEntries_3 : decode m_R_forgetEntries.2.1 3 = .ok (.bipush 64, 2) := by decide +kernel
theorem d_R_forgetEntries_5 : decode m_R_forgetEntries.2.1 5 = .ok (.if_icmp .ge 16, 3) := by decide +kernel
theorem d_R_forgetEntries_8 : decode m_R_forgetEntries.2.1 8 = .ok (.aload_n 0, 1) := by decide +kernel
theorem d_R_forgetEntries_9 : decode m_R_forgetEntries.2.1 9 = .ok (.getfield 36, 3) := by decide +kernel
theorem d_R_forgetEntries_12 : decode m_R_forgetEntries.2.1 12 = .ok (.iload_n 1, 1) := by decide +kernel
theorem d_R_forgetEntries_13 : decode m_R_forgetEntries.2.1 13 = .ok (.iconst 0, 1) := by decide +kernel
theorem d_R_forgetEntries_14 : decode m_R_forgetEntries.2.1 14 = .ok (.bastore, 1) := by decide +kernel
theorem d_R_forgetEntries_15 : decode m_R_forgetEntries.2.1 15 = .ok (.iinc 1 1, 3) := by decide +kernel
theorem d_R_forgetEntries_18 : decode m_R_forgetEntries.2.1 18 = .ok (.goto (-16), 3) := by decide +kernel
theorem d_R_forgetEntries_21 : decode m_R_forgetEntries.2.1 21 = .ok (.return_, 1) := by decide +kernel
def f_R_forgetEntries_2 (o : Nat) : Nat → Int → qMem → Option (qMem)
  | 0, _, _ => none
  | n + 1, x1, w =>
    if x1 < 64 then
    qstz w (o + 9) 64 x1 0 fun w2 =>
    (f_R_forgetEntries_2 o n) (w32 (x1 + 1)) w2
    else
    some w
set_option maxRecDepth 4000 in
theorem s_R_forgetEntries_2 {ph : Nat} {o : Nat} (hI : qIs kLR ph o) : ∀ (n : Nat), ∀ (x1 : Int) (w : qMem), qSim κV ph ph m_R_forgetEntries 2 [] [some (qR o), some (qI x1)] w (f_R_forgetEntries_2 o n x1 w) := by
  intro n
  induction n with
  | zero => intro x1 w; exact z_none
  | succ n ih =>
    intro x1 w
    rw [f_R_forgetEntries_2]
    refine z_iload_n d_R_forgetEntries_2 rfl ?_
    refine z_bipush d_R_forgetEntries_3 ⟨by decide, by decide⟩ ?_
    refine z_icmp_ge (tgt := 21) d_R_forgetEntries_5 rfl (fun c1 => ?_) (fun c1 => ?_)
    · refine z_aload_n d_R_forgetEntries_8 rfl ?_
      refine z_gr (ci := 7) (j := 8) (d := 9) (o2 := (o + 9)) d_R_forgetEntries_9 rfl fl_R_36 (hI 0 _ rfl).1 ((hI 0 _ rfl).2 (Nat.le_of_ble_eq_true rfl)) rfl rfl ?_
      refine z_iload_n d_R_forgetEntries_12 rfl ?_
      refine z_ic0 d_R_forgetEntries_13 ?_
      refine z_zs d_R_forgetEntries_14 (hI 9 _ rfl).1 rfl (fun w2 => ?_)
      refine z_iinc (pls' := [some (qR o), some (qI (w32 (x1 + 1)))]) d_R_forgetEntries_15 (by decide) rfl rfl rfl ?_
      refine z_goto (tgt := 2) d_R_forgetEntries_18 rfl ?_
      refine z_mask [true, true] ?_
      exact ih _ _
    · exact z_vret d_R_forgetEntries_21 rfl rfl
def f_R_forgetEntries (o : Nat) (w : qMem) : Option (qMem) :=
  f_R_forgetEntries_2 o qFU 0 w
set_option maxRecDepth 4000 in
theorem s_R_forgetEntries {ph : Nat} {o : Nat} (hI : qIs kLR ph o) (w : qMem) : qSim κV ph ph m_R_forgetEntries 0 [] [some (qR o), none] w (f_R_forgetEntries o w) := by
  unfold f_R_forgetEntries
  refine z_ic0 d_R_forgetEntries_0 ?_
  refine z_istore_n (pls' := [some (qR o), some (qI 0)]) d_R_forgetEntries_1 (by decide) rfl rfl ?_
  refine z_mask [true, true] ?_
  exact s_R_forgetEntries_2 hI _ _ _
/-! BubbleTorus$Rings.clearAll -/
theorem d_R_clearAll_0 : decode m_R_clearAll.2.1 0 = .ok (.aload_n 0, 1) := by decide +kernel
theorem d_R_clearAll_1 : decode m_R_clearAll.2.1 1 = .ok (.getfield 15, 3) := by decide +kernel
theorem d_R_clearAll_4 : decode m_R_clearAll.2.1 4 = .ok (.iconst (-1), 1) := by decide +kernel
theorem d_R_clearAll_5 : decode m_R_clearAll.2.1 5 = .ok (.invokestatic 44, 3) := by decide +kernel
theorem d_R_clearAll_8 : decode m_R_clearAll.2.1 8 = .ok (.aload_n 0, 1) := by decide +kernel
theorem d_R_clearAll_9 : decode m_R_clearAll.2.1 9 = .ok (.getfield 18, 3) := by decide +kernel
theorem d_R_clearAll_12 : decode m_R_clearAll.2.1 12 = .ok (.iconst (-1), 1) := by decide +kernel
theorem d_R_clearAll_13 : decode m_R_clearAll.2.1 13 = .ok (.invokestatic 44, 3) := by decide +kernel
theorem d_R_clearAll_16 : decode m_R_clearAll.2.1 16 = .ok (.aload_n 0, 1) := by decide +kernel
theorem d_R_clearAll_17 : decode m_R_clearAll.2.1 17 = .ok (.getfield 21, 3) := by decide +kernel
theorem d_R_clearAll_20 : decode m_R_clearAll.2.1 20 = .ok (.iconst 0, 1) := by decide +kernel
theorem d_R_clearAll_21 : decode m_R_clearAll.2.1 21 = .ok (.invokestatic 44, 3) := by decide +kernel
theorem d_R_clearAll_24 : decode m_R_clearAll.2.1 24 = .ok (.aload_n 0, 1) := by decide +kernel
theorem d_R_clearAll_25 : decode m_R_clearAll.2.1 25 = .ok (.getfield 24, 3) := by decide +kernel
theorem d_R_clearAll_28 : decode m_R_clearAll.2.1 28 = .ok (.iconst 0, 1) := by decide +kernel
theorem d_R_clearAll_29 : decode m_R_clearAll.2.1 29 = .ok (.invokestatic 44, 3) := by decide +kernel
theorem d_R_clearAll_32 : decode m_R_clearAll.2.1 32 = .ok (.aload_n 0, 1) := by decide +kernel
theorem d_R_clearAll_33 : decode m_R_clearAll.2.1 33 = .ok (.getfield 30, 3) := by decide +kernel
theorem d_R_clearAll_36 : decode m_R_clearAll.2.1 36 = .ok (.iconst 0, 1) := by decide +kernel
theorem d_R_clearAll_37 : decode m_R_clearAll.2.1 37 = .ok (.invokestatic 44, 3) := by decide +kernel
theorem d_R_clearAll_40 : decode m_R_clearAll.2.1 40 = .ok (.aload_n 0, 1) := by decide +kernel
theorem d_R_clearAll_41 : decode m_R_clearAll.2.1 41 = .ok (.getfield 33, 3) := by decide +kernel
theorem d_R_clearAll_44 : decode m_R_clearAll.2.1 44 = .ok (.iconst 0, 1) := by decide +kernel
theorem d_R_clearAll_45 : decode m_R_clearAll.2.1 45 = .ok (.invokestatic 44, 3) := by decide +kernel
theorem d_R_clearAll_48 : decode m_R_clearAll.2.1 48 = .ok (.aload_n 0, 1) := by decide +kernel
theorem d_R_clearAll_49 : decode m_R_clearAll.2.1 49 = .ok (.iconst 0, 1) := by decide +kernel
theorem d_R_clearAll_50 : decode m_R_clearAll.2.1 50 = .ok (.putfield 40, 3) := by decide +kernel
theorem d_R_clearAll_53 : decode m_R_clearAll.2.1 53 = .ok (.iconst 0, 1) := by decide +kernel
theorem d_R_clearAll_54 : decode m_R_clearAll.2.1 54 = .ok (.istore_n 3, 1) := by decide +kernel
theorem d_R_clearAll_55 : decode m_R_clearAll.2.1 55 = .ok (.iload_n 3, 1) := by decide +kernel
theorem d_R_clearAll_56 : decode m_R_clearAll.2.1 56 = .ok (.aload_n 1, 1) := by decide +kernel
theorem d_R_clearAll_57 : decode m_R_clearAll.2.1 57 = .ok (.getfield 50, 3) := by decide +kernel
theorem d_R_clearAll_60 : decode m_R_clearAll.2.1 60 = .ok (.if_icmp .ge 34, 3) := by decide +kernel
theorem d_R_clearAll_63 : decode m_R_clearAll.2.1 63 = .ok (.aload_n 0, 1) := by decide +kernel
theorem d_R_clearAll_64 : decode m_R_clearAll.2.1 64 = .ok (.getfield 9, 3) := by decide +kernel
theorem d_R_clearAll_67 : decode m_R_clearAll.2.1 67 = .ok (.iload_n 3, 1) := by decide +kernel
theorem d_R_clearAll_68 : decode m_R_clearAll.2.1 68 = .ok (.aload_n 1, 1) := by decide +kernel
theorem d_R_clearAll_69 : decode m_R_clearAll.2.1 69 = .ok (.iload_n 3, 1) := by decide +kernel
theorem d_R_clearAll_70 : decode m_R_clearAll.2.1 70 = .ok (.iconst 0, 1) := by decide +kernel
theorem d_R_clearAll_71 : decode m_R_clearAll.2.1 71 = .ok (.invokevirtual 55, 3) := by decide +kernel
theorem d_R_clearAll_74 : decode m_R_clearAll.2.1 74 = .ok (.iastore, 1) := by decide +kernel
theorem d_R_clearAll_75 : decode m_R_clearAll.2.1 75 = .ok (.aload_n 0, 1) := by decide +kernel
theorem d_R_clearAll_76 : decode m_R_clearAll.2.1 76 = .ok (.getfield 27, 3) := by decide +kernel
theorem d_R_clearAll_79 : decode m_R_clearAll.2.1 79 = .ok (.iload_n 3, 1) := by decide +kernel
theorem d_R_clearAll_80 : decode m_R_clearAll.2.1 80 = .ok (.aload_n 1, 1) := by decide +kernel
theorem d_R_clearAll_81 : decode m_R_clearAll.2.1 81 = .ok (.iload_n 3, 1) := by decide +kernel
theorem d_R_clearAll_82 : decode m_R_clearAll.2.1 82 = .ok (.invokevirtual 59, 3) := by decide +kernel
theorem d_R_clearAll_85 : decode m_R_clearAll.2.1 85 = .ok (.iload_n 2, 1) := by decide +kernel
theorem d_R_clearAll_86 : decode m_R_clearAll.2.1 86 = .ok (.imul, 1) := by decide +kernel
theorem d_R_clearAll_87 : decode m_R_clearAll.2.1 87 = .ok (.iastore, 1) := by decide +kernel
theorem d_R_clearAll_88 : decode m_R_clearAll.2.1 88 = .ok (.iinc 3 1, 3) := by decide +kernel
theorem d_R_clearAll_91 : decode m_R_clearAll.2.1 91 = .ok (.goto (-36), 3) := by decide +kernel
theorem d_R_clearAll_94 : decode m_R_clearAll.2.1 94 = .ok (.aload_n 0, 1) := by decide +kernel
theorem d_R_clearAll_95 : decode m_R_clearAll.2.1 95 = .ok (.invokevirtual 63, 3) := by decide +kernel
theorem d_R_clearAll_98 : decode m_R_clearAll.2.1 98 = .ok (.return_, 1) := by decide +kernel
def f_R_clearAll_94 (o : Nat) (p1 : Nat) (w : qMem) : Option (qMem) :=
  (f_R_forgetEntries o w).bind fun q1 =>
  some q1
set_option maxRecDepth 4000 in
theorem s_R_clearAll_94 {ph : Nat} {o : Nat} {p1 : Nat} (hI : qIs kLR ph o) (hp1 : qIs kLG ph p1) : ∀ (w : qMem), qSim κV ph ph m_R_clearAll 94 [] [some (qR o), none, none, none] w (f_R_clearAll_94 o p1 w) := by
  intro w
  unfold f_R_clearAll_94
  refine z_aload_n d_R_clearAll_94 rfl ?_
  refine z_cVV (as := []) (st := []) (nl := 1) (ci := 7) d_R_clearAll_95 lk_R_63 mk_R_forgetEntries rfl rfl (hI 0 _ rfl).1 rfl rfl rfl (s_R_forgetEntries hI _) (fun q1 _ => ?_)
  exact z_vret d_R_clearAll_98 rfl rfl
def f_R_clearAll_55 (o : Nat) (p1 : Nat) : Nat → Int → Int → qMem → Option (qMem)
  | 0, _, _, _ => none
  | n + 1, x2, x3, w =>
    if x3 < (w p1 6) then
    (f_G_ringNode p1 x3 0 w).bind fun q3 =>
    qst q3.2 (o + 1) 16 x3 q3.1 fun w4 =>
    (f_G_ringLength p1 x3 w4).bind fun q5 =>
    qst q5.2 (o + 6) 16 x3 (w32 (q5.1 * x2)) fun w6 =>
    (f_R_clearAll_55 o p1 n) x2 (w32 (x3 + 1)) w6
    else
    f_R_clearAll_94 o p1 w
set_option maxRecDepth 4000 in
theorem s_R_clearAll_55 {ph : Nat} {o : Nat} {p1 : Nat} (hI : qIs kLR ph o) (hp1 : qIs kLG ph p1) : ∀ (n : Nat), ∀ (x2 x3 : Int) (w : qMem), qSim κV ph ph m_R_clearAll 55 [] [some (qR o), some (qR p1), some (qI x2), some (qI x3)] w (f_R_clearAll_55 o p1 n x2 x3 w) := by
  intro n
  induction n with
  | zero => intro x2 x3 w; exact z_none
  | succ n ih =>
    intro x2 x3 w
    rw [f_R_clearAll_55]
    refine z_iload_n d_R_clearAll_55 rfl ?_
    refine z_aload_n d_R_clearAll_56 rfl ?_
    refine z_gi (ci := 0) (j := 6) (ji := 6) d_R_clearAll_57 rfl fl_R_50 (hp1 0 _ rfl).1 rfl rfl ?_
    refine z_icmp_ge (tgt := 94) d_R_clearAll_60 rfl (fun c2 => ?_) (fun c2 => ?_)
    · refine z_aload_n d_R_clearAll_63 rfl ?_
      refine z_gr (ci := 7) (j := 0) (d := 1) (o2 := (o + 1)) d_R_clearAll_64 rfl fl_R_9 (hI 0 _ rfl).1 ((hI 0 _ rfl).2 (Nat.le_of_ble_eq_true rfl)) rfl rfl ?_
      refine z_iload_n d_R_clearAll_67 rfl ?_
      refine z_aload_n d_R_clearAll_68 rfl ?_
      refine z_iload_n d_R_clearAll_69 rfl ?_
      refine z_ic0 d_R_clearAll_70 ?_
      refine z_cVI (as := [qI x3, qI 0]) (st := [qI x3, qR (o + 1)]) (nl := 1) (ci := 0) d_R_clearAll_71 lk_R_55 mk_G_ringNode rfl rfl (hp1 0 _ rfl).1 rfl rfl rfl (s_G_ringNode _ _ hp1 _) (fun q3 _ hq3 => ?_)
      refine z_is d_R_clearAll_74 (hI 1 _ rfl).1 rfl (fun w4 => ?_)
      refine z_aload_n d_R_clearAll_75 rfl ?_
      refine z_gr (ci := 7) (j := 5) (d := 6) (o2 := (o + 6)) d_R_clearAll_76 rfl fl_R_27 (hI 0 _ rfl).1 ((hI 0 _ rfl).2 (Nat.le_of_ble_eq_true rfl)) rfl rfl ?_
      refine z_iload_n d_R_clearAll_79 rfl ?_
      refine z_aload_n d_R_clearAll_80 rfl ?_
      refine z_iload_n d_R_clearAll_81 rfl ?_
      refine z_cVI (as := [qI x3]) (st := [qI x3, qR (o + 6)]) (nl := 0) (ci := 0) d_R_clearAll_82 lk_R_59 mk_G_ringLength rfl rfl (hp1 0 _ rfl).1 rfl rfl rfl (s_G_ringLength _ hp1 _) (fun q5 _ hq5 => ?_)
      refine z_iload_n d_R_clearAll_85 rfl ?_
      refine z_imul d_R_clearAll_86 ?_
      refine z_is d_R_clearAll_87 (hI 6 _ rfl).1 rfl (fun w6 => ?_)
      refine z_iinc (pls' := [some (qR o), some (qR p1), some (qI x2), some (qI (w32 (x3 + 1)))]) d_R_clearAll_88 (by decide) rfl rfl rfl ?_
      refine z_goto (tgt := 55) d_R_clearAll_91 rfl ?_
      refine z_mask [true, true, true, true] ?_
      exact ih _ _ _
    · refine z_mask [true, false, false, false] ?_
      exact s_R_clearAll_94 hI hp1 _
def f_R_clearAll (o : Nat) (p1 : Nat) (x2 : Int) (w : qMem) : Option (qMem) :=
  (f_JA_fill (o + 2) 16 (-1) w).bind fun q7 =>
  (f_JA_fill (o + 3) 16 (-1) q7).bind fun q8 =>
  (f_JA_fill (o + 4) 16 0 q8).bind fun q9 =>
  (f_JA_fill (o + 5) 16 0 q9).bind fun q10 =>
  (f_JA_fill (o + 7) 64 0 q10).bind fun q11 =>
  (f_JA_fill (o + 8) 16 0 q11).bind fun q12 =>
  qlt (qud q12 o 9 0) fun w13 =>
  f_R_clearAll_55 o p1 qFU x2 0 w13
set_option maxRecDepth 4000 in
theorem s_R_clearAll {ph : Nat} {o : Nat} {p1 : Nat} (x2 : Int) (hI : qIs kLR ph o) (hp1 : qIs kLG ph p1) (w : qMem) : qSim κV ph ph m_R_clearAll 0 [] [some (qR o), some (qR p1), some (qI x2), none] w (f_R_clearAll o p1 x2 w) := by
  unfold f_R_clearAll
  refine z_aload_n d_R_clearAll_0 rfl ?_
  refine z_gr (ci := 7) (j := 1) (d := 2) (o2 := (o + 2)) d_R_clearAll_1 rfl fl_R_15 (hI 0 _ rfl).1 ((hI 0 _ rfl).2 (Nat.le_of_ble_eq_true rfl)) rfl rfl ?_
  refine z_icm1 d_R_clearAll_4 ?_
  refine z_cSV (av := [qR (o + 2), qI (-1)]) (st := []) (nl := 2) d_R_clearAll_5 lk_R_44 mk_JA_fill rfl rfl rfl (s_JA_fill _ (hI 2 _ rfl).1 rfl (by decide) _) (fun q7 _ => ?_)
  refine z_aload_n d_R_clearAll_8 rfl ?_
  refine z_gr (ci := 7) (j := 2) (d := 3) (o2 := (o + 3)) d_R_clearAll_9 rfl fl_R_18 (hI 0 _ rfl).1 ((hI 0 _ rfl).2 (Nat.le_of_ble_eq_true rfl)) rfl rfl ?_
  refine z_icm1 d_R_clearAll_12 ?_
  refine z_cSV (av := [qR (o + 3), qI (-1)]) (st := []) (nl := 2) d_R_clearAll_13 lk_R_44 mk_JA_fill rfl rfl rfl (s_JA_fill _ (hI 3 _ rfl).1 rfl (by decide) _) (fun q8 _ => ?_)
  refine z_aload_n d_R_clearAll_16 rfl ?_
  refine z_gr (ci := 7) (j := 3) (d := 4) (o2 := (o + 4)) d_R_clearAll_17 rfl fl_R_21 (hI 0 _ rfl).1 ((hI 0 _ rfl).2 (Nat.le_of_ble_eq_true rfl)) rfl rfl ?_
  refine z_ic0 d_R_clearAll_20 ?_
  refine z_cSV (av := [qR (o + 4), qI 0]) (st := []) (nl := 2) d_R_clearAll_21 lk_R_44 mk_JA_fill rfl rfl rfl (s_JA_fill _ (hI 4 _ rfl).1 rfl (by decide) _) (fun q9 _ => ?_)
  refine z_aload_n d_R_clearAll_24 rfl ?_
  refine z_gr (ci := 7) (j := 4) (d := 5) (o2 := (o + 5)) d_R_clearAll_25 rfl fl_R_24 (hI 0 _ rfl).1 ((hI 0 _ rfl).2 (Nat.le_of_ble_eq_true rfl)) rfl rfl ?_
  refine z_ic0 d_R_clearAll_28 ?_
  refine z_cSV (av := [qR (o + 5), qI 0]) (st := []) (nl := 2) d_R_clearAll_29 lk_R_44 mk_JA_fill rfl rfl rfl (s_JA_fill _ (hI 5 _ rfl).1 rfl (by decide) _) (fun q10 _ => ?_)
  refine z_aload_n d_R_clearAll_32 rfl ?_
  refine z_gr (ci := 7) (j := 6) (d := 7) (o2 := (o + 7)) d_R_clearAll_33 rfl fl_R_30 (hI 0 _ rfl).1 ((hI 0 _ rfl).2 (Nat.le_of_ble_eq_true rfl)) rfl rfl ?_
  refine z_ic0 d_R_clearAll_36 ?_
  refine z_cSV (av := [qR (o + 7), qI 0]) (st := []) (nl := 2) d_R_clearAll_37 lk_R_44 mk_JA_fill rfl rfl rfl (s_JA_fill _ (hI 7 _ rfl).1 rfl (by decide) _) (fun q11 _ => ?_)
  refine z_aload_n d_R_clearAll_40 rfl ?_
  refine z_gr (ci := 7) (j := 7) (d := 8) (o2 := (o + 8)) d_R_clearAll_41 rfl fl_R_33 (hI 0 _ rfl).1 ((hI 0 _ rfl).2 (Nat.le_of_ble_eq_true rfl)) rfl rfl ?_
  refine z_ic0 d_R_clearAll_44 ?_
  refine z_cSV (av := [qR (o + 8), qI 0]) (st := []) (nl := 2) d_R_clearAll_45 lk_R_44 mk_JA_fill rfl rfl rfl (s_JA_fill _ (hI 8 _ rfl).1 rfl (by decide) _) (fun q12 _ => ?_)
  refine z_aload_n d_R_clearAll_48 rfl ?_
  refine z_ic0 d_R_clearAll_49 ?_
  refine z_pi (ci := 7) (j := 9) (ji := 9) d_R_clearAll_50 rfl fl_R_40 (hI 0 _ rfl).1 rfl rfl rfl rfl (fun w13 => ?_)
  refine z_ic0 d_R_clearAll_53 ?_
  refine z_istore_n (pls' := [some (qR o), some (qR p1), some (qI x2), some (qI 0)]) d_R_clearAll_54 (by decide) rfl rfl ?_
  refine z_mask [true, true, true, true] ?_
  exact s_R_clearAll_55 hI hp1 _ _ _ _
/-! BubbleTorus$Rings.copyFrom -/
theorem d_R_copyFrom_0 : decode m_R_copyFrom.2.1 0 = .ok (.aload_n 1, 1) := by decide +kernel
theorem d_R_copyFrom_1 : decode m_R_copyFrom.2.1 1 = .ok (.getfield 9, 3) := by decide +kernel
theorem d_R_copyFrom_4 : decode m_R_copyFrom.2.1 4 = .ok (.iconst 0, 1) := by decide +kernel
theorem d_R_copyFrom_5 : decode m_R_copyFrom.2.1 5 = .ok (.aload_n 0, 1) := by decide +kernel
theorem d_R_copyFrom_6 : decode m_R_copyFrom.2.1 6 = .ok (.getfield 9, 3) := by decide +kernel
theorem d_R_copyFrom_9 : decode m_R_copyFrom.2.1 9 = .ok (.iconst 0, 1) := by decide +kernel
theorem d_R_copyFrom_10 : decode m_R_copyFrom.2.1 10 = .ok (.bipush 16, 2) := by decide +kernel
theorem d_R_copyFrom_12 : decode m_R_copyFrom.2.1 12 = .ok (.invokestatic 66, 3) := by decide +kernel
theorem d_R_copyFrom_15 : decode m_R_copyFrom.2.1 15 = .ok (.aload_n 1, 1) := by decide +kernel
theorem d_R_copyFrom_16 : decode m_R_copyFrom.2.1 16 = .ok (.getfield 15, 3) := by decide +kernel
theorem d_R_copyFrom_19 : decode m_R_copyFrom.2.1 19 = .ok (.iconst 0, 1) := by decide +kernel
theorem d_R_copyFrom_20 : decode m_R_copyFrom.2.1 20 = .ok (.aload_n 0, 1) := by decide +kernel
theorem d_R_copyFrom_21 : decode m_R_copyFrom.2.1 21 = .ok (.getfield 15, 3) := by decide +kernel
theorem d_R_copyFrom_24 : decode m_R_copyFrom.2.1 24 = .ok (.iconst 0, 1) := by decide +kernel
theorem d_R_copyFrom_25 : decode m_R_copyFrom.2.1 25 = .ok (.bipush 16, 2) := by decide +kernel
theorem d_R_copyFrom_27 : decode m_R_copyFrom.2.1 27 = .ok (.invokestatic 66, 3) := by decide +kernel
theorem d_R_copyFrom_30 : decode m_R_copyFrom.2.1 30 = .ok (.aload_n 1, 1) := by decide +kernel
theorem d_R_copyFrom_31 : decode m_R_copyFrom.2.1 31 = .ok (.getfield 18, 3) := by decide +kernel
theorem d_R_copyFrom_34 : decode m_R_copyFrom.2.1 34 = .ok (.iconst 0, 1) := by decide +kernel
theorem d_R_copyFrom_35 : decode m_R_copyFrom.2.1 35 = .ok (.aload_n 0, 1) := by decide +kernel
theorem d_R_copyFrom_36 : decode m_R_copyFrom.2.1 36 = .ok (.getfield 18, 3) := by decide +kernel
theorem d_R_copyFrom_39 : decode m_R_copyFrom.2.1 39 = .ok (.iconst 0, 1) := by decide +kernel
theorem d_R_copyFrom_40 : decode m_R_copyFrom.2.1 40 = .ok (.bipush 16, 2) := by decide +kernel
theorem d_R_copyFrom_42 : decode m_R_copyFrom.2.1 42 = .ok (.invokestatic 66, 3) := by decide +kernel
theorem d_R_copyFrom_45 : decode m_R_copyFrom.2.1 45 = .ok (.aload_n 1, 1) := by decide +kernel
theorem d_R_copyFrom_46 : decode m_R_copyFrom.2.1 46 = .ok (.getfield 21, 3) := by decide +kernel
theorem d_R_copyFrom_49 : decode m_R_copyFrom.2.1 49 = .ok (.iconst 0, 1) := by decide +kernel
theorem d_R_copyFrom_50 : decode m_R_copyFrom.2.1 50 = .ok (.aload_n 0, 1) := by decide +kernel
theorem d_R_copyFrom_51 : decode m_R_copyFrom.2.1 51 = .ok (.getfield 21, 3) := by decide +kernel
theorem d_R_copyFrom_54 : decode m_R_copyFrom.2.1 54 = .ok (.iconst 0, 1) := by decide +kernel
theorem d_R_copyFrom_55 : decode m_R_copyFrom.2.1 55 = .ok (.bipush 16, 2) := by decide +kernel
theorem d_R_copyFrom_57 : decode m_R_copyFrom.2.1 57 = .ok (.invokestatic 66, 3) := by decide +kernel
theorem d_R_copyFrom_60 : decode m_R_copyFrom.2.1 60 = .ok (.aload_n 1, 1) := by decide +kernel
theorem d_R_copyFrom_61 : decode m_R_copyFrom.2.1 61 = .ok (.getfield 24, 3) := by decide +kernel
theorem d_R_copyFrom_64 : decode m_R_copyFrom.2.1 64 = .ok (.iconst 0, 1) := by decide +kernel
theorem d_R_copyFrom_65 : decode m_R_copyFrom.2.1 65 = .ok (.aload_n 0, 1) := by decide +kernel
theorem d_R_copyFrom_66 : decode m_R_copyFrom.2.1 66 = .ok (.getfield 24, 3) := by decide +kernel
theorem d_R_copyFrom_69 : decode m_R_copyFrom.2.1 69 = .ok (.iconst 0, 1) := by decide +kernel
theorem d_R_copyFrom_70 : decode m_R_copyFrom.2.1 70 = .ok (.bipush 16, 2) := by decide +kernel
theorem d_R_copyFrom_72 : decode m_R_copyFrom.2.1 72 = .ok (.invokestatic 66, 3) := by decide +kernel
theorem d_R_copyFrom_75 : decode m_R_copyFrom.2.1 75 = .ok (.aload_n 1, 1) := by decide +kernel
theorem d_R_copyFrom_76 : decode m_R_copyFrom.2.1 76 = .ok (.getfield 27, 3) := by decide +kernel
theorem d_R_copyFrom_79 : decode m_R_copyFrom.2.1 79 = .ok (.iconst 0, 1) := by decide +kernel
theorem d_R_copyFrom_80 : decode m_R_copyFrom.2.1 80 = .ok (.aload_n 0, 1) := by decide +kernel
theorem d_R_copyFrom_81 : decode m_R_copyFrom.2.1 81 = .ok (.getfield 27, 3) := by decide +kernel
theorem d_R_copyFrom_84 : decode m_R_copyFrom.2.1 84 = .ok (.iconst 0, 1) := by decide +kernel
theorem d_R_copyFrom_85 : decode m_R_copyFrom.2.1 85 = .ok (.bipush 16, 2) := by decide +kernel
theorem d_R_copyFrom_87 : decode m_R_copyFrom.2.1 87 = .ok (.invokestatic 66, 3) := by decide +kernel
theorem d_R_copyFrom_90 : decode m_R_copyFrom.2.1 90 = .ok (.aload_n 1, 1) := by decide +kernel
theorem d_R_copyFrom_91 : decode m_R_copyFrom.2.1 91 = .ok (.getfield 30, 3) := by decide +kernel
theorem d_R_copyFrom_94 : decode m_R_copyFrom.2.1 94 = .ok (.iconst 0, 1) := by decide +kernel
theorem d_R_copyFrom_95 : decode m_R_copyFrom.2.1 95 = .ok (.aload_n 0, 1) := by decide +kernel
theorem d_R_copyFrom_96 : decode m_R_copyFrom.2.1 96 = .ok (.getfield 30, 3) := by decide +kernel
theorem d_R_copyFrom_99 : decode m_R_copyFrom.2.1 99 = .ok (.iconst 0, 1) := by decide +kernel
theorem d_R_copyFrom_100 : decode m_R_copyFrom.2.1 100 = .ok (.bipush 64, 2) := by decide +kernel
theorem d_R_copyFrom_102 : decode m_R_copyFrom.2.1 102 = .ok (.invokestatic 66, 3) := by decide +kernel
theorem d_R_copyFrom_105 : decode m_R_copyFrom.2.1 105 = .ok (.aload_n 1, 1) := by decide +kernel
theorem d_R_copyFrom_106 : decode m_R_copyFrom.2.1 106 = .ok (.getfield 33, 3) := by decide +kernel
theorem d_R_copyFrom_109 : decode m_R_copyFrom.2.1 109 = .ok (.iconst 0, 1) := by decide +kernel
theorem d_R_copyFrom_110 : decode m_R_copyFrom.2.1 110 = .ok (.aload_n 0, 1) := by decide +kernel
theorem d_R_copyFrom_111 : decode m_R_copyFrom.2.1 111 = .ok (.getfield 33, 3) := by decide +kernel
theorem d_R_copyFrom_114 : decode m_R_copyFrom.2.1 114 = .ok (.iconst 0, 1) := by decide +kernel
theorem d_R_copyFrom_115 : decode m_R_copyFrom.2.1 115 = .ok (.bipush 16, 2) := by decide +kernel
theorem d_R_copyFrom_117 : decode m_R_copyFrom.2.1 117 = .ok (.invokestatic 66, 3) := by decide +kernel
theorem d_R_copyFrom_120 : decode m_R_copyFrom.2.1 120 = .ok (.aload_n 1, 1) := by decide +kernel
theorem d_R_copyFrom_121 : decode m_R_copyFrom.2.1 121 = .ok (.getfield 36, 3) := by decide +kernel
theorem d_R_copyFrom_124 : decode m_R_copyFrom.2.1 124 = .ok (.iconst 0, 1) := by decide +kernel
theorem d_R_copyFrom_125 : decode m_R_copyFrom.2.1 125 = .ok (.aload_n 0, 1) := by decide +kernel
theorem d_R_copyFrom_126 : decode m_R_copyFrom.2.1 126 = .ok (.getfield 36, 3) := by decide +kernel
theorem d_R_copyFrom_129 : decode m_R_copyFrom.2.1 129 = .ok (.iconst 0, 1) := by decide +kernel
theorem d_R_copyFrom_130 : decode m_R_copyFrom.2.1 130 = .ok (.bipush 64, 2) := by decide +kernel
theorem d_R_copyFrom_132 : decode m_R_copyFrom.2.1 132 = .ok (.invokestatic 66, 3) := by decide +kernel
theorem d_R_copyFrom_135 : decode m_R_copyFrom.2.1 135 = .ok (.aload_n 0, 1) := by decide +kernel
theorem d_R_copyFrom_136 : decode m_R_copyFrom.2.1 136 = .ok (.aload_n 1, 1) := by decide +kernel
theorem d_R_copyFrom_137 : decode m_R_copyFrom.2.1 137 = .ok (.getfield 40, 3) := by decide +kernel
theorem d_R_copyFrom_140 : decode m_R_copyFrom.2.1 140 = .ok (.putfield 40, 3) := by decide +kernel
theorem d_R_copyFrom_143 : decode m_R_copyFrom.2.1 143 = .ok (.return_, 1) := by decide +kernel
def f_R_copyFrom (o : Nat) (p1 : Nat) (w : qMem) : Option (qMem) :=
  qcpy w (p1 + 1) 16 0 (o + 1) 16 0 16 fun w1 =>
  qcpy w1 (p1 + 2) 16 0 (o + 2) 16 0 16 fun w2 =>
  qcpy w2 (p1 + 3) 16 0 (o + 3) 16 0 16 fun w3 =>
  qcpy w3 (p1 + 4) 16 0 (o + 4) 16 0 16 fun w4 =>
  qcpy w4 (p1 + 5) 16 0 (o + 5) 16 0 16 fun w5 =>
  qcpy w5 (p1 + 6) 16 0 (o + 6) 16 0 16 fun w6 =>
  qcpy w6 (p1 + 7) 64 0 (o + 7) 64 0 64 fun w7 =>
  qcpy w7 (p1 + 8) 16 0 (o + 8) 16 0 16 fun w8 =>
  qcpy w8 (p1 + 9) 64 0 (o + 9) 64 0 64 fun w9 =>
  qlt (qud w9 o 9 (w9 p1 9)) fun w10 =>
  some w10
set_option maxRecDepth 4000 in
theorem s_R_copyFrom {ph : Nat} {o : Nat} {p1 : Nat} (hI : qIs kLR ph o) (hp1 : qIs kLR ph p1) (w : qMem) : qSim κV ph ph m_R_copyFrom 0 [] [some (qR o), some (qR p1)] w (f_R_copyFrom o p1 w) := by
  unfold f_R_copyFrom
  refine z_aload_n d_R_copyFrom_0 rfl ?_
  refine z_gr (ci := 7) (j := 0) (d := 1) (o2 := (p1 + 1)) d_R_copyFrom_1 rfl fl_R_9 (hp1 0 _ rfl).1 ((hp1 0 _ rfl).2 (Nat.le_of_ble_eq_true rfl)) rfl rfl ?_
  refine z_ic0 d_R_copyFrom_4 ?_
  refine z_aload_n d_R_copyFrom_5 rfl ?_
  refine z_gr (ci := 7) (j := 0) (d := 1) (o2 := (o + 1)) d_R_copyFrom_6 rfl fl_R_9 (hI 0 _ rfl).1 ((hI 0 _ rfl).2 (Nat.le_of_ble_eq_true rfl)) rfl rfl ?_
  refine z_ic0 d_R_copyFrom_9 ?_
  refine z_bipush d_R_copyFrom_10 ⟨by decide, by decide⟩ ?_
  refine z_cp d_R_copyFrom_12 lk_R_66 (by decide) (hp1 1 _ rfl).1 (hI 1 _ rfl).1 rfl rfl (Nat.le_of_ble_eq_true rfl) (Nat.le_of_ble_eq_true rfl) (fun w1 => ?_)
  refine z_aload_n d_R_copyFrom_15 rfl ?_
  refine z_gr (ci := 7) (j := 1) (d := 2) (o2 := (p1 + 2)) d_R_copyFrom_16 rfl fl_R_15 (hp1 0 _ rfl).1 ((hp1 0 _ rfl).2 (Nat.le_of_ble_eq_true rfl)) rfl rfl ?_
  refine z_ic0 d_R_copyFrom_19 ?_
  refine z_aload_n d_R_copyFrom_20 rfl ?_
  refine z_gr (ci := 7) (j := 1) (d := 2) (o2 := (o + 2)) d_R_copyFrom_21 rfl fl_R_15 (hI 0 _ rfl).1 ((hI 0 _ rfl).2 (Nat.le_of_ble_eq_true rfl)) rfl rfl ?_
  refine z_ic0 d_R_copyFrom_24 ?_
  refine z_bipush d_R_copyFrom_25 ⟨by decide, by decide⟩ ?_
  refine z_cp d_R_copyFrom_27 lk_R_66 (by decide) (hp1 2 _ rfl).1 (hI 2 _ rfl).1 rfl rfl (Nat.le_of_ble_eq_true rfl) (Nat.le_of_ble_eq_true rfl) (fun w2 => ?_)
  refine z_aload_n d_R_copyFrom_30 rfl ?_
  refine z_gr (ci := 7) (j := 2) (d := 3) (o2 := (p1 + 3)) d_R_copyFrom_31 rfl fl_R_18 (hp1 0 _ rfl).1 ((hp1 0 _ rfl).2 (Nat.le_of_ble_eq_true rfl)) rfl rfl ?_
  refine z_ic0 d_R_copyFrom_34 ?_
  refine z_aload_n d_R_copyFrom_35 rfl ?_
  refine z_gr (ci := 7) (j := 2) (d := 3) (o2 := (o + 3)) d_R_copyFrom_36 rfl fl_R_18 (hI 0 _ rfl).1 ((hI 0 _ rfl).2 (Nat.le_of_ble_eq_true rfl)) rfl rfl ?_
  refine z_ic0 d_R_copyFrom_39 ?_
  refine z_bipush d_R_copyFrom_40 ⟨by decide, by decide⟩ ?_
  refine z_cp d_R_copyFrom_42 lk_R_66 (by decide) (hp1 3 _ rfl).1 (hI 3 _ rfl).1 rfl rfl (Nat.le_of_ble_eq_true rfl) (Nat.le_of_ble_eq_true rfl) (fun w3 => ?_)
  refine z_aload_n d_R_copyFrom_45 rfl ?_
  refine z_gr (ci := 7) (j := 3) (d := 4) (o2 := (p1 + 4)) d_R_copyFrom_46 rfl fl_R_21 (hp1 0 _ rfl).1 ((hp1 0 _ rfl).2 (Nat.le_of_ble_eq_true rfl)) rfl rfl ?_
  refine z_ic0 d_R_copyFrom_49 ?_
  refine z_aload_n d_R_copyFrom_50 rfl ?_
  refine z_gr (ci := 7) (j := 3) (d := 4) (o2 := (o + 4)) d_R_copyFrom_51 rfl fl_R_21 (hI 0 _ rfl).1 ((hI 0 _ rfl).2 (Nat.le_of_ble_eq_true rfl)) rfl rfl ?_
  refine z_ic0 d_R_copyFrom_54 ?_
  refine z_bipush d_R_copyFrom_55 ⟨by decide, by decide⟩ ?_
  refine z_cp d_R_copyFrom_57 lk_R_66 (by decide) (hp1 4 _ rfl).1 (hI 4 _ rfl).1 rfl rfl (Nat.le_of_ble_eq_true rfl) (Nat.le_of_ble_eq_true rfl) (fun w4 => ?_)
  refine z_aload_n d_R_copyFrom_60 rfl ?_
  refine z_gr (ci := 7) (j := 4) (d := 5) (o2 := (p1 + 5)) d_R_copyFrom_61 rfl fl_R_24 (hp1 0 _ rfl).1 ((hp1 0 _ rfl).2 (Nat.le_of_ble_eq_true rfl)) rfl rfl ?_
  refine z_ic0 d_R_copyFrom_64 ?_
  refine z_aload_n d_R_copyFrom_65 rfl ?_
  refine z_gr (ci := 7) (j := 4) (d := 5) (o2 := (o + 5)) d_R_copyFrom_66 rfl fl_R_24 (hI 0 _ rfl).1 ((hI 0 _ rfl).2 (Nat.le_of_ble_eq_true rfl)) rfl rfl ?_
  refine z_ic0 d_R_copyFrom_69 ?_
  refine z_bipush d_R_copyFrom_70 ⟨by decide, by decide⟩ ?_
  refine z_cp d_R_copyFrom_72 lk_R_66 (by decide) (hp1 5 _ rfl).1 (hI 5 _ rfl).1 rfl rfl (Nat.le_of_ble_eq_true rfl) (Nat.le_of_ble_eq_true rfl) (fun w5 => ?_)
  refine z_aload_n d_R_copyFrom_75 rfl ?_
  refine z_gr (ci := 7) (j := 5) (d := 6) (o2 := (p1 + 6)) d_R_copyFrom_76 rfl fl_R_27 (hp1 0 _ rfl).1 ((hp1 0 _ rfl).2 (Nat.le_of_ble_eq_true rfl)) rfl rfl ?_
  refine z_ic0 d_R_copyFrom_79 ?_
  refine z_aload_n d_R_copyFrom_80 rfl ?_
  refine z_gr (ci := 7) (j := 5) (d := 6) (o2 := (o + 6)) d_R_copyFrom_81 rfl fl_R_27 (hI 0 _ rfl).1 ((hI 0 _ rfl).2 (Nat.le_of_ble_eq_true rfl)) rfl rfl ?_
  refine z_ic0 d_R_copyFrom_84 ?_
  refine z_bipush d_R_copyFrom_85 ⟨by decide, by decide⟩ ?_
  refine z_cp d_R_copyFrom_87 lk_R_66 (by decide) (hp1 6 _ rfl).1 (hI 6 _ rfl).1 rfl rfl (Nat.le_of_ble_eq_true rfl) (Nat.le_of_ble_eq_true rfl) (fun w6 => ?_)
  refine z_aload_n d_R_copyFrom_90 rfl ?_
  refine z_gr (ci := 7) (j := 6) (d := 7) (o2 := (p1 + 7)) d_R_copyFrom_91 rfl fl_R_30 (hp1 0 _ rfl).1 ((hp1 0 _ rfl).2 (Nat.le_of_ble_eq_true rfl)) rfl rfl ?_
  refine z_ic0 d_R_copyFrom_94 ?_
  refine z_aload_n d_R_copyFrom_95 rfl ?_
  refine z_gr (ci := 7) (j := 6) (d := 7) (o2 := (o + 7)) d_R_copyFrom_96 rfl fl_R_30 (hI 0 _ rfl).1 ((hI 0 _ rfl).2 (Nat.le_of_ble_eq_true rfl)) rfl rfl ?_
  refine z_ic0 d_R_copyFrom_99 ?_
  refine z_bipush d_R_copyFrom_100 ⟨by decide, by decide⟩ ?_
  refine z_cp d_R_copyFrom_102 lk_R_66 (by decide) (hp1 7 _ rfl).1 (hI 7 _ rfl).1 rfl rfl (Nat.le_of_ble_eq_true rfl) (Nat.le_of_ble_eq_true rfl) (fun w7 => ?_)
  refine z_aload_n d_R_copyFrom_105 rfl ?_
  refine z_gr (ci := 7) (j := 7) (d := 8) (o2 := (p1 + 8)) d_R_copyFrom_106 rfl fl_R_33 (hp1 0 _ rfl).1 ((hp1 0 _ rfl).2 (Nat.le_of_ble_eq_true rfl)) rfl rfl ?_
  refine z_ic0 d_R_copyFrom_109 ?_
  refine z_aload_n d_R_copyFrom_110 rfl ?_
  refine z_gr (ci := 7) (j := 7) (d := 8) (o2 := (o + 8)) d_R_copyFrom_111 rfl fl_R_33 (hI 0 _ rfl).1 ((hI 0 _ rfl).2 (Nat.le_of_ble_eq_true rfl)) rfl rfl ?_
  refine z_ic0 d_R_copyFrom_114 ?_
  refine z_bipush d_R_copyFrom_115 ⟨by decide, by decide⟩ ?_
  refine z_cp d_R_copyFrom_117 lk_R_66 (by decide) (hp1 8 _ rfl).1 (hI 8 _ rfl).1 rfl rfl (Nat.le_of_ble_eq_true rfl) (Nat.le_of_ble_eq_true rfl) (fun w8 => ?_)
  refine z_aload_n d_R_copyFrom_120 rfl ?_
  refine z_gr (ci := 7) (j := 8) (d := 9) (o2 := (p1 + 9)) d_R_copyFrom_121 rfl fl_R_36 (hp1 0 _ rfl).1 ((hp1 0 _ rfl).2 (Nat.le_of_ble_eq_true rfl)) rfl rfl ?_
  refine z_ic0 d_R_copyFrom_124 ?_
  refine z_aload_n d_R_copyFrom_125 rfl ?_
  refine z_gr (ci := 7) (j := 8) (d := 9) (o2 := (o + 9)) d_R_copyFrom_126 rfl fl_R_36 (hI 0 _ rfl).1 ((hI 0 _ rfl).2 (Nat.le_of_ble_eq_true rfl)) rfl rfl ?_
  refine z_ic0 d_R_copyFrom_129 ?_
  refine z_bipush d_R_copyFrom_130 ⟨by decide, by decide⟩ ?_
  refine z_cp d_R_copyFrom_132 lk_R_66 (by decide) (hp1 9 _ rfl).1 (hI 9 _ rfl).1 rfl rfl (Nat.le_of_ble_eq_true rfl) (Nat.le_of_ble_eq_true rfl) (fun w9 => ?_)
  refine z_aload_n d_R_copyFrom_135 rfl ?_
  refine z_aload_n d_R_copyFrom_136 rfl ?_
  refine z_gi (ci := 7) (j := 9) (ji := 9) d_R_copyFrom_137 rfl fl_R_40 (hp1 0 _ rfl).1 rfl rfl ?_
  refine z_pi (ci := 7) (j := 9) (ji := 9) d_R_copyFrom_140 rfl fl_R_40 (hI 0 _ rfl).1 rfl rfl rfl rfl (fun w10 => ?_)
  exact z_vret d_R_copyFrom_143 rfl rfl
/-! BubbleTorus$Rings.noteHunger -/
theorem d_R_noteHunger_0 : decode m_R_noteHunger.2.1 0 = .ok (.iload_n 1, 1) := by decide +kernel
theorem d_R_noteHunger_1 : decode m_R_noteHunger.2.1 1 = .ok (.iconst 4, 1) := by decide +kernel
theorem d_R_noteHunger_2 : decode m_R_noteHunger.2.1 2 = .ok (.imul, 1) := by decide +kernel
theorem d_R_noteHunger_3 : decode m_R_noteHunger.2.1 3 = .ok (.iload_n 2, 1) := by decide +kernel
theorem d_R_noteHunger_4 : decode m_R_noteHunger.2.1 4 = .ok (.iadd, 1) := by decide +kernel
theorem d_R_noteHunger_5 : decode m_R_noteHunger.2.1 5 = .ok (.istore 4, 2) := by decide +kernel
theorem d_R_noteHunger_7 : decode m_R_noteHunger.2.1 7 = .ok (.aload_n 0, 1) := by decide +kernel
theorem d_R_noteHunger_8 : decode m_R_noteHunger.2.1 8 = .ok (.getfield 30, 3) := by decide +kernel
theorem d_R_noteHunger_11 : decode m_R_noteHunger.2.1 11 = .ok (.iload 4, 2) := by decide +kernel
theorem d_R_noteHunger_13 : decode m_R_noteHunger.2.1 13 = .ok (.iload_n 3, 1) := by decide +kernel
theorem d_R_noteHunger_14 : decode m_R_noteHunger.2.1 14 = .ok (.ifCond .eq 21, 3) := by decide +kernel
theorem d_R_noteHunger_17 : decode m_R_noteHunger.2.1 17 = .ok (.aload_n 0, 1) := by decide +kernel
theorem d_R_noteHunger_18 : decode m_R_noteHunger.2.1 18 = .ok (.getfield 30, 3) := by decide +kernel
theorem d_R_noteHunger_21 : decode m_R_noteHunger.2.1 21 = .ok (.iload 4, 2) := by decide +kernel
theorem d_R_noteHunger_23 : decode m_R_noteHunger.2.1 23 = .ok (.iaload, 1) := by decide +kernel
theorem d_R_noteHunger_24 : decode m_R_noteHunger.2.1 24 = .ok (.iconst 1, 1) := by decide +kernel
theorem d_R_noteHunger_25 : decode m_R_noteHunger.2.1 25 = .ok (.iadd, 1) := by decide +kernel
theorem d_R_noteHunger_26 : decode m_R_noteHunger.2.1 26 = .ok (.sipush 999, 3) := by decide +kernel
theorem d_R_noteHunger_29 : decode m_R_noteHunger.2.1 29 = .ok (.invokestatic 72, 3) := by decide +kernel
theorem d_R_noteHunger_32 : decode m_R_noteHunger.2.1 32 = .ok (.goto 4, 3) := by decide +kernel
theorem d_R_noteHunger_35 : decode m_R_noteHunger.2.1 35 = .ok (.iconst 0, 1) := by decide +kernel
theorem d_R_noteHunger_36 : decode m_R_noteHunger.2.1 36 = .ok (.iastore, 1) := by decide +kernel
theorem d_R_noteHunger_37 : decode m_R_noteHunger.2.1 37 = .ok (.aload_n 0, 1) := by decide +kernel
theorem d_R_noteHunger_38 : decode m_R_noteHunger.2.1 38 = .ok (.getfield 33, 3) := by decide +kernel
theorem d_R_noteHunger_41 : decode m_R_noteHunger.2.1 41 = .ok (.iload_n 1, 1) := by decide +kernel
theorem d_R_noteHunger_42 : decode m_R_noteHunger.2.1 42 = .ok (.aload_n 0, 1) := by decide +kernel
theorem d_R_noteHunger_43 : decode m_R_noteHunger.2.1 43 = .ok (.getfield 33, 3) := by decide +kernel
theorem d_R_noteHunger_46 : decode m_R_noteHunger.2.1 46 = .ok (.iload_n 1, 1) := by decide +kernel
theorem d_R_noteHunger_47 : decode m_R_noteHunger.2.1 47 = .ok (.iaload, 1) := by decide +kernel
theorem d_R_noteHunger_48 : decode m_R_noteHunger.2.1 48 = .ok (.aload_n 0, 1) := by decide +kernel
theorem d_R_noteHunger_49 : decode m_R_noteHunger.2.1 49 = .ok (.getfield 30, 3) := by decide +kernel
theorem d_R_noteHunger_52 : decode m_R_noteHunger.2.1 52 = .ok (.iload 4, 2) := by decide +kernel
theorem d_R_noteHunger_54 : decode m_R_noteHunger.2.1 54 = .ok (.iaload, 1) := by decide +kernel
theorem d_R_noteHunger_55 : decode m_R_noteHunger.2.1 55 = .ok (.invokestatic 77, 3) := by decide +kernel
theorem d_R_noteHunger_58 : decode m_R_noteHunger.2.1 58 = .ok (.iastore, 1) := by decide +kernel
theorem d_R_noteHunger_59 : decode m_R_noteHunger.2.1 59 = .ok (.return_, 1) := by decide +kernel
def f_R_noteHunger_36 (o : Nat) (s1 s2 x1 x4 : Int) (w : qMem) : Option (qMem) :=
  qst w (o + 7) 64 s1 s2 fun w1 =>
  qld w1 (o + 8) 16 x1 fun v2 =>
  qld w1 (o + 7) 64 x4 fun v3 =>
  qst w1 (o + 8) 16 x1 (if v2 < v3 then v3 else v2) fun w4 =>
  some w4
set_option maxRecDepth 4000 in
theorem s_R_noteHunger_36 {ph : Nat} {o : Nat} (hI : qIs kLR ph o) : ∀ (s1 s2 x1 x4 : Int) (w : qMem), qSim κV ph ph m_R_noteHunger 36 [qI s2, qI s1, qR (o + 7)] [some (qR o), some (qI x1), none, none, some (qI x4)] w (f_R_noteHunger_36 o s1 s2 x1 x4 w) := by
  intro s1 s2 x1 x4 w
  unfold f_R_noteHunger_36
  refine z_is d_R_noteHunger_36 (hI 7 _ rfl).1 rfl (fun w1 => ?_)
  refine z_aload_n d_R_noteHunger_37 rfl ?_
  refine z_gr (ci := 7) (j := 7) (d := 8) (o2 := (o + 8)) d_R_noteHunger_38 rfl fl_R_33 (hI 0 _ rfl).1 ((hI 0 _ rfl).2 (Nat.le_of_ble_eq_true rfl)) rfl rfl ?_
  refine z_iload_n d_R_noteHunger_41 rfl ?_
  refine z_aload_n d_R_noteHunger_42 rfl ?_
  refine z_gr (ci := 7) (j := 7) (d := 8) (o2 := (o + 8)) d_R_noteHunger_43 rfl fl_R_33 (hI 0 _ rfl).1 ((hI 0 _ rfl).2 (Nat.le_of_ble_eq_true rfl)) rfl rfl ?_
  refine z_iload_n d_R_noteHunger_46 rfl ?_
  refine z_il d_R_noteHunger_47 (hI 8 _ rfl).1 rfl (fun v2 => ?_)
  refine z_aload_n d_R_noteHunger_48 rfl ?_
  refine z_gr (ci := 7) (j := 6) (d := 7) (o2 := (o + 7)) d_R_noteHunger_49 rfl fl_R_30 (hI 0 _ rfl).1 ((hI 0 _ rfl).2 (Nat.le_of_ble_eq_true rfl)) rfl rfl ?_
  refine z_iload d_R_noteHunger_52 rfl ?_
  refine z_il d_R_noteHunger_54 (hI 7 _ rfl).1 rfl (fun v3 => ?_)
  refine z_max d_R_noteHunger_55 lk_R_77 (Nat.le_of_ble_eq_true rfl) (Nat.le_of_ble_eq_true rfl) ?_
  refine z_is d_R_noteHunger_58 (hI 8 _ rfl).1 rfl (fun w4 => ?_)
  exact z_vret d_R_noteHunger_59 rfl rfl
def f_R_noteHunger (o : Nat) (x1 : Int) (x2 : Int) (x3 : Int) (w : qMem) : Option (qMem) :=
  if x3 = 0 then
  f_R_noteHunger_36 o (w32 ((w32 (x1 * 4)) + x2)) 0 x1 (w32 ((w32 (x1 * 4)) + x2)) w
  else
  qld w (o + 7) 64 (w32 ((w32 (x1 * 4)) + x2)) fun v6 =>
  f_R_noteHunger_36 o (w32 ((w32 (x1 * 4)) + x2)) (if 999 < (w32 (v6 + 1)) then 999 else (w32 (v6 + 1))) x1 (w32 ((w32 (x1 * 4)) + x2)) w
set_option maxRecDepth 4000 in
theorem s_R_noteHunger {ph : Nat} {o : Nat} (x1 : Int) (x2 : Int) (x3 : Int) (hI : qIs kLR ph o) (w : qMem) : qSim κV ph ph m_R_noteHunger 0 [] [some (qR o), some (qI x1), some (qI x2), some (qI x3), none] w (f_R_noteHunger o x1 x2 x3 w) := by
  unfold f_R_noteHunger
  refine z_iload_n d_R_noteHunger_0 rfl ?_
  refine z_ic4 d_R_noteHunger_1 ?_
  refine z_imul d_R_noteHunger_2 ?_
  refine z_iload_n d_R_noteHunger_3 rfl ?_
  refine z_iadd d_R_noteHunger_4 ?_
  refine z_istore (pls' := [some (qR o), some (qI x1), some (qI x2), some (qI x3), some (qI (w32 ((w32 (x1 * 4)) + x2)))]) d_R_noteHunger_5 (by decide) rfl rfl ?_
  refine z_aload_n d_R_noteHunger_7 rfl ?_
  refine z_gr (ci := 7) (j := 6) (d := 7) (o2 := (o + 7)) d_R_noteHunger_8 rfl fl_R_30 (hI 0 _ rfl).1 ((hI 0 _ rfl).2 (Nat.le_of_ble_eq_true rfl)) rfl rfl ?_
  refine z_iload d_R_noteHunger_11 rfl ?_
  refine z_iload_n d_R_noteHunger_13 rfl ?_
  refine z_if_eq (tgt := 35) d_R_noteHunger_14 rfl (fun c5 => ?_) (fun c5 => ?_)
  · refine z_ic0 d_R_noteHunger_35 ?_
    refine z_mask [true, true, false, false, true] ?_
    exact s_R_noteHunger_36 hI _ _ _ _ _
  · refine z_aload_n d_R_noteHunger_17 rfl ?_
    refine z_gr (ci := 7) (j := 6) (d := 7) (o2 := (o + 7)) d_R_noteHunger_18 rfl fl_R_30 (hI 0 _ rfl).1 ((hI 0 _ rfl).2 (Nat.le_of_ble_eq_true rfl)) rfl rfl ?_
    refine z_iload d_R_noteHunger_21 rfl ?_
    refine z_il d_R_noteHunger_23 (hI 7 _ rfl).1 rfl (fun v6 => ?_)
    refine z_ic1 d_R_noteHunger_24 ?_
    refine z_iadd d_R_noteHunger_25 ?_
    refine z_sipush d_R_noteHunger_26 ⟨by decide, by decide⟩ ?_
    refine z_min d_R_noteHunger_29 lk_R_72 (Nat.le_of_ble_eq_true rfl) (Nat.le_of_ble_eq_true rfl) ?_
    refine z_goto (tgt := 36) d_R_noteHunger_32 rfl ?_
    refine z_mask [true, true, false, false, true] ?_
    exact s_R_noteHunger_36 hI _ _ _ _ _
/-! BubbleTorus$Rings.setMark -/
theorem d_R_setMark_0 : decode m_R_setMark.2.1 0 = .ok (.aload_n 0, 1) := by decide +kernel
theorem d_R_setMark_1 : decode m_R_setMark.2.1 1 = .ok (.getfield 15, 3) := by decide +kernel
theorem d_R_setMark_4 : decode m_R_setMark.2.1 4 = .ok (.iload_n 1, 1) := by decide +kernel
theorem d_R_setMark_5 : decode m_R_setMark.2.1 5 = .ok (.iload_n 2, 1) := by decide +kernel
theorem d_R_setMark_6 : decode m_R_setMark.2.1 6 = .ok (.iastore, 1) := by decide +kernel
theorem d_R_setMark_7 : decode m_R_setMark.2.1 7 = .ok (.aload_n 0, 1) := by decide +kernel
theorem d_R_setMark_8 : decode m_R_setMark.2.1 8 = .ok (.getfield 18, 3) := by decide +kernel
theorem d_R_setMark_11 : decode m_R_setMark.2.1 11 = .ok (.iload_n 1, 1) := by decide +kernel
theorem d_R_setMark_12 : decode m_R_setMark.2.1 12 = .ok (.iload_n 2, 1) := by decide +kernel
theorem d_R_setMark_13 : decode m_R_setMark.2.1 13 = .ok (.iastore, 1) := by decide +kernel
theorem d_R_setMark_14 : decode m_R_setMark.2.1 14 = .ok (.aload_n 0, 1) := by decide +kernel
theorem d_R_setMark_15 : decode m_R_setMark.2.1 15 = .ok (.dup, 1) := by decide +kernel
theorem d_R_setMark_16 : decode m_R_setMark.2.1 16 = .ok (.getfield 40, 3) := by decide +kernel
theorem d_R_setMark_19 : decode m_R_setMark.2.1 19 = .ok (.iconst 1, 1) := by decide +kernel
theorem d_R_setMark_20 : decode m_R_setMark.2.1 20 = .ok (.iadd, 1) := by decide +kernel
theorem d_R_setMark_21 : decode m_R_setMark.2.1 21 = .ok (.putfield 40, 3) := by decide +kernel
theorem d_R_setMark_24 : decode m_R_setMark.2.1 24 = .ok (.return_, 1) := by decide +kernel
def f_R_setMark (o : Nat) (x1 : Int) (x2 : Int) (w : qMem) : Option (qMem) :=
  qst w (o + 2) 16 x1 x2 fun w1 =>
  qst w1 (o + 3) 16 x1 x2 fun w2 =>
  qlt (qud w2 o 9 (w32 ((w2 o 9) + 1))) fun w3 =>
  some w3
set_option maxRecDepth 4000 in
theorem s_R_setMark {ph : Nat} {o : Nat} (x1 : Int) (x2 : Int) (hI : qIs kLR ph o) (w : qMem) : qSim κV ph ph m_R_setMark 0 [] [some (qR o), some (qI x1), some (qI x2)] w (f_R_setMark o x1 x2 w) := by
  unfold f_R_setMark
  refine z_aload_n d_R_setMark_0 rfl ?_
  refine z_gr (ci := 7) (j := 1) (d := 2) (o2 := (o + 2)) d_R_setMark_1 rfl fl_R_15 (hI 0 _ rfl).1 ((hI 0 _ rfl).2 (Nat.le_of_ble_eq_true rfl)) rfl rfl ?_
  refine z_iload_n d_R_setMark_4 rfl ?_
  refine z_iload_n d_R_setMark_5 rfl ?_
  refine z_is d_R_setMark_6 (hI 2 _ rfl).1 rfl (fun w1 => ?_)
  refine z_aload_n d_R_setMark_7 rfl ?_
  refine z_gr (ci := 7) (j := 2) (d := 3) (o2 := (o + 3)) d_R_setMark_8 rfl fl_R_18 (hI 0 _ rfl).1 ((hI 0 _ rfl).2 (Nat.le_of_ble_eq_true rfl)) rfl rfl ?_
  refine z_iload_n d_R_setMark_11 rfl ?_
  refine z_iload_n d_R_setMark_12 rfl ?_
  refine z_is d_R_setMark_13 (hI 3 _ rfl).1 rfl (fun w2 => ?_)
  refine z_aload_n d_R_setMark_14 rfl ?_
  refine z_dup d_R_setMark_15 rfl ?_
  refine z_gi (ci := 7) (j := 9) (ji := 9) d_R_setMark_16 rfl fl_R_40 (hI 0 _ rfl).1 rfl rfl ?_
  refine z_ic1 d_R_setMark_19 ?_
  refine z_iadd d_R_setMark_20 ?_
  refine z_pi (ci := 7) (j := 9) (ji := 9) d_R_setMark_21 rfl fl_R_40 (hI 0 _ rfl).1 rfl rfl rfl rfl (fun w3 => ?_)
  exact z_vret d_R_setMark_24 rfl rfl
/-! BubbleTorus$Rings.carryMark -/
theorem d_R_carryMark_0 : decode m_R_carryMark.2.1 0 = .ok (.aload_n 0, 1) := by decide +kernel
theorem d_R_carryMark_1 : decode m_R_carryMark.2.1 1 = .ok (.getfield 18, 3) := by decide +kernel
theorem d_R_carryMark_4 : decode m_R_carryMark.2.1 4 = .ok (.iload_n 1, 1) := by decide +kernel
theorem d_R_carryMark_5 : decode m_R_carryMark.2.1 5 = .ok (.iload_n 2, 1) := by decide +kernel
theorem d_R_carryMark_6 : decode m_R_carryMark.2.1 6 = .ok (.iastore, 1) := by decide +kernel
theorem d_R_carryMark_7 : decode m_R_carryMark.2.1 7 = .ok (.iload_n 2, 1) := by decide +kernel
theorem d_R_carryMark_8 : decode m_R_carryMark.2.1 8 = .ok (.aload_n 0, 1) := by decide +kernel
theorem d_R_carryMark_9 : decode m_R_carryMark.2.1 9 = .ok (.getfield 15, 3) := by decide +kernel
theorem d_R_carryMark_12 : decode m_R_carryMark.2.1 12 = .ok (.iload_n 1, 1) := by decide +kernel
theorem d_R_carryMark_13 : decode m_R_carryMark.2.1 13 = .ok (.iaload, 1) := by decide +kernel
theorem d_R_carryMark_14 : decode m_R_carryMark.2.1 14 = .ok (.if_icmp .eq 15, 3) := by decide +kernel
theorem d_R_carryMark_17 : decode m_R_carryMark.2.1 17 = .ok (.aload_n 0, 1) := by decide +kernel
theorem d_R_carryMark_18 : decode m_R_carryMark.2.1 18 = .ok (.getfield 21, 3) := by decide +kernel
theorem d_R_carryMark_21 : decode m_R_carryMark.2.1 21 = .ok (.iload_n 1, 1) := by decide +kernel
theorem d_R_carryMark_22 : decode m_R_carryMark.2.1 22 = .ok (.dup2, 1) := by decide +kernel
theorem d_R_carryMark_23 : decode m_R_carryMark.2.1 23 = .ok (.iaload, 1) := by decide +kernel
theorem d_R_carryMark_24 : decode m_R_carryMark.2.1 24 = .ok (.iconst 1, 1) := by decide +kernel
theorem d_R_carryMark_25 : decode m_R_carryMark.2.1 25 = .ok (.iload_n 2, 1) := by decide +kernel
theorem d_R_carryMark_26 : decode m_R_carryMark.2.1 26 = .ok (.ishl, 1) := by decide +kernel
theorem d_R_carryMark_27 : decode m_R_carryMark.2.1 27 = .ok (.ior, 1) := by decide +kernel
theorem d_R_carryMark_28 : decode m_R_carryMark.2.1 28 = .ok (.iastore, 1) := by decide +kernel
theorem d_R_carryMark_29 : decode m_R_carryMark.2.1 29 = .ok (.return_, 1) := by decide +kernel
def f_R_carryMark (o : Nat) (x1 : Int) (x2 : Int) (w : qMem) : Option (qMem) :=
  qst w (o + 3) 16 x1 x2 fun w1 =>
  qld w1 (o + 2) 16 x1 fun v2 =>
  if x2 = v2 then
  some w1
  else
  qld w1 (o + 4) 16 x1 fun v4 =>
  qst w1 (o + 4) 16 x1 (jor v4 (jshl 1 x2)) fun w5 =>
  some w5
set_option maxRecDepth 4000 in
theorem s_R_carryMark {ph : Nat} {o : Nat} (x1 : Int) (x2 : Int) (hI : qIs kLR ph o) (w : qMem) : qSim κV ph ph m_R_carryMark 0 [] [some (qR o), some (qI x1), some (qI x2)] w (f_R_carryMark o x1 x2 w) := by
  unfold f_R_carryMark
  refine z_aload_n d_R_carryMark_0 rfl ?_
  refine z_gr (ci := 7) (j := 2) (d := 3) (o2 := (o + 3)) d_R_carryMark_1 rfl fl_R_18 (hI 0 _ rfl).1 ((hI 0 _ rfl).2 (Nat.le_of_ble_eq_true rfl)) rfl rfl ?_
  refine z_iload_n d_R_carryMark_4 rfl ?_
  refine z_iload_n d_R_carryMark_5 rfl ?_
  refine z_is d_R_carryMark_6 (hI 3 _ rfl).1 rfl (fun w1 => ?_)
  refine z_iload_n d_R_carryMark_7 rfl ?_
  refine z_aload_n d_R_carryMark_8 rfl ?_
  refine z_gr (ci := 7) (j := 1) (d := 2) (o2 := (o + 2)) d_R_carryMark_9 rfl fl_R_15 (hI 0 _ rfl).1 ((hI 0 _ rfl).2 (Nat.le_of_ble_eq_true rfl)) rfl rfl ?_
  refine z_iload_n d_R_carryMark_12 rfl ?_
  refine z_il d_R_carryMark_13 (hI 2 _ rfl).1 rfl (fun v2 => ?_)
  refine z_icmp_eq (tgt := 29) d_R_carryMark_14 rfl (fun c3 => ?_) (fun c3 => ?_)
  · exact z_vret d_R_carryMark_29 rfl rfl
  · refine z_aload_n d_R_carryMark_17 rfl ?_
    refine z_gr (ci := 7) (j := 3) (d := 4) (o2 := (o + 4)) d_R_carryMark_18 rfl fl_R_21 (hI 0 _ rfl).1 ((hI 0 _ rfl).2 (Nat.le_of_ble_eq_true rfl)) rfl rfl ?_
    refine z_iload_n d_R_carryMark_21 rfl ?_
    refine z_dup2 d_R_carryMark_22 rfl rfl ?_
    refine z_il d_R_carryMark_23 (hI 4 _ rfl).1 rfl (fun v4 => ?_)
    refine z_ic1 d_R_carryMark_24 ?_
    refine z_iload_n d_R_carryMark_25 rfl ?_
    refine z_ishl d_R_carryMark_26 ?_
    refine z_ior d_R_carryMark_27 ?_
    refine z_is d_R_carryMark_28 (hI 4 _ rfl).1 rfl (fun w5 => ?_)
    exact z_vret d_R_carryMark_29 rfl rfl
/-! BubbleTorus$Rings.endMark -/
theorem d_R_endMark_0 : decode m_R_endMark.2.1 0 = .ok (.aload_n 0, 1) := by decide +kernel
theorem d_R_endMark_1 : decode m_R_endMark.2.1 1 = .ok (.getfield 15, 3) := by decide +kernel
theorem d_R_endMark_4 : decode m_R_endMark.2.1 4 = .ok (.iload_n 1, 1) := by decide +kernel
theorem d_R_endMark_5 : decode m_R_endMark.2.1 5 = .ok (.iconst (-1), 1) := by decide +kernel
theorem d_R_endMark_6 : decode m_R_endMark.2.1 6 = .ok (.iastore, 1) := by decide +kernel
theorem d_R_endMark_7 : decode m_R_endMark.2.1 7 = .ok (.aload_n 0, 1) := by decide +kernel
theorem d_R_endMark_8 : decode m_R_endMark.2.1 8 = .ok (.getfield 18, 3) := by decide +kernel
theorem d_R_endMark_11 : decode m_R_endMark.2.1 11 = .ok (.iload_n 1, 1) := by decide +kernel
theorem d_R_endMark_12 : decode m_R_endMark.2.1 12 = .ok (.iconst (-1), 1) := by decide +kernel
theorem d_R_endMark_13 : decode m_R_endMark.2.1 13 = .ok (.iastore, 1) := by decide +kernel
theorem d_R_endMark_14 : decode m_R_endMark.2.1 14 = .ok (.aload_n 0, 1) := by decide +kernel
theorem d_R_endMark_15 : decode m_R_endMark.2.1 15 = .ok (.getfield 21, 3) := by decide +kernel
theorem d_R_endMark_18 : decode m_R_endMark.2.1 18 = .ok (.iload_n 1, 1) := by decide +kernel
theorem d_R_endMark_19 : decode m_R_endMark.2.1 19 = .ok (.iconst 0, 1) := by decide +kernel
theorem d_R_endMark_20 : decode m_R_endMark.2.1 20 = .ok (.iastore, 1) := by decide +kernel
theorem d_R_endMark_21 : decode m_R_endMark.2.1 21 = .ok (.return_, 1) := by decide +kernel
def f_R_endMark (o : Nat) (x1 : Int) (w : qMem) : Option (qMem) :=
  qst w (o + 2) 16 x1 (-1) fun w1 =>
  qst w1 (o + 3) 16 x1 (-1) fun w2 =>
  qst w2 (o + 4) 16 x1 0 fun w3 =>
  some w3
set_option maxRecDepth 4000 in
theorem s_R_endMark {ph : Nat} {o : Nat} (x1 : Int) (hI : qIs kLR ph o) (w : qMem) : qSim κV ph ph m_R_endMark 0 [] [some (qR o), some (qI x1)] w (f_R_endMark o x1 w) := by
  unfold f_R_endMark
  refine z_aload_n d_R_endMark_0 rfl ?_
  refine z_gr (ci := 7) (j := 1) (d := 2) (o2 := (o + 2)) d_R_endMark_1 rfl fl_R_15 (hI 0 _ rfl).1 ((hI 0 _ rfl).2 (Nat.le_of_ble_eq_true rfl)) rfl rfl ?_
  refine z_iload_n d_R_endMark_4 rfl ?_
  refine z_icm1 d_R_endMark_5 ?_
  refine z_is d_R_endMark_6 (hI 2 _ rfl).1 rfl (fun w1 => ?_)
  refine z_aload_n d_R_endMark_7 rfl ?_
  refine z_gr (ci := 7) (j := 2) (d := 3) (o2 := (o + 3)) d_R_endMark_8 rfl fl_R_18 (hI 0 _ rfl).1 ((hI 0 _ rfl).2 (Nat.le_of_ble_eq_true rfl)) rfl rfl ?_
  refine z_iload_n d_R_endMark_11 rfl ?_
  refine z_icm1 d_R_endMark_12 ?_
  refine z_is d_R_endMark_13 (hI 3 _ rfl).1 rfl (fun w2 => ?_)
  refine z_aload_n d_R_endMark_14 rfl ?_
  refine z_gr (ci := 7) (j := 3) (d := 4) (o2 := (o + 4)) d_R_endMark_15 rfl fl_R_21 (hI 0 _ rfl).1 ((hI 0 _ rfl).2 (Nat.le_of_ble_eq_true rfl)) rfl rfl ?_
  refine z_iload_n d_R_endMark_18 rfl ?_
  refine z_ic0 d_R_endMark_19 ?_
  refine z_is d_R_endMark_20 (hI 4 _ rfl).1 rfl (fun w3 => ?_)
  exact z_vret d_R_endMark_21 rfl rfl
/-! BubbleTorus$Rings.marksNow -/
theorem d_R_marksNow_0 : decode m_R_marksNow.2.1 0 = .ok (.iconst 0, 1) := by decide +kernel
theorem d_R_marksNow_1 : decode m_R_marksNow.2.1 1 = .ok (.istore_n 1, 1) := by decide +kernel
theorem d_R_marksNow_2 : decode m_R_marksNow.2.1 2 = .ok (.iconst 0, 1) := by decide +kernel
theorem d_R_marksNow_3 : decode m_R_marksNow.2.1 3 = .ok (.istore_n 2, 1) := by decide +kernel
theorem d_R_marksNow_4 : decode m_R_marksNow.2.1 4 = .ok (.iload_n 2, 1) := by decide +kernel
theorem d_R_marksNow_5 : decode m_R_marksNow.2.1 5 = .ok (.bipush 16, 2) := by decide +kernel
theorem d_R_marksNow_7 : decode m_R_marksNow.2.1 7 = .ok (.if_icmp .ge 22, 3) := by decide +kernel
theorem d_R_marksNow_10 : decode m_R_marksNow.2.1 10 = .ok (.aload_n 0, 1) := by decide +kernel
theorem d_R_marksNow_11 : decode m_R_marksNow.2.1 11 = .ok (.getfield 15, 3) := by decide +kernel
theorem d_R_marksNow_14 : decode m_R_marksNow.2.1 14 = .ok (.iload_n 2, 1) := by decide +kernel
theorem d_R_marksNow_15 : decode m_R_marksNow.2.1 15 = .ok (.iaload, 1) := by decide +kernel
theorem d_R_marksNow_16 : decode m_R_marksNow.2.1 16 = .ok (.iconst (-1), 1) := by decide +kernel
theorem d_R_marksNow_17 : decode m_R_marksNow.2.1 17 = .ok (.if_icmp .eq 6, 3) := by decide +kernel
theorem d_R_marksNow_20 : decode m_R_marksNow.2.1 20 = .ok (.iinc 1 1, 3) := by decide +kernel
theorem d_R_marksNow_23 : decode m_R_marksNow.2.1 23 = .ok (.iinc 2 1, 3) := by decide +kernel
theorem d_R_marksNow_26 : decode m_R_marksNow.2.1 26 = .ok (.goto (-22), 3) := by decide +kernel
theorem d_R_marksNow_29 : decode m_R_marksNow.2.1 29 = .ok (.iload_n 1, 1) := by decide +kernel
theorem d_R_marksNow_30 : decode m_R_marksNow.2.1 30 = .ok (.ireturn, 1) := by decide +kernel
def f_R_marksNow_4 (o : Nat) : Nat → Int → Int → qMem → Option (Int × qMem)
  | 0, _, _, _ => none
  | n + 1, x1, x2, w =>
    if x2 < 16 then
    qld w (o + 2) 16 x2 fun v2 =>
    if v2 = (-1) then
    (f_R_marksNow_4 o n) x1 (w32 (x2 + 1)) w
    else
    (f_R_marksNow_4 o n) (w32 (x1 + 1)) (w32 (x2 + 1)) w
    else
    some (x1, w)
set_option maxRecDepth 4000 in
theorem s_R_marksNow_4 {ph : Nat} {o : Nat} (hI : qIs kLR ph o) : ∀ (n : Nat), ∀ (x1 x2 : Int) (w : qMem), qSim κI ph ph m_R_marksNow 4 [] [some (qR o), some (qI x1), some (qI x2)] w (f_R_marksNow_4 o n x1 x2 w) := by
  intro n
  induction n with
  | zero => intro x1 x2 w; exact z_none
  | succ n ih =>
    intro x1 x2 w
    rw [f_R_marksNow_4]
    refine z_iload_n d_R_marksNow_4 rfl ?_
    refine z_bipush d_R_marksNow_5 ⟨by decide, by decide⟩ ?_
    refine z_icmp_ge (tgt := 29) d_R_marksNow_7 rfl (fun c1 => ?_) (fun c1 => ?_)
    · refine z_aload_n d_R_marksNow_10 rfl ?_
      refine z_gr (ci := 7) (j := 1) (d := 2) (o2 := (o + 2)) d_R_marksNow_11 rfl fl_R_15 (hI 0 _ rfl).1 ((hI 0 _ rfl).2 (Nat.le_of_ble_eq_true rfl)) rfl rfl ?_
      refine z_iload_n d_R_marksNow_14 rfl ?_
      refine z_il d_R_marksNow_15 (hI 2 _ rfl).1 rfl (fun v2 => ?_)
      refine z_icm1 d_R_marksNow_16 ?_
      refine z_icmp_eq (tgt := 23) d_R_marksNow_17 rfl (fun c3 => ?_) (fun c3 => ?_)
      · refine z_iinc (pls' := [some (qR o), some (qI x1), some (qI (w32 (x2 + 1)))]) d_R_marksNow_23 (by decide) rfl rfl rfl ?_
        refine z_goto (tgt := 4) d_R_marksNow_26 rfl ?_
        refine z_mask [true, true, true] ?_
        exact ih _ _ _
      · refine z_iinc (pls' := [some (qR o), some (qI (w32 (x1 + 1))), some (qI x2)]) d_R_marksNow_20 (by decide) rfl rfl rfl ?_
        refine z_iinc (pls' := [some (qR o), some (qI (w32 (x1 + 1))), some (qI (w32 (x2 + 1)))]) d_R_marksNow_23 (by decide) rfl rfl rfl ?_
        refine z_goto (tgt := 4) d_R_marksNow_26 rfl ?_
        refine z_mask [true, true, true] ?_
        exact ih _ _ _
    · refine z_iload_n d_R_marksNow_29 rfl ?_
      exact z_iret d_R_marksNow_30 rfl rfl
def f_R_marksNow (o : Nat) (w : qMem) : Option (Int × qMem) :=
  f_R_marksNow_4 o qFU 0 0 w
set_option maxRecDepth 4000 in
theorem s_R_marksNow {ph : Nat} {o : Nat} (hI : qIs kLR ph o) (w : qMem) : qSim κI ph ph m_R_marksNow 0 [] [some (qR o), none, none] w (f_R_marksNow o w) := by
  unfold f_R_marksNow
  refine z_ic0 d_R_marksNow_0 ?_
  refine z_istore_n (pls' := [some (qR o), some (qI 0), none]) d_R_marksNow_1 (by decide) rfl rfl ?_
  refine z_ic0 d_R_marksNow_2 ?_
  refine z_istore_n (pls' := [some (qR o), some (qI 0), some (qI 0)]) d_R_marksNow_3 (by decide) rfl rfl ?_
  refine z_mask [true, true, true] ?_
  exact s_R_marksNow_4 hI _ _ _ _
/-! BubbleTorus$Net.begin -/
theorem d_N_begin_0 : decode m_N_begin.2.1 0 = .ok (.aload_n 0, 1) := by decide +kernel
theorem d_N_begin_1 : decode m_N_begin.2.1 1 = .ok (.iload_n 1, 1) := by decide +kernel
theorem d_N_begin_2 : decode m_N_begin.2.1 2 = .ok (.putfield 50, 3) := by decide +kernel
theorem d_N_begin_5 : decode m_N_begin.2.1 5 = .ok (.aload_n 0, 1) := by decide +kernel
theorem d_N_begin_6 : decode m_N_begin.2.1 6 = .ok (.iload_n 2, 1) := by decide +kernel
theorem d_N_begin_7 : decode m_N_begin.2.1 7 = .ok (.putfield 54, 3) := by decide +kernel
theorem d_N_begin_10 : decode m_N_begin.2.1 10 = .ok (.aload_n 0, 1) := by decide +kernel
theorem d_N_begin_11 : decode m_N_begin.2.1 11 = .ok (.iload_n 3, 1) := by decide +kernel
theorem d_N_begin_12 : decode m_N_begin.2.1 12 = .ok (.putfield 57, 3) := by decide +kernel
theorem d_N_begin_15 : decode m_N_begin.2.1 15 = .ok (.aload_n 0, 1) := by decide +kernel
theorem d_N_begin_16 : decode m_N_begin.2.1 16 = .ok (.iload 4, 2) := by decide +kernel
theorem d_N_begin_18 : decode m_N_begin.2.1 18 = .ok (.putfield 60, 3) := by decide +kernel
theorem d_N_begin_21 : decode m_N_begin.2.1 21 = .ok (.aload_n 0, 1) := by decide +kernel
theorem d_N_begin_22 : decode m_N_begin.2.1 22 = .ok (.iconst 0, 1) := by decide +kernel
theorem d_N_begin_23 : decode m_N_begin.2.1 23 = .ok (.putfield 63, 3) := by decide +kernel
theorem d_N_begin_26 : decode m_N_begin.2.1 26 = .ok (.aload_n 0, 1) := by decide +kernel
theorem d_N_begin_27 : decode m_N_begin.2.1 27 = .ok (.iconst 0, 1) := by decide +kernel
theorem d_N_begin_28 : decode m_N_begin.2.1 28 = .ok (.putfield 66, 3) := by decide +kernel
theorem d_N_begin_31 : decode m_N_begin.2.1 31 = .ok (.aload_n 0, 1) := by decide +kernel
theorem d_N_begin_32 : decode m_N_begin.2.1 32 = .ok (.iconst 0, 1) := by decide +kernel
theorem d_N_begin_33 : decode m_N_begin.2.1 33 = .ok (.putfield 69, 3) := by decide +kernel
theorem d_N_begin_36 : decode m_N_begin.2.1 36 = .ok (.aload_n 0, 1) := by decide +kernel
theorem d_N_begin_37 : decode m_N_begin.2.1 37 = .ok (.getfield 35, 3) := by decide +kernel
theorem d_N_begin_40 : decode m_N_begin.2.1 40 = .ok (.iconst 0, 1) := by decide +kernel
theorem d_N_begin_41 : decode m_N_begin.2.1 41 = .ok (.putfield 72, 3) := by decide +kernel
theorem d_N_begin_44 : decode m_N_begin.2.1 44 = .ok (.aload_n 0, 1) := by decide +kernel
theorem d_N_begin_45 : decode m_N_begin.2.1 45 = .ok (.getfield 21, 3) := by decide +kernel
theorem d_N_begin_48 : decode m_N_begin.2.1 48 = .ok (.invokevirtual 75, 3) := by decide +kernel
theorem d_N_begin_51 : decode m_N_begin.2.1 51 = .ok (.aload_n 0, 1) := by decide +kernel
theorem d_N_begin_52 : decode m_N_begin.2.1 52 = .ok (.getfield 28, 3) := by decide +kernel
theorem d_N_begin_55 : decode m_N_begin.2.1 55 = .ok (.invokevirtual 78, 3) := by decide +kernel
theorem d_N_begin_58 : decode m_N_begin.2.1 58 = .ok (.aload_n 0, 1) := by decide +kernel
theorem d_N_begin_59 : decode m_N_begin.2.1 59 = .ok (.getfield 42, 3) := by decide +kernel
theorem d_N_begin_62 : decode m_N_begin.2.1 62 = .ok (.aload_n 0, 1) := by decide +kernel
theorem d_N_begin_63 : decode m_N_begin.2.1 63 = .ok (.getfield 12, 3) := by decide +kernel
theorem d_N_begin_66 : decode m_N_begin.2.1 66 = .ok (.iload_n 1, 1) := by decide +kernel
theorem d_N_begin_67 : decode m_N_begin.2.1 67 = .ok (.invokevirtual 79, 3) := by decide +kernel
theorem d_N_begin_70 : decode m_N_begin.2.1 70 = .ok (.aload_n 0, 1) := by decide +kernel
theorem d_N_begin_71 : decode m_N_begin.2.1 71 = .ok (.getfield 46, 3) := by decide +kernel
theorem d_N_begin_74 : decode m_N_begin.2.1 74 = .ok (.iconst 0, 1) := by decide +kernel
theorem d_N_begin_75 : decode m_N_begin.2.1 75 = .ok (.invokestatic 82, 3) := by decide +kernel
theorem d_N_begin_78 : decode m_N_begin.2.1 78 = .ok (.return_, 1) := by decide +kernel
def f_N_begin (o : Nat) (x1 : Int) (x2 : Int) (x3 : Int) (x4 : Int) (w : qMem) : Option (qMem) :=
  qlt (qud w o 6 x1) fun w1 =>
  qlt (qud w1 o 7 x2) fun w2 =>
  qlt (qud w2 o 8 x3) fun w3 =>
  qlt (qud w3 o 9 x4) fun w4 =>
  qlt (qud w4 o 10 0) fun w5 =>
  qlt (qud w5 o 11 0) fun w6 =>
  qlt (qud w6 o 12 0) fun w7 =>
  qlt (qud w7 (o + 22) 1 0) fun w8 =>
  (f_P_clearAll (o + 5) w8).bind fun q9 =>
  (f_Q_clearAll (o + 19) q9).bind fun q10 =>
  (f_R_clearAll (o + 24) (o + 1) x1 q10).bind fun q11 =>
  (f_JA_fill (o + 34) 64 0 q11).bind fun q12 =>
  some q12
set_option maxRecDepth 4000 in
theorem s_N_begin {ph : Nat} {o : Nat} (x1 : Int) (x2 : Int) (x3 : Int) (x4 : Int) (hI : qIs kLN ph o) (w : qMem) : qSim κV ph ph m_N_begin 0 [] [some (qR o), some (qI x1), some (qI x2), some (qI x3), some (qI x4)] w (f_N_begin o x1 x2 x3 x4 w) := by
  unfold f_N_begin
  refine z_aload_n d_N_begin_0 rfl ?_
  refine z_iload_n d_N_begin_1 rfl ?_
  refine z_pi (ci := 3) (j := 6) (ji := 6) d_N_begin_2 rfl fl_N_50 (hI 0 _ rfl).1 rfl rfl rfl rfl (fun w1 => ?_)
  refine z_aload_n d_N_begin_5 rfl ?_
  refine z_iload_n d_N_begin_6 rfl ?_
  refine z_pi (ci := 3) (j := 7) (ji := 7) d_N_begin_7 rfl fl_N_54 (hI 0 _ rfl).1 rfl rfl rfl rfl (fun w2 => ?_)
  refine z_aload_n d_N_begin_10 rfl ?_
  refine z_iload_n d_N_begin_11 rfl ?_
  refine z_pi (ci := 3) (j := 8) (ji := 8) d_N_begin_12 rfl fl_N_57 (hI 0 _ rfl).1 rfl rfl rfl rfl (fun w3 => ?_)
  refine z_aload_n d_N_begin_15 rfl ?_
  refine z_iload d_N_begin_16 rfl ?_
  refine z_pi (ci := 3) (j := 9) (ji := 9) d_N_begin_18 rfl fl_N_60 (hI 0 _ rfl).1 rfl rfl rfl rfl (fun w4 => ?_)
  refine z_aload_n d_N_begin_21 rfl ?_
  refine z_ic0 d_N_begin_22 ?_
  refine z_pi (ci := 3) (j := 10) (ji := 10) d_N_begin_23 rfl fl_N_63 (hI 0 _ rfl).1 rfl rfl rfl rfl (fun w5 => ?_)
  refine z_aload_n d_N_begin_26 rfl ?_
  refine z_ic0 d_N_begin_27 ?_
  refine z_pi (ci := 3) (j := 11) (ji := 11) d_N_begin_28 rfl fl_N_66 (hI 0 _ rfl).1 rfl rfl rfl rfl (fun w6 => ?_)
  refine z_aload_n d_N_begin_31 rfl ?_
  refine z_ic0 d_N_begin_32 ?_
  refine z_pi (ci := 3) (j := 12) (ji := 12) d_N_begin_33 rfl fl_N_69 (hI 0 _ rfl).1 rfl rfl rfl rfl (fun w7 => ?_)
  refine z_aload_n d_N_begin_36 rfl ?_
  refine z_gr (ci := 3) (j := 3) (d := 22) (o2 := (o + 22)) d_N_begin_37 rfl fl_N_35 (hI 0 _ rfl).1 ((hI 0 _ rfl).2 (Nat.le_of_ble_eq_true rfl)) rfl rfl ?_
  refine z_ic0 d_N_begin_40 ?_
  refine z_pi (ci := 2) (j := 1) (ji := 1) d_N_begin_41 rfl fl_N_72 (hI 22 _ rfl).1 rfl rfl rfl rfl (fun w8 => ?_)
  refine z_aload_n d_N_begin_44 rfl ?_
  refine z_gr (ci := 3) (j := 1) (d := 5) (o2 := (o + 5)) d_N_begin_45 rfl fl_N_21 (hI 0 _ rfl).1 ((hI 0 _ rfl).2 (Nat.le_of_ble_eq_true rfl)) rfl rfl ?_
  refine z_cVV (as := []) (st := []) (nl := 0) (ci := 5) d_N_begin_48 lk_N_75 mk_P_clearAll rfl rfl (hI 5 _ rfl).1 rfl rfl rfl (s_P_clearAll (is_N_P hI) _) (fun q9 _ => ?_)
  refine z_aload_n d_N_begin_51 rfl ?_
  refine z_gr (ci := 3) (j := 2) (d := 19) (o2 := (o + 19)) d_N_begin_52 rfl fl_N_28 (hI 0 _ rfl).1 ((hI 0 _ rfl).2 (Nat.le_of_ble_eq_true rfl)) rfl rfl ?_
  refine z_cVV (as := []) (st := []) (nl := 0) (ci := 6) d_N_begin_55 lk_N_78 mk_Q_clearAll rfl rfl (hI 19 _ rfl).1 rfl rfl rfl (s_Q_clearAll (is_N_Q hI) _) (fun q10 _ => ?_)
  refine z_aload_n d_N_begin_58 rfl ?_
  refine z_gr (ci := 3) (j := 4) (d := 24) (o2 := (o + 24)) d_N_begin_59 rfl fl_N_42 (hI 0 _ rfl).1 ((hI 0 _ rfl).2 (Nat.le_of_ble_eq_true rfl)) rfl rfl ?_
  refine z_aload_n d_N_begin_62 rfl ?_
  refine z_gr (ci := 3) (j := 0) (d := 1) (o2 := (o + 1)) d_N_begin_63 rfl fl_N_12 (hI 0 _ rfl).1 ((hI 0 _ rfl).2 (Nat.le_of_ble_eq_true rfl)) rfl rfl ?_
  refine z_iload_n d_N_begin_66 rfl ?_
  refine z_cVV (as := [qR (o + 1), qI x1]) (st := []) (nl := 1) (ci := 7) d_N_begin_67 lk_N_79 mk_R_clearAll rfl rfl (hI 24 _ rfl).1 rfl rfl rfl (s_R_clearAll _ (is_N_R hI) (is_N_G hI) _) (fun q11 _ => ?_)
  refine z_aload_n d_N_begin_70 rfl ?_
  refine z_gr (ci := 3) (j := 5) (d := 34) (o2 := (o + 34)) d_N_begin_71 rfl fl_N_46 (hI 0 _ rfl).1 ((hI 0 _ rfl).2 (Nat.le_of_ble_eq_true rfl)) rfl rfl ?_
  refine z_ic0 d_N_begin_74 ?_
  refine z_cSV (av := [qR (o + 34), qI 0]) (st := []) (nl := 2) d_N_begin_75 lk_N_82 mk_JA_fill rfl rfl rfl (s_JA_fill _ (hI 34 _ rfl).1 rfl (by decide) _) (fun q12 _ => ?_)
  exact z_vret d_N_begin_78 rfl rfl
/-! BubbleTorus$Net.copyFrom -/
theorem d_N_copyFrom_0 : decode m_N_copyFrom.2.1 0 = .ok (.aload_n 0, 1) := by decide +kernel
theorem d_N_copyFrom_1 : decode m_N_copyFrom.2.1 1 = .ok (.getfield 12, 3) := by decide +kernel
theorem d_N_copyFrom_4 : decode m_N_copyFrom.2.1 4 = .ok (.aload_n 1, 1) := by decide +kernel
theorem d_N_copyFrom_5 : decode m_N_copyFrom.2.1 5 = .ok (.getfield 12, 3) := by decide +kernel
theorem d_N_copyFrom_8 : decode m_N_copyFrom.2.1 8 = .ok (.invokevirtual 88, 3) := by decide +kernel
theorem d_N_copyFrom_11 : decode m_N_copyFrom.2.1 11 = .ok (.aload_n 0, 1) := by decide +kernel
theorem d_N_copyFrom_12 : decode m_N_copyFrom.2.1 12 = .ok (.aload_n 1, 1) := by decide +kernel
theorem d_N_copyFrom_13 : decode m_N_copyFrom.2.1 13 = .ok (.getfield 50, 3) := by decide +kernel
theorem d_N_copyFrom_16 : decode m_N_copyFrom.2.1 16 = .ok (.putfield 50, 3) := by decide +kernel
theorem d_N_copyFrom_19 : decode m_N_copyFrom.2.1 19 = .ok (.aload_n 0, 1) := by decide +kernel
theorem d_N_copyFrom_20 : decode m_N_copyFrom.2.1 20 = .ok (.aload_n 1, 1) := by decide +kernel
theorem d_N_copyFrom_21 : decode m_N_copyFrom.2.1 21 = .ok (.getfield 54, 3) := by decide +kernel
theorem d_N_copyFrom_24 : decode m_N_copyFrom.2.1 24 = .ok (.putfield 54, 3) := by decide +kernel
theorem d_N_copyFrom_27 : decode m_N_copyFrom.2.1 27 = .ok (.aload_n 0, 1) := by decide +kernel
theorem d_N_copyFrom_28 : decode m_N_copyFrom.2.1 28 = .ok (.aload_n 1, 1) := by decide +kernel
theorem d_N_copyFrom_29 : decode m_N_copyFrom.2.1 29 = .ok (.getfield 57, 3) := by decide +kernel
theorem d_N_copyFrom_32 : decode m_N_copyFrom.2.1 32 = .ok (.putfield 57, 3) := by decide +kernel
theorem d_N_copyFrom_35 : decode m_N_copyFrom.2.1 35 = .ok (.aload_n 0, 1) := by decide +kernel
theorem d_N_copyFrom_36 : decode m_N_copyFrom.2.1 36 = .ok (.aload_n 1, 1) := by decide +kernel
theorem d_N_copyFrom_37 : decode m_N_copyFrom.2.1 37 = .ok (.getfield 60, 3) := by decide +kernel
theorem d_N_copyFrom_40 : decode m_N_copyFrom.2.1 40 = .ok (.putfield 60, 3) := by decide +kernel
theorem d_N_copyFrom_43 : decode m_N_copyFrom.2.1 43 = .ok (.aload_n 0, 1) := by decide +kernel
theorem d_N_copyFrom_44 : decode m_N_copyFrom.2.1 44 = .ok (.aload_n 1, 1) := by decide +kernel
theorem d_N_copyFrom_45 : decode m_N_copyFrom.2.1 45 = .ok (.getfield 63, 3) := by decide +kernel
theorem d_N_copyFrom_48 : decode m_N_copyFrom.2.1 48 = .ok (.putfield 63, 3) := by decide +kernel
theorem d_N_copyFrom_51 : decode m_N_copyFrom.2.1 51 = .ok (.aload_n 0, 1) := by decide +kernel
theorem d_N_copyFrom_52 : decode m_N_copyFrom.2.1 52 = .ok (.aload_n 1, 1) := by decide +kernel
theorem d_N_copyFrom_53 : decode m_N_copyFrom.2.1 53 = .ok (.getfield 66, 3) := by decide +kernel
theorem d_N_copyFrom_56 : decode m_N_copyFrom.2.1 56 = .ok (.putfield 66, 3) := by decide +kernel
theorem d_N_copyFrom_59 : decode m_N_copyFrom.2.1 59 = .ok (.aload_n 0, 1) := by decide +kernel
theorem d_N_copyFrom_60 : decode m_N_copyFrom.2.1 60 = .ok (.aload_n 1, 1) := by decide +kernel
theorem d_N_copyFrom_61 : decode m_N_copyFrom.2.1 61 = .ok (.getfield 69, 3) := by decide +kernel
theorem d_N_copyFrom_64 : decode m_N_copyFrom.2.1 64 = .ok (.putfield 69, 3) := by decide +kernel
theorem d_N_copyFrom_67 : decode m_N_copyFrom.2.1 67 = .ok (.aload_n 0, 1) := by decide +kernel
theorem d_N_copyFrom_68 : decode m_N_copyFrom.2.1 68 = .ok (.getfield 35, 3) := by decide +kernel
theorem d_N_copyFrom_71 : decode m_N_copyFrom.2.1 71 = .ok (.aload_n 1, 1) := by decide +kernel
theorem d_N_copyFrom_72 : decode m_N_copyFrom.2.1 72 = .ok (.getfield 35, 3) := by decide +kernel
theorem d_N_copyFrom_75 : decode m_N_copyFrom.2.1 75 = .ok (.invokevirtual 92, 3) := by decide +kernel
theorem d_N_copyFrom_78 : decode m_N_copyFrom.2.1 78 = .ok (.aload_n 0, 1) := by decide +kernel
theorem d_N_copyFrom_79 : decode m_N_copyFrom.2.1 79 = .ok (.getfield 21, 3) := by decide +kernel
theorem d_N_copyFrom_82 : decode m_N_copyFrom.2.1 82 = .ok (.aload_n 1, 1) := by decide +kernel
theorem d_N_copyFrom_83 : decode m_N_copyFrom.2.1 83 = .ok (.getfield 21, 3) := by decide +kernel
theorem d_N_copyFrom_86 : decode m_N_copyFrom.2.1 86 = .ok (.invokevirtual 95, 3) := by decide +kernel
theorem d_N_copyFrom_89 : decode m_N_copyFrom.2.1 89 = .ok (.aload_n 0, 1) := by decide +kernel
theorem d_N_copyFrom_90 : decode m_N_copyFrom.2.1 90 = .ok (.getfield 28, 3) := by decide +kernel
theorem d_N_copyFrom_93 : decode m_N_copyFrom.2.1 93 = .ok (.aload_n 1, 1) := by decide +kernel
theorem d_N_copyFrom_94 : decode m_N_copyFrom.2.1 94 = .ok (.getfield 28, 3) := by decide +kernel
theorem d_N_copyFrom_97 : decode m_N_copyFrom.2.1 97 = .ok (.invokevirtual 98, 3) := by decide +kernel
theorem d_N_copyFrom_100 : decode m_N_copyFrom.2.1 100 = .ok (.aload_n 0, 1) := by decide +kernel
theorem d_N_copyFrom_101 : decode m_N_copyFrom.2.1 101 = .ok (.getfield 42, 3) := by decide +kernel
theorem d_N_copyFrom_104 : decode m_N_copyFrom.2.1 104 = .ok (.aload_n 1, 1) := by decide +kernel
theorem d_N_copyFrom_105 : decode m_N_copyFrom.2.1 105 = .ok (.getfield 42, 3) := by decide +kernel
theorem d_N_copyFrom_108 : decode m_N_copyFrom.2.1 108 = .ok (.invokevirtual 101, 3) := by decide +kernel
theorem d_N_copyFrom_111 : decode m_N_copyFrom.2.1 111 = .ok (.aload_n 1, 1) := by decide +kernel
theorem d_N_copyFrom_112 : decode m_N_copyFrom.2.1 112 = .ok (.getfield 46, 3) := by decide +kernel
theorem d_N_copyFrom_115 : decode m_N_copyFrom.2.1 115 = .ok (.iconst 0, 1) := by decide +kernel
theorem d_N_copyFrom_116 : decode m_N_copyFrom.2.1 116 = .ok (.aload_n 0, 1) := by decide +kernel
theorem d_N_copyFrom_117 : decode m_N_copyFrom.2.1 117 = .ok (.getfield 46, 3) := by decide +kernel
theorem d_N_copyFrom_120 : decode m_N_copyFrom.2.1 120 = .ok (.iconst 0, 1) := by decide +kernel
theorem d_N_copyFrom_121 : decode m_N_copyFrom.2.1 121 = .ok (.bipush 64, 2) := by decide +kernel
theorem d_N_copyFrom_123 : decode m_N_copyFrom.2.1 123 = .ok (.invokestatic 104, 3) := by decide +kernel
theorem d_N_copyFrom_126 : decode m_N_copyFrom.2.1 126 = .ok (.return_, 1) := by decide +kernel
def f_N_copyFrom (o : Nat) (p1 : Nat) (w : qMem) : Option (qMem) :=
  (f_G_copyFrom (o + 1) (p1 + 1) w).bind fun q1 =>
  qlt (qud q1 o 6 (q1 p1 6)) fun w2 =>
  qlt (qud w2 o 7 (w2 p1 7)) fun w3 =>
  qlt (qud w3 o 8 (w3 p1 8)) fun w4 =>
  qlt (qud w4 o 9 (w4 p1 9)) fun w5 =>
  qlt (qud w5 o 10 (w5 p1 10)) fun w6 =>
  qlt (qud w6 o 11 (w6 p1 11)) fun w7 =>
  qlt (qud w7 o 12 (w7 p1 12)) fun w8 =>
  (f_V_copyFrom (o + 22) (p1 + 22) w8).bind fun q9 =>
  (f_P_copyFrom (o + 5) (p1 + 5) q9).bind fun q10 =>
  (f_Q_copyFrom (o + 19) (p1 + 19) q10).bind fun q11 =>
  (f_R_copyFrom (o + 24) (p1 + 24) q11).bind fun q12 =>
  qcpy q12 (p1 + 34) 64 0 (o + 34) 64 0 64 fun w13 =>
  some w13
set_option maxRecDepth 4000 in
theorem s_N_copyFrom {ph : Nat} {o : Nat} {p1 : Nat} (hI : qIs kLN ph o) (hp1 : qIs kLN ph p1) (w : qMem) : qSim κV ph ph m_N_copyFrom 0 [] [some (qR o), some (qR p1)] w (f_N_copyFrom o p1 w) := by
  unfold f_N_copyFrom
  refine z_aload_n d_N_copyFrom_0 rfl ?_
  refine z_gr (ci := 3) (j := 0) (d := 1) (o2 := (o + 1)) d_N_copyFrom_1 rfl fl_N_12 (hI 0 _ rfl).1 ((hI 0 _ rfl).2 (Nat.le_of_ble_eq_true rfl)) rfl rfl ?_
  refine z_aload_n d_N_copyFrom_4 rfl ?_
  refine z_gr (ci := 3) (j := 0) (d := 1) (o2 := (p1 + 1)) d_N_copyFrom_5 rfl fl_N_12 (hp1 0 _ rfl).1 ((hp1 0 _ rfl).2 (Nat.le_of_ble_eq_true rfl)) rfl rfl ?_
  refine z_cVV (as := [qR (p1 + 1)]) (st := []) (nl := 0) (ci := 0) d_N_copyFrom_8 lk_N_88 mk_G_copyFrom rfl rfl (hI 1 _ rfl).1 rfl rfl rfl (s_G_copyFrom (is_N_G hI) (is_N_G hp1) _) (fun q1 _ => ?_)
  refine z_aload_n d_N_copyFrom_11 rfl ?_
  refine z_aload_n d_N_copyFrom_12 rfl ?_
  refine z_gi (ci := 3) (j := 6) (ji := 6) d_N_copyFrom_13 rfl fl_N_50 (hp1 0 _ rfl).1 rfl rfl ?_
  refine z_pi (ci := 3) (j := 6) (ji := 6) d_N_copyFrom_16 rfl fl_N_50 (hI 0 _ rfl).1 rfl rfl rfl rfl (fun w2 => ?_)
  refine z_aload_n d_N_copyFrom_19 rfl ?_
  refine z_aload_n d_N_copyFrom_20 rfl ?_
  refine z_gi (ci := 3) (j := 7) (ji := 7) d_N_copyFrom_21 rfl fl_N_54 (hp1 0 _ rfl).1 rfl rfl ?_
  refine z_pi (ci := 3) (j := 7) (ji := 7) d_N_copyFrom_24 rfl fl_N_54 (hI 0 _ rfl).1 rfl rfl rfl rfl (fun w3 => ?_)
  refine z_aload_n d_N_copyFrom_27 rfl ?_
  refine z_aload_n d_N_copyFrom_28 rfl ?_
  refine z_gi (ci := 3) (j := 8) (ji := 8) d_N_copyFrom_29 rfl fl_N_57 (hp1 0 _ rfl).1 rfl rfl ?_
  refine z_pi (ci := 3) (j := 8) (ji := 8) d_N_copyFrom_32 rfl fl_N_57 (hI 0 _ rfl).1 rfl rfl rfl rfl (fun w4 => ?_)
  refine z_aload_n d_N_copyFrom_35 rfl ?_
  refine z_aload_n d_N_copyFrom_36 rfl ?_
  refine z_gi (ci := 3) (j := 9) (ji := 9) d_N_copyFrom_37 rfl fl_N_60 (hp1 0 _ rfl).1 rfl rfl ?_
  refine z_pi (ci := 3) (j := 9) (ji := 9) d_N_copyFrom_40 rfl fl_N_60 (hI 0 _ rfl).1 rfl rfl rfl rfl (fun w5 => ?_)
  refine z_aload_n d_N_copyFrom_43 rfl ?_
  refine z_aload_n d_N_copyFrom_44 rfl ?_
  refine z_gi (ci := 3) (j := 10) (ji := 10) d_N_copyFrom_45 rfl fl_N_63 (hp1 0 _ rfl).1 rfl rfl ?_
  refine z_pi (ci := 3) (j := 10) (ji := 10) d_N_copyFrom_48 rfl fl_N_63 (hI 0 _ rfl).1 rfl rfl rfl rfl (fun w6 => ?_)
  refine z_aload_n d_N_copyFrom_51 rfl ?_
  refine z_aload_n d_N_copyFrom_52 rfl ?_
  refine z_gi (ci := 3) (j := 11) (ji := 11) d_N_copyFrom_53 rfl fl_N_66 (hp1 0 _ rfl).1 rfl rfl ?_
  refine z_pi (ci := 3) (j := 11) (ji := 11) d_N_copyFrom_56 rfl fl_N_66 (hI 0 _ rfl).1 rfl rfl rfl rfl (fun w7 => ?_)
  refine z_aload_n d_N_copyFrom_59 rfl ?_
  refine z_aload_n d_N_copyFrom_60 rfl ?_
  refine z_gi (ci := 3) (j := 12) (ji := 12) d_N_copyFrom_61 rfl fl_N_69 (hp1 0 _ rfl).1 rfl rfl ?_
  refine z_pi (ci := 3) (j := 12) (ji := 12) d_N_copyFrom_64 rfl fl_N_69 (hI 0 _ rfl).1 rfl rfl rfl rfl (fun w8 => ?_)
  refine z_aload_n d_N_copyFrom_67 rfl ?_
  refine z_gr (ci := 3) (j := 3) (d := 22) (o2 := (o + 22)) d_N_copyFrom_68 rfl fl_N_35 (hI 0 _ rfl).1 ((hI 0 _ rfl).2 (Nat.le_of_ble_eq_true rfl)) rfl rfl ?_
  refine z_aload_n d_N_copyFrom_71 rfl ?_
  refine z_gr (ci := 3) (j := 3) (d := 22) (o2 := (p1 + 22)) d_N_copyFrom_72 rfl fl_N_35 (hp1 0 _ rfl).1 ((hp1 0 _ rfl).2 (Nat.le_of_ble_eq_true rfl)) rfl rfl ?_
  refine z_cVV (as := [qR (p1 + 22)]) (st := []) (nl := 0) (ci := 2) d_N_copyFrom_75 lk_N_92 mk_V_copyFrom rfl rfl (hI 22 _ rfl).1 rfl rfl rfl (s_V_copyFrom (is_N_V hI) (is_N_V hp1) _) (fun q9 _ => ?_)
  refine z_aload_n d_N_copyFrom_78 rfl ?_
  refine z_gr (ci := 3) (j := 1) (d := 5) (o2 := (o + 5)) d_N_copyFrom_79 rfl fl_N_21 (hI 0 _ rfl).1 ((hI 0 _ rfl).2 (Nat.le_of_ble_eq_true rfl)) rfl rfl ?_
  refine z_aload_n d_N_copyFrom_82 rfl ?_
  refine z_gr (ci := 3) (j := 1) (d := 5) (o2 := (p1 + 5)) d_N_copyFrom_83 rfl fl_N_21 (hp1 0 _ rfl).1 ((hp1 0 _ rfl).2 (Nat.le_of_ble_eq_true rfl)) rfl rfl ?_
  refine z_cVV (as := [qR (p1 + 5)]) (st := []) (nl := 0) (ci := 5) d_N_copyFrom_86 lk_N_95 mk_P_copyFrom rfl rfl (hI 5 _ rfl).1 rfl rfl rfl (s_P_copyFrom (is_N_P hI) (is_N_P hp1) _) (fun q10 _ => ?_)
  refine z_aload_n d_N_copyFrom_89 rfl ?_
  refine z_gr (ci := 3) (j := 2) (d := 19) (o2 := (o + 19)) d_N_copyFrom_90 rfl fl_N_28 (hI 0 _ rfl).1 ((hI 0 _ rfl).2 (Nat.le_of_ble_eq_true rfl)) rfl rfl ?_
  refine z_aload_n d_N_copyFrom_93 rfl ?_
  refine z_gr (ci := 3) (j := 2) (d := 19) (o2 := (p1 + 19)) d_N_copyFrom_94 rfl fl_N_28 (hp1 0 _ rfl).1 ((hp1 0 _ rfl).2 (Nat.le_of_ble_eq_true rfl)) rfl rfl ?_
  refine z_cVV (as := [qR (p1 + 19)]) (st := []) (nl := 0) (ci := 6) d_N_copyFrom_97 lk_N_98 mk_Q_copyFrom rfl rfl (hI 19 _ rfl).1 rfl rfl rfl (s_Q_copyFrom (is_N_Q hI) (is_N_Q hp1) _) (fun q11 _ => ?_)
  refine z_aload_n d_N_copyFrom_100 rfl ?_
  refine z_gr (ci := 3) (j := 4) (d := 24) (o2 := (o + 24)) d_N_copyFrom_101 rfl fl_N_42 (hI 0 _ rfl).1 ((hI 0 _ rfl).2 (Nat.le_of_ble_eq_true rfl)) rfl rfl ?_
  refine z_aload_n d_N_copyFrom_104 rfl ?_
  refine z_gr (ci := 3) (j := 4) (d := 24) (o2 := (p1 + 24)) d_N_copyFrom_105 rfl fl_N_42 (hp1 0 _ rfl).1 ((hp1 0 _ rfl).2 (Nat.le_of_ble_eq_true rfl)) rfl rfl ?_
  refine z_cVV (as := [qR (p1 + 24)]) (st := []) (nl := 0) (ci := 7) d_N_copyFrom_108 lk_N_101 mk_R_copyFrom rfl rfl (hI 24 _ rfl).1 rfl rfl rfl (s_R_copyFrom (is_N_R hI) (is_N_R hp1) _) (fun q12 _ => ?_)
  refine z_aload_n d_N_copyFrom_111 rfl ?_
  refine z_gr (ci := 3) (j := 5) (d := 34) (o2 := (p1 + 34)) d_N_copyFrom_112 rfl fl_N_46 (hp1 0 _ rfl).1 ((hp1 0 _ rfl).2 (Nat.le_of_ble_eq_true rfl)) rfl rfl ?_
  refine z_ic0 d_N_copyFrom_115 ?_
  refine z_aload_n d_N_copyFrom_116 rfl ?_
  refine z_gr (ci := 3) (j := 5) (d := 34) (o2 := (o + 34)) d_N_copyFrom_117 rfl fl_N_46 (hI 0 _ rfl).1 ((hI 0 _ rfl).2 (Nat.le_of_ble_eq_true rfl)) rfl rfl ?_
  refine z_ic0 d_N_copyFrom_120 ?_
  refine z_bipush d_N_copyFrom_121 ⟨by decide, by decide⟩ ?_
  refine z_cp d_N_copyFrom_123 lk_N_104 (by decide) (hp1 34 _ rfl).1 (hI 34 _ rfl).1 rfl rfl (Nat.le_of_ble_eq_true rfl) (Nat.le_of_ble_eq_true rfl) (fun w13 => ?_)
  exact z_vret d_N_copyFrom_126 rfl rfl
/-! BubbleTorus$Net.adm.. -/
theorem d_N_admit_0 : decode m_N_admit.2.1 0 = .ok (.aload_n 0, 1) := by decide +kernel
theorem d_N_admit_1 : decode m_N_admit.2.1 1 = .ok (.getfield 12, 3) := by decide +kernel
theorem d_N_admit_4 : decode m_N_admit.2.1 4 = .ok (.iload_n 1, 1) := by decide +kernel
theorem d_N_admit_5 : decode m_N_admit.2.1 5 = .ok (.invokevirtual 110, 3) := by decide +kernel
theorem d_N_admit_8 : decode m_N_admit.2.1 8 = .ok (.ifCond .eq 19, 3) := by decide +kernel
theorem d_N_admit_11 : decode m_N_admit.2.1 11 = .ok (.aload_n 0, 1) := by decide +kernel
theorem d_N_admit_12 : decode m_N_admit.2.1 12 = .ok (.getfield 12, 3) := by decide +kernel
theorem d_N_admit_15 : decode m_N_admit.2.1 15 = .ok (.iload_n 2, 1) := by decide +kernel
theorem d_N_admit_16 : decode m_N_admit.2.1 16 = .ok (.invokevirtual 110, 3) := by decide +kernel
theorem d_N_admit_19 : decode m_N_admit.2.1 19 = .ok (.ifCond .eq 8, 3) := by decide +kernel
theorem d_N_admit_22 : decode m_N_admit.2.1 22 = .ok (.iload_n 1, 1) := by decide +kernel
theorem d_N_admit_23 : decode m_N_admit.2.1 23 = .ok (.iload_n 2, 1) := by decide +kernel
theorem d_N_admit_24 : decode m_N_admit.2.1 24 = .ok (.if_icmp .ne 5, 3) := by decide +kernel
theorem d_N_admit_27 : decode m_N_admit.2.1 27 = .ok (.iconst (-1), 1) := by decide +kernel
theorem d_N_admit_28 : decode m_N_admit.2.1 28 = .ok (.ireturn, 1) := by decide +kernel
theorem d_N_admit_29 : decode m_N_admit.2.1 29 = .ok (.iload_n 1, 1) := by decide +kernel
theorem d_N_admit_30 : decode m_N_admit.2.1 30 = .ok (.bipush 9, 2) := by decide +kernel
theorem d_N_admit_32 : decode m_N_admit.2.1 32 = .ok (.imul, 1) := by decide +kernel
theorem d_N_admit_33 : decode m_N_admit.2.1 33 = .ok (.istore_n 3, 1) := by decide +kernel
theorem d_N_admit_34 : decode m_N_admit.2.1 34 = .ok (.aload_n 0, 1) := by decide +kernel
theorem d_N_admit_35 : decode m_N_admit.2.1 35 = .ok (.getfield 21, 3) := by decide +kernel
theorem d_N_admit_38 : decode m_N_admit.2.1 38 = .ok (.getfield 114, 3) := by decide +kernel
theorem d_N_admit_41 : decode m_N_admit.2.1 41 = .ok (.sipush 250, 3) := by decide +kernel
theorem d_N_admit_44 : decode m_N_admit.2.1 44 = .ok (.if_icmp .ge 17, 3) := by decide +kernel
theorem d_N_admit_47 : decode m_N_admit.2.1 47 = .ok (.aload_n 0, 1) := by decide +kernel
theorem d_N_admit_48 : decode m_N_admit.2.1 48 = .ok (.getfield 28, 3) := by decide +kernel
theorem d_N_admit_51 : decode m_N_admit.2.1 51 = .ok (.getfield 115, 3) := by decide +kernel
theorem d_N_admit_54 : decode m_N_admit.2.1 54 = .ok (.iload_n 3, 1) := by decide +kernel
theorem d_N_admit_55 : decode m_N_admit.2.1 55 = .ok (.iaload, 1) := by decide +kernel
theorem d_N_admit_56 : decode m_N_admit.2.1 56 = .ok (.bipush 6, 2) := by decide +kernel
theorem d_N_admit_58 : decode m_N_admit.2.1 58 = .ok (.if_icmp .lt 5, 3) := by decide +kernel
theorem d_N_admit_61 : decode m_N_admit.2.1 61 = .ok (.iconst (-1), 1) := by decide +kernel
theorem d_N_admit_62 : decode m_N_admit.2.1 62 = .ok (.ireturn, 1) := by decide +kernel
theorem d_N_admit_63 : decode m_N_admit.2.1 63 = .ok (.aload_n 0, 1) := by decide +kernel
theorem d_N_admit_64 : decode m_N_admit.2.1 64 = .ok (.getfield 21, 3) := by decide +kernel
theorem d_N_admit_67 : decode m_N_admit.2.1 67 = .ok (.iload_n 1, 1) := by decide +kernel
theorem d_N_admit_68 : decode m_N_admit.2.1 68 = .ok (.iload_n 2, 1) := by decide +kernel
theorem d_N_admit_69 : decode m_N_admit.2.1 69 = .ok (.aload_n 0, 1) := by decide +kernel
theorem d_N_admit_70 : decode m_N_admit.2.1 70 = .ok (.getfield 63, 3) := by decide +kernel
theorem d_N_admit_73 : decode m_N_admit.2.1 73 = .ok (.invokevirtual 118, 3) := by decide +kernel
theorem d_N_admit_76 : decode m_N_admit.2.1 76 = .ok (.istore 4, 2) := by decide +kernel
theorem d_N_admit_78 : decode m_N_admit.2.1 78 = .ok (.aload_n 0, 1) := by decide +kernel
theorem d_N_admit_79 : decode m_N_admit.2.1 79 = .ok (.getfield 28, 3) := by decide +kernel
theorem d_N_admit_82 : decode m_N_admit.2.1 82 = .ok (.iload_n 3, 1) := by decide +kernel
theorem d_N_admit_83 : decode m_N_admit.2.1 83 = .ok (.iload 4, 2) := by decide +kernel
theorem d_N_admit_85 : decode m_N_admit.2.1 85 = .ok (.invokevirtual 122, 3) := by decide +kernel
theorem d_N_admit_88 : decode m_N_admit.2.1 88 = .ok (.iload 4, 2) := by decide +kernel
theorem d_N_admit_90 : decode m_N_admit.2.1 90 = .ok (.ireturn, 1) := by decide +kernel
def f_N_admit (o : Nat) (x1 : Int) (x2 : Int) (w : qMem) : Option (Int × qMem) :=
  (f_G_hasNode (o + 1) x1 w).bind fun q1 =>
  if q1.1 = 0 then
  some ((-1), q1.2)
  else
  (f_G_hasNode (o + 1) x2 q1.2).bind fun q3 =>
  if q3.1 = 0 then
  some ((-1), q3.2)
  else
  if x1 = x2 then
  some ((-1), q3.2)
  else
  if (q3.2 (o + 5) 13) < 250 then
  qld q3.2 (o + 20) 144 (w32 (x1 * 9)) fun v7 =>
  if v7 < 6 then
  (f_P_add (o + 5) x1 x2 (q3.2 o 10) q3.2).bind fun q9 =>
  (f_Q_put (o + 19) (w32 (x1 * 9)) q9.1 q9.2).bind fun q10 =>
  some (q9.1, q10)
  else
  some ((-1), q3.2)
  else
  some ((-1), q3.2)
set_option maxRecDepth 4000 in
theorem s_N_admit {ph : Nat} {o : Nat} (x1 : Int) (x2 : Int) (hI : qIs kLN ph o) (w : qMem) : qSim κI ph ph m_N_admit 0 [] [some (qR o), some (qI x1), some (qI x2), none, none] w (f_N_admit o x1 x2 w) := by
  unfold f_N_admit
  refine z_aload_n d_N_admit_0 rfl ?_
  refine z_gr (ci := 3) (j := 0) (d := 1) (o2 := (o + 1)) d_N_admit_1 rfl fl_N_12 (hI 0 _ rfl).1 ((hI 0 _ rfl).2 (Nat.le_of_ble_eq_true rfl)) rfl rfl ?_
  refine z_iload_n d_N_admit_4 rfl ?_
  refine z_cVI (as := [qI x1]) (st := []) (nl := 0) (ci := 0) d_N_admit_5 lk_N_110 mk_G_hasNode rfl rfl (hI 1 _ rfl).1 rfl rfl rfl (s_G_hasNode _ (is_N_G hI) _) (fun q1 _ hq1 => ?_)
  refine z_if_eq (tgt := 27) d_N_admit_8 rfl (fun c2 => ?_) (fun c2 => ?_)
  · refine z_icm1 d_N_admit_27 ?_
    exact z_iret d_N_admit_28 rfl rfl
  · refine z_aload_n d_N_admit_11 rfl ?_
    refine z_gr (ci := 3) (j := 0) (d := 1) (o2 := (o + 1)) d_N_admit_12 rfl fl_N_12 (hI 0 _ rfl).1 ((hI 0 _ rfl).2 (Nat.le_of_ble_eq_true rfl)) rfl rfl ?_
    refine z_iload_n d_N_admit_15 rfl ?_
    refine z_cVI (as := [qI x2]) (st := []) (nl := 0) (ci := 0) d_N_admit_16 lk_N_110 mk_G_hasNode rfl rfl (hI 1 _ rfl).1 rfl rfl rfl (s_G_hasNode _ (is_N_G hI) _) (fun q3 _ hq3 => ?_)
    refine z_if_eq (tgt := 27) d_N_admit_19 rfl (fun c4 => ?_) (fun c4 => ?_)
    · refine z_icm1 d_N_admit_27 ?_
      exact z_iret d_N_admit_28 rfl rfl
    · refine z_iload_n d_N_admit_22 rfl ?_
      refine z_iload_n d_N_admit_23 rfl ?_
      refine z_icmp_ne (tgt := 29) d_N_admit_24 rfl (fun c5 => ?_) (fun c5 => ?_)
      · refine z_icm1 d_N_admit_27 ?_
        exact z_iret d_N_admit_28 rfl rfl
      · refine z_iload_n d_N_admit_29 rfl ?_
        refine z_bipush d_N_admit_30 ⟨by decide, by decide⟩ ?_
        refine z_imul d_N_admit_32 ?_
        refine z_istore_n (pls' := [some (qR o), some (qI x1), some (qI x2), some (qI (w32 (x1 * 9))), none]) d_N_admit_33 (by decide) rfl rfl ?_
        refine z_aload_n d_N_admit_34 rfl ?_
        refine z_gr (ci := 3) (j := 1) (d := 5) (o2 := (o + 5)) d_N_admit_35 rfl fl_N_21 (hI 0 _ rfl).1 ((hI 0 _ rfl).2 (Nat.le_of_ble_eq_true rfl)) rfl rfl ?_
        refine z_gi (ci := 5) (j := 13) (ji := 13) d_N_admit_38 rfl fl_N_114 (hI 5 _ rfl).1 rfl rfl ?_
        refine z_sipush d_N_admit_41 ⟨by decide, by decide⟩ ?_
        refine z_icmp_ge (tgt := 61) d_N_admit_44 rfl (fun c6 => ?_) (fun c6 => ?_)
        · refine z_aload_n d_N_admit_47 rfl ?_
          refine z_gr (ci := 3) (j := 2) (d := 19) (o2 := (o + 19)) d_N_admit_48 rfl fl_N_28 (hI 0 _ rfl).1 ((hI 0 _ rfl).2 (Nat.le_of_ble_eq_true rfl)) rfl rfl ?_
          refine z_gr (ci := 6) (j := 0) (d := 1) (o2 := (o + 20)) d_N_admit_51 rfl fl_N_115 (hI 19 _ rfl).1 ((hI 19 _ rfl).2 (Nat.le_of_ble_eq_true rfl)) rfl rfl ?_
          refine z_iload_n d_N_admit_54 rfl ?_
          refine z_il d_N_admit_55 (hI 20 _ rfl).1 rfl (fun v7 => ?_)
          refine z_bipush d_N_admit_56 ⟨by decide, by decide⟩ ?_
          refine z_icmp_lt (tgt := 63) d_N_admit_58 rfl (fun c8 => ?_) (fun c8 => ?_)
          · refine z_aload_n d_N_admit_63 rfl ?_
            refine z_gr (ci := 3) (j := 1) (d := 5) (o2 := (o + 5)) d_N_admit_64 rfl fl_N_21 (hI 0 _ rfl).1 ((hI 0 _ rfl).2 (Nat.le_of_ble_eq_true rfl)) rfl rfl ?_
            refine z_iload_n d_N_admit_67 rfl ?_
            refine z_iload_n d_N_admit_68 rfl ?_
            refine z_aload_n d_N_admit_69 rfl ?_
            refine z_gi (ci := 3) (j := 10) (ji := 10) d_N_admit_70 rfl fl_N_63 (hI 0 _ rfl).1 rfl rfl ?_
            refine z_cVI (as := [qI x1, qI x2, qI (q3.2 o 10)]) (st := []) (nl := 1) (ci := 5) d_N_admit_73 lk_N_118 mk_P_add rfl rfl (hI 5 _ rfl).1 rfl rfl rfl (s_P_add _ _ _ (is_N_P hI) _) (fun q9 _ hq9 => ?_)
            refine z_istore (pls' := [some (qR o), some (qI x1), some (qI x2), some (qI (w32 (x1 * 9))), some (qI q9.1)]) d_N_admit_76 (by decide) rfl rfl ?_
            refine z_aload_n d_N_admit_78 rfl ?_
            refine z_gr (ci := 3) (j := 2) (d := 19) (o2 := (o + 19)) d_N_admit_79 rfl fl_N_28 (hI 0 _ rfl).1 ((hI 0 _ rfl).2 (Nat.le_of_ble_eq_true rfl)) rfl rfl ?_
            refine z_iload_n d_N_admit_82 rfl ?_
            refine z_iload d_N_admit_83 rfl ?_
            refine z_cVV (as := [qI (w32 (x1 * 9)), qI q9.1]) (st := []) (nl := 0) (ci := 6) d_N_admit_85 lk_N_122 mk_Q_put rfl rfl (hI 19 _ rfl).1 rfl rfl rfl (s_Q_put _ _ (is_N_Q hI) _) (fun q10 _ => ?_)
            refine z_iload d_N_admit_88 rfl ?_
            exact z_iret d_N_admit_90 rfl rfl
          · refine z_icm1 d_N_admit_61 ?_
            exact z_iret d_N_admit_62 rfl rfl
        · refine z_icm1 d_N_admit_61 ?_
          exact z_iret d_N_admit_62 rfl rfl
/-! BubbleTorus$Net.admitOrLose -/
theorem d_N_admitOrLose_0 : decode m_N_admitOrLose.2.1 0 = .ok (.aload_n 0, 1) := by decide +kernel
theorem d_N_admitOrLose_1 : decode m_N_admitOrLose.2.1 1 = .ok (.iload_n 1, 1) := by decide +kernel
theorem d_N_admitOrLose_2 : decode m_N_admitOrLose.2.1 2 = .ok (.iload_n 2, 1) := by decide +kernel
theorem d_N_admitOrLose_3 : decode m_N_admitOrLose.2.1 3 = .ok (.invokevirtual 126, 3) := by decide +kernel
theorem d_N_admitOrLose_6 : decode m_N_admitOrLose.2.1 6 = .ok (.iconst (-1), 1) := by decide +kernel
theorem d_N_admitOrLose_7 : decode m_N_admitOrLose.2.1 7 = .ok (.if_icmp .eq 5, 3) := by decide +kernel
theorem d_N_admitOrLose_10 : decode m_N_admitOrLose.2.1 10 = .ok (.iconst 1, 1) := by decide +kernel
theorem d_N_admitOrLose_11 : decode m_N_admitOrLose.2.1 11 = .ok (.ireturn, 1) := by decide +kernel
theorem d_N_admitOrLose_12 : decode m_N_admitOrLose.2.1 12 = .ok (.aload_n 0, 1) := by decide +kernel
theorem d_N_admitOrLose_13 : decode m_N_admitOrLose.2.1 13 = .ok (.dup, 1) := by decide +kernel
theorem d_N_admitOrLose_14 : decode m_N_admitOrLose.2.1 14 = .ok (.getfield 69, 3) := by decide +kernel
theorem d_N_admitOrLose_17 : decode m_N_admitOrLose.2.1 17 = .ok (.iconst 1, 1) := by decide +kernel
theorem d_N_admitOrLose_18 : decode m_N_admitOrLose.2.1 18 = .ok (.iadd, 1) := by decide +kernel
theorem d_N_admitOrLose_19 : decode m_N_admitOrLose.2.1 19 = .ok (.putfield 69, 3) := by decide +kernel
theorem d_N_admitOrLose_22 : decode m_N_admitOrLose.2.1 22 = .ok (.iconst 0, 1) := by decide +kernel
theorem d_N_admitOrLose_23 : decode m_N_admitOrLose.2.1 23 = .ok (.ireturn, 1) := by decide +kernel
def f_N_admitOrLose (o : Nat) (x1 : Int) (x2 : Int) (w : qMem) : Option (Int × qMem) :=
  (f_N_admit o x1 x2 w).bind fun q1 =>
  if q1.1 = (-1) then
  qlt (qud q1.2 o 12 (w32 ((q1.2 o 12) + 1))) fun w3 =>
  some (0, w3)
  else
  some (1, q1.2)
set_option maxRecDepth 4000 in
theorem s_N_admitOrLose {ph : Nat} {o : Nat} (x1 : Int) (x2 : Int) (hI : qIs kLN ph o) (w : qMem) : qSim κI ph ph m_N_admitOrLose 0 [] [some (qR o), some (qI x1), some (qI x2)] w (f_N_admitOrLose o x1 x2 w) := by
  unfold f_N_admitOrLose
  refine z_aload_n d_N_admitOrLose_0 rfl ?_
  refine z_iload_n d_N_admitOrLose_1 rfl ?_
  refine z_iload_n d_N_admitOrLose_2 rfl ?_
  refine z_cVI (as := [qI x1, qI x2]) (st := []) (nl := 2) (ci := 3) d_N_admitOrLose_3 lk_N_126 mk_N_admit rfl rfl (hI 0 _ rfl).1 rfl rfl rfl (s_N_admit _ _ hI _) (fun q1 _ hq1 => ?_)
  refine z_icm1 d_N_admitOrLose_6 ?_
  refine z_icmp_eq (tgt := 12) d_N_admitOrLose_7 rfl (fun c2 => ?_) (fun c2 => ?_)
  · refine z_aload_n d_N_admitOrLose_12 rfl ?_
    refine z_dup d_N_admitOrLose_13 rfl ?_
    refine z_gi (ci := 3) (j := 12) (ji := 12) d_N_admitOrLose_14 rfl fl_N_69 (hI 0 _ rfl).1 rfl rfl ?_
    refine z_ic1 d_N_admitOrLose_17 ?_
    refine z_iadd d_N_admitOrLose_18 ?_
    refine z_pi (ci := 3) (j := 12) (ji := 12) d_N_admitOrLose_19 rfl fl_N_69 (hI 0 _ rfl).1 rfl rfl rfl rfl (fun w3 => ?_)
    refine z_ic0 d_N_admitOrLose_22 ?_
    exact z_iret d_N_admitOrLose_23 rfl rfl
  · refine z_ic1 d_N_admitOrLose_10 ?_
    exact z_iret d_N_admitOrLose_11 rfl rfl
/-! BubbleTorus$Net.deliverFirsts -/
theorem d_N_deliverFirsts_0 : decode m_N_deliverFirsts.2.1 0 = .ok (.iconst 0, 1) := by decide +kernel
theorem d_N_deliverFirsts_1 : decode m_N_deliverFirsts.2.1 1 = .ok (.istore_n 1, 1) := by decide +kernel
theorem d_N_deliverFirsts_2 : decode m_N_deliverFirsts.2.1 2 = .ok (.iconst 0, 1) := by decide +kernel
theorem d_N_deliverFirsts_3 : decode m_N_deliverFirsts.2.1 3 = .ok (.istore_n 2, 1) := by decide +kernel
theorem d_N_deliverFirsts_4 : decode m_N_deliverFirsts.2.1 4 = .ok (.iload_n 2, 1) := by decide +kernel
theorem d_N_deliverFirsts_5 : decode m_N_deliverFirsts.2.1 5 = .ok (.aload_n 0, 1) := by decide +kernel
theorem d_N_deliverFirsts_6 : decode m_N_deliverFirsts.2.1 6 = .ok (.getfield 12, 3) := by decide +kernel
theorem d_N_deliverFirsts_9 : decode m_N_deliverFirsts.2.1 9 = .ok (.getfield 137, 3) := by decide +kernel
theorem d_N_deliverFirsts_12 : decode m_N_deliverFirsts.2.1 12 = .ok (.if_icmp .ge 87, 3) := by decide +kernel
theorem d_N_deliverFirsts_15 : decode m_N_deliverFirsts.2.1 15 = .ok (.iconst 1, 1) := by decide +kernel
theorem d_N_deliverFirsts_16 : decode m_N_deliverFirsts.2.1 16 = .ok (.istore_n 3, 1) := by decide +kernel
theorem d_N_deliverFirsts_17 : decode m_N_deliverFirsts.2.1 17 = .ok (.iload_n 3, 1) := by decide +kernel
theorem d_N_deliverFirsts_18 : decode m_N_deliverFirsts.2.1 18 = .ok (.bipush 9, 2) := by decide +kernel
theorem d_N_deliverFirsts_20 : decode m_N_deliverFirsts.2.1 20 = .ok (.if_icmp .ge 73, 3) := by decide +kernel
theorem d_N_deliverFirsts_23 : decode m_N_deliverFirsts.2.1 23 = .ok (.aload_n 0, 1) := by decide +kernel
theorem d_N_deliverFirsts_24 : decode m_N_deliverFirsts.2.1 24 = .ok (.getfield 28, 3) := by decide +kernel
theorem d_N_deliverFirsts_27 : decode m_N_deliverFirsts.2.1 27 = .ok (.iload_n 2, 1) := by decide +kernel
theorem d_N_deliverFirsts_28 : decode m_N_deliverFirsts.2.1 28 = .ok (.bipush 9, 2) := by decide +kernel
theorem d_N_deliverFirsts_30 : decode m_N_deliverFirsts.2.1 30 = .ok (.imul, 1) := by decide +kernel
theorem d_N_deliverFirsts_31 : decode m_N_deliverFirsts.2.1 31 = .ok (.iload_n 3, 1) := by decide +kernel
theorem d_N_deliverFirsts_32 : decode m_N_deliverFirsts.2.1 32 = .ok (.iadd, 1) := by decide +kernel
theorem d_N_deliverFirsts_33 : decode m_N_deliverFirsts.2.1 33 = .ok (.invokevirtual 156, 3) := by decide +kernel
theorem d_N_deliverFirsts_36 : decode m_N_deliverFirsts.2.1 36 = .ok (.istore 4, 2) := by decide +kernel
theorem d_N_deliverFirsts_38 : decode m_N_deliverFirsts.2.1 38 = .ok (.iload 4, 2) := by decide +kernel
theorem d_N_deliverFirsts_40 : decode m_N_deliverFirsts.2.1 40 = .ok (.iconst (-1), 1) := by decide +kernel
theorem d_N_deliverFirsts_41 : decode m_N_deliverFirsts.2.1 41 = .ok (.if_icmp .eq 46, 3) := by decide +kernel
theorem d_N_deliverFirsts_44 : decode m_N_deliverFirsts.2.1 44 = .ok (.aload_n 0, 1) := by decide +kernel
theorem d_N_deliverFirsts_45 : decode m_N_deliverFirsts.2.1 45 = .ok (.getfield 21, 3) := by decide +kernel
theorem d_N_deliverFirsts_48 : decode m_N_deliverFirsts.2.1 48 = .ok (.getfield 160, 3) := by decide +kernel
theorem d_N_deliverFirsts_51 : decode m_N_deliverFirsts.2.1 51 = .ok (.iload 4, 2) := by decide +kernel
theorem d_N_deliverFirsts_53 : decode m_N_deliverFirsts.2.1 53 = .ok (.iaload, 1) := by decide +kernel
theorem d_N_deliverFirsts_54 : decode m_N_deliverFirsts.2.1 54 = .ok (.iload_n 2, 1) := by decide +kernel
theorem d_N_deliverFirsts_55 : decode m_N_deliverFirsts.2.1 55 = .ok (.if_icmp .ne 32, 3) := by decide +kernel
theorem d_N_deliverFirsts_58 : decode m_N_deliverFirsts.2.1 58 = .ok (.aload_n 0, 1) := by decide +kernel
theorem d_N_deliverFirsts_59 : decode m_N_deliverFirsts.2.1 59 = .ok (.getfield 28, 3) := by decide +kernel
theorem d_N_deliverFirsts_62 : decode m_N_deliverFirsts.2.1 62 = .ok (.iload_n 2, 1) := by decide +kernel
theorem d_N_deliverFirsts_63 : decode m_N_deliverFirsts.2.1 63 = .ok (.bipush 9, 2) := by decide +kernel
theorem d_N_deliverFirsts_65 : decode m_N_deliverFirsts.2.1 65 = .ok (.imul, 1) := by decide +kernel
theorem d_N_deliverFirsts_66 : decode m_N_deliverFirsts.2.1 66 = .ok (.iload_n 3, 1) := by decide +kernel
theorem d_N_deliverFirsts_67 : decode m_N_deliverFirsts.2.1 67 = .ok (.iadd, 1) := by decide +kernel
theorem d_N_deliverFirsts_68 : decode m_N_deliverFirsts.2.1 68 = .ok (.invokevirtual 163, 3) := by decide +kernel
theorem d_N_deliverFirsts_71 : decode m_N_deliverFirsts.2.1 71 = .ok (.aload_n 0, 1) := by decide +kernel
theorem d_N_deliverFirsts_72 : decode m_N_deliverFirsts.2.1 72 = .ok (.getfield 21, 3) := by decide +kernel
theorem d_N_deliverFirsts_75 : decode m_N_deliverFirsts.2.1 75 = .ok (.iload 4, 2) := by decide +kernel
theorem d_N_deliverFirsts_77 : decode m_N_deliverFirsts.2.1 77 = .ok (.aload_n 0, 1) := by decide +kernel
theorem d_N_deliverFirsts_78 : decode m_N_deliverFirsts.2.1 78 = .ok (.getfield 63, 3) := by decide +kernel
theorem d_N_deliverFirsts_81 : decode m_N_deliverFirsts.2.1 81 = .ok (.invokevirtual 167, 3) := by decide +kernel
theorem d_N_deliverFirsts_84 : decode m_N_deliverFirsts.2.1 84 = .ok (.iinc 1 1, 3) := by decide +kernel
theorem d_N_deliverFirsts_87 : decode m_N_deliverFirsts.2.1 87 = .ok (.iinc 3 1, 3) := by decide +kernel
theorem d_N_deliverFirsts_90 : decode m_N_deliverFirsts.2.1 90 = .ok (.goto (-73), 3) := by decide +kernel
theorem d_N_deliverFirsts_93 : decode m_N_deliverFirsts.2.1 93 = .ok (.iinc 2 1, 3) := by decide +kernel
theorem d_N_deliverFirsts_96 : decode m_N_deliverFirsts.2.1 96 = .ok (.goto (-92), 3) := by decide +kernel
theorem d_N_deliverFirsts_99 : decode m_N_deliverFirsts.2.1 99 = .ok (.iload_n 1, 1) := by decide +kernel
theorem d_N_deliverFirsts_100 : decode m_N_deliverFirsts.2.1 100 = .ok (.ireturn, 1) := by decide +kernel
def f_N_deliverFirsts_17 (o : Nat) (r4 : Int → Int → qMem → Option (Int × qMem)) : Nat → Int → Int → Int → qMem → Option (Int × qMem)
  | 0, _, _, _, _ => none
  | n + 1, x1, x2, x3, w =>
    if x3 < 9 then
    (f_Q_first (o + 19) (w32 ((w32 (x2 * 9)) + x3)) w).bind fun q2 =>
    if q2.1 = (-1) then
    (f_N_deliverFirsts_17 o r4 n) x1 x2 (w32 (x3 + 1)) q2.2
    else
    qld q2.2 (o + 7) 250 q2.1 fun v4 =>
    if v4 = x2 then
    (f_Q_dropFirst (o + 19) (w32 ((w32 (x2 * 9)) + x3)) q2.2).bind fun q6 =>
    (f_P_noteDelivery (o + 5) q2.1 (q6 o 10) q6).bind fun q7 =>
    (f_N_deliverFirsts_17 o r4 n) (w32 (x1 + 1)) x2 (w32 (x3 + 1)) q7
    else
    (f_N_deliverFirsts_17 o r4 n) x1 x2 (w32 (x3 + 1)) q2.2
    else
    r4 x1 (w32 (x2 + 1)) w
set_option maxRecDepth 4000 in
theorem s_N_deliverFirsts_17 {ph : Nat} {o : Nat} (hI : qIs kLN ph o) {r4 : Int → Int → qMem → Option (Int × qMem)} (hr4 : ∀ x1 x2 w, qSim κI ph ph m_N_deliverFirsts 4 [] [some (qR o), some (qI x1), some (qI x2), none, none] w (r4 x1 x2 w)) : ∀ (n : Nat), ∀ (x1 x2 x3 : Int) (w : qMem), qSim κI ph ph m_N_deliverFirsts 17 [] [some (qR o), some (qI x1), some (qI x2), some (qI x3), none] w (f_N_deliverFirsts_17 o r4 n x1 x2 x3 w) := by
  intro n
  induction n with
  | zero => intro x1 x2 x3 w; exact z_none
  | succ n ih =>
    intro x1 x2 x3 w
    rw [f_N_deliverFirsts_17]
    refine z_iload_n d_N_deliverFirsts_17 rfl ?_
    refine z_bipush d_N_deliverFirsts_18 ⟨by decide, by decide⟩ ?_
    refine z_icmp_ge (tgt := 93) d_N_deliverFirsts_20 rfl (fun c1 => ?_) (fun c1 => ?_)
    · refine z_aload_n d_N_deliverFirsts_23 rfl ?_
      refine z_gr (ci := 3) (j := 2) (d := 19) (o2 := (o + 19)) d_N_deliverFirsts_24 rfl fl_N_28 (hI 0 _ rfl).1 ((hI 0 _ rfl).2 (Nat.le_of_ble_eq_true rfl)) rfl rfl ?_
      refine z_iload_n d_N_deliverFirsts_27 rfl ?_
      refine z_bipush d_N_deliverFirsts_28 ⟨by decide, by decide⟩ ?_
      refine z_imul d_N_deliverFirsts_30 ?_
      refine z_iload_n d_N_deliverFirsts_31 rfl ?_
      refine z_iadd d_N_deliverFirsts_32 ?_
      refine z_cVI (as := [qI (w32 ((w32 (x2 * 9)) + x3))]) (st := []) (nl := 0) (ci := 6) d_N_deliverFirsts_33 lk_N_156 mk_Q_first rfl rfl (hI 19 _ rfl).1 rfl rfl rfl (s_Q_first _ (is_N_Q hI) _) (fun q2 _ hq2 => ?_)
      refine z_istore (pls' := [some (qR o), some (qI x1), some (qI x2), some (qI x3), some (qI q2.1)]) d_N_deliverFirsts_36 (by decide) rfl rfl ?_
      refine z_iload d_N_deliverFirsts_38 rfl ?_
      refine z_icm1 d_N_deliverFirsts_40 ?_
      refine z_icmp_eq (tgt := 87) d_N_deliverFirsts_41 rfl (fun c3 => ?_) (fun c3 => ?_)
      · refine z_iinc (pls' := [some (qR o), some (qI x1), some (qI x2), some (qI (w32 (x3 + 1))), some (qI q2.1)]) d_N_deliverFirsts_87 (by decide) rfl rfl rfl ?_
        refine z_goto (tgt := 17) d_N_deliverFirsts_90 rfl ?_
        refine z_mask [true, true, true, true, false] ?_
        exact ih _ _ _ _
      · refine z_aload_n d_N_deliverFirsts_44 rfl ?_
        refine z_gr (ci := 3) (j := 1) (d := 5) (o2 := (o + 5)) d_N_deliverFirsts_45 rfl fl_N_21 (hI 0 _ rfl).1 ((hI 0 _ rfl).2 (Nat.le_of_ble_eq_true rfl)) rfl rfl ?_
        refine z_gr (ci := 5) (j := 1) (d := 2) (o2 := (o + 7)) d_N_deliverFirsts_48 rfl fl_N_160 (hI 5 _ rfl).1 ((hI 5 _ rfl).2 (Nat.le_of_ble_eq_true rfl)) rfl rfl ?_
        refine z_iload d_N_deliverFirsts_51 rfl ?_
        refine z_il d_N_deliverFirsts_53 (hI 7 _ rfl).1 rfl (fun v4 => ?_)
        refine z_iload_n d_N_deliverFirsts_54 rfl ?_
        refine z_icmp_ne (tgt := 87) d_N_deliverFirsts_55 rfl (fun c5 => ?_) (fun c5 => ?_)
        · refine z_aload_n d_N_deliverFirsts_58 rfl ?_
          refine z_gr (ci := 3) (j := 2) (d := 19) (o2 := (o + 19)) d_N_deliverFirsts_59 rfl fl_N_28 (hI 0 _ rfl).1 ((hI 0 _ rfl).2 (Nat.le_of_ble_eq_true rfl)) rfl rfl ?_
          refine z_iload_n d_N_deliverFirsts_62 rfl ?_
          refine z_bipush d_N_deliverFirsts_63 ⟨by decide, by decide⟩ ?_
          refine z_imul d_N_deliverFirsts_65 ?_
          refine z_iload_n d_N_deliverFirsts_66 rfl ?_
          refine z_iadd d_N_deliverFirsts_67 ?_
          refine z_cVV (as := [qI (w32 ((w32 (x2 * 9)) + x3))]) (st := []) (nl := 2) (ci := 6) d_N_deliverFirsts_68 lk_N_163 mk_Q_dropFirst rfl rfl (hI 19 _ rfl).1 rfl rfl rfl (s_Q_dropFirst _ (is_N_Q hI) _) (fun q6 _ => ?_)
          refine z_aload_n d_N_deliverFirsts_71 rfl ?_
          refine z_gr (ci := 3) (j := 1) (d := 5) (o2 := (o + 5)) d_N_deliverFirsts_72 rfl fl_N_21 (hI 0 _ rfl).1 ((hI 0 _ rfl).2 (Nat.le_of_ble_eq_true rfl)) rfl rfl ?_
          refine z_iload d_N_deliverFirsts_75 rfl ?_
          refine z_aload_n d_N_deliverFirsts_77 rfl ?_
          refine z_gi (ci := 3) (j := 10) (ji := 10) d_N_deliverFirsts_78 rfl fl_N_63 (hI 0 _ rfl).1 rfl rfl ?_
          refine z_cVV (as := [qI q2.1, qI (q6 o 10)]) (st := []) (nl := 0) (ci := 5) d_N_deliverFirsts_81 lk_N_167 mk_P_noteDelivery rfl rfl (hI 5 _ rfl).1 rfl rfl rfl (s_P_noteDelivery _ _ (is_N_P hI) _) (fun q7 _ => ?_)
          refine z_iinc (pls' := [some (qR o), some (qI (w32 (x1 + 1))), some (qI x2), some (qI x3), some (qI q2.1)]) d_N_deliverFirsts_84 (by decide) rfl rfl rfl ?_
          refine z_iinc (pls' := [some (qR o), some (qI (w32 (x1 + 1))), some (qI x2), some (qI (w32 (x3 + 1))), some (qI q2.1)]) d_N_deliverFirsts_87 (by decide) rfl rfl rfl ?_
          refine z_goto (tgt := 17) d_N_deliverFirsts_90 rfl ?_
          refine z_mask [true, true, true, true, false] ?_
          exact ih _ _ _ _
        · refine z_iinc (pls' := [some (qR o), some (qI x1), some (qI x2), some (qI (w32 (x3 + 1))), some (qI q2.1)]) d_N_deliverFirsts_87 (by decide) rfl rfl rfl ?_
          refine z_goto (tgt := 17) d_N_deliverFirsts_90 rfl ?_
          refine z_mask [true, true, true, true, false] ?_
          exact ih _ _ _ _
    · refine z_iinc (pls' := [some (qR o), some (qI x1), some (qI (w32 (x2 + 1))), some (qI x3), none]) d_N_deliverFirsts_93 (by decide) rfl rfl rfl ?_
      refine z_goto (tgt := 4) d_N_deliverFirsts_96 rfl ?_
      refine z_mask [true, true, true, false, false] ?_
      exact hr4 _ _ _
def f_N_deliverFirsts_4 (o : Nat) : Nat → Int → Int → qMem → Option (Int × qMem)
  | 0, _, _, _ => none
  | n + 1, x1, x2, w =>
    if x2 < (w (o + 1) 5) then
    f_N_deliverFirsts_17 o (f_N_deliverFirsts_4 o n) qFU x1 x2 1 w
    else
    some (x1, w)
set_option maxRecDepth 4000 in
theorem s_N_deliverFirsts_4 {ph : Nat} {o : Nat} (hI : qIs kLN ph o) : ∀ (n : Nat), ∀ (x1 x2 : Int) (w : qMem), qSim κI ph ph m_N_deliverFirsts 4 [] [some (qR o), some (qI x1), some (qI x2), none, none] w (f_N_deliverFirsts_4 o n x1 x2 w) := by
  intro n
  induction n with
  | zero => intro x1 x2 w; exact z_none
  | succ n ih =>
    intro x1 x2 w
    rw [f_N_deliverFirsts_4]
    refine z_iload_n d_N_deliverFirsts_4 rfl ?_
    refine z_aload_n d_N_deliverFirsts_5 rfl ?_
    refine z_gr (ci := 3) (j := 0) (d := 1) (o2 := (o + 1)) d_N_deliverFirsts_6 rfl fl_N_12 (hI 0 _ rfl).1 ((hI 0 _ rfl).2 (Nat.le_of_ble_eq_true rfl)) rfl rfl ?_
    refine z_gi (ci := 0) (j := 5) (ji := 5) d_N_deliverFirsts_9 rfl fl_N_137 (hI 1 _ rfl).1 rfl rfl ?_
    refine z_icmp_ge (tgt := 99) d_N_deliverFirsts_12 rfl (fun c8 => ?_) (fun c8 => ?_)
    · refine z_ic1 d_N_deliverFirsts_15 ?_
      refine z_istore_n (pls' := [some (qR o), some (qI x1), some (qI x2), some (qI 1), none]) d_N_deliverFirsts_16 (by decide) rfl rfl ?_
      refine z_mask [true, true, true, true, false] ?_
      exact s_N_deliverFirsts_17 hI ih _ _ _ _ _
    · refine z_iload_n d_N_deliverFirsts_99 rfl ?_
      exact z_iret d_N_deliverFirsts_100 rfl rfl
def f_N_deliverFirsts (o : Nat) (w : qMem) : Option (Int × qMem) :=
  f_N_deliverFirsts_4 o qFU 0 0 w
set_option maxRecDepth 4000 in
theorem s_N_deliverFirsts {ph : Nat} {o : Nat} (hI : qIs kLN ph o) (w : qMem) : qSim κI ph ph m_N_deliverFirsts 0 [] [some (qR o), none, none, none, none] w (f_N_deliverFirsts o w) := by
  unfold f_N_deliverFirsts
  refine z_ic0 d_N_deliverFirsts_0 ?_
  refine z_istore_n (pls' := [some (qR o), some (qI 0), none, none, none]) d_N_deliverFirsts_1 (by decide) rfl rfl ?_
  refine z_ic0 d_N_deliverFirsts_2 ?_
  refine z_istore_n (pls' := [some (qR o), some (qI 0), some (qI 0), none, none]) d_N_deliverFirsts_3 (by decide) rfl rfl ?_
  refine z_mask [true, true, true, false, false] ?_
  exact s_N_deliverFirsts_4 hI _ _ _ _
/-! BubbleTorus$Net.isProfitable -/
theorem d_N_isProfitable_0 : decode m_N_isProfitable.2.1 0 = .ok (.aload_n 0, 1) := by decide +kernel
theorem d_N_isProfitable_1 : decode m_N_isProfitable.2.1 1 = .ok (.getfield 28, 3) := by decide +kernel
theorem d_N_isProfitable_4 : decode m_N_isProfitable.2.1 4 = .ok (.iload_n 1, 1) := by decide +kernel
theorem d_N_isProfitable_5 : decode m_N_isProfitable.2.1 5 = .ok (.bipush 9, 2) := by decide +kernel
theorem d_N_isProfitable_7 : decode m_N_isProfitable.2.1 7 = .ok (.imul, 1) := by decide +kernel
theorem d_N_isProfitable_8 : decode m_N_isProfitable.2.1 8 = .ok (.iload_n 2, 1) := by decide +kernel
theorem d_N_isProfitable_9 : decode m_N_isProfitable.2.1 9 = .ok (.iadd, 1) := by decide +kernel
theorem d_N_isProfitable_10 : decode m_N_isProfitable.2.1 10 = .ok (.invokevirtual 156, 3) := by decide +kernel
theorem d_N_isProfitable_13 : decode m_N_isProfitable.2.1 13 = .ok (.istore 4, 2) := by decide +kernel
theorem d_N_isProfitable_15 : decode m_N_isProfitable.2.1 15 = .ok (.iload 4, 2) := by decide +kernel
theorem d_N_isProfitable_17 : decode m_N_isProfitable.2.1 17 = .ok (.iconst (-1), 1) := by decide +kernel
theorem d_N_isProfitable_18 : decode m_N_isProfitable.2.1 18 = .ok (.if_icmp .eq 33, 3) := by decide +kernel
theorem d_N_isProfitable_21 : decode m_N_isProfitable.2.1 21 = .ok (.aload_n 0, 1) := by decide +kernel
theorem d_N_isProfitable_22 : decode m_N_isProfitable.2.1 22 = .ok (.getfield 12, 3) := by decide +kernel
theorem d_N_isProfitable_25 : decode m_N_isProfitable.2.1 25 = .ok (.iload_n 1, 1) := by decide +kernel
theorem d_N_isProfitable_26 : decode m_N_isProfitable.2.1 26 = .ok (.aload_n 0, 1) := by decide +kernel
theorem d_N_isProfitable_27 : decode m_N_isProfitable.2.1 27 = .ok (.getfield 21, 3) := by decide +kernel
theorem d_N_isProfitable_30 : decode m_N_isProfitable.2.1 30 = .ok (.getfield 160, 3) := by decide +kernel
theorem d_N_isProfitable_33 : decode m_N_isProfitable.2.1 33 = .ok (.iload 4, 2) := by decide +kernel
theorem d_N_isProfitable_35 : decode m_N_isProfitable.2.1 35 = .ok (.iaload, 1) := by decide +kernel
theorem d_N_isProfitable_36 : decode m_N_isProfitable.2.1 36 = .ok (.invokevirtual 196, 3) := by decide +kernel
theorem d_N_isProfitable_39 : decode m_N_isProfitable.2.1 39 = .ok (.iload_n 3, 1) := by decide +kernel
theorem d_N_isProfitable_40 : decode m_N_isProfitable.2.1 40 = .ok (.ishr, 1) := by decide +kernel
theorem d_N_isProfitable_41 : decode m_N_isProfitable.2.1 41 = .ok (.iconst 1, 1) := by decide +kernel
theorem d_N_isProfitable_42 : decode m_N_isProfitable.2.1 42 = .ok (.iand, 1) := by decide +kernel
theorem d_N_isProfitable_43 : decode m_N_isProfitable.2.1 43 = .ok (.iconst 1, 1) := by decide +kernel
theorem d_N_isProfitable_44 : decode m_N_isProfitable.2.1 44 = .ok (.if_icmp .ne 7, 3) := by decide +kernel
theorem d_N_isProfitable_47 : decode m_N_isProfitable.2.1 47 = .ok (.iconst 1, 1) := by decide +kernel
theorem d_N_isProfitable_48 : decode m_N_isProfitable.2.1 48 = .ok (.goto 4, 3) := by decide +kernel
theorem d_N_isProfitable_51 : decode m_N_isProfitable.2.1 51 = .ok (.iconst 0, 1) := by decide +kernel
theorem d_N_isProfitable_52 : decode m_N_isProfitable.2.1 52 = .ok (.ireturn, 1) := by decide +kernel
def f_N_isProfitable (o : Nat) (x1 : Int) (x2 : Int) (x3 : Int) (w : qMem) : Option (Int × qMem) :=
  (f_Q_first (o + 19) (w32 ((w32 (x1 * 9)) + x2)) w).bind fun q1 =>
  if q1.1 = (-1) then
  some (0, q1.2)
  else
  qld q1.2 (o + 7) 250 q1.1 fun v3 =>
  (f_G_nearerBy (o + 1) x1 v3 q1.2).bind fun q4 =>
  if (jand (jshr q4.1 x3) 1) = 1 then
  some (1, q4.2)
  else
  some (0, q4.2)
set_option maxRecDepth 4000 in
theorem s_N_isProfitable {ph : Nat} {o : Nat} (x1 : Int) (x2 : Int) (x3 : Int) (hI : qIs kLN ph o) (w : qMem) : qSim κI ph ph m_N_isProfitable 0 [] [some (qR o), some (qI x1), some (qI x2), some (qI x3), none] w (f_N_isProfitable o x1 x2 x3 w) := by
  unfold f_N_isProfitable
  refine z_aload_n d_N_isProfitable_0 rfl ?_
  refine z_gr (ci := 3) (j := 2) (d := 19) (o2 := (o + 19)) d_N_isProfitable_1 rfl fl_N_28 (hI 0 _ rfl).1 ((hI 0 _ rfl).2 (Nat.le_of_ble_eq_true rfl)) rfl rfl ?_
  refine z_iload_n d_N_isProfitable_4 rfl ?_
  refine z_bipush d_N_isProfitable_5 ⟨by decide, by decide⟩ ?_
  refine z_imul d_N_isProfitable_7 ?_
  refine z_iload_n d_N_isProfitable_8 rfl ?_
  refine z_iadd d_N_isProfitable_9 ?_
  refine z_cVI (as := [qI (w32 ((w32 (x1 * 9)) + x2))]) (st := []) (nl := 0) (ci := 6) d_N_isProfitable_10 lk_N_156 mk_Q_first rfl rfl (hI 19 _ rfl).1 rfl rfl rfl (s_Q_first _ (is_N_Q hI) _) (fun q1 _ hq1 => ?_)
  refine z_istore (pls' := [some (qR o), some (qI x1), some (qI x2), some (qI x3), some (qI q1.1)]) d_N_isProfitable_13 (by decide) rfl rfl ?_
  refine z_iload d_N_isProfitable_15 rfl ?_
  refine z_icm1 d_N_isProfitable_17 ?_
  refine z_icmp_eq (tgt := 51) d_N_isProfitable_18 rfl (fun c2 => ?_) (fun c2 => ?_)
  · refine z_ic0 d_N_isProfitable_51 ?_
    exact z_zret d_N_isProfitable_52 rfl rfl (Or.inl rfl)
  · refine z_aload_n d_N_isProfitable_21 rfl ?_
    refine z_gr (ci := 3) (j := 0) (d := 1) (o2 := (o + 1)) d_N_isProfitable_22 rfl fl_N_12 (hI 0 _ rfl).1 ((hI 0 _ rfl).2 (Nat.le_of_ble_eq_true rfl)) rfl rfl ?_
    refine z_iload_n d_N_isProfitable_25 rfl ?_
    refine z_aload_n d_N_isProfitable_26 rfl ?_
    refine z_gr (ci := 3) (j := 1) (d := 5) (o2 := (o + 5)) d_N_isProfitable_27 rfl fl_N_21 (hI 0 _ rfl).1 ((hI 0 _ rfl).2 (Nat.le_of_ble_eq_true rfl)) rfl rfl ?_
    refine z_gr (ci := 5) (j := 1) (d := 2) (o2 := (o + 7)) d_N_isProfitable_30 rfl fl_N_160 (hI 5 _ rfl).1 ((hI 5 _ rfl).2 (Nat.le_of_ble_eq_true rfl)) rfl rfl ?_
    refine z_iload d_N_isProfitable_33 rfl ?_
    refine z_il d_N_isProfitable_35 (hI 7 _ rfl).1 rfl (fun v3 => ?_)
    refine z_cVI (as := [qI x1, qI v3]) (st := []) (nl := 0) (ci := 0) d_N_isProfitable_36 lk_N_196 mk_G_nearerBy rfl rfl (hI 1 _ rfl).1 rfl rfl rfl (s_G_nearerBy _ _ (is_N_G hI) _) (fun q4 _ hq4 => ?_)
    refine z_iload_n d_N_isProfitable_39 rfl ?_
    refine z_ishr d_N_isProfitable_40 ?_
    refine z_ic1 d_N_isProfitable_41 ?_
    refine z_iand d_N_isProfitable_42 ?_
    refine z_ic1 d_N_isProfitable_43 ?_
    refine z_icmp_ne (tgt := 51) d_N_isProfitable_44 rfl (fun c5 => ?_) (fun c5 => ?_)
    · refine z_ic1 d_N_isProfitable_47 ?_
      refine z_goto (tgt := 52) d_N_isProfitable_48 rfl ?_
      exact z_zret d_N_isProfitable_52 rfl rfl (Or.inr rfl)
    · refine z_ic0 d_N_isProfitable_51 ?_
      exact z_zret d_N_isProfitable_52 rfl rfl (Or.inl rfl)
/-! BubbleTorus$Net.adaptiveLets -/
theorem d_N_adaptiveLets_0 : decode m_N_adaptiveLets.2.1 0 = .ok (.aload_n 0, 1) := by decide +kernel
theorem d_N_adaptiveLets_1 : decode m_N_adaptiveLets.2.1 1 = .ok (.iload_n 1, 1) := by decide +kernel
theorem d_N_adaptiveLets_2 : decode m_N_adaptiveLets.2.1 2 = .ok (.iload_n 2, 1) := by decide +kernel
theorem d_N_adaptiveLets_3 : decode m_N_adaptiveLets.2.1 3 = .ok (.iload_n 3, 1) := by decide +kernel
theorem d_N_adaptiveLets_4 : decode m_N_adaptiveLets.2.1 4 = .ok (.invokevirtual 199, 3) := by decide +kernel
theorem d_N_adaptiveLets_7 : decode m_N_adaptiveLets.2.1 7 = .ok (.ifCond .eq 38, 3) := by decide +kernel
theorem d_N_adaptiveLets_10 : decode m_N_adaptiveLets.2.1 10 = .ok (.aload_n 0, 1) := by decide +kernel
theorem d_N_adaptiveLets_11 : decode m_N_adaptiveLets.2.1 11 = .ok (.getfield 28, 3) := by decide +kernel
theorem d_N_adaptiveLets_14 : decode m_N_adaptiveLets.2.1 14 = .ok (.getfield 115, 3) := by decide +kernel
theorem d_N_adaptiveLets_17 : decode m_N_adaptiveLets.2.1 17 = .ok (.aload_n 0, 1) := by decide +kernel
theorem d_N_adaptiveLets_18 : decode m_N_adaptiveLets.2.1 18 = .ok (.getfield 12, 3) := by decide +kernel
theorem d_N_adaptiveLets_21 : decode m_N_adaptiveLets.2.1 21 = .ok (.iload_n 1, 1) := by decide +kernel
theorem d_N_adaptiveLets_22 : decode m_N_adaptiveLets.2.1 22 = .ok (.iload_n 3, 1) := by decide +kernel
theorem d_N_adaptiveLets_23 : decode m_N_adaptiveLets.2.1 23 = .ok (.invokevirtual 202, 3) := by decide +kernel
theorem d_N_adaptiveLets_26 : decode m_N_adaptiveLets.2.1 26 = .ok (.bipush 9, 2) := by decide +kernel
theorem d_N_adaptiveLets_28 : decode m_N_adaptiveLets.2.1 28 = .ok (.imul, 1) := by decide +kernel
theorem d_N_adaptiveLets_29 : decode m_N_adaptiveLets.2.1 29 = .ok (.iconst 5, 1) := by decide +kernel
theorem d_N_adaptiveLets_30 : decode m_N_adaptiveLets.2.1 30 = .ok (.iadd, 1) := by decide +kernel
theorem d_N_adaptiveLets_31 : decode m_N_adaptiveLets.2.1 31 = .ok (.iload_n 3, 1) := by decide +kernel
theorem d_N_adaptiveLets_32 : decode m_N_adaptiveLets.2.1 32 = .ok (.iadd, 1) := by decide +kernel
theorem d_N_adaptiveLets_33 : decode m_N_adaptiveLets.2.1 33 = .ok (.iaload, 1) := by decide +kernel
theorem d_N_adaptiveLets_34 : decode m_N_adaptiveLets.2.1 34 = .ok (.aload_n 0, 1) := by decide +kernel
theorem d_N_adaptiveLets_35 : decode m_N_adaptiveLets.2.1 35 = .ok (.getfield 54, 3) := by decide +kernel
theorem d_N_adaptiveLets_38 : decode m_N_adaptiveLets.2.1 38 = .ok (.if_icmp .ge 7, 3) := by decide +kernel
theorem d_N_adaptiveLets_41 : decode m_N_adaptiveLets.2.1 41 = .ok (.iconst 1, 1) := by decide +kernel
theorem d_N_adaptiveLets_42 : decode m_N_adaptiveLets.2.1 42 = .ok (.goto 4, 3) := by decide +kernel
theorem d_N_adaptiveLets_45 : decode m_N_adaptiveLets.2.1 45 = .ok (.iconst 0, 1) := by decide +kernel
theorem d_N_adaptiveLets_46 : decode m_N_adaptiveLets.2.1 46 = .ok (.ireturn, 1) := by decide +kernel
def f_N_adaptiveLets (o : Nat) (x1 : Int) (x2 : Int) (x3 : Int) (w : qMem) : Option (Int × qMem) :=
  (f_N_isProfitable o x1 x2 x3 w).bind fun q1 =>
  if q1.1 = 0 then
  some (0, q1.2)
  else
  (f_G_nextBy (o + 1) x1 x3 q1.2).bind fun q3 =>
  qld q3.2 (o + 20) 144 (w32 ((w32 ((w32 (q3.1 * 9)) + 5)) + x3)) fun v4 =>
  if v4 < (q3.2 o 7) then
  some (1, q3.2)
  else
  some (0, q3.2)
set_option maxRecDepth 4000 in
theorem s_N_adaptiveLets {ph : Nat} {o : Nat} (x1 : Int) (x2 : Int) (x3 : Int) (hI : qIs kLN ph o) (w : qMem) : qSim κI ph ph m_N_adaptiveLets 0 [] [some (qR o), some (qI x1), some (qI x2), some (qI x3)] w (f_N_adaptiveLets o x1 x2 x3 w) := by
  unfold f_N_adaptiveLets
  refine z_aload_n d_N_adaptiveLets_0 rfl ?_
  refine z_iload_n d_N_adaptiveLets_1 rfl ?_
  refine z_iload_n d_N_adaptiveLets_2 rfl ?_
  refine z_iload_n d_N_adaptiveLets_3 rfl ?_
  refine z_cVI (as := [qI x1, qI x2, qI x3]) (st := []) (nl := 1) (ci := 3) d_N_adaptiveLets_4 lk_N_199 mk_N_isProfitable rfl rfl (hI 0 _ rfl).1 rfl rfl rfl (s_N_isProfitable _ _ _ hI _) (fun q1 _ hq1 => ?_)
  refine z_if_eq (tgt := 45) d_N_adaptiveLets_7 rfl (fun c2 => ?_) (fun c2 => ?_)
  · refine z_ic0 d_N_adaptiveLets_45 ?_
    exact z_zret d_N_adaptiveLets_46 rfl rfl (Or.inl rfl)
  · refine z_aload_n d_N_adaptiveLets_10 rfl ?_
    refine z_gr (ci := 3) (j := 2) (d := 19) (o2 := (o + 19)) d_N_adaptiveLets_11 rfl fl_N_28 (hI 0 _ rfl).1 ((hI 0 _ rfl).2 (Nat.le_of_ble_eq_true rfl)) rfl rfl ?_
    refine z_gr (ci := 6) (j := 0) (d := 1) (o2 := (o + 20)) d_N_adaptiveLets_14 rfl fl_N_115 (hI 19 _ rfl).1 ((hI 19 _ rfl).2 (Nat.le_of_ble_eq_true rfl)) rfl rfl ?_
    refine z_aload_n d_N_adaptiveLets_17 rfl ?_
    refine z_gr (ci := 3) (j := 0) (d := 1) (o2 := (o + 1)) d_N_adaptiveLets_18 rfl fl_N_12 (hI 0 _ rfl).1 ((hI 0 _ rfl).2 (Nat.le_of_ble_eq_true rfl)) rfl rfl ?_
    refine z_iload_n d_N_adaptiveLets_21 rfl ?_
    refine z_iload_n d_N_adaptiveLets_22 rfl ?_
    refine z_cVI (as := [qI x1, qI x3]) (st := [qR (o + 20)]) (nl := 0) (ci := 0) d_N_adaptiveLets_23 lk_N_202 mk_G_nextBy rfl rfl (hI 1 _ rfl).1 rfl rfl rfl (s_G_nextBy _ _ (is_N_G hI) _) (fun q3 _ hq3 => ?_)
    refine z_bipush d_N_adaptiveLets_26 ⟨by decide, by decide⟩ ?_
    refine z_imul d_N_adaptiveLets_28 ?_
    refine z_ic5 d_N_adaptiveLets_29 ?_
    refine z_iadd d_N_adaptiveLets_30 ?_
    refine z_iload_n d_N_adaptiveLets_31 rfl ?_
    refine z_iadd d_N_adaptiveLets_32 ?_
    refine z_il d_N_adaptiveLets_33 (hI 20 _ rfl).1 rfl (fun v4 => ?_)
    refine z_aload_n d_N_adaptiveLets_34 rfl ?_
    refine z_gi (ci := 3) (j := 7) (ji := 7) d_N_adaptiveLets_35 rfl fl_N_54 (hI 0 _ rfl).1 rfl rfl ?_
    refine z_icmp_ge (tgt := 45) d_N_adaptiveLets_38 rfl (fun c5 => ?_) (fun c5 => ?_)
    · refine z_ic1 d_N_adaptiveLets_41 ?_
      refine z_goto (tgt := 46) d_N_adaptiveLets_42 rfl ?_
      exact z_zret d_N_adaptiveLets_46 rfl rfl (Or.inr rfl)
    · refine z_ic0 d_N_adaptiveLets_45 ?_
      exact z_zret d_N_adaptiveLets_46 rfl rfl (Or.inl rfl)
/-! BubbleTorus$Net.isEscape -/
theorem d_N_isEscape_0 : decode m_N_isEscape.2.1 0 = .ok (.aload_n 0, 1) := by decide +kernel
theorem d_N_isEscape_1 : decode m_N_isEscape.2.1 1 = .ok (.getfield 28, 3) := by decide +kernel
theorem d_N_isEscape_4 : decode m_N_isEscape.2.1 4 = .ok (.iload_n 1, 1) := by decide +kernel
theorem d_N_isEscape_5 : decode m_N_isEscape.2.1 5 = .ok (.bipush 9, 2) := by decide +kernel
theorem d_N_isEscape_7 : decode m_N_isEscape.2.1 7 = .ok (.imul, 1) := by decide +kernel
theorem d_N_isEscape_8 : decode m_N_isEscape.2.1 8 = .ok (.iload_n 2, 1) := by decide +kernel
theorem d_N_isEscape_9 : decode m_N_isEscape.2.1 9 = .ok (.iadd, 1) := by decide +kernel
theorem d_N_isEscape_10 : decode m_N_isEscape.2.1 10 = .ok (.invokevirtual 156, 3) := by decide +kernel
theorem d_N_isEscape_13 : decode m_N_isEscape.2.1 13 = .ok (.istore 4, 2) := by decide +kernel
theorem d_N_isEscape_15 : decode m_N_isEscape.2.1 15 = .ok (.iload 4, 2) := by decide +kernel
theorem d_N_isEscape_17 : decode m_N_isEscape.2.1 17 = .ok (.iconst (-1), 1) := by decide +kernel
theorem d_N_isEscape_18 : decode m_N_isEscape.2.1 18 = .ok (.if_icmp .eq 29, 3) := by decide +kernel
theorem d_N_isEscape_21 : decode m_N_isEscape.2.1 21 = .ok (.aload_n 0, 1) := by decide +kernel
theorem d_N_isEscape_22 : decode m_N_isEscape.2.1 22 = .ok (.getfield 12, 3) := by decide +kernel
theorem d_N_isEscape_25 : decode m_N_isEscape.2.1 25 = .ok (.iload_n 1, 1) := by decide +kernel
theorem d_N_isEscape_26 : decode m_N_isEscape.2.1 26 = .ok (.aload_n 0, 1) := by decide +kernel
theorem d_N_isEscape_27 : decode m_N_isEscape.2.1 27 = .ok (.getfield 21, 3) := by decide +kernel
theorem d_N_isEscape_30 : decode m_N_isEscape.2.1 30 = .ok (.getfield 160, 3) := by decide +kernel
theorem d_N_isEscape_33 : decode m_N_isEscape.2.1 33 = .ok (.iload 4, 2) := by decide +kernel
theorem d_N_isEscape_35 : decode m_N_isEscape.2.1 35 = .ok (.iaload, 1) := by decide +kernel
theorem d_N_isEscape_36 : decode m_N_isEscape.2.1 36 = .ok (.invokevirtual 193, 3) := by decide +kernel
theorem d_N_isEscape_39 : decode m_N_isEscape.2.1 39 = .ok (.iload_n 3, 1) := by decide +kernel
theorem d_N_isEscape_40 : decode m_N_isEscape.2.1 40 = .ok (.if_icmp .ne 7, 3) := by decide +kernel
theorem d_N_isEscape_43 : decode m_N_isEscape.2.1 43 = .ok (.iconst 1, 1) := by decide +kernel
theorem d_N_isEscape_44 : decode m_N_isEscape.2.1 44 = .ok (.goto 4, 3) := by decide +kernel
theorem d_N_isEscape_47 : decode m_N_isEscape.2.1 47 = .ok (.iconst 0, 1) := by decide +kernel
theorem d_N_isEscape_48 : decode m_N_isEscape.2.1 48 = .ok (.ireturn, 1) := by decide +kernel
def f_N_isEscape (o : Nat) (x1 : Int) (x2 : Int) (x3 : Int) (w : qMem) : Option (Int × qMem) :=
  (f_Q_first (o + 19) (w32 ((w32 (x1 * 9)) + x2)) w).bind fun q1 =>
  if q1.1 = (-1) then
  some (0, q1.2)
  else
  qld q1.2 (o + 7) 250 q1.1 fun v3 =>
  (f_G_escapeBy (o + 1) x1 v3 q1.2).bind fun q4 =>
  if q4.1 = x3 then
  some (1, q4.2)
  else
  some (0, q4.2)
set_option maxRecDepth 4000 in
theorem s_N_isEscape {ph : Nat} {o : Nat} (x1 : Int) (x2 : Int) (x3 : Int) (hI : qIs kLN ph o) (w : qMem) : qSim κI ph ph m_N_isEscape 0 [] [some (qR o), some (qI x1), some (qI x2), some (qI x3), none] w (f_N_isEscape o x1 x2 x3 w) := by
  unfold f_N_isEscape
  refine z_aload_n d_N_isEscape_0 rfl ?_
  refine z_gr (ci := 3) (j := 2) (d := 19) (o2 := (o + 19)) d_N_isEscape_1 rfl fl_N_28 (hI 0 _ rfl).1 ((hI 0 _ rfl).2 (Nat.le_of_ble_eq_true rfl)) rfl rfl ?_
  refine z_iload_n d_N_isEscape_4 rfl ?_
  refine z_bipush d_N_isEscape_5 ⟨by decide, by decide⟩ ?_
  refine z_imul d_N_isEscape_7 ?_
  refine z_iload_n d_N_isEscape_8 rfl ?_
  refine z_iadd d_N_isEscape_9 ?_
  refine z_cVI (as := [qI (w32 ((w32 (x1 * 9)) + x2))]) (st := []) (nl := 0) (ci := 6) d_N_isEscape_10 lk_N_156 mk_Q_first rfl rfl (hI 19 _ rfl).1 rfl rfl rfl (s_Q_first _ (is_N_Q hI) _) (fun q1 _ hq1 => ?_)
  refine z_istore (pls' := [some (qR o), some (qI x1), some (qI x2), some (qI x3), some (qI q1.1)]) d_N_isEscape_13 (by decide) rfl rfl ?_
  refine z_iload d_N_isEscape_15 rfl ?_
  refine z_icm1 d_N_isEscape_17 ?_
  refine z_icmp_eq (tgt := 47) d_N_isEscape_18 rfl (fun c2 => ?_) (fun c2 => ?_)
  · refine z_ic0 d_N_isEscape_47 ?_
    exact z_zret d_N_isEscape_48 rfl rfl (Or.inl rfl)
  · refine z_aload_n d_N_isEscape_21 rfl ?_
    refine z_gr (ci := 3) (j := 0) (d := 1) (o2 := (o + 1)) d_N_isEscape_22 rfl fl_N_12 (hI 0 _ rfl).1 ((hI 0 _ rfl).2 (Nat.le_of_ble_eq_true rfl)) rfl rfl ?_
    refine z_iload_n d_N_isEscape_25 rfl ?_
    refine z_aload_n d_N_isEscape_26 rfl ?_
    refine z_gr (ci := 3) (j := 1) (d := 5) (o2 := (o + 5)) d_N_isEscape_27 rfl fl_N_21 (hI 0 _ rfl).1 ((hI 0 _ rfl).2 (Nat.le_of_ble_eq_true rfl)) rfl rfl ?_
    refine z_gr (ci := 5) (j := 1) (d := 2) (o2 := (o + 7)) d_N_isEscape_30 rfl fl_N_160 (hI 5 _ rfl).1 ((hI 5 _ rfl).2 (Nat.le_of_ble_eq_true rfl)) rfl rfl ?_
    refine z_iload d_N_isEscape_33 rfl ?_
    refine z_il d_N_isEscape_35 (hI 7 _ rfl).1 rfl (fun v3 => ?_)
    refine z_cVI (as := [qI x1, qI v3]) (st := []) (nl := 0) (ci := 0) d_N_isEscape_36 lk_N_193 mk_G_escapeBy rfl rfl (hI 1 _ rfl).1 rfl rfl rfl (s_G_escapeBy _ _ (is_N_G hI) _) (fun q4 _ hq4 => ?_)
    refine z_iload_n d_N_isEscape_39 rfl ?_
    refine z_icmp_ne (tgt := 47) d_N_isEscape_40 rfl (fun c5 => ?_) (fun c5 => ?_)
    · refine z_ic1 d_N_isEscape_43 ?_
      refine z_goto (tgt := 48) d_N_isEscape_44 rfl ?_
      exact z_zret d_N_isEscape_48 rfl rfl (Or.inr rfl)
    · refine z_ic0 d_N_isEscape_47 ?_
      exact z_zret d_N_isEscape_48 rfl rfl (Or.inl rfl)
/-! BubbleTorus$Net.freeAhead -/
theorem d_N_freeAhead_0 : decode m_N_freeAhead.2.1 0 = .ok (.aload_n 0, 1) := by decide +kernel
theorem d_N_freeAhead_1 : decode m_N_freeAhead.2.1 1 = .ok (.getfield 50, 3) := by decide +kernel
theorem d_N_freeAhead_4 : decode m_N_freeAhead.2.1 4 = .ok (.aload_n 0, 1) := by decide +kernel
theorem d_N_freeAhead_5 : decode m_N_freeAhead.2.1 5 = .ok (.getfield 28, 3) := by decide +kernel
theorem d_N_freeAhead_8 : decode m_N_freeAhead.2.1 8 = .ok (.getfield 115, 3) := by decide +kernel
theorem d_N_freeAhead_11 : decode m_N_freeAhead.2.1 11 = .ok (.aload_n 0, 1) := by decide +kernel
theorem d_N_freeAhead_12 : decode m_N_freeAhead.2.1 12 = .ok (.getfield 12, 3) := by decide +kernel
theorem d_N_freeAhead_15 : decode m_N_freeAhead.2.1 15 = .ok (.getfield 211, 3) := by decide +kernel
theorem d_N_freeAhead_18 : decode m_N_freeAhead.2.1 18 = .ok (.iload_n 1, 1) := by decide +kernel
theorem d_N_freeAhead_19 : decode m_N_freeAhead.2.1 19 = .ok (.iconst 4, 1) := by decide +kernel
theorem d_N_freeAhead_20 : decode m_N_freeAhead.2.1 20 = .ok (.imul, 1) := by decide +kernel
theorem d_N_freeAhead_21 : decode m_N_freeAhead.2.1 21 = .ok (.iload_n 2, 1) := by decide +kernel
theorem d_N_freeAhead_22 : decode m_N_freeAhead.2.1 22 = .ok (.iadd, 1) := by decide +kernel
theorem d_N_freeAhead_23 : decode m_N_freeAhead.2.1 23 = .ok (.iaload, 1) := by decide +kernel
theorem d_N_freeAhead_24 : decode m_N_freeAhead.2.1 24 = .ok (.bipush 9, 2) := by decide +kernel
theorem d_N_freeAhead_26 : decode m_N_freeAhead.2.1 26 = .ok (.imul, 1) := by decide +kernel
theorem d_N_freeAhead_27 : decode m_N_freeAhead.2.1 27 = .ok (.iconst 1, 1) := by decide +kernel
theorem d_N_freeAhead_28 : decode m_N_freeAhead.2.1 28 = .ok (.iadd, 1) := by decide +kernel
theorem d_N_freeAhead_29 : decode m_N_freeAhead.2.1 29 = .ok (.iload_n 2, 1) := by decide +kernel
theorem d_N_freeAhead_30 : decode m_N_freeAhead.2.1 30 = .ok (.iadd, 1) := by decide +kernel
theorem d_N_freeAhead_31 : decode m_N_freeAhead.2.1 31 = .ok (.iaload, 1) := by decide +kernel
theorem d_N_freeAhead_32 : decode m_N_freeAhead.2.1 32 = .ok (.isub, 1) := by decide +kernel
theorem d_N_freeAhead_33 : decode m_N_freeAhead.2.1 33 = .ok (.ireturn, 1) := by decide +kernel
def f_N_freeAhead (o : Nat) (x1 : Int) (x2 : Int) (w : qMem) : Option (Int × qMem) :=
  qld w (o + 2) 64 (w32 ((w32 (x1 * 4)) + x2)) fun v1 =>
  qld w (o + 20) 144 (w32 ((w32 ((w32 (v1 * 9)) + 1)) + x2)) fun v2 =>
  some ((w32 ((w o 6) - v2)), w)
set_option maxRecDepth 4000 in
theorem s_N_freeAhead {ph : Nat} {o : Nat} (x1 : Int) (x2 : Int) (hI : qIs kLN ph o) (w : qMem) : qSim κI ph ph m_N_freeAhead 0 [] [some (qR o), some (qI x1), some (qI x2)] w (f_N_freeAhead o x1 x2 w) := by
  unfold f_N_freeAhead
  refine z_aload_n d_N_freeAhead_0 rfl ?_
  refine z_gi (ci := 3) (j := 6) (ji := 6) d_N_freeAhead_1 rfl fl_N_50 (hI 0 _ rfl).1 rfl rfl ?_
  refine z_aload_n d_N_freeAhead_4 rfl ?_
  refine z_gr (ci := 3) (j := 2) (d := 19) (o2 := (o + 19)) d_N_freeAhead_5 rfl fl_N_28 (hI 0 _ rfl).1 ((hI 0 _ rfl).2 (Nat.le_of_ble_eq_true rfl)) rfl rfl ?_
  refine z_gr (ci := 6) (j := 0) (d := 1) (o2 := (o + 20)) d_N_freeAhead_8 rfl fl_N_115 (hI 19 _ rfl).1 ((hI 19 _ rfl).2 (Nat.le_of_ble_eq_true rfl)) rfl rfl ?_
  refine z_aload_n d_N_freeAhead_11 rfl ?_
  refine z_gr (ci := 3) (j := 0) (d := 1) (o2 := (o + 1)) d_N_freeAhead_12 rfl fl_N_12 (hI 0 _ rfl).1 ((hI 0 _ rfl).2 (Nat.le_of_ble_eq_true rfl)) rfl rfl ?_
  refine z_gr (ci := 0) (j := 0) (d := 1) (o2 := (o + 2)) d_N_freeAhead_15 rfl fl_N_211 (hI 1 _ rfl).1 ((hI 1 _ rfl).2 (Nat.le_of_ble_eq_true rfl)) rfl rfl ?_
  refine z_iload_n d_N_freeAhead_18 rfl ?_
  refine z_ic4 d_N_freeAhead_19 ?_
  refine z_imul d_N_freeAhead_20 ?_
  refine z_iload_n d_N_freeAhead_21 rfl ?_
  refine z_iadd d_N_freeAhead_22 ?_
  refine z_il d_N_freeAhead_23 (hI 2 _ rfl).1 rfl (fun v1 => ?_)
  refine z_bipush d_N_freeAhead_24 ⟨by decide, by decide⟩ ?_
  refine z_imul d_N_freeAhead_26 ?_
  refine z_ic1 d_N_freeAhead_27 ?_
  refine z_iadd d_N_freeAhead_28 ?_
  refine z_iload_n d_N_freeAhead_29 rfl ?_
  refine z_iadd d_N_freeAhead_30 ?_
  refine z_il d_N_freeAhead_31 (hI 20 _ rfl).1 rfl (fun v2 => ?_)
  refine z_isub d_N_freeAhead_32 ?_
  exact z_iret d_N_freeAhead_33 rfl rfl
/-! BubbleTorus$Net.ruleLets -/
theorem d_N_ruleLets_0 : decode m_N_ruleLets.2.1 0 = .ok (.aload_n 0, 1) := by decide +kernel
theorem d_N_ruleLets_1 : decode m_N_ruleLets.2.1 1 = .ok (.getfield 57, 3) := by decide +kernel
theorem d_N_ruleLets_4 : decode m_N_ruleLets.2.1 4 = .ok (.iconst 1, 1) := by decide +kernel
theorem d_N_ruleLets_5 : decode m_N_ruleLets.2.1 5 = .ok (.if_icmp .eq 40, 3) := by decide +kernel
theorem d_N_ruleLets_8 : decode m_N_ruleLets.2.1 8 = .ok (.aload_n 0, 1) := by decide +kernel
theorem d_N_ruleLets_9 : decode m_N_ruleLets.2.1 9 = .ok (.getfield 57, 3) := by decide +kernel
theorem d_N_ruleLets_12 : decode m_N_ruleLets.2.1 12 = .ok (.iconst 2, 1) := by decide +kernel
theorem d_N_ruleLets_13 : decode m_N_ruleLets.2.1 13 = .ok (.if_icmp .ne 36, 3) := by decide +kernel
theorem d_N_ruleLets_16 : decode m_N_ruleLets.2.1 16 = .ok (.aload_n 0, 1) := by decide +kernel
theorem d_N_ruleLets_17 : decode m_N_ruleLets.2.1 17 = .ok (.getfield 42, 3) := by decide +kernel
theorem d_N_ruleLets_20 : decode m_N_ruleLets.2.1 20 = .ok (.getfield 214, 3) := by decide +kernel
theorem d_N_ruleLets_23 : decode m_N_ruleLets.2.1 23 = .ok (.aload_n 0, 1) := by decide +kernel
theorem d_N_ruleLets_24 : decode m_N_ruleLets.2.1 24 = .ok (.getfield 12, 3) := by decide +kernel
theorem d_N_ruleLets_27 : decode m_N_ruleLets.2.1 27 = .ok (.iload_n 1, 1) := by decide +kernel
theorem d_N_ruleLets_28 : decode m_N_ruleLets.2.1 28 = .ok (.iload_n 2, 1) := by decide +kernel
theorem d_N_ruleLets_29 : decode m_N_ruleLets.2.1 29 = .ok (.invokevirtual 217, 3) := by decide +kernel
theorem d_N_ruleLets_32 : decode m_N_ruleLets.2.1 32 = .ok (.iaload, 1) := by decide +kernel
theorem d_N_ruleLets_33 : decode m_N_ruleLets.2.1 33 = .ok (.aload_n 0, 1) := by decide +kernel
theorem d_N_ruleLets_34 : decode m_N_ruleLets.2.1 34 = .ok (.getfield 12, 3) := by decide +kernel
theorem d_N_ruleLets_37 : decode m_N_ruleLets.2.1 37 = .ok (.iload_n 1, 1) := by decide +kernel
theorem d_N_ruleLets_38 : decode m_N_ruleLets.2.1 38 = .ok (.iload_n 2, 1) := by decide +kernel
theorem d_N_ruleLets_39 : decode m_N_ruleLets.2.1 39 = .ok (.invokevirtual 202, 3) := by decide +kernel
theorem d_N_ruleLets_42 : decode m_N_ruleLets.2.1 42 = .ok (.if_icmp .ne 7, 3) := by decide +kernel
theorem d_N_ruleLets_45 : decode m_N_ruleLets.2.1 45 = .ok (.iconst 1, 1) := by decide +kernel
theorem d_N_ruleLets_46 : decode m_N_ruleLets.2.1 46 = .ok (.goto 4, 3) := by decide +kernel
theorem d_N_ruleLets_49 : decode m_N_ruleLets.2.1 49 = .ok (.iconst 0, 1) := by decide +kernel
theorem d_N_ruleLets_50 : decode m_N_ruleLets.2.1 50 = .ok (.istore_n 3, 1) := by decide +kernel
theorem d_N_ruleLets_51 : decode m_N_ruleLets.2.1 51 = .ok (.aload_n 0, 1) := by decide +kernel
theorem d_N_ruleLets_52 : decode m_N_ruleLets.2.1 52 = .ok (.iload_n 1, 1) := by decide +kernel
theorem d_N_ruleLets_53 : decode m_N_ruleLets.2.1 53 = .ok (.iload_n 2, 1) := by decide +kernel
theorem d_N_ruleLets_54 : decode m_N_ruleLets.2.1 54 = .ok (.invokevirtual 205, 3) := by decide +kernel
theorem d_N_ruleLets_57 : decode m_N_ruleLets.2.1 57 = .ok (.iload_n 3, 1) := by decide +kernel
theorem d_N_ruleLets_58 : decode m_N_ruleLets.2.1 58 = .ok (.ifCond .eq 7, 3) := by decide +kernel
theorem d_N_ruleLets_61 : decode m_N_ruleLets.2.1 61 = .ok (.iconst 2, 1) := by decide +kernel
theorem d_N_ruleLets_62 : decode m_N_ruleLets.2.1 62 = .ok (.goto 4, 3) := by decide +kernel
theorem d_N_ruleLets_65 : decode m_N_ruleLets.2.1 65 = .ok (.iconst 1, 1) := by decide +kernel
theorem d_N_ruleLets_66 : decode m_N_ruleLets.2.1 66 = .ok (.if_icmp .lt 7, 3) := by decide +kernel
theorem d_N_ruleLets_69 : decode m_N_ruleLets.2.1 69 = .ok (.iconst 1, 1) := by decide +kernel
theorem d_N_ruleLets_70 : decode m_N_ruleLets.2.1 70 = .ok (.goto 4, 3) := by decide +kernel
theorem d_N_ruleLets_73 : decode m_N_ruleLets.2.1 73 = .ok (.iconst 0, 1) := by decide +kernel
theorem d_N_ruleLets_74 : decode m_N_ruleLets.2.1 74 = .ok (.ireturn, 1) := by decide +kernel
def f_N_ruleLets_66 (o : Nat) (s0 s1 : Int) (w : qMem) : Option (Int × qMem) :=
  if s0 < s1 then
  some (0, w)
  else
  some (1, w)
set_option maxRecDepth 4000 in
theorem s_N_ruleLets_66 {ph : Nat} {o : Nat} (hI : qIs kLN ph o) : ∀ (s0 s1 : Int) (w : qMem), qSim κI ph ph m_N_ruleLets 66 [qI s1, qI s0] [none, none, none, none] w (f_N_ruleLets_66 o s0 s1 w) := by
  intro s0 s1 w
  unfold f_N_ruleLets_66
  refine z_icmp_lt (tgt := 73) d_N_ruleLets_66 rfl (fun c1 => ?_) (fun c1 => ?_)
  · refine z_ic0 d_N_ruleLets_73 ?_
    exact z_zret d_N_ruleLets_74 rfl rfl (Or.inl rfl)
  · refine z_ic1 d_N_ruleLets_69 ?_
    refine z_goto (tgt := 74) d_N_ruleLets_70 rfl ?_
    exact z_zret d_N_ruleLets_74 rfl rfl (Or.inr rfl)
def f_N_ruleLets_50 (o : Nat) (s0 x1 x2 : Int) (w : qMem) : Option (Int × qMem) :=
  (f_N_freeAhead o x1 x2 w).bind fun q2 =>
  if s0 = 0 then
  f_N_ruleLets_66 o q2.1 1 q2.2
  else
  f_N_ruleLets_66 o q2.1 2 q2.2
set_option maxRecDepth 4000 in
theorem s_N_ruleLets_50 {ph : Nat} {o : Nat} (hI : qIs kLN ph o) : ∀ (s0 x1 x2 : Int) (w : qMem), (s0 = 0 ∨ s0 = 1) → qSim κI ph ph m_N_ruleLets 50 [qI s0] [some (qR o), some (qI x1), some (qI x2), none] w (f_N_ruleLets_50 o s0 x1 x2 w) := by
  intro s0 x1 x2 w hs0
  unfold f_N_ruleLets_50
  refine z_istore_n (pls' := [some (qR o), some (qI x1), some (qI x2), some (qI s0)]) d_N_ruleLets_50 (by decide) rfl rfl ?_
  refine z_aload_n d_N_ruleLets_51 rfl ?_
  refine z_iload_n d_N_ruleLets_52 rfl ?_
  refine z_iload_n d_N_ruleLets_53 rfl ?_
  refine z_cVI (as := [qI x1, qI x2]) (st := []) (nl := 0) (ci := 3) d_N_ruleLets_54 lk_N_205 mk_N_freeAhead rfl rfl (hI 0 _ rfl).1 rfl rfl rfl (s_N_freeAhead _ _ hI _) (fun q2 _ hq2 => ?_)
  refine z_iload_n d_N_ruleLets_57 rfl ?_
  refine z_if_eq (tgt := 65) d_N_ruleLets_58 rfl (fun c3 => ?_) (fun c3 => ?_)
  · refine z_ic1 d_N_ruleLets_65 ?_
    refine z_mask [false, false, false, false] ?_
    exact s_N_ruleLets_66 hI _ _ _
  · refine z_ic2 d_N_ruleLets_61 ?_
    refine z_goto (tgt := 66) d_N_ruleLets_62 rfl ?_
    refine z_mask [false, false, false, false] ?_
    exact s_N_ruleLets_66 hI _ _ _
def f_N_ruleLets (o : Nat) (x1 : Int) (x2 : Int) (w : qMem) : Option (Int × qMem) :=
  if (w o 8) = 1 then
  f_N_ruleLets_50 o 1 x1 x2 w
  else
  if (w o 8) = 2 then
  (f_G_ringIndex (o + 1) x1 x2 w).bind fun q6 =>
  qld q6.2 (o + 25) 16 q6.1 fun v7 =>
  (f_G_nextBy (o + 1) x1 x2 q6.2).bind fun q8 =>
  if v7 = q8.1 then
  f_N_ruleLets_50 o 1 x1 x2 q8.2
  else
  f_N_ruleLets_50 o 0 x1 x2 q8.2
  else
  f_N_ruleLets_50 o 0 x1 x2 w
set_option maxRecDepth 4000 in
theorem s_N_ruleLets {ph : Nat} {o : Nat} (x1 : Int) (x2 : Int) (hI : qIs kLN ph o) (w : qMem) : qSim κI ph ph m_N_ruleLets 0 [] [some (qR o), some (qI x1), some (qI x2), none] w (f_N_ruleLets o x1 x2 w) := by
  unfold f_N_ruleLets
  refine z_aload_n d_N_ruleLets_0 rfl ?_
  refine z_gi (ci := 3) (j := 8) (ji := 8) d_N_ruleLets_1 rfl fl_N_57 (hI 0 _ rfl).1 rfl rfl ?_
  refine z_ic1 d_N_ruleLets_4 ?_
  refine z_icmp_eq (tgt := 45) d_N_ruleLets_5 rfl (fun c4 => ?_) (fun c4 => ?_)
  · refine z_ic1 d_N_ruleLets_45 ?_
    refine z_goto (tgt := 50) d_N_ruleLets_46 rfl ?_
    refine z_mask [true, true, true, false] ?_
    exact s_N_ruleLets_50 hI _ _ _ _ (Or.inr rfl)
  · refine z_aload_n d_N_ruleLets_8 rfl ?_
    refine z_gi (ci := 3) (j := 8) (ji := 8) d_N_ruleLets_9 rfl fl_N_57 (hI 0 _ rfl).1 rfl rfl ?_
    refine z_ic2 d_N_ruleLets_12 ?_
    refine z_icmp_ne (tgt := 49) d_N_ruleLets_13 rfl (fun c5 => ?_) (fun c5 => ?_)
    · refine z_aload_n d_N_ruleLets_16 rfl ?_
      refine z_gr (ci := 3) (j := 4) (d := 24) (o2 := (o + 24)) d_N_ruleLets_17 rfl fl_N_42 (hI 0 _ rfl).1 ((hI 0 _ rfl).2 (Nat.le_of_ble_eq_true rfl)) rfl rfl ?_
      refine z_gr (ci := 7) (j := 0) (d := 1) (o2 := (o + 25)) d_N_ruleLets_20 rfl fl_N_214 (hI 24 _ rfl).1 ((hI 24 _ rfl).2 (Nat.le_of_ble_eq_true rfl)) rfl rfl ?_
      refine z_aload_n d_N_ruleLets_23 rfl ?_
      refine z_gr (ci := 3) (j := 0) (d := 1) (o2 := (o + 1)) d_N_ruleLets_24 rfl fl_N_12 (hI 0 _ rfl).1 ((hI 0 _ rfl).2 (Nat.le_of_ble_eq_true rfl)) rfl rfl ?_
      refine z_iload_n d_N_ruleLets_27 rfl ?_
      refine z_iload_n d_N_ruleLets_28 rfl ?_
      refine z_cVI (as := [qI x1, qI x2]) (st := [qR (o + 25)]) (nl := 2) (ci := 0) d_N_ruleLets_29 lk_N_217 mk_G_ringIndex rfl rfl (hI 1 _ rfl).1 rfl rfl rfl (s_G_ringIndex _ _ (is_N_G hI) _) (fun q6 _ hq6 => ?_)
      refine z_il d_N_ruleLets_32 (hI 25 _ rfl).1 rfl (fun v7 => ?_)
      refine z_aload_n d_N_ruleLets_33 rfl ?_
      refine z_gr (ci := 3) (j := 0) (d := 1) (o2 := (o + 1)) d_N_ruleLets_34 rfl fl_N_12 (hI 0 _ rfl).1 ((hI 0 _ rfl).2 (Nat.le_of_ble_eq_true rfl)) rfl rfl ?_
      refine z_iload_n d_N_ruleLets_37 rfl ?_
      refine z_iload_n d_N_ruleLets_38 rfl ?_
      refine z_cVI (as := [qI x1, qI x2]) (st := [qI v7]) (nl := 0) (ci := 0) d_N_ruleLets_39 lk_N_202 mk_G_nextBy rfl rfl (hI 1 _ rfl).1 rfl rfl rfl (s_G_nextBy _ _ (is_N_G hI) _) (fun q8 _ hq8 => ?_)
      refine z_icmp_ne (tgt := 49) d_N_ruleLets_42 rfl (fun c9 => ?_) (fun c9 => ?_)
      · refine z_ic1 d_N_ruleLets_45 ?_
        refine z_goto (tgt := 50) d_N_ruleLets_46 rfl ?_
        refine z_mask [true, true, true, false] ?_
        exact s_N_ruleLets_50 hI _ _ _ _ (Or.inr rfl)
      · refine z_ic0 d_N_ruleLets_49 ?_
        refine z_mask [true, true, true, false] ?_
        exact s_N_ruleLets_50 hI _ _ _ _ (Or.inl rfl)
    · refine z_ic0 d_N_ruleLets_49 ?_
      refine z_mask [true, true, true, false] ?_
      exact s_N_ruleLets_50 hI _ _ _ _ (Or.inl rfl)
/-! BubbleTorus$Net.escapeLets -/
theorem d_N_escapeLets_0 : decode m_N_escapeLets.2.1 0 = .ok (.aload_n 0, 1) := by decide +kernel
theorem d_N_escapeLets_1 : decode m_N_escapeLets.2.1 1 = .ok (.iload_n 1, 1) := by decide +kernel
theorem d_N_escapeLets_2 : decode m_N_escapeLets.2.1 2 = .ok (.iload_n 2, 1) := by decide +kernel
theorem d_N_escapeLets_3 : decode m_N_escapeLets.2.1 3 = .ok (.iload_n 3, 1) := by decide +kernel
theorem d_N_escapeLets_4 : decode m_N_escapeLets.2.1 4 = .ok (.invokevirtual 190, 3) := by decide +kernel
theorem d_N_escapeLets_7 : decode m_N_escapeLets.2.1 7 = .ok (.ifCond .ne 5, 3) := by decide +kernel
theorem d_N_escapeLets_10 : decode m_N_escapeLets.2.1 10 = .ok (.iconst 0, 1) := by decide +kernel
theorem d_N_escapeLets_11 : decode m_N_escapeLets.2.1 11 = .ok (.ireturn, 1) := by decide +kernel
theorem d_N_escapeLets_12 : decode m_N_escapeLets.2.1 12 = .ok (.iload_n 2, 1) := by decide +kernel
theorem d_N_escapeLets_13 : decode m_N_escapeLets.2.1 13 = .ok (.iconst 1, 1) := by decide +kernel
theorem d_N_escapeLets_14 : decode m_N_escapeLets.2.1 14 = .ok (.iload_n 3, 1) := by decide +kernel
theorem d_N_escapeLets_15 : decode m_N_escapeLets.2.1 15 = .ok (.iadd, 1) := by decide +kernel
theorem d_N_escapeLets_16 : decode m_N_escapeLets.2.1 16 = .ok (.if_icmp .ne 20, 3) := by decide +kernel
theorem d_N_escapeLets_19 : decode m_N_escapeLets.2.1 19 = .ok (.aload_n 0, 1) := by decide +kernel
theorem d_N_escapeLets_20 : decode m_N_escapeLets.2.1 20 = .ok (.iload_n 1, 1) := by decide +kernel
theorem d_N_escapeLets_21 : decode m_N_escapeLets.2.1 21 = .ok (.iload_n 3, 1) := by decide +kernel
theorem d_N_escapeLets_22 : decode m_N_escapeLets.2.1 22 = .ok (.invokevirtual 205, 3) := by decide +kernel
theorem d_N_escapeLets_25 : decode m_N_escapeLets.2.1 25 = .ok (.ifCond .le 7, 3) := by decide +kernel
theorem d_N_escapeLets_28 : decode m_N_escapeLets.2.1 28 = .ok (.iconst 1, 1) := by decide +kernel
theorem d_N_escapeLets_29 : decode m_N_escapeLets.2.1 29 = .ok (.goto 13, 3) := by decide +kernel
theorem d_N_escapeLets_32 : decode m_N_escapeLets.2.1 32 = .ok (.iconst 0, 1) := by decide +kernel
theorem d_N_escapeLets_33 : decode m_N_escapeLets.2.1 33 = .ok (.goto 9, 3) := by decide +kernel
theorem d_N_escapeLets_36 : decode m_N_escapeLets.2.1 36 = .ok (.aload_n 0, 1) := by decide +kernel
theorem d_N_escapeLets_37 : decode m_N_escapeLets.2.1 37 = .ok (.iload_n 1, 1) := by decide +kernel
theorem d_N_escapeLets_38 : decode m_N_escapeLets.2.1 38 = .ok (.iload_n 3, 1) := by decide +kernel
theorem d_N_escapeLets_39 : decode m_N_escapeLets.2.1 39 = .ok (.invokevirtual 208, 3) := by decide +kernel
theorem d_N_escapeLets_42 : decode m_N_escapeLets.2.1 42 = .ok (.ireturn, 1) := by decide +kernel
def f_N_escapeLets (o : Nat) (x1 : Int) (x2 : Int) (x3 : Int) (w : qMem) : Option (Int × qMem) :=
  (f_N_isEscape o x1 x2 x3 w).bind fun q1 =>
  if q1.1 = 0 then
  some (0, q1.2)
  else
  if x2 = (w32 (1 + x3)) then
  (f_N_freeAhead o x1 x3 q1.2).bind fun q4 =>
  if q4.1 ≤ 0 then
  some (0, q4.2)
  else
  some (1, q4.2)
  else
  (f_N_ruleLets o x1 x3 q1.2).bind fun q6 =>
  some (q6.1, q6.2)
set_option maxRecDepth 4000 in
theorem s_N_escapeLets {ph : Nat} {o : Nat} (x1 : Int) (x2 : Int) (x3 : Int) (hI : qIs kLN ph o) (w : qMem) : qSim κI ph ph m_N_escapeLets 0 [] [some (qR o), some (qI x1), some (qI x2), some (qI x3)] w (f_N_escapeLets o x1 x2 x3 w) := by
  unfold f_N_escapeLets
  refine z_aload_n d_N_escapeLets_0 rfl ?_
  refine z_iload_n d_N_escapeLets_1 rfl ?_
  refine z_iload_n d_N_escapeLets_2 rfl ?_
  refine z_iload_n d_N_escapeLets_3 rfl ?_
  refine z_cVI (as := [qI x1, qI x2, qI x3]) (st := []) (nl := 1) (ci := 3) d_N_escapeLets_4 lk_N_190 mk_N_isEscape rfl rfl (hI 0 _ rfl).1 rfl rfl rfl (s_N_isEscape _ _ _ hI _) (fun q1 _ hq1 => ?_)
  refine z_if_ne (tgt := 12) d_N_escapeLets_7 rfl (fun c2 => ?_) (fun c2 => ?_)
  · refine z_ic0 d_N_escapeLets_10 ?_
    exact z_zret d_N_escapeLets_11 rfl rfl (Or.inl rfl)
  · refine z_iload_n d_N_escapeLets_12 rfl ?_
    refine z_ic1 d_N_escapeLets_13 ?_
    refine z_iload_n d_N_escapeLets_14 rfl ?_
    refine z_iadd d_N_escapeLets_15 ?_
    refine z_icmp_ne (tgt := 36) d_N_escapeLets_16 rfl (fun c3 => ?_) (fun c3 => ?_)
    · refine z_aload_n d_N_escapeLets_19 rfl ?_
      refine z_iload_n d_N_escapeLets_20 rfl ?_
      refine z_iload_n d_N_escapeLets_21 rfl ?_
      refine z_cVI (as := [qI x1, qI x3]) (st := []) (nl := 0) (ci := 3) d_N_escapeLets_22 lk_N_205 mk_N_freeAhead rfl rfl (hI 0 _ rfl).1 rfl rfl rfl (s_N_freeAhead _ _ hI _) (fun q4 _ hq4 => ?_)
      refine z_if_le (tgt := 32) d_N_escapeLets_25 rfl (fun c5 => ?_) (fun c5 => ?_)
      · refine z_ic0 d_N_escapeLets_32 ?_
        refine z_goto (tgt := 42) d_N_escapeLets_33 rfl ?_
        exact z_zret d_N_escapeLets_42 rfl rfl (Or.inl rfl)
      · refine z_ic1 d_N_escapeLets_28 ?_
        refine z_goto (tgt := 42) d_N_escapeLets_29 rfl ?_
        exact z_zret d_N_escapeLets_42 rfl rfl (Or.inr rfl)
    · refine z_aload_n d_N_escapeLets_36 rfl ?_
      refine z_iload_n d_N_escapeLets_37 rfl ?_
      refine z_iload_n d_N_escapeLets_38 rfl ?_
      refine z_cVI (as := [qI x1, qI x3]) (st := []) (nl := 1) (ci := 3) d_N_escapeLets_39 lk_N_208 mk_N_ruleLets rfl rfl (hI 0 _ rfl).1 rfl rfl rfl (s_N_ruleLets _ _ hI _) (fun q6 _ hq6 => ?_)
      exact z_zret d_N_escapeLets_42 rfl rfl (q_boo rfl hq6)
