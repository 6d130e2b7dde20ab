/-! BubbleTorus$Net.continues -/
theorem d_N_continues_0 : decode m_N_continues.2.1 0 = .ok (.iload_n 2, 1) := by decide +kernel
theorem d_N_continues_1 : decode m_N_continues.2.1 1 = .ok (.iconst 1, 1) := by decide +kernel
theorem d_N_continues_2 : decode m_N_continues.2.1 2 = .ok (.iload_n 3, 1) := by decide +kernel
theorem d_N_continues_3 : decode m_N_continues.2.1 3 = .ok (.iadd, 1) := by decide +kernel
theorem d_N_continues_4 : decode m_N_continues.2.1 4 = .ok (.if_icmp .ne 17, 3) := by decide +kernel
theorem d_N_continues_7 : decode m_N_continues.2.1 7 = .ok (.aload_n 0, 1) := by decide +kernel
theorem d_N_continues_8 : decode m_N_continues.2.1 8 = .ok (.iload_n 1, 1) := by decide +kernel
theorem d_N_continues_9 : decode m_N_continues.2.1 9 = .ok (.iload_n 2, 1) := by decide +kernel
theorem d_N_continues_10 : decode m_N_continues.2.1 10 = .ok (.iload_n 3, 1) := by decide +kernel
theorem d_N_continues_11 : decode m_N_continues.2.1 11 = .ok (.invokevirtual 190, 3) := by decide +kernel
theorem d_N_continues_14 : decode m_N_continues.2.1 14 = .ok (.ifCond .eq 7, 3) := by decide +kernel
theorem d_N_continues_17 : decode m_N_continues.2.1 17 = .ok (.iconst 1, 1) := by decide +kernel
theorem d_N_continues_18 : decode m_N_continues.2.1 18 = .ok (.goto 4, 3) := by decide +kernel
theorem d_N_continues_21 : decode m_N_continues.2.1 21 = .ok (.iconst 0, 1) := by decide +kernel
theorem d_N_continues_22 : decode m_N_continues.2.1 22 = .ok (.ireturn, 1) := by decide +kernel
def f_N_continues (o : Nat) (x1 : Int) (x2 : Int) (x3 : Int) (w : qMem) : Option (Int × qMem) :=
  if x2 = (w32 (1 + x3)) then
  (f_N_isEscape o x1 x2 x3 w).bind fun q2 =>
  if q2.1 = 0 then
  some (0, q2.2)
  else
  some (1, q2.2)
  else
  some (0, w)
set_option maxRecDepth 4000 in
theorem s_N_continues {ph : Nat} {o : Nat} (x1 : Int) (x2 : Int) (x3 : Int) (hI : qIs kLN ph o) (w : qMem) : qSim κI ph ph m_N_continues 0 [] [some (qR o), some (qI x1), some (qI x2), some (qI x3)] w (f_N_continues o x1 x2 x3 w) := by
  unfold f_N_continues
  refine z_iload_n d_N_continues_0 rfl ?_
  refine z_ic1 d_N_continues_1 ?_
  refine z_iload_n d_N_continues_2 rfl ?_
  refine z_iadd d_N_continues_3 ?_
  refine z_icmp_ne (tgt := 21) d_N_continues_4 rfl (fun c1 => ?_) (fun c1 => ?_)
  · refine z_aload_n d_N_continues_7 rfl ?_
    refine z_iload_n d_N_continues_8 rfl ?_
    refine z_iload_n d_N_continues_9 rfl ?_
    refine z_iload_n d_N_continues_10 rfl ?_
    refine z_cVI (as := [qI x1, qI x2, qI x3]) (st := []) (nl := 1) (ci := 3) d_N_continues_11 lk_N_190 mk_N_isEscape rfl rfl (hI 0 _ rfl).1 rfl rfl rfl (s_N_isEscape _ _ _ hI _) (fun q2 _ hq2 => ?_)
    refine z_if_eq (tgt := 21) d_N_continues_14 rfl (fun c3 => ?_) (fun c3 => ?_)
    · refine z_ic0 d_N_continues_21 ?_
      exact z_zret d_N_continues_22 rfl rfl (Or.inl rfl)
    · refine z_ic1 d_N_continues_17 ?_
      refine z_goto (tgt := 22) d_N_continues_18 rfl ?_
      exact z_zret d_N_continues_22 rfl rfl (Or.inr rfl)
  · refine z_ic0 d_N_continues_21 ?_
    exact z_zret d_N_continues_22 rfl rfl (Or.inl rfl)
/-! BubbleTorus$Net.isBarred -/
theorem d_N_isBarred_0 : decode m_N_isBarred.2.1 0 = .ok (.aload_n 0, 1) := by decide +kernel
theorem d_N_isBarred_1 : decode m_N_isBarred.2.1 1 = .ok (.getfield 42, 3) := by decide +kernel
theorem d_N_isBarred_4 : decode m_N_isBarred.2.1 4 = .ok (.getfield 220, 3) := by decide +kernel
theorem d_N_isBarred_7 : decode m_N_isBarred.2.1 7 = .ok (.aload_n 0, 1) := by decide +kernel
theorem d_N_isBarred_8 : decode m_N_isBarred.2.1 8 = .ok (.getfield 12, 3) := by decide +kernel
theorem d_N_isBarred_11 : decode m_N_isBarred.2.1 11 = .ok (.iload_n 1, 1) := by decide +kernel
theorem d_N_isBarred_12 : decode m_N_isBarred.2.1 12 = .ok (.iload_n 2, 1) := by decide +kernel
theorem d_N_isBarred_13 : decode m_N_isBarred.2.1 13 = .ok (.invokevirtual 217, 3) := by decide +kernel
theorem d_N_isBarred_16 : decode m_N_isBarred.2.1 16 = .ok (.iaload, 1) := by decide +kernel
theorem d_N_isBarred_17 : decode m_N_isBarred.2.1 17 = .ok (.iload_n 1, 1) := by decide +kernel
theorem d_N_isBarred_18 : decode m_N_isBarred.2.1 18 = .ok (.ishr, 1) := by decide +kernel
theorem d_N_isBarred_19 : decode m_N_isBarred.2.1 19 = .ok (.iconst 1, 1) := by decide +kernel
theorem d_N_isBarred_20 : decode m_N_isBarred.2.1 20 = .ok (.iand, 1) := by decide +kernel
theorem d_N_isBarred_21 : decode m_N_isBarred.2.1 21 = .ok (.iconst 1, 1) := by decide +kernel
theorem d_N_isBarred_22 : decode m_N_isBarred.2.1 22 = .ok (.if_icmp .ne 7, 3) := by decide +kernel
theorem d_N_isBarred_25 : decode m_N_isBarred.2.1 25 = .ok (.iconst 1, 1) := by decide +kernel
theorem d_N_isBarred_26 : decode m_N_isBarred.2.1 26 = .ok (.goto 4, 3) := by decide +kernel
theorem d_N_isBarred_29 : decode m_N_isBarred.2.1 29 = .ok (.iconst 0, 1) := by decide +kernel
theorem d_N_isBarred_30 : decode m_N_isBarred.2.1 30 = .ok (.ireturn, 1) := by decide +kernel
def f_N_isBarred (o : Nat) (x1 : Int) (x2 : Int) (w : qMem) : Option (Int × qMem) :=
  (f_G_ringIndex (o + 1) x1 x2 w).bind fun q1 =>
  qld q1.2 (o + 28) 16 q1.1 fun v2 =>
  if (jand (jshr v2 x1) 1) = 1 then
  some (1, q1.2)
  else
  some (0, q1.2)
set_option maxRecDepth 4000 in
theorem s_N_isBarred {ph : Nat} {o : Nat} (x1 : Int) (x2 : Int) (hI : qIs kLN ph o) (w : qMem) : qSim κI ph ph m_N_isBarred 0 [] [some (qR o), some (qI x1), some (qI x2)] w (f_N_isBarred o x1 x2 w) := by
  unfold f_N_isBarred
  refine z_aload_n d_N_isBarred_0 rfl ?_
  refine z_gr (ci := 3) (j := 4) (d := 24) (o2 := (o + 24)) d_N_isBarred_1 rfl fl_N_42 (hI 0 _ rfl).1 ((hI 0 _ rfl).2 (Nat.le_of_ble_eq_true rfl)) rfl rfl ?_
  refine z_gr (ci := 7) (j := 3) (d := 4) (o2 := (o + 28)) d_N_isBarred_4 rfl fl_N_220 (hI 24 _ rfl).1 ((hI 24 _ rfl).2 (Nat.le_of_ble_eq_true rfl)) rfl rfl ?_
  refine z_aload_n d_N_isBarred_7 rfl ?_
  refine z_gr (ci := 3) (j := 0) (d := 1) (o2 := (o + 1)) d_N_isBarred_8 rfl fl_N_12 (hI 0 _ rfl).1 ((hI 0 _ rfl).2 (Nat.le_of_ble_eq_true rfl)) rfl rfl ?_
  refine z_iload_n d_N_isBarred_11 rfl ?_
  refine z_iload_n d_N_isBarred_12 rfl ?_
  refine z_cVI (as := [qI x1, qI x2]) (st := [qR (o + 28)]) (nl := 2) (ci := 0) d_N_isBarred_13 lk_N_217 mk_G_ringIndex rfl rfl (hI 1 _ rfl).1 rfl rfl rfl (s_G_ringIndex _ _ (is_N_G hI) _) (fun q1 _ hq1 => ?_)
  refine z_il d_N_isBarred_16 (hI 28 _ rfl).1 rfl (fun v2 => ?_)
  refine z_iload_n d_N_isBarred_17 rfl ?_
  refine z_ishr d_N_isBarred_18 ?_
  refine z_ic1 d_N_isBarred_19 ?_
  refine z_iand d_N_isBarred_20 ?_
  refine z_ic1 d_N_isBarred_21 ?_
  refine z_icmp_ne (tgt := 29) d_N_isBarred_22 rfl (fun c3 => ?_) (fun c3 => ?_)
  · refine z_ic1 d_N_isBarred_25 ?_
    refine z_goto (tgt := 30) d_N_isBarred_26 rfl ?_
    exact z_zret d_N_isBarred_30 rfl rfl (Or.inr rfl)
  · refine z_ic0 d_N_isBarred_29 ?_
    exact z_zret d_N_isBarred_30 rfl rfl (Or.inl rfl)
/-! BubbleTorus$Net.canGo -/
theorem d_N_canGo_0 : decode m_N_canGo.2.1 0 = .ok (.aload_n 0, 1) := by decide +kernel
theorem d_N_canGo_1 : decode m_N_canGo.2.1 1 = .ok (.iload_n 1, 1) := by decide +kernel
theorem d_N_canGo_2 : decode m_N_canGo.2.1 2 = .ok (.iload_n 2, 1) := by decide +kernel
theorem d_N_canGo_3 : decode m_N_canGo.2.1 3 = .ok (.iload_n 3, 1) := by decide +kernel
theorem d_N_canGo_4 : decode m_N_canGo.2.1 4 = .ok (.invokevirtual 180, 3) := by decide +kernel
theorem d_N_canGo_7 : decode m_N_canGo.2.1 7 = .ok (.ifCond .eq 5, 3) := by decide +kernel
theorem d_N_canGo_10 : decode m_N_canGo.2.1 10 = .ok (.iconst 1, 1) := by decide +kernel
theorem d_N_canGo_11 : decode m_N_canGo.2.1 11 = .ok (.ireturn, 1) := by decide +kernel
theorem d_N_canGo_12 : decode m_N_canGo.2.1 12 = .ok (.aload_n 0, 1) := by decide +kernel
theorem d_N_canGo_13 : decode m_N_canGo.2.1 13 = .ok (.iload_n 1, 1) := by decide +kernel
theorem d_N_canGo_14 : decode m_N_canGo.2.1 14 = .ok (.iload_n 2, 1) := by decide +kernel
theorem d_N_canGo_15 : decode m_N_canGo.2.1 15 = .ok (.iload_n 3, 1) := by decide +kernel
theorem d_N_canGo_16 : decode m_N_canGo.2.1 16 = .ok (.invokevirtual 183, 3) := by decide +kernel
theorem d_N_canGo_19 : decode m_N_canGo.2.1 19 = .ok (.ifCond .eq 26, 3) := by decide +kernel
theorem d_N_canGo_22 : decode m_N_canGo.2.1 22 = .ok (.aload_n 0, 1) := by decide +kernel
theorem d_N_canGo_23 : decode m_N_canGo.2.1 23 = .ok (.iload_n 1, 1) := by decide +kernel
theorem d_N_canGo_24 : decode m_N_canGo.2.1 24 = .ok (.iload_n 2, 1) := by decide +kernel
theorem d_N_canGo_25 : decode m_N_canGo.2.1 25 = .ok (.iload_n 3, 1) := by decide +kernel
theorem d_N_canGo_26 : decode m_N_canGo.2.1 26 = .ok (.invokevirtual 177, 3) := by decide +kernel
theorem d_N_canGo_29 : decode m_N_canGo.2.1 29 = .ok (.ifCond .ne 12, 3) := by decide +kernel
theorem d_N_canGo_32 : decode m_N_canGo.2.1 32 = .ok (.aload_n 0, 1) := by decide +kernel
theorem d_N_canGo_33 : decode m_N_canGo.2.1 33 = .ok (.iload_n 1, 1) := by decide +kernel
theorem d_N_canGo_34 : decode m_N_canGo.2.1 34 = .ok (.iload_n 3, 1) := by decide +kernel
theorem d_N_canGo_35 : decode m_N_canGo.2.1 35 = .ok (.invokevirtual 186, 3) := by decide +kernel
theorem d_N_canGo_38 : decode m_N_canGo.2.1 38 = .ok (.ifCond .ne 7, 3) := by decide +kernel
theorem d_N_canGo_41 : decode m_N_canGo.2.1 41 = .ok (.iconst 1, 1) := by decide +kernel
theorem d_N_canGo_42 : decode m_N_canGo.2.1 42 = .ok (.goto 4, 3) := by decide +kernel
theorem d_N_canGo_45 : decode m_N_canGo.2.1 45 = .ok (.iconst 0, 1) := by decide +kernel
theorem d_N_canGo_46 : decode m_N_canGo.2.1 46 = .ok (.ireturn, 1) := by decide +kernel
def f_N_canGo (o : Nat) (x1 : Int) (x2 : Int) (x3 : Int) (w : qMem) : Option (Int × qMem) :=
  (f_N_adaptiveLets o x1 x2 x3 w).bind fun q1 =>
  if q1.1 = 0 then
  (f_N_escapeLets o x1 x2 x3 q1.2).bind fun q3 =>
  if q3.1 = 0 then
  some (0, q3.2)
  else
  (f_N_continues o x1 x2 x3 q3.2).bind fun q5 =>
  if q5.1 = 0 then
  (f_N_isBarred o x1 x3 q5.2).bind fun q7 =>
  if q7.1 = 0 then
  some (1, q7.2)
  else
  some (0, q7.2)
  else
  some (1, q5.2)
  else
  some (1, q1.2)
set_option maxRecDepth 4000 in
theorem s_N_canGo {ph : Nat} {o : Nat} (x1 : Int) (x2 : Int) (x3 : Int) (hI : qIs kLN ph o) (w : qMem) : qSim κI ph ph m_N_canGo 0 [] [some (qR o), some (qI x1), some (qI x2), some (qI x3)] w (f_N_canGo o x1 x2 x3 w) := by
  unfold f_N_canGo
  refine z_aload_n d_N_canGo_0 rfl ?_
  refine z_iload_n d_N_canGo_1 rfl ?_
  refine z_iload_n d_N_canGo_2 rfl ?_
  refine z_iload_n d_N_canGo_3 rfl ?_
  refine z_cVI (as := [qI x1, qI x2, qI x3]) (st := []) (nl := 0) (ci := 3) d_N_canGo_4 lk_N_180 mk_N_adaptiveLets rfl rfl (hI 0 _ rfl).1 rfl rfl rfl (s_N_adaptiveLets _ _ _ hI _) (fun q1 _ hq1 => ?_)
  refine z_if_eq (tgt := 12) d_N_canGo_7 rfl (fun c2 => ?_) (fun c2 => ?_)
  · refine z_aload_n d_N_canGo_12 rfl ?_
    refine z_iload_n d_N_canGo_13 rfl ?_
    refine z_iload_n d_N_canGo_14 rfl ?_
    refine z_iload_n d_N_canGo_15 rfl ?_
    refine z_cVI (as := [qI x1, qI x2, qI x3]) (st := []) (nl := 0) (ci := 3) d_N_canGo_16 lk_N_183 mk_N_escapeLets rfl rfl (hI 0 _ rfl).1 rfl rfl rfl (s_N_escapeLets _ _ _ hI _) (fun q3 _ hq3 => ?_)
    refine z_if_eq (tgt := 45) d_N_canGo_19 rfl (fun c4 => ?_) (fun c4 => ?_)
    · refine z_ic0 d_N_canGo_45 ?_
      exact z_zret d_N_canGo_46 rfl rfl (Or.inl rfl)
    · refine z_aload_n d_N_canGo_22 rfl ?_
      refine z_iload_n d_N_canGo_23 rfl ?_
      refine z_iload_n d_N_canGo_24 rfl ?_
      refine z_iload_n d_N_canGo_25 rfl ?_
      refine z_cVI (as := [qI x1, qI x2, qI x3]) (st := []) (nl := 0) (ci := 3) d_N_canGo_26 lk_N_177 mk_N_continues rfl rfl (hI 0 _ rfl).1 rfl rfl rfl (s_N_continues _ _ _ hI _) (fun q5 _ hq5 => ?_)
      refine z_if_ne (tgt := 41) d_N_canGo_29 rfl (fun c6 => ?_) (fun c6 => ?_)
      · refine z_aload_n d_N_canGo_32 rfl ?_
        refine z_iload_n d_N_canGo_33 rfl ?_
        refine z_iload_n d_N_canGo_34 rfl ?_
        refine z_cVI (as := [qI x1, qI x3]) (st := []) (nl := 0) (ci := 3) d_N_canGo_35 lk_N_186 mk_N_isBarred rfl rfl (hI 0 _ rfl).1 rfl rfl rfl (s_N_isBarred _ _ hI _) (fun q7 _ hq7 => ?_)
        refine z_if_ne (tgt := 45) d_N_canGo_38 rfl (fun c8 => ?_) (fun c8 => ?_)
        · refine z_ic1 d_N_canGo_41 ?_
          refine z_goto (tgt := 46) d_N_canGo_42 rfl ?_
          exact z_zret d_N_canGo_46 rfl rfl (Or.inr rfl)
        · refine z_ic0 d_N_canGo_45 ?_
          exact z_zret d_N_canGo_46 rfl rfl (Or.inl rfl)
      · refine z_ic1 d_N_canGo_41 ?_
        refine z_goto (tgt := 46) d_N_canGo_42 rfl ?_
        exact z_zret d_N_canGo_46 rfl rfl (Or.inr rfl)
  · refine z_ic1 d_N_canGo_10 ?_
    exact z_zret d_N_canGo_11 rfl rfl (Or.inr rfl)
/-! BubbleTorus$Net.chosenQueue -/
theorem d_N_chosenQueue_0 : decode m_N_chosenQueue.2.1 0 = .ok (.iconst (-1), 1) := by decide +kernel
theorem d_N_chosenQueue_1 : decode m_N_chosenQueue.2.1 1 = .ok (.istore_n 3, 1) := by decide +kernel
theorem d_N_chosenQueue_2 : decode m_N_chosenQueue.2.1 2 = .ok (.iconst (-1), 1) := by decide +kernel
theorem d_N_chosenQueue_3 : decode m_N_chosenQueue.2.1 3 = .ok (.istore 4, 2) := by decide +kernel
theorem d_N_chosenQueue_5 : decode m_N_chosenQueue.2.1 5 = .ok (.iconst 0, 1) := by decide +kernel
theorem d_N_chosenQueue_6 : decode m_N_chosenQueue.2.1 6 = .ok (.istore 5, 2) := by decide +kernel
theorem d_N_chosenQueue_8 : decode m_N_chosenQueue.2.1 8 = .ok (.iload 5, 2) := by decide +kernel
theorem d_N_chosenQueue_10 : decode m_N_chosenQueue.2.1 10 = .ok (.bipush 9, 2) := by decide +kernel
theorem d_N_chosenQueue_12 : decode m_N_chosenQueue.2.1 12 = .ok (.if_icmp .ge 96, 3) := by decide +kernel
theorem d_N_chosenQueue_15 : decode m_N_chosenQueue.2.1 15 = .ok (.aload_n 0, 1) := by decide +kernel
theorem d_N_chosenQueue_16 : decode m_N_chosenQueue.2.1 16 = .ok (.getfield 28, 3) := by decide +kernel
theorem d_N_chosenQueue_19 : decode m_N_chosenQueue.2.1 19 = .ok (.iload_n 1, 1) := by decide +kernel
theorem d_N_chosenQueue_20 : decode m_N_chosenQueue.2.1 20 = .ok (.bipush 9, 2) := by decide +kernel
theorem d_N_chosenQueue_22 : decode m_N_chosenQueue.2.1 22 = .ok (.imul, 1) := by decide +kernel
theorem d_N_chosenQueue_23 : decode m_N_chosenQueue.2.1 23 = .ok (.iload 5, 2) := by decide +kernel
theorem d_N_chosenQueue_25 : decode m_N_chosenQueue.2.1 25 = .ok (.iadd, 1) := by decide +kernel
theorem d_N_chosenQueue_26 : decode m_N_chosenQueue.2.1 26 = .ok (.invokevirtual 156, 3) := by decide +kernel
theorem d_N_chosenQueue_29 : decode m_N_chosenQueue.2.1 29 = .ok (.istore 6, 2) := by decide +kernel
theorem d_N_chosenQueue_31 : decode m_N_chosenQueue.2.1 31 = .ok (.iload 6, 2) := by decide +kernel
theorem d_N_chosenQueue_33 : decode m_N_chosenQueue.2.1 33 = .ok (.iconst (-1), 1) := by decide +kernel
theorem d_N_chosenQueue_34 : decode m_N_chosenQueue.2.1 34 = .ok (.if_icmp .eq 68, 3) := by decide +kernel
theorem d_N_chosenQueue_37 : decode m_N_chosenQueue.2.1 37 = .ok (.aload_n 0, 1) := by decide +kernel
theorem d_N_chosenQueue_38 : decode m_N_chosenQueue.2.1 38 = .ok (.getfield 21, 3) := by decide +kernel
theorem d_N_chosenQueue_41 : decode m_N_chosenQueue.2.1 41 = .ok (.getfield 170, 3) := by decide +kernel
theorem d_N_chosenQueue_44 : decode m_N_chosenQueue.2.1 44 = .ok (.iload 6, 2) := by decide +kernel
theorem d_N_chosenQueue_46 : decode m_N_chosenQueue.2.1 46 = .ok (.iaload, 1) := by decide +kernel
theorem d_N_chosenQueue_47 : decode m_N_chosenQueue.2.1 47 = .ok (.aload_n 0, 1) := by decide +kernel
theorem d_N_chosenQueue_48 : decode m_N_chosenQueue.2.1 48 = .ok (.getfield 63, 3) := by decide +kernel
theorem d_N_chosenQueue_51 : decode m_N_chosenQueue.2.1 51 = .ok (.if_icmp .eq 51, 3) := by decide +kernel
theorem d_N_chosenQueue_54 : decode m_N_chosenQueue.2.1 54 = .ok (.aload_n 0, 1) := by decide +kernel
theorem d_N_chosenQueue_55 : decode m_N_chosenQueue.2.1 55 = .ok (.iload_n 1, 1) := by decide +kernel
theorem d_N_chosenQueue_56 : decode m_N_chosenQueue.2.1 56 = .ok (.iload 5, 2) := by decide +kernel
theorem d_N_chosenQueue_58 : decode m_N_chosenQueue.2.1 58 = .ok (.iload_n 2, 1) := by decide +kernel
theorem d_N_chosenQueue_59 : decode m_N_chosenQueue.2.1 59 = .ok (.invokevirtual 173, 3) := by decide +kernel
theorem d_N_chosenQueue_62 : decode m_N_chosenQueue.2.1 62 = .ok (.ifCond .ne 6, 3) := by decide +kernel
theorem d_N_chosenQueue_65 : decode m_N_chosenQueue.2.1 65 = .ok (.goto 37, 3) := by decide +kernel
theorem d_N_chosenQueue_68 : decode m_N_chosenQueue.2.1 68 = .ok (.aload_n 0, 1) := by decide +kernel
theorem d_N_chosenQueue_69 : decode m_N_chosenQueue.2.1 69 = .ok (.iload_n 1, 1) := by decide +kernel
theorem d_N_chosenQueue_70 : decode m_N_chosenQueue.2.1 70 = .ok (.iload 5, 2) := by decide +kernel
theorem d_N_chosenQueue_72 : decode m_N_chosenQueue.2.1 72 = .ok (.iload_n 2, 1) := by decide +kernel
theorem d_N_chosenQueue_73 : decode m_N_chosenQueue.2.1 73 = .ok (.invokevirtual 177, 3) := by decide +kernel
theorem d_N_chosenQueue_76 : decode m_N_chosenQueue.2.1 76 = .ok (.ifCond .eq 6, 3) := by decide +kernel
theorem d_N_chosenQueue_79 : decode m_N_chosenQueue.2.1 79 = .ok (.iload 5, 2) := by decide +kernel
theorem d_N_chosenQueue_81 : decode m_N_chosenQueue.2.1 81 = .ok (.ireturn, 1) := by decide +kernel
theorem d_N_chosenQueue_82 : decode m_N_chosenQueue.2.1 82 = .ok (.iload 4, 2) := by decide +kernel
theorem d_N_chosenQueue_84 : decode m_N_chosenQueue.2.1 84 = .ok (.iconst (-1), 1) := by decide +kernel
theorem d_N_chosenQueue_85 : decode m_N_chosenQueue.2.1 85 = .ok (.if_icmp .eq 10, 3) := by decide +kernel
theorem d_N_chosenQueue_88 : decode m_N_chosenQueue.2.1 88 = .ok (.iload 6, 2) := by decide +kernel
theorem d_N_chosenQueue_90 : decode m_N_chosenQueue.2.1 90 = .ok (.iload 4, 2) := by decide +kernel
theorem d_N_chosenQueue_92 : decode m_N_chosenQueue.2.1 92 = .ok (.if_icmp .ge 10, 3) := by decide +kernel
theorem d_N_chosenQueue_95 : decode m_N_chosenQueue.2.1 95 = .ok (.iload 6, 2) := by decide +kernel
theorem d_N_chosenQueue_97 : decode m_N_chosenQueue.2.1 97 = .ok (.istore 4, 2) := by decide +kernel
theorem d_N_chosenQueue_99 : decode m_N_chosenQueue.2.1 99 = .ok (.iload 5, 2) := by decide +kernel
theorem d_N_chosenQueue_101 : decode m_N_chosenQueue.2.1 101 = .ok (.istore_n 3, 1) := by decide +kernel
theorem d_N_chosenQueue_102 : decode m_N_chosenQueue.2.1 102 = .ok (.iinc 5 1, 3) := by decide +kernel
theorem d_N_chosenQueue_105 : decode m_N_chosenQueue.2.1 105 = .ok (.goto (-97), 3) := by decide +kernel
theorem d_N_chosenQueue_108 : decode m_N_chosenQueue.2.1 108 = .ok (.iload_n 3, 1) := by decide +kernel
theorem d_N_chosenQueue_109 : decode m_N_chosenQueue.2.1 109 = .ok (.ireturn, 1) := by decide +kernel
def f_N_chosenQueue_95 (o : Nat) (r8 : Int → Int → Int → Int → Int → qMem → Option (Int × qMem)) (x1 x2 x5 x6 : Int) (w : qMem) : Option (Int × qMem) :=
  r8 x1 x2 x5 x6 (w32 (x5 + 1)) w
set_option maxRecDepth 4000 in
theorem s_N_chosenQueue_95 {ph : Nat} {o : Nat} (hI : qIs kLN ph o) {r8 : Int → Int → Int → Int → Int → qMem → Option (Int × qMem)} (hr8 : ∀ x1 x2 x3 x4 x5 w, qSim κI ph ph m_N_chosenQueue 8 [] [some (qR o), some (qI x1), some (qI x2), some (qI x3), some (qI x4), some (qI x5), none] w (r8 x1 x2 x3 x4 x5 w)) : ∀ (x1 x2 x5 x6 : Int) (w : qMem), qSim κI ph ph m_N_chosenQueue 95 [] [some (qR o), some (qI x1), some (qI x2), none, none, some (qI x5), some (qI x6)] w (f_N_chosenQueue_95 o r8 x1 x2 x5 x6 w) := by
  intro x1 x2 x5 x6 w
  unfold f_N_chosenQueue_95
  refine z_iload d_N_chosenQueue_95 rfl ?_
  refine z_istore (pls' := [some (qR o), some (qI x1), some (qI x2), none, some (qI x6), some (qI x5), some (qI x6)]) d_N_chosenQueue_97 (by decide) rfl rfl ?_
  refine z_iload d_N_chosenQueue_99 rfl ?_
  refine z_istore_n (pls' := [some (qR o), some (qI x1), some (qI x2), some (qI x5), some (qI x6), some (qI x5), some (qI x6)]) d_N_chosenQueue_101 (by decide) rfl rfl ?_
  refine z_iinc (pls' := [some (qR o), some (qI x1), some (qI x2), some (qI x5), some (qI x6), some (qI (w32 (x5 + 1))), some (qI x6)]) d_N_chosenQueue_102 (by decide) rfl rfl rfl ?_
  refine z_goto (tgt := 8) d_N_chosenQueue_105 rfl ?_
  refine z_mask [true, true, true, true, true, true, false] ?_
  exact hr8 _ _ _ _ _ _
def f_N_chosenQueue_8 (o : Nat) : Nat → Int → Int → Int → Int → Int → qMem → Option (Int × qMem)
  | 0, _, _, _, _, _, _ => none
  | n + 1, x1, x2, x3, x4, x5, w =>
    if x5 < 9 then
    (f_Q_first (o + 19) (w32 ((w32 (x1 * 9)) + x5)) w).bind fun q2 =>
    if q2.1 = (-1) then
    (f_N_chosenQueue_8 o n) x1 x2 x3 x4 (w32 (x5 + 1)) q2.2
    else
    qld q2.2 (o + 17) 250 q2.1 fun v4 =>
    if v4 = (q2.2 o 10) then
    (f_N_chosenQueue_8 o n) x1 x2 x3 x4 (w32 (x5 + 1)) q2.2
    else
    (f_N_canGo o x1 x5 x2 q2.2).bind fun q6 =>
    if q6.1 = 0 then
    (f_N_chosenQueue_8 o n) x1 x2 x3 x4 (w32 (x5 + 1)) q6.2
    else
    (f_N_continues o x1 x5 x2 q6.2).bind fun q8 =>
    if q8.1 = 0 then
    if x4 = (-1) then
    f_N_chosenQueue_95 o (f_N_chosenQueue_8 o n) x1 x2 x5 q2.1 q8.2
    else
    if q2.1 < x4 then
    f_N_chosenQueue_95 o (f_N_chosenQueue_8 o n) x1 x2 x5 q2.1 q8.2
    else
    (f_N_chosenQueue_8 o n) x1 x2 x3 x4 (w32 (x5 + 1)) q8.2
    else
    some (x5, q8.2)
    else
    some (x3, w)
set_option maxRecDepth 4000 in
theorem s_N_chosenQueue_8 {ph : Nat} {o : Nat} (hI : qIs kLN ph o) : ∀ (n : Nat), ∀ (x1 x2 x3 x4 x5 : Int) (w : qMem), qSim κI ph ph m_N_chosenQueue 8 [] [some (qR o), some (qI x1), some (qI x2), some (qI x3), some (qI x4), some (qI x5), none] w (f_N_chosenQueue_8 o n x1 x2 x3 x4 x5 w) := by
  intro n
  induction n with
  | zero => intro x1 x2 x3 x4 x5 w; exact z_none
  | succ n ih =>
    intro x1 x2 x3 x4 x5 w
    rw [f_N_chosenQueue_8]
    refine z_iload d_N_chosenQueue_8 rfl ?_
    refine z_bipush d_N_chosenQueue_10 ⟨by decide, by decide⟩ ?_
    refine z_icmp_ge (tgt := 108) d_N_chosenQueue_12 rfl (fun c1 => ?_) (fun c1 => ?_)
    · refine z_aload_n d_N_chosenQueue_15 rfl ?_
      refine z_gr (ci := 3) (j := 2) (d := 19) (o2 := (o + 19)) d_N_chosenQueue_16 rfl fl_N_28 (hI 0 _ rfl).1 ((hI 0 _ rfl).2 (Nat.le_of_ble_eq_true rfl)) rfl rfl ?_
      refine z_iload_n d_N_chosenQueue_19 rfl ?_
      refine z_bipush d_N_chosenQueue_20 ⟨by decide, by decide⟩ ?_
      refine z_imul d_N_chosenQueue_22 ?_
      refine z_iload d_N_chosenQueue_23 rfl ?_
      refine z_iadd d_N_chosenQueue_25 ?_
      refine z_cVI (as := [qI (w32 ((w32 (x1 * 9)) + x5))]) (st := []) (nl := 0) (ci := 6) d_N_chosenQueue_26 lk_N_156 mk_Q_first rfl rfl (hI 19 _ rfl).1 rfl rfl rfl (s_Q_first _ (is_N_Q hI) _) (fun q2 _ hq2 => ?_)
      refine z_istore (pls' := [some (qR o), some (qI x1), some (qI x2), some (qI x3), some (qI x4), some (qI x5), some (qI q2.1)]) d_N_chosenQueue_29 (by decide) rfl rfl ?_
      refine z_iload d_N_chosenQueue_31 rfl ?_
      refine z_icm1 d_N_chosenQueue_33 ?_
      refine z_icmp_eq (tgt := 102) d_N_chosenQueue_34 rfl (fun c3 => ?_) (fun c3 => ?_)
      · refine z_iinc (pls' := [some (qR o), some (qI x1), some (qI x2), some (qI x3), some (qI x4), some (qI (w32 (x5 + 1))), some (qI q2.1)]) d_N_chosenQueue_102 (by decide) rfl rfl rfl ?_
        refine z_goto (tgt := 8) d_N_chosenQueue_105 rfl ?_
        refine z_mask [true, true, true, true, true, true, false] ?_
        exact ih _ _ _ _ _ _
      · refine z_aload_n d_N_chosenQueue_37 rfl ?_
        refine z_gr (ci := 3) (j := 1) (d := 5) (o2 := (o + 5)) d_N_chosenQueue_38 rfl fl_N_21 (hI 0 _ rfl).1 ((hI 0 _ rfl).2 (Nat.le_of_ble_eq_true rfl)) rfl rfl ?_
        refine z_gr (ci := 5) (j := 11) (d := 12) (o2 := (o + 17)) d_N_chosenQueue_41 rfl fl_N_170 (hI 5 _ rfl).1 ((hI 5 _ rfl).2 (Nat.le_of_ble_eq_true rfl)) rfl rfl ?_
        refine z_iload d_N_chosenQueue_44 rfl ?_
        refine z_il d_N_chosenQueue_46 (hI 17 _ rfl).1 rfl (fun v4 => ?_)
        refine z_aload_n d_N_chosenQueue_47 rfl ?_
        refine z_gi (ci := 3) (j := 10) (ji := 10) d_N_chosenQueue_48 rfl fl_N_63 (hI 0 _ rfl).1 rfl rfl ?_
        refine z_icmp_eq (tgt := 102) d_N_chosenQueue_51 rfl (fun c5 => ?_) (fun c5 => ?_)
        · refine z_iinc (pls' := [some (qR o), some (qI x1), some (qI x2), some (qI x3), some (qI x4), some (qI (w32 (x5 + 1))), some (qI q2.1)]) d_N_chosenQueue_102 (by decide) rfl rfl rfl ?_
          refine z_goto (tgt := 8) d_N_chosenQueue_105 rfl ?_
          refine z_mask [true, true, true, true, true, true, false] ?_
          exact ih _ _ _ _ _ _
        · refine z_aload_n d_N_chosenQueue_54 rfl ?_
          refine z_iload_n d_N_chosenQueue_55 rfl ?_
          refine z_iload d_N_chosenQueue_56 rfl ?_
          refine z_iload_n d_N_chosenQueue_58 rfl ?_
          refine z_cVI (as := [qI x1, qI x5, qI x2]) (st := []) (nl := 0) (ci := 3) d_N_chosenQueue_59 lk_N_173 mk_N_canGo rfl rfl (hI 0 _ rfl).1 rfl rfl rfl (s_N_canGo _ _ _ hI _) (fun q6 _ hq6 => ?_)
          refine z_if_ne (tgt := 68) d_N_chosenQueue_62 rfl (fun c7 => ?_) (fun c7 => ?_)
          · refine z_goto (tgt := 102) d_N_chosenQueue_65 rfl ?_
            refine z_iinc (pls' := [some (qR o), some (qI x1), some (qI x2), some (qI x3), some (qI x4), some (qI (w32 (x5 + 1))), some (qI q2.1)]) d_N_chosenQueue_102 (by decide) rfl rfl rfl ?_
            refine z_goto (tgt := 8) d_N_chosenQueue_105 rfl ?_
            refine z_mask [true, true, true, true, true, true, false] ?_
            exact ih _ _ _ _ _ _
          · refine z_aload_n d_N_chosenQueue_68 rfl ?_
            refine z_iload_n d_N_chosenQueue_69 rfl ?_
            refine z_iload d_N_chosenQueue_70 rfl ?_
            refine z_iload_n d_N_chosenQueue_72 rfl ?_
            refine z_cVI (as := [qI x1, qI x5, qI x2]) (st := []) (nl := 0) (ci := 3) d_N_chosenQueue_73 lk_N_177 mk_N_continues rfl rfl (hI 0 _ rfl).1 rfl rfl rfl (s_N_continues _ _ _ hI _) (fun q8 _ hq8 => ?_)
            refine z_if_eq (tgt := 82) d_N_chosenQueue_76 rfl (fun c9 => ?_) (fun c9 => ?_)
            · refine z_iload d_N_chosenQueue_82 rfl ?_
              refine z_icm1 d_N_chosenQueue_84 ?_
              refine z_icmp_eq (tgt := 95) d_N_chosenQueue_85 rfl (fun c10 => ?_) (fun c10 => ?_)
              · refine z_mask [true, true, true, false, false, true, true] ?_
                exact s_N_chosenQueue_95 hI ih _ _ _ _ _
              · refine z_iload d_N_chosenQueue_88 rfl ?_
                refine z_iload d_N_chosenQueue_90 rfl ?_
                refine z_icmp_ge (tgt := 102) d_N_chosenQueue_92 rfl (fun c11 => ?_) (fun c11 => ?_)
                · refine z_mask [true, true, true, false, false, true, true] ?_
                  exact s_N_chosenQueue_95 hI ih _ _ _ _ _
                · refine z_iinc (pls' := [some (qR o), some (qI x1), some (qI x2), some (qI x3), some (qI x4), some (qI (w32 (x5 + 1))), some (qI q2.1)]) d_N_chosenQueue_102 (by decide) rfl rfl rfl ?_
                  refine z_goto (tgt := 8) d_N_chosenQueue_105 rfl ?_
                  refine z_mask [true, true, true, true, true, true, false] ?_
                  exact ih _ _ _ _ _ _
            · refine z_iload d_N_chosenQueue_79 rfl ?_
              exact z_iret d_N_chosenQueue_81 rfl rfl
    · refine z_iload_n d_N_chosenQueue_108 rfl ?_
      exact z_iret d_N_chosenQueue_109 rfl rfl
def f_N_chosenQueue (o : Nat) (x1 : Int) (x2 : Int) (w : qMem) : Option (Int × qMem) :=
  f_N_chosenQueue_8 o qFU x1 x2 (-1) (-1) 0 w
set_option maxRecDepth 4000 in
theorem s_N_chosenQueue {ph : Nat} {o : Nat} (x1 : Int) (x2 : Int) (hI : qIs kLN ph o) (w : qMem) : qSim κI ph ph m_N_chosenQueue 0 [] [some (qR o), some (qI x1), some (qI x2), none, none, none, none] w (f_N_chosenQueue o x1 x2 w) := by
  unfold f_N_chosenQueue
  refine z_icm1 d_N_chosenQueue_0 ?_
  refine z_istore_n (pls' := [some (qR o), some (qI x1), some (qI x2), some (qI (-1)), none, none, none]) d_N_chosenQueue_1 (by decide) rfl rfl ?_
  refine z_icm1 d_N_chosenQueue_2 ?_
  refine z_istore (pls' := [some (qR o), some (qI x1), some (qI x2), some (qI (-1)), some (qI (-1)), none, none]) d_N_chosenQueue_3 (by decide) rfl rfl ?_
  refine z_ic0 d_N_chosenQueue_5 ?_
  refine z_istore (pls' := [some (qR o), some (qI x1), some (qI x2), some (qI (-1)), some (qI (-1)), some (qI 0), none]) d_N_chosenQueue_6 (by decide) rfl rfl ?_
  refine z_mask [true, true, true, true, true, true, false] ?_
  exact s_N_chosenQueue_8 hI _ _ _ _ _ _ _
/-! BubbleTorus.firstOfLane -/
theorem d_X_firstOfLane_0 : decode m_X_firstOfLane.2.1 0 = .ok (.iload_n 0, 1) := by decide +kernel
theorem d_X_firstOfLane_1 : decode m_X_firstOfLane.2.1 1 = .ok (.iconst 1, 1) := by decide +kernel
theorem d_X_firstOfLane_2 : decode m_X_firstOfLane.2.1 2 = .ok (.if_icmp .ne 7, 3) := by decide +kernel
theorem d_X_firstOfLane_5 : decode m_X_firstOfLane.2.1 5 = .ok (.iconst 1, 1) := by decide +kernel
theorem d_X_firstOfLane_6 : decode m_X_firstOfLane.2.1 6 = .ok (.goto 4, 3) := by decide +kernel
theorem d_X_firstOfLane_9 : decode m_X_firstOfLane.2.1 9 = .ok (.iconst 5, 1) := by decide +kernel
theorem d_X_firstOfLane_10 : decode m_X_firstOfLane.2.1 10 = .ok (.ireturn, 1) := by decide +kernel
def f_X_firstOfLane (x0 : Int) (w : qMem) : Option (Int × qMem) :=
  if x0 = 1 then
  some (1, w)
  else
  some (5, w)
set_option maxRecDepth 4000 in
theorem s_X_firstOfLane {ph : Nat} (x0 : Int) (w : qMem) : qSim κI ph ph m_X_firstOfLane 0 [] [some (qI x0)] w (f_X_firstOfLane x0 w) := by
  unfold f_X_firstOfLane
  refine z_iload_n d_X_firstOfLane_0 rfl ?_
  refine z_ic1 d_X_firstOfLane_1 ?_
  refine z_icmp_ne (tgt := 9) d_X_firstOfLane_2 rfl (fun c1 => ?_) (fun c1 => ?_)
  · refine z_ic1 d_X_firstOfLane_5 ?_
    refine z_goto (tgt := 10) d_X_firstOfLane_6 rfl ?_
    exact z_iret d_X_firstOfLane_10 rfl rfl
  · refine z_ic5 d_X_firstOfLane_9 ?_
    exact z_iret d_X_firstOfLane_10 rfl rfl
/-! BubbleTorus$Net.shift -/
theorem d_N_shift_0 : decode m_N_shift.2.1 0 = .ok (.iload 4, 2) := by decide +kernel
theorem d_N_shift_2 : decode m_N_shift.2.1 2 = .ok (.iconst 1, 1) := by decide +kernel
theorem d_N_shift_3 : decode m_N_shift.2.1 3 = .ok (.if_icmp .ne 17, 3) := by decide +kernel
theorem d_N_shift_6 : decode m_N_shift.2.1 6 = .ok (.aload_n 0, 1) := by decide +kernel
theorem d_N_shift_7 : decode m_N_shift.2.1 7 = .ok (.iload_n 1, 1) := by decide +kernel
theorem d_N_shift_8 : decode m_N_shift.2.1 8 = .ok (.iload_n 2, 1) := by decide +kernel
theorem d_N_shift_9 : decode m_N_shift.2.1 9 = .ok (.iload_n 3, 1) := by decide +kernel
theorem d_N_shift_10 : decode m_N_shift.2.1 10 = .ok (.invokevirtual 177, 3) := by decide +kernel
theorem d_N_shift_13 : decode m_N_shift.2.1 13 = .ok (.ifCond .eq 7, 3) := by decide +kernel
theorem d_N_shift_16 : decode m_N_shift.2.1 16 = .ok (.iconst 1, 1) := by decide +kernel
theorem d_N_shift_17 : decode m_N_shift.2.1 17 = .ok (.goto 4, 3) := by decide +kernel
theorem d_N_shift_20 : decode m_N_shift.2.1 20 = .ok (.iconst 0, 1) := by decide +kernel
theorem d_N_shift_21 : decode m_N_shift.2.1 21 = .ok (.istore 5, 2) := by decide +kernel
theorem d_N_shift_23 : decode m_N_shift.2.1 23 = .ok (.aload_n 0, 1) := by decide +kernel
theorem d_N_shift_24 : decode m_N_shift.2.1 24 = .ok (.getfield 28, 3) := by decide +kernel
theorem d_N_shift_27 : decode m_N_shift.2.1 27 = .ok (.iload_n 1, 1) := by decide +kernel
theorem d_N_shift_28 : decode m_N_shift.2.1 28 = .ok (.bipush 9, 2) := by decide +kernel
theorem d_N_shift_30 : decode m_N_shift.2.1 30 = .ok (.imul, 1) := by decide +kernel
theorem d_N_shift_31 : decode m_N_shift.2.1 31 = .ok (.iload_n 2, 1) := by decide +kernel
theorem d_N_shift_32 : decode m_N_shift.2.1 32 = .ok (.iadd, 1) := by decide +kernel
theorem d_N_shift_33 : decode m_N_shift.2.1 33 = .ok (.invokevirtual 156, 3) := by decide +kernel
theorem d_N_shift_36 : decode m_N_shift.2.1 36 = .ok (.istore 6, 2) := by decide +kernel
theorem d_N_shift_38 : decode m_N_shift.2.1 38 = .ok (.aload_n 0, 1) := by decide +kernel
theorem d_N_shift_39 : decode m_N_shift.2.1 39 = .ok (.getfield 12, 3) := by decide +kernel
theorem d_N_shift_42 : decode m_N_shift.2.1 42 = .ok (.iload_n 1, 1) := by decide +kernel
theorem d_N_shift_43 : decode m_N_shift.2.1 43 = .ok (.iload_n 3, 1) := by decide +kernel
theorem d_N_shift_44 : decode m_N_shift.2.1 44 = .ok (.invokevirtual 202, 3) := by decide +kernel
theorem d_N_shift_47 : decode m_N_shift.2.1 47 = .ok (.istore 7, 2) := by decide +kernel
theorem d_N_shift_49 : decode m_N_shift.2.1 49 = .ok (.aload_n 0, 1) := by decide +kernel
theorem d_N_shift_50 : decode m_N_shift.2.1 50 = .ok (.getfield 28, 3) := by decide +kernel
theorem d_N_shift_53 : decode m_N_shift.2.1 53 = .ok (.iload_n 1, 1) := by decide +kernel
theorem d_N_shift_54 : decode m_N_shift.2.1 54 = .ok (.bipush 9, 2) := by decide +kernel
theorem d_N_shift_56 : decode m_N_shift.2.1 56 = .ok (.imul, 1) := by decide +kernel
theorem d_N_shift_57 : decode m_N_shift.2.1 57 = .ok (.iload_n 2, 1) := by decide +kernel
theorem d_N_shift_58 : decode m_N_shift.2.1 58 = .ok (.iadd, 1) := by decide +kernel
theorem d_N_shift_59 : decode m_N_shift.2.1 59 = .ok (.invokevirtual 163, 3) := by decide +kernel
theorem d_N_shift_62 : decode m_N_shift.2.1 62 = .ok (.aload_n 0, 1) := by decide +kernel
theorem d_N_shift_63 : decode m_N_shift.2.1 63 = .ok (.getfield 28, 3) := by decide +kernel
theorem d_N_shift_66 : decode m_N_shift.2.1 66 = .ok (.iload 7, 2) := by decide +kernel
theorem d_N_shift_68 : decode m_N_shift.2.1 68 = .ok (.bipush 9, 2) := by decide +kernel
theorem d_N_shift_70 : decode m_N_shift.2.1 70 = .ok (.imul, 1) := by decide +kernel
theorem d_N_shift_71 : decode m_N_shift.2.1 71 = .ok (.iload 4, 2) := by decide +kernel
theorem d_N_shift_73 : decode m_N_shift.2.1 73 = .ok (.invokestatic 243, 3) := by decide +kernel
theorem d_N_shift_76 : decode m_N_shift.2.1 76 = .ok (.iadd, 1) := by decide +kernel
theorem d_N_shift_77 : decode m_N_shift.2.1 77 = .ok (.iload_n 3, 1) := by decide +kernel
theorem d_N_shift_78 : decode m_N_shift.2.1 78 = .ok (.iadd, 1) := by decide +kernel
theorem d_N_shift_79 : decode m_N_shift.2.1 79 = .ok (.iload 6, 2) := by decide +kernel
theorem d_N_shift_81 : decode m_N_shift.2.1 81 = .ok (.invokevirtual 122, 3) := by decide +kernel
theorem d_N_shift_84 : decode m_N_shift.2.1 84 = .ok (.aload_n 0, 1) := by decide +kernel
theorem d_N_shift_85 : decode m_N_shift.2.1 85 = .ok (.getfield 12, 3) := by decide +kernel
theorem d_N_shift_88 : decode m_N_shift.2.1 88 = .ok (.iload_n 1, 1) := by decide +kernel
theorem d_N_shift_89 : decode m_N_shift.2.1 89 = .ok (.iload_n 3, 1) := by decide +kernel
theorem d_N_shift_90 : decode m_N_shift.2.1 90 = .ok (.invokevirtual 217, 3) := by decide +kernel
theorem d_N_shift_93 : decode m_N_shift.2.1 93 = .ok (.istore 8, 2) := by decide +kernel
theorem d_N_shift_95 : decode m_N_shift.2.1 95 = .ok (.iload 5, 2) := by decide +kernel
theorem d_N_shift_97 : decode m_N_shift.2.1 97 = .ok (.ifCond .eq 46, 3) := by decide +kernel
theorem d_N_shift_100 : decode m_N_shift.2.1 100 = .ok (.aload_n 0, 1) := by decide +kernel
theorem d_N_shift_101 : decode m_N_shift.2.1 101 = .ok (.getfield 57, 3) := by decide +kernel
theorem d_N_shift_104 : decode m_N_shift.2.1 104 = .ok (.iconst 2, 1) := by decide +kernel
theorem d_N_shift_105 : decode m_N_shift.2.1 105 = .ok (.if_icmp .ne 38, 3) := by decide +kernel
theorem d_N_shift_108 : decode m_N_shift.2.1 108 = .ok (.aload_n 0, 1) := by decide +kernel
theorem d_N_shift_109 : decode m_N_shift.2.1 109 = .ok (.getfield 42, 3) := by decide +kernel
theorem d_N_shift_112 : decode m_N_shift.2.1 112 = .ok (.getfield 214, 3) := by decide +kernel
theorem d_N_shift_115 : decode m_N_shift.2.1 115 = .ok (.iload 8, 2) := by decide +kernel
theorem d_N_shift_117 : decode m_N_shift.2.1 117 = .ok (.iaload, 1) := by decide +kernel
theorem d_N_shift_118 : decode m_N_shift.2.1 118 = .ok (.iload 7, 2) := by decide +kernel
theorem d_N_shift_120 : decode m_N_shift.2.1 120 = .ok (.if_icmp .ne 23, 3) := by decide +kernel
theorem d_N_shift_123 : decode m_N_shift.2.1 123 = .ok (.aload_n 0, 1) := by decide +kernel
theorem d_N_shift_124 : decode m_N_shift.2.1 124 = .ok (.iload_n 1, 1) := by decide +kernel
theorem d_N_shift_125 : decode m_N_shift.2.1 125 = .ok (.iload_n 3, 1) := by decide +kernel
theorem d_N_shift_126 : decode m_N_shift.2.1 126 = .ok (.invokevirtual 205, 3) := by decide +kernel
theorem d_N_shift_129 : decode m_N_shift.2.1 129 = .ok (.ifCond .ne 14, 3) := by decide +kernel
theorem d_N_shift_132 : decode m_N_shift.2.1 132 = .ok (.aload_n 0, 1) := by decide +kernel
theorem d_N_shift_133 : decode m_N_shift.2.1 133 = .ok (.getfield 42, 3) := by decide +kernel
theorem d_N_shift_136 : decode m_N_shift.2.1 136 = .ok (.getfield 214, 3) := by decide +kernel
theorem d_N_shift_139 : decode m_N_shift.2.1 139 = .ok (.iload 8, 2) := by decide +kernel
theorem d_N_shift_141 : decode m_N_shift.2.1 141 = .ok (.iload_n 1, 1) := by decide +kernel
theorem d_N_shift_142 : decode m_N_shift.2.1 142 = .ok (.iastore, 1) := by decide +kernel
theorem d_N_shift_143 : decode m_N_shift.2.1 143 = .ok (.return_, 1) := by decide +kernel
def f_N_shift_21 (o : Nat) (s0 x1 x2 x3 x4 : Int) (w : qMem) : Option (qMem) :=
  (f_Q_first (o + 19) (w32 ((w32 (x1 * 9)) + x2)) w).bind fun q1 =>
  (f_G_nextBy (o + 1) x1 x3 q1.2).bind fun q2 =>
  (f_Q_dropFirst (o + 19) (w32 ((w32 (x1 * 9)) + x2)) q2.2).bind fun q3 =>
  (f_X_firstOfLane x4 q3).bind fun q4 =>
  (f_Q_put (o + 19) (w32 ((w32 ((w32 (q2.1 * 9)) + q4.1)) + x3)) q1.1 q4.2).bind fun q5 =>
  (f_G_ringIndex (o + 1) x1 x3 q5).bind fun q6 =>
  if s0 = 0 then
  some q6.2
  else
  if (q6.2 o 8) = 2 then
  qld q6.2 (o + 25) 16 q6.1 fun v9 =>
  if v9 = q2.1 then
  (f_N_freeAhead o x1 x3 q6.2).bind fun q11 =>
  if q11.1 = 0 then
  qst q11.2 (o + 25) 16 q6.1 x1 fun w13 =>
  some w13
  else
  some q11.2
  else
  some q6.2
  else
  some q6.2
set_option maxRecDepth 4000 in
theorem s_N_shift_21 {ph : Nat} {o : Nat} (hI : qIs kLN ph o) : ∀ (s0 x1 x2 x3 x4 : Int) (w : qMem), (s0 = 0 ∨ s0 = 1) → qSim κV ph ph m_N_shift 21 [qI s0] [some (qR o), some (qI x1), some (qI x2), some (qI x3), some (qI x4), none, none, none, none] w (f_N_shift_21 o s0 x1 x2 x3 x4 w) := by
  intro s0 x1 x2 x3 x4 w hs0
  unfold f_N_shift_21
  refine z_istore (pls' := [some (qR o), some (qI x1), some (qI x2), some (qI x3), some (qI x4), some (qI s0), none, none, none]) d_N_shift_21 (by decide) rfl rfl ?_
  refine z_aload_n d_N_shift_23 rfl ?_
  refine z_gr (ci := 3) (j := 2) (d := 19) (o2 := (o + 19)) d_N_shift_24 rfl fl_N_28 (hI 0 _ rfl).1 ((hI 0 _ rfl).2 (Nat.le_of_ble_eq_true rfl)) rfl rfl ?_
  refine z_iload_n d_N_shift_27 rfl ?_
  refine z_bipush d_N_shift_28 ⟨by decide, by decide⟩ ?_
  refine z_imul d_N_shift_30 ?_
  refine z_iload_n d_N_shift_31 rfl ?_
  refine z_iadd d_N_shift_32 ?_
  refine z_cVI (as := [qI (w32 ((w32 (x1 * 9)) + x2))]) (st := []) (nl := 0) (ci := 6) d_N_shift_33 lk_N_156 mk_Q_first rfl rfl (hI 19 _ rfl).1 rfl rfl rfl (s_Q_first _ (is_N_Q hI) _) (fun q1 _ hq1 => ?_)
  refine z_istore (pls' := [some (qR o), some (qI x1), some (qI x2), some (qI x3), some (qI x4), some (qI s0), some (qI q1.1), none, none]) d_N_shift_36 (by decide) rfl rfl ?_
  refine z_aload_n d_N_shift_38 rfl ?_
  refine z_gr (ci := 3) (j := 0) (d := 1) (o2 := (o + 1)) d_N_shift_39 rfl fl_N_12 (hI 0 _ rfl).1 ((hI 0 _ rfl).2 (Nat.le_of_ble_eq_true rfl)) rfl rfl ?_
  refine z_iload_n d_N_shift_42 rfl ?_
  refine z_iload_n d_N_shift_43 rfl ?_
  refine z_cVI (as := [qI x1, qI x3]) (st := []) (nl := 0) (ci := 0) d_N_shift_44 lk_N_202 mk_G_nextBy rfl rfl (hI 1 _ rfl).1 rfl rfl rfl (s_G_nextBy _ _ (is_N_G hI) _) (fun q2 _ hq2 => ?_)
  refine z_istore (pls' := [some (qR o), some (qI x1), some (qI x2), some (qI x3), some (qI x4), some (qI s0), some (qI q1.1), some (qI q2.1), none]) d_N_shift_47 (by decide) rfl rfl ?_
  refine z_aload_n d_N_shift_49 rfl ?_
  refine z_gr (ci := 3) (j := 2) (d := 19) (o2 := (o + 19)) d_N_shift_50 rfl fl_N_28 (hI 0 _ rfl).1 ((hI 0 _ rfl).2 (Nat.le_of_ble_eq_true rfl)) rfl rfl ?_
  refine z_iload_n d_N_shift_53 rfl ?_
  refine z_bipush d_N_shift_54 ⟨by decide, by decide⟩ ?_
  refine z_imul d_N_shift_56 ?_
  refine z_iload_n d_N_shift_57 rfl ?_
  refine z_iadd d_N_shift_58 ?_
  refine z_cVV (as := [qI (w32 ((w32 (x1 * 9)) + x2))]) (st := []) (nl := 2) (ci := 6) d_N_shift_59 lk_N_163 mk_Q_dropFirst rfl rfl (hI 19 _ rfl).1 rfl rfl rfl (s_Q_dropFirst _ (is_N_Q hI) _) (fun q3 _ => ?_)
  refine z_aload_n d_N_shift_62 rfl ?_
  refine z_gr (ci := 3) (j := 2) (d := 19) (o2 := (o + 19)) d_N_shift_63 rfl fl_N_28 (hI 0 _ rfl).1 ((hI 0 _ rfl).2 (Nat.le_of_ble_eq_true rfl)) rfl rfl ?_
  refine z_iload d_N_shift_66 rfl ?_
  refine z_bipush d_N_shift_68 ⟨by decide, by decide⟩ ?_
  refine z_imul d_N_shift_70 ?_
  refine z_iload d_N_shift_71 rfl ?_
  refine z_cNI (av := [qI x4]) (st := [qI (w32 (q2.1 * 9)), qR (o + 19)]) (nl := 0) d_N_shift_73 lk_N_243 mk_X_firstOfLane rfl rfl rfl (s_X_firstOfLane _ _) (fun q4 _ hq4 => ?_)
  refine z_iadd d_N_shift_76 ?_
  refine z_iload_n d_N_shift_77 rfl ?_
  refine z_iadd d_N_shift_78 ?_
  refine z_iload d_N_shift_79 rfl ?_
  refine z_cVV (as := [qI (w32 ((w32 ((w32 (q2.1 * 9)) + q4.1)) + x3)), qI q1.1]) (st := []) (nl := 0) (ci := 6) d_N_shift_81 lk_N_122 mk_Q_put rfl rfl (hI 19 _ rfl).1 rfl rfl rfl (s_Q_put _ _ (is_N_Q hI) _) (fun q5 _ => ?_)
  refine z_aload_n d_N_shift_84 rfl ?_
  refine z_gr (ci := 3) (j := 0) (d := 1) (o2 := (o + 1)) d_N_shift_85 rfl fl_N_12 (hI 0 _ rfl).1 ((hI 0 _ rfl).2 (Nat.le_of_ble_eq_true rfl)) rfl rfl ?_
  refine z_iload_n d_N_shift_88 rfl ?_
  refine z_iload_n d_N_shift_89 rfl ?_
  refine z_cVI (as := [qI x1, qI x3]) (st := []) (nl := 2) (ci := 0) d_N_shift_90 lk_N_217 mk_G_ringIndex rfl rfl (hI 1 _ rfl).1 rfl rfl rfl (s_G_ringIndex _ _ (is_N_G hI) _) (fun q6 _ hq6 => ?_)
  refine z_istore (pls' := [some (qR o), some (qI x1), some (qI x2), some (qI x3), some (qI x4), some (qI s0), some (qI q1.1), some (qI q2.1), some (qI q6.1)]) d_N_shift_93 (by decide) rfl rfl ?_
  refine z_iload d_N_shift_95 rfl ?_
  refine z_if_eq (tgt := 143) d_N_shift_97 rfl (fun c7 => ?_) (fun c7 => ?_)
  · exact z_vret d_N_shift_143 rfl rfl
  · refine z_aload_n d_N_shift_100 rfl ?_
    refine z_gi (ci := 3) (j := 8) (ji := 8) d_N_shift_101 rfl fl_N_57 (hI 0 _ rfl).1 rfl rfl ?_
    refine z_ic2 d_N_shift_104 ?_
    refine z_icmp_ne (tgt := 143) d_N_shift_105 rfl (fun c8 => ?_) (fun c8 => ?_)
    · refine z_aload_n d_N_shift_108 rfl ?_
      refine z_gr (ci := 3) (j := 4) (d := 24) (o2 := (o + 24)) d_N_shift_109 rfl fl_N_42 (hI 0 _ rfl).1 ((hI 0 _ rfl).2 (Nat.le_of_ble_eq_true rfl)) rfl rfl ?_
      refine z_gr (ci := 7) (j := 0) (d := 1) (o2 := (o + 25)) d_N_shift_112 rfl fl_N_214 (hI 24 _ rfl).1 ((hI 24 _ rfl).2 (Nat.le_of_ble_eq_true rfl)) rfl rfl ?_
      refine z_iload d_N_shift_115 rfl ?_
      refine z_il d_N_shift_117 (hI 25 _ rfl).1 rfl (fun v9 => ?_)
      refine z_iload d_N_shift_118 rfl ?_
      refine z_icmp_ne (tgt := 143) d_N_shift_120 rfl (fun c10 => ?_) (fun c10 => ?_)
      · refine z_aload_n d_N_shift_123 rfl ?_
        refine z_iload_n d_N_shift_124 rfl ?_
        refine z_iload_n d_N_shift_125 rfl ?_
        refine z_cVI (as := [qI x1, qI x3]) (st := []) (nl := 0) (ci := 3) d_N_shift_126 lk_N_205 mk_N_freeAhead rfl rfl (hI 0 _ rfl).1 rfl rfl rfl (s_N_freeAhead _ _ hI _) (fun q11 _ hq11 => ?_)
        refine z_if_ne (tgt := 143) d_N_shift_129 rfl (fun c12 => ?_) (fun c12 => ?_)
        · refine z_aload_n d_N_shift_132 rfl ?_
          refine z_gr (ci := 3) (j := 4) (d := 24) (o2 := (o + 24)) d_N_shift_133 rfl fl_N_42 (hI 0 _ rfl).1 ((hI 0 _ rfl).2 (Nat.le_of_ble_eq_true rfl)) rfl rfl ?_
          refine z_gr (ci := 7) (j := 0) (d := 1) (o2 := (o + 25)) d_N_shift_136 rfl fl_N_214 (hI 24 _ rfl).1 ((hI 24 _ rfl).2 (Nat.le_of_ble_eq_true rfl)) rfl rfl ?_
          refine z_iload d_N_shift_139 rfl ?_
          refine z_iload_n d_N_shift_141 rfl ?_
          refine z_is d_N_shift_142 (hI 25 _ rfl).1 rfl (fun w13 => ?_)
          exact z_vret d_N_shift_143 rfl rfl
        · exact z_vret d_N_shift_143 rfl rfl
      · exact z_vret d_N_shift_143 rfl rfl
    · exact z_vret d_N_shift_143 rfl rfl
def f_N_shift (o : Nat) (x1 : Int) (x2 : Int) (x3 : Int) (x4 : Int) (w : qMem) : Option (qMem) :=
  if x4 = 1 then
  (f_N_continues o x1 x2 x3 w).bind fun q15 =>
  if q15.1 = 0 then
  f_N_shift_21 o 0 x1 x2 x3 x4 q15.2
  else
  f_N_shift_21 o 1 x1 x2 x3 x4 q15.2
  else
  f_N_shift_21 o 0 x1 x2 x3 x4 w
set_option maxRecDepth 4000 in
theorem s_N_shift {ph : Nat} {o : Nat} (x1 : Int) (x2 : Int) (x3 : Int) (x4 : Int) (hI : qIs kLN ph o) (w : qMem) : qSim κV ph ph m_N_shift 0 [] [some (qR o), some (qI x1), some (qI x2), some (qI x3), some (qI x4), none, none, none, none] w (f_N_shift o x1 x2 x3 x4 w) := by
  unfold f_N_shift
  refine z_iload d_N_shift_0 rfl ?_
  refine z_ic1 d_N_shift_2 ?_
  refine z_icmp_ne (tgt := 20) d_N_shift_3 rfl (fun c14 => ?_) (fun c14 => ?_)
  · refine z_aload_n d_N_shift_6 rfl ?_
    refine z_iload_n d_N_shift_7 rfl ?_
    refine z_iload_n d_N_shift_8 rfl ?_
    refine z_iload_n d_N_shift_9 rfl ?_
    refine z_cVI (as := [qI x1, qI x2, qI x3]) (st := []) (nl := 0) (ci := 3) d_N_shift_10 lk_N_177 mk_N_continues rfl rfl (hI 0 _ rfl).1 rfl rfl rfl (s_N_continues _ _ _ hI _) (fun q15 _ hq15 => ?_)
    refine z_if_eq (tgt := 20) d_N_shift_13 rfl (fun c16 => ?_) (fun c16 => ?_)
    · refine z_ic0 d_N_shift_20 ?_
      refine z_mask [true, true, true, true, true, false, false, false, false] ?_
      exact s_N_shift_21 hI _ _ _ _ _ _ (Or.inl rfl)
    · refine z_ic1 d_N_shift_16 ?_
      refine z_goto (tgt := 21) d_N_shift_17 rfl ?_
      refine z_mask [true, true, true, true, true, false, false, false, false] ?_
      exact s_N_shift_21 hI _ _ _ _ _ _ (Or.inr rfl)
  · refine z_ic0 d_N_shift_20 ?_
    refine z_mask [true, true, true, true, true, false, false, false, false] ?_
    exact s_N_shift_21 hI _ _ _ _ _ _ (Or.inl rfl)
/-! BubbleTorus$Net.goFrom -/
theorem d_N_goFrom_0 : decode m_N_goFrom.2.1 0 = .ok (.aload_n 0, 1) := by decide +kernel
theorem d_N_goFrom_1 : decode m_N_goFrom.2.1 1 = .ok (.getfield 28, 3) := by decide +kernel
theorem d_N_goFrom_4 : decode m_N_goFrom.2.1 4 = .ok (.iload_n 1, 1) := by decide +kernel
theorem d_N_goFrom_5 : decode m_N_goFrom.2.1 5 = .ok (.bipush 9, 2) := by decide +kernel
theorem d_N_goFrom_7 : decode m_N_goFrom.2.1 7 = .ok (.imul, 1) := by decide +kernel
theorem d_N_goFrom_8 : decode m_N_goFrom.2.1 8 = .ok (.iload_n 2, 1) := by decide +kernel
theorem d_N_goFrom_9 : decode m_N_goFrom.2.1 9 = .ok (.iadd, 1) := by decide +kernel
theorem d_N_goFrom_10 : decode m_N_goFrom.2.1 10 = .ok (.invokevirtual 156, 3) := by decide +kernel
theorem d_N_goFrom_13 : decode m_N_goFrom.2.1 13 = .ok (.istore 4, 2) := by decide +kernel
theorem d_N_goFrom_15 : decode m_N_goFrom.2.1 15 = .ok (.iload 4, 2) := by decide +kernel
theorem d_N_goFrom_17 : decode m_N_goFrom.2.1 17 = .ok (.iconst (-1), 1) := by decide +kernel
theorem d_N_goFrom_18 : decode m_N_goFrom.2.1 18 = .ok (.if_icmp .ne 4, 3) := by decide +kernel
theorem d_N_goFrom_21 : decode m_N_goFrom.2.1 21 = .ok (.return_, 1) := by decide +kernel
theorem d_N_goFrom_22 : decode m_N_goFrom.2.1 22 = .ok (.aload_n 0, 1) := by decide +kernel
theorem d_N_goFrom_23 : decode m_N_goFrom.2.1 23 = .ok (.iload_n 1, 1) := by decide +kernel
theorem d_N_goFrom_24 : decode m_N_goFrom.2.1 24 = .ok (.iload_n 2, 1) := by decide +kernel
theorem d_N_goFrom_25 : decode m_N_goFrom.2.1 25 = .ok (.iload_n 3, 1) := by decide +kernel
theorem d_N_goFrom_26 : decode m_N_goFrom.2.1 26 = .ok (.invokevirtual 180, 3) := by decide +kernel
theorem d_N_goFrom_29 : decode m_N_goFrom.2.1 29 = .ok (.ifCond .eq 7, 3) := by decide +kernel
theorem d_N_goFrom_32 : decode m_N_goFrom.2.1 32 = .ok (.iconst 2, 1) := by decide +kernel
theorem d_N_goFrom_33 : decode m_N_goFrom.2.1 33 = .ok (.goto 4, 3) := by decide +kernel
theorem d_N_goFrom_36 : decode m_N_goFrom.2.1 36 = .ok (.iconst 1, 1) := by decide +kernel
theorem d_N_goFrom_37 : decode m_N_goFrom.2.1 37 = .ok (.istore 5, 2) := by decide +kernel
theorem d_N_goFrom_39 : decode m_N_goFrom.2.1 39 = .ok (.iconst 0, 1) := by decide +kernel
theorem d_N_goFrom_40 : decode m_N_goFrom.2.1 40 = .ok (.istore 6, 2) := by decide +kernel
theorem d_N_goFrom_42 : decode m_N_goFrom.2.1 42 = .ok (.iload 5, 2) := by decide +kernel
theorem d_N_goFrom_44 : decode m_N_goFrom.2.1 44 = .ok (.iconst 2, 1) := by decide +kernel
theorem d_N_goFrom_45 : decode m_N_goFrom.2.1 45 = .ok (.if_icmp .ne 16, 3) := by decide +kernel
theorem d_N_goFrom_48 : decode m_N_goFrom.2.1 48 = .ok (.aload_n 0, 1) := by decide +kernel
theorem d_N_goFrom_49 : decode m_N_goFrom.2.1 49 = .ok (.dup, 1) := by decide +kernel
theorem d_N_goFrom_50 : decode m_N_goFrom.2.1 50 = .ok (.getfield 66, 3) := by decide +kernel
theorem d_N_goFrom_53 : decode m_N_goFrom.2.1 53 = .ok (.iconst 1, 1) := by decide +kernel
theorem d_N_goFrom_54 : decode m_N_goFrom.2.1 54 = .ok (.iadd, 1) := by decide +kernel
theorem d_N_goFrom_55 : decode m_N_goFrom.2.1 55 = .ok (.putfield 66, 3) := by decide +kernel
theorem d_N_goFrom_58 : decode m_N_goFrom.2.1 58 = .ok (.goto 71, 3) := by decide +kernel
theorem d_N_goFrom_61 : decode m_N_goFrom.2.1 61 = .ok (.aload_n 0, 1) := by decide +kernel
theorem d_N_goFrom_62 : decode m_N_goFrom.2.1 62 = .ok (.iload_n 1, 1) := by decide +kernel
theorem d_N_goFrom_63 : decode m_N_goFrom.2.1 63 = .ok (.iload_n 2, 1) := by decide +kernel
theorem d_N_goFrom_64 : decode m_N_goFrom.2.1 64 = .ok (.iload_n 3, 1) := by decide +kernel
theorem d_N_goFrom_65 : decode m_N_goFrom.2.1 65 = .ok (.invokevirtual 177, 3) := by decide +kernel
theorem d_N_goFrom_68 : decode m_N_goFrom.2.1 68 = .ok (.ifCond .eq 9, 3) := by decide +kernel
theorem d_N_goFrom_71 : decode m_N_goFrom.2.1 71 = .ok (.iconst 2, 1) := by decide +kernel
theorem d_N_goFrom_72 : decode m_N_goFrom.2.1 72 = .ok (.istore 6, 2) := by decide +kernel
theorem d_N_goFrom_74 : decode m_N_goFrom.2.1 74 = .ok (.goto 55, 3) := by decide +kernel
theorem d_N_goFrom_77 : decode m_N_goFrom.2.1 77 = .ok (.iconst 1, 1) := by decide +kernel
theorem d_N_goFrom_78 : decode m_N_goFrom.2.1 78 = .ok (.istore 6, 2) := by decide +kernel
theorem d_N_goFrom_80 : decode m_N_goFrom.2.1 80 = .ok (.aload_n 0, 1) := by decide +kernel
theorem d_N_goFrom_81 : decode m_N_goFrom.2.1 81 = .ok (.getfield 21, 3) := by decide +kernel
theorem d_N_goFrom_84 : decode m_N_goFrom.2.1 84 = .ok (.getfield 223, 3) := by decide +kernel
theorem d_N_goFrom_87 : decode m_N_goFrom.2.1 87 = .ok (.iload 4, 2) := by decide +kernel
theorem d_N_goFrom_89 : decode m_N_goFrom.2.1 89 = .ok (.dup2, 1) := by decide +kernel
theorem d_N_goFrom_90 : decode m_N_goFrom.2.1 90 = .ok (.iaload, 1) := by decide +kernel
theorem d_N_goFrom_91 : decode m_N_goFrom.2.1 91 = .ok (.iconst 1, 1) := by decide +kernel
theorem d_N_goFrom_92 : decode m_N_goFrom.2.1 92 = .ok (.iadd, 1) := by decide +kernel
theorem d_N_goFrom_93 : decode m_N_goFrom.2.1 93 = .ok (.iastore, 1) := by decide +kernel
theorem d_N_goFrom_94 : decode m_N_goFrom.2.1 94 = .ok (.aload_n 0, 1) := by decide +kernel
theorem d_N_goFrom_95 : decode m_N_goFrom.2.1 95 = .ok (.getfield 42, 3) := by decide +kernel
theorem d_N_goFrom_98 : decode m_N_goFrom.2.1 98 = .ok (.getfield 226, 3) := by decide +kernel
theorem d_N_goFrom_101 : decode m_N_goFrom.2.1 101 = .ok (.aload_n 0, 1) := by decide +kernel
theorem d_N_goFrom_102 : decode m_N_goFrom.2.1 102 = .ok (.getfield 12, 3) := by decide +kernel
theorem d_N_goFrom_105 : decode m_N_goFrom.2.1 105 = .ok (.iload_n 1, 1) := by decide +kernel
theorem d_N_goFrom_106 : decode m_N_goFrom.2.1 106 = .ok (.iload_n 3, 1) := by decide +kernel
theorem d_N_goFrom_107 : decode m_N_goFrom.2.1 107 = .ok (.invokevirtual 217, 3) := by decide +kernel
theorem d_N_goFrom_110 : decode m_N_goFrom.2.1 110 = .ok (.dup2, 1) := by decide +kernel
theorem d_N_goFrom_111 : decode m_N_goFrom.2.1 111 = .ok (.iaload, 1) := by decide +kernel
theorem d_N_goFrom_112 : decode m_N_goFrom.2.1 112 = .ok (.iconst 1, 1) := by decide +kernel
theorem d_N_goFrom_113 : decode m_N_goFrom.2.1 113 = .ok (.iadd, 1) := by decide +kernel
theorem d_N_goFrom_114 : decode m_N_goFrom.2.1 114 = .ok (.iastore, 1) := by decide +kernel
theorem d_N_goFrom_115 : decode m_N_goFrom.2.1 115 = .ok (.aload_n 0, 1) := by decide +kernel
theorem d_N_goFrom_116 : decode m_N_goFrom.2.1 116 = .ok (.getfield 42, 3) := by decide +kernel
theorem d_N_goFrom_119 : decode m_N_goFrom.2.1 119 = .ok (.getfield 229, 3) := by decide +kernel
theorem d_N_goFrom_122 : decode m_N_goFrom.2.1 122 = .ok (.iload_n 1, 1) := by decide +kernel
theorem d_N_goFrom_123 : decode m_N_goFrom.2.1 123 = .ok (.iconst 4, 1) := by decide +kernel
theorem d_N_goFrom_124 : decode m_N_goFrom.2.1 124 = .ok (.imul, 1) := by decide +kernel
theorem d_N_goFrom_125 : decode m_N_goFrom.2.1 125 = .ok (.iload_n 3, 1) := by decide +kernel
theorem d_N_goFrom_126 : decode m_N_goFrom.2.1 126 = .ok (.iadd, 1) := by decide +kernel
theorem d_N_goFrom_127 : decode m_N_goFrom.2.1 127 = .ok (.iconst 1, 1) := by decide +kernel
theorem d_N_goFrom_128 : decode m_N_goFrom.2.1 128 = .ok (.bastore, 1) := by decide +kernel
theorem d_N_goFrom_129 : decode m_N_goFrom.2.1 129 = .ok (.aload_n 0, 1) := by decide +kernel
theorem d_N_goFrom_130 : decode m_N_goFrom.2.1 130 = .ok (.iload_n 1, 1) := by decide +kernel
theorem d_N_goFrom_131 : decode m_N_goFrom.2.1 131 = .ok (.iload_n 2, 1) := by decide +kernel
theorem d_N_goFrom_132 : decode m_N_goFrom.2.1 132 = .ok (.iload_n 3, 1) := by decide +kernel
theorem d_N_goFrom_133 : decode m_N_goFrom.2.1 133 = .ok (.iload 5, 2) := by decide +kernel
theorem d_N_goFrom_135 : decode m_N_goFrom.2.1 135 = .ok (.invokevirtual 233, 3) := by decide +kernel
theorem d_N_goFrom_138 : decode m_N_goFrom.2.1 138 = .ok (.aload_n 0, 1) := by decide +kernel
theorem d_N_goFrom_139 : decode m_N_goFrom.2.1 139 = .ok (.getfield 46, 3) := by decide +kernel
theorem d_N_goFrom_142 : decode m_N_goFrom.2.1 142 = .ok (.iload_n 1, 1) := by decide +kernel
theorem d_N_goFrom_143 : decode m_N_goFrom.2.1 143 = .ok (.iconst 4, 1) := by decide +kernel
theorem d_N_goFrom_144 : decode m_N_goFrom.2.1 144 = .ok (.imul, 1) := by decide +kernel
theorem d_N_goFrom_145 : decode m_N_goFrom.2.1 145 = .ok (.iload_n 3, 1) := by decide +kernel
theorem d_N_goFrom_146 : decode m_N_goFrom.2.1 146 = .ok (.iadd, 1) := by decide +kernel
theorem d_N_goFrom_147 : decode m_N_goFrom.2.1 147 = .ok (.dup2, 1) := by decide +kernel
theorem d_N_goFrom_148 : decode m_N_goFrom.2.1 148 = .ok (.iaload, 1) := by decide +kernel
theorem d_N_goFrom_149 : decode m_N_goFrom.2.1 149 = .ok (.iconst 1, 1) := by decide +kernel
theorem d_N_goFrom_150 : decode m_N_goFrom.2.1 150 = .ok (.iadd, 1) := by decide +kernel
theorem d_N_goFrom_151 : decode m_N_goFrom.2.1 151 = .ok (.iastore, 1) := by decide +kernel
theorem d_N_goFrom_152 : decode m_N_goFrom.2.1 152 = .ok (.aload_n 0, 1) := by decide +kernel
theorem d_N_goFrom_153 : decode m_N_goFrom.2.1 153 = .ok (.getfield 21, 3) := by decide +kernel
theorem d_N_goFrom_156 : decode m_N_goFrom.2.1 156 = .ok (.iload 4, 2) := by decide +kernel
theorem d_N_goFrom_158 : decode m_N_goFrom.2.1 158 = .ok (.aload_n 0, 1) := by decide +kernel
theorem d_N_goFrom_159 : decode m_N_goFrom.2.1 159 = .ok (.getfield 12, 3) := by decide +kernel
theorem d_N_goFrom_162 : decode m_N_goFrom.2.1 162 = .ok (.iload_n 1, 1) := by decide +kernel
theorem d_N_goFrom_163 : decode m_N_goFrom.2.1 163 = .ok (.iload_n 3, 1) := by decide +kernel
theorem d_N_goFrom_164 : decode m_N_goFrom.2.1 164 = .ok (.invokevirtual 202, 3) := by decide +kernel
theorem d_N_goFrom_167 : decode m_N_goFrom.2.1 167 = .ok (.iload_n 3, 1) := by decide +kernel
theorem d_N_goFrom_168 : decode m_N_goFrom.2.1 168 = .ok (.iload 5, 2) := by decide +kernel
theorem d_N_goFrom_170 : decode m_N_goFrom.2.1 170 = .ok (.aload_n 0, 1) := by decide +kernel
theorem d_N_goFrom_171 : decode m_N_goFrom.2.1 171 = .ok (.getfield 63, 3) := by decide +kernel
theorem d_N_goFrom_174 : decode m_N_goFrom.2.1 174 = .ok (.invokevirtual 237, 3) := by decide +kernel
theorem d_N_goFrom_177 : decode m_N_goFrom.2.1 177 = .ok (.aload_n 0, 1) := by decide +kernel
theorem d_N_goFrom_178 : decode m_N_goFrom.2.1 178 = .ok (.getfield 35, 3) := by decide +kernel
theorem d_N_goFrom_181 : decode m_N_goFrom.2.1 181 = .ok (.iload 4, 2) := by decide +kernel
theorem d_N_goFrom_183 : decode m_N_goFrom.2.1 183 = .ok (.iload_n 1, 1) := by decide +kernel
theorem d_N_goFrom_184 : decode m_N_goFrom.2.1 184 = .ok (.iload_n 3, 1) := by decide +kernel
theorem d_N_goFrom_185 : decode m_N_goFrom.2.1 185 = .ok (.iload 5, 2) := by decide +kernel
theorem d_N_goFrom_187 : decode m_N_goFrom.2.1 187 = .ok (.iload 6, 2) := by decide +kernel
theorem d_N_goFrom_189 : decode m_N_goFrom.2.1 189 = .ok (.invokevirtual 241, 3) := by decide +kernel
theorem d_N_goFrom_192 : decode m_N_goFrom.2.1 192 = .ok (.return_, 1) := by decide +kernel
def f_N_goFrom_129 (o : Nat) (x1 x2 x3 x4 x5 x6 : Int) (w : qMem) : Option (qMem) :=
  (f_N_shift o x1 x2 x3 x5 w).bind fun q1 =>
  qld q1 (o + 34) 64 (w32 ((w32 (x1 * 4)) + x3)) fun v2 =>
  qst q1 (o + 34) 64 (w32 ((w32 (x1 * 4)) + x3)) (w32 (v2 + 1)) fun w3 =>
  (f_G_nextBy (o + 1) x1 x3 w3).bind fun q4 =>
  (f_P_noteHop (o + 5) x4 q4.1 x3 x5 (q4.2 o 10) q4.2).bind fun q5 =>
  (f_V_add (o + 22) x4 x1 x3 x5 x6 q5).bind fun q6 =>
  some q6
set_option maxRecDepth 4000 in
theorem s_N_goFrom_129 {ph : Nat} {o : Nat} (hI : qIs kLN ph o) : ∀ (x1 x2 x3 x4 x5 x6 : Int) (w : qMem), qSim κV ph ph m_N_goFrom 129 [] [some (qR o), some (qI x1), some (qI x2), some (qI x3), some (qI x4), some (qI x5), some (qI x6)] w (f_N_goFrom_129 o x1 x2 x3 x4 x5 x6 w) := by
  intro x1 x2 x3 x4 x5 x6 w
  unfold f_N_goFrom_129
  refine z_aload_n d_N_goFrom_129 rfl ?_
  refine z_iload_n d_N_goFrom_130 rfl ?_
  refine z_iload_n d_N_goFrom_131 rfl ?_
  refine z_iload_n d_N_goFrom_132 rfl ?_
  refine z_iload d_N_goFrom_133 rfl ?_
  refine z_cVV (as := [qI x1, qI x2, qI x3, qI x5]) (st := []) (nl := 4) (ci := 3) d_N_goFrom_135 lk_N_233 mk_N_shift rfl rfl (hI 0 _ rfl).1 rfl rfl rfl (s_N_shift _ _ _ _ hI _) (fun q1 _ => ?_)
  refine z_aload_n d_N_goFrom_138 rfl ?_
  refine z_gr (ci := 3) (j := 5) (d := 34) (o2 := (o + 34)) d_N_goFrom_139 rfl fl_N_46 (hI 0 _ rfl).1 ((hI 0 _ rfl).2 (Nat.le_of_ble_eq_true rfl)) rfl rfl ?_
  refine z_iload_n d_N_goFrom_142 rfl ?_
  refine z_ic4 d_N_goFrom_143 ?_
  refine z_imul d_N_goFrom_144 ?_
  refine z_iload_n d_N_goFrom_145 rfl ?_
  refine z_iadd d_N_goFrom_146 ?_
  refine z_dup2 d_N_goFrom_147 rfl rfl ?_
  refine z_il d_N_goFrom_148 (hI 34 _ rfl).1 rfl (fun v2 => ?_)
  refine z_ic1 d_N_goFrom_149 ?_
  refine z_iadd d_N_goFrom_150 ?_
  refine z_is d_N_goFrom_151 (hI 34 _ rfl).1 rfl (fun w3 => ?_)
  refine z_aload_n d_N_goFrom_152 rfl ?_
  refine z_gr (ci := 3) (j := 1) (d := 5) (o2 := (o + 5)) d_N_goFrom_153 rfl fl_N_21 (hI 0 _ rfl).1 ((hI 0 _ rfl).2 (Nat.le_of_ble_eq_true rfl)) rfl rfl ?_
  refine z_iload d_N_goFrom_156 rfl ?_
  refine z_aload_n d_N_goFrom_158 rfl ?_
  refine z_gr (ci := 3) (j := 0) (d := 1) (o2 := (o + 1)) d_N_goFrom_159 rfl fl_N_12 (hI 0 _ rfl).1 ((hI 0 _ rfl).2 (Nat.le_of_ble_eq_true rfl)) rfl rfl ?_
  refine z_iload_n d_N_goFrom_162 rfl ?_
  refine z_iload_n d_N_goFrom_163 rfl ?_
  refine z_cVI (as := [qI x1, qI x3]) (st := [qI x4, qR (o + 5)]) (nl := 0) (ci := 0) d_N_goFrom_164 lk_N_202 mk_G_nextBy rfl rfl (hI 1 _ rfl).1 rfl rfl rfl (s_G_nextBy _ _ (is_N_G hI) _) (fun q4 _ hq4 => ?_)
  refine z_iload_n d_N_goFrom_167 rfl ?_
  refine z_iload d_N_goFrom_168 rfl ?_
  refine z_aload_n d_N_goFrom_170 rfl ?_
  refine z_gi (ci := 3) (j := 10) (ji := 10) d_N_goFrom_171 rfl fl_N_63 (hI 0 _ rfl).1 rfl rfl ?_
  refine z_cVV (as := [qI x4, qI q4.1, qI x3, qI x5, qI (q4.2 o 10)]) (st := []) (nl := 0) (ci := 5) d_N_goFrom_174 lk_N_237 mk_P_noteHop rfl rfl (hI 5 _ rfl).1 rfl rfl rfl (s_P_noteHop _ _ _ _ _ (is_N_P hI) _) (fun q5 _ => ?_)
  refine z_aload_n d_N_goFrom_177 rfl ?_
  refine z_gr (ci := 3) (j := 3) (d := 22) (o2 := (o + 22)) d_N_goFrom_178 rfl fl_N_35 (hI 0 _ rfl).1 ((hI 0 _ rfl).2 (Nat.le_of_ble_eq_true rfl)) rfl rfl ?_
  refine z_iload d_N_goFrom_181 rfl ?_
  refine z_iload_n d_N_goFrom_183 rfl ?_
  refine z_iload_n d_N_goFrom_184 rfl ?_
  refine z_iload d_N_goFrom_185 rfl ?_
  refine z_iload d_N_goFrom_187 rfl ?_
  refine z_cVV (as := [qI x4, qI x1, qI x3, qI x5, qI x6]) (st := []) (nl := 1) (ci := 2) d_N_goFrom_189 lk_N_241 mk_V_add rfl rfl (hI 22 _ rfl).1 rfl rfl rfl (s_V_add _ _ _ _ _ (is_N_V hI) _) (fun q6 _ => ?_)
  exact z_vret d_N_goFrom_192 rfl rfl
def f_N_goFrom_37 (o : Nat) (s0 x1 x2 x3 x4 : Int) (w : qMem) : Option (qMem) :=
  if s0 = 2 then
  qlt (qud w o 11 (w32 ((w o 11) + 1))) fun w8 =>
  f_N_goFrom_129 o x1 x2 x3 x4 s0 0 w8
  else
  (f_N_continues o x1 x2 x3 w).bind fun q9 =>
  if q9.1 = 0 then
  qld q9.2 (o + 14) 250 x4 fun v11 =>
  qst q9.2 (o + 14) 250 x4 (w32 (v11 + 1)) fun w12 =>
  (f_G_ringIndex (o + 1) x1 x3 w12).bind fun q13 =>
  qld q13.2 (o + 29) 16 q13.1 fun v14 =>
  qst q13.2 (o + 29) 16 q13.1 (w32 (v14 + 1)) fun w15 =>
  qstz w15 (o + 33) 64 (w32 ((w32 (x1 * 4)) + x3)) 1 fun w16 =>
  f_N_goFrom_129 o x1 x2 x3 x4 s0 1 w16
  else
  f_N_goFrom_129 o x1 x2 x3 x4 s0 2 q9.2
set_option maxRecDepth 4000 in
theorem s_N_goFrom_37 {ph : Nat} {o : Nat} (hI : qIs kLN ph o) : ∀ (s0 x1 x2 x3 x4 : Int) (w : qMem), qSim κV ph ph m_N_goFrom 37 [qI s0] [some (qR o), some (qI x1), some (qI x2), some (qI x3), some (qI x4), none, none] w (f_N_goFrom_37 o s0 x1 x2 x3 x4 w) := by
  intro s0 x1 x2 x3 x4 w
  unfold f_N_goFrom_37
  refine z_istore (pls' := [some (qR o), some (qI x1), some (qI x2), some (qI x3), some (qI x4), some (qI s0), none]) d_N_goFrom_37 (by decide) rfl rfl ?_
  refine z_ic0 d_N_goFrom_39 ?_
  refine z_istore (pls' := [some (qR o), some (qI x1), some (qI x2), some (qI x3), some (qI x4), some (qI s0), some (qI 0)]) d_N_goFrom_40 (by decide) rfl rfl ?_
  refine z_iload d_N_goFrom_42 rfl ?_
  refine z_ic2 d_N_goFrom_44 ?_
  refine z_icmp_ne (tgt := 61) d_N_goFrom_45 rfl (fun c7 => ?_) (fun c7 => ?_)
  · refine z_aload_n d_N_goFrom_48 rfl ?_
    refine z_dup d_N_goFrom_49 rfl ?_
    refine z_gi (ci := 3) (j := 11) (ji := 11) d_N_goFrom_50 rfl fl_N_66 (hI 0 _ rfl).1 rfl rfl ?_
    refine z_ic1 d_N_goFrom_53 ?_
    refine z_iadd d_N_goFrom_54 ?_
    refine z_pi (ci := 3) (j := 11) (ji := 11) d_N_goFrom_55 rfl fl_N_66 (hI 0 _ rfl).1 rfl rfl rfl rfl (fun w8 => ?_)
    refine z_goto (tgt := 129) d_N_goFrom_58 rfl ?_
    refine z_mask [true, true, true, true, true, true, true] ?_
    exact s_N_goFrom_129 hI _ _ _ _ _ _ _
  · refine z_aload_n d_N_goFrom_61 rfl ?_
    refine z_iload_n d_N_goFrom_62 rfl ?_
    refine z_iload_n d_N_goFrom_63 rfl ?_
    refine z_iload_n d_N_goFrom_64 rfl ?_
    refine z_cVI (as := [qI x1, qI x2, qI x3]) (st := []) (nl := 0) (ci := 3) d_N_goFrom_65 lk_N_177 mk_N_continues rfl rfl (hI 0 _ rfl).1 rfl rfl rfl (s_N_continues _ _ _ hI _) (fun q9 _ hq9 => ?_)
    refine z_if_eq (tgt := 77) d_N_goFrom_68 rfl (fun c10 => ?_) (fun c10 => ?_)
    · refine z_ic1 d_N_goFrom_77 ?_
      refine z_istore (pls' := [some (qR o), some (qI x1), some (qI x2), some (qI x3), some (qI x4), some (qI s0), some (qI 1)]) d_N_goFrom_78 (by decide) rfl rfl ?_
      refine z_aload_n d_N_goFrom_80 rfl ?_
      refine z_gr (ci := 3) (j := 1) (d := 5) (o2 := (o + 5)) d_N_goFrom_81 rfl fl_N_21 (hI 0 _ rfl).1 ((hI 0 _ rfl).2 (Nat.le_of_ble_eq_true rfl)) rfl rfl ?_
      refine z_gr (ci := 5) (j := 8) (d := 9) (o2 := (o + 14)) d_N_goFrom_84 rfl fl_N_223 (hI 5 _ rfl).1 ((hI 5 _ rfl).2 (Nat.le_of_ble_eq_true rfl)) rfl rfl ?_
      refine z_iload d_N_goFrom_87 rfl ?_
      refine z_dup2 d_N_goFrom_89 rfl rfl ?_
      refine z_il d_N_goFrom_90 (hI 14 _ rfl).1 rfl (fun v11 => ?_)
      refine z_ic1 d_N_goFrom_91 ?_
      refine z_iadd d_N_goFrom_92 ?_
      refine z_is d_N_goFrom_93 (hI 14 _ rfl).1 rfl (fun w12 => ?_)
      refine z_aload_n d_N_goFrom_94 rfl ?_
      refine z_gr (ci := 3) (j := 4) (d := 24) (o2 := (o + 24)) d_N_goFrom_95 rfl fl_N_42 (hI 0 _ rfl).1 ((hI 0 _ rfl).2 (Nat.le_of_ble_eq_true rfl)) rfl rfl ?_
      refine z_gr (ci := 7) (j := 4) (d := 5) (o2 := (o + 29)) d_N_goFrom_98 rfl fl_N_226 (hI 24 _ rfl).1 ((hI 24 _ rfl).2 (Nat.le_of_ble_eq_true rfl)) rfl rfl ?_
      refine z_aload_n d_N_goFrom_101 rfl ?_
      refine z_gr (ci := 3) (j := 0) (d := 1) (o2 := (o + 1)) d_N_goFrom_102 rfl fl_N_12 (hI 0 _ rfl).1 ((hI 0 _ rfl).2 (Nat.le_of_ble_eq_true rfl)) rfl rfl ?_
      refine z_iload_n d_N_goFrom_105 rfl ?_
      refine z_iload_n d_N_goFrom_106 rfl ?_
      refine z_cVI (as := [qI x1, qI x3]) (st := [qR (o + 29)]) (nl := 2) (ci := 0) d_N_goFrom_107 lk_N_217 mk_G_ringIndex rfl rfl (hI 1 _ rfl).1 rfl rfl rfl (s_G_ringIndex _ _ (is_N_G hI) _) (fun q13 _ hq13 => ?_)
      refine z_dup2 d_N_goFrom_110 rfl rfl ?_
      refine z_il d_N_goFrom_111 (hI 29 _ rfl).1 rfl (fun v14 => ?_)
      refine z_ic1 d_N_goFrom_112 ?_
      refine z_iadd d_N_goFrom_113 ?_
      refine z_is d_N_goFrom_114 (hI 29 _ rfl).1 rfl (fun w15 => ?_)
      refine z_aload_n d_N_goFrom_115 rfl ?_
      refine z_gr (ci := 3) (j := 4) (d := 24) (o2 := (o + 24)) d_N_goFrom_116 rfl fl_N_42 (hI 0 _ rfl).1 ((hI 0 _ rfl).2 (Nat.le_of_ble_eq_true rfl)) rfl rfl ?_
      refine z_gr (ci := 7) (j := 8) (d := 9) (o2 := (o + 33)) d_N_goFrom_119 rfl fl_N_229 (hI 24 _ rfl).1 ((hI 24 _ rfl).2 (Nat.le_of_ble_eq_true rfl)) rfl rfl ?_
      refine z_iload_n d_N_goFrom_122 rfl ?_
      refine z_ic4 d_N_goFrom_123 ?_
      refine z_imul d_N_goFrom_124 ?_
      refine z_iload_n d_N_goFrom_125 rfl ?_
      refine z_iadd d_N_goFrom_126 ?_
      refine z_ic1 d_N_goFrom_127 ?_
      refine z_zs d_N_goFrom_128 (hI 33 _ rfl).1 rfl (fun w16 => ?_)
      refine z_mask [true, true, true, true, true, true, true] ?_
      exact s_N_goFrom_129 hI _ _ _ _ _ _ _
    · refine z_ic2 d_N_goFrom_71 ?_
      refine z_istore (pls' := [some (qR o), some (qI x1), some (qI x2), some (qI x3), some (qI x4), some (qI s0), some (qI 2)]) d_N_goFrom_72 (by decide) rfl rfl ?_
      refine z_goto (tgt := 129) d_N_goFrom_74 rfl ?_
      refine z_mask [true, true, true, true, true, true, true] ?_
      exact s_N_goFrom_129 hI _ _ _ _ _ _ _
def f_N_goFrom (o : Nat) (x1 : Int) (x2 : Int) (x3 : Int) (w : qMem) : Option (qMem) :=
  (f_Q_first (o + 19) (w32 ((w32 (x1 * 9)) + x2)) w).bind fun q17 =>
  if q17.1 = (-1) then
  some q17.2
  else
  (f_N_adaptiveLets o x1 x2 x3 q17.2).bind fun q19 =>
  if q19.1 = 0 then
  f_N_goFrom_37 o 1 x1 x2 x3 q17.1 q19.2
  else
  f_N_goFrom_37 o 2 x1 x2 x3 q17.1 q19.2
set_option maxRecDepth 4000 in
theorem s_N_goFrom {ph : Nat} {o : Nat} (x1 : Int) (x2 : Int) (x3 : Int) (hI : qIs kLN ph o) (w : qMem) : qSim κV ph ph m_N_goFrom 0 [] [some (qR o), some (qI x1), some (qI x2), some (qI x3), none, none, none] w (f_N_goFrom o x1 x2 x3 w) := by
  unfold f_N_goFrom
  refine z_aload_n d_N_goFrom_0 rfl ?_
  refine z_gr (ci := 3) (j := 2) (d := 19) (o2 := (o + 19)) d_N_goFrom_1 rfl fl_N_28 (hI 0 _ rfl).1 ((hI 0 _ rfl).2 (Nat.le_of_ble_eq_true rfl)) rfl rfl ?_
  refine z_iload_n d_N_goFrom_4 rfl ?_
  refine z_bipush d_N_goFrom_5 ⟨by decide, by decide⟩ ?_
  refine z_imul d_N_goFrom_7 ?_
  refine z_iload_n d_N_goFrom_8 rfl ?_
  refine z_iadd d_N_goFrom_9 ?_
  refine z_cVI (as := [qI (w32 ((w32 (x1 * 9)) + x2))]) (st := []) (nl := 0) (ci := 6) d_N_goFrom_10 lk_N_156 mk_Q_first rfl rfl (hI 19 _ rfl).1 rfl rfl rfl (s_Q_first _ (is_N_Q hI) _) (fun q17 _ hq17 => ?_)
  refine z_istore (pls' := [some (qR o), some (qI x1), some (qI x2), some (qI x3), some (qI q17.1), none, none]) d_N_goFrom_13 (by decide) rfl rfl ?_
  refine z_iload d_N_goFrom_15 rfl ?_
  refine z_icm1 d_N_goFrom_17 ?_
  refine z_icmp_ne (tgt := 22) d_N_goFrom_18 rfl (fun c18 => ?_) (fun c18 => ?_)
  · exact z_vret d_N_goFrom_21 rfl rfl
  · refine z_aload_n d_N_goFrom_22 rfl ?_
    refine z_iload_n d_N_goFrom_23 rfl ?_
    refine z_iload_n d_N_goFrom_24 rfl ?_
    refine z_iload_n d_N_goFrom_25 rfl ?_
    refine z_cVI (as := [qI x1, qI x2, qI x3]) (st := []) (nl := 0) (ci := 3) d_N_goFrom_26 lk_N_180 mk_N_adaptiveLets rfl rfl (hI 0 _ rfl).1 rfl rfl rfl (s_N_adaptiveLets _ _ _ hI _) (fun q19 _ hq19 => ?_)
    refine z_if_eq (tgt := 36) d_N_goFrom_29 rfl (fun c20 => ?_) (fun c20 => ?_)
    · refine z_ic1 d_N_goFrom_36 ?_
      refine z_mask [true, true, true, true, true, false, false] ?_
      exact s_N_goFrom_37 hI _ _ _ _ _ _
    · refine z_ic2 d_N_goFrom_32 ?_
      refine z_goto (tgt := 37) d_N_goFrom_33 rfl ?_
      refine z_mask [true, true, true, true, true, false, false] ?_
      exact s_N_goFrom_37 hI _ _ _ _ _ _
/-! BubbleTorus$Net.wantsIn -/
theorem d_N_wantsIn_0 : decode m_N_wantsIn.2.1 0 = .ok (.iconst 0, 1) := by decide +kernel
theorem d_N_wantsIn_1 : decode m_N_wantsIn.2.1 1 = .ok (.istore_n 3, 1) := by decide +kernel
theorem d_N_wantsIn_2 : decode m_N_wantsIn.2.1 2 = .ok (.iload_n 3, 1) := by decide +kernel
theorem d_N_wantsIn_3 : decode m_N_wantsIn.2.1 3 = .ok (.bipush 9, 2) := by decide +kernel
theorem d_N_wantsIn_5 : decode m_N_wantsIn.2.1 5 = .ok (.if_icmp .ge 28, 3) := by decide +kernel
theorem d_N_wantsIn_8 : decode m_N_wantsIn.2.1 8 = .ok (.iload_n 3, 1) := by decide +kernel
theorem d_N_wantsIn_9 : decode m_N_wantsIn.2.1 9 = .ok (.iconst 1, 1) := by decide +kernel
theorem d_N_wantsIn_10 : decode m_N_wantsIn.2.1 10 = .ok (.iload_n 2, 1) := by decide +kernel
theorem d_N_wantsIn_11 : decode m_N_wantsIn.2.1 11 = .ok (.iadd, 1) := by decide +kernel
theorem d_N_wantsIn_12 : decode m_N_wantsIn.2.1 12 = .ok (.if_icmp .eq 15, 3) := by decide +kernel
theorem d_N_wantsIn_15 : decode m_N_wantsIn.2.1 15 = .ok (.aload_n 0, 1) := by decide +kernel
theorem d_N_wantsIn_16 : decode m_N_wantsIn.2.1 16 = .ok (.iload_n 1, 1) := by decide +kernel
theorem d_N_wantsIn_17 : decode m_N_wantsIn.2.1 17 = .ok (.iload_n 3, 1) := by decide +kernel
theorem d_N_wantsIn_18 : decode m_N_wantsIn.2.1 18 = .ok (.iload_n 2, 1) := by decide +kernel
theorem d_N_wantsIn_19 : decode m_N_wantsIn.2.1 19 = .ok (.invokevirtual 190, 3) := by decide +kernel
theorem d_N_wantsIn_22 : decode m_N_wantsIn.2.1 22 = .ok (.ifCond .eq 5, 3) := by decide +kernel
theorem d_N_wantsIn_25 : decode m_N_wantsIn.2.1 25 = .ok (.iconst 1, 1) := by decide +kernel
theorem d_N_wantsIn_26 : decode m_N_wantsIn.2.1 26 = .ok (.ireturn, 1) := by decide +kernel
theorem d_N_wantsIn_27 : decode m_N_wantsIn.2.1 27 = .ok (.iinc 3 1, 3) := by decide +kernel
theorem d_N_wantsIn_30 : decode m_N_wantsIn.2.1 30 = .ok (.goto (-28), 3) := by decide +kernel
theorem d_N_wantsIn_33 : decode m_N_wantsIn.2.1 33 = .ok (.iconst 0, 1) := by decide +kernel
theorem d_N_wantsIn_34 : decode m_N_wantsIn.2.1 34 = .ok (.ireturn, 1) := by decide +kernel
def f_N_wantsIn_2 (o : Nat) : Nat → Int → Int → Int → qMem → Option (Int × qMem)
  | 0, _, _, _, _ => none
  | n + 1, x1, x2, x3, w =>
    if x3 < 9 then
    if x3 = (w32 (1 + x2)) then
    (f_N_wantsIn_2 o n) x1 x2 (w32 (x3 + 1)) w
    else
    (f_N_isEscape o x1 x3 x2 w).bind fun q3 =>
    if q3.1 = 0 then
    (f_N_wantsIn_2 o n) x1 x2 (w32 (x3 + 1)) q3.2
    else
    some (1, q3.2)
    else
    some (0, w)
set_option maxRecDepth 4000 in
theorem s_N_wantsIn_2 {ph : Nat} {o : Nat} (hI : qIs kLN ph o) : ∀ (n : Nat), ∀ (x1 x2 x3 : Int) (w : qMem), qSim κI ph ph m_N_wantsIn 2 [] [some (qR o), some (qI x1), some (qI x2), some (qI x3)] w (f_N_wantsIn_2 o n x1 x2 x3 w) := by
  intro n
  induction n with
  | zero => intro x1 x2 x3 w; exact z_none
  | succ n ih =>
    intro x1 x2 x3 w
    rw [f_N_wantsIn_2]
    refine z_iload_n d_N_wantsIn_2 rfl ?_
    refine z_bipush d_N_wantsIn_3 ⟨by decide, by decide⟩ ?_
    refine z_icmp_ge (tgt := 33) d_N_wantsIn_5 rfl (fun c1 => ?_) (fun c1 => ?_)
    · refine z_iload_n d_N_wantsIn_8 rfl ?_
      refine z_ic1 d_N_wantsIn_9 ?_
      refine z_iload_n d_N_wantsIn_10 rfl ?_
      refine z_iadd d_N_wantsIn_11 ?_
      refine z_icmp_eq (tgt := 27) d_N_wantsIn_12 rfl (fun c2 => ?_) (fun c2 => ?_)
      · refine z_iinc (pls' := [some (qR o), some (qI x1), some (qI x2), some (qI (w32 (x3 + 1)))]) d_N_wantsIn_27 (by decide) rfl rfl rfl ?_
        refine z_goto (tgt := 2) d_N_wantsIn_30 rfl ?_
        refine z_mask [true, true, true, true] ?_
        exact ih _ _ _ _
      · refine z_aload_n d_N_wantsIn_15 rfl ?_
        refine z_iload_n d_N_wantsIn_16 rfl ?_
        refine z_iload_n d_N_wantsIn_17 rfl ?_
        refine z_iload_n d_N_wantsIn_18 rfl ?_
        refine z_cVI (as := [qI x1, qI x3, qI x2]) (st := []) (nl := 1) (ci := 3) d_N_wantsIn_19 lk_N_190 mk_N_isEscape rfl rfl (hI 0 _ rfl).1 rfl rfl rfl (s_N_isEscape _ _ _ hI _) (fun q3 _ hq3 => ?_)
        refine z_if_eq (tgt := 27) d_N_wantsIn_22 rfl (fun c4 => ?_) (fun c4 => ?_)
        · refine z_iinc (pls' := [some (qR o), some (qI x1), some (qI x2), some (qI (w32 (x3 + 1)))]) d_N_wantsIn_27 (by decide) rfl rfl rfl ?_
          refine z_goto (tgt := 2) d_N_wantsIn_30 rfl ?_
          refine z_mask [true, true, true, true] ?_
          exact ih _ _ _ _
        · refine z_ic1 d_N_wantsIn_25 ?_
          exact z_zret d_N_wantsIn_26 rfl rfl (Or.inr rfl)
    · refine z_ic0 d_N_wantsIn_33 ?_
      exact z_zret d_N_wantsIn_34 rfl rfl (Or.inl rfl)
def f_N_wantsIn (o : Nat) (x1 : Int) (x2 : Int) (w : qMem) : Option (Int × qMem) :=
  f_N_wantsIn_2 o qFU x1 x2 0 w
set_option maxRecDepth 4000 in
theorem s_N_wantsIn {ph : Nat} {o : Nat} (x1 : Int) (x2 : Int) (hI : qIs kLN ph o) (w : qMem) : qSim κI ph ph m_N_wantsIn 0 [] [some (qR o), some (qI x1), some (qI x2), none] w (f_N_wantsIn o x1 x2 w) := by
  unfold f_N_wantsIn
  refine z_ic0 d_N_wantsIn_0 ?_
  refine z_istore_n (pls' := [some (qR o), some (qI x1), some (qI x2), some (qI 0)]) d_N_wantsIn_1 (by decide) rfl rfl ?_
  refine z_mask [true, true, true, true] ?_
  exact s_N_wantsIn_2 hI _ _ _ _ _
/-! BubbleTorus$Net.feelHunger -/
theorem d_N_feelHunger_0 : decode m_N_feelHunger.2.1 0 = .ok (.iconst 0, 1) := by decide +kernel
theorem d_N_feelHunger_1 : decode m_N_feelHunger.2.1 1 = .ok (.istore_n 1, 1) := by decide +kernel
theorem d_N_feelHunger_2 : decode m_N_feelHunger.2.1 2 = .ok (.iload_n 1, 1) := by decide +kernel
theorem d_N_feelHunger_3 : decode m_N_feelHunger.2.1 3 = .ok (.aload_n 0, 1) := by decide +kernel
theorem d_N_feelHunger_4 : decode m_N_feelHunger.2.1 4 = .ok (.getfield 12, 3) := by decide +kernel
theorem d_N_feelHunger_7 : decode m_N_feelHunger.2.1 7 = .ok (.getfield 137, 3) := by decide +kernel
theorem d_N_feelHunger_10 : decode m_N_feelHunger.2.1 10 = .ok (.if_icmp .ge 61, 3) := by decide +kernel
theorem d_N_feelHunger_13 : decode m_N_feelHunger.2.1 13 = .ok (.iconst 0, 1) := by decide +kernel
theorem d_N_feelHunger_14 : decode m_N_feelHunger.2.1 14 = .ok (.istore_n 2, 1) := by decide +kernel
theorem d_N_feelHunger_15 : decode m_N_feelHunger.2.1 15 = .ok (.iload_n 2, 1) := by decide +kernel
theorem d_N_feelHunger_16 : decode m_N_feelHunger.2.1 16 = .ok (.iconst 4, 1) := by decide +kernel
theorem d_N_feelHunger_17 : decode m_N_feelHunger.2.1 17 = .ok (.if_icmp .ge 48, 3) := by decide +kernel
theorem d_N_feelHunger_20 : decode m_N_feelHunger.2.1 20 = .ok (.aload_n 0, 1) := by decide +kernel
theorem d_N_feelHunger_21 : decode m_N_feelHunger.2.1 21 = .ok (.getfield 42, 3) := by decide +kernel
theorem d_N_feelHunger_24 : decode m_N_feelHunger.2.1 24 = .ok (.iload_n 1, 1) := by decide +kernel
theorem d_N_feelHunger_25 : decode m_N_feelHunger.2.1 25 = .ok (.iload_n 2, 1) := by decide +kernel
theorem d_N_feelHunger_26 : decode m_N_feelHunger.2.1 26 = .ok (.aload_n 0, 1) := by decide +kernel
theorem d_N_feelHunger_27 : decode m_N_feelHunger.2.1 27 = .ok (.iload_n 1, 1) := by decide +kernel
theorem d_N_feelHunger_28 : decode m_N_feelHunger.2.1 28 = .ok (.iload_n 2, 1) := by decide +kernel
theorem d_N_feelHunger_29 : decode m_N_feelHunger.2.1 29 = .ok (.invokevirtual 246, 3) := by decide +kernel
theorem d_N_feelHunger_32 : decode m_N_feelHunger.2.1 32 = .ok (.ifCond .eq 23, 3) := by decide +kernel
theorem d_N_feelHunger_35 : decode m_N_feelHunger.2.1 35 = .ok (.aload_n 0, 1) := by decide +kernel
theorem d_N_feelHunger_36 : decode m_N_feelHunger.2.1 36 = .ok (.getfield 42, 3) := by decide +kernel
theorem d_N_feelHunger_39 : decode m_N_feelHunger.2.1 39 = .ok (.getfield 229, 3) := by decide +kernel
theorem d_N_feelHunger_42 : decode m_N_feelHunger.2.1 42 = .ok (.iload_n 1, 1) := by decide +kernel
theorem d_N_feelHunger_43 : decode m_N_feelHunger.2.1 43 = .ok (.iconst 4, 1) := by decide +kernel
theorem d_N_feelHunger_44 : decode m_N_feelHunger.2.1 44 = .ok (.imul, 1) := by decide +kernel
theorem d_N_feelHunger_45 : decode m_N_feelHunger.2.1 45 = .ok (.iload_n 2, 1) := by decide +kernel
theorem d_N_feelHunger_46 : decode m_N_feelHunger.2.1 46 = .ok (.iadd, 1) := by decide +kernel
theorem d_N_feelHunger_47 : decode m_N_feelHunger.2.1 47 = .ok (.baload, 1) := by decide +kernel
theorem d_N_feelHunger_48 : decode m_N_feelHunger.2.1 48 = .ok (.ifCond .ne 7, 3) := by decide +kernel
theorem d_N_feelHunger_51 : decode m_N_feelHunger.2.1 51 = .ok (.iconst 1, 1) := by decide +kernel
theorem d_N_feelHunger_52 : decode m_N_feelHunger.2.1 52 = .ok (.goto 4, 3) := by decide +kernel
theorem d_N_feelHunger_55 : decode m_N_feelHunger.2.1 55 = .ok (.iconst 0, 1) := by decide +kernel
theorem d_N_feelHunger_56 : decode m_N_feelHunger.2.1 56 = .ok (.invokevirtual 249, 3) := by decide +kernel
theorem d_N_feelHunger_59 : decode m_N_feelHunger.2.1 59 = .ok (.iinc 2 1, 3) := by decide +kernel
theorem d_N_feelHunger_62 : decode m_N_feelHunger.2.1 62 = .ok (.goto (-47), 3) := by decide +kernel
theorem d_N_feelHunger_65 : decode m_N_feelHunger.2.1 65 = .ok (.iinc 1 1, 3) := by decide +kernel
theorem d_N_feelHunger_68 : decode m_N_feelHunger.2.1 68 = .ok (.goto (-66), 3) := by decide +kernel
theorem d_N_feelHunger_71 : decode m_N_feelHunger.2.1 71 = .ok (.return_, 1) := by decide +kernel
def f_N_feelHunger_56 (o : Nat) (r2 : Int → qMem → Option (qMem)) (r15 : Int → Int → qMem → Option (qMem)) (s1 s2 s3 x1 x2 : Int) (w : qMem) : Option (qMem) :=
  (f_R_noteHunger (o + 24) s1 s2 s3 w).bind fun q1 =>
  r15 x1 (w32 (x2 + 1)) q1
set_option maxRecDepth 4000 in
theorem s_N_feelHunger_56 {ph : Nat} {o : Nat} (hI : qIs kLN ph o) {r2 : Int → qMem → Option (qMem)} {r15 : Int → Int → qMem → Option (qMem)} (hr2 : ∀ x1 w, qSim κV ph ph m_N_feelHunger 2 [] [some (qR o), some (qI x1), none] w (r2 x1 w)) (hr15 : ∀ x1 x2 w, qSim κV ph ph m_N_feelHunger 15 [] [some (qR o), some (qI x1), some (qI x2)] w (r15 x1 x2 w)) : ∀ (s1 s2 s3 x1 x2 : Int) (w : qMem), (s3 = 0 ∨ s3 = 1) → qSim κV ph ph m_N_feelHunger 56 [qI s3, qI s2, qI s1, qR (o + 24)] [some (qR o), some (qI x1), some (qI x2)] w (f_N_feelHunger_56 o r2 r15 s1 s2 s3 x1 x2 w) := by
  intro s1 s2 s3 x1 x2 w hs3
  unfold f_N_feelHunger_56
  refine z_cVV (as := [qI s1, qI s2, qI s3]) (st := []) (nl := 1) (ci := 7) d_N_feelHunger_56 lk_N_249 mk_R_noteHunger rfl rfl (hI 24 _ rfl).1 rfl rfl rfl (s_R_noteHunger _ _ _ (is_N_R hI) _) (fun q1 _ => ?_)
  refine z_iinc (pls' := [some (qR o), some (qI x1), some (qI (w32 (x2 + 1)))]) d_N_feelHunger_59 (by decide) rfl rfl rfl ?_
  refine z_goto (tgt := 15) d_N_feelHunger_62 rfl ?_
  refine z_mask [true, true, true] ?_
  exact hr15 _ _ _
def f_N_feelHunger_15 (o : Nat) (r2 : Int → qMem → Option (qMem)) : Nat → Int → Int → qMem → Option (qMem)
  | 0, _, _, _ => none
  | n + 1, x1, x2, w =>
    if x2 < 4 then
    (f_N_wantsIn o x1 x2 w).bind fun q3 =>
    if q3.1 = 0 then
    f_N_feelHunger_56 o r2 (f_N_feelHunger_15 o r2 n) x1 x2 0 x1 x2 q3.2
    else
    qld q3.2 (o + 33) 64 (w32 ((w32 (x1 * 4)) + x2)) fun v5 =>
    if v5 = 0 then
    f_N_feelHunger_56 o r2 (f_N_feelHunger_15 o r2 n) x1 x2 1 x1 x2 q3.2
    else
    f_N_feelHunger_56 o r2 (f_N_feelHunger_15 o r2 n) x1 x2 0 x1 x2 q3.2
    else
    r2 (w32 (x1 + 1)) w
set_option maxRecDepth 4000 in
theorem s_N_feelHunger_15 {ph : Nat} {o : Nat} (hI : qIs kLN ph o) {r2 : Int → qMem → Option (qMem)} (hr2 : ∀ x1 w, qSim κV ph ph m_N_feelHunger 2 [] [some (qR o), some (qI x1), none] w (r2 x1 w)) : ∀ (n : Nat), ∀ (x1 x2 : Int) (w : qMem), qSim κV ph ph m_N_feelHunger 15 [] [some (qR o), some (qI x1), some (qI x2)] w (f_N_feelHunger_15 o r2 n x1 x2 w) := by
  intro n
  induction n with
  | zero => intro x1 x2 w; exact z_none
  | succ n ih =>
    intro x1 x2 w
    rw [f_N_feelHunger_15]
    refine z_iload_n d_N_feelHunger_15 rfl ?_
    refine z_ic4 d_N_feelHunger_16 ?_
    refine z_icmp_ge (tgt := 65) d_N_feelHunger_17 rfl (fun c2 => ?_) (fun c2 => ?_)
    · refine z_aload_n d_N_feelHunger_20 rfl ?_
      refine z_gr (ci := 3) (j := 4) (d := 24) (o2 := (o + 24)) d_N_feelHunger_21 rfl fl_N_42 (hI 0 _ rfl).1 ((hI 0 _ rfl).2 (Nat.le_of_ble_eq_true rfl)) rfl rfl ?_
      refine z_iload_n d_N_feelHunger_24 rfl ?_
      refine z_iload_n d_N_feelHunger_25 rfl ?_
      refine z_aload_n d_N_feelHunger_26 rfl ?_
      refine z_iload_n d_N_feelHunger_27 rfl ?_
      refine z_iload_n d_N_feelHunger_28 rfl ?_
      refine z_cVI (as := [qI x1, qI x2]) (st := [qI x2, qI x1, qR (o + 24)]) (nl := 1) (ci := 3) d_N_feelHunger_29 lk_N_246 mk_N_wantsIn rfl rfl (hI 0 _ rfl).1 rfl rfl rfl (s_N_wantsIn _ _ hI _) (fun q3 _ hq3 => ?_)
      refine z_if_eq (tgt := 55) d_N_feelHunger_32 rfl (fun c4 => ?_) (fun c4 => ?_)
      · refine z_ic0 d_N_feelHunger_55 ?_
        refine z_mask [true, true, true] ?_
        exact s_N_feelHunger_56 hI hr2 ih _ _ _ _ _ _ (Or.inl rfl)
      · refine z_aload_n d_N_feelHunger_35 rfl ?_
        refine z_gr (ci := 3) (j := 4) (d := 24) (o2 := (o + 24)) d_N_feelHunger_36 rfl fl_N_42 (hI 0 _ rfl).1 ((hI 0 _ rfl).2 (Nat.le_of_ble_eq_true rfl)) rfl rfl ?_
        refine z_gr (ci := 7) (j := 8) (d := 9) (o2 := (o + 33)) d_N_feelHunger_39 rfl fl_N_229 (hI 24 _ rfl).1 ((hI 24 _ rfl).2 (Nat.le_of_ble_eq_true rfl)) rfl rfl ?_
        refine z_iload_n d_N_feelHunger_42 rfl ?_
        refine z_ic4 d_N_feelHunger_43 ?_
        refine z_imul d_N_feelHunger_44 ?_
        refine z_iload_n d_N_feelHunger_45 rfl ?_
        refine z_iadd d_N_feelHunger_46 ?_
        refine z_zl d_N_feelHunger_47 (hI 33 _ rfl).1 rfl (fun v5 hz6 => ?_)
        refine z_if_ne (tgt := 55) d_N_feelHunger_48 rfl (fun c7 => ?_) (fun c7 => ?_)
        · refine z_ic1 d_N_feelHunger_51 ?_
          refine z_goto (tgt := 56) d_N_feelHunger_52 rfl ?_
          refine z_mask [true, true, true] ?_
          exact s_N_feelHunger_56 hI hr2 ih _ _ _ _ _ _ (Or.inr rfl)
        · refine z_ic0 d_N_feelHunger_55 ?_
          refine z_mask [true, true, true] ?_
          exact s_N_feelHunger_56 hI hr2 ih _ _ _ _ _ _ (Or.inl rfl)
    · refine z_iinc (pls' := [some (qR o), some (qI (w32 (x1 + 1))), some (qI x2)]) d_N_feelHunger_65 (by decide) rfl rfl rfl ?_
      refine z_goto (tgt := 2) d_N_feelHunger_68 rfl ?_
      refine z_mask [true, true, false] ?_
      exact hr2 _ _
def f_N_feelHunger_2 (o : Nat) : Nat → Int → qMem → Option (qMem)
  | 0, _, _ => none
  | n + 1, x1, w =>
    if x1 < (w (o + 1) 5) then
    f_N_feelHunger_15 o (f_N_feelHunger_2 o n) qFU x1 0 w
    else
    some w
set_option maxRecDepth 4000 in
theorem s_N_feelHunger_2 {ph : Nat} {o : Nat} (hI : qIs kLN ph o) : ∀ (n : Nat), ∀ (x1 : Int) (w : qMem), qSim κV ph ph m_N_feelHunger 2 [] [some (qR o), some (qI x1), none] w (f_N_feelHunger_2 o n x1 w) := by
  intro n
  induction n with
  | zero => intro x1 w; exact z_none
  | succ n ih =>
    intro x1 w
    rw [f_N_feelHunger_2]
    refine z_iload_n d_N_feelHunger_2 rfl ?_
    refine z_aload_n d_N_feelHunger_3 rfl ?_
    refine z_gr (ci := 3) (j := 0) (d := 1) (o2 := (o + 1)) d_N_feelHunger_4 rfl fl_N_12 (hI 0 _ rfl).1 ((hI 0 _ rfl).2 (Nat.le_of_ble_eq_true rfl)) rfl rfl ?_
    refine z_gi (ci := 0) (j := 5) (ji := 5) d_N_feelHunger_7 rfl fl_N_137 (hI 1 _ rfl).1 rfl rfl ?_
    refine z_icmp_ge (tgt := 71) d_N_feelHunger_10 rfl (fun c8 => ?_) (fun c8 => ?_)
    · refine z_ic0 d_N_feelHunger_13 ?_
      refine z_istore_n (pls' := [some (qR o), some (qI x1), some (qI 0)]) d_N_feelHunger_14 (by decide) rfl rfl ?_
      refine z_mask [true, true, true] ?_
      exact s_N_feelHunger_15 hI ih _ _ _ _
    · exact z_vret d_N_feelHunger_71 rfl rfl
def f_N_feelHunger (o : Nat) (w : qMem) : Option (qMem) :=
  f_N_feelHunger_2 o qFU 0 w
set_option maxRecDepth 4000 in
theorem s_N_feelHunger {ph : Nat} {o : Nat} (hI : qIs kLN ph o) (w : qMem) : qSim κV ph ph m_N_feelHunger 0 [] [some (qR o), none, none] w (f_N_feelHunger o w) := by
  unfold f_N_feelHunger
  refine z_ic0 d_N_feelHunger_0 ?_
  refine z_istore_n (pls' := [some (qR o), some (qI 0), none]) d_N_feelHunger_1 (by decide) rfl rfl ?_
  refine z_mask [true, true, false] ?_
  exact s_N_feelHunger_2 hI _ _ _
/-! BubbleTorus$Net.hungriestIn -/
theorem d_N_hungriestIn_0 : decode m_N_hungriestIn.2.1 0 = .ok (.iconst (-1), 1) := by decide +kernel
theorem d_N_hungriestIn_1 : decode m_N_hungriestIn.2.1 1 = .ok (.istore_n 3, 1) := by decide +kernel
theorem d_N_hungriestIn_2 : decode m_N_hungriestIn.2.1 2 = .ok (.aload_n 0, 1) := by decide +kernel
theorem d_N_hungriestIn_3 : decode m_N_hungriestIn.2.1 3 = .ok (.getfield 60, 3) := by decide +kernel
theorem d_N_hungriestIn_6 : decode m_N_hungriestIn.2.1 6 = .ok (.iconst 1, 1) := by decide +kernel
theorem d_N_hungriestIn_7 : decode m_N_hungriestIn.2.1 7 = .ok (.isub, 1) := by decide +kernel
theorem d_N_hungriestIn_8 : decode m_N_hungriestIn.2.1 8 = .ok (.istore 4, 2) := by decide +kernel
theorem d_N_hungriestIn_10 : decode m_N_hungriestIn.2.1 10 = .ok (.iconst 0, 1) := by decide +kernel
theorem d_N_hungriestIn_11 : decode m_N_hungriestIn.2.1 11 = .ok (.istore 5, 2) := by decide +kernel
theorem d_N_hungriestIn_13 : decode m_N_hungriestIn.2.1 13 = .ok (.iload 5, 2) := by decide +kernel
theorem d_N_hungriestIn_15 : decode m_N_hungriestIn.2.1 15 = .ok (.aload_n 0, 1) := by decide +kernel
theorem d_N_hungriestIn_16 : decode m_N_hungriestIn.2.1 16 = .ok (.getfield 12, 3) := by decide +kernel
theorem d_N_hungriestIn_19 : decode m_N_hungriestIn.2.1 19 = .ok (.iload_n 1, 1) := by decide +kernel
theorem d_N_hungriestIn_20 : decode m_N_hungriestIn.2.1 20 = .ok (.invokevirtual 279, 3) := by decide +kernel
theorem d_N_hungriestIn_23 : decode m_N_hungriestIn.2.1 23 = .ok (.if_icmp .ge 59, 3) := by decide +kernel
theorem d_N_hungriestIn_26 : decode m_N_hungriestIn.2.1 26 = .ok (.aload_n 0, 1) := by decide +kernel
theorem d_N_hungriestIn_27 : decode m_N_hungriestIn.2.1 27 = .ok (.getfield 12, 3) := by decide +kernel
theorem d_N_hungriestIn_30 : decode m_N_hungriestIn.2.1 30 = .ok (.iload_n 1, 1) := by decide +kernel
theorem d_N_hungriestIn_31 : decode m_N_hungriestIn.2.1 31 = .ok (.iload 5, 2) := by decide +kernel
theorem d_N_hungriestIn_33 : decode m_N_hungriestIn.2.1 33 = .ok (.invokevirtual 282, 3) := by decide +kernel
theorem d_N_hungriestIn_36 : decode m_N_hungriestIn.2.1 36 = .ok (.istore 6, 2) := by decide +kernel
theorem d_N_hungriestIn_38 : decode m_N_hungriestIn.2.1 38 = .ok (.aload_n 0, 1) := by decide +kernel
theorem d_N_hungriestIn_39 : decode m_N_hungriestIn.2.1 39 = .ok (.getfield 42, 3) := by decide +kernel
theorem d_N_hungriestIn_42 : decode m_N_hungriestIn.2.1 42 = .ok (.getfield 261, 3) := by decide +kernel
theorem d_N_hungriestIn_45 : decode m_N_hungriestIn.2.1 45 = .ok (.iload 6, 2) := by decide +kernel
theorem d_N_hungriestIn_47 : decode m_N_hungriestIn.2.1 47 = .ok (.iconst 4, 1) := by decide +kernel
theorem d_N_hungriestIn_48 : decode m_N_hungriestIn.2.1 48 = .ok (.imul, 1) := by decide +kernel
theorem d_N_hungriestIn_49 : decode m_N_hungriestIn.2.1 49 = .ok (.iload_n 2, 1) := by decide +kernel
theorem d_N_hungriestIn_50 : decode m_N_hungriestIn.2.1 50 = .ok (.iadd, 1) := by decide +kernel
theorem d_N_hungriestIn_51 : decode m_N_hungriestIn.2.1 51 = .ok (.iaload, 1) := by decide +kernel
theorem d_N_hungriestIn_52 : decode m_N_hungriestIn.2.1 52 = .ok (.iload 4, 2) := by decide +kernel
theorem d_N_hungriestIn_54 : decode m_N_hungriestIn.2.1 54 = .ok (.if_icmp .le 22, 3) := by decide +kernel
theorem d_N_hungriestIn_57 : decode m_N_hungriestIn.2.1 57 = .ok (.iload 6, 2) := by decide +kernel
theorem d_N_hungriestIn_59 : decode m_N_hungriestIn.2.1 59 = .ok (.istore_n 3, 1) := by decide +kernel
theorem d_N_hungriestIn_60 : decode m_N_hungriestIn.2.1 60 = .ok (.aload_n 0, 1) := by decide +kernel
theorem d_N_hungriestIn_61 : decode m_N_hungriestIn.2.1 61 = .ok (.getfield 42, 3) := by decide +kernel
theorem d_N_hungriestIn_64 : decode m_N_hungriestIn.2.1 64 = .ok (.getfield 261, 3) := by decide +kernel
theorem d_N_hungriestIn_67 : decode m_N_hungriestIn.2.1 67 = .ok (.iload 6, 2) := by decide +kernel
theorem d_N_hungriestIn_69 : decode m_N_hungriestIn.2.1 69 = .ok (.iconst 4, 1) := by decide +kernel
theorem d_N_hungriestIn_70 : decode m_N_hungriestIn.2.1 70 = .ok (.imul, 1) := by decide +kernel
theorem d_N_hungriestIn_71 : decode m_N_hungriestIn.2.1 71 = .ok (.iload_n 2, 1) := by decide +kernel
theorem d_N_hungriestIn_72 : decode m_N_hungriestIn.2.1 72 = .ok (.iadd, 1) := by decide +kernel
theorem d_N_hungriestIn_73 : decode m_N_hungriestIn.2.1 73 = .ok (.iaload, 1) := by decide +kernel
theorem d_N_hungriestIn_74 : decode m_N_hungriestIn.2.1 74 = .ok (.istore 4, 2) := by decide +kernel
theorem d_N_hungriestIn_76 : decode m_N_hungriestIn.2.1 76 = .ok (.iinc 5 1, 3) := by decide +kernel
theorem d_N_hungriestIn_79 : decode m_N_hungriestIn.2.1 79 = .ok (.goto (-66), 3) := by decide +kernel
theorem d_N_hungriestIn_82 : decode m_N_hungriestIn.2.1 82 = .ok (.iload_n 3, 1) := by decide +kernel
theorem d_N_hungriestIn_83 : decode m_N_hungriestIn.2.1 83 = .ok (.ireturn, 1) := by decide +kernel
def f_N_hungriestIn_13 (o : Nat) : Nat → Int → Int → Int → Int → Int → qMem → Option (Int × qMem)
  | 0, _, _, _, _, _, _ => none
  | n + 1, x1, x2, x3, x4, x5, w =>
    (f_G_ringLength (o + 1) x1 w).bind fun q1 =>
    if x5 < q1.1 then
    (f_G_ringNode (o + 1) x1 x5 q1.2).bind fun q3 =>
    qld q3.2 (o + 31) 64 (w32 ((w32 (q3.1 * 4)) + x2)) fun v4 =>
    if v4 ≤ x4 then
    (f_N_hungriestIn_13 o n) x1 x2 x3 x4 (w32 (x5 + 1)) q3.2
    else
    qld q3.2 (o + 31) 64 (w32 ((w32 (q3.1 * 4)) + x2)) fun v6 =>
    (f_N_hungriestIn_13 o n) x1 x2 q3.1 v6 (w32 (x5 + 1)) q3.2
    else
    some (x3, q1.2)
set_option maxRecDepth 4000 in
theorem s_N_hungriestIn_13 {ph : Nat} {o : Nat} (hI : qIs kLN ph o) : ∀ (n : Nat), ∀ (x1 x2 x3 x4 x5 : Int) (w : qMem), qSim κI ph ph m_N_hungriestIn 13 [] [some (qR o), some (qI x1), some (qI x2), some (qI x3), some (qI x4), some (qI x5), none] w (f_N_hungriestIn_13 o n x1 x2 x3 x4 x5 w) := by
  intro n
  induction n with
  | zero => intro x1 x2 x3 x4 x5 w; exact z_none
  | succ n ih =>
    intro x1 x2 x3 x4 x5 w
    rw [f_N_hungriestIn_13]
    refine z_iload d_N_hungriestIn_13 rfl ?_
    refine z_aload_n d_N_hungriestIn_15 rfl ?_
    refine z_gr (ci := 3) (j := 0) (d := 1) (o2 := (o + 1)) d_N_hungriestIn_16 rfl fl_N_12 (hI 0 _ rfl).1 ((hI 0 _ rfl).2 (Nat.le_of_ble_eq_true rfl)) rfl rfl ?_
    refine z_iload_n d_N_hungriestIn_19 rfl ?_
    refine z_cVI (as := [qI x1]) (st := [qI x5]) (nl := 0) (ci := 0) d_N_hungriestIn_20 lk_N_279 mk_G_ringLength rfl rfl (hI 1 _ rfl).1 rfl rfl rfl (s_G_ringLength _ (is_N_G hI) _) (fun q1 _ hq1 => ?_)
    refine z_icmp_ge (tgt := 82) d_N_hungriestIn_23 rfl (fun c2 => ?_) (fun c2 => ?_)
    · refine z_aload_n d_N_hungriestIn_26 rfl ?_
      refine z_gr (ci := 3) (j := 0) (d := 1) (o2 := (o + 1)) d_N_hungriestIn_27 rfl fl_N_12 (hI 0 _ rfl).1 ((hI 0 _ rfl).2 (Nat.le_of_ble_eq_true rfl)) rfl rfl ?_
      refine z_iload_n d_N_hungriestIn_30 rfl ?_
      refine z_iload d_N_hungriestIn_31 rfl ?_
      refine z_cVI (as := [qI x1, qI x5]) (st := []) (nl := 1) (ci := 0) d_N_hungriestIn_33 lk_N_282 mk_G_ringNode rfl rfl (hI 1 _ rfl).1 rfl rfl rfl (s_G_ringNode _ _ (is_N_G hI) _) (fun q3 _ hq3 => ?_)
      refine z_istore (pls' := [some (qR o), some (qI x1), some (qI x2), some (qI x3), some (qI x4), some (qI x5), some (qI q3.1)]) d_N_hungriestIn_36 (by decide) rfl rfl ?_
      refine z_aload_n d_N_hungriestIn_38 rfl ?_
      refine z_gr (ci := 3) (j := 4) (d := 24) (o2 := (o + 24)) d_N_hungriestIn_39 rfl fl_N_42 (hI 0 _ rfl).1 ((hI 0 _ rfl).2 (Nat.le_of_ble_eq_true rfl)) rfl rfl ?_
      refine z_gr (ci := 7) (j := 6) (d := 7) (o2 := (o + 31)) d_N_hungriestIn_42 rfl fl_N_261 (hI 24 _ rfl).1 ((hI 24 _ rfl).2 (Nat.le_of_ble_eq_true rfl)) rfl rfl ?_
      refine z_iload d_N_hungriestIn_45 rfl ?_
      refine z_ic4 d_N_hungriestIn_47 ?_
      refine z_imul d_N_hungriestIn_48 ?_
      refine z_iload_n d_N_hungriestIn_49 rfl ?_
      refine z_iadd d_N_hungriestIn_50 ?_
      refine z_il d_N_hungriestIn_51 (hI 31 _ rfl).1 rfl (fun v4 => ?_)
      refine z_iload d_N_hungriestIn_52 rfl ?_
      refine z_icmp_le (tgt := 76) d_N_hungriestIn_54 rfl (fun c5 => ?_) (fun c5 => ?_)
      · refine z_iinc (pls' := [some (qR o), some (qI x1), some (qI x2), some (qI x3), some (qI x4), some (qI (w32 (x5 + 1))), some (qI q3.1)]) d_N_hungriestIn_76 (by decide) rfl rfl rfl ?_
        refine z_goto (tgt := 13) d_N_hungriestIn_79 rfl ?_
        refine z_mask [true, true, true, true, true, true, false] ?_
        exact ih _ _ _ _ _ _
      · refine z_iload d_N_hungriestIn_57 rfl ?_
        refine z_istore_n (pls' := [some (qR o), some (qI x1), some (qI x2), some (qI q3.1), some (qI x4), some (qI x5), some (qI q3.1)]) d_N_hungriestIn_59 (by decide) rfl rfl ?_
        refine z_aload_n d_N_hungriestIn_60 rfl ?_
        refine z_gr (ci := 3) (j := 4) (d := 24) (o2 := (o + 24)) d_N_hungriestIn_61 rfl fl_N_42 (hI 0 _ rfl).1 ((hI 0 _ rfl).2 (Nat.le_of_ble_eq_true rfl)) rfl rfl ?_
        refine z_gr (ci := 7) (j := 6) (d := 7) (o2 := (o + 31)) d_N_hungriestIn_64 rfl fl_N_261 (hI 24 _ rfl).1 ((hI 24 _ rfl).2 (Nat.le_of_ble_eq_true rfl)) rfl rfl ?_
        refine z_iload d_N_hungriestIn_67 rfl ?_
        refine z_ic4 d_N_hungriestIn_69 ?_
        refine z_imul d_N_hungriestIn_70 ?_
        refine z_iload_n d_N_hungriestIn_71 rfl ?_
        refine z_iadd d_N_hungriestIn_72 ?_
        refine z_il d_N_hungriestIn_73 (hI 31 _ rfl).1 rfl (fun v6 => ?_)
        refine z_istore (pls' := [some (qR o), some (qI x1), some (qI x2), some (qI q3.1), some (qI v6), some (qI x5), some (qI q3.1)]) d_N_hungriestIn_74 (by decide) rfl rfl ?_
        refine z_iinc (pls' := [some (qR o), some (qI x1), some (qI x2), some (qI q3.1), some (qI v6), some (qI (w32 (x5 + 1))), some (qI q3.1)]) d_N_hungriestIn_76 (by decide) rfl rfl rfl ?_
        refine z_goto (tgt := 13) d_N_hungriestIn_79 rfl ?_
        refine z_mask [true, true, true, true, true, true, false] ?_
        exact ih _ _ _ _ _ _
    · refine z_iload_n d_N_hungriestIn_82 rfl ?_
      exact z_iret d_N_hungriestIn_83 rfl rfl
def f_N_hungriestIn (o : Nat) (x1 : Int) (x2 : Int) (w : qMem) : Option (Int × qMem) :=
  f_N_hungriestIn_13 o qFU x1 x2 (-1) (w32 ((w o 9) - 1)) 0 w
set_option maxRecDepth 4000 in
theorem s_N_hungriestIn {ph : Nat} {o : Nat} (x1 : Int) (x2 : Int) (hI : qIs kLN ph o) (w : qMem) : qSim κI ph ph m_N_hungriestIn 0 [] [some (qR o), some (qI x1), some (qI x2), none, none, none, none] w (f_N_hungriestIn o x1 x2 w) := by
  unfold f_N_hungriestIn
  refine z_icm1 d_N_hungriestIn_0 ?_
  refine z_istore_n (pls' := [some (qR o), some (qI x1), some (qI x2), some (qI (-1)), none, none, none]) d_N_hungriestIn_1 (by decide) rfl rfl ?_
  refine z_aload_n d_N_hungriestIn_2 rfl ?_
  refine z_gi (ci := 3) (j := 9) (ji := 9) d_N_hungriestIn_3 rfl fl_N_60 (hI 0 _ rfl).1 rfl rfl ?_
  refine z_ic1 d_N_hungriestIn_6 ?_
  refine z_isub d_N_hungriestIn_7 ?_
  refine z_istore (pls' := [some (qR o), some (qI x1), some (qI x2), some (qI (-1)), some (qI (w32 ((w o 9) - 1))), none, none]) d_N_hungriestIn_8 (by decide) rfl rfl ?_
  refine z_ic0 d_N_hungriestIn_10 ?_
  refine z_istore (pls' := [some (qR o), some (qI x1), some (qI x2), some (qI (-1)), some (qI (w32 ((w o 9) - 1))), some (qI 0), none]) d_N_hungriestIn_11 (by decide) rfl rfl ?_
  refine z_mask [true, true, true, true, true, true, false] ?_
  exact s_N_hungriestIn_13 hI _ _ _ _ _ _ _
/-! BubbleTorus$Net.turnMarks -/
theorem d_N_turnMarks_0 : decode m_N_turnMarks.2.1 0 = .ok (.iconst 0, 1) := by decide +kernel
theorem d_N_turnMarks_1 : decode m_N_turnMarks.2.1 1 = .ok (.istore_n 1, 1) := by decide +kernel
theorem d_N_turnMarks_2 : decode m_N_turnMarks.2.1 2 = .ok (.iload_n 1, 1) := by decide +kernel
theorem d_N_turnMarks_3 : decode m_N_turnMarks.2.1 3 = .ok (.aload_n 0, 1) := by decide +kernel
theorem d_N_turnMarks_4 : decode m_N_turnMarks.2.1 4 = .ok (.getfield 12, 3) := by decide +kernel
theorem d_N_turnMarks_7 : decode m_N_turnMarks.2.1 7 = .ok (.getfield 253, 3) := by decide +kernel
theorem d_N_turnMarks_10 : decode m_N_turnMarks.2.1 10 = .ok (.if_icmp .ge 114, 3) := by decide +kernel
theorem d_N_turnMarks_13 : decode m_N_turnMarks.2.1 13 = .ok (.aload_n 0, 1) := by decide +kernel
theorem d_N_turnMarks_14 : decode m_N_turnMarks.2.1 14 = .ok (.getfield 12, 3) := by decide +kernel
theorem d_N_turnMarks_17 : decode m_N_turnMarks.2.1 17 = .ok (.iload_n 1, 1) := by decide +kernel
theorem d_N_turnMarks_18 : decode m_N_turnMarks.2.1 18 = .ok (.invokevirtual 255, 3) := by decide +kernel
theorem d_N_turnMarks_21 : decode m_N_turnMarks.2.1 21 = .ok (.istore_n 2, 1) := by decide +kernel
theorem d_N_turnMarks_22 : decode m_N_turnMarks.2.1 22 = .ok (.aload_n 0, 1) := by decide +kernel
theorem d_N_turnMarks_23 : decode m_N_turnMarks.2.1 23 = .ok (.getfield 42, 3) := by decide +kernel
theorem d_N_turnMarks_26 : decode m_N_turnMarks.2.1 26 = .ok (.getfield 258, 3) := by decide +kernel
theorem d_N_turnMarks_29 : decode m_N_turnMarks.2.1 29 = .ok (.iload_n 1, 1) := by decide +kernel
theorem d_N_turnMarks_30 : decode m_N_turnMarks.2.1 30 = .ok (.iaload, 1) := by decide +kernel
theorem d_N_turnMarks_31 : decode m_N_turnMarks.2.1 31 = .ok (.istore_n 3, 1) := by decide +kernel
theorem d_N_turnMarks_32 : decode m_N_turnMarks.2.1 32 = .ok (.iload_n 3, 1) := by decide +kernel
theorem d_N_turnMarks_33 : decode m_N_turnMarks.2.1 33 = .ok (.iconst (-1), 1) := by decide +kernel
theorem d_N_turnMarks_34 : decode m_N_turnMarks.2.1 34 = .ok (.if_icmp .eq 47, 3) := by decide +kernel
theorem d_N_turnMarks_37 : decode m_N_turnMarks.2.1 37 = .ok (.aload_n 0, 1) := by decide +kernel
theorem d_N_turnMarks_38 : decode m_N_turnMarks.2.1 38 = .ok (.getfield 42, 3) := by decide +kernel
theorem d_N_turnMarks_41 : decode m_N_turnMarks.2.1 41 = .ok (.getfield 261, 3) := by decide +kernel
theorem d_N_turnMarks_44 : decode m_N_turnMarks.2.1 44 = .ok (.iload_n 3, 1) := by decide +kernel
theorem d_N_turnMarks_45 : decode m_N_turnMarks.2.1 45 = .ok (.iconst 4, 1) := by decide +kernel
theorem d_N_turnMarks_46 : decode m_N_turnMarks.2.1 46 = .ok (.imul, 1) := by decide +kernel
theorem d_N_turnMarks_47 : decode m_N_turnMarks.2.1 47 = .ok (.iload_n 2, 1) := by decide +kernel
theorem d_N_turnMarks_48 : decode m_N_turnMarks.2.1 48 = .ok (.iadd, 1) := by decide +kernel
theorem d_N_turnMarks_49 : decode m_N_turnMarks.2.1 49 = .ok (.iaload, 1) := by decide +kernel
theorem d_N_turnMarks_50 : decode m_N_turnMarks.2.1 50 = .ok (.ifCond .le 31, 3) := by decide +kernel
theorem d_N_turnMarks_53 : decode m_N_turnMarks.2.1 53 = .ok (.aload_n 0, 1) := by decide +kernel
theorem d_N_turnMarks_54 : decode m_N_turnMarks.2.1 54 = .ok (.getfield 42, 3) := by decide +kernel
theorem d_N_turnMarks_57 : decode m_N_turnMarks.2.1 57 = .ok (.iload_n 1, 1) := by decide +kernel
theorem d_N_turnMarks_58 : decode m_N_turnMarks.2.1 58 = .ok (.aload_n 0, 1) := by decide +kernel
theorem d_N_turnMarks_59 : decode m_N_turnMarks.2.1 59 = .ok (.getfield 12, 3) := by decide +kernel
theorem d_N_turnMarks_62 : decode m_N_turnMarks.2.1 62 = .ok (.aload_n 0, 1) := by decide +kernel
theorem d_N_turnMarks_63 : decode m_N_turnMarks.2.1 63 = .ok (.getfield 42, 3) := by decide +kernel
theorem d_N_turnMarks_66 : decode m_N_turnMarks.2.1 66 = .ok (.getfield 264, 3) := by decide +kernel
theorem d_N_turnMarks_69 : decode m_N_turnMarks.2.1 69 = .ok (.iload_n 1, 1) := by decide +kernel
theorem d_N_turnMarks_70 : decode m_N_turnMarks.2.1 70 = .ok (.iaload, 1) := by decide +kernel
theorem d_N_turnMarks_71 : decode m_N_turnMarks.2.1 71 = .ok (.iload_n 2, 1) := by decide +kernel
theorem d_N_turnMarks_72 : decode m_N_turnMarks.2.1 72 = .ok (.invokevirtual 202, 3) := by decide +kernel
theorem d_N_turnMarks_75 : decode m_N_turnMarks.2.1 75 = .ok (.invokevirtual 267, 3) := by decide +kernel
theorem d_N_turnMarks_78 : decode m_N_turnMarks.2.1 78 = .ok (.goto 40, 3) := by decide +kernel
theorem d_N_turnMarks_81 : decode m_N_turnMarks.2.1 81 = .ok (.iload_n 3, 1) := by decide +kernel
theorem d_N_turnMarks_82 : decode m_N_turnMarks.2.1 82 = .ok (.iconst (-1), 1) := by decide +kernel
theorem d_N_turnMarks_83 : decode m_N_turnMarks.2.1 83 = .ok (.if_icmp .eq 11, 3) := by decide +kernel
theorem d_N_turnMarks_86 : decode m_N_turnMarks.2.1 86 = .ok (.aload_n 0, 1) := by decide +kernel
theorem d_N_turnMarks_87 : decode m_N_turnMarks.2.1 87 = .ok (.getfield 42, 3) := by decide +kernel
theorem d_N_turnMarks_90 : decode m_N_turnMarks.2.1 90 = .ok (.iload_n 1, 1) := by decide +kernel
theorem d_N_turnMarks_91 : decode m_N_turnMarks.2.1 91 = .ok (.invokevirtual 270, 3) := by decide +kernel
theorem d_N_turnMarks_94 : decode m_N_turnMarks.2.1 94 = .ok (.aload_n 0, 1) := by decide +kernel
theorem d_N_turnMarks_95 : decode m_N_turnMarks.2.1 95 = .ok (.iload_n 1, 1) := by decide +kernel
theorem d_N_turnMarks_96 : decode m_N_turnMarks.2.1 96 = .ok (.iload_n 2, 1) := by decide +kernel
theorem d_N_turnMarks_97 : decode m_N_turnMarks.2.1 97 = .ok (.invokevirtual 273, 3) := by decide +kernel
theorem d_N_turnMarks_100 : decode m_N_turnMarks.2.1 100 = .ok (.istore 4, 2) := by decide +kernel
theorem d_N_turnMarks_102 : decode m_N_turnMarks.2.1 102 = .ok (.iload 4, 2) := by decide +kernel
theorem d_N_turnMarks_104 : decode m_N_turnMarks.2.1 104 = .ok (.iconst (-1), 1) := by decide +kernel
theorem d_N_turnMarks_105 : decode m_N_turnMarks.2.1 105 = .ok (.if_icmp .eq 13, 3) := by decide +kernel
theorem d_N_turnMarks_108 : decode m_N_turnMarks.2.1 108 = .ok (.aload_n 0, 1) := by decide +kernel
theorem d_N_turnMarks_109 : decode m_N_turnMarks.2.1 109 = .ok (.getfield 42, 3) := by decide +kernel
theorem d_N_turnMarks_112 : decode m_N_turnMarks.2.1 112 = .ok (.iload_n 1, 1) := by decide +kernel
theorem d_N_turnMarks_113 : decode m_N_turnMarks.2.1 113 = .ok (.iload 4, 2) := by decide +kernel
theorem d_N_turnMarks_115 : decode m_N_turnMarks.2.1 115 = .ok (.invokevirtual 276, 3) := by decide +kernel
theorem d_N_turnMarks_118 : decode m_N_turnMarks.2.1 118 = .ok (.iinc 1 1, 3) := by decide +kernel
theorem d_N_turnMarks_121 : decode m_N_turnMarks.2.1 121 = .ok (.goto (-119), 3) := by decide +kernel
theorem d_N_turnMarks_124 : decode m_N_turnMarks.2.1 124 = .ok (.return_, 1) := by decide +kernel
def f_N_turnMarks_94 (o : Nat) (r2 : Int → qMem → Option (qMem)) (x1 x2 : Int) (w : qMem) : Option (qMem) :=
  (f_N_hungriestIn o x1 x2 w).bind fun q1 =>
  if q1.1 = (-1) then
  r2 (w32 (x1 + 1)) q1.2
  else
  (f_R_setMark (o + 24) x1 q1.1 q1.2).bind fun q3 =>
  r2 (w32 (x1 + 1)) q3
set_option maxRecDepth 4000 in
theorem s_N_turnMarks_94 {ph : Nat} {o : Nat} (hI : qIs kLN ph o) {r2 : Int → qMem → Option (qMem)} (hr2 : ∀ x1 w, qSim κV ph ph m_N_turnMarks 2 [] [some (qR o), some (qI x1), none, none, none] w (r2 x1 w)) : ∀ (x1 x2 : Int) (w : qMem), qSim κV ph ph m_N_turnMarks 94 [] [some (qR o), some (qI x1), some (qI x2), none, none] w (f_N_turnMarks_94 o r2 x1 x2 w) := by
  intro x1 x2 w
  unfold f_N_turnMarks_94
  refine z_aload_n d_N_turnMarks_94 rfl ?_
  refine z_iload_n d_N_turnMarks_95 rfl ?_
  refine z_iload_n d_N_turnMarks_96 rfl ?_
  refine z_cVI (as := [qI x1, qI x2]) (st := []) (nl := 4) (ci := 3) d_N_turnMarks_97 lk_N_273 mk_N_hungriestIn rfl rfl (hI 0 _ rfl).1 rfl rfl rfl (s_N_hungriestIn _ _ hI _) (fun q1 _ hq1 => ?_)
  refine z_istore (pls' := [some (qR o), some (qI x1), some (qI x2), none, some (qI q1.1)]) d_N_turnMarks_100 (by decide) rfl rfl ?_
  refine z_iload d_N_turnMarks_102 rfl ?_
  refine z_icm1 d_N_turnMarks_104 ?_
  refine z_icmp_eq (tgt := 118) d_N_turnMarks_105 rfl (fun c2 => ?_) (fun c2 => ?_)
  · refine z_iinc (pls' := [some (qR o), some (qI (w32 (x1 + 1))), some (qI x2), none, some (qI q1.1)]) d_N_turnMarks_118 (by decide) rfl rfl rfl ?_
    refine z_goto (tgt := 2) d_N_turnMarks_121 rfl ?_
    refine z_mask [true, true, false, false, false] ?_
    exact hr2 _ _
  · refine z_aload_n d_N_turnMarks_108 rfl ?_
    refine z_gr (ci := 3) (j := 4) (d := 24) (o2 := (o + 24)) d_N_turnMarks_109 rfl fl_N_42 (hI 0 _ rfl).1 ((hI 0 _ rfl).2 (Nat.le_of_ble_eq_true rfl)) rfl rfl ?_
    refine z_iload_n d_N_turnMarks_112 rfl ?_
    refine z_iload d_N_turnMarks_113 rfl ?_
    refine z_cVV (as := [qI x1, qI q1.1]) (st := []) (nl := 0) (ci := 7) d_N_turnMarks_115 lk_N_276 mk_R_setMark rfl rfl (hI 24 _ rfl).1 rfl rfl rfl (s_R_setMark _ _ (is_N_R hI) _) (fun q3 _ => ?_)
    refine z_iinc (pls' := [some (qR o), some (qI (w32 (x1 + 1))), some (qI x2), none, some (qI q1.1)]) d_N_turnMarks_118 (by decide) rfl rfl rfl ?_
    refine z_goto (tgt := 2) d_N_turnMarks_121 rfl ?_
    refine z_mask [true, true, false, false, false] ?_
    exact hr2 _ _
def f_N_turnMarks_81 (o : Nat) (r2 : Int → qMem → Option (qMem)) (x1 x2 x3 : Int) (w : qMem) : Option (qMem) :=
  if x3 = (-1) then
  f_N_turnMarks_94 o r2 x1 x2 w
  else
  (f_R_endMark (o + 24) x1 w).bind fun q5 =>
  f_N_turnMarks_94 o r2 x1 x2 q5
set_option maxRecDepth 4000 in
theorem s_N_turnMarks_81 {ph : Nat} {o : Nat} (hI : qIs kLN ph o) {r2 : Int → qMem → Option (qMem)} (hr2 : ∀ x1 w, qSim κV ph ph m_N_turnMarks 2 [] [some (qR o), some (qI x1), none, none, none] w (r2 x1 w)) : ∀ (x1 x2 x3 : Int) (w : qMem), qSim κV ph ph m_N_turnMarks 81 [] [some (qR o), some (qI x1), some (qI x2), some (qI x3), none] w (f_N_turnMarks_81 o r2 x1 x2 x3 w) := by
  intro x1 x2 x3 w
  unfold f_N_turnMarks_81
  refine z_iload_n d_N_turnMarks_81 rfl ?_
  refine z_icm1 d_N_turnMarks_82 ?_
  refine z_icmp_eq (tgt := 94) d_N_turnMarks_83 rfl (fun c4 => ?_) (fun c4 => ?_)
  · refine z_mask [true, true, true, false, false] ?_
    exact s_N_turnMarks_94 hI hr2 _ _ _
  · refine z_aload_n d_N_turnMarks_86 rfl ?_
    refine z_gr (ci := 3) (j := 4) (d := 24) (o2 := (o + 24)) d_N_turnMarks_87 rfl fl_N_42 (hI 0 _ rfl).1 ((hI 0 _ rfl).2 (Nat.le_of_ble_eq_true rfl)) rfl rfl ?_
    refine z_iload_n d_N_turnMarks_90 rfl ?_
    refine z_cVV (as := [qI x1]) (st := []) (nl := 0) (ci := 7) d_N_turnMarks_91 lk_N_270 mk_R_endMark rfl rfl (hI 24 _ rfl).1 rfl rfl rfl (s_R_endMark _ (is_N_R hI) _) (fun q5 _ => ?_)
    refine z_mask [true, true, true, false, false] ?_
    exact s_N_turnMarks_94 hI hr2 _ _ _
def f_N_turnMarks_2 (o : Nat) : Nat → Int → qMem → Option (qMem)
  | 0, _, _ => none
  | n + 1, x1, w =>
    if x1 < (w (o + 1) 6) then
    (f_G_ringDirection (o + 1) x1 w).bind fun q7 =>
    qld q7.2 (o + 26) 16 x1 fun v8 =>
    if v8 = (-1) then
    f_N_turnMarks_81 o (f_N_turnMarks_2 o n) x1 q7.1 v8 q7.2
    else
    qld q7.2 (o + 31) 64 (w32 ((w32 (v8 * 4)) + q7.1)) fun v10 =>
    if v10 ≤ 0 then
    f_N_turnMarks_81 o (f_N_turnMarks_2 o n) x1 q7.1 v8 q7.2
    else
    qld q7.2 (o + 27) 16 x1 fun v12 =>
    (f_G_nextBy (o + 1) v12 q7.1 q7.2).bind fun q13 =>
    (f_R_carryMark (o + 24) x1 q13.1 q13.2).bind fun q14 =>
    (f_N_turnMarks_2 o n) (w32 (x1 + 1)) q14
    else
    some w
set_option maxRecDepth 4000 in
theorem s_N_turnMarks_2 {ph : Nat} {o : Nat} (hI : qIs kLN ph o) : ∀ (n : Nat), ∀ (x1 : Int) (w : qMem), qSim κV ph ph m_N_turnMarks 2 [] [some (qR o), some (qI x1), none, none, none] w (f_N_turnMarks_2 o n x1 w) := by
  intro n
  induction n with
  | zero => intro x1 w; exact z_none
  | succ n ih =>
    intro x1 w
    rw [f_N_turnMarks_2]
    refine z_iload_n d_N_turnMarks_2 rfl ?_
    refine z_aload_n d_N_turnMarks_3 rfl ?_
    refine z_gr (ci := 3) (j := 0) (d := 1) (o2 := (o + 1)) d_N_turnMarks_4 rfl fl_N_12 (hI 0 _ rfl).1 ((hI 0 _ rfl).2 (Nat.le_of_ble_eq_true rfl)) rfl rfl ?_
    refine z_gi (ci := 0) (j := 6) (ji := 6) d_N_turnMarks_7 rfl fl_N_253 (hI 1 _ rfl).1 rfl rfl ?_
    refine z_icmp_ge (tgt := 124) d_N_turnMarks_10 rfl (fun c6 => ?_) (fun c6 => ?_)
    · refine z_aload_n d_N_turnMarks_13 rfl ?_
      refine z_gr (ci := 3) (j := 0) (d := 1) (o2 := (o + 1)) d_N_turnMarks_14 rfl fl_N_12 (hI 0 _ rfl).1 ((hI 0 _ rfl).2 (Nat.le_of_ble_eq_true rfl)) rfl rfl ?_
      refine z_iload_n d_N_turnMarks_17 rfl ?_
      refine z_cVI (as := [qI x1]) (st := []) (nl := 0) (ci := 0) d_N_turnMarks_18 lk_N_255 mk_G_ringDirection rfl rfl (hI 1 _ rfl).1 rfl rfl rfl (s_G_ringDirection _ (is_N_G hI) _) (fun q7 _ hq7 => ?_)
      refine z_istore_n (pls' := [some (qR o), some (qI x1), some (qI q7.1), none, none]) d_N_turnMarks_21 (by decide) rfl rfl ?_
      refine z_aload_n d_N_turnMarks_22 rfl ?_
      refine z_gr (ci := 3) (j := 4) (d := 24) (o2 := (o + 24)) d_N_turnMarks_23 rfl fl_N_42 (hI 0 _ rfl).1 ((hI 0 _ rfl).2 (Nat.le_of_ble_eq_true rfl)) rfl rfl ?_
      refine z_gr (ci := 7) (j := 1) (d := 2) (o2 := (o + 26)) d_N_turnMarks_26 rfl fl_N_258 (hI 24 _ rfl).1 ((hI 24 _ rfl).2 (Nat.le_of_ble_eq_true rfl)) rfl rfl ?_
      refine z_iload_n d_N_turnMarks_29 rfl ?_
      refine z_il d_N_turnMarks_30 (hI 26 _ rfl).1 rfl (fun v8 => ?_)
      refine z_istore_n (pls' := [some (qR o), some (qI x1), some (qI q7.1), some (qI v8), none]) d_N_turnMarks_31 (by decide) rfl rfl ?_
      refine z_iload_n d_N_turnMarks_32 rfl ?_
      refine z_icm1 d_N_turnMarks_33 ?_
      refine z_icmp_eq (tgt := 81) d_N_turnMarks_34 rfl (fun c9 => ?_) (fun c9 => ?_)
      · refine z_mask [true, true, true, true, false] ?_
        exact s_N_turnMarks_81 hI ih _ _ _ _
      · refine z_aload_n d_N_turnMarks_37 rfl ?_
        refine z_gr (ci := 3) (j := 4) (d := 24) (o2 := (o + 24)) d_N_turnMarks_38 rfl fl_N_42 (hI 0 _ rfl).1 ((hI 0 _ rfl).2 (Nat.le_of_ble_eq_true rfl)) rfl rfl ?_
        refine z_gr (ci := 7) (j := 6) (d := 7) (o2 := (o + 31)) d_N_turnMarks_41 rfl fl_N_261 (hI 24 _ rfl).1 ((hI 24 _ rfl).2 (Nat.le_of_ble_eq_true rfl)) rfl rfl ?_
        refine z_iload_n d_N_turnMarks_44 rfl ?_
        refine z_ic4 d_N_turnMarks_45 ?_
        refine z_imul d_N_turnMarks_46 ?_
        refine z_iload_n d_N_turnMarks_47 rfl ?_
        refine z_iadd d_N_turnMarks_48 ?_
        refine z_il d_N_turnMarks_49 (hI 31 _ rfl).1 rfl (fun v10 => ?_)
        refine z_if_le (tgt := 81) d_N_turnMarks_50 rfl (fun c11 => ?_) (fun c11 => ?_)
        · refine z_mask [true, true, true, true, false] ?_
          exact s_N_turnMarks_81 hI ih _ _ _ _
        · refine z_aload_n d_N_turnMarks_53 rfl ?_
          refine z_gr (ci := 3) (j := 4) (d := 24) (o2 := (o + 24)) d_N_turnMarks_54 rfl fl_N_42 (hI 0 _ rfl).1 ((hI 0 _ rfl).2 (Nat.le_of_ble_eq_true rfl)) rfl rfl ?_
          refine z_iload_n d_N_turnMarks_57 rfl ?_
          refine z_aload_n d_N_turnMarks_58 rfl ?_
          refine z_gr (ci := 3) (j := 0) (d := 1) (o2 := (o + 1)) d_N_turnMarks_59 rfl fl_N_12 (hI 0 _ rfl).1 ((hI 0 _ rfl).2 (Nat.le_of_ble_eq_true rfl)) rfl rfl ?_
          refine z_aload_n d_N_turnMarks_62 rfl ?_
          refine z_gr (ci := 3) (j := 4) (d := 24) (o2 := (o + 24)) d_N_turnMarks_63 rfl fl_N_42 (hI 0 _ rfl).1 ((hI 0 _ rfl).2 (Nat.le_of_ble_eq_true rfl)) rfl rfl ?_
          refine z_gr (ci := 7) (j := 2) (d := 3) (o2 := (o + 27)) d_N_turnMarks_66 rfl fl_N_264 (hI 24 _ rfl).1 ((hI 24 _ rfl).2 (Nat.le_of_ble_eq_true rfl)) rfl rfl ?_
          refine z_iload_n d_N_turnMarks_69 rfl ?_
          refine z_il d_N_turnMarks_70 (hI 27 _ rfl).1 rfl (fun v12 => ?_)
          refine z_iload_n d_N_turnMarks_71 rfl ?_
          refine z_cVI (as := [qI v12, qI q7.1]) (st := [qI x1, qR (o + 24)]) (nl := 0) (ci := 0) d_N_turnMarks_72 lk_N_202 mk_G_nextBy rfl rfl (hI 1 _ rfl).1 rfl rfl rfl (s_G_nextBy _ _ (is_N_G hI) _) (fun q13 _ hq13 => ?_)
          refine z_cVV (as := [qI x1, qI q13.1]) (st := []) (nl := 0) (ci := 7) d_N_turnMarks_75 lk_N_267 mk_R_carryMark rfl rfl (hI 24 _ rfl).1 rfl rfl rfl (s_R_carryMark _ _ (is_N_R hI) _) (fun q14 _ => ?_)
          refine z_goto (tgt := 118) d_N_turnMarks_78 rfl ?_
          refine z_iinc (pls' := [some (qR o), some (qI (w32 (x1 + 1))), some (qI q7.1), some (qI v8), none]) d_N_turnMarks_118 (by decide) rfl rfl rfl ?_
          refine z_goto (tgt := 2) d_N_turnMarks_121 rfl ?_
          refine z_mask [true, true, false, false, false] ?_
          exact ih _ _
    · exact z_vret d_N_turnMarks_124 rfl rfl
def f_N_turnMarks (o : Nat) (w : qMem) : Option (qMem) :=
  f_N_turnMarks_2 o qFU 0 w
set_option maxRecDepth 4000 in
theorem s_N_turnMarks {ph : Nat} {o : Nat} (hI : qIs kLN ph o) (w : qMem) : qSim κV ph ph m_N_turnMarks 0 [] [some (qR o), none, none, none, none] w (f_N_turnMarks o w) := by
  unfold f_N_turnMarks
  refine z_ic0 d_N_turnMarks_0 ?_
  refine z_istore_n (pls' := [some (qR o), some (qI 0), none, none, none]) d_N_turnMarks_1 (by decide) rfl rfl ?_
  refine z_mask [true, true, false, false, false] ?_
  exact s_N_turnMarks_2 hI _ _ _
/-! BubbleTorus$Net.heldIn -/
theorem d_N_heldIn_0 : decode m_N_heldIn.2.1 0 = .ok (.aload_n 0, 1) := by decide +kernel
theorem d_N_heldIn_1 : decode m_N_heldIn.2.1 1 = .ok (.getfield 12, 3) := by decide +kernel
theorem d_N_heldIn_4 : decode m_N_heldIn.2.1 4 = .ok (.iload_n 1, 1) := by decide +kernel
theorem d_N_heldIn_5 : decode m_N_heldIn.2.1 5 = .ok (.invokevirtual 255, 3) := by decide +kernel
theorem d_N_heldIn_8 : decode m_N_heldIn.2.1 8 = .ok (.istore_n 2, 1) := by decide +kernel
theorem d_N_heldIn_9 : decode m_N_heldIn.2.1 9 = .ok (.iconst 0, 1) := by decide +kernel
theorem d_N_heldIn_10 : decode m_N_heldIn.2.1 10 = .ok (.istore_n 3, 1) := by decide +kernel
theorem d_N_heldIn_11 : decode m_N_heldIn.2.1 11 = .ok (.iconst 0, 1) := by decide +kernel
theorem d_N_heldIn_12 : decode m_N_heldIn.2.1 12 = .ok (.istore 4, 2) := by decide +kernel
theorem d_N_heldIn_14 : decode m_N_heldIn.2.1 14 = .ok (.iload 4, 2) := by decide +kernel
theorem d_N_heldIn_16 : decode m_N_heldIn.2.1 16 = .ok (.aload_n 0, 1) := by decide +kernel
theorem d_N_heldIn_17 : decode m_N_heldIn.2.1 17 = .ok (.getfield 12, 3) := by decide +kernel
theorem d_N_heldIn_20 : decode m_N_heldIn.2.1 20 = .ok (.iload_n 1, 1) := by decide +kernel
theorem d_N_heldIn_21 : decode m_N_heldIn.2.1 21 = .ok (.invokevirtual 279, 3) := by decide +kernel
theorem d_N_heldIn_24 : decode m_N_heldIn.2.1 24 = .ok (.if_icmp .ge 37, 3) := by decide +kernel
theorem d_N_heldIn_27 : decode m_N_heldIn.2.1 27 = .ok (.iload_n 3, 1) := by decide +kernel
theorem d_N_heldIn_28 : decode m_N_heldIn.2.1 28 = .ok (.aload_n 0, 1) := by decide +kernel
theorem d_N_heldIn_29 : decode m_N_heldIn.2.1 29 = .ok (.getfield 28, 3) := by decide +kernel
theorem d_N_heldIn_32 : decode m_N_heldIn.2.1 32 = .ok (.getfield 115, 3) := by decide +kernel
theorem d_N_heldIn_35 : decode m_N_heldIn.2.1 35 = .ok (.aload_n 0, 1) := by decide +kernel
theorem d_N_heldIn_36 : decode m_N_heldIn.2.1 36 = .ok (.getfield 12, 3) := by decide +kernel
theorem d_N_heldIn_39 : decode m_N_heldIn.2.1 39 = .ok (.iload_n 1, 1) := by decide +kernel
theorem d_N_heldIn_40 : decode m_N_heldIn.2.1 40 = .ok (.iload 4, 2) := by decide +kernel
theorem d_N_heldIn_42 : decode m_N_heldIn.2.1 42 = .ok (.invokevirtual 282, 3) := by decide +kernel
theorem d_N_heldIn_45 : decode m_N_heldIn.2.1 45 = .ok (.bipush 9, 2) := by decide +kernel
theorem d_N_heldIn_47 : decode m_N_heldIn.2.1 47 = .ok (.imul, 1) := by decide +kernel
theorem d_N_heldIn_48 : decode m_N_heldIn.2.1 48 = .ok (.iconst 1, 1) := by decide +kernel
theorem d_N_heldIn_49 : decode m_N_heldIn.2.1 49 = .ok (.iadd, 1) := by decide +kernel
theorem d_N_heldIn_50 : decode m_N_heldIn.2.1 50 = .ok (.iload_n 2, 1) := by decide +kernel
theorem d_N_heldIn_51 : decode m_N_heldIn.2.1 51 = .ok (.iadd, 1) := by decide +kernel
theorem d_N_heldIn_52 : decode m_N_heldIn.2.1 52 = .ok (.iaload, 1) := by decide +kernel
theorem d_N_heldIn_53 : decode m_N_heldIn.2.1 53 = .ok (.iadd, 1) := by decide +kernel
theorem d_N_heldIn_54 : decode m_N_heldIn.2.1 54 = .ok (.istore_n 3, 1) := by decide +kernel
theorem d_N_heldIn_55 : decode m_N_heldIn.2.1 55 = .ok (.iinc 4 1, 3) := by decide +kernel
theorem d_N_heldIn_58 : decode m_N_heldIn.2.1 58 = .ok (.goto (-44), 3) := by decide +kernel
theorem d_N_heldIn_61 : decode m_N_heldIn.2.1 61 = .ok (.iload_n 3, 1) := by decide +kernel
theorem d_N_heldIn_62 : decode m_N_heldIn.2.1 62 = .ok (.ireturn, 1) := by decide +kernel
def f_N_heldIn_14 (o : Nat) : Nat → Int → Int → Int → Int → qMem → Option (Int × qMem)
  | 0, _, _, _, _, _ => none
  | n + 1, x1, x2, x3, x4, w =>
    (f_G_ringLength (o + 1) x1 w).bind fun q1 =>
    if x4 < q1.1 then
    (f_G_ringNode (o + 1) x1 x4 q1.2).bind fun q3 =>
    qld q3.2 (o + 20) 144 (w32 ((w32 ((w32 (q3.1 * 9)) + 1)) + x2)) fun v4 =>
    (f_N_heldIn_14 o n) x1 x2 (w32 (x3 + v4)) (w32 (x4 + 1)) q3.2
    else
    some (x3, q1.2)
set_option maxRecDepth 4000 in
theorem s_N_heldIn_14 {ph : Nat} {o : Nat} (hI : qIs kLN ph o) : ∀ (n : Nat), ∀ (x1 x2 x3 x4 : Int) (w : qMem), qSim κI ph ph m_N_heldIn 14 [] [some (qR o), some (qI x1), some (qI x2), some (qI x3), some (qI x4)] w (f_N_heldIn_14 o n x1 x2 x3 x4 w) := by
  intro n
  induction n with
  | zero => intro x1 x2 x3 x4 w; exact z_none
  | succ n ih =>
    intro x1 x2 x3 x4 w
    rw [f_N_heldIn_14]
    refine z_iload d_N_heldIn_14 rfl ?_
    refine z_aload_n d_N_heldIn_16 rfl ?_
    refine z_gr (ci := 3) (j := 0) (d := 1) (o2 := (o + 1)) d_N_heldIn_17 rfl fl_N_12 (hI 0 _ rfl).1 ((hI 0 _ rfl).2 (Nat.le_of_ble_eq_true rfl)) rfl rfl ?_
    refine z_iload_n d_N_heldIn_20 rfl ?_
    refine z_cVI (as := [qI x1]) (st := [qI x4]) (nl := 0) (ci := 0) d_N_heldIn_21 lk_N_279 mk_G_ringLength rfl rfl (hI 1 _ rfl).1 rfl rfl rfl (s_G_ringLength _ (is_N_G hI) _) (fun q1 _ hq1 => ?_)
    refine z_icmp_ge (tgt := 61) d_N_heldIn_24 rfl (fun c2 => ?_) (fun c2 => ?_)
    · refine z_iload_n d_N_heldIn_27 rfl ?_
      refine z_aload_n d_N_heldIn_28 rfl ?_
      refine z_gr (ci := 3) (j := 2) (d := 19) (o2 := (o + 19)) d_N_heldIn_29 rfl fl_N_28 (hI 0 _ rfl).1 ((hI 0 _ rfl).2 (Nat.le_of_ble_eq_true rfl)) rfl rfl ?_
      refine z_gr (ci := 6) (j := 0) (d := 1) (o2 := (o + 20)) d_N_heldIn_32 rfl fl_N_115 (hI 19 _ rfl).1 ((hI 19 _ rfl).2 (Nat.le_of_ble_eq_true rfl)) rfl rfl ?_
      refine z_aload_n d_N_heldIn_35 rfl ?_
      refine z_gr (ci := 3) (j := 0) (d := 1) (o2 := (o + 1)) d_N_heldIn_36 rfl fl_N_12 (hI 0 _ rfl).1 ((hI 0 _ rfl).2 (Nat.le_of_ble_eq_true rfl)) rfl rfl ?_
      refine z_iload_n d_N_heldIn_39 rfl ?_
      refine z_iload d_N_heldIn_40 rfl ?_
      refine z_cVI (as := [qI x1, qI x4]) (st := [qR (o + 20), qI x3]) (nl := 1) (ci := 0) d_N_heldIn_42 lk_N_282 mk_G_ringNode rfl rfl (hI 1 _ rfl).1 rfl rfl rfl (s_G_ringNode _ _ (is_N_G hI) _) (fun q3 _ hq3 => ?_)
      refine z_bipush d_N_heldIn_45 ⟨by decide, by decide⟩ ?_
      refine z_imul d_N_heldIn_47 ?_
      refine z_ic1 d_N_heldIn_48 ?_
      refine z_iadd d_N_heldIn_49 ?_
      refine z_iload_n d_N_heldIn_50 rfl ?_
      refine z_iadd d_N_heldIn_51 ?_
      refine z_il d_N_heldIn_52 (hI 20 _ rfl).1 rfl (fun v4 => ?_)
      refine z_iadd d_N_heldIn_53 ?_
      refine z_istore_n (pls' := [some (qR o), some (qI x1), some (qI x2), some (qI (w32 (x3 + v4))), some (qI x4)]) d_N_heldIn_54 (by decide) rfl rfl ?_
      refine z_iinc (pls' := [some (qR o), some (qI x1), some (qI x2), some (qI (w32 (x3 + v4))), some (qI (w32 (x4 + 1)))]) d_N_heldIn_55 (by decide) rfl rfl rfl ?_
      refine z_goto (tgt := 14) d_N_heldIn_58 rfl ?_
      refine z_mask [true, true, true, true, true] ?_
      exact ih _ _ _ _ _
    · refine z_iload_n d_N_heldIn_61 rfl ?_
      exact z_iret d_N_heldIn_62 rfl rfl
def f_N_heldIn (o : Nat) (x1 : Int) (w : qMem) : Option (Int × qMem) :=
  (f_G_ringDirection (o + 1) x1 w).bind fun q5 =>
  f_N_heldIn_14 o qFU x1 q5.1 0 0 q5.2
set_option maxRecDepth 4000 in
theorem s_N_heldIn {ph : Nat} {o : Nat} (x1 : Int) (hI : qIs kLN ph o) (w : qMem) : qSim κI ph ph m_N_heldIn 0 [] [some (qR o), some (qI x1), none, none, none] w (f_N_heldIn o x1 w) := by
  unfold f_N_heldIn
  refine z_aload_n d_N_heldIn_0 rfl ?_
  refine z_gr (ci := 3) (j := 0) (d := 1) (o2 := (o + 1)) d_N_heldIn_1 rfl fl_N_12 (hI 0 _ rfl).1 ((hI 0 _ rfl).2 (Nat.le_of_ble_eq_true rfl)) rfl rfl ?_
  refine z_iload_n d_N_heldIn_4 rfl ?_
  refine z_cVI (as := [qI x1]) (st := []) (nl := 0) (ci := 0) d_N_heldIn_5 lk_N_255 mk_G_ringDirection rfl rfl (hI 1 _ rfl).1 rfl rfl rfl (s_G_ringDirection _ (is_N_G hI) _) (fun q5 _ hq5 => ?_)
  refine z_istore_n (pls' := [some (qR o), some (qI x1), some (qI q5.1), none, none]) d_N_heldIn_8 (by decide) rfl rfl ?_
  refine z_ic0 d_N_heldIn_9 ?_
  refine z_istore_n (pls' := [some (qR o), some (qI x1), some (qI q5.1), some (qI 0), none]) d_N_heldIn_10 (by decide) rfl rfl ?_
  refine z_ic0 d_N_heldIn_11 ?_
  refine z_istore (pls' := [some (qR o), some (qI x1), some (qI q5.1), some (qI 0), some (qI 0)]) d_N_heldIn_12 (by decide) rfl rfl ?_
  refine z_mask [true, true, true, true, true] ?_
  exact s_N_heldIn_14 hI _ _ _ _ _ _
/-! BubbleTorus$Net.freeIn -/
theorem d_N_freeIn_0 : decode m_N_freeIn.2.1 0 = .ok (.aload_n 0, 1) := by decide +kernel
theorem d_N_freeIn_1 : decode m_N_freeIn.2.1 1 = .ok (.getfield 12, 3) := by decide +kernel
theorem d_N_freeIn_4 : decode m_N_freeIn.2.1 4 = .ok (.iload_n 1, 1) := by decide +kernel
theorem d_N_freeIn_5 : decode m_N_freeIn.2.1 5 = .ok (.invokevirtual 279, 3) := by decide +kernel
theorem d_N_freeIn_8 : decode m_N_freeIn.2.1 8 = .ok (.aload_n 0, 1) := by decide +kernel
theorem d_N_freeIn_9 : decode m_N_freeIn.2.1 9 = .ok (.getfield 50, 3) := by decide +kernel
theorem d_N_freeIn_12 : decode m_N_freeIn.2.1 12 = .ok (.imul, 1) := by decide +kernel
theorem d_N_freeIn_13 : decode m_N_freeIn.2.1 13 = .ok (.aload_n 0, 1) := by decide +kernel
theorem d_N_freeIn_14 : decode m_N_freeIn.2.1 14 = .ok (.iload_n 1, 1) := by decide +kernel
theorem d_N_freeIn_15 : decode m_N_freeIn.2.1 15 = .ok (.invokevirtual 296, 3) := by decide +kernel
theorem d_N_freeIn_18 : decode m_N_freeIn.2.1 18 = .ok (.isub, 1) := by decide +kernel
theorem d_N_freeIn_19 : decode m_N_freeIn.2.1 19 = .ok (.ireturn, 1) := by decide +kernel
def f_N_freeIn (o : Nat) (x1 : Int) (w : qMem) : Option (Int × qMem) :=
  (f_G_ringLength (o + 1) x1 w).bind fun q1 =>
  (f_N_heldIn o x1 q1.2).bind fun q2 =>
  some ((w32 ((w32 (q1.1 * (q1.2 o 6))) - q2.1)), q2.2)
set_option maxRecDepth 4000 in
theorem s_N_freeIn {ph : Nat} {o : Nat} (x1 : Int) (hI : qIs kLN ph o) (w : qMem) : qSim κI ph ph m_N_freeIn 0 [] [some (qR o), some (qI x1)] w (f_N_freeIn o x1 w) := by
  unfold f_N_freeIn
  refine z_aload_n d_N_freeIn_0 rfl ?_
  refine z_gr (ci := 3) (j := 0) (d := 1) (o2 := (o + 1)) d_N_freeIn_1 rfl fl_N_12 (hI 0 _ rfl).1 ((hI 0 _ rfl).2 (Nat.le_of_ble_eq_true rfl)) rfl rfl ?_
  refine z_iload_n d_N_freeIn_4 rfl ?_
  refine z_cVI (as := [qI x1]) (st := []) (nl := 0) (ci := 0) d_N_freeIn_5 lk_N_279 mk_G_ringLength rfl rfl (hI 1 _ rfl).1 rfl rfl rfl (s_G_ringLength _ (is_N_G hI) _) (fun q1 _ hq1 => ?_)
  refine z_aload_n d_N_freeIn_8 rfl ?_
  refine z_gi (ci := 3) (j := 6) (ji := 6) d_N_freeIn_9 rfl fl_N_50 (hI 0 _ rfl).1 rfl rfl ?_
  refine z_imul d_N_freeIn_12 ?_
  refine z_aload_n d_N_freeIn_13 rfl ?_
  refine z_iload_n d_N_freeIn_14 rfl ?_
  refine z_cVI (as := [qI x1]) (st := [qI (w32 (q1.1 * (q1.2 o 6)))]) (nl := 3) (ci := 3) d_N_freeIn_15 lk_N_296 mk_N_heldIn rfl rfl (hI 0 _ rfl).1 rfl rfl rfl (s_N_heldIn _ hI _) (fun q2 _ hq2 => ?_)
  refine z_isub d_N_freeIn_18 ?_
  exact z_iret d_N_freeIn_19 rfl rfl
/-! BubbleTorus$Net.noteFewest -/
theorem d_N_noteFewest_0 : decode m_N_noteFewest.2.1 0 = .ok (.iconst 0, 1) := by decide +kernel
theorem d_N_noteFewest_1 : decode m_N_noteFewest.2.1 1 = .ok (.istore_n 1, 1) := by decide +kernel
theorem d_N_noteFewest_2 : decode m_N_noteFewest.2.1 2 = .ok (.iload_n 1, 1) := by decide +kernel
theorem d_N_noteFewest_3 : decode m_N_noteFewest.2.1 3 = .ok (.aload_n 0, 1) := by decide +kernel
theorem d_N_noteFewest_4 : decode m_N_noteFewest.2.1 4 = .ok (.getfield 12, 3) := by decide +kernel
theorem d_N_noteFewest_7 : decode m_N_noteFewest.2.1 7 = .ok (.getfield 253, 3) := by decide +kernel
theorem d_N_noteFewest_10 : decode m_N_noteFewest.2.1 10 = .ok (.if_icmp .ge 35, 3) := by decide +kernel
theorem d_N_noteFewest_13 : decode m_N_noteFewest.2.1 13 = .ok (.aload_n 0, 1) := by decide +kernel
theorem d_N_noteFewest_14 : decode m_N_noteFewest.2.1 14 = .ok (.getfield 42, 3) := by decide +kernel
theorem d_N_noteFewest_17 : decode m_N_noteFewest.2.1 17 = .ok (.getfield 285, 3) := by decide +kernel
theorem d_N_noteFewest_20 : decode m_N_noteFewest.2.1 20 = .ok (.iload_n 1, 1) := by decide +kernel
theorem d_N_noteFewest_21 : decode m_N_noteFewest.2.1 21 = .ok (.aload_n 0, 1) := by decide +kernel
theorem d_N_noteFewest_22 : decode m_N_noteFewest.2.1 22 = .ok (.getfield 42, 3) := by decide +kernel
theorem d_N_noteFewest_25 : decode m_N_noteFewest.2.1 25 = .ok (.getfield 285, 3) := by decide +kernel
theorem d_N_noteFewest_28 : decode m_N_noteFewest.2.1 28 = .ok (.iload_n 1, 1) := by decide +kernel
theorem d_N_noteFewest_29 : decode m_N_noteFewest.2.1 29 = .ok (.iaload, 1) := by decide +kernel
theorem d_N_noteFewest_30 : decode m_N_noteFewest.2.1 30 = .ok (.aload_n 0, 1) := by decide +kernel
theorem d_N_noteFewest_31 : decode m_N_noteFewest.2.1 31 = .ok (.iload_n 1, 1) := by decide +kernel
theorem d_N_noteFewest_32 : decode m_N_noteFewest.2.1 32 = .ok (.invokevirtual 288, 3) := by decide +kernel
theorem d_N_noteFewest_35 : decode m_N_noteFewest.2.1 35 = .ok (.invokestatic 291, 3) := by decide +kernel
theorem d_N_noteFewest_38 : decode m_N_noteFewest.2.1 38 = .ok (.iastore, 1) := by decide +kernel
theorem d_N_noteFewest_39 : decode m_N_noteFewest.2.1 39 = .ok (.iinc 1 1, 3) := by decide +kernel
theorem d_N_noteFewest_42 : decode m_N_noteFewest.2.1 42 = .ok (.goto (-40), 3) := by decide +kernel
theorem d_N_noteFewest_45 : decode m_N_noteFewest.2.1 45 = .ok (.return_, 1) := by decide +kernel
def f_N_noteFewest_2 (o : Nat) : Nat → Int → qMem → Option (qMem)
  | 0, _, _ => none
  | n + 1, x1, w =>
    if x1 < (w (o + 1) 6) then
    qld w (o + 30) 16 x1 fun v2 =>
    (f_N_freeIn o x1 w).bind fun q3 =>
    qst q3.2 (o + 30) 16 x1 (if q3.1 < v2 then q3.1 else v2) fun w4 =>
    (f_N_noteFewest_2 o n) (w32 (x1 + 1)) w4
    else
    some w
set_option maxRecDepth 4000 in
theorem s_N_noteFewest_2 {ph : Nat} {o : Nat} (hI : qIs kLN ph o) : ∀ (n : Nat), ∀ (x1 : Int) (w : qMem), qSim κV ph ph m_N_noteFewest 2 [] [some (qR o), some (qI x1)] w (f_N_noteFewest_2 o n x1 w) := by
  intro n
  induction n with
  | zero => intro x1 w; exact z_none
  | succ n ih =>
    intro x1 w
    rw [f_N_noteFewest_2]
    refine z_iload_n d_N_noteFewest_2 rfl ?_
    refine z_aload_n d_N_noteFewest_3 rfl ?_
    refine z_gr (ci := 3) (j := 0) (d := 1) (o2 := (o + 1)) d_N_noteFewest_4 rfl fl_N_12 (hI 0 _ rfl).1 ((hI 0 _ rfl).2 (Nat.le_of_ble_eq_true rfl)) rfl rfl ?_
    refine z_gi (ci := 0) (j := 6) (ji := 6) d_N_noteFewest_7 rfl fl_N_253 (hI 1 _ rfl).1 rfl rfl ?_
    refine z_icmp_ge (tgt := 45) d_N_noteFewest_10 rfl (fun c1 => ?_) (fun c1 => ?_)
    · refine z_aload_n d_N_noteFewest_13 rfl ?_
      refine z_gr (ci := 3) (j := 4) (d := 24) (o2 := (o + 24)) d_N_noteFewest_14 rfl fl_N_42 (hI 0 _ rfl).1 ((hI 0 _ rfl).2 (Nat.le_of_ble_eq_true rfl)) rfl rfl ?_
      refine z_gr (ci := 7) (j := 5) (d := 6) (o2 := (o + 30)) d_N_noteFewest_17 rfl fl_N_285 (hI 24 _ rfl).1 ((hI 24 _ rfl).2 (Nat.le_of_ble_eq_true rfl)) rfl rfl ?_
      refine z_iload_n d_N_noteFewest_20 rfl ?_
      refine z_aload_n d_N_noteFewest_21 rfl ?_
      refine z_gr (ci := 3) (j := 4) (d := 24) (o2 := (o + 24)) d_N_noteFewest_22 rfl fl_N_42 (hI 0 _ rfl).1 ((hI 0 _ rfl).2 (Nat.le_of_ble_eq_true rfl)) rfl rfl ?_
      refine z_gr (ci := 7) (j := 5) (d := 6) (o2 := (o + 30)) d_N_noteFewest_25 rfl fl_N_285 (hI 24 _ rfl).1 ((hI 24 _ rfl).2 (Nat.le_of_ble_eq_true rfl)) rfl rfl ?_
      refine z_iload_n d_N_noteFewest_28 rfl ?_
      refine z_il d_N_noteFewest_29 (hI 30 _ rfl).1 rfl (fun v2 => ?_)
      refine z_aload_n d_N_noteFewest_30 rfl ?_
      refine z_iload_n d_N_noteFewest_31 rfl ?_
      refine z_cVI (as := [qI x1]) (st := [qI v2, qI x1, qR (o + 30)]) (nl := 0) (ci := 3) d_N_noteFewest_32 lk_N_288 mk_N_freeIn rfl rfl (hI 0 _ rfl).1 rfl rfl rfl (s_N_freeIn _ hI _) (fun q3 _ hq3 => ?_)
      refine z_min d_N_noteFewest_35 lk_N_291 (Nat.le_of_ble_eq_true rfl) (Nat.le_of_ble_eq_true rfl) ?_
      refine z_is d_N_noteFewest_38 (hI 30 _ rfl).1 rfl (fun w4 => ?_)
      refine z_iinc (pls' := [some (qR o), some (qI (w32 (x1 + 1)))]) d_N_noteFewest_39 (by decide) rfl rfl rfl ?_
      refine z_goto (tgt := 2) d_N_noteFewest_42 rfl ?_
      refine z_mask [true, true] ?_
      exact ih _ _
    · exact z_vret d_N_noteFewest_45 rfl rfl
def f_N_noteFewest (o : Nat) (w : qMem) : Option (qMem) :=
  f_N_noteFewest_2 o qFU 0 w
set_option maxRecDepth 4000 in
theorem s_N_noteFewest {ph : Nat} {o : Nat} (hI : qIs kLN ph o) (w : qMem) : qSim κV ph ph m_N_noteFewest 0 [] [some (qR o), none] w (f_N_noteFewest o w) := by
  unfold f_N_noteFewest
  refine z_ic0 d_N_noteFewest_0 ?_
  refine z_istore_n (pls' := [some (qR o), some (qI 0)]) d_N_noteFewest_1 (by decide) rfl rfl ?_
  refine z_mask [true, true] ?_
  exact s_N_noteFewest_2 hI _ _ _
/-! BubbleTorus$Net.runTick -/
theorem d_N_runTick_0 : decode m_N_runTick.2.1 0 = .ok (.aload_n 0, 1) := by decide +kernel
theorem d_N_runTick_1 : decode m_N_runTick.2.1 1 = .ok (.getfield 35, 3) := by decide +kernel
theorem d_N_runTick_4 : decode m_N_runTick.2.1 4 = .ok (.iconst 0, 1) := by decide +kernel
theorem d_N_runTick_5 : decode m_N_runTick.2.1 5 = .ok (.putfield 72, 3) := by decide +kernel
theorem d_N_runTick_8 : decode m_N_runTick.2.1 8 = .ok (.aload_n 0, 1) := by decide +kernel
theorem d_N_runTick_9 : decode m_N_runTick.2.1 9 = .ok (.getfield 42, 3) := by decide +kernel
theorem d_N_runTick_12 : decode m_N_runTick.2.1 12 = .ok (.invokevirtual 130, 3) := by decide +kernel
theorem d_N_runTick_15 : decode m_N_runTick.2.1 15 = .ok (.aload_n 0, 1) := by decide +kernel
theorem d_N_runTick_16 : decode m_N_runTick.2.1 16 = .ok (.invokevirtual 133, 3) := by decide +kernel
theorem d_N_runTick_19 : decode m_N_runTick.2.1 19 = .ok (.istore_n 1, 1) := by decide +kernel
theorem d_N_runTick_20 : decode m_N_runTick.2.1 20 = .ok (.iconst 0, 1) := by decide +kernel
theorem d_N_runTick_21 : decode m_N_runTick.2.1 21 = .ok (.istore_n 2, 1) := by decide +kernel
theorem d_N_runTick_22 : decode m_N_runTick.2.1 22 = .ok (.iload_n 2, 1) := by decide +kernel
theorem d_N_runTick_23 : decode m_N_runTick.2.1 23 = .ok (.aload_n 0, 1) := by decide +kernel
theorem d_N_runTick_24 : decode m_N_runTick.2.1 24 = .ok (.getfield 12, 3) := by decide +kernel
theorem d_N_runTick_27 : decode m_N_runTick.2.1 27 = .ok (.getfield 137, 3) := by decide +kernel
theorem d_N_runTick_30 : decode m_N_runTick.2.1 30 = .ok (.if_icmp .ge 71, 3) := by decide +kernel
theorem d_N_runTick_33 : decode m_N_runTick.2.1 33 = .ok (.aload_n 0, 1) := by decide +kernel
theorem d_N_runTick_34 : decode m_N_runTick.2.1 34 = .ok (.getfield 63, 3) := by decide +kernel
theorem d_N_runTick_37 : decode m_N_runTick.2.1 37 = .ok (.aload_n 0, 1) := by decide +kernel
theorem d_N_runTick_38 : decode m_N_runTick.2.1 38 = .ok (.getfield 12, 3) := by decide +kernel
theorem d_N_runTick_41 : decode m_N_runTick.2.1 41 = .ok (.getfield 137, 3) := by decide +kernel
theorem d_N_runTick_44 : decode m_N_runTick.2.1 44 = .ok (.irem, 1) := by decide +kernel
theorem d_N_runTick_45 : decode m_N_runTick.2.1 45 = .ok (.iload_n 2, 1) := by decide +kernel
theorem d_N_runTick_46 : decode m_N_runTick.2.1 46 = .ok (.iadd, 1) := by decide +kernel
theorem d_N_runTick_47 : decode m_N_runTick.2.1 47 = .ok (.aload_n 0, 1) := by decide +kernel
theorem d_N_runTick_48 : decode m_N_runTick.2.1 48 = .ok (.getfield 12, 3) := by decide +kernel
theorem d_N_runTick_51 : decode m_N_runTick.2.1 51 = .ok (.getfield 137, 3) := by decide +kernel
theorem d_N_runTick_54 : decode m_N_runTick.2.1 54 = .ok (.irem, 1) := by decide +kernel
theorem d_N_runTick_55 : decode m_N_runTick.2.1 55 = .ok (.istore_n 3, 1) := by decide +kernel
theorem d_N_runTick_56 : decode m_N_runTick.2.1 56 = .ok (.iconst 0, 1) := by decide +kernel
theorem d_N_runTick_57 : decode m_N_runTick.2.1 57 = .ok (.istore 4, 2) := by decide +kernel
theorem d_N_runTick_59 : decode m_N_runTick.2.1 59 = .ok (.iload 4, 2) := by decide +kernel
theorem d_N_runTick_61 : decode m_N_runTick.2.1 61 = .ok (.iconst 4, 1) := by decide +kernel
theorem d_N_runTick_62 : decode m_N_runTick.2.1 62 = .ok (.if_icmp .ge 33, 3) := by decide +kernel
theorem d_N_runTick_65 : decode m_N_runTick.2.1 65 = .ok (.aload_n 0, 1) := by decide +kernel
theorem d_N_runTick_66 : decode m_N_runTick.2.1 66 = .ok (.iload_n 3, 1) := by decide +kernel
theorem d_N_runTick_67 : decode m_N_runTick.2.1 67 = .ok (.iload 4, 2) := by decide +kernel
theorem d_N_runTick_69 : decode m_N_runTick.2.1 69 = .ok (.invokevirtual 140, 3) := by decide +kernel
theorem d_N_runTick_72 : decode m_N_runTick.2.1 72 = .ok (.istore 5, 2) := by decide +kernel
theorem d_N_runTick_74 : decode m_N_runTick.2.1 74 = .ok (.iload 5, 2) := by decide +kernel
theorem d_N_runTick_76 : decode m_N_runTick.2.1 76 = .ok (.iconst (-1), 1) := by decide +kernel
theorem d_N_runTick_77 : decode m_N_runTick.2.1 77 = .ok (.if_icmp .eq 12, 3) := by decide +kernel
theorem d_N_runTick_80 : decode m_N_runTick.2.1 80 = .ok (.aload_n 0, 1) := by decide +kernel
theorem d_N_runTick_81 : decode m_N_runTick.2.1 81 = .ok (.iload_n 3, 1) := by decide +kernel
theorem d_N_runTick_82 : decode m_N_runTick.2.1 82 = .ok (.iload 5, 2) := by decide +kernel
theorem d_N_runTick_84 : decode m_N_runTick.2.1 84 = .ok (.iload 4, 2) := by decide +kernel
theorem d_N_runTick_86 : decode m_N_runTick.2.1 86 = .ok (.invokevirtual 143, 3) := by decide +kernel
theorem d_N_runTick_89 : decode m_N_runTick.2.1 89 = .ok (.iinc 4 1, 3) := by decide +kernel
theorem d_N_runTick_92 : decode m_N_runTick.2.1 92 = .ok (.goto (-33), 3) := by decide +kernel
theorem d_N_runTick_95 : decode m_N_runTick.2.1 95 = .ok (.iinc 2 1, 3) := by decide +kernel
theorem d_N_runTick_98 : decode m_N_runTick.2.1 98 = .ok (.goto (-76), 3) := by decide +kernel
theorem d_N_runTick_101 : decode m_N_runTick.2.1 101 = .ok (.aload_n 0, 1) := by decide +kernel
theorem d_N_runTick_102 : decode m_N_runTick.2.1 102 = .ok (.invokevirtual 147, 3) := by decide +kernel
theorem d_N_runTick_105 : decode m_N_runTick.2.1 105 = .ok (.aload_n 0, 1) := by decide +kernel
theorem d_N_runTick_106 : decode m_N_runTick.2.1 106 = .ok (.getfield 60, 3) := by decide +kernel
theorem d_N_runTick_109 : decode m_N_runTick.2.1 109 = .ok (.ifCond .le 7, 3) := by decide +kernel
theorem d_N_runTick_112 : decode m_N_runTick.2.1 112 = .ok (.aload_n 0, 1) := by decide +kernel
theorem d_N_runTick_113 : decode m_N_runTick.2.1 113 = .ok (.invokevirtual 150, 3) := by decide +kernel
theorem d_N_runTick_116 : decode m_N_runTick.2.1 116 = .ok (.aload_n 0, 1) := by decide +kernel
theorem d_N_runTick_117 : decode m_N_runTick.2.1 117 = .ok (.invokevirtual 153, 3) := by decide +kernel
theorem d_N_runTick_120 : decode m_N_runTick.2.1 120 = .ok (.aload_n 0, 1) := by decide +kernel
theorem d_N_runTick_121 : decode m_N_runTick.2.1 121 = .ok (.dup, 1) := by decide +kernel
theorem d_N_runTick_122 : decode m_N_runTick.2.1 122 = .ok (.getfield 63, 3) := by decide +kernel
theorem d_N_runTick_125 : decode m_N_runTick.2.1 125 = .ok (.iconst 1, 1) := by decide +kernel
theorem d_N_runTick_126 : decode m_N_runTick.2.1 126 = .ok (.iadd, 1) := by decide +kernel
theorem d_N_runTick_127 : decode m_N_runTick.2.1 127 = .ok (.putfield 63, 3) := by decide +kernel
theorem d_N_runTick_130 : decode m_N_runTick.2.1 130 = .ok (.iload_n 1, 1) := by decide +kernel
theorem d_N_runTick_131 : decode m_N_runTick.2.1 131 = .ok (.ireturn, 1) := by decide +kernel
def f_N_runTick_59 (o : Nat) (r22 : Int → Int → qMem → Option (Int × qMem)) : Nat → Int → Int → Int → Int → qMem → Option (Int × qMem)
  | 0, _, _, _, _, _ => none
  | n + 1, x1, x2, x3, x4, w =>
    if x4 < 4 then
    (f_N_chosenQueue o x3 x4 w).bind fun q2 =>
    if q2.1 = (-1) then
    (f_N_runTick_59 o r22 n) x1 x2 x3 (w32 (x4 + 1)) q2.2
    else
    (f_N_goFrom o x3 q2.1 x4 q2.2).bind fun q4 =>
    (f_N_runTick_59 o r22 n) x1 x2 x3 (w32 (x4 + 1)) q4
    else
    r22 x1 (w32 (x2 + 1)) w
set_option maxRecDepth 4000 in
theorem s_N_runTick_59 {ph : Nat} {o : Nat} (hI : qIs kLN ph o) {r22 : Int → Int → qMem → Option (Int × qMem)} (hr22 : ∀ x1 x2 w, qSim κI ph ph m_N_runTick 22 [] [some (qR o), some (qI x1), some (qI x2), none, none, none] w (r22 x1 x2 w)) : ∀ (n : Nat), ∀ (x1 x2 x3 x4 : Int) (w : qMem), qSim κI ph ph m_N_runTick 59 [] [some (qR o), some (qI x1), some (qI x2), some (qI x3), some (qI x4), none] w (f_N_runTick_59 o r22 n x1 x2 x3 x4 w) := by
  intro n
  induction n with
  | zero => intro x1 x2 x3 x4 w; exact z_none
  | succ n ih =>
    intro x1 x2 x3 x4 w
    rw [f_N_runTick_59]
    refine z_iload d_N_runTick_59 rfl ?_
    refine z_ic4 d_N_runTick_61 ?_
    refine z_icmp_ge (tgt := 95) d_N_runTick_62 rfl (fun c1 => ?_) (fun c1 => ?_)
    · refine z_aload_n d_N_runTick_65 rfl ?_
      refine z_iload_n d_N_runTick_66 rfl ?_
      refine z_iload d_N_runTick_67 rfl ?_
      refine z_cVI (as := [qI x3, qI x4]) (st := []) (nl := 4) (ci := 3) d_N_runTick_69 lk_N_140 mk_N_chosenQueue rfl rfl (hI 0 _ rfl).1 rfl rfl rfl (s_N_chosenQueue _ _ hI _) (fun q2 _ hq2 => ?_)
      refine z_istore (pls' := [some (qR o), some (qI x1), some (qI x2), some (qI x3), some (qI x4), some (qI q2.1)]) d_N_runTick_72 (by decide) rfl rfl ?_
      refine z_iload d_N_runTick_74 rfl ?_
      refine z_icm1 d_N_runTick_76 ?_
      refine z_icmp_eq (tgt := 89) d_N_runTick_77 rfl (fun c3 => ?_) (fun c3 => ?_)
      · refine z_iinc (pls' := [some (qR o), some (qI x1), some (qI x2), some (qI x3), some (qI (w32 (x4 + 1))), some (qI q2.1)]) d_N_runTick_89 (by decide) rfl rfl rfl ?_
        refine z_goto (tgt := 59) d_N_runTick_92 rfl ?_
        refine z_mask [true, true, true, true, true, false] ?_
        exact ih _ _ _ _ _
      · refine z_aload_n d_N_runTick_80 rfl ?_
        refine z_iload_n d_N_runTick_81 rfl ?_
        refine z_iload d_N_runTick_82 rfl ?_
        refine z_iload d_N_runTick_84 rfl ?_
        refine z_cVV (as := [qI x3, qI q2.1, qI x4]) (st := []) (nl := 3) (ci := 3) d_N_runTick_86 lk_N_143 mk_N_goFrom rfl rfl (hI 0 _ rfl).1 rfl rfl rfl (s_N_goFrom _ _ _ hI _) (fun q4 _ => ?_)
        refine z_iinc (pls' := [some (qR o), some (qI x1), some (qI x2), some (qI x3), some (qI (w32 (x4 + 1))), some (qI q2.1)]) d_N_runTick_89 (by decide) rfl rfl rfl ?_
        refine z_goto (tgt := 59) d_N_runTick_92 rfl ?_
        refine z_mask [true, true, true, true, true, false] ?_
        exact ih _ _ _ _ _
    · refine z_iinc (pls' := [some (qR o), some (qI x1), some (qI (w32 (x2 + 1))), some (qI x3), some (qI x4), none]) d_N_runTick_95 (by decide) rfl rfl rfl ?_
      refine z_goto (tgt := 22) d_N_runTick_98 rfl ?_
      refine z_mask [true, true, true, false, false, false] ?_
      exact hr22 _ _ _
def f_N_runTick_116 (o : Nat) (x1 : Int) (w : qMem) : Option (Int × qMem) :=
  (f_N_noteFewest o w).bind fun q5 =>
  qlt (qud q5 o 10 (w32 ((q5 o 10) + 1))) fun w6 =>
  some (x1, w6)
set_option maxRecDepth 4000 in
theorem s_N_runTick_116 {ph : Nat} {o : Nat} (hI : qIs kLN ph o) : ∀ (x1 : Int) (w : qMem), qSim κI ph ph m_N_runTick 116 [] [some (qR o), some (qI x1), none, none, none, none] w (f_N_runTick_116 o x1 w) := by
  intro x1 w
  unfold f_N_runTick_116
  refine z_aload_n d_N_runTick_116 rfl ?_
  refine z_cVV (as := []) (st := []) (nl := 1) (ci := 3) d_N_runTick_117 lk_N_153 mk_N_noteFewest rfl rfl (hI 0 _ rfl).1 rfl rfl rfl (s_N_noteFewest hI _) (fun q5 _ => ?_)
  refine z_aload_n d_N_runTick_120 rfl ?_
  refine z_dup d_N_runTick_121 rfl ?_
  refine z_gi (ci := 3) (j := 10) (ji := 10) d_N_runTick_122 rfl fl_N_63 (hI 0 _ rfl).1 rfl rfl ?_
  refine z_ic1 d_N_runTick_125 ?_
  refine z_iadd d_N_runTick_126 ?_
  refine z_pi (ci := 3) (j := 10) (ji := 10) d_N_runTick_127 rfl fl_N_63 (hI 0 _ rfl).1 rfl rfl rfl rfl (fun w6 => ?_)
  refine z_iload_n d_N_runTick_130 rfl ?_
  exact z_iret d_N_runTick_131 rfl rfl
def f_N_runTick_101 (o : Nat) (x1 : Int) (w : qMem) : Option (Int × qMem) :=
  (f_N_feelHunger o w).bind fun q7 =>
  if (q7 o 9) ≤ 0 then
  f_N_runTick_116 o x1 q7
  else
  (f_N_turnMarks o q7).bind fun q9 =>
  f_N_runTick_116 o x1 q9
set_option maxRecDepth 4000 in
theorem s_N_runTick_101 {ph : Nat} {o : Nat} (hI : qIs kLN ph o) : ∀ (x1 : Int) (w : qMem), qSim κI ph ph m_N_runTick 101 [] [some (qR o), some (qI x1), none, none, none, none] w (f_N_runTick_101 o x1 w) := by
  intro x1 w
  unfold f_N_runTick_101
  refine z_aload_n d_N_runTick_101 rfl ?_
  refine z_cVV (as := []) (st := []) (nl := 2) (ci := 3) d_N_runTick_102 lk_N_147 mk_N_feelHunger rfl rfl (hI 0 _ rfl).1 rfl rfl rfl (s_N_feelHunger hI _) (fun q7 _ => ?_)
  refine z_aload_n d_N_runTick_105 rfl ?_
  refine z_gi (ci := 3) (j := 9) (ji := 9) d_N_runTick_106 rfl fl_N_60 (hI 0 _ rfl).1 rfl rfl ?_
  refine z_if_le (tgt := 116) d_N_runTick_109 rfl (fun c8 => ?_) (fun c8 => ?_)
  · refine z_mask [true, true, false, false, false, false] ?_
    exact s_N_runTick_116 hI _ _
  · refine z_aload_n d_N_runTick_112 rfl ?_
    refine z_cVV (as := []) (st := []) (nl := 4) (ci := 3) d_N_runTick_113 lk_N_150 mk_N_turnMarks rfl rfl (hI 0 _ rfl).1 rfl rfl rfl (s_N_turnMarks hI _) (fun q9 _ => ?_)
    refine z_mask [true, true, false, false, false, false] ?_
    exact s_N_runTick_116 hI _ _
def f_N_runTick_22 (o : Nat) : Nat → Int → Int → qMem → Option (Int × qMem)
  | 0, _, _, _ => none
  | n + 1, x1, x2, w =>
    if x2 < (w (o + 1) 5) then
    qdv (w (o + 1) 5) <|
    qdv (w (o + 1) 5) <|
    f_N_runTick_59 o (f_N_runTick_22 o n) qFU x1 x2 (jrem (w32 ((jrem (w o 10) (w (o + 1) 5)) + x2)) (w (o + 1) 5)) 0 w
    else
    f_N_runTick_101 o x1 w
set_option maxRecDepth 4000 in
theorem s_N_runTick_22 {ph : Nat} {o : Nat} (hI : qIs kLN ph o) : ∀ (n : Nat), ∀ (x1 x2 : Int) (w : qMem), qSim κI ph ph m_N_runTick 22 [] [some (qR o), some (qI x1), some (qI x2), none, none, none] w (f_N_runTick_22 o n x1 x2 w) := by
  intro n
  induction n with
  | zero => intro x1 x2 w; exact z_none
  | succ n ih =>
    intro x1 x2 w
    rw [f_N_runTick_22]
    refine z_iload_n d_N_runTick_22 rfl ?_
    refine z_aload_n d_N_runTick_23 rfl ?_
    refine z_gr (ci := 3) (j := 0) (d := 1) (o2 := (o + 1)) d_N_runTick_24 rfl fl_N_12 (hI 0 _ rfl).1 ((hI 0 _ rfl).2 (Nat.le_of_ble_eq_true rfl)) rfl rfl ?_
    refine z_gi (ci := 0) (j := 5) (ji := 5) d_N_runTick_27 rfl fl_N_137 (hI 1 _ rfl).1 rfl rfl ?_
    refine z_icmp_ge (tgt := 101) d_N_runTick_30 rfl (fun c10 => ?_) (fun c10 => ?_)
    · refine z_aload_n d_N_runTick_33 rfl ?_
      refine z_gi (ci := 3) (j := 10) (ji := 10) d_N_runTick_34 rfl fl_N_63 (hI 0 _ rfl).1 rfl rfl ?_
      refine z_aload_n d_N_runTick_37 rfl ?_
      refine z_gr (ci := 3) (j := 0) (d := 1) (o2 := (o + 1)) d_N_runTick_38 rfl fl_N_12 (hI 0 _ rfl).1 ((hI 0 _ rfl).2 (Nat.le_of_ble_eq_true rfl)) rfl rfl ?_
      refine z_gi (ci := 0) (j := 5) (ji := 5) d_N_runTick_41 rfl fl_N_137 (hI 1 _ rfl).1 rfl rfl ?_
      refine z_irem d_N_runTick_44 (fun _ => ?_)
      refine z_iload_n d_N_runTick_45 rfl ?_
      refine z_iadd d_N_runTick_46 ?_
      refine z_aload_n d_N_runTick_47 rfl ?_
      refine z_gr (ci := 3) (j := 0) (d := 1) (o2 := (o + 1)) d_N_runTick_48 rfl fl_N_12 (hI 0 _ rfl).1 ((hI 0 _ rfl).2 (Nat.le_of_ble_eq_true rfl)) rfl rfl ?_
      refine z_gi (ci := 0) (j := 5) (ji := 5) d_N_runTick_51 rfl fl_N_137 (hI 1 _ rfl).1 rfl rfl ?_
      refine z_irem d_N_runTick_54 (fun _ => ?_)
      refine z_istore_n (pls' := [some (qR o), some (qI x1), some (qI x2), some (qI (jrem (w32 ((jrem (w o 10) (w (o + 1) 5)) + x2)) (w (o + 1) 5))), none, none]) d_N_runTick_55 (by decide) rfl rfl ?_
      refine z_ic0 d_N_runTick_56 ?_
      refine z_istore (pls' := [some (qR o), some (qI x1), some (qI x2), some (qI (jrem (w32 ((jrem (w o 10) (w (o + 1) 5)) + x2)) (w (o + 1) 5))), some (qI 0), none]) d_N_runTick_57 (by decide) rfl rfl ?_
      refine z_mask [true, true, true, true, true, false] ?_
      exact s_N_runTick_59 hI ih _ _ _ _ _ _
    · refine z_mask [true, true, false, false, false, false] ?_
      exact s_N_runTick_101 hI _ _
def f_N_runTick (o : Nat) (w : qMem) : Option (Int × qMem) :=
  qlt (qud w (o + 22) 1 0) fun w11 =>
  (f_R_forgetEntries (o + 24) w11).bind fun q12 =>
  (f_N_deliverFirsts o q12).bind fun q13 =>
  f_N_runTick_22 o qFU q13.1 0 q13.2
set_option maxRecDepth 4000 in
theorem s_N_runTick {ph : Nat} {o : Nat} (hI : qIs kLN ph o) (w : qMem) : qSim κI ph ph m_N_runTick 0 [] [some (qR o), none, none, none, none, none] w (f_N_runTick o w) := by
  unfold f_N_runTick
  refine z_aload_n d_N_runTick_0 rfl ?_
  refine z_gr (ci := 3) (j := 3) (d := 22) (o2 := (o + 22)) d_N_runTick_1 rfl fl_N_35 (hI 0 _ rfl).1 ((hI 0 _ rfl).2 (Nat.le_of_ble_eq_true rfl)) rfl rfl ?_
  refine z_ic0 d_N_runTick_4 ?_
  refine z_pi (ci := 2) (j := 1) (ji := 1) d_N_runTick_5 rfl fl_N_72 (hI 22 _ rfl).1 rfl rfl rfl rfl (fun w11 => ?_)
  refine z_aload_n d_N_runTick_8 rfl ?_
  refine z_gr (ci := 3) (j := 4) (d := 24) (o2 := (o + 24)) d_N_runTick_9 rfl fl_N_42 (hI 0 _ rfl).1 ((hI 0 _ rfl).2 (Nat.le_of_ble_eq_true rfl)) rfl rfl ?_
  refine z_cVV (as := []) (st := []) (nl := 1) (ci := 7) d_N_runTick_12 lk_N_130 mk_R_forgetEntries rfl rfl (hI 24 _ rfl).1 rfl rfl rfl (s_R_forgetEntries (is_N_R hI) _) (fun q12 _ => ?_)
  refine z_aload_n d_N_runTick_15 rfl ?_
  refine z_cVI (as := []) (st := []) (nl := 4) (ci := 3) d_N_runTick_16 lk_N_133 mk_N_deliverFirsts rfl rfl (hI 0 _ rfl).1 rfl rfl rfl (s_N_deliverFirsts hI _) (fun q13 _ hq13 => ?_)
  refine z_istore_n (pls' := [some (qR o), some (qI q13.1), none, none, none, none]) d_N_runTick_19 (by decide) rfl rfl ?_
  refine z_ic0 d_N_runTick_20 ?_
  refine z_istore_n (pls' := [some (qR o), some (qI q13.1), some (qI 0), none, none, none]) d_N_runTick_21 (by decide) rfl rfl ?_
  refine z_mask [true, true, true, false, false, false] ?_
  exact s_N_runTick_22 hI _ _ _ _
/-! BubbleTorus$Net.isInTo -/
theorem d_N_isInTo_0 : decode m_N_isInTo.2.1 0 = .ok (.aload_n 0, 1) := by decide +kernel
theorem d_N_isInTo_1 : decode m_N_isInTo.2.1 1 = .ok (.getfield 28, 3) := by decide +kernel
theorem d_N_isInTo_4 : decode m_N_isInTo.2.1 4 = .ok (.iload_n 1, 1) := by decide +kernel
theorem d_N_isInTo_5 : decode m_N_isInTo.2.1 5 = .ok (.bipush 9, 2) := by decide +kernel
theorem d_N_isInTo_7 : decode m_N_isInTo.2.1 7 = .ok (.imul, 1) := by decide +kernel
theorem d_N_isInTo_8 : decode m_N_isInTo.2.1 8 = .ok (.iload_n 2, 1) := by decide +kernel
theorem d_N_isInTo_9 : decode m_N_isInTo.2.1 9 = .ok (.iadd, 1) := by decide +kernel
theorem d_N_isInTo_10 : decode m_N_isInTo.2.1 10 = .ok (.invokevirtual 156, 3) := by decide +kernel
theorem d_N_isInTo_13 : decode m_N_isInTo.2.1 13 = .ok (.istore_n 3, 1) := by decide +kernel
theorem d_N_isInTo_14 : decode m_N_isInTo.2.1 14 = .ok (.iload_n 3, 1) := by decide +kernel
theorem d_N_isInTo_15 : decode m_N_isInTo.2.1 15 = .ok (.iconst (-1), 1) := by decide +kernel
theorem d_N_isInTo_16 : decode m_N_isInTo.2.1 16 = .ok (.if_icmp .eq 20, 3) := by decide +kernel
theorem d_N_isInTo_19 : decode m_N_isInTo.2.1 19 = .ok (.aload_n 0, 1) := by decide +kernel
theorem d_N_isInTo_20 : decode m_N_isInTo.2.1 20 = .ok (.getfield 21, 3) := by decide +kernel
theorem d_N_isInTo_23 : decode m_N_isInTo.2.1 23 = .ok (.getfield 160, 3) := by decide +kernel
theorem d_N_isInTo_26 : decode m_N_isInTo.2.1 26 = .ok (.iload_n 3, 1) := by decide +kernel
theorem d_N_isInTo_27 : decode m_N_isInTo.2.1 27 = .ok (.iaload, 1) := by decide +kernel
theorem d_N_isInTo_28 : decode m_N_isInTo.2.1 28 = .ok (.iload_n 1, 1) := by decide +kernel
theorem d_N_isInTo_29 : decode m_N_isInTo.2.1 29 = .ok (.if_icmp .ne 7, 3) := by decide +kernel
theorem d_N_isInTo_32 : decode m_N_isInTo.2.1 32 = .ok (.iconst 1, 1) := by decide +kernel
theorem d_N_isInTo_33 : decode m_N_isInTo.2.1 33 = .ok (.goto 4, 3) := by decide +kernel
theorem d_N_isInTo_36 : decode m_N_isInTo.2.1 36 = .ok (.iconst 0, 1) := by decide +kernel
theorem d_N_isInTo_37 : decode m_N_isInTo.2.1 37 = .ok (.ireturn, 1) := by decide +kernel
def f_N_isInTo (o : Nat) (x1 : Int) (x2 : Int) (w : qMem) : Option (Int × qMem) :=
  (f_Q_first (o + 19) (w32 ((w32 (x1 * 9)) + x2)) w).bind fun q1 =>
  if q1.1 = (-1) then
  some (0, q1.2)
  else
  qld q1.2 (o + 7) 250 q1.1 fun v3 =>
  if v3 = x1 then
  some (1, q1.2)
  else
  some (0, q1.2)
set_option maxRecDepth 4000 in
theorem s_N_isInTo {ph : Nat} {o : Nat} (x1 : Int) (x2 : Int) (hI : qIs kLN ph o) (w : qMem) : qSim κI ph ph m_N_isInTo 0 [] [some (qR o), some (qI x1), some (qI x2), none] w (f_N_isInTo o x1 x2 w) := by
  unfold f_N_isInTo
  refine z_aload_n d_N_isInTo_0 rfl ?_
  refine z_gr (ci := 3) (j := 2) (d := 19) (o2 := (o + 19)) d_N_isInTo_1 rfl fl_N_28 (hI 0 _ rfl).1 ((hI 0 _ rfl).2 (Nat.le_of_ble_eq_true rfl)) rfl rfl ?_
  refine z_iload_n d_N_isInTo_4 rfl ?_
  refine z_bipush d_N_isInTo_5 ⟨by decide, by decide⟩ ?_
  refine z_imul d_N_isInTo_7 ?_
  refine z_iload_n d_N_isInTo_8 rfl ?_
  refine z_iadd d_N_isInTo_9 ?_
  refine z_cVI (as := [qI (w32 ((w32 (x1 * 9)) + x2))]) (st := []) (nl := 0) (ci := 6) d_N_isInTo_10 lk_N_156 mk_Q_first rfl rfl (hI 19 _ rfl).1 rfl rfl rfl (s_Q_first _ (is_N_Q hI) _) (fun q1 _ hq1 => ?_)
  refine z_istore_n (pls' := [some (qR o), some (qI x1), some (qI x2), some (qI q1.1)]) d_N_isInTo_13 (by decide) rfl rfl ?_
  refine z_iload_n d_N_isInTo_14 rfl ?_
  refine z_icm1 d_N_isInTo_15 ?_
  refine z_icmp_eq (tgt := 36) d_N_isInTo_16 rfl (fun c2 => ?_) (fun c2 => ?_)
  · refine z_ic0 d_N_isInTo_36 ?_
    exact z_zret d_N_isInTo_37 rfl rfl (Or.inl rfl)
  · refine z_aload_n d_N_isInTo_19 rfl ?_
    refine z_gr (ci := 3) (j := 1) (d := 5) (o2 := (o + 5)) d_N_isInTo_20 rfl fl_N_21 (hI 0 _ rfl).1 ((hI 0 _ rfl).2 (Nat.le_of_ble_eq_true rfl)) rfl rfl ?_
    refine z_gr (ci := 5) (j := 1) (d := 2) (o2 := (o + 7)) d_N_isInTo_23 rfl fl_N_160 (hI 5 _ rfl).1 ((hI 5 _ rfl).2 (Nat.le_of_ble_eq_true rfl)) rfl rfl ?_
    refine z_iload_n d_N_isInTo_26 rfl ?_
    refine z_il d_N_isInTo_27 (hI 7 _ rfl).1 rfl (fun v3 => ?_)
    refine z_iload_n d_N_isInTo_28 rfl ?_
    refine z_icmp_ne (tgt := 36) d_N_isInTo_29 rfl (fun c4 => ?_) (fun c4 => ?_)
    · refine z_ic1 d_N_isInTo_32 ?_
      refine z_goto (tgt := 37) d_N_isInTo_33 rfl ?_
      exact z_zret d_N_isInTo_37 rfl rfl (Or.inr rfl)
    · refine z_ic0 d_N_isInTo_36 ?_
      exact z_zret d_N_isInTo_37 rfl rfl (Or.inl rfl)
/-! BubbleTorus$Net.heldInLane -/
theorem d_N_heldInLane_0 : decode m_N_heldInLane.2.1 0 = .ok (.iconst 0, 1) := by decide +kernel
theorem d_N_heldInLane_1 : decode m_N_heldInLane.2.1 1 = .ok (.istore_n 2, 1) := by decide +kernel
theorem d_N_heldInLane_2 : decode m_N_heldInLane.2.1 2 = .ok (.iconst 0, 1) := by decide +kernel
theorem d_N_heldInLane_3 : decode m_N_heldInLane.2.1 3 = .ok (.istore_n 3, 1) := by decide +kernel
theorem d_N_heldInLane_4 : decode m_N_heldInLane.2.1 4 = .ok (.iload_n 3, 1) := by decide +kernel
theorem d_N_heldInLane_5 : decode m_N_heldInLane.2.1 5 = .ok (.aload_n 0, 1) := by decide +kernel
theorem d_N_heldInLane_6 : decode m_N_heldInLane.2.1 6 = .ok (.getfield 12, 3) := by decide +kernel
theorem d_N_heldInLane_9 : decode m_N_heldInLane.2.1 9 = .ok (.getfield 137, 3) := by decide +kernel
theorem d_N_heldInLane_12 : decode m_N_heldInLane.2.1 12 = .ok (.if_icmp .ge 51, 3) := by decide +kernel
theorem d_N_heldInLane_15 : decode m_N_heldInLane.2.1 15 = .ok (.iload_n 1, 1) := by decide +kernel
theorem d_N_heldInLane_16 : decode m_N_heldInLane.2.1 16 = .ok (.ifCond .ne 21, 3) := by decide +kernel
theorem d_N_heldInLane_19 : decode m_N_heldInLane.2.1 19 = .ok (.iload_n 2, 1) := by decide +kernel
theorem d_N_heldInLane_20 : decode m_N_heldInLane.2.1 20 = .ok (.aload_n 0, 1) := by decide +kernel
theorem d_N_heldInLane_21 : decode m_N_heldInLane.2.1 21 = .ok (.getfield 28, 3) := by decide +kernel
theorem d_N_heldInLane_24 : decode m_N_heldInLane.2.1 24 = .ok (.getfield 115, 3) := by decide +kernel
theorem d_N_heldInLane_27 : decode m_N_heldInLane.2.1 27 = .ok (.iload_n 3, 1) := by decide +kernel
theorem d_N_heldInLane_28 : decode m_N_heldInLane.2.1 28 = .ok (.bipush 9, 2) := by decide +kernel
theorem d_N_heldInLane_30 : decode m_N_heldInLane.2.1 30 = .ok (.imul, 1) := by decide +kernel
theorem d_N_heldInLane_31 : decode m_N_heldInLane.2.1 31 = .ok (.iaload, 1) := by decide +kernel
theorem d_N_heldInLane_32 : decode m_N_heldInLane.2.1 32 = .ok (.iadd, 1) := by decide +kernel
theorem d_N_heldInLane_33 : decode m_N_heldInLane.2.1 33 = .ok (.istore_n 2, 1) := by decide +kernel
theorem d_N_heldInLane_34 : decode m_N_heldInLane.2.1 34 = .ok (.goto 23, 3) := by decide +kernel
theorem d_N_heldInLane_37 : decode m_N_heldInLane.2.1 37 = .ok (.iload_n 2, 1) := by decide +kernel
theorem d_N_heldInLane_38 : decode m_N_heldInLane.2.1 38 = .ok (.aload_n 0, 1) := by decide +kernel
theorem d_N_heldInLane_39 : decode m_N_heldInLane.2.1 39 = .ok (.getfield 28, 3) := by decide +kernel
theorem d_N_heldInLane_42 : decode m_N_heldInLane.2.1 42 = .ok (.iload_n 3, 1) := by decide +kernel
theorem d_N_heldInLane_43 : decode m_N_heldInLane.2.1 43 = .ok (.bipush 9, 2) := by decide +kernel
theorem d_N_heldInLane_45 : decode m_N_heldInLane.2.1 45 = .ok (.imul, 1) := by decide +kernel
theorem d_N_heldInLane_46 : decode m_N_heldInLane.2.1 46 = .ok (.iload_n 1, 1) := by decide +kernel
theorem d_N_heldInLane_47 : decode m_N_heldInLane.2.1 47 = .ok (.invokestatic 243, 3) := by decide +kernel
theorem d_N_heldInLane_50 : decode m_N_heldInLane.2.1 50 = .ok (.iadd, 1) := by decide +kernel
theorem d_N_heldInLane_51 : decode m_N_heldInLane.2.1 51 = .ok (.iconst 4, 1) := by decide +kernel
theorem d_N_heldInLane_52 : decode m_N_heldInLane.2.1 52 = .ok (.invokevirtual 299, 3) := by decide +kernel
theorem d_N_heldInLane_55 : decode m_N_heldInLane.2.1 55 = .ok (.iadd, 1) := by decide +kernel
theorem d_N_heldInLane_56 : decode m_N_heldInLane.2.1 56 = .ok (.istore_n 2, 1) := by decide +kernel
theorem d_N_heldInLane_57 : decode m_N_heldInLane.2.1 57 = .ok (.iinc 3 1, 3) := by decide +kernel
theorem d_N_heldInLane_60 : decode m_N_heldInLane.2.1 60 = .ok (.goto (-56), 3) := by decide +kernel
theorem d_N_heldInLane_63 : decode m_N_heldInLane.2.1 63 = .ok (.iload_n 2, 1) := by decide +kernel
theorem d_N_heldInLane_64 : decode m_N_heldInLane.2.1 64 = .ok (.ireturn, 1) := by decide +kernel
def f_N_heldInLane_4 (o : Nat) : Nat → Int → Int → Int → qMem → Option (Int × qMem)
  | 0, _, _, _, _ => none
  | n + 1, x1, x2, x3, w =>
    if x3 < (w (o + 1) 5) then
    if x1 = 0 then
    qld w (o + 20) 144 (w32 (x3 * 9)) fun v3 =>
    (f_N_heldInLane_4 o n) x1 (w32 (x2 + v3)) (w32 (x3 + 1)) w
    else
    (f_X_firstOfLane x1 w).bind fun q4 =>
    (f_Q_heldFrom (o + 19) (w32 ((w32 (x3 * 9)) + q4.1)) 4 q4.2).bind fun q5 =>
    (f_N_heldInLane_4 o n) x1 (w32 (x2 + q5.1)) (w32 (x3 + 1)) q5.2
    else
    some (x2, w)
set_option maxRecDepth 4000 in
theorem s_N_heldInLane_4 {ph : Nat} {o : Nat} (hI : qIs kLN ph o) : ∀ (n : Nat), ∀ (x1 x2 x3 : Int) (w : qMem), qSim κI ph ph m_N_heldInLane 4 [] [some (qR o), some (qI x1), some (qI x2), some (qI x3)] w (f_N_heldInLane_4 o n x1 x2 x3 w) := by
  intro n
  induction n with
  | zero => intro x1 x2 x3 w; exact z_none
  | succ n ih =>
    intro x1 x2 x3 w
    rw [f_N_heldInLane_4]
    refine z_iload_n d_N_heldInLane_4 rfl ?_
    refine z_aload_n d_N_heldInLane_5 rfl ?_
    refine z_gr (ci := 3) (j := 0) (d := 1) (o2 := (o + 1)) d_N_heldInLane_6 rfl fl_N_12 (hI 0 _ rfl).1 ((hI 0 _ rfl).2 (Nat.le_of_ble_eq_true rfl)) rfl rfl ?_
    refine z_gi (ci := 0) (j := 5) (ji := 5) d_N_heldInLane_9 rfl fl_N_137 (hI 1 _ rfl).1 rfl rfl ?_
    refine z_icmp_ge (tgt := 63) d_N_heldInLane_12 rfl (fun c1 => ?_) (fun c1 => ?_)
    · refine z_iload_n d_N_heldInLane_15 rfl ?_
      refine z_if_ne (tgt := 37) d_N_heldInLane_16 rfl (fun c2 => ?_) (fun c2 => ?_)
      · refine z_iload_n d_N_heldInLane_19 rfl ?_
        refine z_aload_n d_N_heldInLane_20 rfl ?_
        refine z_gr (ci := 3) (j := 2) (d := 19) (o2 := (o + 19)) d_N_heldInLane_21 rfl fl_N_28 (hI 0 _ rfl).1 ((hI 0 _ rfl).2 (Nat.le_of_ble_eq_true rfl)) rfl rfl ?_
        refine z_gr (ci := 6) (j := 0) (d := 1) (o2 := (o + 20)) d_N_heldInLane_24 rfl fl_N_115 (hI 19 _ rfl).1 ((hI 19 _ rfl).2 (Nat.le_of_ble_eq_true rfl)) rfl rfl ?_
        refine z_iload_n d_N_heldInLane_27 rfl ?_
        refine z_bipush d_N_heldInLane_28 ⟨by decide, by decide⟩ ?_
        refine z_imul d_N_heldInLane_30 ?_
        refine z_il d_N_heldInLane_31 (hI 20 _ rfl).1 rfl (fun v3 => ?_)
        refine z_iadd d_N_heldInLane_32 ?_
        refine z_istore_n (pls' := [some (qR o), some (qI x1), some (qI (w32 (x2 + v3))), some (qI x3)]) d_N_heldInLane_33 (by decide) rfl rfl ?_
        refine z_goto (tgt := 57) d_N_heldInLane_34 rfl ?_
        refine z_iinc (pls' := [some (qR o), some (qI x1), some (qI (w32 (x2 + v3))), some (qI (w32 (x3 + 1)))]) d_N_heldInLane_57 (by decide) rfl rfl rfl ?_
        refine z_goto (tgt := 4) d_N_heldInLane_60 rfl ?_
        refine z_mask [true, true, true, true] ?_
        exact ih _ _ _ _
      · refine z_iload_n d_N_heldInLane_37 rfl ?_
        refine z_aload_n d_N_heldInLane_38 rfl ?_
        refine z_gr (ci := 3) (j := 2) (d := 19) (o2 := (o + 19)) d_N_heldInLane_39 rfl fl_N_28 (hI 0 _ rfl).1 ((hI 0 _ rfl).2 (Nat.le_of_ble_eq_true rfl)) rfl rfl ?_
        refine z_iload_n d_N_heldInLane_42 rfl ?_
        refine z_bipush d_N_heldInLane_43 ⟨by decide, by decide⟩ ?_
        refine z_imul d_N_heldInLane_45 ?_
        refine z_iload_n d_N_heldInLane_46 rfl ?_
        refine z_cNI (av := [qI x1]) (st := [qI (w32 (x3 * 9)), qR (o + 19), qI x2]) (nl := 0) d_N_heldInLane_47 lk_N_243 mk_X_firstOfLane rfl rfl rfl (s_X_firstOfLane _ _) (fun q4 _ hq4 => ?_)
        refine z_iadd d_N_heldInLane_50 ?_
        refine z_ic4 d_N_heldInLane_51 ?_
        refine z_cVI (as := [qI (w32 ((w32 (x3 * 9)) + q4.1)), qI 4]) (st := [qI x2]) (nl := 2) (ci := 6) d_N_heldInLane_52 lk_N_299 mk_Q_heldFrom rfl rfl (hI 19 _ rfl).1 rfl rfl rfl (s_Q_heldFrom _ _ (is_N_Q hI) _) (fun q5 _ hq5 => ?_)
        refine z_iadd d_N_heldInLane_55 ?_
        refine z_istore_n (pls' := [some (qR o), some (qI x1), some (qI (w32 (x2 + q5.1))), some (qI x3)]) d_N_heldInLane_56 (by decide) rfl rfl ?_
        refine z_iinc (pls' := [some (qR o), some (qI x1), some (qI (w32 (x2 + q5.1))), some (qI (w32 (x3 + 1)))]) d_N_heldInLane_57 (by decide) rfl rfl rfl ?_
        refine z_goto (tgt := 4) d_N_heldInLane_60 rfl ?_
        refine z_mask [true, true, true, true] ?_
        exact ih _ _ _ _
    · refine z_iload_n d_N_heldInLane_63 rfl ?_
      exact z_iret d_N_heldInLane_64 rfl rfl
def f_N_heldInLane (o : Nat) (x1 : Int) (w : qMem) : Option (Int × qMem) :=
  f_N_heldInLane_4 o qFU x1 0 0 w
set_option maxRecDepth 4000 in
theorem s_N_heldInLane {ph : Nat} {o : Nat} (x1 : Int) (hI : qIs kLN ph o) (w : qMem) : qSim κI ph ph m_N_heldInLane 0 [] [some (qR o), some (qI x1), none, none] w (f_N_heldInLane o x1 w) := by
  unfold f_N_heldInLane
  refine z_ic0 d_N_heldInLane_0 ?_
  refine z_istore_n (pls' := [some (qR o), some (qI x1), some (qI 0), none]) d_N_heldInLane_1 (by decide) rfl rfl ?_
  refine z_ic0 d_N_heldInLane_2 ?_
  refine z_istore_n (pls' := [some (qR o), some (qI x1), some (qI 0), some (qI 0)]) d_N_heldInLane_3 (by decide) rfl rfl ?_
  refine z_mask [true, true, true, true] ?_
  exact s_N_heldInLane_4 hI _ _ _ _ _
/-! BubbleTorus$Net.queueOf -/
theorem d_N_queueOf_0 : decode m_N_queueOf.2.1 0 = .ok (.aload_n 0, 1) := by decide +kernel
theorem d_N_queueOf_1 : decode m_N_queueOf.2.1 1 = .ok (.getfield 21, 3) := by decide +kernel
theorem d_N_queueOf_4 : decode m_N_queueOf.2.1 4 = .ok (.getfield 302, 3) := by decide +kernel
theorem d_N_queueOf_7 : decode m_N_queueOf.2.1 7 = .ok (.iload_n 1, 1) := by decide +kernel
theorem d_N_queueOf_8 : decode m_N_queueOf.2.1 8 = .ok (.iaload, 1) := by decide +kernel
theorem d_N_queueOf_9 : decode m_N_queueOf.2.1 9 = .ok (.istore_n 2, 1) := by decide +kernel
theorem d_N_queueOf_10 : decode m_N_queueOf.2.1 10 = .ok (.aload_n 0, 1) := by decide +kernel
theorem d_N_queueOf_11 : decode m_N_queueOf.2.1 11 = .ok (.getfield 21, 3) := by decide +kernel
theorem d_N_queueOf_14 : decode m_N_queueOf.2.1 14 = .ok (.getfield 305, 3) := by decide +kernel
theorem d_N_queueOf_17 : decode m_N_queueOf.2.1 17 = .ok (.iload_n 1, 1) := by decide +kernel
theorem d_N_queueOf_18 : decode m_N_queueOf.2.1 18 = .ok (.iaload, 1) := by decide +kernel
theorem d_N_queueOf_19 : decode m_N_queueOf.2.1 19 = .ok (.bipush 9, 2) := by decide +kernel
theorem d_N_queueOf_21 : decode m_N_queueOf.2.1 21 = .ok (.imul, 1) := by decide +kernel
theorem d_N_queueOf_22 : decode m_N_queueOf.2.1 22 = .ok (.iload_n 2, 1) := by decide +kernel
theorem d_N_queueOf_23 : decode m_N_queueOf.2.1 23 = .ok (.ifCond .ne 7, 3) := by decide +kernel
theorem d_N_queueOf_26 : decode m_N_queueOf.2.1 26 = .ok (.iconst 0, 1) := by decide +kernel
theorem d_N_queueOf_27 : decode m_N_queueOf.2.1 27 = .ok (.goto 17, 3) := by decide +kernel
theorem d_N_queueOf_30 : decode m_N_queueOf.2.1 30 = .ok (.iload_n 2, 1) := by decide +kernel
theorem d_N_queueOf_31 : decode m_N_queueOf.2.1 31 = .ok (.invokestatic 243, 3) := by decide +kernel
theorem d_N_queueOf_34 : decode m_N_queueOf.2.1 34 = .ok (.aload_n 0, 1) := by decide +kernel
theorem d_N_queueOf_35 : decode m_N_queueOf.2.1 35 = .ok (.getfield 21, 3) := by decide +kernel
theorem d_N_queueOf_38 : decode m_N_queueOf.2.1 38 = .ok (.getfield 308, 3) := by decide +kernel
theorem d_N_queueOf_41 : decode m_N_queueOf.2.1 41 = .ok (.iload_n 1, 1) := by decide +kernel
theorem d_N_queueOf_42 : decode m_N_queueOf.2.1 42 = .ok (.iaload, 1) := by decide +kernel
theorem d_N_queueOf_43 : decode m_N_queueOf.2.1 43 = .ok (.iadd, 1) := by decide +kernel
theorem d_N_queueOf_44 : decode m_N_queueOf.2.1 44 = .ok (.iadd, 1) := by decide +kernel
theorem d_N_queueOf_45 : decode m_N_queueOf.2.1 45 = .ok (.ireturn, 1) := by decide +kernel
def f_N_queueOf_44 (o : Nat) (s0 s1 : Int) (w : qMem) : Option (Int × qMem) :=
  some ((w32 (s0 + s1)), w)
set_option maxRecDepth 4000 in
theorem s_N_queueOf_44 {ph : Nat} {o : Nat} (hI : qIs kLN ph o) : ∀ (s0 s1 : Int) (w : qMem), qSim κI ph ph m_N_queueOf 44 [qI s1, qI s0] [none, none, none] w (f_N_queueOf_44 o s0 s1 w) := by
  intro s0 s1 w
  unfold f_N_queueOf_44
  refine z_iadd d_N_queueOf_44 ?_
  exact z_iret d_N_queueOf_45 rfl rfl
def f_N_queueOf (o : Nat) (x1 : Int) (w : qMem) : Option (Int × qMem) :=
  qld w (o + 9) 250 x1 fun v1 =>
  qld w (o + 10) 250 x1 fun v2 =>
  if v1 = 0 then
  f_N_queueOf_44 o (w32 (v2 * 9)) 0 w
  else
  (f_X_firstOfLane v1 w).bind fun q4 =>
  qld q4.2 (o + 11) 250 x1 fun v5 =>
  f_N_queueOf_44 o (w32 (v2 * 9)) (w32 (q4.1 + v5)) q4.2
set_option maxRecDepth 4000 in
theorem s_N_queueOf {ph : Nat} {o : Nat} (x1 : Int) (hI : qIs kLN ph o) (w : qMem) : qSim κI ph ph m_N_queueOf 0 [] [some (qR o), some (qI x1), none] w (f_N_queueOf o x1 w) := by
  unfold f_N_queueOf
  refine z_aload_n d_N_queueOf_0 rfl ?_
  refine z_gr (ci := 3) (j := 1) (d := 5) (o2 := (o + 5)) d_N_queueOf_1 rfl fl_N_21 (hI 0 _ rfl).1 ((hI 0 _ rfl).2 (Nat.le_of_ble_eq_true rfl)) rfl rfl ?_
  refine z_gr (ci := 5) (j := 3) (d := 4) (o2 := (o + 9)) d_N_queueOf_4 rfl fl_N_302 (hI 5 _ rfl).1 ((hI 5 _ rfl).2 (Nat.le_of_ble_eq_true rfl)) rfl rfl ?_
  refine z_iload_n d_N_queueOf_7 rfl ?_
  refine z_il d_N_queueOf_8 (hI 9 _ rfl).1 rfl (fun v1 => ?_)
  refine z_istore_n (pls' := [some (qR o), some (qI x1), some (qI v1)]) d_N_queueOf_9 (by decide) rfl rfl ?_
  refine z_aload_n d_N_queueOf_10 rfl ?_
  refine z_gr (ci := 3) (j := 1) (d := 5) (o2 := (o + 5)) d_N_queueOf_11 rfl fl_N_21 (hI 0 _ rfl).1 ((hI 0 _ rfl).2 (Nat.le_of_ble_eq_true rfl)) rfl rfl ?_
  refine z_gr (ci := 5) (j := 4) (d := 5) (o2 := (o + 10)) d_N_queueOf_14 rfl fl_N_305 (hI 5 _ rfl).1 ((hI 5 _ rfl).2 (Nat.le_of_ble_eq_true rfl)) rfl rfl ?_
  refine z_iload_n d_N_queueOf_17 rfl ?_
  refine z_il d_N_queueOf_18 (hI 10 _ rfl).1 rfl (fun v2 => ?_)
  refine z_bipush d_N_queueOf_19 ⟨by decide, by decide⟩ ?_
  refine z_imul d_N_queueOf_21 ?_
  refine z_iload_n d_N_queueOf_22 rfl ?_
  refine z_if_ne (tgt := 30) d_N_queueOf_23 rfl (fun c3 => ?_) (fun c3 => ?_)
  · refine z_ic0 d_N_queueOf_26 ?_
    refine z_goto (tgt := 44) d_N_queueOf_27 rfl ?_
    refine z_mask [false, false, false] ?_
    exact s_N_queueOf_44 hI _ _ _
  · refine z_iload_n d_N_queueOf_30 rfl ?_
    refine z_cNI (av := [qI v1]) (st := [qI (w32 (v2 * 9))]) (nl := 0) d_N_queueOf_31 lk_N_243 mk_X_firstOfLane rfl rfl rfl (s_X_firstOfLane _ _) (fun q4 _ hq4 => ?_)
    refine z_aload_n d_N_queueOf_34 rfl ?_
    refine z_gr (ci := 3) (j := 1) (d := 5) (o2 := (o + 5)) d_N_queueOf_35 rfl fl_N_21 (hI 0 _ rfl).1 ((hI 0 _ rfl).2 (Nat.le_of_ble_eq_true rfl)) rfl rfl ?_
    refine z_gr (ci := 5) (j := 5) (d := 6) (o2 := (o + 11)) d_N_queueOf_38 rfl fl_N_308 (hI 5 _ rfl).1 ((hI 5 _ rfl).2 (Nat.le_of_ble_eq_true rfl)) rfl rfl ?_
    refine z_iload_n d_N_queueOf_41 rfl ?_
    refine z_il d_N_queueOf_42 (hI 11 _ rfl).1 rfl (fun v5 => ?_)
    refine z_iadd d_N_queueOf_43 ?_
    refine z_mask [false, false, false] ?_
    exact s_N_queueOf_44 hI _ _ _
/-! BubbleTorus$Outlook.goesAtOnce -/
theorem d_O_goesAtOnce_0 : decode m_O_goesAtOnce.2.1 0 = .ok (.aload_n 1, 1) := by decide +kernel
theorem d_O_goesAtOnce_1 : decode m_O_goesAtOnce.2.1 1 = .ok (.iload_n 2, 1) := by decide +kernel
theorem d_O_goesAtOnce_2 : decode m_O_goesAtOnce.2.1 2 = .ok (.iload_n 3, 1) := by decide +kernel
theorem d_O_goesAtOnce_3 : decode m_O_goesAtOnce.2.1 3 = .ok (.invokevirtual 34, 3) := by decide +kernel
theorem d_O_goesAtOnce_6 : decode m_O_goesAtOnce.2.1 6 = .ok (.ifCond .eq 5, 3) := by decide +kernel
theorem d_O_goesAtOnce_9 : decode m_O_goesAtOnce.2.1 9 = .ok (.iconst 1, 1) := by decide +kernel
theorem d_O_goesAtOnce_10 : decode m_O_goesAtOnce.2.1 10 = .ok (.ireturn, 1) := by decide +kernel
theorem d_O_goesAtOnce_11 : decode m_O_goesAtOnce.2.1 11 = .ok (.iconst 0, 1) := by decide +kernel
theorem d_O_goesAtOnce_12 : decode m_O_goesAtOnce.2.1 12 = .ok (.istore 4, 2) := by decide +kernel
theorem d_O_goesAtOnce_14 : decode m_O_goesAtOnce.2.1 14 = .ok (.iload 4, 2) := by decide +kernel
theorem d_O_goesAtOnce_16 : decode m_O_goesAtOnce.2.1 16 = .ok (.iconst 4, 1) := by decide +kernel
theorem d_O_goesAtOnce_17 : decode m_O_goesAtOnce.2.1 17 = .ok (.if_icmp .ge 33, 3) := by decide +kernel
theorem d_O_goesAtOnce_20 : decode m_O_goesAtOnce.2.1 20 = .ok (.aload_n 1, 1) := by decide +kernel
theorem d_O_goesAtOnce_21 : decode m_O_goesAtOnce.2.1 21 = .ok (.iload_n 2, 1) := by decide +kernel
theorem d_O_goesAtOnce_22 : decode m_O_goesAtOnce.2.1 22 = .ok (.iload_n 3, 1) := by decide +kernel
theorem d_O_goesAtOnce_23 : decode m_O_goesAtOnce.2.1 23 = .ok (.iload 4, 2) := by decide +kernel
theorem d_O_goesAtOnce_25 : decode m_O_goesAtOnce.2.1 25 = .ok (.invokevirtual 38, 3) := by decide +kernel
theorem d_O_goesAtOnce_28 : decode m_O_goesAtOnce.2.1 28 = .ok (.ifCond .ne 14, 3) := by decide +kernel
theorem d_O_goesAtOnce_31 : decode m_O_goesAtOnce.2.1 31 = .ok (.aload_n 1, 1) := by decide +kernel
theorem d_O_goesAtOnce_32 : decode m_O_goesAtOnce.2.1 32 = .ok (.iload_n 2, 1) := by decide +kernel
theorem d_O_goesAtOnce_33 : decode m_O_goesAtOnce.2.1 33 = .ok (.iload_n 3, 1) := by decide +kernel
theorem d_O_goesAtOnce_34 : decode m_O_goesAtOnce.2.1 34 = .ok (.iload 4, 2) := by decide +kernel
theorem d_O_goesAtOnce_36 : decode m_O_goesAtOnce.2.1 36 = .ok (.invokevirtual 42, 3) := by decide +kernel
theorem d_O_goesAtOnce_39 : decode m_O_goesAtOnce.2.1 39 = .ok (.ifCond .eq 5, 3) := by decide +kernel
theorem d_O_goesAtOnce_42 : decode m_O_goesAtOnce.2.1 42 = .ok (.iconst 1, 1) := by decide +kernel
theorem d_O_goesAtOnce_43 : decode m_O_goesAtOnce.2.1 43 = .ok (.ireturn, 1) := by decide +kernel
theorem d_O_goesAtOnce_44 : decode m_O_goesAtOnce.2.1 44 = .ok (.iinc 4 1, 3) := by decide +kernel
theorem d_O_goesAtOnce_47 : decode m_O_goesAtOnce.2.1 47 = .ok (.goto (-33), 3) := by decide +kernel
theorem d_O_goesAtOnce_50 : decode m_O_goesAtOnce.2.1 50 = .ok (.iconst 0, 1) := by decide +kernel
theorem d_O_goesAtOnce_51 : decode m_O_goesAtOnce.2.1 51 = .ok (.ireturn, 1) := by decide +kernel
def f_O_goesAtOnce_14 (p1 : Nat) : Nat → Int → Int → Int → qMem → Option (Int × qMem)
  | 0, _, _, _, _ => none
  | n + 1, x2, x3, x4, w =>
    if x4 < 4 then
    (f_N_adaptiveLets p1 x2 x3 x4 w).bind fun q2 =>
    if q2.1 = 0 then
    (f_N_escapeLets p1 x2 x3 x4 q2.2).bind fun q4 =>
    if q4.1 = 0 then
    (f_O_goesAtOnce_14 p1 n) x2 x3 (w32 (x4 + 1)) q4.2
    else
    some (1, q4.2)
    else
    some (1, q2.2)
    else
    some (0, w)
set_option maxRecDepth 4000 in
theorem s_O_goesAtOnce_14 {p1 : Nat} (hp1 : qIs kLN 100 p1) : ∀ (n : Nat), ∀ (x2 x3 x4 : Int) (w : qMem), qSim κI 100 100 m_O_goesAtOnce 14 [] [none, some (qR p1), some (qI x2), some (qI x3), some (qI x4)] w (f_O_goesAtOnce_14 p1 n x2 x3 x4 w) := by
  intro n
  induction n with
  | zero => intro x2 x3 x4 w; exact z_none
  | succ n ih =>
    intro x2 x3 x4 w
    rw [f_O_goesAtOnce_14]
    refine z_iload d_O_goesAtOnce_14 rfl ?_
    refine z_ic4 d_O_goesAtOnce_16 ?_
    refine z_icmp_ge (tgt := 50) d_O_goesAtOnce_17 rfl (fun c1 => ?_) (fun c1 => ?_)
    · refine z_aload_n d_O_goesAtOnce_20 rfl ?_
      refine z_iload_n d_O_goesAtOnce_21 rfl ?_
      refine z_iload_n d_O_goesAtOnce_22 rfl ?_
      refine z_iload d_O_goesAtOnce_23 rfl ?_
      refine z_cVI (as := [qI x2, qI x3, qI x4]) (st := []) (nl := 0) (ci := 3) d_O_goesAtOnce_25 lk_O_38 mk_N_adaptiveLets rfl rfl (hp1 0 _ rfl).1 rfl rfl rfl (s_N_adaptiveLets _ _ _ hp1 _) (fun q2 _ hq2 => ?_)
      refine z_if_ne (tgt := 42) d_O_goesAtOnce_28 rfl (fun c3 => ?_) (fun c3 => ?_)
      · refine z_aload_n d_O_goesAtOnce_31 rfl ?_
        refine z_iload_n d_O_goesAtOnce_32 rfl ?_
        refine z_iload_n d_O_goesAtOnce_33 rfl ?_
        refine z_iload d_O_goesAtOnce_34 rfl ?_
        refine z_cVI (as := [qI x2, qI x3, qI x4]) (st := []) (nl := 0) (ci := 3) d_O_goesAtOnce_36 lk_O_42 mk_N_escapeLets rfl rfl (hp1 0 _ rfl).1 rfl rfl rfl (s_N_escapeLets _ _ _ hp1 _) (fun q4 _ hq4 => ?_)
        refine z_if_eq (tgt := 44) d_O_goesAtOnce_39 rfl (fun c5 => ?_) (fun c5 => ?_)
        · refine z_iinc (pls' := [none, some (qR p1), some (qI x2), some (qI x3), some (qI (w32 (x4 + 1)))]) d_O_goesAtOnce_44 (by decide) rfl rfl rfl ?_
          refine z_goto (tgt := 14) d_O_goesAtOnce_47 rfl ?_
          refine z_mask [false, true, true, true, true] ?_
          exact ih _ _ _ _
        · refine z_ic1 d_O_goesAtOnce_42 ?_
          exact z_zret d_O_goesAtOnce_43 rfl rfl (Or.inr rfl)
      · refine z_ic1 d_O_goesAtOnce_42 ?_
        exact z_zret d_O_goesAtOnce_43 rfl rfl (Or.inr rfl)
    · refine z_ic0 d_O_goesAtOnce_50 ?_
      exact z_zret d_O_goesAtOnce_51 rfl rfl (Or.inl rfl)
def f_O_goesAtOnce (p1 : Nat) (x2 : Int) (x3 : Int) (w : qMem) : Option (Int × qMem) :=
  (f_N_isInTo p1 x2 x3 w).bind fun q6 =>
  if q6.1 = 0 then
  f_O_goesAtOnce_14 p1 qFU x2 x3 0 q6.2
  else
  some (1, q6.2)
set_option maxRecDepth 4000 in
theorem s_O_goesAtOnce {p1 : Nat} (x2 : Int) (x3 : Int) (hp1 : qIs kLN 100 p1) (w : qMem) : qSim κI 100 100 m_O_goesAtOnce 0 [] [some (qR 72), some (qR p1), some (qI x2), some (qI x3), none] w (f_O_goesAtOnce p1 x2 x3 w) := by
  unfold f_O_goesAtOnce
  refine z_aload_n d_O_goesAtOnce_0 rfl ?_
  refine z_iload_n d_O_goesAtOnce_1 rfl ?_
  refine z_iload_n d_O_goesAtOnce_2 rfl ?_
  refine z_cVI (as := [qI x2, qI x3]) (st := []) (nl := 1) (ci := 3) d_O_goesAtOnce_3 lk_O_34 mk_N_isInTo rfl rfl (hp1 0 _ rfl).1 rfl rfl rfl (s_N_isInTo _ _ hp1 _) (fun q6 _ hq6 => ?_)
  refine z_if_eq (tgt := 11) d_O_goesAtOnce_6 rfl (fun c7 => ?_) (fun c7 => ?_)
  · refine z_ic0 d_O_goesAtOnce_11 ?_
    refine z_istore (pls' := [some (qR 72), some (qR p1), some (qI x2), some (qI x3), some (qI 0)]) d_O_goesAtOnce_12 (by decide) rfl rfl ?_
    refine z_mask [false, true, true, true, true] ?_
    exact s_O_goesAtOnce_14 hp1 _ _ _ _ _
  · refine z_ic1 d_O_goesAtOnce_9 ?_
    exact z_zret d_O_goesAtOnce_10 rfl rfl (Or.inr rfl)
/-! BubbleTorus$Outlook.anyInRing -/
theorem d_O_anyInRing_0 : decode m_O_anyInRing.2.1 0 = .ok (.aload_n 1, 1) := by decide +kernel
theorem d_O_anyInRing_1 : decode m_O_anyInRing.2.1 1 = .ok (.iload_n 2, 1) := by decide +kernel
theorem d_O_anyInRing_2 : decode m_O_anyInRing.2.1 2 = .ok (.iload_n 3, 1) := by decide +kernel
theorem d_O_anyInRing_3 : decode m_O_anyInRing.2.1 3 = .ok (.invokevirtual 62, 3) := by decide +kernel
theorem d_O_anyInRing_6 : decode m_O_anyInRing.2.1 6 = .ok (.istore 4, 2) := by decide +kernel
theorem d_O_anyInRing_8 : decode m_O_anyInRing.2.1 8 = .ok (.iconst 0, 1) := by decide +kernel
theorem d_O_anyInRing_9 : decode m_O_anyInRing.2.1 9 = .ok (.istore 5, 2) := by decide +kernel
theorem d_O_anyInRing_11 : decode m_O_anyInRing.2.1 11 = .ok (.iload 5, 2) := by decide +kernel
theorem d_O_anyInRing_13 : decode m_O_anyInRing.2.1 13 = .ok (.aload_n 1, 1) := by decide +kernel
theorem d_O_anyInRing_14 : decode m_O_anyInRing.2.1 14 = .ok (.iload 4, 2) := by decide +kernel
theorem d_O_anyInRing_16 : decode m_O_anyInRing.2.1 16 = .ok (.invokevirtual 65, 3) := by decide +kernel
theorem d_O_anyInRing_19 : decode m_O_anyInRing.2.1 19 = .ok (.if_icmp .ge 34, 3) := by decide +kernel
theorem d_O_anyInRing_22 : decode m_O_anyInRing.2.1 22 = .ok (.aload_n 0, 1) := by decide +kernel
theorem d_O_anyInRing_23 : decode m_O_anyInRing.2.1 23 = .ok (.getfield 9, 3) := by decide +kernel
theorem d_O_anyInRing_26 : decode m_O_anyInRing.2.1 26 = .ok (.aload_n 1, 1) := by decide +kernel
theorem d_O_anyInRing_27 : decode m_O_anyInRing.2.1 27 = .ok (.iload 4, 2) := by decide +kernel
theorem d_O_anyInRing_29 : decode m_O_anyInRing.2.1 29 = .ok (.iload 5, 2) := by decide +kernel
theorem d_O_anyInRing_31 : decode m_O_anyInRing.2.1 31 = .ok (.invokevirtual 69, 3) := by decide +kernel
theorem d_O_anyInRing_34 : decode m_O_anyInRing.2.1 34 = .ok (.bipush 9, 2) := by decide +kernel
theorem d_O_anyInRing_36 : decode m_O_anyInRing.2.1 36 = .ok (.imul, 1) := by decide +kernel
theorem d_O_anyInRing_37 : decode m_O_anyInRing.2.1 37 = .ok (.iconst 1, 1) := by decide +kernel
theorem d_O_anyInRing_38 : decode m_O_anyInRing.2.1 38 = .ok (.iadd, 1) := by decide +kernel
theorem d_O_anyInRing_39 : decode m_O_anyInRing.2.1 39 = .ok (.iload_n 3, 1) := by decide +kernel
theorem d_O_anyInRing_40 : decode m_O_anyInRing.2.1 40 = .ok (.iadd, 1) := by decide +kernel
theorem d_O_anyInRing_41 : decode m_O_anyInRing.2.1 41 = .ok (.baload, 1) := by decide +kernel
theorem d_O_anyInRing_42 : decode m_O_anyInRing.2.1 42 = .ok (.ifCond .eq 5, 3) := by decide +kernel
theorem d_O_anyInRing_45 : decode m_O_anyInRing.2.1 45 = .ok (.iconst 1, 1) := by decide +kernel
theorem d_O_anyInRing_46 : decode m_O_anyInRing.2.1 46 = .ok (.ireturn, 1) := by decide +kernel
theorem d_O_anyInRing_47 : decode m_O_anyInRing.2.1 47 = .ok (.iinc 5 1, 3) := by decide +kernel
theorem d_O_anyInRing_50 : decode m_O_anyInRing.2.1 50 = .ok (.goto (-39), 3) := by decide +kernel
theorem d_O_anyInRing_53 : decode m_O_anyInRing.2.1 53 = .ok (.iconst 0, 1) := by decide +kernel
theorem d_O_anyInRing_54 : decode m_O_anyInRing.2.1 54 = .ok (.ireturn, 1) := by decide +kernel
def f_O_anyInRing_11 (p1 : Nat) : Nat → Int → Int → Int → qMem → Option (Int × qMem)
  | 0, _, _, _, _ => none
  | n + 1, x3, x4, x5, w =>
    (f_G_ringLength p1 x4 w).bind fun q1 =>
    if x5 < q1.1 then
    (f_G_ringNode p1 x4 x5 q1.2).bind fun q3 =>
    qld q3.2 73 144 (w32 ((w32 ((w32 (q3.1 * 9)) + 1)) + x3)) fun v4 =>
    if v4 = 0 then
    (f_O_anyInRing_11 p1 n) x3 x4 (w32 (x5 + 1)) q3.2
    else
    some (1, q3.2)
    else
    some (0, q1.2)
set_option maxRecDepth 4000 in
theorem s_O_anyInRing_11 {p1 : Nat} (hp1 : qIs kLG 100 p1) : ∀ (n : Nat), ∀ (x3 x4 x5 : Int) (w : qMem), qSim κI 100 100 m_O_anyInRing 11 [] [some (qR 72), some (qR p1), none, some (qI x3), some (qI x4), some (qI x5)] w (f_O_anyInRing_11 p1 n x3 x4 x5 w) := by
  intro n
  induction n with
  | zero => intro x3 x4 x5 w; exact z_none
  | succ n ih =>
    intro x3 x4 x5 w
    rw [f_O_anyInRing_11]
    refine z_iload d_O_anyInRing_11 rfl ?_
    refine z_aload_n d_O_anyInRing_13 rfl ?_
    refine z_iload d_O_anyInRing_14 rfl ?_
    refine z_cVI (as := [qI x4]) (st := [qI x5]) (nl := 0) (ci := 0) d_O_anyInRing_16 lk_O_65 mk_G_ringLength rfl rfl (hp1 0 _ rfl).1 rfl rfl rfl (s_G_ringLength _ hp1 _) (fun q1 _ hq1 => ?_)
    refine z_icmp_ge (tgt := 53) d_O_anyInRing_19 rfl (fun c2 => ?_) (fun c2 => ?_)
    · refine z_aload_n d_O_anyInRing_22 rfl ?_
      refine z_gr (ci := 4) (j := 0) (d := 1) (o2 := 73) d_O_anyInRing_23 rfl fl_O_9 rfl (Nat.le_of_ble_eq_true rfl) rfl rfl ?_
      refine z_aload_n d_O_anyInRing_26 rfl ?_
      refine z_iload d_O_anyInRing_27 rfl ?_
      refine z_iload d_O_anyInRing_29 rfl ?_
      refine z_cVI (as := [qI x4, qI x5]) (st := [qR 73]) (nl := 1) (ci := 0) d_O_anyInRing_31 lk_O_69 mk_G_ringNode rfl rfl (hp1 0 _ rfl).1 rfl rfl rfl (s_G_ringNode _ _ hp1 _) (fun q3 _ hq3 => ?_)
      refine z_bipush d_O_anyInRing_34 ⟨by decide, by decide⟩ ?_
      refine z_imul d_O_anyInRing_36 ?_
      refine z_ic1 d_O_anyInRing_37 ?_
      refine z_iadd d_O_anyInRing_38 ?_
      refine z_iload_n d_O_anyInRing_39 rfl ?_
      refine z_iadd d_O_anyInRing_40 ?_
      refine z_zl d_O_anyInRing_41 rfl rfl (fun v4 hz5 => ?_)
      refine z_if_eq (tgt := 47) d_O_anyInRing_42 rfl (fun c6 => ?_) (fun c6 => ?_)
      · refine z_iinc (pls' := [some (qR 72), some (qR p1), none, some (qI x3), some (qI x4), some (qI (w32 (x5 + 1)))]) d_O_anyInRing_47 (by decide) rfl rfl rfl ?_
        refine z_goto (tgt := 11) d_O_anyInRing_50 rfl ?_
        refine z_mask [true, true, false, true, true, true] ?_
        exact ih _ _ _ _
      · refine z_ic1 d_O_anyInRing_45 ?_
        exact z_zret d_O_anyInRing_46 rfl rfl (Or.inr rfl)
    · refine z_ic0 d_O_anyInRing_53 ?_
      exact z_zret d_O_anyInRing_54 rfl rfl (Or.inl rfl)
def f_O_anyInRing (p1 : Nat) (x2 : Int) (x3 : Int) (w : qMem) : Option (Int × qMem) :=
  (f_G_ringIndex p1 x2 x3 w).bind fun q7 =>
  f_O_anyInRing_11 p1 qFU x3 q7.1 0 q7.2
set_option maxRecDepth 4000 in
theorem s_O_anyInRing {p1 : Nat} (x2 : Int) (x3 : Int) (hp1 : qIs kLG 100 p1) (w : qMem) : qSim κI 100 100 m_O_anyInRing 0 [] [some (qR 72), some (qR p1), some (qI x2), some (qI x3), none, none] w (f_O_anyInRing p1 x2 x3 w) := by
  unfold f_O_anyInRing
  refine z_aload_n d_O_anyInRing_0 rfl ?_
  refine z_iload_n d_O_anyInRing_1 rfl ?_
  refine z_iload_n d_O_anyInRing_2 rfl ?_
  refine z_cVI (as := [qI x2, qI x3]) (st := []) (nl := 2) (ci := 0) d_O_anyInRing_3 lk_O_62 mk_G_ringIndex rfl rfl (hp1 0 _ rfl).1 rfl rfl rfl (s_G_ringIndex _ _ hp1 _) (fun q7 _ hq7 => ?_)
  refine z_istore (pls' := [some (qR 72), some (qR p1), some (qI x2), some (qI x3), some (qI q7.1), none]) d_O_anyInRing_6 (by decide) rfl rfl ?_
  refine z_ic0 d_O_anyInRing_8 ?_
  refine z_istore (pls' := [some (qR 72), some (qR p1), some (qI x2), some (qI x3), some (qI q7.1), some (qI 0)]) d_O_anyInRing_9 (by decide) rfl rfl ?_
  refine z_mask [true, true, false, true, true, true] ?_
  exact s_O_anyInRing_11 hp1 _ _ _ _ _
/-! BubbleTorus$Outlook.follows -/
theorem d_O_follows_0 : decode m_O_follows.2.1 0 = .ok (.iconst 0, 1) := by decide +kernel
theorem d_O_follows_1 : decode m_O_follows.2.1 1 = .ok (.istore 4, 2) := by decide +kernel
theorem d_O_follows_3 : decode m_O_follows.2.1 3 = .ok (.iload 4, 2) := by decide +kernel
theorem d_O_follows_5 : decode m_O_follows.2.1 5 = .ok (.iconst 4, 1) := by decide +kernel
theorem d_O_follows_6 : decode m_O_follows.2.1 6 = .ok (.if_icmp .ge 108, 3) := by decide +kernel
theorem d_O_follows_9 : decode m_O_follows.2.1 9 = .ok (.aload_n 1, 1) := by decide +kernel
theorem d_O_follows_10 : decode m_O_follows.2.1 10 = .ok (.getfield 15, 3) := by decide +kernel
theorem d_O_follows_13 : decode m_O_follows.2.1 13 = .ok (.iload_n 2, 1) := by decide +kernel
theorem d_O_follows_14 : decode m_O_follows.2.1 14 = .ok (.iload 4, 2) := by decide +kernel
theorem d_O_follows_16 : decode m_O_follows.2.1 16 = .ok (.invokevirtual 45, 3) := by decide +kernel
theorem d_O_follows_19 : decode m_O_follows.2.1 19 = .ok (.bipush 9, 2) := by decide +kernel
theorem d_O_follows_21 : decode m_O_follows.2.1 21 = .ok (.imul, 1) := by decide +kernel
theorem d_O_follows_22 : decode m_O_follows.2.1 22 = .ok (.istore 5, 2) := by decide +kernel
theorem d_O_follows_24 : decode m_O_follows.2.1 24 = .ok (.aload_n 1, 1) := by decide +kernel
theorem d_O_follows_25 : decode m_O_follows.2.1 25 = .ok (.iload_n 2, 1) := by decide +kernel
theorem d_O_follows_26 : decode m_O_follows.2.1 26 = .ok (.iload_n 3, 1) := by decide +kernel
theorem d_O_follows_27 : decode m_O_follows.2.1 27 = .ok (.iload 4, 2) := by decide +kernel
theorem d_O_follows_29 : decode m_O_follows.2.1 29 = .ok (.invokevirtual 49, 3) := by decide +kernel
theorem d_O_follows_32 : decode m_O_follows.2.1 32 = .ok (.ifCond .eq 20, 3) := by decide +kernel
theorem d_O_follows_35 : decode m_O_follows.2.1 35 = .ok (.aload_n 0, 1) := by decide +kernel
theorem d_O_follows_36 : decode m_O_follows.2.1 36 = .ok (.getfield 9, 3) := by decide +kernel
theorem d_O_follows_39 : decode m_O_follows.2.1 39 = .ok (.iload 5, 2) := by decide +kernel
theorem d_O_follows_41 : decode m_O_follows.2.1 41 = .ok (.iconst 5, 1) := by decide +kernel
theorem d_O_follows_42 : decode m_O_follows.2.1 42 = .ok (.iadd, 1) := by decide +kernel
theorem d_O_follows_43 : decode m_O_follows.2.1 43 = .ok (.iload 4, 2) := by decide +kernel
theorem d_O_follows_45 : decode m_O_follows.2.1 45 = .ok (.iadd, 1) := by decide +kernel
theorem d_O_follows_46 : decode m_O_follows.2.1 46 = .ok (.baload, 1) := by decide +kernel
theorem d_O_follows_47 : decode m_O_follows.2.1 47 = .ok (.ifCond .eq 5, 3) := by decide +kernel
theorem d_O_follows_50 : decode m_O_follows.2.1 50 = .ok (.iconst 1, 1) := by decide +kernel
theorem d_O_follows_51 : decode m_O_follows.2.1 51 = .ok (.ireturn, 1) := by decide +kernel
theorem d_O_follows_52 : decode m_O_follows.2.1 52 = .ok (.aload_n 1, 1) := by decide +kernel
theorem d_O_follows_53 : decode m_O_follows.2.1 53 = .ok (.iload_n 2, 1) := by decide +kernel
theorem d_O_follows_54 : decode m_O_follows.2.1 54 = .ok (.iload_n 3, 1) := by decide +kernel
theorem d_O_follows_55 : decode m_O_follows.2.1 55 = .ok (.iload 4, 2) := by decide +kernel
theorem d_O_follows_57 : decode m_O_follows.2.1 57 = .ok (.invokevirtual 52, 3) := by decide +kernel
theorem d_O_follows_60 : decode m_O_follows.2.1 60 = .ok (.ifCond .eq 48, 3) := by decide +kernel
theorem d_O_follows_63 : decode m_O_follows.2.1 63 = .ok (.aload_n 1, 1) := by decide +kernel
theorem d_O_follows_64 : decode m_O_follows.2.1 64 = .ok (.iload_n 2, 1) := by decide +kernel
theorem d_O_follows_65 : decode m_O_follows.2.1 65 = .ok (.iload_n 3, 1) := by decide +kernel
theorem d_O_follows_66 : decode m_O_follows.2.1 66 = .ok (.iload 4, 2) := by decide +kernel
theorem d_O_follows_68 : decode m_O_follows.2.1 68 = .ok (.invokevirtual 55, 3) := by decide +kernel
theorem d_O_follows_71 : decode m_O_follows.2.1 71 = .ok (.ifCond .eq 21, 3) := by decide +kernel
theorem d_O_follows_74 : decode m_O_follows.2.1 74 = .ok (.aload_n 0, 1) := by decide +kernel
theorem d_O_follows_75 : decode m_O_follows.2.1 75 = .ok (.getfield 9, 3) := by decide +kernel
theorem d_O_follows_78 : decode m_O_follows.2.1 78 = .ok (.iload 5, 2) := by decide +kernel
theorem d_O_follows_80 : decode m_O_follows.2.1 80 = .ok (.iconst 1, 1) := by decide +kernel
theorem d_O_follows_81 : decode m_O_follows.2.1 81 = .ok (.iadd, 1) := by decide +kernel
theorem d_O_follows_82 : decode m_O_follows.2.1 82 = .ok (.iload 4, 2) := by decide +kernel
theorem d_O_follows_84 : decode m_O_follows.2.1 84 = .ok (.iadd, 1) := by decide +kernel
theorem d_O_follows_85 : decode m_O_follows.2.1 85 = .ok (.baload, 1) := by decide +kernel
theorem d_O_follows_86 : decode m_O_follows.2.1 86 = .ok (.ifCond .eq 22, 3) := by decide +kernel
theorem d_O_follows_89 : decode m_O_follows.2.1 89 = .ok (.goto 17, 3) := by decide +kernel
theorem d_O_follows_92 : decode m_O_follows.2.1 92 = .ok (.aload_n 0, 1) := by decide +kernel
theorem d_O_follows_93 : decode m_O_follows.2.1 93 = .ok (.aload_n 1, 1) := by decide +kernel
theorem d_O_follows_94 : decode m_O_follows.2.1 94 = .ok (.getfield 15, 3) := by decide +kernel
theorem d_O_follows_97 : decode m_O_follows.2.1 97 = .ok (.iload_n 2, 1) := by decide +kernel
theorem d_O_follows_98 : decode m_O_follows.2.1 98 = .ok (.iload 4, 2) := by decide +kernel
theorem d_O_follows_100 : decode m_O_follows.2.1 100 = .ok (.invokevirtual 58, 3) := by decide +kernel
theorem d_O_follows_103 : decode m_O_follows.2.1 103 = .ok (.ifCond .eq 5, 3) := by decide +kernel
theorem d_O_follows_106 : decode m_O_follows.2.1 106 = .ok (.iconst 1, 1) := by decide +kernel
theorem d_O_follows_107 : decode m_O_follows.2.1 107 = .ok (.ireturn, 1) := by decide +kernel
theorem d_O_follows_108 : decode m_O_follows.2.1 108 = .ok (.iinc 4 1, 3) := by decide +kernel
theorem d_O_follows_111 : decode m_O_follows.2.1 111 = .ok (.goto (-108), 3) := by decide +kernel
theorem d_O_follows_114 : decode m_O_follows.2.1 114 = .ok (.iconst 0, 1) := by decide +kernel
theorem d_O_follows_115 : decode m_O_follows.2.1 115 = .ok (.ireturn, 1) := by decide +kernel
def f_O_follows_52 (p1 : Nat) (r3 : Int → Int → Int → qMem → Option (Int × qMem)) (x2 x3 x4 x5 : Int) (w : qMem) : Option (Int × qMem) :=
  (f_N_isEscape p1 x2 x3 x4 w).bind fun q1 =>
  if q1.1 = 0 then
  r3 x2 x3 (w32 (x4 + 1)) q1.2
  else
  (f_N_continues p1 x2 x3 x4 q1.2).bind fun q3 =>
  if q3.1 = 0 then
  (f_O_anyInRing (p1 + 1) x2 x4 q3.2).bind fun q5 =>
  if q5.1 = 0 then
  r3 x2 x3 (w32 (x4 + 1)) q5.2
  else
  some (1, q5.2)
  else
  qld q3.2 73 144 (w32 ((w32 (x5 + 1)) + x4)) fun v7 =>
  if v7 = 0 then
  r3 x2 x3 (w32 (x4 + 1)) q3.2
  else
  some (1, q3.2)
set_option maxRecDepth 4000 in
theorem s_O_follows_52 {p1 : Nat} (hp1 : qIs kLN 100 p1) {r3 : Int → Int → Int → qMem → Option (Int × qMem)} (hr3 : ∀ x2 x3 x4 w, qSim κI 100 100 m_O_follows 3 [] [some (qR 72), some (qR p1), some (qI x2), some (qI x3), some (qI x4), none] w (r3 x2 x3 x4 w)) : ∀ (x2 x3 x4 x5 : Int) (w : qMem), qSim κI 100 100 m_O_follows 52 [] [some (qR 72), some (qR p1), some (qI x2), some (qI x3), some (qI x4), some (qI x5)] w (f_O_follows_52 p1 r3 x2 x3 x4 x5 w) := by
  intro x2 x3 x4 x5 w
  unfold f_O_follows_52
  refine z_aload_n d_O_follows_52 rfl ?_
  refine z_iload_n d_O_follows_53 rfl ?_
  refine z_iload_n d_O_follows_54 rfl ?_
  refine z_iload d_O_follows_55 rfl ?_
  refine z_cVI (as := [qI x2, qI x3, qI x4]) (st := []) (nl := 1) (ci := 3) d_O_follows_57 lk_O_52 mk_N_isEscape rfl rfl (hp1 0 _ rfl).1 rfl rfl rfl (s_N_isEscape _ _ _ hp1 _) (fun q1 _ hq1 => ?_)
  refine z_if_eq (tgt := 108) d_O_follows_60 rfl (fun c2 => ?_) (fun c2 => ?_)
  · refine z_iinc (pls' := [some (qR 72), some (qR p1), some (qI x2), some (qI x3), some (qI (w32 (x4 + 1))), some (qI x5)]) d_O_follows_108 (by decide) rfl rfl rfl ?_
    refine z_goto (tgt := 3) d_O_follows_111 rfl ?_
    refine z_mask [true, true, true, true, true, false] ?_
    exact hr3 _ _ _ _
  · refine z_aload_n d_O_follows_63 rfl ?_
    refine z_iload_n d_O_follows_64 rfl ?_
    refine z_iload_n d_O_follows_65 rfl ?_
    refine z_iload d_O_follows_66 rfl ?_
    refine z_cVI (as := [qI x2, qI x3, qI x4]) (st := []) (nl := 0) (ci := 3) d_O_follows_68 lk_O_55 mk_N_continues rfl rfl (hp1 0 _ rfl).1 rfl rfl rfl (s_N_continues _ _ _ hp1 _) (fun q3 _ hq3 => ?_)
    refine z_if_eq (tgt := 92) d_O_follows_71 rfl (fun c4 => ?_) (fun c4 => ?_)
    · refine z_aload_n d_O_follows_92 rfl ?_
      refine z_aload_n d_O_follows_93 rfl ?_
      refine z_gr (ci := 3) (j := 0) (d := 1) (o2 := (p1 + 1)) d_O_follows_94 rfl fl_O_15 (hp1 0 _ rfl).1 ((hp1 0 _ rfl).2 (Nat.le_of_ble_eq_true rfl)) rfl rfl ?_
      refine z_iload_n d_O_follows_97 rfl ?_
      refine z_iload d_O_follows_98 rfl ?_
      refine z_cVI (as := [qR (p1 + 1), qI x2, qI x4]) (st := []) (nl := 2) (ci := 4) d_O_follows_100 lk_O_58 mk_O_anyInRing rfl rfl rfl rfl rfl rfl (s_O_anyInRing _ _ (is_N_G hp1) _) (fun q5 _ hq5 => ?_)
      refine z_if_eq (tgt := 108) d_O_follows_103 rfl (fun c6 => ?_) (fun c6 => ?_)
      · refine z_iinc (pls' := [some (qR 72), some (qR p1), some (qI x2), some (qI x3), some (qI (w32 (x4 + 1))), some (qI x5)]) d_O_follows_108 (by decide) rfl rfl rfl ?_
        refine z_goto (tgt := 3) d_O_follows_111 rfl ?_
        refine z_mask [true, true, true, true, true, false] ?_
        exact hr3 _ _ _ _
      · refine z_ic1 d_O_follows_106 ?_
        exact z_zret d_O_follows_107 rfl rfl (Or.inr rfl)
    · refine z_aload_n d_O_follows_74 rfl ?_
      refine z_gr (ci := 4) (j := 0) (d := 1) (o2 := 73) d_O_follows_75 rfl fl_O_9 rfl (Nat.le_of_ble_eq_true rfl) rfl rfl ?_
      refine z_iload d_O_follows_78 rfl ?_
      refine z_ic1 d_O_follows_80 ?_
      refine z_iadd d_O_follows_81 ?_
      refine z_iload d_O_follows_82 rfl ?_
      refine z_iadd d_O_follows_84 ?_
      refine z_zl d_O_follows_85 rfl rfl (fun v7 hz8 => ?_)
      refine z_if_eq (tgt := 108) d_O_follows_86 rfl (fun c9 => ?_) (fun c9 => ?_)
      · refine z_iinc (pls' := [some (qR 72), some (qR p1), some (qI x2), some (qI x3), some (qI (w32 (x4 + 1))), some (qI x5)]) d_O_follows_108 (by decide) rfl rfl rfl ?_
        refine z_goto (tgt := 3) d_O_follows_111 rfl ?_
        refine z_mask [true, true, true, true, true, false] ?_
        exact hr3 _ _ _ _
      · refine z_goto (tgt := 106) d_O_follows_89 rfl ?_
        refine z_ic1 d_O_follows_106 ?_
        exact z_zret d_O_follows_107 rfl rfl (Or.inr rfl)
def f_O_follows_3 (p1 : Nat) : Nat → Int → Int → Int → qMem → Option (Int × qMem)
  | 0, _, _, _, _ => none
  | n + 1, x2, x3, x4, w =>
    if x4 < 4 then
    (f_G_nextBy (p1 + 1) x2 x4 w).bind fun q11 =>
    (f_N_isProfitable p1 x2 x3 x4 q11.2).bind fun q12 =>
    if q12.1 = 0 then
    f_O_follows_52 p1 (f_O_follows_3 p1 n) x2 x3 x4 (w32 (q11.1 * 9)) q12.2
    else
    qld q12.2 73 144 (w32 ((w32 ((w32 (q11.1 * 9)) + 5)) + x4)) fun v14 =>
    if v14 = 0 then
    f_O_follows_52 p1 (f_O_follows_3 p1 n) x2 x3 x4 (w32 (q11.1 * 9)) q12.2
    else
    some (1, q12.2)
    else
    some (0, w)
set_option maxRecDepth 4000 in
theorem s_O_follows_3 {p1 : Nat} (hp1 : qIs kLN 100 p1) : ∀ (n : Nat), ∀ (x2 x3 x4 : Int) (w : qMem), qSim κI 100 100 m_O_follows 3 [] [some (qR 72), some (qR p1), some (qI x2), some (qI x3), some (qI x4), none] w (f_O_follows_3 p1 n x2 x3 x4 w) := by
  intro n
  induction n with
  | zero => intro x2 x3 x4 w; exact z_none
  | succ n ih =>
    intro x2 x3 x4 w
    rw [f_O_follows_3]
    refine z_iload d_O_follows_3 rfl ?_
    refine z_ic4 d_O_follows_5 ?_
    refine z_icmp_ge (tgt := 114) d_O_follows_6 rfl (fun c10 => ?_) (fun c10 => ?_)
    · refine z_aload_n d_O_follows_9 rfl ?_
      refine z_gr (ci := 3) (j := 0) (d := 1) (o2 := (p1 + 1)) d_O_follows_10 rfl fl_O_15 (hp1 0 _ rfl).1 ((hp1 0 _ rfl).2 (Nat.le_of_ble_eq_true rfl)) rfl rfl ?_
      refine z_iload_n d_O_follows_13 rfl ?_
      refine z_iload d_O_follows_14 rfl ?_
      refine z_cVI (as := [qI x2, qI x4]) (st := []) (nl := 0) (ci := 0) d_O_follows_16 lk_O_45 mk_G_nextBy rfl rfl (hp1 1 _ rfl).1 rfl rfl rfl (s_G_nextBy _ _ (is_N_G hp1) _) (fun q11 _ hq11 => ?_)
      refine z_bipush d_O_follows_19 ⟨by decide, by decide⟩ ?_
      refine z_imul d_O_follows_21 ?_
      refine z_istore (pls' := [some (qR 72), some (qR p1), some (qI x2), some (qI x3), some (qI x4), some (qI (w32 (q11.1 * 9)))]) d_O_follows_22 (by decide) rfl rfl ?_
      refine z_aload_n d_O_follows_24 rfl ?_
      refine z_iload_n d_O_follows_25 rfl ?_
      refine z_iload_n d_O_follows_26 rfl ?_
      refine z_iload d_O_follows_27 rfl ?_
      refine z_cVI (as := [qI x2, qI x3, qI x4]) (st := []) (nl := 1) (ci := 3) d_O_follows_29 lk_O_49 mk_N_isProfitable rfl rfl (hp1 0 _ rfl).1 rfl rfl rfl (s_N_isProfitable _ _ _ hp1 _) (fun q12 _ hq12 => ?_)
      refine z_if_eq (tgt := 52) d_O_follows_32 rfl (fun c13 => ?_) (fun c13 => ?_)
      · refine z_mask [true, true, true, true, true, true] ?_
        exact s_O_follows_52 hp1 ih _ _ _ _ _
      · refine z_aload_n d_O_follows_35 rfl ?_
        refine z_gr (ci := 4) (j := 0) (d := 1) (o2 := 73) d_O_follows_36 rfl fl_O_9 rfl (Nat.le_of_ble_eq_true rfl) rfl rfl ?_
        refine z_iload d_O_follows_39 rfl ?_
        refine z_ic5 d_O_follows_41 ?_
        refine z_iadd d_O_follows_42 ?_
        refine z_iload d_O_follows_43 rfl ?_
        refine z_iadd d_O_follows_45 ?_
        refine z_zl d_O_follows_46 rfl rfl (fun v14 hz15 => ?_)
        refine z_if_eq (tgt := 52) d_O_follows_47 rfl (fun c16 => ?_) (fun c16 => ?_)
        · refine z_mask [true, true, true, true, true, true] ?_
          exact s_O_follows_52 hp1 ih _ _ _ _ _
        · refine z_ic1 d_O_follows_50 ?_
          exact z_zret d_O_follows_51 rfl rfl (Or.inr rfl)
    · refine z_ic0 d_O_follows_114 ?_
      exact z_zret d_O_follows_115 rfl rfl (Or.inl rfl)
def f_O_follows (p1 : Nat) (x2 : Int) (x3 : Int) (w : qMem) : Option (Int × qMem) :=
  f_O_follows_3 p1 qFU x2 x3 0 w
set_option maxRecDepth 4000 in
theorem s_O_follows {p1 : Nat} (x2 : Int) (x3 : Int) (hp1 : qIs kLN 100 p1) (w : qMem) : qSim κI 100 100 m_O_follows 0 [] [some (qR 72), some (qR p1), some (qI x2), some (qI x3), none, none] w (f_O_follows p1 x2 x3 w) := by
  unfold f_O_follows
  refine z_ic0 d_O_follows_0 ?_
  refine z_istore (pls' := [some (qR 72), some (qR p1), some (qI x2), some (qI x3), some (qI 0), none]) d_O_follows_1 (by decide) rfl rfl ?_
  refine z_mask [true, true, true, true, true, false] ?_
  exact s_O_follows_3 hp1 _ _ _ _ _
/-! BubbleTorus$Outlook.judge -/
theorem d_O_judge_0 : decode m_O_judge.2.1 0 = .ok (.iconst 0, 1) := by decide +kernel
theorem d_O_judge_1 : decode m_O_judge.2.1 1 = .ok (.istore_n 2, 1) := by decide +kernel
theorem d_O_judge_2 : decode m_O_judge.2.1 2 = .ok (.iload_n 2, 1) := by decide +kernel
theorem d_O_judge_3 : decode m_O_judge.2.1 3 = .ok (.sipush 144, 3) := by decide +kernel
theorem d_O_judge_6 : decode m_O_judge.2.1 6 = .ok (.if_icmp .ge 50, 3) := by decide +kernel
theorem d_O_judge_9 : decode m_O_judge.2.1 9 = .ok (.aload_n 0, 1) := by decide +kernel
theorem d_O_judge_10 : decode m_O_judge.2.1 10 = .ok (.getfield 9, 3) := by decide +kernel
theorem d_O_judge_13 : decode m_O_judge.2.1 13 = .ok (.iload_n 2, 1) := by decide +kernel
theorem d_O_judge_14 : decode m_O_judge.2.1 14 = .ok (.iload_n 2, 1) := by decide +kernel
theorem d_O_judge_15 : decode m_O_judge.2.1 15 = .ok (.aload_n 1, 1) := by decide +kernel
theorem d_O_judge_16 : decode m_O_judge.2.1 16 = .ok (.getfield 15, 3) := by decide +kernel
theorem d_O_judge_19 : decode m_O_judge.2.1 19 = .ok (.getfield 21, 3) := by decide +kernel
theorem d_O_judge_22 : decode m_O_judge.2.1 22 = .ok (.bipush 9, 2) := by decide +kernel
theorem d_O_judge_24 : decode m_O_judge.2.1 24 = .ok (.imul, 1) := by decide +kernel
theorem d_O_judge_25 : decode m_O_judge.2.1 25 = .ok (.if_icmp .ge 23, 3) := by decide +kernel
theorem d_O_judge_28 : decode m_O_judge.2.1 28 = .ok (.aload_n 0, 1) := by decide +kernel
theorem d_O_judge_29 : decode m_O_judge.2.1 29 = .ok (.aload_n 1, 1) := by decide +kernel
theorem d_O_judge_30 : decode m_O_judge.2.1 30 = .ok (.iload_n 2, 1) := by decide +kernel
theorem d_O_judge_31 : decode m_O_judge.2.1 31 = .ok (.bipush 9, 2) := by decide +kernel
theorem d_O_judge_33 : decode m_O_judge.2.1 33 = .ok (.idiv, 1) := by decide +kernel
theorem d_O_judge_34 : decode m_O_judge.2.1 34 = .ok (.iload_n 2, 1) := by decide +kernel
theorem d_O_judge_35 : decode m_O_judge.2.1 35 = .ok (.bipush 9, 2) := by decide +kernel
theorem d_O_judge_37 : decode m_O_judge.2.1 37 = .ok (.irem, 1) := by decide +kernel
theorem d_O_judge_38 : decode m_O_judge.2.1 38 = .ok (.invokevirtual 27, 3) := by decide +kernel
theorem d_O_judge_41 : decode m_O_judge.2.1 41 = .ok (.ifCond .eq 7, 3) := by decide +kernel
theorem d_O_judge_44 : decode m_O_judge.2.1 44 = .ok (.iconst 1, 1) := by decide +kernel
theorem d_O_judge_45 : decode m_O_judge.2.1 45 = .ok (.goto 4, 3) := by decide +kernel
theorem d_O_judge_48 : decode m_O_judge.2.1 48 = .ok (.iconst 0, 1) := by decide +kernel
theorem d_O_judge_49 : decode m_O_judge.2.1 49 = .ok (.bastore, 1) := by decide +kernel
theorem d_O_judge_50 : decode m_O_judge.2.1 50 = .ok (.iinc 2 1, 3) := by decide +kernel
theorem d_O_judge_53 : decode m_O_judge.2.1 53 = .ok (.goto (-51), 3) := by decide +kernel
theorem d_O_judge_56 : decode m_O_judge.2.1 56 = .ok (.iconst 1, 1) := by decide +kernel
theorem d_O_judge_57 : decode m_O_judge.2.1 57 = .ok (.istore_n 2, 1) := by decide +kernel
theorem d_O_judge_58 : decode m_O_judge.2.1 58 = .ok (.iconst 0, 1) := by decide +kernel
theorem d_O_judge_59 : decode m_O_judge.2.1 59 = .ok (.istore_n 3, 1) := by decide +kernel
theorem d_O_judge_60 : decode m_O_judge.2.1 60 = .ok (.iload_n 3, 1) := by decide +kernel
theorem d_O_judge_61 : decode m_O_judge.2.1 61 = .ok (.sipush 144, 3) := by decide +kernel
theorem d_O_judge_64 : decode m_O_judge.2.1 64 = .ok (.if_icmp .ge 77, 3) := by decide +kernel
theorem d_O_judge_67 : decode m_O_judge.2.1 67 = .ok (.iload_n 2, 1) := by decide +kernel
theorem d_O_judge_68 : decode m_O_judge.2.1 68 = .ok (.ifCond .eq 73, 3) := by decide +kernel
theorem d_O_judge_71 : decode m_O_judge.2.1 71 = .ok (.iconst 0, 1) := by decide +kernel
theorem d_O_judge_72 : decode m_O_judge.2.1 72 = .ok (.istore_n 2, 1) := by decide +kernel
theorem d_O_judge_73 : decode m_O_judge.2.1 73 = .ok (.iconst 0, 1) := by decide +kernel
theorem d_O_judge_74 : decode m_O_judge.2.1 74 = .ok (.istore 4, 2) := by decide +kernel
theorem d_O_judge_76 : decode m_O_judge.2.1 76 = .ok (.iload 4, 2) := by decide +kernel
theorem d_O_judge_78 : decode m_O_judge.2.1 78 = .ok (.aload_n 1, 1) := by decide +kernel
theorem d_O_judge_79 : decode m_O_judge.2.1 79 = .ok (.getfield 15, 3) := by decide +kernel
theorem d_O_judge_82 : decode m_O_judge.2.1 82 = .ok (.getfield 21, 3) := by decide +kernel
theorem d_O_judge_85 : decode m_O_judge.2.1 85 = .ok (.bipush 9, 2) := by decide +kernel
theorem d_O_judge_87 : decode m_O_judge.2.1 87 = .ok (.imul, 1) := by decide +kernel
theorem d_O_judge_88 : decode m_O_judge.2.1 88 = .ok (.if_icmp .ge 47, 3) := by decide +kernel
theorem d_O_judge_91 : decode m_O_judge.2.1 91 = .ok (.aload_n 0, 1) := by decide +kernel
theorem d_O_judge_92 : decode m_O_judge.2.1 92 = .ok (.getfield 9, 3) := by decide +kernel
theorem d_O_judge_95 : decode m_O_judge.2.1 95 = .ok (.iload 4, 2) := by decide +kernel
theorem d_O_judge_97 : decode m_O_judge.2.1 97 = .ok (.baload, 1) := by decide +kernel
theorem d_O_judge_98 : decode m_O_judge.2.1 98 = .ok (.ifCond .ne 31, 3) := by decide +kernel
theorem d_O_judge_101 : decode m_O_judge.2.1 101 = .ok (.aload_n 0, 1) := by decide +kernel
theorem d_O_judge_102 : decode m_O_judge.2.1 102 = .ok (.aload_n 1, 1) := by decide +kernel
theorem d_O_judge_103 : decode m_O_judge.2.1 103 = .ok (.iload 4, 2) := by decide +kernel
theorem d_O_judge_105 : decode m_O_judge.2.1 105 = .ok (.bipush 9, 2) := by decide +kernel
theorem d_O_judge_107 : decode m_O_judge.2.1 107 = .ok (.idiv, 1) := by decide +kernel
theorem d_O_judge_108 : decode m_O_judge.2.1 108 = .ok (.iload 4, 2) := by decide +kernel
theorem d_O_judge_110 : decode m_O_judge.2.1 110 = .ok (.bipush 9, 2) := by decide +kernel
theorem d_O_judge_112 : decode m_O_judge.2.1 112 = .ok (.irem, 1) := by decide +kernel
theorem d_O_judge_113 : decode m_O_judge.2.1 113 = .ok (.invokevirtual 31, 3) := by decide +kernel
theorem d_O_judge_116 : decode m_O_judge.2.1 116 = .ok (.ifCond .eq 13, 3) := by decide +kernel
theorem d_O_judge_119 : decode m_O_judge.2.1 119 = .ok (.aload_n 0, 1) := by decide +kernel
theorem d_O_judge_120 : decode m_O_judge.2.1 120 = .ok (.getfield 9, 3) := by decide +kernel
theorem d_O_judge_123 : decode m_O_judge.2.1 123 = .ok (.iload 4, 2) := by decide +kernel
theorem d_O_judge_125 : decode m_O_judge.2.1 125 = .ok (.iconst 1, 1) := by decide +kernel
theorem d_O_judge_126 : decode m_O_judge.2.1 126 = .ok (.bastore, 1) := by decide +kernel
theorem d_O_judge_127 : decode m_O_judge.2.1 127 = .ok (.iconst 1, 1) := by decide +kernel
theorem d_O_judge_128 : decode m_O_judge.2.1 128 = .ok (.istore_n 2, 1) := by decide +kernel
theorem d_O_judge_129 : decode m_O_judge.2.1 129 = .ok (.iinc 4 1, 3) := by decide +kernel
theorem d_O_judge_132 : decode m_O_judge.2.1 132 = .ok (.goto (-56), 3) := by decide +kernel
theorem d_O_judge_135 : decode m_O_judge.2.1 135 = .ok (.iinc 3 1, 3) := by decide +kernel
theorem d_O_judge_138 : decode m_O_judge.2.1 138 = .ok (.goto (-78), 3) := by decide +kernel
theorem d_O_judge_141 : decode m_O_judge.2.1 141 = .ok (.return_, 1) := by decide +kernel
def f_O_judge_49 (p1 : Nat) (r2 : Int → qMem → Option (qMem)) (s1 s2 x2 : Int) (w : qMem) : Option (qMem) :=
  qstz w 73 144 s1 s2 fun w1 =>
  r2 (w32 (x2 + 1)) w1
set_option maxRecDepth 4000 in
theorem s_O_judge_49 {p1 : Nat} (hp1 : qIs kLN 100 p1) {r2 : Int → qMem → Option (qMem)} (hr2 : ∀ x2 w, qSim κV 100 100 m_O_judge 2 [] [some (qR 72), some (qR p1), some (qI x2), none, none] w (r2 x2 w)) : ∀ (s1 s2 x2 : Int) (w : qMem), (s2 = 0 ∨ s2 = 1) → qSim κV 100 100 m_O_judge 49 [qI s2, qI s1, qR 73] [some (qR 72), some (qR p1), some (qI x2), none, none] w (f_O_judge_49 p1 r2 s1 s2 x2 w) := by
  intro s1 s2 x2 w hs2
  unfold f_O_judge_49
  refine z_zs d_O_judge_49 rfl rfl (fun w1 => ?_)
  refine z_iinc (pls' := [some (qR 72), some (qR p1), some (qI (w32 (x2 + 1))), none, none]) d_O_judge_50 (by decide) rfl rfl rfl ?_
  refine z_goto (tgt := 2) d_O_judge_53 rfl ?_
  refine z_mask [true, true, true, false, false] ?_
  exact hr2 _ _
def f_O_judge_76 (p1 : Nat) (r60 : Int → Int → qMem → Option (qMem)) : Nat → Int → Int → Int → qMem → Option (qMem)
  | 0, _, _, _, _ => none
  | n + 1, x2, x3, x4, w =>
    if x4 < (w32 ((w (p1 + 1) 5) * 9)) then
    qld w 73 144 x4 fun v3 =>
    if v3 = 0 then
    qdv 9 <|
    qdv 9 <|
    (f_O_follows p1 (jdiv x4 9) (jrem x4 9) w).bind fun q6 =>
    if q6.1 = 0 then
    (f_O_judge_76 p1 r60 n) x2 x3 (w32 (x4 + 1)) q6.2
    else
    qstz q6.2 73 144 x4 1 fun w8 =>
    (f_O_judge_76 p1 r60 n) 1 x3 (w32 (x4 + 1)) w8
    else
    (f_O_judge_76 p1 r60 n) x2 x3 (w32 (x4 + 1)) w
    else
    r60 x2 (w32 (x3 + 1)) w
set_option maxRecDepth 4000 in
theorem s_O_judge_76 {p1 : Nat} (hp1 : qIs kLN 100 p1) {r60 : Int → Int → qMem → Option (qMem)} (hr60 : ∀ (x2 x3 : Int) (w : qMem) (hx2 : x2 = 0 ∨ x2 = 1), qSim κV 100 100 m_O_judge 60 [] [some (qR 72), some (qR p1), some (qI x2), some (qI x3), none] w (r60 x2 x3 w)) : ∀ (n : Nat), ∀ (x2 x3 x4 : Int) (w : qMem), (x2 = 0 ∨ x2 = 1) → qSim κV 100 100 m_O_judge 76 [] [some (qR 72), some (qR p1), some (qI x2), some (qI x3), some (qI x4)] w (f_O_judge_76 p1 r60 n x2 x3 x4 w) := by
  intro n
  induction n with
  | zero => intro x2 x3 x4 w hx2; exact z_none
  | succ n ih =>
    intro x2 x3 x4 w hx2
    rw [f_O_judge_76]
    refine z_iload d_O_judge_76 rfl ?_
    refine z_aload_n d_O_judge_78 rfl ?_
    refine z_gr (ci := 3) (j := 0) (d := 1) (o2 := (p1 + 1)) d_O_judge_79 rfl fl_O_15 (hp1 0 _ rfl).1 ((hp1 0 _ rfl).2 (Nat.le_of_ble_eq_true rfl)) rfl rfl ?_
    refine z_gi (ci := 0) (j := 5) (ji := 5) d_O_judge_82 rfl fl_O_21 (hp1 1 _ rfl).1 rfl rfl ?_
    refine z_bipush d_O_judge_85 ⟨by decide, by decide⟩ ?_
    refine z_imul d_O_judge_87 ?_
    refine z_icmp_ge (tgt := 135) d_O_judge_88 rfl (fun c2 => ?_) (fun c2 => ?_)
    · refine z_aload_n d_O_judge_91 rfl ?_
      refine z_gr (ci := 4) (j := 0) (d := 1) (o2 := 73) d_O_judge_92 rfl fl_O_9 rfl (Nat.le_of_ble_eq_true rfl) rfl rfl ?_
      refine z_iload d_O_judge_95 rfl ?_
      refine z_zl d_O_judge_97 rfl rfl (fun v3 hz4 => ?_)
      refine z_if_ne (tgt := 129) d_O_judge_98 rfl (fun c5 => ?_) (fun c5 => ?_)
      · refine z_aload_n d_O_judge_101 rfl ?_
        refine z_aload_n d_O_judge_102 rfl ?_
        refine z_iload d_O_judge_103 rfl ?_
        refine z_bipush d_O_judge_105 ⟨by decide, by decide⟩ ?_
        refine z_idiv d_O_judge_107 (fun _ => ?_)
        refine z_iload d_O_judge_108 rfl ?_
        refine z_bipush d_O_judge_110 ⟨by decide, by decide⟩ ?_
        refine z_irem d_O_judge_112 (fun _ => ?_)
        refine z_cVI (as := [qR p1, qI (jdiv x4 9), qI (jrem x4 9)]) (st := []) (nl := 2) (ci := 4) d_O_judge_113 lk_O_31 mk_O_follows rfl rfl rfl rfl rfl rfl (s_O_follows _ _ hp1 _) (fun q6 _ hq6 => ?_)
        refine z_if_eq (tgt := 129) d_O_judge_116 rfl (fun c7 => ?_) (fun c7 => ?_)
        · refine z_iinc (pls' := [some (qR 72), some (qR p1), some (qI x2), some (qI x3), some (qI (w32 (x4 + 1)))]) d_O_judge_129 (by decide) rfl rfl rfl ?_
          refine z_goto (tgt := 76) d_O_judge_132 rfl ?_
          refine z_mask [true, true, true, true, true] ?_
          exact ih _ _ _ _ hx2
        · refine z_aload_n d_O_judge_119 rfl ?_
          refine z_gr (ci := 4) (j := 0) (d := 1) (o2 := 73) d_O_judge_120 rfl fl_O_9 rfl (Nat.le_of_ble_eq_true rfl) rfl rfl ?_
          refine z_iload d_O_judge_123 rfl ?_
          refine z_ic1 d_O_judge_125 ?_
          refine z_zs d_O_judge_126 rfl rfl (fun w8 => ?_)
          refine z_ic1 d_O_judge_127 ?_
          refine z_istore_n (pls' := [some (qR 72), some (qR p1), some (qI 1), some (qI x3), some (qI x4)]) d_O_judge_128 (by decide) rfl rfl ?_
          refine z_iinc (pls' := [some (qR 72), some (qR p1), some (qI 1), some (qI x3), some (qI (w32 (x4 + 1)))]) d_O_judge_129 (by decide) rfl rfl rfl ?_
          refine z_goto (tgt := 76) d_O_judge_132 rfl ?_
          refine z_mask [true, true, true, true, true] ?_
          exact ih _ _ _ _ (Or.inr rfl)
      · refine z_iinc (pls' := [some (qR 72), some (qR p1), some (qI x2), some (qI x3), some (qI (w32 (x4 + 1)))]) d_O_judge_129 (by decide) rfl rfl rfl ?_
        refine z_goto (tgt := 76) d_O_judge_132 rfl ?_
        refine z_mask [true, true, true, true, true] ?_
        exact ih _ _ _ _ hx2
    · refine z_iinc (pls' := [some (qR 72), some (qR p1), some (qI x2), some (qI (w32 (x3 + 1))), some (qI x4)]) d_O_judge_135 (by decide) rfl rfl rfl ?_
      refine z_goto (tgt := 60) d_O_judge_138 rfl ?_
      refine z_mask [true, true, true, true, false] ?_
      exact hr60 _ _ _ hx2
def f_O_judge_60 (p1 : Nat) : Nat → Int → Int → qMem → Option (qMem)
  | 0, _, _, _ => none
  | n + 1, x2, x3, w =>
    if x3 < 144 then
    if x2 = 0 then
    some w
    else
    f_O_judge_76 p1 (f_O_judge_60 p1 n) qFU 0 x3 0 w
    else
    some w
set_option maxRecDepth 4000 in
theorem s_O_judge_60 {p1 : Nat} (hp1 : qIs kLN 100 p1) : ∀ (n : Nat), ∀ (x2 x3 : Int) (w : qMem), (x2 = 0 ∨ x2 = 1) → qSim κV 100 100 m_O_judge 60 [] [some (qR 72), some (qR p1), some (qI x2), some (qI x3), none] w (f_O_judge_60 p1 n x2 x3 w) := by
  intro n
  induction n with
  | zero => intro x2 x3 w hx2; exact z_none
  | succ n ih =>
    intro x2 x3 w hx2
    rw [f_O_judge_60]
    refine z_iload_n d_O_judge_60 rfl ?_
    refine z_sipush d_O_judge_61 ⟨by decide, by decide⟩ ?_
    refine z_icmp_ge (tgt := 141) d_O_judge_64 rfl (fun c9 => ?_) (fun c9 => ?_)
    · refine z_iload_n d_O_judge_67 rfl ?_
      refine z_if_eq (tgt := 141) d_O_judge_68 rfl (fun c10 => ?_) (fun c10 => ?_)
      · exact z_vret d_O_judge_141 rfl rfl
      · refine z_ic0 d_O_judge_71 ?_
        refine z_istore_n (pls' := [some (qR 72), some (qR p1), some (qI 0), some (qI x3), none]) d_O_judge_72 (by decide) rfl rfl ?_
        refine z_ic0 d_O_judge_73 ?_
        refine z_istore (pls' := [some (qR 72), some (qR p1), some (qI 0), some (qI x3), some (qI 0)]) d_O_judge_74 (by decide) rfl rfl ?_
        refine z_mask [true, true, true, true, true] ?_
        exact s_O_judge_76 hp1 ih _ _ _ _ _ (Or.inl rfl)
    · exact z_vret d_O_judge_141 rfl rfl
def f_O_judge_56 (p1 : Nat) (w : qMem) : Option (qMem) :=
  f_O_judge_60 p1 qFU 1 0 w
set_option maxRecDepth 4000 in
theorem s_O_judge_56 {p1 : Nat} (hp1 : qIs kLN 100 p1) : ∀ (w : qMem), qSim κV 100 100 m_O_judge 56 [] [some (qR 72), some (qR p1), none, none, none] w (f_O_judge_56 p1 w) := by
  intro w
  unfold f_O_judge_56
  refine z_ic1 d_O_judge_56 ?_
  refine z_istore_n (pls' := [some (qR 72), some (qR p1), some (qI 1), none, none]) d_O_judge_57 (by decide) rfl rfl ?_
  refine z_ic0 d_O_judge_58 ?_
  refine z_istore_n (pls' := [some (qR 72), some (qR p1), some (qI 1), some (qI 0), none]) d_O_judge_59 (by decide) rfl rfl ?_
  refine z_mask [true, true, true, true, false] ?_
  exact s_O_judge_60 hp1 _ _ _ _ (Or.inr rfl)
def f_O_judge_2 (p1 : Nat) : Nat → Int → qMem → Option (qMem)
  | 0, _, _ => none
  | n + 1, x2, w =>
    if x2 < 144 then
    if x2 < (w32 ((w (p1 + 1) 5) * 9)) then
    qdv 9 <|
    qdv 9 <|
    (f_O_goesAtOnce p1 (jdiv x2 9) (jrem x2 9) w).bind fun q13 =>
    if q13.1 = 0 then
    f_O_judge_49 p1 (f_O_judge_2 p1 n) x2 0 x2 q13.2
    else
    f_O_judge_49 p1 (f_O_judge_2 p1 n) x2 1 x2 q13.2
    else
    f_O_judge_49 p1 (f_O_judge_2 p1 n) x2 0 x2 w
    else
    f_O_judge_56 p1 w
set_option maxRecDepth 4000 in
theorem s_O_judge_2 {p1 : Nat} (hp1 : qIs kLN 100 p1) : ∀ (n : Nat), ∀ (x2 : Int) (w : qMem), qSim κV 100 100 m_O_judge 2 [] [some (qR 72), some (qR p1), some (qI x2), none, none] w (f_O_judge_2 p1 n x2 w) := by
  intro n
  induction n with
  | zero => intro x2 w; exact z_none
  | succ n ih =>
    intro x2 w
    rw [f_O_judge_2]
    refine z_iload_n d_O_judge_2 rfl ?_
    refine z_sipush d_O_judge_3 ⟨by decide, by decide⟩ ?_
    refine z_icmp_ge (tgt := 56) d_O_judge_6 rfl (fun c11 => ?_) (fun c11 => ?_)
    · refine z_aload_n d_O_judge_9 rfl ?_
      refine z_gr (ci := 4) (j := 0) (d := 1) (o2 := 73) d_O_judge_10 rfl fl_O_9 rfl (Nat.le_of_ble_eq_true rfl) rfl rfl ?_
      refine z_iload_n d_O_judge_13 rfl ?_
      refine z_iload_n d_O_judge_14 rfl ?_
      refine z_aload_n d_O_judge_15 rfl ?_
      refine z_gr (ci := 3) (j := 0) (d := 1) (o2 := (p1 + 1)) d_O_judge_16 rfl fl_O_15 (hp1 0 _ rfl).1 ((hp1 0 _ rfl).2 (Nat.le_of_ble_eq_true rfl)) rfl rfl ?_
      refine z_gi (ci := 0) (j := 5) (ji := 5) d_O_judge_19 rfl fl_O_21 (hp1 1 _ rfl).1 rfl rfl ?_
      refine z_bipush d_O_judge_22 ⟨by decide, by decide⟩ ?_
      refine z_imul d_O_judge_24 ?_
      refine z_icmp_ge (tgt := 48) d_O_judge_25 rfl (fun c12 => ?_) (fun c12 => ?_)
      · refine z_aload_n d_O_judge_28 rfl ?_
        refine z_aload_n d_O_judge_29 rfl ?_
        refine z_iload_n d_O_judge_30 rfl ?_
        refine z_bipush d_O_judge_31 ⟨by decide, by decide⟩ ?_
        refine z_idiv d_O_judge_33 (fun _ => ?_)
        refine z_iload_n d_O_judge_34 rfl ?_
        refine z_bipush d_O_judge_35 ⟨by decide, by decide⟩ ?_
        refine z_irem d_O_judge_37 (fun _ => ?_)
        refine z_cVI (as := [qR p1, qI (jdiv x2 9), qI (jrem x2 9)]) (st := [qI x2, qR 73]) (nl := 1) (ci := 4) d_O_judge_38 lk_O_27 mk_O_goesAtOnce rfl rfl rfl rfl rfl rfl (s_O_goesAtOnce _ _ hp1 _) (fun q13 _ hq13 => ?_)
        refine z_if_eq (tgt := 48) d_O_judge_41 rfl (fun c14 => ?_) (fun c14 => ?_)
        · refine z_ic0 d_O_judge_48 ?_
          refine z_mask [true, true, true, false, false] ?_
          exact s_O_judge_49 hp1 ih _ _ _ _ (Or.inl rfl)
        · refine z_ic1 d_O_judge_44 ?_
          refine z_goto (tgt := 49) d_O_judge_45 rfl ?_
          refine z_mask [true, true, true, false, false] ?_
          exact s_O_judge_49 hp1 ih _ _ _ _ (Or.inr rfl)
      · refine z_ic0 d_O_judge_48 ?_
        refine z_mask [true, true, true, false, false] ?_
        exact s_O_judge_49 hp1 ih _ _ _ _ (Or.inl rfl)
    · refine z_mask [true, true, false, false, false] ?_
      exact s_O_judge_56 hp1 _
def f_O_judge (p1 : Nat) (w : qMem) : Option (qMem) :=
  f_O_judge_2 p1 qFU 0 w
set_option maxRecDepth 4000 in
theorem s_O_judge {p1 : Nat} (hp1 : qIs kLN 100 p1) (w : qMem) : qSim κV 100 100 m_O_judge 0 [] [some (qR 72), some (qR p1), none, none, none] w (f_O_judge p1 w) := by
  unfold f_O_judge
  refine z_ic0 d_O_judge_0 ?_
  refine z_istore_n (pls' := [some (qR 72), some (qR p1), some (qI 0), none, none]) d_O_judge_1 (by decide) rfl rfl ?_
  refine z_mask [true, true, true, false, false] ?_
  exact s_O_judge_2 hp1 _ _ _
/-! BubbleTorus$Outlook.anyGoesOn -/
theorem d_O_anyGoesOn_0 : decode m_O_anyGoesOn.2.1 0 = .ok (.iconst 0, 1) := by decide +kernel
theorem d_O_anyGoesOn_1 : decode m_O_anyGoesOn.2.1 1 = .ok (.istore_n 1, 1) := by decide +kernel
theorem d_O_anyGoesOn_2 : decode m_O_anyGoesOn.2.1 2 = .ok (.iload_n 1, 1) := by decide +kernel
theorem d_O_anyGoesOn_3 : decode m_O_anyGoesOn.2.1 3 = .ok (.sipush 144, 3) := by decide +kernel
theorem d_O_anyGoesOn_6 : decode m_O_anyGoesOn.2.1 6 = .ok (.if_icmp .ge 20, 3) := by decide +kernel
theorem d_O_anyGoesOn_9 : decode m_O_anyGoesOn.2.1 9 = .ok (.aload_n 0, 1) := by decide +kernel
theorem d_O_anyGoesOn_10 : decode m_O_anyGoesOn.2.1 10 = .ok (.getfield 9, 3) := by decide +kernel
theorem d_O_anyGoesOn_13 : decode m_O_anyGoesOn.2.1 13 = .ok (.iload_n 1, 1) := by decide +kernel
theorem d_O_anyGoesOn_14 : decode m_O_anyGoesOn.2.1 14 = .ok (.baload, 1) := by decide +kernel
theorem d_O_anyGoesOn_15 : decode m_O_anyGoesOn.2.1 15 = .ok (.ifCond .eq 5, 3) := by decide +kernel
theorem d_O_anyGoesOn_18 : decode m_O_anyGoesOn.2.1 18 = .ok (.iconst 1, 1) := by decide +kernel
theorem d_O_anyGoesOn_19 : decode m_O_anyGoesOn.2.1 19 = .ok (.ireturn, 1) := by decide +kernel
theorem d_O_anyGoesOn_20 : decode m_O_anyGoesOn.2.1 20 = .ok (.iinc 1 1, 3) := by decide +kernel
theorem d_O_anyGoesOn_23 : decode m_O_anyGoesOn.2.1 23 = .ok (.goto (-21), 3) := by decide +kernel
theorem d_O_anyGoesOn_26 : decode m_O_anyGoesOn.2.1 26 = .ok (.iconst 0, 1) := by decide +kernel
theorem d_O_anyGoesOn_27 : decode m_O_anyGoesOn.2.1 27 = .ok (.ireturn, 1) := by decide +kernel
def f_O_anyGoesOn_2 : Nat → Int → qMem → Option (Int × qMem)
  | 0, _, _ => none
  | n + 1, x1, w =>
    if x1 < 144 then
    qld w 73 144 x1 fun v2 =>
    if v2 = 0 then
    (f_O_anyGoesOn_2 n) (w32 (x1 + 1)) w
    else
    some (1, w)
    else
    some (0, w)
set_option maxRecDepth 4000 in
theorem s_O_anyGoesOn_2  : ∀ (n : Nat), ∀ (x1 : Int) (w : qMem), qSim κI 100 100 m_O_anyGoesOn 2 [] [some (qR 72), some (qI x1)] w (f_O_anyGoesOn_2 n x1 w) := by
  intro n
  induction n with
  | zero => intro x1 w; exact z_none
  | succ n ih =>
    intro x1 w
    rw [f_O_anyGoesOn_2]
    refine z_iload_n d_O_anyGoesOn_2 rfl ?_
    refine z_sipush d_O_anyGoesOn_3 ⟨by decide, by decide⟩ ?_
    refine z_icmp_ge (tgt := 26) d_O_anyGoesOn_6 rfl (fun c1 => ?_) (fun c1 => ?_)
    · refine z_aload_n d_O_anyGoesOn_9 rfl ?_
      refine z_gr (ci := 4) (j := 0) (d := 1) (o2 := 73) d_O_anyGoesOn_10 rfl fl_O_9 rfl (Nat.le_of_ble_eq_true rfl) rfl rfl ?_
      refine z_iload_n d_O_anyGoesOn_13 rfl ?_
      refine z_zl d_O_anyGoesOn_14 rfl rfl (fun v2 hz3 => ?_)
      refine z_if_eq (tgt := 20) d_O_anyGoesOn_15 rfl (fun c4 => ?_) (fun c4 => ?_)
      · refine z_iinc (pls' := [some (qR 72), some (qI (w32 (x1 + 1)))]) d_O_anyGoesOn_20 (by decide) rfl rfl rfl ?_
        refine z_goto (tgt := 2) d_O_anyGoesOn_23 rfl ?_
        refine z_mask [true, true] ?_
        exact ih _ _
      · refine z_ic1 d_O_anyGoesOn_18 ?_
        exact z_zret d_O_anyGoesOn_19 rfl rfl (Or.inr rfl)
    · refine z_ic0 d_O_anyGoesOn_26 ?_
      exact z_zret d_O_anyGoesOn_27 rfl rfl (Or.inl rfl)
def f_O_anyGoesOn (w : qMem) : Option (Int × qMem) :=
  f_O_anyGoesOn_2 qFU 0 w
set_option maxRecDepth 4000 in
theorem s_O_anyGoesOn (w : qMem) : qSim κI 100 100 m_O_anyGoesOn 0 [] [some (qR 72), none] w (f_O_anyGoesOn w) := by
  unfold f_O_anyGoesOn
  refine z_ic0 d_O_anyGoesOn_0 ?_
  refine z_istore_n (pls' := [some (qR 72), some (qI 0)]) d_O_anyGoesOn_1 (by decide) rfl rfl ?_
  refine z_mask [true, true] ?_
  exact s_O_anyGoesOn_2 _ _ _
/-! BubbleTorus$Outlook.held -/
theorem d_O_held_0 : decode m_O_held.2.1 0 = .ok (.iconst 0, 1) := by decide +kernel
theorem d_O_held_1 : decode m_O_held.2.1 1 = .ok (.istore_n 2, 1) := by decide +kernel
theorem d_O_held_2 : decode m_O_held.2.1 2 = .ok (.iconst 0, 1) := by decide +kernel
theorem d_O_held_3 : decode m_O_held.2.1 3 = .ok (.istore_n 3, 1) := by decide +kernel
theorem d_O_held_4 : decode m_O_held.2.1 4 = .ok (.iload_n 3, 1) := by decide +kernel
theorem d_O_held_5 : decode m_O_held.2.1 5 = .ok (.sipush 144, 3) := by decide +kernel
theorem d_O_held_8 : decode m_O_held.2.1 8 = .ok (.if_icmp .ge 30, 3) := by decide +kernel
theorem d_O_held_11 : decode m_O_held.2.1 11 = .ok (.aload_n 0, 1) := by decide +kernel
theorem d_O_held_12 : decode m_O_held.2.1 12 = .ok (.getfield 9, 3) := by decide +kernel
theorem d_O_held_15 : decode m_O_held.2.1 15 = .ok (.iload_n 3, 1) := by decide +kernel
theorem d_O_held_16 : decode m_O_held.2.1 16 = .ok (.baload, 1) := by decide +kernel
theorem d_O_held_17 : decode m_O_held.2.1 17 = .ok (.ifCond .ne 15, 3) := by decide +kernel
theorem d_O_held_20 : decode m_O_held.2.1 20 = .ok (.iload_n 2, 1) := by decide +kernel
theorem d_O_held_21 : decode m_O_held.2.1 21 = .ok (.aload_n 1, 1) := by decide +kernel
theorem d_O_held_22 : decode m_O_held.2.1 22 = .ok (.getfield 72, 3) := by decide +kernel
theorem d_O_held_25 : decode m_O_held.2.1 25 = .ok (.getfield 76, 3) := by decide +kernel
theorem d_O_held_28 : decode m_O_held.2.1 28 = .ok (.iload_n 3, 1) := by decide +kernel
theorem d_O_held_29 : decode m_O_held.2.1 29 = .ok (.iaload, 1) := by decide +kernel
theorem d_O_held_30 : decode m_O_held.2.1 30 = .ok (.iadd, 1) := by decide +kernel
theorem d_O_held_31 : decode m_O_held.2.1 31 = .ok (.istore_n 2, 1) := by decide +kernel
theorem d_O_held_32 : decode m_O_held.2.1 32 = .ok (.iinc 3 1, 3) := by decide +kernel
theorem d_O_held_35 : decode m_O_held.2.1 35 = .ok (.goto (-31), 3) := by decide +kernel
theorem d_O_held_38 : decode m_O_held.2.1 38 = .ok (.iload_n 2, 1) := by decide +kernel
theorem d_O_held_39 : decode m_O_held.2.1 39 = .ok (.ireturn, 1) := by decide +kernel
def f_O_held_4 (p1 : Nat) : Nat → Int → Int → qMem → Option (Int × qMem)
  | 0, _, _, _ => none
  | n + 1, x2, x3, w =>
    if x3 < 144 then
    qld w 73 144 x3 fun v2 =>
    if v2 = 0 then
    qld w (p1 + 20) 144 x3 fun v5 =>
    (f_O_held_4 p1 n) (w32 (x2 + v5)) (w32 (x3 + 1)) w
    else
    (f_O_held_4 p1 n) x2 (w32 (x3 + 1)) w
    else
    some (x2, w)
set_option maxRecDepth 4000 in
theorem s_O_held_4 {p1 : Nat} (hp1 : qIs kLN 100 p1) : ∀ (n : Nat), ∀ (x2 x3 : Int) (w : qMem), qSim κI 100 100 m_O_held 4 [] [some (qR 72), some (qR p1), some (qI x2), some (qI x3)] w (f_O_held_4 p1 n x2 x3 w) := by
  intro n
  induction n with
  | zero => intro x2 x3 w; exact z_none
  | succ n ih =>
    intro x2 x3 w
    rw [f_O_held_4]
    refine z_iload_n d_O_held_4 rfl ?_
    refine z_sipush d_O_held_5 ⟨by decide, by decide⟩ ?_
    refine z_icmp_ge (tgt := 38) d_O_held_8 rfl (fun c1 => ?_) (fun c1 => ?_)
    · refine z_aload_n d_O_held_11 rfl ?_
      refine z_gr (ci := 4) (j := 0) (d := 1) (o2 := 73) d_O_held_12 rfl fl_O_9 rfl (Nat.le_of_ble_eq_true rfl) rfl rfl ?_
      refine z_iload_n d_O_held_15 rfl ?_
      refine z_zl d_O_held_16 rfl rfl (fun v2 hz3 => ?_)
      refine z_if_ne (tgt := 32) d_O_held_17 rfl (fun c4 => ?_) (fun c4 => ?_)
      · refine z_iload_n d_O_held_20 rfl ?_
        refine z_aload_n d_O_held_21 rfl ?_
        refine z_gr (ci := 3) (j := 2) (d := 19) (o2 := (p1 + 19)) d_O_held_22 rfl fl_O_72 (hp1 0 _ rfl).1 ((hp1 0 _ rfl).2 (Nat.le_of_ble_eq_true rfl)) rfl rfl ?_
        refine z_gr (ci := 6) (j := 0) (d := 1) (o2 := (p1 + 20)) d_O_held_25 rfl fl_O_76 (hp1 19 _ rfl).1 ((hp1 19 _ rfl).2 (Nat.le_of_ble_eq_true rfl)) rfl rfl ?_
        refine z_iload_n d_O_held_28 rfl ?_
        refine z_il d_O_held_29 (hp1 20 _ rfl).1 rfl (fun v5 => ?_)
        refine z_iadd d_O_held_30 ?_
        refine z_istore_n (pls' := [some (qR 72), some (qR p1), some (qI (w32 (x2 + v5))), some (qI x3)]) d_O_held_31 (by decide) rfl rfl ?_
        refine z_iinc (pls' := [some (qR 72), some (qR p1), some (qI (w32 (x2 + v5))), some (qI (w32 (x3 + 1)))]) d_O_held_32 (by decide) rfl rfl rfl ?_
        refine z_goto (tgt := 4) d_O_held_35 rfl ?_
        refine z_mask [true, true, true, true] ?_
        exact ih _ _ _
      · refine z_iinc (pls' := [some (qR 72), some (qR p1), some (qI x2), some (qI (w32 (x3 + 1)))]) d_O_held_32 (by decide) rfl rfl rfl ?_
        refine z_goto (tgt := 4) d_O_held_35 rfl ?_
        refine z_mask [true, true, true, true] ?_
        exact ih _ _ _
    · refine z_iload_n d_O_held_38 rfl ?_
      exact z_iret d_O_held_39 rfl rfl
def f_O_held (p1 : Nat) (w : qMem) : Option (Int × qMem) :=
  f_O_held_4 p1 qFU 0 0 w
set_option maxRecDepth 4000 in
theorem s_O_held {p1 : Nat} (hp1 : qIs kLN 100 p1) (w : qMem) : qSim κI 100 100 m_O_held 0 [] [some (qR 72), some (qR p1), none, none] w (f_O_held p1 w) := by
  unfold f_O_held
  refine z_ic0 d_O_held_0 ?_
  refine z_istore_n (pls' := [some (qR 72), some (qR p1), some (qI 0), none]) d_O_held_1 (by decide) rfl rfl ?_
  refine z_ic0 d_O_held_2 ?_
  refine z_istore_n (pls' := [some (qR 72), some (qR p1), some (qI 0), some (qI 0)]) d_O_held_3 (by decide) rfl rfl ?_
  refine z_mask [true, true, true, true] ?_
  exact s_O_held_4 hp1 _ _ _ _
/-! BubbleTorus$Search.findLeft -/
theorem d_S_findLeft_0 : decode m_S_findLeft.2.1 0 = .ok (.aload_n 0, 1) := by decide +kernel
theorem d_S_findLeft_1 : decode m_S_findLeft.2.1 1 = .ok (.iconst 0, 1) := by decide +kernel
theorem d_S_findLeft_2 : decode m_S_findLeft.2.1 2 = .ok (.putfield 31, 3) := by decide +kernel
theorem d_S_findLeft_5 : decode m_S_findLeft.2.1 5 = .ok (.aload_n 0, 1) := by decide +kernel
theorem d_S_findLeft_6 : decode m_S_findLeft.2.1 6 = .ok (.getfield 22, 3) := by decide +kernel
theorem d_S_findLeft_9 : decode m_S_findLeft.2.1 9 = .ok (.sipush 144, 3) := by decide +kernel
theorem d_S_findLeft_12 : decode m_S_findLeft.2.1 12 = .ok (.invokestatic 60, 3) := by decide +kernel
theorem d_S_findLeft_15 : decode m_S_findLeft.2.1 15 = .ok (.iconst 0, 1) := by decide +kernel
theorem d_S_findLeft_16 : decode m_S_findLeft.2.1 16 = .ok (.istore_n 2, 1) := by decide +kernel
theorem d_S_findLeft_17 : decode m_S_findLeft.2.1 17 = .ok (.iload_n 2, 1) := by decide +kernel
theorem d_S_findLeft_18 : decode m_S_findLeft.2.1 18 = .ok (.aload_n 1, 1) := by decide +kernel
theorem d_S_findLeft_19 : decode m_S_findLeft.2.1 19 = .ok (.getfield 45, 3) := by decide +kernel
theorem d_S_findLeft_22 : decode m_S_findLeft.2.1 22 = .ok (.getfield 80, 3) := by decide +kernel
theorem d_S_findLeft_25 : decode m_S_findLeft.2.1 25 = .ok (.if_icmp .ge 62, 3) := by decide +kernel
theorem d_S_findLeft_28 : decode m_S_findLeft.2.1 28 = .ok (.aload_n 0, 1) := by decide +kernel
theorem d_S_findLeft_29 : decode m_S_findLeft.2.1 29 = .ok (.getfield 31, 3) := by decide +kernel
theorem d_S_findLeft_32 : decode m_S_findLeft.2.1 32 = .ok (.iconst 3, 1) := by decide +kernel
theorem d_S_findLeft_33 : decode m_S_findLeft.2.1 33 = .ok (.if_icmp .ge 54, 3) := by decide +kernel
theorem d_S_findLeft_36 : decode m_S_findLeft.2.1 36 = .ok (.aload_n 1, 1) := by decide +kernel
theorem d_S_findLeft_37 : decode m_S_findLeft.2.1 37 = .ok (.getfield 45, 3) := by decide +kernel
theorem d_S_findLeft_40 : decode m_S_findLeft.2.1 40 = .ok (.iload_n 2, 1) := by decide +kernel
theorem d_S_findLeft_41 : decode m_S_findLeft.2.1 41 = .ok (.invokevirtual 81, 3) := by decide +kernel
theorem d_S_findLeft_44 : decode m_S_findLeft.2.1 44 = .ok (.ifCond .ne 37, 3) := by decide +kernel
theorem d_S_findLeft_47 : decode m_S_findLeft.2.1 47 = .ok (.aload_n 0, 1) := by decide +kernel
theorem d_S_findLeft_48 : decode m_S_findLeft.2.1 48 = .ok (.getfield 19, 3) := by decide +kernel
theorem d_S_findLeft_51 : decode m_S_findLeft.2.1 51 = .ok (.aload_n 0, 1) := by decide +kernel
theorem d_S_findLeft_52 : decode m_S_findLeft.2.1 52 = .ok (.getfield 31, 3) := by decide +kernel
theorem d_S_findLeft_55 : decode m_S_findLeft.2.1 55 = .ok (.iload_n 2, 1) := by decide +kernel
theorem d_S_findLeft_56 : decode m_S_findLeft.2.1 56 = .ok (.iastore, 1) := by decide +kernel
theorem d_S_findLeft_57 : decode m_S_findLeft.2.1 57 = .ok (.aload_n 0, 1) := by decide +kernel
theorem d_S_findLeft_58 : decode m_S_findLeft.2.1 58 = .ok (.getfield 22, 3) := by decide +kernel
theorem d_S_findLeft_61 : decode m_S_findLeft.2.1 61 = .ok (.aload_n 0, 1) := by decide +kernel
theorem d_S_findLeft_62 : decode m_S_findLeft.2.1 62 = .ok (.getfield 31, 3) := by decide +kernel
theorem d_S_findLeft_65 : decode m_S_findLeft.2.1 65 = .ok (.aload_n 1, 1) := by decide +kernel
theorem d_S_findLeft_66 : decode m_S_findLeft.2.1 66 = .ok (.iload_n 2, 1) := by decide +kernel
theorem d_S_findLeft_67 : decode m_S_findLeft.2.1 67 = .ok (.invokevirtual 85, 3) := by decide +kernel
theorem d_S_findLeft_70 : decode m_S_findLeft.2.1 70 = .ok (.iastore, 1) := by decide +kernel
theorem d_S_findLeft_71 : decode m_S_findLeft.2.1 71 = .ok (.aload_n 0, 1) := by decide +kernel
theorem d_S_findLeft_72 : decode m_S_findLeft.2.1 72 = .ok (.dup, 1) := by decide +kernel
theorem d_S_findLeft_73 : decode m_S_findLeft.2.1 73 = .ok (.getfield 31, 3) := by decide +kernel
theorem d_S_findLeft_76 : decode m_S_findLeft.2.1 76 = .ok (.iconst 1, 1) := by decide +kernel
theorem d_S_findLeft_77 : decode m_S_findLeft.2.1 77 = .ok (.iadd, 1) := by decide +kernel
theorem d_S_findLeft_78 : decode m_S_findLeft.2.1 78 = .ok (.putfield 31, 3) := by decide +kernel
theorem d_S_findLeft_81 : decode m_S_findLeft.2.1 81 = .ok (.iinc 2 1, 3) := by decide +kernel
theorem d_S_findLeft_84 : decode m_S_findLeft.2.1 84 = .ok (.goto (-67), 3) := by decide +kernel
theorem d_S_findLeft_87 : decode m_S_findLeft.2.1 87 = .ok (.return_, 1) := by decide +kernel
def f_S_findLeft_17 (p1 : Nat) : Nat → Int → qMem → Option (qMem)
  | 0, _, _ => none
  | n + 1, x2, w =>
    if x2 < (w (p1 + 5) 13) then
    if (w 74 6) < 3 then
    (f_P_isDelivered (p1 + 5) x2 w).bind fun q3 =>
    if q3.1 = 0 then
    qst q3.2 77 3 (q3.2 74 6) x2 fun w5 =>
    (f_N_queueOf p1 x2 w5).bind fun q6 =>
    qst q6.2 78 3 (w5 74 6) q6.1 fun w7 =>
    qlt (qud w7 74 6 (w32 ((w7 74 6) + 1))) fun w8 =>
    (f_S_findLeft_17 p1 n) (w32 (x2 + 1)) w8
    else
    (f_S_findLeft_17 p1 n) (w32 (x2 + 1)) q3.2
    else
    some w
    else
    some w
set_option maxRecDepth 4000 in
theorem s_S_findLeft_17 {p1 : Nat} (hp1 : qIs kLN 100 p1) : ∀ (n : Nat), ∀ (x2 : Int) (w : qMem), qSim κV 100 100 m_S_findLeft 17 [] [some (qR 74), some (qR p1), some (qI x2)] w (f_S_findLeft_17 p1 n x2 w) := by
  intro n
  induction n with
  | zero => intro x2 w; exact z_none
  | succ n ih =>
    intro x2 w
    rw [f_S_findLeft_17]
    refine z_iload_n d_S_findLeft_17 rfl ?_
    refine z_aload_n d_S_findLeft_18 rfl ?_
    refine z_gr (ci := 3) (j := 1) (d := 5) (o2 := (p1 + 5)) d_S_findLeft_19 rfl fl_S_45 (hp1 0 _ rfl).1 ((hp1 0 _ rfl).2 (Nat.le_of_ble_eq_true rfl)) rfl rfl ?_
    refine z_gi (ci := 5) (j := 13) (ji := 13) d_S_findLeft_22 rfl fl_S_80 (hp1 5 _ rfl).1 rfl rfl ?_
    refine z_icmp_ge (tgt := 87) d_S_findLeft_25 rfl (fun c1 => ?_) (fun c1 => ?_)
    · refine z_aload_n d_S_findLeft_28 rfl ?_
      refine z_gi (ci := 8) (j := 6) (ji := 6) d_S_findLeft_29 rfl fl_S_31 rfl rfl rfl ?_
      refine z_ic3 d_S_findLeft_32 ?_
      refine z_icmp_ge (tgt := 87) d_S_findLeft_33 rfl (fun c2 => ?_) (fun c2 => ?_)
      · refine z_aload_n d_S_findLeft_36 rfl ?_
        refine z_gr (ci := 3) (j := 1) (d := 5) (o2 := (p1 + 5)) d_S_findLeft_37 rfl fl_S_45 (hp1 0 _ rfl).1 ((hp1 0 _ rfl).2 (Nat.le_of_ble_eq_true rfl)) rfl rfl ?_
        refine z_iload_n d_S_findLeft_40 rfl ?_
        refine z_cVI (as := [qI x2]) (st := []) (nl := 0) (ci := 5) d_S_findLeft_41 lk_S_81 mk_P_isDelivered rfl rfl (hp1 5 _ rfl).1 rfl rfl rfl (s_P_isDelivered _ (is_N_P hp1) _) (fun q3 _ hq3 => ?_)
        refine z_if_ne (tgt := 81) d_S_findLeft_44 rfl (fun c4 => ?_) (fun c4 => ?_)
        · refine z_aload_n d_S_findLeft_47 rfl ?_
          refine z_gr (ci := 8) (j := 2) (d := 3) (o2 := 77) d_S_findLeft_48 rfl fl_S_19 rfl (Nat.le_of_ble_eq_true rfl) rfl rfl ?_
          refine z_aload_n d_S_findLeft_51 rfl ?_
          refine z_gi (ci := 8) (j := 6) (ji := 6) d_S_findLeft_52 rfl fl_S_31 rfl rfl rfl ?_
          refine z_iload_n d_S_findLeft_55 rfl ?_
          refine z_is d_S_findLeft_56 rfl rfl (fun w5 => ?_)
          refine z_aload_n d_S_findLeft_57 rfl ?_
          refine z_gr (ci := 8) (j := 3) (d := 4) (o2 := 78) d_S_findLeft_58 rfl fl_S_22 rfl (Nat.le_of_ble_eq_true rfl) rfl rfl ?_
          refine z_aload_n d_S_findLeft_61 rfl ?_
          refine z_gi (ci := 8) (j := 6) (ji := 6) d_S_findLeft_62 rfl fl_S_31 rfl rfl rfl ?_
          refine z_aload_n d_S_findLeft_65 rfl ?_
          refine z_iload_n d_S_findLeft_66 rfl ?_
          refine z_cVI (as := [qI x2]) (st := [qI (w5 74 6), qR 78]) (nl := 1) (ci := 3) d_S_findLeft_67 lk_S_85 mk_N_queueOf rfl rfl (hp1 0 _ rfl).1 rfl rfl rfl (s_N_queueOf _ hp1 _) (fun q6 _ hq6 => ?_)
          refine z_is d_S_findLeft_70 rfl rfl (fun w7 => ?_)
          refine z_aload_n d_S_findLeft_71 rfl ?_
          refine z_dup d_S_findLeft_72 rfl ?_
          refine z_gi (ci := 8) (j := 6) (ji := 6) d_S_findLeft_73 rfl fl_S_31 rfl rfl rfl ?_
          refine z_ic1 d_S_findLeft_76 ?_
          refine z_iadd d_S_findLeft_77 ?_
          refine z_pi (ci := 8) (j := 6) (ji := 6) d_S_findLeft_78 rfl fl_S_31 rfl rfl rfl rfl rfl (fun w8 => ?_)
          refine z_iinc (pls' := [some (qR 74), some (qR p1), some (qI (w32 (x2 + 1)))]) d_S_findLeft_81 (by decide) rfl rfl rfl ?_
          refine z_goto (tgt := 17) d_S_findLeft_84 rfl ?_
          refine z_mask [true, true, true] ?_
          exact ih _ _
        · refine z_iinc (pls' := [some (qR 74), some (qR p1), some (qI (w32 (x2 + 1)))]) d_S_findLeft_81 (by decide) rfl rfl rfl ?_
          refine z_goto (tgt := 17) d_S_findLeft_84 rfl ?_
          refine z_mask [true, true, true] ?_
          exact ih _ _
      · exact z_vret d_S_findLeft_87 rfl rfl
    · exact z_vret d_S_findLeft_87 rfl rfl
def f_S_findLeft (p1 : Nat) (w : qMem) : Option (qMem) :=
  qlt (qud w 74 6 0) fun w9 =>
  (f_JA_fill 78 3 144 w9).bind fun q10 =>
  f_S_findLeft_17 p1 qFU 0 q10
set_option maxRecDepth 4000 in
theorem s_S_findLeft {p1 : Nat} (hp1 : qIs kLN 100 p1) (w : qMem) : qSim κV 100 100 m_S_findLeft 0 [] [some (qR 74), some (qR p1), none] w (f_S_findLeft p1 w) := by
  unfold f_S_findLeft
  refine z_aload_n d_S_findLeft_0 rfl ?_
  refine z_ic0 d_S_findLeft_1 ?_
  refine z_pi (ci := 8) (j := 6) (ji := 6) d_S_findLeft_2 rfl fl_S_31 rfl rfl rfl rfl rfl (fun w9 => ?_)
  refine z_aload_n d_S_findLeft_5 rfl ?_
  refine z_gr (ci := 8) (j := 3) (d := 4) (o2 := 78) d_S_findLeft_6 rfl fl_S_22 rfl (Nat.le_of_ble_eq_true rfl) rfl rfl ?_
  refine z_sipush d_S_findLeft_9 ⟨by decide, by decide⟩ ?_
  refine z_cSV (av := [qR 78, qI 144]) (st := []) (nl := 2) d_S_findLeft_12 lk_S_60 mk_JA_fill rfl rfl rfl (s_JA_fill _ rfl rfl (by decide) _) (fun q10 _ => ?_)
  refine z_ic0 d_S_findLeft_15 ?_
  refine z_istore_n (pls' := [some (qR 74), some (qR p1), some (qI 0)]) d_S_findLeft_16 (by decide) rfl rfl ?_
  refine z_mask [true, true, true] ?_
  exact s_S_findLeft_17 hp1 _ _ _
/-! BubbleTorus$Search.keyOf -/
theorem d_S_keyOf_0 : decode m_S_keyOf.2.1 0 = .ok (.lconst 0, 1) := by decide +kernel
theorem d_S_keyOf_1 : decode m_S_keyOf.2.1 1 = .ok (.lstore_n 2, 1) := by decide +kernel
theorem d_S_keyOf_2 : decode m_S_keyOf.2.1 2 = .ok (.iconst 0, 1) := by decide +kernel
theorem d_S_keyOf_3 : decode m_S_keyOf.2.1 3 = .ok (.istore 4, 2) := by decide +kernel
theorem d_S_keyOf_5 : decode m_S_keyOf.2.1 5 = .ok (.iload 4, 2) := by decide +kernel
theorem d_S_keyOf_7 : decode m_S_keyOf.2.1 7 = .ok (.iconst 3, 1) := by decide +kernel
theorem d_S_keyOf_8 : decode m_S_keyOf.2.1 8 = .ok (.if_icmp .ge 71, 3) := by decide +kernel
theorem d_S_keyOf_11 : decode m_S_keyOf.2.1 11 = .ok (.aload_n 0, 1) := by decide +kernel
theorem d_S_keyOf_12 : decode m_S_keyOf.2.1 12 = .ok (.getfield 22, 3) := by decide +kernel
theorem d_S_keyOf_15 : decode m_S_keyOf.2.1 15 = .ok (.iload 4, 2) := by decide +kernel
theorem d_S_keyOf_17 : decode m_S_keyOf.2.1 17 = .ok (.iaload, 1) := by decide +kernel
theorem d_S_keyOf_18 : decode m_S_keyOf.2.1 18 = .ok (.sipush 144, 3) := by decide +kernel
theorem d_S_keyOf_21 : decode m_S_keyOf.2.1 21 = .ok (.if_icmp .ne 7, 3) := by decide +kernel
theorem d_S_keyOf_24 : decode m_S_keyOf.2.1 24 = .ok (.iconst 0, 1) := by decide +kernel
theorem d_S_keyOf_25 : decode m_S_keyOf.2.1 25 = .ok (.goto 24, 3) := by decide +kernel
theorem d_S_keyOf_28 : decode m_S_keyOf.2.1 28 = .ok (.aload_n 1, 1) := by decide +kernel
theorem d_S_keyOf_29 : decode m_S_keyOf.2.1 29 = .ok (.getfield 89, 3) := by decide +kernel
theorem d_S_keyOf_32 : decode m_S_keyOf.2.1 32 = .ok (.aload_n 0, 1) := by decide +kernel
theorem d_S_keyOf_33 : decode m_S_keyOf.2.1 33 = .ok (.getfield 22, 3) := by decide +kernel
theorem d_S_keyOf_36 : decode m_S_keyOf.2.1 36 = .ok (.iload 4, 2) := by decide +kernel
theorem d_S_keyOf_38 : decode m_S_keyOf.2.1 38 = .ok (.iaload, 1) := by decide +kernel
theorem d_S_keyOf_39 : decode m_S_keyOf.2.1 39 = .ok (.aload_n 0, 1) := by decide +kernel
theorem d_S_keyOf_40 : decode m_S_keyOf.2.1 40 = .ok (.getfield 19, 3) := by decide +kernel
theorem d_S_keyOf_43 : decode m_S_keyOf.2.1 43 = .ok (.iload 4, 2) := by decide +kernel
theorem d_S_keyOf_45 : decode m_S_keyOf.2.1 45 = .ok (.iaload, 1) := by decide +kernel
theorem d_S_keyOf_46 : decode m_S_keyOf.2.1 46 = .ok (.invokevirtual 139, 3) := by decide +kernel
theorem d_S_keyOf_49 : decode m_S_keyOf.2.1 49 = .ok (.istore 5, 2) := by decide +kernel
theorem d_S_keyOf_51 : decode m_S_keyOf.2.1 51 = .ok (.lload_n 2, 1) := by decide +kernel
theorem d_S_keyOf_52 : decode m_S_keyOf.2.1 52 = .ok (.bipush 10, 2) := by decide +kernel
theorem d_S_keyOf_54 : decode m_S_keyOf.2.1 54 = .ok (.lshl, 1) := by decide +kernel
theorem d_S_keyOf_55 : decode m_S_keyOf.2.1 55 = .ok (.aload_n 0, 1) := by decide +kernel
theorem d_S_keyOf_56 : decode m_S_keyOf.2.1 56 = .ok (.getfield 22, 3) := by decide +kernel
theorem d_S_keyOf_59 : decode m_S_keyOf.2.1 59 = .ok (.iload 4, 2) := by decide +kernel
theorem d_S_keyOf_61 : decode m_S_keyOf.2.1 61 = .ok (.iaload, 1) := by decide +kernel
theorem d_S_keyOf_62 : decode m_S_keyOf.2.1 62 = .ok (.iconst 2, 1) := by decide +kernel
theorem d_S_keyOf_63 : decode m_S_keyOf.2.1 63 = .ok (.ishl, 1) := by decide +kernel
theorem d_S_keyOf_64 : decode m_S_keyOf.2.1 64 = .ok (.i2l, 1) := by decide +kernel
theorem d_S_keyOf_65 : decode m_S_keyOf.2.1 65 = .ok (.lor, 1) := by decide +kernel
theorem d_S_keyOf_66 : decode m_S_keyOf.2.1 66 = .ok (.iload 5, 2) := by decide +kernel
theorem d_S_keyOf_68 : decode m_S_keyOf.2.1 68 = .ok (.iconst 3, 1) := by decide +kernel
theorem d_S_keyOf_69 : decode m_S_keyOf.2.1 69 = .ok (.iand, 1) := by decide +kernel
theorem d_S_keyOf_70 : decode m_S_keyOf.2.1 70 = .ok (.i2l, 1) := by decide +kernel
theorem d_S_keyOf_71 : decode m_S_keyOf.2.1 71 = .ok (.lor, 1) := by decide +kernel
theorem d_S_keyOf_72 : decode m_S_keyOf.2.1 72 = .ok (.lstore_n 2, 1) := by decide +kernel
theorem d_S_keyOf_73 : decode m_S_keyOf.2.1 73 = .ok (.iinc 4 1, 3) := by decide +kernel
theorem d_S_keyOf_76 : decode m_S_keyOf.2.1 76 = .ok (.goto (-71), 3) := by decide +kernel
theorem d_S_keyOf_79 : decode m_S_keyOf.2.1 79 = .ok (.iconst 0, 1) := by decide +kernel
theorem d_S_keyOf_80 : decode m_S_keyOf.2.1 80 = .ok (.istore 4, 2) := by decide +kernel
theorem d_S_keyOf_82 : decode m_S_keyOf.2.1 82 = .ok (.iload 4, 2) := by decide +kernel
theorem d_S_keyOf_84 : decode m_S_keyOf.2.1 84 = .ok (.bipush 16, 2) := by decide +kernel
theorem d_S_keyOf_86 : decode m_S_keyOf.2.1 86 = .ok (.if_icmp .ge 60, 3) := by decide +kernel
theorem d_S_keyOf_89 : decode m_S_keyOf.2.1 89 = .ok (.iconst 0, 1) := by decide +kernel
theorem d_S_keyOf_90 : decode m_S_keyOf.2.1 90 = .ok (.istore 5, 2) := by decide +kernel
theorem d_S_keyOf_92 : decode m_S_keyOf.2.1 92 = .ok (.iload 4, 2) := by decide +kernel
theorem d_S_keyOf_94 : decode m_S_keyOf.2.1 94 = .ok (.aload_n 1, 1) := by decide +kernel
theorem d_S_keyOf_95 : decode m_S_keyOf.2.1 95 = .ok (.getfield 113, 3) := by decide +kernel
theorem d_S_keyOf_98 : decode m_S_keyOf.2.1 98 = .ok (.getfield 142, 3) := by decide +kernel
theorem d_S_keyOf_101 : decode m_S_keyOf.2.1 101 = .ok (.if_icmp .ge 31, 3) := by decide +kernel
theorem d_S_keyOf_104 : decode m_S_keyOf.2.1 104 = .ok (.aload_n 1, 1) := by decide +kernel
theorem d_S_keyOf_105 : decode m_S_keyOf.2.1 105 = .ok (.getfield 113, 3) := by decide +kernel
theorem d_S_keyOf_108 : decode m_S_keyOf.2.1 108 = .ok (.aload_n 1, 1) := by decide +kernel
theorem d_S_keyOf_109 : decode m_S_keyOf.2.1 109 = .ok (.getfield 145, 3) := by decide +kernel
theorem d_S_keyOf_112 : decode m_S_keyOf.2.1 112 = .ok (.getfield 148, 3) := by decide +kernel
theorem d_S_keyOf_115 : decode m_S_keyOf.2.1 115 = .ok (.iload 4, 2) := by decide +kernel
theorem d_S_keyOf_117 : decode m_S_keyOf.2.1 117 = .ok (.iaload, 1) := by decide +kernel
theorem d_S_keyOf_118 : decode m_S_keyOf.2.1 118 = .ok (.aload_n 1, 1) := by decide +kernel
theorem d_S_keyOf_119 : decode m_S_keyOf.2.1 119 = .ok (.getfield 113, 3) := by decide +kernel
theorem d_S_keyOf_122 : decode m_S_keyOf.2.1 122 = .ok (.iload 4, 2) := by decide +kernel
theorem d_S_keyOf_124 : decode m_S_keyOf.2.1 124 = .ok (.invokevirtual 153, 3) := by decide +kernel
theorem d_S_keyOf_127 : decode m_S_keyOf.2.1 127 = .ok (.invokevirtual 156, 3) := by decide +kernel
theorem d_S_keyOf_130 : decode m_S_keyOf.2.1 130 = .ok (.istore 5, 2) := by decide +kernel
theorem d_S_keyOf_132 : decode m_S_keyOf.2.1 132 = .ok (.lload_n 2, 1) := by decide +kernel
theorem d_S_keyOf_133 : decode m_S_keyOf.2.1 133 = .ok (.iconst 2, 1) := by decide +kernel
theorem d_S_keyOf_134 : decode m_S_keyOf.2.1 134 = .ok (.lshl, 1) := by decide +kernel
theorem d_S_keyOf_135 : decode m_S_keyOf.2.1 135 = .ok (.iload 5, 2) := by decide +kernel
theorem d_S_keyOf_137 : decode m_S_keyOf.2.1 137 = .ok (.i2l, 1) := by decide +kernel
theorem d_S_keyOf_138 : decode m_S_keyOf.2.1 138 = .ok (.lor, 1) := by decide +kernel
theorem d_S_keyOf_139 : decode m_S_keyOf.2.1 139 = .ok (.lstore_n 2, 1) := by decide +kernel
theorem d_S_keyOf_140 : decode m_S_keyOf.2.1 140 = .ok (.iinc 4 1, 3) := by decide +kernel
theorem d_S_keyOf_143 : decode m_S_keyOf.2.1 143 = .ok (.goto (-61), 3) := by decide +kernel
theorem d_S_keyOf_146 : decode m_S_keyOf.2.1 146 = .ok (.lload_n 2, 1) := by decide +kernel
theorem d_S_keyOf_147 : decode m_S_keyOf.2.1 147 = .ok (.lreturn, 1) := by decide +kernel
def f_S_keyOf_49 (p1 : Nat) (r5 : Int → Int → qMem → Option (Int × qMem)) (s0 x2 x4 : Int) (w : qMem) : Option (Int × qMem) :=
  qld w 78 3 x4 fun v1 =>
  r5 (klor (klor (klshl x2 10) (ki2l (jshl v1 2))) (ki2l (jand s0 3))) (w32 (x4 + 1)) w
set_option maxRecDepth 4000 in
theorem s_S_keyOf_49 {p1 : Nat} (hp1 : qIs kLN 100 p1) {r5 : Int → Int → qMem → Option (Int × qMem)} (hr5 : ∀ x2 x4 w, qSim κL 100 100 m_S_keyOf 5 [] [some (qR 74), some (qR p1), some (qL x2), none, some (qI x4), none] w (r5 x2 x4 w)) : ∀ (s0 x2 x4 : Int) (w : qMem), qSim κL 100 100 m_S_keyOf 49 [qI s0] [some (qR 74), some (qR p1), some (qL x2), none, some (qI x4), none] w (f_S_keyOf_49 p1 r5 s0 x2 x4 w) := by
  intro s0 x2 x4 w
  unfold f_S_keyOf_49
  refine z_istore (pls' := [some (qR 74), some (qR p1), some (qL x2), none, some (qI x4), some (qI s0)]) d_S_keyOf_49 (by decide) rfl rfl ?_
  refine z_lload_n d_S_keyOf_51 rfl ?_
  refine z_bipush d_S_keyOf_52 ⟨by decide, by decide⟩ ?_
  refine z_lshl d_S_keyOf_54 ?_
  refine z_aload_n d_S_keyOf_55 rfl ?_
  refine z_gr (ci := 8) (j := 3) (d := 4) (o2 := 78) d_S_keyOf_56 rfl fl_S_22 rfl (Nat.le_of_ble_eq_true rfl) rfl rfl ?_
  refine z_iload d_S_keyOf_59 rfl ?_
  refine z_il d_S_keyOf_61 rfl rfl (fun v1 => ?_)
  refine z_ic2 d_S_keyOf_62 ?_
  refine z_ishl d_S_keyOf_63 ?_
  refine z_i2l d_S_keyOf_64 ?_
  refine z_lor d_S_keyOf_65 ?_
  refine z_iload d_S_keyOf_66 rfl ?_
  refine z_ic3 d_S_keyOf_68 ?_
  refine z_iand d_S_keyOf_69 ?_
  refine z_i2l d_S_keyOf_70 ?_
  refine z_lor d_S_keyOf_71 ?_
  refine z_lstore_n (pls' := [some (qR 74), some (qR p1), some (qL (klor (klor (klshl x2 10) (ki2l (jshl v1 2))) (ki2l (jand s0 3)))), none, some (qI x4), some (qI s0)]) d_S_keyOf_72 (by decide) rfl rfl ?_
  refine z_iinc (pls' := [some (qR 74), some (qR p1), some (qL (klor (klor (klshl x2 10) (ki2l (jshl v1 2))) (ki2l (jand s0 3)))), none, some (qI (w32 (x4 + 1))), some (qI s0)]) d_S_keyOf_73 (by decide) rfl rfl rfl ?_
  refine z_goto (tgt := 5) d_S_keyOf_76 rfl ?_
  refine z_mask [true, true, true, false, true, false] ?_
  exact hr5 _ _ _
def f_S_keyOf_132 (p1 : Nat) (r82 : Int → Int → qMem → Option (Int × qMem)) (x2 x4 x5 : Int) (w : qMem) : Option (Int × qMem) :=
  r82 (klor (klshl x2 2) (ki2l x5)) (w32 (x4 + 1)) w
set_option maxRecDepth 4000 in
theorem s_S_keyOf_132 {p1 : Nat} (hp1 : qIs kLN 100 p1) {r82 : Int → Int → qMem → Option (Int × qMem)} (hr82 : ∀ x2 x4 w, qSim κL 100 100 m_S_keyOf 82 [] [none, some (qR p1), some (qL x2), none, some (qI x4), none] w (r82 x2 x4 w)) : ∀ (x2 x4 x5 : Int) (w : qMem), qSim κL 100 100 m_S_keyOf 132 [] [none, some (qR p1), some (qL x2), none, some (qI x4), some (qI x5)] w (f_S_keyOf_132 p1 r82 x2 x4 x5 w) := by
  intro x2 x4 x5 w
  unfold f_S_keyOf_132
  refine z_lload_n d_S_keyOf_132 rfl ?_
  refine z_ic2 d_S_keyOf_133 ?_
  refine z_lshl d_S_keyOf_134 ?_
  refine z_iload d_S_keyOf_135 rfl ?_
  refine z_i2l d_S_keyOf_137 ?_
  refine z_lor d_S_keyOf_138 ?_
  refine z_lstore_n (pls' := [none, some (qR p1), some (qL (klor (klshl x2 2) (ki2l x5))), none, some (qI x4), some (qI x5)]) d_S_keyOf_139 (by decide) rfl rfl ?_
  refine z_iinc (pls' := [none, some (qR p1), some (qL (klor (klshl x2 2) (ki2l x5))), none, some (qI (w32 (x4 + 1))), some (qI x5)]) d_S_keyOf_140 (by decide) rfl rfl rfl ?_
  refine z_goto (tgt := 82) d_S_keyOf_143 rfl ?_
  refine z_mask [false, true, true, false, true, false] ?_
  exact hr82 _ _ _
def f_S_keyOf_82 (p1 : Nat) : Nat → Int → Int → qMem → Option (Int × qMem)
  | 0, _, _, _ => none
  | n + 1, x2, x4, w =>
    if x4 < 16 then
    if x4 < (w (p1 + 1) 6) then
    qld w (p1 + 25) 16 x4 fun v4 =>
    (f_G_ringDirection (p1 + 1) x4 w).bind fun q5 =>
    (f_G_placeInRing (p1 + 1) v4 q5.1 q5.2).bind fun q6 =>
    f_S_keyOf_132 p1 (f_S_keyOf_82 p1 n) x2 x4 q6.1 q6.2
    else
    f_S_keyOf_132 p1 (f_S_keyOf_82 p1 n) x2 x4 0 w
    else
    some (x2, w)
set_option maxRecDepth 4000 in
theorem s_S_keyOf_82 {p1 : Nat} (hp1 : qIs kLN 100 p1) : ∀ (n : Nat), ∀ (x2 x4 : Int) (w : qMem), qSim κL 100 100 m_S_keyOf 82 [] [none, some (qR p1), some (qL x2), none, some (qI x4), none] w (f_S_keyOf_82 p1 n x2 x4 w) := by
  intro n
  induction n with
  | zero => intro x2 x4 w; exact z_none
  | succ n ih =>
    intro x2 x4 w
    rw [f_S_keyOf_82]
    refine z_iload d_S_keyOf_82 rfl ?_
    refine z_bipush d_S_keyOf_84 ⟨by decide, by decide⟩ ?_
    refine z_icmp_ge (tgt := 146) d_S_keyOf_86 rfl (fun c2 => ?_) (fun c2 => ?_)
    · refine z_ic0 d_S_keyOf_89 ?_
      refine z_istore (pls' := [none, some (qR p1), some (qL x2), none, some (qI x4), some (qI 0)]) d_S_keyOf_90 (by decide) rfl rfl ?_
      refine z_iload d_S_keyOf_92 rfl ?_
      refine z_aload_n d_S_keyOf_94 rfl ?_
      refine z_gr (ci := 3) (j := 0) (d := 1) (o2 := (p1 + 1)) d_S_keyOf_95 rfl fl_S_113 (hp1 0 _ rfl).1 ((hp1 0 _ rfl).2 (Nat.le_of_ble_eq_true rfl)) rfl rfl ?_
      refine z_gi (ci := 0) (j := 6) (ji := 6) d_S_keyOf_98 rfl fl_S_142 (hp1 1 _ rfl).1 rfl rfl ?_
      refine z_icmp_ge (tgt := 132) d_S_keyOf_101 rfl (fun c3 => ?_) (fun c3 => ?_)
      · refine z_aload_n d_S_keyOf_104 rfl ?_
        refine z_gr (ci := 3) (j := 0) (d := 1) (o2 := (p1 + 1)) d_S_keyOf_105 rfl fl_S_113 (hp1 0 _ rfl).1 ((hp1 0 _ rfl).2 (Nat.le_of_ble_eq_true rfl)) rfl rfl ?_
        refine z_aload_n d_S_keyOf_108 rfl ?_
        refine z_gr (ci := 3) (j := 4) (d := 24) (o2 := (p1 + 24)) d_S_keyOf_109 rfl fl_S_145 (hp1 0 _ rfl).1 ((hp1 0 _ rfl).2 (Nat.le_of_ble_eq_true rfl)) rfl rfl ?_
        refine z_gr (ci := 7) (j := 0) (d := 1) (o2 := (p1 + 25)) d_S_keyOf_112 rfl fl_S_148 (hp1 24 _ rfl).1 ((hp1 24 _ rfl).2 (Nat.le_of_ble_eq_true rfl)) rfl rfl ?_
        refine z_iload d_S_keyOf_115 rfl ?_
        refine z_il d_S_keyOf_117 (hp1 25 _ rfl).1 rfl (fun v4 => ?_)
        refine z_aload_n d_S_keyOf_118 rfl ?_
        refine z_gr (ci := 3) (j := 0) (d := 1) (o2 := (p1 + 1)) d_S_keyOf_119 rfl fl_S_113 (hp1 0 _ rfl).1 ((hp1 0 _ rfl).2 (Nat.le_of_ble_eq_true rfl)) rfl rfl ?_
        refine z_iload d_S_keyOf_122 rfl ?_
        refine z_cVI (as := [qI x4]) (st := [qI v4, qR (p1 + 1)]) (nl := 0) (ci := 0) d_S_keyOf_124 lk_S_153 mk_G_ringDirection rfl rfl (hp1 1 _ rfl).1 rfl rfl rfl (s_G_ringDirection _ (is_N_G hp1) _) (fun q5 _ hq5 => ?_)
        refine z_cVI (as := [qI v4, qI q5.1]) (st := []) (nl := 0) (ci := 0) d_S_keyOf_127 lk_S_156 mk_G_placeInRing rfl rfl (hp1 1 _ rfl).1 rfl rfl rfl (s_G_placeInRing _ _ (is_N_G hp1) _) (fun q6 _ hq6 => ?_)
        refine z_istore (pls' := [none, some (qR p1), some (qL x2), none, some (qI x4), some (qI q6.1)]) d_S_keyOf_130 (by decide) rfl rfl ?_
        refine z_mask [false, true, true, false, true, true] ?_
        exact s_S_keyOf_132 hp1 ih _ _ _ _
      · refine z_mask [false, true, true, false, true, true] ?_
        exact s_S_keyOf_132 hp1 ih _ _ _ _
    · refine z_lload_n d_S_keyOf_146 rfl ?_
      exact z_lret d_S_keyOf_147 rfl rfl
def f_S_keyOf_79 (p1 : Nat) (x2 : Int) (w : qMem) : Option (Int × qMem) :=
  f_S_keyOf_82 p1 qFU x2 0 w
set_option maxRecDepth 4000 in
theorem s_S_keyOf_79 {p1 : Nat} (hp1 : qIs kLN 100 p1) : ∀ (x2 : Int) (w : qMem), qSim κL 100 100 m_S_keyOf 79 [] [none, some (qR p1), some (qL x2), none, none, none] w (f_S_keyOf_79 p1 x2 w) := by
  intro x2 w
  unfold f_S_keyOf_79
  refine z_ic0 d_S_keyOf_79 ?_
  refine z_istore (pls' := [none, some (qR p1), some (qL x2), none, some (qI 0), none]) d_S_keyOf_80 (by decide) rfl rfl ?_
  refine z_mask [false, true, true, false, true, false] ?_
  exact s_S_keyOf_82 hp1 _ _ _ _
def f_S_keyOf_5 (p1 : Nat) : Nat → Int → Int → qMem → Option (Int × qMem)
  | 0, _, _, _ => none
  | n + 1, x2, x4, w =>
    if x4 < 3 then
    qld w 78 3 x4 fun v8 =>
    if v8 = 144 then
    f_S_keyOf_49 p1 (f_S_keyOf_5 p1 n) 0 x2 x4 w
    else
    qld w 78 3 x4 fun v10 =>
    qld w 77 3 x4 fun v11 =>
    (f_Q_placeOf (p1 + 19) v10 v11 w).bind fun q12 =>
    f_S_keyOf_49 p1 (f_S_keyOf_5 p1 n) q12.1 x2 x4 q12.2
    else
    f_S_keyOf_79 p1 x2 w
set_option maxRecDepth 4000 in
theorem s_S_keyOf_5 {p1 : Nat} (hp1 : qIs kLN 100 p1) : ∀ (n : Nat), ∀ (x2 x4 : Int) (w : qMem), qSim κL 100 100 m_S_keyOf 5 [] [some (qR 74), some (qR p1), some (qL x2), none, some (qI x4), none] w (f_S_keyOf_5 p1 n x2 x4 w) := by
  intro n
  induction n with
  | zero => intro x2 x4 w; exact z_none
  | succ n ih =>
    intro x2 x4 w
    rw [f_S_keyOf_5]
    refine z_iload d_S_keyOf_5 rfl ?_
    refine z_ic3 d_S_keyOf_7 ?_
    refine z_icmp_ge (tgt := 79) d_S_keyOf_8 rfl (fun c7 => ?_) (fun c7 => ?_)
    · refine z_aload_n d_S_keyOf_11 rfl ?_
      refine z_gr (ci := 8) (j := 3) (d := 4) (o2 := 78) d_S_keyOf_12 rfl fl_S_22 rfl (Nat.le_of_ble_eq_true rfl) rfl rfl ?_
      refine z_iload d_S_keyOf_15 rfl ?_
      refine z_il d_S_keyOf_17 rfl rfl (fun v8 => ?_)
      refine z_sipush d_S_keyOf_18 ⟨by decide, by decide⟩ ?_
      refine z_icmp_ne (tgt := 28) d_S_keyOf_21 rfl (fun c9 => ?_) (fun c9 => ?_)
      · refine z_ic0 d_S_keyOf_24 ?_
        refine z_goto (tgt := 49) d_S_keyOf_25 rfl ?_
        refine z_mask [true, true, true, false, true, false] ?_
        exact s_S_keyOf_49 hp1 ih _ _ _ _
      · refine z_aload_n d_S_keyOf_28 rfl ?_
        refine z_gr (ci := 3) (j := 2) (d := 19) (o2 := (p1 + 19)) d_S_keyOf_29 rfl fl_S_89 (hp1 0 _ rfl).1 ((hp1 0 _ rfl).2 (Nat.le_of_ble_eq_true rfl)) rfl rfl ?_
        refine z_aload_n d_S_keyOf_32 rfl ?_
        refine z_gr (ci := 8) (j := 3) (d := 4) (o2 := 78) d_S_keyOf_33 rfl fl_S_22 rfl (Nat.le_of_ble_eq_true rfl) rfl rfl ?_
        refine z_iload d_S_keyOf_36 rfl ?_
        refine z_il d_S_keyOf_38 rfl rfl (fun v10 => ?_)
        refine z_aload_n d_S_keyOf_39 rfl ?_
        refine z_gr (ci := 8) (j := 2) (d := 3) (o2 := 77) d_S_keyOf_40 rfl fl_S_19 rfl (Nat.le_of_ble_eq_true rfl) rfl rfl ?_
        refine z_iload d_S_keyOf_43 rfl ?_
        refine z_il d_S_keyOf_45 rfl rfl (fun v11 => ?_)
        refine z_cVI (as := [qI v10, qI v11]) (st := []) (nl := 1) (ci := 6) d_S_keyOf_46 lk_S_139 mk_Q_placeOf rfl rfl (hp1 19 _ rfl).1 rfl rfl rfl (s_Q_placeOf _ _ (is_N_Q hp1) _) (fun q12 _ hq12 => ?_)
        refine z_mask [true, true, true, false, true, false] ?_
        exact s_S_keyOf_49 hp1 ih _ _ _ _
    · refine z_mask [false, true, true, false, false, false] ?_
      exact s_S_keyOf_79 hp1 _ _
def f_S_keyOf (p1 : Nat) (w : qMem) : Option (Int × qMem) :=
  f_S_keyOf_5 p1 qFU 0 0 w
set_option maxRecDepth 4000 in
theorem s_S_keyOf {p1 : Nat} (hp1 : qIs kLN 100 p1) (w : qMem) : qSim κL 100 100 m_S_keyOf 0 [] [some (qR 74), some (qR p1), none, none, none, none] w (f_S_keyOf p1 w) := by
  unfold f_S_keyOf
  refine z_lconst0 d_S_keyOf_0 ?_
  refine z_lstore_n (pls' := [some (qR 74), some (qR p1), some (qL 0), none, none, none]) d_S_keyOf_1 (by decide) rfl rfl ?_
  refine z_ic0 d_S_keyOf_2 ?_
  refine z_istore (pls' := [some (qR 74), some (qR p1), some (qL 0), none, some (qI 0), none]) d_S_keyOf_3 (by decide) rfl rfl ?_
  refine z_mask [true, true, true, false, true, false] ?_
  exact s_S_keyOf_5 hp1 _ _ _ _
