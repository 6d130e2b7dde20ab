theorem z_grf {α : Type} {κ : α → Option qPV × qMem} {ph ph2 : Nat} {M : qMI} {pc : Nat} {st : List qPV} {pls : List (Option qPV)} {w : qMem} {F : Option α} {idx o ci : Nat} {q : vw_C} {j d o2 : Nat} (hd : decode M.2.1 pc = .ok (.getfield idx, 3)) (hc : vwCl[ci]? = some q) (hl : Cond.fieldLink M.1.cls idx q.1 (q.2.1 j).2.1 (q.2.1 j).2.2.1 ∈ qT) (ho : qlay o = (ci + 3, q.2.2)) (ht : qtm o j ≤ ph) (hb : (Nat.blt j q.2.2 && (Nat.beq (qfk ci j) 2 && (Nat.beq (qof ci j) d && Nat.blt 0 d))) = true) (he : o + d = o2)
    (k : qSim κ ph ph2 M (pc + 3) (qR o2 :: st) pls w F) : qSim κ ph ph2 M pc (qR o :: st) pls w F := by
  subst he
  simp only [Bool.and_eq_true] at hb
  have h0 := Nat.le_of_ble_eq_true hb.2.2.2
  exact z_getr hd hc hl ho (Nat.le_of_ble_eq_true hb.1) (Nat.eq_of_beq_eq_true hb.2.1) ht (Nat.eq_of_beq_eq_true hb.2.2.1) (by omega) k
/-! BubbleTorus$Grid.<init> -/
theorem d_G_init_0 : decode m_G_init.2.1 0 = .ok (.aload_n 0, 1) := by decide +kernel
theorem d_G_init_1 : decode m_G_init.2.1 1 = .ok (.invokespecial 3, 3) := by decide +kernel
theorem d_G_init_4 : decode m_G_init.2.1 4 = .ok (.aload_n 0, 1) := by decide +kernel
theorem d_G_init_5 : decode m_G_init.2.1 5 = .ok (.bipush 64, 2) := by decide +kernel
theorem d_G_init_7 : decode m_G_init.2.1 7 = .ok (.newarray .int, 2) := by decide +kernel
theorem d_G_init_9 : decode m_G_init.2.1 9 = .ok (.putfield 9, 3) := by decide +kernel
theorem d_G_init_12 : decode m_G_init.2.1 12 = .ok (.aload_n 0, 1) := by decide +kernel
theorem d_G_init_13 : decode m_G_init.2.1 13 = .ok (.sipush 256, 3) := by decide +kernel
theorem d_G_init_16 : decode m_G_init.2.1 16 = .ok (.newarray .int, 2) := by decide +kernel
theorem d_G_init_18 : decode m_G_init.2.1 18 = .ok (.putfield 15, 3) := by decide +kernel
theorem d_G_init_21 : decode m_G_init.2.1 21 = .ok (.aload_n 0, 1) := by decide +kernel
theorem d_G_init_22 : decode m_G_init.2.1 22 = .ok (.sipush 256, 3) := by decide +kernel
theorem d_G_init_25 : decode m_G_init.2.1 25 = .ok (.newarray .int, 2) := by decide +kernel
theorem d_G_init_27 : decode m_G_init.2.1 27 = .ok (.putfield 18, 3) := by decide +kernel
theorem d_G_init_30 : decode m_G_init.2.1 30 = .ok (.aload_n 0, 1) := by decide +kernel
theorem d_G_init_31 : decode m_G_init.2.1 31 = .ok (.iconst 3, 1) := by decide +kernel
theorem d_G_init_32 : decode m_G_init.2.1 32 = .ok (.putfield 21, 3) := by decide +kernel
theorem d_G_init_35 : decode m_G_init.2.1 35 = .ok (.aload_n 0, 1) := by decide +kernel
theorem d_G_init_36 : decode m_G_init.2.1 36 = .ok (.iconst 3, 1) := by decide +kernel
theorem d_G_init_37 : decode m_G_init.2.1 37 = .ok (.putfield 25, 3) := by decide +kernel
theorem d_G_init_40 : decode m_G_init.2.1 40 = .ok (.aload_n 0, 1) := by decide +kernel
theorem d_G_init_41 : decode m_G_init.2.1 41 = .ok (.bipush 9, 2) := by decide +kernel
theorem d_G_init_43 : decode m_G_init.2.1 43 = .ok (.putfield 28, 3) := by decide +kernel
theorem d_G_init_46 : decode m_G_init.2.1 46 = .ok (.aload_n 0, 1) := by decide +kernel
theorem d_G_init_47 : decode m_G_init.2.1 47 = .ok (.bipush 12, 2) := by decide +kernel
theorem d_G_init_49 : decode m_G_init.2.1 49 = .ok (.putfield 31, 3) := by decide +kernel
theorem d_G_init_52 : decode m_G_init.2.1 52 = .ok (.aload_n 0, 1) := by decide +kernel
theorem d_G_init_53 : decode m_G_init.2.1 53 = .ok (.aload_n 0, 1) := by decide +kernel
theorem d_G_init_54 : decode m_G_init.2.1 54 = .ok (.getfield 21, 3) := by decide +kernel
theorem d_G_init_57 : decode m_G_init.2.1 57 = .ok (.aload_n 0, 1) := by decide +kernel
theorem d_G_init_58 : decode m_G_init.2.1 58 = .ok (.getfield 25, 3) := by decide +kernel
theorem d_G_init_61 : decode m_G_init.2.1 61 = .ok (.invokevirtual 34, 3) := by decide +kernel
theorem d_G_init_64 : decode m_G_init.2.1 64 = .ok (.return_, 1) := by decide +kernel
def f_G3_init (w : qMem) : Option (qMem) :=
  qnw w 4 fun w1 =>
  qlt (qud w1 3 0 ((4 : Nat) : Int)) fun w2 =>
  qnw w2 5 fun w3 =>
  qlt (qud w3 3 1 ((5 : Nat) : Int)) fun w4 =>
  qnw w4 6 fun w5 =>
  qlt (qud w5 3 2 ((6 : Nat) : Int)) fun w6 =>
  qlt (qud w6 3 3 3) fun w7 =>
  qlt (qud w7 3 4 3) fun w8 =>
  qlt (qud w8 3 5 9) fun w9 =>
  qlt (qud w9 3 6 12) fun w10 =>
  (f_G_lay 3 (w10 3 3) (w10 3 4) w10).bind fun q11 =>
  some q11
set_option maxRecDepth 4000 in
theorem s_G3_init (w : qMem) : qSim κV 0 3 m_G_init 0 [] [some (qR 3)] w (f_G3_init w) := by
  unfold f_G3_init
  refine z_aload_n d_G_init_0 rfl ?_
  refine z_objinit d_G_init_1 lk_G_3 (Nat.le_of_ble_eq_true rfl) (Nat.le_of_ble_eq_true rfl) ?_
  refine z_aload_n d_G_init_4 rfl ?_
  refine z_bipush d_G_init_5 ⟨by decide, by decide⟩ ?_
  refine z_na_int (o := 4) d_G_init_7 rfl rfl (by decide) (fun w1 => ?_)
  refine z_pf (ci := 0) (j := 0) (ji := 0) d_G_init_9 rfl fl_G_9 rfl rfl rfl rfl rfl rfl (Or.inr ⟨_, rfl⟩) (by decide) rfl rfl (fun w2 => ?_)
  refine z_aload_n d_G_init_12 rfl ?_
  refine z_sipush d_G_init_13 ⟨by decide, by decide⟩ ?_
  refine z_na_int (o := 5) d_G_init_16 rfl rfl (by decide) (fun w3 => ?_)
  refine z_pf (ci := 0) (j := 1) (ji := 1) d_G_init_18 rfl fl_G_15 rfl rfl rfl rfl rfl rfl (Or.inr ⟨_, rfl⟩) (by decide) rfl rfl (fun w4 => ?_)
  refine z_aload_n d_G_init_21 rfl ?_
  refine z_sipush d_G_init_22 ⟨by decide, by decide⟩ ?_
  refine z_na_int (o := 6) d_G_init_25 rfl rfl (by decide) (fun w5 => ?_)
  refine z_pf (ci := 0) (j := 2) (ji := 2) d_G_init_27 rfl fl_G_18 rfl rfl rfl rfl rfl rfl (Or.inr ⟨_, rfl⟩) (by decide) rfl rfl (fun w6 => ?_)
  refine z_aload_n d_G_init_30 rfl ?_
  refine z_ic3 d_G_init_31 ?_
  refine z_pi (ci := 0) (j := 3) (ji := 3) d_G_init_32 rfl fl_G_21 rfl rfl rfl rfl rfl (fun w7 => ?_)
  refine z_aload_n d_G_init_35 rfl ?_
  refine z_ic3 d_G_init_36 ?_
  refine z_pi (ci := 0) (j := 4) (ji := 4) d_G_init_37 rfl fl_G_25 rfl rfl rfl rfl rfl (fun w8 => ?_)
  refine z_aload_n d_G_init_40 rfl ?_
  refine z_bipush d_G_init_41 ⟨by decide, by decide⟩ ?_
  refine z_pi (ci := 0) (j := 5) (ji := 5) d_G_init_43 rfl fl_G_28 rfl rfl rfl rfl rfl (fun w9 => ?_)
  refine z_aload_n d_G_init_46 rfl ?_
  refine z_bipush d_G_init_47 ⟨by decide, by decide⟩ ?_
  refine z_pi (ci := 0) (j := 6) (ji := 6) d_G_init_49 rfl fl_G_31 rfl rfl rfl rfl rfl (fun w10 => ?_)
  refine z_aload_n d_G_init_52 rfl ?_
  refine z_aload_n d_G_init_53 rfl ?_
  refine z_gi (ci := 0) (j := 3) (ji := 3) d_G_init_54 rfl fl_G_21 rfl rfl rfl ?_
  refine z_aload_n d_G_init_57 rfl ?_
  refine z_gi (ci := 0) (j := 4) (ji := 4) d_G_init_58 rfl fl_G_25 rfl rfl rfl ?_
  refine z_cVV (as := [qI (w10 3 3), qI (w10 3 4)]) (st := []) (nl := 3) (ci := 0) d_G_init_61 lk_G_34 mk_G_lay rfl rfl rfl rfl rfl rfl (s_G_lay _ _ is_3_3 _) (fun q11 _ => ?_)
  exact z_vret d_G_init_64 rfl rfl
/-! BubbleTorus$Grid.<init> -/
def f_G38_init (w : qMem) : Option (qMem) :=
  qnw w 39 fun w1 =>
  qlt (qud w1 38 0 ((39 : Nat) : Int)) fun w2 =>
  qnw w2 40 fun w3 =>
  qlt (qud w3 38 1 ((40 : Nat) : Int)) fun w4 =>
  qnw w4 41 fun w5 =>
  qlt (qud w5 38 2 ((41 : Nat) : Int)) fun w6 =>
  qlt (qud w6 38 3 3) fun w7 =>
  qlt (qud w7 38 4 3) fun w8 =>
  qlt (qud w8 38 5 9) fun w9 =>
  qlt (qud w9 38 6 12) fun w10 =>
  (f_G_lay 38 (w10 38 3) (w10 38 4) w10).bind fun q11 =>
  some q11
set_option maxRecDepth 4000 in
theorem s_G38_init (w : qMem) : qSim κV 35 38 m_G_init 0 [] [some (qR 38)] w (f_G38_init w) := by
  unfold f_G38_init
  refine z_aload_n d_G_init_0 rfl ?_
  refine z_objinit d_G_init_1 lk_G_3 (Nat.le_of_ble_eq_true rfl) (Nat.le_of_ble_eq_true rfl) ?_
  refine z_aload_n d_G_init_4 rfl ?_
  refine z_bipush d_G_init_5 ⟨by decide, by decide⟩ ?_
  refine z_na_int (o := 39) d_G_init_7 rfl rfl (by decide) (fun w1 => ?_)
  refine z_pf (ci := 0) (j := 0) (ji := 0) d_G_init_9 rfl fl_G_9 rfl rfl rfl rfl rfl rfl (Or.inr ⟨_, rfl⟩) (by decide) rfl rfl (fun w2 => ?_)
  refine z_aload_n d_G_init_12 rfl ?_
  refine z_sipush d_G_init_13 ⟨by decide, by decide⟩ ?_
  refine z_na_int (o := 40) d_G_init_16 rfl rfl (by decide) (fun w3 => ?_)
  refine z_pf (ci := 0) (j := 1) (ji := 1) d_G_init_18 rfl fl_G_15 rfl rfl rfl rfl rfl rfl (Or.inr ⟨_, rfl⟩) (by decide) rfl rfl (fun w4 => ?_)
  refine z_aload_n d_G_init_21 rfl ?_
  refine z_sipush d_G_init_22 ⟨by decide, by decide⟩ ?_
  refine z_na_int (o := 41) d_G_init_25 rfl rfl (by decide) (fun w5 => ?_)
  refine z_pf (ci := 0) (j := 2) (ji := 2) d_G_init_27 rfl fl_G_18 rfl rfl rfl rfl rfl rfl (Or.inr ⟨_, rfl⟩) (by decide) rfl rfl (fun w6 => ?_)
  refine z_aload_n d_G_init_30 rfl ?_
  refine z_ic3 d_G_init_31 ?_
  refine z_pi (ci := 0) (j := 3) (ji := 3) d_G_init_32 rfl fl_G_21 rfl rfl rfl rfl rfl (fun w7 => ?_)
  refine z_aload_n d_G_init_35 rfl ?_
  refine z_ic3 d_G_init_36 ?_
  refine z_pi (ci := 0) (j := 4) (ji := 4) d_G_init_37 rfl fl_G_25 rfl rfl rfl rfl rfl (fun w8 => ?_)
  refine z_aload_n d_G_init_40 rfl ?_
  refine z_bipush d_G_init_41 ⟨by decide, by decide⟩ ?_
  refine z_pi (ci := 0) (j := 5) (ji := 5) d_G_init_43 rfl fl_G_28 rfl rfl rfl rfl rfl (fun w9 => ?_)
  refine z_aload_n d_G_init_46 rfl ?_
  refine z_bipush d_G_init_47 ⟨by decide, by decide⟩ ?_
  refine z_pi (ci := 0) (j := 6) (ji := 6) d_G_init_49 rfl fl_G_31 rfl rfl rfl rfl rfl (fun w10 => ?_)
  refine z_aload_n d_G_init_52 rfl ?_
  refine z_aload_n d_G_init_53 rfl ?_
  refine z_gi (ci := 0) (j := 3) (ji := 3) d_G_init_54 rfl fl_G_21 rfl rfl rfl ?_
  refine z_aload_n d_G_init_57 rfl ?_
  refine z_gi (ci := 0) (j := 4) (ji := 4) d_G_init_58 rfl fl_G_25 rfl rfl rfl ?_
  refine z_cVV (as := [qI (w10 38 3), qI (w10 38 4)]) (st := []) (nl := 3) (ci := 0) d_G_init_61 lk_G_34 mk_G_lay rfl rfl rfl rfl rfl rfl (s_G_lay _ _ is_38_38 _) (fun q11 _ => ?_)
  exact z_vret d_G_init_64 rfl rfl
/-! BubbleTorus$Packets.<init> -/
theorem d_P_init_0 : decode m_P_init.2.1 0 = .ok (.aload_n 0, 1) := by decide +kernel
theorem d_P_init_1 : decode m_P_init.2.1 1 = .ok (.invokespecial 3, 3) := by decide +kernel
theorem d_P_init_4 : decode m_P_init.2.1 4 = .ok (.aload_n 0, 1) := by decide +kernel
theorem d_P_init_5 : decode m_P_init.2.1 5 = .ok (.sipush 250, 3) := by decide +kernel
theorem d_P_init_8 : decode m_P_init.2.1 8 = .ok (.newarray .int, 2) := by decide +kernel
theorem d_P_init_10 : decode m_P_init.2.1 10 = .ok (.putfield 9, 3) := by decide +kernel
theorem d_P_init_13 : decode m_P_init.2.1 13 = .ok (.aload_n 0, 1) := by decide +kernel
theorem d_P_init_14 : decode m_P_init.2.1 14 = .ok (.sipush 250, 3) := by decide +kernel
theorem d_P_init_17 : decode m_P_init.2.1 17 = .ok (.newarray .int, 2) := by decide +kernel
theorem d_P_init_19 : decode m_P_init.2.1 19 = .ok (.putfield 15, 3) := by decide +kernel
theorem d_P_init_22 : decode m_P_init.2.1 22 = .ok (.aload_n 0, 1) := by decide +kernel
theorem d_P_init_23 : decode m_P_init.2.1 23 = .ok (.sipush 250, 3) := by decide +kernel
theorem d_P_init_26 : decode m_P_init.2.1 26 = .ok (.newarray .int, 2) := by decide +kernel
theorem d_P_init_28 : decode m_P_init.2.1 28 = .ok (.putfield 18, 3) := by decide +kernel
theorem d_P_init_31 : decode m_P_init.2.1 31 = .ok (.aload_n 0, 1) := by decide +kernel
theorem d_P_init_32 : decode m_P_init.2.1 32 = .ok (.sipush 250, 3) := by decide +kernel
theorem d_P_init_35 : decode m_P_init.2.1 35 = .ok (.newarray .int, 2) := by decide +kernel
theorem d_P_init_37 : decode m_P_init.2.1 37 = .ok (.putfield 21, 3) := by decide +kernel
theorem d_P_init_40 : decode m_P_init.2.1 40 = .ok (.aload_n 0, 1) := by decide +kernel
theorem d_P_init_41 : decode m_P_init.2.1 41 = .ok (.sipush 250, 3) := by decide +kernel
theorem d_P_init_44 : decode m_P_init.2.1 44 = .ok (.newarray .int, 2) := by decide +kernel
theorem d_P_init_46 : decode m_P_init.2.1 46 = .ok (.putfield 24, 3) := by decide +kernel
theorem d_P_init_49 : decode m_P_init.2.1 49 = .ok (.aload_n 0, 1) := by decide +kernel
theorem d_P_init_50 : decode m_P_init.2.1 50 = .ok (.sipush 250, 3) := by decide +kernel
theorem d_P_init_53 : decode m_P_init.2.1 53 = .ok (.newarray .int, 2) := by decide +kernel
theorem d_P_init_55 : decode m_P_init.2.1 55 = .ok (.putfield 27, 3) := by decide +kernel
theorem d_P_init_58 : decode m_P_init.2.1 58 = .ok (.aload_n 0, 1) := by decide +kernel
theorem d_P_init_59 : decode m_P_init.2.1 59 = .ok (.sipush 250, 3) := by decide +kernel
theorem d_P_init_62 : decode m_P_init.2.1 62 = .ok (.newarray .int, 2) := by decide +kernel
theorem d_P_init_64 : decode m_P_init.2.1 64 = .ok (.putfield 30, 3) := by decide +kernel
theorem d_P_init_67 : decode m_P_init.2.1 67 = .ok (.aload_n 0, 1) := by decide +kernel
theorem d_P_init_68 : decode m_P_init.2.1 68 = .ok (.sipush 250, 3) := by decide +kernel
theorem d_P_init_71 : decode m_P_init.2.1 71 = .ok (.newarray .int, 2) := by decide +kernel
theorem d_P_init_73 : decode m_P_init.2.1 73 = .ok (.putfield 33, 3) := by decide +kernel
theorem d_P_init_76 : decode m_P_init.2.1 76 = .ok (.aload_n 0, 1) := by decide +kernel
theorem d_P_init_77 : decode m_P_init.2.1 77 = .ok (.sipush 250, 3) := by decide +kernel
theorem d_P_init_80 : decode m_P_init.2.1 80 = .ok (.newarray .int, 2) := by decide +kernel
theorem d_P_init_82 : decode m_P_init.2.1 82 = .ok (.putfield 36, 3) := by decide +kernel
theorem d_P_init_85 : decode m_P_init.2.1 85 = .ok (.aload_n 0, 1) := by decide +kernel
theorem d_P_init_86 : decode m_P_init.2.1 86 = .ok (.sipush 250, 3) := by decide +kernel
theorem d_P_init_89 : decode m_P_init.2.1 89 = .ok (.newarray .int, 2) := by decide +kernel
theorem d_P_init_91 : decode m_P_init.2.1 91 = .ok (.putfield 39, 3) := by decide +kernel
theorem d_P_init_94 : decode m_P_init.2.1 94 = .ok (.aload_n 0, 1) := by decide +kernel
theorem d_P_init_95 : decode m_P_init.2.1 95 = .ok (.sipush 250, 3) := by decide +kernel
theorem d_P_init_98 : decode m_P_init.2.1 98 = .ok (.newarray .int, 2) := by decide +kernel
theorem d_P_init_100 : decode m_P_init.2.1 100 = .ok (.putfield 42, 3) := by decide +kernel
theorem d_P_init_103 : decode m_P_init.2.1 103 = .ok (.aload_n 0, 1) := by decide +kernel
theorem d_P_init_104 : decode m_P_init.2.1 104 = .ok (.sipush 250, 3) := by decide +kernel
theorem d_P_init_107 : decode m_P_init.2.1 107 = .ok (.newarray .int, 2) := by decide +kernel
theorem d_P_init_109 : decode m_P_init.2.1 109 = .ok (.putfield 45, 3) := by decide +kernel
theorem d_P_init_112 : decode m_P_init.2.1 112 = .ok (.aload_n 0, 1) := by decide +kernel
theorem d_P_init_113 : decode m_P_init.2.1 113 = .ok (.sipush 1250, 3) := by decide +kernel
theorem d_P_init_116 : decode m_P_init.2.1 116 = .ok (.newarray .int, 2) := by decide +kernel
theorem d_P_init_118 : decode m_P_init.2.1 118 = .ok (.putfield 48, 3) := by decide +kernel
theorem d_P_init_121 : decode m_P_init.2.1 121 = .ok (.aload_n 0, 1) := by decide +kernel
theorem d_P_init_122 : decode m_P_init.2.1 122 = .ok (.iconst 0, 1) := by decide +kernel
theorem d_P_init_123 : decode m_P_init.2.1 123 = .ok (.putfield 51, 3) := by decide +kernel
theorem d_P_init_126 : decode m_P_init.2.1 126 = .ok (.aload_n 0, 1) := by decide +kernel
theorem d_P_init_127 : decode m_P_init.2.1 127 = .ok (.iconst 0, 1) := by decide +kernel
theorem d_P_init_128 : decode m_P_init.2.1 128 = .ok (.putfield 55, 3) := by decide +kernel
theorem d_P_init_131 : decode m_P_init.2.1 131 = .ok (.return_, 1) := by decide +kernel
def f_P7_init (w : qMem) : Option (qMem) :=
  qnw w 8 fun w1 =>
  qlt (qud w1 7 0 ((8 : Nat) : Int)) fun w2 =>
  qnw w2 9 fun w3 =>
  qlt (qud w3 7 1 ((9 : Nat) : Int)) fun w4 =>
  qnw w4 10 fun w5 =>
  qlt (qud w5 7 2 ((10 : Nat) : Int)) fun w6 =>
  qnw w6 11 fun w7 =>
  qlt (qud w7 7 3 ((11 : Nat) : Int)) fun w8 =>
  qnw w8 12 fun w9 =>
  qlt (qud w9 7 4 ((12 : Nat) : Int)) fun w10 =>
  qnw w10 13 fun w11 =>
  qlt (qud w11 7 5 ((13 : Nat) : Int)) fun w12 =>
  qnw w12 14 fun w13 =>
  qlt (qud w13 7 6 ((14 : Nat) : Int)) fun w14 =>
  qnw w14 15 fun w15 =>
  qlt (qud w15 7 7 ((15 : Nat) : Int)) fun w16 =>
  qnw w16 16 fun w17 =>
  qlt (qud w17 7 8 ((16 : Nat) : Int)) fun w18 =>
  qnw w18 17 fun w19 =>
  qlt (qud w19 7 9 ((17 : Nat) : Int)) fun w20 =>
  qnw w20 18 fun w21 =>
  qlt (qud w21 7 10 ((18 : Nat) : Int)) fun w22 =>
  qnw w22 19 fun w23 =>
  qlt (qud w23 7 11 ((19 : Nat) : Int)) fun w24 =>
  qnw w24 20 fun w25 =>
  qlt (qud w25 7 12 ((20 : Nat) : Int)) fun w26 =>
  qlt (qud w26 7 13 0) fun w27 =>
  qlt (qud w27 7 14 0) fun w28 =>
  some w28
set_option maxRecDepth 4000 in
theorem s_P7_init (w : qMem) : qSim κV 4 17 m_P_init 0 [] [some (qR 7)] w (f_P7_init w) := by
  unfold f_P7_init
  refine z_aload_n d_P_init_0 rfl ?_
  refine z_objinit d_P_init_1 lk_P_3 (Nat.le_of_ble_eq_true rfl) (Nat.le_of_ble_eq_true rfl) ?_
  refine z_aload_n d_P_init_4 rfl ?_
  refine z_sipush d_P_init_5 ⟨by decide, by decide⟩ ?_
  refine z_na_int (o := 8) d_P_init_8 rfl rfl (by decide) (fun w1 => ?_)
  refine z_pf (ci := 5) (j := 0) (ji := 0) d_P_init_10 rfl fl_P_9 rfl rfl rfl rfl rfl rfl (Or.inr ⟨_, rfl⟩) (by decide) rfl rfl (fun w2 => ?_)
  refine z_aload_n d_P_init_13 rfl ?_
  refine z_sipush d_P_init_14 ⟨by decide, by decide⟩ ?_
  refine z_na_int (o := 9) d_P_init_17 rfl rfl (by decide) (fun w3 => ?_)
  refine z_pf (ci := 5) (j := 1) (ji := 1) d_P_init_19 rfl fl_P_15 rfl rfl rfl rfl rfl rfl (Or.inr ⟨_, rfl⟩) (by decide) rfl rfl (fun w4 => ?_)
  refine z_aload_n d_P_init_22 rfl ?_
  refine z_sipush d_P_init_23 ⟨by decide, by decide⟩ ?_
  refine z_na_int (o := 10) d_P_init_26 rfl rfl (by decide) (fun w5 => ?_)
  refine z_pf (ci := 5) (j := 2) (ji := 2) d_P_init_28 rfl fl_P_18 rfl rfl rfl rfl rfl rfl (Or.inr ⟨_, rfl⟩) (by decide) rfl rfl (fun w6 => ?_)
  refine z_aload_n d_P_init_31 rfl ?_
  refine z_sipush d_P_init_32 ⟨by decide, by decide⟩ ?_
  refine z_na_int (o := 11) d_P_init_35 rfl rfl (by decide) (fun w7 => ?_)
  refine z_pf (ci := 5) (j := 3) (ji := 3) d_P_init_37 rfl fl_P_21 rfl rfl rfl rfl rfl rfl (Or.inr ⟨_, rfl⟩) (by decide) rfl rfl (fun w8 => ?_)
  refine z_aload_n d_P_init_40 rfl ?_
  refine z_sipush d_P_init_41 ⟨by decide, by decide⟩ ?_
  refine z_na_int (o := 12) d_P_init_44 rfl rfl (by decide) (fun w9 => ?_)
  refine z_pf (ci := 5) (j := 4) (ji := 4) d_P_init_46 rfl fl_P_24 rfl rfl rfl rfl rfl rfl (Or.inr ⟨_, rfl⟩) (by decide) rfl rfl (fun w10 => ?_)
  refine z_aload_n d_P_init_49 rfl ?_
  refine z_sipush d_P_init_50 ⟨by decide, by decide⟩ ?_
  refine z_na_int (o := 13) d_P_init_53 rfl rfl (by decide) (fun w11 => ?_)
  refine z_pf (ci := 5) (j := 5) (ji := 5) d_P_init_55 rfl fl_P_27 rfl rfl rfl rfl rfl rfl (Or.inr ⟨_, rfl⟩) (by decide) rfl rfl (fun w12 => ?_)
  refine z_aload_n d_P_init_58 rfl ?_
  refine z_sipush d_P_init_59 ⟨by decide, by decide⟩ ?_
  refine z_na_int (o := 14) d_P_init_62 rfl rfl (by decide) (fun w13 => ?_)
  refine z_pf (ci := 5) (j := 6) (ji := 6) d_P_init_64 rfl fl_P_30 rfl rfl rfl rfl rfl rfl (Or.inr ⟨_, rfl⟩) (by decide) rfl rfl (fun w14 => ?_)
  refine z_aload_n d_P_init_67 rfl ?_
  refine z_sipush d_P_init_68 ⟨by decide, by decide⟩ ?_
  refine z_na_int (o := 15) d_P_init_71 rfl rfl (by decide) (fun w15 => ?_)
  refine z_pf (ci := 5) (j := 7) (ji := 7) d_P_init_73 rfl fl_P_33 rfl rfl rfl rfl rfl rfl (Or.inr ⟨_, rfl⟩) (by decide) rfl rfl (fun w16 => ?_)
  refine z_aload_n d_P_init_76 rfl ?_
  refine z_sipush d_P_init_77 ⟨by decide, by decide⟩ ?_
  refine z_na_int (o := 16) d_P_init_80 rfl rfl (by decide) (fun w17 => ?_)
  refine z_pf (ci := 5) (j := 8) (ji := 8) d_P_init_82 rfl fl_P_36 rfl rfl rfl rfl rfl rfl (Or.inr ⟨_, rfl⟩) (by decide) rfl rfl (fun w18 => ?_)
  refine z_aload_n d_P_init_85 rfl ?_
  refine z_sipush d_P_init_86 ⟨by decide, by decide⟩ ?_
  refine z_na_int (o := 17) d_P_init_89 rfl rfl (by decide) (fun w19 => ?_)
  refine z_pf (ci := 5) (j := 9) (ji := 9) d_P_init_91 rfl fl_P_39 rfl rfl rfl rfl rfl rfl (Or.inr ⟨_, rfl⟩) (by decide) rfl rfl (fun w20 => ?_)
  refine z_aload_n d_P_init_94 rfl ?_
  refine z_sipush d_P_init_95 ⟨by decide, by decide⟩ ?_
  refine z_na_int (o := 18) d_P_init_98 rfl rfl (by decide) (fun w21 => ?_)
  refine z_pf (ci := 5) (j := 10) (ji := 10) d_P_init_100 rfl fl_P_42 rfl rfl rfl rfl rfl rfl (Or.inr ⟨_, rfl⟩) (by decide) rfl rfl (fun w22 => ?_)
  refine z_aload_n d_P_init_103 rfl ?_
  refine z_sipush d_P_init_104 ⟨by decide, by decide⟩ ?_
  refine z_na_int (o := 19) d_P_init_107 rfl rfl (by decide) (fun w23 => ?_)
  refine z_pf (ci := 5) (j := 11) (ji := 11) d_P_init_109 rfl fl_P_45 rfl rfl rfl rfl rfl rfl (Or.inr ⟨_, rfl⟩) (by decide) rfl rfl (fun w24 => ?_)
  refine z_aload_n d_P_init_112 rfl ?_
  refine z_sipush d_P_init_113 ⟨by decide, by decide⟩ ?_
  refine z_na_int (o := 20) d_P_init_116 rfl rfl (by decide) (fun w25 => ?_)
  refine z_pf (ci := 5) (j := 12) (ji := 12) d_P_init_118 rfl fl_P_48 rfl rfl rfl rfl rfl rfl (Or.inr ⟨_, rfl⟩) (by decide) rfl rfl (fun w26 => ?_)
  refine z_aload_n d_P_init_121 rfl ?_
  refine z_ic0 d_P_init_122 ?_
  refine z_pi (ci := 5) (j := 13) (ji := 13) d_P_init_123 rfl fl_P_51 rfl rfl rfl rfl rfl (fun w27 => ?_)
  refine z_aload_n d_P_init_126 rfl ?_
  refine z_ic0 d_P_init_127 ?_
  refine z_pi (ci := 5) (j := 14) (ji := 14) d_P_init_128 rfl fl_P_55 rfl rfl rfl rfl rfl (fun w28 => ?_)
  exact z_vret d_P_init_131 rfl rfl
/-! BubbleTorus$Packets.<init> -/
def f_P42_init (w : qMem) : Option (qMem) :=
  qnw w 43 fun w1 =>
  qlt (qud w1 42 0 ((43 : Nat) : Int)) fun w2 =>
  qnw w2 44 fun w3 =>
  qlt (qud w3 42 1 ((44 : Nat) : Int)) fun w4 =>
  qnw w4 45 fun w5 =>
  qlt (qud w5 42 2 ((45 : Nat) : Int)) fun w6 =>
  qnw w6 46 fun w7 =>
  qlt (qud w7 42 3 ((46 : Nat) : Int)) fun w8 =>
  qnw w8 47 fun w9 =>
  qlt (qud w9 42 4 ((47 : Nat) : Int)) fun w10 =>
  qnw w10 48 fun w11 =>
  qlt (qud w11 42 5 ((48 : Nat) : Int)) fun w12 =>
  qnw w12 49 fun w13 =>
  qlt (qud w13 42 6 ((49 : Nat) : Int)) fun w14 =>
  qnw w14 50 fun w15 =>
  qlt (qud w15 42 7 ((50 : Nat) : Int)) fun w16 =>
  qnw w16 51 fun w17 =>
  qlt (qud w17 42 8 ((51 : Nat) : Int)) fun w18 =>
  qnw w18 52 fun w19 =>
  qlt (qud w19 42 9 ((52 : Nat) : Int)) fun w20 =>
  qnw w20 53 fun w21 =>
  qlt (qud w21 42 10 ((53 : Nat) : Int)) fun w22 =>
  qnw w22 54 fun w23 =>
  qlt (qud w23 42 11 ((54 : Nat) : Int)) fun w24 =>
  qnw w24 55 fun w25 =>
  qlt (qud w25 42 12 ((55 : Nat) : Int)) fun w26 =>
  qlt (qud w26 42 13 0) fun w27 =>
  qlt (qud w27 42 14 0) fun w28 =>
  some w28
set_option maxRecDepth 4000 in
theorem s_P42_init (w : qMem) : qSim κV 39 52 m_P_init 0 [] [some (qR 42)] w (f_P42_init w) := by
  unfold f_P42_init
  refine z_aload_n d_P_init_0 rfl ?_
  refine z_objinit d_P_init_1 lk_P_3 (Nat.le_of_ble_eq_true rfl) (Nat.le_of_ble_eq_true rfl) ?_
  refine z_aload_n d_P_init_4 rfl ?_
  refine z_sipush d_P_init_5 ⟨by decide, by decide⟩ ?_
  refine z_na_int (o := 43) d_P_init_8 rfl rfl (by decide) (fun w1 => ?_)
  refine z_pf (ci := 5) (j := 0) (ji := 0) d_P_init_10 rfl fl_P_9 rfl rfl rfl rfl rfl rfl (Or.inr ⟨_, rfl⟩) (by decide) rfl rfl (fun w2 => ?_)
  refine z_aload_n d_P_init_13 rfl ?_
  refine z_sipush d_P_init_14 ⟨by decide, by decide⟩ ?_
  refine z_na_int (o := 44) d_P_init_17 rfl rfl (by decide) (fun w3 => ?_)
  refine z_pf (ci := 5) (j := 1) (ji := 1) d_P_init_19 rfl fl_P_15 rfl rfl rfl rfl rfl rfl (Or.inr ⟨_, rfl⟩) (by decide) rfl rfl (fun w4 => ?_)
  refine z_aload_n d_P_init_22 rfl ?_
  refine z_sipush d_P_init_23 ⟨by decide, by decide⟩ ?_
  refine z_na_int (o := 45) d_P_init_26 rfl rfl (by decide) (fun w5 => ?_)
  refine z_pf (ci := 5) (j := 2) (ji := 2) d_P_init_28 rfl fl_P_18 rfl rfl rfl rfl rfl rfl (Or.inr ⟨_, rfl⟩) (by decide) rfl rfl (fun w6 => ?_)
  refine z_aload_n d_P_init_31 rfl ?_
  refine z_sipush d_P_init_32 ⟨by decide, by decide⟩ ?_
  refine z_na_int (o := 46) d_P_init_35 rfl rfl (by decide) (fun w7 => ?_)
  refine z_pf (ci := 5) (j := 3) (ji := 3) d_P_init_37 rfl fl_P_21 rfl rfl rfl rfl rfl rfl (Or.inr ⟨_, rfl⟩) (by decide) rfl rfl (fun w8 => ?_)
  refine z_aload_n d_P_init_40 rfl ?_
  refine z_sipush d_P_init_41 ⟨by decide, by decide⟩ ?_
  refine z_na_int (o := 47) d_P_init_44 rfl rfl (by decide) (fun w9 => ?_)
  refine z_pf (ci := 5) (j := 4) (ji := 4) d_P_init_46 rfl fl_P_24 rfl rfl rfl rfl rfl rfl (Or.inr ⟨_, rfl⟩) (by decide) rfl rfl (fun w10 => ?_)
  refine z_aload_n d_P_init_49 rfl ?_
  refine z_sipush d_P_init_50 ⟨by decide, by decide⟩ ?_
  refine z_na_int (o := 48) d_P_init_53 rfl rfl (by decide) (fun w11 => ?_)
  refine z_pf (ci := 5) (j := 5) (ji := 5) d_P_init_55 rfl fl_P_27 rfl rfl rfl rfl rfl rfl (Or.inr ⟨_, rfl⟩) (by decide) rfl rfl (fun w12 => ?_)
  refine z_aload_n d_P_init_58 rfl ?_
  refine z_sipush d_P_init_59 ⟨by decide, by decide⟩ ?_
  refine z_na_int (o := 49) d_P_init_62 rfl rfl (by decide) (fun w13 => ?_)
  refine z_pf (ci := 5) (j := 6) (ji := 6) d_P_init_64 rfl fl_P_30 rfl rfl rfl rfl rfl rfl (Or.inr ⟨_, rfl⟩) (by decide) rfl rfl (fun w14 => ?_)
  refine z_aload_n d_P_init_67 rfl ?_
  refine z_sipush d_P_init_68 ⟨by decide, by decide⟩ ?_
  refine z_na_int (o := 50) d_P_init_71 rfl rfl (by decide) (fun w15 => ?_)
  refine z_pf (ci := 5) (j := 7) (ji := 7) d_P_init_73 rfl fl_P_33 rfl rfl rfl rfl rfl rfl (Or.inr ⟨_, rfl⟩) (by decide) rfl rfl (fun w16 => ?_)
  refine z_aload_n d_P_init_76 rfl ?_
  refine z_sipush d_P_init_77 ⟨by decide, by decide⟩ ?_
  refine z_na_int (o := 51) d_P_init_80 rfl rfl (by decide) (fun w17 => ?_)
  refine z_pf (ci := 5) (j := 8) (ji := 8) d_P_init_82 rfl fl_P_36 rfl rfl rfl rfl rfl rfl (Or.inr ⟨_, rfl⟩) (by decide) rfl rfl (fun w18 => ?_)
  refine z_aload_n d_P_init_85 rfl ?_
  refine z_sipush d_P_init_86 ⟨by decide, by decide⟩ ?_
  refine z_na_int (o := 52) d_P_init_89 rfl rfl (by decide) (fun w19 => ?_)
  refine z_pf (ci := 5) (j := 9) (ji := 9) d_P_init_91 rfl fl_P_39 rfl rfl rfl rfl rfl rfl (Or.inr ⟨_, rfl⟩) (by decide) rfl rfl (fun w20 => ?_)
  refine z_aload_n d_P_init_94 rfl ?_
  refine z_sipush d_P_init_95 ⟨by decide, by decide⟩ ?_
  refine z_na_int (o := 53) d_P_init_98 rfl rfl (by decide) (fun w21 => ?_)
  refine z_pf (ci := 5) (j := 10) (ji := 10) d_P_init_100 rfl fl_P_42 rfl rfl rfl rfl rfl rfl (Or.inr ⟨_, rfl⟩) (by decide) rfl rfl (fun w22 => ?_)
  refine z_aload_n d_P_init_103 rfl ?_
  refine z_sipush d_P_init_104 ⟨by decide, by decide⟩ ?_
  refine z_na_int (o := 54) d_P_init_107 rfl rfl (by decide) (fun w23 => ?_)
  refine z_pf (ci := 5) (j := 11) (ji := 11) d_P_init_109 rfl fl_P_45 rfl rfl rfl rfl rfl rfl (Or.inr ⟨_, rfl⟩) (by decide) rfl rfl (fun w24 => ?_)
  refine z_aload_n d_P_init_112 rfl ?_
  refine z_sipush d_P_init_113 ⟨by decide, by decide⟩ ?_
  refine z_na_int (o := 55) d_P_init_116 rfl rfl (by decide) (fun w25 => ?_)
  refine z_pf (ci := 5) (j := 12) (ji := 12) d_P_init_118 rfl fl_P_48 rfl rfl rfl rfl rfl rfl (Or.inr ⟨_, rfl⟩) (by decide) rfl rfl (fun w26 => ?_)
  refine z_aload_n d_P_init_121 rfl ?_
  refine z_ic0 d_P_init_122 ?_
  refine z_pi (ci := 5) (j := 13) (ji := 13) d_P_init_123 rfl fl_P_51 rfl rfl rfl rfl rfl (fun w27 => ?_)
  refine z_aload_n d_P_init_126 rfl ?_
  refine z_ic0 d_P_init_127 ?_
  refine z_pi (ci := 5) (j := 14) (ji := 14) d_P_init_128 rfl fl_P_55 rfl rfl rfl rfl rfl (fun w28 => ?_)
  exact z_vret d_P_init_131 rfl rfl
/-! BubbleTorus$Queues.<init> -/
theorem d_Q_init_0 : decode m_Q_init.2.1 0 = .ok (.aload_n 0, 1) := by decide +kernel
theorem d_Q_init_1 : decode m_Q_init.2.1 1 = .ok (.invokespecial 3, 3) := by decide +kernel
theorem d_Q_init_4 : decode m_Q_init.2.1 4 = .ok (.aload_n 0, 1) := by decide +kernel
theorem d_Q_init_5 : decode m_Q_init.2.1 5 = .ok (.sipush 144, 3) := by decide +kernel
theorem d_Q_init_8 : decode m_Q_init.2.1 8 = .ok (.newarray .int, 2) := by decide +kernel
theorem d_Q_init_10 : decode m_Q_init.2.1 10 = .ok (.putfield 9, 3) := by decide +kernel
theorem d_Q_init_13 : decode m_Q_init.2.1 13 = .ok (.aload_n 0, 1) := by decide +kernel
theorem d_Q_init_14 : decode m_Q_init.2.1 14 = .ok (.sipush 864, 3) := by decide +kernel
theorem d_Q_init_17 : decode m_Q_init.2.1 17 = .ok (.newarray .int, 2) := by decide +kernel
theorem d_Q_init_19 : decode m_Q_init.2.1 19 = .ok (.putfield 15, 3) := by decide +kernel
theorem d_Q_init_22 : decode m_Q_init.2.1 22 = .ok (.return_, 1) := by decide +kernel
def f_Q21_init (w : qMem) : Option (qMem) :=
  qnw w 22 fun w1 =>
  qlt (qud w1 21 0 ((22 : Nat) : Int)) fun w2 =>
  qnw w2 23 fun w3 =>
  qlt (qud w3 21 1 ((23 : Nat) : Int)) fun w4 =>
  some w4
set_option maxRecDepth 4000 in
theorem s_Q21_init (w : qMem) : qSim κV 18 20 m_Q_init 0 [] [some (qR 21)] w (f_Q21_init w) := by
  unfold f_Q21_init
  refine z_aload_n d_Q_init_0 rfl ?_
  refine z_objinit d_Q_init_1 lk_Q_3 (Nat.le_of_ble_eq_true rfl) (Nat.le_of_ble_eq_true rfl) ?_
  refine z_aload_n d_Q_init_4 rfl ?_
  refine z_sipush d_Q_init_5 ⟨by decide, by decide⟩ ?_
  refine z_na_int (o := 22) d_Q_init_8 rfl rfl (by decide) (fun w1 => ?_)
  refine z_pf (ci := 6) (j := 0) (ji := 0) d_Q_init_10 rfl fl_Q_9 rfl rfl rfl rfl rfl rfl (Or.inr ⟨_, rfl⟩) (by decide) rfl rfl (fun w2 => ?_)
  refine z_aload_n d_Q_init_13 rfl ?_
  refine z_sipush d_Q_init_14 ⟨by decide, by decide⟩ ?_
  refine z_na_int (o := 23) d_Q_init_17 rfl rfl (by decide) (fun w3 => ?_)
  refine z_pf (ci := 6) (j := 1) (ji := 1) d_Q_init_19 rfl fl_Q_15 rfl rfl rfl rfl rfl rfl (Or.inr ⟨_, rfl⟩) (by decide) rfl rfl (fun w4 => ?_)
  exact z_vret d_Q_init_22 rfl rfl
/-! BubbleTorus$Queues.<init> -/
def f_Q56_init (w : qMem) : Option (qMem) :=
  qnw w 57 fun w1 =>
  qlt (qud w1 56 0 ((57 : Nat) : Int)) fun w2 =>
  qnw w2 58 fun w3 =>
  qlt (qud w3 56 1 ((58 : Nat) : Int)) fun w4 =>
  some w4
set_option maxRecDepth 4000 in
theorem s_Q56_init (w : qMem) : qSim κV 53 55 m_Q_init 0 [] [some (qR 56)] w (f_Q56_init w) := by
  unfold f_Q56_init
  refine z_aload_n d_Q_init_0 rfl ?_
  refine z_objinit d_Q_init_1 lk_Q_3 (Nat.le_of_ble_eq_true rfl) (Nat.le_of_ble_eq_true rfl) ?_
  refine z_aload_n d_Q_init_4 rfl ?_
  refine z_sipush d_Q_init_5 ⟨by decide, by decide⟩ ?_
  refine z_na_int (o := 57) d_Q_init_8 rfl rfl (by decide) (fun w1 => ?_)
  refine z_pf (ci := 6) (j := 0) (ji := 0) d_Q_init_10 rfl fl_Q_9 rfl rfl rfl rfl rfl rfl (Or.inr ⟨_, rfl⟩) (by decide) rfl rfl (fun w2 => ?_)
  refine z_aload_n d_Q_init_13 rfl ?_
  refine z_sipush d_Q_init_14 ⟨by decide, by decide⟩ ?_
  refine z_na_int (o := 58) d_Q_init_17 rfl rfl (by decide) (fun w3 => ?_)
  refine z_pf (ci := 6) (j := 1) (ji := 1) d_Q_init_19 rfl fl_Q_15 rfl rfl rfl rfl rfl rfl (Or.inr ⟨_, rfl⟩) (by decide) rfl rfl (fun w4 => ?_)
  exact z_vret d_Q_init_22 rfl rfl
/-! BubbleTorus$Moves.<init> -/
theorem d_V_init_0 : decode m_V_init.2.1 0 = .ok (.aload_n 0, 1) := by decide +kernel
theorem d_V_init_1 : decode m_V_init.2.1 1 = .ok (.invokespecial 3, 3) := by decide +kernel
theorem d_V_init_4 : decode m_V_init.2.1 4 = .ok (.aload_n 0, 1) := by decide +kernel
theorem d_V_init_5 : decode m_V_init.2.1 5 = .ok (.sipush 320, 3) := by decide +kernel
theorem d_V_init_8 : decode m_V_init.2.1 8 = .ok (.newarray .int, 2) := by decide +kernel
theorem d_V_init_10 : decode m_V_init.2.1 10 = .ok (.putfield 11, 3) := by decide +kernel
theorem d_V_init_13 : decode m_V_init.2.1 13 = .ok (.aload_n 0, 1) := by decide +kernel
theorem d_V_init_14 : decode m_V_init.2.1 14 = .ok (.iconst 0, 1) := by decide +kernel
theorem d_V_init_15 : decode m_V_init.2.1 15 = .ok (.putfield 15, 3) := by decide +kernel
theorem d_V_init_18 : decode m_V_init.2.1 18 = .ok (.return_, 1) := by decide +kernel
def f_V24_init (w : qMem) : Option (qMem) :=
  qnw w 25 fun w1 =>
  qlt (qud w1 24 0 ((25 : Nat) : Int)) fun w2 =>
  qlt (qud w2 24 1 0) fun w3 =>
  some w3
set_option maxRecDepth 4000 in
theorem s_V24_init (w : qMem) : qSim κV 21 22 m_V_init 0 [] [some (qR 24)] w (f_V24_init w) := by
  unfold f_V24_init
  refine z_aload_n d_V_init_0 rfl ?_
  refine z_objinit d_V_init_1 lk_V_3 (Nat.le_of_ble_eq_true rfl) (Nat.le_of_ble_eq_true rfl) ?_
  refine z_aload_n d_V_init_4 rfl ?_
  refine z_sipush d_V_init_5 ⟨by decide, by decide⟩ ?_
  refine z_na_int (o := 25) d_V_init_8 rfl rfl (by decide) (fun w1 => ?_)
  refine z_pf (ci := 2) (j := 0) (ji := 0) d_V_init_10 rfl fl_V_11 rfl rfl rfl rfl rfl rfl (Or.inr ⟨_, rfl⟩) (by decide) rfl rfl (fun w2 => ?_)
  refine z_aload_n d_V_init_13 rfl ?_
  refine z_ic0 d_V_init_14 ?_
  refine z_pi (ci := 2) (j := 1) (ji := 1) d_V_init_15 rfl fl_V_15 rfl rfl rfl rfl rfl (fun w3 => ?_)
  exact z_vret d_V_init_18 rfl rfl
/-! BubbleTorus$Moves.<init> -/
def f_V59_init (w : qMem) : Option (qMem) :=
  qnw w 60 fun w1 =>
  qlt (qud w1 59 0 ((60 : Nat) : Int)) fun w2 =>
  qlt (qud w2 59 1 0) fun w3 =>
  some w3
set_option maxRecDepth 4000 in
theorem s_V59_init (w : qMem) : qSim κV 56 57 m_V_init 0 [] [some (qR 59)] w (f_V59_init w) := by
  unfold f_V59_init
  refine z_aload_n d_V_init_0 rfl ?_
  refine z_objinit d_V_init_1 lk_V_3 (Nat.le_of_ble_eq_true rfl) (Nat.le_of_ble_eq_true rfl) ?_
  refine z_aload_n d_V_init_4 rfl ?_
  refine z_sipush d_V_init_5 ⟨by decide, by decide⟩ ?_
  refine z_na_int (o := 60) d_V_init_8 rfl rfl (by decide) (fun w1 => ?_)
  refine z_pf (ci := 2) (j := 0) (ji := 0) d_V_init_10 rfl fl_V_11 rfl rfl rfl rfl rfl rfl (Or.inr ⟨_, rfl⟩) (by decide) rfl rfl (fun w2 => ?_)
  refine z_aload_n d_V_init_13 rfl ?_
  refine z_ic0 d_V_init_14 ?_
  refine z_pi (ci := 2) (j := 1) (ji := 1) d_V_init_15 rfl fl_V_15 rfl rfl rfl rfl rfl (fun w3 => ?_)
  exact z_vret d_V_init_18 rfl rfl
/-! BubbleTorus$Rings.<init> -/
theorem d_R_init_0 : decode m_R_init.2.1 0 = .ok (.aload_n 0, 1) := by decide +kernel
theorem d_R_init_1 : decode m_R_init.2.1 1 = .ok (.invokespecial 3, 3) := by decide +kernel
theorem d_R_init_4 : decode m_R_init.2.1 4 = .ok (.aload_n 0, 1) := by decide +kernel
theorem d_R_init_5 : decode m_R_init.2.1 5 = .ok (.bipush 16, 2) := by decide +kernel
theorem d_R_init_7 : decode m_R_init.2.1 7 = .ok (.newarray .int, 2) := by decide +kernel
theorem d_R_init_9 : decode m_R_init.2.1 9 = .ok (.putfield 9, 3) := by decide +kernel
theorem d_R_init_12 : decode m_R_init.2.1 12 = .ok (.aload_n 0, 1) := by decide +kernel
theorem d_R_init_13 : decode m_R_init.2.1 13 = .ok (.bipush 16, 2) := by decide +kernel
theorem d_R_init_15 : decode m_R_init.2.1 15 = .ok (.newarray .int, 2) := by decide +kernel
theorem d_R_init_17 : decode m_R_init.2.1 17 = .ok (.putfield 15, 3) := by decide +kernel
theorem d_R_init_20 : decode m_R_init.2.1 20 = .ok (.aload_n 0, 1) := by decide +kernel
theorem d_R_init_21 : decode m_R_init.2.1 21 = .ok (.bipush 16, 2) := by decide +kernel
theorem d_R_init_23 : decode m_R_init.2.1 23 = .ok (.newarray .int, 2) := by decide +kernel
theorem d_R_init_25 : decode m_R_init.2.1 25 = .ok (.putfield 18, 3) := by decide +kernel
theorem d_R_init_28 : decode m_R_init.2.1 28 = .ok (.aload_n 0, 1) := by decide +kernel
theorem d_R_init_29 : decode m_R_init.2.1 29 = .ok (.bipush 16, 2) := by decide +kernel
theorem d_R_init_31 : decode m_R_init.2.1 31 = .ok (.newarray .int, 2) := by decide +kernel
theorem d_R_init_33 : decode m_R_init.2.1 33 = .ok (.putfield 21, 3) := by decide +kernel
theorem d_R_init_36 : decode m_R_init.2.1 36 = .ok (.aload_n 0, 1) := by decide +kernel
theorem d_R_init_37 : decode m_R_init.2.1 37 = .ok (.bipush 16, 2) := by decide +kernel
theorem d_R_init_39 : decode m_R_init.2.1 39 = .ok (.newarray .int, 2) := by decide +kernel
theorem d_R_init_41 : decode m_R_init.2.1 41 = .ok (.putfield 24, 3) := by decide +kernel
theorem d_R_init_44 : decode m_R_init.2.1 44 = .ok (.aload_n 0, 1) := by decide +kernel
theorem d_R_init_45 : decode m_R_init.2.1 45 = .ok (.bipush 16, 2) := by decide +kernel
theorem d_R_init_47 : decode m_R_init.2.1 47 = .ok (.newarray .int, 2) := by decide +kernel
theorem d_R_init_49 : decode m_R_init.2.1 49 = .ok (.putfield 27, 3) := by decide +kernel
theorem d_R_init_52 : decode m_R_init.2.1 52 = .ok (.aload_n 0, 1) := by decide +kernel
theorem d_R_init_53 : decode m_R_init.2.1 53 = .ok (.bipush 64, 2) := by decide +kernel
theorem d_R_init_55 : decode m_R_init.2.1 55 = .ok (.newarray .int, 2) := by decide +kernel
theorem d_R_init_57 : decode m_R_init.2.1 57 = .ok (.putfield 30, 3) := by decide +kernel
theorem d_R_init_60 : decode m_R_init.2.1 60 = .ok (.aload_n 0, 1) := by decide +kernel
theorem d_R_init_61 : decode m_R_init.2.1 61 = .ok (.bipush 16, 2) := by decide +kernel
theorem d_R_init_63 : decode m_R_init.2.1 63 = .ok (.newarray .int, 2) := by decide +kernel
theorem d_R_init_65 : decode m_R_init.2.1 65 = .ok (.putfield 33, 3) := by decide +kernel
theorem d_R_init_68 : decode m_R_init.2.1 68 = .ok (.aload_n 0, 1) := by decide +kernel
theorem d_R_init_69 : decode m_R_init.2.1 69 = .ok (.bipush 64, 2) := by decide +kernel
theorem d_R_init_71 : decode m_R_init.2.1 71 = .ok (.newarray .boolean, 2) := by decide +kernel
theorem d_R_init_73 : decode m_R_init.2.1 73 = .ok (.putfield 36, 3) := by decide +kernel
theorem d_R_init_76 : decode m_R_init.2.1 76 = .ok (.aload_n 0, 1) := by decide +kernel
theorem d_R_init_77 : decode m_R_init.2.1 77 = .ok (.iconst 0, 1) := by decide +kernel
theorem d_R_init_78 : decode m_R_init.2.1 78 = .ok (.putfield 40, 3) := by decide +kernel
theorem d_R_init_81 : decode m_R_init.2.1 81 = .ok (.return_, 1) := by decide +kernel
def f_R26_init (w : qMem) : Option (qMem) :=
  qnw w 27 fun w1 =>
  qlt (qud w1 26 0 ((27 : Nat) : Int)) fun w2 =>
  qnw w2 28 fun w3 =>
  qlt (qud w3 26 1 ((28 : Nat) : Int)) fun w4 =>
  qnw w4 29 fun w5 =>
  qlt (qud w5 26 2 ((29 : Nat) : Int)) fun w6 =>
  qnw w6 30 fun w7 =>
  qlt (qud w7 26 3 ((30 : Nat) : Int)) fun w8 =>
  qnw w8 31 fun w9 =>
  qlt (qud w9 26 4 ((31 : Nat) : Int)) fun w10 =>
  qnw w10 32 fun w11 =>
  qlt (qud w11 26 5 ((32 : Nat) : Int)) fun w12 =>
  qnw w12 33 fun w13 =>
  qlt (qud w13 26 6 ((33 : Nat) : Int)) fun w14 =>
  qnw w14 34 fun w15 =>
  qlt (qud w15 26 7 ((34 : Nat) : Int)) fun w16 =>
  qnw w16 35 fun w17 =>
  qlt (qud w17 26 8 ((35 : Nat) : Int)) fun w18 =>
  qlt (qud w18 26 9 0) fun w19 =>
  some w19
set_option maxRecDepth 4000 in
theorem s_R26_init (w : qMem) : qSim κV 23 32 m_R_init 0 [] [some (qR 26)] w (f_R26_init w) := by
  unfold f_R26_init
  refine z_aload_n d_R_init_0 rfl ?_
  refine z_objinit d_R_init_1 lk_R_3 (Nat.le_of_ble_eq_true rfl) (Nat.le_of_ble_eq_true rfl) ?_
  refine z_aload_n d_R_init_4 rfl ?_
  refine z_bipush d_R_init_5 ⟨by decide, by decide⟩ ?_
  refine z_na_int (o := 27) d_R_init_7 rfl rfl (by decide) (fun w1 => ?_)
  refine z_pf (ci := 7) (j := 0) (ji := 0) d_R_init_9 rfl fl_R_9 rfl rfl rfl rfl rfl rfl (Or.inr ⟨_, rfl⟩) (by decide) rfl rfl (fun w2 => ?_)
  refine z_aload_n d_R_init_12 rfl ?_
  refine z_bipush d_R_init_13 ⟨by decide, by decide⟩ ?_
  refine z_na_int (o := 28) d_R_init_15 rfl rfl (by decide) (fun w3 => ?_)
  refine z_pf (ci := 7) (j := 1) (ji := 1) d_R_init_17 rfl fl_R_15 rfl rfl rfl rfl rfl rfl (Or.inr ⟨_, rfl⟩) (by decide) rfl rfl (fun w4 => ?_)
  refine z_aload_n d_R_init_20 rfl ?_
  refine z_bipush d_R_init_21 ⟨by decide, by decide⟩ ?_
  refine z_na_int (o := 29) d_R_init_23 rfl rfl (by decide) (fun w5 => ?_)
  refine z_pf (ci := 7) (j := 2) (ji := 2) d_R_init_25 rfl fl_R_18 rfl rfl rfl rfl rfl rfl (Or.inr ⟨_, rfl⟩) (by decide) rfl rfl (fun w6 => ?_)
  refine z_aload_n d_R_init_28 rfl ?_
  refine z_bipush d_R_init_29 ⟨by decide, by decide⟩ ?_
  refine z_na_int (o := 30) d_R_init_31 rfl rfl (by decide) (fun w7 => ?_)
  refine z_pf (ci := 7) (j := 3) (ji := 3) d_R_init_33 rfl fl_R_21 rfl rfl rfl rfl rfl rfl (Or.inr ⟨_, rfl⟩) (by decide) rfl rfl (fun w8 => ?_)
  refine z_aload_n d_R_init_36 rfl ?_
  refine z_bipush d_R_init_37 ⟨by decide, by decide⟩ ?_
  refine z_na_int (o := 31) d_R_init_39 rfl rfl (by decide) (fun w9 => ?_)
  refine z_pf (ci := 7) (j := 4) (ji := 4) d_R_init_41 rfl fl_R_24 rfl rfl rfl rfl rfl rfl (Or.inr ⟨_, rfl⟩) (by decide) rfl rfl (fun w10 => ?_)
  refine z_aload_n d_R_init_44 rfl ?_
  refine z_bipush d_R_init_45 ⟨by decide, by decide⟩ ?_
  refine z_na_int (o := 32) d_R_init_47 rfl rfl (by decide) (fun w11 => ?_)
  refine z_pf (ci := 7) (j := 5) (ji := 5) d_R_init_49 rfl fl_R_27 rfl rfl rfl rfl rfl rfl (Or.inr ⟨_, rfl⟩) (by decide) rfl rfl (fun w12 => ?_)
  refine z_aload_n d_R_init_52 rfl ?_
  refine z_bipush d_R_init_53 ⟨by decide, by decide⟩ ?_
  refine z_na_int (o := 33) d_R_init_55 rfl rfl (by decide) (fun w13 => ?_)
  refine z_pf (ci := 7) (j := 6) (ji := 6) d_R_init_57 rfl fl_R_30 rfl rfl rfl rfl rfl rfl (Or.inr ⟨_, rfl⟩) (by decide) rfl rfl (fun w14 => ?_)
  refine z_aload_n d_R_init_60 rfl ?_
  refine z_bipush d_R_init_61 ⟨by decide, by decide⟩ ?_
  refine z_na_int (o := 34) d_R_init_63 rfl rfl (by decide) (fun w15 => ?_)
  refine z_pf (ci := 7) (j := 7) (ji := 7) d_R_init_65 rfl fl_R_33 rfl rfl rfl rfl rfl rfl (Or.inr ⟨_, rfl⟩) (by decide) rfl rfl (fun w16 => ?_)
  refine z_aload_n d_R_init_68 rfl ?_
  refine z_bipush d_R_init_69 ⟨by decide, by decide⟩ ?_
  refine z_na_boo (o := 35) d_R_init_71 rfl rfl (by decide) (fun w17 => ?_)
  refine z_pf (ci := 7) (j := 8) (ji := 8) d_R_init_73 rfl fl_R_36 rfl rfl rfl rfl rfl rfl (Or.inr ⟨_, rfl⟩) (by decide) rfl rfl (fun w18 => ?_)
  refine z_aload_n d_R_init_76 rfl ?_
  refine z_ic0 d_R_init_77 ?_
  refine z_pi (ci := 7) (j := 9) (ji := 9) d_R_init_78 rfl fl_R_40 rfl rfl rfl rfl rfl (fun w19 => ?_)
  exact z_vret d_R_init_81 rfl rfl
/-! BubbleTorus$Rings.<init> -/
def f_R61_init (w : qMem) : Option (qMem) :=
  qnw w 62 fun w1 =>
  qlt (qud w1 61 0 ((62 : Nat) : Int)) fun w2 =>
  qnw w2 63 fun w3 =>
  qlt (qud w3 61 1 ((63 : Nat) : Int)) fun w4 =>
  qnw w4 64 fun w5 =>
  qlt (qud w5 61 2 ((64 : Nat) : Int)) fun w6 =>
  qnw w6 65 fun w7 =>
  qlt (qud w7 61 3 ((65 : Nat) : Int)) fun w8 =>
  qnw w8 66 fun w9 =>
  qlt (qud w9 61 4 ((66 : Nat) : Int)) fun w10 =>
  qnw w10 67 fun w11 =>
  qlt (qud w11 61 5 ((67 : Nat) : Int)) fun w12 =>
  qnw w12 68 fun w13 =>
  qlt (qud w13 61 6 ((68 : Nat) : Int)) fun w14 =>
  qnw w14 69 fun w15 =>
  qlt (qud w15 61 7 ((69 : Nat) : Int)) fun w16 =>
  qnw w16 70 fun w17 =>
  qlt (qud w17 61 8 ((70 : Nat) : Int)) fun w18 =>
  qlt (qud w18 61 9 0) fun w19 =>
  some w19
set_option maxRecDepth 4000 in
theorem s_R61_init (w : qMem) : qSim κV 58 67 m_R_init 0 [] [some (qR 61)] w (f_R61_init w) := by
  unfold f_R61_init
  refine z_aload_n d_R_init_0 rfl ?_
  refine z_objinit d_R_init_1 lk_R_3 (Nat.le_of_ble_eq_true rfl) (Nat.le_of_ble_eq_true rfl) ?_
  refine z_aload_n d_R_init_4 rfl ?_
  refine z_bipush d_R_init_5 ⟨by decide, by decide⟩ ?_
  refine z_na_int (o := 62) d_R_init_7 rfl rfl (by decide) (fun w1 => ?_)
  refine z_pf (ci := 7) (j := 0) (ji := 0) d_R_init_9 rfl fl_R_9 rfl rfl rfl rfl rfl rfl (Or.inr ⟨_, rfl⟩) (by decide) rfl rfl (fun w2 => ?_)
  refine z_aload_n d_R_init_12 rfl ?_
  refine z_bipush d_R_init_13 ⟨by decide, by decide⟩ ?_
  refine z_na_int (o := 63) d_R_init_15 rfl rfl (by decide) (fun w3 => ?_)
  refine z_pf (ci := 7) (j := 1) (ji := 1) d_R_init_17 rfl fl_R_15 rfl rfl rfl rfl rfl rfl (Or.inr ⟨_, rfl⟩) (by decide) rfl rfl (fun w4 => ?_)
  refine z_aload_n d_R_init_20 rfl ?_
  refine z_bipush d_R_init_21 ⟨by decide, by decide⟩ ?_
  refine z_na_int (o := 64) d_R_init_23 rfl rfl (by decide) (fun w5 => ?_)
  refine z_pf (ci := 7) (j := 2) (ji := 2) d_R_init_25 rfl fl_R_18 rfl rfl rfl rfl rfl rfl (Or.inr ⟨_, rfl⟩) (by decide) rfl rfl (fun w6 => ?_)
  refine z_aload_n d_R_init_28 rfl ?_
  refine z_bipush d_R_init_29 ⟨by decide, by decide⟩ ?_
  refine z_na_int (o := 65) d_R_init_31 rfl rfl (by decide) (fun w7 => ?_)
  refine z_pf (ci := 7) (j := 3) (ji := 3) d_R_init_33 rfl fl_R_21 rfl rfl rfl rfl rfl rfl (Or.inr ⟨_, rfl⟩) (by decide) rfl rfl (fun w8 => ?_)
  refine z_aload_n d_R_init_36 rfl ?_
  refine z_bipush d_R_init_37 ⟨by decide, by decide⟩ ?_
  refine z_na_int (o := 66) d_R_init_39 rfl rfl (by decide) (fun w9 => ?_)
  refine z_pf (ci := 7) (j := 4) (ji := 4) d_R_init_41 rfl fl_R_24 rfl rfl rfl rfl rfl rfl (Or.inr ⟨_, rfl⟩) (by decide) rfl rfl (fun w10 => ?_)
  refine z_aload_n d_R_init_44 rfl ?_
  refine z_bipush d_R_init_45 ⟨by decide, by decide⟩ ?_
  refine z_na_int (o := 67) d_R_init_47 rfl rfl (by decide) (fun w11 => ?_)
  refine z_pf (ci := 7) (j := 5) (ji := 5) d_R_init_49 rfl fl_R_27 rfl rfl rfl rfl rfl rfl (Or.inr ⟨_, rfl⟩) (by decide) rfl rfl (fun w12 => ?_)
  refine z_aload_n d_R_init_52 rfl ?_
  refine z_bipush d_R_init_53 ⟨by decide, by decide⟩ ?_
  refine z_na_int (o := 68) d_R_init_55 rfl rfl (by decide) (fun w13 => ?_)
  refine z_pf (ci := 7) (j := 6) (ji := 6) d_R_init_57 rfl fl_R_30 rfl rfl rfl rfl rfl rfl (Or.inr ⟨_, rfl⟩) (by decide) rfl rfl (fun w14 => ?_)
  refine z_aload_n d_R_init_60 rfl ?_
  refine z_bipush d_R_init_61 ⟨by decide, by decide⟩ ?_
  refine z_na_int (o := 69) d_R_init_63 rfl rfl (by decide) (fun w15 => ?_)
  refine z_pf (ci := 7) (j := 7) (ji := 7) d_R_init_65 rfl fl_R_33 rfl rfl rfl rfl rfl rfl (Or.inr ⟨_, rfl⟩) (by decide) rfl rfl (fun w16 => ?_)
  refine z_aload_n d_R_init_68 rfl ?_
  refine z_bipush d_R_init_69 ⟨by decide, by decide⟩ ?_
  refine z_na_boo (o := 70) d_R_init_71 rfl rfl (by decide) (fun w17 => ?_)
  refine z_pf (ci := 7) (j := 8) (ji := 8) d_R_init_73 rfl fl_R_36 rfl rfl rfl rfl rfl rfl (Or.inr ⟨_, rfl⟩) (by decide) rfl rfl (fun w18 => ?_)
  refine z_aload_n d_R_init_76 rfl ?_
  refine z_ic0 d_R_init_77 ?_
  refine z_pi (ci := 7) (j := 9) (ji := 9) d_R_init_78 rfl fl_R_40 rfl rfl rfl rfl rfl (fun w19 => ?_)
  exact z_vret d_R_init_81 rfl rfl
/-! BubbleTorus$Net.<init> -/
theorem d_N_init_0 : decode m_N_init.2.1 0 = .ok (.aload_n 0, 1) := by decide +kernel
theorem d_N_init_1 : decode m_N_init.2.1 1 = .ok (.invokespecial 3, 3) := by decide +kernel
theorem d_N_init_4 : decode m_N_init.2.1 4 = .ok (.aload_n 0, 1) := by decide +kernel
theorem d_N_init_5 : decode m_N_init.2.1 5 = .ok (.new 9, 3) := by decide +kernel
theorem d_N_init_8 : decode m_N_init.2.1 8 = .ok (.dup, 1) := by decide +kernel
theorem d_N_init_9 : decode m_N_init.2.1 9 = .ok (.invokespecial 11, 3) := by decide +kernel
theorem d_N_init_12 : decode m_N_init.2.1 12 = .ok (.putfield 12, 3) := by decide +kernel
theorem d_N_init_15 : decode m_N_init.2.1 15 = .ok (.aload_n 0, 1) := by decide +kernel
theorem d_N_init_16 : decode m_N_init.2.1 16 = .ok (.new 18, 3) := by decide +kernel
theorem d_N_init_19 : decode m_N_init.2.1 19 = .ok (.dup, 1) := by decide +kernel
theorem d_N_init_20 : decode m_N_init.2.1 20 = .ok (.invokespecial 20, 3) := by decide +kernel
theorem d_N_init_23 : decode m_N_init.2.1 23 = .ok (.putfield 21, 3) := by decide +kernel
theorem d_N_init_26 : decode m_N_init.2.1 26 = .ok (.aload_n 0, 1) := by decide +kernel
theorem d_N_init_27 : decode m_N_init.2.1 27 = .ok (.new 25, 3) := by decide +kernel
theorem d_N_init_30 : decode m_N_init.2.1 30 = .ok (.dup, 1) := by decide +kernel
theorem d_N_init_31 : decode m_N_init.2.1 31 = .ok (.invokespecial 27, 3) := by decide +kernel
theorem d_N_init_34 : decode m_N_init.2.1 34 = .ok (.putfield 28, 3) := by decide +kernel
theorem d_N_init_37 : decode m_N_init.2.1 37 = .ok (.aload_n 0, 1) := by decide +kernel
theorem d_N_init_38 : decode m_N_init.2.1 38 = .ok (.new 32, 3) := by decide +kernel
theorem d_N_init_41 : decode m_N_init.2.1 41 = .ok (.dup, 1) := by decide +kernel
theorem d_N_init_42 : decode m_N_init.2.1 42 = .ok (.invokespecial 34, 3) := by decide +kernel
theorem d_N_init_45 : decode m_N_init.2.1 45 = .ok (.putfield 35, 3) := by decide +kernel
theorem d_N_init_48 : decode m_N_init.2.1 48 = .ok (.aload_n 0, 1) := by decide +kernel
theorem d_N_init_49 : decode m_N_init.2.1 49 = .ok (.new 39, 3) := by decide +kernel
theorem d_N_init_52 : decode m_N_init.2.1 52 = .ok (.dup, 1) := by decide +kernel
theorem d_N_init_53 : decode m_N_init.2.1 53 = .ok (.invokespecial 41, 3) := by decide +kernel
theorem d_N_init_56 : decode m_N_init.2.1 56 = .ok (.putfield 42, 3) := by decide +kernel
theorem d_N_init_59 : decode m_N_init.2.1 59 = .ok (.aload_n 0, 1) := by decide +kernel
theorem d_N_init_60 : decode m_N_init.2.1 60 = .ok (.bipush 64, 2) := by decide +kernel
theorem d_N_init_62 : decode m_N_init.2.1 62 = .ok (.newarray .int, 2) := by decide +kernel
theorem d_N_init_64 : decode m_N_init.2.1 64 = .ok (.putfield 46, 3) := by decide +kernel
theorem d_N_init_67 : decode m_N_init.2.1 67 = .ok (.aload_n 0, 1) := by decide +kernel
theorem d_N_init_68 : decode m_N_init.2.1 68 = .ok (.iconst 1, 1) := by decide +kernel
theorem d_N_init_69 : decode m_N_init.2.1 69 = .ok (.putfield 50, 3) := by decide +kernel
theorem d_N_init_72 : decode m_N_init.2.1 72 = .ok (.aload_n 0, 1) := by decide +kernel
theorem d_N_init_73 : decode m_N_init.2.1 73 = .ok (.iconst 0, 1) := by decide +kernel
theorem d_N_init_74 : decode m_N_init.2.1 74 = .ok (.putfield 54, 3) := by decide +kernel
theorem d_N_init_77 : decode m_N_init.2.1 77 = .ok (.aload_n 0, 1) := by decide +kernel
theorem d_N_init_78 : decode m_N_init.2.1 78 = .ok (.iconst 0, 1) := by decide +kernel
theorem d_N_init_79 : decode m_N_init.2.1 79 = .ok (.putfield 57, 3) := by decide +kernel
theorem d_N_init_82 : decode m_N_init.2.1 82 = .ok (.aload_n 0, 1) := by decide +kernel
theorem d_N_init_83 : decode m_N_init.2.1 83 = .ok (.iconst 0, 1) := by decide +kernel
theorem d_N_init_84 : decode m_N_init.2.1 84 = .ok (.putfield 60, 3) := by decide +kernel
theorem d_N_init_87 : decode m_N_init.2.1 87 = .ok (.aload_n 0, 1) := by decide +kernel
theorem d_N_init_88 : decode m_N_init.2.1 88 = .ok (.iconst 0, 1) := by decide +kernel
theorem d_N_init_89 : decode m_N_init.2.1 89 = .ok (.putfield 63, 3) := by decide +kernel
theorem d_N_init_92 : decode m_N_init.2.1 92 = .ok (.aload_n 0, 1) := by decide +kernel
theorem d_N_init_93 : decode m_N_init.2.1 93 = .ok (.iconst 0, 1) := by decide +kernel
theorem d_N_init_94 : decode m_N_init.2.1 94 = .ok (.putfield 66, 3) := by decide +kernel
theorem d_N_init_97 : decode m_N_init.2.1 97 = .ok (.aload_n 0, 1) := by decide +kernel
theorem d_N_init_98 : decode m_N_init.2.1 98 = .ok (.iconst 0, 1) := by decide +kernel
theorem d_N_init_99 : decode m_N_init.2.1 99 = .ok (.putfield 69, 3) := by decide +kernel
theorem d_N_init_102 : decode m_N_init.2.1 102 = .ok (.return_, 1) := by decide +kernel
def f_N2_init (w : qMem) : Option (qMem) :=
  qnw w 3 fun w1 =>
  (f_G3_init w1).bind fun q2 =>
  qlt (qud q2 2 0 ((3 : Nat) : Int)) fun w3 =>
  qnw w3 7 fun w4 =>
  (f_P7_init w4).bind fun q5 =>
  qlt (qud q5 2 1 ((7 : Nat) : Int)) fun w6 =>
  qnw w6 21 fun w7 =>
  (f_Q21_init w7).bind fun q8 =>
  qlt (qud q8 2 2 ((21 : Nat) : Int)) fun w9 =>
  qnw w9 24 fun w10 =>
  (f_V24_init w10).bind fun q11 =>
  qlt (qud q11 2 3 ((24 : Nat) : Int)) fun w12 =>
  qnw w12 26 fun w13 =>
  (f_R26_init w13).bind fun q14 =>
  qlt (qud q14 2 4 ((26 : Nat) : Int)) fun w15 =>
  qnw w15 36 fun w16 =>
  qlt (qud w16 2 5 ((36 : Nat) : Int)) fun w17 =>
  qlt (qud w17 2 6 1) fun w18 =>
  qlt (qud w18 2 7 0) fun w19 =>
  qlt (qud w19 2 8 0) fun w20 =>
  qlt (qud w20 2 9 0) fun w21 =>
  qlt (qud w21 2 10 0) fun w22 =>
  qlt (qud w22 2 11 0) fun w23 =>
  qlt (qud w23 2 12 0) fun w24 =>
  some w24
set_option maxRecDepth 4000 in
theorem s_N2_init (w : qMem) : qSim κV 0 34 m_N_init 0 [] [some (qR 2)] w (f_N2_init w) := by
  unfold f_N2_init
  refine z_aload_n d_N_init_0 rfl ?_
  refine z_objinit d_N_init_1 lk_N_3 (Nat.le_of_ble_eq_true rfl) (Nat.le_of_ble_eq_true rfl) ?_
  refine z_aload_n d_N_init_4 rfl ?_
  refine z_nw (ci := 0) (o := 3) d_N_init_5 rfl cl_N_9 ist_G ini_G rfl (by decide) (fun w1 => ?_)
  refine z_dup d_N_init_8 rfl ?_
  refine z_cIV (as := []) (st := [qR 3, qR 2]) (nl := 0) d_N_init_9 lk_N_11 mk_G_init rfl rfl (by decide) rfl rfl rfl (s_G3_init _) (fun q2 _ => ?_)
  refine z_pf (ci := 3) (j := 0) (ji := 0) d_N_init_12 rfl fl_N_12 rfl rfl rfl rfl rfl rfl (Or.inl ⟨_, rfl⟩) (by decide) rfl rfl (fun w3 => ?_)
  refine z_aload_n d_N_init_15 rfl ?_
  refine z_nw (ci := 5) (o := 7) d_N_init_16 rfl cl_N_18 ist_P ini_P rfl (by decide) (fun w4 => ?_)
  refine z_dup d_N_init_19 rfl ?_
  refine z_cINV (as := []) (st := [qR 7, qR 2]) (nl := 0) d_N_init_20 lk_N_20 mk_P_init rfl rfl (by decide) rfl rfl rfl (s_P7_init _) (fun q5 _ => ?_)
  refine z_pf (ci := 3) (j := 1) (ji := 1) d_N_init_23 rfl fl_N_21 rfl rfl rfl rfl rfl rfl (Or.inl ⟨_, rfl⟩) (by decide) rfl rfl (fun w6 => ?_)
  refine z_aload_n d_N_init_26 rfl ?_
  refine z_nw (ci := 6) (o := 21) d_N_init_27 rfl cl_N_25 ist_Q ini_Q rfl (by decide) (fun w7 => ?_)
  refine z_dup d_N_init_30 rfl ?_
  refine z_cINV (as := []) (st := [qR 21, qR 2]) (nl := 0) d_N_init_31 lk_N_27 mk_Q_init rfl rfl (by decide) rfl rfl rfl (s_Q21_init _) (fun q8 _ => ?_)
  refine z_pf (ci := 3) (j := 2) (ji := 2) d_N_init_34 rfl fl_N_28 rfl rfl rfl rfl rfl rfl (Or.inl ⟨_, rfl⟩) (by decide) rfl rfl (fun w9 => ?_)
  refine z_aload_n d_N_init_37 rfl ?_
  refine z_nw (ci := 2) (o := 24) d_N_init_38 rfl cl_N_32 ist_V ini_V rfl (by decide) (fun w10 => ?_)
  refine z_dup d_N_init_41 rfl ?_
  refine z_cINV (as := []) (st := [qR 24, qR 2]) (nl := 0) d_N_init_42 lk_N_34 mk_V_init rfl rfl (by decide) rfl rfl rfl (s_V24_init _) (fun q11 _ => ?_)
  refine z_pf (ci := 3) (j := 3) (ji := 3) d_N_init_45 rfl fl_N_35 rfl rfl rfl rfl rfl rfl (Or.inl ⟨_, rfl⟩) (by decide) rfl rfl (fun w12 => ?_)
  refine z_aload_n d_N_init_48 rfl ?_
  refine z_nw (ci := 7) (o := 26) d_N_init_49 rfl cl_N_39 ist_R ini_R rfl (by decide) (fun w13 => ?_)
  refine z_dup d_N_init_52 rfl ?_
  refine z_cINV (as := []) (st := [qR 26, qR 2]) (nl := 0) d_N_init_53 lk_N_41 mk_R_init rfl rfl (by decide) rfl rfl rfl (s_R26_init _) (fun q14 _ => ?_)
  refine z_pf (ci := 3) (j := 4) (ji := 4) d_N_init_56 rfl fl_N_42 rfl rfl rfl rfl rfl rfl (Or.inl ⟨_, rfl⟩) (by decide) rfl rfl (fun w15 => ?_)
  refine z_aload_n d_N_init_59 rfl ?_
  refine z_bipush d_N_init_60 ⟨by decide, by decide⟩ ?_
  refine z_na_int (o := 36) d_N_init_62 rfl rfl (by decide) (fun w16 => ?_)
  refine z_pf (ci := 3) (j := 5) (ji := 5) d_N_init_64 rfl fl_N_46 rfl rfl rfl rfl rfl rfl (Or.inr ⟨_, rfl⟩) (by decide) rfl rfl (fun w17 => ?_)
  refine z_aload_n d_N_init_67 rfl ?_
  refine z_ic1 d_N_init_68 ?_
  refine z_pi (ci := 3) (j := 6) (ji := 6) d_N_init_69 rfl fl_N_50 rfl rfl rfl rfl rfl (fun w18 => ?_)
  refine z_aload_n d_N_init_72 rfl ?_
  refine z_ic0 d_N_init_73 ?_
  refine z_pi (ci := 3) (j := 7) (ji := 7) d_N_init_74 rfl fl_N_54 rfl rfl rfl rfl rfl (fun w19 => ?_)
  refine z_aload_n d_N_init_77 rfl ?_
  refine z_ic0 d_N_init_78 ?_
  refine z_pi (ci := 3) (j := 8) (ji := 8) d_N_init_79 rfl fl_N_57 rfl rfl rfl rfl rfl (fun w20 => ?_)
  refine z_aload_n d_N_init_82 rfl ?_
  refine z_ic0 d_N_init_83 ?_
  refine z_pi (ci := 3) (j := 9) (ji := 9) d_N_init_84 rfl fl_N_60 rfl rfl rfl rfl rfl (fun w21 => ?_)
  refine z_aload_n d_N_init_87 rfl ?_
  refine z_ic0 d_N_init_88 ?_
  refine z_pi (ci := 3) (j := 10) (ji := 10) d_N_init_89 rfl fl_N_63 rfl rfl rfl rfl rfl (fun w22 => ?_)
  refine z_aload_n d_N_init_92 rfl ?_
  refine z_ic0 d_N_init_93 ?_
  refine z_pi (ci := 3) (j := 11) (ji := 11) d_N_init_94 rfl fl_N_66 rfl rfl rfl rfl rfl (fun w23 => ?_)
  refine z_aload_n d_N_init_97 rfl ?_
  refine z_ic0 d_N_init_98 ?_
  refine z_pi (ci := 3) (j := 12) (ji := 12) d_N_init_99 rfl fl_N_69 rfl rfl rfl rfl rfl (fun w24 => ?_)
  exact z_vret d_N_init_102 rfl rfl
/-! BubbleTorus$Net.<init> -/
def f_N37_init (w : qMem) : Option (qMem) :=
  qnw w 38 fun w1 =>
  (f_G38_init w1).bind fun q2 =>
  qlt (qud q2 37 0 ((38 : Nat) : Int)) fun w3 =>
  qnw w3 42 fun w4 =>
  (f_P42_init w4).bind fun q5 =>
  qlt (qud q5 37 1 ((42 : Nat) : Int)) fun w6 =>
  qnw w6 56 fun w7 =>
  (f_Q56_init w7).bind fun q8 =>
  qlt (qud q8 37 2 ((56 : Nat) : Int)) fun w9 =>
  qnw w9 59 fun w10 =>
  (f_V59_init w10).bind fun q11 =>
  qlt (qud q11 37 3 ((59 : Nat) : Int)) fun w12 =>
  qnw w12 61 fun w13 =>
  (f_R61_init w13).bind fun q14 =>
  qlt (qud q14 37 4 ((61 : Nat) : Int)) fun w15 =>
  qnw w15 71 fun w16 =>
  qlt (qud w16 37 5 ((71 : Nat) : Int)) fun w17 =>
  qlt (qud w17 37 6 1) fun w18 =>
  qlt (qud w18 37 7 0) fun w19 =>
  qlt (qud w19 37 8 0) fun w20 =>
  qlt (qud w20 37 9 0) fun w21 =>
  qlt (qud w21 37 10 0) fun w22 =>
  qlt (qud w22 37 11 0) fun w23 =>
  qlt (qud w23 37 12 0) fun w24 =>
  some w24
set_option maxRecDepth 4000 in
theorem s_N37_init (w : qMem) : qSim κV 35 69 m_N_init 0 [] [some (qR 37)] w (f_N37_init w) := by
  unfold f_N37_init
  refine z_aload_n d_N_init_0 rfl ?_
  refine z_objinit d_N_init_1 lk_N_3 (Nat.le_of_ble_eq_true rfl) (Nat.le_of_ble_eq_true rfl) ?_
  refine z_aload_n d_N_init_4 rfl ?_
  refine z_nw (ci := 0) (o := 38) d_N_init_5 rfl cl_N_9 ist_G ini_G rfl (by decide) (fun w1 => ?_)
  refine z_dup d_N_init_8 rfl ?_
  refine z_cIV (as := []) (st := [qR 38, qR 37]) (nl := 0) d_N_init_9 lk_N_11 mk_G_init rfl rfl (by decide) rfl rfl rfl (s_G38_init _) (fun q2 _ => ?_)
  refine z_pf (ci := 3) (j := 0) (ji := 0) d_N_init_12 rfl fl_N_12 rfl rfl rfl rfl rfl rfl (Or.inl ⟨_, rfl⟩) (by decide) rfl rfl (fun w3 => ?_)
  refine z_aload_n d_N_init_15 rfl ?_
  refine z_nw (ci := 5) (o := 42) d_N_init_16 rfl cl_N_18 ist_P ini_P rfl (by decide) (fun w4 => ?_)
  refine z_dup d_N_init_19 rfl ?_
  refine z_cINV (as := []) (st := [qR 42, qR 37]) (nl := 0) d_N_init_20 lk_N_20 mk_P_init rfl rfl (by decide) rfl rfl rfl (s_P42_init _) (fun q5 _ => ?_)
  refine z_pf (ci := 3) (j := 1) (ji := 1) d_N_init_23 rfl fl_N_21 rfl rfl rfl rfl rfl rfl (Or.inl ⟨_, rfl⟩) (by decide) rfl rfl (fun w6 => ?_)
  refine z_aload_n d_N_init_26 rfl ?_
  refine z_nw (ci := 6) (o := 56) d_N_init_27 rfl cl_N_25 ist_Q ini_Q rfl (by decide) (fun w7 => ?_)
  refine z_dup d_N_init_30 rfl ?_
  refine z_cINV (as := []) (st := [qR 56, qR 37]) (nl := 0) d_N_init_31 lk_N_27 mk_Q_init rfl rfl (by decide) rfl rfl rfl (s_Q56_init _) (fun q8 _ => ?_)
  refine z_pf (ci := 3) (j := 2) (ji := 2) d_N_init_34 rfl fl_N_28 rfl rfl rfl rfl rfl rfl (Or.inl ⟨_, rfl⟩) (by decide) rfl rfl (fun w9 => ?_)
  refine z_aload_n d_N_init_37 rfl ?_
  refine z_nw (ci := 2) (o := 59) d_N_init_38 rfl cl_N_32 ist_V ini_V rfl (by decide) (fun w10 => ?_)
  refine z_dup d_N_init_41 rfl ?_
  refine z_cINV (as := []) (st := [qR 59, qR 37]) (nl := 0) d_N_init_42 lk_N_34 mk_V_init rfl rfl (by decide) rfl rfl rfl (s_V59_init _) (fun q11 _ => ?_)
  refine z_pf (ci := 3) (j := 3) (ji := 3) d_N_init_45 rfl fl_N_35 rfl rfl rfl rfl rfl rfl (Or.inl ⟨_, rfl⟩) (by decide) rfl rfl (fun w12 => ?_)
  refine z_aload_n d_N_init_48 rfl ?_
  refine z_nw (ci := 7) (o := 61) d_N_init_49 rfl cl_N_39 ist_R ini_R rfl (by decide) (fun w13 => ?_)
  refine z_dup d_N_init_52 rfl ?_
  refine z_cINV (as := []) (st := [qR 61, qR 37]) (nl := 0) d_N_init_53 lk_N_41 mk_R_init rfl rfl (by decide) rfl rfl rfl (s_R61_init _) (fun q14 _ => ?_)
  refine z_pf (ci := 3) (j := 4) (ji := 4) d_N_init_56 rfl fl_N_42 rfl rfl rfl rfl rfl rfl (Or.inl ⟨_, rfl⟩) (by decide) rfl rfl (fun w15 => ?_)
  refine z_aload_n d_N_init_59 rfl ?_
  refine z_bipush d_N_init_60 ⟨by decide, by decide⟩ ?_
  refine z_na_int (o := 71) d_N_init_62 rfl rfl (by decide) (fun w16 => ?_)
  refine z_pf (ci := 3) (j := 5) (ji := 5) d_N_init_64 rfl fl_N_46 rfl rfl rfl rfl rfl rfl (Or.inr ⟨_, rfl⟩) (by decide) rfl rfl (fun w17 => ?_)
  refine z_aload_n d_N_init_67 rfl ?_
  refine z_ic1 d_N_init_68 ?_
  refine z_pi (ci := 3) (j := 6) (ji := 6) d_N_init_69 rfl fl_N_50 rfl rfl rfl rfl rfl (fun w18 => ?_)
  refine z_aload_n d_N_init_72 rfl ?_
  refine z_ic0 d_N_init_73 ?_
  refine z_pi (ci := 3) (j := 7) (ji := 7) d_N_init_74 rfl fl_N_54 rfl rfl rfl rfl rfl (fun w19 => ?_)
  refine z_aload_n d_N_init_77 rfl ?_
  refine z_ic0 d_N_init_78 ?_
  refine z_pi (ci := 3) (j := 8) (ji := 8) d_N_init_79 rfl fl_N_57 rfl rfl rfl rfl rfl (fun w20 => ?_)
  refine z_aload_n d_N_init_82 rfl ?_
  refine z_ic0 d_N_init_83 ?_
  refine z_pi (ci := 3) (j := 9) (ji := 9) d_N_init_84 rfl fl_N_60 rfl rfl rfl rfl rfl (fun w21 => ?_)
  refine z_aload_n d_N_init_87 rfl ?_
  refine z_ic0 d_N_init_88 ?_
  refine z_pi (ci := 3) (j := 10) (ji := 10) d_N_init_89 rfl fl_N_63 rfl rfl rfl rfl rfl (fun w22 => ?_)
  refine z_aload_n d_N_init_92 rfl ?_
  refine z_ic0 d_N_init_93 ?_
  refine z_pi (ci := 3) (j := 11) (ji := 11) d_N_init_94 rfl fl_N_66 rfl rfl rfl rfl rfl (fun w23 => ?_)
  refine z_aload_n d_N_init_97 rfl ?_
  refine z_ic0 d_N_init_98 ?_
  refine z_pi (ci := 3) (j := 12) (ji := 12) d_N_init_99 rfl fl_N_69 rfl rfl rfl rfl rfl (fun w24 => ?_)
  exact z_vret d_N_init_102 rfl rfl
/-! BubbleTorus$Outlook.<init> -/
theorem d_O_init_0 : decode m_O_init.2.1 0 = .ok (.aload_n 0, 1) := by decide +kernel
theorem d_O_init_1 : decode m_O_init.2.1 1 = .ok (.invokespecial 3, 3) := by decide +kernel
theorem d_O_init_4 : decode m_O_init.2.1 4 = .ok (.aload_n 0, 1) := by decide +kernel
theorem d_O_init_5 : decode m_O_init.2.1 5 = .ok (.sipush 144, 3) := by decide +kernel
theorem d_O_init_8 : decode m_O_init.2.1 8 = .ok (.newarray .boolean, 2) := by decide +kernel
theorem d_O_init_10 : decode m_O_init.2.1 10 = .ok (.putfield 9, 3) := by decide +kernel
theorem d_O_init_13 : decode m_O_init.2.1 13 = .ok (.return_, 1) := by decide +kernel
def f_O_init (w : qMem) : Option (qMem) :=
  qnw w 73 fun w1 =>
  qlt (qud w1 72 0 ((73 : Nat) : Int)) fun w2 =>
  some w2
set_option maxRecDepth 4000 in
theorem s_O_init (w : qMem) : qSim κV 71 72 m_O_init 0 [] [some (qR 72)] w (f_O_init w) := by
  unfold f_O_init
  refine z_aload_n d_O_init_0 rfl ?_
  refine z_objinit d_O_init_1 lk_O_3 (Nat.le_of_ble_eq_true rfl) (Nat.le_of_ble_eq_true rfl) ?_
  refine z_aload_n d_O_init_4 rfl ?_
  refine z_sipush d_O_init_5 ⟨by decide, by decide⟩ ?_
  refine z_na_boo (o := 73) d_O_init_8 rfl rfl (by decide) (fun w1 => ?_)
  refine z_pf (ci := 4) (j := 0) (ji := 0) d_O_init_10 rfl fl_O_9 rfl rfl rfl rfl rfl rfl (Or.inr ⟨_, rfl⟩) (by decide) rfl rfl (fun w2 => ?_)
  exact z_vret d_O_init_13 rfl rfl
/-! BubbleTorus$Search.<init> -/
theorem d_S_init_0 : decode m_S_init.2.1 0 = .ok (.aload_n 0, 1) := by decide +kernel
theorem d_S_init_1 : decode m_S_init.2.1 1 = .ok (.invokespecial 3, 3) := by decide +kernel
theorem d_S_init_4 : decode m_S_init.2.1 4 = .ok (.aload_n 0, 1) := by decide +kernel
theorem d_S_init_5 : decode m_S_init.2.1 5 = .ok (.sipush 400, 3) := by decide +kernel
theorem d_S_init_8 : decode m_S_init.2.1 8 = .ok (.newarray .long, 2) := by decide +kernel
theorem d_S_init_10 : decode m_S_init.2.1 10 = .ok (.putfield 11, 3) := by decide +kernel
theorem d_S_init_13 : decode m_S_init.2.1 13 = .ok (.aload_n 0, 1) := by decide +kernel
theorem d_S_init_14 : decode m_S_init.2.1 14 = .ok (.sipush 400, 3) := by decide +kernel
theorem d_S_init_17 : decode m_S_init.2.1 17 = .ok (.newarray .int, 2) := by decide +kernel
theorem d_S_init_19 : decode m_S_init.2.1 19 = .ok (.putfield 15, 3) := by decide +kernel
theorem d_S_init_22 : decode m_S_init.2.1 22 = .ok (.aload_n 0, 1) := by decide +kernel
theorem d_S_init_23 : decode m_S_init.2.1 23 = .ok (.iconst 3, 1) := by decide +kernel
theorem d_S_init_24 : decode m_S_init.2.1 24 = .ok (.newarray .int, 2) := by decide +kernel
theorem d_S_init_26 : decode m_S_init.2.1 26 = .ok (.putfield 19, 3) := by decide +kernel
theorem d_S_init_29 : decode m_S_init.2.1 29 = .ok (.aload_n 0, 1) := by decide +kernel
theorem d_S_init_30 : decode m_S_init.2.1 30 = .ok (.iconst 3, 1) := by decide +kernel
theorem d_S_init_31 : decode m_S_init.2.1 31 = .ok (.newarray .int, 2) := by decide +kernel
theorem d_S_init_33 : decode m_S_init.2.1 33 = .ok (.putfield 22, 3) := by decide +kernel
theorem d_S_init_36 : decode m_S_init.2.1 36 = .ok (.aload_n 0, 1) := by decide +kernel
theorem d_S_init_37 : decode m_S_init.2.1 37 = .ok (.iconst 3, 1) := by decide +kernel
theorem d_S_init_38 : decode m_S_init.2.1 38 = .ok (.newarray .int, 2) := by decide +kernel
theorem d_S_init_40 : decode m_S_init.2.1 40 = .ok (.putfield 25, 3) := by decide +kernel
theorem d_S_init_43 : decode m_S_init.2.1 43 = .ok (.aload_n 0, 1) := by decide +kernel
theorem d_S_init_44 : decode m_S_init.2.1 44 = .ok (.iconst 5, 1) := by decide +kernel
theorem d_S_init_45 : decode m_S_init.2.1 45 = .ok (.newarray .int, 2) := by decide +kernel
theorem d_S_init_47 : decode m_S_init.2.1 47 = .ok (.putfield 28, 3) := by decide +kernel
theorem d_S_init_50 : decode m_S_init.2.1 50 = .ok (.aload_n 0, 1) := by decide +kernel
theorem d_S_init_51 : decode m_S_init.2.1 51 = .ok (.iconst 0, 1) := by decide +kernel
theorem d_S_init_52 : decode m_S_init.2.1 52 = .ok (.putfield 31, 3) := by decide +kernel
theorem d_S_init_55 : decode m_S_init.2.1 55 = .ok (.aload_n 0, 1) := by decide +kernel
theorem d_S_init_56 : decode m_S_init.2.1 56 = .ok (.iconst 0, 1) := by decide +kernel
theorem d_S_init_57 : decode m_S_init.2.1 57 = .ok (.putfield 35, 3) := by decide +kernel
theorem d_S_init_60 : decode m_S_init.2.1 60 = .ok (.aload_n 0, 1) := by decide +kernel
theorem d_S_init_61 : decode m_S_init.2.1 61 = .ok (.iconst 0, 1) := by decide +kernel
theorem d_S_init_62 : decode m_S_init.2.1 62 = .ok (.putfield 38, 3) := by decide +kernel
theorem d_S_init_65 : decode m_S_init.2.1 65 = .ok (.aload_n 0, 1) := by decide +kernel
theorem d_S_init_66 : decode m_S_init.2.1 66 = .ok (.iconst 0, 1) := by decide +kernel
theorem d_S_init_67 : decode m_S_init.2.1 67 = .ok (.putfield 41, 3) := by decide +kernel
theorem d_S_init_70 : decode m_S_init.2.1 70 = .ok (.return_, 1) := by decide +kernel
def f_S_init (w : qMem) : Option (qMem) :=
  qnw w 75 fun w1 =>
  qlt (qud w1 74 0 ((75 : Nat) : Int)) fun w2 =>
  qnw w2 76 fun w3 =>
  qlt (qud w3 74 1 ((76 : Nat) : Int)) fun w4 =>
  qnw w4 77 fun w5 =>
  qlt (qud w5 74 2 ((77 : Nat) : Int)) fun w6 =>
  qnw w6 78 fun w7 =>
  qlt (qud w7 74 3 ((78 : Nat) : Int)) fun w8 =>
  qnw w8 79 fun w9 =>
  qlt (qud w9 74 4 ((79 : Nat) : Int)) fun w10 =>
  qnw w10 80 fun w11 =>
  qlt (qud w11 74 5 ((80 : Nat) : Int)) fun w12 =>
  qlt (qud w12 74 6 0) fun w13 =>
  qlt (qud w13 74 7 0) fun w14 =>
  qlt (qud w14 74 8 0) fun w15 =>
  qlt (qud w15 74 9 0) fun w16 =>
  some w16
set_option maxRecDepth 4000 in
theorem s_S_init (w : qMem) : qSim κV 73 79 m_S_init 0 [] [some (qR 74)] w (f_S_init w) := by
  unfold f_S_init
  refine z_aload_n d_S_init_0 rfl ?_
  refine z_objinit d_S_init_1 lk_S_3 (Nat.le_of_ble_eq_true rfl) (Nat.le_of_ble_eq_true rfl) ?_
  refine z_aload_n d_S_init_4 rfl ?_
  refine z_sipush d_S_init_5 ⟨by decide, by decide⟩ ?_
  refine z_na_lon (o := 75) d_S_init_8 rfl rfl (by decide) (fun w1 => ?_)
  refine z_pf (ci := 8) (j := 0) (ji := 0) d_S_init_10 rfl fl_S_11 rfl rfl rfl rfl rfl rfl (Or.inr ⟨_, rfl⟩) (by decide) rfl rfl (fun w2 => ?_)
  refine z_aload_n d_S_init_13 rfl ?_
  refine z_sipush d_S_init_14 ⟨by decide, by decide⟩ ?_
  refine z_na_int (o := 76) d_S_init_17 rfl rfl (by decide) (fun w3 => ?_)
  refine z_pf (ci := 8) (j := 1) (ji := 1) d_S_init_19 rfl fl_S_15 rfl rfl rfl rfl rfl rfl (Or.inr ⟨_, rfl⟩) (by decide) rfl rfl (fun w4 => ?_)
  refine z_aload_n d_S_init_22 rfl ?_
  refine z_ic3 d_S_init_23 ?_
  refine z_na_int (o := 77) d_S_init_24 rfl rfl (by decide) (fun w5 => ?_)
  refine z_pf (ci := 8) (j := 2) (ji := 2) d_S_init_26 rfl fl_S_19 rfl rfl rfl rfl rfl rfl (Or.inr ⟨_, rfl⟩) (by decide) rfl rfl (fun w6 => ?_)
  refine z_aload_n d_S_init_29 rfl ?_
  refine z_ic3 d_S_init_30 ?_
  refine z_na_int (o := 78) d_S_init_31 rfl rfl (by decide) (fun w7 => ?_)
  refine z_pf (ci := 8) (j := 3) (ji := 3) d_S_init_33 rfl fl_S_22 rfl rfl rfl rfl rfl rfl (Or.inr ⟨_, rfl⟩) (by decide) rfl rfl (fun w8 => ?_)
  refine z_aload_n d_S_init_36 rfl ?_
  refine z_ic3 d_S_init_37 ?_
  refine z_na_int (o := 79) d_S_init_38 rfl rfl (by decide) (fun w9 => ?_)
  refine z_pf (ci := 8) (j := 4) (ji := 4) d_S_init_40 rfl fl_S_25 rfl rfl rfl rfl rfl rfl (Or.inr ⟨_, rfl⟩) (by decide) rfl rfl (fun w10 => ?_)
  refine z_aload_n d_S_init_43 rfl ?_
  refine z_ic5 d_S_init_44 ?_
  refine z_na_int (o := 80) d_S_init_45 rfl rfl (by decide) (fun w11 => ?_)
  refine z_pf (ci := 8) (j := 5) (ji := 5) d_S_init_47 rfl fl_S_28 rfl rfl rfl rfl rfl rfl (Or.inr ⟨_, rfl⟩) (by decide) rfl rfl (fun w12 => ?_)
  refine z_aload_n d_S_init_50 rfl ?_
  refine z_ic0 d_S_init_51 ?_
  refine z_pi (ci := 8) (j := 6) (ji := 6) d_S_init_52 rfl fl_S_31 rfl rfl rfl rfl rfl (fun w13 => ?_)
  refine z_aload_n d_S_init_55 rfl ?_
  refine z_ic0 d_S_init_56 ?_
  refine z_pi (ci := 8) (j := 7) (ji := 7) d_S_init_57 rfl fl_S_35 rfl rfl rfl rfl rfl (fun w14 => ?_)
  refine z_aload_n d_S_init_60 rfl ?_
  refine z_ic0 d_S_init_61 ?_
  refine z_pi (ci := 8) (j := 8) (ji := 8) d_S_init_62 rfl fl_S_38 rfl rfl rfl rfl rfl (fun w15 => ?_)
  refine z_aload_n d_S_init_65 rfl ?_
  refine z_ic0 d_S_init_66 ?_
  refine z_pz (ci := 8) (j := 9) (ji := 9) d_S_init_67 rfl fl_S_41 rfl rfl rfl rfl rfl (Or.inl rfl) (fun w16 => ?_)
  exact z_vret d_S_init_70 rfl rfl
/-! BubbleTorus$LoneRing.<init> -/
theorem d_L_init_0 : decode m_L_init.2.1 0 = .ok (.aload_n 0, 1) := by decide +kernel
theorem d_L_init_1 : decode m_L_init.2.1 1 = .ok (.invokespecial 3, 3) := by decide +kernel
theorem d_L_init_4 : decode m_L_init.2.1 4 = .ok (.aload_n 0, 1) := by decide +kernel
theorem d_L_init_5 : decode m_L_init.2.1 5 = .ok (.sipush 168, 3) := by decide +kernel
theorem d_L_init_8 : decode m_L_init.2.1 8 = .ok (.newarray .int, 2) := by decide +kernel
theorem d_L_init_10 : decode m_L_init.2.1 10 = .ok (.putfield 11, 3) := by decide +kernel
theorem d_L_init_13 : decode m_L_init.2.1 13 = .ok (.aload_n 0, 1) := by decide +kernel
theorem d_L_init_14 : decode m_L_init.2.1 14 = .ok (.bipush 21, 2) := by decide +kernel
theorem d_L_init_16 : decode m_L_init.2.1 16 = .ok (.newarray .boolean, 2) := by decide +kernel
theorem d_L_init_18 : decode m_L_init.2.1 18 = .ok (.putfield 15, 3) := by decide +kernel
theorem d_L_init_21 : decode m_L_init.2.1 21 = .ok (.aload_n 0, 1) := by decide +kernel
theorem d_L_init_22 : decode m_L_init.2.1 22 = .ok (.iconst 4, 1) := by decide +kernel
theorem d_L_init_23 : decode m_L_init.2.1 23 = .ok (.newarray .int, 2) := by decide +kernel
theorem d_L_init_25 : decode m_L_init.2.1 25 = .ok (.putfield 19, 3) := by decide +kernel
theorem d_L_init_28 : decode m_L_init.2.1 28 = .ok (.aload_n 0, 1) := by decide +kernel
theorem d_L_init_29 : decode m_L_init.2.1 29 = .ok (.iconst 4, 1) := by decide +kernel
theorem d_L_init_30 : decode m_L_init.2.1 30 = .ok (.newarray .int, 2) := by decide +kernel
theorem d_L_init_32 : decode m_L_init.2.1 32 = .ok (.putfield 22, 3) := by decide +kernel
theorem d_L_init_35 : decode m_L_init.2.1 35 = .ok (.aload_n 0, 1) := by decide +kernel
theorem d_L_init_36 : decode m_L_init.2.1 36 = .ok (.iconst 5, 1) := by decide +kernel
theorem d_L_init_37 : decode m_L_init.2.1 37 = .ok (.newarray .int, 2) := by decide +kernel
theorem d_L_init_39 : decode m_L_init.2.1 39 = .ok (.putfield 25, 3) := by decide +kernel
theorem d_L_init_42 : decode m_L_init.2.1 42 = .ok (.aload_n 0, 1) := by decide +kernel
theorem d_L_init_43 : decode m_L_init.2.1 43 = .ok (.bipush 16, 2) := by decide +kernel
theorem d_L_init_45 : decode m_L_init.2.1 45 = .ok (.newarray .int, 2) := by decide +kernel
theorem d_L_init_47 : decode m_L_init.2.1 47 = .ok (.putfield 28, 3) := by decide +kernel
theorem d_L_init_50 : decode m_L_init.2.1 50 = .ok (.aload_n 0, 1) := by decide +kernel
theorem d_L_init_51 : decode m_L_init.2.1 51 = .ok (.aconst_null, 1) := by decide +kernel
theorem d_L_init_52 : decode m_L_init.2.1 52 = .ok (.putfield 31, 3) := by decide +kernel
theorem d_L_init_55 : decode m_L_init.2.1 55 = .ok (.aload_n 0, 1) := by decide +kernel
theorem d_L_init_56 : decode m_L_init.2.1 56 = .ok (.aconst_null, 1) := by decide +kernel
theorem d_L_init_57 : decode m_L_init.2.1 57 = .ok (.putfield 34, 3) := by decide +kernel
theorem d_L_init_60 : decode m_L_init.2.1 60 = .ok (.aload_n 0, 1) := by decide +kernel
theorem d_L_init_61 : decode m_L_init.2.1 61 = .ok (.iconst 2, 1) := by decide +kernel
theorem d_L_init_62 : decode m_L_init.2.1 62 = .ok (.putfield 37, 3) := by decide +kernel
theorem d_L_init_65 : decode m_L_init.2.1 65 = .ok (.aload_n 0, 1) := by decide +kernel
theorem d_L_init_66 : decode m_L_init.2.1 66 = .ok (.iconst 1, 1) := by decide +kernel
theorem d_L_init_67 : decode m_L_init.2.1 67 = .ok (.putfield 41, 3) := by decide +kernel
theorem d_L_init_70 : decode m_L_init.2.1 70 = .ok (.aload_n 0, 1) := by decide +kernel
theorem d_L_init_71 : decode m_L_init.2.1 71 = .ok (.iconst 0, 1) := by decide +kernel
theorem d_L_init_72 : decode m_L_init.2.1 72 = .ok (.putfield 44, 3) := by decide +kernel
theorem d_L_init_75 : decode m_L_init.2.1 75 = .ok (.aload_n 0, 1) := by decide +kernel
theorem d_L_init_76 : decode m_L_init.2.1 76 = .ok (.iconst 1, 1) := by decide +kernel
theorem d_L_init_77 : decode m_L_init.2.1 77 = .ok (.putfield 47, 3) := by decide +kernel
theorem d_L_init_80 : decode m_L_init.2.1 80 = .ok (.aload_n 0, 1) := by decide +kernel
theorem d_L_init_81 : decode m_L_init.2.1 81 = .ok (.iconst 0, 1) := by decide +kernel
theorem d_L_init_82 : decode m_L_init.2.1 82 = .ok (.putfield 50, 3) := by decide +kernel
theorem d_L_init_85 : decode m_L_init.2.1 85 = .ok (.aload_n 0, 1) := by decide +kernel
theorem d_L_init_86 : decode m_L_init.2.1 86 = .ok (.iconst 0, 1) := by decide +kernel
theorem d_L_init_87 : decode m_L_init.2.1 87 = .ok (.putfield 53, 3) := by decide +kernel
theorem d_L_init_90 : decode m_L_init.2.1 90 = .ok (.aload_n 0, 1) := by decide +kernel
theorem d_L_init_91 : decode m_L_init.2.1 91 = .ok (.iconst 0, 1) := by decide +kernel
theorem d_L_init_92 : decode m_L_init.2.1 92 = .ok (.putfield 56, 3) := by decide +kernel
theorem d_L_init_95 : decode m_L_init.2.1 95 = .ok (.aload_n 0, 1) := by decide +kernel
theorem d_L_init_96 : decode m_L_init.2.1 96 = .ok (.iconst 0, 1) := by decide +kernel
theorem d_L_init_97 : decode m_L_init.2.1 97 = .ok (.putfield 59, 3) := by decide +kernel
theorem d_L_init_100 : decode m_L_init.2.1 100 = .ok (.return_, 1) := by decide +kernel
def f_L_init (w : qMem) : Option (qMem) :=
  qnw w 82 fun w1 =>
  qlt (qud w1 81 0 ((82 : Nat) : Int)) fun w2 =>
  qnw w2 83 fun w3 =>
  qlt (qud w3 81 1 ((83 : Nat) : Int)) fun w4 =>
  qnw w4 84 fun w5 =>
  qlt (qud w5 81 2 ((84 : Nat) : Int)) fun w6 =>
  qnw w6 85 fun w7 =>
  qlt (qud w7 81 3 ((85 : Nat) : Int)) fun w8 =>
  qnw w8 86 fun w9 =>
  qlt (qud w9 81 4 ((86 : Nat) : Int)) fun w10 =>
  qnw w10 87 fun w11 =>
  qlt (qud w11 81 5 ((87 : Nat) : Int)) fun w12 =>
  qlt (qud w12 81 6 0) fun w13 =>
  qlt (qud w13 81 7 0) fun w14 =>
  qlt (qud w14 81 8 2) fun w15 =>
  qlt (qud w15 81 9 1) fun w16 =>
  qlt (qud w16 81 10 0) fun w17 =>
  qlt (qud w17 81 11 1) fun w18 =>
  qlt (qud w18 81 12 0) fun w19 =>
  qlt (qud w19 81 13 0) fun w20 =>
  qlt (qud w20 81 14 0) fun w21 =>
  qlt (qud w21 81 15 0) fun w22 =>
  some w22
set_option maxRecDepth 4000 in
theorem s_L_init (w : qMem) : qSim κV 80 86 m_L_init 0 [] [some (qR 81)] w (f_L_init w) := by
  unfold f_L_init
  refine z_aload_n d_L_init_0 rfl ?_
  refine z_objinit d_L_init_1 lk_L_3 (Nat.le_of_ble_eq_true rfl) (Nat.le_of_ble_eq_true rfl) ?_
  refine z_aload_n d_L_init_4 rfl ?_
  refine z_sipush d_L_init_5 ⟨by decide, by decide⟩ ?_
  refine z_na_int (o := 82) d_L_init_8 rfl rfl (by decide) (fun w1 => ?_)
  refine z_pf (ci := 1) (j := 0) (ji := 0) d_L_init_10 rfl fl_L_11 rfl rfl rfl rfl rfl rfl (Or.inr ⟨_, rfl⟩) (by decide) rfl rfl (fun w2 => ?_)
  refine z_aload_n d_L_init_13 rfl ?_
  refine z_bipush d_L_init_14 ⟨by decide, by decide⟩ ?_
  refine z_na_boo (o := 83) d_L_init_16 rfl rfl (by decide) (fun w3 => ?_)
  refine z_pf (ci := 1) (j := 1) (ji := 1) d_L_init_18 rfl fl_L_15 rfl rfl rfl rfl rfl rfl (Or.inr ⟨_, rfl⟩) (by decide) rfl rfl (fun w4 => ?_)
  refine z_aload_n d_L_init_21 rfl ?_
  refine z_ic4 d_L_init_22 ?_
  refine z_na_int (o := 84) d_L_init_23 rfl rfl (by decide) (fun w5 => ?_)
  refine z_pf (ci := 1) (j := 2) (ji := 2) d_L_init_25 rfl fl_L_19 rfl rfl rfl rfl rfl rfl (Or.inr ⟨_, rfl⟩) (by decide) rfl rfl (fun w6 => ?_)
  refine z_aload_n d_L_init_28 rfl ?_
  refine z_ic4 d_L_init_29 ?_
  refine z_na_int (o := 85) d_L_init_30 rfl rfl (by decide) (fun w7 => ?_)
  refine z_pf (ci := 1) (j := 3) (ji := 3) d_L_init_32 rfl fl_L_22 rfl rfl rfl rfl rfl rfl (Or.inr ⟨_, rfl⟩) (by decide) rfl rfl (fun w8 => ?_)
  refine z_aload_n d_L_init_35 rfl ?_
  refine z_ic5 d_L_init_36 ?_
  refine z_na_int (o := 86) d_L_init_37 rfl rfl (by decide) (fun w9 => ?_)
  refine z_pf (ci := 1) (j := 4) (ji := 4) d_L_init_39 rfl fl_L_25 rfl rfl rfl rfl rfl rfl (Or.inr ⟨_, rfl⟩) (by decide) rfl rfl (fun w10 => ?_)
  refine z_aload_n d_L_init_42 rfl ?_
  refine z_bipush d_L_init_43 ⟨by decide, by decide⟩ ?_
  refine z_na_int (o := 87) d_L_init_45 rfl rfl (by decide) (fun w11 => ?_)
  refine z_pf (ci := 1) (j := 5) (ji := 5) d_L_init_47 rfl fl_L_28 rfl rfl rfl rfl rfl rfl (Or.inr ⟨_, rfl⟩) (by decide) rfl rfl (fun w12 => ?_)
  refine z_aload_n d_L_init_50 rfl ?_
  refine z_null d_L_init_51 ?_
  refine z_pn (ci := 1) (j := 6) (ji := 6) d_L_init_52 rfl fl_L_31 rfl rfl rfl rfl (Or.inr ⟨_, rfl⟩) (by decide) (fun w13 => ?_)
  refine z_aload_n d_L_init_55 rfl ?_
  refine z_null d_L_init_56 ?_
  refine z_pn (ci := 1) (j := 7) (ji := 7) d_L_init_57 rfl fl_L_34 rfl rfl rfl rfl (Or.inr ⟨_, rfl⟩) (by decide) (fun w14 => ?_)
  refine z_aload_n d_L_init_60 rfl ?_
  refine z_ic2 d_L_init_61 ?_
  refine z_pi (ci := 1) (j := 8) (ji := 8) d_L_init_62 rfl fl_L_37 rfl rfl rfl rfl rfl (fun w15 => ?_)
  refine z_aload_n d_L_init_65 rfl ?_
  refine z_ic1 d_L_init_66 ?_
  refine z_pi (ci := 1) (j := 9) (ji := 9) d_L_init_67 rfl fl_L_41 rfl rfl rfl rfl rfl (fun w16 => ?_)
  refine z_aload_n d_L_init_70 rfl ?_
  refine z_ic0 d_L_init_71 ?_
  refine z_pi (ci := 1) (j := 10) (ji := 10) d_L_init_72 rfl fl_L_44 rfl rfl rfl rfl rfl (fun w17 => ?_)
  refine z_aload_n d_L_init_75 rfl ?_
  refine z_ic1 d_L_init_76 ?_
  refine z_pi (ci := 1) (j := 11) (ji := 11) d_L_init_77 rfl fl_L_47 rfl rfl rfl rfl rfl (fun w18 => ?_)
  refine z_aload_n d_L_init_80 rfl ?_
  refine z_ic0 d_L_init_81 ?_
  refine z_pi (ci := 1) (j := 12) (ji := 12) d_L_init_82 rfl fl_L_50 rfl rfl rfl rfl rfl (fun w19 => ?_)
  refine z_aload_n d_L_init_85 rfl ?_
  refine z_ic0 d_L_init_86 ?_
  refine z_pi (ci := 1) (j := 13) (ji := 13) d_L_init_87 rfl fl_L_53 rfl rfl rfl rfl rfl (fun w20 => ?_)
  refine z_aload_n d_L_init_90 rfl ?_
  refine z_ic0 d_L_init_91 ?_
  refine z_pi (ci := 1) (j := 14) (ji := 14) d_L_init_92 rfl fl_L_56 rfl rfl rfl rfl rfl (fun w21 => ?_)
  refine z_aload_n d_L_init_95 rfl ?_
  refine z_ic0 d_L_init_96 ?_
  refine z_pi (ci := 1) (j := 15) (ji := 15) d_L_init_97 rfl fl_L_59 rfl rfl rfl rfl rfl (fun w22 => ?_)
  exact z_vret d_L_init_100 rfl rfl
/-! BubbleTorus.<init> -/
theorem d_X_init_0 : decode m_X_init.2.1 0 = .ok (.aload_n 0, 1) := by decide +kernel
theorem d_X_init_1 : decode m_X_init.2.1 1 = .ok (.invokespecial 3, 3) := by decide +kernel
theorem d_X_init_4 : decode m_X_init.2.1 4 = .ok (.aload_n 0, 1) := by decide +kernel
theorem d_X_init_5 : decode m_X_init.2.1 5 = .ok (.new 9, 3) := by decide +kernel
theorem d_X_init_8 : decode m_X_init.2.1 8 = .ok (.dup, 1) := by decide +kernel
theorem d_X_init_9 : decode m_X_init.2.1 9 = .ok (.invokespecial 11, 3) := by decide +kernel
theorem d_X_init_12 : decode m_X_init.2.1 12 = .ok (.putfield 12, 3) := by decide +kernel
theorem d_X_init_15 : decode m_X_init.2.1 15 = .ok (.aload_n 0, 1) := by decide +kernel
theorem d_X_init_16 : decode m_X_init.2.1 16 = .ok (.new 9, 3) := by decide +kernel
theorem d_X_init_19 : decode m_X_init.2.1 19 = .ok (.dup, 1) := by decide +kernel
theorem d_X_init_20 : decode m_X_init.2.1 20 = .ok (.invokespecial 11, 3) := by decide +kernel
theorem d_X_init_23 : decode m_X_init.2.1 23 = .ok (.putfield 16, 3) := by decide +kernel
theorem d_X_init_26 : decode m_X_init.2.1 26 = .ok (.aload_n 0, 1) := by decide +kernel
theorem d_X_init_27 : decode m_X_init.2.1 27 = .ok (.aload_n 0, 1) := by decide +kernel
theorem d_X_init_28 : decode m_X_init.2.1 28 = .ok (.getfield 12, 3) := by decide +kernel
theorem d_X_init_31 : decode m_X_init.2.1 31 = .ok (.getfield 19, 3) := by decide +kernel
theorem d_X_init_34 : decode m_X_init.2.1 34 = .ok (.putfield 23, 3) := by decide +kernel
theorem d_X_init_37 : decode m_X_init.2.1 37 = .ok (.aload_n 0, 1) := by decide +kernel
theorem d_X_init_38 : decode m_X_init.2.1 38 = .ok (.new 24, 3) := by decide +kernel
theorem d_X_init_41 : decode m_X_init.2.1 41 = .ok (.dup, 1) := by decide +kernel
theorem d_X_init_42 : decode m_X_init.2.1 42 = .ok (.invokespecial 26, 3) := by decide +kernel
theorem d_X_init_45 : decode m_X_init.2.1 45 = .ok (.putfield 27, 3) := by decide +kernel
theorem d_X_init_48 : decode m_X_init.2.1 48 = .ok (.aload_n 0, 1) := by decide +kernel
theorem d_X_init_49 : decode m_X_init.2.1 49 = .ok (.new 31, 3) := by decide +kernel
theorem d_X_init_52 : decode m_X_init.2.1 52 = .ok (.dup, 1) := by decide +kernel
theorem d_X_init_53 : decode m_X_init.2.1 53 = .ok (.invokespecial 33, 3) := by decide +kernel
theorem d_X_init_56 : decode m_X_init.2.1 56 = .ok (.putfield 34, 3) := by decide +kernel
theorem d_X_init_59 : decode m_X_init.2.1 59 = .ok (.aload_n 0, 1) := by decide +kernel
theorem d_X_init_60 : decode m_X_init.2.1 60 = .ok (.new 38, 3) := by decide +kernel
theorem d_X_init_63 : decode m_X_init.2.1 63 = .ok (.dup, 1) := by decide +kernel
theorem d_X_init_64 : decode m_X_init.2.1 64 = .ok (.invokespecial 40, 3) := by decide +kernel
theorem d_X_init_67 : decode m_X_init.2.1 67 = .ok (.putfield 41, 3) := by decide +kernel
theorem d_X_init_70 : decode m_X_init.2.1 70 = .ok (.aload_n 0, 1) := by decide +kernel
theorem d_X_init_71 : decode m_X_init.2.1 71 = .ok (.iconst 0, 1) := by decide +kernel
theorem d_X_init_72 : decode m_X_init.2.1 72 = .ok (.putfield 45, 3) := by decide +kernel
theorem d_X_init_75 : decode m_X_init.2.1 75 = .ok (.aload_n 0, 1) := by decide +kernel
theorem d_X_init_76 : decode m_X_init.2.1 76 = .ok (.getfield 12, 3) := by decide +kernel
theorem d_X_init_79 : decode m_X_init.2.1 79 = .ok (.iconst 2, 1) := by decide +kernel
theorem d_X_init_80 : decode m_X_init.2.1 80 = .ok (.iconst 1, 1) := by decide +kernel
theorem d_X_init_81 : decode m_X_init.2.1 81 = .ok (.iconst 1, 1) := by decide +kernel
theorem d_X_init_82 : decode m_X_init.2.1 82 = .ok (.bipush 8, 2) := by decide +kernel
theorem d_X_init_84 : decode m_X_init.2.1 84 = .ok (.invokevirtual 49, 3) := by decide +kernel
theorem d_X_init_87 : decode m_X_init.2.1 87 = .ok (.return_, 1) := by decide +kernel
def f_X_init (w : qMem) : Option (qMem) :=
  qnw w 2 fun w1 =>
  (f_N2_init w1).bind fun q2 =>
  qlt (qud q2 1 0 ((2 : Nat) : Int)) fun w3 =>
  qnw w3 37 fun w4 =>
  (f_N37_init w4).bind fun q5 =>
  qlt (qud q5 1 1 ((37 : Nat) : Int)) fun w6 =>
  qlt (qud w6 1 2 ((3 : Nat) : Int)) fun w7 =>
  qnw w7 72 fun w8 =>
  (f_O_init w8).bind fun q9 =>
  qlt (qud q9 1 3 ((72 : Nat) : Int)) fun w10 =>
  qnw w10 74 fun w11 =>
  (f_S_init w11).bind fun q12 =>
  qlt (qud q12 1 4 ((74 : Nat) : Int)) fun w13 =>
  qnw w13 81 fun w14 =>
  (f_L_init w14).bind fun q15 =>
  qlt (qud q15 1 5 ((81 : Nat) : Int)) fun w16 =>
  qlt (qud w16 1 6 0) fun w17 =>
  (f_N_begin 2 2 1 1 8 w17).bind fun q18 =>
  some q18
set_option maxRecDepth 4000 in
theorem s_X_init (w : qMem) : qSim κV 0 87 m_X_init 0 [] [some (qR 1)] w (f_X_init w) := by
  unfold f_X_init
  refine z_aload_n d_X_init_0 rfl ?_
  refine z_objinit d_X_init_1 lk_X_3 (Nat.le_of_ble_eq_true rfl) (Nat.le_of_ble_eq_true rfl) ?_
  refine z_aload_n d_X_init_4 rfl ?_
  refine z_nw (ci := 3) (o := 2) d_X_init_5 rfl cl_X_9 ist_N ini_N rfl (by decide) (fun w1 => ?_)
  refine z_dup d_X_init_8 rfl ?_
  refine z_cINV (as := []) (st := [qR 2, qR 1]) (nl := 0) d_X_init_9 lk_X_11 mk_N_init rfl rfl (by decide) rfl rfl rfl (s_N2_init _) (fun q2 _ => ?_)
  refine z_pf (ci := 9) (j := 0) (ji := 0) d_X_init_12 rfl fl_X_12 rfl rfl rfl rfl rfl rfl (Or.inl ⟨_, rfl⟩) (by decide) rfl rfl (fun w3 => ?_)
  refine z_aload_n d_X_init_15 rfl ?_
  refine z_nw (ci := 3) (o := 37) d_X_init_16 rfl cl_X_9 ist_N ini_N rfl (by decide) (fun w4 => ?_)
  refine z_dup d_X_init_19 rfl ?_
  refine z_cINV (as := []) (st := [qR 37, qR 1]) (nl := 0) d_X_init_20 lk_X_11 mk_N_init rfl rfl (by decide) rfl rfl rfl (s_N37_init _) (fun q5 _ => ?_)
  refine z_pf (ci := 9) (j := 1) (ji := 1) d_X_init_23 rfl fl_X_16 rfl rfl rfl rfl rfl rfl (Or.inl ⟨_, rfl⟩) (by decide) rfl rfl (fun w6 => ?_)
  refine z_aload_n d_X_init_26 rfl ?_
  refine z_aload_n d_X_init_27 rfl ?_
  refine z_grf (ci := 9) (j := 0) (d := 1) (o2 := 2) d_X_init_28 rfl fl_X_12 rfl (Nat.le_of_ble_eq_true rfl) rfl rfl ?_
  refine z_grf (ci := 3) (j := 0) (d := 1) (o2 := 3) d_X_init_31 rfl fl_X_19 rfl (Nat.le_of_ble_eq_true rfl) rfl rfl ?_
  refine z_pf (ci := 9) (j := 2) (ji := 2) d_X_init_34 rfl fl_X_23 rfl rfl rfl rfl rfl rfl (Or.inl ⟨_, rfl⟩) (by decide) rfl rfl (fun w7 => ?_)
  refine z_aload_n d_X_init_37 rfl ?_
  refine z_nw (ci := 4) (o := 72) d_X_init_38 rfl cl_X_24 ist_O ini_O rfl (by decide) (fun w8 => ?_)
  refine z_dup d_X_init_41 rfl ?_
  refine z_cINV (as := []) (st := [qR 72, qR 1]) (nl := 0) d_X_init_42 lk_X_26 mk_O_init rfl rfl (by decide) rfl rfl rfl (s_O_init _) (fun q9 _ => ?_)
  refine z_pf (ci := 9) (j := 3) (ji := 3) d_X_init_45 rfl fl_X_27 rfl rfl rfl rfl rfl rfl (Or.inl ⟨_, rfl⟩) (by decide) rfl rfl (fun w10 => ?_)
  refine z_aload_n d_X_init_48 rfl ?_
  refine z_nw (ci := 8) (o := 74) d_X_init_49 rfl cl_X_31 ist_S ini_S rfl (by decide) (fun w11 => ?_)
  refine z_dup d_X_init_52 rfl ?_
  refine z_cINV (as := []) (st := [qR 74, qR 1]) (nl := 0) d_X_init_53 lk_X_33 mk_S_init rfl rfl (by decide) rfl rfl rfl (s_S_init _) (fun q12 _ => ?_)
  refine z_pf (ci := 9) (j := 4) (ji := 4) d_X_init_56 rfl fl_X_34 rfl rfl rfl rfl rfl rfl (Or.inl ⟨_, rfl⟩) (by decide) rfl rfl (fun w13 => ?_)
  refine z_aload_n d_X_init_59 rfl ?_
  refine z_nw (ci := 1) (o := 81) d_X_init_60 rfl cl_X_38 ist_L ini_L rfl (by decide) (fun w14 => ?_)
  refine z_dup d_X_init_63 rfl ?_
  refine z_cINV (as := []) (st := [qR 81, qR 1]) (nl := 0) d_X_init_64 lk_X_40 mk_L_init rfl rfl (by decide) rfl rfl rfl (s_L_init _) (fun q15 _ => ?_)
  refine z_pf (ci := 9) (j := 5) (ji := 5) d_X_init_67 rfl fl_X_41 rfl rfl rfl rfl rfl rfl (Or.inl ⟨_, rfl⟩) (by decide) rfl rfl (fun w16 => ?_)
  refine z_aload_n d_X_init_70 rfl ?_
  refine z_ic0 d_X_init_71 ?_
  refine z_pi (ci := 9) (j := 6) (ji := 6) d_X_init_72 rfl fl_X_45 rfl rfl rfl rfl rfl (fun w17 => ?_)
  refine z_aload_n d_X_init_75 rfl ?_
  refine z_grf (ci := 9) (j := 0) (d := 1) (o2 := 2) d_X_init_76 rfl fl_X_12 rfl (Nat.le_of_ble_eq_true rfl) rfl rfl ?_
  refine z_ic2 d_X_init_79 ?_
  refine z_ic1 d_X_init_80 ?_
  refine z_ic1 d_X_init_81 ?_
  refine z_bipush d_X_init_82 ⟨by decide, by decide⟩ ?_
  refine z_cVV (as := [qI 2, qI 1, qI 1, qI 8]) (st := []) (nl := 0) (ci := 3) d_X_init_84 lk_X_49 mk_N_begin rfl rfl rfl rfl rfl rfl (s_N_begin _ _ _ _ is_2_87 _) (fun q18 _ => ?_)
  exact z_vret d_X_init_87 rfl rfl
/-! BubbleTorusModel.<init> -/
theorem d_M_init_0 : decode m_M_init.2.1 0 = .ok (.aload_n 0, 1) := by decide +kernel
theorem d_M_init_1 : decode m_M_init.2.1 1 = .ok (.invokespecial 1, 3) := by decide +kernel
theorem d_M_init_4 : decode m_M_init.2.1 4 = .ok (.aload_n 0, 1) := by decide +kernel
theorem d_M_init_5 : decode m_M_init.2.1 5 = .ok (.sipush 5898, 3) := by decide +kernel
theorem d_M_init_8 : decode m_M_init.2.1 8 = .ok (.newarray .int, 2) := by decide +kernel
theorem d_M_init_10 : decode m_M_init.2.1 10 = .ok (.putfield 7, 3) := by decide +kernel
theorem d_M_init_13 : decode m_M_init.2.1 13 = .ok (.aload_n 0, 1) := by decide +kernel
theorem d_M_init_14 : decode m_M_init.2.1 14 = .ok (.sipush 5898, 3) := by decide +kernel
theorem d_M_init_17 : decode m_M_init.2.1 17 = .ok (.newarray .int, 2) := by decide +kernel
theorem d_M_init_19 : decode m_M_init.2.1 19 = .ok (.putfield 13, 3) := by decide +kernel
theorem d_M_init_22 : decode m_M_init.2.1 22 = .ok (.aload_n 0, 1) := by decide +kernel
theorem d_M_init_23 : decode m_M_init.2.1 23 = .ok (.sipush 144, 3) := by decide +kernel
theorem d_M_init_26 : decode m_M_init.2.1 26 = .ok (.newarray .boolean, 2) := by decide +kernel
theorem d_M_init_28 : decode m_M_init.2.1 28 = .ok (.putfield 16, 3) := by decide +kernel
theorem d_M_init_31 : decode m_M_init.2.1 31 = .ok (.aload_n 0, 1) := by decide +kernel
theorem d_M_init_32 : decode m_M_init.2.1 32 = .ok (.sipush 7619, 3) := by decide +kernel
theorem d_M_init_35 : decode m_M_init.2.1 35 = .ok (.newarray .int, 2) := by decide +kernel
theorem d_M_init_37 : decode m_M_init.2.1 37 = .ok (.putfield 20, 3) := by decide +kernel
theorem d_M_init_40 : decode m_M_init.2.1 40 = .ok (.aload_n 0, 1) := by decide +kernel
theorem d_M_init_41 : decode m_M_init.2.1 41 = .ok (.sipush 401, 3) := by decide +kernel
theorem d_M_init_44 : decode m_M_init.2.1 44 = .ok (.newarray .int, 2) := by decide +kernel
theorem d_M_init_46 : decode m_M_init.2.1 46 = .ok (.putfield 23, 3) := by decide +kernel
theorem d_M_init_49 : decode m_M_init.2.1 49 = .ok (.aload_n 0, 1) := by decide +kernel
theorem d_M_init_50 : decode m_M_init.2.1 50 = .ok (.iconst 3, 1) := by decide +kernel
theorem d_M_init_51 : decode m_M_init.2.1 51 = .ok (.newarray .int, 2) := by decide +kernel
theorem d_M_init_53 : decode m_M_init.2.1 53 = .ok (.putfield 26, 3) := by decide +kernel
theorem d_M_init_56 : decode m_M_init.2.1 56 = .ok (.aload_n 0, 1) := by decide +kernel
theorem d_M_init_57 : decode m_M_init.2.1 57 = .ok (.iconst 4, 1) := by decide +kernel
theorem d_M_init_58 : decode m_M_init.2.1 58 = .ok (.newarray .int, 2) := by decide +kernel
theorem d_M_init_60 : decode m_M_init.2.1 60 = .ok (.putfield 29, 3) := by decide +kernel
theorem d_M_init_63 : decode m_M_init.2.1 63 = .ok (.aload_n 0, 1) := by decide +kernel
theorem d_M_init_64 : decode m_M_init.2.1 64 = .ok (.sipush 10240, 3) := by decide +kernel
theorem d_M_init_67 : decode m_M_init.2.1 67 = .ok (.newarray .int, 2) := by decide +kernel
theorem d_M_init_69 : decode m_M_init.2.1 69 = .ok (.putfield 32, 3) := by decide +kernel
theorem d_M_init_72 : decode m_M_init.2.1 72 = .ok (.aload_n 0, 1) := by decide +kernel
theorem d_M_init_73 : decode m_M_init.2.1 73 = .ok (.sipush 10240, 3) := by decide +kernel
theorem d_M_init_76 : decode m_M_init.2.1 76 = .ok (.newarray .int, 2) := by decide +kernel
theorem d_M_init_78 : decode m_M_init.2.1 78 = .ok (.putfield 35, 3) := by decide +kernel
theorem d_M_init_81 : decode m_M_init.2.1 81 = .ok (.aload_n 0, 1) := by decide +kernel
theorem d_M_init_82 : decode m_M_init.2.1 82 = .ok (.sipush 10240, 3) := by decide +kernel
theorem d_M_init_85 : decode m_M_init.2.1 85 = .ok (.newarray .boolean, 2) := by decide +kernel
theorem d_M_init_87 : decode m_M_init.2.1 87 = .ok (.putfield 38, 3) := by decide +kernel
theorem d_M_init_90 : decode m_M_init.2.1 90 = .ok (.aload_n 0, 1) := by decide +kernel
theorem d_M_init_91 : decode m_M_init.2.1 91 = .ok (.sipush 10240, 3) := by decide +kernel
theorem d_M_init_94 : decode m_M_init.2.1 94 = .ok (.newarray .int, 2) := by decide +kernel
theorem d_M_init_96 : decode m_M_init.2.1 96 = .ok (.putfield 41, 3) := by decide +kernel
theorem d_M_init_99 : decode m_M_init.2.1 99 = .ok (.aload_n 0, 1) := by decide +kernel
theorem d_M_init_100 : decode m_M_init.2.1 100 = .ok (.sipush 10240, 3) := by decide +kernel
theorem d_M_init_103 : decode m_M_init.2.1 103 = .ok (.newarray .boolean, 2) := by decide +kernel
theorem d_M_init_105 : decode m_M_init.2.1 105 = .ok (.putfield 44, 3) := by decide +kernel
theorem d_M_init_108 : decode m_M_init.2.1 108 = .ok (.aload_n 0, 1) := by decide +kernel
theorem d_M_init_109 : decode m_M_init.2.1 109 = .ok (.bipush 24, 2) := by decide +kernel
theorem d_M_init_111 : decode m_M_init.2.1 111 = .ok (.newarray .int, 2) := by decide +kernel
theorem d_M_init_113 : decode m_M_init.2.1 113 = .ok (.putfield 47, 3) := by decide +kernel
theorem d_M_init_116 : decode m_M_init.2.1 116 = .ok (.aload_n 0, 1) := by decide +kernel
theorem d_M_init_117 : decode m_M_init.2.1 117 = .ok (.iconst 3, 1) := by decide +kernel
theorem d_M_init_118 : decode m_M_init.2.1 118 = .ok (.iconst 3, 1) := by decide +kernel
theorem d_M_init_119 : decode m_M_init.2.1 119 = .ok (.iconst 2, 1) := by decide +kernel
theorem d_M_init_120 : decode m_M_init.2.1 120 = .ok (.iconst 1, 1) := by decide +kernel
theorem d_M_init_121 : decode m_M_init.2.1 121 = .ok (.iconst 1, 1) := by decide +kernel
theorem d_M_init_122 : decode m_M_init.2.1 122 = .ok (.bipush 8, 2) := by decide +kernel
theorem d_M_init_124 : decode m_M_init.2.1 124 = .ok (.invokevirtual 50, 3) := by decide +kernel
theorem d_M_init_127 : decode m_M_init.2.1 127 = .ok (.return_, 1) := by decide +kernel
def f_M_init (w : qMem) : Option (qMem) :=
  qnw w 89 fun w1 =>
  qlt (qud w1 88 0 ((89 : Nat) : Int)) fun w2 =>
  qnw w2 90 fun w3 =>
  qlt (qud w3 88 1 ((90 : Nat) : Int)) fun w4 =>
  qnw w4 91 fun w5 =>
  qlt (qud w5 88 3 ((91 : Nat) : Int)) fun w6 =>
  qnw w6 92 fun w7 =>
  qlt (qud w7 88 4 ((92 : Nat) : Int)) fun w8 =>
  qnw w8 93 fun w9 =>
  qlt (qud w9 88 5 ((93 : Nat) : Int)) fun w10 =>
  qnw w10 94 fun w11 =>
  qlt (qud w11 88 6 ((94 : Nat) : Int)) fun w12 =>
  qnw w12 95 fun w13 =>
  qlt (qud w13 88 15 ((95 : Nat) : Int)) fun w14 =>
  qnw w14 96 fun w15 =>
  qlt (qud w15 88 17 ((96 : Nat) : Int)) fun w16 =>
  qnw w16 97 fun w17 =>
  qlt (qud w17 88 18 ((97 : Nat) : Int)) fun w18 =>
  qnw w18 98 fun w19 =>
  qlt (qud w19 88 20 ((98 : Nat) : Int)) fun w20 =>
  qnw w20 99 fun w21 =>
  qlt (qud w21 88 21 ((99 : Nat) : Int)) fun w22 =>
  qnw w22 100 fun w23 =>
  qlt (qud w23 88 22 ((100 : Nat) : Int)) fun w24 =>
  qnw w24 101 fun w25 =>
  qlt (qud w25 88 23 ((101 : Nat) : Int)) fun w26 =>
  (f_M_begins 3 3 2 1 1 8 w26).bind fun q27 =>
  some q27
set_option maxRecDepth 4000 in
theorem s_M_init (w : qMem) : qSim κV 87 100 m_M_init 0 [] [some (qR 88)] w (f_M_init w) := by
  unfold f_M_init
  refine z_aload_n d_M_init_0 rfl ?_
  refine z_objinit d_M_init_1 lk_M_1 (Nat.le_of_ble_eq_true rfl) (Nat.le_of_ble_eq_true rfl) ?_
  refine z_aload_n d_M_init_4 rfl ?_
  refine z_sipush d_M_init_5 ⟨by decide, by decide⟩ ?_
  refine z_na_int (o := 89) d_M_init_8 rfl rfl (by decide) (fun w1 => ?_)
  refine z_pf (ci := 10) (j := 0) (ji := 0) d_M_init_10 rfl fl_M_7 rfl rfl rfl rfl rfl rfl (Or.inr ⟨_, rfl⟩) (by decide) rfl rfl (fun w2 => ?_)
  refine z_aload_n d_M_init_13 rfl ?_
  refine z_sipush d_M_init_14 ⟨by decide, by decide⟩ ?_
  refine z_na_int (o := 90) d_M_init_17 rfl rfl (by decide) (fun w3 => ?_)
  refine z_pf (ci := 10) (j := 1) (ji := 1) d_M_init_19 rfl fl_M_13 rfl rfl rfl rfl rfl rfl (Or.inr ⟨_, rfl⟩) (by decide) rfl rfl (fun w4 => ?_)
  refine z_aload_n d_M_init_22 rfl ?_
  refine z_sipush d_M_init_23 ⟨by decide, by decide⟩ ?_
  refine z_na_boo (o := 91) d_M_init_26 rfl rfl (by decide) (fun w5 => ?_)
  refine z_pf (ci := 10) (j := 3) (ji := 3) d_M_init_28 rfl fl_M_16 rfl rfl rfl rfl rfl rfl (Or.inr ⟨_, rfl⟩) (by decide) rfl rfl (fun w6 => ?_)
  refine z_aload_n d_M_init_31 rfl ?_
  refine z_sipush d_M_init_32 ⟨by decide, by decide⟩ ?_
  refine z_na_int (o := 92) d_M_init_35 rfl rfl (by decide) (fun w7 => ?_)
  refine z_pf (ci := 10) (j := 4) (ji := 4) d_M_init_37 rfl fl_M_20 rfl rfl rfl rfl rfl rfl (Or.inr ⟨_, rfl⟩) (by decide) rfl rfl (fun w8 => ?_)
  refine z_aload_n d_M_init_40 rfl ?_
  refine z_sipush d_M_init_41 ⟨by decide, by decide⟩ ?_
  refine z_na_int (o := 93) d_M_init_44 rfl rfl (by decide) (fun w9 => ?_)
  refine z_pf (ci := 10) (j := 5) (ji := 5) d_M_init_46 rfl fl_M_23 rfl rfl rfl rfl rfl rfl (Or.inr ⟨_, rfl⟩) (by decide) rfl rfl (fun w10 => ?_)
  refine z_aload_n d_M_init_49 rfl ?_
  refine z_ic3 d_M_init_50 ?_
  refine z_na_int (o := 94) d_M_init_51 rfl rfl (by decide) (fun w11 => ?_)
  refine z_pf (ci := 10) (j := 6) (ji := 6) d_M_init_53 rfl fl_M_26 rfl rfl rfl rfl rfl rfl (Or.inr ⟨_, rfl⟩) (by decide) rfl rfl (fun w12 => ?_)
  refine z_aload_n d_M_init_56 rfl ?_
  refine z_ic4 d_M_init_57 ?_
  refine z_na_int (o := 95) d_M_init_58 rfl rfl (by decide) (fun w13 => ?_)
  refine z_pf (ci := 10) (j := 15) (ji := 15) d_M_init_60 rfl fl_M_29 rfl rfl rfl rfl rfl rfl (Or.inr ⟨_, rfl⟩) (by decide) rfl rfl (fun w14 => ?_)
  refine z_aload_n d_M_init_63 rfl ?_
  refine z_sipush d_M_init_64 ⟨by decide, by decide⟩ ?_
  refine z_na_int (o := 96) d_M_init_67 rfl rfl (by decide) (fun w15 => ?_)
  refine z_pf (ci := 10) (j := 17) (ji := 17) d_M_init_69 rfl fl_M_32 rfl rfl rfl rfl rfl rfl (Or.inr ⟨_, rfl⟩) (by decide) rfl rfl (fun w16 => ?_)
  refine z_aload_n d_M_init_72 rfl ?_
  refine z_sipush d_M_init_73 ⟨by decide, by decide⟩ ?_
  refine z_na_int (o := 97) d_M_init_76 rfl rfl (by decide) (fun w17 => ?_)
  refine z_pf (ci := 10) (j := 18) (ji := 18) d_M_init_78 rfl fl_M_35 rfl rfl rfl rfl rfl rfl (Or.inr ⟨_, rfl⟩) (by decide) rfl rfl (fun w18 => ?_)
  refine z_aload_n d_M_init_81 rfl ?_
  refine z_sipush d_M_init_82 ⟨by decide, by decide⟩ ?_
  refine z_na_boo (o := 98) d_M_init_85 rfl rfl (by decide) (fun w19 => ?_)
  refine z_pf (ci := 10) (j := 20) (ji := 20) d_M_init_87 rfl fl_M_38 rfl rfl rfl rfl rfl rfl (Or.inr ⟨_, rfl⟩) (by decide) rfl rfl (fun w20 => ?_)
  refine z_aload_n d_M_init_90 rfl ?_
  refine z_sipush d_M_init_91 ⟨by decide, by decide⟩ ?_
  refine z_na_int (o := 99) d_M_init_94 rfl rfl (by decide) (fun w21 => ?_)
  refine z_pf (ci := 10) (j := 21) (ji := 21) d_M_init_96 rfl fl_M_41 rfl rfl rfl rfl rfl rfl (Or.inr ⟨_, rfl⟩) (by decide) rfl rfl (fun w22 => ?_)
  refine z_aload_n d_M_init_99 rfl ?_
  refine z_sipush d_M_init_100 ⟨by decide, by decide⟩ ?_
  refine z_na_boo (o := 100) d_M_init_103 rfl rfl (by decide) (fun w23 => ?_)
  refine z_pf (ci := 10) (j := 22) (ji := 22) d_M_init_105 rfl fl_M_44 rfl rfl rfl rfl rfl rfl (Or.inr ⟨_, rfl⟩) (by decide) rfl rfl (fun w24 => ?_)
  refine z_aload_n d_M_init_108 rfl ?_
  refine z_bipush d_M_init_109 ⟨by decide, by decide⟩ ?_
  refine z_na_int (o := 101) d_M_init_111 rfl rfl (by decide) (fun w25 => ?_)
  refine z_pf (ci := 10) (j := 23) (ji := 23) d_M_init_113 rfl fl_M_47 rfl rfl rfl rfl rfl rfl (Or.inr ⟨_, rfl⟩) (by decide) rfl rfl (fun w26 => ?_)
  refine z_aload_n d_M_init_116 rfl ?_
  refine z_ic3 d_M_init_117 ?_
  refine z_ic3 d_M_init_118 ?_
  refine z_ic2 d_M_init_119 ?_
  refine z_ic1 d_M_init_120 ?_
  refine z_ic1 d_M_init_121 ?_
  refine z_bipush d_M_init_122 ⟨by decide, by decide⟩ ?_
  refine z_cVV (as := [qI 3, qI 3, qI 2, qI 1, qI 1, qI 8]) (st := []) (nl := 1) (ci := 10) d_M_init_124 lk_M_50 mk_M_begins rfl rfl rfl rfl rfl rfl (s_M_begins _ _ _ _ _ _ _) (fun q27 _ => ?_)
  exact z_vret d_M_init_127 rfl rfl
