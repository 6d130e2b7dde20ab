/-! through, arrives: the same on both sides -/
def thd (d : qMem → Bool) : Nat → Int → qMem → Int
  | 0, _, _ => -1
  | m + 1, x, T => if d T = true then x else thd d m (x + 1) (stk T)
def dpk (p : Int) (T : qMem) : Bool := if p = -1 then decide (T 5 14 = T 5 13) else decide (T 9 p = 3)
def aThr (S : qMem) : Int := thd (dpk (-1)) 1001 0 S
def aArr (S : qMem) (a b : Int) : Int := if (ssa S a b).1 = -1 then -1 else thd (dpk (ssa S a b).1) 1001 0 (ssa S a b).2
def hst (x2 : Int) (T : qMem) : Prop := x2 = 0 ∨ (x2 = 1 ∧ ∃ T0, (IV T0 ∧ XQ T0) ∧ idl T0 ∧ T = stk T0) ∨ (x2 = 2 ∧ ∃ T0, ((IV T0 ∧ XQ T0) ∧ idl T0) ∧ ((IV (stk T0) ∧ XQ (stk T0)) ∧ idl (stk T0)) ∧ T = stk (stk T0))
section TV
variable {w w' w0 S T U : qMem} {v t x p a b y : Int}
theorem dpk_q (h : QE S U) : dpk p U = dpk p S := by
  unfold dpk
  rw [h.2 5 (by decide), h.2 9 (by decide)]
theorem dpk_1 : dpk (-1) T = true ↔ T 5 14 = T 5 13 := by
  unfold dpk
  rw [if_pos rfl, decide_eq_true_eq]
theorem dpk_p (h : p ≠ -1) : dpk p T = true ↔ T 9 p = 3 := by
  unfold dpk
  rw [if_neg h, decide_eq_true_eq]
theorem thd_s {d : qMem → Bool} (x0 : 0 ≤ x) (x1 : x ≤ 1000) : thd d (1001 - x).toNat x T = if d T = true then x else thd d (1001 - (x + 1)).toNat (x + 1) (stk T) := by
  rw [show (1001 - x).toNat = (1001 - (x + 1)).toNat + 1 by omega]
  rfl
theorem thd_z {d : qMem → Bool} (x1 : 1001 ≤ x) : thd d (1001 - x).toNat x T = -1 := by
  rw [show (1001 - x).toNat = 0 by omega]
  rfl
/-- when nothing goes any more -/
theorem thd_on (I : IV S) (P : PTs S) (h1 : nS (xT S)) (h2 : nG (xT S)) (hd : ¬ dpk p S = true) : ∀ (m : Nat) (x : Int) (U w : qMem), NX 37 w U → IV U → w32 (U 5 14) = U 5 14 → U 0 10 + m ≤ 1000000 → JI2 S U → thd (dpk p) m x U = -1 := by
  intro m
  induction m with
  | zero => intro x U w _ _ _ _ _; rfl
  | succ m ih =>
    intro x U w hx IU h14 hc J
    show (if dpk p U = true then x else thd (dpk p) m (x + 1) (stk U)) = -1
    rw [dpk_q J.1, if_neg hd]
    obtain ⟨y, w2, ⟨a1, a2, a3, a4⟩, a5, a6, a7⟩ := n_runTick hx IU (by omega) h14.symm
    have e10 := stk_10 IU
    exact ih (x + 1) (stk U) w2 a1 a3 (by rw [stk_5, a6, w32_2]) (by rw [e10]; omega) (on_st I IU a3 P h1 h2 J)
theorem x_untilV (hx : NX 37 w S) (I : IV S) (Q : XQ S) (h14 : w32 (S 5 14) = S 5 14) (hc : S 0 10 + 1001 ≤ 1000000) (hf : F37 w0 w) (hp : p ≠ -1 → 0 ≤ p ∧ p < S 5 13) : kT (f_X_ticksUntilDelivered p w) (fun r => r.1 = thd (dpk p) 1001 0 S ∧ F37 w0 r.2 ∧ RGx r.2) := by
  have key : ∀ (m : Nat) (x2 x3 : Int) (w' T : qMem), 0 ≤ x3 → x3 ≤ 1001 → 1001 - x3 < m → hst x2 T → NX 37 w' T → IV T ∧ XQ T → w32 (T 5 14) = T 5 14 → T 0 10 + (1001 - x3) ≤ 1000000 → F37 w0 w' → (p ≠ -1 → 0 ≤ p ∧ p < T 5 13) → kT (f_X_ticksUntilDelivered_4 m p x2 x3 w') (fun r => r.1 = thd (dpk p) (1001 - x3).toNat x3 T ∧ F37 w0 r.2 ∧ RGx r.2) := by
    intro m
    induction m with
    | zero => intro x2 x3 w' T _ _ _ _ _ _ _ _ _ _; omega
    | succ m ih =>
      intro x2 x3 w' T y0 y1 hm hh h1 h2 h3 h4 hk hp
      have fin : ∀ y : Int, y = thd (dpk p) (1001 - x3).toNat x3 T → kT (some (y, w')) (fun r => r.1 = thd (dpk p) (1001 - x3).toNat x3 T ∧ F37 w0 r.2 ∧ RGx r.2) := fun y hy => kT_some ⟨hy, hk, T 1 3, T 1 4, h2.1.1.1, h1.2⟩
      have hcc := h2.1.1.2.2.2.2.2.2.1
      have htt := tot_in h2.1
      have hQ := h2.2
      have h48 : x3 ≤ 1000 → ¬ dpk p T = true → kT (f_X_ticksUntilDelivered_48 (f_X_ticksUntilDelivered_4 m) p x2 x3 w') (fun r => r.1 = thd (dpk p) (1001 - x3).toNat x3 T ∧ F37 w0 r.2 ∧ RGx r.2) := by
        intro hx3 hd
        unfold f_X_ticksUntilDelivered_48
        refine kT_if (fun c2 => fin _ ?_) (fun c2 => ?_)
        · rcases hh with z | ⟨z, -⟩ | ⟨-, T0, ⟨⟨I0, Q0⟩, i0⟩, ⟨⟨I1, Q1⟩, i1⟩, e⟩
          · omega
          · omega
          · have IT := h2.1
            rw [e] at IT
            obtain ⟨⟨P, n1, n2⟩, J⟩ := on_2 I0 Q0 i0 I1 Q1 i1 IT
            rw [← e] at J
            rw [dpk_q J.1] at hd
            exact (thd_on I1 P n1 n2 hd _ x3 T w' h1 h2.1 h3 (by omega) J).symm
        obtain ⟨y, w2, ⟨a1, a2, a3, a4⟩, a5, a6, a7⟩ := n_runTick h1 h2.1 (by omega) h3.symm
        have e10 := stk_10 h2.1
        refine kT_eq a7 ?_
        have h89 : ∀ s0, hst s0 (stk T) → kT (f_X_ticksUntilDelivered_89 (f_X_ticksUntilDelivered_4 m) s0 p x3 w2) (fun r => r.1 = thd (dpk p) (1001 - x3).toNat x3 T ∧ F37 w0 r.2 ∧ RGx r.2) := by
          intro s0 u0
          unfold f_X_ticksUntilDelivered_89
          rw [w32_ok (z := x3 + 1) (by omega) (by omega), thd_s y0 hx3, if_neg hd]
          exact ih s0 (x3 + 1) w2 (stk T) (by omega) (by omega) (by omega) u0 a1 ⟨a3, hQ.tk h2.1⟩ (by rw [stk_5, a6, w32_2]) (by rw [e10]; omega) (hk.tr (F37.fn a2)) (fun z => by rw [stk_c]; exact hp z)
        dsimp only
        refine kT_if (fun c => kT_if (fun c3 => h89 _ ?_) (fun _ => h89 _ (Or.inl rfl))) (fun _ => h89 _ (Or.inl rfl))
        have hi : idl T := by
          refine ⟨?_, ?_⟩
          · show skd (sfg (qud T 22 1 0)) 5 14 = T 5 14
            rw [a6, c, Int.add_zero, h3]
          · rw [← c3]
            exact (rx_22_1 a1.1).symm
        rcases hh with z | ⟨z, T0, i0, i1, e⟩ | ⟨z, -⟩
        · rw [z]
          exact Or.inr (Or.inl ⟨rfl, T, h2, hi, rfl⟩)
        · rw [z]
          exact Or.inr (Or.inr ⟨rfl, T0, ⟨i0, i1⟩, by rw [← e]; exact ⟨h2, hi⟩, by rw [← e]⟩)
        · exact absurd z c2
      rw [f_X_ticksUntilDelivered_4]
      refine kT_if (fun c3 => ?_) (fun c3 => fin _ (thd_z (by omega)).symm)
      refine kT_if (fun cp => ?_) (fun cp => ?_)
      · unfold f_P_left
        refine kT_eq rfl ?_
        dsimp only
        unfold XQ at hQ
        rw [show w' 42 13 = T 5 13 from rx_5_13 h1.1, show w' 42 14 = T 5 14 from rx_5_14 h1.1, w32_ok (by omega) (by omega)]
        refine kT_if (fun z => fin _ ?_) (fun z => h48 c3 (fun q => ?_))
        · rw [thd_s y0 c3, cp, if_pos (dpk_1.mpr (by omega))]
        · rw [cp] at q
          have := dpk_1.mp q
          omega
      · have hq := hp cp
        have hd : f_P_isDelivered 42 p w' = some (bi (decide (T 9 p = 3)), w') := by
          unfold f_P_isDelivered
          rw [qld_ok hq.1 (by omega), show w' (42 + 4) p = T 9 p from rx_9 h1.1 hq.1 hq.2 hcc.2]
          by_cases e : T 9 p = 3
          · rw [if_pos e, decide_eq_true e]; rfl
          · rw [if_neg e, decide_eq_false e]; rfl
        refine kT_eq hd ?_
        dsimp only
        rw [bi_if]
        refine kT_if (fun z => fin _ ?_) (fun z => h48 c3 (fun q => z ((dpk_p cp).mp q)))
        rw [thd_s y0 c3, if_pos ((dpk_p cp).mpr z)]
  unfold f_X_ticksUntilDelivered
  exact key qFU 0 0 w S (by omega) (by omega) (qFU_gt (by omega)) (Or.inl rfl) hx ⟨I, Q⟩ h14 (by omega) hf hp
theorem x_throughV (hx : NX 2 w S) (I : IV S) (X : IX S) (Q : XQ S) (hG : RGx w) (hc : S 0 10 + 1001 ≤ 1000000) : kT (f_X_through w) (fun r => r.1 = aThr S ∧ F37 w r.2 ∧ RGx r.2) := by
  unfold f_X_through
  refine kT_bind (n_copyFrom hx I hG) (fun w1 h1 => ?_)
  refine kT_bind (x_untilV (p := -1) h1.1 I Q X.2.2.2 hc h1.2 (fun z => absurd rfl z)) (fun r hr => ?_)
  exact kT_some hr
theorem ssa_p (hcc : 0 ≤ S 5 13) (z : (ssa S a b).1 ≠ -1) : 0 ≤ (ssa S a b).1 ∧ (ssa S a b).1 < (ssa S a b).2 5 13 := by
  unfold ssa at z ⊢
  by_cases e : svb S a b = true
  · rw [if_pos e]
    refine ⟨hcc, ?_⟩
    show S 5 13 < ssd S a b 5 13
    rw [ssd_c]; omega
  · rw [if_neg e] at z
    exact absurd rfl z
theorem x_arrivesV (hx : NX 2 w S) (I : IV S) (X : IX S) (Q : XQ S) (hG : RGx w) (hc : S 0 10 + 1001 ≤ 1000000) : kT (f_X_arrives a b w) (fun r => r.1 = aArr S a b ∧ F37 w r.2 ∧ RGx r.2) := by
  have hcc := I.1.2.2.2.2.2.2.1
  unfold f_X_arrives aArr
  refine kT_bind (n_copyFrom hx I hG) (fun w1 h1 => ?_)
  refine kT_bind (n_admit (a := a) (b := b) h1.1 I) (fun r hr => ?_)
  have hI := I.sa (a := a) (b := b)
  have hX := X.sa (a := a) (b := b) I
  have hf : F37 w r.2 := h1.2.tr (F37.fn hr.2.2)
  rw [hr.1]
  refine kT_if (fun z => kT_some ⟨by rw [if_pos z], hf, _, _, hI.1.1, hr.2.1.2⟩) (fun cp => ?_)
  rw [if_neg cp]
  exact kT_bind (x_untilV (p := (ssa S a b).1) hr.2.1 hI (Q.sa I) hX.2.2.2 (by rw [ssa_0.1]; omega) hf (fun z => ssa_p hcc.1 z)) (fun r hr => kT_some hr)
/-- the reference -/
theorem m_thr62V (hR : RM w S) (hk : kept w w') : kT (f_M_through_62 a x w') (fun r => r.1 = (if a = 0 then -1 else x) ∧ RM r.2 S ∧ FA w r.2) := by
  unfold f_M_through_62
  refine kT_bind (m_back hR hk) (fun w2 h2 => ?_)
  exact kT_if (fun c => kT_some ⟨by rw [if_pos c], h2⟩) (fun c => kT_some ⟨by rw [if_neg c], h2⟩)
theorem m_throughV (hR : RM w S) (I : IV S) (X : IX S) (Q : XQ S) (hc : S 0 10 + 1000 ≤ 1000000) : kT (f_M_through w) (fun r => r.1 = aThr S ∧ RM r.2 S ∧ FA w r.2) := by
  have h40 : ∀ x w' T y, RM w' T → kept w w' → y = (if dpk (-1) T = true then x else -1) → kT (f_M_through_40 x w') (fun r => r.1 = y ∧ RM r.2 S ∧ FA w r.2) := by
    intro x w' T y hT hk hy
    unfold f_M_through_40
    rw [qld_ok (by decide) (by decide), qld_ok (by decide) (by decide), rm_5_14 hT, rm_5_13 hT]
    refine kT_if (fun c => kT_mono (m_thr62V hR hk) (fun r hr => ⟨?_, hr.2⟩)) (fun c => kT_mono (m_thr62V hR hk) (fun r hr => ⟨?_, hr.2⟩))
    · rw [hr.1, hy, if_pos (dpk_1.mpr c), if_neg (by decide)]
    · rw [hr.1, hy, if_neg (fun z => c (dpk_1.mp z)), if_pos rfl]
  have key : ∀ (m : Nat) (x : Int) (w' T : qMem), 0 ≤ x → x ≤ 1000 → 1000 - x < m → RM w' T → IV T → IX T → XQ T → T 0 10 + (1000 - x) ≤ 1000000 → kept w w' → kT (f_M_through_6 m x w') (fun r => r.1 = thd (dpk (-1)) (1001 - x).toNat x T ∧ RM r.2 S ∧ FA w r.2) := by
    intro m
    induction m with
    | zero => intro x w' T _ _ _ _ _ _ _ _ _; omega
    | succ m ih =>
      intro x w' T x0 x1 hm h1 h2 h3 hQ h4 hk
      have htt := tot_in h2
      have hQ2 := hQ
      unfold XQ at hQ2
      rw [f_M_through_6, thd_s x0 x1]
      refine kT_if (fun c => ?_) (fun c => h40 x w' T _ h1 hk (by rw [thd_z (by omega)]))
      rw [qld_ok (by decide) (by decide), qld_ok (by decide) (by decide), rm_5_14 h1, rm_5_13 h1]
      refine kT_if (fun cd => ?_) (fun cd => h40 x w' T _ h1 hk (by rw [if_pos (dpk_1.mpr (show T 5 14 = T 5 13 by omega)), if_pos (dpk_1.mpr (show T 5 14 = T 5 13 by omega))]))
      refine kT_bind (m_ticks h1 h2 h3 (by omega)) (fun w2 hw => ?_)
      obtain ⟨⟨a1, a2⟩, ⟨a3, a4, a5⟩, a6⟩ := hw
      rw [w32_ok (z := x + 1) (by omega) (by omega), if_neg (fun z => by have := dpk_1.mp z; omega)]
      exact ih (x + 1) w2 (stk T) (by omega) (by omega) (by omega) a1 a4 a3 (hQ.tk h2) (by rw [a6]; omega) (hk.fm a2)
  unfold f_M_through
  refine kT_bind m_aside (fun w1 h1 => ?_)
  exact key qFU 0 w1 S (by omega) (by omega) (qFU_gt (by omega)) (hR.fr (fun j _ _ => h1.2 j)) I X Q (by omega) h1.1
theorem ssa_no (h : ¬ ((0 ≤ a ∧ a < S 1 3 * S 1 4) ∧ (0 ≤ b ∧ b < S 1 3 * S 1 4) ∧ a ≠ b)) : (ssa S a b).1 = -1 := by
  unfold ssa
  rw [if_neg (fun z => h (svb_t z).1)]
theorem m_arrivesV (hR : RM w S) (I : IV S) (X : IX S) (Q : XQ S) (hc : S 0 10 + 1000 ≤ 1000000) : kT (f_M_arrives a b w) (fun r => r.1 = aArr S a b ∧ RM r.2 S ∧ FA w r.2) := by
  have h92 : ∀ s x w', kept w w' → kT (f_M_arrives_92 s x w') (fun r => r.1 = (if s = 0 then -1 else x) ∧ RM r.2 S ∧ FA w r.2) := by
    intro s x w' hk
    unfold f_M_arrives_92
    refine kT_bind (m_back hR hk) (fun w2 h2 => ?_)
    exact kT_if (fun c => kT_some ⟨by rw [if_pos c], h2⟩) (fun c => kT_some ⟨by rw [if_neg c], h2⟩)
  have h71 : ∀ p x w' T y, RM w' T → IV T → kept w w' → (p ≠ -1 ∧ 0 ≤ p ∧ p < T 5 13) → y = (if dpk p T = true then x else -1) → kT (f_M_arrives_71 p x w') (fun r => r.1 = y ∧ RM r.2 S ∧ FA w r.2) := by
    intro p x w' T y h1 h2 hk hp hy
    have hd := pk_d h2 hp.2.1 hp.2.2
    unfold f_M_arrives_71
    rw [if_neg hp.1]
    refine kT_eq (mp_of h1 h2 hp.2.1 hp.2.2 (f := 13) (by decide) (by decide) (by decide)) (kT_if (fun c => kT_mono (h92 _ _ _ hk) (fun r hr => ⟨?_, hr.2⟩)) (fun c => kT_mono (h92 _ _ _ hk) (fun r hr => ⟨?_, hr.2⟩)))
    · rw [hr.1, hy, if_pos rfl, if_neg (fun z => hd.mp ((dpk_p hp.1).mp z) c)]
    · rw [hr.1, hy, if_neg (by decide), if_pos ((dpk_p hp.1).mpr (hd.mpr c))]
  have key : ∀ (m : Nat) (p x : Int) (w' T : qMem), 0 ≤ x → x ≤ 1000 → 1000 - x < m → RM w' T → IV T → IX T → T 0 10 + (1000 - x) ≤ 1000000 → kept w w' → (p ≠ -1 ∧ 0 ≤ p ∧ p < T 5 13) → kT (f_M_arrives_37 m p x w') (fun r => r.1 = thd (dpk p) (1001 - x).toNat x T ∧ RM r.2 S ∧ FA w r.2) := by
    intro m
    induction m with
    | zero => intro p x w' T _ _ _ _ _ _ _ _ _; omega
    | succ m ih =>
      intro p x w' T x0 x1 hm h1 h2 h3 h4 hk hp
      have hd := pk_d h2 hp.2.1 hp.2.2
      rw [f_M_arrives_37, if_neg hp.1, thd_s x0 x1]
      refine kT_if (fun c => ?_) (fun c => h71 p x w' T _ h1 h2 hk hp (by rw [thd_z (by omega)]))
      refine kT_eq (mp_of h1 h2 hp.2.1 hp.2.2 (f := 13) (by decide) (by decide) (by decide)) ?_
      dsimp only
      refine kT_if (fun e => ?_) (fun e => h71 p x w' T _ h1 h2 hk hp (by rw [if_pos ((dpk_p hp.1).mpr (hd.mpr e)), if_pos ((dpk_p hp.1).mpr (hd.mpr e))]))
      refine kT_bind (m_ticks h1 h2 h3 (by omega)) (fun w2 hw => ?_)
      obtain ⟨⟨a1, a2⟩, ⟨a3, a4, a5⟩, a6⟩ := hw
      rw [w32_ok (z := x + 1) (by omega) (by omega), if_neg (fun z => hd.mp ((dpk_p hp.1).mp z) e)]
      exact ih p (x + 1) w2 (stk T) (by omega) (by omega) (by omega) a1 a4 a3 (by rw [a6]; omega) (hk.fm a2) (by rw [stk_c]; exact hp)
  have hno : ¬ ((0 ≤ a ∧ a < S 1 3 * S 1 4) ∧ (0 ≤ b ∧ b < S 1 3 * S 1 4) ∧ a ≠ b) → kT (some ((-1 : Int), w)) (fun r => r.1 = aArr S a b ∧ RM r.2 S ∧ FA w r.2) := fun z => kT_some ⟨by unfold aArr; rw [if_pos (ssa_no z)], hR, FA.rfl'⟩
  unfold f_M_arrives
  refine kT_eq (mg_isNode hR.wh I.1.1) ?_
  dsimp only
  rw [bi_if]
  refine kT_if (fun ca => ?_) (fun c => hno (fun z => c z.1))
  refine kT_eq (mg_isNode hR.wh I.1.1) ?_
  dsimp only
  rw [bi_if]
  refine kT_if (fun cb => ?_) (fun c => hno (fun z => c z.2.1))
  refine kT_if (fun c => hno (fun z => z.2.2 c)) (fun cab => ?_)
  refine kT_bind m_aside (fun w1 h1 => ?_)
  have hR1 : RM w1 S := hR.fr (fun j _ _ => h1.2 j)
  refine kT_bind (m_sends hR1 I ca cb cab) (fun r hr => ?_)
  have hcc := I.1.2.2.2.2.2.2.1
  rw [hr.1]
  unfold aArr
  by_cases z : (ssa S a b).1 = -1
  · rw [if_pos z, z]
    have e : qFU = 999999999 + 1 := rfl
    rw [e, f_M_arrives_37, if_pos rfl]
    unfold f_M_arrives_71
    rw [if_pos rfl]
    exact kT_mono (h92 0 0 _ (h1.1.fm hr.2.2)) (fun r hr => ⟨by rw [hr.1, if_pos rfl], hr.2⟩)
  · rw [if_neg z]
    exact key qFU _ 0 r.2 (ssa S a b).2 (by omega) (by omega) (qFU_gt (by omega)) hr.2.1 I.sa (X.sa I) (by rw [ssa_0.1]; omega) (h1.1.fm hr.2.2) ⟨z, ssa_p hcc.1 z⟩
end TV
