/-! asking what is counted over packets: that it is answered (the class) -/
def sA (w : qMem) (F : Option (Int × qMem)) : Prop := ∃ y, F = some (y, w)
section Q5
variable {w w' S T : qMem} {v t n x p a b l : Int} {α : Type}
theorem sA_s {y : Int} : sA w (some (y, w)) := ⟨y, rfl⟩
theorem sA_e {F : Option (Int × qMem)} (h : sA w F) : sA w (F.bind fun q => some (q.1, q.2)) := by
  obtain ⟨y, h⟩ := h
  exact ⟨y, qpe h⟩
theorem sA_b {F : Option (Int × qMem)} {K : Int × qMem → Option (Int × qMem)} (h : sA w F) (k : ∀ y, sA w (K (y, w))) : sA w (F.bind K) := by
  obtain ⟨y, h⟩ := h
  rw [qbd h]
  exact k y
theorem sA_eq {F : Option (Int × qMem)} {K : Int × qMem → Option (Int × qMem)} {y : Int} (h : F = some (y, w)) (k : sA w (K (y, w))) : sA w (F.bind K) := by
  rw [qbd h]
  exact k
theorem sA_if {c : Prop} {inst : Decidable c} {F G : Option (Int × qMem)} (h1 : c → sA w F) (h2 : ¬ c → sA w G) : sA w (@ite _ c inst F G) := by
  by_cases h : c
  · rw [if_pos h]; exact h1 h
  · rw [if_neg h]; exact h2 h
/-- a loop that only looks -/
theorem sA_loop {σ : Type} {N : Int} {L : Nat → Int → σ → Option (Int × qMem)} (hs : ∀ m x s, 0 ≤ x → x < N → (∀ s', sA w (L m (x + 1) s')) → sA w (L (m + 1) x s)) (he : ∀ m s, sA w (L (m + 1) N s)) (n0 : 0 ≤ N) (n1 : N < 1000000000) (s : σ) : sA w (L qFU 0 s) := by
  have key : ∀ (m : Nat) (x : Int) (s : σ), 0 ≤ x → x ≤ N → N - x < m → sA w (L m x s) := by
    intro m
    induction m with
    | zero => intro x s _ _ _; omega
    | succ m ih =>
      intro x s x0 x1 hm
      by_cases e : x < N
      · exact hs m x s x0 e (fun s' => ih (x + 1) s' (by omega) (by omega) (by omega))
      · have : x = N := by omega
        subst this
        exact he m s
  exact key qFU 0 s (by omega) n0 (qFU_gt (by omega))
/-- few words on packets -/
theorem xp_c (hx : NX 2 w S) : w 7 13 = S 5 13 := rx_5_13 hx.1
theorem xp_btw (hx : NX 2 w S) (I : IV S) (p0 : 0 ≤ p) (p1 : p < S 5 13) : f_P_isBetween 7 p a b w = some (bi (decide (S 6 p = a ∧ S 7 p = b)), w) := by
  have hc := I.1.2.2.2.2.2.2.1
  unfold f_P_isBetween
  rw [qld_ok p0 (by omega), qld_ok p0 (by omega), show w (7 + 1) p = S 6 p from rx_6 hx.1 p0 p1 hc.2, show w (7 + 2) p = S 7 p from rx_7 hx.1 p0 p1 hc.2]
  by_cases e : S 6 p = a
  · rw [if_pos e]
    by_cases e2 : S 7 p = b
    · rw [if_pos e2, decide_eq_true ⟨e, e2⟩]; rfl
    · rw [if_neg e2, decide_eq_false (fun z => e2 z.2)]; rfl
  · rw [if_neg e, decide_eq_false (fun z => e z.1)]; rfl
theorem xp_del (hx : NX 2 w S) (I : IV S) (p0 : 0 ≤ p) (p1 : p < S 5 13) : f_P_isDelivered 7 p w = some (bi (decide (S 9 p = 3)), w) := by
  have hc := I.1.2.2.2.2.2.2.1
  unfold f_P_isDelivered
  rw [qld_ok p0 (by omega), show w (7 + 4) p = S 9 p from rx_9 hx.1 p0 p1 hc.2]
  by_cases e : S 9 p = 3
  · rw [if_pos e, decide_eq_true e]; rfl
  · rw [if_neg e, decide_eq_false e]; rfl
theorem xp_late (hx : NX 2 w S) (I : IV S) (p0 : 0 ≤ p) (p1 : p < S 5 13) : f_P_lateness 7 p w = some (w32 (S 13 p - S 8 p), w) := by
  have hc := I.1.2.2.2.2.2.2.1
  unfold f_P_lateness
  rw [qld_ok p0 (by omega), qld_ok p0 (by omega), show w (7 + 8) p = S 13 p from rx_13 hx.1 p0 p1 hc.2, show w (7 + 3) p = S 8 p from rx_8 hx.1 p0 p1 hc.2]
theorem xs_sentFrom (hx : NX 2 w S) (I : IV S) : sA w (f_P_sentFrom 7 v w) := by
  have hc := I.1.2.2.2.2.2.2.1
  unfold f_P_sentFrom
  refine sA_loop (σ := Int) (N := S 5 13) (L := fun m x s => f_P_sentFrom_4 7 m v s x w) (fun m x s x0 x1 ih => ?_) (fun m s => ?_) hc.1 (by omega) 0
  · rw [f_P_sentFrom_4, xp_c hx, if_pos x1, qld_ok x0 (by omega), w32_ok (z := x + 1) (by omega) (by omega)]
    exact sA_if (fun _ => ih _) (fun _ => ih _)
  · rw [f_P_sentFrom_4, xp_c hx, if_neg (by omega)]; exact sA_s
theorem xs_delTo (hx : NX 2 w S) (I : IV S) : sA w (f_P_deliveredTo 7 v w) := by
  have hc := I.1.2.2.2.2.2.2.1
  unfold f_P_deliveredTo
  refine sA_loop (σ := Int) (N := S 5 13) (L := fun m x s => f_P_deliveredTo_4 7 m v s x w) (fun m x s x0 x1 ih => ?_) (fun m s => ?_) hc.1 (by omega) 0
  · rw [f_P_deliveredTo_4, xp_c hx, if_pos x1, qld_ok x0 (by omega), w32_ok (z := x + 1) (by omega) (by omega)]
    refine sA_if (fun _ => sA_eq (xp_del hx I x0 x1) ?_) (fun _ => ih _)
    exact sA_if (fun _ => ih _) (fun _ => ih _)
  · rw [f_P_deliveredTo_4, xp_c hx, if_neg (by omega)]; exact sA_s
theorem xs_door (hx : NX 2 w S) (I : IV S) : sA w (f_P_longestAtDoor 7 v w) := by
  have hc := I.1.2.2.2.2.2.2.1
  unfold f_P_longestAtDoor
  refine sA_loop (σ := Int) (N := S 5 13) (L := fun m x s => f_P_longestAtDoor_4 7 m v s x w) (fun m x s x0 x1 ih => ?_) (fun m s => ?_) hc.1 (by omega) 0
  · rw [f_P_longestAtDoor_4, xp_c hx, if_pos x1, qld_ok x0 (by omega), qld_ok x0 (by omega), qld_ok x0 (by omega), qld_ok x0 (by omega), w32_ok (z := x + 1) (by omega) (by omega)]
    exact sA_if (fun _ => sA_if (fun _ => ih _) (fun _ => ih _)) (fun _ => ih _)
  · rw [f_P_longestAtDoor_4, xp_c hx, if_neg (by omega)]; exact sA_s
theorem xs_sentB (hx : NX 2 w S) (I : IV S) : sA w (f_P_sentBetween 7 a b w) := by
  have hc := I.1.2.2.2.2.2.2.1
  unfold f_P_sentBetween
  refine sA_loop (σ := Int) (N := S 5 13) (L := fun m x s => f_P_sentBetween_5 7 m a b s x w) (fun m x s x0 x1 ih => ?_) (fun m s => ?_) hc.1 (by omega) 0
  · rw [f_P_sentBetween_5, xp_c hx, if_pos x1, w32_ok (z := x + 1) (by omega) (by omega)]
    exact sA_eq (xp_btw hx I x0 x1) (sA_if (fun _ => ih _) (fun _ => ih _))
  · rw [f_P_sentBetween_5, xp_c hx, if_neg (by omega)]; exact sA_s
theorem xs_delB (hx : NX 2 w S) (I : IV S) : sA w (f_P_deliveredBetween 7 a b w) := by
  have hc := I.1.2.2.2.2.2.2.1
  unfold f_P_deliveredBetween
  refine sA_loop (σ := Int) (N := S 5 13) (L := fun m x s => f_P_deliveredBetween_5 7 m a b s x w) (fun m x s x0 x1 ih => ?_) (fun m s => ?_) hc.1 (by omega) 0
  · rw [f_P_deliveredBetween_5, xp_c hx, if_pos x1, w32_ok (z := x + 1) (by omega) (by omega)]
    exact sA_eq (xp_btw hx I x0 x1) (sA_if (fun _ => ih _) (fun _ => sA_eq (xp_del hx I x0 x1) (sA_if (fun _ => ih _) (fun _ => ih _))))
  · rw [f_P_deliveredBetween_5, xp_c hx, if_neg (by omega)]; exact sA_s
theorem xs_disB (hx : NX 2 w S) (I : IV S) : sA w (f_P_disorderBetween 7 a b w) := by
  have hc := I.1.2.2.2.2.2.2.1
  unfold f_P_disorderBetween
  refine sA_loop (σ := Int) (N := S 5 13) (L := fun m x s => f_P_disorderBetween_5 7 m a b s x w) (fun m x s x0 x1 ih => ?_) (fun m s => ?_) hc.1 (by omega) 0
  · rw [f_P_disorderBetween_5, xp_c hx, if_pos x1, w32_ok (z := x + 1) (by omega) (by omega)]
    refine sA_eq (xp_btw hx I x0 x1) (sA_if (fun _ => ih _) (fun _ => ?_))
    rw [qld_ok x0 (by omega)]
    exact ih _
  · rw [f_P_disorderBetween_5, xp_c hx, if_neg (by omega)]; exact sA_s
theorem xs_latB (hx : NX 2 w S) (I : IV S) : sA w (f_P_latestBetween 7 a b w) := by
  have hc := I.1.2.2.2.2.2.2.1
  unfold f_P_latestBetween
  refine sA_loop (σ := Int) (N := S 5 13) (L := fun m x s => f_P_latestBetween_5 7 m a b s x w) (fun m x s x0 x1 ih => ?_) (fun m s => ?_) hc.1 (by omega) (-1)
  · rw [f_P_latestBetween_5, xp_c hx, if_pos x1, w32_ok (z := x + 1) (by omega) (by omega)]
    exact sA_eq (xp_btw hx I x0 x1) (sA_if (fun _ => ih _) (fun _ => sA_eq (xp_del hx I x0 x1) (sA_if (fun _ => ih _) (fun _ => sA_eq (xp_late hx I x0 x1) (ih _)))))
  · rw [f_P_latestBetween_5, xp_c hx, if_neg (by omega)]; exact sA_s
theorem xs_within (hx : NX 2 w S) (I : IV S) : sA w (f_P_lateWithin 7 a b w) := by
  have hc := I.1.2.2.2.2.2.2.1
  unfold f_P_lateWithin
  refine sA_loop (σ := Int) (N := S 5 13) (L := fun m x s => f_P_lateWithin_5 7 m a b s x w) (fun m x s x0 x1 ih => ?_) (fun m s => ?_) hc.1 (by omega) 0
  · rw [f_P_lateWithin_5, xp_c hx, if_pos x1, w32_ok (z := x + 1) (by omega) (by omega)]
    exact sA_eq (xp_del hx I x0 x1) (sA_if (fun _ => ih _) (fun _ => sA_eq (xp_late hx I x0 x1) (sA_if (fun _ => ih _) (fun _ => sA_eq (xp_late hx I x0 x1) (sA_if (fun _ => ih _) (fun _ => ih _))))))
  · rw [f_P_lateWithin_5, xp_c hx, if_neg (by omega)]; exact sA_s
theorem xs_above (hx : NX 2 w S) (I : IV S) : sA w (f_P_lateAbove 7 a w) := by
  have hc := I.1.2.2.2.2.2.2.1
  unfold f_P_lateAbove
  refine sA_loop (σ := Int) (N := S 5 13) (L := fun m x s => f_P_lateAbove_4 7 m a s x w) (fun m x s x0 x1 ih => ?_) (fun m s => ?_) hc.1 (by omega) (-1)
  · have h43 : sA w (f_P_lateAbove_43 7 (f_P_lateAbove_4 7 m) a x w) := by
      unfold f_P_lateAbove_43
      rw [w32_ok (z := x + 1) (by omega) (by omega)]
      exact sA_eq (xp_late hx I x0 x1) (ih _)
    rw [f_P_lateAbove_4, xp_c hx, if_pos x1, w32_ok (z := x + 1) (by omega) (by omega)]
    exact sA_eq (xp_del hx I x0 x1) (sA_if (fun _ => ih _) (fun _ => sA_eq (xp_late hx I x0 x1) (sA_if (fun _ => ih _) (fun _ => sA_if (fun _ => h43) (fun _ => sA_eq (xp_late hx I x0 x1) (sA_if (fun _ => h43) (fun _ => ih _)))))))
  · rw [f_P_lateAbove_4, xp_c hx, if_neg (by omega)]; exact sA_s
theorem xs_diff (hx : NX 2 w S) (I : IV S) : sA w (f_P_differentLates 7 w) := by
  have key : ∀ (m : Nat) (x l : Int), 0 ≤ x → x ≤ 250 → 250 - x < m → sA w (f_P_differentLates_8 7 m x l w) := by
    intro m
    induction m with
    | zero => intro x l _ _ _; omega
    | succ m ih =>
      intro x l x0 x1 hm
      rw [f_P_differentLates_8, w32_ok (z := x + 1) (by omega) (by omega)]
      refine sA_if (fun _ => sA_s) (fun _ => sA_if (fun c => ?_) (fun _ => sA_s))
      exact sA_b (xs_above hx I) (fun y => ih (x + 1) y (by omega) (by omega) (by omega))
  unfold f_P_differentLates
  exact sA_b (xs_above hx I) (fun y => key qFU 0 y (by omega) (by omega) (qFU_gt (by omega)))
theorem xs_at (hx : NX 2 w S) (I : IV S) : sA w (f_P_lateAt 7 a w) := by
  have hc := I.1.2.2.2.2.2.2.1
  have key : ∀ (m : Nat) (x l : Int), a < 250 → 0 ≤ x → a - x < m → (x ≤ a ∨ 0 < m) → sA w (f_P_lateAt_22 7 m a l x w) := by
    intro m
    induction m with
    | zero => intro x l _ _ h h'; omega
    | succ m ih =>
      intro x l a1 x0 hm _
      rw [f_P_lateAt_22]
      refine sA_if (fun c => sA_if (fun _ => sA_s) (fun _ => ?_)) (fun _ => sA_s)
      rw [w32_ok (z := x + 1) (by omega) (by omega)]
      exact sA_b (xs_above hx I) (fun y => ih (x + 1) y a1 (by omega) (by omega) (by omega))
  unfold f_P_lateAt
  rw [xp_c hx]
  refine sA_if (fun _ => sA_s) (fun c0 => sA_if (fun c1 => ?_) (fun _ => sA_s))
  exact sA_b (xs_above hx I) (fun y => key qFU 0 y (by omega) (by omega) (qFU_gt (by omega)) (Or.inr (by unfold qFU; omega)))
theorem xs_lateT (hx : NX 2 w S) (I : IV S) : sA w (f_P_lateTogether 7 w) := by
  have hc := I.1.2.2.2.2.2.2.1
  unfold f_P_lateTogether
  refine sA_loop (σ := Int) (N := S 5 13) (L := fun m x s => f_P_lateTogether_4 7 m s x w) (fun m x s x0 x1 ih => ?_) (fun m s => ?_) hc.1 (by omega) 0
  · rw [f_P_lateTogether_4, xp_c hx, if_pos x1, w32_ok (z := x + 1) (by omega) (by omega)]
    exact sA_eq (xp_del hx I x0 x1) (sA_if (fun _ => ih _) (fun _ => sA_eq (xp_late hx I x0 x1) (ih _)))
  · rw [f_P_lateTogether_4, xp_c hx, if_neg (by omega)]; exact sA_s
theorem xs_hopsT (hx : NX 2 w S) (I : IV S) : sA w (f_P_hopsTogether 7 w) := by
  have hc := I.1.2.2.2.2.2.2.1
  unfold f_P_hopsTogether
  refine sA_loop (σ := Int) (N := S 5 13) (L := fun m x s => f_P_hopsTogether_4 7 m s x w) (fun m x s x0 x1 ih => ?_) (fun m s => ?_) hc.1 (by omega) 0
  · rw [f_P_hopsTogether_4, xp_c hx, if_pos x1, qld_ok x0 (by omega), w32_ok (z := x + 1) (by omega) (by omega)]
    exact ih _
  · rw [f_P_hopsTogether_4, xp_c hx, if_neg (by omega)]; exact sA_s
theorem xs_disT (hx : NX 2 w S) (I : IV S) : sA w (f_P_disorderTogether 7 w) := by
  have hc := I.1.2.2.2.2.2.2.1
  unfold f_P_disorderTogether
  refine sA_loop (σ := Int) (N := S 5 13) (L := fun m x s => f_P_disorderTogether_4 7 m s x w) (fun m x s x0 x1 ih => ?_) (fun m s => ?_) hc.1 (by omega) 0
  · rw [f_P_disorderTogether_4, xp_c hx, if_pos x1, qld_ok x0 (by omega), w32_ok (z := x + 1) (by omega) (by omega)]
    exact ih _
  · rw [f_P_disorderTogether_4, xp_c hx, if_neg (by omega)]; exact sA_s
theorem xs_heldFrom (q0 : 0 ≤ a) (q1 : a + b ≤ 144) (b0 : 0 ≤ b) : sA w (f_Q_heldFrom 21 a b w) := by
  unfold f_Q_heldFrom
  refine sA_loop (σ := Int) (N := b) (L := fun m x s => f_Q_heldFrom_5 21 m a b s x w) (fun m x s x0 x1 ih => ?_) (fun m s => ?_) b0 (by omega) 0
  · rw [f_Q_heldFrom_5, if_pos x1, w32_ok (z := a + x) (by omega) (by omega), qld_ok (by omega) (by omega), w32_ok (z := x + 1) (by omega) (by omega)]
    exact ih _
  · rw [f_Q_heldFrom_5, if_neg (by omega)]; exact sA_s
theorem xs_lane (hx : NX 2 w S) (I : IV S) : sA w (f_N_heldInLane 2 l w) := by
  have hN := gN I.1.1
  have e5 : w (2 + 1) 5 = S 1 3 * S 1 4 := hx.2.2.1.1
  unfold f_N_heldInLane
  refine sA_loop (σ := Int) (N := S 1 3 * S 1 4) (L := fun m x s => f_N_heldInLane_4 2 m l s x w) (fun m x s x0 x1 ih => ?_) (fun m s => ?_) (by omega) (by omega) 0
  · rw [f_N_heldInLane_4, e5, if_pos x1, w32_ok (z := x * 9) (by omega) (by omega), w32_ok (z := x + 1) (by omega) (by omega)]
    refine sA_if (fun _ => ?_) (fun _ => ?_)
    · rw [qld_ok (by omega) (by omega)]; exact ih _
    · have hf : f_X_firstOfLane l w = some ((if l = 1 then 1 else 5), w) := by
        unfold f_X_firstOfLane
        split <;> rfl
      refine sA_eq hf ?_
      dsimp only
      have h15 : (if l = 1 then (1 : Int) else 5) = 1 ∨ (if l = 1 then (1 : Int) else 5) = 5 := by split <;> simp
      rw [w32_ok (z := x * 9 + (if l = 1 then 1 else 5)) (by omega) (by omega)]
      exact sA_b (xs_heldFrom (by omega) (by omega) (by omega)) (fun y => ih _)
  · rw [f_N_heldInLane_4, e5, if_neg (by omega)]; exact sA_s
theorem xs_marks : sA w (f_R_marksNow 26 w) := by
  unfold f_R_marksNow
  refine sA_loop (σ := Int) (N := 16) (L := fun m x s => f_R_marksNow_4 26 m s x w) (fun m x s x0 x1 ih => ?_) (fun m s => ?_) (by omega) (by omega) 0
  · rw [f_R_marksNow_4, if_pos x1, qld_ok x0 x1, w32_ok (z := x + 1) (by omega) (by omega)]
    exact sA_if (fun _ => ih _) (fun _ => ih _)
  · rw [f_R_marksNow_4, if_neg (by decide)]; exact sA_s
theorem xs_node (hx : NX 2 w S) (I : IV S) : sA w (f_X_node v x w) := by
  have hN := gN I.1.1
  unfold f_X_node
  refine sA_eq (g_hasNode (o := 3) hx.2) ?_
  dsimp only
  rw [bi_if]
  refine sA_if (fun c => ?_) (fun _ => sA_s)
  rw [w32_ok (z := v * 9) (by omega) (by omega)]
  refine sA_if (fun _ => ?_) (fun _ => sA_if (fun _ => sA_e (xs_heldFrom (by omega) (by omega) (by decide))) (fun _ => sA_if (fun _ => sA_e (xs_sentFrom hx I)) (fun _ => sA_if (fun _ => sA_e (xs_delTo hx I)) (fun _ => sA_if (fun _ => ?_) (fun _ => sA_if (fun _ => sA_e (xs_door hx I)) (fun _ => sA_s))))))
  · rw [qld_ok (by omega) (by omega)]; exact sA_s
  · rw [qld_ok c.1 (by omega)]; exact sA_s
theorem xs_pair (hx : NX 2 w S) (I : IV S) : sA w (f_X_pair a b x w) := by
  unfold f_X_pair
  refine sA_eq (g_hasNode (o := 3) hx.2) ?_
  dsimp only
  rw [bi_if]
  refine sA_if (fun c => ?_) (fun _ => sA_s)
  refine sA_eq (g_hasNode (o := 3) hx.2) ?_
  dsimp only
  rw [bi_if]
  refine sA_if (fun c => ?_) (fun _ => sA_s)
  exact sA_if (fun _ => sA_e (xs_sentB hx I)) (fun _ => sA_if (fun _ => sA_e (xs_delB hx I)) (fun _ => sA_if (fun _ => sA_e (xs_disB hx I)) (fun _ => sA_if (fun _ => sA_e (xs_latB hx I)) (fun _ => sA_s))))
theorem xs_late (hx : NX 2 w S) (I : IV S) : sA w (f_X_late a b w) := by
  unfold f_X_late
  exact sA_e (xs_within hx I)
theorem xs_lates (hx : NX 2 w S) (I : IV S) : sA w (f_X_lates a x w) := by
  unfold f_X_lates
  refine sA_eq x_within ?_
  dsimp only
  rw [bi_if]
  refine sA_if (fun c => ?_) (fun _ => sA_s)
  refine sA_if (fun _ => sA_e (xs_diff hx I)) (fun _ => ?_)
  refine sA_b (xs_at hx I) (fun y => ?_)
  exact sA_if (fun _ => sA_s) (fun _ => sA_if (fun _ => sA_s) (fun _ => sA_e (xs_within hx I)))
theorem xs_look (hx : NX 2 w S) (I : IV S) : sA w (f_X_look x w) := by
  unfold f_X_look
  refine sA_if (fun _ => sA_s) (fun _ => ?_)
  refine sA_if (fun _ => sA_s) (fun _ => ?_)
  refine sA_if (fun _ => sA_s) (fun _ => ?_)
  refine sA_if (fun _ => sA_s) (fun _ => ?_)
  refine sA_if (fun _ => sA_s) (fun _ => ?_)
  refine sA_if (fun _ => sA_s) (fun _ => ?_)
  refine sA_if (fun _ => sA_s) (fun _ => ?_)
  refine sA_if (fun _ => sA_s) (fun _ => ?_)
  refine sA_if (fun _ => sA_s) (fun _ => ?_)
  refine sA_if (fun _ => sA_e (xs_lane hx I)) (fun _ => ?_)
  refine sA_if (fun _ => sA_e (xs_lane hx I)) (fun _ => ?_)
  refine sA_if (fun _ => sA_e (xs_lane hx I)) (fun _ => ?_)
  refine sA_if (fun _ => sA_e (xs_lateT hx I)) (fun _ => ?_)
  refine sA_if (fun _ => sA_e (xs_hopsT hx I)) (fun _ => ?_)
  refine sA_if (fun _ => sA_s) (fun _ => ?_)
  refine sA_if (fun _ => sA_s) (fun _ => ?_)
  refine sA_if (fun _ => sA_e xs_marks) (fun _ => ?_)
  refine sA_if (fun _ => sA_s) (fun _ => ?_)
  refine sA_if (fun _ => sA_e (xs_disT hx I)) (fun _ => ?_)
  refine sA_if (fun _ => sA_s) (fun _ => ?_)
  exact sA_s
end Q5
