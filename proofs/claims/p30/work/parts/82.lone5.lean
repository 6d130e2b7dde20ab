/-! one ring alone (the class): exploring, weighing, solving -/
section LS2
variable {w w' w0 T : qMem} {n e x v i a s : Int} {k : Nat}
theorem LN.o (h : LN n e w0 w) (x0 : 0 ≤ x) (x1 : x < 10125) : LN n e w0 (qud w 102 i x) := by
  refine ⟨?_, h.2.wr (by decide)⟩
  have hI := h.1
  unfold LI at hI ⊢
  rw [qud_row (show (81 : Nat) ≠ 102 by decide), qud_row (show (86 : Nat) ≠ 102 by decide)]
  refine ⟨hI.1, hI.2.1, hI.2.2.1, hI.2.2.2.1, fun j j0 j1 => ?_, hI.2.2.2.2.2⟩
  rw [qud_if]
  split
  · exact ⟨x0, x1⟩
  · exact hI.2.2.2.2.1 j j0 j1
theorem LN.c (h : LN n e w0 w) (x0 : 0 ≤ x) (x1 : x ≤ 10125) : LN n e w0 (qud w 81 13 x) := by
  refine ⟨?_, h.2.wr (by decide)⟩
  have hI := h.1
  have r : ∀ j : Int, j ≠ 13 → qud w 81 13 x 81 j = w 81 j := fun j hj => qud_ni hj
  unfold LI at hI ⊢
  rw [r 8 (by decide), r 9 (by decide), r 11 (by decide), r 6 (by decide), r 7 (by decide), qud_s, qud_row (show (86 : Nat) ≠ 81 by decide), qud_row (show (102 : Nat) ≠ 81 by decide)]
  exact ⟨hI.1, hI.2.1, hI.2.2.1, hI.2.2.2.1, hI.2.2.2.2.1, x0, x1⟩
theorem LSt.wr' (h : LSt w) (hk : k ≠ 81 ∧ k ≠ 87) : LSt (qud w k i x) := h.wr hk
theorem LSt.c (h : LSt w) : LSt (qud w 81 13 x) := by
  unfold LSt
  rw [qud_ni (show (14 : Int) ≠ 13 by decide), qud_row (show (87 : Nat) ≠ 81 by decide)]
  exact h
theorem l_ex63 {r29 : Int → qMem → Option qMem} {P : qMem → Prop} {x1 x2 : Int} (b0 : 0 ≤ x2) (b1 : x2 < 10125) (hr : ∀ w, LN n e w0 w → kT (r29 (w32 (x1 + 1)) w) P) : ∀ (m : Nat) (x3 : Int) (w : qMem), 0 ≤ x3 → 16 - x3 < m → (x3 ≤ 16 ∨ 0 < m) → LN n e w0 w → LSt w → kT (f_L_explore_63 r29 m x1 x2 x3 w) P := by
  intro m
  induction m with
  | zero => intro x3 w _ _ h' _ _; omega
  | succ m ih =>
    intro x3 w y0 hm _ h hl
    have h14 := hl.1
    rw [f_L_explore_63]
    refine kT_if (fun c => ?_) (fun _ => hr _ h)
    have hs := hl.2 x3 y0 c
    rw [if_pos h.w7, qld_ok y0 (by omega), qld_ok hs.1 hs.2, w32_ok (z := x3 + 1) (by omega) (by omega)]
    have go : ∀ w, LN n e w0 w → LSt w → kT (f_L_explore_63 r29 m x1 x2 (x3 + 1) w) P := fun w h hl => ih (x3 + 1) w (by omega) (by omega) (by omega) h hl
    refine kT_if (fun _ => ?_) (fun _ => go _ h hl)
    refine kT_if (fun c13 => ?_) (fun _ => go _ h hl)
    have h13 := h.w13
    rw [if_pos h.w7, qld_ok y0 (by omega), if_pos h.w7, qld_ok b0 b1, qst_ok hs.1 hs.2]
    have g1 := h.wr (k := 103) (i := w 87 x3) (x := w32 (w 103 x2 + 1)) (by decide)
    have l1 : LSt (qud w 103 (w 87 x3) (w32 (w 103 x2 + 1))) := hl.wr (by decide)
    rw [if_pos g1.w6, qld_ok y0 (by omega), qud_nk (show (87 : Nat) ≠ 103 by decide), qud_nk (show (81 : Nat) ≠ 103 by decide), qst_ok h13.1 c13, qlt_ok, qud_nk (show (81 : Nat) ≠ 102 by decide), qud_nk (show (81 : Nat) ≠ 103 by decide), w32_ok (z := w 81 13 + 1) (by omega) (by omega)]
    exact go _ ((g1.o hs.1 hs.2).c (by omega) (by omega)) ((l1.wr (by decide)).c)
theorem l_explore (h : LN n e w0 w) : kT (f_L_explore w) (LN n e w0) := by
  have key : ∀ (m : Nat) (x1 : Int) (w : qMem), 0 ≤ x1 → 10125 - x1 < m → (x1 ≤ 10125 ∨ 0 < m) → LN n e w0 w → kT (f_L_explore_29 m x1 w) (LN n e w0) := by
    intro m
    induction m with
    | zero => intro x1 w _ _ h' _; omega
    | succ m ih =>
      intro x1 w y0 hm _ h
      rw [f_L_explore_29]
      refine kT_if (fun c => kT_if (fun c2 => ?_) (fun _ => kT_some h)) (fun _ => kT_some h)
      have ho := h.or (i := x1) y0 c2
      rw [if_pos h.w6, qld_ok y0 c2]
      refine kT_bind (l_open (w0 := w) h.1 FL.rfl' rfl) (fun w1 h1 => ?_)
      refine kT_bind (l_steps h1) (fun w2 h2 => ?_)
      refine l_ex63 ho.1 ho.2 (fun w3 h3 => ?_) qFU 0 w2 (by omega) (qFU_gt (by omega)) (Or.inr (by unfold qFU; omega)) (h2.1.ln h.2) h2.1.2.1
      rw [w32_ok (z := x1 + 1) (by omega) (by omega)]
      exact ih (x1 + 1) w3 (by omega) (by omega) (by omega) h3
  unfold f_L_explore
  rw [if_pos h.w7]
  refine kT_bind (j_fill2 (by decide) (by decide)) (fun w1 hw1 => ?_)
  have g1 := h.fill hw1
  rw [if_pos g1.w6, qst_ok (by decide) (by decide)]
  have g2 := g1.o (i := 0) (x := 0) (by decide) (by decide)
  rw [if_pos g2.w7, qst_ok (by decide) (by decide), qlt_ok]
  exact key qFU 0 _ (by omega) (qFU_gt (by omega)) (Or.inr (by unfold qFU; omega)) ((g2.wr (by decide)).c (by decide) (by decide))
theorem l_weigh {x1 x2 : Int} (h : LN n e w0 w) (b0 : 0 ≤ x1) (b1 : x1 < 10125) (c0 : 0 ≤ x2) (c1 : x2 + 7 < 168) : kT (f_L_weigh x1 x2 w) (LN n e w0) := by
  have hn := h.1.2.1
  have h131 : ∀ x3 w, LN n e w0 w → kT (f_L_weigh_131 x2 x3 w) (LN n e w0) := by
    intro x3 w h
    unfold f_L_weigh_131
    rw [w32_ok (z := x2 + 4) (by omega) (by omega), w32_ok (z := x2 + 5) (by omega) (by omega), qld_ok (by omega) (by omega), qst_ok (by omega) (by omega)]
    have g := h.wr (k := 82) (i := x2 + 4) (x := if w 82 (x2 + 4) < x3 then x3 else w 82 (x2 + 4)) (by decide)
    refine kT_sA (l_rule g.1 (by decide) (by omega)) (fun z => kT_if (fun _ => ?_) (fun _ => kT_some g))
    refine kT_ld (by omega) (by omega) ?_
    refine kT_st (by omega) (by omega) ?_
    exact kT_some (g.wr (by decide))
  have h117 : ∀ x3 w, LN n e w0 w → kT (f_L_weigh_117 x1 x2 x3 w) (LN n e w0) := by
    intro x3 w h
    unfold f_L_weigh_117
    rw [if_pos h.w7, w32_ok (z := x2 + 3) (by omega) (by omega), qld_ok b0 b1, qst_ok (by omega) (by omega)]
    exact h131 _ _ (h.wr (by decide))
  have h65 : ∀ x3 w, LN n e w0 w → kT (f_L_weigh_65 x1 x2 x3 w) (LN n e w0) := by
    intro x3 w h
    unfold f_L_weigh_65
    refine kT_if (fun _ => h131 _ _ h) (fun _ => kT_if (fun _ => ?_) (fun _ => h131 _ _ h))
    rw [w32_ok (z := x2 + 2) (by omega) (by omega), w32_ok (z := x2 + 3) (by omega) (by omega), qld_ok (by omega) (by omega), qst_ok (by omega) (by omega), qld_ok (by omega) (by omega)]
    have g := h.wr (k := 82) (i := x2 + 2) (x := w32 (w 82 (x2 + 2) + 1)) (by decide)
    refine kT_if (fun _ => h117 _ _ g) (fun _ => ?_)
    rw [if_pos g.w7, qld_ok b0 b1, qld_ok (by omega) (by omega)]
    exact kT_if (fun _ => h117 _ _ g) (fun _ => h131 _ _ g)
  have h40 : ∀ x3 w, LN n e w0 w → kT (f_L_weigh_40 x1 x2 x3 w) (LN n e w0) := by
    intro x3 w h
    unfold f_L_weigh_40
    refine kT_if (fun _ => ?_) (fun _ => h65 _ _ h)
    rw [w32_ok (z := x2 + 1) (by omega) (by omega), qld_ok (by omega) (by omega), qst_ok (by omega) (by omega)]
    exact h65 _ _ (h.wr (by decide))
  unfold f_L_weigh
  refine kT_bind (l_open (w0 := w) h.1 FL.rfl' rfl) (fun w1 h1 => ?_)
  refine kT_bind (l_steps h1) (fun w2 h2 => ?_)
  have g2 := h2.1.ln h.2
  refine kC_loop (σ := Int) (N := n) (L := fun m y s w => f_L_weigh_15 m x1 x2 s y w) (J := fun _ w' => LN n e w0 w') (fun m y s w y0 y1 hJ ih => ?_) (fun m s w hJ => ?_) (by omega) (by omega) 0 g2
  · rw [f_L_weigh_15, hJ.1.1.1, if_pos y1, qld_ok y0 (by omega), w32_ok (z := y + 1) (by omega) (by omega)]
    exact ih _ _ hJ
  · rw [f_L_weigh_15, hJ.1.1.1, if_neg (by omega)]
    exact h40 _ _ hJ
end LS2
