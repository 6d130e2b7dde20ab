/-! one ring alone (the class): waits, starving -/
theorem j_fill2 {p : Nat} {n x : Int} {w : qMem} (n0 : 0 ≤ n) (n1 : n < 20000) : kT (f_JA_fill p n x w) (fun w' => ∀ k j, w' k j = if k = p ∧ 0 ≤ j ∧ j < n then x else w k j) := by
  have := k_loop (σ := qMem) (ρ := qMem) n (fun m i s => f_JA_fill_5 p n m x i n s) (fun s => some s)
    (fun i s => (0 ≤ i ∧ i ≤ n) ∧ ∀ k j, s k j = if k = p ∧ 0 ≤ j ∧ j < i then x else w k j)
    (by
      intro m i s ⟨⟨i0, i1⟩, hs⟩ hi
      refine ⟨qud s p i x, ⟨⟨by omega, by omega⟩, ?_⟩, ?_⟩
      · intro k j
        by_cases e : k = p ∧ j = i
        · rw [e.1, e.2, qud_s, if_pos ⟨rfl, by omega, by omega⟩]
        · rw [show qud s p i x k j = s k j from if_neg e, hs]
          by_cases e2 : k = p ∧ 0 ≤ j ∧ j < i
          · rw [if_pos e2, if_pos (by omega)]
          · rw [if_neg e2, if_neg (by omega)]
      · rw [f_JA_fill_5, if_pos hi, qst_ok (by omega) (by omega), w32_ok (by omega) (by omega)])
    (by
      intro m s _
      rw [f_JA_fill_5, if_neg (by omega)])
    qFU 0 w ⟨by omega, fun k j => by rw [if_neg (by omega)]⟩ (by omega) (qFU_gt (by omega))
  obtain ⟨w', ⟨-, h⟩, e⟩ := this
  exact ⟨w', e, h⟩
section LR
variable {w w' w0 T : qMem} {n e x v i a s : Int} {k : Nat}
theorem LN.w13 (h : LN n e w0 w) : 0 ≤ w 81 13 ∧ w 81 13 ≤ 10125 := h.1.2.2.2.2.2
theorem LN.w6 (h : LN n e w0 w) : w 81 6 = 102 := h.1.2.2.2.1.1
theorem LN.w7 (h : LN n e w0 w) : w 81 7 = 103 := h.1.2.2.2.1.2
theorem LN.or (h : LN n e w0 w) (j0 : 0 ≤ i) (j1 : i < 10125) : 0 ≤ w 102 i ∧ w 102 i < 10125 := h.1.2.2.2.2.1 i j0 j1
theorem LN.fill (h : LN n e w0 w) (hw : ∀ k j, w' k j = if k = 103 ∧ 0 ≤ j ∧ j < 10125 then x else w k j) : LN n e w0 w' := by
  have r : ∀ g : Nat, g ≠ 103 → w' g = w g := fun g hg => by
    funext j
    rw [hw, if_neg (fun z => hg z.1)]
  refine ⟨?_, fun k hk => by rw [r k (by omega)]; exact h.2 k hk⟩
  unfold LI
  rw [r 81 (by decide), r 86 (by decide), r 102 (by decide)]
  exact h.1
theorem l_wait35 {r14 : Int → Int → Int → qMem → Option (Int × qMem)} {P : Int × qMem → Prop} {x3 : Int} (hr : ∀ x1 x2 w, LN n e w0 w → kT (r14 x1 x2 (w32 (x3 + 1)) w) P) : ∀ (m : Nat) (x1 x2 x4 : Int) (w : qMem), -1 ≤ x4 → x4 < 10125 → x4 + 1 < m → LN n e w0 w → kT (f_L_longestWait_35 r14 m x1 x2 x3 x4 w) P := by
  intro m
  induction m with
  | zero => intro x1 x2 x4 w _ _ _ _; omega
  | succ m ih =>
    intro x1 x2 x4 w y0 y1 hm h
    rw [f_L_longestWait_35, w32_ok (z := x4 + -1) (by omega) (by omega)]
    refine kT_if (fun _ => hr _ _ _ h) (fun c => ?_)
    have ho := h.or (i := x4) (by omega) y1
    rw [if_pos h.w6, qld_ok (by omega) y1]
    refine kT_bind (l_wait h) (fun r hw => ?_)
    rw [if_pos hw.1.w7, qld_ok ho.1 ho.2]
    refine kT_if (fun _ => ih _ _ _ _ (by omega) (by omega) (by omega) hw.1) (fun _ => ?_)
    rw [if_pos hw.1.w7, qst_ok ho.1 ho.2]
    exact ih _ _ _ _ (by omega) (by omega) (by omega) (hw.1.wr (by decide))
theorem l_longest (h : LN n e w0 w) : kT (f_L_longestWait w) (fun r => LN n e w0 r.2) := by
  have key : ∀ (m : Nat) (x1 x2 x3 : Int) (w : qMem), 0 ≤ x3 → x3 ≤ 10126 → 10126 - x3 < m → LN n e w0 w → kT (f_L_longestWait_14 m x1 x2 x3 w) (fun r => LN n e w0 r.2) := by
    intro m
    induction m with
    | zero => intro x1 x2 x3 w _ _ _ _; omega
    | succ m ih =>
      intro x1 x2 x3 w y0 y1 hm h
      rw [f_L_longestWait_14]
      refine kT_if (fun c => kT_if (fun _ => kT_some h) (fun _ => ?_)) (fun _ => kT_some h)
      have h13 := h.w13
      rw [w32_ok (z := w 81 13 - 1) (by omega) (by omega)]
      refine l_wait35 (fun x1 x2 w hw => ?_) qFU x1 0 (w 81 13 - 1) w (by omega) (by omega) (qFU_gt (by omega)) h
      rw [w32_ok (z := x3 + 1) (by omega) (by omega)]
      exact ih x1 x2 (x3 + 1) w (by omega) (by omega) (by omega) hw
  unfold f_L_longestWait
  rw [if_pos h.w7]
  refine kT_bind (j_fill2 (by decide) (by decide)) (fun w1 hw1 => ?_)
  exact key qFU 0 1 0 w1 (by omega) (by omega) (qFU_gt (by omega)) (h.fill hw1)
theorem l_starv91 {r70 : Int → Int → Int → qMem → Option (Int × qMem)} {P : Int × qMem → Prop} {x3 : Int} (hr : ∀ x1 x2 w, LN n e w0 w → kT (r70 x1 x2 (w32 (x3 + 1)) w) P) : ∀ (m : Nat) (x1 x2 x4 : Int) (w : qMem), -1 ≤ x4 → x4 < 10125 → x4 + 1 < m → LN n e w0 w → kT (f_L_isStarving_91 r70 m x1 x2 x3 x4 w) P := by
  intro m
  induction m with
  | zero => intro x1 x2 x4 w _ _ _ _; omega
  | succ m ih =>
    intro x1 x2 x4 w y0 y1 hm h
    rw [f_L_isStarving_91, w32_ok (z := x4 + -1) (by omega) (by omega)]
    refine kT_if (fun _ => hr _ _ _ h) (fun c => ?_)
    have ho := h.or (i := x4) (by omega) y1
    rw [if_pos h.w7, if_pos h.w6, qld_ok (by omega) y1, qld_ok ho.1 ho.2]
    refine kT_if (fun _ => ?_) (fun _ => ih _ _ _ _ (by omega) (by omega) (by omega) h)
    rw [if_pos h.w6, qld_ok (by omega) y1]
    refine kT_bind (l_leads h) (fun r hw => ?_)
    refine kT_if (fun _ => ?_) (fun _ => ih _ _ _ _ (by omega) (by omega) (by omega) hw.1)
    have ho2 := hw.1.or (i := x4) (by omega) y1
    rw [if_pos hw.1.w7, if_pos hw.1.w6, qld_ok (by omega) y1, qst_ok ho2.1 ho2.2]
    exact ih _ _ _ _ (by omega) (by omega) (by omega) (hw.1.wr (by decide))
theorem l_starv70 : ∀ (m : Nat) (x1 x2 x3 : Int) (w : qMem), 0 ≤ x3 → x3 ≤ 10126 → 10126 - x3 < m → LN n e w0 w → kT (f_L_isStarving_70 m x1 x2 x3 w) (fun r => LN n e w0 r.2) := by
  intro m
  induction m with
  | zero => intro x1 x2 x3 w _ _ _ _; omega
  | succ m ih =>
    intro x1 x2 x3 w y0 y1 hm h
    have h156 : ∀ y, kT (f_L_isStarving_156 y w) (fun r => LN n e w0 r.2) := by
      intro y
      unfold f_L_isStarving_156
      exact kT_if (fun _ => kT_some h) (fun _ => kT_some h)
    rw [f_L_isStarving_70]
    refine kT_if (fun c => kT_if (fun _ => h156 _) (fun _ => ?_)) (fun _ => h156 _)
    have h13 := h.w13
    rw [w32_ok (z := w 81 13 - 1) (by omega) (by omega)]
    refine l_starv91 (fun x1 x2 w hw => ?_) qFU x1 0 (w 81 13 - 1) w (by omega) (by omega) (qFU_gt (by omega)) h
    rw [w32_ok (z := x3 + 1) (by omega) (by omega)]
    exact ih x1 x2 (x3 + 1) w (by omega) (by omega) (by omega) hw
theorem l_starving (h : LN n e w0 w) : kT (f_L_isStarving w) (fun r => LN n e w0 r.2) := by
  have key : ∀ (m : Nat) (x1 x2 : Int) (w : qMem), 0 ≤ x2 → 10125 - x2 < m → (x2 ≤ 10125 ∨ 0 < m) → LN n e w0 w → kT (f_L_isStarving_4 m x1 x2 w) (fun r => LN n e w0 r.2) := by
    intro m
    induction m with
    | zero => intro x1 x2 w _ _ h' _; omega
    | succ m ih =>
      intro x1 x2 w y0 hm _ h
      have h13 := h.w13
      have hn := h.1.2.1.1
      rw [f_L_isStarving_4]
      refine kT_if (fun c => ?_) (fun _ => ?_)
      · rw [if_pos h.w6, qld_ok y0 (by omega)]
        refine kT_bind (l_open (w0 := w) h.1 FL.rfl' rfl) (fun w1 h1 => ?_)
        have g1 := h1.ln h.2
        have ho := g1.or (i := x2) y0 (by omega)
        rw [if_pos g1.w7, if_pos g1.w6, qld_ok y0 (by omega)]
        have h45 : ∀ s2, kT (f_L_isStarving_45 (f_L_isStarving_4 m) (w1 102 x2) s2 x1 x2 w1) (fun r => LN n e w0 r.2) := by
          intro s2
          have g2 := g1.wr (k := 103) (i := w1 102 x2) (x := s2) (by decide)
          have ho2 := g2.or (i := x2) y0 (by omega)
          unfold f_L_isStarving_45
          rw [qst_ok ho.1 ho.2, if_pos g2.w7, if_pos g2.w6, qld_ok y0 (by omega), qld_ok ho2.1 ho2.2, w32_ok (z := x2 + 1) (by omega) (by omega)]
          exact ih _ (x2 + 1) _ (by omega) (by omega) (by omega) g2
        refine kT_sA (l_rule h1.1.1 (by decide) (by omega)) (fun z => ?_)
        exact kT_if (fun _ => h45 _) (fun _ => h45 _)
      · unfold f_L_isStarving_66
        exact l_starv70 qFU x1 1 0 w (by omega) (by omega) (qFU_gt (by omega)) h
  unfold f_L_isStarving
  exact key qFU 0 0 w (by omega) (qFU_gt (by omega)) (Or.inr (by unfold qFU; omega)) h
end LR
