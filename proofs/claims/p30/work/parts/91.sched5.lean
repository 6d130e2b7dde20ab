/-! schedules, the class: weighed, run, asked -/
section T5
variable {w w' w0 w2 S T : qMem} {W H C N key x y r i v q s d l p a b : Int} {k : Nat}
theorem t_heldFrom (q0 : 0 ≤ a) (q1 : a + b ≤ 144) (b0 : 0 ≤ b) : sA w (f_Q_heldFrom (37 + 19) a b w) := by
  unfold f_Q_heldFrom
  refine sA_loop (σ := Int) (N := b) (L := fun m x s => f_Q_heldFrom_5 (37 + 19) m a b s x w) (fun m x s x0 x1 ih => ?_) (fun m s => ?_) b0 (by omega) 0
  · rw [f_Q_heldFrom_5, if_pos x1, w32_ok (z := a + x) (by omega) (by omega), qld_ok (by omega) (by omega), w32_ok (z := x + 1) (by omega) (by omega)]
    exact ih _
  · rw [f_Q_heldFrom_5, if_neg (by omega)]; exact sA_s
theorem t_lane (hn : tNW W H C w) (g : gIn W H) : sA w (f_N_heldInLane 37 l w) := by
  have hN := gN g
  obtain ⟨S, hx, I, cr, e, eC⟩ := hn
  have e5 : w (37 + 1) 5 = W * H := by
    have := hx.2.2.1.1
    rwa [e.1, e.2] at this
  unfold f_N_heldInLane
  refine sA_loop (σ := Int) (N := W * H) (L := fun m x s => f_N_heldInLane_4 37 m l s x w) (fun m x s x0 x1 ih => ?_) (fun m s => ?_) (by omega) (by omega) 0
  · rw [f_N_heldInLane_4, e5, if_pos x1, w32_ok (z := x * 9) (by omega) (by omega), w32_ok (z := x + 1) (by omega) (by omega)]
    refine sA_if (fun _ => ?_) (fun _ => ?_)
    · rw [qld_ok (by omega) (by omega)]; exact ih _
    · have hf : f_X_firstOfLane l w = some ((if l = 1 then 1 else 5), w) := by
        unfold f_X_firstOfLane
        split <;> rfl
      refine sA_eq hf ?_
      dsimp only
      have h15 : (if l = 1 then (1 : Int) else 5) = 1 ∨ (if l = 1 then (1 : Int) else 5) = 5 := by split <;> simp
      rw [w32_ok (z := x * 9 + (if l = 1 then 1 else 5)) (by omega) (by omega)]
      exact sA_b (t_heldFrom (by omega) (by omega) (by omega)) (fun y => ih _)
  · rw [f_N_heldInLane_4, e5, if_neg (by omega)]; exact sA_s
/-- while a state is weighed: only the answers change -/
def tWE (W H C : Int) (w0 w w' : qMem) : Prop := tTW W H C w0 w' ∧ tMK w w'
theorem tWE.w80 (h : tWE W H C w0 w w') : tWE W H C w0 w (qud w' 80 i v) := ⟨h.1.wr (by decide), h.2.tr (tMK.wr (by decide))⟩
theorem t_weigh (h : tTW W H C w0 w) (g : gIn W H) (s0 : 0 ≤ s) (s1 : s < 400) : kT (f_S_weigh 37 s w) (tWE W H C w0 w) := by
  have hN := gN g
  have h6 := h.2.2.1.1
  have h0 : tWE W H C w0 w w := ⟨h, tMK.rfl'⟩
  have h112 : ∀ w', tWE W H C w0 w w' → kT (f_S_weigh_112 37 qFU 0 w') (tWE W H C w0 w) := by
    intro w' hw
    have h16 := g16r g
    have h4 : 4 ≤ W + H := by
      obtain ⟨⟨ga, gb⟩, gc, gd'⟩ := g
      omega
    refine kC_loop (σ := Unit) (N := 2 * (W + H)) (L := fun m x _ w => f_S_weigh_112 37 m x w) (J := fun _ w' => tWE W H C w0 w w') (fun m x _ w2 x0 x1 hJ ih => ?_) (fun m _ w2 hJ => ?_) (by omega) (by omega) () hw
    · obtain ⟨S, hx, I, cr, e, eC⟩ := hJ.1.1
      have e6 : w2 (37 + 1) 6 = 2 * (W + H) := by
        have := hx.2.2.1.2
        rwa [e.1, e.2] at this
      rw [f_S_weigh_112, e6, if_pos x1, qld_ok (by decide) (by decide), w32_ok (z := x + 1) (by omega) (by omega)]
      refine kT_eq (n_freeIn hx I x0 (by rw [e.1, e.2]; exact x1)) ?_
      dsimp only
      refine kT_st (by decide) (by decide) ?_
      exact ih () _ hJ.w80
    · obtain ⟨S, hx, I, cr, e, eC⟩ := hJ.1.1
      have e6 : w2 (37 + 1) 6 = 2 * (W + H) := by
        have := hx.2.2.1.2
        rwa [e.1, e.2] at this
      rw [f_S_weigh_112, e6, if_neg (by omega)]
      exact kT_some hJ
  have h89 : ∀ w', tWE W H C w0 w w' → kT (f_S_weigh_89 37 w') (tWE W H C w0 w) := by
    intro w' hw
    unfold f_S_weigh_89
    rw [qld_ok (by decide) (by decide)]
    refine kT_sA (t_lane hw.1.1 g) (fun z => ?_)
    refine kT_st (by decide) (by decide) ?_
    exact h112 _ hw.w80
  have h43 : ∀ b, kT (f_S_weigh_43 37 s b w) (tWE W H C w0 w) := by
    intro b
    unfold f_S_weigh_43
    refine kT_if (fun _ => kT_if (fun _ => ?_) (fun _ => h89 w h0)) (fun _ => ?_)
    · rw [qld_ok (by decide) (by decide)]
      refine kT_st (by decide) (by decide) ?_
      exact h89 _ h0.w80
    · rw [qld_ok (by decide) (by decide), qld_ok s0 s1, qdv_ok (by decide)]
      refine kT_st (by decide) (by decide) ?_
      exact h89 _ h0.w80
  unfold f_S_weigh
  have main : ∀ (m : Nat) (b x : Int), 0 ≤ x → x ≤ w 74 6 → w 74 6 - x < m → kT (f_S_weigh_5 37 m s b x w) (tWE W H C w0 w) := by
    intro m
    induction m with
    | zero => intro b x _ _ _; omega
    | succ m ih =>
      intro b x x0 x1 hm
      rw [f_S_weigh_5]
      refine kT_if (fun c => ?_) (fun _ => h43 b)
      have h36 : ∀ z, kT (f_S_weigh_36 37 (f_S_weigh_5 37 m) z s x w) (tWE W H C w0 w) := by
        intro z
        unfold f_S_weigh_36
        rw [w32_ok (z := x + 1) (by omega) (by omega)]
        exact ih z (x + 1) (by omega) (by omega) (by omega)
      refine kT_if (fun _ => h36 _) (fun _ => ?_)
      rw [qld_ok x0 (by omega)]
      exact kT_if (fun _ => h36 _) (fun _ => h36 _)
  exact main qFU 1 0 (by omega) (by omega) (qFU_gt (by omega))
theorem t_run52 (h : tTW W H C w0 w) (g : gIn W H) : kT (f_S_run_52 37 qFU 0 w) (fun r => tTW W H C w0 r.2) := by
  have h103 : ∀ w', tTW W H C w0 w' → kT (f_S_run_103 37 w') (fun r => tTW W H C w0 r.2) := by
    intro w' hw
    unfold f_S_run_103
    refine kT_st (by decide) (by decide) ?_
    have h2 : tTW W H C w0 (qud w' 80 0 (w' 74 7)) := hw.wr (by decide)
    exact kT_if (fun _ => kT_some h2) (fun _ => kT_some h2)
  have main : ∀ (m : Nat) (x : Int) (w' : qMem), 0 ≤ x → x ≤ 400 → 400 - x < m → tTW W H C w0 w' → kT (f_S_run_52 37 m x w') (fun r => tTW W H C w0 r.2) := by
    intro m
    induction m with
    | zero =>
      intro x w' x0 x4 hm hw
      omega
    | succ m ih =>
      intro x w' x0 x4 hm hw
      rw [f_S_run_52]
      refine kT_if (fun c => kT_if (fun c2 => kT_if (fun _ => ?_) (fun _ => h103 _ hw)) (fun _ => h103 _ hw)) (fun _ => h103 _ hw)
      rw [qld_ok x0 c2]
      refine kT_bind (t_open hw g (hw.2.2.2.1.2 x x0 c)) (fun w1 h1 => ?_)
      have e1 : w1 75 x = w' 75 x := h1.2.1.2.2.2 x x0 c
      have l1 := h1.2.1.2.1
      refine kT_bind (t_extend h1.1 g x0 (by omega) (by rw [e1]; exact h1.2.2)) (fun w2 h2 => ?_)
      refine kT_bind (t_weigh h2.1 g x0 c2) (fun w3 h3 => ?_)
      rw [w32_ok (z := x + 1) (by omega) (by omega)]
      exact ih (x + 1) w3 (by omega) (by omega) (by omega) h3.1
  exact main qFU 0 w (by omega) (by omega) (qFU_gt (by omega)) h
theorem n_queueOf7 (hx : NX 37 w S) (I : IV S) (p0 : 0 ≤ p) (p1 : p < S 5 13) (hd : S 9 p ≠ 3) : f_N_queueOf 37 p w = some (lof S p, w) ∧ 0 ≤ lof S p ∧ lof S p < 9 * (S 1 3 * S 1 4) := by
  have hc := I.1.2.2.2.2.2.2.1
  have h := I.2.1.1 p p0 p1
  have hN := gN I.1.1
  have ha := h.1.2.2
  have hl := h.2.1
  have hin : 0 ≤ lof S p ∧ lof S p < 9 * (S 1 3 * S 1 4) := by
    unfold lof
    rw [if_neg hd]
    by_cases e0 : S 9 p = 0
    · rw [if_pos e0]; omega
    · rw [if_neg e0]
      have := hl.2.2.2.2 (by omega)
      by_cases e1 : S 9 p = 1
      · rw [if_pos e1]; omega
      · rw [if_neg e1]; omega
  refine ⟨?_, hin⟩
  unfold f_N_queueOf f_N_queueOf_44 lof
  rw [qld_ok p0 (by omega), qld_ok p0 (by omega), show w (37 + 9) p = S 9 p from rx_9 hx.1 p0 p1 hc.2, show w (37 + 10) p = S 10 p from rx_10 hx.1 p0 p1 hc.2, if_neg hd, w32_ok (z := S 10 p * 9) (by omega) (by omega)]
  by_cases e0 : S 9 p = 0
  · rw [if_pos e0, if_pos e0, w32_ok (by omega) (by omega)]
  · have h11 := hl.2.2.2.2 (by omega)
    rw [if_neg e0, if_neg e0]
    unfold f_X_firstOfLane
    by_cases e1 : S 9 p = 1
    · rw [if_pos e1, if_pos e1, qbd rfl]
      dsimp only
      rw [qld_ok p0 (by omega), show w (37 + 11) p = S 11 p from rx_11 hx.1 p0 p1 hc.2, w32_ok (z := 1 + S 11 p) (by omega) (by omega), w32_ok (by omega) (by omega)]
    · rw [if_neg e1, if_neg e1, qbd rfl]
      dsimp only
      rw [qld_ok p0 (by omega), show w (37 + 11) p = S 11 p from rx_11 hx.1 p0 p1 hc.2, w32_ok (z := 5 + S 11 p) (by omega) (by omega), w32_ok (by omega) (by omega)]
/-- while what is left is found -/
def tFL (S w0 w : qMem) : Prop := (NX 37 w S ∧ tFS w0 w) ∧ ((0 ≤ w 74 6 ∧ w 74 6 ≤ 3) ∧ ∀ i, 0 ≤ i → i < w 74 6 → 0 ≤ w 77 i ∧ w 77 i < S 5 13) ∧ ∀ i, 0 ≤ i → i < 3 → SPo (S 1 3 * S 1 4) (w 78 i)
theorem t_find (hx : NX 37 w S) (I : IV S) (hf : tFS w0 w) : kT (f_S_findLeft 37 w) (tFL S w0) := by
  have hc := I.1.2.2.2.2.2.2.1
  unfold f_S_findLeft
  rw [qlt_ok]
  refine kT_bind (j_fill (n := 3) (by decide) (by decide)) (fun w1 h1 => ?_)
  have r1 : ∀ k, k ≠ 78 → w1 k = qud w 74 6 0 k := fun k hk => by
    funext j
    rw [h1, if_neg (fun z => hk z.1)]
  have h0 : tFL S w0 w1 := by
    refine ⟨⟨hx.fr (fun k a b => ?_), fun k hk => ?_⟩, ⟨?_, fun i a b => ?_⟩, fun i a b => ?_⟩
    · rw [r1 k (by omega), qud_row (by omega)]
    · rw [r1 k (by omega), qud_row (by omega), hf k hk]
    · rw [r1 74 (by decide), qud_s]; decide
    · rw [r1 74 (by decide), qud_s] at b; omega
    · rw [h1, if_pos ⟨rfl, a, b⟩]; exact Or.inl rfl
  have main : ∀ (m : Nat) (x : Int) (w' : qMem), 0 ≤ x → x ≤ S 5 13 → S 5 13 - x < m → tFL S w0 w' → kT (f_S_findLeft_17 37 m x w') (tFL S w0) := by
    intro m
    induction m with
    | zero => intro x w' _ _ _ _; omega
    | succ m ih =>
      intro x w' x0 x1 hm h
      obtain ⟨⟨hx', hf'⟩, ⟨h6, hid⟩, hsp⟩ := h
      rw [f_S_findLeft_17, show w' (37 + 5) 13 = S 5 13 from rx_5_13 hx'.1]
      refine kT_if (fun c => kT_if (fun c3 => ?_) (fun _ => kT_some ⟨⟨hx', hf'⟩, ⟨h6, hid⟩, hsp⟩)) (fun _ => kT_some ⟨⟨hx', hf'⟩, ⟨h6, hid⟩, hsp⟩)
      have hd : f_P_isDelivered (37 + 5) x w' = some (bi (decide (S 9 x = 3)), w') := by
        unfold f_P_isDelivered
        rw [qld_ok x0 (by omega), show w' (37 + 5 + 4) x = S 9 x from rx_9 hx'.1 x0 c hc.2]
        by_cases e : S 9 x = 3
        · rw [if_pos e, decide_eq_true e]; rfl
        · rw [if_neg e, decide_eq_false e]; rfl
      refine kT_eq hd ?_
      dsimp only
      rw [bi_if, w32_ok (z := x + 1) (by omega) (by omega)]
      refine kT_if (fun _ => ?_) (fun cd => ?_)
      · exact ih (x + 1) w' (by omega) (by omega) (by omega) ⟨⟨hx', hf'⟩, ⟨h6, hid⟩, hsp⟩
      · refine kT_st h6.1 c3 ?_
        have hx2 : NX 37 (qud w' 77 (w' 74 6) x) S := hx'.fr (fun k a b => qud_row (by omega))
        obtain ⟨e, q0, q1⟩ := n_queueOf7 hx2 I x0 c cd
        refine kT_eq e ?_
        dsimp only
        rw [qud_nk (show (74 : Nat) ≠ 77 by decide)]
        refine kT_st h6.1 c3 ?_
        rw [qlt_ok, qud_nk (show (74 : Nat) ≠ 78 by decide), qud_nk (show (74 : Nat) ≠ 77 by decide), w32_ok (z := w' 74 6 + 1) (by omega) (by omega)]
        refine ih (x + 1) _ (by omega) (by omega) (by omega) ⟨⟨hx2.fr (fun k a b => by rw [qud_row (by omega), qud_row (by omega)]), ((hf'.wr (by omega)).wr (by omega)).wr (by omega)⟩, ⟨?_, fun i a b => ?_⟩, fun i a b => ?_⟩
        · rw [qud_s]; omega
        · rw [qud_s] at b
          rw [qud_nk (by decide), qud_nk (by decide), qud_if]
          split
          · exact ⟨x0, c⟩
          · exact hid i a (by omega)
        · rw [qud_nk (by decide), qud_if]
          split
          · exact Or.inr ⟨q0, q1⟩
          · rw [qud_nk (by decide)]; exact hsp i a b
  exact main qFU 0 w1 (by omega) hc.1 (qFU_gt (by omega)) h0
theorem CRb.iv (I : IV S) : CRb S := by
  have g := I.1.1
  have h16 := g16r g
  have hN := gN g
  intro r r0 r1
  have h := (I.2.2.1 r r0 (by omega)).1 r1
  have hb := h.1
  refine ⟨hb.1, by omega, fun _ => ?_⟩
  obtain ⟨⟨a, b⟩, a2, b2⟩ := g
  generalize S 25 r = y at *
  generalize S 1 3 = A at *
  generalize S 1 4 = B at *
  rcases (by omega : A = 2 ∨ A = 3 ∨ A = 4) with rfl | rfl | rfl <;> omega
/-- what a search leaves as it was -/
theorem tFS.rg (h : tNW W H C w) (g : gIn W H) : RGx w := by
  obtain ⟨S, hx, I, cr, e, eC⟩ := h
  exact ⟨S 1 3, S 1 4, I.1, hx.2⟩
theorem x_schedules (hx : NX 2 w S) (I : IV S) (hG : RGx w) : kT (f_X_schedules x w) (fun r => tFS w r.2 ∧ RGx r.2) := by
  have g := I.1.1
  unfold f_X_schedules
  refine kT_eq x_within ?_
  dsimp only
  rw [bi_if]
  refine kT_if (fun cx => ?_) (fun _ => kT_some ⟨tFS.rfl', hG⟩)
  refine kT_bind (n_copyFrom hx I hG) (fun w1 h1 => ?_)
  have f1 : tFS w w1 := tFS.rfl'.f37 h1.2
  have g1 : RGx w1 := ⟨S 1 3, S 1 4, g, h1.1.2⟩
  have hrun : kT (f_S_run 37 w1) (fun r => tFS w r.2 ∧ RGx r.2) := by
    unfold f_S_run f_P_left
    refine kT_eq rfl ?_
    dsimp only
    refine kT_if (fun _ => ?_) (fun _ => kT_some ⟨f1, g1⟩)
    refine kT_bind (t_find h1.1 I f1) (fun w2 h2 => ?_)
    refine kT_bind (j_fill (n := 5) (by decide) (by decide)) (fun w3 h3 => ?_)
    have r3 : ∀ k, k ≠ 80 → w3 k = w2 k := fun k hk => by
      funext j
      rw [h3, if_neg (fun z => hk z.1)]
    refine kT_st (by decide) (by decide) ?_
    rw [qlt_ok, qlt_ok]
    have hT : tTW (S 1 3) (S 1 4) (S 5 13) w (qud (qud (qud w3 80 4 16) 74 7 0) 74 9 0) := by
      refine ⟨⟨S, h2.1.1.fr (fun k a b => ?_), I.w, CRb.iv I, ⟨rfl, rfl⟩, rfl⟩, fun k hk => ?_, ⟨?_, ?_, ?_⟩⟩
      · rw [qud_row (by omega), qud_row (by omega), qud_row (by omega), r3 k (by omega)]
      · rw [qud_row (by omega), qud_row (by omega), qud_row (by omega), r3 k (by omega), h2.1.2 k hk]
      · rw [qud_ni (by decide), qud_ni (by decide), qud_row (k' := 74) (by decide), r3 74 (by decide), qud_row (k' := 77) (by decide), qud_row (k' := 77) (by decide), qud_row (k' := 77) (by decide), r3 77 (by decide)]
        exact h2.2.1
      · rw [qud_ni (by decide), qud_s]
        exact ⟨by decide, fun s a b => by omega⟩
      · rw [qud_row (by decide), qud_row (by decide), qud_row (by decide), r3 78 (by decide)]
        exact h2.2.2
    refine kT_bind (t_reach hT g) (fun w4 h4 => ?_)
    exact kT_mono (t_run52 h4.1 g) (fun r hr => ⟨hr.2.1, tFS.rg hr.1 g⟩)
  refine kT_bind hrun (fun r hr => ?_)
  refine kT_if (fun _ => kT_some hr) (fun _ => ?_)
  refine kT_ld (by omega) (by omega) ?_
  exact kT_some hr
end T5
