/-! one ring alone (the class): the search -/
section LQ
variable {w w' w0 T : qMem} {n e x v i a s : Int} {k : Nat}
/-- between the steps: the notes may be anything -/
def LN (n e : Int) (w0 w : qMem) : Prop := LI n e w ∧ FL w0 w
theorem LN.wr (h : LN n e w0 w) (hk : k = 82 ∨ k = 83 ∨ k = 84 ∨ k = 85 ∨ k = 87 ∨ k = 103) : LN n e w0 (qud w k i x) := ⟨h.1.wr hk, h.2.wr (by omega)⟩
theorem LJ.ln (h : LJ n e w w') (hf : FL w0 w) : LN n e w0 w' := ⟨h.1.1, hf.tr h.2.2.1⟩
theorem LO.ln (h : LO n e w w') (hf : FL w0 w) : LN n e w0 w' := ⟨h.1.1, hf.tr h.2.1⟩

theorem l_leads (h : LN n e w0 w) : kT (f_L_leadsOn a w) (fun r => LN n e w0 r.2 ∧ r.2 81 13 = w 81 13) := by
  unfold f_L_leadsOn
  refine kT_bind (l_open (w0 := w) h.1 FL.rfl' rfl) (fun w1 h1 => ?_)
  refine kT_bind (l_steps h1) (fun w2 h2 => ?_)
  have hj := h2.1
  have fin : ∀ y : Int, kT (some (y, w2)) (fun r => LN n e w0 r.2 ∧ r.2 81 13 = w 81 13) := fun y => kT_some ⟨hj.ln h.2, hj.2.2.2⟩
  have key : ∀ (m : Nat) (y : Int), 0 ≤ y → 16 - y < m → (y ≤ 16 ∨ 0 < m) → kT (f_L_leadsOn_12 m y w2) (fun r => LN n e w0 r.2 ∧ r.2 81 13 = w 81 13) := by
    intro m
    induction m with
    | zero => intro y _ _ h'; omega
    | succ m ih =>
      intro y y0 hm _
      have h14 := hj.2.1.1
      rw [f_L_leadsOn_12]
      refine kT_if (fun c => ?_) (fun _ => fin _)
      have hs := hj.2.1.2 y y0 c
      rw [if_pos hj.1.1.2.2.2.1.2, qld_ok y0 (by omega), qld_ok hs.1 hs.2, w32_ok (z := y + 1) (by omega) (by omega)]
      exact kT_if (fun _ => fin _) (fun _ => ih (y + 1) (by omega) (by omega) (by omega))
  exact key qFU 0 (by omega) (qFU_gt (by omega)) (Or.inr (by unfold qFU; omega))
theorem l_wait (h : LN n e w0 w) : kT (f_L_waitIn a w) (fun r => LN n e w0 r.2 ∧ r.2 81 13 = w 81 13) := by
  have hn := h.1.2.1.1
  unfold f_L_waitIn
  refine kT_bind (l_open (w0 := w) h.1 FL.rfl' rfl) (fun w1 h1 => ?_)
  refine kT_sA (l_rule h1.1.1 (by decide) (by omega)) (fun z => ?_)
  refine kT_if (fun _ => ?_) (fun _ => kT_some ⟨h1.ln h.2, h1.2.2⟩)
  refine kT_bind (l_steps h1) (fun w2 h2 => ?_)
  have hj := h2.1
  have key : ∀ (m : Nat) (l y : Int), 0 ≤ y → 16 - y < m → (y ≤ 16 ∨ 0 < m) → kT (f_L_waitIn_22 m l y w2) (fun r => LN n e w0 r.2 ∧ r.2 81 13 = w 81 13) := by
    intro m
    induction m with
    | zero => intro l y _ _ h'; omega
    | succ m ih =>
      intro l y y0 hm _
      have h14 := hj.2.1.1
      have h15 := h2.2
      rw [f_L_waitIn_22]
      refine kT_if (fun c => ?_) (fun _ => kT_some ⟨hj.ln h.2, hj.2.2.2⟩)
      have hs := hj.2.1.2 y y0 (by omega)
      rw [if_pos hj.1.1.2.2.2.1.2, qld_ok y0 (by omega), qld_ok hs.1 hs.2, w32_ok (z := y + 1) (by omega) (by omega)]
      exact ih _ (y + 1) (by omega) (by omega) (by omega)
  exact key qFU 0 0 (by omega) (qFU_gt (by omega)) (Or.inr (by unfold qFU; omega))
end LQ
