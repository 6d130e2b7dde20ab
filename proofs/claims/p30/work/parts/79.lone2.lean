/-! one ring alone (the class): opening a state, listing its steps -/
section LP
variable {w w' w0 T : qMem} {n e x v i a s : Int} {k : Nat}
/-- a state is open -/
def LO (n e : Int) (w0 w : qMem) : Prop := (LI n e w ∧ LL n e w) ∧ FL w0 w ∧ w 81 13 = w0 81 13
theorem LJ.lo (h : LJ n e w0 w) : LO n e w0 w := ⟨h.1, h.2.2⟩
theorem l_add2 (h : LJ n e w0 w) : kT (f_L_addStep a w) (fun w' => LJ n e w0 w' ∧ w' 81 15 = w 81 15 ∧ w 81 14 ≤ w' 81 14) := by
  obtain ⟨w', q, hj⟩ := l_add (a := a) h
  refine ⟨w', q, hj, ?_⟩
  unfold f_L_addStep at q
  have h14 := h.2.1.1
  by_cases c : w 81 14 < 16
  · rw [if_pos c] at q
    by_cases ca : a < 0
    · rw [if_pos ca] at q
      cases q
      exact ⟨rfl, Int.le_refl _⟩
    · rw [if_neg ca] at q
      by_cases cb : a < 10125
      · rw [if_pos cb, qst_ok h14.1 c, qlt_ok, qud_nk (show (81 : Nat) ≠ 87 by decide), w32_ok (by omega) (by omega)] at q
        cases q
        exact ⟨by rw [qud_ni (by decide), qud_nk (by decide)], by rw [qud_s]; omega⟩
      · rw [if_neg cb] at q
        cases q
        exact ⟨rfl, Int.le_refl _⟩
  · rw [if_neg c] at q
    cases q
    exact ⟨rfl, Int.le_refl _⟩
theorem l_open (h : LI n e w) (hf : FL w0 w) (h13 : w 81 13 = w0 81 13) : kT (f_L_open s w) (LO n e w0) := by
  have hn := h.2.1.1
  have key : ∀ (m : Nat) (x : Int) (w' : qMem), 0 ≤ x → x ≤ n → n - x < m → LI n e w' → FL w0 w' → w' 81 13 = w0 81 13 → (∀ v, 0 ≤ v → v < x → 0 ≤ w' 85 v ∧ w' 85 v ≤ e) → kT (f_L_open_2 m s x w') (LO n e w0) := by
    intro m
    induction m with
    | zero => intro x w' _ _ _ _ _ _ _; omega
    | succ m ih =>
      intro x w' x0 x1 hm hI hf h13 hl
      rw [f_L_open_2, hI.1.1]
      by_cases c : x < n
      · rw [if_pos c, w32_ok (z := x + 1) (by omega) (by omega), qld_ok (by omega) (by omega), qdv_ok (hI.2.2.1 (x + 1) (by omega) (by omega)), qld_ok (by omega) (by omega), qdv_ok (hI.2.2.1 x x0 (by omega)), qst_ok x0 (by omega), qld_ok x0 (by omega)]
        have hI2 := hI.wr (k := 84) (i := x) (x := jdiv (jrem s (w' 86 (x + 1))) (w' 86 x)) (by decide)
        obtain ⟨y, q, y0, y1⟩ := l_len (x := qud w' 84 x (jdiv (jrem s (w' 86 (x + 1))) (w' 86 x)) 84 x) hI2
        refine kT_eq q ?_
        dsimp only
        refine kT_st x0 (by omega) ?_
        refine ih (x + 1) _ (by omega) (by omega) (by omega) (hI2.wr (by decide)) ((hf.wr (by decide)).wr (by decide)) (by rw [qud_nk (by decide), qud_nk (by decide)]; exact h13) (fun v v0 v1 => ?_)
        rw [qud_if]
        split
        · exact ⟨y0, y1⟩
        · rw [qud_nk (by decide)]
          exact hl v v0 (by omega)
      · rw [if_neg c]
        have hx : x = n := by omega
        subst hx
        unfold f_L_open_55
        rw [hI.1.1, qld_ok (by omega) (by omega), qdv_ok (hI.2.2.1 x x0 (by omega)), qlt_ok]
        refine kT_some ⟨⟨hI.w81 (by decide), fun v v0 v1 => ?_⟩, hf.wr (by decide), by rw [qud_ni (by decide)]; exact h13⟩
        rw [qud_nk (by decide)]
        exact hl v v0 v1
  unfold f_L_open
  exact key qFU 0 w (by omega) (by omega) (qFU_gt (by omega)) h hf h13 (fun v v0 v1 => by omega)
theorem l_first (h : LJ n e w0 w) (v0 : 0 ≤ v) (v1 : v < n) : kT (f_L_listStepOfFirst a v w) (fun w' => LJ n e w0 w') := by
  have hI := h.1.1
  have hn := hI.2.1.1
  have h158 : ∀ s1 s2, kT (f_L_listStepOfFirst_158 s1 s2 w) (fun w' => LJ n e w0 w') := by
    intro s1 s2
    unfold f_L_listStepOfFirst_158
    exact kT_bind (l_add h) (fun w' hw => kT_some hw)
  have h8 := hI.1.1
  have h11 := hI.1.2.2
  have ht : 0 ≤ (v + 1) % n ∧ (v + 1) % n < n := ⟨Int.emod_nonneg _ (by omega), Int.emod_lt_of_pos _ (by omega)⟩
  have h117 : ∀ s0 x2 x4 x5, kT (f_L_listStepOfFirst_117 s0 x2 x4 x5 ((v + 1) % n) w) (fun w' => LJ n e w0 w') := by
    intro s0 x2 x4 x5
    unfold f_L_listStepOfFirst_117
    refine kT_sA (l_put hI h.1.2 ht.1 ht.2) (fun y => ?_)
    refine kT_if (fun _ => h158 _ _) (fun _ => ?_)
    refine kT_ld (by dsimp only; omega) (by dsimp only; omega) ?_
    exact h158 _ _
  unfold f_L_listStepOfFirst
  rw [qld_ok v0 (by omega), h11, qdv_ok (by omega), qld_ok v0 (by omega), qdv_ok (by omega), qld_ok v0 (by omega), qld_ok v0 (by omega)]
  refine kT_if (fun _ => kT_bind (l_add h) (fun w' hw => kT_some hw)) (fun _ => ?_)
  rw [h8, qdv_ok (by omega), w32_ok (z := v + 1) (by omega) (by omega), jrem_ok (by omega) (by omega) (by omega) (by omega), qld_ok ht.1 (by omega)]
  exact kT_if (fun _ => kT_some h) (fun _ => kT_if (fun _ => kT_if (fun _ => kT_if (fun _ => h117 _ _ _ _) (fun _ => h117 _ _ _ _)) (fun _ => h117 _ _ _ _)) (fun _ => h117 _ _ _ _))
theorem l_steps (h : LO n e w0 w) : kT (f_L_listSteps a w) (fun w' => LJ n e w0 w' ∧ 0 ≤ w' 81 15 ∧ w' 81 15 ≤ w' 81 14) := by
  have hn := h.1.1.2.1.1
  have h0 : LJ n e w0 (qud w 81 14 0) := ⟨⟨h.1.1.w81 (by decide), h.1.2.wr (by decide)⟩, ⟨by rw [qud_s]; omega, fun i i0 i1 => by rw [qud_s] at i1; omega⟩, h.2.1.wr (by decide), by rw [qud_ni (by decide)]; exact h.2.2⟩
  have second : ∀ w', LJ n e w0 w' → kT (f_L_listSteps_36 a w') (fun w' => LJ n e w0 w' ∧ 0 ≤ w' 81 15 ∧ w' 81 15 ≤ w' 81 14) := by
    intro w' hw
    unfold f_L_listSteps_36
    rw [qlt_ok]
    have h1 : LJ n e w0 (qud w' 81 15 (w' 81 14)) := ⟨⟨hw.1.1.w81 (by decide), hw.1.2.wr (by decide)⟩, by unfold LSt; rw [qud_ni (show (14 : Int) ≠ 15 by decide), qud_row (show (87 : Nat) ≠ 81 by decide)]; exact hw.2.1, hw.2.2.1.wr (by decide), by rw [qud_ni (by decide)]; exact hw.2.2.2⟩
    have g1 : 0 ≤ qud w' 81 15 (w' 81 14) 81 15 ∧ qud w' 81 15 (w' 81 14) 81 15 ≤ qud w' 81 15 (w' 81 14) 81 14 := by
      rw [qud_s, qud_ni (by decide)]
      have := hw.2.1.1
      omega
    refine kC_loop (σ := Unit) (N := n) (L := fun m x _ w => f_L_listSteps_46 m a x w) (J := fun _ w' => LJ n e w0 w' ∧ 0 ≤ w' 81 15 ∧ w' 81 15 ≤ w' 81 14) (fun m x s w' x0 x1 hJ ih => ?_) (fun m s w' hJ => ?_) (by omega) (by omega) () ⟨h1, g1⟩
    · rw [f_L_listSteps_46, hJ.1.1.1.1.1, if_pos x1]
      refine kC_loop (σ := Unit) (N := n - 1) (L := fun m' y _ w => f_L_listSteps_56 (f_L_listSteps_46 m) m' a x y w) (J := fun _ w' => LJ n e w0 w' ∧ 0 ≤ w' 81 15 ∧ w' 81 15 ≤ w' 81 14) (fun m' y s' w' y0 y1 hJ ih' => ?_) (fun m' s' w' hJ => ?_) (by omega) (by omega) () hJ
      · rw [f_L_listSteps_56, hJ.1.1.1.1.2.2, if_pos y1, w32_ok (z := x + 1) (by omega) (by omega), w32_ok (z := y + 1) (by omega) (by omega)]
        refine kT_sA (l_rule hJ.1.1.1 x0 x1) (fun z => kT_if (fun _ => ih () _ hJ) (fun _ => ?_))
        refine kT_sA (l_put hJ.1.1.1 hJ.1.1.2 x0 x1) (fun z => ?_)
        refine kT_bind (l_add2 hJ.1) (fun w2 hw2 => ?_)
        have h15 : w2 81 15 = w' 81 15 := hw2.2.1
        have h14 : w' 81 14 ≤ w2 81 14 := hw2.2.2
        have hg := hJ.2
        exact ih' () _ ⟨hw2.1, by omega, by omega⟩
      · rw [f_L_listSteps_56, hJ.1.1.1.1.2.2, if_neg (by omega), w32_ok (z := x + 1) (by omega) (by omega)]
        exact ih () _ hJ
    · rw [f_L_listSteps_46, hJ.1.1.1.1.1, if_neg (by omega)]
      exact kT_some hJ
  unfold f_L_listSteps
  rw [qlt_ok]
  refine kC_loop (σ := Unit) (N := n) (L := fun m x _ w => f_L_listSteps_7 m a x w) (J := fun _ w' => LJ n e w0 w') (fun m x s w' x0 x1 hJ ih => ?_) (fun m s w' hJ => ?_) (by omega) (by omega) () h0
  · rw [f_L_listSteps_7, hJ.1.1.1.1, if_pos x1, qld_ok x0 (by omega), w32_ok (z := x + 1) (by omega) (by omega)]
    refine kT_if (fun _ => ih () _ hJ) (fun _ => ?_)
    exact kT_bind (l_first hJ x0 x1) (fun w2 hw2 => ih () _ hw2)
  · rw [f_L_listSteps_7, hJ.1.1.1.1, if_neg (by omega)]
    exact second _ hJ
end LP
