/-! one ring alone (the class): the answer -/
def GLo (w : qMem) : Prop := ((w 81 6 = 0 ∧ w 0 (-2) = 101) ∨ (w 81 6 = 102 ∧ w 81 7 = 103 ∧ w 0 (-2) = 103 ∧ ∀ j, 0 ≤ j → j < 10125 → 0 ≤ w 102 j ∧ w 102 j < 10125)) ∧ 0 ≤ w 81 13 ∧ w 81 13 ≤ 10125
def FLz (w w' : qMem) : Prop := (∀ k, k ≠ 0 → (k < 81 ∨ (87 < k ∧ k ≠ 102 ∧ k ≠ 103)) → w' k = w k) ∧ ∀ j, j ≠ -2 → w' 0 j = w 0 j
section LU
variable {w w' w0 T : qMem} {n e x v i a s c x3 x4 : Int} {k : Nat}
theorem FLz.rfl' : FLz w w := ⟨fun _ _ _ => rfl, fun _ _ => rfl⟩
theorem l_prepare (h : ne_ok n e) (hG : GLo w) : kT (f_L_prepare n e x3 w) (fun w' => ∃ wA, LN n e wA w' ∧ FLz w wA ∧ wA 0 (-2) = 103) := by
  unfold f_L_prepare
  rcases hG.1 with ⟨h6, hq⟩ | ⟨h6, h7, hq, ho⟩
  · rw [if_pos h6]
    unfold f_L_prepare_14 qnw
    have hnn : qnn w = 101 := by
      unfold qnn
      rw [hq]
      rfl
    have c0 : qal w 0 (-2) = 102 := by
      unfold qal
      rw [hnn, if_neg (by decide), if_pos ⟨rfl, rfl⟩, hq]
      rfl
    have r1 : ∀ k, k ≠ 0 → k ≠ 102 → qal w k = w k := fun k a b => by
      funext j
      unfold qal
      rw [hnn, if_neg b, if_neg (fun z => a z.1)]
    have r102 : ∀ j, qal w 102 j = 0 := fun j => by
      unfold qal
      rw [hnn, if_pos rfl]
    have rz : ∀ j, j ≠ -2 → qal w 0 j = w 0 j := fun j a => by
      unfold qal
      rw [hnn, if_neg (by decide), if_neg (fun z => a z.2)]
    rw [if_pos (by rw [hq]; rfl)]
    refine kT_lt ?_
    have q2 : qud (qal w) 81 6 ((102 : Nat) : Int) 0 (-2) = 102 := by rw [qud_nk (by decide)]; exact c0
    rw [if_pos (by rw [q2]; rfl)]
    refine kT_lt ?_
    have hnn2 : qnn (qud (qal w) 81 6 ((102 : Nat) : Int)) = 102 := by
      unfold qnn
      rw [q2]
      rfl
    have d0 : qal (qud (qal w) 81 6 ((102 : Nat) : Int)) 0 (-2) = 103 := by
      rw [qal_0, q2]
      rfl
    have e1 : ∀ k, k ≠ 0 → k ≠ 103 → qal (qud (qal w) 81 6 ((102 : Nat) : Int)) k = qud (qal w) 81 6 ((102 : Nat) : Int) k := fun k a b => by
      funext j
      show (if k = qnn (qud (qal w) 81 6 ((102 : Nat) : Int)) + 1 then 0 else if k = 0 ∧ j = -2 then _ else _) = _
      rw [hnn2, if_neg b, if_neg (fun z => a z.1)]
    have ez : ∀ j, j ≠ -2 → qal (qud (qal w) 81 6 ((102 : Nat) : Int)) 0 j = w 0 j := fun j a => by
      show (if (0 : Nat) = qnn (qud (qal w) 81 6 ((102 : Nat) : Int)) + 1 then 0 else if (0 : Nat) = 0 ∧ j = -2 then _ else qud (qal w) 81 6 ((102 : Nat) : Int) 0 j) = _
      rw [hnn2, if_neg (by decide), if_neg (fun z => a z.2), qud_nk (by decide), rz j a]
    refine kT_mono (l_prep32 h ⟨?_, ?_⟩ ?_ ?_) (fun w' hw => ⟨_, hw, ⟨fun k a b => ?_, fun j a => ?_⟩, ?_⟩)
    · rw [qud_ni (by decide), e1 81 (by decide) (by decide), qud_s]
      rfl
    · rw [qud_s]
      rfl
    · intro j j0 j1
      rw [qud_nk (by decide), e1 102 (by decide) (by decide), qud_nk (by decide), r102]
      decide
    · rw [qud_ni (by decide), e1 81 (by decide) (by decide), qud_ni (by decide), r1 81 (by decide) (by decide)]
      exact hG.2
    · rw [qud_row (by omega), e1 k a (by omega), qud_row (by omega), r1 k a (by omega)]
    · rw [qud_nk (by decide), ez j a]
    · rw [qud_nk (by decide)]
      exact d0
  · rw [if_neg (by omega), if_pos h6, if_neg (by omega), if_pos h7]
    exact kT_mono (l_prep32 h ⟨h6, h7⟩ ho hG.2) (fun w' hw => ⟨w, hw, FLz.rfl', hq⟩)
theorem l_solve (h : ne_ok n e) (hG : GLo w) (c0 : 0 ≤ x4) (c1 : x4 + 7 < 168) : kT (f_L_solve n e x3 x4 w) (fun w' => ∃ wA, LN n e wA w' ∧ FLz w wA ∧ wA 0 (-2) = 103) := by
  unfold f_L_solve
  refine kT_bind (l_prepare h hG) (fun w1 h1 => ?_)
  obtain ⟨wA, g1, hz⟩ := h1
  suffices hh : kT ((f_L_explore w1).bind fun q11 => qst q11 82 168 x4 (q11 81 13) fun w12 => qst w12 82 168 (w32 (x4 + 3)) (-1) fun w13 => f_L_solve_35 qFU x4 0 w13) (fun w' => LN n e wA w') from kT_mono hh (fun w' hw => ⟨wA, hw, hz⟩)
  have h84 : ∀ s2 w, LN n e wA w → kT (f_L_solve_84 (w32 (x4 + 6)) s2 x4 w) (fun w' => LN n e wA w') := by
    intro s2 w h
    unfold f_L_solve_84
    rw [w32_ok (z := x4 + 6) (by omega) (by omega), w32_ok (z := x4 + 7) (by omega) (by omega), qst_ok (by omega) (by omega)]
    refine kT_bind (l_longest (h.wr (by decide))) (fun r hr => ?_)
    refine kT_st (by omega) (by omega) ?_
    exact kT_some (hr.wr (by decide))
  have key : ∀ (m : Nat) (x5 : Int) (w : qMem), 0 ≤ x5 → 10125 - x5 < m → (x5 ≤ 10125 ∨ 0 < m) → LN n e wA w → kT (f_L_solve_35 m x4 x5 w) (fun w' => LN n e wA w') := by
    intro m
    induction m with
    | zero => intro x5 w _ _ h' _; omega
    | succ m ih =>
      intro x5 w y0 hm _ h
      have h13 := h.w13
      rw [f_L_solve_35]
      refine kT_if (fun cx => ?_) (fun _ => ?_)
      · have ho := h.or (i := x5) y0 (by omega)
        rw [if_pos h.w6, qld_ok y0 (by omega)]
        refine kT_bind (l_weigh h ho.1 ho.2 c0 c1) (fun w2 h2 => ?_)
        rw [w32_ok (z := x5 + 1) (by omega) (by omega)]
        exact ih (x5 + 1) w2 (by omega) (by omega) (by omega) h2
      · unfold f_L_solve_63
        refine kT_bind (l_starving h) (fun r hr => ?_)
        exact kT_if (fun _ => h84 _ _ hr) (fun _ => h84 _ _ hr)
  refine kT_bind (l_explore g1) (fun w2 h2 => ?_)
  rw [qst_ok c0 (by omega), w32_ok (z := x4 + 3) (by omega) (by omega), qst_ok (by omega) (by omega)]
  exact key qFU 0 _ (by omega) (qFU_gt (by omega)) (Or.inr (by unfold qFU; omega)) ((h2.wr (by decide)).wr (by decide))
theorem GLo.of (h : LN n e w0 w) (hA : w0 0 (-2) = 103) : GLo w := ⟨Or.inr ⟨h.w6, h.w7, by rw [h.2 0 (by omega)]; exact hA, fun j j0 j1 => h.or j0 j1⟩, h.w13⟩
theorem FLz.ln (hz : FLz w w0) (h : LN n e w0 w') : FLz w w' := ⟨fun k a b => by rw [h.2 k (by omega)]; exact hz.1 k a b, fun j a => by rw [h.2 0 (by omega)]; exact hz.2 j a⟩
theorem x_alone (hG : GLo w) : kT (f_X_alone n e x3 x4 w) (fun r => GLo r.2 ∧ FLz w r.2) := by
  have hno : kT (some ((-1 : Int), w)) (fun r => GLo r.2 ∧ FLz w r.2) := kT_some ⟨hG, FLz.rfl'⟩
  have hcan : (ne_ok n e ∧ f_L_canBe n e w = some (1, w)) ∨ f_L_canBe n e w = some (0, w) := by
    have h18 : (n = 4 ∧ e = 1 ∧ f_L_canBe_18 n e w = some (1, w)) ∨ f_L_canBe_18 n e w = some (0, w) := by
      unfold f_L_canBe_18
      by_cases a : n = 4
      · rw [if_pos a]
        by_cases b : e = 1
        · rw [if_pos b]; exact Or.inl ⟨a, b, rfl⟩
        · rw [if_neg b]; exact Or.inr rfl
      · rw [if_neg a]; exact Or.inr rfl
    have hb : (ne_ok n e ∧ f_L_canBe_18 n e w = some (1, w)) ∨ f_L_canBe_18 n e w = some (0, w) := by
      rcases h18 with z | z
      · exact Or.inl ⟨Or.inr (Or.inr ⟨z.1, z.2.1⟩), z.2.2⟩
      · exact Or.inr z
    unfold f_L_canBe
    rw [qbd x_within]
    dsimp only
    rw [bi_if]
    by_cases a : 2 ≤ n ∧ n ≤ 3
    · rw [if_pos a, qbd x_within]
      dsimp only
      rw [bi_if]
      by_cases b : 1 ≤ e ∧ e ≤ 3
      · rw [if_pos b]
        refine Or.inl ⟨?_, rfl⟩
        unfold ne_ok
        omega
      · rw [if_neg b]; exact hb
    · rw [if_neg a]; exact hb
  suffices hh : kT (f_L_answer n e x3 x4 w) (fun r => GLo r.2 ∧ FLz w r.2) by
    unfold f_X_alone
    exact kT_bind hh (fun r hr => kT_some hr)
  unfold f_L_answer
  rcases hcan with ⟨hne, hc⟩ | hc
  · refine kT_eq hc ?_
    refine kT_if (fun _ => hno) (fun _ => ?_)
    refine kT_eq x_within ?_
    dsimp only
    rw [bi_if]
    refine kT_if (fun c3 => ?_) (fun _ => hno)
    refine kT_eq x_within ?_
    dsimp only
    rw [bi_if]
    refine kT_if (fun c4 => ?_) (fun _ => hno)
    have hw : ∃ q, (0 ≤ q ∧ q ≤ 20) ∧ w32 ((w32 ((w32 ((w32 ((w32 ((w32 (n - 2)) * 3)) + e)) - 1)) * 3)) + x3) = q := by
      refine ⟨((n - 2) * 3 + e - 1) * 3 + x3, ?_, ?_⟩
      · unfold ne_ok at hne
        omega
      · unfold ne_ok at hne
        rw [w32_ok (z := n - 2) (by omega) (by omega), w32_ok (z := (n - 2) * 3) (by omega) (by omega), w32_ok (z := (n - 2) * 3 + e) (by omega) (by omega), w32_ok (z := (n - 2) * 3 + e - 1) (by omega) (by omega), w32_ok (z := ((n - 2) * 3 + e - 1) * 3) (by omega) (by omega), w32_ok (by omega) (by omega)]
    obtain ⟨q, hq, eq⟩ := hw
    rw [eq]
    have h75 : ∀ w', GLo w' → FLz w w' → kT (f_L_answer_75 x4 q w') (fun r => GLo r.2 ∧ FLz w r.2) := by
      intro w' a b
      unfold f_L_answer_75
      rw [w32_ok (z := q * 8) (by omega) (by omega), w32_ok (by omega) (by omega), qld_ok (by omega) (by omega)]
      exact kT_some ⟨a, b⟩
    rw [qld_ok hq.1 (by omega), w32_ok (z := q * 8) (by omega) (by omega)]
    refine kT_if (fun _ => ?_) (fun _ => h75 w hG FLz.rfl')
    refine kT_bind (l_solve hne hG (by omega) (by omega)) (fun w1 h1 => ?_)
    obtain ⟨wA, g1, hz, hA⟩ := h1
    rw [qstz_ok hq.1 (by omega) (Or.inr rfl)]
    have g2 := g1.wr (k := 83) (i := q) (x := 1) (by decide)
    exact h75 _ (GLo.of g2 hA) (hz.ln g2)
  · refine kT_eq hc ?_
    exact kT_if (fun _ => hno) (fun c => absurd rfl c)
end LU
