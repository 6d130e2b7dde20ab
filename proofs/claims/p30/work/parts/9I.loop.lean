/-! the law's loop -/
section LW
variable {w w1 w0 : qMem} {c x i L : Int} {P : Int × qMem → Prop} {K : Int → Option (Int × qMem)}
theorem la_1 (hl : w 0 (-1) = L) (x0 : 0 ≤ x) (x1 : x + 7 ≤ L) (L1 : L ≤ 3584) (i0 : 0 ≤ i) (i6 : i ≤ 6) (k : kT (K (w 0 (x + i))) P) : kT (qld w 0 (w 0 (-1)) (w32 (x + i)) K) P := by
  rw [w32_ok (by omega) (by omega), qld_ok (by omega) (by omega)]
  exact k
theorem la_2 (hf : ∀ j, j ≠ -2 → w1 0 j = w 0 j) (hl : w 0 (-1) = L) (x0 : 0 ≤ x) (x1 : x + 7 ≤ L) (L1 : L ≤ 3584) (i0 : 0 ≤ i) (i6 : i ≤ 6) (k : kT (K (w 0 (x + i))) P) : kT (qld w1 0 (w1 0 (-1)) (w32 (x + i)) K) P := by
  rw [w32_ok (by omega) (by omega), hf (-1) (by decide), qld_ok (by omega) (by omega), hf (x + i) (by omega)]
  exact k
theorem law_loop (L0 : 0 ≤ L) (L1 : L ≤ 3584) (hL : w0 0 (-1) = L) : ∀ (m : Nat) (c : Int) (w : qMem), 0 ≤ c → 7 * c ≤ L → L - 7 * c < m → GI c w0 w → kT (f_A_law_18 m (7 * c) w) (fun r => r.1 = 1 ∧ GLo r.2) := by
  intro m
  induction m with
  | zero => intro c w _ _ _ _; omega
  | succ m ih =>
    intro c w c0 c1 hm hG
    obtain ⟨S, h⟩ := hG
    have hl : w 0 (-1) = L := (h.2.2.2.2 (-1) (by decide)).trans hL
    rw [f_A_law_18]
    unfold qsn
    rw [if_pos (show 0 ≤ w 0 (-1) ∧ w 0 (-1) < 2147483648 from ⟨by omega, by omega⟩)]
    dsimp only
    rw [w32_ok (z := w 0 (-1) - 7) (by omega) (by omega)]
    refine kT_if (fun cx => ?_) (fun _ => kT_some ⟨rfl, h.2.2.1.2.1⟩)
    have x0 : 0 ≤ 7 * c := by omega
    have x1 : 7 * c + 7 ≤ L := by omega
    have nxt : ∀ r : Int × qMem, GI (c + 1) w0 r.2 → kT (f_A_law_18 m (w32 (7 * c + 7)) r.2) (fun r => r.1 = 1 ∧ GLo r.2) := by
      intro r hr
      rw [w32_ok (by omega) (by omega), show 7 * c + 7 = 7 * (c + 1) by omega]
      exact ih (c + 1) r.2 (by omega) (by omega) (by omega) hr
    rw [qld_ok x0 (by omega)]
    generalize jand (w 0 (7 * c)) 31 = q
    refine kT_if (fun _ => ?_) (fun _ => ?_)
    · refine la_1 hl x0 x1 L1 (by decide) (by decide) ?_
      refine la_1 hl x0 x1 L1 (by decide) (by decide) ?_
      refine la_1 hl x0 x1 L1 (by decide) (by decide) ?_
      refine la_1 hl x0 x1 L1 (by decide) (by decide) ?_
      refine la_1 hl x0 x1 L1 (by decide) (by decide) ?_
      refine la_1 hl x0 x1 L1 (by decide) (by decide) ?_
      refine kT_bind (st_torus h c0) (fun r1 h1 => ?_)
      refine la_2 h1.1 hl x0 x1 L1 (by decide) (by decide) ?_
      refine la_2 h1.1 hl x0 x1 L1 (by decide) (by decide) ?_
      refine la_2 h1.1 hl x0 x1 L1 (by decide) (by decide) ?_
      refine la_2 h1.1 hl x0 x1 L1 (by decide) (by decide) ?_
      refine la_2 h1.1 hl x0 x1 L1 (by decide) (by decide) ?_
      refine la_2 h1.1 hl x0 x1 L1 (by decide) (by decide) ?_
      refine kT_bind h1.2 (fun r2 h2 => ?_)
      exact nxt r2 h2.1
    refine kT_if (fun _ => ?_) (fun _ => ?_)
    · refine la_1 hl x0 x1 L1 (by decide) (by decide) ?_
      refine la_1 hl x0 x1 L1 (by decide) (by decide) ?_
      refine kT_bind (st_send h) (fun r1 h1 => ?_)
      refine la_2 h1.1 hl x0 x1 L1 (by decide) (by decide) ?_
      refine la_2 h1.1 hl x0 x1 L1 (by decide) (by decide) ?_
      refine kT_bind h1.2 (fun r2 h2 => ?_)
      exact nxt r2 h2.1
    refine kT_if (fun _ => ?_) (fun _ => ?_)
    · refine la_1 hl x0 x1 L1 (by decide) (by decide) ?_
      refine kT_bind (st_shower h) (fun r1 h1 => ?_)
      refine la_2 h1.1 hl x0 x1 L1 (by decide) (by decide) ?_
      refine kT_bind h1.2 (fun r2 h2 => ?_)
      exact nxt r2 h2.1
    refine kT_if (fun _ => ?_) (fun _ => ?_)
    · refine la_1 hl x0 x1 L1 (by decide) (by decide) ?_
      refine la_1 hl x0 x1 L1 (by decide) (by decide) ?_
      refine kT_bind (st_pattern h) (fun r1 h1 => ?_)
      refine la_2 h1.1 hl x0 x1 L1 (by decide) (by decide) ?_
      refine la_2 h1.1 hl x0 x1 L1 (by decide) (by decide) ?_
      refine kT_bind h1.2 (fun r2 h2 => ?_)
      exact nxt r2 h2.1
    refine kT_if (fun _ => ?_) (fun _ => ?_)
    · refine la_1 hl x0 x1 L1 (by decide) (by decide) ?_
      refine kT_bind (st_tick h (by omega)) (fun r1 h1 => ?_)
      refine la_2 h1.1 hl x0 x1 L1 (by decide) (by decide) ?_
      refine kT_bind h1.2 (fun r2 h2 => ?_)
      exact nxt r2 h2.1
    refine kT_if (fun _ => ?_) (fun _ => ?_)
    · refine la_1 hl x0 x1 L1 (by decide) (by decide) ?_
      refine kT_bind (st_state h) (fun r1 h1 => ?_)
      refine la_2 h1.1 hl x0 x1 L1 (by decide) (by decide) ?_
      refine kT_bind h1.2 (fun r2 h2 => ?_)
      exact nxt r2 h2.1
    refine kT_if (fun _ => ?_) (fun _ => ?_)
    · refine la_1 hl x0 x1 L1 (by decide) (by decide) ?_
      refine kT_bind (st_bound h) (fun r1 h1 => ?_)
      refine la_2 h1.1 hl x0 x1 L1 (by decide) (by decide) ?_
      refine kT_bind h1.2 (fun r2 h2 => ?_)
      exact nxt r2 h2.1
    refine kT_if (fun _ => ?_) (fun _ => ?_)
    · refine la_1 hl x0 x1 L1 (by decide) (by decide) ?_
      refine la_1 hl x0 x1 L1 (by decide) (by decide) ?_
      refine kT_bind (st_packet h) (fun r1 h1 => ?_)
      refine la_2 h1.1 hl x0 x1 L1 (by decide) (by decide) ?_
      refine la_2 h1.1 hl x0 x1 L1 (by decide) (by decide) ?_
      refine kT_bind h1.2 (fun r2 h2 => ?_)
      exact nxt r2 h2.1
    refine kT_if (fun _ => ?_) (fun _ => ?_)
    · refine la_1 hl x0 x1 L1 (by decide) (by decide) ?_
      refine la_1 hl x0 x1 L1 (by decide) (by decide) ?_
      refine la_1 hl x0 x1 L1 (by decide) (by decide) ?_
      refine la_1 hl x0 x1 L1 (by decide) (by decide) ?_
      refine kT_bind (st_queue h) (fun r1 h1 => ?_)
      refine la_2 h1.1 hl x0 x1 L1 (by decide) (by decide) ?_
      refine la_2 h1.1 hl x0 x1 L1 (by decide) (by decide) ?_
      refine la_2 h1.1 hl x0 x1 L1 (by decide) (by decide) ?_
      refine la_2 h1.1 hl x0 x1 L1 (by decide) (by decide) ?_
      refine kT_bind h1.2 (fun r2 h2 => ?_)
      exact nxt r2 h2.1
    refine kT_if (fun _ => ?_) (fun _ => ?_)
    · refine la_1 hl x0 x1 L1 (by decide) (by decide) ?_
      refine la_1 hl x0 x1 L1 (by decide) (by decide) ?_
      refine kT_bind (st_next h) (fun r1 h1 => ?_)
      refine la_2 h1.1 hl x0 x1 L1 (by decide) (by decide) ?_
      refine la_2 h1.1 hl x0 x1 L1 (by decide) (by decide) ?_
      refine kT_bind h1.2 (fun r2 h2 => ?_)
      exact nxt r2 h2.1
    refine kT_if (fun _ => ?_) (fun _ => ?_)
    · refine la_1 hl x0 x1 L1 (by decide) (by decide) ?_
      refine la_1 hl x0 x1 L1 (by decide) (by decide) ?_
      refine kT_bind (st_far h) (fun r1 h1 => ?_)
      refine la_2 h1.1 hl x0 x1 L1 (by decide) (by decide) ?_
      refine la_2 h1.1 hl x0 x1 L1 (by decide) (by decide) ?_
      refine kT_bind h1.2 (fun r2 h2 => ?_)
      exact nxt r2 h2.1
    refine kT_if (fun _ => ?_) (fun _ => ?_)
    · refine la_1 hl x0 x1 L1 (by decide) (by decide) ?_
      refine la_1 hl x0 x1 L1 (by decide) (by decide) ?_
      refine kT_bind (st_profitable h) (fun r1 h1 => ?_)
      refine la_2 h1.1 hl x0 x1 L1 (by decide) (by decide) ?_
      refine la_2 h1.1 hl x0 x1 L1 (by decide) (by decide) ?_
      refine kT_bind h1.2 (fun r2 h2 => ?_)
      exact nxt r2 h2.1
    refine kT_if (fun _ => ?_) (fun _ => ?_)
    · refine la_1 hl x0 x1 L1 (by decide) (by decide) ?_
      refine la_1 hl x0 x1 L1 (by decide) (by decide) ?_
      refine la_1 hl x0 x1 L1 (by decide) (by decide) ?_
      refine kT_bind (st_way h) (fun r1 h1 => ?_)
      refine la_2 h1.1 hl x0 x1 L1 (by decide) (by decide) ?_
      refine la_2 h1.1 hl x0 x1 L1 (by decide) (by decide) ?_
      refine la_2 h1.1 hl x0 x1 L1 (by decide) (by decide) ?_
      refine kT_bind h1.2 (fun r2 h2 => ?_)
      exact nxt r2 h2.1
    refine kT_if (fun _ => ?_) (fun _ => ?_)
    · refine la_1 hl x0 x1 L1 (by decide) (by decide) ?_
      refine la_1 hl x0 x1 L1 (by decide) (by decide) ?_
      refine kT_bind (st_ring h) (fun r1 h1 => ?_)
      refine la_2 h1.1 hl x0 x1 L1 (by decide) (by decide) ?_
      refine la_2 h1.1 hl x0 x1 L1 (by decide) (by decide) ?_
      refine kT_bind h1.2 (fun r2 h2 => ?_)
      exact nxt r2 h2.1
    refine kT_if (fun _ => ?_) (fun _ => ?_)
    · refine la_1 hl x0 x1 L1 (by decide) (by decide) ?_
      refine la_1 hl x0 x1 L1 (by decide) (by decide) ?_
      refine kT_bind (st_ringOf h) (fun r1 h1 => ?_)
      refine la_2 h1.1 hl x0 x1 L1 (by decide) (by decide) ?_
      refine la_2 h1.1 hl x0 x1 L1 (by decide) (by decide) ?_
      refine kT_bind h1.2 (fun r2 h2 => ?_)
      exact nxt r2 h2.1
    refine kT_if (fun _ => ?_) (fun _ => ?_)
    · refine la_1 hl x0 x1 L1 (by decide) (by decide) ?_
      refine la_1 hl x0 x1 L1 (by decide) (by decide) ?_
      refine kT_bind (st_hunger h) (fun r1 h1 => ?_)
      refine la_2 h1.1 hl x0 x1 L1 (by decide) (by decide) ?_
      refine la_2 h1.1 hl x0 x1 L1 (by decide) (by decide) ?_
      refine kT_bind h1.2 (fun r2 h2 => ?_)
      exact nxt r2 h2.1
    refine kT_if (fun _ => ?_) (fun _ => ?_)
    · refine la_1 hl x0 x1 L1 (by decide) (by decide) ?_
      refine la_1 hl x0 x1 L1 (by decide) (by decide) ?_
      refine kT_bind (st_node h) (fun r1 h1 => ?_)
      refine la_2 h1.1 hl x0 x1 L1 (by decide) (by decide) ?_
      refine la_2 h1.1 hl x0 x1 L1 (by decide) (by decide) ?_
      refine kT_bind h1.2 (fun r2 h2 => ?_)
      exact nxt r2 h2.1
    refine kT_if (fun _ => ?_) (fun _ => ?_)
    · refine la_1 hl x0 x1 L1 (by decide) (by decide) ?_
      refine la_1 hl x0 x1 L1 (by decide) (by decide) ?_
      refine kT_bind (st_move h) (fun r1 h1 => ?_)
      refine la_2 h1.1 hl x0 x1 L1 (by decide) (by decide) ?_
      refine la_2 h1.1 hl x0 x1 L1 (by decide) (by decide) ?_
      refine kT_bind h1.2 (fun r2 h2 => ?_)
      exact nxt r2 h2.1
    refine kT_if (fun _ => ?_) (fun _ => ?_)
    · refine la_1 hl x0 x1 L1 (by decide) (by decide) ?_
      refine la_1 hl x0 x1 L1 (by decide) (by decide) ?_
      refine kT_bind (st_link h) (fun r1 h1 => ?_)
      refine la_2 h1.1 hl x0 x1 L1 (by decide) (by decide) ?_
      refine la_2 h1.1 hl x0 x1 L1 (by decide) (by decide) ?_
      refine kT_bind h1.2 (fun r2 h2 => ?_)
      exact nxt r2 h2.1
    refine kT_if (fun _ => ?_) (fun _ => ?_)
    · refine la_1 hl x0 x1 L1 (by decide) (by decide) ?_
      refine la_1 hl x0 x1 L1 (by decide) (by decide) ?_
      refine kT_bind (st_trace h) (fun r1 h1 => ?_)
      refine la_2 h1.1 hl x0 x1 L1 (by decide) (by decide) ?_
      refine la_2 h1.1 hl x0 x1 L1 (by decide) (by decide) ?_
      refine kT_bind h1.2 (fun r2 h2 => ?_)
      exact nxt r2 h2.1
    refine kT_if (fun _ => ?_) (fun _ => ?_)
    · refine la_1 hl x0 x1 L1 (by decide) (by decide) ?_
      refine la_1 hl x0 x1 L1 (by decide) (by decide) ?_
      refine la_1 hl x0 x1 L1 (by decide) (by decide) ?_
      refine kT_bind (st_pair h) (fun r1 h1 => ?_)
      refine la_2 h1.1 hl x0 x1 L1 (by decide) (by decide) ?_
      refine la_2 h1.1 hl x0 x1 L1 (by decide) (by decide) ?_
      refine la_2 h1.1 hl x0 x1 L1 (by decide) (by decide) ?_
      refine kT_bind h1.2 (fun r2 h2 => ?_)
      exact nxt r2 h2.1
    refine kT_if (fun _ => ?_) (fun _ => ?_)
    · refine la_1 hl x0 x1 L1 (by decide) (by decide) ?_
      refine la_1 hl x0 x1 L1 (by decide) (by decide) ?_
      refine kT_bind (st_late h) (fun r1 h1 => ?_)
      refine la_2 h1.1 hl x0 x1 L1 (by decide) (by decide) ?_
      refine la_2 h1.1 hl x0 x1 L1 (by decide) (by decide) ?_
      refine kT_bind h1.2 (fun r2 h2 => ?_)
      exact nxt r2 h2.1
    refine kT_if (fun _ => ?_) (fun _ => ?_)
    · refine la_1 hl x0 x1 L1 (by decide) (by decide) ?_
      refine la_1 hl x0 x1 L1 (by decide) (by decide) ?_
      refine kT_bind (st_lates h) (fun r1 h1 => ?_)
      refine la_2 h1.1 hl x0 x1 L1 (by decide) (by decide) ?_
      refine la_2 h1.1 hl x0 x1 L1 (by decide) (by decide) ?_
      refine kT_bind h1.2 (fun r2 h2 => ?_)
      exact nxt r2 h2.1
    refine kT_if (fun _ => ?_) (fun _ => ?_)
    · refine la_1 hl x0 x1 L1 (by decide) (by decide) ?_
      refine kT_bind (st_goesOn h) (fun r1 h1 => ?_)
      refine la_2 h1.1 hl x0 x1 L1 (by decide) (by decide) ?_
      refine kT_bind h1.2 (fun r2 h2 => ?_)
      exact nxt r2 h2.1
    refine kT_if (fun _ => ?_) (fun _ => ?_)
    · refine kT_bind (st_stuck h) (fun r1 h1 => ?_)
      refine kT_bind h1.2 (fun r2 h2 => ?_)
      exact nxt r2 h2.1
    refine kT_if (fun _ => ?_) (fun _ => ?_)
    · refine kT_bind (st_dead h) (fun r1 h1 => ?_)
      refine kT_bind h1.2 (fun r2 h2 => ?_)
      exact nxt r2 h2.1
    refine kT_if (fun _ => ?_) (fun _ => ?_)
    · refine kT_bind (st_through h (by omega)) (fun r1 h1 => ?_)
      refine kT_bind h1.2 (fun r2 h2 => ?_)
      exact nxt r2 h2.1
    refine kT_if (fun _ => ?_) (fun _ => ?_)
    · refine la_1 hl x0 x1 L1 (by decide) (by decide) ?_
      refine la_1 hl x0 x1 L1 (by decide) (by decide) ?_
      refine kT_bind (st_arrives h (by omega)) (fun r1 h1 => ?_)
      refine la_2 h1.1 hl x0 x1 L1 (by decide) (by decide) ?_
      refine la_2 h1.1 hl x0 x1 L1 (by decide) (by decide) ?_
      refine kT_bind h1.2 (fun r2 h2 => ?_)
      exact nxt r2 h2.1
    refine kT_if (fun _ => ?_) (fun _ => ?_)
    · refine la_1 hl x0 x1 L1 (by decide) (by decide) ?_
      refine la_1 hl x0 x1 L1 (by decide) (by decide) ?_
      refine kT_bind (st_enters h) (fun r1 h1 => ?_)
      refine la_2 h1.1 hl x0 x1 L1 (by decide) (by decide) ?_
      refine la_2 h1.1 hl x0 x1 L1 (by decide) (by decide) ?_
      refine kT_bind h1.2 (fun r2 h2 => ?_)
      rw [if_pos h2.2]
      exact nxt r2 h2.1
    refine kT_if (fun _ => ?_) (fun _ => ?_)
    · refine la_1 hl x0 x1 L1 (by decide) (by decide) ?_
      refine kT_bind (st_schedules h) (fun r1 h1 => ?_)
      refine la_2 h1.1 hl x0 x1 L1 (by decide) (by decide) ?_
      refine kT_bind h1.2 (fun r2 h2 => ?_)
      exact nxt r2 h2.1
    refine kT_if (fun _ => ?_) (fun _ => ?_)
    · refine la_1 hl x0 x1 L1 (by decide) (by decide) ?_
      refine la_1 hl x0 x1 L1 (by decide) (by decide) ?_
      refine la_1 hl x0 x1 L1 (by decide) (by decide) ?_
      refine la_1 hl x0 x1 L1 (by decide) (by decide) ?_
      refine kT_bind (st_alone h c0 (by omega)) (fun r1 h1 => ?_)
      refine la_2 h1.1 hl x0 x1 L1 (by decide) (by decide) ?_
      refine la_2 h1.1 hl x0 x1 L1 (by decide) (by decide) ?_
      refine la_2 h1.1 hl x0 x1 L1 (by decide) (by decide) ?_
      refine la_2 h1.1 hl x0 x1 L1 (by decide) (by decide) ?_
      refine kT_bind h1.2 (fun r2 h2 => ?_)
      exact nxt r2 h2.1
    refine kT_if (fun _ => ?_) (fun _ => ?_)
    · refine la_1 hl x0 x1 L1 (by decide) (by decide) ?_
      refine kT_bind (st_look h) (fun r1 h1 => ?_)
      refine la_2 h1.1 hl x0 x1 L1 (by decide) (by decide) ?_
      refine kT_bind h1.2 (fun r2 h2 => ?_)
      exact nxt r2 h2.1
    · exact nxt (0, w) ⟨S, h.up⟩
theorem law_pure (L0 : 0 ≤ L) (L1 : L ≤ 3584) (hL : w0 0 (-1) = L) (h0 : w0 0 (-2) = 0) : kT (f_A_law w0) (fun r => r.1 = 1 ∧ GLo r.2) := by
  unfold f_A_law
  refine law_init h0 (fun w' h => ?_)
  exact law_loop L0 L1 hL qFU 0 w' (by decide) (by omega) (qFU_gt (by omega)) ⟨_, h⟩
end LW
