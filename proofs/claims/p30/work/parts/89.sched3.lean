/-! schedules, the class: the key of a state; a state is met; a step ends -/
section T3
variable {w w' w0 w2 S T : qMem} {W H C N key x y r i v q s : Int} {k : Nat}
theorem j_and3 : ∀ n : Nat, n < 7 → 0 ≤ jand ((n : Int) - 1) 3 ∧ jand ((n : Int) - 1) 3 < 4 := by decide +kernel
theorem j_shl2 : ∀ n : Nat, n < 145 → jshl (n : Int) 2 = 4 * (n : Int) := by decide +kernel
theorem t_place (hx : NX 37 w S) (I : IW S) (q0 : 0 ≤ q) (q1 : q < 144) : ∃ y, f_Q_placeOf (37 + 19) q x w = some (y, w) ∧ -1 ≤ y ∧ y < 6 := by
  have hs := (I.2.2.2 q q0 q1).1
  have key : ∀ (m : Nat) (i : Int), 0 ≤ i → i ≤ S 20 q → S 20 q - i < m → ∃ y, f_Q_placeOf_2 (37 + 19) m q x i w = some (y, w) ∧ -1 ≤ y ∧ y < 6 := by
    intro m
    induction m with
    | zero => intro i _ _ _; omega
    | succ m ih =>
      intro i i0 i1 hm
      rw [f_Q_placeOf_2, qld_ok q0 q1, show w (37 + 19 + 1) q = S 20 q from rx_20 hx.1 q0 q1]
      by_cases c : i < S 20 q
      · rw [if_pos c, w32_ok (z := q * 6) (by omega) (by omega), w32_ok (z := q * 6 + i) (by omega) (by omega), qld_ok (by omega) (by omega), w32_ok (z := i + 1) (by omega) (by omega)]
        by_cases c2 : w (37 + 19 + 2) (q * 6 + i) = x
        · rw [if_pos c2]; exact ⟨i, rfl, by omega, by omega⟩
        · rw [if_neg c2]; exact ih (i + 1) (by omega) (by omega) (by omega)
      · rw [if_neg c]; exact ⟨-1, rfl, by omega, by omega⟩
  unfold f_Q_placeOf
  exact key qFU 0 (by omega) hs.1 (qFU_gt (by omega))
theorem SPo.in145 (h : SPo N x) (hN : 4 ≤ N ∧ N ≤ 16) : 0 ≤ x ∧ x ≤ 144 := by
  rcases h with z | z <;> omega
theorem t_kst (h : tNW W H C w) (g : gIn W H) (hs : ∀ i, 0 ≤ i → i < 3 → SPo (W * H) (w 78 i)) (m : Nat) (i0 : 0 ≤ i) (i1 : i < 3) (x0 : 0 ≤ x) (x1 : x < 1125899906842624) : ∃ p, (0 ≤ p ∧ p < 4) ∧ f_S_keyOf_5 37 (m + 1) x i w = f_S_keyOf_5 37 m (1024 * x + 4 * w 78 i + p) (i + 1) w := by
  have hN := gN g
  have hsi := hs i i0 i1
  have h145 := hsi.in145 hN
  have fin : ∀ s0, -1 ≤ s0 → s0 < 6 → ∃ p, (0 ≤ p ∧ p < 4) ∧ f_S_keyOf_49 37 (f_S_keyOf_5 37 m) s0 x i w = f_S_keyOf_5 37 m (1024 * x + 4 * w 78 i + p) (i + 1) w := by
    intro s0 a b
    have hp := j_and3 (s0 + 1).toNat (by omega)
    rw [show (((s0 + 1).toNat : Nat) : Int) - 1 = s0 by omega] at hp
    refine ⟨jand s0 3, hp, ?_⟩
    unfold f_S_keyOf_49
    have hj := j_shl2 (w 78 i).toNat (by omega)
    rw [show (((w 78 i).toNat : Nat) : Int) = w 78 i by omega] at hj
    rw [qld_ok i0 i1, hj, klshl_10 x0 (by omega), ki2l_ok (by omega) (by omega), ki2l_ok hp.1 (by omega), klor_1024 x0 (by omega) (by omega) (by omega), show 1024 * x + 4 * w 78 i = 4 * (256 * x + w 78 i) by omega, klor_4 (by omega) hp.1 hp.2 (by omega), w32_ok (z := i + 1) (by omega) (by omega)]
  rw [f_S_keyOf_5, if_pos i1, qld_ok i0 i1]
  by_cases c : w 78 i = 144
  · rw [if_pos c]; exact fin 0 (by decide) (by decide)
  · rw [if_neg c, qld_ok i0 i1, qld_ok i0 i1]
    have hq : 0 ≤ w 78 i ∧ w 78 i < 144 := by omega
    obtain ⟨S, hx, I, -⟩ := h
    obtain ⟨y, e, y0, y1⟩ := t_place (x := w 77 i) hx I hq.1 hq.2
    rw [qbd e]
    exact fin y y0 y1
theorem t_kri (h : tNW W H C w) (g : gIn W H) (m : Nat) (r0 : 0 ≤ r) (r1 : r < 16) (x0 : 0 ≤ x) (x1 : x < 2305843009213693952) : ∃ p, (0 ≤ p ∧ p < 4) ∧ f_S_keyOf_82 37 (m + 1) x r w = f_S_keyOf_82 37 m (4 * x + p) (r + 1) w := by
  have fin : ∀ p, 0 ≤ p → p < 4 → f_S_keyOf_132 37 (f_S_keyOf_82 37 m) x r p w = f_S_keyOf_82 37 m (4 * x + p) (r + 1) w := by
    intro p p0 p1
    unfold f_S_keyOf_132
    rw [klshl_2 x0 x1, ki2l_ok p0 (by omega), klor_4 x0 p0 p1 (by omega), w32_ok (z := r + 1) (by omega) (by omega)]
  obtain ⟨S, ⟨hx, hg⟩, I, cr, ⟨eW, eH⟩, -⟩ := h
  have hG := I.1
  rw [eW, eH] at hg hG
  have h16 := g16r hG
  have h6 : w (37 + 1) 6 = 2 * (W + H) := hg.2.1.2
  rw [f_S_keyOf_82, if_pos r1, h6]
  by_cases c : r < 2 * (W + H)
  · have hc := cr r r0 (by rw [eW, eH]; exact c)
    rw [eW, eH] at hc
    rw [if_pos c, qld_ok r0 (by omega), rx_25 hx r0 (by rw [eW, eH]; exact c) (by rw [eW, eH]; exact h16), qbd (g_ringDirection (o := 37 + 1) hg.1 hG)]
    obtain ⟨⟨a, b⟩, a2, b2⟩ := hG
    unfold f_G_placeInRing
    dsimp only
    rw [hg.1.1]
    by_cases c2 : gd W H r < 2
    · have m0 := Int.emod_nonneg (S 25 r) (b := W) (by omega)
      have m1 := Int.emod_lt_of_pos (S 25 r) (b := W) (by omega)
      rw [if_pos c2, qdv_ok (by omega), jrem_ok hc.1 (by omega) (by omega) (by omega)]
      exact ⟨S 25 r % W, ⟨m0, by omega⟩, fin _ m0 (by omega)⟩
    · have hr : 2 * H ≤ r := by
        unfold gd at c2
        split at c2
        · omega
        · split at c2
          · omega
          · omega
      have h4 := hc.2.2 hr
      have d0 : 0 ≤ S 25 r / W := Int.ediv_nonneg hc.1 (by omega)
      have d1 : S 25 r / W < 4 := Int.ediv_lt_of_lt_mul (by omega) (by omega)
      rw [if_neg c2, qdv_ok (by omega), jdiv_ok hc.1 (by omega) (by omega) (by omega)]
      exact ⟨S 25 r / W, ⟨d0, d1⟩, fin _ d0 d1⟩
  · rw [if_neg c]
    exact ⟨0, by decide, fin 0 (by decide) (by decide)⟩
theorem kdv_com : ∀ (n : Nat) (x : Int), kdv n (x / 4) = kdv n x / 4 := by
  intro n
  induction n with
  | zero => intro x; rfl
  | succ n ih => intro x; exact ih (x / 4)
theorem t_krs (h : tNW W H C w) (g : gIn W H) : ∀ (n m : Nat) (x : Int), n ≤ 16 → n < m → 0 ≤ x → (x + 1) * (4 : Int) ^ n ≤ 4611686018427387904 → ∃ key, f_S_keyOf_82 37 m x (16 - (n : Int)) w = some (key, w) ∧ (0 ≤ key ∧ key < (x + 1) * (4 : Int) ^ n) ∧ kdv n key = x := by
  intro n
  induction n with
  | zero =>
    intro m x _ hm x0 _
    cases m with
    | zero => omega
    | succ m =>
      rw [f_S_keyOf_82, if_neg (by omega)]
      exact ⟨x, rfl, ⟨x0, by rw [Int.pow_zero]; omega⟩, rfl⟩
  | succ n ih =>
    intro m x hn hm x0 hb
    cases m with
    | zero => omega
    | succ m =>
      have hP : (1 : Int) ≤ (4 : Int) ^ n := Int.pow_pos (by decide)
      rw [Int.pow_succ] at hb ⊢
      generalize hPe : (4 : Int) ^ n = P at hb hP ih ⊢
      have e4 : (x + 1) * (P * 4) = (4 * x + 4) * P := by
        rw [show 4 * x + 4 = (x + 1) * 4 by omega, Int.mul_assoc, Int.mul_comm 4 P]
      rw [e4] at hb ⊢
      have h1 : (4 * x + 4) * 1 ≤ (4 * x + 4) * P := Int.mul_le_mul_of_nonneg_left hP (by omega)
      obtain ⟨p, hp, e⟩ := t_kri h g m (r := 16 - ((n + 1 : Nat) : Int)) (by omega) (by omega) x0 (by omega)
      rw [e, show 16 - ((n + 1 : Nat) : Int) + 1 = 16 - (n : Int) by omega]
      have h2 : (4 * x + p + 1) * P ≤ (4 * x + 4) * P := Int.mul_le_mul_of_nonneg_right (by omega) (by omega)
      obtain ⟨key, e2, hk, hd⟩ := ih m (4 * x + p) (by omega) (by omega) (by omega) (by omega)
      refine ⟨key, e2, ⟨hk.1, by omega⟩, ?_⟩
      show kdv n (key / 4) = x
      rw [kdv_com, hd]
      omega
theorem t_key (h : tNW W H C w) (g : gIn W H) (hs : ∀ i, 0 ≤ i → i < 3 → SPo (W * H) (w 78 i)) : ∃ key, f_S_keyOf 37 w = some (key, w) ∧ KOK (W * H) key := by
  have hN := gN g
  have s0 := (hs 0 (by decide) (by decide)).in145 hN
  have s1 := (hs 1 (by decide) (by decide)).in145 hN
  have s2 := (hs 2 (by decide) (by decide)).in145 hN
  obtain ⟨p0, hp0, e0⟩ := t_kst h g hs 999999999 (i := 0) (x := 0) (by decide) (by decide) (by decide) (by decide)
  obtain ⟨p1, hp1, e1⟩ := t_kst h g hs 999999998 (i := 1) (x := 1024 * 0 + 4 * w 78 0 + p0) (by decide) (by decide) (by omega) (by omega)
  obtain ⟨p2, hp2, e2⟩ := t_kst h g hs 999999997 (i := 2) (x := 1024 * (1024 * 0 + 4 * w 78 0 + p0) + 4 * w 78 1 + p1) (by decide) (by decide) (by omega) (by omega)
  have e3 : ∀ x, f_S_keyOf_5 37 (999999996 + 1) x 3 w = f_S_keyOf_79 37 x w := fun x => by rw [f_S_keyOf_5, if_neg (by decide)]
  generalize hx : 1024 * (1024 * (1024 * 0 + 4 * w 78 0 + p0) + 4 * w 78 1 + p1) + 4 * w 78 2 + p2 = X at e2
  obtain ⟨key, e4, hk, hd⟩ := t_krs h g 16 qFU X (by decide) (by unfold qFU; decide) (by omega) (by rw [show (4 : Int) ^ 16 = 4294967296 by decide]; omega)
  rw [show (4 : Int) ^ 16 = 4294967296 by decide] at hk
  refine ⟨key, ?_, ⟨⟨hk.1, by omega⟩, ?_⟩⟩
  · have e5 : f_S_keyOf 37 w = f_S_keyOf_5 37 (999999999 + 1) 0 0 w := rfl
    rw [e5, e0, show (0 : Int) + 1 = 1 from rfl, show (999999999 : Nat) = 999999998 + 1 from rfl, e1, show (1 : Int) + 1 = 2 from rfl, show (999999998 : Nat) = 999999997 + 1 from rfl, e2, show (2 : Int) + 1 = 3 from rfl, show (999999997 : Nat) = 999999996 + 1 from rfl, e3]
    exact e4
  · intro i i0 i1
    have k0 : ksp key 0 = w 78 0 := by
      show kdv 16 key / 1024 / 1024 / 4 % 256 = w 78 0
      rw [hd]
      omega
    have k1 : ksp key 1 = w 78 1 := by
      show kdv 16 key / 1024 / 4 % 256 = w 78 1
      rw [hd]
      omega
    have k2 : ksp key 2 = w 78 2 := by
      show kdv 16 key / 4 % 256 = w 78 2
      rw [hd]
      omega
    rcases (by omega : i = 0 ∨ i = 1 ∨ i = 2) with rfl | rfl | rfl
    · rw [k0]; exact hs 0 i0 i1
    · rw [k1]; exact hs 1 i0 i1
    · rw [k2]; exact hs 2 i0 i1
theorem tTB.wr (h : tTB N C w) (hk : k ≠ 74 ∧ k ≠ 75 ∧ k ≠ 77 ∧ k ≠ 78) : tTB N C (qud w k i v) := by
  unfold tTB
  rw [qud_row (Ne.symm hk.1), qud_row (Ne.symm hk.2.1), qud_row (Ne.symm hk.2.2.1), qud_row (Ne.symm hk.2.2.2)]
  exact h
theorem tTB.w74 (h : tTB N C w) (hi : i = 8 ∨ i = 9) : tTB N C (qud w 74 i v) := by
  unfold tTB
  rw [qud_ni (show (6 : Int) ≠ i by omega), qud_ni (show (7 : Int) ≠ i by omega), qud_row (by decide), qud_row (by decide), qud_row (by decide)]
  exact h
theorem tTB.w78 (h : tTB N C w) (hv : SPo N v) : tTB N C (qud w 78 i v) := by
  unfold tTB
  rw [qud_row (by decide), qud_row (by decide), qud_row (by decide)]
  refine ⟨h.1, h.2.1, fun j a b => ?_⟩
  rw [qud_if]
  split
  · exact hv
  · exact h.2.2 j a b
theorem tMK.wr (hk : k ≠ 74 ∧ k ≠ 75 ∧ k ≠ 77) : tMK w (qud w k i v) := by
  unfold tMK
  rw [qud_row (Ne.symm hk.1), qud_row (Ne.symm hk.2.1), qud_row (Ne.symm hk.2.2)]
  exact ⟨rfl, Int.le_refl _, fun _ => rfl, fun _ _ _ => rfl⟩
theorem tMK.w74 (hi : i = 8 ∨ i = 9) : tMK w (qud w 74 i v) := by
  unfold tMK
  rw [qud_ni (show (6 : Int) ≠ i by omega), qud_ni (show (7 : Int) ≠ i by omega), qud_row (by decide), qud_row (by decide)]
  exact ⟨rfl, Int.le_refl _, fun _ => rfl, fun _ _ _ => rfl⟩
theorem tTW.wr (h : tTW W H C w0 w) (hk : k = 76 ∨ k = 79 ∨ k = 80) : tTW W H C w0 (qud w k i v) := ⟨h.1.wr (by omega), h.2.1.wr (by omega), h.2.2.wr (by omega)⟩
theorem tTW.w74 (h : tTW W H C w0 w) (hi : i = 8 ∨ i = 9) : tTW W H C w0 (qud w 74 i v) := ⟨h.1.wr (by omega), h.2.1.wr (by omega), h.2.2.w74 hi⟩
theorem tTW.w78 (h : tTW W H C w0 w) (hv : SPo (W * H) v) : tTW W H C w0 (qud w 78 i v) := ⟨h.1.wr (by omega), h.2.1.wr (by omega), h.2.2.w78 hv⟩
theorem t_reach (h : tTW W H C w0 w) (g : gIn W H) : kT (f_S_reach 37 x w) (fun w' => tTW W H C w0 w' ∧ tMK w w' ∧ w' 78 = w 78) := by
  obtain ⟨key, e, hk⟩ := t_key h.1 g h.2.2.2.2
  have h7 := h.2.2.2.1.1
  have h56 : kT (f_S_reach_56 37 x key w) (fun w' => tTW W H C w0 w' ∧ tMK w w' ∧ w' 78 = w 78) := by
    unfold f_S_reach_56
    refine kT_if (fun c => ?_) (fun _ => ?_)
    · refine kT_st h7.1 c ?_
      rw [qud_nk (show (74 : Nat) ≠ 75 by decide)]
      refine kT_st h7.1 c ?_
      rw [qlt_ok, qud_nk (show (74 : Nat) ≠ 76 by decide), qud_nk (show (74 : Nat) ≠ 75 by decide), w32_ok (by omega) (by omega)]
      refine kT_some ⟨⟨((h.1.wr (by decide)).wr (by decide)).wr (by decide), ((h.2.1.wr (by decide)).wr (by decide)).wr (by decide), ?_, ?_, ?_⟩, ⟨?_, ?_, fun i => ?_, fun s a b => ?_⟩, ?_⟩
      · rw [qud_ni (by decide), qud_row (by decide), qud_row (by decide), qud_row (by decide), qud_row (by decide), qud_row (by decide)]
        exact h.2.2.1
      · rw [qud_s, qud_row (k' := 75) (by decide), qud_row (k' := 75) (by decide)]
        refine ⟨by omega, fun s a b => ?_⟩
        rw [qud_if]
        split
        · exact hk
        · exact h.2.2.2.1.2 s a (by omega)
      · rw [qud_row (by decide), qud_row (by decide), qud_row (by decide)]
        exact h.2.2.2.2
      · rw [qud_ni (by decide), qud_row (by decide), qud_row (by decide)]
      · rw [qud_s]; omega
      · rw [qud_row (by decide), qud_row (by decide), qud_row (by decide)]
      · rw [qud_row (by decide), qud_row (by decide), qud_ni (by omega)]
      · rw [qud_row (by decide), qud_row (by decide), qud_row (by decide)]
    · rw [qlt_ok]
      exact kT_some ⟨h.w74 (by decide), tMK.w74 (by decide), qud_row (by decide)⟩
  have main : ∀ (m : Nat) (i : Int), 0 ≤ i → i ≤ w 74 7 → w 74 7 - i < m → kT (f_S_reach_9 37 m x key i w) (fun w' => tTW W H C w0 w' ∧ tMK w w' ∧ w' 78 = w 78) := by
    intro m
    induction m with
    | zero => intro i _ _ _; omega
    | succ m ih =>
      intro i i0 i1 hm
      rw [f_S_reach_9]
      refine kT_if (fun c => ?_) (fun _ => h56)
      rw [qld_ok i0 (by omega), w32_ok (z := i + 1) (by omega) (by omega)]
      refine kT_if (fun _ => ?_) (fun _ => ih (i + 1) (by omega) (by omega) (by omega))
      unfold f_S_reach_30
      rw [qld_ok i0 (by omega), qdv_ok (by decide)]
      refine kT_st i0 (by omega) ?_
      exact kT_some ⟨h.wr (by decide), tMK.wr (by decide), qud_row (by decide)⟩
  unfold f_S_reach
  refine kT_eq e ?_
  exact main qFU 0 (by omega) h7.1 (qFU_gt (by omega))
theorem t_close (h : tTW W H C w0 w) (g : gIn W H) (s0 : 0 ≤ s) (s1 : s < w 74 7) (i0 : 0 ≤ i) (i1 : i < 3) (hv : SPo (W * H) v) : kT (f_S_close 37 s i v w) (fun w' => tTW W H C w0 w' ∧ tMK w w' ∧ tSD (w 75 s) w') := by
  have h7 := h.2.2.2.1.1
  unfold f_S_close
  refine kT_st i0 i1 ?_
  rw [qlt_ok, qld_ok s0 (by omega)]
  refine kT_bind (t_reach ((h.w78 hv).w74 (by decide)) g) (fun w3 h3 => ?_)
  have m3 : tMK w w3 := (tMK.wr (by decide)).tr ((tMK.w74 (by decide)).tr h3.2.1)
  have e75 : w3 75 s = w 75 s := m3.2.2.2 s s0 s1
  rw [qld_ok s0 (by omega), e75]
  refine kT_bind (t_open h3.1 g (h.2.2.2.1.2 s s0 s1)) (fun w4 h4 => ?_)
  exact kT_some ⟨h4.1, m3.tr h4.2.1, h4.2.2⟩
end T3
