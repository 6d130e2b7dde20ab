/-! the class's grid -/
section GX
variable {o : Nat} {w : qMem} {W H v t d r i a b n : Int}
theorem g_sz (h : RG o w W H) : (w o 3 = W ∧ w o 4 = H) ∧ w o 5 = W * H ∧ w o 6 = 2 * (W + H) := ⟨h.1, h.2.1⟩
theorem g_hasNode (h : RG o w W H) : f_G_hasNode o v w = some (bi (decide (0 ≤ v ∧ v < W * H)), w) := by
  unfold f_G_hasNode
  rw [h.2.1.1]
  by_cases h0 : v < 0
  · rw [if_pos h0, decide_eq_false (by omega)]; rfl
  · rw [if_neg h0]
    by_cases h1 : v < W * H
    · rw [if_pos h1, decide_eq_true (by omega)]; rfl
    · rw [if_neg h1, decide_eq_false (by omega)]; rfl
theorem g_nextBy (h : RG o w W H) (g : gIn W H) (v0 : 0 ≤ v) (v1 : v < W * H) (d0 : 0 ≤ d) (d1 : d < 4) : f_G_nextBy o v d w = some (gn W H v d, w) := by
  have hN := gN g
  unfold f_G_nextBy
  simp (disch := omega) only [w32_ok]
  rw [qld_ok (by omega) (by omega), h.2.2.1 v d v0 v1 d0 d1]
theorem g_nearerBy (h : RG o w W H) (g : gIn W H) (v0 : 0 ≤ v) (v1 : v < W * H) (t0 : 0 ≤ t) (t1 : t < W * H) : f_G_nearerBy o v t w = some (gs W H v t, w) := by
  have hN := gN g
  unfold f_G_nearerBy
  simp (disch := omega) only [w32_ok]
  rw [qld_ok (by omega) (by omega), h.2.2.2.1 v t v0 v1 t0 t1]
theorem g_escapeBy (h : RG o w W H) (g : gIn W H) (v0 : 0 ≤ v) (v1 : v < W * H) (t0 : 0 ≤ t) (t1 : t < W * H) : f_G_escapeBy o v t w = some (ge W H v t, w) := by
  have hN := gN g
  unfold f_G_escapeBy
  simp (disch := omega) only [w32_ok]
  rw [qld_ok (by omega) (by omega), h.2.2.2.2 v t v0 v1 t0 t1]
theorem g_gap (a0 : 0 ≤ a) (a1 : a < 16) (b0 : 0 ≤ b) (b1 : b < 16) (n0 : 0 ≤ n) (n1 : n < 16) : f_G_gap a b n w = some (ga a b n, w) := by
  unfold f_G_gap
  refine congrArg (fun z => some (z, w)) ?_
  rw [w32_ok (z := a - b) (by omega) (by omega)]
  have e : (if 0 ≤ a - b then a - b else w32 (0 - (a - b))) = gab a b := by
    unfold gab
    by_cases h : a < b
    · rw [if_neg (by omega), if_pos h, w32_ok (by omega) (by omega)]; omega
    · rw [if_pos (by omega), if_neg h]
  have e2 : 0 ≤ gab a b ∧ gab a b < 16 := by
    unfold gab
    by_cases h : a < b
    · rw [if_pos h]; omega
    · rw [if_neg h]; omega
  rw [e]
  unfold ga
  rw [w32_ok (by omega) (by omega)]
  by_cases h2 : gab a b < n - gab a b
  · rw [if_pos h2, if_neg (by omega)]
  · rw [if_neg h2]
    by_cases h3 : n - gab a b < gab a b
    · rw [if_pos h3]
    · rw [if_neg h3]; omega
theorem g_distance (h : (w o 3 = W ∧ w o 4 = H)) (g : gIn W H) (v0 : 0 ≤ v) (v1 : v < W * H) (t0 : 0 ≤ t) (t1 : t < W * H) : f_G_distance o v t w = some (gf W H v t, w) := by
  have hN := gN g
  unfold f_G_distance gf
  obtain ⟨⟨x, y⟩, z, u⟩ := g
  have hb : ∀ p q k, ga p q k ≤ gab p q := fun p q k => by unfold ga; split <;> omega
  have hz : ∀ p q k, k - gab p q ≤ k → gab p q ≤ k → 0 ≤ ga p q k := fun p q k _ _ => by unfold ga; split <;> omega
  have hg : ∀ p q k, 0 ≤ p → p < k → 0 ≤ q → q < k → k ≤ 8 → 0 ≤ ga p q k ∧ ga p q k ≤ 8 := fun p q k _ _ _ _ _ => by
    unfold ga gab
    by_cases e : p < q
    · rw [if_pos e]; split <;> omega
    · rw [if_neg e]; split <;> omega
  rw [h.1, qdv_ok (by omega), qdv_ok (by omega)]
  rw [jrem_ok v0 (by omega) (by omega) (by omega), jrem_ok t0 (by omega) (by omega) (by omega)]
  have m1 := Int.emod_nonneg v (b := W) (by omega)
  have m2 := Int.emod_lt_of_pos v (b := W) (by omega)
  have m3 := Int.emod_nonneg t (b := W) (by omega)
  have m4 := Int.emod_lt_of_pos t (b := W) (by omega)
  have q1 : 0 ≤ v / W := Int.ediv_nonneg v0 (by omega)
  have q2 : v / W < H := Int.ediv_lt_of_lt_mul (by omega) (by rw [Int.mul_comm]; exact v1)
  have q3 : 0 ≤ t / W := Int.ediv_nonneg t0 (by omega)
  have q4 : t / W < H := Int.ediv_lt_of_lt_mul (by omega) (by rw [Int.mul_comm]; exact t1)
  rw [g_gap m1 (by omega) m3 (by omega) (by omega) (by omega)]
  simp only [Option.bind_some]
  rw [h.1, h.2, qdv_ok (by omega), qdv_ok (by omega), jdiv_ok v0 (by omega) (by omega) (by omega), jdiv_ok t0 (by omega) (by omega) (by omega), g_gap q1 (by omega) q3 (by omega) (by omega) (by omega)]
  simp only [Option.bind_some]
  have e1 := hg (v % W) (t % W) W m1 m2 m3 m4 (by omega)
  have e2 := hg (v / W) (t / W) H q1 q2 q3 q4 (by omega)
  rw [w32_ok (by omega) (by omega)]
theorem g_step (h : (w o 3 = W ∧ w o 4 = H)) (g : gIn W H) (v0 : 0 ≤ v) (v1 : v < W * H) (d0 : 0 ≤ d) (d1 : d < 4) : f_G_step o v d w = some (gn W H v d, w) := by
  have hN := gN g
  unfold f_G_step
  rw [h.1, h.2]
  obtain ⟨⟨x, y⟩, z, u⟩ := g
  rcases (by omega : W = 2 ∨ W = 3 ∨ W = 4) with rfl | rfl | rfl <;> rcases (by omega : H = 2 ∨ H = 3 ∨ H = 4) with rfl | rfl | rfl <;> rcases (by omega : d = 0 ∨ d = 1 ∨ d = 2 ∨ d = 3) with rfl | rfl | rfl | rfl <;> (
    simp (disch := omega) only [qdv_ok, jdiv_ok, jrem_ok, w32_ok, gn]
    refine congrArg (fun z => some (z, w)) ?_
    simp only [Int.reduceEq, reduceIte]
    omega)
theorem g_ringIndex (h : (w o 3 = W ∧ w o 4 = H)) (g : gIn W H) (v0 : 0 ≤ v) (v1 : v < W * H) (d0 : 0 ≤ d) (d1 : d < 4) : f_G_ringIndex o v d w = some (gr W H v d, w) := by
  have hN := gN g
  unfold f_G_ringIndex
  rw [h.1, h.2]
  obtain ⟨⟨x, y⟩, z, u⟩ := g
  have m1 := Int.emod_nonneg v (b := W) (by omega)
  have m2 := Int.emod_lt_of_pos v (b := W) (by omega)
  have q1 : 0 ≤ v / W := Int.ediv_nonneg v0 (by omega)
  have q2 : v / W < H := Int.ediv_lt_of_lt_mul (by omega) (by rw [Int.mul_comm]; exact v1)
  simp (disch := omega) only [qdv_ok, jdiv_ok, jrem_ok, w32_ok, gr]
  by_cases h0 : d = 0
  · rw [if_pos h0, if_pos h0]
  · rw [if_neg h0, if_neg h0]
    by_cases h1 : d = 1
    · rw [if_pos h1, if_pos h1]
    · rw [if_neg h1, if_neg h1]
      by_cases h2 : d = 2
      · rw [if_pos h2, if_pos h2]
      · rw [if_neg h2, if_neg h2]
theorem g_ringDirection (h : (w o 3 = W ∧ w o 4 = H)) (g : gIn W H) : f_G_ringDirection o r w = some (gd W H r, w) := by
  unfold f_G_ringDirection gd
  rw [h.1, h.2]
  obtain ⟨⟨x, y⟩, z, u⟩ := g
  simp (disch := omega) only [w32_ok]
  by_cases h0 : r < H
  · rw [if_pos (by omega), if_pos h0, if_pos h0]
  · rw [if_neg h0, if_neg h0]
    by_cases h1 : r < 2 * H
    · rw [if_pos h1, if_pos h1]
    · rw [if_neg h1, if_neg h1]
      by_cases h2 : r < 2 * H + W
      · rw [if_pos h2, if_pos h2]
      · rw [if_neg h2, if_neg h2]
theorem g_ringLength (h : (w o 3 = W ∧ w o 4 = H)) (g : gIn W H) : f_G_ringLength o r w = some (gl W H r, w) := by
  unfold f_G_ringLength gl
  rw [h.1, h.2]
  obtain ⟨⟨x, y⟩, z, u⟩ := g
  simp (disch := omega) only [w32_ok]
  by_cases h1 : r < 2 * H
  · rw [if_pos h1, if_pos h1]
  · rw [if_neg h1, if_neg h1]
theorem g_ringNode (h : (w o 3 = W ∧ w o 4 = H)) (g : gIn W H) (r0 : 0 ≤ r) (r1 : r < 2 * (W + H)) (i0 : 0 ≤ i) (i1 : i < 4) : f_G_ringNode o r i w = some (gq W H r i, w) := by
  unfold f_G_ringNode gq f_G_ringNode_28 f_G_ringNode_69
  rw [h.1, h.2]
  obtain ⟨⟨x, y⟩, z, u⟩ := g
  have hm : ∀ p k : Int, 0 ≤ p → p < 4 → 2 ≤ k → k ≤ 4 → 0 ≤ p * k ∧ p * k ≤ 16 := fun p k p0 p1 k0 k1 => by
    rcases (by omega : k = 2 ∨ k = 3 ∨ k = 4) with rfl | rfl | rfl <;> omega
  rw [w32_ok (z := 2 * H) (by omega) (by omega)]
  by_cases h1 : r < 2 * H
  · rw [if_pos h1]
    by_cases h0 : r < H
    · have := hm r W r0 (by omega) x y
      rw [if_pos h0, if_pos h0, w32_ok (z := r * W) (by omega) (by omega), w32_ok (by omega) (by omega)]
    · have := hm (r - H) W (by omega) (by omega) x y
      rw [if_neg h0, if_neg h0, if_pos h1, w32_ok (z := r - H) (by omega) (by omega), w32_ok (z := (r - H) * W) (by omega) (by omega), w32_ok (by omega) (by omega)]
  · have := hm i W i0 i1 x y
    rw [if_neg h1, if_neg (show ¬ r < H by omega), if_neg h1, w32_ok (z := r - 2 * H) (by omega) (by omega), w32_ok (z := i * W) (by omega) (by omega)]
    by_cases h0 : r < 2 * H + W
    · rw [if_pos (by omega), if_pos h0, w32_ok (by omega) (by omega)]
    · rw [if_neg (by omega), if_neg h0, w32_ok (z := r - 2 * H - W) (by omega) (by omega), w32_ok (by omega) (by omega)]
end GX
