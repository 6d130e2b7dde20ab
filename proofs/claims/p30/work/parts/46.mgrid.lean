/-! the reference's grid -/
section MG
variable {w : qMem} {W H v t d r a b n : Int}
theorem gab_in (a0 : 0 ≤ a) (a1 : a < n) (b0 : 0 ≤ b) (b1 : b < n) : 0 ≤ gab a b ∧ gab a b < n := by
  unfold gab
  split <;> omega
theorem ga_in (a0 : 0 ≤ a) (a1 : a < n) (b0 : 0 ≤ b) (b1 : b < n) : 0 ≤ ga a b n ∧ ga a b n < n + 1 := by
  have := gab_in a0 a1 b0 b1
  unfold ga
  split <;> omega
theorem mg_apart (a0 : 0 ≤ a) (a1 : a < n) (b0 : 0 ≤ b) (b1 : b < n) (hn : n ≤ 8) : f_M_apart a b n w = some (ga a b n, w) := by
  have h := gab_in a0 a1 b0 b1
  have e14 : f_M_apart_14 (gab a b) n w = some (ga a b n, w) := by
    unfold f_M_apart_14 ga
    rw [w32_ok (by omega) (by omega)]
    by_cases e : gab a b < n - gab a b
    · rw [if_pos e, if_pos e]
    · rw [if_neg e, if_neg e]
  unfold f_M_apart
  unfold gab at e14
  by_cases e : a < b
  · rw [if_pos e, w32_ok (by omega) (by omega)]
    rw [if_pos e] at e14
    exact e14
  · rw [if_neg e, w32_ok (by omega) (by omega)]
    rw [if_neg e] at e14
    exact e14
theorem g_dm (g : gIn W H) (v0 : 0 ≤ v) (v1 : v < W * H) : (0 ≤ v % W ∧ v % W < W) ∧ 0 ≤ v / W ∧ v / W < H := by
  obtain ⟨⟨x, y⟩, z, u⟩ := g
  exact ⟨⟨Int.emod_nonneg v (by omega), Int.emod_lt_of_pos v (by omega)⟩, Int.ediv_nonneg v0 (by omega), Int.ediv_lt_of_lt_mul (by omega) (by rw [Int.mul_comm]; exact v1)⟩
theorem mg_farOf (h : w 89 0 = W ∧ w 89 1 = H) (g : gIn W H) (v0 : 0 ≤ v) (v1 : v < W * H) (t0 : 0 ≤ t) (t1 : t < W * H) : f_M_farOf v t w = some (gf W H v t, w) := by
  have hN := gN g
  have a := g_dm g v0 v1
  have b := g_dm g t0 t1
  have f1 := ga_in a.1.1 a.1.2 b.1.1 b.1.2
  have f2 := ga_in a.2.1 a.2.2 b.2.1 b.2.2
  obtain ⟨⟨x, y⟩, z, u⟩ := g
  unfold f_M_farOf gf
  simp (disch := decide) only [qld_ok]
  rw [h.1, qdv_ok (by omega), qdv_ok (by omega), jrem_ok v0 (by omega) (by omega) (by omega), jrem_ok t0 (by omega) (by omega) (by omega), mg_apart a.1.1 a.1.2 b.1.1 b.1.2 (by omega)]
  simp only [Option.bind_some]
  rw [h.1, h.2, qdv_ok (by omega), qdv_ok (by omega), jdiv_ok v0 (by omega) (by omega) (by omega), jdiv_ok t0 (by omega) (by omega) (by omega), mg_apart a.2.1 a.2.2 b.2.1 b.2.2 (by omega)]
  simp only [Option.bind_some]
  rw [w32_ok (by omega) (by omega)]
theorem mg_nextOf (h : w 89 0 = W ∧ w 89 1 = H) (g : gIn W H) (v0 : 0 ≤ v) (v1 : v < W * H) (d0 : 0 ≤ d) (d1 : d < 4) : f_M_nextOf v d w = some (gn W H v d, w) := by
  have hN := gN g
  unfold f_M_nextOf
  simp (disch := decide) only [qld_ok]
  rw [h.1, h.2]
  obtain ⟨⟨x, y⟩, z, u⟩ := g
  rcases (by omega : W = 2 ∨ W = 3 ∨ W = 4) with rfl | rfl | rfl <;> rcases (by omega : H = 2 ∨ H = 3 ∨ H = 4) with rfl | rfl | rfl <;> rcases (by omega : d = 0 ∨ d = 1 ∨ d = 2 ∨ d = 3) with rfl | rfl | rfl | rfl <;> (
    simp (disch := omega) only [qdv_ok, jdiv_ok, jrem_ok, w32_ok, gn]
    refine congrArg (fun z => some (z, w)) ?_
    simp only [Int.reduceEq, reduceIte])
theorem mg_isProfitable (h : w 89 0 = W ∧ w 89 1 = H) (g : gIn W H) (v0 : 0 ≤ v) (v1 : v < W * H) (t0 : 0 ≤ t) (t1 : t < W * H) (d0 : 0 ≤ d) (d1 : d < 4) : f_M_isProfitable v t d w = some (bi (gp W H v t d), w) := by
  have hn := gn_in g v0 v1 d0 d1
  unfold f_M_isProfitable gp
  rw [mg_nextOf h g v0 v1 d0 d1]
  simp only [Option.bind_some]
  rw [mg_farOf h g hn.1 hn.2 t0 t1]
  simp only [Option.bind_some]
  rw [mg_farOf h g v0 v1 t0 t1]
  simp only [Option.bind_some]
  by_cases e : gf W H (gn W H v d) t < gf W H v t
  · rw [if_pos e, decide_eq_true e]; rfl
  · rw [if_neg e, decide_eq_false e]; rfl
theorem mg_escapeOf (h : w 89 0 = W ∧ w 89 1 = H) (g : gIn W H) (v0 : 0 ≤ v) (v1 : v < W * H) (t0 : 0 ≤ t) (t1 : t < W * H) : f_M_escapeOf v t w = some (ge W H v t, w) := by
  have step : ∀ (m : Nat) (d : Int), 0 ≤ d → d < 4 → f_M_escapeOf_2 (m + 1) v t d w = if gp W H v t d = true then some (d, w) else f_M_escapeOf_2 m v t (d + 1) w := by
    intro m d d0 d1
    rw [f_M_escapeOf_2, if_pos d1, mg_isProfitable h g v0 v1 t0 t1 d0 d1]
    simp only [Option.bind_some]
    rw [w32_ok (by omega) (by omega)]
    cases gp W H v t d with
    | true => rw [if_bt, if_pos rfl]
    | false => rw [if_bf, if_neg (by decide)]
  have stop : ∀ m : Nat, f_M_escapeOf_2 (m + 1) v t 4 w = some (-1, w) := by
    intro m
    rw [f_M_escapeOf_2, if_neg (by decide)]
  unfold f_M_escapeOf ge
  rw [show qFU = 999999995 + 1 + 1 + 1 + 1 + 1 from rfl, step _ 0 (by omega) (by omega), show (0 : Int) + 1 = 1 from rfl, step _ 1 (by omega) (by omega), show (1 : Int) + 1 = 2 from rfl, step _ 2 (by omega) (by omega), show (2 : Int) + 1 = 3 from rfl, step _ 3 (by omega) (by omega), show (3 : Int) + 1 = 4 from rfl, stop]
  by_cases e0 : gp W H v t 0 = true
  · rw [if_pos e0, if_pos e0]
  · rw [if_neg e0, if_neg e0]
    by_cases e1 : gp W H v t 1 = true
    · rw [if_pos e1, if_pos e1]
    · rw [if_neg e1, if_neg e1]
      by_cases e2 : gp W H v t 2 = true
      · rw [if_pos e2, if_pos e2]
      · rw [if_neg e2, if_neg e2]
        by_cases e3 : gp W H v t 3 = true
        · rw [if_pos e3, if_pos e3]
        · rw [if_neg e3, if_neg e3]
theorem mg_ringFor (h : w 89 0 = W ∧ w 89 1 = H) (g : gIn W H) (v0 : 0 ≤ v) (v1 : v < W * H) (d0 : 0 ≤ d) (d1 : d < 4) : f_M_ringFor v d w = some (gr W H v d, w) := by
  have hN := gN g
  have a := g_dm g v0 v1
  obtain ⟨⟨x, y⟩, z, u⟩ := g
  unfold f_M_ringFor
  simp (disch := decide) only [qld_ok]
  rw [h.1, h.2]
  rcases (by omega : d = 0 ∨ d = 1 ∨ d = 2 ∨ d = 3) with rfl | rfl | rfl | rfl
  · rw [if_pos (by decide), qdv_ok (by omega), jdiv_ok v0 (by omega) (by omega) (by omega), w32_ok (z := 0 * H) (by omega) (by omega), w32_ok (by omega) (by omega)]
    refine congrArg (fun z => some (z, w)) ?_
    unfold gr
    rw [if_pos rfl]; omega
  · rw [if_pos (by decide), qdv_ok (by omega), jdiv_ok v0 (by omega) (by omega) (by omega), w32_ok (z := 1 * H) (by omega) (by omega), w32_ok (by omega) (by omega)]
    refine congrArg (fun z => some (z, w)) ?_
    unfold gr
    rw [if_neg (by decide), if_pos rfl]; omega
  · rw [if_neg (by decide), qdv_ok (by omega), jrem_ok v0 (by omega) (by omega) (by omega), w32_ok (z := 2 - 2) (by omega) (by omega), w32_ok (z := (2 - 2) * W) (by omega) (by omega), w32_ok (z := 2 * H) (by omega) (by omega), w32_ok (z := 2 * H + (2 - 2) * W) (by omega) (by omega), w32_ok (by omega) (by omega)]
    refine congrArg (fun z => some (z, w)) ?_
    unfold gr
    rw [if_neg (by decide), if_neg (by decide), if_pos rfl]; omega
  · rw [if_neg (by decide), qdv_ok (by omega), jrem_ok v0 (by omega) (by omega) (by omega), w32_ok (z := 3 - 2) (by omega) (by omega), w32_ok (z := (3 - 2) * W) (by omega) (by omega), w32_ok (z := 2 * H) (by omega) (by omega), w32_ok (z := 2 * H + (3 - 2) * W) (by omega) (by omega), w32_ok (by omega) (by omega)]
    refine congrArg (fun z => some (z, w)) ?_
    unfold gr
    rw [if_neg (by decide), if_neg (by decide), if_neg (by decide)]; omega
theorem mg_directionOf (h : w 89 0 = W ∧ w 89 1 = H) (g : gIn W H) (r0 : 0 ≤ r) (r1 : r < 2 * (W + H)) : f_M_directionOf r w = some (gd W H r, w) := by
  unfold f_M_directionOf
  simp (disch := decide) only [qld_ok]
  rw [h.1, h.2]
  obtain ⟨⟨x, y⟩, z, u⟩ := g
  rw [qdv_ok (by omega), qdv_ok (by omega), w32_ok (z := 2 * H) (by omega) (by omega)]
  unfold gd
  by_cases e : r < 2 * H
  · rw [if_pos e, jdiv_ok r0 (by omega) (by omega) (by omega)]
    refine congrArg (fun z => some (z, w)) ?_
    rcases (by omega : H = 2 ∨ H = 3 ∨ H = 4) with rfl | rfl | rfl <;> (split <;> omega)
  · rw [if_neg e, w32_ok (z := r - 2 * H) (by omega) (by omega), jdiv_ok (by omega) (by omega) (by omega) (by omega)]
    rcases (by omega : W = 2 ∨ W = 3 ∨ W = 4) with rfl | rfl | rfl <;> (
      rw [w32_ok (by omega) (by omega)]
      refine congrArg (fun z => some (z, w)) ?_
      rw [if_neg (by omega), if_neg e]
      split <;> omega)
theorem mg_longOf (h : w 89 0 = W ∧ w 89 1 = H) (g : gIn W H) (r0 : 0 ≤ r) (r1 : r < 2 * (W + H)) : f_M_longOf r w = some (gl W H r, w) := by
  unfold f_M_longOf
  rw [mg_directionOf h g r0 r1]
  simp only [Option.bind_some]
  simp (disch := decide) only [qld_ok]
  rw [h.1, h.2]
  unfold gd gl
  obtain ⟨⟨x, y⟩, z, u⟩ := g
  by_cases e : r < 2 * H
  · rw [if_pos e]
    by_cases e2 : r < H
    · rw [if_pos e2, if_pos (by decide), if_pos e]
    · rw [if_neg e2, if_pos e, if_pos (by decide)]
  · rw [if_neg (show ¬ r < H by omega), if_neg e]
    by_cases e2 : r < 2 * H + W
    · rw [if_pos e2, if_neg (by decide), if_neg e]
    · rw [if_neg e2, if_neg (by decide), if_neg e]
theorem mg_leastNode (h : w 89 0 = W ∧ w 89 1 = H) (g : gIn W H) (r0 : 0 ≤ r) (r1 : r < 2 * (W + H)) : f_M_leastNode r w = some (gq W H r 0, w) := by
  unfold f_M_leastNode
  rw [mg_directionOf h g r0 r1]
  simp only [Option.bind_some]
  simp (disch := decide) only [qld_ok]
  rw [h.1, h.2]
  unfold gd gq
  obtain ⟨⟨x, y⟩, z, u⟩ := g
  rw [qdv_ok (by omega), qdv_ok (by omega), w32_ok (z := 2 * H) (by omega) (by omega), w32_ok (z := r - 2 * H) (by omega) (by omega)]
  rcases (by omega : W = 2 ∨ W = 3 ∨ W = 4) with rfl | rfl | rfl <;> rcases (by omega : H = 2 ∨ H = 3 ∨ H = 4) with rfl | rfl | rfl <;> (
    split
    · rw [if_pos (by decide), jrem_ok (by omega) (by omega) (by omega) (by omega), w32_ok (by omega) (by omega)]
      refine congrArg (fun z => some (z, w)) ?_
      omega
    · split
      · rw [if_pos (by decide), jrem_ok (by omega) (by omega) (by omega) (by omega), w32_ok (by omega) (by omega)]
        refine congrArg (fun z => some (z, w)) ?_
        omega
      · split
        · rw [if_neg (by decide), jrem_ok (by omega) (by omega) (by omega) (by omega)]
          refine congrArg (fun z => some (z, w)) ?_
          omega
        · rw [if_neg (by decide), jrem_ok (by omega) (by omega) (by omega) (by omega)]
          refine congrArg (fun z => some (z, w)) ?_
          omega)
theorem mg_nodes (h : w 89 0 = W ∧ w 89 1 = H) (g : gIn W H) : f_M_nodes w = some (W * H, w) := by
  have hN := gN g
  unfold f_M_nodes
  simp (disch := decide) only [qld_ok]
  rw [h.1, h.2, w32_ok (by omega) (by omega)]
theorem mg_rings (h : w 89 0 = W ∧ w 89 1 = H) (g : gIn W H) : f_M_rings w = some (2 * (W + H), w) := by
  unfold f_M_rings
  simp (disch := decide) only [qld_ok]
  rw [h.1, h.2]
  obtain ⟨⟨x, y⟩, z, u⟩ := g
  rw [w32_ok (z := 2 * H) (by omega) (by omega), w32_ok (z := 2 * W) (by omega) (by omega), w32_ok (by omega) (by omega)]
  refine congrArg (fun z => some (z, w)) ?_
  omega
end MG
theorem m_isIn {w : qMem} {a b c : Int} : f_M_isIn a b c w = some (bi (decide (b ≤ a ∧ a ≤ c)), w) := by
  unfold f_M_isIn
  by_cases h : a < b
  · rw [if_pos h, decide_eq_false (by omega)]; rfl
  · rw [if_neg h]
    by_cases h2 : a ≤ c
    · rw [if_pos h2, decide_eq_true (by omega)]; rfl
    · rw [if_neg h2, decide_eq_false (by omega)]; rfl
theorem mg_isNode {w : qMem} {W H v : Int} (h : w 89 0 = W ∧ w 89 1 = H) (g : gIn W H) : f_M_isNode v w = some (bi (decide (0 ≤ v ∧ v < W * H)), w) := by
  have hN := gN g
  unfold f_M_isNode
  rw [mg_nodes h g]
  simp only [Option.bind_some]
  rw [w32_ok (by omega) (by omega), m_isIn]
  simp only [Option.bind_some]
  refine congrArg (fun z => some (bi z, w)) ?_
  rw [decide_eq_decide]
  omega
