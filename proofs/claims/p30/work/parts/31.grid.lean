/-! the torus: numbers of nodes, ways, rings -/
def gn (W H v d : Int) : Int := if d = 0 then W * (v / W) + (v % W + 1) % W else if d = 1 then W * (v / W) + (v % W + W - 1) % W else if d = 2 then W * ((v / W + 1) % H) + v % W else W * ((v / W + H - 1) % H) + v % W
def gab (a b : Int) : Int := if a < b then b - a else a - b
def ga (a b n : Int) : Int := if gab a b < n - gab a b then gab a b else n - gab a b
def gf (W H v t : Int) : Int := ga (v % W) (t % W) W + ga (v / W) (t / W) H
def gp (W H v t d : Int) : Bool := decide (gf W H (gn W H v d) t < gf W H v t)
def ge (W H v t : Int) : Int := if gp W H v t 0 = true then 0 else if gp W H v t 1 = true then 1 else if gp W H v t 2 = true then 2 else if gp W H v t 3 = true then 3 else -1
def gs (W H v t : Int) : Int := bi (gp W H v t 0) + 2 * bi (gp W H v t 1) + 4 * bi (gp W H v t 2) + 8 * bi (gp W H v t 3)
def gr (W H v d : Int) : Int := if d = 0 then v / W else if d = 1 then H + v / W else if d = 2 then 2 * H + v % W else 2 * H + W + v % W
def gd (W H r : Int) : Int := if r < H then 0 else if r < 2 * H then 1 else if r < 2 * H + W then 2 else 3
def gl (W H r : Int) : Int := if r < 2 * H then W else H
def gq (W H r i : Int) : Int := if r < H then r * W + i else if r < 2 * H then (r - H) * W + i else if r < 2 * H + W then i * W + (r - 2 * H) else i * W + (r - 2 * H - W)
def g16 : List Int := [0, 1, 2, 3, 4, 5, 6, 7, 8, 9, 10, 11, 12, 13, 14, 15]
theorem g16_m {v : Int} (h0 : 0 ≤ v) (h1 : v < 16) : v ∈ g16 := by
  unfold g16
  simp only [List.mem_cons, List.not_mem_nil, or_false]
  omega
theorem g234_m {v : Int} (h0 : 2 ≤ v) (h1 : v ≤ 4) : v ∈ ([2, 3, 4] : List Int) := by
  simp only [List.mem_cons, List.not_mem_nil, or_false]
  omega
theorem g4_m {v : Int} (h0 : 0 ≤ v) (h1 : v < 4) : v ∈ ([0, 1, 2, 3] : List Int) := by
  simp only [List.mem_cons, List.not_mem_nil, or_false]
  omega
def gIn (W H : Int) : Prop := (2 ≤ W ∧ W ≤ 4) ∧ 2 ≤ H ∧ H ≤ 4
def gck5 (P : Int → Int → Int → Int → Int → Bool) : Bool := [2, 3, 4].all fun W => [2, 3, 4].all fun H => g16.all fun v => g16.all fun t => [0, 1, 2, 3].all fun d => (decide (W * H ≤ v) || decide (W * H ≤ t)) || P W H v t d
def gck4 (P : Int → Int → Int → Int → Bool) : Bool := [2, 3, 4].all fun W => [2, 3, 4].all fun H => g16.all fun v => g16.all fun t => (decide (W * H ≤ v) || decide (W * H ≤ t)) || P W H v t
def gck3 (P : Int → Int → Int → Int → Bool) : Bool := [2, 3, 4].all fun W => [2, 3, 4].all fun H => g16.all fun v => [0, 1, 2, 3].all fun d => decide (W * H ≤ v) || P W H v d
def gckr (P : Int → Int → Int → Int → Bool) : Bool := [2, 3, 4].all fun W => [2, 3, 4].all fun H => g16.all fun r => [0, 1, 2, 3].all fun i => (decide (2 * (W + H) ≤ r) || decide (gl W H r ≤ i)) || P W H r i
theorem gN {W H : Int} (h : gIn W H) : 4 ≤ W * H ∧ W * H ≤ 16 := by
  obtain ⟨⟨a, b⟩, c, d⟩ := h
  rcases (by omega : W = 2 ∨ W = 3 ∨ W = 4) with rfl | rfl | rfl <;> omega
theorem gck5_of {P : Int → Int → Int → Int → Int → Bool} (h : gck5 P = true) {W H v t d : Int} (g : gIn W H) (v0 : 0 ≤ v) (v1 : v < W * H) (t0 : 0 ≤ t) (t1 : t < W * H) (d0 : 0 ≤ d) (d1 : d < 4) : P W H v t d = true := by
  have hN := gN g
  have := List.all_eq_true.mp (List.all_eq_true.mp (List.all_eq_true.mp (List.all_eq_true.mp (List.all_eq_true.mp h W (g234_m g.1.1 g.1.2)) H (g234_m g.2.1 g.2.2)) v (g16_m v0 (by omega))) t (g16_m t0 (by omega))) d (g4_m d0 d1)
  simp only [Bool.or_eq_true, decide_eq_true_eq] at this
  rcases this with (q | q) | q
  · omega
  · omega
  · exact q
theorem gck4_of {P : Int → Int → Int → Int → Bool} (h : gck4 P = true) {W H v t : Int} (g : gIn W H) (v0 : 0 ≤ v) (v1 : v < W * H) (t0 : 0 ≤ t) (t1 : t < W * H) : P W H v t = true := by
  have hN := gN g
  have := List.all_eq_true.mp (List.all_eq_true.mp (List.all_eq_true.mp (List.all_eq_true.mp h W (g234_m g.1.1 g.1.2)) H (g234_m g.2.1 g.2.2)) v (g16_m v0 (by omega))) t (g16_m t0 (by omega))
  simp only [Bool.or_eq_true, decide_eq_true_eq] at this
  rcases this with (q | q) | q
  · omega
  · omega
  · exact q
theorem gck3_of {P : Int → Int → Int → Int → Bool} (h : gck3 P = true) {W H v d : Int} (g : gIn W H) (v0 : 0 ≤ v) (v1 : v < W * H) (d0 : 0 ≤ d) (d1 : d < 4) : P W H v d = true := by
  have hN := gN g
  have := List.all_eq_true.mp (List.all_eq_true.mp (List.all_eq_true.mp (List.all_eq_true.mp h W (g234_m g.1.1 g.1.2)) H (g234_m g.2.1 g.2.2)) v (g16_m v0 (by omega))) d (g4_m d0 d1)
  simp only [Bool.or_eq_true, decide_eq_true_eq] at this
  rcases this with q | q
  · omega
  · exact q
theorem gckr_of {P : Int → Int → Int → Int → Bool} (h : gckr P = true) {W H r i : Int} (g : gIn W H) (r0 : 0 ≤ r) (r1 : r < 2 * (W + H)) (i0 : 0 ≤ i) (i1 : i < gl W H r) : P W H r i = true := by
  have hl : gl W H r ≤ 4 := by
    have := g.1.2
    have := g.2.2
    unfold gl
    split <;> omega
  have := g.1.2
  have := g.2.2
  have := List.all_eq_true.mp (List.all_eq_true.mp (List.all_eq_true.mp (List.all_eq_true.mp h W (g234_m g.1.1 g.1.2)) H (g234_m g.2.1 g.2.2)) r (g16_m r0 (by omega))) i (g4_m i0 (by omega))
  simp only [Bool.or_eq_true, decide_eq_true_eq] at this
  rcases this with (q | q) | q
  · omega
  · omega
  · exact q
section GF
variable {W H v t d r i : Int}
theorem gn_in (g : gIn W H) (v0 : 0 ≤ v) (v1 : v < W * H) (d0 : 0 ≤ d) (d1 : d < 4) : 0 ≤ gn W H v d ∧ gn W H v d < W * H := by
  have := gck3_of (P := fun W H v d => decide (0 ≤ gn W H v d ∧ gn W H v d < W * H)) (by decide +kernel) g v0 v1 d0 d1
  exact of_decide_eq_true this
theorem gf_in (g : gIn W H) (v0 : 0 ≤ v) (v1 : v < W * H) (t0 : 0 ≤ t) (t1 : t < W * H) : 0 ≤ gf W H v t ∧ gf W H v t ≤ 4 := by
  have := gck4_of (P := fun W H v t => decide (0 ≤ gf W H v t ∧ gf W H v t ≤ 4)) (by decide +kernel) g v0 v1 t0 t1
  exact of_decide_eq_true this
theorem gp_far (g : gIn W H) (v0 : 0 ≤ v) (v1 : v < W * H) (t0 : 0 ≤ t) (t1 : t < W * H) (d0 : 0 ≤ d) (d1 : d < 4) (h : gp W H v t d = true) : gf W H (gn W H v d) t = gf W H v t - 1 := by
  have := gck5_of (P := fun W H v t d => !gp W H v t d || decide (gf W H (gn W H v d) t = gf W H v t - 1)) (by decide +kernel) g v0 v1 t0 t1 d0 d1
  simp only [h, Bool.not_true, Bool.false_or] at this
  exact of_decide_eq_true this
theorem ge_in : -1 ≤ ge W H v t ∧ ge W H v t < 4 := by
  unfold ge
  split
  · omega
  · split
    · omega
    · split
      · omega
      · split <;> omega
theorem ge_gp (h : ge W H v t = d) (hd : d ≠ -1) : gp W H v t d = true := by
  subst h
  unfold ge at hd ⊢
  split
  · assumption
  · rename_i h0
    rw [if_neg h0] at hd
    split
    · assumption
    · rename_i h1
      rw [if_neg h1] at hd
      split
      · assumption
      · rename_i h2
        rw [if_neg h2] at hd
        split
        · assumption
        · rename_i h3
          rw [if_neg h3] at hd
          exact absurd rfl hd
theorem ge_ne (g : gIn W H) (v0 : 0 ≤ v) (v1 : v < W * H) (t0 : 0 ≤ t) (t1 : t < W * H) : ge W H v t = -1 ↔ v = t := by
  have := gck4_of (P := fun W H v t => decide (ge W H v t = -1 ↔ v = t)) (by decide +kernel) g v0 v1 t0 t1
  exact of_decide_eq_true this
theorem gf_0 (g : gIn W H) (v0 : 0 ≤ v) (v1 : v < W * H) (t0 : 0 ≤ t) (t1 : t < W * H) : gf W H v t = 0 ↔ v = t := by
  have := gck4_of (P := fun W H v t => decide (gf W H v t = 0 ↔ v = t)) (by decide +kernel) g v0 v1 t0 t1
  exact of_decide_eq_true this
theorem gp_ne (g : gIn W H) (v0 : 0 ≤ v) (v1 : v < W * H) (d0 : 0 ≤ d) (d1 : d < 4) : gp W H v v d = false := by
  have := gck3_of (P := fun W H v d => !gp W H v v d) (by decide +kernel) g v0 v1 d0 d1
  simpa using this
theorem gs_bit (g : gIn W H) (v0 : 0 ≤ v) (v1 : v < W * H) (t0 : 0 ≤ t) (t1 : t < W * H) (d0 : 0 ≤ d) (d1 : d < 4) : jand (jshr (gs W H v t) d) 1 = bi (gp W H v t d) := by
  have h : ∀ b0 ∈ [true, false], ∀ b1 ∈ [true, false], ∀ b2 ∈ [true, false], ∀ b3 ∈ [true, false], (jand (jshr (bi b0 + 2 * bi b1 + 4 * bi b2 + 8 * bi b3) 0) 1 = bi b0 ∧ jand (jshr (bi b0 + 2 * bi b1 + 4 * bi b2 + 8 * bi b3) 1) 1 = bi b1) ∧ jand (jshr (bi b0 + 2 * bi b1 + 4 * bi b2 + 8 * bi b3) 2) 1 = bi b2 ∧ jand (jshr (bi b0 + 2 * bi b1 + 4 * bi b2 + 8 * bi b3) 3) 1 = bi b3 := by decide +kernel
  have mb : ∀ b : Bool, b ∈ [true, false] := by intro b; cases b <;> simp
  have := h _ (mb (gp W H v t 0)) _ (mb (gp W H v t 1)) _ (mb (gp W H v t 2)) _ (mb (gp W H v t 3))
  unfold gs
  rcases (by omega : d = 0 ∨ d = 1 ∨ d = 2 ∨ d = 3) with rfl | rfl | rfl | rfl
  · exact this.1.1
  · exact this.1.2
  · exact this.2.1
  · exact this.2.2
theorem gs_in : 0 ≤ gs W H v t ∧ gs W H v t < 16 := by
  unfold gs
  cases gp W H v t 0 <;> cases gp W H v t 1 <;> cases gp W H v t 2 <;> cases gp W H v t 3 <;> decide
theorem gr_in (g : gIn W H) (v0 : 0 ≤ v) (v1 : v < W * H) (d0 : 0 ≤ d) (d1 : d < 4) : 0 ≤ gr W H v d ∧ gr W H v d < 2 * (W + H) := by
  have := gck3_of (P := fun W H v d => decide (0 ≤ gr W H v d ∧ gr W H v d < 2 * (W + H))) (by decide +kernel) g v0 v1 d0 d1
  exact of_decide_eq_true this
theorem gd_gr (g : gIn W H) (v0 : 0 ≤ v) (v1 : v < W * H) (d0 : 0 ≤ d) (d1 : d < 4) : gd W H (gr W H v d) = d := by
  have := gck3_of (P := fun W H v d => decide (gd W H (gr W H v d) = d)) (by decide +kernel) g v0 v1 d0 d1
  exact of_decide_eq_true this
theorem gr_gn (g : gIn W H) (v0 : 0 ≤ v) (v1 : v < W * H) (d0 : 0 ≤ d) (d1 : d < 4) : gr W H (gn W H v d) d = gr W H v d := by
  have := gck3_of (P := fun W H v d => decide (gr W H (gn W H v d) d = gr W H v d)) (by decide +kernel) g v0 v1 d0 d1
  exact of_decide_eq_true this
theorem gd_in : 0 ≤ gd W H r ∧ gd W H r < 4 := by
  unfold gd
  split
  · omega
  · split
    · omega
    · split <;> omega
theorem gl_in (g : gIn W H) : 2 ≤ gl W H r ∧ gl W H r ≤ 4 := by
  have := g.1
  have := g.2
  unfold gl
  split <;> omega
theorem gq_in (g : gIn W H) (r0 : 0 ≤ r) (r1 : r < 2 * (W + H)) (i0 : 0 ≤ i) (i1 : i < gl W H r) : 0 ≤ gq W H r i ∧ gq W H r i < W * H := by
  have := gckr_of (P := fun W H r i => decide (0 ≤ gq W H r i ∧ gq W H r i < W * H)) (by decide +kernel) g r0 r1 i0 i1
  exact of_decide_eq_true this
theorem gr_gq (g : gIn W H) (r0 : 0 ≤ r) (r1 : r < 2 * (W + H)) (i0 : 0 ≤ i) (i1 : i < gl W H r) : gr W H (gq W H r i) (gd W H r) = r := by
  have := gckr_of (P := fun W H r i => decide (gr W H (gq W H r i) (gd W H r) = r)) (by decide +kernel) g r0 r1 i0 i1
  exact of_decide_eq_true this
end GF
