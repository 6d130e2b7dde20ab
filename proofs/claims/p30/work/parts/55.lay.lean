/-! laying a grid; beginning anew -/
section LA
variable {o p : Nat} {w w' S T : qMem} {W H v t d r x n e a b : Int} {f : Nat}
theorem g_dirs (hw : (w o 3 = W ∧ w o 4 = H)) (g : gIn W H) (v0 : 0 ≤ v) (v1 : v < W * H) (t0 : 0 ≤ t) (t1 : t < W * H) : f_G_directionsNearer o v t w = some (gs W H v t, w) := by
  have step : ∀ (m : Nat) (c d : Int), 0 ≤ d → d < 4 → f_G_directionsNearer_5 o (m + 1) v t c d w = f_G_directionsNearer_5 o m v t (if gp W H v t d = true then jor c (jshl 1 d) else c) (d + 1) w := by
    intro m c d d0 d1
    have hn := gn_in g v0 v1 d0 d1
    rw [f_G_directionsNearer_5, if_pos d1, qbd (g_step hw g v0 v1 d0 d1)]
    dsimp only
    rw [qbd (g_distance hw g hn.1 hn.2 t0 t1)]
    dsimp only
    rw [qbd (g_distance hw g v0 v1 t0 t1)]
    dsimp only
    rw [w32_ok (z := d + 1) (by omega) (by omega)]
    unfold gp
    by_cases q : gf W H (gn W H v d) t < gf W H v t
    · rw [if_pos q, if_pos (decide_eq_true q)]
    · rw [if_neg q, if_neg (by rw [decide_eq_false q]; decide)]
  have stop : ∀ (m : Nat) (c : Int), f_G_directionsNearer_5 o (m + 1) v t c 4 w = some (c, w) := by
    intro m c
    rw [f_G_directionsNearer_5, if_neg (by decide)]
  unfold f_G_directionsNearer
  rw [show qFU = 999999995 + 1 + 1 + 1 + 1 + 1 from rfl, step _ _ 0 (by omega) (by omega), show (0 : Int) + 1 = 1 from rfl, step _ _ 1 (by omega) (by omega), show (1 : Int) + 1 = 2 from rfl, step _ _ 2 (by omega) (by omega), show (2 : Int) + 1 = 3 from rfl, step _ _ 3 (by omega) (by omega), show (3 : Int) + 1 = 4 from rfl, stop]
  refine congrArg (fun z => some (z, w)) ?_
  unfold gs
  cases gp W H v t 0 <;> cases gp W H v t 1 <;> cases gp W H v t 2 <;> cases gp W H v t 3 <;> decide +kernel
theorem g_least (g : gIn W H) (v0 : 0 ≤ v) (v1 : v < W * H) (t0 : 0 ≤ t) (t1 : t < W * H) : f_G_leastOf (gs W H v t) w = some (ge W H v t, w) := by
  have step : ∀ (m : Nat) (d : Int), 0 ≤ d → d < 4 → f_G_leastOf_2 (m + 1) (gs W H v t) d w = if gp W H v t d = true then some (d, w) else f_G_leastOf_2 m (gs W H v t) (d + 1) w := by
    intro m d d0 d1
    rw [f_G_leastOf_2, if_pos d1, gs_bit g v0 v1 t0 t1 d0 d1, w32_ok (by omega) (by omega)]
    cases gp W H v t d with
    | true => rw [if_pos (show bi true = 1 from rfl), if_pos rfl]
    | false => rw [if_neg (show ¬ bi false = 1 by decide), if_neg (show ¬ false = true by decide)]
  have stop : ∀ m : Nat, f_G_leastOf_2 (m + 1) (gs W H v t) 4 w = some (-1, w) := by
    intro m
    rw [f_G_leastOf_2, if_neg (by decide)]
  unfold f_G_leastOf ge
  rw [show qFU = 999999995 + 1 + 1 + 1 + 1 + 1 from rfl, step _ 0 (by omega) (by omega), show (0 : Int) + 1 = 1 from rfl, step _ 1 (by omega) (by omega), show (1 : Int) + 1 = 2 from rfl, step _ 2 (by omega) (by omega), show (2 : Int) + 1 = 3 from rfl, step _ 3 (by omega) (by omega), show (3 : Int) + 1 = 4 from rfl, stop]
  by_cases e0 : gp W H v t 0 = true
  · rw [if_pos e0, if_pos e0]
  · rw [if_neg e0, if_neg e0]
    by_cases e1 : gp W H v t 1 = true
    · rw [if_pos e1, if_pos e1]
    · rw [if_neg e1, if_neg e1]
      by_cases e2 : gp W H v t 2 = true
      · rw [if_pos e2, if_pos e2]
      · rw [if_neg e2, if_neg e2]
        by_cases e3 : gp W H v t 3 = true
        · rw [if_pos e3, if_pos e3]
        · rw [if_neg e3, if_neg e3]
def lyA (o : Nat) (W H : Int) (w s : qMem) (c : Int) : Prop := ∀ k j, s k j = if k = o + 1 ∧ 0 ≤ j ∧ j < c then gn W H (j / 4) (j % 4) else w k j
theorem g_lay58 {r47 : Int → qMem → Option qMem} {s : qMem} (hw : (w o 3 = W ∧ w o 4 = H)) (g : gIn W H) (v0 : 0 ≤ v) (v1 : v < W * H) (hs : lyA o W H w s (4 * v)) : ∃ s', lyA o W H w s' (4 * (v + 1)) ∧ f_G_lay_58 o r47 qFU v 0 s = r47 (w32 (v + 1)) s' := by
  have hN := gN g
  have := k_loop (σ := qMem) (ρ := qMem) 4 (fun m i s => f_G_lay_58 o r47 m v i s) (fun s => r47 (w32 (v + 1)) s)
    (fun i s => (0 ≤ i ∧ i ≤ 4) ∧ lyA o W H w s (4 * v + i))
    (by
      intro m i s ⟨⟨i0, i1⟩, hs⟩ hi
      refine ⟨qud s (o + 1) (v * 4 + i) (gn W H v i), ⟨⟨by omega, by omega⟩, ?_⟩, ?_⟩
      · intro k j
        by_cases e : k = o + 1 ∧ j = v * 4 + i
        · rw [e.1, e.2, qud_s, if_pos ⟨rfl, by omega, by omega⟩, show (v * 4 + i) / 4 = v by omega, show (v * 4 + i) % 4 = i by omega]
        · rw [show qud s (o + 1) (v * 4 + i) (gn W H v i) k j = s k j from if_neg e, hs]
          by_cases e2 : k = o + 1 ∧ 0 ≤ j ∧ j < 4 * v + i
          · rw [if_pos e2, if_pos (by omega)]
          · rw [if_neg e2, if_neg (by omega)]
      · have h3 : s o 3 = W ∧ s o 4 = H := ⟨by rw [hs, if_neg (by omega)]; exact hw.1, by rw [hs, if_neg (by omega)]; exact hw.2⟩
        rw [f_G_lay_58, if_pos hi, qbd (g_step h3 g v0 v1 i0 hi)]
        dsimp only
        rw [w32_ok (z := v * 4) (by omega) (by omega), w32_ok (z := v * 4 + i) (by omega) (by omega), qst_ok (by omega) (by omega), w32_ok (by omega) (by omega)])
    (by
      intro m s _
      rw [f_G_lay_58, if_neg (by decide)])
    qFU 0 s ⟨by omega, by rw [Int.add_zero]; exact hs⟩ (by omega) (qFU_gt (by omega))
  obtain ⟨s', ⟨-, h⟩, e⟩ := this
  exact ⟨s', by rw [show 4 * (v + 1) = 4 * v + 4 by omega]; exact h, e⟩
theorem g_lay47 (hw : (w o 3 = W ∧ w o 4 = H)) (h5 : w o 5 = W * H) (g : gIn W H) : ∃ s', lyA o W H w s' (4 * (W * H)) ∧ f_G_lay_47 o qFU 0 w = f_G_lay_94 o s' := by
  have hN := gN g
  have := k_loop (σ := qMem) (ρ := qMem) (W * H) (fun m i s => f_G_lay_47 o m i s) (fun s => f_G_lay_94 o s)
    (fun i s => (0 ≤ i ∧ i ≤ W * H) ∧ lyA o W H w s (4 * i))
    (by
      intro m i s ⟨⟨i0, i1⟩, hs⟩ hi
      obtain ⟨s', h, e⟩ := g_lay58 (r47 := f_G_lay_47 o m) hw g i0 hi hs
      refine ⟨s', ⟨⟨by omega, by omega⟩, h⟩, ?_⟩
      have h5' : s o 5 = W * H := by rw [hs, if_neg (by omega)]; exact h5
      rw [f_G_lay_47, h5', if_pos hi, e, w32_ok (by omega) (by omega)])
    (by
      intro m s ⟨_, hs⟩
      have h5' : s o 5 = W * H := by rw [hs, if_neg (by omega)]; exact h5
      rw [f_G_lay_47, h5', if_neg (by omega)])
    qFU 0 w ⟨by omega, fun k j => by rw [if_neg (by omega)]⟩ (by omega) (qFU_gt (by omega))
  obtain ⟨s', ⟨-, h⟩, e⟩ := this
  exact ⟨s', h, e⟩
def lyB (o : Nat) (W H : Int) (w s : qMem) (v t : Int) : Prop := ∀ k j, s k j = if (k = o + 2 ∨ k = o + 3) ∧ 0 ≤ j ∧ j % 16 < W * H ∧ (j / 16 < v ∨ (j / 16 = v ∧ j % 16 < t)) then (if k = o + 2 then gs W H (j / 16) (j % 16) else ge W H (j / 16) (j % 16)) else w k j
theorem g_lay107 {r96 : Int → qMem → Option qMem} {s : qMem} (hw : (w o 3 = W ∧ w o 4 = H)) (h5 : w o 5 = W * H) (g : gIn W H) (v0 : 0 ≤ v) (v1 : v < W * H) (hs : lyB o W H w s v 0) : ∃ s', lyB o W H w s' (v + 1) 0 ∧ f_G_lay_107 o r96 qFU v 0 s = r96 (w32 (v + 1)) s' := by
  have hN := gN g
  have := k_loop (σ := qMem) (ρ := qMem) (W * H) (fun m i s => f_G_lay_107 o r96 m v i s) (fun s => r96 (w32 (v + 1)) s)
    (fun i s => (0 ≤ i ∧ i ≤ W * H) ∧ lyB o W H w s v i)
    (by
      intro m i s ⟨⟨i0, i1⟩, hs⟩ hi
      have h3 : s o 3 = W ∧ s o 4 = H := ⟨by rw [hs, if_neg (by omega)]; exact hw.1, by rw [hs, if_neg (by omega)]; exact hw.2⟩
      have h5' : s o 5 = W * H := by rw [hs, if_neg (by omega)]; exact h5
      refine ⟨qud (qud s (o + 2) (v * 16 + i) (gs W H v i)) (o + 3) (v * 16 + i) (ge W H v i), ⟨⟨by omega, by omega⟩, ?_⟩, ?_⟩
      · intro k j
        have eq1 : (v * 16 + i) / 16 = v := by omega
        have eq2 : (v * 16 + i) % 16 = i := by omega
        by_cases e3 : k = o + 3 ∧ j = v * 16 + i
        · rw [e3.1, e3.2, qud_s, eq1, eq2, if_pos ⟨Or.inr rfl, by omega, hi, Or.inr ⟨rfl, by omega⟩⟩, if_neg (by omega)]
        · rw [show ∀ (Z : qMem), qud Z (o + 3) (v * 16 + i) (ge W H v i) k j = Z k j from fun Z => if_neg e3]
          by_cases e2 : k = o + 2 ∧ j = v * 16 + i
          · rw [e2.1, e2.2, qud_s, eq1, eq2, if_pos ⟨Or.inl rfl, by omega, hi, Or.inr ⟨rfl, by omega⟩⟩, if_pos rfl]
          · rw [show qud s (o + 2) (v * 16 + i) (gs W H v i) k j = s k j from if_neg e2, hs]
            by_cases e4 : (k = o + 2 ∨ k = o + 3) ∧ 0 ≤ j ∧ j % 16 < W * H ∧ (j / 16 < v ∨ (j / 16 = v ∧ j % 16 < i))
            · rw [if_pos e4, if_pos (show (k = o + 2 ∨ k = o + 3) ∧ 0 ≤ j ∧ j % 16 < W * H ∧ (j / 16 < v ∨ (j / 16 = v ∧ j % 16 < i + 1)) by omega)]
            · rw [if_neg e4, if_neg (show ¬ ((k = o + 2 ∨ k = o + 3) ∧ 0 ≤ j ∧ j % 16 < W * H ∧ (j / 16 < v ∨ (j / 16 = v ∧ j % 16 < i + 1))) by omega)]
      · rw [f_G_lay_107, h5', if_pos hi, qbd (g_dirs h3 g v0 v1 i0 hi)]
        dsimp only
        rw [w32_ok (z := v * 16) (by omega) (by omega), w32_ok (z := v * 16 + i) (by omega) (by omega), qst_ok (by omega) (by omega), qbd (g_least g v0 v1 i0 hi)]
        dsimp only
        rw [qst_ok (by omega) (by omega), w32_ok (by omega) (by omega)])
    (by
      intro m s ⟨_, hs⟩
      have h5' : s o 5 = W * H := by rw [hs, if_neg (by omega)]; exact h5
      rw [f_G_lay_107, h5', if_neg (by omega)])
    qFU 0 s ⟨by omega, hs⟩ (by omega) (qFU_gt (by omega))
  obtain ⟨s', ⟨-, h⟩, e⟩ := this
  refine ⟨s', fun k j => ?_, e⟩
  rw [h]
  by_cases e4 : (k = o + 2 ∨ k = o + 3) ∧ 0 ≤ j ∧ j % 16 < W * H ∧ (j / 16 < v ∨ (j / 16 = v ∧ j % 16 < W * H))
  · rw [if_pos e4, if_pos (show (k = o + 2 ∨ k = o + 3) ∧ 0 ≤ j ∧ j % 16 < W * H ∧ (j / 16 < v + 1 ∨ (j / 16 = v + 1 ∧ j % 16 < 0)) by omega)]
  · rw [if_neg e4, if_neg (show ¬ ((k = o + 2 ∨ k = o + 3) ∧ 0 ≤ j ∧ j % 16 < W * H ∧ (j / 16 < v + 1 ∨ (j / 16 = v + 1 ∧ j % 16 < 0))) by omega)]
theorem g_lay96 (hw : (w o 3 = W ∧ w o 4 = H)) (h5 : w o 5 = W * H) (g : gIn W H) : ∃ s', lyB o W H w s' (W * H) 0 ∧ f_G_lay_96 o qFU 0 w = some s' := by
  have hN := gN g
  have := k_loop (σ := qMem) (ρ := qMem) (W * H) (fun m i s => f_G_lay_96 o m i s) (fun s => some s)
    (fun i s => (0 ≤ i ∧ i ≤ W * H) ∧ lyB o W H w s i 0)
    (by
      intro m i s ⟨⟨i0, i1⟩, hs⟩ hi
      obtain ⟨s', h, e⟩ := g_lay107 (r96 := f_G_lay_96 o m) hw h5 g i0 hi hs
      refine ⟨s', ⟨⟨by omega, by omega⟩, h⟩, ?_⟩
      have h5' : s o 5 = W * H := by rw [hs, if_neg (by omega)]; exact h5
      rw [f_G_lay_96, h5', if_pos hi, e, w32_ok (by omega) (by omega)])
    (by
      intro m s ⟨_, hs⟩
      have h5' : s o 5 = W * H := by rw [hs, if_neg (by omega)]; exact h5
      rw [f_G_lay_96, h5', if_neg (by omega)])
    qFU 0 w ⟨by omega, fun k j => by rw [if_neg (by omega)]⟩ (by omega) (qFU_gt (by omega))
  obtain ⟨s', ⟨-, h⟩, e⟩ := this
  exact ⟨s', h, e⟩
theorem x_within : f_X_within x a b w = some (bi (decide (a ≤ x ∧ x ≤ b)), w) := by
  unfold f_X_within
  by_cases h : x < a
  · rw [if_pos h, decide_eq_false (by omega)]; rfl
  · rw [if_neg h]
    by_cases h2 : x ≤ b
    · rw [if_pos h2, decide_eq_true (by omega)]; rfl
    · rw [if_neg h2, decide_eq_false (by omega)]; rfl
theorem g_lay (g : gIn W H) : kT (f_G_lay o W H w) (fun w' => RG o w' W H ∧ ∀ k, (k < o ∨ o + 3 < k) → w' k = w k) := by
  have hN := gN g
  have h16 := g16r g
  unfold f_G_lay
  refine kT_eq x_within ?_
  dsimp only
  rw [bi_if, if_pos g.1]
  refine kT_eq x_within ?_
  dsimp only
  rw [bi_if, if_pos g.2, qlt_ok, qlt_ok, qlt_ok, qlt_ok, w32_ok (z := W * H) (by omega) (by omega)]
  obtain ⟨⟨ga, gb⟩, gc, gd'⟩ := g
  rw [w32_ok (z := W + H) (by omega) (by omega), w32_ok (z := 2 * (W + H)) (by omega) (by omega)]
  have g : gIn W H := ⟨⟨ga, gb⟩, gc, gd'⟩
  obtain ⟨s1, h1, e1⟩ := g_lay47 (o := o) (w := qud (qud (qud (qud w o 3 W) o 4 H) o 5 (W * H)) o 6 (2 * (W + H))) ⟨by rw [qud_ni (by decide), qud_ni (by decide), qud_ni (by decide), qud_s], by rw [qud_ni (by decide), qud_ni (by decide), qud_s]⟩ (by rw [qud_ni (by decide), qud_s]) g
  have hs : ∀ j, s1 o j = qud (qud (qud (qud w o 3 W) o 4 H) o 5 (W * H)) o 6 (2 * (W + H)) o j := fun j => by rw [h1, if_neg (by omega)]
  obtain ⟨s2, h2, e2⟩ := g_lay96 (o := o) (w := s1) ⟨by rw [hs, qud_ni (by decide), qud_ni (by decide), qud_ni (by decide), qud_s], by rw [hs, qud_ni (by decide), qud_ni (by decide), qud_s]⟩ (by rw [hs, qud_ni (by decide), qud_s]) g
  have hs2 : ∀ j, s2 o j = qud (qud (qud (qud w o 3 W) o 4 H) o 5 (W * H)) o 6 (2 * (W + H)) o j := fun j => by rw [h2, if_neg (by omega), hs]
  rw [e1]
  unfold f_G_lay_94
  rw [e2]
  refine kT_some ⟨⟨⟨?_, ?_⟩, ⟨?_, ?_⟩, fun v d v0 v1 d0 d1 => ?_, fun v t v0 v1 t0 t1 => ?_, fun v t v0 v1 t0 t1 => ?_⟩, fun k hk => ?_⟩
  · rw [hs2, qud_ni (by decide), qud_ni (by decide), qud_ni (by decide), qud_s]
  · rw [hs2, qud_ni (by decide), qud_ni (by decide), qud_s]
  · rw [hs2, qud_ni (by decide), qud_s]
  · rw [hs2, qud_s]
  · rw [h2, if_neg (by omega), h1, if_pos ⟨rfl, by omega, by omega⟩, show (v * 4 + d) / 4 = v by omega, show (v * 4 + d) % 4 = d by omega]
  · have q1 : (v * 16 + t) / 16 = v := by omega
    have q2 : (v * 16 + t) % 16 = t := by omega
    rw [h2, q1, q2, if_pos ⟨Or.inl rfl, by omega, t1, Or.inl v1⟩, if_pos rfl]
  · have q1 : (v * 16 + t) / 16 = v := by omega
    have q2 : (v * 16 + t) % 16 = t := by omega
    rw [h2, q1, q2, if_pos ⟨Or.inr rfl, by omega, t1, Or.inl v1⟩, if_neg (by omega)]
  · funext j
    rw [h2, if_neg (by omega), h1, if_neg (by omega), qud_nk (by omega), qud_nk (by omega), qud_nk (by omega), qud_nk (by omega)]
theorem j_fill (n0 : 0 ≤ n) (n1 : n < 10000) : kT (f_JA_fill p n x w) (fun w' => ∀ k j, w' k j = if k = p ∧ 0 ≤ j ∧ j < n then x else w k j) := by
  have := k_loop (σ := qMem) (ρ := qMem) n (fun m i s => f_JA_fill_5 p n m x i n s) (fun s => some s)
    (fun i s => (0 ≤ i ∧ i ≤ n) ∧ ∀ k j, s k j = if k = p ∧ 0 ≤ j ∧ j < i then x else w k j)
    (by
      intro m i s ⟨⟨i0, i1⟩, hs⟩ hi
      refine ⟨qud s p i x, ⟨⟨by omega, by omega⟩, ?_⟩, ?_⟩
      · intro k j
        by_cases e : k = p ∧ j = i
        · rw [e.1, e.2, qud_s, if_pos ⟨rfl, by omega, by omega⟩]
        · rw [show qud s p i x k j = s k j from if_neg e, hs]
          by_cases e2 : k = p ∧ 0 ≤ j ∧ j < i
          · rw [if_pos e2, if_pos (by omega)]
          · rw [if_neg e2, if_neg (by omega)]
      · rw [f_JA_fill_5, if_pos hi, qst_ok (by omega) (by omega), w32_ok (by omega) (by omega)])
    (by
      intro m s _
      rw [f_JA_fill_5, if_neg (by omega)])
    qFU 0 w ⟨by omega, fun k j => by rw [if_neg (by omega)]⟩ (by omega) (qFU_gt (by omega))
  obtain ⟨w', ⟨-, h⟩, e⟩ := this
  exact ⟨w', e, h⟩
end LA
