/-! schedules, the reference: reading by the row itself -/
def mN (W H C : Int) (w : qMem) : Prop := ((w 89 0 = W ∧ w 89 1 = H) ∧ gIn W H) ∧ (0 ≤ C ∧ C ≤ 250) ∧ ∀ p, 0 ≤ p → p < C → 0 ≤ w 89 (17 + 17 * p) ∧ w 89 (17 + 17 * p) < W * H
def mz (w : qMem) (q : Int) : Int := w 89 (4266 + 7 * q)
def mfs (w : qMem) (q : Int) : Int := if mz w q = 0 then -1 else w 89 (4267 + 7 * q)
def sOK (N x : Int) : Prop := x = 432 ∨ (0 ≤ x ∧ x < 27 * N)
section R1
variable {w w' w0 w2 : qMem} {W H C N x y r i v q s d l p k : Int}
theorem r_many (v0 : 0 ≤ v) (v1 : v < 16) (k0 : 0 ≤ k) (k1 : k < 9) : f_M_many v k w = some (mz w (v * 9 + k), w) := by
  unfold f_M_many
  rw [qbd (m_queueAt v0 v1 k0 k1)]
  dsimp only
  rw [qld_ok (by omega) (by omega)]
  rfl
theorem r_first (v0 : 0 ≤ v) (v1 : v < 16) (k0 : 0 ≤ k) (k1 : k < 9) : f_M_firstOf v k w = some (mfs w (v * 9 + k), w) := by
  unfold f_M_firstOf mfs
  rw [qbd (r_many v0 v1 k0 k1)]
  dsimp only
  by_cases e : mz w (v * 9 + k) = 0
  · rw [if_pos e, if_pos e]
  · rw [if_neg e, if_neg e, qbd (m_queueAt v0 v1 k0 k1)]
    dsimp only
    rw [w32_ok (by omega) (by omega), qld_ok (by omega) (by omega), show 4266 + 7 * (v * 9 + k) + 1 = 4267 + 7 * (v * 9 + k) by omega]
theorem r_of (p0 : 0 ≤ p) (p1 : p < 250) (k0 : 0 ≤ k) (k1 : k < 17) : f_M_of p k w = some (w 89 (16 + 17 * p + k), w) := by
  unfold f_M_of
  rw [qbd (m_packetAt p0 p1)]
  dsimp only
  rw [w32_ok (by omega) (by omega), qld_ok (by omega) (by omega)]
theorem r_free (v0 : 0 ≤ v) (v1 : v < 16) (k0 : 0 ≤ k) (k1 : k < 9) : sA w (f_M_free v k w) := by
  have hp : sA w (f_M_placesOf k w) := by
    unfold f_M_placesOf
    refine sA_if (fun _ => sA_s) (fun _ => sA_if (fun _ => ?_) (fun _ => ?_))
    · rw [qld_ok (by decide) (by decide)]; exact sA_s
    · rw [qld_ok (by decide) (by decide)]; exact sA_s
  unfold f_M_free
  refine sA_b hp (fun y => ?_)
  exact sA_eq (r_many v0 v1 k0 k1) sA_s
theorem r_cont (h : mN W H C w) (v0 : 0 ≤ v) (v1 : v < W * H) (p0 : 0 ≤ p) (p1 : p < C) : sA w (f_M_doesContinue p v d w) := by
  obtain ⟨⟨hw, g⟩, hc, ht⟩ := h
  have hp := ht p p0 p1
  unfold f_M_doesContinue
  refine sA_eq (r_of p0 (by omega) (by decide) (by decide)) (sA_if (fun _ => ?_) (fun _ => sA_s))
  refine sA_eq (r_of p0 (by omega) (by decide) (by decide)) (sA_if (fun _ => ?_) (fun _ => sA_s))
  refine sA_eq (r_of p0 (by omega) (by decide) (by decide)) ?_
  dsimp only
  rw [show 16 + 17 * p + 1 = 17 + 17 * p by omega]
  exact sA_eq (mg_escapeOf hw g v0 v1 hp.1 hp.2) (sA_if (fun _ => sA_s) (fun _ => sA_s))
theorem r_rule (h : mN W H C w) (v0 : 0 ≤ v) (v1 : v < W * H) (d0 : 0 ≤ d) (d1 : d < 4) : sA w (f_M_doesRuleLet v d w) := by
  obtain ⟨⟨hw, g⟩, hc, ht⟩ := h
  have hN := gN g
  have hr := gr_in g v0 v1 d0 d1
  have h16 := g16r g
  have e75 : ∀ a b : Int, sA w (f_M_doesRuleLet_75 a b w) := by
    intro a b
    unfold f_M_doesRuleLet_75
    exact sA_if (fun _ => sA_s) (fun _ => sA_s)
  unfold f_M_doesRuleLet
  rw [w32_ok (by omega) (by omega)]
  refine sA_b (r_free v0 (by omega) (by omega) (by omega)) (fun y => ?_)
  dsimp only
  rw [qld_ok (by decide) (by decide), qld_ok (by decide) (by decide)]
  refine sA_if (fun _ => sA_if (fun _ => sA_s) (fun _ => sA_s)) (fun _ => sA_if (fun _ => sA_if (fun _ => sA_s) (fun _ => sA_s)) (fun _ => ?_))
  refine sA_eq (mg_ringFor hw g v0 v1 d0 d1) ?_
  refine sA_eq (m_ringAt hr.1 (by omega)) ?_
  dsimp only
  rw [w32_ok (by omega) (by omega), qld_ok (by omega) (by omega)]
  exact sA_if (fun _ => e75 _ _) (fun _ => e75 _ _)
theorem r_esc (h : mN W H C w) (v0 : 0 ≤ v) (v1 : v < W * H) (p0 : 0 ≤ p) (p1 : p < C) (d0 : 0 ≤ d) (d1 : d < 4) : sA w (f_M_canByEscape p v d 0 w) := by
  have hp := h.2.2 p p0 p1
  have hc := h.2.1
  have hw := h.1.1
  have g := h.1.2
  have hN := gN g
  have hn := gn_in g v0 v1 d0 d1
  unfold f_M_canByEscape
  refine sA_eq (r_of p0 (by omega) (by decide) (by decide)) ?_
  dsimp only
  rw [show 16 + 17 * p + 1 = 17 + 17 * p by omega]
  refine sA_eq (mg_escapeOf hw g v0 v1 hp.1 hp.2) (sA_if (fun _ => ?_) (fun _ => sA_s))
  refine sA_eq (mg_nextOf hw g v0 v1 d0 d1) ?_
  refine sA_b (r_cont h v0 v1 p0 p1) (fun y => ?_)
  dsimp only
  refine sA_if (fun _ => ?_) (fun _ => ?_)
  · rw [if_pos rfl]
    unfold f_M_canByEscape_67
    exact sA_b (r_rule h hn.1 hn.2 d0 d1) (fun y => sA_if (fun _ => sA_s) (fun _ => sA_s))
  · rw [w32_ok (by omega) (by omega)]
    exact sA_b (r_free hn.1 (by omega) (by omega) (by omega)) (fun y => sA_if (fun _ => sA_s) (fun _ => sA_s))
theorem r_ada (h : mN W H C w) (v0 : 0 ≤ v) (v1 : v < W * H) (p0 : 0 ≤ p) (p1 : p < C) (d0 : 0 ≤ d) (d1 : d < 4) : sA w (f_M_canByAdaptive p v d w) := by
  have hp := h.2.2 p p0 p1
  have hc := h.2.1
  have hw := h.1.1
  have g := h.1.2
  have hN := gN g
  have hn := gn_in g v0 v1 d0 d1
  unfold f_M_canByAdaptive
  refine sA_eq (r_of p0 (by omega) (by decide) (by decide)) ?_
  dsimp only
  rw [show 16 + 17 * p + 1 = 17 + 17 * p by omega]
  refine sA_eq (mg_isProfitable hw g v0 v1 hp.1 hp.2 d0 d1) (sA_if (fun _ => sA_s) (fun _ => ?_))
  refine sA_eq (mg_nextOf hw g v0 v1 d0 d1) ?_
  dsimp only
  rw [w32_ok (by omega) (by omega)]
  exact sA_b (r_free hn.1 (by omega) (by omega) (by omega)) (fun y => sA_if (fun _ => sA_s) (fun _ => sA_s))
theorem r_freeIn (h : mN W H C w) (r0 : 0 ≤ r) (r1 : r < 2 * (W + H)) : sA w (f_M_freeIn r w) := by
  obtain ⟨⟨hw, g⟩, hc, ht⟩ := h
  have hN := gN g
  have hd := gd_in (W := W) (H := H) (r := r)
  unfold f_M_freeIn
  refine sA_eq (mg_directionOf hw g r0 r1) ?_
  refine sA_loop (σ := Int) (N := W * H) (L := fun m x s => f_M_freeIn_11 m r (gd W H r) s x w) (fun m x s x0 x1 ih => ?_) (fun m s => ?_) (by omega) (by omega) 0
  · have h45 : ∀ a b, sA w (f_M_freeIn_45 (f_M_freeIn_11 m) a b r (gd W H r) x w) := by
      intro a b
      unfold f_M_freeIn_45
      rw [w32_ok (z := x + 1) (by omega) (by omega)]
      exact ih _
    rw [f_M_freeIn_11, qbd (mg_nodes hw g)]
    dsimp only
    rw [if_pos x1, w32_ok (z := 1 + gd W H r) (by omega) (by omega)]
    refine sA_eq (mg_ringFor hw g x0 x1 hd.1 hd.2) (sA_if (fun _ => ?_) (fun _ => h45 _ _))
    exact sA_b (r_free x0 (by omega) (by omega) (by omega)) (fun y => h45 _ _)
  · rw [f_M_freeIn_11, qbd (mg_nodes hw g)]
    dsimp only
    rw [if_neg (by omega)]; exact sA_s
theorem r_fewest (h : mN W H C w) : sA w (f_M_fewestFree w) := by
  have hw := h.1.1
  have g := h.1.2
  have h16 := g16r g
  obtain ⟨⟨ga, gb⟩, gc, gd'⟩ := g
  unfold f_M_fewestFree
  refine sA_loop (σ := Int) (N := 2 * (W + H)) (L := fun m x s => f_M_fewestFree_6 m s x w) (fun m x s x0 x1 ih => ?_) (fun m s => ?_) (by omega) (by omega) 1000
  · have h32 : ∀ a, sA w (f_M_fewestFree_32 (f_M_fewestFree_6 m) a x w) := by
      intro a
      unfold f_M_fewestFree_32
      rw [w32_ok (z := x + 1) (by omega) (by omega)]
      exact ih _
    rw [f_M_fewestFree_6, qbd (mg_rings hw h.1.2)]
    dsimp only
    rw [if_pos x1]
    refine sA_b (r_freeIn h x0 x1) (fun y => ?_)
    refine sA_if (fun _ => ?_) (fun _ => h32 _)
    exact sA_b (r_freeIn h x0 x1) (fun y => h32 _)
  · rw [f_M_fewestFree_6, qbd (mg_rings hw h.1.2)]
    dsimp only
    rw [if_neg (by omega)]; exact sA_s
theorem r_lane (h : mN W H C w) : sA w (f_M_inLane l w) := by
  obtain ⟨⟨hw, g⟩, hc, ht⟩ := h
  have hN := gN g
  unfold f_M_inLane
  refine sA_loop (σ := Int) (N := W * H) (L := fun m x s => f_M_inLane_4 m l s x w) (fun m x s x0 x1 ih => ?_) (fun m s => ?_) (by omega) (by omega) 0
  · rw [f_M_inLane_4, qbd (mg_nodes hw g)]
    dsimp only
    rw [if_pos x1]
    refine sA_loop (σ := Int) (N := 9) (L := fun m' y s' => f_M_inLane_15 (f_M_inLane_4 m) m' l s' x y w) (fun m' y s' y0 y1 ih' => ?_) (fun m' s' => ?_) (by omega) (by omega) s
    · have h44 : ∀ s0 s1, sA w (f_M_inLane_44 (f_M_inLane_4 m) (f_M_inLane_15 (f_M_inLane_4 m) m') s0 s1 l x y w) := by
        intro s0 s1
        unfold f_M_inLane_44
        rw [w32_ok (z := y + 1) (by omega) (by omega)]
        exact ih' _
      rw [f_M_inLane_15, if_pos y1, qdv_ok (by decide)]
      exact sA_if (fun _ => sA_eq (r_many x0 (by omega) y0 y1) (h44 _ _)) (fun _ => h44 _ _)
    · rw [f_M_inLane_15, if_neg (by decide), w32_ok (z := x + 1) (by omega) (by omega)]
      exact ih _
  · rw [f_M_inLane_4, qbd (mg_nodes hw g)]
    dsimp only
    rw [if_neg (by omega)]; exact sA_s
/-- where a packet is, as it is written down -/
theorem r_place (hw : w 89 0 = W ∧ w 89 1 = H) (g : gIn W H) (hz : ∀ q, 0 ≤ q → q < 9 * (W * H) → 0 ≤ mz w q ∧ mz w q ≤ 3) : ∃ y, f_M_placeIn x w = some (y, w) ∧ sOK (W * H) y := by
  have hN := gN g
  have inner : ∀ (r2 : Int → Int → qMem → Option (Int × qMem)) (r12 : Int → Int → Int → qMem → Option (Int × qMem)) (v k : Int), 0 ≤ v → v < W * H → 0 ≤ k → k < 9 → (∃ y, r12 x v (k + 1) w = some (y, w) ∧ sOK (W * H) y) → ∀ (m : Nat) (j : Int), 0 ≤ j → j ≤ mz w (v * 9 + k) → mz w (v * 9 + k) - j < m → ∃ y, f_M_placeIn_21 r2 r12 m x v k j w = some (y, w) ∧ sOK (W * H) y := by
    intro r2 r12 v k v0 v1 k0 k1 hnext m
    have hs := hz (v * 9 + k) (by omega) (by omega)
    induction m with
    | zero => intro j _ _ _; omega
    | succ m ih =>
      intro j j0 j1 hm
      rw [f_M_placeIn_21, qbd (r_many v0 (by omega) k0 k1)]
      dsimp only
      by_cases c : j < mz w (v * 9 + k)
      · rw [if_pos c, qbd (m_queueAt v0 (by omega) k0 k1)]
        dsimp only
        rw [w32_ok (z := 4266 + 7 * (v * 9 + k) + 1) (by omega) (by omega), w32_ok (by omega) (by omega), qld_ok (by omega) (by omega), w32_ok (z := j + 1) (by omega) (by omega)]
        by_cases c2 : w 89 (4266 + 7 * (v * 9 + k) + 1 + j) = x
        · rw [if_pos c2]
          unfold f_M_placeIn_51
          rw [qbd (m_slot v0 (by omega) k0 k1)]
          dsimp only
          rw [w32_ok (z := 3 * (v * 9 + k)) (by omega) (by omega), w32_ok (by omega) (by omega)]
          exact ⟨_, rfl, Or.inr ⟨by omega, by omega⟩⟩
        · rw [if_neg c2]
          exact ih (j + 1) (by omega) (by omega) (by omega)
      · rw [if_neg c, w32_ok (z := k + 1) (by omega) (by omega)]
        exact hnext
  have mid : ∀ (r2 : Int → Int → qMem → Option (Int × qMem)) (v : Int), 0 ≤ v → v < W * H → (∃ y, r2 x (v + 1) w = some (y, w) ∧ sOK (W * H) y) → ∀ (m : Nat) (k : Int), 0 ≤ k → k ≤ 9 → 9 - k < m → ∃ y, f_M_placeIn_12 r2 m x v k w = some (y, w) ∧ sOK (W * H) y := by
    intro r2 v v0 v1 hnext m
    induction m with
    | zero => intro k _ _ _; omega
    | succ m ih =>
      intro k k0 k1 hm
      rw [f_M_placeIn_12]
      by_cases c : k < 9
      · rw [if_pos c]
        have hs := hz (v * 9 + k) (by omega) (by omega)
        exact inner r2 (f_M_placeIn_12 r2 m) v k v0 v1 k0 c (ih (k + 1) (by omega) (by omega) (by omega)) qFU 0 (by omega) hs.1 (qFU_gt (by omega))
      · rw [if_neg c, w32_ok (z := v + 1) (by omega) (by omega)]
        exact hnext
  have outer : ∀ (m : Nat) (v : Int), 0 ≤ v → v ≤ W * H → W * H - v < m → ∃ y, f_M_placeIn_2 m x v w = some (y, w) ∧ sOK (W * H) y := by
    intro m
    induction m with
    | zero => intro v _ _ _; omega
    | succ m ih =>
      intro v v0 v1 hm
      rw [f_M_placeIn_2, qbd (mg_nodes hw g)]
      dsimp only
      by_cases c : v < W * H
      · rw [if_pos c]
        exact mid (f_M_placeIn_2 m) v v0 c (ih (v + 1) (by omega) (by omega) (by omega)) qFU 0 (by omega) (by omega) (qFU_gt (by omega))
      · rw [if_neg c]
        exact ⟨432, rfl, Or.inl rfl⟩
  unfold f_M_placeIn
  exact outer qFU 0 (by omega) (by omega) (qFU_gt (by omega))
end R1
