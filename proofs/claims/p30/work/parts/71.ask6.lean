/-! asking what is counted over packets: that it is answered (the reference) -/
section Q6
variable {w w' S T : qMem} {v t n x p a b l : Int}
theorem mp_of {f : Nat} {k : Int} (hR : RM w S) (I : IV S) (p0 : 0 ≤ p) (p1 : p < S 5 13) (f6 : 6 ≤ f) (f17 : f ≤ 17) (hk : k = (f : Int) - 6) : f_M_of p k w = some (S f p, w) := m_of hR p0 p1 I.1.2.2.2.2.2.2.1.2 f6 f17 hk
theorem ms_lateOf (hR : RM w S) (I : IV S) (p0 : 0 ≤ p) (p1 : p < S 5 13) : f_M_lateOf p w = some (if S 13 p = -1 then -1 else w32 (S 13 p - S 8 p), w) := by
  unfold f_M_lateOf
  rw [qbd (mp_of hR I p0 p1 (f := 13) (by decide) (by decide) (by decide))]
  dsimp only
  by_cases e : S 13 p = -1
  · rw [if_pos e, if_pos e]
  · rw [if_neg e, if_neg e, qbd (mp_of hR I p0 p1 (f := 13) (by decide) (by decide) (by decide))]
    dsimp only
    rw [qbd (mp_of hR I p0 p1 (f := 8) (by decide) (by decide) (by decide))]
theorem lof_in (I : IV S) (p0 : 0 ≤ p) (p1 : p < S 5 13) : -1 ≤ (if S 13 p = -1 then -1 else w32 (S 13 p - S 8 p)) ∧ (if S 13 p = -1 then -1 else w32 (S 13 p - S 8 p)) ≤ 1000000 := by
  have h := I.2.1.1 p p0 p1
  have hck := I.1.2.2.2.2.2.1
  by_cases e : S 13 p = -1
  · rw [if_pos e]; omega
  · have h8 := h.2.1.1
    have h13 := h.2.2.2.2.1
    have := h13.2.2 e
    rw [if_neg e, w32_ok (by omega) (by omega)]
    omega
theorem ms_door (hR : RM w S) (I : IV S) : sA w (f_M_longestInDoor v w) := by
  have hc := I.1.2.2.2.2.2.2.1
  unfold f_M_longestInDoor
  refine sA_loop (σ := Int) (N := S 5 13) (L := fun m x s => f_M_longestInDoor_4 m v s x w) (fun m x s x0 x1 ih => ?_) (fun m s => ?_) hc.1 (by omega) 0
  · have h67 : ∀ s', sA w (f_M_longestInDoor_67 (f_M_longestInDoor_4 m) s' v x w) := by
      intro s'
      unfold f_M_longestInDoor_67
      rw [w32_ok (z := x + 1) (by omega) (by omega)]
      exact ih _
    rw [f_M_longestInDoor_4, qld_ok (by decide) (by decide), rm_5_13 hR, if_pos x1, w32_ok (z := x + 1) (by omega) (by omega)]
    refine sA_eq (mp_of hR I x0 x1 (f := 6) (by decide) (by decide) (by decide)) (sA_if (fun _ => ?_) (fun _ => ih _))
    refine sA_eq (mp_of hR I x0 x1 (f := 16) (by decide) (by decide) (by decide)) (sA_if (fun _ => ih _) (fun _ => ?_))
    refine sA_eq (mp_of hR I x0 x1 (f := 16) (by decide) (by decide) (by decide)) ?_
    refine sA_eq (mp_of hR I x0 x1 (f := 8) (by decide) (by decide) (by decide)) (sA_if (fun _ => h67 _) (fun _ => h67 _))
  · rw [f_M_longestInDoor_4, qld_ok (by decide) (by decide), rm_5_13 hR, if_neg (by omega)]; exact sA_s
theorem ms_by (hR : RM w S) (I : IV S) : sA w (f_M_packetsBy v t w) := by
  have hc := I.1.2.2.2.2.2.2.1
  unfold f_M_packetsBy
  refine sA_loop (σ := Int) (N := S 5 13) (L := fun m x s => f_M_packetsBy_5 m v t s x w) (fun m x s x0 x1 ih => ?_) (fun m s => ?_) hc.1 (by omega) 0
  · have h69 : ∀ s' y, sA w (f_M_packetsBy_69 (f_M_packetsBy_5 m) s' y v t x w) := by
      intro s' y
      unfold f_M_packetsBy_69
      rw [w32_ok (z := x + 1) (by omega) (by omega)]
      exact ih _
    rw [f_M_packetsBy_5, qld_ok (by decide) (by decide), rm_5_13 hR, if_pos x1]
    refine sA_if (fun _ => ?_) (fun _ => ?_)
    · exact sA_eq (mp_of hR I x0 x1 (f := 6) (by decide) (by decide) (by decide)) (sA_if (fun _ => h69 _ _) (fun _ => h69 _ _))
    · refine sA_eq (mp_of hR I x0 x1 (f := 7) (by decide) (by decide) (by decide)) (sA_if (fun _ => ?_) (fun _ => h69 _ _))
      exact sA_eq (mp_of hR I x0 x1 (f := 13) (by decide) (by decide) (by decide)) (sA_if (fun _ => h69 _ _) (fun _ => h69 _ _))
  · rw [f_M_packetsBy_5, qld_ok (by decide) (by decide), rm_5_13 hR, if_neg (by omega)]; exact sA_s
theorem ms_inQ (hR : RM w S) (v0 : 0 ≤ v) (v1 : v < 16) : sA w (f_M_inQueues v w) := by
  unfold f_M_inQueues
  refine sA_loop (σ := Int) (N := 9) (L := fun m x s => f_M_inQueues_4 m v s x w) (fun m x s x0 x1 ih => ?_) (fun m s => ?_) (by omega) (by omega) 0
  · rw [f_M_inQueues_4, if_pos x1, w32_ok (z := x + 1) (by omega) (by omega)]
    exact sA_eq (m_many hR v0 v1 x0 x1) (ih _)
  · rw [f_M_inQueues_4, if_neg (by decide)]; exact sA_s
theorem ms_node (hR : RM w S) (I : IV S) : sA w (f_M_node v x w) := by
  have hN := gN I.1.1
  unfold f_M_node
  refine sA_eq (mg_isNode hR.wh I.1.1) ?_
  dsimp only
  rw [bi_if]
  refine sA_if (fun c => ?_) (fun _ => sA_s)
  refine sA_if (fun _ => sA_eq (m_many hR c.1 (by omega) (by decide) (by decide)) sA_s) (fun _ => sA_if (fun _ => sA_e (ms_inQ hR c.1 (by omega))) (fun _ => sA_if (fun _ => sA_e (ms_by hR I)) (fun _ => sA_if (fun _ => sA_e (ms_by hR I)) (fun _ => sA_if (fun _ => ?_) (fun _ => sA_if (fun _ => sA_e (ms_door hR I)) (fun _ => sA_s))))))
  rw [w32_ok (by omega) (by omega), qld_ok (by omega) (by omega)]
  exact sA_s
theorem ms_pair (hR : RM w S) (I : IV S) : sA w (f_M_pair a b x w) := by
  have hc := I.1.2.2.2.2.2.2.1
  unfold f_M_pair
  refine sA_eq (mg_isNode hR.wh I.1.1) ?_
  dsimp only
  rw [bi_if]
  refine sA_if (fun c => ?_) (fun _ => sA_s)
  refine sA_eq (mg_isNode hR.wh I.1.1) ?_
  dsimp only
  rw [bi_if]
  refine sA_if (fun c => ?_) (fun _ => sA_s)
  refine sA_eq m_isIn ?_
  dsimp only
  rw [bi_if]
  refine sA_if (fun c => ?_) (fun _ => sA_s)
  refine sA_loop (σ := Int × Int) (N := S 5 13) (L := fun m y s => f_M_pair_36 m a b x s.1 s.2 y w) (fun m y s x0 x1 ih => ?_) (fun m s => ?_) hc.1 (by omega) (0, -1)
  · have h150 : ∀ s0 s1, sA w (f_M_pair_150 (f_M_pair_36 m) s0 a b x s1 y w) := by
      intro s0 s1
      unfold f_M_pair_150
      rw [w32_ok (z := y + 1) (by omega) (by omega)]
      exact ih (s1, s0)
    have h125 : ∀ s0 s1 s2, sA w (f_M_pair_125 (f_M_pair_36 m) s0 s1 a b x s2 y w) := by
      intro s0 s1 s2
      unfold f_M_pair_125
      exact sA_eq (ms_lateOf hR I x0 x1) (sA_if (fun _ => h150 _ _) (fun _ => sA_eq (ms_lateOf hR I x0 x1) (h150 _ _)))
    have h90 : ∀ s0 s1 s2, sA w (f_M_pair_90 (f_M_pair_36 m) s0 a b x s1 s2 y w) := by
      intro s0 s1 s2
      unfold f_M_pair_90
      exact sA_if (fun _ => h125 _ _ _) (fun _ => sA_if (fun _ => h125 _ _ _) (fun _ => sA_if (fun _ => h125 _ _ _) (fun _ => sA_eq (mp_of hR I x0 x1 (f := 15) (by decide) (by decide) (by decide)) (sA_if (fun _ => h125 _ _ _) (fun _ => h125 _ _ _)))))
    rw [f_M_pair_36, qld_ok (by decide) (by decide), rm_5_13 hR, if_pos x1, w32_ok (z := y + 1) (by omega) (by omega)]
    refine sA_eq (mp_of hR I x0 x1 (f := 6) (by decide) (by decide) (by decide)) (sA_if (fun _ => ?_) (fun _ => ih s))
    refine sA_eq (mp_of hR I x0 x1 (f := 7) (by decide) (by decide) (by decide)) (sA_if (fun _ => ?_) (fun _ => ih s))
    exact sA_eq (mp_of hR I x0 x1 (f := 13) (by decide) (by decide) (by decide)) (sA_if (fun _ => h90 _ _ _) (fun _ => h90 _ _ _))
  · rw [f_M_pair_36, qld_ok (by decide) (by decide), rm_5_13 hR, if_neg (by omega)]
    unfold f_M_pair_158
    exact sA_if (fun _ => sA_s) (fun _ => sA_s)
theorem ms_late (hR : RM w S) (I : IV S) : sA w (f_M_late a b w) := by
  have hc := I.1.2.2.2.2.2.2.1
  unfold f_M_late
  refine sA_loop (σ := Int) (N := S 5 13) (L := fun m x s => f_M_late_5 m a b s x w) (fun m x s x0 x1 ih => ?_) (fun m s => ?_) hc.1 (by omega) 0
  · have h49 : ∀ s0 s1, sA w (f_M_late_49 (f_M_late_5 m) s0 s1 a b x w) := by
      intro s0 s1
      unfold f_M_late_49
      rw [w32_ok (z := x + 1) (by omega) (by omega)]
      exact ih _
    rw [f_M_late_5, qld_ok (by decide) (by decide), rm_5_13 hR, if_pos x1]
    refine sA_eq (mp_of hR I x0 x1 (f := 13) (by decide) (by decide) (by decide)) (sA_if (fun _ => h49 _ _) (fun _ => ?_))
    refine sA_eq (ms_lateOf hR I x0 x1) ?_
    refine sA_eq m_isIn ?_
    exact sA_if (fun _ => h49 _ _) (fun _ => h49 _ _)
  · rw [f_M_late_5, qld_ok (by decide) (by decide), rm_5_13 hR, if_neg (by omega)]; exact sA_s
/-- the next late one is more late, or there is none -/
theorem ms_above (hR : RM w S) (I : IV S) (a0 : -1 ≤ a) : ∃ y, f_M_lateAbove a w = some (y, w) ∧ (y = -1 ∨ (a < y ∧ y ≤ 1000000)) := by
  have hc := I.1.2.2.2.2.2.2.1
  have key : ∀ (m : Nat) (x s : Int), 0 ≤ x → x ≤ S 5 13 → S 5 13 - x < m → (s = -1 ∨ (a < s ∧ s ≤ 1000000)) → ∃ y, f_M_lateAbove_4 m a s x w = some (y, w) ∧ (y = -1 ∨ (a < y ∧ y ≤ 1000000)) := by
    intro m
    induction m with
    | zero => intro x s _ _ _ _; omega
    | succ m ih =>
      intro x s x0 x1 hm hs
      rw [f_M_lateAbove_4, qld_ok (by decide) (by decide), rm_5_13 hR]
      by_cases e : x < S 5 13
      · have hl := ms_lateOf hR I x0 e
        have hb := lof_in I x0 e
        generalize (if S 13 x = -1 then -1 else w32 (S 13 x - S 8 x)) = z at hl hb
        have IH := fun s hs => ih (x + 1) s (by omega) (by omega) (by omega) hs
        have h38 : a < z → ∃ y, f_M_lateAbove_38 (f_M_lateAbove_4 m) a x w = some (y, w) ∧ (y = -1 ∨ (a < y ∧ y ≤ 1000000)) := by
          intro hz
          unfold f_M_lateAbove_38
          rw [qbd hl, w32_ok (z := x + 1) (by omega) (by omega)]
          exact IH z (Or.inr ⟨hz, hb.2⟩)
        rw [if_pos e, qbd hl]
        dsimp only
        rw [w32_ok (z := x + 1) (by omega) (by omega)]
        by_cases c1 : z ≤ a
        · rw [if_pos c1]; exact IH s hs
        · rw [if_neg c1]
          by_cases c2 : s = -1
          · rw [if_pos c2]; exact h38 (by omega)
          · rw [if_neg c2, qbd hl]
            dsimp only
            by_cases c3 : z < s
            · rw [if_pos c3]; exact h38 (by omega)
            · rw [if_neg c3]; exact IH s hs
      · rw [if_neg e]
        exact ⟨s, rfl, hs⟩
  unfold f_M_lateAbove
  exact key qFU 0 (-1) (by omega) hc.1 (qFU_gt (by omega)) (Or.inl rfl)
theorem ms_lates (hR : RM w S) (I : IV S) : sA w (f_M_lates a x w) := by
  have key : ∀ (m : Nat) (y l : Int), 0 ≤ y → -1 ≤ l → l ≤ 1000000 → y + (1000000 - l) ≤ 1000001 → 1000001 - l < m → sA w (f_M_lates_9 m a x y l w) := by
    intro m
    induction m with
    | zero => intro y l _ _ _ _ _; omega
    | succ m ih =>
      intro y l y0 l0 l1 hy hm
      rw [f_M_lates_9]
      refine sA_if (fun _ => ?_) (fun c => ?_)
      · unfold f_M_lates_61
        exact sA_if (fun _ => sA_s) (fun _ => sA_s)
      · have h47 : sA w (f_M_lates_47 (f_M_lates_9 m) a x y l w) := by
          obtain ⟨z, ez, hz⟩ := ms_above hR I l0
          unfold f_M_lates_47
          refine sA_eq ez ?_
          dsimp only
          rw [w32_ok (z := y + 1) (by omega) (by omega)]
          rcases hz with hz | hz
          · rw [hz]
            cases m with
            | zero => omega
            | succ m =>
              rw [f_M_lates_9, if_pos rfl]
              unfold f_M_lates_61
              exact sA_if (fun _ => sA_s) (fun _ => sA_s)
          · exact ih (y + 1) z (by omega) (by omega) hz.2 (by omega) (by omega)
        refine sA_if (fun _ => ?_) (fun _ => h47)
        refine sA_eq m_isIn ?_
        dsimp only
        refine sA_if (fun _ => h47) (fun _ => ?_)
        unfold f_M_lates_29
        exact sA_if (fun _ => sA_s) (fun _ => sA_e (ms_late hR I))
  obtain ⟨z, ez, hz⟩ := ms_above (a := -1) hR I (by omega)
  unfold f_M_lates
  refine sA_eq ez ?_
  exact key qFU 0 z (by omega) (by omega) (by omega) (by omega) (qFU_gt (by omega))
theorem ms_lane (hR : RM w S) (I : IV S) : sA w (f_M_inLane l w) := by
  have hN := gN I.1.1
  unfold f_M_inLane
  refine sA_loop (σ := Int) (N := S 1 3 * S 1 4) (L := fun m x s => f_M_inLane_4 m l s x w) (fun m x s x0 x1 ih => ?_) (fun m s => ?_) (by omega) (by omega) 0
  · rw [f_M_inLane_4, qbd (mg_nodes hR.wh I.1.1)]
    dsimp only
    rw [if_pos x1]
    refine sA_loop (σ := Int) (N := 9) (L := fun m' y s' => f_M_inLane_15 (f_M_inLane_4 m) m' l s' x y w) (fun m' y s' y0 y1 ih' => ?_) (fun m' s' => ?_) (by omega) (by omega) s
    · have h44 : ∀ s0 s1, sA w (f_M_inLane_44 (f_M_inLane_4 m) (f_M_inLane_15 (f_M_inLane_4 m) m') s0 s1 l x y w) := by
        intro s0 s1
        unfold f_M_inLane_44
        rw [w32_ok (z := y + 1) (by omega) (by omega)]
        exact ih' _
      rw [f_M_inLane_15, if_pos y1, qdv_ok (by decide)]
      exact sA_if (fun _ => sA_eq (m_many hR x0 (by omega) y0 y1) (h44 _ _)) (fun _ => h44 _ _)
    · rw [f_M_inLane_15, if_neg (by decide), w32_ok (z := x + 1) (by omega) (by omega)]
      exact ih _
  · rw [f_M_inLane_4, qbd (mg_nodes hR.wh I.1.1)]
    dsimp only
    rw [if_neg (by omega)]; exact sA_s
theorem ms_marks (hR : RM w S) (I : IV S) : sA w (f_M_marksNow w) := by
  have h16 := g16r I.1.1
  have g := I.1.1
  obtain ⟨⟨ga, gb⟩, gc, gd'⟩ := g
  unfold f_M_marksNow
  refine sA_loop (σ := Int) (N := 2 * (S 1 3 + S 1 4)) (L := fun m x s => f_M_marksNow_4 m s x w) (fun m x s x0 x1 ih => ?_) (fun m s => ?_) (by omega) (by omega) 0
  · have h33 : ∀ s0 s1, sA w (f_M_marksNow_33 (f_M_marksNow_4 m) s0 s1 x w) := by
      intro s0 s1
      unfold f_M_marksNow_33
      rw [w32_ok (z := x + 1) (by omega) (by omega)]
      exact ih _
    rw [f_M_marksNow_4, qbd (mg_rings hR.wh I.1.1)]
    dsimp only
    rw [if_pos x1]
    refine sA_eq (m_ringAt x0 (by omega)) ?_
    dsimp only
    rw [w32_ok (by omega) (by omega), qld_ok (by omega) (by omega)]
    exact sA_if (fun _ => h33 _ _) (fun _ => h33 _ _)
  · rw [f_M_marksNow_4, qbd (mg_rings hR.wh I.1.1)]
    dsimp only
    rw [if_neg (by omega)]; exact sA_s
theorem ms_look (hR : RM w S) (I : IV S) : sA w (f_M_look x w) := by
  unfold f_M_look
  refine sA_eq m_isIn ?_
  dsimp only
  rw [bi_if]
  refine sA_if (fun c => ?_) (fun _ => ?_)
  · rw [qld_ok (by omega) (by omega)]; exact sA_s
  · refine sA_if (fun _ => sA_e (ms_lane hR I)) (fun _ => ?_)
    refine sA_if (fun _ => sA_e (ms_lane hR I)) (fun _ => ?_)
    refine sA_if (fun _ => sA_e (ms_lane hR I)) (fun _ => ?_)
    refine sA_if (fun _ => by rw [qld_ok (by decide) (by decide)]; exact sA_s) (fun _ => ?_)
    refine sA_if (fun _ => by rw [qld_ok (by decide) (by decide)]; exact sA_s) (fun _ => ?_)
    refine sA_if (fun _ => by rw [qld_ok (by decide) (by decide)]; exact sA_s) (fun _ => ?_)
    refine sA_if (fun _ => by rw [qld_ok (by decide) (by decide)]; exact sA_s) (fun _ => ?_)
    refine sA_if (fun _ => sA_e (ms_marks hR I)) (fun _ => ?_)
    refine sA_if (fun _ => sA_s) (fun _ => ?_)
    refine sA_if (fun _ => by rw [qld_ok (by decide) (by decide)]; exact sA_s) (fun _ => ?_)
    refine sA_if (fun _ => by rw [qld_ok (by decide) (by decide)]; exact sA_s) (fun _ => ?_)
    exact sA_s
end Q6
