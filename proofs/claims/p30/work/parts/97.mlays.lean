/-! schedules, the reference: all states; asked -/
def mK (W H C : Int) (wB w : qMem) : Prop := (mN W H C w ∧ mLv C w ∧ mFr wB w) ∧ mS (W * H) w ∧ w 88 8 ≤ 400
/-- what the schedules leave as it was -/
def FSc (w w' : qMem) : Prop := (∀ k : Nat, k ≠ 88 → k ≠ 89 → k ≠ 90 → k ≠ 92 → k ≠ 93 → k ≠ 94 → w' k = w k) ∧ ∀ j, j ≠ 7 → j ≠ 8 → j ≠ 9 → w' 88 j = w 88 j
def FLv (w w' : qMem) : Prop := (∀ k : Nat, k ≠ 88 → k ≠ 94 → w' k = w k) ∧ ∀ j, j ≠ 7 → w' 88 j = w 88 j
section R6
variable {w w' w0 w2 wB S : qMem} {W H C N x y r i v q s d l p k n L a b : Int} {f f' : Int → Int}
theorem mJ.kk (h : mJ W H C k L f wB w) : mK W H C wB w := ⟨h.1.1, h.1.2.1.1, h.1.2.1.2.2⟩
theorem m_lays30 : ∀ (m : Nat) (x1 x2 x3 x4 x5 k : Int) (w : qMem), 0 ≤ k → k ≤ 401 → 401 - k < m → mK W H C wB w → kT (f_M_laysSchedules_30 m x1 x2 x3 x4 x5 k w) (fun r => mFr wB r.2) := by
  intro m
  induction m with
  | zero => intro x1 x2 x3 x4 x5 k w _ _ _ _; omega
  | succ m ih =>
    intro x1 x2 x3 x4 x5 k w k0 k1 hm h
    have g := h.1.1.1.2
    have hN := gN g
    rw [f_M_laysSchedules_30]
    refine kT_if (fun c => ?_) (fun _ => ?_)
    · refine kT_bind (m_opens h.1.1 h.2.1 h.1.2.1 k0 c) (fun w1 h1 => ?_)
      have hp : mPre W H C k (w 88 7) (fun i => w 92 (19 * k + i)) wB w := ⟨h.1, ⟨h.2.1, ⟨k0, c⟩, h.2.2⟩, rfl, fun _ _ _ => rfl⟩
      have hJ : mJ W H C k (w 88 7) (fun i => w 92 (19 * k + i)) wB w1 := ⟨hp.op h1, h1.self⟩
      have hlane : ∀ l, sA w1 (f_M_inLane l w1) := fun l => r_lane hJ.1.1.1
      have h214 : ∀ s0 a1 a2 a4 a5 u, mJ W H C k (w 88 7) (fun i => w 92 (19 * k + i)) wB u → kT (f_M_laysSchedules_214 (f_M_laysSchedules_30 m) s0 a1 a2 a4 a5 k u) (fun r => mFr wB r.2) := by
        intro s0 a1 a2 a4 a5 u hu
        unfold f_M_laysSchedules_214
        rw [w32_ok (z := k + 1) (by omega) (by omega)]
        have := h.2.2
        exact ih _ _ _ _ _ (k + 1) u (by omega) (by omega) (by omega) hu.kk
      have h190 : ∀ s0 s1 a1 a3 a4 a5 a7 u, mJ W H C k (w 88 7) (fun i => w 92 (19 * k + i)) wB u → kT (f_M_laysSchedules_190 (f_M_laysSchedules_30 m) s0 s1 a1 a3 a4 a5 k a7 u) (fun r => mFr wB r.2) := by
        intro s0 s1 a1 a3 a4 a5 a7 u hu
        unfold f_M_laysSchedules_190
        have := h.2.2
        refine kT_if (fun _ => ?_) (fun _ => h214 _ _ _ _ _ u hu)
        rw [qld_ok k0 (by omega), qdv_ok (by decide)]
        exact h214 _ _ _ _ _ u hu
      have h172 : ∀ a1 a2 a3 a4 a5 a7 u, mJ W H C k (w 88 7) (fun i => w 92 (19 * k + i)) wB u → kT (f_M_laysSchedules_172 (f_M_laysSchedules_30 m) a1 a2 a3 a4 a5 k a7 u) (fun r => mFr wB r.2) := by
        intro a1 a2 a3 a4 a5 a7 u hu
        unfold f_M_laysSchedules_172
        exact kT_if (fun _ => h190 _ _ _ _ _ _ _ u hu) (fun _ => kT_if (fun _ => h190 _ _ _ _ _ _ _ u hu) (fun _ => h190 _ _ _ _ _ _ _ u hu))
      have h104 : ∀ s0 a1 a2 a3 a4 a7, kT (f_M_laysSchedules_104 (f_M_laysSchedules_30 m) s0 a1 a2 a3 a4 k a7 w1) (fun r => mFr wB r.2) := by
        intro s0 a1 a2 a3 a4 a7
        unfold f_M_laysSchedules_104
        rw [qlt_ok]
        refine kC_loop (σ := Unit) (N := W * H) (L := fun m' v _ u => f_M_laysSchedules_114 (f_M_laysSchedules_30 m) m' a1 a2 a3 a4 s0 k a7 v u) (J := fun _ u => mJ W H C k (w 88 7) (fun i => w 92 (19 * k + i)) wB u) (fun m' v _ u v0 v1 hu ihv => ?_) (fun m' _ u hu => ?_) (by omega) (by omega) () hJ.w9
        · rw [f_M_laysSchedules_114, qbd (mg_nodes hu.1.1.1.1.1 g)]
          dsimp only
          rw [if_pos v1]
          refine kC_loop (σ := Unit) (N := 9) (L := fun m'' q _ u => f_M_laysSchedules_126 (f_M_laysSchedules_30 m) (f_M_laysSchedules_114 (f_M_laysSchedules_30 m) m') m'' a1 a2 a3 a4 s0 k a7 v q u) (J := fun _ u => mJ W H C k (w 88 7) (fun i => w 92 (19 * k + i)) wB u) (fun m'' q _ u q0 q1 hu ihq => ?_) (fun m'' _ u hu => ?_) (by omega) (by omega) () hu
          · rw [f_M_laysSchedules_126, if_pos q1, qbd (r_first v0 (by omega) q0 q1)]
            dsimp only
            rw [w32_ok (z := q + 1) (by omega) (by omega)]
            refine kT_if (fun _ => ihq () _ hu) (fun c => ?_)
            have e : mz u (v * 9 + q) = mc (fun i => w 92 (19 * k + i)) (w 88 7) (v * 9 + q) 3 0 := hu.2.2.1 (v * 9 + q) (by omega) (by omega)
            have hin := mc_in (f := fun i => w 92 (19 * k + i)) (L := w 88 7) (q := v * 9 + q) (x := 3) (y := 0)
            have h1 : 1 ≤ mc (fun i => w 92 (19 * k + i)) (w 88 7) (v * 9 + q) 3 0 := by
              by_cases z : mz u (v * 9 + q) = 0
              · exfalso
                unfold mfs at c
                rw [if_pos z] at c
                exact c rfl
              · omega
            refine kT_bind (m_goesAll hu v0 v1 q0 q1 h1) (fun r hr => ?_)
            refine kT_if (fun _ => kT_some hr.1) (fun c => ?_)
            exact ihq () _ (hr.2.resolve_left c).2
          · rw [f_M_laysSchedules_126, if_neg (by decide), w32_ok (z := v + 1) (by omega) (by omega)]
            exact ihv () _ hu
        · rw [f_M_laysSchedules_114, qbd (mg_nodes hu.1.1.1.1.1 g)]
          dsimp only
          rw [if_neg (by omega)]
          exact h172 _ _ _ _ _ _ u hu
      have h84 : ∀ s0 a1 a2 a3 a5 a7, kT (f_M_laysSchedules_84 (f_M_laysSchedules_30 m) s0 a1 a2 a3 a5 k a7 w1) (fun r => mFr wB r.2) := by
        intro s0 a1 a2 a3 a5 a7
        unfold f_M_laysSchedules_84
        refine kT_sA (r_fewest hJ.1.1.1) (fun y => ?_)
        refine kT_if (fun _ => ?_) (fun _ => h104 _ _ _ _ _ _)
        exact kT_sA (r_fewest hJ.1.1.1) (fun y => h104 _ _ _ _ _ _)
      refine kT_sA (hlane 0) (fun y0 => ?_)
      refine kT_sA (hlane 1) (fun y1 => ?_)
      refine kT_sA (hlane 2) (fun y2 => ?_)
      refine kT_sA (hlane 1) (fun y3 => ?_)
      refine kT_if (fun _ => h84 _ _ _ _ _ _) (fun _ => ?_)
      exact kT_sA (hlane 1) (fun y4 => h84 _ _ _ _ _ _)
    · unfold f_M_laysSchedules_221
      have hf : ∀ z : Int, kT (some (z, w)) (fun r => mFr wB r.2) := fun z => kT_some h.1.2.2
      exact kT_if (fun _ => hf _) (fun _ => kT_if (fun _ => hf _) (fun _ => kT_if (fun _ => hf _) (fun _ => kT_if (fun _ => hf _) (fun _ => hf _))))
theorem m_laysS (hn : mN W H C w) (hL : mLv C w) (hz : mSz (W * H) w) : kT (f_M_laysSchedules x w) (fun r => mFr w r.2) := by
  unfold f_M_laysSchedules
  rw [qlt_ok]
  have e : ∀ k : Nat, k ≠ 88 → qud w 88 8 0 k = w k := fun k hk => qud_row hk
  have e2 : ∀ j : Int, j ≠ 8 → qud w 88 8 0 88 j = w 88 j := fun j hj => qud_ni hj
  have n1 : mN W H C (qud w 88 8 0) := by
    unfold mN; rw [e 89 (by decide)]; exact hn
  have z1 : mSz (W * H) (qud w 88 8 0) := by
    unfold mSz mz; rw [e 89 (by decide)]; exact hz
  have s1 : mS (W * H) (qud w 88 8 0) := ⟨by rw [qud_s]; omega, fun k i k0 k1 _ _ => by rw [qud_s] at k1; omega⟩
  have l1 : mLv C (qud w 88 8 0) := by
    unfold mLv; rw [e2 7 (by decide), e 94 (by decide)]; exact hL
  have f1 : mFr w (qud w 88 8 0) := ⟨fun k a _ _ _ => e k a, fun j a _ => e2 j a⟩
  refine kT_bind (m_meets n1 z1 s1 (by rw [qud_s]; decide) l1.1) (fun r hr => ?_)
  obtain ⟨hr0, hrs, hrm⟩ := hr
  have h8 := hrm.2.2.1
  rw [qud_s] at h8
  refine kT_st hr0.1 (by omega) ?_
  have e3 : ∀ k : Nat, k ≠ 93 → qud r.2 93 r.1 1 k = r.2 k := fun k hk => qud_row hk
  refine m_lays30 (W := W) (H := H) (C := C) qFU x 0 0 0 1000 0 _ (by decide) (by decide) (qFU_gt (by decide)) ⟨⟨?_, ?_, ?_⟩, ?_, ?_⟩
  · unfold mN; rw [e3 89 (by decide), hrm.1 89 (by decide) (by decide) (by decide)]; exact n1
  · unfold mLv; rw [e3 88 (by decide), e3 94 (by decide), hrm.2.1 7 (by decide), hrm.1 94 (by decide) (by decide) (by decide)]; exact l1
  · exact (f1.tr (mFr.mt hrm)).tr ⟨fun k _ _ _ a => e3 k a, fun j _ _ => by rw [e3 88 (by decide)]⟩
  · unfold mS; rw [e3 88 (by decide), e3 92 (by decide)]; exact hrs
  · rw [e3 88 (by decide)]; omega
/-- what is known of the live ones -/
def mLw (S w : qMem) (x : Int) (w' : qMem) : Prop := (FLv w w' ∧ (0 ≤ w' 88 7 ∧ w' 88 7 ≤ 3)) ∧ (∀ i, 0 ≤ i → i < w' 88 7 → 0 ≤ w' 94 i ∧ w' 94 i < x) ∧ ∀ p, 0 ≤ p → p < x → S 13 p = -1 → ∃ i, (0 ≤ i ∧ i < w' 88 7) ∧ w' 94 i = p
theorem m_live (hR : RM w S) (I : IV S) : kT (f_M_laysLive w) (fun r => FLv w r.2 ∧ (r.1 = 0 ∨ (r.1 = 1 ∧ mLw S w (S 5 13) r.2))) := by
  have hc := I.1.2.2.2.2.2.2.1
  unfold f_M_laysLive
  rw [qlt_ok]
  refine kD_loop (σ := Unit) (N := S 5 13) (L := fun m x _ u => f_M_laysLive_7 m x u) (J := fun x _ u => mLw S w x u) (fun m x _ u x0 x1 hu ih => ?_) (fun m _ u hu => ?_) hc.1 (by omega) () ⟨⟨⟨fun k a _ => qud_row a, fun j a => qud_ni a⟩, by rw [qud_s]; decide⟩, fun i i0 i1 => by rw [qud_s] at i1; omega, fun p p0 p1 => by omega⟩
  · have hR2 : RM u S := hR.fr (fun j _ _ => by rw [hu.1.1.1 89 (by decide) (by decide)])
    have h7 := hu.1.2
    rw [f_M_laysLive_7, qld_ok (by decide) (by decide), rm_5_13 hR2, if_pos x1, qbd (mp_of hR2 I x0 x1 (f := 13) (by decide) (by decide) (by decide))]
    dsimp only
    rw [w32_ok (z := x + 1) (by omega) (by omega)]
    refine kT_if (fun c => ?_) (fun c => ?_)
    · refine kT_if (fun _ => kT_some ⟨hu.1.1, Or.inl rfl⟩) (fun c3 => ?_)
      refine kT_st h7.1 (by omega) ?_
      rw [qlt_ok, qud_row (show (88 : Nat) ≠ 94 by decide), w32_ok (z := u 88 7 + 1) (by omega) (by omega)]
      refine ih () _ ⟨⟨⟨fun k a b => by rw [qud_row a, qud_row b, hu.1.1.1 k a b], fun j a => by rw [qud_ni a, qud_row (by decide), hu.1.1.2 j a]⟩, by rw [qud_s]; omega⟩, fun i i0 i1 => ?_, fun p p0 p1 hp => ?_⟩
      · rw [qud_s] at i1
        rw [qud_row (by decide), qud_if]
        split
        · omega
        · have := hu.2.1 i i0 (by omega)
          omega
      · rw [qud_s, qud_row (k' := 94) (by decide)]
        by_cases e : p = x
        · exact ⟨u 88 7, by omega, by rw [qud_s, e]⟩
        · obtain ⟨i, hi, e2⟩ := hu.2.2 p p0 (by omega) hp
          exact ⟨i, by omega, by rw [qud_ni (by omega)]; exact e2⟩
    · refine ih () _ ⟨hu.1, fun i i0 i1 => ?_, fun p p0 p1 hp => ?_⟩
      · have := hu.2.1 i i0 i1
        omega
      · by_cases e : p = x
        · rw [e] at hp; exact absurd hp c
        · exact hu.2.2 p p0 (by omega) hp
  · have hR2 : RM u S := hR.fr (fun j _ _ => by rw [hu.1.1.1 89 (by decide) (by decide)])
    rw [f_M_laysLive_7, qld_ok (by decide) (by decide), rm_5_13 hR2, if_neg (by omega)]
    exact kT_some ⟨hu.1.1, Or.inr ⟨rfl, hu⟩⟩
theorem m_few (I : IV S) (h : mLw S w (S 5 13) w') (q0 : 0 ≤ q) (q1 : q < 144) : S 20 q ≤ 3 := by
  by_cases e : S 20 q ≤ 3
  · exact e
  · exfalso
    have it : ∀ j, 0 ≤ j → j < 4 → ∃ i, (0 ≤ i ∧ i < w' 88 7) ∧ w' 94 i = S 21 (q * 6 + j) := by
      intro j j0 j1
      have hq := I.2.1.2.2.1 q j q0 q1 j0 (by omega)
      have hp := I.2.1.1 _ hq.1.1 hq.1.2
      have hl := hq.2.1
      have h9 : S 9 (S 21 (q * 6 + j)) ≠ 3 := by
        intro z
        unfold lof at hl
        rw [if_pos z] at hl
        omega
      have h13 : S 13 (S 21 (q * 6 + j)) = -1 := by
        by_cases z : S 13 (S 21 (q * 6 + j)) = -1
        · exact z
        · exact absurd (hp.2.2.2.1.mpr z) h9
      exact h.2.2 _ hq.1.1 hq.1.2 h13
    have df : ∀ i j, 0 ≤ i → i < j → j < 4 → S 21 (q * 6 + i) ≠ S 21 (q * 6 + j) := fun i j i0 i1 j1 => (I.2.1.2.2.1 q j q0 q1 (by omega) (by omega)).2.2 i i0 i1
    obtain ⟨i0, a0, b0⟩ := it 0 (by decide) (by decide)
    obtain ⟨i1, a1, b1⟩ := it 1 (by decide) (by decide)
    obtain ⟨i2, a2, b2⟩ := it 2 (by decide) (by decide)
    obtain ⟨i3, a3, b3⟩ := it 3 (by decide) (by decide)
    have h3 := h.1.2.2
    rcases (by omega : i0 = i1 ∨ i0 = i2 ∨ i0 = i3 ∨ i1 = i2 ∨ i1 = i3 ∨ i2 = i3) with z | z | z | z | z | z
    · rw [z, b1] at b0; exact df 0 1 (by decide) (by decide) (by decide) b0.symm
    · rw [z, b2] at b0; exact df 0 2 (by decide) (by decide) (by decide) b0.symm
    · rw [z, b3] at b0; exact df 0 3 (by decide) (by decide) (by decide) b0.symm
    · rw [z, b2] at b1; exact df 1 2 (by decide) (by decide) (by decide) b1.symm
    · rw [z, b3] at b1; exact df 1 3 (by decide) (by decide) (by decide) b1.symm
    · rw [z, b3] at b2; exact df 2 3 (by decide) (by decide) (by decide) b2.symm
theorem m_schedules (hR : RM w S) (I : IV S) : kT (f_M_schedules x w) (fun r => RM r.2 S ∧ FSc w r.2) := by
  have g := I.1.1
  have hN := gN g
  have hc := I.1.2.2.2.2.2.2.1
  unfold f_M_schedules
  refine kT_eq m_isIn ?_
  dsimp only
  rw [bi_if]
  refine kT_if (fun _ => ?_) (fun _ => kT_some ⟨hR, fun _ _ _ _ _ _ _ => rfl, fun _ _ _ _ => rfl⟩)
  refine kT_bind (m_live hR I) (fun r hr => ?_)
  have e89 : r.2 89 = w 89 := hr.1.1 89 (by decide) (by decide)
  have hR1 : RM r.2 S := hR.fr (fun j _ _ => by rw [e89])
  refine kT_if (fun _ => kT_some ⟨hR1, fun k a _ _ _ _ b => hr.1.1 k a b, fun j a _ _ => hr.1.2 j a⟩) (fun c => ?_)
  have hw := (hr.2.resolve_left c).2
  refine kT_bind m_aside (fun w2 h2 => ?_)
  obtain ⟨⟨h2a, h2b⟩, h2c⟩ := h2
  have hR2 : RM w2 S := hR1.fr (fun j _ _ => h2c j)
  have n2 : mN (S 1 3) (S 1 4) (S 5 13) w2 := ⟨⟨hR2.wh, g⟩, hc, fun p p0 p1 => by rw [rm_7 hR2 p0 p1 hc.2 rfl]; exact (I.2.1.1 p p0 p1).1.2.1⟩
  have e7 : w2 88 = r.2 88 := h2a 88 (by decide) (by decide)
  have e94 : w2 94 = r.2 94 := h2a 94 (by decide) (by decide)
  have l2 : mLv (S 5 13) w2 := by
    unfold mLv; rw [e7, e94]; exact ⟨hw.1.2, hw.2.1⟩
  have z2 : mSz (S 1 3 * S 1 4) w2 := fun q q0 q1 => by
    have e : mz w2 q = S 20 q := rm_20 hR2 q0 (by omega) rfl
    rw [e]
    exact ⟨(I.2.1.2.1 q q0 (by omega)).1.1, m_few I hw q0 (by omega)⟩
  refine kT_bind (m_laysS n2 l2 z2) (fun r3 h3 => ?_)
  have hk : kept (fun k j => if k = 89 then w 89 j else r3.2 k j) r3.2 := by
    refine ⟨fun k a _ => ?_, fun j j0 j1 => ?_⟩
    · funext j
      exact (if_neg a).symm
    · show r3.2 90 j = w 89 j
      rw [h3.1 90 (by decide) (by decide) (by decide) (by decide), h2b j j0 j1, e89]
  have hRa : RM (fun k j => if k = 89 then w 89 j else r3.2 k j) S := hR.fr (fun j _ _ => if_pos rfl)
  refine kT_bind (m_back hRa hk) (fun w4 h4 => ?_)
  have e4 : ∀ k : Nat, k ≠ 89 → k ≠ 90 → w4 k = r3.2 k := fun k a b => by
    rw [h4.2 k a b]
    funext j
    exact if_neg a
  refine kT_some ⟨h4.1, fun k a b c d e f => ?_, fun j a b c => ?_⟩
  · show w4 k = w k
    rw [e4 k b c, h3.1 k a b d e, h2a k b c, hr.1.1 k a f]
  · show w4 88 j = w 88 j
    rw [e4 88 (by decide) (by decide), h3.2 j b c, e7, hr.1.2 j a]
end R6
