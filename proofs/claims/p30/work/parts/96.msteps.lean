/-! schedules, the reference: all steps of a state -/
def mFr (w w' : qMem) : Prop := (∀ k : Nat, k ≠ 88 → k ≠ 89 → k ≠ 92 → k ≠ 93 → w' k = w k) ∧ ∀ j, j ≠ 8 → j ≠ 9 → w' 88 j = w 88 j
def mPre (W H C k L : Int) (f : Int → Int) (wB w : qMem) : Prop := (mN W H C w ∧ mLv C w ∧ mFr wB w) ∧ (mS (W * H) w ∧ (0 ≤ k ∧ k < w 88 8) ∧ w 88 8 ≤ 400) ∧ w 88 7 = L ∧ ∀ i, 0 ≤ i → i < 3 → w 92 (19 * k + i) = f i
def mJ (W H C k L : Int) (f : Int → Int) (wB w : qMem) : Prop := mPre W H C k L f wB w ∧ mOp W H C w (fun q => mc f L q 3 0) w
/-- what a step of a state leads to -/
def mRs (W H C k L : Int) (f : Int → Int) (wB : qMem) (r : Int × qMem) : Prop := mFr wB r.2 ∧ (r.1 = 0 ∨ (r.1 = 1 ∧ mJ W H C k L f wB r.2))
section R5
variable {w w' w0 w2 wB : qMem} {W H C N x y r i v q s d l p k n L a b : Int} {f f' : Int → Int}
theorem mFr.rfl' : mFr w w := ⟨fun _ _ _ _ _ => rfl, fun _ _ _ => rfl⟩
theorem mFr.tr (h : mFr w w') (h2 : mFr w' w2) : mFr w w2 := ⟨fun k a b c d => (h2.1 k a b c d).trans (h.1 k a b c d), fun j a b => (h2.2 j a b).trans (h.2 j a b)⟩
theorem mFr.mt (h : mMt w w') : mFr w w' := ⟨fun k a _ b c => h.1 k a b c, fun j a _ => h.2.1 j a⟩
theorem mFr.o9 (h : ∀ k : Nat, k ≠ 89 → w' k = w k) : mFr w w' := ⟨fun k _ a _ _ => h k a, fun j _ _ => by rw [h 88 (by decide)]⟩
theorem mc_co (h : ∀ i, 0 ≤ i → i < 3 → f i = f' i) : mc f L q x y = mc f' L q x y := by
  unfold mc mt
  rw [h 0 (by decide) (by decide), h 1 (by decide) (by decide), h 2 (by decide) (by decide)]
theorem gn_ne (g : gIn W H) (v0 : 0 ≤ v) (v1 : v < W * H) (d0 : 0 ≤ d) (d1 : d < 4) : gn W H v d ≠ v := by
  obtain ⟨⟨a, b⟩, c, e⟩ := g
  unfold gn
  rcases (by omega : W = 2 ∨ W = 3 ∨ W = 4) with rfl | rfl | rfl <;> rcases (by omega : H = 2 ∨ H = 3 ∨ H = 4) with rfl | rfl | rfl <;> rcases (by omega : d = 0 ∨ d = 1 ∨ d = 2 ∨ d = 3) with rfl | rfl | rfl | rfl <;> (simp only [Int.reduceEq, reduceIte]; omega)
/-- the row is changed, all else is as it was -/
theorem mPre.op {c : Int → Int} (h : mPre W H C k L f wB w) (ho : mOp W H C w c w') : mPre W H C k L f wB w' := by
  have e88 : w' 88 = w 88 := ho.1.1 88 (by decide)
  have e92 : w' 92 = w 92 := ho.1.1 92 (by decide)
  have e94 : w' 94 = w 94 := ho.1.1 94 (by decide)
  refine ⟨⟨ho.1.2, ?_, h.1.2.2.tr (mFr.o9 ho.1.1)⟩, ⟨?_, ?_, ?_⟩, ?_, ?_⟩
  · unfold mLv; rw [e88, e94]; exact h.1.2.1
  · unfold mS; rw [e88, e92]; exact h.2.1.1
  · rw [e88]; exact h.2.1.2.1
  · rw [e88]; exact h.2.1.2.2
  · rw [e88]; exact h.2.2.1
  · rw [e92]; exact h.2.2.2
theorem mOp.self {c : Int → Int} (h : mOp W H C w c w') : mOp W H C w' c w' := ⟨⟨fun _ _ => rfl, h.1.2⟩, h.2⟩
theorem mJ.w9 (h : mJ W H C k L f wB w) : mJ W H C k L f wB (qud w 88 9 v) := by
  have e : ∀ k : Nat, k ≠ 88 → qud w 88 9 v k = w k := fun k hk => qud_row hk
  have e2 : ∀ j : Int, j ≠ 9 → qud w 88 9 v 88 j = w 88 j := fun j hj => qud_ni hj
  have hn : mN W H C (qud w 88 9 v) := by
    unfold mN; rw [e 89 (by decide)]; exact h.1.1.1
  refine ⟨⟨⟨hn, ?_, h.1.1.2.2.tr ⟨fun k a _ _ _ => e k a, fun j _ a => e2 j a⟩⟩, ⟨?_, ?_, ?_⟩, ?_, ?_⟩, ⟨fun _ _ => rfl, hn⟩, ?_, ?_⟩
  · unfold mLv; rw [e2 7 (by decide), e 94 (by decide)]; exact h.1.1.2.1
  · unfold mS; rw [e2 8 (by decide), e 92 (by decide)]; exact h.1.2.1.1
  · rw [e2 8 (by decide)]; exact h.1.2.1.2.1
  · rw [e2 8 (by decide)]; exact h.1.2.1.2.2
  · rw [e2 7 (by decide)]; exact h.1.2.2.1
  · rw [e 92 (by decide)]; exact h.1.2.2.2
  · unfold mz; rw [e 89 (by decide)]; exact h.2.2.1
  · unfold mQi mz; rw [e 89 (by decide)]; exact h.2.2.2
theorem m_comesFrom (h : mPre W H C k L f wB w) (hz : mSz (W * H) w) : kT (f_M_comesFrom k w) (mRs W H C k L f wB) := by
  obtain ⟨⟨hn, hL, hF⟩, ⟨hs, hk, h4⟩, eL, ef⟩ := h
  unfold f_M_comesFrom
  refine kT_bind (m_meets hn hz hs h4 hL.1) (fun r hr => ?_)
  obtain ⟨hr0, hrs, hrm⟩ := hr
  have hF2 : mFr wB r.2 := hF.tr (mFr.mt hrm)
  refine kT_if (fun c => ?_) (fun _ => kT_some ⟨hF2, Or.inl rfl⟩)
  have h8 := hrm.2.2.1
  rw [qld_ok hr0.1 (by omega), qld_ok hk.1 (by omega), qdv_ok (by decide)]
  refine kT_st hr0.1 (by omega) ?_
  generalize jrem (w32 (r.2 93 r.1 + r.2 93 k)) 1000003 = z
  have e : ∀ k : Nat, k ≠ 93 → qud r.2 93 r.1 z k = r.2 k := fun k hk => qud_row hk
  have e89 : r.2 89 = w 89 := hrm.1 89 (by decide) (by decide) (by decide)
  have e94 : r.2 94 = w 94 := hrm.1 94 (by decide) (by decide) (by decide)
  have e7 : r.2 88 7 = w 88 7 := hrm.2.1 7 (by decide)
  have n5 : mN W H C (qud r.2 93 r.1 z) := by
    unfold mN; rw [e 89 (by decide), e89]; exact hn
  have s5 : mS (W * H) (qud r.2 93 r.1 z) := by
    unfold mS; rw [e 88 (by decide), e 92 (by decide)]; exact hrs
  have l5 : mLv C (qud r.2 93 r.1 z) := by
    unfold mLv; rw [e 88 (by decide), e 94 (by decide), e7, e94]; exact hL
  have f5 : mFr wB (qud r.2 93 r.1 z) := hF2.tr ⟨fun k _ _ _ a => e k a, fun j _ _ => by rw [e 88 (by decide)]⟩
  have ef5 : ∀ i, 0 ≤ i → i < 3 → qud r.2 93 r.1 z 92 (19 * k + i) = f i := fun i i0 i1 => by
    rw [e 92 (by decide), hrm.2.2.2 k i hk.1 hk.2 i0 (by omega)]
    exact ef i i0 i1
  have p5 : mPre W H C k L f wB (qud r.2 93 r.1 z) := ⟨⟨n5, l5, f5⟩, ⟨s5, by rw [e 88 (by decide)]; omega, by rw [e 88 (by decide)]; exact c⟩, by rw [e 88 (by decide), e7]; exact eL, ef5⟩
  refine kT_bind (m_opens n5 s5 l5 hk.1 (by rw [e 88 (by decide)]; omega)) (fun w6 h6 => ?_)
  have h6' : mOp W H C (qud r.2 93 r.1 z) (fun q => mc f L q 3 0) w6 := by
    refine ⟨h6.1, fun q a b => ?_, h6.2.2⟩
    rw [h6.2.1 q a b]
    unfold mcn
    rw [e 88 (by decide), e7, eL]
    exact mc_co ef5
  have p6 := p5.op h6'
  exact kT_some ⟨p6.1.2.2, Or.inr ⟨rfl, p6, h6'.self⟩⟩
theorem m_step94 {c : Int → Int} {ww : qMem} (h : mPre W H C k L f wB w) (ho : mOp W H C w c w') (hc : mC3 (W * H) c) (h2 : ∀ a b, 0 ≤ a → a < 9 * (W * H) → 0 ≤ b → b < 9 * (W * H) → a ≠ b → c a + c b ≤ 3) (v0 : 0 ≤ v) (v1 : v < W * H) (q0 : 0 ≤ q) (q1 : q < 9) (d0 : 0 ≤ d) (d1 : d < 4) (h1 : 1 ≤ c (v * 9 + q)) (p0 : 0 ≤ p) (p1 : p < C) : kT (f_M_stepsTo_94 k v q d b p (gn W H v d) w') (mRs W H C k L f wB) := by
  have g := h.1.1.1.2
  have hN := gN g
  have hn := gn_in g v0 v1 d0 d1
  have hne := gn_ne g v0 v1 d0 d1
  unfold f_M_stepsTo_94
  have hc' : mC3 (W * H) (fun r => c r - if r = v * 9 + q then 1 else 0) := by
    intro r r0 r1
    have := hc r r0 r1
    dsimp only
    split
    · rename_i e; rw [e] at this ⊢; omega
    · omega
  refine kT_bind (r_leaves (c' := fun r => c r - if r = v * 9 + q then 1 else 0) ho hc v0 v1 q0 q1 h1 (fun _ => rfl)) (fun w3 h3 => ?_)
  have go : ∀ e, e = 1 ∨ e = 5 → kT (f_M_stepsTo_113 (gn W H v d) e k d p w3) (mRs W H C k L f wB) := by
    intro e he
    have ht : gn W H v d * 9 + (e + d) ≠ v * 9 + q := by omega
    have hs := h2 (gn W H v d * 9 + (e + d)) (v * 9 + q) (by omega) (by omega) (by omega) (by omega) ht
    unfold f_M_stepsTo_113
    rw [w32_ok (z := e + d) (by omega) (by omega)]
    refine kT_bind (r_comes (c' := fun r => (c r - if r = v * 9 + q then 1 else 0) + if r = gn W H v d * 9 + (e + d) then 1 else 0) h3 hc' hn.1 hn.2 (by omega) (by omega) (by rw [if_neg ht]; omega) p0 p1 (fun _ => rfl)) (fun w4 h4 => ?_)
    have hz : mSz (W * H) w4 := by
      intro r r0 r1
      rw [h4.2.1 r r0 r1]
      have a := hc' r r0 r1
      dsimp only at a ⊢
      by_cases z : r = gn W H v d * 9 + (e + d)
      · rw [if_pos z, z, if_neg ht]
        have := hc (gn W H v d * 9 + (e + d)) (by omega) (by omega)
        omega
      · rw [if_neg z]; omega
    exact kT_bind (m_comesFrom (h.op h4) hz) (fun r hr => kT_some hr)
  exact kT_if (fun _ => go 1 (Or.inl rfl)) (fun _ => go 5 (Or.inr rfl))
theorem mc_p2 : ∀ a b, 0 ≤ a → a < 9 * N → 0 ≤ b → b < 9 * N → a ≠ b → mc f L a 3 0 + mc f L b 3 0 ≤ 3 := fun _ _ _ _ _ _ h => mc_2 h
/-- the first one of a queue that isn't empty -/
theorem mJ.first (h : mJ W H C k L f wB w) (q0 : 0 ≤ q) (q1 : q < 9 * (W * H)) (h1 : 1 ≤ mc f L q 3 0) : 0 ≤ mfs w q ∧ mfs w q < C := by
  have e : mz w q = mc f L q 3 0 := h.2.2.1 q q0 q1
  have hi := h.2.2.2 q 0 q0 q1 (by decide) (by omega)
  rw [Int.add_zero] at hi
  unfold mfs
  rw [if_neg (by omega)]
  exact hi
theorem m_steps (h : mJ W H C k L f wB w) (v0 : 0 ≤ v) (v1 : v < W * H) (q0 : 0 ≤ q) (q1 : q < 9) (d0 : 0 ≤ d) (d1 : d < 4) (h1 : 1 ≤ mc f L (v * 9 + q) 3 0) : kT (f_M_stepsTo k v q d b w) (mRs W H C k L f wB) := by
  have hm := h.1.1.1
  have hw := hm.1.1
  have g := hm.1.2
  have hN := gN g
  have hn := gn_in g v0 v1 d0 d1
  have hr := gr_in g v0 v1 d0 d1
  have h16 := g16r g
  have hp := h.first (q := v * 9 + q) (by omega) (by omega) h1
  have go : ∀ w', mOp W H C w (fun q => mc f L q 3 0) w' → kT (f_M_stepsTo_94 k v q d b (mfs w (v * 9 + q)) (gn W H v d) w') (mRs W H C k L f wB) := fun w' ho => m_step94 (ww := w) h.1 ho mc_c3 mc_p2 v0 v1 q0 q1 d0 d1 h1 hp.1 hp.2
  unfold f_M_stepsTo
  refine kT_eq (r_first v0 (by omega) q0 q1) ?_
  refine kT_eq (mg_nextOf hw g v0 v1 d0 d1) ?_
  refine kT_eq (mg_ringFor hw g v0 v1 d0 d1) ?_
  refine kT_eq (m_ringAt hr.1 (by omega)) ?_
  dsimp only
  rw [w32_ok (z := 1 + d) (by omega) (by omega), w32_ok (z := 5274 + 6 * gr W H v d + 0) (by omega) (by omega)]
  refine kT_if (fun _ => ?_) (fun _ => go w h.2)
  refine kT_sA (r_cont hm v0 v1 hp.1 hp.2) (fun y => ?_)
  refine kT_if (fun _ => go w h.2) (fun _ => ?_)
  refine kT_ld (by decide) (by decide) ?_
  refine kT_if (fun _ => ?_) (fun _ => go w h.2)
  refine kT_ld (by omega) (by omega) ?_
  refine kT_if (fun _ => ?_) (fun _ => go w h.2)
  refine kT_sA (r_free hn.1 (by omega) (by omega) (by omega)) (fun y => ?_)
  refine kT_if (fun _ => ?_) (fun _ => go w h.2)
  refine kT_st (by omega) (by omega) ?_
  exact go _ (h.2.o mc_c3 (Or.inl (by omega)))
theorem m_goesAll (h : mJ W H C k L f wB w) (v0 : 0 ≤ v) (v1 : v < W * H) (q0 : 0 ≤ q) (q1 : q < 9) (h1 : 1 ≤ mc f L (v * 9 + q) 3 0) : kT (f_M_goesAll k v q w) (mRs W H C k L f wB) := by
  have hm := h.1.1.1
  have hN := gN hm.1.2
  have hC := hm.2.1
  have hp := h.first (q := v * 9 + q) (by omega) (by omega) h1
  unfold f_M_goesAll
  refine kT_eq (r_first v0 (by omega) q0 q1) ?_
  refine kT_eq (r_of hp.1 (by omega) (by decide) (by decide)) ?_
  dsimp only
  refine kT_if (fun _ => ?_) (fun _ => ?_)
  · rw [qlt_ok]
    have h9 := h.w9 (v := w32 (w 88 9 + 1))
    have hc' : mC3 (W * H) (fun r => mc f L r 3 0 - if r = v * 9 + q then 1 else 0) := by
      intro r r0 r1
      have := mc_in (f := f) (L := L) (q := r) (x := 3) (y := 0)
      dsimp only
      split
      · rename_i e; rw [e] at this ⊢; omega
      · omega
    refine kT_bind (r_leaves (c' := fun r => mc f L r 3 0 - if r = v * 9 + q then 1 else 0) h9.2 mc_c3 v0 v1 q0 q1 h1 (fun _ => rfl)) (fun w3 h3 => ?_)
    refine kT_bind (m_comesFrom (h9.1.op h3) (fun r r0 r1 => by rw [h3.2.1 r r0 r1]; exact hc' r r0 r1)) (fun r hr => kT_some hr)
  · generalize hpe : mfs w (v * 9 + q) = p at hp ⊢
    refine kC_loop (σ := Unit) (N := 4) (L := fun m x _ u => f_M_goesAll_44 m k v q p x u) (J := fun _ u => mJ W H C k L f wB u) (fun m x _ u x0 x1 hJ ih => ?_) (fun m _ u hJ => ?_) (by omega) (by omega) () h
    · have h87 : ∀ u, mJ W H C k L f wB u → kT (f_M_goesAll_87 (f_M_goesAll_44 m) k v q p x u) (mRs W H C k L f wB) := by
        intro u hJ
        unfold f_M_goesAll_87
        rw [w32_ok (z := x + 1) (by omega) (by omega)]
        refine kT_sA (r_esc hJ.1.1.1 v0 v1 hp.1 hp.2 x0 x1) (fun y => ?_)
        refine kT_if (fun _ => ih () _ hJ) (fun _ => ?_)
        rw [qlt_ok]
        refine kT_bind (m_steps hJ.w9 v0 v1 q0 q1 x0 x1 h1) (fun r hr => ?_)
        refine kT_if (fun _ => kT_some ⟨hr.1, Or.inl rfl⟩) (fun c => ?_)
        exact ih () _ (hr.2.resolve_left c).2
      rw [f_M_goesAll_44, if_pos x1]
      refine kT_sA (r_ada hJ.1.1.1 v0 v1 hp.1 hp.2 x0 x1) (fun y => ?_)
      refine kT_if (fun _ => h87 u hJ) (fun _ => ?_)
      rw [qlt_ok]
      refine kT_bind (m_steps hJ.w9 v0 v1 q0 q1 x0 x1 h1) (fun r hr => ?_)
      refine kT_if (fun _ => kT_some ⟨hr.1, Or.inl rfl⟩) (fun c => ?_)
      exact h87 _ (hr.2.resolve_left c).2
    · rw [f_M_goesAll_44, if_neg (by decide)]
      exact kT_some ⟨hJ.1.1.2.2, Or.inr ⟨rfl, hJ⟩⟩
end R5
