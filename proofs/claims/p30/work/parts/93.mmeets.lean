/-! schedules, the reference: a state is met -/
def mS (N : Int) (w : qMem) : Prop := (0 ≤ w 88 8 ∧ w 88 8 ≤ 401) ∧ ∀ k i, 0 ≤ k → k < w 88 8 → 0 ≤ i → i < 3 → sOK N (w 92 (19 * k + i))
def mMt (w w' : qMem) : Prop := (∀ k : Nat, k ≠ 88 → k ≠ 92 → k ≠ 93 → w' k = w k) ∧ (∀ j, j ≠ 8 → w' 88 j = w 88 j) ∧ (w 88 8 ≤ w' 88 8 ∧ w' 88 8 ≤ w 88 8 + 1) ∧ ∀ k i, 0 ≤ k → k < w 88 8 → 0 ≤ i → i < 19 → w' 92 (19 * k + i) = w 92 (19 * k + i)
def mSz (N : Int) (w : qMem) : Prop := ∀ q, 0 ≤ q → q < 9 * N → 0 ≤ mz w q ∧ mz w q ≤ 3
section R2
variable {w w' w0 w2 : qMem} {W H C N x y r i v q s d l p k n : Int}
/-- a loop that writes, its state known at each number -/
theorem kD_loop {σ β : Type} {N : Int} {L : Nat → Int → σ → qMem → Option β} {P : β → Prop} {J : Int → σ → qMem → Prop} (hs : ∀ m x s w, 0 ≤ x → x < N → J x s w → (∀ s' w', J (x + 1) s' w' → kT (L m (x + 1) s' w') P) → kT (L (m + 1) x s w) P) (he : ∀ m s w, J N s w → kT (L (m + 1) N s w) P) (n0 : 0 ≤ N) (n1 : N < 1000000000) (s : σ) (hJ : J 0 s w) : kT (L qFU 0 s w) P := by
  have key : ∀ (m : Nat) (x : Int) (s : σ) (w : qMem), 0 ≤ x → x ≤ N → N - x < m → J x s w → kT (L m x s w) P := by
    intro m
    induction m with
    | zero => intro x s w _ _ _ _; omega
    | succ m ih =>
      intro x s w x0 x1 hm hJ
      by_cases e : x < N
      · exact hs m x s w x0 e hJ (fun s' w' h' => ih (x + 1) s' w' (by omega) (by omega) (by omega) h')
      · have : x = N := by omega
        subst this
        exact he m s w hJ
  exact key qFU 0 s w (by omega) n0 (qFU_gt (by omega)) hJ
/-- while a state is written down: x of its first numbers stand -/
def mWr (N : Int) (w : qMem) (x : Int) (w' : qMem) : Prop := (∀ k : Nat, k ≠ 92 → w' k = w k) ∧ (∀ j, j < 19 * w 88 8 → w' 92 j = w 92 j) ∧ ∀ i, 0 ≤ i → i < x → i < 3 → sOK N (w' 92 (19 * w 88 8 + i))
theorem mWr.wr (h : mWr N w x w') (hx : 0 ≤ x) (hv : x < 3 → sOK N v) : mWr N w (x + 1) (qud w' 92 (19 * w 88 8 + x) v) := by
  refine ⟨fun k hk => by rw [qud_row hk, h.1 k hk], fun j hj => by rw [qud_ni (by omega)]; exact h.2.1 j hj, fun i i0 i1 i3 => ?_⟩
  rw [qud_if]
  split
  · exact hv (by omega)
  · exact h.2.2 i i0 (by omega) i3
theorem m_meets (hn : mN W H C w) (hz : mSz (W * H) w) (hs : mS (W * H) w) (h4 : w 88 8 ≤ 400) (hl : 0 ≤ w 88 7 ∧ w 88 7 ≤ 3) : kT (f_M_meetsState w) (fun r => (0 ≤ r.1 ∧ r.1 < r.2 88 8) ∧ mS (W * H) r.2 ∧ mMt w r.2) := by
  have h8 := hs.1
  have r88 : ∀ {x w'}, mWr (W * H) w x w' → w' 88 = w 88 := fun h => h.1 88 (by decide)
  have h148 : ∀ w', mWr (W * H) w 19 w' → kT (f_M_meetsState_148 w') (fun r => (0 ≤ r.1 ∧ r.1 < r.2 88 8) ∧ mS (W * H) r.2 ∧ mMt w r.2) := by
    intro w' hw
    have e := r88 hw
    unfold f_M_meetsState_148
    rw [e]
    refine kT_st h8.1 (by omega) ?_
    rw [qlt_ok, qud_row (show (88 : Nat) ≠ 93 by decide), e, w32_ok (z := w 88 8 + 1) (by omega) (by omega), qud_s, w32_ok (by omega) (by omega)]
    refine kT_some ?_
    dsimp only
    refine ⟨⟨by omega, by rw [qud_s]; omega⟩, ⟨by rw [qud_s]; omega, fun k i k0 k1 i0 i1 => ?_⟩, ⟨fun k a b c => by rw [qud_row a, qud_row c, hw.1 k b], fun j hj => by rw [qud_ni hj, qud_row (by decide), e], by rw [qud_s]; omega, fun k i k0 k1 i0 i1 => ?_⟩⟩
    · rw [qud_s] at k1
      rw [qud_row (by decide), qud_row (by decide)]
      by_cases c : k = w 88 8
      · rw [c]; exact hw.2.2 i i0 (by omega) i1
      · rw [hw.2.1 _ (by omega)]
        exact hs.2 k i k0 (by omega) i0 i1
    · rw [qud_row (by decide), qud_row (by decide), hw.2.1 _ (by omega)]
  have h90 : ∀ w', mWr (W * H) w 19 w' → kT (f_M_meetsState_88 (19 * w 88 8) w') (fun r => (0 ≤ r.1 ∧ r.1 < r.2 88 8) ∧ mS (W * H) r.2 ∧ mMt w r.2) := by
    intro w' hw
    have e := r88 hw
    have hin : ∀ k, 0 ≤ k → k < w 88 8 → (0 ≤ k ∧ k < w' 88 8) ∧ mS (W * H) w' ∧ mMt w w' := by
      intro k k0 k1
      refine ⟨⟨k0, by rw [e]; exact k1⟩, ⟨by rw [e]; exact h8, fun k i k0 k1 i0 i1 => ?_⟩, ⟨fun k a b c => hw.1 k b, fun j hj => by rw [e], by rw [e]; omega, fun k i k0 k1 i0 i1 => hw.2.1 _ (by omega)⟩⟩
      rw [e] at k1
      rw [hw.2.1 _ (by omega)]
      exact hs.2 k i k0 k1 i0 i1
    have main : ∀ (m : Nat) (k : Int), 0 ≤ k → k ≤ w 88 8 → w 88 8 - k < m → kT (f_M_meetsState_90 m (19 * w 88 8) k w') (fun r => (0 ≤ r.1 ∧ r.1 < r.2 88 8) ∧ mS (W * H) r.2 ∧ mMt w r.2) := by
      intro m
      induction m with
      | zero => intro k _ _ _; omega
      | succ m ih =>
        intro k k0 k1 hm
        rw [f_M_meetsState_90, e]
        refine kT_if (fun c => ?_) (fun _ => h148 w' hw)
        have h134 : ∀ i, kT (f_M_meetsState_134 (f_M_meetsState_90 m) (19 * w 88 8) k i w') (fun r => (0 ≤ r.1 ∧ r.1 < r.2 88 8) ∧ mS (W * H) r.2 ∧ mMt w r.2) := by
          intro i
          unfold f_M_meetsState_134
          rw [w32_ok (z := k + 1) (by omega) (by omega)]
          exact kT_if (fun _ => kT_some (hin k k0 c)) (fun _ => ih (k + 1) (by omega) (by omega) (by omega))
        have inner : ∀ (m' : Nat) (i : Int), 0 ≤ i → i ≤ 19 → 19 - i < m' → kT (f_M_meetsState_100 (f_M_meetsState_90 m) m' (19 * w 88 8) k i w') (fun r => (0 ≤ r.1 ∧ r.1 < r.2 88 8) ∧ mS (W * H) r.2 ∧ mMt w r.2) := by
          intro m'
          induction m' with
          | zero => intro i _ _ _; omega
          | succ m' ih' =>
            intro i i0 i1 hm'
            rw [f_M_meetsState_100]
            refine kT_if (fun c2 => ?_) (fun _ => h134 i)
            rw [w32_ok (z := 19 * k) (by omega) (by omega), w32_ok (z := 19 * k + i) (by omega) (by omega), w32_ok (z := 19 * w 88 8 + i) (by omega) (by omega), qld_ok (by omega) (by omega), qld_ok (by omega) (by omega), w32_ok (z := i + 1) (by omega) (by omega)]
            exact kT_if (fun _ => ih' (i + 1) (by omega) (by omega) (by omega)) (fun _ => h134 i)
        exact inner qFU 0 (by omega) (by omega) (qFU_gt (by omega))
    unfold f_M_meetsState_88
    exact main qFU 0 (by omega) h8.1 (qFU_gt (by omega))
  have h53 : ∀ w', mWr (W * H) w 3 w' → kT (f_M_meetsState_53 (19 * w 88 8) w') (fun r => (0 ≤ r.1 ∧ r.1 < r.2 88 8) ∧ mS (W * H) r.2 ∧ mMt w r.2) := by
    intro w' hw
    unfold f_M_meetsState_53
    refine kD_loop (σ := Unit) (N := 16) (L := fun m x _ v => f_M_meetsState_55 m (19 * w 88 8) x v) (J := fun x _ v => mWr (W * H) w (x + 3) v) (fun m x _ v x0 x1 hv ih => ?_) (fun m _ v hv => ?_) (by omega) (by omega) () (by rw [show (0 : Int) + 3 = 3 from rfl]; exact hw)
    · rw [f_M_meetsState_55, if_pos x1, qbd (m_ringAt x0 x1)]
      dsimp only
      rw [w32_ok (z := 5274 + 6 * x + 0) (by omega) (by omega), qld_ok (by omega) (by omega), w32_ok (z := 19 * w 88 8 + 3) (by omega) (by omega), w32_ok (z := 19 * w 88 8 + 3 + x) (by omega) (by omega), qst_ok (by omega) (by omega), w32_ok (z := x + 1) (by omega) (by omega)]
      refine ih () _ ?_
      have h2 := hv.wr (v := v 89 (5274 + 6 * x + 0)) (by omega) (fun z => by omega)
      rw [show x + 1 + 3 = x + 3 + 1 by omega, show 19 * w 88 8 + 3 + x = 19 * w 88 8 + (x + 3) by omega]
      exact h2
    · rw [f_M_meetsState_55, if_neg (by decide)]
      exact h90 v hv
  unfold f_M_meetsState
  rw [w32_ok (z := 19 * w 88 8) (by omega) (by omega)]
  refine kD_loop (σ := Unit) (N := 3) (L := fun m x _ v => f_M_meetsState_10 m (19 * w 88 8) x v) (J := fun x _ v => mWr (W * H) w x v) (fun m x _ v x0 x1 hv ih => ?_) (fun m _ v hv => ?_) (by omega) (by omega) () ⟨fun _ _ => rfl, fun _ _ => rfl, fun i i0 i1 _ => by omega⟩
  · have h46 : ∀ z, sOK (W * H) z → kT (f_M_meetsState_46 (f_M_meetsState_10 m) (w32 (19 * w 88 8 + x)) z (19 * w 88 8) x v) (fun r => (0 ≤ r.1 ∧ r.1 < r.2 88 8) ∧ mS (W * H) r.2 ∧ mMt w r.2) := by
      intro z hz
      unfold f_M_meetsState_46
      rw [w32_ok (z := 19 * w 88 8 + x) (by omega) (by omega), qst_ok (by omega) (by omega), w32_ok (z := x + 1) (by omega) (by omega)]
      exact ih () _ (hv.wr x0 (fun _ => hz))
    rw [f_M_meetsState_10, if_pos x1, r88 hv]
    refine kT_if (fun c => ?_) (fun _ => h46 432 (Or.inl rfl))
    refine kT_ld x0 x1 ?_
    have e89 : v 89 = w 89 := hv.1 89 (by decide)
    obtain ⟨y, e, hy⟩ := r_place (w := v) (x := v 94 x) (W := W) (H := H) (by rw [e89]; exact hn.1.1) hn.1.2 (fun q a b => by unfold mz; rw [e89]; exact hz q a b)
    refine kT_eq e ?_
    exact h46 y hy
  · rw [f_M_meetsState_10, if_neg (by decide)]
    exact h53 v hv
end R2
