/-! schedules, the reference: a state is opened -/
/-- how many of three are in queue q: those that are put by now (place x, number y) -/
def mt (f : Int → Int) (L q x y i : Int) : Int := if (i < L ∧ f i ≠ 432) ∧ f i / 3 = q ∧ (f i % 3 < x ∨ (f i % 3 = x ∧ i < y)) then 1 else 0
def mc (f : Int → Int) (L q x y : Int) : Int := mt f L q x y 0 + mt f L q x y 1 + mt f L q x y 2
/-- how many of a state are in queue q -/
def mcn (w : qMem) (k q : Int) : Int := mc (fun i => w 92 (19 * k + i)) (w 88 7) q 3 0
/-- the live ones -/
def mLv (C : Int) (w : qMem) : Prop := (0 ≤ w 88 7 ∧ w 88 7 ≤ 3) ∧ ∀ i, 0 ≤ i → i < w 88 7 → 0 ≤ w 94 i ∧ w 94 i < C
def mQi (N C : Int) (w : qMem) : Prop := ∀ q j, 0 ≤ q → q < 9 * N → 0 ≤ j → j < mz w q → 0 ≤ w 89 (4267 + 7 * q + j) ∧ w 89 (4267 + 7 * q + j) < C
section R3
variable {w w' w0 w2 : qMem} {W H C N x y r i v q s d l p k n L a b : Int} {f : Int → Int}
theorem mt_in : 0 ≤ mt f L q x y i ∧ mt f L q x y i ≤ 1 := by
  unfold mt
  split <;> omega
theorem mt_2 (h : a ≠ b) : mt f L a x y i + mt f L b x y i ≤ 1 := by
  unfold mt
  by_cases e : f i / 3 = a
  · rw [if_neg (show ¬ ((i < L ∧ f i ≠ 432) ∧ f i / 3 = b ∧ (f i % 3 < x ∨ (f i % 3 = x ∧ i < y))) from fun z => h (e.symm.trans z.2.1))]
    split <;> omega
  · rw [if_neg (show ¬ ((i < L ∧ f i ≠ 432) ∧ f i / 3 = a ∧ (f i % 3 < x ∨ (f i % 3 = x ∧ i < y))) from fun z => e z.2.1)]
    split <;> omega
theorem mc_in : 0 ≤ mc f L q x y ∧ mc f L q x y ≤ 3 := by
  have h0 := mt_in (f := f) (L := L) (q := q) (x := x) (y := y) (i := 0)
  have h1 := mt_in (f := f) (L := L) (q := q) (x := x) (y := y) (i := 1)
  have h2 := mt_in (f := f) (L := L) (q := q) (x := x) (y := y) (i := 2)
  unfold mc
  omega
theorem mc_2 (h : a ≠ b) : mc f L a x y + mc f L b x y ≤ 3 := by
  have h0 := mt_2 (f := f) (L := L) (x := x) (y := y) (i := 0) h
  have h1 := mt_2 (f := f) (L := L) (x := x) (y := y) (i := 1) h
  have h2 := mt_2 (f := f) (L := L) (x := x) (y := y) (i := 2) h
  unfold mc
  omega
theorem mt_step_o (h : i ≠ y) : mt f L q x (y + 1) i = mt f L q x y i := by
  unfold mt
  have : ((i < L ∧ f i ≠ 432) ∧ f i / 3 = q ∧ (f i % 3 < x ∨ (f i % 3 = x ∧ i < y + 1))) ↔ ((i < L ∧ f i ≠ 432) ∧ f i / 3 = q ∧ (f i % 3 < x ∨ (f i % 3 = x ∧ i < y))) := by
    constructor
    · rintro ⟨u, e, z⟩
      exact ⟨u, e, by omega⟩
    · rintro ⟨u, e, z⟩
      exact ⟨u, e, by omega⟩
  simp only [this]
theorem mt_step_no (h : f y = 432 ∨ f y % 3 ≠ x) : mt f L q x (y + 1) y = mt f L q x y y := by
  unfold mt
  have : ((y < L ∧ f y ≠ 432) ∧ f y / 3 = q ∧ (f y % 3 < x ∨ (f y % 3 = x ∧ y < y + 1))) ↔ ((y < L ∧ f y ≠ 432) ∧ f y / 3 = q ∧ (f y % 3 < x ∨ (f y % 3 = x ∧ y < y))) := by
    constructor
    · rintro ⟨u, e, z⟩
      exact ⟨u, e, by omega⟩
    · rintro ⟨u, e, z⟩
      exact ⟨u, e, by omega⟩
  simp only [this]
theorem mt_step_in (hL : y < L) (h : f y ≠ 432) (hx : f y % 3 = x) : mt f L q x (y + 1) y = mt f L q x y y + (if q = f y / 3 then 1 else 0) := by
  unfold mt
  by_cases e : f y / 3 = q
  · rw [if_pos ⟨⟨hL, h⟩, e, by omega⟩, if_neg (by omega), if_pos e.symm]; rfl
  · rw [if_neg (fun z => e z.2.1), if_neg (fun z => e z.2.1), if_neg (fun z => e z.symm)]; rfl
theorem mc_step_no (y0 : 0 ≤ y) (y1 : y < 3) (h : f y = 432 ∨ f y % 3 ≠ x) : mc f L q x (y + 1) = mc f L q x y := by
  unfold mc
  rcases (by omega : y = 0 ∨ y = 1 ∨ y = 2) with rfl | rfl | rfl
  · rw [mt_step_no h, mt_step_o (i := 1) (by decide), mt_step_o (i := 2) (by decide)]
  · rw [mt_step_no h, mt_step_o (i := 0) (by decide), mt_step_o (i := 2) (by decide)]
  · rw [mt_step_no h, mt_step_o (i := 0) (by decide), mt_step_o (i := 1) (by decide)]
theorem mc_step_in (y0 : 0 ≤ y) (y1 : y < 3) (hL : y < L) (h : f y ≠ 432) (hx : f y % 3 = x) : mc f L q x (y + 1) = mc f L q x y + (if q = f y / 3 then 1 else 0) := by
  unfold mc
  rcases (by omega : y = 0 ∨ y = 1 ∨ y = 2) with rfl | rfl | rfl
  · rw [mt_step_in hL h hx, mt_step_o (i := 1) (by decide), mt_step_o (i := 2) (by decide)]; omega
  · rw [mt_step_in hL h hx, mt_step_o (i := 0) (by decide), mt_step_o (i := 2) (by decide)]; omega
  · rw [mt_step_in hL h hx, mt_step_o (i := 0) (by decide), mt_step_o (i := 1) (by decide)]; omega
theorem mt_next (i0 : 0 ≤ i) : mt f L q x L i = mt f L q (x + 1) 0 i := by
  unfold mt
  have : ((i < L ∧ f i ≠ 432) ∧ f i / 3 = q ∧ (f i % 3 < x ∨ (f i % 3 = x ∧ i < L))) ↔ ((i < L ∧ f i ≠ 432) ∧ f i / 3 = q ∧ (f i % 3 < x + 1 ∨ (f i % 3 = x + 1 ∧ i < 0))) := by
    constructor
    · rintro ⟨u, e, z⟩
      exact ⟨u, e, by omega⟩
    · rintro ⟨u, e, z⟩
      exact ⟨u, e, by omega⟩
  simp only [this]
theorem mc_next : mc f L q x L = mc f L q (x + 1) 0 := by
  unfold mc
  rw [mt_next (i := 0) (by decide), mt_next (i := 1) (by decide), mt_next (i := 2) (by decide)]
theorem mc_0 : mc f L q 0 0 = 0 := by
  have h : ∀ i, 0 ≤ i → mt f L q 0 0 i = 0 := by
    intro i i0
    unfold mt
    rw [if_neg (by omega)]
  unfold mc
  rw [h 0 (by decide), h 1 (by decide), h 2 (by decide)]
  rfl
/-- while a state is opened -/
def mOp (W H C : Int) (w : qMem) (c : Int → Int) (w' : qMem) : Prop := ((∀ k : Nat, k ≠ 89 → w' k = w k) ∧ mN W H C w') ∧ (∀ q, 0 ≤ q → q < 9 * (W * H) → mz w' q = c q) ∧ mQi (W * H) C w'
theorem mN.w89 (h : mN W H C w) (hi : 4266 ≤ i ∨ ∃ p, (0 ≤ p ∧ p < 250) ∧ 19 + 17 * p ≤ i ∧ i ≤ 21 + 17 * p) : mN W H C (qud w 89 i v) := by
  have hne : ∀ p, 0 ≤ p → p < C → 17 + 17 * p ≠ i := by
    intro p p0 p1 e
    have := h.2.1
    rcases hi with z | ⟨p', z1, z2⟩ <;> omega
  have h2 : (0 : Int) ≠ i ∧ (1 : Int) ≠ i := by
    rcases hi with z | ⟨p', z1, z2⟩ <;> omega
  refine ⟨⟨⟨by rw [qud_ni h2.1]; exact h.1.1.1, by rw [qud_ni h2.2]; exact h.1.1.2⟩, h.1.2⟩, h.2.1, fun p p0 p1 => ?_⟩
  rw [qud_ni (hne p p0 p1)]
  exact h.2.2 p p0 p1
theorem mz_ne (h : i ≠ 4266 + 7 * q) : mz (qud w 89 i v) q = mz w q := qud_ni (Ne.symm h)
def mC3 (N : Int) (c : Int → Int) : Prop := ∀ q, 0 ≤ q → q < 9 * N → 0 ≤ c q ∧ c q ≤ 3
/-- a write beside the queues -/
theorem mOp.o {c : Int → Int} (h : mOp W H C w c w') (hc : mC3 (W * H) c) (hi : 5274 ≤ i ∨ ∃ p, (0 ≤ p ∧ p < 250) ∧ 19 + 17 * p ≤ i ∧ i ≤ 21 + 17 * p) : mOp W H C w c (qud w' 89 i v) := by
  have hN := gN h.1.2.1.2
  have hne : ∀ j, 4266 ≤ j → j < 5274 → j ≠ i := by
    intro j a b e
    rcases hi with z | ⟨p', z1, z2⟩ <;> omega
  have hz : ∀ q, 0 ≤ q → q < 9 * (W * H) → mz (qud w' 89 i v) q = mz w' q := fun q q0 q1 => mz_ne (Ne.symm (hne _ (by omega) (by omega)))
  refine ⟨⟨fun k hk => by rw [qud_row hk, h.1.1 k hk], h.1.2.w89 ?_⟩, fun q q0 q1 => by rw [hz q q0 q1]; exact h.2.1 q q0 q1, fun q j q0 q1 j0 j1 => ?_⟩
  · rcases hi with z | z
    · exact Or.inl (by omega)
    · exact Or.inr z
  · rw [hz q q0 q1] at j1
    have h3 := hc q q0 q1
    have e := h.2.1 q q0 q1
    rw [qud_ni (hne _ (by omega) (by omega))]
    exact h.2.2 q j q0 q1 j0 j1
/-- an item is written -/
theorem mOp.it {c : Int → Int} (h : mOp W H C w c w') (hc : mC3 (W * H) c) (q0 : 0 ≤ q) (q1 : q < 9 * (W * H)) (j0 : 0 ≤ i) (j1 : i < 6) (hv : 0 ≤ v ∧ v < C) : mOp W H C w c (qud w' 89 (4267 + 7 * q + i) v) := by
  have hN := gN h.1.2.1.2
  have hz : ∀ q', mz (qud w' 89 (4267 + 7 * q + i) v) q' = mz w' q' := fun q' => mz_ne (by omega)
  refine ⟨⟨fun k hk => by rw [qud_row hk, h.1.1 k hk], h.1.2.w89 (Or.inl (by omega))⟩, fun q' a b => by rw [hz]; exact h.2.1 q' a b, fun q' j a b c0 c1 => ?_⟩
  rw [hz] at c1
  rw [qud_if]
  split
  · exact hv
  · exact h.2.2 q' j a b c0 c1
/-- a size is written -/
theorem mOp.sz {c c' : Int → Int} (h : mOp W H C w c w') (hc : mC3 (W * H) c) (q0 : 0 ≤ q) (q1 : q < 9 * (W * H)) (v1 : v ≤ 6) (hv : ∀ j, 0 ≤ j → j < v → 0 ≤ w' 89 (4267 + 7 * q + j) ∧ w' 89 (4267 + 7 * q + j) < C) (e : ∀ r, c' r = if r = q then v else c r) : mOp W H C w c' (qud w' 89 (4266 + 7 * q) v) := by
  have hN := gN h.1.2.1.2
  have hz : ∀ q', mz (qud w' 89 (4266 + 7 * q) v) q' = if q' = q then v else mz w' q' := by
    intro q'
    unfold mz
    rw [qud_if]
    by_cases z : q' = q
    · rw [if_pos z, if_pos (by omega)]
    · rw [if_neg z, if_neg (by omega)]
  refine ⟨⟨fun k hk => by rw [qud_row hk, h.1.1 k hk], h.1.2.w89 (Or.inl (by omega))⟩, fun q' a b => ?_, fun q' j a b c0 c1 => ?_⟩
  · rw [hz, e]
    split
    · rfl
    · exact h.2.1 q' a b
  · rw [hz] at c1
    have h3 := hc q' a b
    have e3 := h.2.1 q' a b
    by_cases z : q' = q
    · rw [if_pos z] at c1
      rw [qud_ni (by omega), z]
      exact hv j c0 c1
    · rw [if_neg z] at c1
      rw [qud_ni (by omega)]
      exact h.2.2 q' j a b c0 c1
theorem r_comes {c c' : Int → Int} (h : mOp W H C w c w') (hc : mC3 (W * H) c) (v0 : 0 ≤ v) (v1 : v < W * H) (k0 : 0 ≤ k) (k1 : k < 9) (h2 : c (v * 9 + k) ≤ 2) (p0 : 0 ≤ p) (p1 : p < C) (e : ∀ r, c' r = c r + if r = v * 9 + k then 1 else 0) : kT (f_M_comes v k p w') (mOp W H C w c') := by
  have hN := gN h.1.2.1.2
  have q0 : 0 ≤ v * 9 + k := by omega
  have q1 : v * 9 + k < 9 * (W * H) := by omega
  have h3 := hc _ q0 q1
  have ez := h.2.1 _ q0 q1
  unfold f_M_comes
  refine kT_eq (m_queueAt v0 (by omega) k0 k1) ?_
  dsimp only
  generalize v * 9 + k = q at *
  unfold mz at ez
  rw [qld_ok (by omega) (by omega), ez, w32_ok (by omega) (by omega)]
  refine kT_st (by omega) (by omega) ?_
  rw [qld_ok (by omega) (by omega), qud_s, w32_ok (by omega) (by omega)]
  refine kT_st (by omega) (by omega) ?_
  refine kT_some ?_
  rw [qud_cm (Or.inr (by omega)), show 4266 + 7 * q + (c q + 1) = 4267 + 7 * q + c q by omega]
  refine mOp.sz (h.it hc q0 q1 h3.1 (by omega) ⟨p0, p1⟩) hc q0 q1 (by omega) (fun j j0 j1 => ?_) (fun r => ?_)
  · rw [qud_if]
    split
    · exact ⟨p0, p1⟩
    · have e2 : mz w' q = c q := ez
      exact h.2.2 q j q0 q1 j0 (by omega)
  · rw [e]
    by_cases z : r = q
    · rw [if_pos z, if_pos z, z]
    · rw [if_neg z, if_neg z]; omega
theorem r_leaves {c c' : Int → Int} (h : mOp W H C w c w') (hc : mC3 (W * H) c) (v0 : 0 ≤ v) (v1 : v < W * H) (k0 : 0 ≤ k) (k1 : k < 9) (h1 : 1 ≤ c (v * 9 + k)) (e : ∀ r, c' r = c r - if r = v * 9 + k then 1 else 0) : kT (f_M_leaves v k w') (mOp W H C w c') := by
  have hN := gN h.1.2.1.2
  have q0 : 0 ≤ v * 9 + k := by omega
  have q1 : v * 9 + k < 9 * (W * H) := by omega
  have h3 := hc _ q0 q1
  unfold f_M_leaves
  refine kT_eq (m_queueAt v0 (by omega) k0 k1) ?_
  dsimp only
  generalize v * 9 + k = q at *
  have main : ∀ (m : Nat) (j : Int) (w2 : qMem), 1 ≤ j → j ≤ c q → c q - j < m → mOp W H C w c w2 → kT (f_M_leaves_9 m (4266 + 7 * q) j w2) (mOp W H C w c') := by
    intro m
    induction m with
    | zero => intro j w2 _ _ _ _; omega
    | succ m ih =>
      intro j w2 j0 j1 hm h2
      have ez := h2.2.1 q q0 q1
      have ez' : w2 89 (4266 + 7 * q) = c q := ez
      rw [f_M_leaves_9, qld_ok (by omega) (by omega), ez']
      refine kT_if (fun cj => ?_) (fun _ => ?_)
      · have hit := h2.2.2 q j q0 q1 (by omega) (by omega)
        rw [w32_ok (z := 4266 + 7 * q + j) (by omega) (by omega), w32_ok (z := 4266 + 7 * q + j + 1) (by omega) (by omega), qld_ok (by omega) (by omega), show 4266 + 7 * q + j + 1 = 4267 + 7 * q + j by omega]
        refine kT_st (by omega) (by omega) ?_
        rw [w32_ok (z := j + 1) (by omega) (by omega), show 4266 + 7 * q + j = 4267 + 7 * q + (j - 1) by omega]
        exact ih (j + 1) _ (by omega) (by omega) (by omega) (h2.it hc q0 q1 (by omega) (by omega) hit)
      · unfold f_M_leaves_46
        rw [qld_ok (by omega) (by omega), ez', w32_ok (by omega) (by omega)]
        refine kT_st (by omega) (by omega) (kT_some ?_)
        refine mOp.sz h2 hc q0 q1 (by omega) (fun i i0 i1 => h2.2.2 q i q0 q1 i0 (by omega)) (fun r => ?_)
        rw [e]
        by_cases z : r = q
        · rw [if_pos z, if_pos z, z]
        · rw [if_neg z, if_neg z]; omega
  exact main qFU 1 w' (by omega) (by omega) (qFU_gt (by omega)) h
end R3
