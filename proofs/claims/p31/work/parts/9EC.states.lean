/-! states of a search of schedules -/
def eK (f : Int → Int) : List Int := (List.range 19).map (fun (i : Nat) => f (i : Int))
def kA (k : List Int) (i : Int) : Int := k.getD i.toNat 0
/-- n packets P are all that aren't delivered -/
def LVe (S : qMem) (n : Int) (P : Int → Int) : Prop := (0 ≤ n ∧ n ≤ 3) ∧ (∀ j, 0 ≤ j → j < n → (0 ≤ P j ∧ P j < S 5 13) ∧ S 9 (P j) ≠ 3) ∧ (∀ i j, 0 ≤ i → i < n → 0 ≤ j → j < n → P i = P j → i = j) ∧ ∀ p, 0 ≤ p → p < S 5 13 → S 9 p ≠ 3 → ∃ j, (0 ≤ j ∧ j < n) ∧ P j = p
/-- CRITICAL stands in its ring -/
def HO (S : qMem) : Prop := ∀ r, 0 ≤ r → r < 2 * (S 1 3 + S 1 4) → (0 ≤ S 25 r ∧ S 25 r < S 1 3 * S 1 4) ∧ gr (S 1 3) (S 1 4) (S 25 r) (gd (S 1 3) (S 1 4) r) = r
/-- a state that comes of S, its packets at loc -/
def VT (S T : qMem) (loc : Int → Int) : Prop := ((T 1 = S 1 ∧ ∀ j, j ≤ 10 → T 0 j = S 0 j) ∧ T 5 = S 5 ∧ T 7 = S 7 ∧ T 22 = S 22) ∧ (QS T ∧ QI T loc ∧ ∀ p, 0 ≤ p → p < S 5 13 → loc p ≠ -1 → S 9 p ≠ 3) ∧ HO T
def RK (S : qMem) (n : Int) (P : Int → Int) (T : qMem) (loc : Int → Int) (k : List Int) : Prop := ∃ c : Int → Int, k = eK c ∧ (∀ j, 0 ≤ j → j < 3 → (j < n ∧ loc (P j) ≠ -1 → ∃ i, (0 ≤ i ∧ i < T 20 (loc (P j))) ∧ T 21 (loc (P j) * 6 + i) = P j ∧ c j = 3 * loc (P j) + i) ∧ (¬ (j < n ∧ loc (P j) ≠ -1) → c j = 432)) ∧ ∀ r, 0 ≤ r → r < 16 → c (3 + r) = if r < 2 * (S 1 3 + S 1 4) then T 25 r else 0
/-- the same state, as far as it counts -/
def TQ (T T' : qMem) : Prop := ((T' 1 = T 1 ∧ ∀ j, j ≤ 10 → T' 0 j = T 0 j) ∧ T' 7 = T 7) ∧ (∀ q, 0 ≤ q → q < 144 → T' 20 q = T 20 q) ∧ (∀ q i, 0 ≤ q → q < 144 → 0 ≤ i → i < T 20 q → T' 21 (q * 6 + i) = T 21 (q * 6 + i)) ∧ ∀ r, 0 ≤ r → r < 2 * (T 1 3 + T 1 4) → T' 25 r = T 25 r
def lmv (loc : Int → Int) (p q : Int) : Int → Int := fun r => if r = p then q else loc r
section SS
variable {S T T' U : qMem} {loc loc' : Int → Int} {P f g : Int → Int} {v k d l q p i j n r x m : Int} {K K' : List Int}
theorem eK_iff : eK f = eK g ↔ ∀ i, 0 ≤ i → i < 19 → f i = g i := by
  unfold eK
  rw [List.map_inj_left]
  refine ⟨fun h i i0 i1 => ?_, fun h a ha => h a (by omega) (by have := List.mem_range.mp ha; omega)⟩
  have := h i.toNat (List.mem_range.mpr (by omega))
  rw [show ((i.toNat : Nat) : Int) = i by omega] at this
  exact this
theorem kA_e (i0 : 0 ≤ i) (i1 : i < 19) : kA (eK f) i = f i := by
  unfold kA eK
  rw [List.getD_eq_getElem?_getD, List.getElem?_map, List.getElem?_range (by omega)]
  show f ((i.toNat : Nat) : Int) = f i
  rw [show ((i.toNat : Nat) : Int) = i by omega]
/-! what a valid state gives -/
theorem VT.gg (V : VT S T loc) (I : IV S) : gIn (T 1 3) (T 1 4) ∧ ICf T := by
  obtain ⟨⟨⟨h1, h0⟩, h5, h7, h22⟩, -⟩ := V
  exact C1.co I.1 h1 h0 (by rw [h5]) (by rw [h22])
theorem VT.iw (V : VT S T loc) (I : IV S) : IW T := by
  have hg := V.gg I
  obtain ⟨⟨⟨h1, h0⟩, h5, h7, h22⟩, ⟨hq, hi, -⟩, -⟩ := V
  refine ⟨hg.1, hg.2, fun p p0 p1 => ?_, fun q q0 q1 => ?_⟩
  · rw [h7, h1]
    rw [h5] at p1
    exact (I.2.1.1 p p0 p1).1.2.1
  · have hs := hq q q0 q1
    have hc := cap_in (q := q) hg.2
    exact ⟨by omega, fun i i0 i1 => (hi.1 q i q0 q1 i0 i1).1⟩
theorem VT.root (I : IV S) (H : HO S) : VT S S (lof S) := by
  refine ⟨⟨⟨rfl, fun _ _ => rfl⟩, rfl, rfl, rfl⟩, ⟨I.2.1.2.1, I.2.1.2.2, fun p _ _ h z => h ?_⟩, H⟩
  unfold lof
  rw [if_pos z]
/-- who is first of a queue -/
theorem VT.first (V : VT S T loc) (q0 : 0 ≤ q) (q1 : q < 144) (he : sfst T q ≠ -1) : ((0 ≤ sfst T q ∧ sfst T q < S 5 13) ∧ 0 < T 20 q) ∧ sfst T q = T 21 (q * 6) ∧ loc (sfst T q) = q ∧ q < S 1 3 * S 1 4 * 9 := by
  obtain ⟨⟨⟨h1, -⟩, h5, -⟩, ⟨hq, hi, -⟩, -⟩ := V
  unfold sfst at he ⊢
  by_cases e : T 20 q ≤ 0
  · rw [if_pos e] at he
    exact absurd rfl he
  · rw [if_neg e]
    have h := hi.1 q 0 q0 q1 (Int.le_refl _) (by omega)
    rw [Int.add_zero, h5] at h
    refine ⟨⟨h.1, by omega⟩, rfl, h.2.1, Decidable.by_contra fun z => ?_⟩
    have := (hq q q0 q1).2 (by rw [h1]; omega)
    omega
theorem fst_0 (q : Int) : sfst T q = -1 ∨ 0 < T 20 q := by
  unfold sfst
  by_cases e : T 20 q ≤ 0
  · rw [if_pos e]; exact Or.inl rfl
  · exact Or.inr (by omega)
theorem VT.n3 (V : VT S T loc) (L : LVe S n P) (q0 : 0 ≤ q) (q1 : q < 144) : T 20 q ≤ n := by
  obtain ⟨⟨⟨h1, -⟩, h5, -⟩, ⟨hq, hi, hl⟩, -⟩ := V
  obtain ⟨⟨n0, n3⟩, hP, hin, hall⟩ := L
  have hs := (hq q q0 q1).1.1
  refine (en_sum (K := Int) (g := fun _ => 0) (a := fun i => T 21 (q * 6 + i)) (b := P) hs n0 (fun i j i0 i1 j0 j1 e => ?_) hin (fun i i0 i1 => ?_)).1
  · rcases Int.lt_trichotomy i j with z | z | z
    · exact absurd e ((hi.1 q j q0 q1 j0 j1).2.2 i i0 z)
    · exact z
    · exact absurd e.symm ((hi.1 q i q0 q1 i0 i1).2.2 j j0 z)
  · have h := hi.1 q i q0 q1 i0 i1
    rw [h5] at h
    exact hall _ h.1.1 h.1.2 (hl _ h.1.1 h.1.2 (by rw [h.2.1]; omega))
/-! keys -/
theorem RK.ex (V : VT S T loc) (L : LVe S n P) : ∃ k, RK S n P T loc k := by
  obtain ⟨⟨⟨h1, -⟩, h5, -⟩, ⟨hq, hi, hl⟩, -⟩ := V
  have hx : ∀ j, ∃ y : Int, 0 ≤ j → ((j < n ∧ loc (P j) ≠ -1 → ∃ i, (0 ≤ i ∧ i < T 20 (loc (P j))) ∧ T 21 (loc (P j) * 6 + i) = P j ∧ y = 3 * loc (P j) + i) ∧ (¬ (j < n ∧ loc (P j) ≠ -1) → y = 432)) := fun j => by
    by_cases e : 0 ≤ j ∧ j < n ∧ loc (P j) ≠ -1
    · have hp := (L.2.1 j e.1 e.2.1).1
      obtain ⟨-, i, i0, i1, hi2⟩ := hi.2 (P j) hp.1 (by rw [h5]; exact hp.2) e.2.2
      exact ⟨3 * loc (P j) + i, fun _ => ⟨fun _ => ⟨i, ⟨i0, i1⟩, hi2, rfl⟩, fun z => absurd e.2 z⟩⟩
    · exact ⟨432, fun j0 => ⟨fun z => absurd ⟨j0, z⟩ e, fun _ => rfl⟩⟩
  refine ⟨eK (fun i => if i < 3 then Classical.choose (hx i) else if i - 3 < 2 * (S 1 3 + S 1 4) then T 25 (i - 3) else 0), _, rfl, fun j j0 j1 => ?_, fun r r0 r1 => ?_⟩
  · rw [if_pos j1]
    exact Classical.choose_spec (hx j) j0
  · rw [if_neg (by omega), show 3 + r - 3 = r by omega]
theorem RK.un (h : RK S n P T loc K) (h' : RK S n P T loc K') (V : VT S T loc) (L : LVe S n P) : K = K' := by
  obtain ⟨⟨⟨h1, -⟩, h5, -⟩, ⟨hq, hi, hl⟩, -⟩ := V
  obtain ⟨c, rfl, a1, a2⟩ := h
  obtain ⟨c', rfl, b1, b2⟩ := h'
  refine eK_iff.mpr (fun i i0 i1 => ?_)
  by_cases e : i < 3
  · by_cases z : i < n ∧ loc (P i) ≠ -1
    · obtain ⟨x, x1, x2, x3⟩ := (a1 i i0 e).1 z
      obtain ⟨y, y1, y2, y3⟩ := (b1 i i0 e).1 z
      have hp := (L.2.1 i i0 z.1).1
      have hq1 := (hi.2 (P i) hp.1 (by rw [h5]; exact hp.2) z.2).1
      rcases Int.lt_trichotomy x y with t | t | t
      · exact absurd (x2.trans y2.symm) ((hi.1 _ y hq1.1 hq1.2 y1.1 y1.2).2.2 x x1.1 t)
      · rw [x3, y3, t]
      · exact absurd (y2.trans x2.symm) ((hi.1 _ x hq1.1 hq1.2 x1.1 x1.2).2.2 y y1.1 t)
    · rw [(a1 i i0 e).2 z, (b1 i i0 e).2 z]
  · have p := a2 (i - 3) (by omega) (by omega)
    have q := b2 (i - 3) (by omega) (by omega)
    rw [show 3 + (i - 3) = i by omega] at p q
    rw [p, q]
theorem RK.le (h : RK S n P T loc K) (h' : RK S n P T' loc' K) (V : VT S T loc) (V' : VT S T' loc') (L : LVe S n P) : (∀ p, 0 ≤ p → p < S 5 13 → loc p ≠ -1 → loc' p = loc p) ∧ (∀ q, 0 ≤ q → q < 144 → T 20 q ≤ T' 20 q) ∧ ∀ q i, 0 ≤ q → q < 144 → 0 ≤ i → i < T 20 q → T' 21 (q * 6 + i) = T 21 (q * 6 + i) := by
  have n3 : ∀ q, 0 ≤ q → q < 144 → T 20 q ≤ 3 := fun q a b => by
    have := V.n3 L a b
    have := L.1.2
    omega
  have n3' : ∀ q, 0 ≤ q → q < 144 → T' 20 q ≤ 3 := fun q a b => by
    have := V'.n3 L a b
    have := L.1.2
    omega
  obtain ⟨⟨-, h5, -⟩, ⟨hq, hi, hl⟩, -⟩ := V
  obtain ⟨⟨-, h5', -⟩, ⟨hq', hi', hl'⟩, -⟩ := V'
  obtain ⟨c, rfl, a1, -⟩ := h
  obtain ⟨c', e, b1, -⟩ := h'
  have hcc := eK_iff.mp e
  have main : ∀ j, 0 ≤ j → j < n → loc (P j) ≠ -1 → loc' (P j) = loc (P j) ∧ ∃ i, (0 ≤ i ∧ i < T 20 (loc (P j))) ∧ T 21 (loc (P j) * 6 + i) = P j ∧ i < T' 20 (loc (P j)) ∧ T' 21 (loc (P j) * 6 + i) = P j := fun j j0 j1 hz => by
    have j3 : j < 3 := by have := L.1.2; omega
    have hp := (L.2.1 j j0 j1).1
    obtain ⟨i, i1, i2, i3⟩ := (a1 j j0 j3).1 ⟨j1, hz⟩
    have hq1 := (hi.2 (P j) hp.1 (by rw [h5]; exact hp.2) hz).1
    have := n3 _ hq1.1 hq1.2
    have hc := hcc j j0 (by omega)
    by_cases z : loc' (P j) = -1
    · have := (b1 j j0 j3).2 (fun y => y.2 z)
      omega
    · obtain ⟨i', y1, y2, y3⟩ := (b1 j j0 j3).1 ⟨j1, z⟩
      have hq2 := (hi'.2 (P j) hp.1 (by rw [h5']; exact hp.2) z).1
      have := n3' _ hq2.1 hq2.2
      have e1 : loc' (P j) = loc (P j) := by omega
      have e2 : i' = i := by omega
      rw [e1, e2] at y1 y2
      exact ⟨e1, i, i1, i2, y1.2, y2⟩
  have slot : ∀ q i, 0 ≤ q → q < 144 → 0 ≤ i → i < T 20 q → i < T' 20 q ∧ T' 21 (q * 6 + i) = T 21 (q * 6 + i) := fun q i q0 q1 i0 i1 => by
    have hs := hi.1 q i q0 q1 i0 i1
    rw [h5] at hs
    have hne : loc (T 21 (q * 6 + i)) ≠ -1 := by rw [hs.2.1]; omega
    obtain ⟨j, ⟨j0, j1⟩, hj⟩ := L.2.2.2 _ hs.1.1 hs.1.2 (hl _ hs.1.1 hs.1.2 hne)
    rw [← hj] at hne
    obtain ⟨m1, x, x1, x2, x3, x4⟩ := main j j0 j1 hne
    have hlq : loc (P j) = q := by rw [hj]; exact hs.2.1
    rw [hlq] at x1 x2 x3 x4
    have ex : x = i := by
      rcases Int.lt_trichotomy x i with t | t | t
      · exact absurd (x2.trans hj) (hs.2.2 x x1.1 t)
      · exact t
      · exact absurd (hj.symm.trans x2.symm) ((hi.1 q x q0 q1 x1.1 x1.2).2.2 i i0 t)
    rw [ex] at x3 x4
    exact ⟨x3, by rw [x4, hj]⟩
  refine ⟨fun p p0 p1 hp => ?_, fun q q0 q1 => ?_, fun q i a b c d => (slot q i a b c d).2⟩
  · obtain ⟨j, ⟨j0, j1⟩, hj⟩ := L.2.2.2 p p0 p1 (hl p p0 p1 hp)
    rw [← hj] at hp ⊢
    exact (main j j0 j1 hp).1
  · by_cases z : T 20 q ≤ 0
    · have := (hq' q q0 q1).1.1
      omega
    · have := (slot q (T 20 q - 1) q0 q1 (by omega) (by omega)).1
      omega
theorem RK.tq (h : RK S n P T loc K) (h' : RK S n P T' loc' K) (V : VT S T loc) (V' : VT S T' loc') (L : LVe S n P) (I : IV S) : TQ T T' ∧ ∀ p, 0 ≤ p → p < S 5 13 → loc' p = loc p := by
  have h16 := g16r I.1.1
  have a := h.le h' V V' L
  have b := h'.le h V' V L
  have q20 : ∀ q, 0 ≤ q → q < 144 → T' 20 q = T 20 q := fun q q0 q1 => by
    have := a.2.1 q q0 q1
    have := b.2.1 q q0 q1
    omega
  refine ⟨⟨⟨⟨by rw [V'.1.1.1, V.1.1.1], fun j hj => by rw [V'.1.1.2 j hj, V.1.1.2 j hj]⟩, by rw [V'.1.2.2.1, V.1.2.2.1]⟩, q20, a.2.2, fun r r0 r1 => ?_⟩, fun p p0 p1 => ?_⟩
  · rw [V.1.1.1] at r1
    obtain ⟨c, rfl, -, a2⟩ := h
    obtain ⟨c', e, -, b2⟩ := h'
    have hc := eK_iff.mp e (3 + r) (by omega) (by omega)
    have p := a2 r r0 (by omega)
    have q := b2 r r0 (by omega)
    rw [if_pos r1] at p q
    rw [← q, ← hc, p]
  · by_cases z : loc p = -1
    · by_cases y : loc' p = -1
      · rw [z, y]
      · exact (b.1 p p0 p1 y).symm
    · exact a.1 p p0 p1 z
theorem RK.co (h : RK S n P T loc K) (V : VT S T loc) (q : TQ T T') (e : ∀ p, 0 ≤ p → p < S 5 13 → loc' p = loc p) (L : LVe S n P) (I : IV S) : RK S n P T' loc' K := by
  obtain ⟨⟨⟨h1, -⟩, h5, -⟩, ⟨hq, hi, hl⟩, -⟩ := V
  obtain ⟨c, rfl, a1, a2⟩ := h
  refine ⟨c, rfl, fun j j0 j1 => ⟨fun z => ?_, fun z => ?_⟩, fun r r0 r1 => ?_⟩
  · have hp := (L.2.1 j j0 z.1).1
    have el := e _ hp.1 hp.2
    rw [el] at z ⊢
    have hq1 := (hi.2 (P j) hp.1 (by rw [h5]; exact hp.2) z.2).1
    obtain ⟨i, i1, i2, i3⟩ := (a1 j j0 j1).1 z
    refine ⟨i, ?_, ?_, i3⟩
    · rw [q.2.1 _ hq1.1 hq1.2]; exact i1
    · rw [q.2.2.1 _ i hq1.1 hq1.2 i1.1 i1.2]; exact i2
  · refine (a1 j j0 j1).2 (fun y => z ⟨y.1, ?_⟩)
    have hp := (L.2.1 j j0 y.1).1
    rw [e _ hp.1 hp.2]
    exact y.2
  · rw [a2 r r0 r1]
    by_cases z : r < 2 * (S 1 3 + S 1 4)
    · rw [if_pos z, if_pos z, q.2.2.2 r r0 (by rw [h1]; exact z)]
    · rw [if_neg z, if_neg z]
/-! the same state goes the same ways -/
theorem TQ.f1 (h : TQ T T') (q0 : 0 ≤ q) (q1 : q < 144) : sfst T' q = sfst T q := by
  unfold sfst
  rw [h.2.1 q q0 q1]
  by_cases e : T 20 q ≤ 0
  · rw [if_pos e, if_pos e]
  · have := h.2.2.1 q 0 q0 q1 (Int.le_refl _) (by omega)
    rw [Int.add_zero] at this
    rw [if_neg e, if_neg e, this]
theorem TQ.xin (h : TQ T T') (q0 : 0 ≤ v * 9 + k) (q1 : v * 9 + k < 144) : sin T' v k = sin T v k := by
  unfold sin
  rw [h.f1 q0 q1, h.1.2]
theorem TQ.xpr (h : TQ T T') (q0 : 0 ≤ v * 9 + k) (q1 : v * 9 + k < 144) : spr T' v k d = spr T v k d := by
  unfold spr
  rw [h.f1 q0 q1, h.1.2, h.1.1.1]
theorem TQ.xes (h : TQ T T') (q0 : 0 ≤ v * 9 + k) (q1 : v * 9 + k < 144) : ses T' v k d = ses T v k d := by
  unfold ses
  rw [h.f1 q0 q1, h.1.2, h.1.1.1]
theorem TQ.xcn (h : TQ T T') (q0 : 0 ≤ v * 9 + k) (q1 : v * 9 + k < 144) : scn T' v k d = scn T v k d := by
  unfold scn
  rw [h.xes q0 q1]
theorem TQ.xad (h : TQ T T') (g : gIn (T 1 3) (T 1 4)) (v0 : 0 ≤ v) (v1 : v < T 1 3 * T 1 4) (k0 : 0 ≤ k) (k1 : k < 9) (d0 : 0 ≤ d) (d1 : d < 4) : sad T' v k d = sad T v k d := by
  have hN := gN g
  have hn := gn_in g v0 v1 d0 d1
  unfold sad
  rw [h.xpr (by omega) (by omega), h.1.1.1, h.1.1.2 7 (by decide), h.2.1 _ (by omega) (by omega)]
theorem TQ.xfa (h : TQ T T') (g : gIn (T 1 3) (T 1 4)) (v0 : 0 ≤ v) (v1 : v < T 1 3 * T 1 4) (d0 : 0 ≤ d) (d1 : d < 4) : sfa T' v d = sfa T v d := by
  have hN := gN g
  have hn := gn_in g v0 v1 d0 d1
  unfold sfa
  rw [h.1.1.1, h.1.1.2 6 (by decide), h.2.1 _ (by omega) (by omega)]
theorem TQ.xel (h : TQ T T') (g : gIn (T 1 3) (T 1 4)) (v0 : 0 ≤ v) (v1 : v < T 1 3 * T 1 4) (k0 : 0 ≤ k) (k1 : k < 9) (d0 : 0 ≤ d) (d1 : d < 4) : sel T' v k d = sel T v k d := by
  have hN := gN g
  have hr := gr_in g v0 v1 d0 d1
  unfold sel srl srn
  rw [h.xes (by omega) (by omega), h.xfa g v0 v1 d0 d1, h.1.1.1, h.1.1.2 8 (by decide), h.2.2.2 _ hr.1 hr.2]
theorem TQ.dr (h : TQ T T') (h6 : ∀ y, 0 ≤ y → y < 144 → T 20 y ≤ 6) (q0 : 0 ≤ q) (q1 : q < 144) (hs : 0 < T 20 q) : TQ (sdr T q) (sdr T' q) := by
  have hs' : 0 < T' 20 q := by rw [h.2.1 q q0 q1]; exact hs
  have r : ∀ (U : qMem) (f : Nat), f ≠ 20 → f ≠ 21 → sdr U q f = U f := fun U f a b => sdr_f a b
  refine ⟨⟨⟨by rw [r _ 1 (by decide) (by decide), r _ 1 (by decide) (by decide)]; exact h.1.1.1, fun j hj => by rw [r _ 0 (by decide) (by decide), r _ 0 (by decide) (by decide)]; exact h.1.1.2 j hj⟩, by rw [r _ 7 (by decide) (by decide), r _ 7 (by decide) (by decide)]; exact h.1.2⟩, fun x x0 x1 => ?_, fun x i x0 x1 i0 i1 => ?_, fun r' a b => ?_⟩
  · rw [sdr_20 hs, sdr_20 hs', h.2.1 q q0 q1, h.2.1 x x0 x1]
  · rw [sdr_20 hs] at i1
    rw [sdr_21 hs, sdr_21 hs', h.2.1 q q0 q1]
    by_cases e : x = q
    · rw [if_pos e] at i1
      rw [e, if_pos (by omega), if_pos (by omega), Int.add_assoc]
      exact h.2.2.1 q (i + 1) q0 q1 (by omega) (by omega)
    · rw [if_neg e] at i1
      have hx6 := h6 x x0 x1
      have hq6 := h6 q q0 q1
      rw [if_neg (by omega), if_neg (by omega)]
      exact h.2.2.1 x i x0 x1 i0 i1
  · rw [r _ 1 (by decide) (by decide)] at b
    rw [r _ 25 (by decide) (by decide), r _ 25 (by decide) (by decide)]
    exact h.2.2.2 r' a b
theorem TQ.pu (h : TQ T T') (h6 : ∀ y, 0 ≤ y → y < 144 → 0 ≤ T 20 y ∧ T 20 y ≤ 6) (q0 : 0 ≤ q) (q1 : q < 144) (hs : T 20 q < 6) : TQ (spu T q p) (spu T' q p) := by
  have hs' : T' 20 q < 6 := by rw [h.2.1 q q0 q1]; exact hs
  have hq6 := h6 q q0 q1
  have r : ∀ (U : qMem) (f : Nat), f ≠ 20 → f ≠ 21 → spu U q p f = U f := fun U f a b => spu_f a b
  refine ⟨⟨⟨by rw [r _ 1 (by decide) (by decide), r _ 1 (by decide) (by decide)]; exact h.1.1.1, fun j hj => by rw [r _ 0 (by decide) (by decide), r _ 0 (by decide) (by decide)]; exact h.1.1.2 j hj⟩, by rw [r _ 7 (by decide) (by decide), r _ 7 (by decide) (by decide)]; exact h.1.2⟩, fun x x0 x1 => ?_, fun x i x0 x1 i0 i1 => ?_, fun r' a b => ?_⟩
  · rw [spu_20 hs, spu_20 hs', h.2.1 q q0 q1, h.2.1 x x0 x1]
  · rw [spu_20 hs] at i1
    rw [spu_21 hs, spu_21 hs', h.2.1 q q0 q1]
    have hx6 := h6 x x0 x1
    by_cases z : x * 6 + i = q * 6 + T 20 q
    · rw [if_pos z, if_pos z]
    · rw [if_neg z, if_neg z]
      by_cases e : x = q
      · rw [if_pos e] at i1
        exact h.2.2.1 x i x0 x1 i0 (by rw [e] at z ⊢; omega)
      · rw [if_neg e] at i1
        exact h.2.2.1 x i x0 x1 i0 i1
  · rw [r _ 1 (by decide) (by decide)] at b
    rw [r _ 25 (by decide) (by decide), r _ 25 (by decide) (by decide)]
    exact h.2.2.2 r' a b
theorem VT.h6 (V : VT S T loc) (I : IV S) : ∀ y, 0 ≤ y → y < 144 → 0 ≤ T 20 y ∧ T 20 y ≤ 6 := fun y a b => ((V.iw I).2.2.2 y a b).1
theorem dr_6 (h6 : ∀ y, 0 ≤ y → y < 144 → 0 ≤ T 20 y ∧ T 20 y ≤ 6) (hs : 0 < T 20 q) : ∀ y, 0 ≤ y → y < 144 → 0 ≤ sdr T q 20 y ∧ sdr T q 20 y ≤ 6 := fun y a b => by
  have := h6 y a b
  rw [sdr_20 hs]
  by_cases e : y = q
  · rw [if_pos e]
    rw [e] at this
    omega
  · rw [if_neg e]; exact this
/-- where one comes to -/
def tgt (T : qMem) (v d l : Int) : Int := gn (T 1 3) (T 1 4) v d * 9 + (if l = 1 then 1 else 5) + d
theorem tgt_in (g : gIn (T 1 3) (T 1 4)) (v0 : 0 ≤ v) (v1 : v < T 1 3 * T 1 4) (d0 : 0 ≤ d) (d1 : d < 4) : (0 ≤ tgt T v d l ∧ tgt T v d l < 144) ∧ tgt T v d l < T 1 3 * T 1 4 * 9 ∧ tgt T v d l / 9 = gn (T 1 3) (T 1 4) v d := by
  have hN := gN g
  have hn := gn_in g v0 v1 d0 d1
  have hl : (if l = 1 then (1 : Int) else 5) = 1 ∨ (if l = 1 then (1 : Int) else 5) = 5 := by split <;> simp
  unfold tgt
  omega
theorem TQ.sm (h : TQ T T') (h6 : ∀ y, 0 ≤ y → y < 144 → 0 ≤ T 20 y ∧ T 20 y ≤ 6) (g : gIn (T 1 3) (T 1 4)) (v0 : 0 ≤ v) (v1 : v < T 1 3 * T 1 4) (k0 : 0 ≤ k) (k1 : k < 9) (d0 : 0 ≤ d) (d1 : d < 4) (hs : 0 < T 20 (v * 9 + k)) (hc : T 20 (tgt T v d l) < 6) : TQ (ssm T v k d l) (ssm T' v k d l) := by
  have hN := gN g
  have ht := tgt_in (l := l) g v0 v1 d0 d1
  have hd := dr_6 h6 hs
  unfold ssm
  rw [h.f1 (by omega) (by omega), h.1.1.1]
  refine TQ.pu (h.dr (fun y a b => (h6 y a b).2) (by omega) (by omega) hs) hd ht.1.1 ht.1.2 ?_
  rw [sdr_20 hs]
  show (if tgt T v d l = v * 9 + k then T 20 (v * 9 + k) - 1 else T 20 (tgt T v d l)) < 6
  by_cases e : tgt T v d l = v * 9 + k
  · have := h6 (v * 9 + k) (by omega) (by omega)
    rw [if_pos e]
    omega
  · rw [if_neg e]; exact hc
theorem TQ.sh (h : TQ T T') (h6 : ∀ y, 0 ≤ y → y < 144 → 0 ≤ T 20 y ∧ T 20 y ≤ 6) (g : gIn (T 1 3) (T 1 4)) (v0 : 0 ≤ v) (v1 : v < T 1 3 * T 1 4) (k0 : 0 ≤ k) (k1 : k < 9) (d0 : 0 ≤ d) (d1 : d < 4) (hs : 0 < T 20 (v * 9 + k)) (hc : T 20 (tgt T v d l) < 6) : TQ (ssh T v k d l) (ssh T' v k d l) := by
  have hN := gN g
  have hr := gr_in g v0 v1 d0 d1
  have hm := h.sm (l := l) h6 g v0 v1 k0 k1 d0 d1 hs hc
  have f1 : ssm T v k d l 1 = T 1 := ssm_f (by decide) (by decide)
  have es : sst T' v k d l = sst T v k d l := by
    unfold sst
    rw [h.xcn (by omega) (by omega), h.1.1.2 8 (by decide), h.1.1.1, h.2.2.2 _ hr.1 hr.2, hm.xfa (by rw [f1]; exact g) v0 (by rw [f1]; exact v1) d0 d1]
  unfold ssh
  rw [es]
  by_cases z : sst T v k d l = true
  · rw [if_pos z, if_pos z, h.1.1.1]
    refine ⟨⟨⟨by rw [qud_row (by decide), qud_row (by decide)]; exact hm.1.1.1, fun j hj => by rw [qud_nk (by decide), qud_nk (by decide)]; exact hm.1.1.2 j hj⟩, by rw [qud_row (by decide), qud_row (by decide)]; exact hm.1.2⟩, fun x a b => by rw [qud_nk (by decide), qud_nk (by decide)]; exact hm.2.1 x a b, fun x i a b c e => ?_, fun r' a b => ?_⟩
    · rw [qud_nk (by decide)] at e
      rw [qud_nk (by decide), qud_nk (by decide)]
      exact hm.2.2.1 x i a b c e
    · rw [qud_nk (by decide), qud_nk (by decide)] at b
      rw [qud_if, qud_if]
      by_cases y : r' = gr (T 1 3) (T 1 4) v d
      · rw [if_pos y, if_pos y]
      · rw [if_neg y, if_neg y]
        exact hm.2.2.2 r' a b
  · rw [if_neg z, if_neg z]; exact hm
/-! a step keeps what holds -/
theorem VT.pop (V : VT S T loc) (q0 : 0 ≤ q) (q1 : q < 144) (he : sfst T q ≠ -1) : VT S (sdr T q) (lmv loc (sfst T q) (-1)) := by
  obtain ⟨⟨-, hs⟩, ef, -⟩ := V.first q0 q1 he
  obtain ⟨⟨⟨h1, h0⟩, h5, h7, h22⟩, ⟨hq, hi, hl⟩, hO⟩ := V
  have r : ∀ f : Nat, f ≠ 20 → f ≠ 21 → sdr T q f = T f := fun f a b => sdr_f a b
  refine ⟨⟨⟨by rw [r 1 (by decide) (by decide), h1], fun j hj => by rw [r 0 (by decide) (by decide), h0 j hj]⟩, by rw [r 5 (by decide) (by decide), h5], by rw [r 7 (by decide) (by decide), h7], by rw [r 22 (by decide) (by decide), h22]⟩, ⟨fun x a b => ?_, ?_, fun p a b c => ?_⟩, ?_⟩
  · have := hq x a b
    unfold cap at this ⊢
    rw [r 0 (by decide) (by decide), r 1 (by decide) (by decide), sdr_20 hs]
    by_cases e : x = q
    · rw [if_pos e]
      rw [e] at this ⊢
      omega
    · rw [if_neg e]; exact this
  · rw [ef]; exact hi.pop q0 q1 hs
  · unfold lmv at c
    split at c
    · exact absurd rfl c
    · exact hl p a b c
  · unfold HO
    rw [r 1 (by decide) (by decide), r 25 (by decide) (by decide)]
    exact hO
theorem VT.mv (V : VT S T loc) (I : IV S) (v0 : 0 ≤ v) (v1 : v < T 1 3 * T 1 4) (k0 : 0 ≤ k) (k1 : k < 9) (d0 : 0 ≤ d) (d1 : d < 4) (hl : l = 1 ∨ l = 2) (he : sfst T (v * 9 + k) ≠ -1) (hc : T 20 (tgt T v d l) < (if l = 1 then T 0 6 else T 0 7)) : VT S (ssh T v k d l) (lmv loc (sfst T (v * 9 + k)) (tgt T v d l)) := by
  have hg := V.gg I
  have hN := gN hg.1
  have ht := tgt_in (l := l) hg.1 v0 v1 d0 d1
  have h6 := V.h6 I
  obtain ⟨⟨⟨p0, p1⟩, hs⟩, ef, hlo, hq9⟩ := V.first (q := v * 9 + k) (by omega) (by omega) he
  have hlive : S 9 (sfst T (v * 9 + k)) ≠ 3 := V.2.1.2.2 _ p0 p1 (by rw [hlo]; omega)
  have V1 := V.pop (q := v * 9 + k) (by omega) (by omega) he
  have hg1 := V1.gg I
  have r : ∀ f : Nat, f ≠ 20 → f ≠ 21 → sdr T (v * 9 + k) f = T f := fun f a b => sdr_f a b
  have hcap : (if l = 1 then T 0 6 else T 0 7) ≤ 4 := by
    have := hg.2.1
    have := hg.2.2.1
    split <;> omega
  have hn := gn_in hg.1 v0 v1 d0 d1
  have h20 : sdr T (v * 9 + k) 20 (tgt T v d l) ≤ T 20 (tgt T v d l) := by
    rw [sdr_20 hs]
    split
    · rename_i e
      rw [e]; omega
    · exact Int.le_refl _
  have Im := QI.push (p := sfst T (v * 9 + k)) V1.2.1.2.1 V1.2.1.1 hg1.2 ht.1.1 ht.1.2 (by omega) p0 (by rw [r 5 (by decide) (by decide), V.1.2.1]; exact p1) (by unfold lmv; rw [if_pos rfl])
  have s : ∀ f : Nat, f ≠ 20 → f ≠ 21 → f ≠ 25 → ssh T v k d l f = T f := fun f a b c => ssh_f a b c
  have e20 : ssh T v k d l 20 = ssm T v k d l 20 := ssh_q (Or.inl rfl)
  have e21 : ssh T v k d l 21 = ssm T v k d l 21 := ssh_q (Or.inr rfl)
  have e20' : ∀ x, ssh T v k d l 20 x = if x = tgt T v d l then sdr T (v * 9 + k) 20 (tgt T v d l) + 1 else sdr T (v * 9 + k) 20 x := fun x => by
    have hlt : sdr T (v * 9 + k) 20 (tgt T v d l) < 6 := by omega
    rw [e20]
    exact spu_20 hlt
  obtain ⟨⟨⟨h1, h0⟩, h5, h7, h22⟩, ⟨hq, hi, hl2⟩, hO⟩ := V
  refine ⟨⟨⟨by rw [s 1 (by decide) (by decide) (by decide), h1], fun j hj => by rw [s 0 (by decide) (by decide) (by decide), h0 j hj]⟩, by rw [s 5 (by decide) (by decide) (by decide), h5], by rw [s 7 (by decide) (by decide) (by decide), h7], by rw [s 22 (by decide) (by decide) (by decide), h22]⟩, ⟨fun x a b => ?_, ?_, fun p a b c => ?_⟩, fun r' a b => ?_⟩
  · have hx := V1.2.1.1 x a b
    have hx2 := hq x a b
    unfold cap at hx hx2 ⊢
    rw [r 0 (by decide) (by decide), r 1 (by decide) (by decide)] at hx
    rw [s 0 (by decide) (by decide) (by decide), s 1 (by decide) (by decide) (by decide), e20']
    by_cases e : x = tgt T v d l
    · rw [if_pos e]
      rw [e] at hx hx2 ⊢
      have hk : (tgt T v d l % 9 = 0 ∧ False) ∨ (l = 1 ∧ tgt T v d l % 9 ≠ 0 ∧ tgt T v d l % 9 < 5) ∨ (l = 2 ∧ tgt T v d l % 9 ≠ 0 ∧ ¬ tgt T v d l % 9 < 5) := by
        unfold tgt
        rcases hl with rfl | rfl
        · rw [if_pos rfl]; omega
        · rw [if_neg (by decide)]; omega
      rcases hk with z | z | z
      · exact z.2.elim
      · rw [if_neg z.2.1, if_pos z.2.2] at hx ⊢
        rw [if_pos z.1] at hc
        omega
      · rw [if_neg z.2.1, if_neg z.2.2] at hx ⊢
        rw [if_neg (by omega)] at hc
        omega
    · rw [if_neg e]; exact hx
  · refine QI.co Im (by rw [s 5 (by decide) (by decide) (by decide), spu_f (f := 5) (by decide) (by decide), r 5 (by decide) (by decide)]) e20 e21 (fun p p0 p1 => ?_)
    · unfold lmv
      by_cases e : p = sfst T (v * 9 + k)
      · rw [if_pos e, if_pos e]
      · rw [if_neg e, if_neg e, if_neg e]
  · unfold lmv at c
    by_cases e : p = sfst T (v * 9 + k)
    · rw [e]; exact hlive
    · rw [if_neg e] at c
      exact hl2 p a b c
  · rw [s 1 (by decide) (by decide) (by decide)] at b ⊢
    have hr := gr_in hg.1 v0 v1 d0 d1
    have hd := gd_gr hg.1 v0 v1 d0 d1
    rcases ssh_25 (S := T) (v := v) (k := k) (d := d) (l := l) (n := r') with z | z
    · rw [z]; exact hO r' a b
    · rw [z.1, z.2, hd]
      exact ⟨⟨v0, v1⟩, rfl⟩
end SS
