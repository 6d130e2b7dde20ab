/-! schedules, the reference: a state's record; a state is met -/
def rcv (S : qMem) (dc : Int → Int) (K : List Int) (t : Int) : Int := if t < 3 + 2 * (S 1 3 + S 1 4) then kA K t else dc (t - 3)
def mDd (S : qMem) (dc : Int → Int) (w : qMem) : Prop := ∀ r, 2 * (S 1 3 + S 1 4) ≤ r → r < 16 → w 89 (5274 + 6 * r) = dc r
def mLi (n : Int) (P : Int → Int) (w : qMem) : Prop := w 88 7 = n ∧ ∀ j, 0 ≤ j → j < n → w 94 j = P j
def mRec (S : qMem) (dc : Int → Int) (w : qMem) (i : Int) (K : List Int) : Prop := ∀ t, 0 ≤ t → t < 19 → w 92 (19 * i + t) = rcv S dc K t
def mMem (S U : qMem) (loc : Int → Int) (n : Int) (P dc : Int → Int) (w : qMem) : Prop := (RM w U ∧ VT S U loc ∧ mRw S U) ∧ mDd S dc w ∧ mLi n P w
/-- what meeting a state comes to -/
def mMts (S : qMem) (dc : Int → Int) (N : Int) (ks : Int → List Int) (K : List Int) (w : qMem) (r : Int × qMem) : Prop := ((∃ j, (0 ≤ j ∧ j < N) ∧ ks j = K ∧ r.1 = j ∧ r.2 88 8 = N ∧ r.2 93 = w 93) ∨ ((∀ j, 0 ≤ j → j < N → ks j ≠ K) ∧ r.1 = N ∧ r.2 88 8 = N + 1 ∧ mRec S dc r.2 N K ∧ r.2 93 = qud w 93 N 0 93)) ∧ (∀ k : Nat, k ≠ 88 → k ≠ 92 → k ≠ 93 → r.2 k = w k) ∧ (∀ j, j ≠ 8 → r.2 88 j = w 88 j) ∧ ∀ j, j < 19 * N → r.2 92 j = w 92 j
/-- while a state is written down: x of its numbers stand -/
def mWv (S : qMem) (dc : Int → Int) (K : List Int) (N : Int) (w : qMem) (x : Int) (w' : qMem) : Prop := (∀ k : Nat, k ≠ 92 → w' k = w k) ∧ (∀ j, j < 19 * N → w' 92 j = w 92 j) ∧ ∀ t, 0 ≤ t → t < x → w' 92 (19 * N + t) = rcv S dc K t
section EO
variable {w w' w0 w2 S T T' U F : qMem} {loc loc' P dc : Int → Int} {v k d l q p i j n r x y m W H N s t a c : Int} {K K' root b : List Int} {ks : Int → List Int} {f g : Int → Int}
theorem rcv_inj (h : RK S n P T loc K) (h' : RK S n P T' loc' K') (I : IV S) (e : ∀ t, 0 ≤ t → t < 19 → rcv S dc K t = rcv S dc K' t) : K = K' := by
  have hg := I.1.1
  unfold gIn at hg
  have key : ∀ t, 0 ≤ t → t < 19 → kA K t = kA K' t := fun t t0 t1 => by
    by_cases z : t < 3 + 2 * (S 1 3 + S 1 4)
    · have := e t t0 t1
      unfold rcv at this
      rw [if_pos z, if_pos z] at this
      exact this
    · have a := h.rg (r := t - 3) (by omega) (by omega)
      have b := h'.rg (r := t - 3) (by omega) (by omega)
      rw [if_neg (by omega), show 3 + (t - 3) = t by omega] at a b
      rw [a, b]
  obtain ⟨c, rfl, -⟩ := h
  obtain ⟨c', rfl, -⟩ := h'
  refine eK_iff.mpr (fun i i0 i1 => ?_)
  have := key i i0 i1
  rw [kA_e i0 i1, kA_e i0 i1] at this
  exact this
theorem rcv_3 (I : IV S) (t1 : t < 3) : rcv S dc K t = kA K t := by
  have hg := I.1.1
  unfold gIn at hg
  unfold rcv
  rw [if_pos (by omega)]
theorem rcv_r (h : RK S n P T loc K) (r0 : 0 ≤ r) (r1 : r < 16) : rcv S dc K (3 + r) = if r < 2 * (S 1 3 + S 1 4) then T 25 r else dc r := by
  unfold rcv
  have := h.rg r0 r1
  by_cases z : r < 2 * (S 1 3 + S 1 4)
  · rw [if_pos z] at this
    rw [if_pos z, if_pos (by omega), this]
  · rw [if_neg z, if_neg (by omega), show 3 + r - 3 = r by omega]
/-- where a packet is -/
theorem m_placeV (h : RM w U) (g : gIn (U 1 3) (U 1 4)) (hz : ∀ q, 0 ≤ q → q < 144 → 0 ≤ U 20 q ∧ U 20 q ≤ 3) (hy : y = 432 ∨ ∃ q i, (0 ≤ q ∧ q < 9 * (U 1 3 * U 1 4)) ∧ (0 ≤ i ∧ i < U 20 q) ∧ U 21 (q * 6 + i) = x ∧ y = 3 * q + i) (hu : ∀ q i, 0 ≤ q → q < 9 * (U 1 3 * U 1 4) → 0 ≤ i → i < U 20 q → U 21 (q * 6 + i) = x → y = 3 * q + i) : f_M_placeIn x w = some (y, w) := by
  have hN := gN g
  have inner : ∀ (r2 : Int → Int → qMem → Option (Int × qMem)) (r12 : Int → Int → Int → qMem → Option (Int × qMem)) (v k : Int), 0 ≤ v → v < U 1 3 * U 1 4 → 0 ≤ k → k < 9 → ((y = 432 ∨ 3 * (v * 9 + (k + 1)) ≤ y) → r12 x v (k + 1) w = some (y, w)) → ∀ (m : Nat) (j : Int), 0 ≤ j → j ≤ U 20 (v * 9 + k) → U 20 (v * 9 + k) - j < m → (y = 432 ∨ 3 * (v * 9 + k) + j ≤ y) → f_M_placeIn_21 r2 r12 m x v k j w = some (y, w) := by
    intro r2 r12 v k v0 v1 k0 k1 hnext m
    have hs := hz (v * 9 + k) (by omega) (by omega)
    induction m with
    | zero => intro j _ _ _; omega
    | succ m ih =>
      intro j j0 j1 hm hj
      rw [f_M_placeIn_21, qbd (m_many h v0 (by omega) k0 k1)]
      dsimp only
      by_cases c : j < U 20 (v * 9 + k)
      · rw [if_pos c, qbd (m_queueAt v0 (by omega) k0 k1)]
        dsimp only
        rw [w32_ok (z := 4266 + 7 * (v * 9 + k) + 1) (by omega) (by omega), w32_ok (by omega) (by omega), qld_ok (by omega) (by omega), w32_ok (z := j + 1) (by omega) (by omega), rm_21 h (n := (v * 9 + k) * 6 + j) (by omega) (by omega) (by rw [show ((v * 9 + k) * 6 + j) % 6 = j by omega, show ((v * 9 + k) * 6 + j) / 6 = v * 9 + k by omega]; exact c) (by omega)]
        by_cases c2 : U 21 ((v * 9 + k) * 6 + j) = x
        · have e := hu (v * 9 + k) j (by omega) (by omega) j0 c c2
          rw [if_pos c2]
          unfold f_M_placeIn_51
          rw [qbd (m_slot v0 (by omega) k0 k1)]
          dsimp only
          rw [w32_ok (z := 3 * (v * 9 + k)) (by omega) (by omega), w32_ok (by omega) (by omega), e]
        · rw [if_neg c2]
          refine ih (j + 1) (by omega) (by omega) (by omega) ?_
          rcases hj with z | z
          · exact Or.inl z
          · rcases hy with z2 | ⟨q', i', a, b, e1, e2⟩
            · exact Or.inl z2
            · have hs' := hz q' a.1 (by omega)
              by_cases z3 : 3 * (v * 9 + k) + j = y
              · exfalso
                have e3 : q' = v * 9 + k := by omega
                have e4 : i' = j := by omega
                rw [e3, e4] at e1
                exact c2 e1
              · exact Or.inr (by omega)
      · rw [if_neg c, w32_ok (z := k + 1) (by omega) (by omega)]
        refine hnext ?_
        rcases hj with z | z
        · exact Or.inl z
        · rcases hy with z2 | ⟨q', i', a, b, e1, e2⟩
          · exact Or.inl z2
          · have hs' := hz q' a.1 (by omega)
            by_cases z3 : q' = v * 9 + k
            · rw [z3] at b
              omega
            · exact Or.inr (by omega)
  have mid : ∀ (r2 : Int → Int → qMem → Option (Int × qMem)) (v : Int), 0 ≤ v → v < U 1 3 * U 1 4 → ((y = 432 ∨ 3 * ((v + 1) * 9) ≤ y) → r2 x (v + 1) w = some (y, w)) → ∀ (m : Nat) (k : Int), 0 ≤ k → k ≤ 9 → 9 - k < m → (y = 432 ∨ 3 * (v * 9 + k) ≤ y) → f_M_placeIn_12 r2 m x v k w = some (y, w) := by
    intro r2 v v0 v1 hnext m
    induction m with
    | zero => intro k _ _ _; omega
    | succ m ih =>
      intro k k0 k1 hm hk
      rw [f_M_placeIn_12]
      by_cases c : k < 9
      · rw [if_pos c]
        have hs := hz (v * 9 + k) (by omega) (by omega)
        exact inner r2 (f_M_placeIn_12 r2 m) v k v0 v1 k0 c (fun z => ih (k + 1) (by omega) (by omega) (by omega) z) qFU 0 (by omega) hs.1 (qFU_gt (by omega)) (by omega)
      · rw [if_neg c, w32_ok (z := v + 1) (by omega) (by omega)]
        exact hnext (by omega)
  have outer : ∀ (m : Nat) (v : Int), 0 ≤ v → v ≤ U 1 3 * U 1 4 → U 1 3 * U 1 4 - v < m → (y = 432 ∨ 3 * (v * 9) ≤ y) → f_M_placeIn_2 m x v w = some (y, w) := by
    intro m
    induction m with
    | zero => intro v _ _ _; omega
    | succ m ih =>
      intro v v0 v1 hm hv
      rw [f_M_placeIn_2, qbd (mg_nodes h.wh g)]
      dsimp only
      by_cases c : v < U 1 3 * U 1 4
      · rw [if_pos c]
        exact mid (f_M_placeIn_2 m) v v0 c (fun z => ih (v + 1) (by omega) (by omega) (by omega) z) qFU 0 (by omega) (by omega) (qFU_gt (by omega)) (by omega)
      · rw [if_neg c]
        have e : y = 432 := by
          rcases hv with z | z
          · exact z
          · rcases hy with z2 | ⟨q', i', a, b, e1, e2⟩
            · exact z2
            · have hs' := hz q' a.1 (by omega)
              omega
        rw [e]
  have hy0 : y = 432 ∨ 3 * ((0 : Int) * 9) ≤ y := by
    rcases hy with z | ⟨q, i, a, b, e1, e2⟩
    · exact Or.inl z
    · exact Or.inr (by omega)
  unfold f_M_placeIn
  exact outer qFU 0 (by omega) (by omega) (qFU_gt (by omega)) hy0
theorem m_placeP (h : RM w U) (V : VT S U loc) (R : RK S n P U loc K) (L : LVe S n P) (I : IV S) (j0 : 0 ≤ j) (j1 : j < n) : f_M_placeIn (P j) w = some (kA K j, w) := by
  have hn := L.1
  have hN := gN I.1.1
  have e1 : U 1 = S 1 := V.1.1.1
  have hat := R.at V L j0 (show j < 3 by omega)
  have hit : ∀ q i, 0 ≤ q → q < 144 → 0 ≤ i → i < U 20 q → U 21 (q * 6 + i) = P j → spo loc P n j = q := fun q i q0 q1 i0 i1 e => by
    have := (V.2.1.2.1.1 q i q0 q1 i0 i1).2.1
    rw [e] at this
    exact spo_of j1 this (by omega)
  refine m_placeV h (V.gg I).1 (fun q q0 q1 => ⟨(V.h6 I q q0 q1).1, by have := V.n3 L q0 q1; omega⟩) ?_ (fun q i q0 q1 i0 i1 e => ?_)
  · rcases hat with ⟨-, z⟩ | ⟨⟨a, b, c, e⟩, i, i1, i2, i3⟩
    · exact Or.inl z
    · refine Or.inr ⟨_, i, ⟨c, by rw [e1]; omega⟩, ⟨i1.1, i1.2.2⟩, i2, i3⟩
  · rw [e1] at q1
    have hs := hit q i q0 (by omega) i0 i1 e
    rcases hat with ⟨z, -⟩ | ⟨⟨a, b, c, e4⟩, i', i1', i2', i3'⟩
    · omega
    · rw [hs] at i1' i2' i3'
      have hQ := V.2.1.2.1.1
      rcases Int.lt_trichotomy i i' with z | z | z
      · exact absurd (e.trans i2'.symm) ((hQ q i' q0 (by omega) i1'.1 i1'.2.2).2.2 i i0 z)
      · rw [i3', z]
      · exact absurd (i2'.trans e.symm) ((hQ q i q0 (by omega) i0 i1).2.2 i' i1'.1 z)
theorem mWv.wr (h : mWv S dc K N w x w') (hv : v = rcv S dc K x) : mWv S dc K N w (x + 1) (qud w' 92 (19 * N + x) v) ∨ x < 0 := by
  by_cases hx : x < 0
  · exact Or.inr hx
  · refine Or.inl ⟨fun k hk => by rw [qud_row hk, h.1 k hk], fun j hj => by rw [qud_ni (by omega)]; exact h.2.1 j hj, fun t t0 t1 => ?_⟩
    rw [qud_if]
    by_cases e : t = x
    · rw [if_pos (by omega), hv, e]
    · rw [if_neg (by omega)]
      exact h.2.2 t t0 (by omega)
theorem m_meetsV (hM : mMem S U loc n P dc w) (R : RK S n P U loc K) (L : LVe S n P) (I : IV S) (h8 : w 88 8 = N) (hN0 : 0 ≤ N ∧ N ≤ 400) (hk : ∀ i, 0 ≤ i → i < N → mRec S dc w i (ks i) ∧ vK S n P (ks i)) : kT (f_M_meetsState w) (mMts S dc N ks K w) := by
  obtain ⟨⟨hR, V, -⟩, hD, hL7, hL94⟩ := hM
  have hn := L.1
  have hN := gN I.1.1
  have h16 := g16r I.1.1
  have e1 : U 1 = S 1 := V.1.1.1
  have h148 : ∀ w', mWv S dc K N w 19 w' → (∀ j, 0 ≤ j → j < N → ks j ≠ K) → kT (f_M_meetsState_148 w') (mMts S dc N ks K w) := by
    intro w' hw hall
    have e : w' 88 = w 88 := hw.1 88 (by decide)
    unfold f_M_meetsState_148
    rw [e, h8]
    refine kT_st hN0.1 (by omega) ?_
    rw [qlt_ok, qud_row (show (88 : Nat) ≠ 93 by decide), e, h8, w32_ok (z := N + 1) (by omega) (by omega), qud_s, w32_ok (by omega) (by omega)]
    refine kT_some ?_
    unfold mMts
    dsimp only
    refine ⟨Or.inr ⟨hall, by omega, qud_s, fun t t0 t1 => ?_, ?_⟩, fun k a b c => by rw [qud_row a, qud_row c, hw.1 k b], fun j hj => by rw [qud_ni hj, qud_row (by decide), e], fun j hj => ?_⟩
    · rw [qud_row (by decide), qud_row (by decide)]
      exact hw.2.2 t t0 t1
    · rw [qud_row (by decide)]
      funext j
      rw [qud_if, qud_if, hw.1 93 (by decide)]
    · rw [qud_row (by decide), qud_row (by decide)]
      exact hw.2.1 j hj
  have h88 : ∀ w', mWv S dc K N w 19 w' → kT (f_M_meetsState_88 (19 * N) w') (mMts S dc N ks K w) := by
    intro w' hw
    have e : w' 88 = w 88 := hw.1 88 (by decide)
    have main : ∀ (m : Nat) (k : Int), 0 ≤ k → k ≤ N → N - k < m → (∀ j, 0 ≤ j → j < k → ks j ≠ K) → kT (f_M_meetsState_90 m (19 * N) k w') (mMts S dc N ks K w) := by
      intro m
      induction m with
      | zero => intro k _ _ _; omega
      | succ m ih =>
        intro k k0 k1 hm hne
        rw [f_M_meetsState_90, e, h8]
        refine kT_if (fun c => ?_) (fun c => h148 w' hw (fun j a b => hne j a (by omega)))
        obtain ⟨hrec, T1, l1, V1, R1⟩ := hk k k0 c
        have h134 : ∀ i, (i = 19 ↔ ks k = K) → kT (f_M_meetsState_134 (f_M_meetsState_90 m) (19 * N) k i w') (mMts S dc N ks K w) := by
          intro i hi
          unfold f_M_meetsState_134
          rw [w32_ok (z := k + 1) (by omega) (by omega)]
          refine kT_if (fun z => kT_some ?_) (fun z => ih (k + 1) (by omega) (by omega) (by omega) (fun j a b => ?_))
          · unfold mMts
            dsimp only
            exact ⟨Or.inl ⟨k, ⟨k0, c⟩, hi.mp z, rfl, by rw [e, h8], hw.1 93 (by decide)⟩, fun k _ b _ => hw.1 k b, fun j _ => by rw [e], hw.2.1⟩
          · by_cases y : j = k
            · rw [y]
              exact fun u => z (hi.mpr u)
            · exact hne j a (by omega)
        have inner : ∀ (m' : Nat) (i : Int), 0 ≤ i → i ≤ 19 → 19 - i < m' → (∀ t, 0 ≤ t → t < i → rcv S dc (ks k) t = rcv S dc K t) → kT (f_M_meetsState_100 (f_M_meetsState_90 m) m' (19 * N) k i w') (mMts S dc N ks K w) := by
          intro m'
          induction m' with
          | zero => intro i _ _ _; omega
          | succ m' ih' =>
            intro i i0 i1 hm' heq
            rw [f_M_meetsState_100]
            refine kT_if (fun c2 => ?_) (fun c2 => ?_)
            · have a1 : w' 92 (19 * k + i) = rcv S dc (ks k) i := by
                rw [hw.2.1 _ (by omega)]
                exact hrec i i0 c2
              have a2 : w' 92 (19 * N + i) = rcv S dc K i := hw.2.2 i i0 c2
              rw [w32_ok (z := 19 * k) (by omega) (by omega), w32_ok (z := 19 * k + i) (by omega) (by omega), w32_ok (z := 19 * N + i) (by omega) (by omega), qld_ok (by omega) (by omega), qld_ok (by omega) (by omega), w32_ok (z := i + 1) (by omega) (by omega), a1, a2]
              refine kT_if (fun z => ih' (i + 1) (by omega) (by omega) (by omega) (fun t t0 t1 => ?_)) (fun z => h134 i ⟨fun y => by omega, fun y => absurd (by rw [y]) z⟩)
              by_cases y : t = i
              · rw [y]; exact z
              · exact heq t t0 (by omega)
            · have e19 : i = 19 := by omega
              refine h134 i ⟨fun _ => rcv_inj R1 R I (fun t t0 t1 => heq t t0 (by omega)), fun _ => e19⟩
        exact inner qFU 0 (by omega) (by omega) (qFU_gt (by omega)) (fun t a b => by omega)
    unfold f_M_meetsState_88
    exact main qFU 0 (by omega) hN0.1 (qFU_gt (by omega)) (fun j a b => by omega)
  have h53 : ∀ w', mWv S dc K N w 3 w' → kT (f_M_meetsState_53 (19 * N) w') (mMts S dc N ks K w) := by
    intro w' hw
    unfold f_M_meetsState_53
    refine kD_loop (σ := Unit) (N := 16) (L := fun m x _ v => f_M_meetsState_55 m (19 * N) x v) (J := fun x _ v => mWv S dc K N w (3 + x) v) (fun m x _ v x0 x1 hv ih => ?_) (fun m _ v hv => ?_) (by omega) (by omega) () (by rw [Int.add_zero]; exact hw)
    · have ev : v 89 (5274 + 6 * x + 0) = rcv S dc K (3 + x) := by
        rw [Int.add_zero, rcv_r R x0 x1, hv.1 89 (by decide)]
        by_cases z : x < 2 * (S 1 3 + S 1 4)
        · rw [if_pos z]
          exact rm_25 hR x0 (by rw [e1]; exact z) (by rw [e1]; exact h16) rfl
        · rw [if_neg z]
          exact hD x (by omega) x1
      rw [f_M_meetsState_55, if_pos x1, qbd (m_ringAt x0 x1)]
      dsimp only
      rw [w32_ok (z := 5274 + 6 * x + 0) (by omega) (by omega), qld_ok (by omega) (by omega), w32_ok (z := 19 * N + 3) (by omega) (by omega), w32_ok (z := 19 * N + 3 + x) (by omega) (by omega), qst_ok (by omega) (by omega), w32_ok (z := x + 1) (by omega) (by omega)]
      refine ih () _ ?_
      have h2 := (hv.wr ev).resolve_right (by omega)
      rw [show 3 + (x + 1) = 3 + x + 1 by omega, show 19 * N + 3 + x = 19 * N + (3 + x) by omega]
      exact h2
    · rw [f_M_meetsState_55, if_neg (by decide)]
      exact h88 v hv
  unfold f_M_meetsState
  rw [h8, w32_ok (z := 19 * N) (by omega) (by omega)]
  refine kD_loop (σ := Unit) (N := 3) (L := fun m x _ v => f_M_meetsState_10 m (19 * N) x v) (J := fun x _ v => mWv S dc K N w x v) (fun m x _ v x0 x1 hv ih => ?_) (fun m _ v hv => ?_) (by omega) (by omega) () ⟨fun _ _ => rfl, fun _ _ => rfl, fun i i0 i1 => by omega⟩
  · have e88 : v 88 = w 88 := hv.1 88 (by decide)
    have e89 : v 89 = w 89 := hv.1 89 (by decide)
    have h46 : ∀ z, z = kA K x → kT (f_M_meetsState_46 (f_M_meetsState_10 m) (w32 (19 * N + x)) z (19 * N) x v) (mMts S dc N ks K w) := by
      intro z hz
      unfold f_M_meetsState_46
      rw [w32_ok (z := 19 * N + x) (by omega) (by omega), qst_ok (by omega) (by omega), w32_ok (z := x + 1) (by omega) (by omega)]
      exact ih () _ ((hv.wr (by rw [hz, rcv_3 I x1])).resolve_right (by omega))
    rw [f_M_meetsState_10, if_pos x1, e88, hL7]
    refine kT_if (fun c => ?_) (fun c => h46 432 ?_)
    · refine kT_ld x0 x1 ?_
      rw [hv.1 94 (by decide), hL94 x x0 c]
      exact kT_eq (m_placeP (hR.fr (fun j _ _ => by rw [e89])) V R L I x0 c) (h46 _ rfl)
    · rcases R.at V L x0 x1 with ⟨-, z⟩ | ⟨⟨a, -⟩, -⟩
      · exact z.symm
      · exact absurd a c
  · rw [f_M_meetsState_10, if_neg (by decide)]
    exact h53 v hv
end EO
