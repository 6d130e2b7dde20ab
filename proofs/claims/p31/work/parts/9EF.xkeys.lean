/-! schedules, the class: the number of a state; a state is brought back -/
def pl1 (x : Int) : Int := if x = 432 then 576 else 4 * (x / 3) + x % 3
def plR (W H r h : Int) : Int := if gd W H r < 2 then h % W else h / W
def cdR (W H : Int) (k : List Int) : Nat → Int
  | 0 => 1024 * (1024 * pl1 (kA k 0) + pl1 (kA k 1)) + pl1 (kA k 2)
  | m + 1 => 4 * cdR W H k m + (if (m : Int) < 2 * (W + H) then plR W H m (kA k (3 + m)) else 0)
def cdK (W H : Int) (k : List Int) : Int := cdR W H k 16
def bdn : Nat → Int
  | 0 => 1073741824
  | m + 1 => 4 * bdn m
/-- spots of packets -/
def spo (loc : Int → Int) (P : Int → Int) (n j : Int) : Int := if j < n ∧ loc (P j) ≠ -1 then loc (P j) else 144
/-- the thought and the packets of the search -/
def cCur (S : qMem) (n : Int) (P : Int → Int) (T : qMem) (loc : Int → Int) (w : qMem) : Prop := (NX 37 w T ∧ VT S T loc ∧ ∀ f : Nat, f ≠ 20 → f ≠ 21 → f ≠ 25 → T f = S f) ∧ (w 74 6 = n ∧ ∀ j, 0 ≤ j → j < n → w 77 j = P j) ∧ ∀ j, 0 ≤ j → j < 3 → w 78 j = spo loc P n j
def idx (P : Int → Int) (p : Int) : Int := if p = P 0 then 0 else if p = P 1 then 1 else 2
/-- while rings are set, while queues are filled -/
def uR (T' T : qMem) (x : Int) : qMem := fun f i => if f = 25 ∧ x < i ∧ i < 2 * (T 1 3 + T 1 4) then T 25 i else T' f i
def zq (U : qMem) (s : Int) : qMem := if s = 144 then U else qud U 20 s 0
def gF (T : qMem) (P : Int → Int) (x j : Int) : qMem := fun f i => if f = 20 ∧ 0 ≤ i ∧ i < 144 then (if x < T 20 i then (if idx P (T 21 (i * 6 + x)) < j then x + 1 else x) else T 20 i) else T f i
section EF
variable {w w' w0 S T T' U F : qMem} {loc loc' P : Int → Int} {v k d l q p i j n r x y m W H N : Int} {K K' : List Int}
theorem RK.at (h : RK S n P T loc K) (V : VT S T loc) (L : LVe S n P) (j0 : 0 ≤ j) (j1 : j < 3) : (spo loc P n j = 144 ∧ kA K j = 432) ∨ ((j < n ∧ loc (P j) = spo loc P n j ∧ 0 ≤ spo loc P n j ∧ spo loc P n j < S 1 3 * S 1 4 * 9) ∧ ∃ i, (0 ≤ i ∧ i < 3 ∧ i < T 20 (spo loc P n j)) ∧ T 21 (spo loc P n j * 6 + i) = P j ∧ kA K j = 3 * spo loc P n j + i) := by
  have n3 := L.1
  have hq3 : ∀ q, 0 ≤ q → q < 144 → T 20 q ≤ 3 := fun q a b => by
    have := V.n3 L a b
    omega
  obtain ⟨c, rfl, a1, -⟩ := h
  rw [kA_e j0 (by omega)]
  unfold spo
  by_cases z : j < n ∧ loc (P j) ≠ -1
  · obtain ⟨i, i1, i2, i3⟩ := (a1 j j0 j1).1 z
    have hp := (L.2.1 j j0 z.1).1
    have hq := (V.2.1.2.1.2 (P j) hp.1 (by rw [V.1.2.1]; exact hp.2) z.2).1
    have h3 := hq3 _ hq.1 hq.2
    rw [if_pos z]
    refine Or.inr ⟨⟨z.1, rfl, hq.1, Decidable.by_contra fun y => ?_⟩, i, ⟨i1.1, by omega, i1.2⟩, i2, i3⟩
    have := (V.2.1.1 _ hq.1 hq.2).2 (by rw [V.1.1.1]; omega)
    omega
  · rw [if_neg z]
    exact Or.inl ⟨rfl, (a1 j j0 j1).2 z⟩
theorem RK.rg (h : RK S n P T loc K) (r0 : 0 ≤ r) (r1 : r < 16) : kA K (3 + r) = if r < 2 * (S 1 3 + S 1 4) then T 25 r else 0 := by
  obtain ⟨c, rfl, -, a2⟩ := h
  rw [kA_e (by omega) (by omega)]
  exact a2 r r0 r1
theorem RK.pl (h : RK S n P T loc K) (V : VT S T loc) (L : LVe S n P) (I : IV S) (j0 : 0 ≤ j) (j1 : j < 3) : (0 ≤ pl1 (kA K j) ∧ pl1 (kA K j) ≤ 576) ∧ pl1 (kA K j) / 4 = spo loc P n j ∧ 0 ≤ spo loc P n j ∧ spo loc P n j ≤ 144 := by
  have hN := gN I.1.1
  unfold pl1
  rcases h.at V L j0 j1 with ⟨a, b⟩ | ⟨⟨a, b, c, e⟩, i, i1, -, i3⟩
  · rw [if_pos b, a]; decide
  · rw [if_neg (by omega), i3]
    omega
theorem plR_in (g : gIn W H) (r0 : 0 ≤ r) (r1 : r < 2 * (W + H)) (h0 : 0 ≤ x) (h1 : x < W * H) (hr : gr W H x (gd W H r) = r) : (0 ≤ plR W H r x ∧ plR W H r x < 4) ∧ gq W H r (plR W H r x) = x := by
  have hd := gd_in (W := W) (H := H) (r := r)
  have hi := gi_in g h0 h1 hd.1 hd.2
  rw [hr] at hi
  have hl := gl_in (r := r) g
  unfold plR
  exact ⟨⟨hi.1.1, by omega⟩, hi.2⟩
theorem bdn_le : ∀ m, m < 16 → bdn m ≤ 1152921504606846976 := by decide +kernel
theorem cdR_in (h : RK S n P T loc K) (V : VT S T loc) (L : LVe S n P) (I : IV S) : ∀ m : Nat, m ≤ 16 → 0 ≤ cdR (S 1 3) (S 1 4) K m ∧ cdR (S 1 3) (S 1 4) K m < bdn m := by
  intro m
  induction m with
  | zero =>
    intro _
    have h0 := (h.pl V L I (j := 0) (by decide) (by decide)).1
    have h1 := (h.pl V L I (j := 1) (by decide) (by decide)).1
    have h2 := (h.pl V L I (j := 2) (by decide) (by decide)).1
    show 0 ≤ 1024 * (1024 * pl1 (kA K 0) + pl1 (kA K 1)) + pl1 (kA K 2) ∧ 1024 * (1024 * pl1 (kA K 0) + pl1 (kA K 1)) + pl1 (kA K 2) < 1073741824
    omega
  | succ m ih =>
    intro hm
    have hi := ih (by omega)
    show 0 ≤ 4 * cdR (S 1 3) (S 1 4) K m + _ ∧ 4 * cdR (S 1 3) (S 1 4) K m + _ < 4 * bdn m
    by_cases z : (m : Int) < 2 * (S 1 3 + S 1 4)
    · have hk := h.rg (r := (m : Int)) (by omega) (by omega)
      rw [if_pos z] at hk
      have hO := V.2.2 m (by omega) (by rw [V.1.1.1]; exact z)
      rw [V.1.1.1] at hO
      have := (plR_in I.1.1 (by omega) z hO.1.1 hO.1.2 hO.2).1
      rw [if_pos z, hk]
      omega
    · rw [if_neg z]
      omega
theorem cd_p (h : RK S n P T loc K) (V : VT S T loc) (I : IV S) (r0 : 0 ≤ r) (r1 : r < 2 * (S 1 3 + S 1 4)) : (0 ≤ plR (S 1 3) (S 1 4) r (kA K (3 + r)) ∧ plR (S 1 3) (S 1 4) r (kA K (3 + r)) < 4) ∧ gq (S 1 3) (S 1 4) r (plR (S 1 3) (S 1 4) r (kA K (3 + r))) = T 25 r := by
  have h16 := g16r I.1.1
  have hk := h.rg r0 (by omega)
  rw [if_pos r1] at hk
  have hO := V.2.2 r r0 (by rw [V.1.1.1]; exact r1)
  rw [V.1.1.1] at hO
  rw [hk]
  exact plR_in I.1.1 r0 r1 hO.1.1 hO.1.2 hO.2
theorem cd_inj (h : RK S n P T loc K) (V : VT S T loc) (h' : RK S n P T' loc' K') (V' : VT S T' loc') (L : LVe S n P) (I : IV S) (e : cdK (S 1 3) (S 1 4) K = cdK (S 1 3) (S 1 4) K') : K = K' := by
  have h16 := g16r I.1.1
  have step : ∀ m : Nat, m < 16 → cdR (S 1 3) (S 1 4) K (m + 1) = cdR (S 1 3) (S 1 4) K' (m + 1) → cdR (S 1 3) (S 1 4) K m = cdR (S 1 3) (S 1 4) K' m ∧ ((m : Int) < 2 * (S 1 3 + S 1 4) → T 25 m = T' 25 m) := by
    intro m hm hc
    have hc2 : 4 * cdR (S 1 3) (S 1 4) K m + (if (m : Int) < 2 * (S 1 3 + S 1 4) then plR (S 1 3) (S 1 4) m (kA K (3 + m)) else 0) = 4 * cdR (S 1 3) (S 1 4) K' m + (if (m : Int) < 2 * (S 1 3 + S 1 4) then plR (S 1 3) (S 1 4) m (kA K' (3 + m)) else 0) := hc
    by_cases z : (m : Int) < 2 * (S 1 3 + S 1 4)
    · have a := cd_p h V I (r := m) (by omega) z
      have b := cd_p h' V' I (r := m) (by omega) z
      rw [if_pos z, if_pos z] at hc2
      refine ⟨by omega, fun _ => ?_⟩
      rw [← a.2, ← b.2, show plR (S 1 3) (S 1 4) m (kA K (3 + m)) = plR (S 1 3) (S 1 4) m (kA K' (3 + m)) by omega]
    · rw [if_neg z, if_neg z] at hc2
      exact ⟨by omega, fun y => absurd y z⟩
  have all : ∀ t : Nat, t ≤ 16 → cdR (S 1 3) (S 1 4) K (16 - t) = cdR (S 1 3) (S 1 4) K' (16 - t) := by
    intro t
    induction t with
    | zero => intro _; exact e
    | succ t ih =>
      intro ht
      have := ih (by omega)
      rw [show 16 - t = 16 - (t + 1) + 1 by omega] at this
      exact (step (16 - (t + 1)) (by omega) this).1
  have e0 : 1024 * (1024 * pl1 (kA K 0) + pl1 (kA K 1)) + pl1 (kA K 2) = 1024 * (1024 * pl1 (kA K' 0) + pl1 (kA K' 1)) + pl1 (kA K' 2) := all 16 (Nat.le_refl _)
  have a0 := (h.pl V L I (j := 0) (by decide) (by decide)).1
  have a1 := (h.pl V L I (j := 1) (by decide) (by decide)).1
  have a2 := (h.pl V L I (j := 2) (by decide) (by decide)).1
  have b0 := (h'.pl V' L I (j := 0) (by decide) (by decide)).1
  have b1 := (h'.pl V' L I (j := 1) (by decide) (by decide)).1
  have b2 := (h'.pl V' L I (j := 2) (by decide) (by decide)).1
  have hN := gN I.1.1
  have hp : ∀ j, 0 ≤ j → j < 3 → kA K j = kA K' j := fun j j0 j1 => by
    have ep : pl1 (kA K j) = pl1 (kA K' j) := by
      rcases (by omega : j = 0 ∨ j = 1 ∨ j = 2) with rfl | rfl | rfl <;> omega
    unfold pl1 at ep
    rcases h.at V L j0 j1 with ⟨a, b⟩ | ⟨⟨a, b, c, f⟩, i, i1, -, i3⟩
    · rcases h'.at V' L j0 j1 with ⟨a', b'⟩ | ⟨⟨a', b', c', f'⟩, i', i1', -, i3'⟩
      · rw [b, b']
      · rw [if_pos b, if_neg (by omega)] at ep
        omega
    · rcases h'.at V' L j0 j1 with ⟨a', b'⟩ | ⟨⟨a', b', c', f'⟩, i', i1', -, i3'⟩
      · rw [if_neg (by omega), if_pos b'] at ep
        omega
      · rw [if_neg (by omega), if_neg (by omega)] at ep
        omega
  have hr : ∀ r, 0 ≤ r → r < 16 → kA K (3 + r) = kA K' (3 + r) := fun r r0 r1 => by
    rw [h.rg r0 r1, h'.rg r0 r1]
    by_cases z : r < 2 * (S 1 3 + S 1 4)
    · have := all (16 - (r.toNat + 1)) (by omega)
      rw [show 16 - (16 - (r.toNat + 1)) = r.toNat + 1 by omega] at this
      have := (step r.toNat (by omega) this).2
      rw [show ((r.toNat : Nat) : Int) = r by omega] at this
      rw [if_pos z, if_pos z, this z]
    · rw [if_neg z, if_neg z]
  obtain ⟨c, rfl, -⟩ := h
  obtain ⟨c', rfl, -⟩ := h'
  refine eK_iff.mpr (fun i i0 i1 => ?_)
  by_cases z : i < 3
  · have := hp i i0 z
    rw [kA_e i0 i1, kA_e i0 i1] at this
    exact this
  · have := hr (i - 3) (by omega) (by omega)
    rw [show 3 + (i - 3) = i by omega, kA_e i0 i1, kA_e i0 i1] at this
    exact this
/-! the number is made -/
theorem e_place (hx : NX 37 w T) (q0 : 0 ≤ q) (q1 : q < 144) (h6 : T 20 q ≤ 6) (i0 : 0 ≤ i) (i1 : i < T 20 q) (hi : T 21 (q * 6 + i) = x) (hn : ∀ j, 0 ≤ j → j < i → T 21 (q * 6 + j) ≠ x) : f_Q_placeOf (37 + 19) q x w = some (i, w) := by
  have key : ∀ (m : Nat) (j : Int), 0 ≤ j → j ≤ i → i - j < m → f_Q_placeOf_2 (37 + 19) m q x j w = some (i, w) := by
    intro m
    induction m with
    | zero => intro j _ _ _; omega
    | succ m ih =>
      intro j j0 j1 hm
      rw [f_Q_placeOf_2, qld_ok q0 q1, show w (37 + 19 + 1) q = T 20 q from rx_20 hx.1 q0 q1, if_pos (show j < T 20 q by omega), w32_ok (z := q * 6) (by omega) (by omega), w32_ok (z := q * 6 + j) (by omega) (by omega), qld_ok (by omega) (by omega), w32_ok (z := j + 1) (by omega) (by omega), show w (37 + 19 + 2) (q * 6 + j) = T 21 (q * 6 + j) from rx_21 hx.1 (by omega) (by omega) (by rw [show (q * 6 + j) / 6 = q by omega]; omega)]
      by_cases e : j = i
      · rw [e, if_pos hi]
      · rw [if_neg (hn j j0 (by omega))]
        exact ih (j + 1) (by omega) (by omega) (by omega)
  unfold f_Q_placeOf
  exact key qFU 0 (by omega) i0 (qFU_gt (by omega))
theorem j_and3' : ∀ n : Nat, n < 4 → jand (n : Int) 3 = (n : Int) := by decide +kernel
theorem e_kst (hC : cCur S n P T loc w) (h : RK S n P T loc K) (L : LVe S n P) (I : IV S) (m : Nat) (i0 : 0 ≤ i) (i1 : i < 3) (x0 : 0 ≤ x) (x1 : x < 1125899906842624) : f_S_keyOf_5 37 (m + 1) x i w = f_S_keyOf_5 37 m (1024 * x + pl1 (kA K i)) (i + 1) w := by
  obtain ⟨⟨hx, V, hrow⟩, ⟨h6, h77⟩, h78⟩ := hC
  have hN := gN I.1.1
  have hp := h.pl V L I i0 i1
  have e78 := h78 i i0 i1
  have fin : ∀ s0, 0 ≤ s0 → s0 < 4 → pl1 (kA K i) = 4 * w 78 i + s0 → f_S_keyOf_49 37 (f_S_keyOf_5 37 m) s0 x i w = f_S_keyOf_5 37 m (1024 * x + pl1 (kA K i)) (i + 1) w := by
    intro s0 a b c
    have hp := j_and3' s0.toNat (by omega)
    rw [show ((s0.toNat : Nat) : Int) = s0 by omega] at hp
    unfold f_S_keyOf_49
    have hj := j_shl2 (w 78 i).toNat (by omega)
    rw [show (((w 78 i).toNat : Nat) : Int) = w 78 i by omega] at hj
    rw [qld_ok i0 i1, hj, hp, klshl_10 x0 (by omega), ki2l_ok (by omega) (by omega), ki2l_ok a (by omega), klor_1024 x0 (by omega) (by omega) (by omega), show 1024 * x + 4 * w 78 i = 4 * (256 * x + w 78 i) by omega, klor_4 (by omega) a b (by omega), w32_ok (z := i + 1) (by omega) (by omega), show 4 * (256 * x + w 78 i) + s0 = 1024 * x + pl1 (kA K i) by omega]
  rw [f_S_keyOf_5, if_pos i1, qld_ok i0 i1]
  rcases h.at V L i0 i1 with ⟨a, b⟩ | ⟨⟨a, b, c, f⟩, t, t1, t2, t3⟩
  · rw [if_pos (by rw [e78]; exact a)]
    refine fin 0 (by decide) (by decide) ?_
    unfold pl1
    rw [if_pos b, e78, a]
    decide
  · have hq6 := V.h6 I (spo loc P n i) c (by omega)
    have hpl := e_place (w := w) (x := w 77 i) hx c (by omega) hq6.2 t1.1 t1.2.2 (by rw [h77 i i0 a]; exact t2) (fun j j0 j1 => by
      rw [h77 i i0 a, ← t2]
      exact (V.2.1.2.1.1 (spo loc P n i) t c (by omega) t1.1 t1.2.2).2.2 j j0 j1)
    rw [if_neg (by rw [e78]; omega), qld_ok i0 i1, qld_ok i0 i1, e78, qbd hpl]
    refine fin t t1.1 (by omega) ?_
    unfold pl1
    rw [if_neg (by omega), t3, e78]
    omega
theorem e_kri (hx : NX 37 w T) (V : VT S T loc) (I : IV S) (m : Nat) (r0 : 0 ≤ r) (r1 : r < 16) (x0 : 0 ≤ x) (x1 : x < 2305843009213693952) : f_S_keyOf_82 37 (m + 1) x r w = f_S_keyOf_82 37 m (4 * x + (if r < 2 * (S 1 3 + S 1 4) then plR (S 1 3) (S 1 4) r (T 25 r) else 0)) (r + 1) w := by
  have fin : ∀ p, 0 ≤ p → p < 4 → f_S_keyOf_132 37 (f_S_keyOf_82 37 m) x r p w = f_S_keyOf_82 37 m (4 * x + p) (r + 1) w := by
    intro p p0 p1
    unfold f_S_keyOf_132
    rw [klshl_2 x0 x1, ki2l_ok p0 (by omega), klor_4 x0 p0 p1 (by omega), w32_ok (z := r + 1) (by omega) (by omega)]
  have hG := I.1.1
  have e1 : T 1 = S 1 := V.1.1.1
  have hg : RG 38 w (S 1 3) (S 1 4) := by
    have := hx.2
    rw [e1] at this
    exact this
  have h16 := g16r hG
  have h6 : w (37 + 1) 6 = 2 * (S 1 3 + S 1 4) := hg.2.1.2
  rw [f_S_keyOf_82, if_pos r1, h6]
  by_cases c : r < 2 * (S 1 3 + S 1 4)
  · have hO := V.2.2 r r0 (by rw [e1]; exact c)
    rw [e1] at hO
    have hp := (plR_in hG r0 c hO.1.1 hO.1.2 hO.2).1
    rw [if_pos c, if_pos c, qld_ok r0 (by omega), rx_25 hx.1 r0 (by rw [e1]; exact c) (by rw [e1]; exact h16), qbd (g_ringDirection (o := 37 + 1) hg.1 hG)]
    have hN := gN hG
    obtain ⟨⟨a, b⟩, a2, b2⟩ := hG
    unfold f_G_placeInRing
    unfold plR at hp ⊢
    dsimp only
    rw [show w (37 + 1) 3 = S 1 3 from hg.1.1]
    by_cases c2 : gd (S 1 3) (S 1 4) r < 2
    · rw [if_pos c2] at hp
      rw [if_pos c2, if_pos c2, qdv_ok (by omega), jrem_ok hO.1.1 (by omega) (by omega) (by omega)]
      exact fin _ hp.1 hp.2
    · rw [if_neg c2] at hp
      rw [if_neg c2, if_neg c2, qdv_ok (by omega), jdiv_ok hO.1.1 (by omega) (by omega) (by omega)]
      exact fin _ hp.1 hp.2
  · rw [if_neg c, if_neg c]
    exact fin 0 (by decide) (by decide)
theorem e_krs (hx : NX 37 w T) (h : RK S n P T loc K) (V : VT S T loc) (L : LVe S n P) (I : IV S) : ∀ (t m : Nat), t ≤ 16 → t < m → f_S_keyOf_82 37 m (cdR (S 1 3) (S 1 4) K (16 - t)) (16 - (t : Int)) w = some (cdK (S 1 3) (S 1 4) K, w) := by
  intro t
  induction t with
  | zero =>
    intro m _ hm
    cases m with
    | zero => omega
    | succ m =>
      rw [f_S_keyOf_82, if_neg (by omega)]
      rfl
  | succ t ih =>
    intro m ht hm
    cases m with
    | zero => omega
    | succ m =>
      have hb := cdR_in h V L I (16 - (t + 1)) (by omega)
      have hb2 := bdn_le (16 - (t + 1)) (by omega)
      rw [e_kri hx V I m (by omega) (by omega) hb.1 (by omega)]
      have e : cdR (S 1 3) (S 1 4) K (16 - t) = 4 * cdR (S 1 3) (S 1 4) K (16 - (t + 1)) + (if 16 - ((t + 1 : Nat) : Int) < 2 * (S 1 3 + S 1 4) then plR (S 1 3) (S 1 4) (16 - ((t + 1 : Nat) : Int)) (T 25 (16 - ((t + 1 : Nat) : Int))) else 0) := by
        rw [show 16 - t = 16 - (t + 1) + 1 by omega]
        show 4 * cdR (S 1 3) (S 1 4) K (16 - (t + 1)) + (if ((16 - (t + 1) : Nat) : Int) < 2 * (S 1 3 + S 1 4) then plR (S 1 3) (S 1 4) ((16 - (t + 1) : Nat) : Int) (kA K (3 + ((16 - (t + 1) : Nat) : Int))) else 0) = _
        rw [show ((16 - (t + 1) : Nat) : Int) = 16 - ((t + 1 : Nat) : Int) by omega]
        by_cases z : 16 - ((t + 1 : Nat) : Int) < 2 * (S 1 3 + S 1 4)
        · have := h.rg (r := 16 - ((t + 1 : Nat) : Int)) (by omega) (by omega)
          rw [if_pos z] at this
          rw [if_pos z, if_pos z, this]
        · rw [if_neg z, if_neg z]
      rw [← e, show 16 - ((t + 1 : Nat) : Int) + 1 = 16 - (t : Int) by omega]
      exact ih m (by omega) (by omega)
theorem e_key (hC : cCur S n P T loc w) (h : RK S n P T loc K) (L : LVe S n P) (I : IV S) : f_S_keyOf 37 w = some (cdK (S 1 3) (S 1 4) K, w) := by
  have V := hC.1.2.1
  have a0 := (h.pl V L I (j := 0) (by decide) (by decide)).1
  have a1 := (h.pl V L I (j := 1) (by decide) (by decide)).1
  have a2 := (h.pl V L I (j := 2) (by decide) (by decide)).1
  have e0 := e_kst hC h L I 999999999 (i := 0) (x := 0) (by decide) (by decide) (by decide) (by decide)
  have e1 := e_kst hC h L I 999999998 (i := 1) (x := 1024 * 0 + pl1 (kA K 0)) (by decide) (by decide) (by omega) (by omega)
  have e2 := e_kst hC h L I 999999997 (i := 2) (x := 1024 * (1024 * 0 + pl1 (kA K 0)) + pl1 (kA K 1)) (by decide) (by decide) (by omega) (by omega)
  have e3 : ∀ x, f_S_keyOf_5 37 (999999996 + 1) x 3 w = f_S_keyOf_79 37 x w := fun x => by rw [f_S_keyOf_5, if_neg (by decide)]
  have e4 := e_krs hC.1.1 h V L I 16 qFU (by decide) (by unfold qFU; decide)
  have e5 : f_S_keyOf 37 w = f_S_keyOf_5 37 (999999999 + 1) 0 0 w := rfl
  rw [e5, e0, show (0 : Int) + 1 = 1 from rfl, show (999999999 : Nat) = 999999998 + 1 from rfl, e1, show (1 : Int) + 1 = 2 from rfl, show (999999998 : Nat) = 999999997 + 1 from rfl, e2, show (2 : Int) + 1 = 3 from rfl, show (999999997 : Nat) = 999999996 + 1 from rfl, e3]
  unfold f_S_keyOf_79
  rw [show 1024 * (1024 * (1024 * 0 + pl1 (kA K 0)) + pl1 (kA K 1)) + pl1 (kA K 2) = cdR (S 1 3) (S 1 4) K (16 - 16) by
    show _ = 1024 * (1024 * pl1 (kA K 0) + pl1 (kA K 1)) + pl1 (kA K 2)
    omega]
  exact e4
/-! a state is brought back -/
theorem NX.tq (h : NX 37 w F) (hl : ∀ (f : Nat) n, f < 35 → lv T f n → lv F f n ∧ F f n = T f n) (e1 : F 1 = T 1) : NX 37 w T := ⟨fun f n hf hv => by rw [← (hl f n hf hv).2]; exact h.1 f n hf (hl f n hf hv).1, by rw [← e1]; exact h.2⟩
theorem uR_15 (h16 : 2 * (T 1 3 + T 1 4) ≤ 16) : uR T' T 15 = T' := by
  funext f i
  unfold uR
  rw [if_neg (by omega)]
theorem uR_s (h : x < 2 * (T 1 3 + T 1 4)) : qud (uR T' T x) 25 x (T 25 x) = uR T' T (x + -1) := by
  funext f i
  by_cases e : f = 25 ∧ i = x
  · rw [e.1, e.2, qud_s]
    unfold uR
    rw [if_pos ⟨rfl, by omega, h⟩]
  · rw [show qud (uR T' T x) 25 x (T 25 x) f i = uR T' T x f i from if_neg e]
    unfold uR
    by_cases z : f = 25 ∧ x < i ∧ i < 2 * (T 1 3 + T 1 4)
    · rw [if_pos z, if_pos ⟨z.1, by omega, z.2.2⟩]
    · rw [if_neg z, if_neg (fun y => z ⟨y.1, by
        have := y.2.1
        have : i ≠ x := fun u => e ⟨y.1, u⟩
        omega, y.2.2⟩)]
theorem uR_n (h : ¬ x < 2 * (T 1 3 + T 1 4)) : uR T' T x = uR T' T (x + -1) := by
  funext f i
  unfold uR
  by_cases z : f = 25 ∧ x < i ∧ i < 2 * (T 1 3 + T 1 4)
  · omega
  · rw [if_neg z, if_neg (by omega)]
theorem uR_f {f : Nat} (h : f ≠ 25) : uR T' T x f = T' f := by
  funext i
  unfold uR
  rw [if_neg (fun z => h z.1)]
theorem e_rings {Q : qMem → Prop} (h : RK S n P T loc K) (V : VT S T loc) (V' : VT S T' loc') (L : LVe S n P) (I : IV S) (hx : NX 37 w T') (KK : ∀ w', NX 37 w' (uR T' T (-1)) → F37 w w' → kT (f_S_open_62 37 (cdR (S 1 3) (S 1 4) K 0) w') Q) : kT (f_S_open 37 (cdK (S 1 3) (S 1 4) K) w) Q := by
  have hG := I.1.1
  have h16 := g16r hG
  have e1 : T 1 = S 1 := V.1.1.1
  have e1' : T' 1 = S 1 := V'.1.1.1
  have main : ∀ (m : Nat) (x6 : Int) (w' : qMem), -1 ≤ x6 → x6 ≤ 15 → x6 + 1 < m → NX 37 w' (uR T' T x6) → F37 w w' → kT (f_S_open_7 37 m (cdR (S 1 3) (S 1 4) K (x6 + 1).toNat) x6 w') Q := by
    intro m
    induction m with
    | zero => intro x6 w' _ _ _ _ _; omega
    | succ m ih =>
      intro x6 w' a b c hx hF
      have hb := cdR_in h V L I (x6 + 1).toNat (by omega)
      have hb2 : bdn (x6 + 1).toNat ≤ 4611686018427387904 := by
        by_cases z : (x6 + 1).toNat < 16
        · have := bdn_le _ z
          omega
        · rw [show (x6 + 1).toNat = 16 by omega]
          decide
      rw [f_S_open_7]
      refine kT_if (fun z => ?_) (fun z => ?_)
      · have z2 : x6 = -1 := by omega
        subst z2
        exact KK w' hx hF
      · have en : (x6 + 1).toNat = x6.toNat + 1 := by omega
        have ex : ((x6.toNat : Nat) : Int) = x6 := by omega
        have ec : cdR (S 1 3) (S 1 4) K (x6 + 1).toNat = 4 * cdR (S 1 3) (S 1 4) K x6.toNat + (if x6 < 2 * (S 1 3 + S 1 4) then plR (S 1 3) (S 1 4) x6 (kA K (3 + x6)) else 0) := by
          rw [en]
          show 4 * cdR (S 1 3) (S 1 4) K x6.toNat + (if ((x6.toNat : Nat) : Int) < 2 * (S 1 3 + S 1 4) then plR (S 1 3) (S 1 4) ((x6.toNat : Nat) : Int) (kA K (3 + ((x6.toNat : Nat) : Int))) else 0) = _
          rw [ex]
        have hp : 0 ≤ (if x6 < 2 * (S 1 3 + S 1 4) then plR (S 1 3) (S 1 4) x6 (kA K (3 + x6)) else 0) ∧ (if x6 < 2 * (S 1 3 + S 1 4) then plR (S 1 3) (S 1 4) x6 (kA K (3 + x6)) else 0) < 4 := by
          split
          · rename_i y
            exact (cd_p h V I (by omega) y).1
          · decide
        have h50 : ∀ w2, NX 37 w2 (uR T' T (x6 + -1)) → F37 w w2 → kT (f_S_open_50 37 (f_S_open_7 37 m) (cdR (S 1 3) (S 1 4) K (x6 + 1).toNat) x6 w2) Q := by
          intro w2 g2 hF2
          unfold f_S_open_50
          rw [klushr_2 hb.1 (by omega), w32_ok (by omega) (by omega), show cdR (S 1 3) (S 1 4) K (x6 + 1).toNat / 4 = cdR (S 1 3) (S 1 4) K (x6 + -1 + 1).toNat by rw [ec, show (x6 + -1 + 1).toNat = x6.toNat by omega]; omega]
          exact ih (x6 + -1) w2 (by omega) (by omega) (by omega) g2 hF2
        have hg : RG 38 w' (S 1 3) (S 1 4) := by
          have := hx.2
          rw [uR_f (show (1 : Nat) ≠ 25 by decide), e1'] at this
          exact this
        rw [show w' (37 + 1) 6 = 2 * (S 1 3 + S 1 4) from hg.2.1.2]
        refine kT_if (fun z2 => ?_) (fun z2 => h50 w' (by rw [← uR_n (by rw [e1]; exact z2)]; exact hx) hF)
        have hc := cd_p h V I (by omega) z2
        rw [if_pos z2] at ec
        rw [kland_3 hb.1 (by omega), kl2i_ok (by omega) (by omega), show cdR (S 1 3) (S 1 4) K (x6 + 1).toNat % 4 = plR (S 1 3) (S 1 4) x6 (kA K (3 + x6)) by rw [ec]; omega]
        refine kT_eq (g_ringNode (o := 37 + 1) hg.1 hG (by omega) z2 hc.1.1 hc.1.2) ?_
        refine kT_st (by omega) (by omega) ?_
        dsimp only
        rw [hc.2]
        refine h50 _ ?_ (hF.tr (F37.rfl'.qd (f := 25) (by decide)))
        rw [← uR_s (by rw [e1]; exact z2)]
        exact hx.v (f := 25) (by decide)
  unfold f_S_open
  exact main qFU 15 w (by omega) (by omega) (qFU_gt (by omega)) (by rw [uR_15 (by rw [e1]; exact h16)]; exact hx) F37.rfl'
theorem zq_nx (h : NX 37 w U) (c : x ≠ 144) : NX 37 (qud w (37 + 20) x 0) (zq U x) := by
  unfold zq
  rw [if_neg c]
  exact h.z20
theorem zq_f {f : Nat} (h : f ≠ 20) : zq U x f = U f := by
  unfold zq
  split
  · rfl
  · rw [qud_row h]
theorem zq_20 : zq U x 20 i = if x ≠ 144 ∧ i = x then 0 else U 20 i := by
  unfold zq
  by_cases c : x = 144
  · rw [if_pos c, if_neg (fun z => z.1 c)]
  · rw [if_neg c, qud_if]
    by_cases e : i = x
    · rw [if_pos e, if_pos ⟨c, e⟩]
    · rw [if_neg e, if_neg (fun z => e z.2)]
/-- one spot is set -/
theorem e_spot {Q : qMem → Prop} (m : Nat) (hx : NX 37 w U) (x0 : 0 ≤ x) (x1 : x < 3) (hs : w 78 x = 144 ∨ (0 ≤ w 78 x ∧ w 78 x < 144)) (y0 : 0 ≤ y) (y1 : y < 4611686018427387904) (KK : ∀ w', NX 37 w' (zq U (w 78 x)) → (∀ k, (k < 37 ∨ 72 ≤ k) → k ≠ 78 → k ≠ 79 → w' k = w k) → (∀ j, w' 78 j = if j = x then y / 4 % 256 else w 78 j) → (∀ j, w' 79 j = if j = x then y % 4 else w 79 j) → kT (f_S_open_65 37 m (y / 1024) (x - 1) w') Q) : kT (f_S_open_65 37 (m + 1) y x w) Q := by
  have h99 : ∀ w3, NX 37 w3 (zq U (w 78 x)) → (∀ k, (k < 37 ∨ 72 ≤ k) → w3 k = w k) → kT (f_S_open_99 37 (f_S_open_65 37 m) y x w3) Q := by
    intro w3 n3 f3
    unfold f_S_open_99
    rw [kland_3 y0 (by omega), kl2i_ok (by omega) (by omega), klushr_2 y0 (by omega), kland_255 (by omega) (by omega), kl2i_ok (by omega) (by omega), klushr_10 y0 (by omega), w32_ok (z := x + -1) (by omega) (by omega)]
    refine kT_st x0 (by omega) (kT_st x0 (by omega) ?_)
    rw [show x + -1 = x - 1 by omega]
    refine KK _ (n3.fr (fun k a b => by rw [qud_row (by omega), qud_row (by omega)])) (fun k a b c => by rw [qud_row b, qud_row c, f3 k a]) (fun j => ?_) (fun j => ?_)
    · rw [qud_if, qud_nk (by decide), f3 78 (by omega)]
    · rw [qud_nk (by decide), qud_if, f3 79 (by omega)]
  rw [f_S_open_65, if_neg (by omega), qld_ok x0 (by omega)]
  by_cases c : w 78 x = 144
  · rw [if_pos c]
    refine h99 w ?_ (fun _ _ => rfl)
    unfold zq
    rw [if_pos c]
    exact hx
  · have hq := hs.resolve_left c
    rw [if_neg c, qld_ok x0 (by omega)]
    refine kT_st hq.1 hq.2 ?_
    exact h99 _ (zq_nx hx c) (fun k a => by rw [qud_row (by omega)])
end EF
