/-! schedules, the class: queues are filled; a state is met -/
section EG
variable {w w' w0 w2 S T T' U F : qMem} {loc loc' P : Int → Int} {v k d l q p i j n r x y m W H N s t : Int} {K K' root : List Int}
theorem idx_P (L : LVe S n P) (t0 : 0 ≤ t) (t1 : t < n) : idx P (P t) = t := by
  have h3 := L.1.2
  have hi := L.2.2.1
  unfold idx
  by_cases e0 : t = 0
  · rw [e0, if_pos rfl]
  · rw [if_neg (fun z => e0 (hi t 0 t0 t1 (by decide) (by omega) z))]
    by_cases e1 : t = 1
    · rw [e1, if_pos rfl]
    · rw [if_neg (fun z => e1 (hi t 1 t0 t1 (by decide) (by omega) z))]
      omega
theorem slot_P (V : VT S T loc) (L : LVe S n P) (q0 : 0 ≤ q) (q1 : q < 144) (i0 : 0 ≤ i) (i1 : i < T 20 q) : ∃ t, (0 ≤ t ∧ t < n) ∧ P t = T 21 (q * 6 + i) ∧ loc (P t) = q := by
  have hs := V.2.1.2.1.1 q i q0 q1 i0 i1
  rw [V.1.2.1] at hs
  obtain ⟨t, ht, e⟩ := live_of V L hs.1.1 hs.1.2 (by rw [hs.2.1]; omega)
  exact ⟨t, ht, e, by rw [e]; exact hs.2.1⟩
theorem gF_skip (V : VT S T loc) (L : LVe S n P) (x0 : 0 ≤ x) (j0 : 0 ≤ j) (h : ∀ q, 0 ≤ q → q < 144 → x < T 20 q → T 21 (q * 6 + x) = P j → j < n → False) : gF T P x (j + 1) = gF T P x j := by
  funext f i
  unfold gF
  by_cases e : f = 20 ∧ 0 ≤ i ∧ i < 144
  · rw [if_pos e, if_pos e]
    by_cases z : x < T 20 i
    · rw [if_pos z, if_pos z]
      obtain ⟨t, ht, e1, -⟩ := slot_P V L e.2.1 e.2.2 x0 z
      have hid := idx_P L ht.1 ht.2
      rw [← e1, hid]
      by_cases y : t < j
      · rw [if_pos y, if_pos (by omega)]
      · rw [if_neg y, if_neg (fun u => h i e.2.1 e.2.2 z (by rw [← e1, show t = j by omega]) (by omega))]
    · rw [if_neg z, if_neg z]
  · rw [if_neg e, if_neg e]
theorem gF_put (V : VT S T loc) (L : LVe S n P) (I : IV S) (q0 : 0 ≤ q) (q1 : q < 144) (x0 : 0 ≤ x) (z : x < T 20 q) (e : T 21 (q * 6 + x) = P j) (j0 : 0 ≤ j) (j1 : j < n) : spu (gF T P x j) q (P j) = gF T P x (j + 1) := by
  have h6 := V.h6 I
  have hid := idx_P L j0 j1
  have g20 : ∀ y i, gF T P x y 20 i = if 0 ≤ i ∧ i < 144 then (if x < T 20 i then (if idx P (T 21 (i * 6 + x)) < y then x + 1 else x) else T 20 i) else T 20 i := fun y i => by
    unfold gF
    by_cases c : 0 ≤ i ∧ i < 144
    · rw [if_pos ⟨rfl, c⟩, if_pos c]
    · rw [if_neg (fun u => c u.2), if_neg c]
  have gf : ∀ (y : Int) (f : Nat), f ≠ 20 → gF T P x y f = T f := fun y f c => by
    funext i
    unfold gF
    rw [if_neg (fun u => c u.1)]
  have hq : gF T P x j 20 q = x := by
    rw [g20, if_pos ⟨q0, q1⟩, if_pos z, e, hid, if_neg (by omega)]
  have hq6 := h6 q q0 q1
  have hlt : gF T P x j 20 q < 6 := by omega
  funext f i
  by_cases f20 : f = 20
  · rw [f20, spu_20 hlt, hq, g20, g20]
    by_cases c : i = q
    · rw [if_pos c, c, if_pos ⟨q0, q1⟩, if_pos z, e, hid, if_pos (by omega)]
    · rw [if_neg c]
      by_cases c2 : 0 ≤ i ∧ i < 144
      · rw [if_pos c2, if_pos c2]
        by_cases y : x < T 20 i
        · rw [if_pos y, if_pos y]
          obtain ⟨t, ht, e1, e2⟩ := slot_P V L c2.1 c2.2 x0 y
          have hidt := idx_P L ht.1 ht.2
          have htj : t ≠ j := fun u => by
            obtain ⟨t', ht', e1', e2'⟩ := slot_P V L q0 q1 x0 z
            rw [e] at e1'
            rw [u, ← e1', e2'] at e2
            exact c e2.symm
          rw [← e1, hidt]
          by_cases u : t < j
          · rw [if_pos u, if_pos (by omega)]
          · rw [if_neg u, if_neg (by omega)]
        · rw [if_neg y, if_neg y]
      · rw [if_neg c2, if_neg c2]
  · by_cases f21 : f = 21
    · rw [f21, spu_21 hlt, hq, gf _ 21 (by decide), gf _ 21 (by decide)]
      by_cases c : i = q * 6 + x
      · rw [if_pos c, c, e]
      · rw [if_neg c]
    · rw [spu_f f20 f21, gf _ f f20, gf _ f f20]
theorem gF_nx (V : VT S T loc) (L : LVe S n P) (x0 : 0 ≤ x) : gF T P x n = gF T P (x + 1) 0 := by
  funext f i
  unfold gF
  by_cases e : f = 20 ∧ 0 ≤ i ∧ i < 144
  · rw [if_pos e, if_pos e]
    by_cases z : x < T 20 i
    · obtain ⟨t, ht, e1, -⟩ := slot_P V L e.2.1 e.2.2 x0 z
      have hid := idx_P L ht.1 ht.2
      rw [if_pos z, ← e1, hid, if_pos ht.2]
      by_cases y : x + 1 < T 20 i
      · obtain ⟨t', ht', e1', -⟩ := slot_P V L e.2.1 e.2.2 (show 0 ≤ x + 1 by omega) y
        have hid' := idx_P L ht'.1 ht'.2
        rw [if_pos y, ← e1', hid', if_neg (by omega)]
      · rw [if_neg y]
        omega
    · rw [if_neg z, if_neg (by omega)]
  · rw [if_neg e, if_neg e]
theorem gF_3 (V : VT S T loc) (L : LVe S n P) : gF T P 3 0 = T := by
  funext f i
  unfold gF
  by_cases e : f = 20 ∧ 0 ≤ i ∧ i < 144
  · have := V.n3 L e.2.1 e.2.2
    have := L.1.2
    rw [if_pos e, if_neg (by omega), e.1]
  · rw [if_neg e]
/-- all queues are empty: the start of the filling -/
theorem gF_0 (V : VT S T loc) (L : LVe S n P) (I : IV S) (hx : NX 37 w F) (hF : ∀ f : Nat, f ≠ 20 → f ≠ 21 → f ≠ 25 → F f = T f) (h20 : ∀ q, 0 ≤ q → q < 144 → F 20 q = 0) (h25 : ∀ r, 0 ≤ r → r < 2 * (T 1 3 + T 1 4) → F 25 r = T 25 r) : NX 37 w (gF T P 0 0) := by
  have h6 := V.h6 I
  have g20 : ∀ q, 0 ≤ q → q < 144 → gF T P 0 0 20 q = 0 := fun q q0 q1 => by
    unfold gF
    rw [if_pos ⟨rfl, q0, q1⟩]
    by_cases z : 0 < T 20 q
    · obtain ⟨t, ht, e1, -⟩ := slot_P V L q0 q1 (Int.le_refl 0) z
      have hid := idx_P L ht.1 ht.2
      rw [if_pos z, ← e1, hid, if_neg (by omega)]
    · rw [if_neg z]
      have := h6 q q0 q1
      omega
  have gf : ∀ f : Nat, f ≠ 20 → gF T P 0 0 f = T f := fun f c => by
    funext i
    unfold gF
    rw [if_neg (fun u => c u.1)]
  refine hx.tq (fun f n' hf hv => ?_) (by rw [gf 1 (by decide)]; exact hF 1 (by decide) (by decide) (by decide))
  obtain ⟨l0, l1, l2, l3, l4, l5⟩ := hv
  rw [gf 5 (by decide)] at l1
  rw [gf 5 (by decide), gf 12 (by decide)] at l2
  rw [gf 22 (by decide)] at l4
  rw [gf 1 (by decide)] at l5
  have h21 : f ≠ 21 := fun e => by
    have a := l3 e
    have hv := l0
    unfold vv at hv
    rw [g20 (n' / 6) (by omega) (by omega)] at a
    omega
  refine ⟨⟨l0, by rw [hF 5 (by decide) (by decide) (by decide)]; exact l1, by rw [hF 5 (by decide) (by decide) (by decide), hF 12 (by decide) (by decide) (by decide)]; exact l2, fun e => absurd e h21, by rw [hF 22 (by decide) (by decide) (by decide)]; exact l4, by rw [hF 1 (by decide) (by decide) (by decide)]; exact l5⟩, ?_⟩
  by_cases e20 : f = 20
  · have hv := l0
    unfold vv at hv
    rw [e20, h20 n' (by omega) (by omega), g20 n' (by omega) (by omega)]
  · rw [gf f e20]
    by_cases e25 : f = 25
    · have hv := l0
      unfold vv at hv
      rw [e25]
      exact h25 n' (by omega) (l5 (by omega) (by omega))
    · rw [hF f e20 h21 e25]
theorem e_puts (h : RK S n P T loc K) (V : VT S T loc) (L : LVe S n P) (I : IV S) (hx : NX 37 w (gF T P 0 0)) (h6 : w 74 6 = n) (h77 : ∀ j, 0 ≤ j → j < n → w 77 j = P j) (h78 : ∀ j, 0 ≤ j → j < 3 → w 78 j = spo loc P n j) (h79 : ∀ j, 0 ≤ j → j < 3 → w 79 j = pl1 (kA K j) % 4) : kT (f_S_open_142 37 w) (fun w' => NX 37 w' T ∧ F37 w w') := by
  have hN := gN I.1.1
  have hn := L.1
  unfold f_S_open_142
  refine kD_loop (σ := Unit) (N := 3) (L := fun m x _ w => f_S_open_145 37 m x w) (J := fun x _ w' => NX 37 w' (gF T P x 0) ∧ F37 w w') (fun m x s w1 x0 x1 hJ ih => ?_) (fun m s w1 hJ => ?_) (by decide) (by decide) () ⟨hx, F37.rfl'⟩
  · rw [f_S_open_145, if_pos x1]
    refine kD_loop (σ := Unit) (N := n) (L := fun m' y _ w => f_S_open_154 37 (f_S_open_145 37 m) m' x y w) (J := fun y _ w' => NX 37 w' (gF T P x y) ∧ F37 w w') (fun m' y s' w2 y0 y1 hJ ih' => ?_) (fun m' s' w2 hJ => ?_) (by omega) (by omega) () hJ
    · have e74 : w2 74 6 = n := by rw [hJ.2 74 (by omega)]; exact h6
      have e77 : w2 77 y = P y := by rw [hJ.2 77 (by omega)]; exact h77 y y0 y1
      have e78 : w2 78 y = spo loc P n y := by rw [hJ.2 78 (by omega)]; exact h78 y y0 (by omega)
      have e79 : w2 79 y = pl1 (kA K y) % 4 := by rw [hJ.2 79 (by omega)]; exact h79 y y0 (by omega)
      have ha := h.at V L y0 (show y < 3 by omega)
      have skip : (∀ q, 0 ≤ q → q < 144 → x < T 20 q → T 21 (q * 6 + x) = P y → y < n → False) → kT (f_S_open_154 37 (f_S_open_145 37 m) m' x (y + 1) w2) (fun w' => NX 37 w' T ∧ F37 w w') := fun hs => ih' () _ ⟨by rw [gF_skip V L x0 y0 hs]; exact hJ.1, hJ.2⟩
      have hloc : ∀ q, 0 ≤ q → q < 144 → x < T 20 q → T 21 (q * 6 + x) = P y → loc (P y) = q := fun q q0 q1 z e => by
        have := (V.2.1.2.1.1 q x q0 q1 x0 z).2.1
        rw [e] at this
        exact this
      rw [f_S_open_154, e74, if_pos y1, qld_ok y0 (by omega), w32_ok (z := y + 1) (by omega) (by omega), e78]
      refine kT_if (fun c => skip (fun q q0 q1 z e _ => ?_)) (fun c => ?_)
      · have hl := hloc q q0 q1 z e
        unfold spo at c
        rw [if_pos ⟨y1, by omega⟩] at c
        omega
      · rcases ha with ⟨a, b⟩ | ⟨⟨a, b, c', f⟩, i, i1, i2, i3⟩
        · exact absurd a c
        refine kT_ld y0 (by omega) ?_
        have ep : pl1 (kA K y) % 4 = i := by
          unfold pl1
          rw [if_neg (by omega), i3]
          omega
        rw [e79, ep]
        refine kT_if (fun ci => ?_) (fun ci => skip (fun q q0 q1 z e _ => ?_))
        · rw [qld_ok y0 (by omega), qld_ok y0 (by omega), e78, e77]
          have h20 : 0 ≤ gF T P x y 20 (spo loc P n y) := by
            have := (V.h6 I (spo loc P n y) c' (by omega)).1
            unfold gF
            split
            · split
              · split <;> omega
              · exact this
            · exact this
          refine kT_bind (n_put (p := P y) hJ.1 c' (by omega) h20) (fun w3 h3 => ?_)
          rw [gF_put V L I c' (by omega) x0 (by rw [← ci]; exact i1.2.2) (by rw [← ci]; exact i2) y0 y1] at h3
          exact ih' () _ ⟨h3.1, hJ.2.tr (F37.fn h3.2)⟩
        · have hl := hloc q q0 q1 z e
          rw [b] at hl
          rw [hl] at i1 i2
          rcases Int.lt_trichotomy i x with t | t | t
          · exact (V.2.1.2.1.1 q x q0 q1 x0 z).2.2 i i1.1 t (by rw [i2, e])
          · exact ci t
          · exact (V.2.1.2.1.1 q i q0 q1 i1.1 i1.2.2).2.2 x x0 t (by rw [i2, e])
    · have e74 : w2 74 6 = n := by rw [hJ.2 74 (by omega)]; exact h6
      rw [f_S_open_154, e74, if_neg (by omega), w32_ok (z := x + 1) (by omega) (by omega)]
      exact ih () _ ⟨by rw [← gF_nx V L x0]; exact hJ.1, hJ.2⟩
  · rw [f_S_open_145, if_neg (by decide)]
    refine kT_some ⟨?_, hJ.2⟩
    rw [← gF_3 (P := P) V L]
    exact hJ.1
theorem spo_in (V : VT S T loc) (L : LVe S n P) (I : IV S) (j0 : 0 ≤ j) : spo loc P n j = 144 ∨ (0 ≤ spo loc P n j ∧ spo loc P n j < 144) := by
  unfold spo
  by_cases z : j < n ∧ loc (P j) ≠ -1
  · rw [if_pos z]
    have hp := (L.2.1 j j0 z.1).1
    exact Or.inr (V.2.1.2.1.2 (P j) hp.1 (by rw [V.1.2.1]; exact hp.2) z.2).1
  · rw [if_neg z]
    exact Or.inl rfl
/-- what opening leaves as it was -/
def fOP (w w' : qMem) : Prop := ∀ k, (k < 37 ∨ 72 ≤ k) → k ≠ 78 → k ≠ 79 → w' k = w k
theorem fOP.tr (h : fOP w w') (h2 : fOP w' w2) : fOP w w2 := fun k a b c => (h2 k a b c).trans (h k a b c)
theorem fOP.f37 (h : F37 w w') : fOP w w' := fun k a _ _ => h k a
theorem e_open (hC : cCur S n P T' loc' w) (h : RK S n P T loc K) (V : VT S T loc) (hT : ∀ f : Nat, f ≠ 20 → f ≠ 21 → f ≠ 25 → T f = S f) (L : LVe S n P) (I : IV S) : kT (f_S_open 37 (cdK (S 1 3) (S 1 4) K) w) (fun w' => cCur S n P T loc w' ∧ fOP w w') := by
  obtain ⟨⟨hx, V', hrow⟩, ⟨h6, h77⟩, h78⟩ := hC
  have hN := gN I.1.1
  have a0 := (h.pl V L I (j := 0) (by decide) (by decide))
  have a1 := (h.pl V L I (j := 1) (by decide) (by decide))
  have a2 := (h.pl V L I (j := 2) (by decide) (by decide))
  refine e_rings h V V' L I hx (fun w1 x1 f1 => ?_)
  have s78 : ∀ j, 0 ≤ j → j < 3 → w1 78 j = spo loc' P n j := fun j j0 j1 => by rw [f1 78 (by omega)]; exact h78 j j0 j1
  have ey : cdR (S 1 3) (S 1 4) K 0 = 1024 * (1024 * pl1 (kA K 0) + pl1 (kA K 1)) + pl1 (kA K 2) := rfl
  rw [ey]
  unfold f_S_open_62
  rw [show qFU = 999999999 + 1 from rfl]
  refine e_spot 999999999 x1 (by decide) (by decide) (by rw [s78 2 (by decide) (by decide)]; exact spo_in V' L I (by decide)) (by omega) (by omega) (fun w2 n2 f2 b2 c2 => ?_)
  rw [show (1024 * (1024 * pl1 (kA K 0) + pl1 (kA K 1)) + pl1 (kA K 2)) / 1024 = 1024 * pl1 (kA K 0) + pl1 (kA K 1) by omega, show (2 : Int) - 1 = 1 from rfl, show (999999999 : Nat) = 999999998 + 1 from rfl]
  have d2 : ∀ j, j ≠ 2 → w2 78 j = w1 78 j := fun j hj => by rw [b2, if_neg hj]
  refine e_spot 999999998 n2 (by decide) (by decide) (by rw [d2 1 (by decide), s78 1 (by decide) (by decide)]; exact spo_in V' L I (by decide)) (by omega) (by omega) (fun w3 n3 f3 b3 c3 => ?_)
  rw [show (1024 * pl1 (kA K 0) + pl1 (kA K 1)) / 1024 = pl1 (kA K 0) by omega, show (1 : Int) - 1 = 0 from rfl, show (999999998 : Nat) = 999999997 + 1 from rfl]
  refine e_spot 999999997 n3 (by decide) (by decide) (by rw [b3, if_neg (by decide), d2 0 (by decide), s78 0 (by decide) (by decide)]; exact spo_in V' L I (by decide)) (by omega) (by omega) (fun w4 n4 f4 b4 c4 => ?_)
  rw [show (999999997 : Nat) = 999999996 + 1 from rfl, f_S_open_65, if_pos (by decide)]
  have fo : fOP w w4 := ((((fOP.f37 f1).tr f2).tr f3).tr f4)
  have t78 : ∀ j, 0 ≤ j → j < 3 → w4 78 j = spo loc P n j := fun j j0 j1 => by
    rcases (by omega : j = 0 ∨ j = 1 ∨ j = 2) with rfl | rfl | rfl
    · rw [b4, if_pos rfl, a0.2.1]; omega
    · rw [b4, if_neg (by decide), b3, if_pos rfl, show (1024 * pl1 (kA K 0) + pl1 (kA K 1)) / 4 % 256 = pl1 (kA K 1) / 4 by omega, a1.2.1]
    · rw [b4, if_neg (by decide), b3, if_neg (by decide), b2, if_pos rfl, show (1024 * (1024 * pl1 (kA K 0) + pl1 (kA K 1)) + pl1 (kA K 2)) / 4 % 256 = pl1 (kA K 2) / 4 by omega, a2.2.1]
  have t79 : ∀ j, 0 ≤ j → j < 3 → w4 79 j = pl1 (kA K j) % 4 := fun j j0 j1 => by
    rcases (by omega : j = 0 ∨ j = 1 ∨ j = 2) with rfl | rfl | rfl
    · rw [c4, if_pos rfl]
    · rw [c4, if_neg (by decide), c3, if_pos rfl]; omega
    · rw [c4, if_neg (by decide), c3, if_neg (by decide), c2, if_pos rfl]; omega
  have t6 : w4 74 6 = n := by rw [fo 74 (by decide) (by decide) (by decide)]; exact h6
  have t77 : ∀ j, 0 ≤ j → j < n → w4 77 j = P j := fun j j0 j1 => by rw [fo 77 (by decide) (by decide) (by decide)]; exact h77 j j0 j1
  have hg : NX 37 w4 (gF T P 0 0) := by
    refine gF_0 V L I n4 (fun f a b c => ?_) (fun q q0 q1 => ?_) (fun r r0 r1 => ?_)
    · rw [zq_f a, zq_f a, zq_f a, uR_f c, hrow f a b c, hT f a b c]
    · rw [zq_20, zq_20, zq_20]
      by_cases z0 : w3 78 0 ≠ 144 ∧ q = w3 78 0
      · rw [if_pos z0]
      · rw [if_neg z0]
        by_cases z1 : w2 78 1 ≠ 144 ∧ q = w2 78 1
        · rw [if_pos z1]
        · rw [if_neg z1]
          by_cases z2 : w1 78 2 ≠ 144 ∧ q = w1 78 2
          · rw [if_pos z2]
          · rw [if_neg z2, uR_f (by decide)]
            have h6 := (V'.h6 I q q0 q1).1
            refine Decidable.by_contra fun z => ?_
            obtain ⟨t, ht, e1, e2⟩ := slot_P V' L q0 q1 (Int.le_refl 0) (by omega)
            have es : spo loc' P n t = q := by
              unfold spo
              rw [if_pos ⟨ht.2, by omega⟩, e2]
            have h3 := L.1.2
            rcases (by omega : t = 0 ∨ t = 1 ∨ t = 2) with rfl | rfl | rfl
            · refine z0 ?_
              rw [b3, if_neg (by decide), d2 0 (by decide), s78 0 (by decide) (by decide), es]
              exact ⟨by omega, rfl⟩
            · refine z1 ?_
              rw [d2 1 (by decide), s78 1 (by decide) (by decide), es]
              exact ⟨by omega, rfl⟩
            · refine z2 ?_
              rw [s78 2 (by decide) (by decide), es]
              exact ⟨by omega, rfl⟩
    · rw [zq_f (by decide), zq_f (by decide), zq_f (by decide)]
      unfold uR
      rw [if_pos ⟨rfl, by omega, r1⟩]
  refine kT_mono (e_puts h V L I hg t6 t77 t78 t79) (fun w5 h5 => ⟨⟨⟨h5.1, V, hT⟩, ⟨by rw [h5.2 74 (by omega)]; exact t6, fun j j0 j1 => by rw [h5.2 77 (by omega)]; exact t77 j j0 j1⟩, fun j j0 j1 => by rw [h5.2 78 (by omega)]; exact t78 j j0 j1⟩, fo.tr (fOP.f37 h5.2)⟩)
end EG
