/-! schedules, the class: a state is met, a step ends, all steps of a state -/
def vK (S : qMem) (n : Int) (P : Int → Int) (K : List Int) : Prop := ∃ T loc, VT S T loc ∧ RK S n P T loc K
/-- more than 400 states -/
def OVF (S : qMem) (n : Int) (P : Int → Int) (root : List Int) : Prop := ∃ a : Int → List Int, (∀ i j, 0 ≤ i → i < 401 → 0 ≤ j → j < 401 → a i = a j → i = j) ∧ ∀ i, 0 ≤ i → i < 401 → rC (mu S n P) root (a i)
/-- the table of the search; s of it are done as in k0 w0, of the next dn -/
def xTB (S : qMem) (n : Int) (P : Int → Int) (root : List Int) (s : Int) (k0 : Int → List Int) (v0 : Int → Int) (dn : List Int → Int) (w : qMem) : Prop := ∃ (N : Int) (ks : Int → List Int) (ws : Int → Int), (w 74 7 = N ∧ 0 ≤ s ∧ s < N ∧ N ≤ 400) ∧ (∀ i, 0 ≤ i → i < N → (w 75 i = cdK (S 1 3) (S 1 4) (ks i) ∧ w 76 i = ws i) ∧ (0 ≤ ws i ∧ ws i < 1000003) ∧ rC (mu S n P) root (ks i)) ∧ (∀ i, 0 ≤ i → i ≤ s → ks i = k0 i ∧ ws i = v0 i) ∧ ((w 74 9 = 0 ∧ BF (mu S n P) (rkK S n P root) root N s ks ws dn) ∨ (w 74 9 = 1 ∧ (N = 400 ∧ ∀ i j, 0 ≤ i → i ≤ j → j < N → rkK S n P root (ks i) ≤ rkK S n P root (ks j)) ∧ OVF S n P root))
section EH
variable {w w' w0 w2 S T T' U F : qMem} {loc loc' P : Int → Int} {v k d l q p i j n r x y m W H N s t : Int} {K K' root : List Int} {ks k0 : Int → List Int} {ws v0 : Int → Int} {dn dn' : List Int → Int}
theorem klcmp_0 (x0 : 0 ≤ x) (x1 : x < 9223372036854775808) (y0 : 0 ≤ y) (y1 : y < 9223372036854775808) : klcmp x y = 0 ↔ x = y := by
  have hx : (Int64.ofInt x).toInt = x := by
    obtain ⟨a, rfl⟩ := Int.eq_ofNat_of_zero_le x0
    exact l64_to (l64_of (by omega)) (by omega)
  have hy : (Int64.ofInt y).toInt = y := by
    obtain ⟨a, rfl⟩ := Int.eq_ofNat_of_zero_le y0
    exact l64_to (l64_of (by omega)) (by omega)
  unfold klcmp lg_cmp
  refine ⟨fun h => ?_, fun h => ?_⟩
  · by_cases c : Int64.ofInt x > Int64.ofInt y
    · rw [if_pos c] at h
      exact absurd h (by decide)
    · rw [if_neg c] at h
      by_cases e : Int64.ofInt x = Int64.ofInt y
      · rw [← hx, e, hy]
      · rw [if_neg e] at h
        exact absurd h (by decide)
  · rw [h, if_neg (by simp), if_pos rfl]
    rfl
theorem cdK_in (h : RK S n P T loc K) (V : VT S T loc) (L : LVe S n P) (I : IV S) : 0 ≤ cdK (S 1 3) (S 1 4) K ∧ cdK (S 1 3) (S 1 4) K < 4611686018427387904 := by
  have a := cdR_in h V L I 16 (Nat.le_refl _)
  have b : bdn 16 = 4611686018427387904 := by decide
  rw [b] at a
  exact a
/-- it is found, or it is new, or there is no room -/
theorem e_reach (hC : cCur S n P T loc w) (h : RK S n P T loc K) (L : LVe S n P) (I : IV S) (h7 : w 74 7 = N ∧ 0 ≤ N ∧ N ≤ 400) (hk : ∀ i, 0 ≤ i → i < N → (w 75 i = cdK (S 1 3) (S 1 4) (ks i) ∧ w 76 i = ws i) ∧ (0 ≤ ws i ∧ ws i < 1000003) ∧ vK S n P (ks i)) (x0 : 0 ≤ x) (x1 : x < 1000003) : kT (f_S_reach 37 x w) (fun w' => (∃ j, (0 ≤ j ∧ j < N) ∧ ks j = K ∧ w' = qud w 76 j ((ws j + x) % 1000003)) ∨ ((∀ j, 0 ≤ j → j < N → ks j ≠ K) ∧ N < 400 ∧ w' = qud (qud (qud w 75 N (cdK (S 1 3) (S 1 4) K)) 76 N x) 74 7 (N + 1)) ∨ ((∀ j, 0 ≤ j → j < N → ks j ≠ K) ∧ N = 400 ∧ w' = qud w 74 9 1)) := by
  have V := hC.1.2.1
  have hc := cdK_in h V L I
  have main : ∀ (m : Nat) (i : Int), 0 ≤ i → i ≤ N → N - i < m → (∀ j, 0 ≤ j → j < i → ks j ≠ K) → kT (f_S_reach_9 37 m x (cdK (S 1 3) (S 1 4) K) i w) (fun w' => (∃ j, (0 ≤ j ∧ j < N) ∧ ks j = K ∧ w' = qud w 76 j ((ws j + x) % 1000003)) ∨ ((∀ j, 0 ≤ j → j < N → ks j ≠ K) ∧ N < 400 ∧ w' = qud (qud (qud w 75 N (cdK (S 1 3) (S 1 4) K)) 76 N x) 74 7 (N + 1)) ∨ ((∀ j, 0 ≤ j → j < N → ks j ≠ K) ∧ N = 400 ∧ w' = qud w 74 9 1)) := by
    intro m
    induction m with
    | zero => intro i _ _ _; omega
    | succ m ih =>
      intro i i0 i1 hm hne
      rw [f_S_reach_9, h7.1]
      refine kT_if (fun c => ?_) (fun c => ?_)
      · obtain ⟨⟨e75, e76⟩, hw, ⟨Ti, li, Vi, Ri⟩⟩ := hk i i0 c
        have hci := cdK_in Ri Vi L I
        rw [qld_ok i0 (by omega), w32_ok (z := i + 1) (by omega) (by omega), e75]
        refine kT_if (fun e => ?_) (fun e => ?_)
        · have ek : ks i = K := cd_inj Ri Vi h V L I ((klcmp_0 hci.1 (by omega) hc.1 (by omega)).mp e)
          unfold f_S_reach_30
          rw [qld_ok i0 (by omega), qdv_ok (by decide), e76, w32_ok (z := ws i + x) (by omega) (by omega), jrem_ok (by omega) (by omega) (by decide) (by decide)]
          refine kT_st i0 (by omega) ?_
          exact kT_some (Or.inl ⟨i, ⟨i0, c⟩, ek, rfl⟩)
        · refine ih (i + 1) (by omega) (by omega) (by omega) (fun j j0 j1 => ?_)
          by_cases z : j = i
          · rw [z]
            exact fun y => e ((klcmp_0 hci.1 (by omega) hc.1 (by omega)).mpr (by rw [y]))
          · exact hne j j0 (by omega)
      · have hall : ∀ j, 0 ≤ j → j < N → ks j ≠ K := fun j j0 j1 => hne j j0 (by omega)
        unfold f_S_reach_56
        rw [h7.1]
        refine kT_if (fun c => ?_) (fun c => ?_)
        · refine kT_st h7.2.1 c ?_
          rw [qud_nk (show (74 : Nat) ≠ 75 by decide), h7.1]
          refine kT_st h7.2.1 c ?_
          rw [qlt_ok, qud_nk (show (74 : Nat) ≠ 76 by decide), qud_nk (show (74 : Nat) ≠ 75 by decide), h7.1, w32_ok (by omega) (by omega)]
          exact kT_some (Or.inr (Or.inl ⟨hall, c, rfl⟩))
        · rw [qlt_ok]
          exact kT_some (Or.inr (Or.inr ⟨hall, by omega, rfl⟩))
  unfold f_S_reach
  refine kT_eq (e_key hC h L I) ?_
  exact main qFU 0 (by omega) h7.2.1 (qFU_gt (by omega)) (fun j a b => by omega)
/-- the table after a state is met -/
theorem xTB.up (hC : cCur S n P T' loc' w) (hK : RK S n P T' loc' K') (V0 : VT S S (lof S)) (R0 : RK S n P S (lof S) root) (L : LVe S n P) (I : IV S) (hT : xTB S n P root s k0 v0 dn w) (hd : ∀ b, 0 ≤ dn b) (hm : mu S n P (k0 s) K' ≠ 0) (hdn : ∀ b, dn' b = dn b + (if b = K' then 1 else 0)) : kT (f_S_reach 37 (w 76 s) w) (fun w' => xTB S n P root s k0 v0 dn' w' ∧ (∀ k, k ≠ 74 → k ≠ 75 → k ≠ 76 → w' k = w k) ∧ (∀ i, i ≠ 7 → i ≠ 9 → w' 74 i = w 74 i) ∧ w' 75 s = w 75 s ∧ w' 76 s = w 76 s) := by
  obtain ⟨N, ks, ws, ⟨h7, s0, s1, hN⟩, ht, hag, hb⟩ := hT
  have hru := rk_up V0 R0 L I
  have hks := hag s s0 (Int.le_refl _)
  have hss := ht s s0 s1
  rw [← hks.1] at hm
  have hrK : rC (mu S n P) root K' := fun C h1 h2 => h2 _ _ (hss.2.2 C h1 h2) hm
  refine kT_mono (e_reach (ks := ks) (ws := ws) hC hK L I ⟨h7, by omega, hN⟩ (fun i i0 i1 => ⟨(ht i i0 i1).1, (ht i i0 i1).2.1, rC_ok V0 R0 L I (ht i i0 i1).2.2⟩) (by rw [hss.1.2]; exact hss.2.1.1) (by rw [hss.1.2]; exact hss.2.1.2)) (fun w' hw => ?_)
  rw [hss.1.2] at hw
  rcases hw with ⟨j, ⟨j0, j1⟩, ej, ew⟩ | ⟨hne, hlt, ew⟩ | ⟨hne, heq, ew⟩
  · have hjs : s < j := Decidable.by_contra fun z => by
      have a := hru (ks s) K' hss.2.2 hm
      have hle : rkK S n P root (ks j) ≤ rkK S n P root (ks s) := by
        rcases hb with ⟨-, B⟩ | ⟨-, e4, -⟩
        · exact B.2.2.1.1 j s j0 (by omega) s1
        · exact e4.2 j s j0 (by omega) s1
      rw [ej] at hle
      omega
    rw [ew]
    refine ⟨⟨N, ks, fun i => if i = j then (ws j + ws s) % 1000003 else ws i, ⟨by rw [qud_nk (by decide)]; exact h7, s0, s1, hN⟩, fun i i0 i1 => ?_, fun i i0 i1 => ?_, ?_⟩, fun k a b c => qud_row c, fun i _ _ => by rw [qud_nk (by decide)], by rw [qud_nk (by decide)], by rw [qud_ni (by omega)]⟩
    · have hi := ht i i0 i1
      have hj := ht j j0 j1
      rw [qud_nk (by decide), qud_if]
      dsimp only
      by_cases e : i = j
      · rw [if_pos e, if_pos e]
        exact ⟨⟨hi.1.1, rfl⟩, ⟨Int.emod_nonneg _ (by decide), Int.emod_lt_of_pos _ (by decide)⟩, hi.2.2⟩
      · rw [if_neg e, if_neg e]
        exact hi
    · dsimp only
      rw [if_neg (by omega)]
      exact hag i i0 i1
    · rw [qud_nk (by decide)]
      rcases hb with ⟨a, B⟩ | b
      · exact Or.inl ⟨a, (B.old (k := K') s1 hm hru hd j0 j1 ej hdn (fun i => rfl)).2⟩
      · exact Or.inr b
  · rw [ew]
    refine ⟨⟨N + 1, fun i => if i = N then K' else ks i, fun i => if i = N then ws s else ws i, ⟨by rw [qud_s], s0, by omega, by omega⟩, fun i i0 i1 => ?_, fun i i0 i1 => ?_, ?_⟩, fun k a b c => by rw [qud_row a, qud_row c, qud_row b], fun i a _ => by rw [qud_ni a, qud_nk (by decide), qud_nk (by decide)], by rw [qud_nk (by decide), qud_nk (by decide), qud_ni (by omega)], by rw [qud_nk (by decide), qud_ni (by omega), qud_nk (by decide)]⟩
    · rw [qud_nk (by decide), qud_nk (by decide), qud_nk (show (76 : Nat) ≠ 74 by decide), qud_if, qud_if, qud_nk (by decide)]
      dsimp only
      by_cases e : i = N
      · rw [if_pos e, if_pos e, if_pos e, if_pos e]
        exact ⟨⟨rfl, rfl⟩, hss.2.1, hrK⟩
      · rw [if_neg e, if_neg e, if_neg e, if_neg e]
        exact ht i i0 (by omega)
    · dsimp only
      rw [if_neg (by omega), if_neg (by omega)]
      exact hag i i0 i1
    · rw [qud_ni (by decide), qud_nk (by decide), qud_nk (by decide)]
      rcases hb with ⟨a, B⟩ | b
      · exact Or.inl ⟨a, B.new s1 hm hru hne hdn (fun i => rfl) (fun i => rfl)⟩
      · omega
  · rw [ew]
    refine ⟨⟨N, ks, ws, ⟨by rw [qud_ni (by decide)]; exact h7, s0, s1, hN⟩, fun i i0 i1 => ?_, hag, Or.inr ⟨qud_s, ⟨heq, ?_⟩, ?_⟩⟩, fun k a _ _ => qud_row a, fun i _ b => by rw [qud_ni b], by rw [qud_nk (by decide)], by rw [qud_nk (by decide)]⟩
    · rw [qud_nk (by decide), qud_nk (by decide)]
      exact ht i i0 i1
    · rcases hb with ⟨-, B⟩ | b
      · exact B.2.2.1.1
      · exact b.2.1.2
    · rcases hb with ⟨-, B⟩ | b
      · refine ⟨fun i => if i < 400 then ks i else K', fun i j i0 i1 j0 j1 e => ?_, fun i i0 i1 => ?_⟩
        · dsimp only at e
          by_cases a : i < 400
          · by_cases c : j < 400
            · rw [if_pos a, if_pos c] at e
              exact B.1.2.1 i j i0 (by omega) j0 (by omega) e
            · rw [if_pos a, if_neg c] at e
              exact absurd e (hne i i0 (by omega))
          · by_cases c : j < 400
            · rw [if_neg a, if_pos c] at e
              exact absurd e.symm (hne j j0 (by omega))
            · omega
        · dsimp only
          by_cases a : i < 400
          · rw [if_pos a]
            exact (ht i i0 (by omega)).2.2
          · rw [if_neg a]
            exact hrK
      · exact b.2.2
theorem spo_n (L : LVe S n P) (j0 : 0 ≤ j) (j1 : j < n) (t0 : 0 ≤ t) (t1 : t < 3) (hl : loc (P j) ≠ -1) : spo (lmv loc (P j) q) P n t = if t = j then (if q = -1 then 144 else q) else spo loc P n t := by
  unfold spo lmv
  by_cases e : t = j
  · rw [if_pos e, e, if_pos rfl]
    by_cases c : q = -1
    · rw [if_pos c, if_neg (fun z => z.2 c)]
    · rw [if_neg c, if_pos ⟨j1, c⟩]
  · rw [if_neg e]
    by_cases c : t < n
    · have : P t ≠ P j := fun z => e (L.2.2.1 t j t0 c j0 j1 z)
      rw [if_neg this]
    · rw [if_neg (fun z => c z.1), if_neg (fun z => c z.1)]
/-- what holds between the steps of a state -/
def xEX (S : qMem) (n : Int) (P : Int → Int) (root : List Int) (s : Int) (k0 : Int → List Int) (v0 : Int → Int) (T : qMem) (loc : Int → Int) (w0 : qMem) (dn : List Int → Int) (c : Int) (w : qMem) : Prop := cCur S n P T loc w ∧ xTB S n P root s k0 v0 dn w ∧ (w 74 8 = c ∧ w 75 s = cdK (S 1 3) (S 1 4) (k0 s)) ∧ ∀ k, (k < 37 ∨ 72 ≤ k) → k ≠ 74 → k ≠ 75 → k ≠ 76 → k ≠ 78 → k ≠ 79 → w k = w0 k
theorem cCur.fr (h : cCur S n P T loc w) (hk : ∀ k, 37 ≤ k → k < 72 → w' k = w k) (h6 : w' 74 6 = w 74 6) (h77 : w' 77 = w 77) (h78 : w' 78 = w 78) : cCur S n P T loc w' := by
  refine ⟨⟨h.1.1.fr (fun k a b => hk k a (by omega)), h.1.2⟩, ?_, ?_⟩
  · rw [h6, h77]; exact h.2.1
  · rw [h78]; exact h.2.2
/-- a step ends -/
theorem e_close {c : Int} (hE : xEX S n P root s k0 v0 T loc w0 dn c w) (hx : NX 37 w' T') (hf : F37 w w') (V : VT S T' (lmv loc (P j) q)) (hrow : ∀ f : Nat, f ≠ 20 → f ≠ 21 → f ≠ 25 → T' f = S f) (j0 : 0 ≤ j) (j1 : j < n) (hl : loc (P j) ≠ -1) (hK : RK S n P T' (lmv loc (P j) q) K') (RT : RK S n P T loc (k0 s)) (V0 : VT S S (lof S)) (R0 : RK S n P S (lof S) root) (L : LVe S n P) (I : IV S) (hd : ∀ b, 0 ≤ dn b) (hm : mu S n P (k0 s) K' ≠ 0) (c0 : 0 ≤ c) (c1 : c < 1000) (hy : y = if q = -1 then 144 else q) : kT (f_S_close 37 s j y w') (xEX S n P root s k0 v0 T loc w0 (fun b => dn b + (if b = K' then 1 else 0)) (c + 1)) := by
  obtain ⟨hC, hT, ⟨h8, h75⟩, hfr⟩ := hE
  have hn := L.1
  have s01 : 0 ≤ s ∧ s < 400 := by
    obtain ⟨N, ks, ws, ⟨h7, s0, s1, hN⟩, -⟩ := hT
    omega
  have e74 : w' 74 = w 74 := hf 74 (by omega)
  unfold f_S_close
  refine kT_st j0 (by omega) ?_
  rw [qlt_ok, qud_nk (show (74 : Nat) ≠ 78 by decide), e74, h8, w32_ok (z := c + 1) (by omega) (by omega), qld_ok s01.1 (by omega)]
  have g : ∀ k, k ≠ 74 → k ≠ 78 → qud (qud w' 78 j y) 74 8 (c + 1) k = w' k := fun k a b => by rw [qud_row a, qud_row b]
  have hC' : cCur S n P T' (lmv loc (P j) q) (qud (qud w' 78 j y) 74 8 (c + 1)) := by
    refine ⟨⟨hx.fr (fun k a b => g k (by omega) (by omega)), V, hrow⟩, ⟨?_, fun t t0 t1 => ?_⟩, fun t t0 t1 => ?_⟩
    · rw [qud_ni (by decide), qud_nk (by decide), e74]
      exact hC.2.1.1
    · rw [g 77 (by decide) (by decide), hf 77 (by omega)]
      exact hC.2.1.2 t t0 t1
    · rw [qud_nk (by decide), qud_if, hf 78 (by omega), spo_n L j0 j1 t0 t1 hl, hy]
      by_cases e : t = j
      · rw [if_pos e, if_pos e]
      · rw [if_neg e, if_neg e]
        exact hC.2.2 t t0 t1
  have hT' : xTB S n P root s k0 v0 dn (qud (qud w' 78 j y) 74 8 (c + 1)) := by
    unfold xTB at hT ⊢
    rw [qud_ni (show (7 : Int) ≠ 8 by decide), qud_ni (show (9 : Int) ≠ 8 by decide), qud_nk (show (74 : Nat) ≠ 78 by decide), qud_nk (show (74 : Nat) ≠ 78 by decide), e74, g 75 (by decide) (by decide), g 76 (by decide) (by decide), hf 75 (by omega), hf 76 (by omega)]
    exact hT
  refine kT_bind (xTB.up (dn' := fun b => dn b + (if b = K' then 1 else 0)) hC' hK V0 R0 L I hT' hd hm (fun b => rfl)) (fun w3 h3 => ?_)
  obtain ⟨t3, r3, q3, e75, e76⟩ := h3
  rw [qld_ok s01.1 (by omega), e75, g 75 (by decide) (by decide), hf 75 (by omega), h75]
  have hC3 : cCur S n P T' (lmv loc (P j) q) w3 := hC'.fr (fun k a b => r3 k (by omega) (by omega) (by omega)) (q3 6 (by decide) (by decide)) (r3 77 (by decide) (by decide) (by decide)) (r3 78 (by decide) (by decide) (by decide))
  refine kT_bind (e_open hC3 RT hC.1.2.1 hC.1.2.2 L I) (fun w4 h4 => ?_)
  have o : ∀ k, 72 ≤ k → k ≠ 78 → k ≠ 79 → w4 k = w3 k := fun k a b c => h4.2 k (Or.inr a) b c
  refine kT_some ⟨h4.1, ?_, ⟨?_, ?_⟩, fun k a b c d e f => ?_⟩
  · unfold xTB at t3 ⊢
    rw [o 74 (by decide) (by decide) (by decide), o 75 (by decide) (by decide) (by decide), o 76 (by decide) (by decide) (by decide)]
    exact t3
  · rw [o 74 (by decide) (by decide) (by decide), q3 8 (by decide) (by decide), qud_s]
  · rw [o 75 (by decide) (by decide) (by decide), e75, g 75 (by decide) (by decide), hf 75 (by omega)]
    exact h75
  · rw [h4.2 k a e f, r3 k b c d, g k b e, hf k (by omega)]
    exact hfr k a b c d e f
theorem xEX.cg {c : Int} (h : xEX S n P root s k0 v0 T loc w0 dn c w) (e : ∀ b, dn' b = dn b) : xEX S n P root s k0 v0 T loc w0 dn' c w := by
  have : dn' = dn := funext e
  rw [this]
  exact h
theorem ssh_row (hrow : ∀ f : Nat, f ≠ 20 → f ≠ 21 → f ≠ 25 → T f = S f) : ∀ f : Nat, f ≠ 20 → f ≠ 21 → f ≠ 25 → ssh T v k d l f = S f := fun f a b c => by
  rw [ssh_f a b c]
  exact hrow f a b c
/-- a move by a lane -/
theorem e_move {c : Int} {β : Type} {Kk : qMem → Option β} {Q : β → Prop} (hE : xEX S n P root s k0 v0 T loc w0 dn c w) (RT : RK S n P T loc (k0 s)) (V0 : VT S S (lof S)) (R0 : RK S n P S (lof S) root) (L : LVe S n P) (I : IV S) (hd : ∀ b, 0 ≤ dn b) (c0 : 0 ≤ c) (c1 : c < 1000) (j0 : 0 ≤ j) (j1 : j < n) (v0' : 0 ≤ v) (v1 : v < T 1 3 * T 1 4) (k0' : 0 ≤ k) (k1 : k < 9) (d0 : 0 ≤ d) (d1 : d < 4) (hf : sfst T (v * 9 + k) = P j) (hl : loc (P j) = v * 9 + k) (hin : sin T v k = false) (hl2 : (l = 2 ∧ sad T v k d = true) ∨ (l = 1 ∧ sel T v k d = true)) (hy : y = tgt T v d l) (KK : ∀ w', xEX S n P root s k0 v0 T loc w0 (fun b => dn b + go1 S n P T loc v k d l b) (c + 1) w' → kT (Kk w') Q) : kT ((f_N_shift 37 v k d l w).bind fun q => (f_S_close 37 s j y q).bind Kk) Q := by
  have hC := hE.1
  have V := hC.1.2.1
  have hg := V.gg I
  have hN := gN hg.1
  have hp := (L.2.1 j j0 j1).1
  have he : sfst T (v * 9 + k) ≠ -1 := by rw [hf]; omega
  have ht := tgt_in (l := l) hg.1 v0' v1 d0 d1
  have Vm : VT S (ssh T v k d l) (lmv loc (sfst T (v * 9 + k)) (tgt T v d l)) := by
    rcases hl2 with ⟨rfl, h⟩ | ⟨rfl, h⟩
    · exact V.go2 I v0' v1 k0' k1 d0 d1 he h
    · exact V.go1 I v0' v1 k0' k1 d0 d1 he h
  obtain ⟨K', hK'⟩ := RK.ex Vm L
  have hgo : ∀ b, go1 S n P T loc v k d l b = if b = K' then 1 else 0 := fun b => ind_k hK' Vm L
  have hm : mu S n P (k0 s) K' ≠ 0 := by
    rw [mu_eq V RT L I]
    have e1 : T 1 = S 1 := V.1.1.1
    have hq9 : (v * 9 + k) / 9 = v ∧ (v * 9 + k) % 9 = k := by omega
    have h1 : go1 S n P T loc v k d l K' = 1 := by rw [hgo, if_pos rfl]
    have hD : 1 ≤ goD S n P T loc v k K' d := by
      have a2 : 0 ≤ (if sad T v k d = true then go1 S n P T loc v k d 2 K' else 0) := by
        split
        · exact ind_01.1
        · exact Int.le_refl _
      have a1 : 0 ≤ (if sel T v k d = true then go1 S n P T loc v k d 1 K' else 0) := by
        split
        · exact ind_01.1
        · exact Int.le_refl _
      unfold goD
      rcases hl2 with ⟨rfl, h⟩ | ⟨rfl, h⟩
      · rw [if_pos h] at a2 ⊢
        omega
      · rw [if_pos h] at a1 ⊢
        omega
    have hb : 1 ≤ blk S n P T loc K' (v * 9 + k) := by
      have hs := (V.first (q := v * 9 + k) (by omega) (by omega) he).1.2
      unfold blk blF
      rw [if_neg (by omega), hq9.1, hq9.2, hin, if_neg (by decide)]
      have := cV_lt (f := fun d' => if d' = d then 0 else goD S n P T loc v k K' d') (g := goD S n P T loc v k K') (p := d) (x := 4) d0 d1 (fun t a b => by
        split
        · exact goD_0
        · exact Int.le_refl _) (by rw [if_pos rfl]; omega)
      have h0 := cV_ge (f := fun d' => if d' = d then 0 else goD S n P T loc v k K' d') (x := 4) (by decide) (fun t a b => by
        split
        · exact Int.le_refl _
        · exact goD_0)
      show (1 : Int) ≤ cV (goD S n P T loc v k K') 4
      omega
    have := cV_lt (f := fun q => if q = v * 9 + k then 0 else blk S n P T loc K' q) (g := blk S n P T loc K') (p := v * 9 + k) (x := S 1 3 * S 1 4 * 9) (by omega) (by rw [← e1]; omega) (fun t a b => by
      split
      · exact blk_0
      · exact Int.le_refl _) (by rw [if_pos rfl]; omega)
    have h0 := cV_ge (f := fun q => if q = v * 9 + k then 0 else blk S n P T loc K' q) (x := S 1 3 * S 1 4 * 9) (by have := gN I.1.1; omega) (fun t a b => by
      split
      · exact Int.le_refl _
      · exact blk_0)
    unfold muT
    omega
  refine kT_bind (n_shift (l := l) hC.1.1 (V.iw I) v0' v1 k0' k1 d0 d1 he) (fun w3 h3 => ?_)
  rw [hf] at Vm hK'
  exact kT_bind (e_close hE h3.1 (F37.fn h3.2) Vm (ssh_row hC.1.2.2) j0 j1 (by rw [hl]; omega) hK' RT V0 R0 L I hd hm c0 c1 (by rw [if_neg (by omega)]; exact hy)) (fun w4 h4 => KK w4 (h4.cg (fun b => by rw [hgo])))
end EH
