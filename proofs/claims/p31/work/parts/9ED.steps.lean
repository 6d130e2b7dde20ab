/-! steps between states, counted -/
noncomputable def ind (S : qMem) (n : Int) (P : Int → Int) (T : qMem) (loc : Int → Int) (b : List Int) : Int := @ite Int (RK S n P T loc b) (Classical.propDecidable _) 1 0
noncomputable def go1 (S : qMem) (n : Int) (P : Int → Int) (T : qMem) (loc : Int → Int) (v k d l : Int) (b : List Int) : Int := ind S n P (ssh T v k d l) (lmv loc (sfst T (v * 9 + k)) (tgt T v d l)) b
noncomputable def goD (S : qMem) (n : Int) (P : Int → Int) (T : qMem) (loc : Int → Int) (v k : Int) (b : List Int) (d : Int) : Int := (if sad T v k d = true then go1 S n P T loc v k d 2 b else 0) + (if sel T v k d = true then go1 S n P T loc v k d 1 b else 0)
/-- the steps of the first one of a queue that isn't empty -/
noncomputable def blF (S : qMem) (n : Int) (P : Int → Int) (T : qMem) (loc : Int → Int) (b : List Int) (q : Int) : Int := if sin T (q / 9) (q % 9) = true then ind S n P (sdr T q) (lmv loc (sfst T q) (-1)) b else cV (fun d => goD S n P T loc (q / 9) (q % 9) b d) 4
noncomputable def blk (S : qMem) (n : Int) (P : Int → Int) (T : qMem) (loc : Int → Int) (b : List Int) (q : Int) : Int := if T 20 q ≤ 0 then 0 else blF S n P T loc b q
noncomputable def muT (S : qMem) (n : Int) (P : Int → Int) (T : qMem) (loc : Int → Int) (b : List Int) : Int := cV (blk S n P T loc b) (S 1 3 * S 1 4 * 9)
noncomputable def rep (S : qMem) (n : Int) (P : Int → Int) (k : List Int) : qMem × (Int → Int) := @dite (qMem × (Int → Int)) (∃ z : qMem × (Int → Int), VT S z.1 z.2 ∧ RK S n P z.1 z.2 k) (Classical.propDecidable _) (fun h => Classical.choose h) (fun _ => (S, fun _ => 0))
noncomputable def mu (S : qMem) (n : Int) (P : Int → Int) (k b : List Int) : Int := @ite Int (VT S (rep S n P k).1 (rep S n P k).2 ∧ RK S n P (rep S n P k).1 (rep S n P k).2 k) (Classical.propDecidable _) (muT S n P (rep S n P k).1 (rep S n P k).2 b) 0
/-- how many steps are left at least -/
def ptL (S : qMem) (n : Int) (P : Int → Int) (loc : Int → Int) : Int := cV (fun j => if loc (P j) = -1 then 0 else 1 + gf (S 1 3) (S 1 4) (loc (P j) / 9) (S 7 (P j))) n
def ptK (S : qMem) (n : Int) (P : Int → Int) (k : List Int) : Int := cV (fun j => if kA k j = 432 then 0 else 1 + gf (S 1 3) (S 1 4) (kA k j / 27) (S 7 (P j))) n
def rkK (S : qMem) (n : Int) (P : Int → Int) (root k : List Int) : Int := ptK S n P root - ptK S n P k
section SD
variable {S T T' U : qMem} {loc loc' : Int → Int} {P : Int → Int} {v k d l q p i j n r x m : Int} {K K' b root : List Int}
theorem ind_y (h : RK S n P T loc b) : ind S n P T loc b = 1 := if_pos h
theorem ind_n (h : ¬ RK S n P T loc b) : ind S n P T loc b = 0 := if_neg h
theorem ind_01 : 0 ≤ ind S n P T loc b ∧ ind S n P T loc b ≤ 1 := by
  by_cases h : RK S n P T loc b
  · rw [ind_y h]; decide
  · rw [ind_n h]; decide
/-- the key is K: nothing else counts -/
theorem ind_k (h : RK S n P T loc K) (V : VT S T loc) (L : LVe S n P) : ind S n P T loc b = if b = K then 1 else 0 := by
  by_cases e : b = K
  · rw [if_pos e, e, ind_y h]
  · rw [if_neg e, ind_n (fun z => e (z.un h V L))]
theorem TQ.sy (h : TQ T T') : TQ T' T := by
  refine ⟨⟨⟨h.1.1.1.symm, fun j hj => (h.1.1.2 j hj).symm⟩, h.1.2.symm⟩, fun q a b => (h.2.1 q a b).symm, fun q i a b c e => ?_, fun r a b => ?_⟩
  · rw [h.2.1 q a b] at e
    exact (h.2.2.1 q i a b c e).symm
  · rw [h.1.1.1] at b
    exact (h.2.2.2 r a b).symm
theorem ind_co (V : VT S T loc) (V' : VT S T' loc') (h : TQ T T') (e : ∀ p, 0 ≤ p → p < S 5 13 → loc' p = loc p) (L : LVe S n P) (I : IV S) : ind S n P T' loc' b = ind S n P T loc b := by
  by_cases z : RK S n P T loc b
  · rw [ind_y z, ind_y (z.co V h e L I)]
  · rw [ind_n z, ind_n (fun y => z (y.co V' h.sy (fun p a c => (e p a c).symm) L I))]
theorem cap_4 (V : VT S T loc) (I : IV S) (v0 : 0 ≤ v) (v1 : v < T 1 3 * T 1 4) (d0 : 0 ≤ d) (d1 : d < 4) : T 20 (tgt T v d l) ≤ 4 := by
  have hg := V.gg I
  have hN := gN hg.1
  have hn := gn_in hg.1 v0 v1 d0 d1
  have ht := tgt_in (l := l) hg.1 v0 v1 d0 d1
  have hq := (V.2.1.1 _ ht.1.1 ht.1.2).1.2
  have h6 := hg.2.1
  have h7 := hg.2.2.1
  have hm : tgt T v d l % 9 ≠ 0 := by
    have hl : (if l = 1 then (1 : Int) else 5) = 1 ∨ (if l = 1 then (1 : Int) else 5) = 5 := by split <;> simp
    unfold tgt
    omega
  unfold cap at hq
  rw [if_neg hm] at hq
  split at hq <;> omega
theorem lmv_co (e : ∀ p, 0 ≤ p → p < S 5 13 → loc' p = loc p) : ∀ p, 0 ≤ p → p < S 5 13 → lmv loc' x q p = lmv loc x q p := fun p a b => by
  unfold lmv
  rw [e p a b]
/-- which moves may be -/
theorem sad_c (h : sad T v k d = true) : T 20 (tgt T v d 2) < T 0 7 ∧ spr T v k d = true := by
  unfold sad at h
  rw [Bool.and_eq_true, decide_eq_true_eq] at h
  unfold tgt
  rw [if_neg (by decide)]
  exact ⟨h.2, h.1⟩
theorem sel_c (h : sel T v k d = true) : T 20 (tgt T v d 1) < T 0 6 ∧ ses T v k d = true := by
  unfold sel at h
  rw [Bool.and_eq_true] at h
  have h1 : 1 ≤ sfa T v d := by
    by_cases e : k = 1 + d
    · rw [if_pos e, decide_eq_true_eq] at h
      exact h.2
    · rw [if_neg e] at h
      have h2 := h.2
      unfold srl srn at h2
      rw [decide_eq_true_eq] at h2
      revert h2
      split
      · omega
      · split <;> omega
  unfold sfa at h1
  unfold tgt
  rw [if_pos rfl]
  exact ⟨by omega, h.1⟩
theorem gp_of (he : sfst T (v * 9 + k) ≠ -1) (h : spr T v k d = true ∨ ses T v k d = true) (d0 : 0 ≤ d) : gp (T 1 3) (T 1 4) v (T 7 (sfst T (v * 9 + k))) d = true := by
  rcases h with h | h
  · unfold spr at h
    rw [if_neg he] at h
    exact h
  · unfold ses at h
    rw [if_neg he, decide_eq_true_eq] at h
    exact ge_gp h (by omega)
theorem VT.go2 (V : VT S T loc) (I : IV S) (v0 : 0 ≤ v) (v1 : v < T 1 3 * T 1 4) (k0 : 0 ≤ k) (k1 : k < 9) (d0 : 0 ≤ d) (d1 : d < 4) (he : sfst T (v * 9 + k) ≠ -1) (h : sad T v k d = true) : VT S (ssh T v k d 2) (lmv loc (sfst T (v * 9 + k)) (tgt T v d 2)) := V.mv I v0 v1 k0 k1 d0 d1 (Or.inr rfl) he (by rw [if_neg (by decide)]; exact (sad_c h).1)
theorem VT.go1 (V : VT S T loc) (I : IV S) (v0 : 0 ≤ v) (v1 : v < T 1 3 * T 1 4) (k0 : 0 ≤ k) (k1 : k < 9) (d0 : 0 ≤ d) (d1 : d < 4) (he : sfst T (v * 9 + k) ≠ -1) (h : sel T v k d = true) : VT S (ssh T v k d 1) (lmv loc (sfst T (v * 9 + k)) (tgt T v d 1)) := V.mv I v0 v1 k0 k1 d0 d1 (Or.inl rfl) he (by rw [if_pos rfl]; exact (sel_c h).1)
theorem fst_p (V : VT S T loc) (q0 : 0 ≤ q) (q1 : q < 144) (h : ¬ T 20 q ≤ 0) : sfst T q ≠ -1 := by
  have := V.2.1.2.1.1 q 0 q0 q1 (Int.le_refl _) (by omega)
  rw [Int.add_zero] at this
  unfold sfst
  rw [if_neg h]
  omega
theorem blk_co (V : VT S T loc) (V' : VT S T' loc') (h : TQ T T') (e : ∀ p, 0 ≤ p → p < S 5 13 → loc' p = loc p) (L : LVe S n P) (I : IV S) (q0 : 0 ≤ q) (q1 : q < S 1 3 * S 1 4 * 9) : blk S n P T' loc' b q = blk S n P T loc b q := by
  have hg := V.gg I
  have hN := gN I.1.1
  have e1 : T 1 = S 1 := V.1.1.1
  have hq : q / 9 * 9 + q % 9 = q := by omega
  unfold blk
  rw [h.2.1 q q0 (by omega)]
  by_cases z : T 20 q ≤ 0
  · rw [if_pos z, if_pos z]
  · have he := fst_p V q0 (by omega) z
    have hs : 0 < T 20 q := by omega
    have h6 := V.h6 I
    have hf := h.f1 q0 (show q < 144 by omega)
    have he' : sfst T' q ≠ -1 := by rw [hf]; exact he
    rw [if_neg z, if_neg z]
    unfold blF
    rw [h.xin (v := q / 9) (k := q % 9) (by omega) (by omega)]
    by_cases y : sin T (q / 9) (q % 9) = true
    · rw [if_pos y, if_pos y, hf]
      have Vp := V.pop q0 (by omega) he
      have Vp' := V'.pop q0 (by omega) he'
      rw [hf] at Vp'
      exact ind_co Vp Vp' (h.dr (fun y a b => (h6 y a b).2) q0 (by omega) hs) (lmv_co e) L I
    · rw [if_neg y, if_neg y]
      refine cV_co (by decide) (fun d d0 d1 => ?_)
      have v0 : 0 ≤ q / 9 := by omega
      have v1 : q / 9 < T 1 3 * T 1 4 := by rw [e1]; omega
      have et : ∀ l, tgt T' (q / 9) d l = tgt T (q / 9) d l := fun l => by
        unfold tgt
        rw [h.1.1.1]
      have e9 : sfst T (q / 9 * 9 + q % 9) ≠ -1 := by rw [hq]; exact he
      have e9' : sfst T' (q / 9 * 9 + q % 9) = sfst T (q / 9 * 9 + q % 9) := by rw [hq]; exact hf
      have hs9 : 0 < T 20 (q / 9 * 9 + q % 9) := by rw [hq]; exact hs
      have v1' : q / 9 < T' 1 3 * T' 1 4 := by rw [h.1.1.1]; exact v1
      unfold goD
      rw [h.xad hg.1 v0 v1 (by omega) (by omega) d0 d1, h.xel hg.1 v0 v1 (by omega) (by omega) d0 d1]
      have a2 : sad T (q / 9) (q % 9) d = true → go1 S n P T' loc' (q / 9) (q % 9) d 2 b = go1 S n P T loc (q / 9) (q % 9) d 2 b := fun y => by
        unfold go1
        have Va := V.go2 (k := q % 9) I v0 v1 (by omega) (by omega) d0 d1 e9 y
        have Va' := V'.go2 (k := q % 9) I v0 v1' (by omega) (by omega) d0 d1 (by rw [e9']; exact e9) (by rw [h.xad hg.1 v0 v1 (by omega) (by omega) d0 d1]; exact y)
        rw [e9', et] at Va' ⊢
        exact ind_co Va Va' (h.sh h6 hg.1 v0 v1 (by omega) (by omega) d0 d1 hs9 (by have := cap_4 (l := 2) V I v0 v1 d0 d1; omega)) (lmv_co e) L I
      have a1 : sel T (q / 9) (q % 9) d = true → go1 S n P T' loc' (q / 9) (q % 9) d 1 b = go1 S n P T loc (q / 9) (q % 9) d 1 b := fun y => by
        unfold go1
        have Va := V.go1 (k := q % 9) I v0 v1 (by omega) (by omega) d0 d1 e9 y
        have Va' := V'.go1 (k := q % 9) I v0 v1' (by omega) (by omega) d0 d1 (by rw [e9']; exact e9) (by rw [h.xel hg.1 v0 v1 (by omega) (by omega) d0 d1]; exact y)
        rw [e9', et] at Va' ⊢
        exact ind_co Va Va' (h.sh h6 hg.1 v0 v1 (by omega) (by omega) d0 d1 hs9 (by have := cap_4 (l := 1) V I v0 v1 d0 d1; omega)) (lmv_co e) L I
      congr 1
      · by_cases y : sad T (q / 9) (q % 9) d = true
        · rw [if_pos y, if_pos y, a2 y]
        · rw [if_neg y, if_neg y]
      · by_cases y : sel T (q / 9) (q % 9) d = true
        · rw [if_pos y, if_pos y, a1 y]
        · rw [if_neg y, if_neg y]
theorem rep_ok (V : VT S T loc) (h : RK S n P T loc K) : VT S (rep S n P K).1 (rep S n P K).2 ∧ RK S n P (rep S n P K).1 (rep S n P K).2 K := by
  have hx : ∃ z : qMem × (Int → Int), VT S z.1 z.2 ∧ RK S n P z.1 z.2 K := ⟨(T, loc), V, h⟩
  have e : rep S n P K = Classical.choose hx := dif_pos hx
  rw [e]
  exact Classical.choose_spec hx
theorem rep_tq (V : VT S T loc) (h : RK S n P T loc K) (L : LVe S n P) (I : IV S) : TQ T (rep S n P K).1 ∧ ∀ p, 0 ≤ p → p < S 5 13 → (rep S n P K).2 p = loc p := by
  have hr := rep_ok V h
  exact h.tq hr.2 V hr.1 L I
theorem mu_eq (V : VT S T loc) (h : RK S n P T loc K) (L : LVe S n P) (I : IV S) : mu S n P K b = muT S n P T loc b := by
  have hN := gN I.1.1
  have hr := rep_ok V h
  have ht := rep_tq V h L I
  have e : mu S n P K b = muT S n P (rep S n P K).1 (rep S n P K).2 b := if_pos hr
  rw [e]
  unfold muT
  exact cV_co (by omega) (fun q q0 q1 => blk_co V hr.1 ht.1 ht.2 L I q0 q1)
theorem goD_0 : 0 ≤ goD S n P T loc v k b d := by
  unfold goD go1
  have h1 := ind_01 (S := S) (n := n) (P := P) (T := ssh T v k d 2) (loc := lmv loc (sfst T (v * 9 + k)) (tgt T v d 2)) (b := b)
  have h2 := ind_01 (S := S) (n := n) (P := P) (T := ssh T v k d 1) (loc := lmv loc (sfst T (v * 9 + k)) (tgt T v d 1)) (b := b)
  split <;> split <;> omega
theorem cV_ge {f : Int → Int} (x0 : 0 ≤ x) (h : ∀ k, 0 ≤ k → k < x → 0 ≤ f k) : 0 ≤ cV f x := by
  have := cV_le (f := fun _ => 0) (g := f) x0 h
  rw [cV_0f (fun _ _ _ => rfl) x0] at this
  exact this
theorem blk_0 : 0 ≤ blk S n P T loc b q := by
  unfold blk blF
  split
  · exact Int.le_refl _
  · split
    · exact ind_01.1
    · exact cV_ge (by decide) (fun d _ _ => goD_0)
theorem muT_0 (I : IV S) : 0 ≤ muT S n P T loc b := by
  have hN := gN I.1.1
  exact cV_ge (by omega) (fun q _ _ => blk_0)
theorem cV_ne {f : Int → Int} (x0 : 0 ≤ x) (h : cV f x ≠ 0) : ∃ i, (0 ≤ i ∧ i < x) ∧ f i ≠ 0 := Classical.byContradiction fun z => h (cV_0f (fun i a c => Classical.byContradiction fun y => z ⟨i, ⟨a, c⟩, y⟩) x0)
/-! how many steps are left -/
theorem RK.pt (h : RK S n P T loc K) (V : VT S T loc) (L : LVe S n P) : ptK S n P K = ptL S n P loc := by
  have hn := L.1
  have hq3 : ∀ q, 0 ≤ q → q < 144 → T 20 q ≤ 3 := fun q a b => by
    have := V.n3 L a b
    omega
  obtain ⟨c, rfl, a1, -⟩ := h
  unfold ptK ptL
  refine cV_co hn.1 (fun j j0 j1 => ?_)
  rw [kA_e j0 (by omega)]
  by_cases z : loc (P j) = -1
  · rw [if_pos z, if_pos ((a1 j j0 (by omega)).2 (fun y => y.2 z))]
  · have hp := (L.2.1 j j0 j1).1
    obtain ⟨i, i1, i2, i3⟩ := (a1 j j0 (by omega)).1 ⟨j1, z⟩
    have hq := (V.2.1.2.1.2 (P j) hp.1 (by rw [V.1.2.1]; exact hp.2) z).1
    have := hq3 _ hq.1 hq.2
    rw [if_neg z, if_neg (by omega), show c j / 27 = loc (P j) / 9 by omega]
theorem pt_mv (L : LVe S n P) (hp : ∃ j, (0 ≤ j ∧ j < n) ∧ P j = p) (hl : loc p ≠ -1) : ptL S n P (lmv loc p q) = ptL S n P loc - (1 + gf (S 1 3) (S 1 4) (loc p / 9) (S 7 p)) + (if q = -1 then 0 else 1 + gf (S 1 3) (S 1 4) (q / 9) (S 7 p)) := by
  obtain ⟨j, ⟨j0, j1⟩, hj⟩ := hp
  have h1 := cV_u (f := fun j => if loc (P j) = -1 then 0 else 1 + gf (S 1 3) (S 1 4) (loc (P j) / 9) (S 7 (P j))) (g := fun t => if t = j then (if q = -1 then 0 else 1 + gf (S 1 3) (S 1 4) (q / 9) (S 7 p)) else if loc (P t) = -1 then 0 else 1 + gf (S 1 3) (S 1 4) (loc (P t) / 9) (S 7 (P t))) (p := j) (v := if q = -1 then 0 else 1 + gf (S 1 3) (S 1 4) (q / 9) (S 7 p)) (x := n) j0 j1 (fun t => rfl)
  have h2 : ptL S n P (lmv loc p q) = cV (fun t => if t = j then (if q = -1 then 0 else 1 + gf (S 1 3) (S 1 4) (q / 9) (S 7 p)) else if loc (P t) = -1 then 0 else 1 + gf (S 1 3) (S 1 4) (loc (P t) / 9) (S 7 (P t))) n := by
    unfold ptL
    refine cV_co L.1.1 (fun t t0 t1 => ?_)
    unfold lmv
    by_cases e : t = j
    · rw [if_pos e, e, hj, if_pos rfl]
    · have : P t ≠ p := fun z => e (L.2.2.1 t j t0 t1 j0 j1 (by rw [z, hj]))
      rw [if_neg e, if_neg this]
  rw [h2, h1, hj, if_neg hl]
  rfl
theorem live_of (V : VT S T loc) (L : LVe S n P) (p0 : 0 ≤ p) (p1 : p < S 5 13) (h : loc p ≠ -1) : ∃ j, (0 ≤ j ∧ j < n) ∧ P j = p := L.2.2.2 p p0 p1 (V.2.1.2.2 p p0 p1 h)
/-- a step leads to a valid state with one step less to go -/
theorem mu_st (V : VT S T loc) (L : LVe S n P) (I : IV S) (h : muT S n P T loc b ≠ 0) : ∃ T' loc', VT S T' loc' ∧ RK S n P T' loc' b ∧ ptL S n P loc' = ptL S n P loc - 1 := by
  have hg := V.gg I
  have hN := gN I.1.1
  have e1 : T 1 = S 1 := V.1.1.1
  have e7 : T 7 = S 7 := V.1.2.2.1
  obtain ⟨q, ⟨q0, q1⟩, hq⟩ := cV_ne (by omega) h
  have hq9 : q / 9 * 9 + q % 9 = q := by omega
  unfold blk at hq
  by_cases z : T 20 q ≤ 0
  · rw [if_pos z] at hq
    exact absurd rfl hq
  have he := fst_p V q0 (by omega) z
  obtain ⟨⟨hp, hs⟩, ef, hl, -⟩ := V.first q0 (by omega) he
  have hlv := live_of V L hp.1 hp.2 (by rw [hl]; omega)
  have hpt := fun x => pt_mv (loc := loc) (q := x) L hlv (by rw [hl]; omega)
  have hto := (I.2.1.1 _ hp.1 hp.2).1.2.1
  rw [if_neg z] at hq
  unfold blF at hq
  by_cases y : sin T (q / 9) (q % 9) = true
  · rw [if_pos y] at hq
    have hk : RK S n P (sdr T q) (lmv loc (sfst T q) (-1)) b := Classical.byContradiction fun w => hq (ind_n w)
    refine ⟨_, _, V.pop q0 (by omega) he, hk, ?_⟩
    have h7 := (sin_f y).2
    rw [hq9, e7] at h7
    rw [hpt, if_pos rfl, hl, h7]
    have := (gf_0 I.1.1 (v := q / 9) (t := q / 9) (by omega) (by omega) (by omega) (by omega)).mpr rfl
    omega
  · rw [if_neg y] at hq
    obtain ⟨d, ⟨d0, d1⟩, hd⟩ := cV_ne (by decide) hq
    have v0 : 0 ≤ q / 9 := by omega
    have v1 : q / 9 < T 1 3 * T 1 4 := by rw [e1]; omega
    have e9 : sfst T (q / 9 * 9 + q % 9) ≠ -1 := by rw [hq9]; exact he
    have fin : ∀ l, gp (T 1 3) (T 1 4) (q / 9) (T 7 (sfst T (q / 9 * 9 + q % 9))) d = true → ptL S n P (lmv loc (sfst T (q / 9 * 9 + q % 9)) (tgt T (q / 9) d l)) = ptL S n P loc - 1 := fun l hgp => by
      have ht := tgt_in (l := l) hg.1 v0 v1 d0 d1
      rw [hq9, e1, e7] at hgp
      have hf := gp_far I.1.1 v0 (by omega) hto.1 hto.2 d0 d1 hgp
      rw [hq9, hpt, if_neg (by omega), hl, ht.2.2, e1, hf]
      omega
    unfold goD at hd
    by_cases ya : sad T (q / 9) (q % 9) d = true ∧ go1 S n P T loc (q / 9) (q % 9) d 2 b ≠ 0
    · have hk : RK S n P (ssh T (q / 9) (q % 9) d 2) (lmv loc (sfst T (q / 9 * 9 + q % 9)) (tgt T (q / 9) d 2)) b := Classical.byContradiction fun w => ya.2 (ind_n w)
      exact ⟨_, _, V.go2 (k := q % 9) I v0 v1 (by omega) (by omega) d0 d1 e9 ya.1, hk, fin 2 (gp_of e9 (Or.inl (sad_c ya.1).2) d0)⟩
    · by_cases yb : sel T (q / 9) (q % 9) d = true ∧ go1 S n P T loc (q / 9) (q % 9) d 1 b ≠ 0
      · have hk : RK S n P (ssh T (q / 9) (q % 9) d 1) (lmv loc (sfst T (q / 9 * 9 + q % 9)) (tgt T (q / 9) d 1)) b := Classical.byContradiction fun w => yb.2 (ind_n w)
        exact ⟨_, _, V.go1 (k := q % 9) I v0 v1 (by omega) (by omega) d0 d1 e9 yb.1, hk, fin 1 (gp_of e9 (Or.inr (sel_c yb.1).2) d0)⟩
      · exfalso
        refine hd ?_
        have a1 : (if sad T (q / 9) (q % 9) d = true then go1 S n P T loc (q / 9) (q % 9) d 2 b else 0) = 0 := by
          by_cases t : sad T (q / 9) (q % 9) d = true
          · rw [if_pos t]
            exact Classical.byContradiction fun u => ya ⟨t, u⟩
          · rw [if_neg t]
        have a2 : (if sel T (q / 9) (q % 9) d = true then go1 S n P T loc (q / 9) (q % 9) d 1 b else 0) = 0 := by
          by_cases t : sel T (q / 9) (q % 9) d = true
          · rw [if_pos t]
            exact Classical.byContradiction fun u => yb ⟨t, u⟩
          · rw [if_neg t]
        rw [a1, a2]
        rfl
theorem mu_rep (h : mu S n P K b ≠ 0) : VT S (rep S n P K).1 (rep S n P K).2 ∧ RK S n P (rep S n P K).1 (rep S n P K).2 K := Classical.byContradiction fun z => h (if_neg z)
/-- what is reached is valid -/
theorem rC_ok (V : VT S T loc) (h : RK S n P T loc root) (L : LVe S n P) (I : IV S) (hr : rC (mu S n P) root K) : ∃ T' loc', VT S T' loc' ∧ RK S n P T' loc' K := by
  refine hr (fun K => ∃ T' loc', VT S T' loc' ∧ RK S n P T' loc' K) ⟨T, loc, V, h⟩ (fun a b ⟨T1, l1, V1, h1⟩ hm => ?_)
  rw [mu_eq V1 h1 L I] at hm
  obtain ⟨T2, l2, V2, h2, -⟩ := mu_st V1 L I hm
  exact ⟨T2, l2, V2, h2⟩
theorem rk_up (V : VT S T loc) (h : RK S n P T loc root) (L : LVe S n P) (I : IV S) : ∀ a b, rC (mu S n P) root a → mu S n P a b ≠ 0 → rkK S n P root b = rkK S n P root a + 1 := fun a b hr hm => by
  obtain ⟨T1, l1, V1, h1⟩ := rC_ok V h L I hr
  rw [mu_eq V1 h1 L I] at hm
  obtain ⟨T2, l2, V2, h2, hp⟩ := mu_st V1 L I hm
  have p1 := h1.pt V1 L
  have p2 := h2.pt V2 L
  unfold rkK
  omega
end SD
