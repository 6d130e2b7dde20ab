/-! schedules, the class: all steps of a state; it is weighed -/
noncomputable def blP (S : qMem) (n : Int) (P : Int → Int) (T : qMem) (loc : Int → Int) (b : List Int) (t : Int) : Int := if spo loc P n t ≠ 144 ∧ sfst T (spo loc P n t) = P t then blF S n P T loc b (spo loc P n t) else 0
def ctF (T : qMem) (q : Int) : Int := if sin T (q / 9) (q % 9) = true then 1 else cV (fun d => bi (sad T (q / 9) (q % 9) d) + bi (sel T (q / 9) (q % 9) d)) 4
def ctP (n : Int) (P : Int → Int) (T : qMem) (loc : Int → Int) (t : Int) : Int := if spo loc P n t ≠ 144 ∧ sfst T (spo loc P n t) = P t then ctF T (spo loc P n t) else 0
def mfr (T : qMem) : Nat → Int
  | 0 => 1000
  | m + 1 => if sfi T m < mfr T m then sfi T m else mfr T m
def gEnd (k : List Int) : Int := if kA k 0 = 432 ∧ kA k 1 = 432 ∧ kA k 2 = 432 then 1 else 0
section EI
variable {w w' w0 w2 S T T' U F : qMem} {loc loc' P : Int → Int} {v k d l q p i j n r x y m W H N s t a c : Int} {K K' root b : List Int} {ks k0 : Int → List Int} {ws v0 f g : Int → Int} {dn dn' : List Int → Int}
theorem cV_bd {M : Int} (h : ∀ k, 0 ≤ k → k < N → 0 ≤ f k ∧ f k ≤ M) (M0 : 0 ≤ M) (x0 : 0 ≤ x) (x1 : x ≤ N) : 0 ≤ cV f x ∧ cV f x ≤ M * x := by
  have := smN_in (f := f) (a := 0) (b := M) x.toNat (fun i hi => h i (by omega) (by omega))
  rw [show ((x.toNat : Nat) : Int) = x by omega, Int.zero_mul] at this
  exact this
theorem cV_add (x0 : 0 ≤ x) : cV (fun i => f i + g i) x = cV f x + cV g x := by
  have key : ∀ m : Nat, cV (fun i => f i + g i) m = cV f m + cV g m := by
    intro m
    induction m with
    | zero => rfl
    | succ m ih =>
      rw [show ((m + 1 : Nat) : Int) = (m : Int) + 1 by omega, cV_s (by omega), cV_s (by omega), cV_s (by omega), ih]
      omega
  have := key x.toNat
  rw [show ((x.toNat : Nat) : Int) = x by omega] at this
  exact this
theorem cV_swap {h : Int → Int → Int} (x0 : 0 ≤ x) (y0 : 0 ≤ y) : cV (fun i => cV (fun j => h i j) y) x = cV (fun j => cV (fun i => h i j) x) y := by
  have key : ∀ m : Nat, cV (fun i => cV (fun j => h i j) m) x = cV (fun j => cV (fun i => h i j) x) m := by
    intro m
    induction m with
    | zero => exact cV_0f (fun _ _ _ => rfl) x0
    | succ m ih =>
      have e : cV (fun i => cV (fun j => h i j) ((m + 1 : Nat) : Int)) x = cV (fun i => cV (fun j => h i j) m + h i m) x := cV_co x0 (fun i a b => by
        rw [show ((m + 1 : Nat) : Int) = (m : Int) + 1 by omega, cV_s (by omega)])
      rw [e, cV_add x0, ih, show ((m + 1 : Nat) : Int) = (m : Int) + 1 by omega, cV_s (by omega)]
  have := key y.toNat
  rw [show ((y.toNat : Nat) : Int) = y by omega] at this
  exact this
theorem spo_of (ht : t < n) (h : loc (P t) = q) (hq : q ≠ -1) : spo loc P n t = q := by
  unfold spo
  rw [if_pos ⟨ht, by rw [h]; exact hq⟩, h]
theorem spo_y (h : spo loc P n t ≠ 144) : t < n ∧ loc (P t) = spo loc P n t ∧ loc (P t) ≠ -1 := by
  unfold spo at h ⊢
  by_cases z : t < n ∧ loc (P t) ≠ -1
  · rw [if_pos z]
    exact ⟨z.1, rfl, z.2⟩
  · rw [if_neg z] at h
    exact absurd rfl h
/-- packet by packet or queue by queue: the same sum -/
theorem sum_pq {G : Int → Int} (V : VT S T loc) (L : LVe S n P) (I : IV S) : cV (fun t => if spo loc P n t ≠ 144 ∧ sfst T (spo loc P n t) = P t then G (spo loc P n t) else 0) n = cV (fun q => if T 20 q ≤ 0 then 0 else G q) (S 1 3 * S 1 4 * 9) := by
  have hN := gN I.1.1
  have hn := L.1
  have h1 : cV (fun q => if T 20 q ≤ 0 then 0 else G q) (S 1 3 * S 1 4 * 9) = cV (fun q => cV (fun t => if (spo loc P n t = q ∧ sfst T q = P t) then G q else 0) n) (S 1 3 * S 1 4 * 9) := cV_co (by omega) (fun q q0 q1 => by
    by_cases z : T 20 q ≤ 0
    · rw [if_pos z]
      refine (cV_0f (fun t t0 t1 => ?_) hn.1).symm
      have : sfst T q = -1 := by
        unfold sfst
        rw [if_pos z]
      have hp := (L.2.1 t t0 t1).1
      rw [if_neg (fun y => by rw [this] at y; omega)]
    · have he := fst_p V q0 (by omega) z
      obtain ⟨⟨hp, -⟩, ef, hl, -⟩ := V.first q0 (by omega) he
      obtain ⟨t, ht, et⟩ := live_of V L hp.1 hp.2 (by rw [hl]; omega)
      rw [if_neg z, cV_1 (j := t) (fun i i0 i1 e => by
        rw [if_neg (fun y => e (L.2.2.1 i t i0 i1 ht.1 ht.2 (by rw [et, y.2])))]) ht.1 ht.2]
      rw [if_pos ⟨spo_of ht.2 (by rw [et]; exact hl) (by omega), et.symm⟩])
  rw [h1, cV_swap (by omega) hn.1]
  refine cV_co hn.1 (fun t t0 t1 => ?_)
  by_cases z : spo loc P n t ≠ 144 ∧ sfst T (spo loc P n t) = P t
  · have hy := spo_y z.1
    have hp := (L.2.1 t t0 t1).1
    have hq := (V.2.1.2.1.2 (P t) hp.1 (by rw [V.1.2.1]; exact hp.2) hy.2.2).1
    rw [hy.2.1] at hq
    have h9 := (V.first hq.1 hq.2 (by rw [z.2]; omega)).2.2.2
    rw [if_pos z, cV_1 (j := spo loc P n t) (fun i i0 i1 e => by
      rw [if_neg (fun y => e y.1.symm)]) hq.1 h9]
    rw [if_pos ⟨rfl, z.2⟩]
  · rw [if_neg z]
    refine (cV_0f (fun q q0 q1 => ?_) (by omega)).symm
    rw [if_neg (fun y => z ⟨by rw [y.1]; omega, by rw [y.1]; exact y.2⟩)]
theorem blP_sum (V : VT S T loc) (L : LVe S n P) (I : IV S) : cV (blP S n P T loc b) n = muT S n P T loc b := sum_pq (G := blF S n P T loc b) V L I
theorem goD_le : goD S n P T loc v k b d ≤ bi (sad T v k d) + bi (sel T v k d) := by
  unfold goD go1
  have h1 := ind_01 (S := S) (n := n) (P := P) (T := ssh T v k d 2) (loc := lmv loc (sfst T (v * 9 + k)) (tgt T v d 2)) (b := b)
  have h2 := ind_01 (S := S) (n := n) (P := P) (T := ssh T v k d 1) (loc := lmv loc (sfst T (v * 9 + k)) (tgt T v d 1)) (b := b)
  have t1 : bi true = 1 := rfl
  have t0 : bi false = 0 := rfl
  cases sad T v k d <;> cases sel T v k d
  · rw [if_neg (by decide), if_neg (by decide), t0]; decide
  · rw [if_neg (by decide), if_pos rfl, t0, t1]; omega
  · rw [if_pos rfl, if_neg (by decide), t0, t1]; omega
  · rw [if_pos rfl, if_pos rfl, t1]; omega
theorem blF_le : blF S n P T loc b q ≤ ctF T q := by
  unfold blF ctF
  split
  · exact ind_01.2
  · exact cV_le (by decide) (fun d _ _ => goD_le)
theorem bi_01 {z : Bool} : 0 ≤ bi z ∧ bi z ≤ 1 := by
  cases z <;> decide
theorem ctF_in : 0 ≤ ctF T q ∧ ctF T q ≤ 8 := by
  unfold ctF
  split
  · decide
  · have := cV_bd (f := fun d => bi (sad T (q / 9) (q % 9) d) + bi (sel T (q / 9) (q % 9) d)) (N := 4) (M := 2) (x := 4) (fun d _ _ => by
      have h1 := bi_01 (z := sad T (q / 9) (q % 9) d)
      have h2 := bi_01 (z := sel T (q / 9) (q % 9) d)
      omega) (by decide) (by decide) (by decide)
    omega
theorem ctP_in : 0 ≤ ctP n P T loc t ∧ ctP n P T loc t ≤ 8 := by
  unfold ctP
  split
  · exact ctF_in
  · decide
theorem blP_0 : 0 ≤ blP S n P T loc b t ∧ blP S n P T loc b t ≤ ctP n P T loc t := by
  unfold blP ctP
  split
  · refine ⟨?_, blF_le⟩
    unfold blF
    split
    · exact ind_01.1
    · exact cV_ge (by decide) (fun d _ _ => goD_0)
  · exact ⟨Int.le_refl _, Int.le_refl _⟩
theorem cV_mem (h : ∀ k, 0 ≤ k → k < x → 0 ≤ f k) (i0 : 0 ≤ i) (i1 : i < x) : f i ≤ cV f x := by
  have h1 := cV_u (f := f) (g := fun k => if k = i then 0 else f k) (p := i) (v := 0) (x := x) i0 i1 (fun k => rfl)
  have h2 := cV_ge (f := fun k => if k = i then 0 else f k) (x := x) (by omega) (fun k a c => by
    split
    · exact Int.le_refl _
    · exact h k a c)
  omega
/-- no step: nothing is reached -/
theorem ct_0 (V : VT S T loc) (L : LVe S n P) (I : IV S) : cV (ctP n P T loc) n = 0 ↔ ∀ b, muT S n P T loc b = 0 := by
  have hn := L.1
  refine ⟨fun h b => ?_, fun h => Classical.byContradiction fun z => ?_⟩
  · rw [← blP_sum V L I]
    have h1 := cV_le (f := blP S n P T loc b) (g := ctP n P T loc) hn.1 (fun t _ _ => blP_0.2)
    have h2 := cV_ge (f := blP S n P T loc b) hn.1 (fun t _ _ => blP_0.1)
    omega
  · obtain ⟨t, ⟨t0, t1⟩, ht⟩ := cV_ne hn.1 z
    have hN := gN I.1.1
    have e1 : T 1 = S 1 := V.1.1.1
    have fin : ∀ b, 1 ≤ blP S n P T loc b t → False := fun b hb => by
      have := h b
      rw [← blP_sum V L I] at this
      have h2 := cV_mem (f := blP S n P T loc b) (x := n) (i := t) (fun k _ _ => blP_0.1) t0 t1
      omega
    unfold ctP at ht
    by_cases y : spo loc P n t ≠ 144 ∧ sfst T (spo loc P n t) = P t
    · rw [if_pos y] at ht
      have hy := spo_y y.1
      have hp := (L.2.1 t t0 t1).1
      have hq := (V.2.1.2.1.2 (P t) hp.1 (by rw [V.1.2.1]; exact hp.2) hy.2.2).1
      rw [hy.2.1] at hq
      have he : sfst T (spo loc P n t) ≠ -1 := by rw [y.2]; omega
      have h9 := (V.first hq.1 hq.2 he).2.2.2
      have fin1 : ∀ b, 1 ≤ blF S n P T loc b (spo loc P n t) → False := fun b hb => fin b (by
        unfold blP
        rw [if_pos y]
        exact hb)
      clear fin
      generalize spo loc P n t = q at *
      have hq9 : q / 9 * 9 + q % 9 = q := by omega
      unfold ctF at ht
      by_cases u : sin T (q / 9) (q % 9) = true
      · have fin : ∀ b, 1 ≤ ind S n P (sdr T q) (lmv loc (sfst T q) (-1)) b → False := fun b hb => fin1 b (by
          unfold blF
          rw [if_pos u]
          exact hb)
        obtain ⟨K', hK'⟩ := RK.ex (V.pop hq.1 hq.2 he) L
        exact fin K' (by rw [ind_y hK']; decide)
      · rw [if_neg u] at ht
        have fin : ∀ b, 1 ≤ cV (goD S n P T loc (q / 9) (q % 9) b) 4 → False := fun b hb => fin1 b (by
          unfold blF
          rw [if_neg u]
          exact hb)
        obtain ⟨d, ⟨d0, d1⟩, hd⟩ := cV_ne (by decide) ht
        have e9 : sfst T (q / 9 * 9 + q % 9) ≠ -1 := by rw [hq9]; exact he
        have v1 : q / 9 < T 1 3 * T 1 4 := by rw [e1]; omega
        have pos : ∀ b, 1 ≤ goD S n P T loc (q / 9) (q % 9) b d → False := fun b hb => fin b (by
          have := cV_mem (f := goD S n P T loc (q / 9) (q % 9) b) (x := 4) (i := d) (fun k _ _ => goD_0) d0 d1
          omega)
        have n2 : ∀ b, 0 ≤ (if sad T (q / 9) (q % 9) d = true then go1 S n P T loc (q / 9) (q % 9) d 2 b else 0) := fun b => by
          split
          · exact ind_01.1
          · exact Int.le_refl _
        have n1 : ∀ b, 0 ≤ (if sel T (q / 9) (q % 9) d = true then go1 S n P T loc (q / 9) (q % 9) d 1 b else 0) := fun b => by
          split
          · exact ind_01.1
          · exact Int.le_refl _
        by_cases a2 : sad T (q / 9) (q % 9) d = true
        · obtain ⟨K', hK'⟩ := RK.ex (V.go2 (k := q % 9) I (by omega) v1 (by omega) (by omega) d0 d1 e9 a2) L
          refine pos K' ?_
          have := n1 K'
          unfold goD
          rw [if_pos a2]
          unfold go1 at *
          rw [ind_y hK']
          omega
        · by_cases a1 : sel T (q / 9) (q % 9) d = true
          · obtain ⟨K', hK'⟩ := RK.ex (V.go1 (k := q % 9) I (by omega) v1 (by omega) (by omega) d0 d1 e9 a1) L
            refine pos K' ?_
            have := n2 K'
            unfold goD
            rw [if_pos a1]
            unfold go1 at *
            rw [ind_y hK']
            omega
          · rw [Bool.eq_false_iff.mpr a2, Bool.eq_false_iff.mpr a1] at hd
            exact hd rfl
    · rw [if_neg y] at ht
      exact ht rfl
/-- one direction of a packet -/
theorem e_try (hE : xEX S n P root s k0 v0 T loc w0 dn c w) (RT : RK S n P T loc (k0 s)) (V0 : VT S S (lof S)) (R0 : RK S n P S (lof S) root) (L : LVe S n P) (I : IV S) (hd : ∀ b, 0 ≤ dn b) (c0 : 0 ≤ c) (c1 : c < 900) (j0 : 0 ≤ j) (j1 : j < n) (d0 : 0 ≤ d) (d1 : d < 4) (hq : spo loc P n j = q) (hq4 : q ≠ 144) (hf : sfst T q = P j) (hin : sin T (q / 9) (q % 9) = false) : kT (f_S_tryBy 37 s j d w) (xEX S n P root s k0 v0 T loc w0 (fun b => dn b + goD S n P T loc (q / 9) (q % 9) b d) (c + (bi (sad T (q / 9) (q % 9) d) + bi (sel T (q / 9) (q % 9) d)))) := by
  have hn := L.1
  have V := hE.1.1.2.1
  have hg := V.gg I
  have hNT := gN hg.1
  have hN := gN I.1.1
  have e1 : T 1 = S 1 := V.1.1.1
  have hy := spo_y (by rw [hq]; exact hq4 : spo loc P n j ≠ 144)
  rw [hq] at hy
  have hp := (L.2.1 j j0 j1).1
  have hqr := (V.2.1.2.1.2 (P j) hp.1 (by rw [V.1.2.1]; exact hp.2) hy.2.2).1
  rw [hy.2.1] at hqr
  have h9 := (V.first hqr.1 hqr.2 (by rw [hf]; omega)).2.2.2
  have hq9 : q / 9 * 9 + q % 9 = q := by omega
  have v0' : 0 ≤ q / 9 := by omega
  have v1 : q / 9 < T 1 3 * T 1 4 := by rw [e1]; omega
  have k0' : 0 ≤ q % 9 := by omega
  have k1 : q % 9 < 9 := by omega
  have hf' : sfst T (q / 9 * 9 + q % 9) = P j := by rw [hq9]; exact hf
  have hl' : loc (P j) = q / 9 * 9 + q % 9 := by rw [hq9]; exact hy.2.1
  generalize q / 9 = v at *
  generalize q % 9 = k at *
  have hgn := gn_in hg.1 v0' v1 d0 d1
  have t1 : bi true = 1 := rfl
  have t0 : bi false = 0 := rfl
  have h76 : ∀ (dn : List Int → Int) (c : Int) (w : qMem), xEX S n P root s k0 v0 T loc w0 dn c w → (∀ b, 0 ≤ dn b) → 0 ≤ c → c < 1000 → kT (f_S_tryBy_76 37 s j d v k (gn (T 1 3) (T 1 4) v d * 9 + d) w) (xEX S n P root s k0 v0 T loc w0 (fun b => dn b + (if sel T v k d = true then go1 S n P T loc v k d 1 b else 0)) (c + bi (sel T v k d))) := by
    intro dn c w hE hd c0 c1
    unfold f_S_tryBy_76
    refine kT_eq (n_escapeLets hE.1.1.1 (V.iw I) v0' v1 k0' k1 d0 d1) ?_
    dsimp only
    cases hb : sel T v k d with
    | false =>
      rw [if_bf, t0, Int.add_zero]
      exact kT_some (hE.cg (fun b => by rw [if_neg (by decide), Int.add_zero]))
    | true =>
      rw [if_bt, w32_ok (z := gn (T 1 3) (T 1 4) v d * 9 + d + 1) (by omega) (by omega), t1]
      exact e_move (l := 1) (y := gn (T 1 3) (T 1 4) v d * 9 + d + 1) hE RT V0 R0 L I hd c0 c1 j0 j1 v0' v1 k0' k1 d0 d1 hf' hl' hin (Or.inr ⟨rfl, hb⟩) (by unfold tgt; rw [if_pos rfl]; omega) (fun w4 h4 => kT_some (h4.cg (fun b => by rw [if_pos rfl])))
  have e78 : w 78 j = v * 9 + k := by
    rw [hE.1.2.2 j j0 (by omega), hq]
    exact hq9.symm
  have hG : RG 38 w (T 1 3) (T 1 4) := hE.1.1.1.2
  unfold f_S_tryBy
  rw [qld_ok j0 (by omega), qdv_ok (by decide), qld_ok j0 (by omega), qdv_ok (by decide), e78, jdiv_ok (by omega) (by omega) (by decide) (by decide), jrem_ok (by omega) (by omega) (by decide) (by decide), show (v * 9 + k) / 9 = v by omega, show (v * 9 + k) % 9 = k by omega]
  refine kT_eq (g_nextBy (o := 37 + 1) hG hg.1 v0' v1 d0 d1) ?_
  refine kT_eq (n_adaptiveLets hE.1.1.1 (V.iw I) v0' v1 k0' k1 d0 d1) ?_
  dsimp only
  rw [w32_ok (z := gn (T 1 3) (T 1 4) v d * 9) (by omega) (by omega), w32_ok (z := gn (T 1 3) (T 1 4) v d * 9 + d) (by omega) (by omega)]
  cases hb : sad T v k d with
  | false =>
    rw [if_bf, t0, Int.zero_add]
    refine kT_mono (h76 dn c w hE hd c0 (by omega)) (fun w4 h4 => h4.cg (fun b => ?_))
    unfold goD
    rw [hb, if_neg (show ¬ (false = true) by decide), Int.zero_add]
  | true =>
    rw [if_bt, w32_ok (z := gn (T 1 3) (T 1 4) v d * 9 + d + 5) (by omega) (by omega), t1]
    refine e_move (l := 2) (y := gn (T 1 3) (T 1 4) v d * 9 + d + 5) hE RT V0 R0 L I hd c0 (by omega) j0 j1 v0' v1 k0' k1 d0 d1 hf' hl' hin (Or.inl ⟨rfl, hb⟩) (by unfold tgt; rw [if_neg (by decide)]; omega) (fun w4 h4 => ?_)
    have hd2 : ∀ b, 0 ≤ dn b + go1 S n P T loc v k d 2 b := fun b => by
      have := hd b
      have := ind_01 (S := S) (n := n) (P := P) (T := ssh T v k d 2) (loc := lmv loc (sfst T (v * 9 + k)) (tgt T v d 2)) (b := b)
      unfold go1
      omega
    have h5 := h76 _ _ w4 h4 hd2 (by omega) (by omega)
    rw [show c + 1 + bi (sel T v k d) = c + (1 + bi (sel T v k d)) by omega] at h5
    refine kT_mono h5 (fun w5 h5 => h5.cg (fun b => ?_))
    unfold goD
    rw [hb, if_pos rfl, Int.add_assoc]
theorem e_extend (hC : cCur S n P T loc w) (hT : xTB S n P root s k0 v0 (fun _ => 0) w) (h75 : w 75 s = cdK (S 1 3) (S 1 4) (k0 s)) (RT : RK S n P T loc (k0 s)) (V0 : VT S S (lof S)) (R0 : RK S n P S (lof S) root) (L : LVe S n P) (I : IV S) : kT (f_S_extend 37 s w) (xEX S n P root s k0 v0 T loc w (fun b => mu S n P (k0 s) b) (cV (ctP n P T loc) n)) := by
  have hn := L.1
  have V := hC.1.2.1
  have hN := gN I.1.1
  have e1 : T 1 = S 1 := V.1.1.1
  unfold f_S_extend
  rw [qlt_ok]
  have h0 : xEX S n P root s k0 v0 T loc w (fun b => cV (blP S n P T loc b) 0) (cV (ctP n P T loc) 0) (qud w 74 8 0) := by
    refine ⟨hC.fr (fun k a b => by rw [qud_row (by omega)]) (by rw [qud_ni (by decide)]) (by rw [qud_row (by decide)]) (by rw [qud_row (by decide)]), ?_, ⟨qud_s, by rw [qud_row (by decide)]; exact h75⟩, fun k _ b _ _ _ _ => by rw [qud_row b]⟩
    unfold xTB at hT ⊢
    rw [qud_ni (by decide), qud_ni (by decide), qud_row (by decide), qud_row (by decide)]
    exact hT
  refine kD_loop (σ := Unit) (N := n) (L := fun m x _ w => f_S_extend_7 37 m s x w) (J := fun x _ w' => xEX S n P root s k0 v0 T loc w (fun b => cV (blP S n P T loc b) x) (cV (ctP n P T loc) x) w') (fun m x _ w2 x0 x1 hJ ih => ?_) (fun m _ w2 hJ => ?_) (by omega) (by omega) () h0
  · have e6 : w2 74 6 = n := hJ.1.2.1.1
    have e77 : w2 77 x = P x := hJ.1.2.1.2 x x0 x1
    have e78 : w2 78 x = spo loc P n x := hJ.1.2.2 x x0 (by omega)
    have hc := cV_bd (f := ctP n P T loc) (N := n) (M := 8) (x := x) (fun _ _ _ => ctP_in) (by decide) x0 (by omega)
    have nxt : ∀ w3, xEX S n P root s k0 v0 T loc w (fun b => cV (blP S n P T loc b) x + blP S n P T loc b x) (cV (ctP n P T loc) x + ctP n P T loc x) w3 → kT (f_S_extend_7 37 m s (x + 1) w3) (xEX S n P root s k0 v0 T loc w (fun b => mu S n P (k0 s) b) (cV (ctP n P T loc) n)) := fun w3 h3 => ih () w3 (by
      rw [cV_s x0]
      exact h3.cg (fun b => by rw [cV_s x0]))
    have skip : ¬ (spo loc P n x ≠ 144 ∧ sfst T (spo loc P n x) = P x) → kT (f_S_extend_7 37 m s (x + 1) w2) (xEX S n P root s k0 v0 T loc w (fun b => mu S n P (k0 s) b) (cV (ctP n P T loc) n)) := fun z => nxt w2 (by
      have e2 : ctP n P T loc x = 0 := if_neg z
      rw [e2, Int.add_zero]
      exact hJ.cg (fun b => by
        have : blP S n P T loc b x = 0 := if_neg z
        rw [this, Int.add_zero]))
    rw [f_S_extend_7, e6, if_pos x1, qld_ok x0 (by omega), w32_ok (z := x + 1) (by omega) (by omega), e78]
    refine kT_if (fun z => skip (fun y => y.1 z)) (fun z => ?_)
    have hy := spo_y z
    have hp := (L.2.1 x x0 x1).1
    have hqr := (V.2.1.2.1.2 (P x) hp.1 (by rw [V.1.2.1]; exact hp.2) hy.2.2).1
    rw [hy.2.1] at hqr
    refine kT_eq (n_first (o := 37) hJ.1.1.1.1 hqr.1 hqr.2) ?_
    dsimp only
    rw [qld_ok x0 (by omega), e77]
    refine kT_if (fun y => ?_) (fun y => skip (fun u => y u.2))
    have he : sfst T (spo loc P n x) ≠ -1 := by rw [y]; omega
    have h9 := (V.first hqr.1 hqr.2 he).2.2.2
    rw [qdv_ok (by decide), qdv_ok (by decide), jdiv_ok hqr.1 (by omega) (by decide) (by decide), jrem_ok hqr.1 (by omega) (by decide) (by decide)]
    refine kT_eq (n_isInTo hJ.1.1.1 (V.iw I) (by omega) (by rw [e1]; omega) (by omega) (by omega)) ?_
    dsimp only
    rw [bi_ii]
    have eb : ∀ b, blP S n P T loc b x = blF S n P T loc b (spo loc P n x) := fun b => if_pos ⟨z, y⟩
    have ec : ctP n P T loc x = ctF T (spo loc P n x) := if_pos ⟨z, y⟩
    refine kT_if (fun u => ?_) (fun u => ?_)
    · have Vp := V.pop hqr.1 hqr.2 he
      obtain ⟨K', hK'⟩ := RK.ex Vp L
      have hin : ∀ b, blF S n P T loc b (spo loc P n x) = if b = K' then 1 else 0 := fun b => by
        unfold blF
        rw [if_pos u]
        exact ind_k hK' Vp L
      have hc1 : ctF T (spo loc P n x) = 1 := if_pos u
      have hm : mu S n P (k0 s) K' ≠ 0 := by
        rw [mu_eq V RT L I, ← blP_sum V L I]
        have h2 := cV_mem (f := blP S n P T loc K') (x := n) (i := x) (fun k _ _ => blP_0.1) x0 x1
        rw [eb, hin, if_pos rfl] at h2
        omega
      refine kT_bind (n_dropFirst hJ.1.1.1 hqr.1 hqr.2 (V.h6 I _ hqr.1 hqr.2).1 (V.h6 I _ hqr.1 hqr.2).2) (fun w3 h3 => ?_)
      rw [y] at Vp hK'
      refine kT_bind (e_close (q := -1) (y := 144) hJ h3.1 (F37.fn h3.2) Vp (fun f a b c => by rw [sdr_f a b]; exact hJ.1.1.2.2 f a b c) x0 x1 hy.2.2 hK' RT V0 R0 L I (fun b => cV_ge x0 (fun t _ _ => blP_0.1)) hm hc.1 (by omega) (by rw [if_pos rfl])) (fun w4 h4 => nxt w4 ?_)
      rw [ec, hc1]
      exact h4.cg (fun b => by rw [eb, hin])
    · have hJ0 : xEX S n P root s k0 v0 T loc w (fun b => cV (blP S n P T loc b) x + cV (fun d => goD S n P T loc (spo loc P n x / 9) (spo loc P n x % 9) b d) 0) (cV (ctP n P T loc) x + cV (fun d => bi (sad T (spo loc P n x / 9) (spo loc P n x % 9) d) + bi (sel T (spo loc P n x / 9) (spo loc P n x % 9) d)) 0) w2 := by
        have h1 := hJ.cg (dn' := fun b => cV (blP S n P T loc b) x + cV (fun d => goD S n P T loc (spo loc P n x / 9) (spo loc P n x % 9) b d) 0) (fun b => by
          show cV (blP S n P T loc b) x + (0 : Int) = _
          rw [Int.add_zero])
        have h2 : cV (ctP n P T loc) x + cV (fun d => bi (sad T (spo loc P n x / 9) (spo loc P n x % 9) d) + bi (sel T (spo loc P n x / 9) (spo loc P n x % 9) d)) 0 = cV (ctP n P T loc) x := Int.add_zero _
        rw [h2]
        exact h1
      refine kD_loop (σ := Unit) (N := 4) (L := fun m' y _ w => f_S_extend_94 37 (f_S_extend_7 37 m) m' s x y w) (J := fun d _ w' => xEX S n P root s k0 v0 T loc w (fun b => cV (blP S n P T loc b) x + cV (fun d => goD S n P T loc (spo loc P n x / 9) (spo loc P n x % 9) b d) d) (cV (ctP n P T loc) x + cV (fun d => bi (sad T (spo loc P n x / 9) (spo loc P n x % 9) d) + bi (sel T (spo loc P n x / 9) (spo loc P n x % 9) d)) d) w') (fun m' d _ w3 d0 d1 hJ3 ih' => ?_) (fun m' _ w3 hJ3 => ?_) (by decide) (by decide) () hJ0
      · have hcd := cV_bd (f := fun d => bi (sad T (spo loc P n x / 9) (spo loc P n x % 9) d) + bi (sel T (spo loc P n x / 9) (spo loc P n x % 9) d)) (N := 4) (M := 2) (x := d) (fun d _ _ => by
          have h1 := bi_01 (z := sad T (spo loc P n x / 9) (spo loc P n x % 9) d)
          have h2 := bi_01 (z := sel T (spo loc P n x / 9) (spo loc P n x % 9) d)
          omega) (by decide) d0 (by omega)
        rw [f_S_extend_94, if_pos d1, w32_ok (z := d + 1) (by omega) (by omega)]
        refine kT_bind (e_try hJ3 RT V0 R0 L I (fun b => by
          have h1 := cV_ge (f := blP S n P T loc b) (x := x) x0 (fun t _ _ => blP_0.1)
          have h2 := cV_ge (f := fun d => goD S n P T loc (spo loc P n x / 9) (spo loc P n x % 9) b d) (x := d) d0 (fun t _ _ => goD_0)
          omega) (by omega) (by omega) x0 x1 d0 d1 rfl z y (Bool.eq_false_iff.mpr u)) (fun w4 h4 => ih' () w4 ?_)
        rw [cV_s d0, ← Int.add_assoc]
        exact h4.cg (fun b => by rw [cV_s d0, Int.add_assoc])
      · rw [f_S_extend_94, if_neg (by decide), w32_ok (z := x + 1) (by omega) (by omega)]
        have hc1 : ctF T (spo loc P n x) = cV (fun d => bi (sad T (spo loc P n x / 9) (spo loc P n x % 9) d) + bi (sel T (spo loc P n x / 9) (spo loc P n x % 9) d)) 4 := if_neg u
        refine nxt w3 ?_
        rw [ec, hc1]
        exact hJ3.cg (fun b => by
          have : blF S n P T loc b (spo loc P n x) = cV (fun d => goD S n P T loc (spo loc P n x / 9) (spo loc P n x % 9) b d) 4 := if_neg u
          rw [eb, this])
  · have e6 : w2 74 6 = n := hJ.1.2.1.1
    rw [f_S_extend_7, e6, if_neg (by omega)]
    exact kT_some (hJ.cg (fun b => by rw [mu_eq V RT L I, blP_sum V L I]))
end EI
