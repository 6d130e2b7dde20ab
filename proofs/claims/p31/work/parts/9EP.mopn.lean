/-! schedules, the reference: a state is brought back -/
def wr (T : qMem) (a b c : Int → Int) : qMem := fun f => if f = 9 then a else if f = 10 then b else if f = 11 then c else T f
def up1 (a : Int → Int) (p v : Int) : Int → Int := fun i => if i = p then v else a i
def zr (U : qMem) (x : Int) : qMem := fun f i => if f = 20 ∧ 0 ≤ i ∧ i < x then 0 else U f i
/-- the queues of T, all else of U -/
def tU (T U : qMem) : qMem := fun f => if f = 20 ∨ f = 21 then T f else U f
/-- the first x rings are set -/
def rU (U : qMem) (e : Int → Int) (x : Int) : qMem := fun f i => if f = 25 ∧ 0 ≤ i ∧ i < x then e i else U f i
/-- lanes of those that are put by now -/
def plP (n : Int) (P : Int → Int) (K : List Int) (x y : Int) (a c : Int → Int) : Prop := ∀ j, 0 ≤ j → j < n → kA K j ≠ 432 → (kA K j % 3 < x ∨ (kA K j % 3 = x ∧ j < y)) → a (P j) = lkd (kA K j / 3 % 9) ∧ c (P j) = ldr (kA K j / 3 % 9)
/-- the state T stands in the row -/
def mCu (S : qMem) (n : Int) (P dc : Int → Int) (T : qMem) (loc : Int → Int) (w : qMem) : Prop := ∃ U, mMem S U loc n P dc w ∧ mPl S U loc ∧ TQ T U ∧ U 20 = T 20
section EP
variable {w w' w0 w2 S T T' U F G : qMem} {loc loc' locU P dc e : Int → Int} {v k d l q p i j n r x y m W H N s t : Int} {a b c : Int → Int} {K K' root : List Int} {f : Nat}
theorem wr_f (h9 : f ≠ 9) (h10 : f ≠ 10) (h11 : f ≠ 11) : wr T a b c f = T f := by
  unfold wr
  rw [if_neg h9, if_neg h10, if_neg h11]
theorem wr_9 : wr T a b c 9 = a := rfl
theorem wr_10 : wr T a b c 10 = b := rfl
theorem wr_11 : wr T a b c 11 = c := rfl
theorem wr_u9 : qud (wr G a b c) 9 p l = wr G (up1 a p l) b c := by
  funext f i
  by_cases h : f = 9
  · rw [h, qud_if]; rfl
  · rw [qud_nk h]
    unfold wr
    rw [if_neg h, if_neg h]
theorem wr_u10 : qud (wr G a b c) 10 p l = wr G a (up1 b p l) c := by
  funext f i
  by_cases h : f = 10
  · rw [h, qud_if]; rfl
  · rw [qud_nk h]
    unfold wr
    by_cases z : f = 9
    · rw [if_pos z, if_pos z]
    · rw [if_neg z, if_neg z, if_neg h, if_neg h]
theorem wr_u11 : qud (wr G a b c) 11 p l = wr G a b (up1 c p l) := by
  funext f i
  by_cases h : f = 11
  · rw [h, qud_if]; rfl
  · rw [qud_nk h]
    unfold wr
    by_cases z : f = 9
    · rw [if_pos z, if_pos z]
    · rw [if_neg z, if_neg z]
      by_cases y : f = 10
      · rw [if_pos y, if_pos y]
      · rw [if_neg y, if_neg y, if_neg h, if_neg h]
theorem spu_wr : spu (wr G a b c) q p = wr (spu G q p) a b c := by
  have e20 : wr G a b c 20 = G 20 := wr_f (by decide) (by decide) (by decide)
  unfold spu
  rw [e20]
  by_cases z : G 20 q < 6
  · rw [if_pos z, if_pos z]
    funext f i
    by_cases h20 : f = 20
    · rw [h20, qud_if, wr_f (by decide) (by decide) (by decide), qud_if, qud_row (show (20 : Nat) ≠ 21 by decide), e20, qud_row (show (20 : Nat) ≠ 21 by decide)]
    · rw [qud_nk h20]
      by_cases h21 : f = 21
      · rw [h21, qud_if, wr_f (by decide) (by decide) (by decide), wr_f (by decide) (by decide) (by decide), qud_row (show (21 : Nat) ≠ 20 by decide), qud_if]
      · rw [qud_nk h21]
        unfold wr
        rw [qud_row h20, qud_row h21]
  · rw [if_neg z, if_neg z]
theorem zr_s (x0 : 0 ≤ x) : zr U (x + 1) = qud (zr U x) 20 x 0 := by
  funext f i
  by_cases h : f = 20
  · rw [h, qud_if]
    unfold zr
    by_cases z : i = x
    · rw [if_pos z, if_pos ⟨rfl, by omega, by omega⟩]
    · rw [if_neg z]
      by_cases y : 0 ≤ i ∧ i < x
      · rw [if_pos ⟨rfl, y.1, by omega⟩, if_pos ⟨rfl, y⟩]
      · rw [if_neg (fun u => y ⟨u.2.1, by have := u.2.2; omega⟩), if_neg (fun u => y u.2)]
  · rw [qud_nk h]
    unfold zr
    rw [if_neg (fun u => h u.1), if_neg (fun u => h u.1)]
theorem zr_f (h : f ≠ 20) : zr U x f = U f := by
  funext i
  exact if_neg (fun u => h u.1)
theorem RM.z20 (h : RM w (zr U x)) (x0 : 0 ≤ x) (x1 : x < 144) : RM (qud w 89 (4266 + 7 * x) 0) (zr U (x + 1)) := by
  rw [zr_s x0]
  refine RM.up (f := 20) (n := x) h (by unfold vv; omega) (fun f' n' hl => ?_)
  obtain ⟨l0, l1, l2, l3, l4, l5⟩ := hl
  simp only [qud_nk (show (5 : Nat) ≠ 20 by decide), qud_nk (show (1 : Nat) ≠ 20 by decide), qud_nk (show (22 : Nat) ≠ 20 by decide), qud_nk (show (12 : Nat) ≠ 20 by decide), qud_if] at l1 l2 l3 l4 l5
  refine Or.inr ⟨l0, l1, l2, fun hf => ?_, l4, l5⟩
  have := l3 hf
  by_cases z : n' / 6 = x
  · rw [if_pos z] at this
    omega
  · rw [if_neg z] at this
    exact this
theorem rU_s (x0 : 0 ≤ x) : rU U e (x + 1) = qud (rU U e x) 25 x (e x) := by
  funext f i
  by_cases h : f = 25
  · rw [h, qud_if]
    unfold rU
    by_cases z : i = x
    · rw [if_pos z, if_pos ⟨rfl, by omega, by omega⟩, z]
    · rw [if_neg z]
      by_cases y : 0 ≤ i ∧ i < x
      · rw [if_pos ⟨rfl, y.1, by omega⟩, if_pos ⟨rfl, y⟩]
      · rw [if_neg (fun u => y ⟨u.2.1, by have := u.2.2; omega⟩), if_neg (fun u => y u.2)]
  · rw [qud_nk h]
    unfold rU
    rw [if_neg (fun u => h u.1), if_neg (fun u => h u.1)]
theorem rU_f (h : f ≠ 25) : rU U e x f = U f := by
  funext i
  exact if_neg (fun u => h u.1)
theorem rU_25 : rU U e x 25 i = if 0 ≤ i ∧ i < x then e i else U 25 i := by
  unfold rU
  by_cases z : 0 ≤ i ∧ i < x
  · rw [if_pos ⟨rfl, z⟩, if_pos z]
  · rw [if_neg (fun u => z u.2), if_neg z]
theorem rU_0 : rU U e 0 = U := by
  funext f i
  exact if_neg (fun u => by omega)
theorem tU_f (h20 : f ≠ 20) (h21 : f ≠ 21) : tU T U f = U f := by
  unfold tU
  rw [if_neg (by omega)]
theorem tU_q (h : f = 20 ∨ f = 21) : tU T U f = T f := if_pos h
/-- a state of which the rows that count are known -/
theorem VT.rw8 (V : VT S T loc) (V' : VT S U locU) (e1 : F 1 = U 1) (e0 : F 0 = U 0) (e5 : F 5 = U 5) (e7 : F 7 = U 7) (e22 : F 22 = U 22) (e20 : F 20 = T 20) (e21 : F 21 = T 21) (hH : HO F) : VT S F loc := by
  obtain ⟨⟨⟨a1, a0⟩, a5, a7, a22⟩, -⟩ := V'
  obtain ⟨⟨⟨b1, b0⟩, b5, -⟩, ⟨hq, hi, hl⟩, -⟩ := V
  refine ⟨⟨⟨by rw [e1, a1], fun j hj => by rw [e0, a0 j hj]⟩, by rw [e5, a5], by rw [e7, a7], by rw [e22, a22]⟩, ⟨?_, hi.co (by rw [e5, a5, b5]) e20 e21 (fun _ _ _ => rfl), hl⟩, hH⟩
  exact hq.co (by rw [e1, a1, b1]) (fun j hj => by rw [e0, a0 j hj, b0 j hj]) e20
/-- the queues are filled again -/
theorem m_fillV (V : VT S T loc) (V' : VT S U locU) (R : RK S n P T loc K) (L : LVe S n P) (I : IV S) (hRw : mRw S U) (hr : mRec S dc w s K) (s0 : 0 ≤ s) (s1 : s ≤ 400) (hL : mLi n P w) (hR : RM w0 (wr (gF (tU T U) P 0 0) (U 9) (U 10) (U 11))) (hF : FM w w0) (KK : ∀ w' a b c, RM w' (wr (tU T U) a b c) → plP n P K 3 0 a c → FM w w' → kT (f_M_opensState_216 (19 * s) w') (fun w' => mCu S n P dc T loc w' ∧ FM w w')) : kT (f_M_opensState_49 (19 * s) w0) (fun w' => mCu S n P dc T loc w' ∧ FM w w') := by
  have hn := L.1
  have hN := gN I.1.1
  have hc := I.1.2.2.2.2.2.2.1.2
  have q20 : tU T U 20 = T 20 := tU_q (Or.inl rfl)
  have q21 : tU T U 21 = T 21 := tU_q (Or.inr rfl)
  have e5 : U 5 13 = S 5 13 := by rw [V'.1.2.1]
  have V2 : VT S (tU T U) loc := by
    refine V.rw8 V' (tU_f (by decide) (by decide)) (tU_f (by decide) (by decide)) (tU_f (by decide) (by decide)) (tU_f (by decide) (by decide)) (tU_f (by decide) (by decide)) q20 q21 ?_
    exact V'.2.2.co (tU_f (by decide) (by decide)) (tU_f (by decide) (by decide))
  have hq3 : ∀ q, 0 ≤ q → q < 144 → 0 ≤ T 20 q ∧ T 20 q ≤ 3 := fun q a b => by
    have := V.n3 L a b
    have := (V.h6 I q a b).1
    omega
  unfold f_M_opensState_49
  refine kD_loop (σ := Unit) (N := 3) (L := fun m x _ v => f_M_opensState_51 m (19 * s) x v) (J := fun x _ v => ∃ a b c, RM v (wr (gF (tU T U) P x 0) a b c) ∧ plP n P K x 0 a c ∧ FM w v) (fun m x _ v x0 x1 hv ih => ?_) (fun m _ v hv => ?_) (by omega) (by omega) () ⟨U 9, U 10, U 11, hR, fun j j0 j1 hk z => by exfalso; rcases R.at V L j0 (show j < 3 by omega) with ⟨-, u⟩ | ⟨⟨-, -, u, -⟩, i, i1, -, i3⟩ <;> omega, hF⟩
  · rw [f_M_opensState_51, if_pos x1]
    refine kD_loop (σ := Unit) (N := n) (L := fun m' y _ v => f_M_opensState_59 (f_M_opensState_51 m) m' (19 * s) x y v) (J := fun y _ v => ∃ a b c, RM v (wr (gF (tU T U) P x y) a b c) ∧ plP n P K x y a c ∧ FM w v) (fun m' y _ v y0 y1 hv ih' => ?_) (fun m' _ v hv => ?_) hn.1 (by omega) () hv
    · obtain ⟨a, b, c, hv1, hv2, hv3⟩ := hv
      have e88 : v 88 = w 88 := hv3 88 (by decide)
      have e92 : v 92 = w 92 := hv3 92 (by decide)
      have e94 : v 94 y = P y := by rw [hv3 94 (by decide)]; exact hL.2 y y0 y1
      have ey : w 92 (19 * s + y) = kA K y := by rw [hr y y0 (by omega), rcv_3 I (by omega)]
      have hp := (L.2.1 y y0 y1).1
      have hat := R.at V L y0 (show y < 3 by omega)
      have hloc : ∀ q, 0 ≤ q → q < 144 → x < T 20 q → T 21 (q * 6 + x) = P y → spo loc P n y = q := fun q q0 q1 z e => by
        have := (V.2.1.2.1.1 q x q0 q1 x0 z).2.1
        rw [e] at this
        exact spo_of y1 this (by omega)
      rw [f_M_opensState_59, e88, hL.1, if_pos y1, w32_ok (z := 19 * s + y) (by omega) (by omega), qld_ok (by omega) (by omega), w32_ok (z := y + 1) (by omega) (by omega), e92, ey]
      have skip : (kA K y = 432 ∨ kA K y % 3 ≠ x) → kT (f_M_opensState_59 (f_M_opensState_51 m) m' (19 * s) x (y + 1) v) (fun w' => mCu S n P dc T loc w' ∧ FM w w') := fun hs => by
        refine ih' () v ⟨a, b, c, ?_, fun j j0 j1 hk z => hv2 j j0 j1 hk ?_, hv3⟩
        · rw [gF_skip V2 L x0 y0 (fun q q0 q1 z e _ => ?_)]
          · exact hv1
          · rw [q20] at z
            rw [q21] at e
            have hl := hloc q q0 q1 z e
            rcases hat with ⟨u, -⟩ | ⟨⟨-, -, c0, -⟩, i, i1, i2, i3⟩
            · omega
            · rw [hl] at i1 i2 i3
              have h3 := hq3 q q0 q1
              rcases Int.lt_trichotomy i x with t | t | t
              · exact (V.2.1.2.1.1 q x q0 q1 x0 z).2.2 i i1.1 t (by rw [i2, e])
              · omega
              · exact (V.2.1.2.1.1 q i q0 q1 i1.1 i1.2.2).2.2 x x0 t (by rw [i2, e])
        · by_cases ej : j = y
          · rw [ej] at hk z ⊢
            rcases hs with u | u
            · exact absurd u hk
            · omega
          · omega
      refine kT_if (fun c1 => skip (Or.inl c1)) (fun c1 => ?_)
      rcases hat with ⟨-, u⟩ | ⟨⟨-, hl, q0, q1⟩, i, i1, i2, i3⟩
      · exact absurd u c1
      generalize hQ : spo loc P n y = q at *
      have h3 := hq3 q q0 (by omega)
      have k0 : 0 ≤ kA K y := by omega
      rw [qdv_ok (by decide), jrem_ok k0 (by omega) (by decide) (by decide)]
      refine kT_if (fun cx => ?_) (fun cx => skip (Or.inr cx))
      have ei : i = x := by omega
      subst ei
      have hg20 : 0 ≤ gF (tU T U) P i y 20 q ∧ gF (tU T U) P i y 20 q < 6 := by
        unfold gF
        rw [q20]
        split
        · split
          · split <;> omega
          · omega
        · omega
      have hput := gF_put V2 L I q0 (show q < 144 by omega) i1.1 (by rw [q20]; exact i1.2.2) (by rw [q21]; exact i2) y0 y1
      rw [qdv_ok (by decide), qdv_ok (by decide), qld_ok y0 (by omega), e94, qbd (m_packetAt hp.1 (by omega))]
      dsimp only
      rw [qdv_ok (by decide), qld_ok y0 (by omega), e94, jdiv_ok k0 (by omega) (by decide) (by decide), jdiv_ok k0 (by omega) (by decide) (by decide), jrem_ok (by omega) (by omega) (by decide) (by decide)]
      have hv27 : kA K y / 27 = q / 9 := by omega
      have hv3q : kA K y / 3 = q := by omega
      rw [hv27, hv3q]
      have hqq : q / 9 * 9 + q % 9 = q := by omega
      have e20 : wr (gF (tU T U) P i y) a b c 20 = gF (tU T U) P i y 20 := wr_f (by decide) (by decide) (by decide)
      have hcm := mv_comes (p := P y) hv1 (v := q / 9) (k := q % 9) (by omega) (by omega) (by omega) (by omega) (by rw [hqq, e20]; exact hg20.1) (by rw [hqq, e20]; exact hg20.2)
      rw [hqq, spu_wr, hput] at hcm
      refine kT_bind hcm (fun w3 h3' => ?_)
      obtain ⟨⟨r3, f3⟩, -⟩ := h3'
      have h165 : ∀ lane, lane = lkd (q % 9) → kT (f_M_opensState_165 (f_M_opensState_51 m) (f_M_opensState_59 (f_M_opensState_51 m) m') (w32 (16 + 17 * P y + 3)) lane (19 * s) i y (kA K y) (q % 9) (16 + 17 * P y) w3) (fun w' => mCu S n P dc T loc w' ∧ FM w w') := by
        intro lane hlane
        have vp : ∀ g : Nat, 6 ≤ g → g ≤ 17 → vv g (P y) := fun g a b => by unfold vv; omega
        unfold f_M_opensState_165
        rw [w32_ok (z := 16 + 17 * P y + 3) (by omega) (by omega), w32_ok (z := 16 + 17 * P y + 4) (by omega) (by omega), w32_ok (z := 16 + 17 * P y + 5) (by omega) (by omega)]
        refine kT_st (by omega) (by omega) (kT_dv (by decide) (kT_st (by omega) (by omega) ?_))
        have r5 := (r3.wr (f := 9) (n := P y) (v := lane) (a := 16 + 17 * P y + 3) (vp _ (by decide) (by decide)) (by rw [ad_pk (by decide) (by decide)]; omega) (by decide) (by decide) (by decide) (by decide) (by decide)).wr (f := 10) (n := P y) (v := jdiv (kA K y) 27) (a := 16 + 17 * P y + 4) (vp _ (by decide) (by decide)) (by rw [ad_pk (by decide) (by decide)]; omega) (by decide) (by decide) (by decide) (by decide) (by decide)
        have fin : ∀ dr, dr = ldr (q % 9) → kT (f_M_opensState_203 (f_M_opensState_51 m) (f_M_opensState_59 (f_M_opensState_51 m) m') (16 + 17 * P y + 5) dr (19 * s) i y (qud (qud w3 89 (16 + 17 * P y + 3) lane) 89 (16 + 17 * P y + 4) (jdiv (kA K y) 27))) (fun w' => mCu S n P dc T loc w' ∧ FM w w') := by
          intro dr hdr
          have r6 := r5.wr (f := 11) (n := P y) (v := dr) (a := 16 + 17 * P y + 5) (vp _ (by decide) (by decide)) (by rw [ad_pk (by decide) (by decide)]; omega) (by decide) (by decide) (by decide) (by decide) (by decide)
          rw [wr_u9, wr_u10, wr_u11] at r6
          unfold f_M_opensState_203
          refine kT_st (by omega) (by omega) ?_
          rw [w32_ok (z := y + 1) (by omega) (by omega)]
          refine ih' () _ ⟨_, _, _, r6, fun j j0 j1 hk z => ?_, fun g hg => by rw [qud_row hg, qud_row hg, qud_row hg, f3 g hg, hv3 g hg]⟩
          unfold up1
          by_cases ej : j = y
          · rw [ej, if_pos rfl, if_pos rfl, hv3q]
            exact ⟨hlane, hdr⟩
          · have hne : P j ≠ P y := fun u => ej (L.2.2.1 j y j0 j1 y0 y1 u)
            rw [if_neg hne, if_neg hne]
            exact hv2 j j0 j1 hk (by omega)
        refine kT_if (fun z => fin _ ?_) (fun z => ?_)
        · unfold ldr
          rw [if_pos z]
        · rw [qdv_ok (by decide), w32_ok (z := q % 9 - 1) (by omega) (by omega), jrem_ok (by omega) (by omega) (by decide) (by decide)]
          refine fin _ ?_
          unfold ldr
          rw [if_neg z]
      refine kT_if (fun z => h165 0 ?_) (fun z => kT_if (fun z2 => h165 1 ?_) (fun z2 => h165 2 ?_))
      · unfold lkd
        rw [if_pos z]
      · unfold lkd
        rw [if_neg z, if_pos z2]
      · unfold lkd
        rw [if_neg z, if_neg z2]
    · obtain ⟨a, b, c, hv1, hv2, hv3⟩ := hv
      rw [f_M_opensState_59, hv3 88 (by decide), hL.1, if_neg (by omega), w32_ok (z := x + 1) (by omega) (by omega)]
      refine ih () v ⟨a, b, c, by rw [← gF_nx V2 L x0]; exact hv1, fun j j0 j1 hk z => hv2 j j0 j1 hk (by omega), hv3⟩
  · obtain ⟨a, b, c, hv1, hv2, hv3⟩ := hv
    rw [f_M_opensState_51, if_neg (by decide)]
    rw [gF_3 V2 L] at hv1
    exact KK v a b c hv1 hv2 hv3
theorem m_opensV (hM : mMem S U locU n P dc w) (V : VT S T loc) (R : RK S n P T loc K) (L : LVe S n P) (I : IV S) (hr : mRec S dc w s K) (s0 : 0 ≤ s) (s1 : s ≤ 400) : kT (f_M_opensState s w) (fun w' => mCu S n P dc T loc w' ∧ FM w w') := by
  obtain ⟨⟨hR, V', hRw⟩, hD, hL⟩ := hM
  have hn := L.1
  have g := I.1.1
  have hN := gN g
  have h16 := g16r g
  have q20 : tU T U 20 = T 20 := tU_q (Or.inl rfl)
  have q21 : tU T U 21 = T 21 := tU_q (Or.inr rfl)
  have e1 : U 1 = S 1 := V'.1.1.1
  have eT : T 1 = S 1 := V.1.1.1
  have V2 : VT S (tU T U) loc := by
    refine V.rw8 V' (tU_f (by decide) (by decide)) (tU_f (by decide) (by decide)) (tU_f (by decide) (by decide)) (tU_f (by decide) (by decide)) (tU_f (by decide) (by decide)) q20 q21 ?_
    exact V'.2.2.co (tU_f (by decide) (by decide)) (tU_f (by decide) (by decide))
  -- the rings
  have h216 : ∀ w' a b c, RM w' (wr (tU T U) a b c) → plP n P K 3 0 a c → FM w w' → kT (f_M_opensState_216 (19 * s) w') (fun w' => mCu S n P dc T loc w' ∧ FM w w') := by
    intro w1 a b c hv1 hv2 hv3
    unfold f_M_opensState_216
    refine kD_loop (σ := Unit) (N := 16) (L := fun m x _ v => f_M_opensState_218 m (19 * s) x v) (J := fun x _ v => (RM v (rU (wr (tU T U) a b c) (fun i => rcv S dc K (3 + i)) x) ∧ FM w v) ∧ ∀ r, 0 ≤ r → r < x → v 89 (5274 + 6 * r) = rcv S dc K (3 + r)) (fun m x _ v x0 x1 hv ih => ?_) (fun m _ v hv => ?_) (by omega) (by omega) () ⟨⟨by rw [rU_0]; exact hv1, hv3⟩, fun r a b => by omega⟩
    · have e92 : v 92 (19 * s + 3 + x) = rcv S dc K (3 + x) := by
        rw [hv.1.2 92 (by decide), show 19 * s + 3 + x = 19 * s + (3 + x) by omega]
        exact hr (3 + x) (by omega) (by omega)
      rw [f_M_opensState_218, if_pos x1, qbd (m_ringAt x0 x1)]
      dsimp only
      rw [w32_ok (z := 19 * s + 3) (by omega) (by omega), w32_ok (z := 19 * s + 3 + x) (by omega) (by omega), qld_ok (by omega) (by omega), w32_ok (z := 5274 + 6 * x + 0) (by omega) (by omega), qst_ok (by omega) (by omega), w32_ok (z := x + 1) (by omega) (by omega), e92]
      refine ih () _ ⟨⟨?_, fun g hg => by rw [qud_row hg, hv.1.2 g hg]⟩, fun r a b => ?_⟩
      · rw [rU_s x0]
        exact hv.1.1.wr (f := 25) (n := x) (by unfold vv; omega) (by rw [show ad 25 x = 5249 + 6 * x + ((25 : Nat) : Int) from rfl]; omega) (by decide) (by decide) (by decide) (by decide) (by decide)
      · rw [qud_if]
        by_cases z : r = x
        · rw [if_pos (by omega), z]
        · rw [if_neg (by omega)]
          exact hv.2 r a (by omega)
    · rw [f_M_opensState_218, if_neg (by decide)]
      obtain ⟨⟨hx1, hx2⟩, hx3⟩ := hv
      have f9 : ∀ f : Nat, f ≠ 25 → f ≠ 9 → f ≠ 10 → f ≠ 11 → rU (wr (tU T U) a b c) (fun i => rcv S dc K (3 + i)) 16 f = tU T U f := fun f x y z u => by rw [rU_f x, wr_f y z u]
      have x20 := (f9 20 (by decide) (by decide) (by decide) (by decide)).trans q20
      have x21 := (f9 21 (by decide) (by decide) (by decide) (by decide)).trans q21
      have fU : ∀ f : Nat, f ≠ 25 → f ≠ 9 → f ≠ 10 → f ≠ 11 → f ≠ 20 → f ≠ 21 → rU (wr (tU T U) a b c) (fun i => rcv S dc K (3 + i)) 16 f = U f := fun f x y z u s t => by rw [f9 f x y z u, tU_f s t]
      have u1 := fU 1 (by decide) (by decide) (by decide) (by decide) (by decide) (by decide)
      have u0 := fU 0 (by decide) (by decide) (by decide) (by decide) (by decide) (by decide)
      have u7 := fU 7 (by decide) (by decide) (by decide) (by decide) (by decide) (by decide)
      have h25 : ∀ r, 0 ≤ r → r < 2 * (S 1 3 + S 1 4) → rU (wr (tU T U) a b c) (fun i => rcv S dc K (3 + i)) 16 25 r = T 25 r := fun r r0 r1 => by
        rw [rU_25, if_pos ⟨r0, by omega⟩, rcv_r R r0 (by omega), if_pos r1]
      have hH : HO (rU (wr (tU T U) a b c) (fun i => rcv S dc K (3 + i)) 16) := by
        intro r r0 r1
        rw [u1, e1] at r1 ⊢
        rw [h25 r r0 r1]
        have := V.2.2 r r0 (by rw [eT]; exact r1)
        rw [eT] at this
        exact this
      have VF : VT S (rU (wr (tU T U) a b c) (fun i => rcv S dc K (3 + i)) 16) loc := V.rw8 V' u1 u0 (fU 5 (by decide) (by decide) (by decide) (by decide) (by decide) (by decide)) u7 (fU 22 (by decide) (by decide) (by decide) (by decide) (by decide) (by decide)) x20 x21 hH
      refine kT_some ⟨⟨_, ⟨⟨hx1, VF, fun f a b c d e f' => by rw [fU f f' a b c d e]; exact hRw f a b c d e f'⟩, fun r r0 r1 => ?_, by rw [mLi, hx2 88 (by decide), hx2 94 (by decide)]; exact hL⟩, fun p p0 p1 hp => ?_, ?_, x20⟩, hx2⟩
      · have hg := g
        unfold gIn at hg
        rw [hx3 r (by omega) r1, rcv_r R (by omega) r1, if_neg (by omega)]
      · obtain ⟨j, ⟨j0, j1⟩, ej⟩ := live_of V L p0 p1 hp
        have hs := spo_of (n := n) j1 (show loc (P j) = loc p by rw [ej]) hp
        rw [rU_f (show (9 : Nat) ≠ 25 by decide), rU_f (show (11 : Nat) ≠ 25 by decide), wr_9, wr_11]
        rcases R.at V L j0 (show j < 3 by omega) with ⟨z, -⟩ | ⟨⟨-, -, z0, z1⟩, i, i1, i2, i3⟩
        · exfalso
          have := (V.2.1.2.1.2 p p0 (by rw [V.1.2.1]; exact p1) hp).1
          omega
        · have := hv2 j j0 j1 (by omega) (by omega)
          rw [ej, show kA K j / 3 = loc p by omega] at this
          exact this
      · refine ⟨⟨⟨by rw [u1, e1, eT], fun j hj => by rw [u0, V'.1.1.2 j hj, V.1.1.2 j hj]⟩, by rw [u7, V'.1.2.2.1, V.1.2.2.1]⟩, fun q _ _ => by rw [x20], fun q i _ _ _ _ => by rw [x21], fun r r0 r1 => ?_⟩
        rw [eT] at r1
        exact h25 r r0 r1
  -- the packets
  have h49 : ∀ v, RM v (zr U (9 * (S 1 3 * S 1 4))) → FM w v → kT (f_M_opensState_49 (19 * s) v) (fun w' => mCu S n P dc T loc w' ∧ FM w w') := by
    intro v hv hf
    refine m_fillV V V' R L I hRw hr s0 s1 hL (hv.cg (fun f n' hl => ?_)) hf h216
    have h6 := V.h6 I
    have g20 : ∀ q, 0 ≤ q → q < 144 → wr (gF (tU T U) P 0 0) (U 9) (U 10) (U 11) 20 q = 0 := fun q q0 q1 => by
      rw [wr_f (by decide) (by decide) (by decide)]
      unfold gF
      rw [if_pos ⟨rfl, q0, q1⟩, q20, q21]
      by_cases z : 0 < T 20 q
      · obtain ⟨t, ht, e1, -⟩ := slot_P V L q0 q1 (Int.le_refl 0) z
        have hid := idx_P L ht.1 ht.2
        rw [if_pos z, ← e1, hid, if_neg (by omega)]
      · rw [if_neg z]
        have := h6 q q0 q1
        omega
    have gf : ∀ f : Nat, f ≠ 20 → f ≠ 21 → wr (gF (tU T U) P 0 0) (U 9) (U 10) (U 11) f = U f := fun f c d => by
      unfold wr
      by_cases z9 : f = 9
      · rw [if_pos z9, z9]
      · rw [if_neg z9]
        by_cases z10 : f = 10
        · rw [if_pos z10, z10]
        · rw [if_neg z10]
          by_cases z11 : f = 11
          · rw [if_pos z11, z11]
          · rw [if_neg z11]
            funext i
            unfold gF
            rw [if_neg (fun u => c u.1), tU_f c d]
    have z20 : ∀ q, 0 ≤ q → q < 144 → zr U (9 * (S 1 3 * S 1 4)) 20 q = 0 := fun q q0 q1 => by
      unfold zr
      by_cases z : q < 9 * (S 1 3 * S 1 4)
      · rw [if_pos ⟨rfl, q0, z⟩]
      · rw [if_neg (fun u => z u.2.2)]
        exact (V'.2.1.1 q q0 q1).2 (by rw [e1]; omega)
    obtain ⟨l0, l1, l2, l3, l4, l5⟩ := hl
    have h21 : f ≠ 21 := fun e => by
      have a := l3 e
      have hv := l0
      unfold vv at hv
      rw [g20 (n' / 6) (by omega) (by omega)] at a
      omega
    rw [gf 5 (by decide) (by decide)] at l1
    rw [gf 5 (by decide) (by decide), gf 12 (by decide) (by decide)] at l2
    rw [gf 22 (by decide) (by decide)] at l4
    rw [gf 1 (by decide) (by decide)] at l5
    refine ⟨⟨l0, by rw [zr_f (by decide)]; exact l1, by rw [zr_f (by decide), zr_f (by decide)]; exact l2, fun e => absurd e h21, by rw [zr_f (by decide)]; exact l4, by rw [zr_f (by decide)]; exact l5⟩, ?_⟩
    by_cases e20 : f = 20
    · have hv := l0
      unfold vv at hv
      rw [e20, g20 n' (by omega) (by omega), z20 n' (by omega) (by omega)]
    · rw [gf f e20 h21, zr_f e20]
  unfold f_M_opensState
  rw [w32_ok (z := 19 * s) (by omega) (by omega)]
  have hwh : ∀ v x, RM v (zr U x) → v 89 0 = S 1 3 ∧ v 89 1 = S 1 4 := fun v x h => by
    have := h.wh
    rw [zr_f (by decide), e1] at this
    exact this
  have z0 : zr U (9 * 0) = U := by
    funext f i
    exact if_neg (fun u => by omega)
  refine kD_loop (σ := Unit) (N := S 1 3 * S 1 4) (L := fun m x _ v => f_M_opensState_7 m (19 * s) x v) (J := fun x _ v => RM v (zr U (9 * x)) ∧ FM w v) (fun m x _ v x0 x1 hv ih => ?_) (fun m _ v hv => ?_) (by omega) (by omega) () ⟨by rw [z0]; exact hR, fun _ _ => rfl⟩
  · rw [f_M_opensState_7, qbd (mg_nodes (hwh v _ hv.1) g)]
    dsimp only
    rw [if_pos x1]
    refine kD_loop (σ := Unit) (N := 9) (L := fun m' y _ v => f_M_opensState_18 (f_M_opensState_7 m) m' (19 * s) x y v) (J := fun y _ v => RM v (zr U (9 * x + y)) ∧ FM w v) (fun m' y _ v y0 y1 hv ih' => ?_) (fun m' _ v hv => ?_) (by omega) (by omega) () (by rw [Int.add_zero]; exact hv)
    · rw [f_M_opensState_18, if_pos y1, qbd (m_queueAt x0 (by omega) y0 y1)]
      dsimp only
      rw [qst_ok (by omega) (by omega), w32_ok (z := y + 1) (by omega) (by omega)]
      refine ih' () _ ⟨?_, fun g hg => by rw [qud_row hg, hv.2 g hg]⟩
      rw [show 9 * x + (y + 1) = 9 * x + y + 1 by omega, show x * 9 + y = 9 * x + y by omega]
      exact hv.1.z20 (by omega) (by omega)
    · rw [f_M_opensState_18, if_neg (by decide), w32_ok (z := x + 1) (by omega) (by omega)]
      exact ih () _ (by rw [show 9 * (x + 1) = 9 * x + 9 by omega]; exact hv)
  · rw [f_M_opensState_7, qbd (mg_nodes (hwh v _ hv.1) g)]
    dsimp only
    rw [if_neg (by omega)]
    exact h49 v hv.1 hv.2
end EP
