/-! schedules, the reference: the table; a step ends; all steps of a queue -/
def mTB (S : qMem) (n : Int) (P dc : Int → Int) (root : List Int) (s : Int) (k0 : Int → List Int) (v0 : Int → Int) (dn : List Int → Int) (w : qMem) : Prop := ∃ (N : Int) (ks : Int → List Int) (ws : Int → Int), (w 88 8 = N ∧ 0 ≤ s ∧ s < N ∧ N ≤ 400) ∧ (∀ i, 0 ≤ i → i < N → mRec S dc w i (ks i) ∧ w 93 i = ws i) ∧ (∀ i, 0 ≤ i → i ≤ s → ks i = k0 i ∧ ws i = v0 i) ∧ BF (mu S n P) (rkK S n P root) root N s ks ws dn
def mEX (S : qMem) (n : Int) (P dc : Int → Int) (root : List Int) (s : Int) (k0 : Int → List Int) (v0 : Int → Int) (T : qMem) (loc : Int → Int) (dn : List Int → Int) (c : Int) (w : qMem) : Prop := mCu S n P dc T loc w ∧ mTB S n P dc root s k0 v0 dn w ∧ w 88 9 = c
def mQ (S : qMem) (n : Int) (P dc : Int → Int) (root : List Int) (s : Int) (k0 : Int → List Int) (v0 : Int → Int) (T : qMem) (loc : Int → Int) (dn : List Int → Int) (c : Int) (r : Int × qMem) : Prop := (r.1 = 0 ∧ OVF S n P root) ∨ (r.1 = 1 ∧ mEX S n P dc root s k0 v0 T loc dn c r.2)
section EQ
variable {w w' w0 w2 S T T' U F G : qMem} {loc loc' locU P dc e : Int → Int} {v k d l q p i j n r x y m W H N s t c a : Int} {K K' root b : List Int} {k0 : Int → List Int} {v0 : Int → Int} {dn dn' : List Int → Int}
theorem mTB.fr (h : mTB S n P dc root s k0 v0 dn w) (e8 : w' 88 8 = w 88 8) (e92 : w' 92 = w 92) (e93 : w' 93 = w 93) : mTB S n P dc root s k0 v0 dn w' := by
  unfold mTB mRec at h ⊢
  rw [e8, e92, e93]
  exact h
theorem mMem.fr (h : mMem S U loc n P dc w) (e89 : w' 89 = w 89) (e94 : w' 94 = w 94) (e7 : w' 88 7 = w 88 7) : mMem S U loc n P dc w' := by
  refine ⟨⟨h.1.1.fr (fun j _ _ => by rw [e89]), h.1.2⟩, ?_, ?_⟩
  · unfold mDd
    rw [e89]
    exact h.2.1
  · unfold mLi
    rw [e94, e7]
    exact h.2.2
theorem mEX.w9 (h : mEX S n P dc root s k0 v0 T loc dn a w) : mEX S n P dc root s k0 v0 T loc dn c (qud w 88 9 c) := by
  obtain ⟨⟨U, hM, h2⟩, hT, -⟩ := h
  exact ⟨⟨U, hM.fr (qud_row (by decide)) (qud_row (by decide)) (qud_ni (by decide)), h2⟩, hT.fr (qud_ni (by decide)) (qud_row (by decide)) (qud_row (by decide)), qud_s⟩
theorem mEX.cg (h : mEX S n P dc root s k0 v0 T loc dn c w) (e : ∀ b, dn' b = dn b) : mEX S n P dc root s k0 v0 T loc dn' c w := by
  have : dn' = dn := funext e
  rw [this]
  exact h
theorem mQ.cg {r : Int × qMem} (h : mQ S n P dc root s k0 v0 T loc dn c r) (e : ∀ b, dn' b = dn b) : mQ S n P dc root s k0 v0 T loc dn' c r := by
  have : dn' = dn := funext e
  rw [this]
  exact h
/-- a state is met, the old one comes back -/
theorem m_fromV (hM : mMem S U loc' n P dc w) (hK : RK S n P U loc' K') (V : VT S T loc) (RT : RK S n P T loc (k0 s)) (V0 : VT S S (lof S)) (R0 : RK S n P S (lof S) root) (L : LVe S n P) (I : IV S) (hT : mTB S n P dc root s k0 v0 dn w) (hd : ∀ b, 0 ≤ dn b) (hm : mu S n P (k0 s) K' ≠ 0) (h9 : w 88 9 = c) : kT (f_M_comesFrom s w) (mQ S n P dc root s k0 v0 T loc (fun b => dn b + (if b = K' then 1 else 0)) c) := by
  obtain ⟨N, ks, ws, ⟨h8, s0, s1, hN⟩, ht, hag, B⟩ := hT
  have hru := rk_up V0 R0 L I
  have hks := hag s s0 (Int.le_refl _)
  have hw := fun i a b => (B.2.2.2 i a b).1
  rw [← hks.1] at hm
  have hrs := B.1.2.2 s s0 s1
  have hrK : rC (mu S n P) root K' := fun C h1 h2 => h2 _ _ (hrs C h1 h2) hm
  unfold f_M_comesFrom
  refine kT_bind (m_meetsV hM hK L I h8 ⟨by omega, hN⟩ (fun i i0 i1 => ⟨(ht i i0 i1).1, rC_ok V0 R0 L I (B.1.2.2 i i0 i1)⟩)) (fun r hr => ?_)
  rcases r with ⟨r1, w1⟩
  unfold mMts at hr
  dsimp only at hr ⊢
  obtain ⟨hcase, h1, h2, h3⟩ := hr
  have hM1 : mMem S U loc' n P dc w1 := hM.fr (h1 89 (by decide) (by decide) (by decide)) (h1 94 (by decide) (by decide) (by decide)) (h2 7 (by decide))
  have fin : ∀ j y, mTB S n P dc root s k0 v0 (fun b => dn b + (if b = K' then 1 else 0)) (qud w1 93 j y) → kT ((f_M_opensState s (qud w1 93 j y)).bind fun q6 => some ((1 : Int), q6)) (mQ S n P dc root s k0 v0 T loc (fun b => dn b + (if b = K' then 1 else 0)) c) := by
    intro j y hT5
    have hM5 : mMem S U loc' n P dc (qud w1 93 j y) := hM1.fr (qud_row (by decide)) (qud_row (by decide)) (qud_nk (by decide))
    have hrec : mRec S dc (qud w1 93 j y) s (k0 s) := by
      obtain ⟨N', ks', ws', ⟨-, -, s1', -⟩, ht', hag', -⟩ := hT5
      rw [← (hag' s s0 (Int.le_refl _)).1]
      exact (ht' s s0 s1').1
    refine kT_bind (m_opensV hM5 V RT L I hrec s0 (by omega)) (fun w6 h6 => kT_some (Or.inr ⟨rfl, h6.1, hT5.fr (show w6 88 8 = qud w1 93 j y 88 8 by rw [h6.2 88 (by decide)]) (h6.2 92 (by decide)) (h6.2 93 (by decide)), ?_⟩))
    show w6 88 9 = c
    rw [h6.2 88 (by decide), qud_nk (by decide), h2 9 (by decide)]
    exact h9
  have hmr : ∀ i, 0 ≤ i → i < N → ∀ j y, mRec S dc (qud w1 93 j y) i (ks i) := fun i i0 i1 j y t t0 t1 => by
    rw [qud_row (by decide), h3 _ (by omega)]
    exact (ht i i0 i1).1 t t0 t1
  rcases hcase with ⟨j, ⟨j0, j1⟩, ej, er, e8, e93⟩ | ⟨hne, er, e8, hrec, e93⟩
  · obtain ⟨hsj, B'⟩ := B.old (k := K') (ws' := fun i => if i = j then (ws j + ws s) % 1000003 else ws i) (dn' := fun b => dn b + (if b = K' then 1 else 0)) s1 hm hru hd j0 j1 ej (fun b => rfl) (fun i => rfl)
    have a1 := hw j j0 j1
    have a2 := hw s s0 s1
    refine kT_if (fun _ => ?_) (fun z => absurd (show w1 88 8 ≤ 400 by omega) z)
    rw [er, qld_ok j0 (by omega), qld_ok s0 (by omega), qdv_ok (by decide), e93, (ht j j0 j1).2, (ht s s0 s1).2, w32_ok (z := ws j + ws s) (by omega) (by omega), jrem_ok (by omega) (by omega) (by decide) (by decide)]
    refine kT_st j0 (by omega) (fin j _ ⟨N, ks, fun i => if i = j then (ws j + ws s) % 1000003 else ws i, ⟨by rw [qud_nk (by decide)]; exact e8, s0, s1, hN⟩, fun i i0 i1 => ⟨hmr i i0 i1 _ _, ?_⟩, fun i i0 i1 => ?_, B'⟩)
    · rw [qud_if, e93]
      dsimp only
      by_cases z : i = j
      · rw [if_pos z, if_pos z]
      · rw [if_neg z, if_neg z]
        exact (ht i i0 i1).2
    · dsimp only
      rw [if_neg (by omega)]
      exact hag i i0 i1
  · have a2 := hw s s0 s1
    refine kT_if (fun c4 => ?_) (fun c4 => ?_)
    · have c4 : w1 88 8 ≤ 400 := c4
      have B' := B.new (k := K') (ks' := fun i => if i = N then K' else ks i) (ws' := fun i => if i = N then ws s else ws i) (dn' := fun b => dn b + (if b = K' then 1 else 0)) s1 hm hru hne (fun b => rfl) (fun i => rfl) (fun i => rfl)
      rw [er, qld_ok (by omega) (by omega), qld_ok s0 (by omega), qdv_ok (by decide), e93, qud_s, qud_ni (show s ≠ N by omega), (ht s s0 s1).2, w32_ok (z := 0 + ws s) (by omega) (by omega), jrem_ok (by omega) (by omega) (by decide) (by decide), show (0 + ws s) % 1000003 = ws s by omega]
      refine kT_st (by omega) (by omega) (fin N _ ⟨N + 1, fun i => if i = N then K' else ks i, fun i => if i = N then ws s else ws i, ⟨by rw [qud_nk (by decide)]; exact e8, s0, by omega, by omega⟩, fun i i0 i1 => ?_, fun i i0 i1 => ?_, B'⟩)
      · dsimp only
        by_cases z : i = N
        · rw [if_pos z, if_pos z, z]
          refine ⟨fun t t0 t1 => ?_, qud_s⟩
          rw [qud_row (by decide)]
          exact hrec t t0 t1
        · rw [if_neg z, if_neg z, qud_ni z, e93, qud_ni z]
          exact ⟨hmr i i0 (by omega) _ _, (ht i i0 (by omega)).2⟩
      · dsimp only
        rw [if_neg (by omega), if_neg (by omega)]
        exact hag i i0 i1
    · have c4 : ¬ w1 88 8 ≤ 400 := c4
      refine kT_some (Or.inl ⟨rfl, fun i => if i < 400 then ks i else K', fun i j i0 i1 j0 j1 e => ?_, fun i i0 i1 => ?_⟩)
      · dsimp only at e
        by_cases a : i < 400
        · by_cases c : j < 400
          · rw [if_pos a, if_pos c] at e
            exact B.1.2.1 i j i0 (by omega) j0 (by omega) e
          · rw [if_pos a, if_neg c] at e
            exact absurd e (hne i i0 (by omega))
        · by_cases c : j < 400
          · rw [if_neg a, if_pos c] at e
            exact absurd e.symm (hne j j0 (by omega))
          · omega
      · dsimp only
        by_cases a : i < 400
        · rw [if_pos a]
          exact B.1.2.2 i i0 (by omega)
        · rw [if_neg a]
          exact hrK
theorem sfa_ssm (h6 : ∀ y, 0 ≤ y → y < 144 → 0 ≤ U 20 y ∧ U 20 y ≤ 6) (g : gIn (U 1 3) (U 1 4)) (v0' : 0 ≤ v) (v1 : v < U 1 3 * U 1 4) (k0' : 0 ≤ k) (k1 : k < 9) (d0 : 0 ≤ d) (d1 : d < 4) (hs : 0 < U 20 (v * 9 + k)) (hc : U 20 (tgt U v d 1) ≤ 4) : sfa (ssm U v k d 1) v d = sfa U v d - 1 := by
  have hN := gN g
  have hn := gn_in g v0' v1 d0 d1
  have hne := gn_ne g v0' v1 d0 d1
  have e1 : ssm U v k d 1 1 = U 1 := ssm_f (by decide) (by decide)
  have e0 : ssm U v k d 1 0 = U 0 := ssm_f (by decide) (by decide)
  have ht : gn (U 1 3) (U 1 4) v d * 9 + 1 + d ≠ v * 9 + k := by omega
  have hc' : U 20 (gn (U 1 3) (U 1 4) v d * 9 + 1 + d) ≤ 4 := hc
  have e2 : sdr U (v * 9 + k) 20 (gn (U 1 3) (U 1 4) v d * 9 + 1 + d) = U 20 (gn (U 1 3) (U 1 4) v d * 9 + 1 + d) := by rw [sdr_20 hs, if_neg ht]
  have e20 : ssm U v k d 1 20 (gn (U 1 3) (U 1 4) v d * 9 + 1 + d) = U 20 (gn (U 1 3) (U 1 4) v d * 9 + 1 + d) + 1 := by
    have := spu_20 (S := sdr U (v * 9 + k)) (q := gn (U 1 3) (U 1 4) v d * 9 + 1 + d) (p := sfst U (v * 9 + k)) (n := gn (U 1 3) (U 1 4) v d * 9 + 1 + d) (by rw [e2]; omega)
    rw [if_pos rfl, e2] at this
    exact this
  unfold sfa
  rw [e1, e0, e20]
  omega
theorem m_stepV (hE : mEX S n P dc root s k0 v0 T loc dn c w) (V : VT S T loc) (RT : RK S n P T loc (k0 s)) (V0 : VT S S (lof S)) (R0 : RK S n P S (lof S) root) (L : LVe S n P) (I : IV S) (hd : ∀ b, 0 ≤ dn b) (v0' : 0 ≤ v) (v1 : v < T 1 3 * T 1 4) (k0' : 0 ≤ k) (k1 : k < 9) (d0 : 0 ≤ d) (d1 : d < 4) (he : sfst T (v * 9 + k) ≠ -1) (hin : sin T v k = false) (hl : (a = 1 ∧ l = 2 ∧ sad T v k d = true) ∨ (a = 0 ∧ l = 1 ∧ sel T v k d = true)) : kT (f_M_stepsTo s v k d a w) (mQ S n P dc root s k0 v0 T loc (fun b => dn b + go1 S n P T loc v k d l b) c) := by
  obtain ⟨⟨U, hM, hPl, hTQ, -⟩, hT, h9⟩ := hE
  have hM0 := hM
  obtain ⟨⟨hR, VU, hRw⟩, hD, hL⟩ := hM
  have I2 := VU.iw I
  have hg := V.gg I
  have hN := gN hg.1
  have eU1 : U 1 = T 1 := hTQ.1.1.1
  have e1 : T 1 = S 1 := V.1.1.1
  have v1U : v < U 1 3 * U 1 4 := by rw [eU1]; exact v1
  have gU := I2.1
  have hn := gn_in gU v0' v1U d0 d1
  have hNU := gN gU
  have hr := gr_in gU v0' v1U d0 d1
  have h16 := g16r gU
  have h6 := VU.h6 I
  have e9 : sfst U (v * 9 + k) = sfst T (v * 9 + k) := hTQ.f1 (by omega) (by omega)
  have heU : sfst U (v * 9 + k) ≠ -1 := by rw [e9]; exact he
  obtain ⟨⟨hp, hs⟩, -, hlo, -⟩ := VU.first (q := v * 9 + k) (by omega) (by omega) heU
  have hqU := h6 (v * 9 + k) (by omega) (by omega)
  have hl3 : (l = 2 ∧ sad T v k d = true) ∨ (l = 1 ∧ sel T v k d = true) := hl.imp (fun z => z.2) (fun z => z.2)
  have V1 : VT S (ssh U v k d l) (lmv loc (sfst U (v * 9 + k)) (tgt U v d l)) := by
    rcases hl3 with ⟨rfl, y⟩ | ⟨rfl, y⟩
    · exact VU.go2 (k := k) I v0' v1U k0' k1 d0 d1 heU (by rw [hTQ.xad hg.1 v0' v1 k0' k1 d0 d1]; exact y)
    · exact VU.go1 (k := k) I v0' v1U k0' k1 d0 d1 heU (by rw [hTQ.xel hg.1 v0' v1 k0' k1 d0 d1]; exact y)
  obtain ⟨K', hK'⟩ := RK.ex V1 L
  have hgo : ∀ b, go1 S n P T loc v k d l b = if b = K' then 1 else 0 := fun b => by
    rw [← go1_co V VU hTQ L I v0' v1 k0' k1 d0 d1 he hl3]
    unfold go1
    exact ind_k hK' V1 L
  have hTs : 0 < T 20 (v * 9 + k) := (V.first (q := v * 9 + k) (by omega) (by omega) he).1.2
  have hm : mu S n P (k0 s) K' ≠ 0 := by
    rw [mu_eq V RT L I]
    have hq9 : (v * 9 + k) / 9 = v := by omega
    have hk9 : (v * 9 + k) % 9 = k := by omega
    have g1 : 1 ≤ goD S n P T loc v k K' d := by
      have n2 : 0 ≤ (if sad T v k d = true then go1 S n P T loc v k d 2 K' else 0) := by
        split
        · exact ind_01.1
        · exact Int.le_refl _
      have n1 : 0 ≤ (if sel T v k d = true then go1 S n P T loc v k d 1 K' else 0) := by
        split
        · exact ind_01.1
        · exact Int.le_refl _
      have h1 := hgo K'
      rw [if_pos rfl] at h1
      unfold goD
      rcases hl3 with ⟨rfl, y⟩ | ⟨rfl, y⟩
      · rw [if_pos y, h1]
        omega
      · rw [if_pos y, h1]
        omega
    have g2 := cV_mem (f := goD S n P T loc v k K') (x := 4) (i := d) (fun k _ _ => goD_0) d0 d1
    have g3 : blk S n P T loc K' (v * 9 + k) = cV (fun d => goD S n P T loc v k K' d) 4 := by
      unfold blk blF
      rw [if_neg (by omega), hq9, hk9, hin, if_neg (by decide)]
    have g4 := cV_mem (f := blk S n P T loc K') (x := S 1 3 * S 1 4 * 9) (i := v * 9 + k) (fun k _ _ => blk_0) (by omega) (by rw [e1] at v1 hN; omega)
    unfold muT
    have g5 : cV (goD S n P T loc v k K') 4 = cV (fun d => goD S n P T loc v k K' d) 4 := rfl
    omega
  have hcap := cap_4 (l := l) VU I v0' v1U d0 d1
  have ht := tgt_in (l := l) gU v0' v1U d0 d1
  -- it leaves, it comes
  have h94 : ∀ w1 X, RM w1 X → X 20 = U 20 → spu (sdr X (v * 9 + k)) (tgt U v d l) (sfst U (v * 9 + k)) = ssh U v k d l → FM w w1 → (∀ r, 2 * (S 1 3 + S 1 4) ≤ r → r < 16 → w1 89 (5274 + 6 * r) = w 89 (5274 + 6 * r)) → kT (f_M_stepsTo_94 s v k d a (sfst U (v * 9 + k)) (gn (U 1 3) (U 1 4) v d) w1) (mQ S n P dc root s k0 v0 T loc (fun b => dn b + go1 S n P T loc v k d l b) c) := by
    intro w1 X hX x20 hsh hF hDx
    unfold f_M_stepsTo_94
    refine kT_bind (mv_leaves hX v0' (by omega) k0' k1 (by rw [x20]; exact hs) (by rw [x20]; exact hqU.2)) (fun w3 h3 => ?_)
    obtain ⟨⟨r3, f3⟩, c3⟩ := h3
    have hsX : 0 < X 20 (v * 9 + k) := by rw [x20]; exact hs
    have h20 : 0 ≤ sdr X (v * 9 + k) 20 (tgt U v d l) ∧ sdr X (v * 9 + k) 20 (tgt U v d l) < 6 := by
      have := h6 _ ht.1.1 ht.1.2
      rw [sdr_20 hsX, x20]
      split
      · omega
      · omega
    have h113 : ∀ y, tgt U v d l = gn (U 1 3) (U 1 4) v d * 9 + (y + d) → (y = 1 ∨ y = 5) → kT (f_M_stepsTo_113 (gn (U 1 3) (U 1 4) v d) y s d (sfst U (v * 9 + k)) w3) (mQ S n P dc root s k0 v0 T loc (fun b => dn b + go1 S n P T loc v k d l b) c) := by
      intro y hy hy2
      unfold f_M_stepsTo_113
      rw [w32_ok (z := y + d) (by omega) (by omega)]
      rw [hy] at h20 hsh
      refine kT_bind (mv_comes (p := sfst U (v * 9 + k)) r3 hn.1 (by omega) (by omega) (by omega) h20.1 h20.2) (fun w4 h4 => ?_)
      obtain ⟨⟨r4, f4⟩, c4⟩ := h4
      rw [hsh] at r4
      have hfr : ∀ g : Nat, g ≠ 89 → w4 g = w g := fun g hg => by rw [f4 g hg, f3 g hg, hF g hg]
      have hM4 : mMem S (ssh U v k d l) (lmv loc (sfst U (v * 9 + k)) (tgt U v d l)) n P dc w4 := by
        refine ⟨⟨r4, V1, fun f a b c d e f' => by rw [ssh_f d e f']; exact hRw f a b c d e f'⟩, fun r r0 r1 => ?_, ?_⟩
        · have hg := I.1.1
          unfold gIn at hg
          rw [c4 _ (by omega), c3 _ (by omega), hDx r r0 r1]
          exact hD r r0 r1
        · unfold mLi
          rw [hfr 88 (by decide), hfr 94 (by decide)]
          exact hL
      refine kT_bind (m_fromV (c := c) hM4 hK' V RT V0 R0 L I (hT.fr (by rw [hfr 88 (by decide)]) (hfr 92 (by decide)) (hfr 93 (by decide))) hd hm (by rw [hfr 88 (by decide)]; exact h9)) (fun r hr => kT_some ?_)
      exact hr.cg (fun b => by rw [hgo b])
    rcases hl with ⟨rfl, rfl, -⟩ | ⟨rfl, rfl, -⟩
    · rw [if_neg (by decide)]
      exact h113 5 (by unfold tgt; rw [if_neg (by decide)]; omega) (Or.inr rfl)
    · rw [if_pos rfl]
      exact h113 1 (by unfold tgt; rw [if_pos rfl]; omega) (Or.inl rfl)
  have hU : sst U v k d l = false → spu (sdr U (v * 9 + k)) (tgt U v d l) (sfst U (v * 9 + k)) = ssh U v k d l := fun z => by
    unfold ssh
    rw [z, if_neg (by decide)]
    rfl
  have go : sst U v k d l = false → kT (f_M_stepsTo_94 s v k d a (sfst U (v * 9 + k)) (gn (U 1 3) (U 1 4) v d) w) (mQ S n P dc root s k0 v0 T loc (fun b => dn b + go1 S n P T loc v k d l b) c) := fun z => h94 w U hR rfl (hU z) (fun _ _ => rfl) (fun _ _ _ => rfl)
  unfold f_M_stepsTo
  refine kT_eq (m_firstOf hR I2.2.2.2 v0' (by omega) k0' k1) ?_
  refine kT_eq (mg_nextOf hR.wh gU v0' v1U d0 d1) ?_
  refine kT_eq (mg_ringFor hR.wh gU v0' v1U d0 d1) ?_
  refine kT_eq (m_ringAt hr.1 (by omega)) ?_
  dsimp only
  rw [w32_ok (z := 1 + d) (by omega) (by omega), w32_ok (z := 5274 + 6 * gr (U 1 3) (U 1 4) v d + 0) (by omega) (by omega)]
  rcases hl with ⟨rfl, rfl, hy⟩ | ⟨rfl, rfl, hy⟩
  · rw [if_neg (by decide)]
    refine go ?_
    unfold sst
    rw [decide_eq_false (show ¬ (2 : Int) = 1 by decide)]
    rfl
  · rw [if_pos rfl]
    refine kT_eq (m_contV hR VU hPl I v0' v1U k0' k1 d0 d1 heU) ?_
    dsimp only
    rw [bi_ii]
    have hst : ∀ (z : Bool), z = false → (z && decide (U 0 8 = 2) && decide (U 25 (gr (U 1 3) (U 1 4) v d) = gn (U 1 3) (U 1 4) v d) && decide (sfa (ssm U v k d 1) v d = 0)) = false := fun z hz => by rw [hz]; rfl
    have hsf := sfa_ssm h6 gU v0' v1U k0' k1 d0 d1 hs hcap
    refine kT_if (fun c1 => ?_) (fun c1 => go ?_)
    · rw [qld_ok (by decide) (by decide), rm_0_8 hR]
      refine kT_if (fun c2 => ?_) (fun c2 => go ?_)
      · rw [qld_ok (by omega) (by omega), Int.add_zero, rm_25 hR hr.1 hr.2 h16 rfl]
        refine kT_if (fun c3 => ?_) (fun c3 => go ?_)
        · refine kT_eq (m_free hR I2 hn.1 (by omega) (by omega) (by omega)) ?_
          dsimp only
          rw [cp_e d0 d1, ← Int.add_assoc, show U 0 6 - U 20 (gn (U 1 3) (U 1 4) v d * 9 + 1 + d) = sfa U v d from rfl]
          refine kT_if (fun c4 => ?_) (fun c4 => go ?_)
          · have hstt : sst U v k d 1 = true := by
              unfold sst
              rw [c1, decide_eq_true (show (1 : Int) = 1 from rfl), decide_eq_true c2, decide_eq_true c3, decide_eq_true (show sfa (ssm U v k d 1) v d = 0 by omega)]
              rfl
            refine kT_st (by omega) (by omega) ?_
            refine h94 _ (qud U 25 (gr (U 1 3) (U 1 4) v d) v) (hR.wr (f := 25) (n := gr (U 1 3) (U 1 4) v d) (by unfold vv; omega) (by rw [show ad 25 (gr (U 1 3) (U 1 4) v d) = 5249 + 6 * gr (U 1 3) (U 1 4) v d + ((25 : Nat) : Int) from rfl]; omega) (by decide) (by decide) (by decide) (by decide) (by decide)) (qud_row (by decide)) ?_ (fun g hg => qud_row hg) (fun r r0 r1 => ?_)
            · rw [sdr_q (by decide) (by decide), spu_q (by decide) (by decide)]
              unfold ssh
              rw [hstt, if_pos rfl]
              rfl
            · have hr2 := hr.2
              rw [eU1, e1] at hr2 ⊢
              rw [qud_ni (by omega)]
          · unfold sst
            rw [decide_eq_false (show ¬ sfa (ssm U v k d 1) v d = 0 by omega), Bool.and_false]
        · unfold sst
          rw [decide_eq_false c3, Bool.and_false, Bool.false_and]
      · unfold sst
        rw [decide_eq_false c2, Bool.and_false, Bool.false_and, Bool.false_and]
    · unfold sst
      rw [Bool.eq_false_iff.mpr c1, Bool.and_false, Bool.false_and, Bool.false_and, Bool.false_and]
theorem m_goesV (hE : mEX S n P dc root s k0 v0 T loc dn c w) (V : VT S T loc) (RT : RK S n P T loc (k0 s)) (V0 : VT S S (lof S)) (R0 : RK S n P S (lof S) root) (L : LVe S n P) (I : IV S) (hd : ∀ b, 0 ≤ dn b) (v0' : 0 ≤ v) (v1 : v < T 1 3 * T 1 4) (k0' : 0 ≤ k) (k1 : k < 9) (he : sfst T (v * 9 + k) ≠ -1) (c0 : 0 ≤ c) (c1 : c < 100000) : kT (f_M_goesAll s v k w) (mQ S n P dc root s k0 v0 T loc (fun b => dn b + blF S n P T loc b (v * 9 + k)) (c + ctF T (v * 9 + k))) := by
  have hE0 := hE
  obtain ⟨⟨U, hM, hPl, hTQ, -⟩, hT, h9⟩ := hE
  obtain ⟨⟨hR, VU, hRw⟩, hD, hL⟩ := hM
  have I2 := VU.iw I
  have hg := V.gg I
  have hN := gN hg.1
  have hc := I.1.2.2.2.2.2.2.1.2
  have e1 : T 1 = S 1 := V.1.1.1
  have h6 := VU.h6 I
  have e9 : sfst U (v * 9 + k) = sfst T (v * 9 + k) := hTQ.f1 (by omega) (by omega)
  have heU : sfst U (v * 9 + k) ≠ -1 := by rw [e9]; exact he
  obtain ⟨⟨hp, hs⟩, -, hlo, -⟩ := VU.first (q := v * 9 + k) (by omega) (by omega) heU
  have hTs : 0 < T 20 (v * 9 + k) := (V.first (q := v * 9 + k) (by omega) (by omega) he).1.2
  have h5 : U 5 13 = S 5 13 := by rw [VU.1.2.1]
  have hq9 : (v * 9 + k) / 9 = v := by omega
  have hk9 : (v * 9 + k) % 9 = k := by omega
  unfold f_M_goesAll
  refine kT_eq (m_firstOf hR I2.2.2.2 v0' (by omega) k0' k1) ?_
  refine kT_eq (m_of hR hp.1 (by rw [h5]; exact hp.2) (by rw [h5]; exact hc) (f := 7) (by decide) (by decide) (by decide)) ?_
  dsimp only
  rw [e9, hTQ.1.2]
  refine kT_if (fun z => ?_) (fun z => ?_)
  · have hsin : sin T v k = true := by
      unfold sin
      rw [if_neg he, decide_eq_true z]
    have hct : ctF T (v * 9 + k) = 1 := by
      unfold ctF
      rw [hq9, hk9, if_pos hsin]
    have hbl : ∀ b, blF S n P T loc b (v * 9 + k) = ind S n P (sdr T (v * 9 + k)) (lmv loc (sfst T (v * 9 + k)) (-1)) b := fun b => by
      unfold blF
      rw [hq9, hk9, if_pos hsin]
    have Vp := V.pop (q := v * 9 + k) (by omega) (by omega) he
    have Vp' := VU.pop (q := v * 9 + k) (by omega) (by omega) heU
    obtain ⟨K', hK'⟩ := RK.ex Vp' L
    have hin : ∀ b, ind S n P (sdr T (v * 9 + k)) (lmv loc (sfst T (v * 9 + k)) (-1)) b = if b = K' then 1 else 0 := fun b => by
      rw [← ind_k hK' Vp' L]
      rw [e9] at Vp' ⊢
      exact (ind_co Vp Vp' (hTQ.dr (fun y a b => ((V.h6 I) y a b).2) (by omega) (by omega) hTs) (fun _ _ _ => rfl) L I).symm
    have hm : mu S n P (k0 s) K' ≠ 0 := by
      rw [mu_eq V RT L I]
      have g3 : blk S n P T loc K' (v * 9 + k) = 1 := by
        unfold blk
        rw [if_neg (by omega), hbl, hin, if_pos rfl]
      have g4 := cV_mem (f := blk S n P T loc K') (x := S 1 3 * S 1 4 * 9) (i := v * 9 + k) (fun k _ _ => blk_0) (by omega) (by rw [e1] at v1 hN; omega)
      unfold muT
      omega
    rw [qlt_ok, h9, w32_ok (z := c + 1) (by omega) (by omega)]
    have hR9 : RM (qud w 88 9 (c + 1)) U := hR.out (by decide)
    refine kT_bind (mv_leaves hR9 v0' (by omega) k0' k1 hs (h6 _ (by omega) (by omega)).2) (fun w3 h3 => ?_)
    obtain ⟨⟨r3, f3⟩, c3⟩ := h3
    have hfr : ∀ g : Nat, g ≠ 88 → g ≠ 89 → w3 g = w g := fun g a b => by rw [f3 g b, qud_row a]
    have h88 : ∀ j, j ≠ 9 → w3 88 j = w 88 j := fun j hj => by rw [f3 88 (by decide), qud_ni hj]
    have hM3 : mMem S (sdr U (v * 9 + k)) (lmv loc (sfst U (v * 9 + k)) (-1)) n P dc w3 := by
      refine ⟨⟨r3, Vp', fun f a b c d e f' => by rw [sdr_f d e]; exact hRw f a b c d e f'⟩, fun r r0 r1 => ?_, ?_⟩
      · have hg := I.1.1
        unfold gIn at hg
        rw [c3 _ (by omega), qud_nk (by decide)]
        exact hD r r0 r1
      · unfold mLi
        rw [h88 7 (by decide), hfr 94 (by decide) (by decide)]
        exact hL
    refine kT_bind (m_fromV (c := c + 1) hM3 hK' V RT V0 R0 L I (hT.fr (h88 8 (by decide)) (hfr 92 (by decide) (by decide)) (hfr 93 (by decide) (by decide))) hd hm (by rw [f3 88 (by decide), qud_s])) (fun r hr => kT_some ?_)
    rw [hct]
    exact hr.cg (fun b => by rw [hbl, hin])
  · have hsin : sin T v k = false := by
      unfold sin
      rw [if_neg he, decide_eq_false z]
    have hct : ctF T (v * 9 + k) = cV (fun d => bi (sad T v k d) + bi (sel T v k d)) 4 := by
      unfold ctF
      rw [hq9, hk9, hsin, if_neg (by decide)]
    have hbl : ∀ b, blF S n P T loc b (v * 9 + k) = cV (fun d => goD S n P T loc v k b d) 4 := fun b => by
      unfold blF
      rw [hq9, hk9, hsin, if_neg (by decide)]
    have main : ∀ (m : Nat) (d : Int) (w1 : qMem), 0 ≤ d → d ≤ 4 → 4 - d < m → mEX S n P dc root s k0 v0 T loc (fun b => dn b + cV (fun d => goD S n P T loc v k b d) d) (c + cV (fun d => bi (sad T v k d) + bi (sel T v k d)) d) w1 → kT (f_M_goesAll_44 m s v k (sfst T (v * 9 + k)) d w1) (mQ S n P dc root s k0 v0 T loc (fun b => dn b + blF S n P T loc b (v * 9 + k)) (c + ctF T (v * 9 + k))) := by
      intro m
      induction m with
      | zero => intro d w1 _ _ _; omega
      | succ m ih =>
        intro d w1 d0 d4 hm hJ
        rw [f_M_goesAll_44]
        refine kT_if (fun d1 => ?_) (fun d1 => ?_)
        · have hcd := cV_bd (f := fun d => bi (sad T v k d) + bi (sel T v k d)) (N := 4) (M := 2) (x := d) (fun d _ _ => by
            have h1 := bi_01 (z := sad T v k d)
            have h2 := bi_01 (z := sel T v k d)
            omega) (by decide) d0 d4
          have hgd : ∀ b, 0 ≤ cV (fun d => goD S n P T loc v k b d) d := fun b => cV_ge d0 (fun t _ _ => goD_0)
          have n2 : ∀ b, 0 ≤ (if sad T v k d = true then go1 S n P T loc v k d 2 b else 0) := fun b => by
            split
            · exact ind_01.1
            · exact Int.le_refl _
          have ada : ∀ w2 c2 dn2, mEX S n P dc root s k0 v0 T loc dn2 c2 w2 → f_M_canByAdaptive (sfst T (v * 9 + k)) v d w2 = some (bi (sad T v k d), w2) ∧ f_M_canByEscape (sfst T (v * 9 + k)) v d 0 w2 = some (bi (sel T v k d), w2) := by
            intro w2 c2 dn2 h2
            obtain ⟨⟨U2, hM2, hPl2, hTQ2, -⟩, -, -⟩ := h2
            have eq9 : sfst U2 (v * 9 + k) = sfst T (v * 9 + k) := hTQ2.f1 (by omega) (by omega)
            have v1U : v < U2 1 3 * U2 1 4 := by rw [hTQ2.1.1.1]; exact v1
            have a1 := m_adaV hM2.1.1 hM2.1.2.1 I v0' v1U k0' k1 d0 d1 (by rw [eq9]; exact he)
            have a2 := m_escV hM2.1.1 hM2.1.2.1 hPl2 I v0' v1U k0' k1 d0 d1 (by rw [eq9]; exact he)
            rw [eq9, hTQ2.xad hg.1 v0' v1 k0' k1 d0 d1] at a1
            rw [eq9, hTQ2.xel hg.1 v0' v1 k0' k1 d0 d1] at a2
            exact ⟨a1, a2⟩
          have h87 : ∀ w2, mEX S n P dc root s k0 v0 T loc (fun b => dn b + cV (fun d => goD S n P T loc v k b d) d + (if sad T v k d = true then go1 S n P T loc v k d 2 b else 0)) (c + cV (fun d => bi (sad T v k d) + bi (sel T v k d)) d + bi (sad T v k d)) w2 → kT (f_M_goesAll_87 (f_M_goesAll_44 m) s v k (sfst T (v * 9 + k)) d w2) (mQ S n P dc root s k0 v0 T loc (fun b => dn b + blF S n P T loc b (v * 9 + k)) (c + ctF T (v * 9 + k))) := by
            intro w2 h2
            have hb1 := bi_01 (z := sad T v k d)
            unfold f_M_goesAll_87
            refine kT_eq (ada w2 _ _ h2).2 ?_
            dsimp only
            rw [bi_ii, w32_ok (z := d + 1) (by omega) (by omega)]
            refine kT_if (fun y => ?_) (fun y => ?_)
            · rw [qlt_ok, h2.2.2, w32_ok (by omega) (by omega)]
              refine kT_bind (m_stepV (l := 1) h2.w9 V RT V0 R0 L I (fun b => by
                have := hd b
                have := hgd b
                have := n2 b
                omega) v0' v1 k0' k1 d0 d1 he hsin (Or.inr ⟨rfl, rfl, y⟩)) (fun r hr => ?_)
              refine kT_if (fun u => kT_some (Or.inl ⟨rfl, ?_⟩)) (fun u => ?_)
              · rcases hr with hr | hr
                · exact hr.2
                · omega
              · have h3 := (hr.resolve_left (fun t => u t.1)).2
                refine ih (d + 1) _ (by omega) (by omega) (by omega) ?_
                rw [cV_s d0, y, show bi true = 1 from rfl, ← Int.add_assoc, ← Int.add_assoc]
                refine h3.cg (fun b => ?_)
                rw [cV_s d0]
                unfold goD
                rw [if_pos y]
                omega
            · refine ih (d + 1) _ (by omega) (by omega) (by omega) ?_
              rw [cV_s d0, Bool.eq_false_iff.mpr y, show bi false = 0 from rfl, Int.add_zero, ← Int.add_assoc]
              refine h2.cg (fun b => ?_)
              rw [cV_s d0]
              unfold goD
              rw [if_neg y, Int.add_zero, Int.add_assoc]
          refine kT_eq (ada w1 _ _ hJ).1 ?_
          dsimp only
          rw [bi_ii]
          refine kT_if (fun y => ?_) (fun y => h87 w1 ?_)
          · rw [qlt_ok, hJ.2.2, w32_ok (by omega) (by omega)]
            refine kT_bind (m_stepV (l := 2) hJ.w9 V RT V0 R0 L I (fun b => by
              have := hd b
              have := hgd b
              omega) v0' v1 k0' k1 d0 d1 he hsin (Or.inl ⟨rfl, rfl, y⟩)) (fun r hr => ?_)
            refine kT_if (fun u => kT_some (Or.inl ⟨rfl, ?_⟩)) (fun u => h87 _ ?_)
            · rcases hr with hr | hr
              · exact hr.2
              · omega
            · have h3 := (hr.resolve_left (fun t => u t.1)).2
              rw [y, show bi true = 1 from rfl]
              exact h3.cg (fun b => by rw [if_pos rfl])
          · rw [Bool.eq_false_iff.mpr y, show bi false = 0 from rfl, Int.add_zero]
            exact hJ.cg (fun b => by rw [if_neg (by decide), Int.add_zero])
        · have e4 : d = 4 := by omega
          subst e4
          rw [hct]
          exact kT_some (Or.inr ⟨rfl, hJ.cg (fun b => by rw [hbl])⟩)
    have hJ0 : mEX S n P dc root s k0 v0 T loc (fun b => dn b + cV (fun d => goD S n P T loc v k b d) 0) (c + cV (fun d => bi (sad T v k d) + bi (sel T v k d)) 0) w := by
      have h2 : c + cV (fun d => bi (sad T v k d) + bi (sel T v k d)) 0 = c := Int.add_zero c
      rw [h2]
      exact hE0.cg (fun b => Int.add_zero _)
    exact main qFU 0 w (by decide) (by decide) (qFU_gt (by decide)) hJ0
end EQ
