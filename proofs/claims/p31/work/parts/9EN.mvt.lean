/-! schedules, the reference: a state that stands in its row; packets' lanes are as the queues say -/
def mRw (S U : qMem) : Prop := ∀ f : Nat, f ≠ 9 → f ≠ 10 → f ≠ 11 → f ≠ 20 → f ≠ 21 → f ≠ 25 → U f = S f
def lkd (k : Int) : Int := if k = 0 then 0 else if k < 5 then 1 else 2
def ldr (k : Int) : Int := if k = 0 then -1 else (k - 1) % 4
def mPl (S U : qMem) (loc : Int → Int) : Prop := ∀ p, 0 ≤ p → p < S 5 13 → loc p ≠ -1 → U 9 p = lkd (loc p % 9) ∧ U 11 p = ldr (loc p % 9)
section EN
variable {w w' w0 w2 S T T' U F : qMem} {loc loc' P : Int → Int} {v k d l q p i j n r x y m W H N s t a c : Int} {K K' root b : List Int} {f g : Int → Int}
theorem kT_and {α : Type} {F : Option α} {P Q : α → Prop} (h : kT F P) (h2 : kT F Q) : kT F (fun a => P a ∧ Q a) := by
  obtain ⟨a, e, p⟩ := h
  obtain ⟨b, e2, q⟩ := h2
  rw [e] at e2
  cases e2
  exact ⟨a, e, p, q⟩
theorem RM.cg (h : RM w U) (e : ∀ f n, lv T f n → lv U f n ∧ T f n = U f n) : RM w T := fun f n hl => by
  obtain ⟨a, b⟩ := e f n hl
  rw [b]
  exact h f n a
theorem m_leavesF (v0 : 0 ≤ v) (v1 : v < 16) (k0 : 0 ≤ k) (k1 : k < 9) (s0 : 0 < w 89 (4266 + 7 * (v * 9 + k))) (s1 : w 89 (4266 + 7 * (v * 9 + k)) ≤ 6) : kT (f_M_leaves v k w) (fun w' => ∀ j, 5274 ≤ j → w' 89 j = w 89 j) := by
  have q0 : 0 ≤ v * 9 + k := by omega
  have q1 : v * 9 + k < 144 := by omega
  unfold f_M_leaves
  rw [qbd (m_queueAt v0 v1 k0 k1)]
  dsimp only
  generalize v * 9 + k = q at *
  have main : ∀ (m : Nat) (j : Int) (w2 : qMem), 1 ≤ j → j ≤ w 89 (4266 + 7 * q) → w 89 (4266 + 7 * q) - j < m → (w2 89 (4266 + 7 * q) = w 89 (4266 + 7 * q) ∧ ∀ j, 5274 ≤ j → w2 89 j = w 89 j) → kT (f_M_leaves_9 m (4266 + 7 * q) j w2) (fun w' => ∀ j, 5274 ≤ j → w' 89 j = w 89 j) := by
    intro m
    induction m with
    | zero => intro j w2 _ _ _ _; omega
    | succ m ih =>
      intro j w2 j0 j1 hm h
      obtain ⟨h1, h2⟩ := h
      rw [f_M_leaves_9, qld_ok (by omega) (by omega), h1]
      refine kT_if (fun cj => ?_) (fun _ => ?_)
      · rw [w32_ok (z := 4266 + 7 * q + j) (by omega) (by omega), w32_ok (z := 4266 + 7 * q + j + 1) (by omega) (by omega), qld_ok (by omega) (by omega)]
        refine kT_st (by omega) (by omega) ?_
        rw [w32_ok (z := j + 1) (by omega) (by omega)]
        exact ih (j + 1) _ (by omega) (by omega) (by omega) ⟨by rw [qud_ni (by omega)]; exact h1, fun j' hj => by rw [qud_ni (by omega)]; exact h2 j' hj⟩
      · unfold f_M_leaves_46
        rw [qld_ok (by omega) (by omega)]
        exact kT_st (by omega) (by omega) (kT_some (fun j' hj => by rw [qud_ni (by omega)]; exact h2 j' hj))
  exact main qFU 1 w (by omega) (by omega) (qFU_gt (by omega)) ⟨rfl, fun _ _ => rfl⟩
theorem m_comesF (v0 : 0 ≤ v) (v1 : v < 16) (k0 : 0 ≤ k) (k1 : k < 9) (s0 : 0 ≤ w 89 (4266 + 7 * (v * 9 + k))) (s1 : w 89 (4266 + 7 * (v * 9 + k)) < 6) : kT (f_M_comes v k p w) (fun w' => ∀ j, 5274 ≤ j → w' 89 j = w 89 j) := by
  have q0 : 0 ≤ v * 9 + k := by omega
  have q1 : v * 9 + k < 144 := by omega
  unfold f_M_comes
  rw [qbd (m_queueAt v0 v1 k0 k1)]
  dsimp only
  generalize v * 9 + k = q at *
  rw [qld_ok (by omega) (by omega), w32_ok (by omega) (by omega)]
  refine kT_st (by omega) (by omega) ?_
  rw [qld_ok (by omega) (by omega), qud_s, w32_ok (by omega) (by omega)]
  exact kT_st (by omega) (by omega) (kT_some (fun j hj => by rw [qud_ni (by omega), qud_ni (by omega)]))
theorem mv_leaves (h : RM w U) (v0 : 0 ≤ v) (v1 : v < 16) (k0 : 0 ≤ k) (k1 : k < 9) (s0 : 0 < U 20 (v * 9 + k)) (s1 : U 20 (v * 9 + k) ≤ 6) : kT (f_M_leaves v k w) (fun w' => (RM w' (sdr U (v * 9 + k)) ∧ FM w w') ∧ ∀ j, 5274 ≤ j → w' 89 j = w 89 j) := by
  have e := rm_20 h (n := v * 9 + k) (by omega) (by omega) rfl
  exact kT_and (m_leaves h v0 v1 k0 k1 s0 s1) (m_leavesF v0 v1 k0 k1 (by rw [e]; exact s0) (by rw [e]; exact s1))
theorem mv_comes (h : RM w U) (v0 : 0 ≤ v) (v1 : v < 16) (k0 : 0 ≤ k) (k1 : k < 9) (s0 : 0 ≤ U 20 (v * 9 + k)) (s1 : U 20 (v * 9 + k) < 6) : kT (f_M_comes v k p w) (fun w' => (RM w' (spu U (v * 9 + k) p) ∧ FM w w') ∧ ∀ j, 5274 ≤ j → w' 89 j = w 89 j) := by
  have e := rm_20 h (n := v * 9 + k) (by omega) (by omega) rfl
  exact kT_and (m_comes h v0 v1 k0 k1 s0 s1) (m_comesF v0 v1 k0 k1 (by rw [e]; exact s0) (by rw [e]; exact s1))
/-! its own moves -/
theorem m_contV (h : RM w U) (V : VT S U loc) (hp : mPl S U loc) (I : IV S) (v0 : 0 ≤ v) (v1 : v < U 1 3 * U 1 4) (k0 : 0 ≤ k) (k1 : k < 9) (d0 : 0 ≤ d) (d1 : d < 4) (he : sfst U (v * 9 + k) ≠ -1) : f_M_doesContinue (sfst U (v * 9 + k)) v d w = some (bi (scn U v k d), w) := by
  have I2 := V.iw I
  have hN := gN I2.1
  have hc := I.1.2.2.2.2.2.2.1.2
  obtain ⟨⟨⟨p0, p1⟩, -⟩, -, hl, -⟩ := V.first (q := v * 9 + k) (by omega) (by omega) he
  have h5 : U 5 13 = S 5 13 := by rw [V.1.2.1]
  have p1' : sfst U (v * 9 + k) < U 5 13 := by rw [h5]; exact p1
  have hc' : U 5 13 ≤ 250 := by rw [h5]; exact hc
  have ht := I2.2.2.1 _ p0 p1'
  have hpl := hp _ p0 p1 (by rw [hl]; omega)
  rw [hl, show (v * 9 + k) % 9 = k by omega] at hpl
  unfold f_M_doesContinue scn ses
  rw [if_neg he, qbd (m_of h p0 p1' hc' (f := 9) (by decide) (by decide) (by decide))]
  dsimp only
  by_cases e1 : U 9 (sfst U (v * 9 + k)) = 1
  · have hk : 1 ≤ k ∧ k < 5 := by
      rw [hpl.1] at e1
      unfold lkd at e1
      split at e1
      · omega
      · split at e1 <;> omega
    have hd : U 11 (sfst U (v * 9 + k)) = k - 1 := by
      rw [hpl.2]
      unfold ldr
      rw [if_neg (by omega)]
      omega
    rw [if_pos e1, qbd (m_of h p0 p1' hc' (f := 11) (by decide) (by decide) (by decide))]
    dsimp only
    by_cases e2 : U 11 (sfst U (v * 9 + k)) = d
    · rw [if_pos e2, qbd (m_of h p0 p1' hc' (f := 7) (by decide) (by decide) (by decide))]
      dsimp only
      rw [qbd (mg_escapeOf h.wh I2.1 v0 v1 ht.1 ht.2), decide_eq_true (show k = 1 + d by omega)]
      dsimp only
      by_cases e3 : ge (U 1 3) (U 1 4) v (U 7 (sfst U (v * 9 + k))) = d
      · rw [if_pos e3, decide_eq_true e3]; rfl
      · rw [if_neg e3, decide_eq_false e3]; rfl
    · rw [if_neg e2, decide_eq_false (show ¬ k = 1 + d by omega)]; rfl
  · have hk : ¬ k = 1 + d := fun z => by
      rw [hpl.1] at e1
      unfold lkd at e1
      rw [if_neg (by omega), if_pos (by omega)] at e1
      exact e1 rfl
    rw [if_neg e1, decide_eq_false hk]; rfl
theorem m_escV (h : RM w U) (V : VT S U loc) (hp : mPl S U loc) (I : IV S) (v0 : 0 ≤ v) (v1 : v < U 1 3 * U 1 4) (k0 : 0 ≤ k) (k1 : k < 9) (d0 : 0 ≤ d) (d1 : d < 4) (he : sfst U (v * 9 + k) ≠ -1) : f_M_canByEscape (sfst U (v * 9 + k)) v d 0 w = some (bi (sel U v k d), w) := by
  have I2 := V.iw I
  have hN := gN I2.1
  have hc := I.1.2.2.2.2.2.2.1.2
  obtain ⟨⟨⟨p0, p1⟩, -⟩, -, hl, -⟩ := V.first (q := v * 9 + k) (by omega) (by omega) he
  have h5 : U 5 13 = S 5 13 := by rw [V.1.2.1]
  have p1' : sfst U (v * 9 + k) < U 5 13 := by rw [h5]; exact p1
  have hc' : U 5 13 ≤ 250 := by rw [h5]; exact hc
  have ht := I2.2.2.1 _ p0 p1'
  have hn := gn_in I2.1 v0 v1 d0 d1
  have e67 : f_M_canByEscape_67 d (gn (U 1 3) (U 1 4) v d) w = some (bi (srl U v d), w) := by
    unfold f_M_canByEscape_67
    rw [qbd (m_ruleLet_f h I2 v0 v1 d0 d1 rfl)]
    cases srl U v d <;> rfl
  unfold f_M_canByEscape
  rw [qbd (m_of h p0 p1' hc' (f := 7) (by decide) (by decide) (by decide))]
  dsimp only
  rw [qbd (mg_escapeOf h.wh I2.1 v0 v1 ht.1 ht.2)]
  dsimp only
  by_cases e3 : ge (U 1 3) (U 1 4) v (U 7 (sfst U (v * 9 + k))) = d
  · have hse : ses U v k d = true := by
      unfold ses
      rw [if_neg he, decide_eq_true e3]
    rw [if_pos e3, qbd (mg_nextOf h.wh I2.1 v0 v1 d0 d1)]
    dsimp only
    rw [qbd (m_contV h V hp I v0 v1 k0 k1 d0 d1 he)]
    dsimp only
    have hsc : scn U v k d = decide (k = 1 + d) := by
      unfold scn
      rw [hse, Bool.and_true]
    unfold sel
    rw [hse, hsc]
    by_cases ek : k = 1 + d
    · rw [decide_eq_true ek, if_bt, if_pos ek, w32_ok (by omega) (by omega), qbd (m_free h I2 hn.1 (by omega) (by omega) (by omega)), cp_e d0 d1]
      dsimp only
      rw [← Int.add_assoc, show U 0 6 - U 20 (gn (U 1 3) (U 1 4) v d * 9 + 1 + d) = sfa U v d from rfl]
      by_cases e5 : sfa U v d ≤ 0
      · rw [if_pos e5, decide_eq_false (show ¬ 0 < sfa U v d by omega)]; rfl
      · rw [if_neg e5, decide_eq_true (show 0 < sfa U v d by omega)]; rfl
    · rw [decide_eq_false ek, if_bf, if_neg ek, if_pos rfl, e67]
      cases srl U v d <;> rfl
  · have hse : ses U v k d = false := by
      unfold ses
      rw [if_neg he, decide_eq_false e3]
    rw [if_neg e3]
    unfold sel
    rw [hse]
    rfl
theorem m_adaV (h : RM w U) (V : VT S U loc) (I : IV S) (v0 : 0 ≤ v) (v1 : v < U 1 3 * U 1 4) (k0 : 0 ≤ k) (k1 : k < 9) (d0 : 0 ≤ d) (d1 : d < 4) (he : sfst U (v * 9 + k) ≠ -1) : f_M_canByAdaptive (sfst U (v * 9 + k)) v d w = some (bi (sad U v k d), w) := by
  have I2 := V.iw I
  have hN := gN I2.1
  have hc := I.1.2.2.2.2.2.2.1.2
  obtain ⟨⟨⟨p0, p1⟩, -⟩, -, hl, -⟩ := V.first (q := v * 9 + k) (by omega) (by omega) he
  have h5 : U 5 13 = S 5 13 := by rw [V.1.2.1]
  have p1' : sfst U (v * 9 + k) < U 5 13 := by rw [h5]; exact p1
  have hc' : U 5 13 ≤ 250 := by rw [h5]; exact hc
  have ht := I2.2.2.1 _ p0 p1'
  have hn := gn_in I2.1 v0 v1 d0 d1
  unfold f_M_canByAdaptive sad spr
  rw [qbd (m_of h p0 p1' hc' (f := 7) (by decide) (by decide) (by decide))]
  dsimp only
  rw [if_neg he, qbd (mg_isProfitable h.wh I2.1 v0 v1 ht.1 ht.2 d0 d1)]
  dsimp only
  cases gp (U 1 3) (U 1 4) v (U 7 (sfst U (v * 9 + k))) d with
  | false => rfl
  | true =>
    rw [if_bt, qbd (mg_nextOf h.wh I2.1 v0 v1 d0 d1)]
    dsimp only
    rw [w32_ok (by omega) (by omega), qbd (m_free h I2 hn.1 (by omega) (by omega) (by omega)), cp_a d0]
    dsimp only
    rw [← Int.add_assoc]
    by_cases e : U 20 (gn (U 1 3) (U 1 4) v d * 9 + 5 + d) < U 0 7
    · rw [if_neg (by omega), decide_eq_true e]; rfl
    · rw [if_pos (by omega), decide_eq_false e]; rfl
/-- the same state, the same steps -/
theorem go1_co (V : VT S T loc) (V' : VT S U loc) (h : TQ T U) (L : LVe S n P) (I : IV S) (v0 : 0 ≤ v) (v1 : v < T 1 3 * T 1 4) (k0 : 0 ≤ k) (k1 : k < 9) (d0 : 0 ≤ d) (d1 : d < 4) (he : sfst T (v * 9 + k) ≠ -1) (hl : (l = 2 ∧ sad T v k d = true) ∨ (l = 1 ∧ sel T v k d = true)) : go1 S n P U loc v k d l b = go1 S n P T loc v k d l b := by
  have hg := V.gg I
  have hN := gN hg.1
  have h6 := V.h6 I
  have hs := (V.first (q := v * 9 + k) (by omega) (by omega) he).1.2
  have e9 : sfst U (v * 9 + k) = sfst T (v * 9 + k) := h.f1 (by omega) (by omega)
  have he' : sfst U (v * 9 + k) ≠ -1 := by rw [e9]; exact he
  have v1' : v < U 1 3 * U 1 4 := by rw [h.1.1.1]; exact v1
  have et : ∀ l, tgt U v d l = tgt T v d l := fun l => by
    unfold tgt
    rw [h.1.1.1]
  have hc : T 20 (tgt T v d l) < 6 := by
    have := cap_4 (l := l) V I v0 v1 d0 d1
    omega
  unfold go1
  rcases hl with ⟨rfl, y⟩ | ⟨rfl, y⟩
  · have Va := V.go2 (k := k) I v0 v1 k0 k1 d0 d1 he y
    have Va' := V'.go2 (k := k) I v0 v1' k0 k1 d0 d1 he' (by rw [h.xad hg.1 v0 v1 k0 k1 d0 d1]; exact y)
    rw [e9, et] at Va' ⊢
    exact ind_co Va Va' (h.sh h6 hg.1 v0 v1 k0 k1 d0 d1 hs hc) (fun _ _ _ => rfl) L I
  · have Va := V.go1 (k := k) I v0 v1 k0 k1 d0 d1 he y
    have Va' := V'.go1 (k := k) I v0 v1' k0 k1 d0 d1 he' (by rw [h.xel hg.1 v0 v1 k0 k1 d0 d1]; exact y)
    rw [e9, et] at Va' ⊢
    exact ind_co Va Va' (h.sh h6 hg.1 v0 v1 k0 k1 d0 d1 hs hc) (fun _ _ _ => rfl) L I
end EN
