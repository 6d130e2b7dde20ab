/-! a tick of a net -/
section NT
variable {o : Nat} {w w0 S : qMem} {q p v k d a b c t n l h : Int}
theorem sg2_lo (I : IV S) (v0 : 0 ≤ v) (v1 : v < S 1 3 * S 1 4) (k0 : 0 ≤ k) (k1 : k < 9) (d0 : 0 ≤ d) (d1 : d < 4) (he : sfst S (v * 9 + k) ≠ -1) (hg : gp (S 1 3) (S 1 4) v (S 7 (sfst S (v * 9 + k))) d = true) : 0 ≤ S 12 (sfst S (v * 9 + k)) ∧ S 12 (sfst S (v * 9 + k)) ≤ 3 := by
  have hn := gn_in I.1.1 v0 v1 d0 d1
  obtain ⟨⟨p0, p1⟩, -, -, hat, -⟩ := first_at I v0 v1 k0 k1 he
  have hpk := I.2.1.1 _ p0 p1
  have hfar := gp_far I.1.1 v0 v1 hpk.1.2.1.1 hpk.1.2.1.2 d0 d1 hg
  have hfar0 := gf_in I.1.1 hn.1 hn.2 hpk.1.2.1.1 hpk.1.2.1.2
  have := hpk.2.2.1
  rw [hat] at this
  omega
theorem n_go129 (hx : NX o w S) (I : IV S) (v0 : 0 ≤ v) (v1 : v < S 1 3 * S 1 4) (k0 : 0 ≤ k) (k1 : k < 9) (d0 : 0 ≤ d) (d1 : d < 4) (he : sfst S (v * 9 + k) ≠ -1) (hg : gp (S 1 3) (S 1 4) v (S 7 (sfst S (v * 9 + k))) d = true) (hm : S 22 1 < 64) : kT (f_N_goFrom_129 o v k d (sfst S (v * 9 + k)) l h w) (fun w' => NX o w' (sg2 S v k d l h) ∧ FN o w w') := by
  have hN := gN I.1.1
  have hh := sg2_lo I v0 v1 k0 k1 d0 d1 he hg
  obtain ⟨⟨p0, p1⟩, -⟩ := first_at I v0 v1 k0 k1 he
  have hc := I.1.2.2.2.2.2.2
  unfold f_N_goFrom_129
  refine kT_bind (n_shift (l := l) hx I.w v0 v1 k0 k1 d0 d1 he) (fun w1 h1 => ?_)
  rw [w32_ok (z := v * 4) (by omega) (by omega), w32_ok (z := v * 4 + d) (by omega) (by omega)]
  have e34 : w1 (o + 34) (v * 4 + d) = S 34 (v * 4 + d) := by
    rw [rx_34 h1.1.1 (by omega) (by omega), ssh_f (by decide) (by decide) (by decide)]
  refine kT_ld (by omega) (by omega) ?_
  refine kT_st (by omega) (by omega) ?_
  rw [e34]
  have h2 := h1.1.v (f := 34) (n := v * 4 + d) (v := w32 (S 34 (v * 4 + d) + 1)) (by decide)
  have f2 := h1.2.q (f := 34) (n := v * 4 + d) (v := w32 (S 34 (v * 4 + d) + 1)) (by decide) (by decide)
  have hr : ∀ g : Nat, g ≠ 20 → g ≠ 21 → g ≠ 25 → g ≠ 34 → qud (ssh S v k d l) 34 (v * 4 + d) (w32 (S 34 (v * 4 + d) + 1)) g = S g := fun g a b c e => by rw [qud_row e, ssh_f a b c]
  have r1 := hr 1 (by decide) (by decide) (by decide) (by decide)
  have hG := h2.2
  rw [r1] at hG
  refine kT_eq (g_nextBy hG I.1.1 v0 v1 d0 d1) ?_
  have e10 : qud w1 (o + 34) (v * 4 + d) (w32 (S 34 (v * 4 + d) + 1)) o 10 = S 0 10 := by
    rw [rz_10 h2.1, hr 0 (by decide) (by decide) (by decide) (by decide)]
  dsimp only
  rw [e10]
  refine kT_bind (n_noteHop h2 p0 (by rw [hr 5 (by decide) (by decide) (by decide) (by decide)]; exact p1) (by rw [hr 5 (by decide) (by decide) (by decide) (by decide)]; exact hc.1.2) (by rw [hr 12 (by decide) (by decide) (by decide) (by decide)]; exact hh.1) (by rw [hr 12 (by decide) (by decide) (by decide) (by decide)]; exact hh.2)) (fun w3 h3 => ?_)
  have e22 : ∀ p t d l c, shp (qud (ssh S v k d l) 34 (v * 4 + d) (w32 (S 34 (v * 4 + d) + 1))) p t d l c 22 = S 22 := fun p t d l c => by
    rw [shp_r (by decide) (by decide) (by decide) (by decide) (by decide) (by decide) (by decide), qud_row (by decide), ssh_f (by decide) (by decide) (by decide)]
  refine kT_bind (n_vadd h3.1 (by rw [e22]; exact hc.2.1) (by rw [e22]; exact hm)) (fun w4 h4 => ?_)
  exact kT_some ⟨h4.1, (f2.tr h3.2).tr h4.2⟩
theorem sok_1 (ho : sok S v k d) : sfst (sg1 S v k d) (v * 9 + k) ≠ -1 ∧ gp (sg1 S v k d 1 3) (sg1 S v k d 1 4) v (sg1 S v k d 7 (sfst (sg1 S v k d) (v * 9 + k))) d = true := by
  rw [sg1_fst, sg1_f (f := 1) (by decide) (by decide) (by decide) (by decide), sg1_f (f := 7) (by decide) (by decide) (by decide) (by decide)]
  exact ⟨ho.1, ho.2.1⟩
theorem n_goFrom (hx : NX o w S) (I : IV S) (v0 : 0 ≤ v) (v1 : v < S 1 3 * S 1 4) (k0 : 0 ≤ k) (k1 : k < 9) (d0 : 0 ≤ d) (d1 : d < 4) (ho : sok S v k d) (hm : S 22 1 < 64) : kT (f_N_goFrom o v k d w) (fun w' => NX o w' (sgo S v k d) ∧ FN o w w') := by
  have hN := gN I.1.1
  have hr := gr_in I.1.1 v0 v1 d0 d1
  have hW := I.1.1
  obtain ⟨⟨gx, gy⟩, gz, gu⟩ := hW
  obtain ⟨⟨p0, p1⟩, -⟩ := first_at I v0 v1 k0 k1 ho.1
  have hc := I.1.2.2.2.2.2.2
  have I1 := I.g1 (v := v) (k := k) (d := d)
  have hs := sok_1 ho
  have fin : ∀ w1, NX o w1 (sg1 S v k d) → FN o w w1 → kT (f_N_goFrom_129 o v k d (sfst S (v * 9 + k)) (sla S v k d) (shw S v k d) w1) (fun w' => NX o w' (sgo S v k d) ∧ FN o w w') := by
    intro w1 h1 f1
    have := n_go129 (l := sla S v k d) (h := shw S v k d) h1 I1 v0 (by rw [sg1_f (f := 1) (by decide) (by decide) (by decide) (by decide)]; exact v1) k0 k1 d0 d1 hs.1 hs.2 (by rw [sg1_f (f := 22) (by decide) (by decide) (by decide) (by decide)]; exact hm)
    rw [sg1_fst] at this
    refine kT_mono this (fun w' hw => ?_)
    unfold sgo
    exact ⟨hw.1.gh, f1.tr hw.2⟩
  unfold f_N_goFrom
  rw [w32_ok (z := v * 9) (by omega) (by omega), w32_ok (z := v * 9 + k) (by omega) (by omega)]
  refine kT_eq (n_first hx.1 (by omega) (by omega)) ?_
  dsimp only
  rw [if_neg ho.1]
  refine kT_eq (n_adaptiveLets hx I.w v0 v1 k0 k1 d0 d1) ?_
  dsimp only
  unfold sg1 sla shw at fin
  cases ha : sad S v k d with
  | true =>
    rw [ha] at fin
    rw [if_bt]
    unfold f_N_goFrom_37
    rw [if_pos rfl, qlt_ok, rz_11 hx.1]
    exact fin (qud w o 11 (w32 (S 0 11 + 1))) (hx.u (f := 0) (by decide) (by decide) (by decide) (by decide) (by decide) (by decide)) (FN.rfl'.q (f := 0) (by decide) (by decide))
  | false =>
    rw [ha] at fin
    rw [if_bf]
    unfold f_N_goFrom_37
    rw [if_neg (by decide)]
    refine kT_eq (n_continues hx I.w v0 v1 k0 k1 d0 d1) ?_
    dsimp only
    cases hcn : scn S v k d with
    | true =>
      rw [hcn] at fin
      rw [if_bt]
      exact fin w hx FN.rfl'
    | false =>
      rw [hcn] at fin
      rw [if_bf]
      rw [w32_ok (z := v * 4) (by omega) (by omega), w32_ok (z := v * 4 + d) (by omega) (by omega)]
      refine kT_ld p0 (by omega) ?_
      refine kT_st p0 (by omega) ?_
      rw [rx_14 hx.1 p0 p1 hc.1.2]
      have h1 := hx.v (f := 14) (n := sfst S (v * 9 + k)) (v := w32 (S 14 (sfst S (v * 9 + k)) + 1)) (by decide)
      have hG := h1.2
      rw [qud_row (show (1 : Nat) ≠ 14 by decide)] at hG
      refine kT_eq (g_ringIndex hG.1 I.1.1 v0 v1 d0 d1) ?_
      dsimp only
      refine kT_ld hr.1 (by omega) ?_
      refine kT_st hr.1 (by omega) ?_
      rw [rx_29 h1.1 hr.1 (by rw [qud_row (show (1 : Nat) ≠ 14 by decide)]; exact hr.2) (by rw [qud_row (show (1 : Nat) ≠ 14 by decide)]; omega), qud_nk (show (29 : Nat) ≠ 14 by decide)]
      refine kT_stz (by omega) (by omega) (Or.inr rfl) ?_
      exact fin _ ((h1.v (f := 29) (by decide)).v (f := 33) (by decide)) (((FN.rfl'.q (f := 14) (by decide) (by decide)).q (f := 29) (by decide) (by decide)).q (f := 33) (by decide) (by decide))
theorem n_chosenL (hx : NX o w S) (I : IV S) (v0 : 0 ≤ v) (v1 : v < S 1 3 * S 1 4) (d0 : 0 ≤ d) (d1 : d < 4) : ∀ (m j : Nat) (c b k : Int), 0 ≤ k → (9 - k).toNat = j → j < m → f_N_chosenQueue_8 o m v d c b k w = some (schL S v d j c b k, w) := by
  have hN := gN I.1.1
  have hc := I.1.2.2.2.2.2.2
  intro m
  induction m with
  | zero => intro j c b k _ _ h; omega
  | succ m ih =>
    intro j c b k k0 hj hm
    rw [f_N_chosenQueue_8]
    by_cases e : k < 9
    · obtain ⟨j', rfl⟩ : ∃ j', j = j' + 1 := ⟨j - 1, by omega⟩
      have IH := fun c b => ih j' c b (k + 1) (by omega) (by omega) (by omega)
      have h95 : ∀ p, f_N_chosenQueue_95 o (f_N_chosenQueue_8 o m) v d k p w = some (schL S v d j' k p (k + 1), w) := by
        intro p
        unfold f_N_chosenQueue_95
        rw [w32_ok (by omega) (by omega), IH]
      rw [if_pos e, w32_ok (z := v * 9) (by omega) (by omega), w32_ok (z := v * 9 + k) (by omega) (by omega), n_first hx.1 (by omega) (by omega), schL]
      simp only [Option.bind_some]
      rw [w32_ok (z := k + 1) (by omega) (by omega)]
      by_cases e1 : sfst S (v * 9 + k) = -1
      · rw [if_pos e1, if_pos (Or.inl e1)]
        exact IH c b
      · have hs := sfst_in I.w.2.2.2 (by omega) (by omega) e1
        rw [if_neg e1, qld_ok hs.1 (by omega), rx_17 hx.1 hs.1 hs.2.1 hc.1.2, rz_10 hx.1]
        by_cases e2 : S 17 (sfst S (v * 9 + k)) = S 0 10
        · rw [if_pos e2, if_pos (Or.inr (Or.inl e2))]
          exact IH c b
        · rw [if_neg e2, n_canGo hx I.w v0 v1 k0 e d0 d1]
          simp only [Option.bind_some]
          cases e3 : scg S v k d with
          | false =>
            rw [if_bf, if_pos (Or.inr (Or.inr rfl))]
            exact IH c b
          | true =>
            rw [if_bt, if_neg (by rintro (h | h | h); exact e1 h; exact e2 h; cases h), n_continues hx I.w v0 v1 k0 e d0 d1]
            simp only [Option.bind_some]
            cases e4 : scn S v k d with
            | true => rw [if_bt, if_pos rfl]
            | false =>
              rw [if_bf, if_neg (show ¬ false = true by decide)]
              by_cases e5 : b = -1
              · rw [if_pos e5, if_pos (Or.inl e5)]
                exact h95 _
              · rw [if_neg e5]
                by_cases e6 : sfst S (v * 9 + k) < b
                · rw [if_pos e6, if_pos (Or.inr e6)]
                  exact h95 _
                · rw [if_neg e6, if_neg (by rintro (h | h); exact e5 h; exact e6 h)]
                  exact IH c b
    · have : j = 0 := by omega
      subst this
      rw [if_neg e]
      rfl
theorem n_chosen (hx : NX o w S) (I : IV S) (v0 : 0 ≤ v) (v1 : v < S 1 3 * S 1 4) (d0 : 0 ≤ d) (d1 : d < 4) : f_N_chosenQueue o v d w = some (sch S v d, w) :=
  n_chosenL hx I v0 v1 d0 d1 qFU 9 (-1) (-1) 0 (by omega) (by omega) (by unfold qFU; omega)
theorem schL_ok : ∀ (n : Nat) (c b k : Int), 0 ≤ k → (c = -1 ∨ (0 ≤ c ∧ c < k + n ∧ scg S v c d = true)) → schL S v d n c b k = -1 ∨ (0 ≤ schL S v d n c b k ∧ schL S v d n c b k < k + n ∧ scg S v (schL S v d n c b k) d = true) := by
  intro n
  induction n with
  | zero => intro c b k _ h; rw [schL]; exact h
  | succ n ih =>
    intro c b k k0 h
    have h' : c = -1 ∨ (0 ≤ c ∧ c < k + 1 + (n : Int) ∧ scg S v c d = true) := by
      rcases h with h | h
      · exact Or.inl h
      · exact Or.inr ⟨h.1, by omega, h.2.2⟩
    have e : k + ((n + 1 : Nat) : Int) = k + 1 + n := by omega
    rw [schL, e]
    split
    · exact ih c b (k + 1) (by omega) h'
    · rename_i hn
      have hg : scg S v k d = true := by
        cases q : scg S v k d with
        | true => rfl
        | false => exact absurd (Or.inr (Or.inr q)) hn
      split
      · exact Or.inr ⟨k0, by omega, hg⟩
      · split
        · exact ih k _ (k + 1) (by omega) (Or.inr ⟨k0, by omega, hg⟩)
        · exact ih c b (k + 1) (by omega) h'
theorem sch_ok (h : sch S v d ≠ -1) : 0 ≤ sch S v d ∧ sch S v d < 9 ∧ scg S v (sch S v d) d = true := by
  have := (schL_ok (S := S) (v := v) (d := d) 9 (-1) (-1) 0 (by omega) (Or.inl rfl)).resolve_left h
  exact ⟨this.1, by have := this.2.1; exact this, this.2.2⟩
/-- what stays as it is while nodes go -/
def KG (c m : Int) (g : Int → Int) (S : qMem) : Prop := IV S ∧ (S 0 10 = c ∧ S 1 = g) ∧ S 22 1 ≤ m
theorem KG.gc {m : Int} {g : Int → Int} (K : KG c m g S) (hm : m < 64) (v0 : 0 ≤ v) (v1 : v < g 3 * g 4) (d0 : 0 ≤ d) (d1 : d < 4) : KG c (m + 1) g (sgc S v d) := by
  obtain ⟨I, ⟨e1, e2⟩, e3⟩ := K
  unfold sgc
  by_cases e : sch S v d = -1
  · rw [if_pos e]; exact ⟨I, ⟨e1, e2⟩, by omega⟩
  · rw [if_neg e]
    have hk := sch_ok e
    have v1' : v < S 1 3 * S 1 4 := by rw [e2]; exact v1
    exact ⟨I.go v0 v1' hk.1 hk.2.1 d0 d1 (sok_of d0 hk.2.2) (by omega), ⟨by rw [sgo_0 (by decide)]; exact e1, by rw [sgo_r (by decide) (by decide) (by decide) (by decide) (by decide) (by decide) (by decide) (by decide) (by decide) (by decide) (by decide) (by decide) (by decide) (by decide) (by decide) (by decide) (by decide) (by decide)]; exact e2⟩, by rw [sgo_22]; omega⟩
theorem n_tick59 {r22 : Int → Int → qMem → Option (Int × qMem)} {x1 x2 m : Int} {g : Int → Int} (hx : NX o w S) (K : KG c m g S) (hm : m + 4 ≤ 64) (v0 : 0 ≤ v) (v1 : v < g 3 * g 4) : ∃ w', (NX o w' (itk (fun d S => sgc S v d) 4 S) ∧ FN o w w' ∧ KG c (m + 4) g (itk (fun d S => sgc S v d) 4 S)) ∧ f_N_runTick_59 o r22 qFU x1 x2 v 0 w = r22 x1 (w32 (x2 + 1)) w' := by
  have := it_loop (N := 4) (L := fun m x w => f_N_runTick_59 o r22 m x1 x2 v x w) (ex := fun w => r22 x1 (w32 (x2 + 1)) w) (F := fun d S => sgc S v d) (R := fun x w' S => NX o w' S ∧ FN o w w' ∧ KG c (m + x) g S)
    (by
      intro n x w2 S2 x0 x1' ⟨h1, h2, h3⟩
      have v1' : v < S2 1 3 * S2 1 4 := by rw [h3.2.1.2]; exact v1
      have hK := h3.gc (by omega) v0 v1 x0 x1'
      rw [show m + x + 1 = m + (x + 1) by omega] at hK
      unfold sgc at hK ⊢
      rw [f_N_runTick_59, if_pos x1', n_chosen h1 h3.1 v0 v1' x0 x1']
      simp only [Option.bind_some]
      rw [w32_ok (z := x + 1) (by omega) (by omega)]
      by_cases e : sch S2 v x = -1
      · rw [if_pos e] at hK ⊢
        exact ⟨w2, ⟨h1, h2, hK⟩, by rw [if_pos e]⟩
      · rw [if_neg e] at hK ⊢
        rw [if_neg e]
        have hk := sch_ok e
        have hmm := h3.2.2
        obtain ⟨w3, e3, h5, h6⟩ := n_goFrom h1 h3.1 v0 v1' hk.1 hk.2.1 x0 x1' (sok_of x0 hk.2.2) (by omega)
        rw [e3]
        exact ⟨w3, ⟨h5, h2.tr h6, hK⟩, rfl⟩)
    (by
      intro n w2 S2 _
      show f_N_runTick_59 o r22 (n + 1) x1 x2 v 4 w2 = _
      rw [f_N_runTick_59, if_neg (by decide)])
    (w := w) (S := S) ⟨hx, FN.rfl', by rw [Int.add_zero]; exact K⟩ (by omega) (by omega)
  exact this
end NT
