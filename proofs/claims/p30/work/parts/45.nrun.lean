/-! marks; a whole tick of a net -/
section NR3
variable {o : Nat} {w w0 S : qMem} {q p v k d a b c t n l h r : Int}
theorem n_setMark (hx : NX o w S) (r0 : 0 ≤ r) (r1 : r < 16) : kT (f_R_setMark (o + 24) r v w) (fun w' => NX o w' (qud (qud (qud S 26 r v) 27 r v) 24 9 (w32 (S 24 9 + 1))) ∧ FN o w w') := by
  unfold f_R_setMark
  rw [qst_ok r0 r1, qst_ok r0 r1, qlt_ok, qud_nk (by omega), qud_nk (by omega), show w (o + 24) 9 = S 24 9 from rx_24_9 hx.1]
  exact kT_some ⟨((hx.v (f := 26) (by decide)).v (f := 27) (by decide)).v (f := 24) (by decide), ((FN.rfl'.q (f := 26) (by decide) (by decide)).q (f := 27) (by decide) (by decide)).q (f := 24) (by decide) (by decide)⟩
theorem n_endMark (hx : NX o w S) (r0 : 0 ≤ r) (r1 : r < 16) : kT (f_R_endMark (o + 24) r w) (fun w' => NX o w' (sme S r) ∧ FN o w w') := by
  unfold f_R_endMark
  rw [qst_ok r0 r1, qst_ok r0 r1, qst_ok r0 r1]
  exact kT_some ⟨((hx.v (f := 26) (by decide)).v (f := 27) (by decide)).v (f := 28) (by decide), ((FN.rfl'.q (f := 26) (by decide) (by decide)).q (f := 27) (by decide) (by decide)).q (f := 28) (by decide) (by decide)⟩
theorem n_carryMark (hx : NX o w S) (r0 : 0 ≤ r) (r1 : r < 2 * (S 1 3 + S 1 4)) (hr : 2 * (S 1 3 + S 1 4) ≤ 16) : kT (f_R_carryMark (o + 24) r v w) (fun w' => NX o w' (smc S r v) ∧ FN o w w') := by
  have h1 := hx.v (f := 27) (n := r) (v := v) (by decide)
  have f1 := (FN.rfl' (o := o) (w := w)).q (f := 27) (n := r) (v := v) (by decide) (by decide)
  have e1 : qud S 27 r v 1 = S 1 := qud_row (by decide)
  unfold f_R_carryMark smc
  rw [qst_ok r0 (by omega), qld_ok r0 (by omega), qld_ok r0 (by omega)]
  rw [show qud w (o + 24 + 3) r v (o + 24 + 2) r = S 26 r from by
    have := rx_26 h1.1 r0 (by rw [e1]; exact r1) (by rw [e1]; exact hr)
    rw [qud_nk (show (26 : Nat) ≠ 27 by decide)] at this
    exact this]
  rw [show qud w (o + 24 + 3) r v (o + 24 + 4) r = S 28 r from by
    have := rx_28 h1.1 r0 (by rw [e1]; exact r1) (by rw [e1]; exact hr)
    rw [qud_nk (show (28 : Nat) ≠ 27 by decide)] at this
    exact this]
  by_cases e : v = S 26 r
  · rw [if_pos e, if_pos e]
    exact kT_some ⟨h1, f1⟩
  · rw [if_neg e, if_neg e, qst_ok r0 (by omega)]
    exact kT_some ⟨h1.v (f := 28) (by decide), f1.q (f := 28) (by decide) (by decide)⟩
theorem IV.me (I : IV S) : IV (sme S r) := I.mq (fun g _ b c d => sme_r b c d) I.2.2.1.me
theorem n_marks94 {r2 : Int → qMem → Option qMem} (hx : NX o w S) (I : IV S) (r0 : 0 ≤ r) (r1 : r < 2 * (S 1 3 + S 1 4)) : ∃ w', (NX o w' (sms S r) ∧ FN o w w') ∧ f_N_turnMarks_94 o r2 r (gd (S 1 3) (S 1 4) r) w = r2 (w32 (r + 1)) w' := by
  have hg := I.1.1
  obtain ⟨⟨ga, gb⟩, gc, gd'⟩ := hg
  unfold f_N_turnMarks_94 sms
  rw [n_hungriest hx I r0 r1]
  simp only [Option.bind_some]
  by_cases e : shg S r = -1
  · rw [if_pos e, if_pos e]
    exact ⟨w, ⟨hx, FN.rfl'⟩, rfl⟩
  · rw [if_neg e, if_neg e]
    obtain ⟨w', e2, h⟩ := n_setMark (v := shg S r) hx r0 (by omega)
    rw [e2]
    exact ⟨w', h, rfl⟩
theorem n_marks81 {r2 : Int → qMem → Option qMem} (hx : NX o w S) (I : IV S) (r0 : 0 ≤ r) (r1 : r < 2 * (S 1 3 + S 1 4)) (he : S 26 r = -1 ∨ S 31 (S 26 r * 4 + gd (S 1 3) (S 1 4) r) ≤ 0) : ∃ w', (NX o w' (smk S r) ∧ FN o w w') ∧ f_N_turnMarks_81 o r2 r (gd (S 1 3) (S 1 4) r) (S 26 r) w = r2 (w32 (r + 1)) w' := by
  have hg := I.1.1
  obtain ⟨⟨ga, gb⟩, gc, gd'⟩ := hg
  unfold f_N_turnMarks_81 smk
  by_cases e : S 26 r = -1
  · rw [if_pos e, if_pos e]
    exact n_marks94 hx I r0 r1
  · rw [if_neg e, if_neg e, if_pos (he.resolve_left e)]
    obtain ⟨w', e2, h1, h2⟩ := n_endMark hx r0 (by omega)
    rw [e2]
    have e1 : sme S r 1 = S 1 := sme_r (by decide) (by decide) (by decide)
    obtain ⟨w2, ⟨a, b⟩, e3⟩ := n_marks94 (r2 := r2) h1 I.me r0 (by rw [e1]; exact r1)
    rw [e1] at e3
    exact ⟨w2, ⟨a, h2.tr b⟩, e3⟩
theorem n_turnMarks (hx : NX o w S) (I : IV S) : kT (f_N_turnMarks o w) (fun w' => (NX o w' (itk (fun r S => smk S r) (2 * (S 1 3 + S 1 4)).toNat S) ∧ FN o w w') ∧ IV (itk (fun r S => smk S r) (2 * (S 1 3 + S 1 4)).toNat S) ∧ itk (fun r S => smk S r) (2 * (S 1 3 + S 1 4)).toNat S 1 = S 1) := by
  have hg := I.1.1
  obtain ⟨⟨ga, gb⟩, gc, gd'⟩ := hg
  have := it_loop (N := 2 * (S 1 3 + S 1 4)) (L := fun n x w => f_N_turnMarks_2 o n x w) (ex := fun w => some w) (F := fun r S => smk S r) (R := fun x w' S' => (NX o w' S' ∧ FN o w w') ∧ IV S' ∧ S' 1 = S 1)
    (by
      intro n x w2 S2 x0 x8 ⟨⟨h1, h2⟩, h3, h4⟩
      have hN := gN h3.1.1
      have e5 : w2 (o + 1) 6 = 2 * (S 1 3 + S 1 4) := by rw [h1.2.2.1.2, h4]
      have x8' : x < 2 * (S2 1 3 + S2 1 4) := by rw [h4]; exact x8
      have hr16 : 2 * (S2 1 3 + S2 1 4) ≤ 16 := by rw [h4]; omega
      have hd := gd_in (W := S2 1 3) (H := S2 1 4) (r := x)
      have hI := h3.mk x0 x8'
      have h1' : smk S2 x 1 = S 1 := by rw [smk_r (by decide) (by decide) (by decide) (by decide)]; exact h4
      have step : (S2 26 x = -1 ∨ S2 31 (S2 26 x * 4 + gd (S2 1 3) (S2 1 4) x) ≤ 0) → ∃ w', ((NX o w' (smk S2 x) ∧ FN o w w') ∧ IV (smk S2 x) ∧ smk S2 x 1 = S 1) ∧ f_N_turnMarks_81 o (f_N_turnMarks_2 o n) x (gd (S2 1 3) (S2 1 4) x) (S2 26 x) w2 = f_N_turnMarks_2 o n (x + 1) w' := by
        intro he
        obtain ⟨w', ⟨a, b⟩, e⟩ := n_marks81 (r2 := f_N_turnMarks_2 o n) h1 h3 x0 x8' he
        rw [w32_ok (z := x + 1) (by omega) (by omega)] at e
        exact ⟨w', ⟨⟨a, h2.tr b⟩, hI, h1'⟩, e⟩
      rw [f_N_turnMarks_2, e5, if_pos x8, g_ringDirection h1.2.1 h3.1.1]
      simp only [Option.bind_some]
      rw [qld_ok x0 (by omega), rx_26 h1.1 x0 x8' hr16]
      by_cases e : S2 26 x = -1
      · rw [if_pos e]
        exact step (Or.inl e)
      · have hx' := ((h3.2.2.1 x x0 (by omega)).1 x8').2.resolve_left e
        have hm := gn_in h3.1.1 hx'.2.1 hx'.2.2 hd.1 hd.2
        rw [if_neg e, w32_ok (z := S2 26 x * 4) (by omega) (by omega), w32_ok (by omega) (by omega), qld_ok (by omega) (by omega), rx_31 h1.1 (by omega) (by omega)]
        by_cases e2 : S2 31 (S2 26 x * 4 + gd (S2 1 3) (S2 1 4) x) ≤ 0
        · rw [if_pos e2]
          exact step (Or.inr e2)
        · rw [if_neg e2, qld_ok x0 (by omega), rx_27 h1.1 x0 x8' hr16, g_nextBy h1.2 h3.1.1 hx'.2.1 hx'.2.2 hd.1 hd.2]
          simp only [Option.bind_some]
          obtain ⟨w', e3, a, b⟩ := n_carryMark (v := gn (S2 1 3) (S2 1 4) (S2 27 x) (gd (S2 1 3) (S2 1 4) x)) h1 x0 x8' hr16
          rw [e3]
          simp only [Option.bind_some]
          rw [w32_ok (z := x + 1) (by omega) (by omega)]
          refine ⟨w', ⟨⟨?_, h2.tr b⟩, hI, h1'⟩, rfl⟩
          unfold smk
          rw [if_neg e, if_neg e2]
          exact a)
    (by
      intro n w2 S2 ⟨⟨h1, _⟩, _, h4⟩
      have e5 : w2 (o + 1) 6 = 2 * (S 1 3 + S 1 4) := by rw [h1.2.2.1.2, h4]
      show f_N_turnMarks_2 o (n + 1) _ w2 = _
      rw [f_N_turnMarks_2, e5, if_neg (by omega)])
    (w := w) (S := S) ⟨⟨hx, FN.rfl'⟩, I, rfl⟩ (by omega) (by omega)
  obtain ⟨w', hr, e⟩ := this
  exact ⟨w', e, hr⟩
theorem n_forget (hx : NX o w S) : kT (f_R_forgetEntries (o + 24) w) (fun w' => NX o w' (sfg S) ∧ FN o w w') := by
  have := k_loop (σ := qMem) (ρ := qMem) 64 (fun m i s => f_R_forgetEntries_2 (o + 24) m i s) some
    (fun i s => (0 ≤ i ∧ i ≤ 64) ∧ ∀ k j, s k j = if k = o + 33 ∧ 0 ≤ j ∧ j < i then 0 else w k j)
    (by
      intro m i s ⟨⟨i0, i1⟩, hs⟩ hi
      refine ⟨qud s (o + 33) i 0, ⟨⟨by omega, by omega⟩, ?_⟩, ?_⟩
      · intro k j
        by_cases e : k = o + 33 ∧ j = i
        · rw [e.1, e.2, qud_s, if_pos ⟨rfl, by omega, by omega⟩]
        · rw [show qud s (o + 33) i 0 k j = s k j from if_neg e, hs]
          by_cases e2 : k = o + 33 ∧ 0 ≤ j ∧ j < i
          · rw [if_pos e2, if_pos (by omega)]
          · rw [if_neg e2, if_neg (by omega)]
      · rw [f_R_forgetEntries_2, if_pos hi, qstz_ok i0 hi (Or.inl rfl), w32_ok (by omega) (by omega)])
    (by
      intro m s _
      rw [f_R_forgetEntries_2, if_neg (by decide)])
    qFU 0 w ⟨by omega, fun k j => by rw [if_neg (by omega)]⟩ (by omega) (qFU_gt (by omega))
  obtain ⟨w', ⟨-, h⟩, e⟩ := this
  refine ⟨w', e, ⟨?_, ?_⟩, ?_⟩
  · intro f n hf hl
    rw [h]
    unfold sfg
    by_cases e2 : f = 33 ∧ 0 ≤ n ∧ n < 64
    · rw [if_pos (by omega), if_pos e2]
    · rw [if_neg (by omega), if_neg e2]
      refine hx.1 f n hf ?_
      unfold lv at hl ⊢
      rw [sfg_r (by decide), sfg_r (by decide), sfg_r (by decide), sfg_r (by decide), sfg_r (by decide)] at hl
      exact hl
  · rw [sfg_r (by decide)]
    refine hx.2.fr (fun k k0 k1 => ?_)
    funext j
    rw [h, if_neg (by omega)]
  · intro k hk
    funext j
    rw [h, if_neg (by omega)]
theorem KG.of (K : IV S) (h22 : S 22 1 ≤ n) : KG (S 0 10) n (S 1) S := ⟨K, ⟨rfl, rfl⟩, h22⟩
theorem itk_cg {F G : Int → qMem → qMem} {P : Int → qMem → Prop} (h0 : P 0 S) : ∀ (n : Nat), (∀ (x : Int) s, 0 ≤ x → x < (n : Int) → P x s → F x s = G x s ∧ P (x + 1) (G x s)) → itk F n S = itk G n S ∧ P n (itk G n S) := by
  intro n
  induction n with
  | zero => intro _; exact ⟨rfl, h0⟩
  | succ n ih =>
    intro h
    obtain ⟨e, hp⟩ := ih (fun x s a b c => h x s a (by omega) c)
    have := h n _ (by omega) (by omega) hp
    refine ⟨?_, this.2⟩
    show F n (itk F n S) = G n (itk G n S)
    rw [e]
    exact this.1
/-- which node is the i-th in turn -/
def kvi (c N i : Int) : Int := (c % N + i) % N
theorem kvi_in (hN : 4 ≤ n) : 0 ≤ kvi c n t ∧ kvi c n t < n := ⟨Int.emod_nonneg _ (by omega), Int.emod_lt_of_pos _ (by omega)⟩
theorem n_tick22 {x1 : Int} {g : Int → Int} (hx : NX o w S) (K : KG c 0 g S) (hc : 0 ≤ c ∧ c ≤ 1000000) : ∃ w', (NX o w' (itk (fun i S => itk (fun d S => sgc S (kvi c (g 3 * g 4) i) d) 4 S) (g 3 * g 4).toNat S) ∧ FN o w w' ∧ KG c 64 g (itk (fun i S => itk (fun d S => sgc S (kvi c (g 3 * g 4) i) d) 4 S) (g 3 * g 4).toNat S)) ∧ f_N_runTick_22 o qFU x1 0 w = f_N_runTick_101 o x1 w' := by
  have hN := gN K.1.1.1
  rw [K.2.1.2] at hN
  have := it_loop (N := g 3 * g 4) (L := fun n x w => f_N_runTick_22 o n x1 x w) (ex := fun w => f_N_runTick_101 o x1 w) (F := fun i S => itk (fun d S => sgc S (kvi c (g 3 * g 4) i) d) 4 S) (R := fun x w' S' => NX o w' S' ∧ FN o w w' ∧ KG c (4 * x) g S')
    (by
      intro n x w2 S2 x0 x8 ⟨h1, h2, h3⟩
      have e5 : w2 (o + 1) 5 = g 3 * g 4 := by rw [h1.2.2.1.1, h3.2.1.2]
      have e10 : w2 o 10 = c := by rw [rz_10 h1.1, h3.2.1.1]
      have hk := kvi_in (c := c) (t := x) hN.1
      have hm0 := Int.emod_nonneg c (b := g 3 * g 4) (by omega)
      have hm1 := Int.emod_lt_of_pos c (b := g 3 * g 4) (by omega)
      obtain ⟨w', ⟨a, b, c'⟩, e⟩ := n_tick59 (r22 := f_N_runTick_22 o n) (x1 := x1) (x2 := x) h1 h3 (by omega) hk.1 hk.2
      rw [f_N_runTick_22, e5, if_pos x8, qdv_ok (by omega), qdv_ok (by omega), e10, jrem_ok hc.1 (by omega) (by omega) (by omega), w32_ok (by omega) (by omega), jrem_ok (by omega) (by omega) (by omega) (by omega)]
      rw [show (c % (g 3 * g 4) + x) % (g 3 * g 4) = kvi c (g 3 * g 4) x from rfl, e, w32_ok (z := x + 1) (by omega) (by omega)]
      exact ⟨w', ⟨a, h2.tr b, by rw [show 4 * (x + 1) = 4 * x + 4 by omega]; exact c'⟩, rfl⟩)
    (by
      intro n w2 S2 ⟨h1, _, h3⟩
      have e5 : w2 (o + 1) 5 = g 3 * g 4 := by rw [h1.2.2.1.1, h3.2.1.2]
      show f_N_runTick_22 o (n + 1) x1 _ w2 = _
      rw [f_N_runTick_22, e5, if_neg (by omega)])
    (w := w) (S := S) ⟨hx, FN.rfl', by rw [Int.mul_zero]; exact K⟩ (by omega) (by omega)
  obtain ⟨w', ⟨a, b, c'⟩, e⟩ := this
  exact ⟨w', ⟨a, b, ⟨c'.1, c'.2.1, by have := c'.2.2; omega⟩⟩, e⟩
/-- the same with the clock and the sizes of the state in hand -/
theorem skg_eq {g : Int → Int} (K : KG c 0 g S) : skg S = itk (fun i S => itk (fun d S => sgc S (kvi c (g 3 * g 4) i) d) 4 S) (g 3 * g 4).toNat S := by
  have hN := gN K.1.1.1
  rw [K.2.1.2] at hN
  unfold skg
  rw [K.2.1.2]
  refine (itk_cg (P := fun x s => KG c (4 * x) g s) (by rw [Int.mul_zero]; exact K) (g 3 * g 4).toNat (fun x s x0 x1 hs => ?_)).1
  have hv := kvi_in (c := c) (t := x) hN.1
  have := itk_cg (S := s) (F := fun d S => sgc S ((S 0 10 % (S 1 3 * S 1 4) + x) % (S 1 3 * S 1 4)) d) (G := fun d S => sgc S (kvi c (g 3 * g 4) x) d) (P := fun y t => KG c (4 * x + y) g t) (by rw [Int.add_zero]; exact hs) 4 (fun y t y0 y1 ht => by
    refine ⟨?_, ?_⟩
    · show sgc t (kvi (t 0 10) (t 1 3 * t 1 4) x) y = _
      rw [ht.2.1.1, ht.2.1.2]
    · have := ht.gc (d := y) (by omega) hv.1 hv.2 y0 (by omega)
      rw [← Int.add_assoc]
      exact this)
  refine ⟨this.1, ?_⟩
  have h4 := this.2
  rw [show 4 * (x + 1) = 4 * x + ((4 : Nat) : Int) by omega]
  exact h4
theorem sdl_22 : sdl S v k 22 = S 22 := sdl_r (by decide) (by decide) (by decide) (by decide) (by decide) (by decide) (by decide)
theorem skd_22 : skd S 22 = S 22 := by
  unfold skd
  have := itk_i (F := fun v S => itk (fun k S => sdl S v (k + 1)) 8 S) (P := fun _ s => s 22 = S 22) (S := S) rfl (S 1 3 * S 1 4).toNat (fun x s _ _ hs => by
    have := itk_i (F := fun k S => sdl S x (k + 1)) (P := fun _ s => s 22 = S 22) (S := s) hs 8 (fun y t _ _ ht => by rw [sdl_22]; exact ht)
    exact this)
  exact this
theorem skm_iv (I : IV S) : IV (skm S) ∧ skm S 1 = S 1 := by
  unfold skm
  split
  · exact ⟨I, rfl⟩
  · have := itk_i (F := fun r S => smk S r) (P := fun _ s => IV s ∧ s 1 = S 1) (S := S) ⟨I, rfl⟩ (2 * (S 1 3 + S 1 4)).toNat (fun x s x0 x1 hs => by
      refine ⟨hs.1.mk x0 (by rw [hs.2]; omega), ?_⟩
      rw [smk_r (by decide) (by decide) (by decide) (by decide)]
      exact hs.2)
    exact this
theorem n_runTick {D : Int} (hx : NX o w S) (I : IV S) (hc : S 0 10 < 1000000) (hD : S 5 14 = w32 D) : ∃ x1 w', (NX o w' (stk S) ∧ FN o w w' ∧ IV (stk S) ∧ (stk S) 1 = S 1) ∧ (0 ≤ x1 ∧ x1 ≤ 144) ∧ (skd (sfg (qud S 22 1 0))) 5 14 = w32 (D + x1) ∧ f_N_runTick o w = some (x1, w') := by
  have hck := I.1.2.2.2.2.2.1
  unfold f_N_runTick
  rw [qlt_ok]
  have h1 : NX o (qud w (o + 22) 1 0) (qud S 22 1 0) := by
    refine hx.up (f := 22) (by decide) (by decide) (fun f' n' hl => ?_)
    obtain ⟨l0, l1, l2, l3, l4, l5⟩ := hl
    by_cases e : f' = 22 ∧ n' = 1
    · exact Or.inl e
    · rw [qud_nk (by decide)] at l1 l3
      rw [qud_nk (by decide), qud_nk (by decide)] at l2 l5
      rw [qud_s] at l4
      refine Or.inr ⟨l0, l1, l2, l3, fun hf => ?_, l5⟩
      have := l4 hf
      have h' := l0
      unfold vv at h'
      omega
  obtain ⟨w2, e2, h2, f2⟩ := n_forget h1
  rw [e2]
  simp only [Option.bind_some]
  have I2 : IV (sfg (qud S 22 1 0)) := (I.m0 (by omega) (by omega)).fg
  have hD2 : sfg (qud S 22 1 0) 5 14 = w32 D := by rw [sfg_r (by decide), qud_nk (by decide)]; exact hD
  obtain ⟨x1, w3, ⟨h3, f3, K3⟩, e3⟩ := n_deliver h2 I2 hD2
  rw [e3]
  simp only [Option.bind_some]
  have e1' : sfg (qud S 22 1 0) 1 = S 1 := by rw [sfg_r (by decide), qud_row (by decide)]
  have e0' : sfg (qud S 22 1 0) 0 = S 0 := by rw [sfg_r (by decide), qud_row (by decide)]
  have K4 : KG (S 0 10) 0 (S 1) (skd (sfg (qud S 22 1 0))) := ⟨K3.1, ⟨by rw [K3.2.1.1, e0'], by rw [K3.2.1.2, e1']⟩, by rw [skd_22, sfg_r (by decide), qud_s]; omega⟩
  obtain ⟨w4, ⟨h4, f4, K5⟩, e4⟩ := n_tick22 (x1 := x1) h3 K4 hck
  rw [← skg_eq K4] at h4 K5
  rw [e4]
  unfold f_N_runTick_101
  obtain ⟨w5, e5, h5, f5, I5, g5⟩ := n_feelHunger h4 K5.1
  rw [e5]
  simp only [Option.bind_some]
  have fin : ∀ w6, NX o w6 (skm (skh (skg (skd (sfg (qud S 22 1 0)))))) → FN o w5 w6 → ∃ w', (NX o w' (stk S) ∧ FN o w w' ∧ IV (stk S) ∧ (stk S) 1 = S 1) ∧ f_N_runTick_116 o x1 w6 = some (x1, w') := by
    intro w6 h6 f6
    have h7 := skm_iv I5
    have h0c : skm (skh (skg (skd (sfg (qud S 22 1 0))))) 0 10 = S 0 10 := by
      have hm : ∀ T : qMem, skm T 0 = T 0 := fun T => by
        unfold skm
        split
        · rfl
        · exact itk_i (F := fun r S => smk S r) (P := fun _ s => s 0 = T 0) (S := T) rfl _ (fun x s _ _ hs => by rw [smk_r (by decide) (by decide) (by decide) (by decide)]; exact hs)
      have hh : ∀ T : qMem, skh T 0 = T 0 := fun T => by
        unfold skh
        exact itk_i (F := fun v S => itk (fun d S => shu S v d) 4 S) (P := fun _ s => s 0 = T 0) (S := T) rfl _ (fun x s _ _ hs => itk_i (F := fun d S => shu S x d) (P := fun _ s => s 0 = T 0) (S := s) hs 4 (fun y t _ _ ht => by rw [shu_r (by decide) (by decide)]; exact ht))
      rw [hm, hh, K5.2.1.1]
    obtain ⟨w7, e7, h8, f7, I7, g7⟩ := n_noteFewest h6 h7.1
    have hw0 : skw (skm (skh (skg (skd (sfg (qud S 22 1 0)))))) 0 10 = S 0 10 := by
      rw [← h0c]
      unfold skw
      have := itk_i (F := fun r S => sfw S r) (P := fun _ s => s 0 = skm (skh (skg (skd (sfg (qud S 22 1 0))))) 0) (S := skm (skh (skg (skd (sfg (qud S 22 1 0)))))) rfl (2 * (skm (skh (skg (skd (sfg (qud S 22 1 0))))) 1 3 + skm (skh (skg (skd (sfg (qud S 22 1 0))))) 1 4)).toNat (fun x s _ _ hs => by rw [sfw_r (by decide)]; exact hs)
      exact congrFun this 10
    unfold f_N_runTick_116
    rw [e7]
    simp only [Option.bind_some]
    rw [qlt_ok, rz_10 h8.1, hw0, w32_ok (by omega) (by omega)]
    have hs : stk S = skc (skw (skm (skh (skg (skd (sfg (qud S 22 1 0))))))) := rfl
    refine ⟨_, ⟨?_, ?_, ?_, ?_⟩, rfl⟩
    · rw [hs]
      unfold skc
      rw [hw0]
      exact h8.u (f := 0) (by decide) (by decide) (by decide) (by decide) (by decide) (by decide)
    · refine FN.q ((((((FN.rfl'.q (f := 22) (by decide) (by decide)).tr f2).tr f3).tr f4).tr f5).tr (f6.tr f7)) (f := 0) (by decide) (by decide)
    · rw [hs]
      exact I7.ck (by rw [hw0]; exact hc)
    · rw [hs]
      unfold skc
      rw [qud_row (by decide), g7, h7.2, g5, K5.2.1.2]
  rw [rz_9 h5.1]
  have hl : ∀ T : qMem, skm T = if T 0 9 ≤ 0 then T else itk (fun r S => smk S r) (2 * (T 1 3 + T 1 4)).toNat T := fun T => rfl
  by_cases e9 : skh (skg (skd (sfg (qud S 22 1 0)))) 0 9 ≤ 0
  · rw [if_pos e9]
    obtain ⟨w', h, e⟩ := fin w5 (by rw [hl, if_pos e9]; exact h5) FN.rfl'
    exact ⟨x1, w', h, K3.2.2.1, K3.2.2.2, e⟩
  · rw [if_neg e9]
    obtain ⟨w6, e6, ⟨h6, f6⟩, -⟩ := n_turnMarks h5 I5
    rw [e6]
    obtain ⟨w', h, e⟩ := fin w6 (by rw [hl, if_neg e9]; exact h6) f6
    exact ⟨x1, w', h, K3.2.2.1, K3.2.2.2, e⟩
end NR3
