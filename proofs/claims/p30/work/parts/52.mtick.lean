/-! a tick of the reference -/
def IX (S : qMem) : Prop := IB S ∧ w32 (S 0 11) = S 0 11 ∧ w32 (S 0 12) = S 0 12 ∧ w32 (S 5 14) = S 5 14
theorem w32_2 {z : Int} : w32 (w32 z) = w32 z := by
  unfold w32
  omega
theorem itk_map {F : Int → qMem → qMem} {G : qMem → qMem} (hc : ∀ (x : Int) S, F x (G S) = G (F x S)) {S : qMem} : ∀ n : Nat, itk F n (G S) = G (itk F n S) := by
  intro n
  induction n with
  | zero => rfl
  | succ n ih =>
    show F n (itk F n (G S)) = G (F n (itk F n S))
    rw [ih, hc]
section MT
variable {w w' w0 S S' : qMem} {v k d p q n r l t h b c x a : Int} {f : Nat}
theorem IX.co (X : IX S) (e8 : S' 8 = S 8) (e5 : S' 5 13 = S 5 13) (e11 : w32 (S' 0 11) = S' 0 11) (e12 : w32 (S' 0 12) = S' 0 12) (e14 : w32 (S' 5 14) = S' 5 14) : IX S' := by
  refine ⟨?_, e11, e12, e14⟩
  have := X.1
  unfold IB at this ⊢
  rw [e8, e5]
  exact this
theorem IX.rw' (X : IX S) (e8 : S' 8 = S 8) (e5 : S' 5 = S 5) (e0 : ∀ j, 10 < j → S' 0 j = S 0 j) : IX S' :=
  X.co e8 (by rw [e5]) (by rw [e0 11 (by decide)]; exact X.2.1) (by rw [e0 12 (by decide)]; exact X.2.2.1) (by rw [e5]; exact X.2.2.2)
theorem IX.dl (X : IX S) : IX (sdl S v k) := by
  have r0 : sdl S v k 0 = S 0 := sdl_r (by decide) (by decide) (by decide) (by decide) (by decide) (by decide) (by decide)
  refine X.co (sdl_r (by decide) (by decide) (by decide) (by decide) (by decide) (by decide) (by decide)) sdl_c (by rw [r0]; exact X.2.1) (by rw [r0]; exact X.2.2.1) ?_
  unfold sdl
  split
  · rw [sdv_14, w32_2]
  · exact X.2.2.2
theorem sgo_0p {j : Int} (hj : j ≠ 11) : sgo S v k d 0 j = S 0 j := by
  unfold sgo
  rw [qud_nk (by decide), sg2_f (by decide) (by decide) (by decide) (by decide) (by decide) (by decide) (by decide) (by decide) (by decide) (by decide) (by decide) (by decide) (by decide)]
  unfold sg1
  split
  · rw [qud_ni hj]
  · split
    · rfl
    · rw [qud_nk (by decide), qud_nk (by decide), qud_nk (by decide)]
theorem IX.go (X : IX S) : IX (sgo S v k d) := by
  have r5 : sgo S v k d 5 = S 5 := sgo_r (by decide) (by decide) (by decide) (by decide) (by decide) (by decide) (by decide) (by decide) (by decide) (by decide) (by decide) (by decide) (by decide) (by decide) (by decide) (by decide) (by decide) (by decide)
  refine X.co (sgo_r (by decide) (by decide) (by decide) (by decide) (by decide) (by decide) (by decide) (by decide) (by decide) (by decide) (by decide) (by decide) (by decide) (by decide) (by decide) (by decide) (by decide) (by decide)) (by rw [r5]) ?_ (by rw [sgo_0p (by decide)]; exact X.2.2.1) (by rw [r5]; exact X.2.2.2)
  unfold sgo
  rw [qud_nk (by decide), sg2_f (by decide) (by decide) (by decide) (by decide) (by decide) (by decide) (by decide) (by decide) (by decide) (by decide) (by decide) (by decide) (by decide)]
  unfold sg1
  split
  · rw [qud_s, w32_2]
  · split
    · exact X.2.1
    · rw [qud_nk (by decide), qud_nk (by decide), qud_nk (by decide)]
      exact X.2.1
theorem IX.gc (X : IX S) : IX (sgc S v d) := by
  unfold sgc
  split
  · exact X
  · exact X.go
theorem IX.qq (X : IX S) (hf : f ≠ 8 ∧ f ≠ 5 ∧ (f = 0 → n ≤ 10)) : IX (qud S f n x) := by
  refine X.rw' (qud_row (Ne.symm hf.1)) (qud_row (Ne.symm hf.2.1)) (fun j hj => ?_)
  by_cases e : f = 0
  · exact qud_ni (by have := hf.2.2 e; omega)
  · exact qud_nk (Ne.symm e)
theorem IX.hu (X : IX S) : IX (shu S v d) := (X.qq (by omega)).qq (by omega)
theorem IX.fg (X : IX S) : IX (sfg S) := X.rw' (sfg_r (by decide)) (sfg_r (by decide)) (fun j _ => by rw [sfg_r (by decide)])
theorem IX.mk (X : IX S) : IX (smk S r) := X.rw' (smk_r (by decide) (by decide) (by decide) (by decide)) (smk_r (by decide) (by decide) (by decide) (by decide)) (fun j _ => by rw [smk_r (by decide) (by decide) (by decide) (by decide)])
theorem IX.fw (X : IX S) : IX (sfw S r) := X.qq (by omega)
theorem IX.ck (X : IX S) : IX (skc S) := X.qq ⟨by decide, by decide, fun _ => by decide⟩
/-- what commutes -/
theorem sfg_q (h33 : f ≠ 33) : sfg (qud S f n x) = qud (sfg S) f n x := by
  funext g m
  show (if g = 33 ∧ 0 ≤ m ∧ m < 64 then 0 else (if g = f ∧ m = n then x else S g m)) = (if g = f ∧ m = n then x else (if g = 33 ∧ 0 ≤ m ∧ m < 64 then 0 else S g m))
  by_cases e : g = 33 ∧ 0 ≤ m ∧ m < 64
  · rw [if_pos e, if_neg (fun z => h33 (z.1.symm.trans e.1)), if_pos e]
  · rw [if_neg e, if_neg e]
theorem sfg_dr : sdr (sfg S) q = sfg (sdr S q) := by
  have e20 : sfg S 20 = S 20 := sfg_r (by decide)
  have e21 : sfg S 21 = S 21 := sfg_r (by decide)
  by_cases e : S 20 q ≤ 0
  · have e' : sfg S 20 q ≤ 0 := by rw [e20]; exact e
    unfold sdr
    rw [if_pos e, if_pos e']
  · have e' : ¬ sfg S 20 q ≤ 0 := by rw [e20]; exact e
    funext g m
    unfold sdr
    rw [if_neg e, if_neg e', e20, e21]
    unfold sfg
    by_cases e1 : g = 33 ∧ 0 ≤ m ∧ m < 64
    · rw [if_neg (fun z => absurd (z.1.symm.trans e1.1) (by decide)), if_neg (fun z => absurd (z.1.symm.trans e1.1) (by decide)), if_pos e1, if_pos e1]
    · rw [if_neg e1, if_neg e1]
theorem slt_co (e5 : S' 5 13 = S 5 13) (e6 : S' 6 = S 6) (e7 : S' 7 = S 7) (e9 : S' 9 = S 9) : slt S' p = slt S p := by
  unfold slt
  rw [e5]
  exact sltL_co e6 e7 e9 _ _
theorem sdv_fg : sdv (sfg S) p c = sfg (sdv S p c) := by
  have es : slt (sfg S) p = slt S p := slt_co (by rw [sfg_r (by decide)]) (sfg_r (by decide)) (sfg_r (by decide)) (sfg_r (by decide))
  unfold sdv
  rw [es, sfg_r (f := 5) (by decide), sfg_r (f := 35) (by decide), sfg_r (f := 8) (by decide)]
  rw [sfg_q (by decide), sfg_q (by decide), sfg_q (by decide), sfg_q (by decide), sfg_q (by decide), sfg_q (by decide)]
theorem sin_co (e1 : S' 7 = S 7) (e20 : S' 20 = S 20) (e21 : S' 21 = S 21) : sin S' v k = sin S v k := by
  unfold sin
  rw [sfst_co e20 e21, e1]
theorem sdl_fg : sdl (sfg S) v k = sfg (sdl S v k) := by
  unfold sdl
  rw [sin_co (sfg_r (by decide)) (sfg_r (by decide)) (sfg_r (by decide)), sfst_co (S := S) (sfg_r (by decide)) (sfg_r (by decide)), sfg_r (f := 0) (by decide), sfg_dr, sdv_fg]
  split <;> rfl
theorem sdv_q : sdv (qud S 22 n x) p c = qud (sdv S p c) 22 n x := by
  have es : slt (qud S 22 n x) p = slt S p := slt_co (qud_nk (by decide)) (qud_row (by decide)) (qud_row (by decide)) (qud_row (by decide))
  unfold sdv
  rw [es, qud_row (k := 22) (k' := 5) (by decide), qud_row (k := 22) (k' := 35) (by decide), qud_row (k := 22) (k' := 8) (by decide)]
  exact qsame (B := S) [(22, n, x), (15, _, _), (9, _, _), (13, _, _), (5, _, _), (35, _, _), (35, _, _)] [(15, _, _), (9, _, _), (13, _, _), (5, _, _), (35, _, _), (35, _, _), (22, _, _)] rfl
theorem sdl_q : sdl (qud S 22 n x) v k = qud (sdl S v k) 22 n x := by
  unfold sdl
  rw [sin_co (S := S) (qud_row (by decide)) (qud_row (by decide)) (qud_row (by decide)), sfst_co (S := S) (qud_row (by decide)) (qud_row (by decide)), qud_row (k := 22) (k' := 0) (by decide), sdr_q (by decide) (by decide), sdv_q]
  split <;> rfl
theorem skd_ov : skd (sfg (qud S 22 1 0)) = sfg (qud (skd S) 22 1 0) := by
  have e1 : sfg (qud S 22 1 0) 1 = S 1 := by rw [sfg_r (by decide), qud_row (by decide)]
  unfold skd
  rw [e1]
  exact itk_map (G := fun T => sfg (qud T 22 1 0)) (fun x T => itk_map (G := fun T => sfg (qud T 22 1 0)) (fun y T => by
    show sdl (sfg (qud T 22 1 0)) x (y + 1) = sfg (qud (sdl T x (y + 1)) 22 1 0)
    rw [sdl_fg, sdl_q]) 8) _
theorem shg_co (e0 : S' 0 9 = S 0 9) (e1 : S' 1 = S 1) (e31 : S' 31 = S 31) : shg S' r = shg S r := by
  have es : ∀ d, shgS S' d = shgS S d := fun d => by
    funext b v
    unfold shgS
    rw [e0, e31]
  unfold shg
  rw [e1, es]
theorem sms_q : sms (qud S 30 a x) r = qud (sms S r) 30 a x := by
  unfold sms
  rw [shg_co (S := S) (qud_nk (by decide)) (qud_row (by decide)) (qud_row (by decide)), qud_nk (show (24 : Nat) ≠ 30 by decide)]
  split
  · rfl
  · rw [qud_cm (k := 30) (k' := 26) (Or.inl (by decide)), qud_cm (k := 30) (k' := 27) (Or.inl (by decide)), qud_cm (k := 30) (k' := 24) (Or.inl (by decide))]
theorem sme_q : sme (qud S 30 a x) r = qud (sme S r) 30 a x := by
  unfold sme
  rw [qud_cm (k := 30) (k' := 26) (Or.inl (by decide)), qud_cm (k := 30) (k' := 27) (Or.inl (by decide)), qud_cm (k := 30) (k' := 28) (Or.inl (by decide))]
theorem smc_q {m : Int} : smc (qud S 30 a x) r m = qud (smc S r m) 30 a x := by
  unfold smc
  rw [qud_nk (show (26 : Nat) ≠ 30 by decide), qud_nk (show (28 : Nat) ≠ 30 by decide)]
  split
  · rw [qud_cm (k := 30) (k' := 27) (Or.inl (by decide))]
  · rw [qud_cm (k := 30) (k' := 27) (Or.inl (by decide)), qud_cm (k := 30) (k' := 28) (Or.inl (by decide))]
theorem smk_q : smk (qud S 30 a x) r = qud (smk S r) 30 a x := by
  unfold smk
  rw [qud_row (k := 30) (k' := 26) (by decide), qud_row (k := 30) (k' := 31) (by decide), qud_row (k := 30) (k' := 1) (by decide), qud_row (k := 30) (k' := 27) (by decide), sme_q, sms_q, sms_q, smc_q]
  split
  · rfl
  · split <;> rfl
theorem sfi_co (e0 : S' 0 6 = S 0 6) (e1 : S' 1 = S 1) (e20 : S' 20 = S 20) : sfi S' r = sfi S r := by
  unfold sfi shd
  rw [e0, e1, e20]
theorem sfw_mk {y : Int} : sfw (smk S r) y = smk (sfw S y) r := by
  have e0 : smk S r 0 = S 0 := smk_r (by decide) (by decide) (by decide) (by decide)
  unfold sfw
  rw [smk_q, sfi_co (S := S) (by rw [e0]) (smk_r (by decide) (by decide) (by decide) (by decide)) (smk_r (by decide) (by decide) (by decide) (by decide)), smk_r (f := 30) (by decide) (by decide) (by decide) (by decide)]
theorem itk_mw : ∀ n : Nat, itk (fun r T => sfw (smk T r) r) n S = itk (fun r T => sfw T r) n (itk (fun r T => smk T r) n S) := by
  intro n
  induction n with
  | zero => rfl
  | succ n ih =>
    show sfw (smk (itk (fun r T => sfw (smk T r) r) n S) n) n = sfw (itk (fun r T => sfw T r) n (smk (itk (fun r T => smk T r) n S) n)) n
    rw [ih, itk_map (G := fun T => smk T n) (fun y T => sfw_mk)]
theorem skmw : itk (fun r T => sfw (if T 0 9 ≤ 0 then T else smk T r) r) (2 * (S 1 3 + S 1 4)).toNat S = skw (skm S) := by
  have e1 : ∀ N : Nat, itk (fun r T => smk T r) N S 1 = S 1 := fun N => itk_i (F := fun r T => smk T r) (P := fun _ s => s 1 = S 1) (S := S) rfl N (fun y s _ _ hs => by rw [smk_r (by decide) (by decide) (by decide) (by decide)]; exact hs)
  by_cases e : S 0 9 ≤ 0
  · unfold skm skw
    rw [if_pos e]
    exact (itk_cg (S := S) (F := fun r T => sfw (if T 0 9 ≤ 0 then T else smk T r) r) (G := fun r T => sfw T r) (P := fun _ s => s 0 = S 0) rfl _ (fun y s _ _ hs => by
      refine ⟨?_, ?_⟩
      · rw [hs, if_pos e]
      · rw [sfw_r (by decide)]; exact hs)).1
  · unfold skm skw
    rw [if_neg e, e1]
    rw [← itk_mw]
    exact (itk_cg (S := S) (F := fun r T => sfw (if T 0 9 ≤ 0 then T else smk T r) r) (G := fun r T => sfw (smk T r) r) (P := fun _ s => s 0 = S 0) rfl _ (fun y s _ _ hs => by
      refine ⟨?_, ?_⟩
      · rw [hs, if_neg e]
      · rw [sfw_r (by decide), smk_r (by decide) (by decide) (by decide) (by decide)]; exact hs)).1
/-- the loops -/
theorem m_tick14 {r7 : Int → Int → qMem → Option qMem} {x1 : Int} {g : Int → Int} (hR : RM w S) (I : IV S) (X : IX S) (hg : S 1 = g) (v0 : 0 ≤ v) (v1 : v < g 3 * g 4) : ∃ w', (RM w' (itk (fun k S => sdl S v (k + 1)) 8 S) ∧ FM w w' ∧ IV (itk (fun k S => sdl S v (k + 1)) 8 S) ∧ IX (itk (fun k S => sdl S v (k + 1)) 8 S) ∧ itk (fun k S => sdl S v (k + 1)) 8 S 1 = g) ∧ f_M_ticks_14 r7 qFU x1 v 1 w = r7 x1 (w32 (v + 1)) w' := by
  have := it_loop (N := 8) (L := fun n x w => f_M_ticks_14 r7 n x1 v (x + 1) w) (ex := fun w => r7 x1 (w32 (v + 1)) w) (F := fun k S => sdl S v (k + 1)) (R := fun x w' S => RM w' S ∧ FM w w' ∧ IV S ∧ IX S ∧ S 1 = g)
    (by
      intro n x w2 S2 x0 x8 ⟨h1, h2, h3, h4, h5⟩
      have v1' : v < S2 1 3 * S2 1 4 := by rw [h5]; exact v1
      obtain ⟨w3, e3, h6, h7⟩ := m_delivers h1 h3 v0 v1' (k := x + 1) (by omega) (by omega)
      rw [f_M_ticks_14, if_pos (by omega), qbd e3, w32_ok (z := x + 1 + 1) (by omega) (by omega)]
      exact ⟨w3, ⟨h6, h2.tr h7, h3.dl v0 v1' (by omega) (by omega), h4.dl, by rw [sdl_r (by decide) (by decide) (by decide) (by decide) (by decide) (by decide) (by decide)]; exact h5⟩, rfl⟩)
    (by
      intro n w2 S2 _
      show f_M_ticks_14 r7 (n + 1) x1 v (8 + 1) w2 = _
      rw [f_M_ticks_14, if_neg (by decide)])
    (w := w) (S := S) ⟨hR, FM.rfl', I, X, hg⟩ (by omega) (by omega)
  exact this
theorem m_tick7 {x1 : Int} (hR : RM w S) (I : IV S) (X : IX S) (hx : x1 = S 1 3 * S 1 4) : ∃ w', (RM w' (skd S) ∧ FM w w' ∧ IV (skd S) ∧ IX (skd S) ∧ skd S 1 = S 1) ∧ f_M_ticks_7 qFU x1 0 w = f_M_ticks_38 x1 w' := by
  have hN := gN I.1.1
  have := it_loop (N := S 1 3 * S 1 4) (L := fun n x w => f_M_ticks_7 n x1 x w) (ex := fun w => f_M_ticks_38 x1 w) (F := fun v S => itk (fun k S => sdl S v (k + 1)) 8 S) (R := fun x w' S' => RM w' S' ∧ FM w w' ∧ IV S' ∧ IX S' ∧ S' 1 = S 1)
    (by
      intro n x w2 S2 x0 x8 ⟨h1, h2, h3, h4, h5⟩
      obtain ⟨w3, ⟨h6, h7, h8, h9, h10⟩, e3⟩ := m_tick14 (r7 := f_M_ticks_7 n) (x1 := x1) h1 h3 h4 h5 x0 x8
      rw [f_M_ticks_7, if_pos (by omega), e3, w32_ok (z := x + 1) (by omega) (by omega)]
      exact ⟨w3, ⟨h6, h2.tr h7, h8, h9, h10⟩, rfl⟩)
    (by
      intro n w2 S2 _
      show f_M_ticks_7 (n + 1) x1 _ w2 = _
      rw [f_M_ticks_7, if_neg (by omega)])
    (w := w) (S := S) ⟨hR, FM.rfl', I, X, rfl⟩ (by omega) (by omega)
  exact this
theorem m_tick48 {x1 : Int} (hR : RM w S) : ∃ w', (RM w' (sfg S) ∧ FM w w') ∧ f_M_ticks_48 qFU x1 0 w = f_M_ticks_71 x1 w' := by
  have := k_loop (σ := qMem) (ρ := qMem) 64 (fun m i s => f_M_ticks_48 m x1 i s) (fun s => f_M_ticks_71 x1 s)
    (fun i s => (0 ≤ i ∧ i ≤ 64) ∧ ∀ k j, s k j = if k = 89 ∧ 5834 ≤ j ∧ j < 5834 + i then 0 else w k j)
    (by
      intro m i s ⟨⟨i0, i1⟩, hs⟩ hi
      refine ⟨qud s 89 (5834 + i) 0, ⟨⟨by omega, by omega⟩, ?_⟩, ?_⟩
      · intro k j
        by_cases e : k = 89 ∧ j = 5834 + i
        · rw [e.1, e.2, qud_s, if_pos ⟨rfl, by omega, by omega⟩]
        · rw [show qud s 89 (5834 + i) 0 k j = s k j from if_neg e, hs]
          by_cases e2 : k = 89 ∧ 5834 ≤ j ∧ j < 5834 + i
          · rw [if_pos e2, if_pos (by omega)]
          · rw [if_neg e2, if_neg (by omega)]
      · rw [f_M_ticks_48, if_pos hi, w32_ok (z := 5834 + i) (by omega) (by omega), qst_ok (by omega) (by omega), w32_ok (by omega) (by omega)])
    (by
      intro m s _
      rw [f_M_ticks_48, if_neg (by decide)])
    qFU 0 w ⟨by omega, fun k j => by rw [if_neg (by omega)]⟩ (by omega) (qFU_gt (by omega))
  obtain ⟨w', ⟨-, hs⟩, e⟩ := this
  refine ⟨w', ⟨?_, ?_⟩, e⟩
  · intro f n hl
    have hc := ad_c (vv_of hl)
    rw [hs]
    unfold sfg
    by_cases e2 : f = 33 ∧ 0 ≤ n ∧ n < 64
    · rw [if_pos e2, if_pos ⟨rfl, by rw [e2.1, ad_33]; omega, by rw [e2.1, ad_33]; omega⟩]
    · rw [if_neg e2, if_neg (by omega)]
      refine hR f n ?_
      unfold lv at hl ⊢
      rw [sfg_r (by decide), sfg_r (by decide), sfg_r (by decide), sfg_r (by decide), sfg_r (by decide)] at hl
      exact hl
  · intro k hk
    funext j
    rw [hs, if_neg (fun z => hk z.1)]
theorem RM.m0 (hR : RM w S) : RM (qud w 89 15 0) (qud S 22 1 0) := by
  refine hR.up (f := 22) (n := 1) vv_22_1 (fun f' n' hl => ?_)
  obtain ⟨l0, l1, l2, l3, l4, l5⟩ := hl
  by_cases e : f' = 22 ∧ n' = 1
  · exact Or.inl e
  · rw [qud_nk (by decide)] at l1 l3
    rw [qud_nk (by decide), qud_nk (by decide)] at l2 l5
    rw [qud_s] at l4
    refine Or.inr ⟨l0, l1, l2, l3, fun hf => ?_, l5⟩
    have := l4 hf
    have h' := l0
    unfold vv at h'
    omega
theorem m_tick38 {x1 : Int} (hR : RM w S) : ∃ w', (RM w' (sfg (qud S 22 1 0)) ∧ FM w w') ∧ f_M_ticks_38 x1 w = f_M_ticks_71 x1 w' := by
  obtain ⟨w', ⟨h1, h2⟩, e⟩ := m_tick48 (x1 := x1) hR.m0
  unfold f_M_ticks_38
  rw [qst_ok (by decide) (by decide)]
  exact ⟨w', ⟨h1, (FM.rfl'.q).tr h2⟩, e⟩
theorem m_tick80 {r73 : Int → Int → qMem → Option qMem} {x1 x2 m : Int} {g : Int → Int} (hR : RM w S) (K : KG c m g S) (X : IX S) (hm : m + 4 ≤ 64) (hx : x1 = g 3 * g 4) (hc : 0 ≤ c ∧ c ≤ 1000000) (h20 : 0 ≤ x2 ∧ x2 ≤ 16) : ∃ w', (RM w' (itk (fun d S => sgc S (kvi c (g 3 * g 4) x2) d) 4 S) ∧ FM w w' ∧ KG c (m + 4) g (itk (fun d S => sgc S (kvi c (g 3 * g 4) x2) d) 4 S) ∧ IX (itk (fun d S => sgc S (kvi c (g 3 * g 4) x2) d) 4 S)) ∧ f_M_ticks_80 r73 qFU x1 x2 0 w = r73 x1 (w32 (x2 + 1)) w' := by
  have hN := gN K.1.1.1
  rw [K.2.1.2] at hN
  have hk := kvi_in (c := c) (t := x2) hN.1
  have := it_loop (N := 4) (L := fun n x w => f_M_ticks_80 r73 n x1 x2 x w) (ex := fun w => r73 x1 (w32 (x2 + 1)) w) (F := fun d S => sgc S (kvi c (g 3 * g 4) x2) d) (R := fun x w' S => RM w' S ∧ FM w w' ∧ KG c (m + x) g S ∧ IX S)
    (by
      intro n x w2 S2 x0 x8 ⟨h1, h2, h3, h4⟩
      have v1' : kvi c (g 3 * g 4) x2 < S2 1 3 * S2 1 4 := by rw [h3.2.1.2]; exact hk.2
      have hmm := h3.2.2
      obtain ⟨w3, e3, h6, h7⟩ := m_oneGoes h1 h3.1 h4.1 h4.2.1 hk.1 v1' x0 x8 (by omega)
      have ev : jrem (w32 (c + x2)) x1 = kvi c (g 3 * g 4) x2 := by
        rw [w32_ok (by omega) (by omega), jrem_ok (by omega) (by omega) (by omega) (by omega), hx]
        unfold kvi
        rw [Int.add_emod (c % (g 3 * g 4)), Int.emod_emod, ← Int.add_emod]
      rw [f_M_ticks_80, if_pos x8, qld_ok (by decide) (by decide), rm_0_10 h1, h3.2.1.1, qdv_ok (by omega), ev, qbd e3, w32_ok (z := x + 1) (by omega) (by omega)]
      exact ⟨w3, ⟨h6, h2.tr h7, by rw [← Int.add_assoc]; exact h3.gc (by omega) hk.1 hk.2 x0 x8, h4.gc⟩, rfl⟩)
    (by
      intro n w2 S2 _
      show f_M_ticks_80 r73 (n + 1) x1 x2 4 w2 = _
      rw [f_M_ticks_80, if_neg (by decide)])
    (w := w) (S := S) ⟨hR, FM.rfl', by rw [Int.add_zero]; exact K, X⟩ (by omega) (by omega)
  exact this
theorem m_tick73 {x1 : Int} {g : Int → Int} (hR : RM w S) (K : KG c 0 g S) (X : IX S) (hx : x1 = g 3 * g 4) (hc : 0 ≤ c ∧ c ≤ 1000000) : ∃ w', (RM w' (skg S) ∧ FM w w' ∧ KG c 64 g (skg S) ∧ IX (skg S)) ∧ f_M_ticks_73 qFU x1 0 w = f_M_ticks_113 x1 w' := by
  have hN := gN K.1.1.1
  rw [K.2.1.2] at hN
  rw [skg_eq K]
  have := it_loop (N := g 3 * g 4) (L := fun n x w => f_M_ticks_73 n x1 x w) (ex := fun w => f_M_ticks_113 x1 w) (F := fun i S => itk (fun d S => sgc S (kvi c (g 3 * g 4) i) d) 4 S) (R := fun x w' S' => RM w' S' ∧ FM w w' ∧ KG c (4 * x) g S' ∧ IX S')
    (by
      intro n x w2 S2 x0 x8 ⟨h1, h2, h3, h4⟩
      obtain ⟨w3, ⟨h6, h7, h8, h9⟩, e3⟩ := m_tick80 (r73 := f_M_ticks_73 n) (x1 := x1) (x2 := x) h1 h3 h4 (by omega) hx hc (by omega)
      rw [f_M_ticks_73, if_pos (by omega), e3, w32_ok (z := x + 1) (by omega) (by omega)]
      exact ⟨w3, ⟨h6, h2.tr h7, by rw [show 4 * (x + 1) = 4 * x + 4 by omega]; exact h8, h9⟩, rfl⟩)
    (by
      intro n w2 S2 _
      show f_M_ticks_73 (n + 1) x1 _ w2 = _
      rw [f_M_ticks_73, if_neg (by omega)])
    (w := w) (S := S) ⟨hR, FM.rfl', by rw [Int.mul_zero]; exact K, X⟩ (by omega) (by omega)
  obtain ⟨w', ⟨a, b, c', d⟩, e⟩ := this
  exact ⟨w', ⟨a, b, ⟨c'.1, c'.2.1, by have := c'.2.2; omega⟩, d⟩, e⟩
theorem m_tick122 {r115 : Int → Int → qMem → Option qMem} {x1 : Int} {g : Int → Int} (hR : RM w S) (I : IV S) (X : IX S) (hg : S 1 = g) (v0 : 0 ≤ v) (v1 : v < g 3 * g 4) : ∃ w', (RM w' (itk (fun d S => shu S v d) 4 S) ∧ FM w w' ∧ IV (itk (fun d S => shu S v d) 4 S) ∧ IX (itk (fun d S => shu S v d) 4 S) ∧ itk (fun d S => shu S v d) 4 S 1 = g) ∧ f_M_ticks_122 r115 qFU x1 v 0 w = r115 x1 (w32 (v + 1)) w' := by
  have := it_loop (N := 4) (L := fun n x w => f_M_ticks_122 r115 n x1 v x w) (ex := fun w => r115 x1 (w32 (v + 1)) w) (F := fun d S => shu S v d) (R := fun x w' S => RM w' S ∧ FM w w' ∧ IV S ∧ IX S ∧ S 1 = g)
    (by
      intro n x w2 S2 x0 x8 ⟨h1, h2, h3, h4, h5⟩
      have v1' : v < S2 1 3 * S2 1 4 := by rw [h5]; exact v1
      have hN := gN h3.1.1
      obtain ⟨w3, e3, h6, h7⟩ := m_hungers h1 h3 v0 v1' x0 x8
      rw [f_M_ticks_122, if_pos x8, qbd e3, w32_ok (z := x + 1) (by omega) (by omega)]
      exact ⟨w3, ⟨h6, h2.tr h7, h3.hu v0 (by omega) x0 x8, h4.hu, by rw [shu_r (by decide) (by decide)]; exact h5⟩, rfl⟩)
    (by
      intro n w2 S2 _
      show f_M_ticks_122 r115 (n + 1) x1 v 4 w2 = _
      rw [f_M_ticks_122, if_neg (by decide)])
    (w := w) (S := S) ⟨hR, FM.rfl', I, X, hg⟩ (by omega) (by omega)
  exact this
theorem m_tick115 {x1 : Int} (hR : RM w S) (I : IV S) (X : IX S) (hx : x1 = S 1 3 * S 1 4) : ∃ w', (RM w' (skh S) ∧ FM w w' ∧ IV (skh S) ∧ IX (skh S) ∧ skh S 1 = S 1) ∧ f_M_ticks_115 qFU x1 0 w = f_M_ticks_145 w' := by
  have hN := gN I.1.1
  have := it_loop (N := S 1 3 * S 1 4) (L := fun n x w => f_M_ticks_115 n x1 x w) (ex := fun w => f_M_ticks_145 w) (F := fun v S => itk (fun d S => shu S v d) 4 S) (R := fun x w' S' => RM w' S' ∧ FM w w' ∧ IV S' ∧ IX S' ∧ S' 1 = S 1)
    (by
      intro n x w2 S2 x0 x8 ⟨h1, h2, h3, h4, h5⟩
      obtain ⟨w3, ⟨h6, h7, h8, h9, h10⟩, e3⟩ := m_tick122 (r115 := f_M_ticks_115 n) (x1 := x1) h1 h3 h4 h5 x0 x8
      rw [f_M_ticks_115, if_pos (by omega), e3, w32_ok (z := x + 1) (by omega) (by omega)]
      exact ⟨w3, ⟨h6, h2.tr h7, h8, h9, h10⟩, rfl⟩)
    (by
      intro n w2 S2 _
      show f_M_ticks_115 (n + 1) x1 _ w2 = _
      rw [f_M_ticks_115, if_neg (by omega)])
    (w := w) (S := S) ⟨hR, FM.rfl', I, X, rfl⟩ (by omega) (by omega)
  exact this
theorem m_tick169 {r147 : Int → qMem → Option qMem} (hR : RM w S) (I : IV S) (r0 : 0 ≤ r) (r1 : r < 2 * (S 1 3 + S 1 4)) : ∃ w', (RM w' (sfw S r) ∧ FM w w') ∧ f_M_ticks_169 r147 r w = r147 (w32 (r + 1)) w' := by
  have h16 := g16r I.1.1
  unfold f_M_ticks_169 sfw
  rw [qbd (m_freeIn hR I.w r0 r1), qbd (m_ringAt r0 (by omega))]
  dsimp only
  rw [w32_ok (z := 5274 + 6 * r + 5) (by omega) (by omega), qld_ok (by omega) (by omega), rm_30 hR (n := r) r0 r1 h16 (by omega)]
  by_cases e : sfi S r < S 30 r
  · rw [if_pos e, if_pos e, qbd (m_ringAt r0 (by omega))]
    dsimp only
    rw [w32_ok (z := 5274 + 6 * r + 5) (by omega) (by omega), qst_ok (by omega) (by omega)]
    exact ⟨_, ⟨hR.wr (f := 30) (n := r) (a := 5274 + 6 * r + 5) (by unfold vv; omega) (by rw [ad_rg (by decide) (by decide)]; omega) (by decide) (by decide) (by decide) (by decide) (by decide), FM.rfl'.q⟩, rfl⟩
  · rw [if_neg e, if_neg e, qud_self rfl]
    exact ⟨w, ⟨hR, FM.rfl'⟩, rfl⟩
theorem m_tick147 (hR : RM w S) (I : IV S) (X : IX S) : ∃ w', (RM w' (skw (skm S)) ∧ FM w w' ∧ IV (skw (skm S)) ∧ IX (skw (skm S)) ∧ skw (skm S) 1 = S 1 ∧ skw (skm S) 0 = S 0) ∧ f_M_ticks_147 qFU 0 w = f_M_ticks_208 w' := by
  have h16 := g16r I.1.1
  have h4 := gN I.1.1
  have hg := I.1.1
  obtain ⟨⟨ga, gb⟩, gc, gd'⟩ := hg
  rw [← skmw]
  have := it_loop (N := 2 * (S 1 3 + S 1 4)) (L := fun n x w => f_M_ticks_147 n x w) (ex := fun w => f_M_ticks_208 w) (F := fun r T => sfw (if T 0 9 ≤ 0 then T else smk T r) r) (R := fun x w' S' => RM w' S' ∧ FM w w' ∧ IV S' ∧ IX S' ∧ S' 1 = S 1 ∧ S' 0 = S 0)
    (by
      intro n x w2 S2 x0 x8 ⟨h1, h2, h3, h4, h5, h6⟩
      have x8' : x < 2 * (S2 1 3 + S2 1 4) := by rw [h5]; exact x8
      have fin : ∀ w3 T, RM w3 T → FM w2 w3 → IV T → IX T → T 1 = S 1 → T 0 = S 0 → ∃ w', (RM w' (sfw T x) ∧ FM w w' ∧ IV (sfw T x) ∧ IX (sfw T x) ∧ sfw T x 1 = S 1 ∧ sfw T x 0 = S 0) ∧ f_M_ticks_169 (f_M_ticks_147 n) x w3 = f_M_ticks_147 n (x + 1) w' := by
        intro w3 T a1 a2 a3 a4 a5 a6
        obtain ⟨w', ⟨b1, b2⟩, e⟩ := m_tick169 (r147 := f_M_ticks_147 n) a1 a3 x0 (by rw [a5]; exact x8)
        rw [w32_ok (z := x + 1) (by omega) (by omega)] at e
        exact ⟨w', ⟨b1, (h2.tr a2).tr b2, a3.fw, a4.fw, by rw [sfw_r (by decide)]; exact a5, by rw [sfw_r (by decide)]; exact a6⟩, e⟩
      rw [f_M_ticks_147, qbd (mg_rings h1.wh h3.1.1)]
      dsimp only
      rw [if_pos x8', qld_ok (by decide) (by decide), rm_0_9 h1]
      by_cases e : S2 0 9 ≤ 0
      · rw [if_pos e, if_pos e]
        exact fin w2 S2 h1 FM.rfl' h3 h4 h5 h6
      · rw [if_neg e, if_neg e]
        obtain ⟨w3, e3, b1, b2⟩ := m_marks h1 h3 x0 x8'
        rw [qbd e3]
        exact fin w3 _ b1 b2 (h3.mk x0 x8') h4.mk (by rw [smk_r (by decide) (by decide) (by decide) (by decide)]; exact h5) (by rw [smk_r (by decide) (by decide) (by decide) (by decide)]; exact h6))
    (by
      intro n w2 S2 ⟨h1, h2, h3, h4, h5, h6⟩
      show f_M_ticks_147 (n + 1) _ w2 = _
      rw [f_M_ticks_147, qbd (mg_rings h1.wh h3.1.1)]
      dsimp only
      rw [h5, if_neg (by omega)])
    (w := w) (S := S) ⟨hR, FM.rfl', I, X, rfl, rfl⟩ (by omega) (by omega)
  exact this
theorem stk_def : stk S = skc (skw (skm (skh (skg (sfg (qud (skd S) 22 1 0)))))) := by
  unfold stk
  rw [skd_ov]
theorem skh_0 : skh S 0 = S 0 := by
  unfold skh
  exact itk_i (F := fun v S => itk (fun d S => shu S v d) 4 S) (P := fun _ s => s 0 = S 0) (S := S) rfl _ (fun x s _ _ hs => itk_i (F := fun d S => shu S x d) (P := fun _ s => s 0 = S 0) (S := s) hs 4 (fun y t _ _ ht => by rw [shu_r (by decide) (by decide)]; exact ht))
theorem skd_0 : skd S 0 = S 0 := by
  unfold skd
  exact itk_i (F := fun v S => itk (fun k S => sdl S v (k + 1)) 8 S) (P := fun _ s => s 0 = S 0) (S := S) rfl _ (fun x s _ _ hs => itk_i (F := fun k S => sdl S x (k + 1)) (P := fun _ s => s 0 = S 0) (S := s) hs 8 (fun y t _ _ ht => by rw [sdl_r (by decide) (by decide) (by decide) (by decide) (by decide) (by decide) (by decide)]; exact ht))
theorem m_ticks (hR : RM w S) (I : IV S) (X : IX S) (hc : S 0 10 < 1000000) : kT (f_M_ticks w) (fun w' => (RM w' (stk S) ∧ FM w w') ∧ (IX (stk S) ∧ IV (stk S) ∧ stk S 1 = S 1) ∧ stk S 0 10 = S 0 10 + 1) := by
  have hck := I.1.2.2.2.2.2.1
  obtain ⟨w1, ⟨a1, a2, a3, a4, a5⟩, e1⟩ := m_tick7 (x1 := S 1 3 * S 1 4) hR I X rfl
  obtain ⟨w2, ⟨b1, b2⟩, e2⟩ := m_tick38 (x1 := S 1 3 * S 1 4) a1
  have I2 : IV (sfg (qud (skd S) 22 1 0)) := (a3.m0 (by omega) (by omega)).fg
  have X2 : IX (sfg (qud (skd S) 22 1 0)) := (a4.qq (f := 22) (by decide)).fg
  have K2 : KG (S 0 10) 0 (S 1) (sfg (qud (skd S) 22 1 0)) := ⟨I2, ⟨by rw [sfg_r (by decide), qud_nk (by decide), skd_0], by rw [sfg_r (by decide), qud_row (by decide)]; exact a5⟩, by rw [sfg_r (by decide), qud_s]; omega⟩
  obtain ⟨w3, ⟨c1, c2, c3, c4⟩, e3⟩ := m_tick73 (x1 := S 1 3 * S 1 4) b1 K2 X2 rfl hck
  obtain ⟨w4, ⟨d1, d2, d3, d4, d5⟩, e4⟩ := m_tick115 (x1 := S 1 3 * S 1 4) c1 c3.1 c4 (by rw [c3.2.1.2])
  obtain ⟨w5, ⟨f1, f2, f3, f4, f5, f6⟩, e5⟩ := m_tick147 d1 d3 d4
  have h10 : skw (skm (skh (skg (sfg (qud (skd S) 22 1 0))))) 0 10 = S 0 10 := by rw [f6, skh_0, c3.2.1.1]
  refine ⟨qud w5 89 6 (S 0 10 + 1), ?_, ⟨?_, ((((a2.tr b2).tr c2).tr d2).tr f2).q⟩, ⟨?_, ?_, ?_⟩, ?_⟩
  · unfold f_M_ticks
    rw [qbd (mg_nodes hR.wh I.1.1)]
    show f_M_ticks_7 qFU (S 1 3 * S 1 4) 0 w = _
    rw [e1, e2]
    unfold f_M_ticks_71
    rw [e3]
    unfold f_M_ticks_113
    rw [e4]
    unfold f_M_ticks_145
    rw [e5]
    unfold f_M_ticks_208
    rw [qld_ok (by decide) (by decide), rm_0_10 f1, h10, qst_ok (by decide) (by decide), w32_ok (by omega) (by omega)]
  · rw [stk_def]
    unfold skc
    rw [h10]
    exact f1.wr (f := 0) (n := 10) (a := 6) vv_0_10 rfl (by decide) (by decide) (by decide) (by decide) (by decide)
  · rw [stk_def]
    exact f4.ck
  · rw [stk_def]
    exact f3.ck (by rw [h10]; exact hc)
  · rw [stk_def]
    unfold skc
    rw [qud_row (by decide), f5, d5, c3.2.1.2]
  · rw [stk_def]
    unfold skc
    rw [qud_s, h10]
end MT
