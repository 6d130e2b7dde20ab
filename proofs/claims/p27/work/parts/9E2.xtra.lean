/-! what the reference keeps of all packets together -/
def lt0 (S : qMem) (p : Int) : Int := if S 9 p = 3 then S 13 p - S 8 p else 0
def XT (S : qMem) : Prop := (∀ p, 0 ≤ p → p < S 5 13 → S 15 p = 0 ∨ (S 15 p = 1 ∧ S 9 p = 3)) ∧ S 35 0 = w32 (cV (lt0 S) (S 5 13)) ∧ S 35 1 = w32 (cV (S 12) (S 5 13)) ∧ S 35 2 = w32 (cV (S 15) (S 5 13))
section XX
variable {w w' S T S' : qMem} {v t n x p a b l N y k d c q r D : Int} {f g : Int → Int}
theorem cV_co (x0 : 0 ≤ x) (h : ∀ p, 0 ≤ p → p < x → f p = g p) : cV f x = cV g x := smN_co x.toNat (fun i hi => h i (by omega) (by omega))
theorem cV_u (i0 : 0 ≤ p) (i1 : p < x) (h : ∀ k, g k = if k = p then v else f k) : cV g x = cV f x - f p + v := by
  have e : ((p.toNat : Nat) : Int) = p := by omega
  have := smN_u (f := f) (f' := g) (i := p.toNat) (v := v) x.toNat (by omega) (fun k => by rw [e]; exact h k)
  rw [e] at this
  exact this
theorem w32_a {z u : Int} : w32 (w32 z + u) = w32 (z + u) := by
  unfold w32
  omega
theorem XT.co (X : XT S) (e5 : S' 5 13 = S 5 13) (e8 : S' 8 = S 8) (e9 : S' 9 = S 9) (e12 : S' 12 = S 12) (e13 : S' 13 = S 13) (e15 : S' 15 = S 15) (e35 : S' 35 = S 35) : XT S' := by
  unfold XT lt0 at X ⊢
  rw [e5, e8, e9, e12, e13, e15, e35]
  exact X
theorem XT.qq (X : XT S) {f : Nat} (hf : f ≠ 5 ∧ f ≠ 8 ∧ f ≠ 9 ∧ f ≠ 12 ∧ f ≠ 13 ∧ f ≠ 15 ∧ f ≠ 35) : XT (qud S f n x) := X.co (qud_nk (Ne.symm hf.1)) (qud_row (Ne.symm hf.2.1)) (qud_row (Ne.symm hf.2.2.1)) (qud_row (Ne.symm hf.2.2.2.1)) (qud_row (Ne.symm hf.2.2.2.2.1)) (qud_row (Ne.symm hf.2.2.2.2.2.1)) (qud_row (Ne.symm hf.2.2.2.2.2.2))
theorem sdv_15 : sdv S p c 15 n = if n = p then bi (slt S p) else S 15 n := by
  unfold sdv
  simp (disch := decide) only [qud_nk, qud_if]
theorem sdv_350 : sdv S p c 35 0 = w32 (S 35 0 + (c - S 8 p)) := by
  unfold sdv
  rw [qud_ni (by decide), qud_s]
theorem sdv_351 : sdv S p c 35 1 = S 35 1 := by
  unfold sdv
  rw [qud_ni (by decide), qud_ni (by decide), qud_nk (by decide), qud_nk (by decide), qud_nk (by decide), qud_nk (by decide)]
theorem sdv_352 : sdv S p c 35 2 = w32 (S 35 2 + bi (slt S p)) := by
  unfold sdv
  rw [qud_s]
theorem XT.dv (X : XT S) (hC : 0 ≤ S 5 13) (p0 : 0 ≤ p) (p1 : p < S 5 13) (h3 : S 9 p ≠ 3) : XT (sdv S p c) := by
  have e5 : sdv S p c 5 13 = S 5 13 := sdv_5
  have e8 : sdv S p c 8 = S 8 := sdv_f (by decide) (by decide) (by decide) (by decide) (by decide)
  have e12 : sdv S p c 12 = S 12 := sdv_f (by decide) (by decide) (by decide) (by decide) (by decide)
  have h15 : S 15 p = 0 := (X.1 p p0 p1).resolve_right (fun z => h3 z.2)
  have hb : bi (slt S p) = 0 ∨ bi (slt S p) = 1 := by
    cases slt S p
    · exact Or.inl rfl
    · exact Or.inr rfl
  refine ⟨fun p' a b => ?_, ?_, ?_, ?_⟩
  · rw [e5] at b
    rw [sdv_15, sdv_9]
    by_cases e : p' = p
    · rw [if_pos e, if_pos e]
      rcases hb with z | z
      · exact Or.inl z
      · exact Or.inr ⟨z, rfl⟩
    · rw [if_neg e, if_neg e]; exact X.1 p' a b
  · have u := cV_u (f := lt0 S) (g := lt0 (sdv S p c)) (v := c - S 8 p) p0 p1 (fun k => by
      unfold lt0
      rw [sdv_9, sdv_13, e8]
      by_cases e : k = p
      · rw [if_pos e, if_pos e, if_pos e, if_pos rfl, e]
      · rw [if_neg e, if_neg e, if_neg e])
    have hz : lt0 S p = 0 := by unfold lt0; rw [if_neg h3]
    rw [sdv_350, X.2.1, w32_a, e5, u, hz]
    congr 1
    omega
  · rw [sdv_351, e5, e12]; exact X.2.2.1
  · have u := cV_u (f := S 15) (g := sdv S p c 15) (v := bi (slt S p)) p0 p1 (fun k => sdv_15)
    rw [sdv_352, X.2.2.2, w32_a, e5, u, h15]
    congr 1
    omega
theorem XT.dl (X : XT S) (I : IV S) (v0 : 0 ≤ v) (v1 : v < S 1 3 * S 1 4) (k0 : 0 ≤ k) (k1 : k < 9) : XT (sdl S v k) := by
  unfold sdl
  by_cases e : sin S v k = true
  · rw [if_pos e]
    obtain ⟨e1, e2⟩ := sin_f e
    obtain ⟨⟨p0, p1⟩, -, -, -, h3, -⟩ := first_at I v0 v1 k0 k1 e1
    have hC := I.1.2.2.2.2.2.2.1
    have r : ∀ f : Nat, f ≠ 20 → f ≠ 21 → sdr S (v * 9 + k) f = S f := fun f a b => sdr_f a b
    refine XT.dv (X.co (by rw [r 5 (by decide) (by decide)]) (r 8 (by decide) (by decide)) (r 9 (by decide) (by decide)) (r 12 (by decide) (by decide)) (r 13 (by decide) (by decide)) (r 15 (by decide) (by decide)) (r 35 (by decide) (by decide))) ?_ p0 ?_ ?_
    · rw [r 5 (by decide) (by decide)]; exact hC.1
    · rw [r 5 (by decide) (by decide)]; exact p1
    · rw [r 9 (by decide) (by decide)]; exact h3
  · rw [if_neg e]; exact X
theorem sgo_35 (hn : n ≠ 1) : sgo S v k d 35 n = S 35 n := by
  unfold sgo
  rw [qud_ni hn, sg2_f (by decide) (by decide) (by decide) (by decide) (by decide) (by decide) (by decide) (by decide) (by decide) (by decide) (by decide) (by decide) (by decide), sg1_f (by decide) (by decide) (by decide) (by decide)]
theorem sgo_351 : sgo S v k d 35 1 = w32 (S 35 1 + 1) := by
  unfold sgo
  rw [qud_s]
theorem sg1_q {q : Int} : sfst (sg1 S v k d) q = sfst S q := sfst_co (sg1_f (by decide) (by decide) (by decide) (by decide)) (sg1_f (by decide) (by decide) (by decide) (by decide))
theorem sgo_9 : sgo S v k d 9 n = if n = sfst S (v * 9 + k) then sla S v k d else S 9 n := by
  unfold sgo
  rw [qud_nk (by decide), sg2_9, sg1_q, sg1_f (f := 9) (by decide) (by decide) (by decide) (by decide)]
theorem sgo_12 : sgo S v k d 12 n = if n = sfst S (v * 9 + k) then S 12 (sfst S (v * 9 + k)) + 1 else S 12 n := by
  unfold sgo
  rw [qud_nk (by decide), sg2_12, sg1_q, sg1_f (f := 12) (by decide) (by decide) (by decide) (by decide)]
theorem XT.go (X : XT S) (I : IV S) (v0 : 0 ≤ v) (v1 : v < S 1 3 * S 1 4) (k0 : 0 ≤ k) (k1 : k < 9) (he : sfst S (v * 9 + k) ≠ -1) : XT (sgo S v k d) := by
  obtain ⟨⟨p0, p1⟩, -, -, -, h3, -⟩ := first_at I v0 v1 k0 k1 he
  have r : ∀ f : Nat, f = 5 ∨ f = 8 ∨ f = 13 ∨ f = 15 → sgo S v k d f = S f := fun f hf => sgo_r (by omega) (by omega) (by omega) (by omega) (by omega) (by omega) (by omega) (by omega) (by omega) (by omega) (by omega) (by omega) (by omega) (by omega) (by omega) (by omega) (by omega) (by omega)
  have hl : sla S v k d ≠ 3 := by
    unfold sla
    split <;> decide
  have h15 : S 15 (sfst S (v * 9 + k)) = 0 := (X.1 _ p0 p1).resolve_right (fun z => h3 z.2)
  have elt : ∀ p, lt0 (sgo S v k d) p = lt0 S p := fun p => by
    unfold lt0
    rw [sgo_9, r 13 (by decide), r 8 (by decide)]
    by_cases e : p = sfst S (v * 9 + k)
    · rw [if_pos e, if_neg hl, e, if_neg h3]
    · rw [if_neg e]
  have hC := I.1.2.2.2.2.2.2.1
  refine ⟨fun p a b => ?_, ?_, ?_, ?_⟩
  · rw [r 5 (by decide)] at b
    rw [r 15 (by decide), sgo_9]
    by_cases e : p = sfst S (v * 9 + k)
    · rw [e]; exact Or.inl h15
    · rw [if_neg e]; exact X.1 p a b
  · rw [sgo_35 (by decide), r 5 (by decide), cV_co hC.1 (fun p _ _ => elt p)]; exact X.2.1
  · have u := cV_u (f := S 12) (g := sgo S v k d 12) (v := S 12 (sfst S (v * 9 + k)) + 1) p0 p1 (fun k => sgo_12)
    rw [sgo_351, X.2.2.1, w32_a, r 5 (by decide), u]
    congr 1
    omega
  · rw [sgo_35 (by decide), r 5 (by decide), r 15 (by decide)]; exact X.2.2.2
theorem XT.gc (X : XT S) (I : IV S) (v0 : 0 ≤ v) (v1 : v < S 1 3 * S 1 4) (d0 : 0 ≤ d) : XT (sgc S v d) := by
  unfold sgc
  by_cases e : sch S v d = -1
  · rw [if_pos e]; exact X
  · rw [if_neg e]
    have hk := sch_ok e
    exact X.go I v0 v1 hk.1 hk.2.1 (sok_of d0 hk.2.2).1
theorem XT.sd (X : XT S) (I : IV S) : XT (ssd S a b) := by
  have hC := I.1.2.2.2.2.2.2.1
  have e5 : ssd S a b 5 13 = S 5 13 + 1 := ssd_c
  have r : ∀ f : Nat, 6 ≤ f → f ≤ 18 → ssd S a b f = sap S a b (S 0 10) f := fun f x y => ssd_p x y
  have e35 : ssd S a b 35 = S 35 := ssd_f (by decide) (by decide) (by decide) (by decide)
  have u : ∀ (f g : Int → Int), (∀ p, 0 ≤ p → p < S 5 13 → g p = f p) → g (S 5 13) = 0 → cV g (S 5 13 + 1) = cV f (S 5 13) := fun f g h h0 => by
    rw [cV_s hC.1, h0, cV_co hC.1 h]
    omega
  refine ⟨fun p x y => ?_, ?_, ?_, ?_⟩
  · rw [e5] at y
    rw [r 15 (by decide) (by decide), r 9 (by decide) (by decide), sap_15, sap_9]
    by_cases e : p = S 5 13
    · rw [if_pos e]; exact Or.inl rfl
    · rw [if_neg e, if_neg e]; exact X.1 p x (by omega)
  · rw [e35, e5, u (lt0 S) (lt0 (ssd S a b)) (fun p x y => ?_) ?_]
    · exact X.2.1
    · unfold lt0
      rw [r 9 (by decide) (by decide), sap_9, if_pos rfl, if_neg (by decide)]
    · unfold lt0
      rw [r 9 (by decide) (by decide), r 13 (by decide) (by decide), r 8 (by decide) (by decide), sap_9, sap_13, sap_8, if_neg (show ¬ p = S 5 13 by omega), if_neg (show ¬ p = S 5 13 by omega), if_neg (show ¬ p = S 5 13 by omega)]
  · rw [e35, e5, u (S 12) (ssd S a b 12) (fun p x y => ?_) ?_]
    · exact X.2.2.1
    · rw [r 12 (by decide) (by decide), sap_12, if_pos rfl]
    · rw [r 12 (by decide) (by decide), sap_12, if_neg (show ¬ p = S 5 13 by omega)]
  · rw [e35, e5, u (S 15) (ssd S a b 15) (fun p x y => ?_) ?_]
    · exact X.2.2.2
    · rw [r 15 (by decide) (by decide), sap_15, if_pos rfl]
    · rw [r 15 (by decide) (by decide), sap_15, if_neg (show ¬ p = S 5 13 by omega)]
theorem XT.sa (X : XT S) (I : IV S) : XT (ssa S a b).2 := by
  unfold ssa
  by_cases z : svb S a b = true
  · rw [if_pos z]; exact X.sd I
  · rw [if_neg z]; exact X
theorem XT.so (X : XT S) (I : IV S) : XT (sso S a b).2 := by
  unfold sso
  split
  · exact X.qq (by decide)
  · exact X.sd I
theorem XT.bd (X : XT S) : XT (sbd S v) := by
  unfold sbd
  split
  · exact X.qq (by decide)
  · exact X
theorem XT.bg {W H e a r b : Int} : XT (sbg W H e a r b) := by
  have z : ∀ f n, f ≠ 0 ∧ f ≠ 1 ∧ f ≠ 25 ∧ f ≠ 26 ∧ f ≠ 27 ∧ f ≠ 30 → sbg W H e a r b f n = 0 := fun f n h => sbg_z h
  have h0 : sbg W H e a r b 5 13 = 0 := z 5 13 (by decide)
  refine ⟨fun p _ _ => Or.inl (z 15 p (by decide)), ?_, ?_, ?_⟩
  · rw [h0, z 35 0 (by decide)]; rfl
  · rw [h0, z 35 1 (by decide)]; rfl
  · rw [h0, z 35 2 (by decide)]; rfl
theorem XT.mk (X : XT S) : XT (smk S r) := by
  have e : ∀ f : Nat, f ≠ 24 → f ≠ 26 → f ≠ 27 → f ≠ 28 → smk S r f = S f := fun f a b c d => smk_r a b c d
  exact X.co (by rw [e 5 (by decide) (by decide) (by decide) (by decide)]) (e 8 (by decide) (by decide) (by decide) (by decide)) (e 9 (by decide) (by decide) (by decide) (by decide)) (e 12 (by decide) (by decide) (by decide) (by decide)) (e 13 (by decide) (by decide) (by decide) (by decide)) (e 15 (by decide) (by decide) (by decide) (by decide)) (e 35 (by decide) (by decide) (by decide) (by decide))
theorem XT.fg (X : XT S) : XT (sfg S) := X.co (by rw [sfg_r (by decide)]) (sfg_r (by decide)) (sfg_r (by decide)) (sfg_r (by decide)) (sfg_r (by decide)) (sfg_r (by decide)) (sfg_r (by decide))
/-- a tick -/
theorem XT.tk (X : XT S) (I : IV S) : XT (stk S) := by
  have hw : ∀ T, XT T → XT (skw T) := fun T h => by
    unfold skw
    exact itk_i (F := fun r S => sfw S r) (P := fun _ s => XT s) (S := T) h _ (fun x s _ _ hs => hs.qq (by decide))
  have hm : ∀ T, XT T → XT (skm T) := fun T h => by
    unfold skm
    split
    · exact h
    · exact itk_i (F := fun r S => smk S r) (P := fun _ s => XT s) (S := T) h _ (fun x s _ _ hs => hs.mk)
  have hh : ∀ T, XT T → XT (skh T) := fun T h => by
    unfold skh
    exact itk_i (F := fun v S => itk (fun d S => shu S v d) 4 S) (P := fun _ s => XT s) (S := T) h _ (fun x s _ _ hs => itk_i (F := fun d S => shu S x d) (P := fun _ s => XT s) (S := s) hs 4 (fun y t _ _ ht => (ht.qq (by decide)).qq (by decide)))
  have hg : ∀ T : qMem, IV T → T 22 1 ≤ 0 → XT T → XT (skg T) := fun T IT h22 h => by
    have K : KG (T 0 10) 0 (T 1) T := ⟨IT, ⟨rfl, rfl⟩, h22⟩
    have K4 : KG (T 0 10) (4 * 0) (T 1) T := K
    have hN := gN IT.1.1
    rw [skg_eq K]
    have := itk_i (F := fun i S => itk (fun d S => sgc S (kvi (T 0 10) (T 1 3 * T 1 4) i) d) 4 S) (P := fun x s => KG (T 0 10) (4 * x) (T 1) s ∧ XT s) (S := T) ⟨K4, h⟩ (T 1 3 * T 1 4).toNat (fun x s x0 x1 hs => by
      have hv : 0 ≤ kvi (T 0 10) (T 1 3 * T 1 4) x ∧ kvi (T 0 10) (T 1 3 * T 1 4) x < T 1 3 * T 1 4 := ⟨Int.emod_nonneg _ (by omega), Int.emod_lt_of_pos _ (by omega)⟩
      have h4 := itk_i (F := fun d S => sgc S (kvi (T 0 10) (T 1 3 * T 1 4) x) d) (P := fun y s => KG (T 0 10) (4 * x + y) (T 1) s ∧ XT s) (S := s) (by rw [Int.add_zero]; exact hs) 4 (fun y t y0 y1 ht => by
        have hk := ht.1.gc (by omega) hv.1 hv.2 y0 (by omega)
        rw [show 4 * x + y + 1 = 4 * x + (y + 1) by omega] at hk
        exact ⟨hk, ht.2.gc ht.1.1 hv.1 (by rw [ht.1.2.1.2]; exact hv.2) y0⟩)
      rw [show 4 * (x + 1) = 4 * x + ((4 : Nat) : Int) by omega]
      exact h4)
    exact this.2
  have I2 : IV (sfg (qud S 22 1 0)) := (I.m0 (by omega) (by omega)).fg
  have X2 : XT (sfg (qud S 22 1 0)) := (X.qq (by decide)).fg
  have hN := gN I2.1.1
  have hd : IV (skd (sfg (qud S 22 1 0))) ∧ XT (skd (sfg (qud S 22 1 0))) := by
    unfold skd
    have := itk_i (F := fun v S => itk (fun k S => sdl S v (k + 1)) 8 S) (P := fun _ s => (IV s ∧ XT s) ∧ s 1 = sfg (qud S 22 1 0) 1) (S := sfg (qud S 22 1 0)) ⟨⟨I2, X2⟩, rfl⟩ (sfg (qud S 22 1 0) 1 3 * sfg (qud S 22 1 0) 1 4).toNat (fun x s x0 x1 hs => itk_i (F := fun k S => sdl S x (k + 1)) (P := fun _ s => (IV s ∧ XT s) ∧ s 1 = sfg (qud S 22 1 0) 1) (S := s) hs 8 (fun y t y0 y1 ht => ⟨⟨ht.1.1.dl x0 (by rw [ht.2]; omega) (by omega) (by omega), ht.1.2.dl ht.1.1 x0 (by rw [ht.2]; omega) (by omega) (by omega)⟩, by rw [sdl_r (by decide) (by decide) (by decide) (by decide) (by decide) (by decide) (by decide)]; exact ht.2⟩))
    exact this.1
  unfold stk skc
  refine XT.qq (hw _ (hm _ (hh _ (hg _ hd.1 ?_ hd.2)))) (by decide)
  rw [skd_22, sfg_r (by decide), qud_s]
  decide
theorem XT.pa (X : XT S) (I : IV S) : XT (spa S k p).1 := by
  have := fli_i (g := spa1 k p) (h := fun x => x) (P := fun _ t => IV t.1 ∧ XT t.1) (s := (S, (0 : Int))) ⟨I, X⟩ (S 1 3 * S 1 4).toNat (fun v t _ _ ht => by
    unfold spa1
    split
    · exact ht
    · exact ⟨ht.1.so, ht.2.so ht.1⟩)
  exact this.2
theorem XT.sw (X : XT S) (I : IV S) : XT (ssw S D n).1 := by
  have := fli_i (g := fun t _ => ssw1 t) (h := fun x => x) (P := fun _ (t : qMem × Int × Int) => IV t.1 ∧ XT t.1) (s := (S, D, (0 : Int))) ⟨I, X⟩ n.toNat (fun v t _ _ ht => ⟨ht.1.so, ht.2.so ht.1⟩)
  exact this.2
/-- many ticks -/
theorem XT.tks (hR : RM w S) (I : IV S) (X : IX S) (Y : XT S) (hc : S 0 10 + 100 ≤ 1000000) (n1 : n ≤ 100) : XT (stks S n) := by
  have key : ∀ m : Nat, (m : Int) ≤ 100 → (∃ w', RM w' (fli (fun S _ => stk S) (fun x => x) m S)) ∧ (IV (fli (fun S _ => stk S) (fun x => x) m S) ∧ IX (fli (fun S _ => stk S) (fun x => x) m S) ∧ XT (fli (fun S _ => stk S) (fun x => x) m S)) ∧ fli (fun S _ => stk S) (fun x => x) m S 0 10 = S 0 10 + m := by
    intro m
    induction m with
    | zero => intro _; exact ⟨⟨w, hR⟩, ⟨I, X, Y⟩, by show S 0 10 = S 0 10 + 0; omega⟩
    | succ m ih =>
      intro hm
      obtain ⟨⟨w', h1⟩, ⟨h2, h3, h4⟩, h5⟩ := ih (by omega)
      obtain ⟨w2, -, ⟨a1, -⟩, ⟨a2, a3, -⟩, a4⟩ := m_ticks h1 h2 h3 (by omega)
      refine ⟨⟨w2, a1⟩, ⟨a3, a2, h4.tk h2⟩, ?_⟩
      show stk (fli (fun S _ => stk S) (fun x => x) m S) 0 10 = S 0 10 + ((m + 1 : Nat) : Int)
      rw [a4, h5]
      omega
  unfold stks
  exact (key n.toNat (by omega)).2.1.2.2
end XX
