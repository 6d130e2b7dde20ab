/-! all that isn't delivered lies in the queues -/
def XQ (S : qMem) : Prop := S 5 14 = S 5 13 - cV (S 20) 144
section XY
variable {w w' S T S' : qMem} {v t n x p a b l N y k d c q r D : Int} {f g : Int → Int}
theorem XQ.co (X : XQ S) (e5 : S' 5 = S 5) (e20 : S' 20 = S 20) : XQ S' := by
  unfold XQ at X ⊢
  rw [e5, e20]
  exact X
theorem XQ.qq (X : XQ S) {f : Nat} (hf : f ≠ 5 ∧ f ≠ 20) : XQ (qud S f n x) := X.co (qud_row (Ne.symm hf.1)) (qud_row (Ne.symm hf.2))
theorem tot_in (I : IV S) : 0 ≤ cV (S 20) 144 ∧ cV (S 20) 144 ≤ 864 := by
  have := cV_6 (f := S 20) (M := 144) (x := 144) (fun k a b => (I.w.2.2.2 k a b).1) (by decide) (by decide)
  omega
theorem sdv_514 : sdv S p c 5 14 = w32 (S 5 14 + 1) := by
  unfold sdv
  rw [qud_nk (by decide), qud_nk (by decide), qud_s]
theorem XQ.dl (X : XQ S) (I : IV S) (v0 : 0 ≤ v) (v1 : v < S 1 3 * S 1 4) (k0 : 0 ≤ k) (k1 : k < 9) : XQ (sdl S v k) := by
  have hN := gN I.1.1
  unfold sdl
  by_cases e : sin S v k = true
  · rw [if_pos e]
    obtain ⟨e1, e2⟩ := sin_f e
    obtain ⟨-, ⟨-, h20⟩, -⟩ := first_at I v0 v1 k0 k1 e1
    have hC := I.1.2.2.2.2.2.2.1
    have ht := tot_in I
    have e5 : sdr S (v * 9 + k) 5 = S 5 := sdr_f (by decide) (by decide)
    have u := cV_u (f := S 20) (g := sdr S (v * 9 + k) 20) (p := v * 9 + k) (v := S 20 (v * 9 + k) - 1) (x := 144) (by omega) (by omega) (fun n => sdr_20 h20)
    unfold XQ at X ⊢
    rw [sdv_514, sdv_5, sdv_f (by decide) (by decide) (by decide) (by decide) (by decide), e5, u, w32_ok (by omega) (by omega)]
    omega
  · rw [if_neg e]; exact X
theorem XQ.go (X : XQ S) (I : IV S) (v0 : 0 ≤ v) (v1 : v < S 1 3 * S 1 4) (k0 : 0 ≤ k) (k1 : k < 9) (d0 : 0 ≤ d) (d1 : d < 4) (ho : sok S v k d) : XQ (sgo S v k d) := by
  have hN := gN I.1.1
  have hn := gn_in I.1.1 v0 v1 d0 d1
  obtain ⟨-, ⟨-, h20⟩, -⟩ := first_at I v0 v1 k0 k1 ho.1
  have hcf := I.1.2
  have h6 := hcf.1
  have h7 := hcf.2.1
  have r : ∀ g : Nat, g ≠ 0 → g ≠ 14 → g ≠ 29 → g ≠ 33 → sg1 S v k d g = S g := fun g a b c d' => sg1_f a b c d'
  have r1 := r 1 (by decide) (by decide) (by decide) (by decide)
  have r20 := r 20 (by decide) (by decide) (by decide) (by decide)
  have e5 : sgo S v k d 5 = S 5 := sgo_r (by decide) (by decide) (by decide) (by decide) (by decide) (by decide) (by decide) (by decide) (by decide) (by decide) (by decide) (by decide) (by decide) (by decide) (by decide) (by decide) (by decide) (by decide)
  have hk : 0 ≤ gn (S 1 3) (S 1 4) v d * 9 + (if sla S v k d = 1 then 1 else 5) + d ∧ gn (S 1 3) (S 1 4) v d * 9 + (if sla S v k d = 1 then 1 else 5) + d < 144 := by
    split <;> omega
  have hcap : S 20 (gn (S 1 3) (S 1 4) v d * 9 + (if sla S v k d = 1 then 1 else 5) + d) < 6 := by
    have := ho.2.2
    revert this
    split <;> intro this <;> omega
  have hd : ∀ n, sdr (sg1 S v k d) (v * 9 + k) 20 n = if n = v * 9 + k then S 20 (v * 9 + k) - 1 else S 20 n := fun n => by
    rw [sdr_20 (by rw [r20]; exact h20), r20]
  have hle : sdr (sg1 S v k d) (v * 9 + k) 20 (gn (S 1 3) (S 1 4) v d * 9 + (if sla S v k d = 1 then 1 else 5) + d) < 6 := by
    rw [hd]
    by_cases z : gn (S 1 3) (S 1 4) v d * 9 + (if sla S v k d = 1 then 1 else 5) + d = v * 9 + k
    · rw [if_pos z]
      rw [z] at hcap
      omega
    · rw [if_neg z]
      exact hcap
  have e20 : ∀ n, sgo S v k d 20 n = if n = gn (S 1 3) (S 1 4) v d * 9 + (if sla S v k d = 1 then 1 else 5) + d then sdr (sg1 S v k d) (v * 9 + k) 20 (gn (S 1 3) (S 1 4) v d * 9 + (if sla S v k d = 1 then 1 else 5) + d) + 1 else sdr (sg1 S v k d) (v * 9 + k) 20 n := fun n => by
    unfold sgo
    rw [qud_nk (by decide), sg2_q (Or.inl rfl)]
    unfold ssm
    rw [r1, spu_20 hle]
  have u1 := cV_u (f := S 20) (g := sdr (sg1 S v k d) (v * 9 + k) 20) (p := v * 9 + k) (x := 144) (by omega) (by omega) hd
  have u2 := cV_u (f := sdr (sg1 S v k d) (v * 9 + k) 20) (g := sgo S v k d 20) (x := 144) hk.1 hk.2 e20
  unfold XQ at X ⊢
  rw [e5, u2, u1]
  omega
theorem XQ.gc (X : XQ S) (I : IV S) (v0 : 0 ≤ v) (v1 : v < S 1 3 * S 1 4) (d0 : 0 ≤ d) (d1 : d < 4) : XQ (sgc S v d) := by
  unfold sgc
  by_cases e : sch S v d = -1
  · rw [if_pos e]; exact X
  · rw [if_neg e]
    have hk := sch_ok e
    exact X.go I v0 v1 hk.1 hk.2.1 d0 d1 (sok_of d0 hk.2.2)
theorem XQ.sd (X : XQ S) (I : IV S) (z : svb S a b = true) : XQ (ssd S a b) := by
  obtain ⟨⟨ha, hb, hab⟩, hc, hq⟩ := svb_t z
  have hN := gN I.1.1
  have hs20 : sap S a b (S 0 10) 20 = S 20 := sap_lo (by decide)
  have s20 : ∀ q', ssd S a b 20 q' = if q' = a * 9 then S 20 (a * 9) + 1 else S 20 q' := fun q' => by
    unfold ssd
    rw [spu_20 (by rw [hs20]; exact hq), hs20]
  have u := cV_u (f := S 20) (g := ssd S a b 20) (p := a * 9) (x := 144) (by omega) (by omega) s20
  unfold XQ at X ⊢
  rw [ssd_c, ssd_d, u]
  omega
theorem XQ.sa (X : XQ S) (I : IV S) : XQ (ssa S a b).2 := by
  unfold ssa
  by_cases z : svb S a b = true
  · rw [if_pos z]; exact X.sd I z
  · rw [if_neg z]; exact X
theorem XQ.so (X : XQ S) (I : IV S) : XQ (sso S a b).2 := by
  have hC := I.1.2.2.2.2.2.2.1
  unfold sso ssa
  by_cases z : svb S a b = true
  · rw [if_pos z]
    dsimp only
    rw [if_neg (by omega)]
    exact X.sd I z
  · rw [if_neg z, if_pos rfl]
    exact X.qq (by decide)
theorem XQ.bd (X : XQ S) : XQ (sbd S v) := by
  unfold sbd
  split
  · exact X.qq (by decide)
  · exact X
theorem XQ.bg {W H e a r b : Int} : XQ (sbg W H e a r b) := by
  have z : ∀ f n, f ≠ 0 ∧ f ≠ 1 ∧ f ≠ 25 ∧ f ≠ 26 ∧ f ≠ 27 ∧ f ≠ 30 → sbg W H e a r b f n = 0 := fun f n h => sbg_z h
  unfold XQ
  rw [z 5 13 (by decide), z 5 14 (by decide), cV_z (a := 0) (by decide) (by decide) (fun k _ _ => z 20 k (by decide))]
  rfl
theorem XQ.mk (X : XQ S) : XQ (smk S r) := by
  have e : ∀ f : Nat, f ≠ 24 → f ≠ 26 → f ≠ 27 → f ≠ 28 → smk S r f = S f := fun f a b c d => smk_r a b c d
  exact X.co (e 5 (by decide) (by decide) (by decide) (by decide)) (e 20 (by decide) (by decide) (by decide) (by decide))
theorem XQ.fg (X : XQ S) : XQ (sfg S) := X.co (sfg_r (by decide)) (sfg_r (by decide))
/-- a tick -/
theorem XQ.tk (X : XQ S) (I : IV S) : XQ (stk S) := by
  have hw : ∀ T, XQ T → XQ (skw T) := fun T h => by
    unfold skw
    exact itk_i (F := fun r S => sfw S r) (P := fun _ s => XQ s) (S := T) h _ (fun x s _ _ hs => hs.qq (by decide))
  have hm : ∀ T, XQ T → XQ (skm T) := fun T h => by
    unfold skm
    split
    · exact h
    · exact itk_i (F := fun r S => smk S r) (P := fun _ s => XQ s) (S := T) h _ (fun x s _ _ hs => hs.mk)
  have hh : ∀ T, XQ T → XQ (skh T) := fun T h => by
    unfold skh
    exact itk_i (F := fun v S => itk (fun d S => shu S v d) 4 S) (P := fun _ s => XQ s) (S := T) h _ (fun x s _ _ hs => itk_i (F := fun d S => shu S x d) (P := fun _ s => XQ s) (S := s) hs 4 (fun y t _ _ ht => (ht.qq (by decide)).qq (by decide)))
  have hg : ∀ T : qMem, IV T → T 22 1 ≤ 0 → XQ T → XQ (skg T) := fun T IT h22 h => by
    have K : KG (T 0 10) 0 (T 1) T := ⟨IT, ⟨rfl, rfl⟩, h22⟩
    have K4 : KG (T 0 10) (4 * 0) (T 1) T := K
    have hN := gN IT.1.1
    rw [skg_eq K]
    have := itk_i (F := fun i S => itk (fun d S => sgc S (kvi (T 0 10) (T 1 3 * T 1 4) i) d) 4 S) (P := fun x s => KG (T 0 10) (4 * x) (T 1) s ∧ XQ s) (S := T) ⟨K4, h⟩ (T 1 3 * T 1 4).toNat (fun x s x0 x1 hs => by
      have hv : 0 ≤ kvi (T 0 10) (T 1 3 * T 1 4) x ∧ kvi (T 0 10) (T 1 3 * T 1 4) x < T 1 3 * T 1 4 := ⟨Int.emod_nonneg _ (by omega), Int.emod_lt_of_pos _ (by omega)⟩
      have h4 := itk_i (F := fun d S => sgc S (kvi (T 0 10) (T 1 3 * T 1 4) x) d) (P := fun y s => KG (T 0 10) (4 * x + y) (T 1) s ∧ XQ s) (S := s) (by rw [Int.add_zero]; exact hs) 4 (fun y t y0 y1 ht => by
        have hk := ht.1.gc (by omega) hv.1 hv.2 y0 (by omega)
        rw [show 4 * x + y + 1 = 4 * x + (y + 1) by omega] at hk
        exact ⟨hk, ht.2.gc ht.1.1 hv.1 (by rw [ht.1.2.1.2]; exact hv.2) y0 (by omega)⟩)
      rw [show 4 * (x + 1) = 4 * x + ((4 : Nat) : Int) by omega]
      exact h4)
    exact this.2
  have I2 : IV (sfg (qud S 22 1 0)) := (I.m0 (by omega) (by omega)).fg
  have X2 : XQ (sfg (qud S 22 1 0)) := (X.qq (by decide)).fg
  have hN := gN I2.1.1
  have hd : IV (skd (sfg (qud S 22 1 0))) ∧ XQ (skd (sfg (qud S 22 1 0))) := by
    unfold skd
    have := itk_i (F := fun v S => itk (fun k S => sdl S v (k + 1)) 8 S) (P := fun _ s => (IV s ∧ XQ s) ∧ s 1 = sfg (qud S 22 1 0) 1) (S := sfg (qud S 22 1 0)) ⟨⟨I2, X2⟩, rfl⟩ (sfg (qud S 22 1 0) 1 3 * sfg (qud S 22 1 0) 1 4).toNat (fun x s x0 x1 hs => itk_i (F := fun k S => sdl S x (k + 1)) (P := fun _ s => (IV s ∧ XQ s) ∧ s 1 = sfg (qud S 22 1 0) 1) (S := s) hs 8 (fun y t y0 y1 ht => ⟨⟨ht.1.1.dl x0 (by rw [ht.2]; omega) (by omega) (by omega), ht.1.2.dl ht.1.1 x0 (by rw [ht.2]; omega) (by omega) (by omega)⟩, by rw [sdl_r (by decide) (by decide) (by decide) (by decide) (by decide) (by decide) (by decide)]; exact ht.2⟩))
    exact this.1
  unfold stk skc
  refine XQ.qq (hw _ (hm _ (hh _ (hg _ hd.1 ?_ hd.2)))) (by decide)
  rw [skd_22, sfg_r (by decide), qud_s]
  decide
theorem XQ.pa (X : XQ S) (I : IV S) : XQ (spa S k p).1 := by
  have := fli_i (g := spa1 k p) (h := fun x => x) (P := fun _ t => IV t.1 ∧ XQ t.1) (s := (S, (0 : Int))) ⟨I, X⟩ (S 1 3 * S 1 4).toNat (fun v t _ _ ht => by
    unfold spa1
    split
    · exact ht
    · exact ⟨ht.1.so, ht.2.so ht.1⟩)
  exact this.2
theorem XQ.sw (X : XQ S) (I : IV S) : XQ (ssw S D n).1 := by
  have := fli_i (g := fun t _ => ssw1 t) (h := fun x => x) (P := fun _ (t : qMem × Int × Int) => IV t.1 ∧ XQ t.1) (s := (S, D, (0 : Int))) ⟨I, X⟩ n.toNat (fun v t _ _ ht => ⟨ht.1.so, ht.2.so ht.1⟩)
  exact this.2
/-- many ticks -/
theorem XQ.tks (hR : RM w S) (I : IV S) (X : IX S) (Y : XQ S) (hc : S 0 10 + 100 ≤ 1000000) (n1 : n ≤ 100) : XQ (stks S n) := by
  have key : ∀ m : Nat, (m : Int) ≤ 100 → (∃ w', RM w' (fli (fun S _ => stk S) (fun x => x) m S)) ∧ (IV (fli (fun S _ => stk S) (fun x => x) m S) ∧ IX (fli (fun S _ => stk S) (fun x => x) m S) ∧ XQ (fli (fun S _ => stk S) (fun x => x) m S)) ∧ fli (fun S _ => stk S) (fun x => x) m S 0 10 = S 0 10 + m := by
    intro m
    induction m with
    | zero => intro _; exact ⟨⟨w, hR⟩, ⟨I, X, Y⟩, by show S 0 10 = S 0 10 + 0; omega⟩
    | succ m ih =>
      intro hm
      obtain ⟨⟨w', h1⟩, ⟨h2, h3, h4⟩, h5⟩ := ih (by omega)
      obtain ⟨w2, -, ⟨a1, -⟩, ⟨a2, a3, -⟩, a4⟩ := m_ticks h1 h2 h3 (by omega)
      refine ⟨⟨w2, a1⟩, ⟨a3, a2, h4.tk h2⟩, ?_⟩
      show stk (fli (fun S _ => stk S) (fun x => x) m S) 0 10 = S 0 10 + ((m + 1 : Nat) : Int)
      rw [a4, h5]
      omega
  unfold stks
  exact (key n.toNat (by omega)).2.1.2.2
/-- nothing goes on, though not all has come -/
def aDead (S : qMem) : Int := if S 5 13 = S 5 14 then 0 else if anV (gkA S) 144 = true then 0 else 1
theorem tot_9 (I : IV S) : cV (S 20) 144 = cV (S 20) (S 1 3 * S 1 4 * 9) := by
  have hN := gN I.1.1
  exact cV_z (by omega) (by omega) (fun k a b => (I.2.1.2.1 k (by omega) b).2 (by omega))
theorem x_deadV (hx : NX 2 w S) (I : IV S) (X : XQ S) : kT (f_X_dead w) (fun r => r.1 = aDead S ∧ FO w r.2) := by
  have hC := I.1.2.2.2.2.2.2.1
  have ht := tot_in I
  have e13 : w 7 13 = S 5 13 := rx_5_13 hx.1
  have e14 : w 7 14 = S 5 14 := rx_5_14 hx.1
  unfold XQ at X
  unfold f_X_dead f_P_left aDead
  refine kT_eq rfl ?_
  dsimp only
  rw [e13, e14, w32_ok (by omega) (by omega)]
  refine kT_if (fun z => kT_some ⟨by rw [if_pos (by omega)], FO.rfl'⟩) (fun z => ?_)
  refine kT_bind (o_judge hx I.w) (fun w' hw => ?_)
  refine kT_eq (x_any hw.2) ?_
  dsimp only
  rw [bi_ii]
  refine kT_if (fun c => kT_some ⟨by rw [if_neg (by omega), if_pos c], hw.1.2⟩) (fun c => kT_some ⟨by rw [if_neg (by omega), if_neg c], hw.1.2⟩)
theorem m_deadV (hR : RM w S) (I : IV S) (X : XQ S) : kT (f_M_dead w) (fun r => r.1 = aDead S ∧ FO1 w r.2) := by
  have hC := I.1.2.2.2.2.2.2.1
  have ht := tot_in I
  have h9 := tot_9 I
  have hs := stk_all I
  unfold XQ at X
  unfold f_M_dead aDead
  rw [qld_ok (by decide) (by decide), qld_ok (by decide) (by decide), rm_5_13 hR, rm_5_14 hR]
  refine kT_if (fun z => kT_some ⟨by rw [if_pos (by omega)], FO1.rfl'⟩) (fun z => ?_)
  refine kT_bind (m_stuckV hR I) (fun r hr => ?_)
  have hR2 : RM r.2 S := hR.fo hr.2
  rw [qld_ok (by decide) (by decide), qld_ok (by decide) (by decide), rm_5_13 hR2, rm_5_14 hR2, hr.1, w32_ok (by omega) (by omega)]
  refine kT_if (fun c => kT_some ⟨?_, hr.2⟩) (fun c => kT_some ⟨?_, hr.2⟩)
  · rw [if_neg (by omega), hs.mp (by omega)]; rfl
  · rw [if_neg (by omega), if_pos (Decidable.by_contra fun y => c (by have := hs.mpr (Bool.eq_false_iff.mpr y); omega))]
end XY
