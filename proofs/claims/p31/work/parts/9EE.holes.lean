/-! CRITICAL stands in its ring, always -/
section HH
variable {w w' S T S' : qMem} {v t n x p a b l N y k d c q r D W H e : Int}
theorem HO.co (X : HO S) (e1 : S' 1 = S 1) (e25 : S' 25 = S 25) : HO S' := by
  unfold HO at X ⊢
  rw [e1, e25]
  exact X
theorem HO.qq (X : HO S) {f : Nat} (hf : f ≠ 1 ∧ f ≠ 25) : HO (qud S f n x) := X.co (qud_row (Ne.symm hf.1)) (qud_row (Ne.symm hf.2))
theorem HO.dl (X : HO S) : HO (sdl S v k) := X.co (sdl_r (by decide) (by decide) (by decide) (by decide) (by decide) (by decide) (by decide)) (sdl_r (by decide) (by decide) (by decide) (by decide) (by decide) (by decide) (by decide))
theorem HO.go (X : HO S) (g : gIn (S 1 3) (S 1 4)) (v0 : 0 ≤ v) (v1 : v < S 1 3 * S 1 4) (d0 : 0 ≤ d) (d1 : d < 4) : HO (sgo S v k d) := by
  have r1 : sg1 S v k d 1 = S 1 := sg1_f (by decide) (by decide) (by decide) (by decide)
  have r25 : sg1 S v k d 25 = S 25 := sg1_f (by decide) (by decide) (by decide) (by decide)
  have e1 : sgo S v k d 1 = S 1 := sgo_r (by decide) (by decide) (by decide) (by decide) (by decide) (by decide) (by decide) (by decide) (by decide) (by decide) (by decide) (by decide) (by decide) (by decide) (by decide) (by decide) (by decide) (by decide)
  have e25 : sgo S v k d 25 = ssh (sg1 S v k d) v k d (sla S v k d) 25 := by
    unfold sgo
    rw [qud_row (by decide), sg2_25]
  have hd := gd_gr g v0 v1 d0 d1
  intro r a b
  rw [e1] at b ⊢
  rw [e25]
  rcases ssh_25 (S := sg1 S v k d) (v := v) (k := k) (d := d) (l := sla S v k d) (n := r) with z | z
  · rw [z, r25]; exact X r a b
  · rw [r1] at z
    rw [z.1, z.2, hd]
    exact ⟨⟨v0, v1⟩, rfl⟩
theorem HO.gc (X : HO S) (g : gIn (S 1 3) (S 1 4)) (v0 : 0 ≤ v) (v1 : v < S 1 3 * S 1 4) (d0 : 0 ≤ d) (d1 : d < 4) : HO (sgc S v d) := by
  unfold sgc
  split
  · exact X
  · exact X.go g v0 v1 d0 d1
theorem HO.sd (X : HO S) : HO (ssd S a b) := X.co (ssd_f (by decide) (by decide) (by decide) (by decide)) (ssd_f (by decide) (by decide) (by decide) (by decide))
theorem HO.sa (X : HO S) : HO (ssa S a b).2 := by
  unfold ssa
  split
  · exact X.sd
  · exact X
theorem HO.so (X : HO S) : HO (sso S a b).2 := by
  unfold sso
  split
  · exact X.qq (by decide)
  · exact X.sd
theorem HO.bd (X : HO S) : HO (sbd S v) := by
  unfold sbd
  split
  · exact X.qq (by decide)
  · exact X
theorem HO.bg (g : gIn W H) : HO (sbg W H e a r b) := by
  intro r' r0 r1
  have r1' : r' < 2 * (W + H) := r1
  have hl := gl_in (r := r') g
  have l0 : (0 : Int) < gl W H r' := by omega
  have hq := gq_in g r0 r1' (Int.le_refl 0) l0
  have hr := gr_gq g r0 r1' (Int.le_refl 0) l0
  exact ⟨hq, hr⟩
theorem HO.mk (X : HO S) : HO (smk S r) := X.co (smk_r (by decide) (by decide) (by decide) (by decide)) (smk_r (by decide) (by decide) (by decide) (by decide))
theorem HO.fg (X : HO S) : HO (sfg S) := X.co (sfg_r (by decide)) (sfg_r (by decide))
/-- a tick -/
theorem HO.tk (X : HO S) (I : IV S) : HO (stk S) := by
  have hw : ∀ T, HO T → HO (skw T) := fun T h => by
    unfold skw
    exact itk_i (F := fun r S => sfw S r) (P := fun _ s => HO s) (S := T) h _ (fun x s _ _ hs => hs.qq (by decide))
  have hm : ∀ T, HO T → HO (skm T) := fun T h => by
    unfold skm
    split
    · exact h
    · exact itk_i (F := fun r S => smk S r) (P := fun _ s => HO s) (S := T) h _ (fun x s _ _ hs => hs.mk)
  have hh : ∀ T, HO T → HO (skh T) := fun T h => by
    unfold skh
    exact itk_i (F := fun v S => itk (fun d S => shu S v d) 4 S) (P := fun _ s => HO s) (S := T) h _ (fun x s _ _ hs => itk_i (F := fun d S => shu S x d) (P := fun _ s => HO s) (S := s) hs 4 (fun y t _ _ ht => (ht.qq (by decide)).qq (by decide)))
  have hg : ∀ T : qMem, IV T → T 22 1 ≤ 0 → HO T → HO (skg T) := fun T IT h22 h => by
    have K : KG (T 0 10) 0 (T 1) T := ⟨IT, ⟨rfl, rfl⟩, h22⟩
    have K4 : KG (T 0 10) (4 * 0) (T 1) T := K
    have hN := gN IT.1.1
    rw [skg_eq K]
    have := itk_i (F := fun i S => itk (fun d S => sgc S (kvi (T 0 10) (T 1 3 * T 1 4) i) d) 4 S) (P := fun x s => KG (T 0 10) (4 * x) (T 1) s ∧ HO s) (S := T) ⟨K4, h⟩ (T 1 3 * T 1 4).toNat (fun x s x0 x1 hs => by
      have hv : 0 ≤ kvi (T 0 10) (T 1 3 * T 1 4) x ∧ kvi (T 0 10) (T 1 3 * T 1 4) x < T 1 3 * T 1 4 := ⟨Int.emod_nonneg _ (by omega), Int.emod_lt_of_pos _ (by omega)⟩
      have h4 := itk_i (F := fun d S => sgc S (kvi (T 0 10) (T 1 3 * T 1 4) x) d) (P := fun y s => KG (T 0 10) (4 * x + y) (T 1) s ∧ HO s) (S := s) (by rw [Int.add_zero]; exact hs) 4 (fun y t y0 y1 ht => by
        have hk := ht.1.gc (by omega) hv.1 hv.2 y0 (by omega)
        rw [show 4 * x + y + 1 = 4 * x + (y + 1) by omega] at hk
        exact ⟨hk, ht.2.gc ht.1.1.1.1 hv.1 (by rw [ht.1.2.1.2]; exact hv.2) y0 (by omega)⟩)
      rw [show 4 * (x + 1) = 4 * x + ((4 : Nat) : Int) by omega]
      exact h4)
    exact this.2
  have I2 : IV (sfg (qud S 22 1 0)) := (I.m0 (by omega) (by omega)).fg
  have X2 : HO (sfg (qud S 22 1 0)) := (X.qq (by decide)).fg
  have hN := gN I2.1.1
  have hd : IV (skd (sfg (qud S 22 1 0))) ∧ HO (skd (sfg (qud S 22 1 0))) := by
    unfold skd
    have := itk_i (F := fun v S => itk (fun k S => sdl S v (k + 1)) 8 S) (P := fun _ s => (IV s ∧ HO s) ∧ s 1 = sfg (qud S 22 1 0) 1) (S := sfg (qud S 22 1 0)) ⟨⟨I2, X2⟩, rfl⟩ (sfg (qud S 22 1 0) 1 3 * sfg (qud S 22 1 0) 1 4).toNat (fun x s x0 x1 hs => itk_i (F := fun k S => sdl S x (k + 1)) (P := fun _ s => (IV s ∧ HO s) ∧ s 1 = sfg (qud S 22 1 0) 1) (S := s) hs 8 (fun y t y0 y1 ht => ⟨⟨ht.1.1.dl x0 (by rw [ht.2]; omega) (by omega) (by omega), ht.1.2.dl⟩, by rw [sdl_r (by decide) (by decide) (by decide) (by decide) (by decide) (by decide) (by decide)]; exact ht.2⟩))
    exact this.1
  unfold stk skc
  refine HO.qq (hw _ (hm _ (hh _ (hg _ hd.1 ?_ hd.2)))) (by decide)
  rw [skd_22, sfg_r (by decide), qud_s]
  decide
theorem HO.pa (X : HO S) : HO (spa S k p).1 := by
  have := fli_i (g := spa1 k p) (h := fun x => x) (P := fun _ t => HO t.1) (s := (S, (0 : Int))) X (S 1 3 * S 1 4).toNat (fun v t _ _ ht => by
    unfold spa1
    split
    · exact ht
    · exact ht.so)
  exact this
theorem HO.sw (X : HO S) : HO (ssw S D n).1 := by
  have := fli_i (g := fun t _ => ssw1 t) (h := fun x => x) (P := fun _ (t : qMem × Int × Int) => HO t.1) (s := (S, D, (0 : Int))) X n.toNat (fun v t _ _ ht => ht.so)
  exact this
/-- many ticks -/
theorem HO.tks (hR : RM w S) (I : IV S) (X : IX S) (Y : HO S) (hc : S 0 10 + 100 ≤ 1000000) (n1 : n ≤ 100) : HO (stks S n) := by
  have key : ∀ m : Nat, (m : Int) ≤ 100 → (∃ w', RM w' (fli (fun S _ => stk S) (fun x => x) m S)) ∧ (IV (fli (fun S _ => stk S) (fun x => x) m S) ∧ IX (fli (fun S _ => stk S) (fun x => x) m S) ∧ HO (fli (fun S _ => stk S) (fun x => x) m S)) ∧ fli (fun S _ => stk S) (fun x => x) m S 0 10 = S 0 10 + m := by
    intro m
    induction m with
    | zero => intro _; exact ⟨⟨w, hR⟩, ⟨I, X, Y⟩, by show S 0 10 = S 0 10 + 0; omega⟩
    | succ m ih =>
      intro hm
      obtain ⟨⟨w', h1⟩, ⟨h2, h3, h4⟩, h5⟩ := ih (by omega)
      obtain ⟨w2, -, ⟨a1, -⟩, ⟨a2, a3, -⟩, a4⟩ := m_ticks h1 h2 h3 (by omega)
      refine ⟨⟨w2, a1⟩, ⟨a3, a2, h4.tk h2⟩, ?_⟩
      show stk (fli (fun S _ => stk S) (fun x => x) m S) 0 10 = S 0 10 + ((m + 1 : Nat) : Int)
      rw [a4, h5]
      omega
  unfold stks
  exact (key n.toNat (by omega)).2.1.2.2
end HH
