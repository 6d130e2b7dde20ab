/-! how many are delivered; who isn't -/
def dl1 (S : qMem) (p : Int) : Int := if S 9 p = 3 then 1 else 0
def XD (S : qMem) : Prop := S 5 14 = cV (dl1 S) (S 5 13)
/-- how many of the first x aren't -/
def lcn (S : qMem) (x : Int) : Int := cV (fun p => if S 9 p = 3 then 0 else 1) x
/-- the j-th of them -/
def lvP (S : qMem) (j : Int) : Int := cV (fun p => if S 9 p ≠ 3 ∧ lcn S p = j then p else 0) (S 5 13)
section XZ
variable {w w' S T S' : qMem} {v t n x p a b l N y k d c q r D j : Int}
theorem XD.co (X : XD S) (e5 : S' 5 = S 5) (e9 : S' 9 = S 9) : XD S' := by
  unfold XD dl1 at X ⊢
  rw [e5, e9]
  exact X
theorem XD.qq (X : XD S) {f : Nat} (hf : f ≠ 5 ∧ f ≠ 9) : XD (qud S f n x) := X.co (qud_row (Ne.symm hf.1)) (qud_row (Ne.symm hf.2))
theorem dl1_in : 0 ≤ dl1 S p ∧ dl1 S p ≤ 1 := by
  unfold dl1
  split <;> omega
theorem XD.dv (X : XD S) (hC : 0 ≤ S 5 13 ∧ S 5 13 ≤ 250) (p0 : 0 ≤ p) (p1 : p < S 5 13) (h3 : S 9 p ≠ 3) : XD (sdv S p c) := by
  have hb := cV_in (f := dl1 S) hC.1 (fun _ => dl1_in)
  have u := cV_u (f := dl1 S) (g := dl1 (sdv S p c)) (p := p) (v := 1) (x := S 5 13) p0 p1 (fun k => by
    unfold dl1
    rw [sdv_9]
    by_cases e : k = p
    · rw [if_pos e, if_pos e, if_pos rfl]
    · rw [if_neg e, if_neg e])
  have hz : dl1 S p = 0 := by unfold dl1; rw [if_neg h3]
  unfold XD at X ⊢
  rw [sdv_514, sdv_5, u, hz, w32_ok (by omega) (by omega)]
  omega
theorem XD.dl (X : XD S) (I : IV S) (v0 : 0 ≤ v) (v1 : v < S 1 3 * S 1 4) (k0 : 0 ≤ k) (k1 : k < 9) : XD (sdl S v k) := by
  unfold sdl
  by_cases e : sin S v k = true
  · rw [if_pos e]
    obtain ⟨e1, e2⟩ := sin_f e
    obtain ⟨⟨p0, p1⟩, -, -, -, h3, -⟩ := first_at I v0 v1 k0 k1 e1
    have hC := I.1.2.2.2.2.2.2.1
    have r : ∀ f : Nat, f ≠ 20 → f ≠ 21 → sdr S (v * 9 + k) f = S f := fun f a b => sdr_f a b
    refine XD.dv (X.co (r 5 (by decide) (by decide)) (r 9 (by decide) (by decide))) (by rw [r 5 (by decide) (by decide)]; exact hC) p0 (by rw [r 5 (by decide) (by decide)]; exact p1) (by rw [r 9 (by decide) (by decide)]; exact h3)
  · rw [if_neg e]; exact X
theorem XD.go (X : XD S) (I : IV S) (v0 : 0 ≤ v) (v1 : v < S 1 3 * S 1 4) (k0 : 0 ≤ k) (k1 : k < 9) (he : sfst S (v * 9 + k) ≠ -1) : XD (sgo S v k d) := by
  obtain ⟨⟨p0, p1⟩, -, -, -, h3, -⟩ := first_at I v0 v1 k0 k1 he
  have r5 : sgo S v k d 5 = S 5 := sgo_r (by decide) (by decide) (by decide) (by decide) (by decide) (by decide) (by decide) (by decide) (by decide) (by decide) (by decide) (by decide) (by decide) (by decide) (by decide) (by decide) (by decide) (by decide)
  have hl : sla S v k d ≠ 3 := by
    unfold sla
    split <;> decide
  have hC := I.1.2.2.2.2.2.2.1
  unfold XD at X ⊢
  rw [r5, X]
  refine cV_co hC.1 (fun p a b => ?_)
  unfold dl1
  rw [sgo_9]
  by_cases e : p = sfst S (v * 9 + k)
  · rw [if_pos e, if_neg hl, e, if_neg h3]
  · rw [if_neg e]
theorem XD.gc (X : XD S) (I : IV S) (v0 : 0 ≤ v) (v1 : v < S 1 3 * S 1 4) (d0 : 0 ≤ d) : XD (sgc S v d) := by
  unfold sgc
  by_cases e : sch S v d = -1
  · rw [if_pos e]; exact X
  · rw [if_neg e]
    have hk := sch_ok e
    exact X.go I v0 v1 hk.1 hk.2.1 (sok_of d0 hk.2.2).1
theorem XD.sd (X : XD S) (I : IV S) : XD (ssd S a b) := by
  have hC := I.1.2.2.2.2.2.2.1
  unfold XD at X ⊢
  rw [ssd_c, ssd_d, X, cV_s hC.1]
  have e : ∀ p, 0 ≤ p → p < S 5 13 → dl1 S p = dl1 (ssd S a b) p := fun p x y => by
    unfold dl1
    rw [ssd_p (f := 9) (by decide) (by decide), sap_9, if_neg (show ¬ p = S 5 13 by omega)]
  have z : dl1 (ssd S a b) (S 5 13) = 0 := by
    unfold dl1
    rw [ssd_p (f := 9) (by decide) (by decide), sap_9, if_pos rfl, if_neg (by decide)]
  rw [z, cV_co hC.1 e, Int.add_zero]
theorem XD.sa (X : XD S) (I : IV S) : XD (ssa S a b).2 := by
  unfold ssa
  split
  · exact X.sd I
  · exact X
theorem XD.so (X : XD S) (I : IV S) : XD (sso S a b).2 := by
  unfold sso
  split
  · exact X.qq (by decide)
  · exact X.sd I
theorem XD.bd (X : XD S) : XD (sbd S v) := by
  unfold sbd
  split
  · exact X.qq (by decide)
  · exact X
theorem XD.bg {W H e a r b : Int} : XD (sbg W H e a r b) := by
  have z : ∀ f n, f ≠ 0 ∧ f ≠ 1 ∧ f ≠ 25 ∧ f ≠ 26 ∧ f ≠ 27 ∧ f ≠ 30 → sbg W H e a r b f n = 0 := fun f n h => sbg_z h
  unfold XD
  rw [z 5 13 (by decide), z 5 14 (by decide)]
  rfl
theorem XD.mk (X : XD S) : XD (smk S r) := by
  have e : ∀ f : Nat, f ≠ 24 → f ≠ 26 → f ≠ 27 → f ≠ 28 → smk S r f = S f := fun f a b c d => smk_r a b c d
  exact X.co (e 5 (by decide) (by decide) (by decide) (by decide)) (e 9 (by decide) (by decide) (by decide) (by decide))
theorem XD.fg (X : XD S) : XD (sfg S) := X.co (sfg_r (by decide)) (sfg_r (by decide))
/-- a tick -/
theorem XD.tk (X : XD S) (I : IV S) : XD (stk S) := by
  have hw : ∀ T, XD T → XD (skw T) := fun T h => by
    unfold skw
    exact itk_i (F := fun r S => sfw S r) (P := fun _ s => XD s) (S := T) h _ (fun x s _ _ hs => hs.qq (by decide))
  have hm : ∀ T, XD T → XD (skm T) := fun T h => by
    unfold skm
    split
    · exact h
    · exact itk_i (F := fun r S => smk S r) (P := fun _ s => XD s) (S := T) h _ (fun x s _ _ hs => hs.mk)
  have hh : ∀ T, XD T → XD (skh T) := fun T h => by
    unfold skh
    exact itk_i (F := fun v S => itk (fun d S => shu S v d) 4 S) (P := fun _ s => XD s) (S := T) h _ (fun x s _ _ hs => itk_i (F := fun d S => shu S x d) (P := fun _ s => XD s) (S := s) hs 4 (fun y t _ _ ht => (ht.qq (by decide)).qq (by decide)))
  have hg : ∀ T : qMem, IV T → T 22 1 ≤ 0 → XD T → XD (skg T) := fun T IT h22 h => by
    have K : KG (T 0 10) 0 (T 1) T := ⟨IT, ⟨rfl, rfl⟩, h22⟩
    have K4 : KG (T 0 10) (4 * 0) (T 1) T := K
    have hN := gN IT.1.1
    rw [skg_eq K]
    have := itk_i (F := fun i S => itk (fun d S => sgc S (kvi (T 0 10) (T 1 3 * T 1 4) i) d) 4 S) (P := fun x s => KG (T 0 10) (4 * x) (T 1) s ∧ XD s) (S := T) ⟨K4, h⟩ (T 1 3 * T 1 4).toNat (fun x s x0 x1 hs => by
      have hv : 0 ≤ kvi (T 0 10) (T 1 3 * T 1 4) x ∧ kvi (T 0 10) (T 1 3 * T 1 4) x < T 1 3 * T 1 4 := ⟨Int.emod_nonneg _ (by omega), Int.emod_lt_of_pos _ (by omega)⟩
      have h4 := itk_i (F := fun d S => sgc S (kvi (T 0 10) (T 1 3 * T 1 4) x) d) (P := fun y s => KG (T 0 10) (4 * x + y) (T 1) s ∧ XD s) (S := s) (by rw [Int.add_zero]; exact hs) 4 (fun y t y0 y1 ht => by
        have hk := ht.1.gc (by omega) hv.1 hv.2 y0 (by omega)
        rw [show 4 * x + y + 1 = 4 * x + (y + 1) by omega] at hk
        exact ⟨hk, ht.2.gc ht.1.1 hv.1 (by rw [ht.1.2.1.2]; exact hv.2) y0⟩)
      rw [show 4 * (x + 1) = 4 * x + ((4 : Nat) : Int) by omega]
      exact h4)
    exact this.2
  have I2 : IV (sfg (qud S 22 1 0)) := (I.m0 (by omega) (by omega)).fg
  have X2 : XD (sfg (qud S 22 1 0)) := (X.qq (by decide)).fg
  have hN := gN I2.1.1
  have hd : IV (skd (sfg (qud S 22 1 0))) ∧ XD (skd (sfg (qud S 22 1 0))) := by
    unfold skd
    have := itk_i (F := fun v S => itk (fun k S => sdl S v (k + 1)) 8 S) (P := fun _ s => (IV s ∧ XD s) ∧ s 1 = sfg (qud S 22 1 0) 1) (S := sfg (qud S 22 1 0)) ⟨⟨I2, X2⟩, rfl⟩ (sfg (qud S 22 1 0) 1 3 * sfg (qud S 22 1 0) 1 4).toNat (fun x s x0 x1 hs => itk_i (F := fun k S => sdl S x (k + 1)) (P := fun _ s => (IV s ∧ XD s) ∧ s 1 = sfg (qud S 22 1 0) 1) (S := s) hs 8 (fun y t y0 y1 ht => ⟨⟨ht.1.1.dl x0 (by rw [ht.2]; omega) (by omega) (by omega), ht.1.2.dl ht.1.1 x0 (by rw [ht.2]; omega) (by omega) (by omega)⟩, by rw [sdl_r (by decide) (by decide) (by decide) (by decide) (by decide) (by decide) (by decide)]; exact ht.2⟩))
    exact this.1
  unfold stk skc
  refine XD.qq (hw _ (hm _ (hh _ (hg _ hd.1 ?_ hd.2)))) (by decide)
  rw [skd_22, sfg_r (by decide), qud_s]
  decide
theorem XD.pa (X : XD S) (I : IV S) : XD (spa S k p).1 := by
  have := fli_i (g := spa1 k p) (h := fun x => x) (P := fun _ t => IV t.1 ∧ XD t.1) (s := (S, (0 : Int))) ⟨I, X⟩ (S 1 3 * S 1 4).toNat (fun v t _ _ ht => by
    unfold spa1
    split
    · exact ht
    · exact ⟨ht.1.so, ht.2.so ht.1⟩)
  exact this.2
theorem XD.sw (X : XD S) (I : IV S) : XD (ssw S D n).1 := by
  have := fli_i (g := fun t _ => ssw1 t) (h := fun x => x) (P := fun _ (t : qMem × Int × Int) => IV t.1 ∧ XD t.1) (s := (S, D, (0 : Int))) ⟨I, X⟩ n.toNat (fun v t _ _ ht => ⟨ht.1.so, ht.2.so ht.1⟩)
  exact this.2
/-- many ticks -/
theorem XD.tks (hR : RM w S) (I : IV S) (X : IX S) (Y : XD S) (hc : S 0 10 + 100 ≤ 1000000) (n1 : n ≤ 100) : XD (stks S n) := by
  have key : ∀ m : Nat, (m : Int) ≤ 100 → (∃ w', RM w' (fli (fun S _ => stk S) (fun x => x) m S)) ∧ (IV (fli (fun S _ => stk S) (fun x => x) m S) ∧ IX (fli (fun S _ => stk S) (fun x => x) m S) ∧ XD (fli (fun S _ => stk S) (fun x => x) m S)) ∧ fli (fun S _ => stk S) (fun x => x) m S 0 10 = S 0 10 + m := by
    intro m
    induction m with
    | zero => intro _; exact ⟨⟨w, hR⟩, ⟨I, X, Y⟩, by show S 0 10 = S 0 10 + 0; omega⟩
    | succ m ih =>
      intro hm
      obtain ⟨⟨w', h1⟩, ⟨h2, h3, h4⟩, h5⟩ := ih (by omega)
      obtain ⟨w2, -, ⟨a1, -⟩, ⟨a2, a3, -⟩, a4⟩ := m_ticks h1 h2 h3 (by omega)
      refine ⟨⟨w2, a1⟩, ⟨a3, a2, h4.tk h2⟩, ?_⟩
      show stk (fli (fun S _ => stk S) (fun x => x) m S) 0 10 = S 0 10 + ((m + 1 : Nat) : Int)
      rw [a4, h5]
      omega
  unfold stks
  exact (key n.toNat (by omega)).2.1.2.2
/-! who isn't delivered -/
theorem lcn_s (x0 : 0 ≤ x) : lcn S (x + 1) = lcn S x + (if S 9 x = 3 then 0 else 1) := by
  unfold lcn
  rw [cV_s x0]
theorem lcn_in (x0 : 0 ≤ x) : 0 ≤ lcn S x ∧ lcn S x ≤ x := cV_in x0 (fun k => by split <;> omega)
theorem lcn_le (x0 : 0 ≤ x) (h : x ≤ y) : lcn S x ≤ lcn S y := by
  have key : ∀ m : Nat, lcn S x ≤ lcn S (x + m) := by
    intro m
    induction m with
    | zero => rw [show x + ((0 : Nat) : Int) = x by omega]; exact Int.le_refl _
    | succ m ih =>
      rw [show x + ((m + 1 : Nat) : Int) = (x + m) + 1 by omega, lcn_s (by omega)]
      split <;> omega
  have := key (y - x).toNat
  rw [show x + (((y - x).toNat : Nat) : Int) = y by omega] at this
  exact this
theorem lcn_lt (x0 : 0 ≤ x) (h : x < y) (hx : S 9 x ≠ 3) : lcn S x < lcn S y := by
  have h1 := lcn_s (S := S) x0
  have h2 := lcn_le (S := S) (x := x + 1) (y := y) (by omega) (by omega)
  rw [if_neg hx] at h1
  omega
theorem lvP_at (p0 : 0 ≤ p) (p1 : p < S 5 13) (hp : S 9 p ≠ 3) : lvP S (lcn S p) = p := by
  unfold lvP
  rw [cV_1 (j := p) (fun i i0 i1 e => by
    rw [if_neg]
    intro z
    rcases Int.lt_or_gt_of_ne e with t | t
    · have := lcn_lt (S := S) i0 t z.1
      omega
    · have := lcn_lt (S := S) p0 t hp
      omega) p0 p1]
  rw [if_pos ⟨hp, rfl⟩]
/-- each number is one's -/
theorem lcn_ex (x0 : 0 ≤ x) (j0 : 0 ≤ j) (j1 : j < lcn S x) : ∃ p, (0 ≤ p ∧ p < x) ∧ S 9 p ≠ 3 ∧ lcn S p = j := by
  have key : ∀ m : Nat, j < lcn S m → ∃ p, (0 ≤ p ∧ p < (m : Int)) ∧ S 9 p ≠ 3 ∧ lcn S p = j := by
    intro m
    induction m with
    | zero =>
      intro h
      have : lcn S ((0 : Nat) : Int) = 0 := rfl
      omega
    | succ m ih =>
      intro h
      rw [show ((m + 1 : Nat) : Int) = (m : Int) + 1 by omega, lcn_s (by omega)] at h
      by_cases e : j < lcn S m
      · obtain ⟨p, a, b⟩ := ih e
        exact ⟨p, ⟨a.1, by omega⟩, b⟩
      · by_cases z : S 9 m = 3
        · rw [if_pos z] at h
          omega
        · rw [if_neg z] at h
          exact ⟨m, ⟨by omega, by omega⟩, z, by omega⟩
  obtain ⟨p, a, b⟩ := key x.toNat (by rw [show ((x.toNat : Nat) : Int) = x by omega]; exact j1)
  exact ⟨p, ⟨a.1, by omega⟩, b⟩
theorem lvP_in (hC : 0 ≤ S 5 13) (j0 : 0 ≤ j) (j1 : j < lcn S (S 5 13)) : ((0 ≤ lvP S j ∧ lvP S j < S 5 13) ∧ S 9 (lvP S j) ≠ 3) ∧ lcn S (lvP S j) = j := by
  obtain ⟨p, ⟨p0, p1⟩, hp, e⟩ := lcn_ex hC j0 j1
  have := lvP_at p0 p1 hp
  rw [e] at this
  rw [this]
  exact ⟨⟨⟨p0, p1⟩, hp⟩, e⟩
theorem LVe.of (hC : 0 ≤ S 5 13) (h3 : lcn S (S 5 13) ≤ 3) : LVe S (lcn S (S 5 13)) (lvP S) := by
  refine ⟨⟨(lcn_in hC).1, h3⟩, fun j j0 j1 => (lvP_in hC j0 j1).1, fun i j i0 i1 j0 j1 e => ?_, fun p p0 p1 hp => ⟨lcn S p, ⟨(lcn_in p0).1, lcn_lt p0 p1 hp⟩, lvP_at p0 p1 hp⟩⟩
  have a := (lvP_in hC i0 i1).2
  have b := (lvP_in hC j0 j1).2
  rw [e] at a
  omega
theorem left_n (X : XD S) (hC : 0 ≤ S 5 13) : S 5 13 - S 5 14 = lcn S (S 5 13) := by
  have h := cV_add (f := dl1 S) (g := fun p => if S 9 p = 3 then 0 else 1) (x := S 5 13) hC
  have h1 : cV (fun p => dl1 S p + (if S 9 p = 3 then 0 else 1)) (S 5 13) = S 5 13 := by
    have key : ∀ m : Nat, cV (fun p => dl1 S p + (if S 9 p = 3 then 0 else 1)) m = m := by
      intro m
      induction m with
      | zero => rfl
      | succ m ih =>
        rw [show ((m + 1 : Nat) : Int) = (m : Int) + 1 by omega, cV_s (by omega), ih]
        unfold dl1
        split <;> omega
    have := key (S 5 13).toNat
    rw [show (((S 5 13).toNat : Nat) : Int) = S 5 13 by omega] at this
    exact this
  unfold XD at X
  unfold lcn
  omega
end XZ
