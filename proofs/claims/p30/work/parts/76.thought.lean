/-! a thought is made; through, arrives (the class) -/
def CT (w0 S : qMem) (D : Nat → Prop) (w : qMem) : Prop := DX D w S ∧ F37 w0 w ∧ RG 38 w (S 1 3) (S 1 4)
section TT
variable {w w' w0 S T : qMem} {t x p a b n i : Int} {f : Nat} {D : Nat → Prop}
theorem CS.ct (h : CS w0 S D w) : CT w0 S D w := ⟨h.1, h.2.1, h.2.2.2⟩
theorem CT.row (h : CT w0 S D w) (hx : NX 2 w0 S) (hn : ¬ D f) (h35 : f < 35) (h5 : f = 0 ∨ 5 ≤ f) (hr : ∀ j, lv S f j → 0 ≤ j ∧ j < n) : CT w0 S (fun g => D g ∨ g = f) (qcp w (2 + f) 0 (37 + f) 0 n) := by
  refine ⟨h.1.cp hn (fun j hl => src_ok hx h.2.1 h35 hl) hr, h.2.1.cp h35, h.2.2.fr (fun k k0 k1 => ?_)⟩
  funext j
  unfold qcp
  rw [if_neg (fun z => by have := z.1; omega)]
/-- one number is copied -/
theorem CT.num (h : CT w0 S D w) (hn : ¬ D f) (h35 : f < 35) (h5 : f = 0 ∨ 5 ≤ f) : CT w0 S D (qud w (37 + f) i x) :=
  ⟨h.1.qd hn, h.2.1.qd h35, h.2.2.fr (fun k k0 k1 => by funext j; rw [qud_nk (by omega)])⟩
theorem CT.add (h : CT w0 S D w) (hf : ∀ n, lv S f n → w (37 + f) n = S f n) : CT w0 S (fun g => D g ∨ g = f) w := ⟨h.1.add hf, h.2⟩
theorem CT.src (h : CT w0 S D w) (hx : NX 2 w0 S) (h35 : f < 35) (hl : lv S f n) : w (2 + f) n = S f n := src_ok hx h.2.1 h35 hl
theorem n_copy2 (hx : NX 2 w0 S) (I : IV S) (u0 : CT w0 S (fun g => g = 1 ∨ g = 0) w) : kT ((f_V_copyFrom 59 24 w).bind fun q9 => (f_P_copyFrom 42 7 q9).bind fun q10 => (f_Q_copyFrom 56 21 q10).bind fun q11 => (f_R_copyFrom 61 26 q11).bind fun q12 => qcpy q12 36 64 0 71 64 0 64 fun w13 => some w13) (fun w' => NX 37 w' S ∧ F37 w0 w') := by
  have hc := I.1.2.2.2.2.2.2
  have h16 := g16r I.1.1
  have e22 : w 24 1 = S 22 1 := u0.src (f := 22) hx (by decide) lv_22_1
  have a1 := (u0.num (f := 22) (i := 1) (x := S 22 1) (by decide) (by decide) (by decide)).add (f := 22) (fun n hl => by
    have hv : n = 1 := by
      rcases hl.1 with z | z | z | z | z | z | z | z | z | z | z | z | z | z | z <;> omega
    rw [hv, qud_s])
  have a2 := a1.row (f := 23) (n := S 22 1 * 5) hx (by decide) (by decide) (by decide) (fun j hl => by
    have a := hl.2.2.2.2.1 rfl
    have hv : 0 ≤ j := by
      rcases hl.1 with z | z | z | z | z | z | z | z | z | z | z | z | z | z | z <;> omega
    exact ⟨hv, by omega⟩)
  have e1 : f_V_copyFrom 59 24 w = some (qcp (qud w 59 1 (S 22 1)) 25 0 60 0 (S 22 1 * 5)) := by
    unfold f_V_copyFrom
    rw [qlt_ok, e22, qud_s, w32_ok (by omega) (by omega), qcpy_ok ⟨⟨by omega, by omega, by omega⟩, by omega, by omega⟩]
  refine kT_eq e1 ?_
  have a2' : CT w0 S (fun g => ((g = 1 ∨ g = 0) ∨ g = 22) ∨ g = 23) (qcp (qud w 59 1 (S 22 1)) 25 0 60 0 (S 22 1 * 5)) := a2
  generalize qcp (qud w 59 1 (S 22 1)) 25 0 60 0 (S 22 1 * 5) = w2 at a2'
  refine kT_bind (p_copy a2' hx hc.1.1 hc.1.2 (a2'.src (f := 5) hx (by decide) lv_5_14) (a2'.src (f := 5) hx (by decide) lv_5_13) (fun f x y => by omega)) (fun w3 h3 => ?_)
  have b0 := h3.ct
  have b1 := b0.row (f := 20) (n := 144) hx (by omega) (by decide) (by decide) (fun j hl => vv_20 hl.1)
  have b2 := b1.row (f := 21) (n := 864) hx (by omega) (by decide) (by decide) (fun j hl => by
    rcases hl.1 with z | z | z | z | z | z | z | z | z | z | z | z | z | z | z <;> omega)
  have e2 : f_Q_copyFrom 56 21 w3 = some (qcp (qcp w3 22 0 57 0 144) 23 0 58 0 864) := by
    unfold f_Q_copyFrom
    rw [qcpy_ok (by decide), qcpy_ok (by decide)]
  refine kT_eq e2 ?_
  have b2' : CT w0 S (fun g => (((((g = 1 ∨ g = 0) ∨ g = 22) ∨ g = 23) ∨ (5 ≤ g ∧ g ≤ 18)) ∨ g = 20) ∨ g = 21) (qcp (qcp w3 22 0 57 0 144) 23 0 58 0 864) := b2
  generalize qcp (qcp w3 22 0 57 0 144) 23 0 58 0 864 = w4 at b2'
  have rg : ∀ f, 25 ≤ f → f ≤ 30 → ∀ j, lv S f j → 0 ≤ j ∧ j < 16 := fun f x y j hl => by
    have a := hl.2.2.2.2.2 x y
    have hv : 0 ≤ j := by
      rcases hl.1 with z | z | z | z | z | z | z | z | z | z | z | z | z | z | z <;> omega
    exact ⟨hv, by omega⟩
  have c1 := b2'.row (f := 25) (n := 16) hx (by omega) (by decide) (by decide) (rg 25 (by decide) (by decide))
  have c2 := c1.row (f := 26) (n := 16) hx (by omega) (by decide) (by decide) (rg 26 (by decide) (by decide))
  have c3 := c2.row (f := 27) (n := 16) hx (by omega) (by decide) (by decide) (rg 27 (by decide) (by decide))
  have c4 := c3.row (f := 28) (n := 16) hx (by omega) (by decide) (by decide) (rg 28 (by decide) (by decide))
  have c5 := c4.row (f := 29) (n := 16) hx (by omega) (by decide) (by decide) (rg 29 (by decide) (by decide))
  have c6 := c5.row (f := 30) (n := 16) hx (by omega) (by decide) (by decide) (rg 30 (by decide) (by decide))
  have c7 := c6.row (f := 31) (n := 64) hx (by omega) (by decide) (by decide) (fun j hl => by
    rcases hl.1 with z | z | z | z | z | z | z | z | z | z | z | z | z | z | z <;> omega)
  have c8 := c7.row (f := 32) (n := 16) hx (by omega) (by decide) (by decide) (fun j hl => by
    rcases hl.1 with z | z | z | z | z | z | z | z | z | z | z | z | z | z | z <;> omega)
  have c9 := c8.row (f := 33) (n := 64) hx (by omega) (by decide) (by decide) (fun j hl => by
    rcases hl.1 with z | z | z | z | z | z | z | z | z | z | z | z | z | z | z <;> omega)
  have e24 := c9.src (f := 24) (n := 9) hx (by decide) lv_24_9
  have c10 := (c9.num (f := 24) (i := 9) (x := S 24 9) (by omega) (by decide) (by decide)).add (f := 24) (fun n hl => by
    have hv : n = 9 := by
      rcases hl.1 with z | z | z | z | z | z | z | z | z | z | z | z | z | z | z <;> omega
    rw [hv, qud_s])
  have c11 := c10.row (f := 34) (n := 64) hx (by omega) (by decide) (by decide) (fun j hl => vv_34 hl.1)
  have e3 : f_R_copyFrom 61 26 w4 = some (qud (qcp (qcp (qcp (qcp (qcp (qcp (qcp (qcp (qcp w4 27 0 62 0 16) 28 0 63 0 16) 29 0 64 0 16) 30 0 65 0 16) 31 0 66 0 16) 32 0 67 0 16) 33 0 68 0 64) 34 0 69 0 16) 35 0 70 0 64) 61 9 (S 24 9)) := by
    unfold f_R_copyFrom
    rw [qcpy_ok (by decide), qcpy_ok (by decide), qcpy_ok (by decide), qcpy_ok (by decide), qcpy_ok (by decide), qcpy_ok (by decide), qcpy_ok (by decide), qcpy_ok (by decide), qcpy_ok (by decide), qlt_ok]
    exact congrArg (fun z => some (qud (qcp (qcp (qcp (qcp (qcp (qcp (qcp (qcp (qcp w4 27 0 62 0 16) 28 0 63 0 16) 29 0 64 0 16) 30 0 65 0 16) 31 0 66 0 16) 32 0 67 0 16) 33 0 68 0 64) 34 0 69 0 16) 35 0 70 0 64) 61 9 z)) e24
  refine kT_eq e3 ?_
  rw [qcpy_ok (by decide)]
  refine kT_some ⟨⟨fun f n hf hl => c11.1 f n hf ?_ hl, ?_⟩, c11.2.1⟩
  · rcases hl.1 with z | z | z | z | z | z | z | z | z | z | z | z | z | z | z <;> omega
  · exact c11.2.2
theorem n_copyFrom (hx : NX 2 w S) (I : IV S) (hG : RGx w) : kT (f_N_copyFrom 37 2 w) (fun w' => NX 37 w' S ∧ F37 w w') := by
  have hc := I.1.2.2.2.2.2.2
  have h16 := g16r I.1.1
  unfold f_N_copyFrom
  refine kT_bind (g_copy hx I.1.1 hG) (fun w1 h1 => ?_)
  have s1 : CT w S (fun g => g = 1) w1 := by
    refine ⟨fun f n hf hd hl => ?_, fun k hk => h1.2 k (by omega), h1.1⟩
    subst hd
    have hv : n = 3 ∨ n = 4 := by
      rcases hl.1 with z | z | z | z | z | z | z | z | z | z | z | z | z | z | z <;> omega
    rcases hv with rfl | rfl
    · exact h1.1.1.1
    · exact h1.1.1.2
  have e : ∀ (W : qMem) (n : Int), CT w S (fun g => g = 1) W → 6 ≤ n → n ≤ 12 → W 2 n = S 0 n := fun W n hW a b => hW.src (f := 0) hx (by decide) ⟨Or.inl ⟨rfl, a, b⟩, fun z => by omega, fun z => by omega, fun z => by omega, fun z => by omega, fun z => by omega⟩
  have n0 : ¬ ((0 : Nat) = 1) := by decide
  have t1 := s1.num (f := 0) (i := 6) (x := S 0 6) n0 (by decide) (by decide)
  have t2 := t1.num (f := 0) (i := 7) (x := S 0 7) n0 (by decide) (by decide)
  have t3 := t2.num (f := 0) (i := 8) (x := S 0 8) n0 (by decide) (by decide)
  have t4 := t3.num (f := 0) (i := 9) (x := S 0 9) n0 (by decide) (by decide)
  have t5 := t4.num (f := 0) (i := 10) (x := S 0 10) n0 (by decide) (by decide)
  have t6 := t5.num (f := 0) (i := 11) (x := S 0 11) n0 (by decide) (by decide)
  have t7 := t6.num (f := 0) (i := 12) (x := S 0 12) n0 (by decide) (by decide)
  rw [qlt_ok, e w1 6 s1 (by decide) (by decide), qlt_ok, e _ 7 t1 (by decide) (by decide), qlt_ok, e _ 8 t2 (by decide) (by decide), qlt_ok, e _ 9 t3 (by decide) (by decide), qlt_ok, e _ 10 t4 (by decide) (by decide), qlt_ok, e _ 11 t5 (by decide) (by decide), qlt_ok, e _ 12 t6 (by decide) (by decide)]
  have u0 := t7.add (f := 0) (fun n hl => by
    have hv : n = 6 ∨ n = 7 ∨ n = 8 ∨ n = 9 ∨ n = 10 ∨ n = 11 ∨ n = 12 := by
      rcases hl.1 with z | z | z | z | z | z | z | z | z | z | z | z | z | z | z <;> omega
    rcases hv with rfl | rfl | rfl | rfl | rfl | rfl | rfl
    · rw [qud_ni (by decide), qud_ni (by decide), qud_ni (by decide), qud_ni (by decide), qud_ni (by decide), qud_ni (by decide), qud_s]
    · rw [qud_ni (by decide), qud_ni (by decide), qud_ni (by decide), qud_ni (by decide), qud_ni (by decide), qud_s]
    · rw [qud_ni (by decide), qud_ni (by decide), qud_ni (by decide), qud_ni (by decide), qud_s]
    · rw [qud_ni (by decide), qud_ni (by decide), qud_ni (by decide), qud_s]
    · rw [qud_ni (by decide), qud_ni (by decide), qud_s]
    · rw [qud_ni (by decide), qud_s]
    · rw [qud_s])
  exact n_copy2 hx I u0
end TT
