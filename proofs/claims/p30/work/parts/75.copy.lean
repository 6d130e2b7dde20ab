/-! a thought is made like the net -/
def F37 (w w' : qMem) : Prop := ∀ k, (k < 37 ∨ 72 ≤ k) → w' k = w k
def RGx (w : qMem) : Prop := ∃ W H, gIn W H ∧ RG 38 w W H
def DX (D : Nat → Prop) (w S : qMem) : Prop := ∀ (f : Nat) (n : Int), f < 35 → D f → lv S f n → w (37 + f) n = S f n
section CF
variable {w w' w0 S T : qMem} {W H v t x a b n i : Int} {f : Nat} {D : Nat → Prop}
theorem F37.rfl' : F37 w w := fun _ _ => rfl
theorem F37.tr (h : F37 w w') (h2 : F37 w' T) : F37 w T := fun k hk => (h2 k hk).trans (h k hk)
theorem F37.qd (h : F37 w w') (hf : f < 35) : F37 w (qud w' (37 + f) i x) := fun k hk => by
  funext j
  rw [qud_nk (by omega), h k hk]
theorem F37.cp {k1 : Nat} (h : F37 w w') (hf : f < 35) : F37 w (qcp w' k1 0 (37 + f) 0 n) := fun k hk => by
  funext j
  unfold qcp
  rw [if_neg (fun z => by have := z.1; omega), h k hk]
theorem DX.add (h : DX D w S) (hf : ∀ n, lv S f n → w (37 + f) n = S f n) : DX (fun g => D g ∨ g = f) w S := by
  intro g n hg hd hl
  rcases hd with hd | rfl
  · exact h g n hg hd hl
  · exact hf n hl
theorem DX.qd (h : DX D w S) (hn : ¬ D f) : DX D (qud w (37 + f) i x) S := by
  intro g n hg hd hl
  rw [qud_nk (fun z => hn (by rw [show f = g by omega]; exact hd))]
  exact h g n hg hd hl
theorem DX.cp (h : DX D w S) (hn : ¬ D f) (hs : ∀ n, lv S f n → w (2 + f) n = S f n) (hr : ∀ j, lv S f j → 0 ≤ j ∧ j < n) : DX (fun g => D g ∨ g = f) (qcp w (2 + f) 0 (37 + f) 0 n) S := by
  intro g j hg hd hl
  unfold qcp
  by_cases e : g = f
  · subst e
    have := hr j hl
    rw [if_pos ⟨rfl, by omega, by omega⟩, show 0 + (j - 0) = j by omega]
    exact hs j hl
  · rw [if_neg (fun z => e (by have := z.1; omega))]
    exact h g j hg (hd.resolve_right e) hl
theorem src_ok (hx : NX 2 w S) (hf : F37 w w') (h35 : f < 35) (hl : lv S f n) : w' (2 + f) n = S f n := by
  rw [hf (2 + f) (by omega)]
  exact hx.1 f n h35 hl
theorem g_copy (hx : NX 2 w S) (g : gIn (S 1 3) (S 1 4)) (hG : RGx w) : kT (f_G_copyFrom 38 3 w) (fun w' => RG 38 w' (S 1 3) (S 1 4) ∧ ∀ k, (k < 38 ∨ 41 < k) → w' k = w k) := by
  obtain ⟨W, H, gg, hG⟩ := hG
  have e3 : w 3 3 = S 1 3 := hx.2.1.1
  have e4 : w 3 4 = S 1 4 := hx.2.1.2
  have h22 : kT (f_G_copyFrom_22 38 3 w) (fun w' => RG 38 w' (S 1 3) (S 1 4) ∧ ∀ k, (k < 38 ∨ 41 < k) → w' k = w k) := by
    unfold f_G_copyFrom_22
    rw [e3, e4]
    refine kT_bind (g_lay (o := 38) g) (fun w1 h1 => kT_some h1)
  unfold f_G_copyFrom
  rw [e3, e4, hG.1.1, hG.1.2]
  refine kT_if (fun c1 => kT_if (fun c2 => ?_) (fun _ => h22)) (fun _ => h22)
  rw [c1, c2] at hG
  exact kT_some ⟨hG, fun _ _ => rfl⟩
theorem lv_pk (h6 : 6 ≤ f) (h17 : f ≤ 17) (hl : lv S f n) : 0 ≤ n ∧ n < S 5 13 := by
  have h := hl.2.1 h6 h17
  have hv := hl.1
  refine ⟨?_, h⟩
  rcases hv with z | z | z | z | z | z | z | z | z | z | z | z | z | z | z <;> omega
theorem cp_ok {α : Type} {k1 k2 : Nat} {N : Int} {K : qMem → Option α} {P : α → Prop} (h0 : 0 ≤ n) (h1 : n ≤ N) (k : kT (K (qcp w k1 0 k2 0 n)) P) : kT (qcpy w k1 N 0 k2 N 0 n K) P := by
  rw [qcpy_ok ⟨⟨by omega, by omega, h0⟩, by omega, by omega⟩]
  exact k
theorem row_ok {k1 k2 : Nat} (c0 : 0 ≤ S 5 13) (c1 : S 5 13 ≤ 250) (e : w 42 13 = S 5 13) : f_P_copyRow 42 k1 250 k2 250 w = some (qcp w k1 0 k2 0 (S 5 13)) := by
  unfold f_P_copyRow
  rw [e, qcpy_ok ⟨⟨by omega, by omega, c0⟩, by omega, by omega⟩]
/-- the state of a copy under way -/
def CS (w0 S : qMem) (D : Nat → Prop) (w : qMem) : Prop := DX D w S ∧ F37 w0 w ∧ w 42 13 = S 5 13 ∧ RG 38 w (S 1 3) (S 1 4)
theorem CS.row (h : CS w0 S D w) (hx : NX 2 w0 S) (hn : ¬ D f) (h35 : f < 35) (h6 : 6 ≤ f) (hr : ∀ j, lv S f j → 0 ≤ j ∧ j < n) : CS w0 S (fun g => D g ∨ g = f) (qcp w (2 + f) 0 (37 + f) 0 n) := by
  refine ⟨h.1.cp hn (fun j hl => src_ok hx h.2.1 h35 hl) hr, h.2.1.cp h35, ?_, h.2.2.2.fr (fun k k0 k1 => ?_)⟩
  · unfold qcp
    rw [if_neg (fun z => by have := z.1; omega)]
    exact h.2.2.1
  · funext j
    unfold qcp
    rw [if_neg (fun z => by have := z.1; omega)]
theorem p_copy (h : DX D w S ∧ F37 w0 w ∧ RG 38 w (S 1 3) (S 1 4)) (hx : NX 2 w0 S) (c0 : 0 ≤ S 5 13) (c1 : S 5 13 ≤ 250) (e14 : w 7 14 = S 5 14) (e13 : w 7 13 = S 5 13) (hn : ∀ f, 5 ≤ f → f ≤ 18 → ¬ D f) : kT (f_P_copyFrom 42 7 w) (CS w0 S (fun g => D g ∨ (5 ≤ g ∧ g ≤ 18))) := by
  have h1 : CS w0 S (fun g => D g ∨ g = 5) (qud (qud w 42 13 (S 5 13)) 42 14 (S 5 14)) := by
    refine ⟨DX.add ((h.1.qd (f := 5) (hn 5 (by decide) (by decide))).qd (f := 5) (hn 5 (by decide) (by decide))) (fun n hl => ?_), (h.2.1.qd (f := 5) (by decide)).qd (f := 5) (by decide), by rw [qud_ni (by decide), qud_s], h.2.2.fr (fun k k0 k1 => by funext j; rw [qud_nk (by omega), qud_nk (by omega)])⟩
    have hv : n = 13 ∨ n = 14 := by
      have := hl.1
      rcases this with z | z | z | z | z | z | z | z | z | z | z | z | z | z | z <;> omega
    rcases hv with rfl | rfl
    · show qud (qud w 42 13 (S 5 13)) 42 14 (S 5 14) 42 13 = _
      rw [qud_ni (by decide), qud_s]
    · show qud (qud w 42 13 (S 5 13)) 42 14 (S 5 14) 42 14 = _
      rw [qud_s]
  have row : ∀ (f : Nat) (E : Nat → Prop) (w : qMem), CS w0 S E w → ¬ E f → 6 ≤ f → f ≤ 17 → CS w0 S (fun g => E g ∨ g = f) (qcp w (2 + f) 0 (37 + f) 0 (S 5 13)) := fun f E w hc he a b => hc.row hx he (by omega) a (fun j hl => lv_pk a b hl)
  have nf : ∀ f, 6 ≤ f → f ≤ 18 → ¬ (D f ∨ f = 5) := fun f a b z => z.elim (hn f (by omega) b) (by omega)
  unfold f_P_copyFrom
  rw [qlt_ok, qlt_ok, e13, show qud w 42 13 (S 5 13) 7 14 = S 5 14 from by rw [qud_nk (by decide)]; exact e14]
  have r6 := row 6 _ _ h1 (nf 6 (by decide) (by decide)) (by decide) (by decide)
  refine kT_eq (row_ok c0 c1 h1.2.2.1) ?_
  have r7 := row 7 _ _ r6 (by simp [hn 7 (by decide) (by decide)]) (by decide) (by decide)
  refine kT_eq (row_ok c0 c1 r6.2.2.1) ?_
  have r8 := row 8 _ _ r7 (by simp [hn 8 (by decide) (by decide)]) (by decide) (by decide)
  refine kT_eq (row_ok c0 c1 r7.2.2.1) ?_
  have r9 := row 9 _ _ r8 (by simp [hn 9 (by decide) (by decide)]) (by decide) (by decide)
  refine kT_eq (row_ok c0 c1 r8.2.2.1) ?_
  have r10 := row 10 _ _ r9 (by simp [hn 10 (by decide) (by decide)]) (by decide) (by decide)
  refine kT_eq (row_ok c0 c1 r9.2.2.1) ?_
  have r11 := row 11 _ _ r10 (by simp [hn 11 (by decide) (by decide)]) (by decide) (by decide)
  refine kT_eq (row_ok c0 c1 r10.2.2.1) ?_
  have r12 := row 12 _ _ r11 (by simp [hn 12 (by decide) (by decide)]) (by decide) (by decide)
  refine kT_eq (row_ok c0 c1 r11.2.2.1) ?_
  have r13 := row 13 _ _ r12 (by simp [hn 13 (by decide) (by decide)]) (by decide) (by decide)
  refine kT_eq (row_ok c0 c1 r12.2.2.1) ?_
  have r14 := row 14 _ _ r13 (by simp [hn 14 (by decide) (by decide)]) (by decide) (by decide)
  refine kT_eq (row_ok c0 c1 r13.2.2.1) ?_
  have r15 := row 15 _ _ r14 (by simp [hn 15 (by decide) (by decide)]) (by decide) (by decide)
  refine kT_eq (row_ok c0 c1 r14.2.2.1) ?_
  have r16 := row 16 _ _ r15 (by simp [hn 16 (by decide) (by decide)]) (by decide) (by decide)
  refine kT_eq (row_ok c0 c1 r15.2.2.1) ?_
  have r17 := row 17 _ _ r16 (by simp [hn 17 (by decide) (by decide)]) (by decide) (by decide)
  refine kT_eq (row_ok c0 c1 r16.2.2.1) ?_
  have r18 := r17.row (f := 18) (n := S 5 13 * 5) hx (by simp [hn 18 (by decide) (by decide)]) (by decide) (by decide) (fun j hl => by
    have a := (hl.2.2.1 rfl).1
    have hv := hl.1
    refine ⟨?_, by omega⟩
    rcases hv with z | z | z | z | z | z | z | z | z | z | z | z | z | z | z <;> omega)
  have e13' := r17.2.2.1
  refine cp_ok (n := w32 _) ?_ ?_ ?_
  · rw [e13', w32_ok (by omega) (by omega)]; omega
  · rw [e13', w32_ok (by omega) (by omega)]; omega
  · rw [e13', w32_ok (by omega) (by omega)]
    refine kT_some ⟨fun f n hf hd hl => r18.1 f n hf ?_ hl, r18.2⟩
    rcases hd with hd | hd
    · simp only [hd, true_or]
    · rcases (by omega : f = 5 ∨ f = 6 ∨ f = 7 ∨ f = 8 ∨ f = 9 ∨ f = 10 ∨ f = 11 ∨ f = 12 ∨ f = 13 ∨ f = 14 ∨ f = 15 ∨ f = 16 ∨ f = 17 ∨ f = 18) with q | q | q | q | q | q | q | q | q | q | q | q | q | q <;> simp only [q, true_or, or_true]
end CF
