/-! beginning anew, the rings -/
section BE
variable {o : Nat} {w w' S T : qMem} {W H v t d r x n e a b i j : Int} {f g : Nat} {P : Nat → Int → Prop}
theorem n_clearAll (hw : RG (o + 1) w W H) (gg : gIn W H) (k : sokb e a r b) (h : RXP P o w (sbg W H e a r b)) : kT (f_R_clearAll (o + 24) (o + 1) e w) (fun w' => RXP (fun g n => P g n ∨ ((24 ≤ g ∧ g ≤ 33) ∧ vv g n ∧ (25 ≤ g → g ≤ 30 → n < 2 * (W + H)))) o w' (sbg W H e a r b) ∧ FN o w w') := by
  have z : ∀ (f : Nat) (x : Int), (f = 26 ∨ f = 27 → x = -1) → (f = 28 ∨ f = 29 ∨ f = 31 ∨ f = 32 ∨ f = 33 → x = 0) → (f = 26 ∨ f = 27 ∨ f = 28 ∨ f = 29 ∨ f = 31 ∨ f = 32 ∨ f = 33) → ∀ (n i : Int), 0 ≤ i → i < n → sbg W H e a r b f i = x := by
    intro f x h1 h2 h3 n i _ _
    rcases h3 with q | q | q | q | q | q | q <;> subst q
    · rw [h1 (by decide)]; rfl
    · rw [h1 (by decide)]; rfl
    · rw [h2 (by decide)]; rfl
    · rw [h2 (by decide)]; rfl
    · rw [h2 (by decide)]; rfl
    · rw [h2 (by decide)]; rfl
    · rw [h2 (by decide)]; rfl
  unfold f_R_clearAll
  refine kT_bind (j_fill (by decide) (by decide)) (fun w1 k1 => ?_)
  have h1 := h.fl (f := 26) (n := 16) (x := -1) k1 (z 26 _ (fun _ => rfl) (by decide) (by decide) 16)
  have f1 := (FN.rfl' (o := o) (w := w)).fl (f := 26) k1 (by decide) (by decide)
  refine kT_bind (j_fill (by decide) (by decide)) (fun w2 k2 => ?_)
  have h2 := h1.fl (f := 27) (n := 16) (x := -1) k2 (z 27 _ (fun _ => rfl) (by decide) (by decide) 16)
  have f2 := f1.fl (f := 27) k2 (by decide) (by decide)
  refine kT_bind (j_fill (by decide) (by decide)) (fun w3 k3 => ?_)
  have h3 := h2.fl (f := 28) (n := 16) (x := 0) k3 (z 28 _ (by decide) (fun _ => rfl) (by decide) 16)
  have f3 := f2.fl (f := 28) k3 (by decide) (by decide)
  refine kT_bind (j_fill (by decide) (by decide)) (fun w4 k4 => ?_)
  have h4 := h3.fl (f := 29) (n := 16) (x := 0) k4 (z 29 _ (by decide) (fun _ => rfl) (by decide) 16)
  have f4 := f3.fl (f := 29) k4 (by decide) (by decide)
  refine kT_bind (j_fill (by decide) (by decide)) (fun w5 k5 => ?_)
  have h5 := h4.fl (f := 31) (n := 64) (x := 0) k5 (z 31 _ (by decide) (fun _ => rfl) (by decide) 64)
  have f5 := f4.fl (f := 31) k5 (by decide) (by decide)
  refine kT_bind (j_fill (by decide) (by decide)) (fun w6 k6 => ?_)
  have h6 := h5.fl (f := 32) (n := 16) (x := 0) k6 (z 32 _ (by decide) (fun _ => rfl) (by decide) 16)
  have f6 := f5.fl (f := 32) k6 (by decide) (by decide)
  have h7 := h6.wt (f := 24) (i := 9) (x := 0) rfl
  have f7 := f6.q (f := 24) (n := 9) (v := 0) (by decide) (by decide)
  rw [qlt_ok]
  obtain ⟨w8, ⟨h8, f8⟩, e8⟩ := n_clear55 (hw.fn f7) gg k h7
  obtain ⟨w9, e9, h9, f9⟩ := n_forgetP h8 (z 33 _ (by decide) (fun _ => rfl) (by decide) 64)
  rw [e8]
  unfold f_R_clearAll_94
  rw [qbd e9]
  refine kT_some ⟨?_, (f7.tr f8).tr f9⟩
  · intro g n hg hp
    refine h9 g n hg ?_
    rcases hp with hp | ⟨⟨g0, g1⟩, hv, hn⟩
    · simp only [hp, true_or]
    · unfold vv at hv
      rcases (by omega : g = 24 ∨ g = 25 ∨ g = 26 ∨ g = 27 ∨ g = 28 ∨ g = 29 ∨ g = 30 ∨ g = 31 ∨ g = 32 ∨ g = 33) with q | q | q | q | q | q | q | q | q | q <;> subst q
      · have : n = 9 := by omega
        simp only [this, and_self, true_or, or_true]
      · have h' : 0 ≤ n ∧ n < 2 * (W + H) := by have := hn (by decide) (by decide); omega
        exact Or.inl (Or.inr ⟨Or.inl rfl, h'⟩)
      · have h' : 0 ≤ n ∧ n < 16 := by omega
        simp only [h', and_self, true_or, or_true]
      · have h' : 0 ≤ n ∧ n < 16 := by omega
        simp only [h', and_self, true_or, or_true]
      · have h' : 0 ≤ n ∧ n < 16 := by omega
        simp only [h', and_self, true_or, or_true]
      · have h' : 0 ≤ n ∧ n < 16 := by omega
        simp only [h', and_self, true_or, or_true]
      · have h' : 0 ≤ n ∧ n < 2 * (W + H) := by have := hn (by decide) (by decide); omega
        exact Or.inl (Or.inr ⟨Or.inr rfl, h'⟩)
      · have h' : 0 ≤ n ∧ n < 64 := by omega
        simp only [h', and_self, true_or, or_true]
      · have h' : 0 ≤ n ∧ n < 16 := by omega
        simp only [h', and_self, true_or, or_true]
      · have h' : 0 ≤ n ∧ n < 64 := by omega
        simp only [h', and_self, true_or, or_true]
end BE
