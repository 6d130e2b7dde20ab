/-! beginning anew, a net -/
section BE
variable {o : Nat} {w w' S T : qMem} {W H v t d r x n e a b i j : Int} {f g : Nat} {P : Nat → Int → Prop}
theorem n_begin (hw : RG (o + 1) w W H) (gg : gIn W H) (k : sokb e a r b) : kT (f_N_begin o e a r b w) (fun w' => NX o w' (sbg W H e a r b) ∧ FN o w w') := by
  have s0 : RXP (fun g n => g = 1 ∧ (n = 3 ∨ n = 4)) o w (sbg W H e a r b) := by
    intro g n hg hp
    obtain ⟨rfl, hp⟩ := hp
    rcases hp with rfl | rfl
    · exact hw.1.1
    · exact hw.1.2
  have s1 := s0.wt (f := 0) (i := 6) (x := e) rfl
  have f1 := (FN.rfl' (o := o) (w := w)).q (f := 0) (n := 6) (v := e) (by decide) (by decide)
  have s2 := s1.wt (f := 0) (i := 7) (x := a) rfl
  have f2 := f1.q (f := 0) (n := 7) (v := a) (by decide) (by decide)
  have s3 := s2.wt (f := 0) (i := 8) (x := r) rfl
  have f3 := f2.q (f := 0) (n := 8) (v := r) (by decide) (by decide)
  have s4 := s3.wt (f := 0) (i := 9) (x := b) rfl
  have f4 := f3.q (f := 0) (n := 9) (v := b) (by decide) (by decide)
  have s5 := s4.wt (f := 0) (i := 10) (x := 0) rfl
  have f5 := f4.q (f := 0) (n := 10) (v := 0) (by decide) (by decide)
  have s6 := s5.wt (f := 0) (i := 11) (x := 0) rfl
  have f6 := f5.q (f := 0) (n := 11) (v := 0) (by decide) (by decide)
  have s7 := s6.wt (f := 0) (i := 12) (x := 0) rfl
  have f7 := f6.q (f := 0) (n := 12) (v := 0) (by decide) (by decide)
  have s8 := s7.wt (f := 22) (i := 1) (x := 0) rfl
  have f8 := f7.q (f := 22) (n := 1) (v := 0) (by decide) (by decide)
  have s9 := s8.wt (f := 5) (i := 13) (x := 0) rfl
  have f9 := f8.q (f := 5) (n := 13) (v := 0) (by decide) (by decide)
  have s10 := s9.wt (f := 5) (i := 14) (x := 0) rfl
  have f10 := f9.q (f := 5) (n := 14) (v := 0) (by decide) (by decide)
  unfold f_N_begin
  rw [qlt_ok, qlt_ok, qlt_ok, qlt_ok, qlt_ok, qlt_ok, qlt_ok, qlt_ok]
  unfold f_P_clearAll
  rw [qlt_ok, qlt_ok]
  refine kT_eq rfl ?_
  obtain ⟨w11, e11, k11⟩ := j_fill (p := o + 20) (n := 144) (x := 0) (w := qud (qud (qud (qud (qud (qud (qud (qud (qud (qud w o 6 e) o 7 a) o 8 r) o 9 b) o 10 0) o 11 0) o 12 0) (o + 22) 1 0) (o + 5) 13 0) (o + 5) 14 0) (by decide) (by decide)
  have h11 := And.intro (s10.fl (f := 20) (n := 144) (x := 0) k11 (fun i _ _ => rfl)) (f10.fl (f := 20) k11 (by decide) (by decide))
  have eQ : f_Q_clearAll (o + 19) (qud (qud (qud (qud (qud (qud (qud (qud (qud (qud w o 6 e) o 7 a) o 8 r) o 9 b) o 10 0) o 11 0) o 12 0) (o + 22) 1 0) (o + 5) 13 0) (o + 5) 14 0) = some w11 := by
    unfold f_Q_clearAll
    rw [qbd e11]
  refine kT_eq eQ ?_
  · refine kT_bind (n_clearAll (hw.fn h11.2) gg k h11.1) (fun w12 h12 => ?_)
    refine kT_bind (j_fill (by decide) (by decide)) (fun w13 k13 => ?_)
    have s13 := h12.1.fl (f := 34) (n := 64) (x := 0) k13 (fun i _ _ => rfl)
    have f13 := (h11.2.tr h12.2).fl (f := 34) k13 (by decide) (by decide)
    refine kT_some ⟨⟨s13.fi (fun f n hf35 hl => ?_), hw.fn f13⟩, f13⟩
    have hq := sbg_lv hl
    have hv := vv_of hl
    by_cases hf : 24 ≤ f ∧ f ≤ 33
    · exact Or.inl (Or.inr ⟨hf, hv, fun x y => hq.2.2.2 x y⟩)
    · by_cases hf2 : f = 20
      · have h' : 0 ≤ n ∧ n < 144 := vv_20 (by rw [← hf2]; exact hv)
        simp only [hf2, h', and_self, true_or, or_true]
      · by_cases hf3 : f = 34
        · have h' : 0 ≤ n ∧ n < 64 := vv_34 (by rw [← hf3]; exact hv)
          simp only [hf3, h', and_self, or_true]
        · rcases vv_sc hv hf hf2 hf3 hf35 hq.2.2.1 hq.1 hq.2.1 with q | q | q | q | q | q | q | q | q | q | q
          · simp only [q, and_self, true_or, or_true]
          · simp only [q, and_self, true_or, or_true]
          · simp only [q, and_self, true_or, or_true]
          · simp only [q, and_self, true_or, or_true]
          · simp only [q, and_self, true_or, or_true]
          · simp only [q, and_self, true_or, or_true]
          · simp only [q, and_self, true_or, or_true]
          · simp only [q, and_self, true_or, or_true]
          · simp only [q, and_self, true_or, or_true]
          · simp only [q, and_self, true_or, or_true]
          · simp only [q, and_self, true_or, or_true]
end BE
