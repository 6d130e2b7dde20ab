/-! shower: the calls -/
section SZ
variable {w w' S T : qMem} {n D : Int}
theorem x_shower (hx : NX 2 w S) (I : IV S) (hD : w 1 6 = D) : kT (f_X_shower n w) (fun r => (1 ≤ n ∧ n ≤ 60 → r.1 = (ssw S D n).2.2 ∧ NX 2 r.2 (ssw S D n).1 ∧ r.2 1 6 = (ssw S D n).2.1) ∧ (¬ (1 ≤ n ∧ n ≤ 60) → r.1 = -1 ∧ NX 2 r.2 S ∧ r.2 1 6 = D) ∧ FX1 w r.2) := by
  unfold f_X_shower
  refine kT_eq x_within ?_
  dsimp only
  rw [bi_if]
  by_cases e : 1 ≤ n ∧ n ≤ 60
  · rw [if_pos e]
    have := it2 (N := n) (L := fun m x (s : Int × qMem) => f_X_shower_16 m n s.1 x s.2) (ex := fun s => some s) (g := fun t _ => ssw1 t) (R := fun x s t => ((NX 2 s.2 t.1 ∧ FX1 w s.2) ∧ s.2 1 6 = t.2.1) ∧ KS S t.1 ∧ s.1 = t.2.2 ∧ 0 ≤ t.2.2 ∧ t.2.2 ≤ x)
      (by
        intro m x s t x0 x1 ⟨⟨⟨h1, h2⟩, hd⟩, h3, h4, h5, h6⟩
        have x60 : x < 60 := Int.lt_of_lt_of_le x1 e.2
        obtain ⟨N, hN⟩ : ∃ N, t.1 1 3 * t.1 1 4 = N := ⟨_, rfl⟩
        have hN16 : 4 ≤ N ∧ N ≤ 16 := by rw [← hN]; exact gN h3.1.1.1
        have hN3 : (0 < N - 1 ∧ N - 1 < 1000) ∧ 0 < N ∧ N < 1000 := by
          clear h4 h5 h6 hd hN
          omega
        obtain ⟨f, hf⟩ : ∃ f, dv t.2.1 N = f := ⟨_, rfl⟩
        obtain ⟨g, hg⟩ : ∃ g, dv (dn t.2.1) (N - 1) = g := ⟨_, rfl⟩
        have vg : 0 ≤ g ∧ g < N - 1 := by rw [← hg]; exact dv_in hN3.1.1 hN3.1.2
        have d1 := x_draw (w := s.2) (m := N) hd hN3.2.1
        rw [hf] at d1
        have d2 := x_draw (w := qud s.2 1 6 (dn t.2.1)) (D := dn t.2.1) (m := N - 1) qud_s hN3.1.1
        rw [hg] at d2
        obtain ⟨w2, ⟨⟨a1, a2, a3⟩, a4, a5, a6, a7⟩, q⟩ := x_show_step (n := n) (m := m) (y := s.1) h1 h3 hN hN16.1 hN16.2 d1 d2 vg x0 x60 x1 (by rw [h4]; exact h5) (by rw [h4]; exact h6)
        rw [ssw1_e (f := f) (g := g) (by rw [hN, hf]) (by rw [hN, hg])]
        exact ⟨w2, ⟨⟨⟨a1, h2.tr a2⟩, a3⟩, a4, by rw [a5, h4], by rw [← h4]; exact a6, by rw [← h4]; exact a7⟩, q⟩)
      (by
        intro m s t _
        show f_X_shower_16 (m + 1) n s.1 n s.2 = _
        rw [f_X_shower_16, if_neg (Int.lt_irrefl n)])
      (w := (0, w)) (s := (S, D, 0)) ⟨⟨⟨hx, FX1.rfl'⟩, hD⟩, ⟨I, rfl, rfl⟩, rfl, Int.le_refl _, Int.le_refl _⟩ (by omega) (by omega)
    obtain ⟨s, ⟨⟨⟨h1, h2⟩, h3⟩, h4, h5, -⟩, q⟩ := this
    exact ⟨s, q, ⟨fun _ => ⟨h5, h1, h3⟩, fun z => absurd e z, h2⟩⟩
  · rw [if_neg e]
    exact kT_some ⟨fun z => absurd z e, fun _ => ⟨rfl, hx, hD⟩, FX1.rfl'⟩
theorem m_shower (hR : RM w S) (I : IV S) (X : IX S) (hD : w 88 2 = D) : kT (f_M_shower n w) (fun r => (1 ≤ n ∧ n ≤ 60 → (r.1 = (ssw S D n).2.2 ∧ RM r.2 (ssw S D n).1 ∧ r.2 88 2 = (ssw S D n).2.1) ∧ KS S (ssw S D n).1 ∧ IX (ssw S D n).1) ∧ (¬ (1 ≤ n ∧ n ≤ 60) → r.1 = -1 ∧ RM r.2 S ∧ r.2 88 2 = D) ∧ FM1 w r.2) := by
  unfold f_M_shower
  refine kT_eq m_isIn ?_
  dsimp only
  rw [bi_if]
  by_cases e : 1 ≤ n ∧ n ≤ 60
  · rw [if_pos e]
    have := it2 (N := n) (L := fun m x (s : Int × qMem) => f_M_shower_16 m n s.1 x s.2) (ex := fun s => some s) (g := fun t _ => ssw1 t) (R := fun x s t => ((RM s.2 t.1 ∧ FM1 w s.2) ∧ s.2 88 2 = t.2.1) ∧ (KS S t.1 ∧ IX t.1) ∧ s.1 = t.2.2 ∧ 0 ≤ t.2.2 ∧ t.2.2 ≤ x)
      (by
        intro m x s t x0 x1 ⟨⟨⟨h1, h2⟩, hd⟩, ⟨h3, h3x⟩, h4, h5, h6⟩
        have x60 : x < 60 := Int.lt_of_lt_of_le x1 e.2
        obtain ⟨N, hN⟩ : ∃ N, t.1 1 3 * t.1 1 4 = N := ⟨_, rfl⟩
        have hN16 : 4 ≤ N ∧ N ≤ 16 := by rw [← hN]; exact gN h3.1.1.1
        have hN3 : (0 < N - 1 ∧ N - 1 < 1000) ∧ 0 < N ∧ N < 1000 := by
          clear h4 h5 h6 hd hN
          omega
        obtain ⟨f, hf⟩ : ∃ f, dv t.2.1 N = f := ⟨_, rfl⟩
        obtain ⟨g, hg⟩ : ∃ g, dv (dn t.2.1) (N - 1) = g := ⟨_, rfl⟩
        have vf : 0 ≤ f ∧ f < N := by rw [← hf]; exact dv_in hN3.2.1 hN3.2.2
        have vg : 0 ≤ g ∧ g < N - 1 := by rw [← hg]; exact dv_in hN3.1.1 hN3.1.2
        have d1 := m_drawOf (w := s.2) (m := N) hd hN3.2.1
        rw [hf] at d1
        have d2 := m_drawOf (w := qud s.2 88 2 (dn t.2.1)) (D := dn t.2.1) (m := N - 1) qud_s hN3.1.1
        rw [hg] at d2
        obtain ⟨w2, ⟨⟨a1, a2, a3⟩, a4, a5, a6, a7⟩, q⟩ := m_show_step (n := n) (m := m) (y := s.1) h1 h3 h3x hN hN16.1 hN16.2 d1 d2 vf vg x0 x60 x1 (by rw [h4]; exact h5) (by rw [h4]; exact h6)
        rw [ssw1_e (f := f) (g := g) (by rw [hN, hf]) (by rw [hN, hg])]
        exact ⟨w2, ⟨⟨⟨a1, h2.tr a2⟩, a3⟩, a4, by rw [a5, h4], by rw [← h4]; exact a6, by rw [← h4]; exact a7⟩, q⟩)
      (by
        intro m s t _
        show f_M_shower_16 (m + 1) n s.1 n s.2 = _
        rw [f_M_shower_16, if_neg (Int.lt_irrefl n)])
      (w := (0, w)) (s := (S, D, 0)) ⟨⟨⟨hR, FM1.rfl'⟩, hD⟩, ⟨⟨I, rfl, rfl⟩, X⟩, rfl, Int.le_refl _, Int.le_refl _⟩ (by omega) (by omega)
    obtain ⟨s, ⟨⟨⟨h1, h2⟩, h3⟩, h4, h5, -⟩, q⟩ := this
    exact ⟨s, q, ⟨fun _ => ⟨⟨h5, h1, h3⟩, h4⟩, fun z => absurd e z, h2⟩⟩
  · rw [if_neg e]
    exact kT_some ⟨fun z => absurd z e, fun _ => ⟨rfl, hR, hD⟩, FM1.rfl'⟩
end SZ
