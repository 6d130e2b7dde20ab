/-! beginning anew: the reference -/
section MB
variable {o : Nat} {w w' S T : qMem} {W H v t d r x n e a b i j : Int} {f g : Nat} {P : Nat → Int → Prop}
theorem m_zero {x1 x2 x3 x4 x5 x6 : Int} : ∃ w', (∀ k j, w' k j = if k = 89 ∧ 0 ≤ j ∧ j < 5898 then 0 else w k j) ∧ f_M_begins_3 qFU x1 x2 x3 x4 x5 x6 0 w = f_M_begins_25 x1 x2 x3 x4 x5 x6 w' := by
  have := k_loop (σ := qMem) (ρ := qMem) 5898 (fun m i s => f_M_begins_3 m x1 x2 x3 x4 x5 x6 i s) (fun s => f_M_begins_25 x1 x2 x3 x4 x5 x6 s)
    (fun i s => (0 ≤ i ∧ i ≤ 5898) ∧ ∀ k j, s k j = if k = 89 ∧ 0 ≤ j ∧ j < i then 0 else w k j)
    (by
      intro m i s ⟨⟨i0, i1⟩, hs⟩ hi
      refine ⟨qud s 89 i 0, ⟨⟨by omega, by omega⟩, ?_⟩, ?_⟩
      · intro k j
        by_cases z : k = 89 ∧ j = i
        · rw [z.1, z.2, qud_s, if_pos ⟨rfl, by omega, by omega⟩]
        · rw [show qud s 89 i 0 k j = s k j from if_neg z, hs]
          by_cases e2 : k = 89 ∧ 0 ≤ j ∧ j < i
          · rw [if_pos e2, if_pos (by omega)]
          · rw [if_neg e2, if_neg (by omega)]
      · rw [f_M_begins_3, if_pos hi, qst_ok (by omega) (by omega), w32_ok (by omega) (by omega)])
    (by
      intro m s _
      rw [f_M_begins_3, if_neg (by decide)])
    qFU 0 w ⟨by omega, fun k j => by rw [if_neg (by omega)]⟩ (by omega) (qFU_gt (by omega))
  obtain ⟨w', ⟨-, hw⟩, q⟩ := this
  exact ⟨w', hw, q⟩
def bgP (W H e a r b : Int) (m : Int) : Nat → Int → Prop := fun f n => sbg W H e a r b f n = 0 ∨ (f = 0 ∧ (n = 6 ∨ n = 7 ∨ n = 8 ∨ n = 9)) ∨ (f = 1 ∧ (n = 3 ∨ n = 4)) ∨ ((f = 25 ∨ f = 26 ∨ f = 27 ∨ f = 30) ∧ 0 ≤ n ∧ n < m)
theorem bgP_wh (h : RMP (bgP W H e a r b x) w (sbg W H e a r b)) : w 89 0 = W ∧ w 89 1 = H :=
  ⟨h 1 3 vv_1_3 (Or.inr (Or.inr (Or.inl ⟨rfl, Or.inl rfl⟩))), h 1 4 vv_1_4 (Or.inr (Or.inr (Or.inl ⟨rfl, Or.inr rfl⟩)))⟩
theorem m_begin73 (gg : gIn W H) (k : sokb e a r b) (h : RMP (bgP W H e a r b 0) w (sbg W H e a r b)) : ∃ w', (RMP (bgP W H e a r b (2 * (W + H))) w' (sbg W H e a r b) ∧ FM w w') ∧ f_M_begins_73 qFU e 0 w = some w' := by
  have h16 := g16r gg
  have ge := k.1
  obtain ⟨⟨ga, gb⟩, gc, gd'⟩ := gg
  have gg : gIn W H := ⟨⟨ga, gb⟩, gc, gd'⟩
  have hvv : ∀ g : Nat, 25 ≤ g → g ≤ 30 → ∀ i, 0 ≤ i → i < 16 → vv g i := fun g x y i i0 i1 => by unfold vv; omega
  have := k_loop (σ := qMem) (ρ := qMem) (2 * (W + H)) (fun m i s => f_M_begins_73 m e i s) (fun s => some s)
    (fun i s => (0 ≤ i ∧ i ≤ 2 * (W + H)) ∧ RMP (bgP W H e a r b i) s (sbg W H e a r b) ∧ FM w s)
    (by
      intro m i s ⟨⟨i0, i1⟩, hs, hf⟩ hi
      have hl := gl_in (r := i) gg
      have hm : 0 ≤ e * gl W H i ∧ e * gl W H i ≤ 16 := by
        rcases (by omega : gl W H i = 2 ∨ gl W H i = 3 ∨ gl W H i = 4) with q | q | q <;> rw [q] <;> omega
      have h1 := hs.wt (f := 25) (i := i) (x := gq W H i 0) (y := 5274 + 6 * i + 0) (hvv 25 (by decide) (by decide) i i0 (by omega)) (by rw [ad_rg (by decide) (by decide)]; omega) rfl
      have h2 := h1.wt (f := 26) (i := i) (x := -1) (y := 5274 + 6 * i + 1) (hvv 26 (by decide) (by decide) i i0 (by omega)) (by rw [ad_rg (by decide) (by decide)]; omega) rfl
      have h3 := h2.wt (f := 27) (i := i) (x := -1) (y := 5274 + 6 * i + 2) (hvv 27 (by decide) (by decide) i i0 (by omega)) (by rw [ad_rg (by decide) (by decide)]; omega) rfl
      have h4 := h3.wt (f := 30) (i := i) (x := e * gl W H i) (y := 5274 + 6 * i + 5) (hvv 30 (by decide) (by decide) i i0 (by omega)) (by rw [ad_rg (by decide) (by decide)]; omega) (Int.mul_comm _ _)
      have wh := bgP_wh hs
      have wh3 : qud (qud (qud s 89 (5274 + 6 * i + 0) (gq W H i 0)) 89 (5274 + 6 * i + 1) (-1)) 89 (5274 + 6 * i + 2) (-1) 89 0 = W ∧ qud (qud (qud s 89 (5274 + 6 * i + 0) (gq W H i 0)) 89 (5274 + 6 * i + 1) (-1)) 89 (5274 + 6 * i + 2) (-1) 89 1 = H := by
        refine ⟨?_, ?_⟩
        · rw [qud_ni (by omega), qud_ni (by omega), qud_ni (by omega)]; exact wh.1
        · rw [qud_ni (by omega), qud_ni (by omega), qud_ni (by omega)]; exact wh.2
      refine ⟨_, ⟨⟨by omega, by omega⟩, RMP.mo h4 (fun f n hp => ?_), hf.q.q.q.q⟩, ?_⟩
      · rcases hp with hp | hp | hp | ⟨hp, n0, n1⟩
        · exact Or.inl (Or.inl (Or.inl (Or.inl (Or.inl hp))))
        · exact Or.inl (Or.inl (Or.inl (Or.inl (Or.inr (Or.inl hp)))))
        · exact Or.inl (Or.inl (Or.inl (Or.inl (Or.inr (Or.inr (Or.inl hp))))))
        · by_cases z : n = i
          · rcases hp with hp | hp | hp | hp
            · exact Or.inl (Or.inl (Or.inl (Or.inr ⟨hp, z⟩)))
            · exact Or.inl (Or.inl (Or.inr ⟨hp, z⟩))
            · exact Or.inl (Or.inr ⟨hp, z⟩)
            · exact Or.inr ⟨hp, z⟩
          · exact Or.inl (Or.inl (Or.inl (Or.inl (Or.inr (Or.inr (Or.inr ⟨hp, n0, by omega⟩))))))
      · have era := m_ringAt (w := s) i0 (show i < 16 by omega)
        rw [f_M_begins_73, qbd (mg_rings wh gg)]
        dsimp only
        rw [if_pos hi, qbd era]
        dsimp only
        rw [qbd (mg_leastNode wh gg i0 hi)]
        dsimp only
        rw [w32_ok (z := 5274 + 6 * i + 0) (by omega) (by omega), qst_ok (by omega) (by omega), qbd (m_ringAt i0 (show i < 16 by omega))]
        dsimp only
        rw [w32_ok (z := 5274 + 6 * i + 1) (by omega) (by omega), qst_ok (by omega) (by omega), qbd (m_ringAt i0 (show i < 16 by omega))]
        dsimp only
        rw [w32_ok (z := 5274 + 6 * i + 2) (by omega) (by omega), qst_ok (by omega) (by omega), qbd (m_ringAt i0 (show i < 16 by omega))]
        dsimp only
        rw [qbd (mg_longOf wh3 gg i0 hi)]
        dsimp only
        rw [w32_ok (z := 5274 + 6 * i + 5) (by omega) (by omega), w32_ok (z := e * gl W H i) (by omega) (by omega), qst_ok (by omega) (by omega), w32_ok (by omega) (by omega)])
    (by
      intro m s ⟨_, hs, hf⟩
      rw [f_M_begins_73, qbd (mg_rings (bgP_wh hs) gg)]
      dsimp only
      rw [if_neg (by omega)])
    qFU 0 w ⟨by omega, h, FM.rfl'⟩ (by omega) (qFU_gt (by omega))
  obtain ⟨w', ⟨-, h1, h2⟩, q⟩ := this
  exact ⟨w', ⟨h1, h2⟩, q⟩
theorem m_begins (gg : gIn W H) (k : sokb e a r b) : kT (f_M_begins W H e a r b w) (fun w' => RM w' (sbg W H e a r b) ∧ FM w w') := by
  obtain ⟨w1, hw1, e1⟩ := m_zero (w := w) (x1 := W) (x2 := H) (x3 := e) (x4 := a) (x5 := r) (x6 := b)
  have s0 : RMP (fun f n => sbg W H e a r b f n = 0) w1 (sbg W H e a r b) := by
    intro f n hv hz
    rw [hw1, if_pos ⟨rfl, ad_in hv⟩, hz]
  have f0 : FM w w1 := fun k' hk => by
    funext y
    rw [hw1, if_neg (fun z => hk z.1)]
  have s1 := s0.wt (f := 1) (i := 3) (x := W) (y := 0) vv_1_3 rfl rfl
  have s2 := s1.wt (f := 1) (i := 4) (x := H) (y := 1) vv_1_4 rfl rfl
  have s3 := s2.wt (f := 0) (i := 6) (x := e) (y := 2) vv_0_6 rfl rfl
  have s4 := s3.wt (f := 0) (i := 7) (x := a) (y := 3) vv_0_7 rfl rfl
  have s5 := s4.wt (f := 0) (i := 8) (x := r) (y := 4) vv_0_8 rfl rfl
  have s6 := s5.wt (f := 0) (i := 9) (x := b) (y := 5) vv_0_9 rfl rfl
  have s7 : RMP (bgP W H e a r b 0) (qud (qud (qud (qud (qud (qud w1 89 0 W) 89 1 H) 89 2 e) 89 3 a) 89 4 r) 89 5 b) (sbg W H e a r b) := RMP.mo s6 (fun f n hp => by
    rcases hp with hp | ⟨hp, h'⟩ | ⟨hp, h'⟩ | hp
    · exact Or.inl (Or.inl (Or.inl (Or.inl (Or.inl (Or.inl hp)))))
    · rcases h' with h' | h' | h' | h'
      · exact Or.inl (Or.inl (Or.inl (Or.inr ⟨hp, h'⟩)))
      · exact Or.inl (Or.inl (Or.inr ⟨hp, h'⟩))
      · exact Or.inl (Or.inr ⟨hp, h'⟩)
      · exact Or.inr ⟨hp, h'⟩
    · rcases h' with h' | h'
      · exact Or.inl (Or.inl (Or.inl (Or.inl (Or.inl (Or.inr ⟨hp, h'⟩)))))
      · exact Or.inl (Or.inl (Or.inl (Or.inl (Or.inr ⟨hp, h'⟩))))
    · omega)
  obtain ⟨w2, ⟨h2, f2⟩, e2⟩ := m_begin73 gg k s7
  refine ⟨w2, ?_, ⟨h2.fin (fun f n hl => ?_), (f0.q.q.q.q.q.q).tr f2⟩⟩
  · unfold f_M_begins
    rw [e1]
    unfold f_M_begins_25
    rw [qst_ok (by decide) (by decide), qst_ok (by decide) (by decide), qst_ok (by decide) (by decide), qst_ok (by decide) (by decide), qst_ok (by decide) (by decide), qst_ok (by decide) (by decide)]
    exact e2
  · have hq := sbg_lv hl
    have hv := vv_of hl
    by_cases z : f ≠ 0 ∧ f ≠ 1 ∧ f ≠ 25 ∧ f ≠ 26 ∧ f ≠ 27 ∧ f ≠ 30
    · exact Or.inl (sbg_z z)
    · rcases hv with q | q | q | q | q | q | q | q | q | q | q | q | q | q | q
      · by_cases y : n ≤ 9
        · exact Or.inr (Or.inl ⟨q.1, by omega⟩)
        · refine Or.inl ?_
          rw [q.1]
          unfold sbg
          rw [if_pos rfl, if_neg (by omega), if_neg (by omega), if_neg (by omega), if_neg (by omega)]
      · exact Or.inr (Or.inr (Or.inl ⟨q.1, by omega⟩))
      · exact absurd (by omega) z
      · exact absurd (by omega) z
      · exact absurd (by omega) z
      · exact absurd (by omega) z
      · exact absurd (by omega) z
      · exact absurd (by omega) z
      · exact absurd (by omega) z
      · exact absurd (by omega) z
      · exact Or.inr (Or.inr (Or.inr ⟨by omega, q.2.2.1, hq.2.2.2 q.1 q.2.1⟩))
      · exact absurd (by omega) z
      · exact absurd (by omega) z
      · exact absurd (by omega) z
      · exact absurd (by omega) z
end MB
