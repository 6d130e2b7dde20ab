/-! beginning anew -/
def sbg (W H e a r b : Int) : qMem := fun f n => if f = 0 then (if n = 6 then e else if n = 7 then a else if n = 8 then r else if n = 9 then b else 0) else if f = 1 then (if n = 3 then W else H) else if f = 25 then gq W H n 0 else if f = 26 ∨ f = 27 then -1 else if f = 30 then gl W H n * e else 0
def sokb (e a r b : Int) : Prop := (1 ≤ e ∧ e ≤ 4) ∧ (0 ≤ a ∧ a ≤ 3) ∧ (0 ≤ r ∧ r ≤ 2) ∧ 0 ≤ b ∧ b ≤ 99
section BE
variable {o : Nat} {w w' S T : qMem} {W H v t d r x n e a b i j : Int} {f g : Nat} {P : Nat → Int → Prop}
theorem sbg_1 : sbg W H e a r b 1 3 = W ∧ sbg W H e a r b 1 4 = H := ⟨rfl, rfl⟩
theorem sbg_z (hf : f ≠ 0 ∧ f ≠ 1 ∧ f ≠ 25 ∧ f ≠ 26 ∧ f ≠ 27 ∧ f ≠ 30) : sbg W H e a r b f n = 0 := by
  unfold sbg
  rw [if_neg hf.1, if_neg hf.2.1, if_neg hf.2.2.1, if_neg (by omega), if_neg hf.2.2.2.2.2]
theorem IV.bg (gg : gIn W H) (k : sokb e a r b) : IV (sbg W H e a r b) := by
  have hN := gN gg
  have z : ∀ (f : Nat) (n : Int), f ≠ 0 ∧ f ≠ 1 ∧ f ≠ 25 ∧ f ≠ 26 ∧ f ≠ 27 ∧ f ≠ 30 → sbg W H e a r b f n = 0 := fun f n h => sbg_z h
  have c0 := z 5 13 (by decide)
  refine ⟨⟨gg, k.1, k.2.1, k.2.2.1, k.2.2.2, ⟨by show (0 : Int) ≤ 0; omega, by show (0 : Int) ≤ 1000000; omega⟩, by rw [c0]; omega, by rw [z 22 1 (by decide)]; omega⟩, ⟨fun p p0 p1 => by rw [c0] at p1; omega, fun q q0 q1 => ?_, ⟨fun q i q0 q1 i0 i1 => by rw [z 20 q (by decide)] at i1; omega, fun p p0 p1 => by rw [c0] at p1; omega⟩⟩, fun x x0 x1 => ⟨fun x2 => ⟨?_, Or.inl rfl⟩, fun _ => rfl⟩, ⟨fun i i0 i1 => ⟨by rw [z 31 i (by decide)]; omega, Or.inl (z 33 i (by decide))⟩, fun i i0 i1 => by rw [z 32 i (by decide)]; omega⟩⟩
  · rw [z 20 q (by decide)]
    refine ⟨⟨by omega, ?_⟩, fun _ => rfl⟩
    have he := k.1
    have ha := k.2.1
    unfold cap
    split
    · omega
    · split
      · show 0 ≤ e
        omega
      · show 0 ≤ a
        omega
  · have hl := gl_in (r := x) gg
    exact gq_in gg x0 x2 (by omega) (by omega)
theorem IX.bg : IX (sbg W H e a r b) := by
  refine ⟨fun p p' p0 pp p1 => ?_, (show w32 0 = 0 by decide), (show w32 0 = 0 by decide), (show w32 0 = 0 by decide)⟩
  rw [sbg_z (by decide)] at p1
  omega
theorem vv_20 (h : vv 20 n) : 0 ≤ n ∧ n < 144 := by
  unfold vv at h
  omega
theorem vv_34 (h : vv 34 n) : 0 ≤ n ∧ n < 64 := by
  unfold vv at h
  omega
theorem vv_sc (hv : vv f n) (h24 : ¬ (24 ≤ f ∧ f ≤ 33)) (h20 : ¬ f = 20) (h34 : ¬ f = 34) (h35 : f < 35) (h6 : 6 ≤ f → 18 < f) (h21 : f ≠ 21) (h23 : f ≠ 23) : (f = 0 ∧ n = 6) ∨ (f = 0 ∧ n = 7) ∨ (f = 0 ∧ n = 8) ∨ (f = 0 ∧ n = 9) ∨ (f = 0 ∧ n = 10) ∨ (f = 0 ∧ n = 11) ∨ (f = 0 ∧ n = 12) ∨ (f = 1 ∧ (n = 3 ∨ n = 4)) ∨ (f = 5 ∧ n = 13) ∨ (f = 5 ∧ n = 14) ∨ (f = 22 ∧ n = 1) := by
  rcases hv with q | q | q | q | q | q | q | q | q | q | q | q | q | q | q
  · obtain ⟨rfl, n0, n1⟩ := q
    rcases (by omega : n = 6 ∨ n = 7 ∨ n = 8 ∨ n = 9 ∨ n = 10 ∨ n = 11 ∨ n = 12) with z | z | z | z | z | z | z
    · exact Or.inl ⟨rfl, z⟩
    · exact Or.inr (Or.inl ⟨rfl, z⟩)
    · exact Or.inr (Or.inr (Or.inl ⟨rfl, z⟩))
    · exact Or.inr (Or.inr (Or.inr (Or.inl ⟨rfl, z⟩)))
    · exact Or.inr (Or.inr (Or.inr (Or.inr (Or.inl ⟨rfl, z⟩))))
    · exact Or.inr (Or.inr (Or.inr (Or.inr (Or.inr (Or.inl ⟨rfl, z⟩)))))
    · exact Or.inr (Or.inr (Or.inr (Or.inr (Or.inr (Or.inr (Or.inl ⟨rfl, z⟩))))))
  · exact Or.inr (Or.inr (Or.inr (Or.inr (Or.inr (Or.inr (Or.inr (Or.inl ⟨q.1, by omega⟩)))))))
  · obtain ⟨rfl, n0, n1⟩ := q
    rcases (by omega : n = 13 ∨ n = 14) with z | z
    · exact Or.inr (Or.inr (Or.inr (Or.inr (Or.inr (Or.inr (Or.inr (Or.inr (Or.inl ⟨rfl, z⟩))))))))
    · exact Or.inr (Or.inr (Or.inr (Or.inr (Or.inr (Or.inr (Or.inr (Or.inr (Or.inr (Or.inl ⟨rfl, z⟩)))))))))
  · exfalso; have := h6 q.1; omega
  · exfalso; have := h6 (by omega); omega
  · exact absurd q.1 h20
  · exact absurd q.1 h21
  · exact Or.inr (Or.inr (Or.inr (Or.inr (Or.inr (Or.inr (Or.inr (Or.inr (Or.inr (Or.inr q)))))))))
  · exact absurd q.1 h23
  · exfalso; exact h24 (by omega)
  · exfalso; exact h24 (by omega)
  · exfalso; exact h24 (by omega)
  · exfalso; exact h24 (by omega)
  · exfalso; omega
  · exfalso; omega
theorem sbg_lv (hl : lv (sbg W H e a r b) f n) : f ≠ 21 ∧ f ≠ 23 ∧ (6 ≤ f → 18 < f) ∧ (25 ≤ f → f ≤ 30 → n < 2 * (W + H)) := by
  obtain ⟨l0, l1, l2, l3, l4, l5⟩ := hl
  rw [show sbg W H e a r b 5 13 = 0 from rfl] at l1 l2
  rw [show sbg W H e a r b 22 1 = 0 from rfl] at l4
  refine ⟨fun z => ?_, fun z => ?_, fun z => ?_, fun x y => ?_⟩
  · have h := l3 z
    rw [show sbg W H e a r b 20 (n / 6) = 0 from rfl] at h
    omega
  · have h := l4 z
    unfold vv at l0
    omega
  · rcases (by omega : f ≤ 17 ∨ f = 18 ∨ 18 < f) with q | q | q
    · have h := l1 z q
      unfold vv at l0
      omega
    · have h := (l2 q).1
      unfold vv at l0
      omega
    · exact q
  · have h := l5 x y
    exact h
/-- writing what is to be there -/
theorem RXP.wt (h : RXP P o w T) (hx : x = T f i) : RXP (fun g n => P g n ∨ (g = f ∧ n = i)) o (qud w (o + f) i x) T := by
  intro g n hg hp
  by_cases z : g = f ∧ n = i
  · rw [z.1, z.2, qud_s, hx]
  · rw [show qud w (o + f) i x (o + g) n = w (o + g) n from if_neg (fun q => z ⟨by have := q.1; omega, q.2⟩)]
    exact h g n hg (hp.resolve_right z)
theorem RXP.fl (h : RXP P o w T) (hw : ∀ k j, w' k j = if k = o + f ∧ 0 ≤ j ∧ j < n then x else w k j) (hx : ∀ i, 0 ≤ i → i < n → T f i = x) : RXP (fun g i => P g i ∨ (g = f ∧ 0 ≤ i ∧ i < n)) o w' T := by
  intro g i hg hp
  rw [hw]
  by_cases z : g = f ∧ 0 ≤ i ∧ i < n
  · rw [if_pos ⟨by omega, z.2⟩, z.1, hx i z.2.1 z.2.2]
  · rw [if_neg (fun q => z ⟨by have := q.1; omega, q.2⟩)]
    exact h g i hg (hp.resolve_right z)
theorem RXP.fi (h : RXP P o w S) (hl : ∀ f n, f < 35 → lv S f n → P f n) : RX o w S := fun f n hf hv => h f n hf (hl f n hf hv)
theorem FN.fl (h : FN o w S) (hw : ∀ k j, w' k j = if k = o + f ∧ 0 ≤ j ∧ j < n then x else S k j) (hf : f < 35) (hg : f = 0 ∨ 5 ≤ f) : FN o w w' := by
  intro k hk
  funext y
  rw [hw, if_neg (by omega), h k hk]
theorem RMP.wt {y : Int} (h : RMP P w T) (hf : vv f i) (hy : y = ad f i) (hx : x = T f i) : RMP (fun g n => P g n ∨ (g = f ∧ n = i)) (qud w 89 y x) T := by
  intro g n hv hp
  subst hy
  by_cases z : g = f ∧ n = i
  · rw [z.1, z.2, qud_s, hx]
  · rw [qud_ni (fun q => z (ad_inj hv hf q))]
    exact h g n hv (hp.resolve_right z)
theorem n_clear55 (hw : RG (o + 1) w W H) (gg : gIn W H) (k : sokb e a r b) (h : RXP P o w (sbg W H e a r b)) : ∃ w', (RXP (fun g n => P g n ∨ ((g = 25 ∨ g = 30) ∧ 0 ≤ n ∧ n < 2 * (W + H))) o w' (sbg W H e a r b) ∧ FN o w w') ∧ f_R_clearAll_55 (o + 24) (o + 1) qFU e 0 w = f_R_clearAll_94 (o + 24) (o + 1) w' := by
  have h16 := g16r gg
  have ge := k.1
  obtain ⟨⟨ga, gb⟩, gc, gd'⟩ := gg
  have gg : gIn W H := ⟨⟨ga, gb⟩, gc, gd'⟩
  have := k_loop (σ := qMem) (ρ := qMem) (2 * (W + H)) (fun m i s => f_R_clearAll_55 (o + 24) (o + 1) m e i s) (fun s => f_R_clearAll_94 (o + 24) (o + 1) s)
    (fun i s => (0 ≤ i ∧ i ≤ 2 * (W + H)) ∧ RXP (fun g n => P g n ∨ ((g = 25 ∨ g = 30) ∧ 0 ≤ n ∧ n < i)) o s (sbg W H e a r b) ∧ FN o w s)
    (by
      intro m i s ⟨⟨i0, i1⟩, hs, hf⟩ hi
      have hG := hw.fn hf
      have h1 := hs.wt (f := 25) (i := i) (x := gq W H i 0) rfl
      have hl := gl_in (r := i) gg
      have hm : 0 ≤ gl W H i * e ∧ gl W H i * e ≤ 16 := by
        rcases (by omega : gl W H i = 2 ∨ gl W H i = 3 ∨ gl W H i = 4) with q | q | q <;> rw [q] <;> omega
      have h2 := h1.wt (f := 30) (i := i) (x := gl W H i * e) rfl
      have f1 := hf.q (f := 25) (n := i) (v := gq W H i 0) (by decide) (by decide)
      have f2 := f1.q (f := 30) (n := i) (v := gl W H i * e) (by decide) (by decide)
      have hG1 := hw.fn f1
      refine ⟨_, ⟨⟨by omega, by omega⟩, ?_, f2⟩, ?_⟩
      · intro g n hg hp
        refine h2 g n hg ?_
        rcases hp with hp | ⟨hp, n0, n1⟩
        · exact Or.inl (Or.inl (Or.inl hp))
        · by_cases z : n = i
          · rcases hp with hp | hp
            · exact Or.inl (Or.inr ⟨hp, z⟩)
            · exact Or.inr ⟨hp, z⟩
          · exact Or.inl (Or.inl (Or.inr ⟨hp, n0, by omega⟩))
      · rw [f_R_clearAll_55, show s (o + 1) 6 = 2 * (W + H) from hG.2.1.2, if_pos hi, qbd (g_ringNode hG.1 gg i0 hi (by decide) (by decide))]
        dsimp only
        rw [qst_ok i0 (by omega), qbd (g_ringLength hG1.1 gg)]
        dsimp only
        rw [qst_ok i0 (by omega), w32_ok (z := gl W H i * e) (by omega) (by omega), w32_ok (by omega) (by omega)])
    (by
      intro m s ⟨_, hs, hf⟩
      have hG := hw.fn hf
      rw [f_R_clearAll_55, show s (o + 1) 6 = 2 * (W + H) from hG.2.1.2, if_neg (by omega)])
    qFU 0 w ⟨by omega, fun g n hg hp => h g n hg (by rcases hp with hp | hp; exact hp; omega), FN.rfl'⟩ (by omega) (qFU_gt (by omega))
  obtain ⟨w', ⟨-, h1, h2⟩, q⟩ := this
  exact ⟨w', ⟨h1, h2⟩, q⟩
theorem n_forgetP (h : RXP P o w T) (h33 : ∀ i, 0 ≤ i → i < 64 → T 33 i = 0) : kT (f_R_forgetEntries (o + 24) w) (fun w' => RXP (fun g i => P g i ∨ (g = 33 ∧ 0 ≤ i ∧ i < 64)) o w' T ∧ FN o w w') := by
  have := k_loop (σ := qMem) (ρ := qMem) 64 (fun m i s => f_R_forgetEntries_2 (o + 24) m i s) some
    (fun i s => (0 ≤ i ∧ i ≤ 64) ∧ ∀ k j, s k j = if k = o + 33 ∧ 0 ≤ j ∧ j < i then 0 else w k j)
    (by
      intro m i s ⟨⟨i0, i1⟩, hs⟩ hi
      refine ⟨qud s (o + 33) i 0, ⟨⟨by omega, by omega⟩, ?_⟩, ?_⟩
      · intro k j
        by_cases z : k = o + 33 ∧ j = i
        · rw [z.1, z.2, qud_s, if_pos ⟨rfl, by omega, by omega⟩]
        · rw [show qud s (o + 33) i 0 k j = s k j from if_neg z, hs]
          by_cases e2 : k = o + 33 ∧ 0 ≤ j ∧ j < i
          · rw [if_pos e2, if_pos (by omega)]
          · rw [if_neg e2, if_neg (by omega)]
      · rw [f_R_forgetEntries_2, if_pos hi, qstz_ok i0 hi (Or.inl rfl), w32_ok (by omega) (by omega)])
    (by
      intro m s _
      rw [f_R_forgetEntries_2, if_neg (by decide)])
    qFU 0 w ⟨by omega, fun k j => by rw [if_neg (by omega)]⟩ (by omega) (qFU_gt (by omega))
  obtain ⟨w', ⟨-, hw⟩, q⟩ := this
  exact ⟨w', q, h.fl hw h33, FN.rfl'.fl hw (by decide) (by decide)⟩
end BE
