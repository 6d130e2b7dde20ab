/-! through, arrives (the reference) -/
def FA (w w' : qMem) : Prop := ∀ k, k ≠ 89 → k ≠ 90 → w' k = w k
def kept (w w' : qMem) : Prop := FA w w' ∧ ∀ j, 0 ≤ j → j < 5898 → w' 90 j = w 89 j
section TH
variable {w w' w0 S T : qMem} {v t x p a b : Int}
theorem stk_c : stk S 5 13 = S 5 13 := by
  rw [stk_5]
  have : ∀ T : qMem, skd T 5 13 = T 5 13 := fun T => by
    unfold skd
    exact itk_i (F := fun v S => itk (fun k S => sdl S v (k + 1)) 8 S) (P := fun _ s => s 5 13 = T 5 13) (S := T) rfl _ (fun x s _ _ hs => itk_i (F := fun k S => sdl S x (k + 1)) (P := fun _ s => s 5 13 = T 5 13) (S := s) hs 8 (fun y t _ _ ht => by rw [sdl_c]; exact ht))
  rw [this, sfg_r (by decide), qud_nk (by decide)]
theorem FA.rfl' : FA w w := fun _ _ _ => rfl
theorem m_aside : kT (f_M_laysAside w) (fun w' => kept w w' ∧ ∀ j, w' 89 j = w 89 j) := by
  have := k_loop (σ := qMem) (ρ := qMem) 5898 (fun m i s => f_M_laysAside_2 m i s) (fun s => some s)
    (fun i s => (0 ≤ i ∧ i ≤ 5898) ∧ ∀ k j, s k j = if k = 90 ∧ 0 ≤ j ∧ j < i then w 89 j else w k j)
    (by
      intro m i s ⟨⟨i0, i1⟩, hs⟩ hi
      refine ⟨qud s 90 i (w 89 i), ⟨⟨by omega, by omega⟩, ?_⟩, ?_⟩
      · intro k j
        by_cases z : k = 90 ∧ j = i
        · rw [z.1, z.2, qud_s, if_pos ⟨rfl, by omega, by omega⟩]
        · rw [show qud s 90 i (w 89 i) k j = s k j from if_neg z, hs]
          by_cases e2 : k = 90 ∧ 0 ≤ j ∧ j < i
          · rw [if_pos e2, if_pos (show k = 90 ∧ 0 ≤ j ∧ j < i + 1 by omega)]
          · rw [if_neg e2, if_neg (show ¬ (k = 90 ∧ 0 ≤ j ∧ j < i + 1) by omega)]
      · have e89 : s 89 i = w 89 i := by rw [hs, if_neg (by omega)]
        rw [f_M_laysAside_2, if_pos hi, qld_ok (by omega) (by omega), qst_ok (by omega) (by omega), e89, w32_ok (by omega) (by omega)])
    (by
      intro m s _
      rw [f_M_laysAside_2, if_neg (by decide)])
    qFU 0 w ⟨by omega, fun k j => by rw [if_neg (by omega)]⟩ (by omega) (qFU_gt (by omega))
  obtain ⟨w', ⟨-, hs⟩, q⟩ := this
  refine ⟨w', q, ⟨fun k h1 h2 => ?_, fun j j0 j1 => by rw [hs, if_pos ⟨rfl, j0, j1⟩]⟩, fun j => by rw [hs, if_neg (by omega)]⟩
  funext j
  rw [hs, if_neg (fun z => h2 z.1)]
theorem m_back (hR : RM w S) (hk : kept w w') : kT (f_M_comesBack w') (fun w2 => RM w2 S ∧ FA w w2) := by
  have := k_loop (σ := qMem) (ρ := qMem) 5898 (fun m i s => f_M_comesBack_2 m i s) (fun s => some s)
    (fun i s => (0 ≤ i ∧ i ≤ 5898) ∧ ∀ k j, s k j = if k = 89 ∧ 0 ≤ j ∧ j < i then w' 90 j else w' k j)
    (by
      intro m i s ⟨⟨i0, i1⟩, hs⟩ hi
      refine ⟨qud s 89 i (w' 90 i), ⟨⟨by omega, by omega⟩, ?_⟩, ?_⟩
      · intro k j
        by_cases z : k = 89 ∧ j = i
        · rw [z.1, z.2, qud_s, if_pos ⟨rfl, by omega, by omega⟩]
        · rw [show qud s 89 i (w' 90 i) k j = s k j from if_neg z, hs]
          by_cases e2 : k = 89 ∧ 0 ≤ j ∧ j < i
          · rw [if_pos e2, if_pos (show k = 89 ∧ 0 ≤ j ∧ j < i + 1 by omega)]
          · rw [if_neg e2, if_neg (show ¬ (k = 89 ∧ 0 ≤ j ∧ j < i + 1) by omega)]
      · have e90 : s 90 i = w' 90 i := by rw [hs, if_neg (by omega)]
        rw [f_M_comesBack_2, if_pos hi, qld_ok (by omega) (by omega), qst_ok (by omega) (by omega), e90, w32_ok (by omega) (by omega)])
    (by
      intro m s _
      rw [f_M_comesBack_2, if_neg (by decide)])
    qFU 0 w' ⟨by omega, fun k j => by rw [if_neg (by omega)]⟩ (by omega) (qFU_gt (by omega))
  obtain ⟨w2, ⟨-, hs⟩, q⟩ := this
  refine ⟨w2, q, hR.fr (fun j j0 j1 => by rw [hs, if_pos ⟨rfl, j0, j1⟩, hk.2 j j0 j1]), fun k h1 h2 => ?_⟩
  funext j
  rw [hs, if_neg (fun z => h1 z.1), hk.1 k h1 h2]
theorem kept.fm (h : kept w w') (hf : FM w' T) : kept w T := ⟨fun k h1 h2 => by rw [hf k h1, h.1 k h1 h2], fun j j0 j1 => by rw [hf 90 (by decide)]; exact h.2 j j0 j1⟩
theorem m_thr62 (hR : RM w S) (hk : kept w w') : kT (f_M_through_62 a x w') (fun r => RM r.2 S ∧ FA w r.2) := by
  unfold f_M_through_62
  refine kT_bind (m_back hR hk) (fun w2 h2 => ?_)
  exact kT_if (fun _ => kT_some h2) (fun _ => kT_some h2)
theorem m_through (hR : RM w S) (I : IV S) (X : IX S) (hc : S 0 10 + 1000 ≤ 1000000) : kT (f_M_through w) (fun r => RM r.2 S ∧ FA w r.2) := by
  have h40 : ∀ x w', kept w w' → kT (f_M_through_40 x w') (fun r => RM r.2 S ∧ FA w r.2) := by
    intro x w' hk
    unfold f_M_through_40
    rw [qld_ok (by decide) (by decide), qld_ok (by decide) (by decide)]
    exact kT_if (fun _ => m_thr62 hR hk) (fun _ => m_thr62 hR hk)
  have key : ∀ (m : Nat) (x : Int) (w' T : qMem), 0 ≤ x → x ≤ 1000 → 1000 - x < m → RM w' T → IV T → IX T → T 0 10 + (1000 - x) ≤ 1000000 → kept w w' → kT (f_M_through_6 m x w') (fun r => RM r.2 S ∧ FA w r.2) := by
    intro m
    induction m with
    | zero => intro x w' T _ _ _ _ _ _ _ _; omega
    | succ m ih =>
      intro x w' T x0 x1 hm h1 h2 h3 h4 hk
      rw [f_M_through_6]
      refine kT_if (fun c => ?_) (fun _ => h40 x w' hk)
      rw [qld_ok (by decide) (by decide), qld_ok (by decide) (by decide)]
      refine kT_if (fun _ => ?_) (fun _ => h40 x w' hk)
      refine kT_bind (m_ticks h1 h2 h3 (by omega)) (fun w2 hw => ?_)
      obtain ⟨⟨a1, a2⟩, ⟨a3, a4, a5⟩, a6⟩ := hw
      rw [w32_ok (z := x + 1) (by omega) (by omega)]
      exact ih (x + 1) w2 (stk T) (by omega) (by omega) (by omega) a1 a4 a3 (by rw [a6]; omega) (hk.fm a2)
  unfold f_M_through
  refine kT_bind m_aside (fun w1 h1 => ?_)
  exact key qFU 0 w1 S (by omega) (by omega) (qFU_gt (by omega)) (hR.fr (fun j _ _ => h1.2 j)) I X (by omega) h1.1
theorem m_arrives (hR : RM w S) (I : IV S) (X : IX S) (hc : S 0 10 + 1000 ≤ 1000000) : kT (f_M_arrives a b w) (fun r => RM r.2 S ∧ FA w r.2) := by
  have h92 : ∀ s x w', kept w w' → kT (f_M_arrives_92 s x w') (fun r => RM r.2 S ∧ FA w r.2) := by
    intro s x w' hk
    unfold f_M_arrives_92
    refine kT_bind (m_back hR hk) (fun w2 h2 => ?_)
    exact kT_if (fun _ => kT_some h2) (fun _ => kT_some h2)
  have h71 : ∀ p x w' T, RM w' T → IV T → kept w w' → (p ≠ -1 → 0 ≤ p ∧ p < T 5 13) → kT (f_M_arrives_71 p x w') (fun r => RM r.2 S ∧ FA w r.2) := by
    intro p x w' T h1 h2 hk hp
    unfold f_M_arrives_71
    refine kT_if (fun _ => h92 _ _ _ hk) (fun c => ?_)
    exact kT_eq (mp_of h1 h2 (hp c).1 (hp c).2 (f := 13) (by decide) (by decide) (by decide)) (kT_if (fun _ => h92 _ _ _ hk) (fun _ => h92 _ _ _ hk))
  have key : ∀ (m : Nat) (p x : Int) (w' T : qMem), 0 ≤ x → x ≤ 1000 → 1000 - x < m → RM w' T → IV T → IX T → T 0 10 + (1000 - x) ≤ 1000000 → kept w w' → (p ≠ -1 → 0 ≤ p ∧ p < T 5 13) → kT (f_M_arrives_37 m p x w') (fun r => RM r.2 S ∧ FA w r.2) := by
    intro m
    induction m with
    | zero => intro p x w' T _ _ _ _ _ _ _ _ _; omega
    | succ m ih =>
      intro p x w' T x0 x1 hm h1 h2 h3 h4 hk hp
      rw [f_M_arrives_37]
      refine kT_if (fun _ => h71 p x w' T h1 h2 hk hp) (fun cp => ?_)
      refine kT_if (fun c => ?_) (fun _ => h71 p x w' T h1 h2 hk hp)
      refine kT_eq (mp_of h1 h2 (hp cp).1 (hp cp).2 (f := 13) (by decide) (by decide) (by decide)) ?_
      refine kT_if (fun _ => ?_) (fun _ => h71 p x w' T h1 h2 hk hp)
      refine kT_bind (m_ticks h1 h2 h3 (by omega)) (fun w2 hw => ?_)
      obtain ⟨⟨a1, a2⟩, ⟨a3, a4, a5⟩, a6⟩ := hw
      rw [w32_ok (z := x + 1) (by omega) (by omega)]
      exact ih p (x + 1) w2 (stk T) (by omega) (by omega) (by omega) a1 a4 a3 (by rw [a6]; omega) (hk.fm a2) (fun z => by rw [stk_c]; exact hp z)
  have hno : kT (some ((-1 : Int), w)) (fun r => RM r.2 S ∧ FA w r.2) := kT_some ⟨hR, FA.rfl'⟩
  unfold f_M_arrives
  refine kT_eq (mg_isNode hR.wh I.1.1) ?_
  dsimp only
  rw [bi_if]
  refine kT_if (fun ca => ?_) (fun _ => hno)
  refine kT_eq (mg_isNode hR.wh I.1.1) ?_
  dsimp only
  rw [bi_if]
  refine kT_if (fun cb => ?_) (fun _ => hno)
  refine kT_if (fun _ => hno) (fun cab => ?_)
  refine kT_bind m_aside (fun w1 h1 => ?_)
  have hR1 : RM w1 S := hR.fr (fun j _ _ => h1.2 j)
  refine kT_bind (m_sends hR1 I ca cb cab) (fun r hr => ?_)
  have hcc := I.1.2.2.2.2.2.2.1
  refine key qFU r.1 0 r.2 (ssa S a b).2 (by omega) (by omega) (qFU_gt (by omega)) hr.2.1 I.sa (X.sa I) ?_ (h1.1.fm hr.2.2) (fun z => ?_)
  · rw [ssa_0.1]; omega
  · rw [hr.1] at z ⊢
    unfold ssa at z ⊢
    by_cases e : svb S a b = true
    · rw [if_pos e]
      refine ⟨hcc.1, ?_⟩
      show S 5 13 < ssd S a b 5 13
      rw [ssd_c]; omega
    · rw [if_neg e] at z
      exact absurd rfl z
end TH
