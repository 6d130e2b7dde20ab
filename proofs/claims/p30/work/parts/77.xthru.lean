/-! through, arrives (the class) -/
section XT
variable {w w' w0 S T : qMem} {x p a b : Int}
theorem F37.fn (h : FN 37 w w') : F37 w w' := fun k hk => h k (by omega)
theorem stk_10 (I : IV S) : stk S 0 10 = S 0 10 + 1 := by
  have hg : ∀ T : qMem, IV T → T 22 1 ≤ 0 → skg T 0 10 = T 0 10 := fun T IT h22 => by
    have K : KG (T 0 10) 0 (T 1) T := ⟨IT, ⟨rfl, rfl⟩, h22⟩
    rw [skg_eq K]
    exact (itk_i (F := fun i S => itk (fun d S => sgc S (kvi (T 0 10) (T 1 3 * T 1 4) i) d) 4 S) (P := fun _ s => s 0 10 = T 0 10) (S := T) rfl _ (fun x s _ _ hs => itk_i (F := fun d S => sgc S (kvi (T 0 10) (T 1 3 * T 1 4) x) d) (P := fun _ s => s 0 10 = T 0 10) (S := s) hs 4 (fun y t _ _ ht => by
      unfold sgc
      split
      · exact ht
      · rw [sgo_0 (by decide)]; exact ht)))
  have hm : ∀ T : qMem, skm T 0 = T 0 := fun T => by
    unfold skm
    split
    · rfl
    · exact itk_i (F := fun r S => smk S r) (P := fun _ s => s 0 = T 0) (S := T) rfl _ (fun x s _ _ hs => by rw [smk_r (by decide) (by decide) (by decide) (by decide)]; exact hs)
  have hw : ∀ T : qMem, skw T 0 = T 0 := fun T => by
    unfold skw
    exact itk_i (F := fun r S => sfw S r) (P := fun _ s => s 0 = T 0) (S := T) rfl _ (fun x s _ _ hs => by rw [sfw_r (by decide)]; exact hs)
  have I2 : IV (sfg (qud S 22 1 0)) := (I.m0 (by omega) (by omega)).fg
  have ID : IV (skd (sfg (qud S 22 1 0))) := by
    unfold skd
    have hN := gN I2.1.1
    have := itk_i (F := fun v S => itk (fun k S => sdl S v (k + 1)) 8 S) (P := fun _ s => IV s ∧ s 1 = sfg (qud S 22 1 0) 1) (S := sfg (qud S 22 1 0)) ⟨I2, rfl⟩ (sfg (qud S 22 1 0) 1 3 * sfg (qud S 22 1 0) 1 4).toNat (fun x s x0 x1 hs => itk_i (F := fun k S => sdl S x (k + 1)) (P := fun _ s => IV s ∧ s 1 = sfg (qud S 22 1 0) 1) (S := s) hs 8 (fun y t y0 y1 ht => ⟨ht.1.dl x0 (by rw [ht.2]; omega) (by omega) (by omega), by rw [sdl_r (by decide) (by decide) (by decide) (by decide) (by decide) (by decide) (by decide)]; exact ht.2⟩))
    exact this.1
  unfold stk skc
  rw [qud_s, hw, hm, skh_0, hg _ ID (by rw [skd_22, sfg_r (by decide), qud_s]; omega), skd_0, sfg_r (by decide), qud_nk (by decide)]
theorem x_until (hx : NX 37 w S) (I : IV S) (h14 : w32 (S 5 14) = S 5 14) (hc : S 0 10 + 1001 ≤ 1000000) (hf : F37 w0 w) (hp : p ≠ -1 → 0 ≤ p ∧ p < S 5 13) : kT (f_X_ticksUntilDelivered p w) (fun r => F37 w0 r.2 ∧ RGx r.2) := by
  have key : ∀ (m : Nat) (x2 x3 : Int) (w' T : qMem), 0 ≤ x3 → x3 ≤ 1001 → 1001 - x3 < m → 0 ≤ x2 → x2 ≤ 2 → NX 37 w' T → IV T → w32 (T 5 14) = T 5 14 → T 0 10 + (1001 - x3) ≤ 1000000 → F37 w0 w' → (p ≠ -1 → 0 ≤ p ∧ p < T 5 13) → kT (f_X_ticksUntilDelivered_4 m p x2 x3 w') (fun r => F37 w0 r.2 ∧ RGx r.2) := by
    intro m
    induction m with
    | zero => intro x2 x3 w' T _ _ _ _ _ _ _ _ _ _ _; omega
    | succ m ih =>
      intro x2 x3 w' T y0 y1 hm z0 z1 h1 h2 h3 h4 hk hp
      have fin : ∀ y : Int, kT (some (y, w')) (fun r => F37 w0 r.2 ∧ RGx r.2) := fun y => kT_some ⟨hk, T 1 3, T 1 4, h2.1.1, h1.2⟩
      have hcc := h2.1.2.2.2.2.2.2.1
      have h48 : x3 ≤ 1000 → kT (f_X_ticksUntilDelivered_48 (f_X_ticksUntilDelivered_4 m) p x2 x3 w') (fun r => F37 w0 r.2 ∧ RGx r.2) := by
        intro hx3
        unfold f_X_ticksUntilDelivered_48
        refine kT_if (fun _ => fin _) (fun c2 => ?_)
        obtain ⟨y, w2, ⟨a1, a2, a3, a4⟩, a5, a6, a7⟩ := n_runTick h1 h2 (by omega) h3.symm
        refine kT_eq a7 ?_
        have h89 : ∀ s0, 0 ≤ s0 → s0 ≤ 2 → kT (f_X_ticksUntilDelivered_89 (f_X_ticksUntilDelivered_4 m) s0 p x3 w2) (fun r => F37 w0 r.2 ∧ RGx r.2) := by
          intro s0 u0 u1
          have e10 := stk_10 h2
          unfold f_X_ticksUntilDelivered_89
          rw [w32_ok (z := x3 + 1) (by omega) (by omega)]
          exact ih s0 (x3 + 1) w2 (stk T) (by omega) (by omega) (by omega) u0 u1 a1 a3 (by rw [stk_5, a6, w32_2]) (by rw [e10]; omega) (hk.tr (F37.fn a2)) (fun z => by rw [stk_c]; exact hp z)
        dsimp only
        rw [w32_ok (z := x2 + 1) (by omega) (by omega)]
        exact kT_if (fun _ => kT_if (fun _ => h89 _ (by omega) (by omega)) (fun _ => h89 _ (by omega) (by omega))) (fun _ => h89 _ (by omega) (by omega))
      rw [f_X_ticksUntilDelivered_4]
      refine kT_if (fun c3 => ?_) (fun _ => fin _)
      refine kT_if (fun cp => ?_) (fun cp => ?_)
      · unfold f_P_left
        refine kT_eq rfl ?_
        exact kT_if (fun _ => fin _) (fun _ => h48 c3)
      · have hq := hp cp
        have hd : f_P_isDelivered 42 p w' = some (bi (decide (T 9 p = 3)), w') := by
          unfold f_P_isDelivered
          rw [qld_ok hq.1 (by omega), show w' (42 + 4) p = T 9 p from rx_9 h1.1 hq.1 hq.2 hcc.2]
          by_cases e : T 9 p = 3
          · rw [if_pos e, decide_eq_true e]; rfl
          · rw [if_neg e, decide_eq_false e]; rfl
        refine kT_eq hd ?_
        exact kT_if (fun _ => h48 c3) (fun _ => fin _)
  unfold f_X_ticksUntilDelivered
  exact key qFU 0 0 w S (by omega) (by omega) (qFU_gt (by omega)) (by omega) (by omega) hx I h14 (by omega) hf hp
theorem x_through (hx : NX 2 w S) (I : IV S) (X : IX S) (hG : RGx w) (hc : S 0 10 + 1001 ≤ 1000000) : kT (f_X_through w) (fun r => F37 w r.2 ∧ RGx r.2) := by
  unfold f_X_through
  refine kT_bind (n_copyFrom hx I hG) (fun w1 h1 => ?_)
  refine kT_bind (x_until (p := -1) h1.1 I X.2.2.2 hc h1.2 (fun z => absurd rfl z)) (fun r hr => ?_)
  exact kT_some hr
theorem x_arrives (hx : NX 2 w S) (I : IV S) (X : IX S) (hG : RGx w) (hc : S 0 10 + 1001 ≤ 1000000) : kT (f_X_arrives a b w) (fun r => F37 w r.2 ∧ RGx r.2) := by
  have hcc := I.1.2.2.2.2.2.2.1
  unfold f_X_arrives
  refine kT_bind (n_copyFrom hx I hG) (fun w1 h1 => ?_)
  refine kT_bind (n_admit (a := a) (b := b) h1.1 I) (fun r hr => ?_)
  have hI := I.sa (a := a) (b := b)
  have hX := X.sa (a := a) (b := b) I
  have hf : F37 w r.2 := h1.2.tr (F37.fn hr.2.2)
  refine kT_if (fun _ => kT_some ⟨hf, _, _, hI.1.1, hr.2.1.2⟩) (fun cp => ?_)
  refine kT_bind (x_until (p := r.1) hr.2.1 hI hX.2.2.2 (by rw [ssa_0.1]; omega) hf (fun z => ?_)) (fun r hr => kT_some hr)
  rw [hr.1] at z ⊢
  unfold ssa at z ⊢
  by_cases e : svb S a b = true
  · rw [if_pos e]
    refine ⟨hcc.1, ?_⟩
    show S 5 13 < ssd S a b 5 13
    rw [ssd_c]; omega
  · rw [if_neg e] at z
    exact absurd rfl z
end XT
