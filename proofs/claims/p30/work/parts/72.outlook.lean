/-! asking what can go on (the class) -/
def FO (w w' : qMem) : Prop := ∀ k, k ≠ 73 → w' k = w k
section OL
variable {w w' w0 S T : qMem} {v t n x p a b l d k q : Int}
theorem FO.rfl' : FO w w := fun _ _ => rfl
theorem FO.wr (h : FO w w') : FO w (qud w' 73 n x) := fun k hk => by
  funext j
  rw [qud_nk hk, h k hk]
theorem FO.tr (h : FO w w') (h2 : FO w' T) : FO w T := fun k hk => (h2 k hk).trans (h k hk)
theorem NX.fo (h : NX 2 w S) (hf : FO w w') : NX 2 w' S := h.fr (fun k k0 k1 => hf k (by omega))
/-- a loop that writes, of which only this is asked: that it answers, and that J holds -/
theorem kB_loop {σ β : Type} {N : Int} {L : Nat → Int → σ → qMem → Option β} {P : β → Prop} {J : qMem → Prop} (hs : ∀ m x s w, 0 ≤ x → x < N → J w → (∀ s' w', J w' → kT (L m (x + 1) s' w') P) → kT (L (m + 1) x s w) P) (he : ∀ m s w, J w → kT (L (m + 1) N s w) P) (n0 : 0 ≤ N) (n1 : N < 1000000000) (s : σ) (hJ : J w) : kT (L qFU 0 s w) P := by
  have key : ∀ (m : Nat) (x : Int) (s : σ) (w : qMem), 0 ≤ x → x ≤ N → N - x < m → J w → kT (L m x s w) P := by
    intro m
    induction m with
    | zero => intro x s w _ _ _ _; omega
    | succ m ih =>
      intro x s w x0 x1 hm hJ
      by_cases e : x < N
      · exact hs m x s w x0 e hJ (fun s' w' h' => ih (x + 1) s' w' (by omega) (by omega) (by omega) h')
      · have : x = N := by omega
        subst this
        exact he m s w hJ
  exact key qFU 0 s w (by omega) n0 (qFU_gt (by omega)) hJ
theorem kT_sA {β : Type} {F : Option (Int × qMem)} {K : Int × qMem → Option β} {P : β → Prop} (h : sA w F) (k : ∀ y, kT (K (y, w)) P) : kT (F.bind K) P := by
  obtain ⟨y, h⟩ := h
  exact kT_eq h (k y)
theorem os_goes (hx : NX 2 w S) (I : IW S) (v0 : 0 ≤ v) (v1 : v < S 1 3 * S 1 4) (k0 : 0 ≤ k) (k1 : k < 9) : sA w (f_O_goesAtOnce 2 v k w) := by
  unfold f_O_goesAtOnce
  refine sA_eq (n_isInTo hx I v0 v1 k0 k1) (sA_if (fun _ => ?_) (fun _ => sA_s))
  refine sA_loop (σ := Unit) (N := 4) (L := fun m x _ => f_O_goesAtOnce_14 2 m v k x w) (fun m x s x0 x1 ih => ?_) (fun m s => ?_) (by omega) (by omega) ()
  · rw [f_O_goesAtOnce_14, if_pos x1, w32_ok (z := x + 1) (by omega) (by omega)]
    exact sA_eq (n_adaptiveLets hx I v0 v1 k0 k1 x0 x1) (sA_if (fun _ => sA_eq (n_escapeLets hx I v0 v1 k0 k1 x0 x1) (sA_if (fun _ => ih ()) (fun _ => sA_s))) (fun _ => sA_s))
  · rw [f_O_goesAtOnce_14, if_neg (by decide)]; exact sA_s
theorem os_any (hx : NX 2 w S) (g : gIn (S 1 3) (S 1 4)) (v0 : 0 ≤ v) (v1 : v < S 1 3 * S 1 4) (d0 : 0 ≤ d) (d1 : d < 4) : sA w (f_O_anyInRing 3 v d w) := by
  have hr := gr_in g v0 v1 d0 d1
  have hN := gN g
  have hl := gl_in (r := gr (S 1 3) (S 1 4) v d) g
  unfold f_O_anyInRing
  refine sA_eq (g_ringIndex (o := 3) hx.2.1 g v0 v1 d0 d1) ?_
  refine sA_loop (σ := Unit) (N := gl (S 1 3) (S 1 4) (gr (S 1 3) (S 1 4) v d)) (L := fun m x _ => f_O_anyInRing_11 3 m d (gr (S 1 3) (S 1 4) v d) x w) (fun m x s x0 x1 ih => ?_) (fun m s => ?_) (by omega) (by omega) ()
  · have hq := gq_in g hr.1 hr.2 x0 x1
    rw [f_O_anyInRing_11, qbd (g_ringLength (o := 3) hx.2.1 g)]
    dsimp only
    rw [if_pos x1, qbd (g_ringNode (o := 3) hx.2.1 g hr.1 hr.2 x0 (by omega))]
    dsimp only
    rw [w32_ok (z := gq (S 1 3) (S 1 4) (gr (S 1 3) (S 1 4) v d) x * 9) (by omega) (by omega), w32_ok (z := gq (S 1 3) (S 1 4) (gr (S 1 3) (S 1 4) v d) x * 9 + 1) (by omega) (by omega), w32_ok (z := gq (S 1 3) (S 1 4) (gr (S 1 3) (S 1 4) v d) x * 9 + 1 + d) (by omega) (by omega), qld_ok (by omega) (by omega), w32_ok (z := x + 1) (by omega) (by omega)]
    exact sA_if (fun _ => ih ()) (fun _ => sA_s)
  · rw [f_O_anyInRing_11, qbd (g_ringLength (o := 3) hx.2.1 g)]
    dsimp only
    rw [if_neg (by omega)]; exact sA_s
theorem os_follows (hx : NX 2 w S) (I : IW S) (v0 : 0 ≤ v) (v1 : v < S 1 3 * S 1 4) (k0 : 0 ≤ k) (k1 : k < 9) : sA w (f_O_follows 2 v k w) := by
  have hN := gN I.1
  unfold f_O_follows
  refine sA_loop (σ := Unit) (N := 4) (L := fun m x _ => f_O_follows_3 2 m v k x w) (fun m x s x0 x1 ih => ?_) (fun m s => ?_) (by omega) (by omega) ()
  · have hn := gn_in I.1 v0 v1 x0 x1
    have h52 : sA w (f_O_follows_52 2 (f_O_follows_3 2 m) v k x (gn (S 1 3) (S 1 4) v x * 9) w) := by
      unfold f_O_follows_52
      rw [w32_ok (z := x + 1) (by omega) (by omega)]
      refine sA_eq (n_isEscape hx I v0 v1 k0 k1) (sA_if (fun _ => ih ()) (fun _ => ?_))
      refine sA_eq (n_continues hx I v0 v1 k0 k1 x0 x1) (sA_if (fun _ => ?_) (fun _ => ?_))
      · exact sA_b (os_any hx I.1 v0 v1 x0 x1) (fun y => sA_if (fun _ => ih ()) (fun _ => sA_s))
      · rw [w32_ok (z := gn (S 1 3) (S 1 4) v x * 9 + 1) (by omega) (by omega), w32_ok (z := gn (S 1 3) (S 1 4) v x * 9 + 1 + x) (by omega) (by omega), qld_ok (by omega) (by omega)]
        exact sA_if (fun _ => ih ()) (fun _ => sA_s)
    rw [f_O_follows_3, if_pos x1, qbd (g_nextBy (o := 3) hx.2 I.1 v0 v1 x0 x1)]
    dsimp only
    rw [w32_ok (z := gn (S 1 3) (S 1 4) v x * 9) (by omega) (by omega), w32_ok (z := gn (S 1 3) (S 1 4) v x * 9 + 5) (by omega) (by omega), w32_ok (z := gn (S 1 3) (S 1 4) v x * 9 + 5 + x) (by omega) (by omega)]
    refine sA_eq (n_isProfitable hx I v0 v1 k0 k1 x0 x1) (sA_if (fun _ => h52) (fun _ => ?_))
    rw [qld_ok (by omega) (by omega)]
    exact sA_if (fun _ => h52) (fun _ => sA_s)
  · rw [f_O_follows_3, if_neg (by decide)]; exact sA_s
theorem os_judge60 (I : IW S) (hJ : NX 2 w S ∧ FO w0 w) : kT (f_O_judge_60 2 qFU 1 0 w) (fun w' => FO w0 w') := by
  have hN := gN I.1
  refine kB_loop (σ := Int) (N := 144) (L := fun m x s w => f_O_judge_60 2 m s x w) (J := fun w => NX 2 w S ∧ FO w0 w) (fun m x s w x0 x1 hJ ih => ?_) (fun m s w hJ => ?_) (by omega) (by omega) 1 hJ
  · rw [f_O_judge_60, if_pos x1]
    refine kT_if (fun _ => kT_some hJ.2) (fun _ => ?_)
    refine kB_loop (σ := Int) (N := S 1 3 * S 1 4 * 9) (L := fun m' y s' w => f_O_judge_76 2 (f_O_judge_60 2 m) m' s' x y w) (J := fun w => NX 2 w S ∧ FO w0 w) (fun m' y s' w y0 y1 hJ ih' => ?_) (fun m' s' w hJ => ?_) (by omega) (by omega) 0 hJ
    · have e5 : w (2 + 1) 5 = S 1 3 * S 1 4 := hJ.1.2.2.1.1
      rw [f_O_judge_76, e5, w32_ok (z := S 1 3 * S 1 4 * 9) (by omega) (by omega), if_pos y1, qld_ok y0 (by omega), w32_ok (z := y + 1) (by omega) (by omega)]
      refine kT_if (fun _ => ?_) (fun _ => ih' _ _ hJ)
      rw [qdv_ok (by decide), qdv_ok (by decide), jdiv_ok y0 (by omega) (by decide) (by decide), jrem_ok y0 (by omega) (by decide) (by decide)]
      refine kT_sA (os_follows hJ.1 I (by omega) (by omega) (by omega) (by omega)) (fun z => ?_)
      dsimp only
      refine kT_if (fun _ => ih' _ _ hJ) (fun _ => ?_)
      rw [qstz_ok y0 (by omega) (Or.inr rfl)]
      exact ih' _ _ ⟨hJ.1.fo FO.rfl'.wr, hJ.2.wr⟩
    · have e5 : w (2 + 1) 5 = S 1 3 * S 1 4 := hJ.1.2.2.1.1
      rw [f_O_judge_76, e5, w32_ok (z := S 1 3 * S 1 4 * 9) (by omega) (by omega), if_neg (by omega), w32_ok (z := x + 1) (by omega) (by omega)]
      exact ih _ _ hJ
  · rw [f_O_judge_60, if_neg (by decide)]
    exact kT_some hJ.2
theorem os_judge (hx : NX 2 w S) (I : IW S) : kT (f_O_judge 2 w) (fun w' => FO w w') := by
  have hN := gN I.1
  unfold f_O_judge
  refine kB_loop (σ := Unit) (N := 144) (L := fun m x _ w => f_O_judge_2 2 m x w) (J := fun w' => NX 2 w' S ∧ FO w w') (fun m x s w' x0 x1 hJ ih => ?_) (fun m s w' hJ => ?_) (by omega) (by omega) () ⟨hx, FO.rfl'⟩
  · have e5 : w' (2 + 1) 5 = S 1 3 * S 1 4 := hJ.1.2.2.1.1
    have h49 : ∀ z, (z = 0 ∨ z = 1) → kT (f_O_judge_49 2 (f_O_judge_2 2 m) x z x w') (fun w' => FO w w') := by
      intro z hz
      unfold f_O_judge_49
      rw [qstz_ok x0 x1 hz, w32_ok (z := x + 1) (by omega) (by omega)]
      exact ih () _ ⟨hJ.1.fo FO.rfl'.wr, hJ.2.wr⟩
    rw [f_O_judge_2, if_pos x1, e5, w32_ok (z := S 1 3 * S 1 4 * 9) (by omega) (by omega)]
    refine kT_if (fun c => ?_) (fun _ => h49 0 (Or.inl rfl))
    rw [qdv_ok (by decide), qdv_ok (by decide), jdiv_ok x0 (by omega) (by decide) (by decide), jrem_ok x0 (by omega) (by decide) (by decide)]
    refine kT_sA (os_goes hJ.1 I (by omega) (by omega) (by omega) (by omega)) (fun z => ?_)
    exact kT_if (fun _ => h49 0 (Or.inl rfl)) (fun _ => h49 1 (Or.inr rfl))
  · rw [f_O_judge_2, if_neg (by decide)]
    unfold f_O_judge_56
    exact os_judge60 I hJ
theorem os_held (hx : NX 2 w S) : sA w (f_O_held 2 w) := by
  unfold f_O_held
  refine sA_loop (σ := Int) (N := 144) (L := fun m x s => f_O_held_4 2 m s x w) (fun m x s x0 x1 ih => ?_) (fun m s => ?_) (by omega) (by omega) 0
  · rw [f_O_held_4, if_pos x1, qld_ok x0 x1, qld_ok x0 x1, w32_ok (z := x + 1) (by omega) (by omega)]
    exact sA_if (fun _ => ih _) (fun _ => ih _)
  · rw [f_O_held_4, if_neg (by decide)]; exact sA_s
theorem os_anyG : sA w (f_O_anyGoesOn w) := by
  unfold f_O_anyGoesOn
  refine sA_loop (σ := Unit) (N := 144) (L := fun m x _ => f_O_anyGoesOn_2 m x w) (fun m x s x0 x1 ih => ?_) (fun m s => ?_) (by omega) (by omega) ()
  · rw [f_O_anyGoesOn_2, if_pos x1, qld_ok x0 x1, w32_ok (z := x + 1) (by omega) (by omega)]
    exact sA_if (fun _ => ih ()) (fun _ => sA_s)
  · rw [f_O_anyGoesOn_2, if_neg (by decide)]; exact sA_s
theorem xs_stuck (hx : NX 2 w S) (I : IV S) : kT (f_X_stuck w) (fun r => FO w r.2) := by
  unfold f_X_stuck
  refine kT_bind (os_judge hx I.w) (fun w' hw => ?_)
  refine kT_sA (os_held (hx.fo hw)) (fun y => kT_some hw)
theorem xs_dead (hx : NX 2 w S) (I : IV S) : kT (f_X_dead w) (fun r => FO w r.2) := by
  unfold f_X_dead f_P_left
  refine kT_eq rfl ?_
  refine kT_if (fun _ => kT_some FO.rfl') (fun _ => ?_)
  refine kT_bind (os_judge hx I.w) (fun w' hw => ?_)
  refine kT_sA os_anyG (fun y => kT_if (fun _ => kT_some hw) (fun _ => kT_some hw))
theorem n_queueOf (hx : NX 2 w S) (I : IV S) (p0 : 0 ≤ p) (p1 : p < S 5 13) (hd : S 9 p ≠ 3) : f_N_queueOf 2 p w = some (lof S p, w) ∧ 0 ≤ lof S p ∧ lof S p < 144 := by
  have hc := I.1.2.2.2.2.2.2.1
  have h := I.2.1.1 p p0 p1
  have hN := gN I.1.1
  have ha := h.1.2.2
  have hl := h.2.1
  have hne : lof S p ≠ -1 := by
    unfold lof
    rw [if_neg hd]
    by_cases e0 : S 9 p = 0
    · rw [if_pos e0]; omega
    · rw [if_neg e0]
      have := hl.2.2.2.2 (by omega)
      by_cases e1 : S 9 p = 1
      · rw [if_pos e1]; omega
      · rw [if_neg e1]; omega
  refine ⟨?_, (I.2.1.2.2.2 p p0 p1 hne).1⟩
  unfold f_N_queueOf f_N_queueOf_44 lof
  rw [qld_ok p0 (by omega), qld_ok p0 (by omega), show w (2 + 9) p = S 9 p from rx_9 hx.1 p0 p1 hc.2, show w (2 + 10) p = S 10 p from rx_10 hx.1 p0 p1 hc.2, if_neg hd, w32_ok (z := S 10 p * 9) (by omega) (by omega)]
  by_cases e0 : S 9 p = 0
  · rw [if_pos e0, if_pos e0, w32_ok (by omega) (by omega)]
  · have h11 := hl.2.2.2.2 (by omega)
    rw [if_neg e0, if_neg e0]
    unfold f_X_firstOfLane
    by_cases e1 : S 9 p = 1
    · rw [if_pos e1, if_pos e1, qbd rfl]
      dsimp only
      rw [qld_ok p0 (by omega), show w (2 + 11) p = S 11 p from rx_11 hx.1 p0 p1 hc.2, w32_ok (z := 1 + S 11 p) (by omega) (by omega), w32_ok (by omega) (by omega)]
    · rw [if_neg e1, if_neg e1, qbd rfl]
      dsimp only
      rw [qld_ok p0 (by omega), show w (2 + 11) p = S 11 p from rx_11 hx.1 p0 p1 hc.2, w32_ok (z := 5 + S 11 p) (by omega) (by omega), w32_ok (by omega) (by omega)]
theorem xs_goesOn (hx : NX 2 w S) (I : IV S) : kT (f_X_goesOn p w) (fun r => FO w r.2) := by
  unfold f_X_goesOn
  refine kT_eq (x_has hx) ?_
  dsimp only
  rw [bi_if]
  refine kT_if (fun c => ?_) (fun _ => kT_some FO.rfl')
  refine kT_eq (xp_del hx I c.1 c.2) ?_
  dsimp only
  rw [bi_if]
  refine kT_if (fun _ => kT_some FO.rfl') (fun hd => ?_)
  obtain ⟨e, q0, q1⟩ := n_queueOf hx I c.1 c.2 hd
  refine kT_eq e ?_
  refine kT_eq (n_first (o := 2) hx.1 q0 q1) ?_
  refine kT_if (fun _ => ?_) (fun _ => kT_some FO.rfl')
  refine kT_bind (os_judge hx I.w) (fun w' hw => ?_)
  refine kT_ld q0 q1 ?_
  exact kT_if (fun _ => kT_some hw) (fun _ => kT_some hw)
end OL
