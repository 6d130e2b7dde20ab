/-! asking what can go on (the reference) -/
def FO1 (w w' : qMem) : Prop := ∀ k, k ≠ 91 → w' k = w k
def cz (w : qMem) : Nat → Nat
  | 0 => 0
  | n + 1 => cz w n + (if w 91 n = 0 then 1 else 0)
section ML
variable {w w' w0 S T : qMem} {v t x p a b l d k q r : Int}
theorem FO1.rfl' : FO1 w w := fun _ _ => rfl
theorem FO1.wr {i y : Int} (h : FO1 w w') : FO1 w (qud w' 91 i y) := fun k hk => by
  funext j
  rw [qud_nk hk, h k hk]
theorem FO1.tr (h : FO1 w w') (h2 : FO1 w' T) : FO1 w T := fun k hk => (h2 k hk).trans (h k hk)
theorem RM.fo (h : RM w S) (hf : FO1 w w') : RM w' S := h.fr (fun j _ _ => by rw [hf 89 (by decide)])
theorem cz_le : ∀ n : Nat, cz w n ≤ n := by
  intro n
  induction n with
  | zero => exact Nat.le_refl _
  | succ n ih =>
    show cz w n + (if w 91 n = 0 then 1 else 0) ≤ n + 1
    split <;> omega
theorem cz_out {i : Int} : ∀ n : Nat, (n : Int) ≤ i → cz (qud w 91 i 1) n = cz w n := by
  intro n
  induction n with
  | zero => intro _; rfl
  | succ n ih =>
    intro h
    show cz (qud w 91 i 1) n + (if qud w 91 i 1 91 n = 0 then 1 else 0) = cz w n + (if w 91 n = 0 then 1 else 0)
    rw [ih (by omega), qud_ni (by omega)]
theorem cz_set {i : Int} (h0 : 0 ≤ i) (hz : w 91 i = 0) : ∀ n : Nat, i < n → cz (qud w 91 i 1) n + 1 = cz w n := by
  intro n
  induction n with
  | zero => intro h; omega
  | succ n ih =>
    intro h
    show cz (qud w 91 i 1) n + (if qud w 91 i 1 91 n = 0 then 1 else 0) + 1 = cz w n + (if w 91 n = 0 then 1 else 0)
    by_cases e : i = n
    · rw [cz_out n (by omega), ← e, qud_s, hz, if_neg (by decide), if_pos rfl]
    · rw [qud_ni (fun z => e z.symm)]
      have := ih (by omega)
      omega
theorem kC_loop {σ β : Type} {N : Int} {L : Nat → Int → σ → qMem → Option β} {P : β → Prop} {J : σ → qMem → Prop} (hs : ∀ m x s w, 0 ≤ x → x < N → J s w → (∀ s' w', J s' w' → kT (L m (x + 1) s' w') P) → kT (L (m + 1) x s w) P) (he : ∀ m s w, J s w → kT (L (m + 1) N s w) P) (n0 : 0 ≤ N) (n1 : N < 1000000000) (s : σ) (hJ : J s w) : kT (L qFU 0 s w) P := by
  have key : ∀ (m : Nat) (x : Int) (s : σ) (w : qMem), 0 ≤ x → x ≤ N → N - x < m → J s w → kT (L m x s w) P := by
    intro m
    induction m with
    | zero => intro x s w _ _ _ _; omega
    | succ m ih =>
      intro x s w x0 x1 hm hJ
      by_cases e : x < N
      · exact hs m x s w x0 e hJ (fun s' w' h' => ih (x + 1) s' w' (by omega) (by omega) (by omega) h')
      · have : x = N := by omega
        subst this
        exact he m s w hJ
  exact key qFU 0 s w (by omega) n0 (qFU_gt (by omega)) hJ
theorem m_slot (v0 : 0 ≤ v) (v1 : v < 16) (k0 : 0 ≤ k) (k1 : k < 9) : f_M_slot v k w = some (v * 9 + k, w) := by
  unfold f_M_slot
  rw [w32_ok (z := 9 * v) (by omega) (by omega), w32_ok (by omega) (by omega), Int.mul_comm]
theorem m_canGo0 (h : RM w S) (I : IV S) (v0 : 0 ≤ v) (v1 : v < S 1 3 * S 1 4) (k0 : 0 ≤ k) (k1 : k < 9) (d0 : 0 ≤ d) (d1 : d < 4) (he : sfst S (v * 9 + k) ≠ -1) : sA w (f_M_canGo (sfst S (v * 9 + k)) v d 0 w) := by
  unfold f_M_canGo
  refine sA_eq (m_canByAdaptive h I v0 v1 k0 k1 d0 d1 he) (sA_if (fun _ => ?_) (fun _ => sA_s))
  exact sA_eq (m_canByEscape h I v0 v1 k0 k1 d0 d1 he (Or.inl rfl)) (sA_if (fun _ => sA_s) (fun _ => sA_s))
theorem ml_now (hR : RM w S) (I : IV S) (v0 : 0 ≤ v) (v1 : v < S 1 3 * S 1 4) (k0 : 0 ≤ k) (k1 : k < 9) (he : sfst S (v * 9 + k) ≠ -1) : sA w (f_M_canNow v k w) := by
  have hN := gN I.1.1
  obtain ⟨⟨p0, p1⟩, -⟩ := first_at I v0 v1 k0 k1 he
  unfold f_M_canNow
  refine sA_eq (m_firstOf hR I.w.2.2.2 v0 (by omega) k0 k1) ?_
  refine sA_eq (mp_of hR I p0 p1 (f := 7) (by decide) (by decide) (by decide)) (sA_if (fun _ => sA_s) (fun _ => ?_))
  refine sA_loop (σ := Unit) (N := 4) (L := fun m x _ => f_M_canNow_22 m v (sfst S (v * 9 + k)) x w) (fun m x s x0 x1 ih => ?_) (fun m s => ?_) (by omega) (by omega) ()
  · rw [f_M_canNow_22, if_pos x1, w32_ok (z := x + 1) (by omega) (by omega)]
    exact sA_b (m_canGo0 hR I v0 v1 k0 k1 x0 x1 he) (fun y => sA_if (fun _ => ih ()) (fun _ => sA_s))
  · rw [f_M_canNow_22, if_neg (by decide)]; exact sA_s
theorem ml_some (hR : RM w S) (I : IV S) (r0 : 0 ≤ r) (r1 : r < 2 * (S 1 3 + S 1 4)) : sA w (f_M_someOfRing r w) := by
  have hN := gN I.1.1
  have hd := gd_in (W := S 1 3) (H := S 1 4) (r := r)
  unfold f_M_someOfRing
  refine sA_eq (mg_directionOf hR.wh I.1.1 r0 r1) ?_
  refine sA_loop (σ := Unit) (N := S 1 3 * S 1 4) (L := fun m x _ => f_M_someOfRing_8 m r (gd (S 1 3) (S 1 4) r) x w) (fun m x s x0 x1 ih => ?_) (fun m s => ?_) (by omega) (by omega) ()
  · rw [f_M_someOfRing_8, qbd (mg_nodes hR.wh I.1.1)]
    dsimp only
    rw [if_pos x1, w32_ok (z := x + 1) (by omega) (by omega)]
    refine sA_eq (mg_ringFor hR.wh I.1.1 x0 x1 hd.1 hd.2) (sA_if (fun _ => ?_) (fun _ => ih ()))
    rw [w32_ok (z := 1 + gd (S 1 3) (S 1 4) r) (by omega) (by omega)]
    refine sA_eq (m_slot x0 (by omega) (by omega) (by omega)) ?_
    dsimp only
    rw [qld_ok (by omega) (by omega)]
    exact sA_if (fun _ => ih ()) (fun _ => sA_s)
  · rw [f_M_someOfRing_8, qbd (mg_nodes hR.wh I.1.1)]
    dsimp only
    rw [if_neg (by omega)]; exact sA_s
theorem ml_then (hR : RM w S) (I : IV S) (v0 : 0 ≤ v) (v1 : v < S 1 3 * S 1 4) (k0 : 0 ≤ k) (k1 : k < 9) (he : sfst S (v * 9 + k) ≠ -1) : sA w (f_M_canThen v k w) := by
  have hN := gN I.1.1
  obtain ⟨⟨p0, p1⟩, -⟩ := first_at I v0 v1 k0 k1 he
  have hp := I.2.1.1 _ p0 p1
  unfold f_M_canThen
  refine sA_eq (m_firstOf hR I.w.2.2.2 v0 (by omega) k0 k1) ?_
  refine sA_loop (σ := Unit) (N := 4) (L := fun m x _ => f_M_canThen_10 m v (sfst S (v * 9 + k)) x w) (fun m x s x0 x1 ih => ?_) (fun m s => ?_) (by omega) (by omega) ()
  · have hn := gn_in I.1.1 v0 v1 x0 x1
    have hr := gr_in I.1.1 v0 v1 x0 x1
    have h60 : sA w (f_M_canThen_60 (f_M_canThen_10 m) v (sfst S (v * 9 + k)) x (gn (S 1 3) (S 1 4) v x) w) := by
      unfold f_M_canThen_60
      rw [w32_ok (z := x + 1) (by omega) (by omega), w32_ok (z := 1 + x) (by omega) (by omega)]
      refine sA_eq (mp_of hR I p0 p1 (f := 7) (by decide) (by decide) (by decide)) ?_
      refine sA_eq (mg_escapeOf hR.wh I.1.1 v0 v1 hp.1.2.1.1 hp.1.2.1.2) (sA_if (fun _ => ?_) (fun _ => ih ()))
      refine sA_eq (m_doesContinue hR I v0 v1 k0 k1 x0 x1 he) (sA_if (fun _ => ?_) (fun _ => ?_))
      · refine sA_eq (mg_ringFor hR.wh I.1.1 v0 v1 x0 x1) ?_
        exact sA_b (ml_some hR I hr.1 hr.2) (fun y => sA_if (fun _ => ih ()) (fun _ => sA_s))
      · refine sA_eq (m_slot hn.1 (by omega) (by omega) (by omega)) ?_
        dsimp only
        rw [qld_ok (by omega) (by omega)]
        exact sA_if (fun _ => ih ()) (fun _ => sA_s)
    rw [f_M_canThen_10, if_pos x1, w32_ok (z := 5 + x) (by omega) (by omega)]
    refine sA_eq (mg_nextOf hR.wh I.1.1 v0 v1 x0 x1) ?_
    refine sA_eq (mp_of hR I p0 p1 (f := 7) (by decide) (by decide) (by decide)) ?_
    refine sA_eq (mg_isProfitable hR.wh I.1.1 v0 v1 hp.1.2.1.1 hp.1.2.1.2 x0 x1) (sA_if (fun _ => h60) (fun _ => ?_))
    refine sA_eq (m_slot hn.1 (by omega) (by omega) (by omega)) ?_
    dsimp only
    rw [qld_ok (by omega) (by omega)]
    exact sA_if (fun _ => h60) (fun _ => sA_s)
  · rw [f_M_canThen_10, if_neg (by decide)]; exact sA_s
theorem sfst_of (I : IV S) (q0 : 0 ≤ q) (q1 : q < 144) (h : ¬ S 20 q ≤ 0) : sfst S q ≠ -1 := by
  have := (I.w.2.2.2 q q0 q1).2 0 (by omega) (by omega)
  rw [Int.add_zero] at this
  unfold sfst
  rw [if_neg h]
  omega
theorem ml_73 {c0 : Nat} {r65 : Int → qMem → Option qMem} {P : qMem → Prop} (I : IV S) (hJ : RM w S ∧ FO1 w0 w ∧ cz w 144 ≤ c0) (hr : ∀ s' w', RM w' S ∧ FO1 w0 w' ∧ cz w' 144 ≤ c0 → (s' = 0 ∨ cz w' 144 < c0) → kT (r65 s' w') P) : kT (f_M_laysOn_73 r65 qFU 0 0 w) P := by
  have hN := gN I.1.1
  refine kC_loop (σ := Int) (N := S 1 3 * S 1 4) (L := fun m x s w => f_M_laysOn_73 r65 m s x w) (J := fun s w => (RM w S ∧ FO1 w0 w ∧ cz w 144 ≤ c0) ∧ (s = 0 ∨ cz w 144 < c0)) (fun m x s w x0 x1 hJ ih => ?_) (fun m s w hJ => ?_) (by omega) (by omega) 0 ⟨hJ, Or.inl rfl⟩
  · rw [f_M_laysOn_73, qbd (mg_nodes hJ.1.1.wh I.1.1)]
    dsimp only
    rw [if_pos x1]
    refine kC_loop (σ := Int) (N := 9) (L := fun m' y s' w => f_M_laysOn_83 r65 (f_M_laysOn_73 r65 m) m' s' x y w) (J := fun s w => (RM w S ∧ FO1 w0 w ∧ cz w 144 ≤ c0) ∧ (s = 0 ∨ cz w 144 < c0)) (fun m' y s' w y0 y1 hJ ih' => ?_) (fun m' s' w hJ => ?_) (by omega) (by omega) s hJ
    · rw [f_M_laysOn_83, if_pos y1, qbd (m_slot x0 (by omega) y0 y1)]
      dsimp only
      rw [qld_ok (by omega) (by omega), w32_ok (z := y + 1) (by omega) (by omega)]
      refine kT_if (fun hz => ?_) (fun _ => ih' _ _ hJ)
      rw [qbd (m_many hJ.1.1 x0 (by omega) y0 y1)]
      dsimp only
      refine kT_if (fun _ => ih' _ _ hJ) (fun hn => ?_)
      have h20 := (I.w.2.2.2 (x * 9 + y) (by omega) (by omega)).1.1
      have hfst := sfst_of (q := x * 9 + y) I (by omega) (by omega) (by omega)
      refine kT_sA (ml_then hJ.1.1 I x0 x1 y0 y1 hfst) (fun z => ?_)
      dsimp only
      refine kT_if (fun _ => ih' _ _ hJ) (fun _ => ?_)
      rw [qbd (m_slot x0 (by omega) y0 y1)]
      dsimp only
      rw [qstz_ok (by omega) (by omega) (Or.inr rfl)]
      have hcz := cz_set (w := w) (i := x * 9 + y) (by omega) hz 144 (by omega)
      have hc := hJ.1.2.2
      exact ih' _ _ ⟨⟨hJ.1.1.fo FO1.rfl'.wr, hJ.1.2.1.wr, by omega⟩, Or.inr (by omega)⟩
    · rw [f_M_laysOn_83, if_neg (by decide), w32_ok (z := x + 1) (by omega) (by omega)]
      exact ih _ _ hJ
  · rw [f_M_laysOn_73, qbd (mg_nodes hJ.1.1.wh I.1.1)]
    dsimp only
    rw [if_neg (by omega)]
    exact hr _ _ hJ.1 hJ.2
theorem ml_65 (I : IV S) : ∀ (c m : Nat) (x1 : Int) (w : qMem), RM w S → FO1 w0 w → cz w 144 ≤ c → c + 2 ≤ m → kT (f_M_laysOn_65 m x1 w) (fun w' => FO1 w0 w') := by
  intro c
  induction c with
  | zero =>
    intro m x1 w hR hf hc hm
    cases m with
    | zero => omega
    | succ m =>
      rw [f_M_laysOn_65]
      refine kT_if (fun _ => kT_some hf) (fun _ => ?_)
      refine ml_73 (c0 := 0) I ⟨hR, hf, hc⟩ (fun s' w' h1 h2 => ?_)
      rcases h2 with h2 | h2
      · cases m with
        | zero => omega
        | succ m =>
          rw [f_M_laysOn_65, if_pos h2]
          exact kT_some h1.2.1
      · omega
  | succ c ih =>
    intro m x1 w hR hf hc hm
    cases m with
    | zero => omega
    | succ m =>
      rw [f_M_laysOn_65]
      refine kT_if (fun _ => kT_some hf) (fun _ => ?_)
      refine ml_73 (c0 := c + 1) I ⟨hR, hf, hc⟩ (fun s' w' h1 h2 => ?_)
      rcases h2 with h2 | h2
      · cases m with
        | zero => omega
        | succ m =>
          rw [f_M_laysOn_65, if_pos h2]
          exact kT_some h1.2.1
      · exact ih m s' w' h1.1 h1.2.1 (by omega) (by omega)
theorem ml_lays (hR : RM w S) (I : IV S) : kT (f_M_laysOn w) (fun w' => FO1 w w') := by
  have hN := gN I.1.1
  unfold f_M_laysOn
  refine kC_loop (σ := Unit) (N := S 1 3 * S 1 4) (L := fun m x _ w => f_M_laysOn_2 m x w) (J := fun _ w' => RM w' S ∧ FO1 w w') (fun m x s w' x0 x1 hJ ih => ?_) (fun m s w' hJ => ?_) (by omega) (by omega) () ⟨hR, FO1.rfl'⟩
  · rw [f_M_laysOn_2, qbd (mg_nodes hJ.1.wh I.1.1)]
    dsimp only
    rw [if_pos x1]
    refine kC_loop (σ := Unit) (N := 9) (L := fun m' y _ w' => f_M_laysOn_12 (f_M_laysOn_2 m) m' x y w') (J := fun _ w' => RM w' S ∧ FO1 w w') (fun m' y s' w' y0 y1 hJ ih' => ?_) (fun m' s' w' hJ => ?_) (by omega) (by omega) () hJ
    · have h50 : ∀ z, (z = 0 ∨ z = 1) → kT (f_M_laysOn_50 (f_M_laysOn_2 m) (f_M_laysOn_12 (f_M_laysOn_2 m) m') (x * 9 + y) z x y w') (fun w' => FO1 w w') := by
        intro z hz
        unfold f_M_laysOn_50
        rw [qstz_ok (by omega) (by omega) hz, w32_ok (z := y + 1) (by omega) (by omega)]
        exact ih' () _ ⟨hJ.1.fo FO1.rfl'.wr, hJ.2.wr⟩
      rw [f_M_laysOn_12, if_pos y1, qbd (m_slot x0 (by omega) y0 y1)]
      dsimp only
      rw [qbd (m_many hJ.1 x0 (by omega) y0 y1)]
      dsimp only
      refine kT_if (fun _ => h50 0 (Or.inl rfl)) (fun hn => ?_)
      have hfst := sfst_of (q := x * 9 + y) I (by omega) (by omega) hn
      refine kT_sA (ml_now hJ.1 I x0 x1 y0 y1 hfst) (fun z => ?_)
      exact kT_if (fun _ => h50 0 (Or.inl rfl)) (fun _ => h50 1 (Or.inr rfl))
    · rw [f_M_laysOn_12, if_neg (by decide), w32_ok (z := x + 1) (by omega) (by omega)]
      exact ih () _ hJ
  · rw [f_M_laysOn_2, qbd (mg_nodes hJ.1.wh I.1.1)]
    dsimp only
    rw [if_neg (by omega)]
    unfold f_M_laysOn_63
    exact ml_65 I 144 qFU 1 w' hJ.1 hJ.2 (cz_le 144) (by unfold qFU; omega)
theorem ml_stuck8 (hR : RM w S) (I : IV S) : sA w (f_M_stuck_8 qFU 0 0 w) := by
  have hN := gN I.1.1
  refine sA_loop (σ := Int) (N := S 1 3 * S 1 4) (L := fun m x s => f_M_stuck_8 m s x w) (fun m x s x0 x1 ih => ?_) (fun m s => ?_) (by omega) (by omega) 0
  · rw [f_M_stuck_8, qbd (mg_nodes hR.wh I.1.1)]
    dsimp only
    rw [if_pos x1]
    refine sA_loop (σ := Int) (N := 9) (L := fun m' y s' => f_M_stuck_18 (f_M_stuck_8 m) m' s' x y w) (fun m' y s' y0 y1 ih' => ?_) (fun m' s' => ?_) (by omega) (by omega) s
    · have h48 : ∀ s0 s1, sA w (f_M_stuck_48 (f_M_stuck_8 m) (f_M_stuck_18 (f_M_stuck_8 m) m') s0 s1 x y w) := by
        intro s0 s1
        unfold f_M_stuck_48
        rw [w32_ok (z := y + 1) (by omega) (by omega)]
        exact ih' _
      rw [f_M_stuck_18, if_pos y1, qbd (m_slot x0 (by omega) y0 y1)]
      dsimp only
      rw [qld_ok (by omega) (by omega)]
      exact sA_if (fun _ => sA_eq (m_many hR x0 (by omega) y0 y1) (h48 _ _)) (fun _ => h48 _ _)
    · rw [f_M_stuck_18, if_neg (by decide), w32_ok (z := x + 1) (by omega) (by omega)]
      exact ih _
  · rw [f_M_stuck_8, qbd (mg_nodes hR.wh I.1.1)]
    dsimp only
    rw [if_neg (by omega)]; exact sA_s
theorem ms_stuck (hR : RM w S) (I : IV S) : kT (f_M_stuck w) (fun r => FO1 w r.2) := by
  unfold f_M_stuck
  refine kT_bind (ml_lays hR I) (fun w' hw => ?_)
  obtain ⟨y, e⟩ := ml_stuck8 (hR.fo hw) I
  exact ⟨_, e, hw⟩
theorem ms_dead (hR : RM w S) (I : IV S) : kT (f_M_dead w) (fun r => FO1 w r.2) := by
  unfold f_M_dead
  rw [qld_ok (by decide) (by decide), qld_ok (by decide) (by decide)]
  refine kT_if (fun _ => kT_some FO1.rfl') (fun _ => ?_)
  refine kT_bind (ms_stuck hR I) (fun r hr => ?_)
  rw [qld_ok (by decide) (by decide), qld_ok (by decide) (by decide)]
  exact kT_if (fun _ => kT_some hr) (fun _ => kT_some hr)
theorem ms_goesOn (hR : RM w S) (I : IV S) : kT (f_M_goesOn p w) (fun r => FO1 w r.2) := by
  have hc := I.1.2.2.2.2.2.2.1
  have hN := gN I.1.1
  unfold f_M_goesOn
  refine kT_eq (m_isPacket hR hc) ?_
  dsimp only
  rw [bi_if]
  refine kT_if (fun c => ?_) (fun _ => kT_some FO1.rfl')
  have hp := (I.2.1.1 p c.1 c.2).1.2.2
  refine kT_eq (mp_of hR I c.1 c.2 (f := 13) (by decide) (by decide) (by decide)) (kT_if (fun _ => ?_) (fun _ => kT_some FO1.rfl'))
  refine kT_eq (mp_of hR I c.1 c.2 (f := 10) (by decide) (by decide) (by decide)) ?_
  refine kC_loop (σ := Unit) (N := 9) (L := fun m y _ w' => f_M_goesOn_30 m p (S 10 p) y w') (J := fun _ w' => w' = w) (fun m y s w' y0 y1 hJ ih => ?_) (fun m s w' hJ => ?_) (by omega) (by omega) () rfl
  · subst hJ
    rw [f_M_goesOn_30, if_pos y1, qbd (m_firstOf hR I.w.2.2.2 hp.1 (by omega) y0 y1)]
    dsimp only
    rw [w32_ok (z := y + 1) (by omega) (by omega)]
    refine kT_if (fun _ => ?_) (fun _ => ih () _ rfl)
    unfold f_M_goesOn_49
    refine kT_bind (ml_lays hR I) (fun w2 hw => ?_)
    refine kT_eq (m_slot hp.1 (by omega) y0 y1) ?_
    refine kT_ld (by dsimp only; omega) (by dsimp only; omega) ?_
    exact kT_if (fun _ => kT_some hw) (fun _ => kT_some hw)
  · subst hJ
    rw [f_M_goesOn_30, if_neg (by decide)]
    exact kT_some FO1.rfl'
end ML
