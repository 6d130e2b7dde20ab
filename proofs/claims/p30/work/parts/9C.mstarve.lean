/-! one ring alone (the reference): counted, starving -/
def FAl (w w' : qMem) : Prop := (∀ k : Nat, k ≠ 88 → (k < 95 ∨ k = 99 ∨ 101 < k) → w' k = w k) ∧ ∀ j, j ≠ 10 → j ≠ 11 → j ≠ 12 → j ≠ 13 → j ≠ 14 → j ≠ 16 → j ≠ 19 → j ≠ 24 → j ≠ 25 → w' 88 j = w 88 j
/-- when all states are found -/
def mG (n e g K N : Int) (w0 w : qMem) : Prop := LM n e g K w ∧ mF N w ∧ FAl w0 w
def goN (w : qMem) (k : Int) : Int := if w 100 k = 0 then 1 else 0
def goS (w : qMem) : Int := smN (goN w) 10240
section MC
variable {w w' w0 w2 : qMem} {n e g K N k x y l s v b p c : Int} {i j : Nat}
theorem FAl.rfl' : FAl w w := ⟨fun _ _ _ => rfl, fun _ _ _ _ _ _ _ _ _ _ => rfl⟩
theorem FAl.tr (h : FAl w w') (h2 : FAl w' w2) : FAl w w2 := ⟨fun k a b => (h2.1 k a b).trans (h.1 k a b), fun j a b c d e f g h' i => (h2.2 j a b c d e f g h' i).trans (h.2 j a b c d e f g h' i)⟩
theorem FAl.sr (h : FSr w w') : FAl w w' := ⟨fun k a b => h.1 k a (by omega) (by omega) (by omega) (by omega) (by omega), fun j _ _ _ _ _ a b c d => h.2 j a b c d⟩
theorem FAl.wr : FAl w (qud w 100 x v) := ⟨fun k a b => qud_row (by omega), fun j _ _ _ _ _ _ _ _ _ => qud_nk (by omega)⟩
theorem FAl.w88 (hx : x = 10 ∨ x = 11 ∨ x = 12 ∨ x = 13 ∨ x = 14) : FAl w (qud w 88 x v) := ⟨fun k a _ => qud_row a, fun j a b c d e _ _ _ _ => qud_ni (by omega)⟩
theorem mG.af (h : mG n e g K N w0 w) (hf : FAf w w') : mG n e g K N w0 w' := ⟨h.1.af hf, h.2.1.af hf, h.2.2.tr (FAl.sr (FSr.af hf))⟩
theorem mG.wr (h : mG n e g K N w0 w) : mG n e g K N w0 (qud w 100 x v) := by
  have e : ∀ k : Nat, k ≠ 100 → qud w 100 x v k = w k := fun k hk => qud_row hk
  refine ⟨h.1.co (fun j _ _ _ _ => by rw [e 88 (by omega)]), h.2.1.co (by rw [e 88 (by omega)]) (e 96 (by omega)) (e 97 (by omega)), h.2.2.tr FAl.wr⟩
theorem me_isDead (hk : nek n e g K N) (hM : LM n e g K w) (s0 : 0 ≤ s) (s1 : s < N) : kT (f_M_isDeadState s w) (fun r => FAf w r.2) := by
  unfold f_M_isDeadState
  refine kT_bind (me_after hk hM s0 s1) (fun w1 h1 => ?_)
  refine kT_bind (me_opens hk h1.1.1 s0 s1) (fun w2 h2 => ?_)
  have f2 : FAf w w2 := h1.1.2.2.tr (FAf.op h2.2)
  refine kT_sA (me_packets hk (hM.af f2) (h2.1.d hk s0 s1)) (fun y => ?_)
  exact kT_if (fun _ => kT_some f2) (fun _ => kT_if (fun _ => kT_some f2) (fun _ => kT_some f2))
theorem me_leads (hk : nek n e g K N) (hM : LM n e g K w) (s0 : 0 ≤ s) (s1 : s < N) : kT (f_M_leadsOn s w) (fun r => FAf w r.2) := by
  have hb := hk.b
  unfold f_M_leadsOn
  refine kT_bind (me_after hk hM s0 s1) (fun w1 h1 => ?_)
  have hA24 : (0 ≤ w1 88 25 ∧ w1 88 25 ≤ w1 88 24) ∧ w1 88 24 ≤ 24 := h1.2.1
  refine kC_loop (σ := Unit) (N := w1 88 24) (L := fun m x _ u => f_M_leadsOn_7 m x u) (J := fun _ u => u = w1) (fun m x _ u x0 x1 hu ih => ?_) (fun m _ u hu => ?_) (by omega) (by omega) () rfl
  · subst hu
    have hi := h1.2.2 x x0 x1
    rw [f_M_leadsOn_7, if_pos x1, qld_ok x0 (by omega), qld_ok hi.1.1 (by omega), w32_ok (z := x + 1) (by omega) (by omega)]
    exact kT_if (fun _ => kT_some h1.1.2.2) (fun _ => ih () _ rfl)
  · subst hu
    rw [f_M_leadsOn_7, if_neg (by omega)]
    exact kT_some h1.1.2.2
theorem me_soonest (hk : nek n e g K N) (h : mG n e g K N w0 w) : kT (f_M_soonestDead w) (fun r => FAl w0 r.2) := by
  have hb := hk.b
  have main : ∀ (m : Nat) (x : Int) (w : qMem), 0 ≤ x → x ≤ 10240 → 10240 - x < m → mG n e g K N w0 w → kT (f_M_soonestDead_2 m x w) (fun r => FAl w0 r.2) := by
    intro m
    induction m with
    | zero => intro x w _ _ _ _; omega
    | succ m ih =>
      intro x w x0 x1 hm h
      have hle := h.2.1.le
      rw [f_M_soonestDead_2]
      refine kT_if (fun c => ?_) (fun _ => kT_some h.2.2)
      have ho := (h.2.1.2.1 x x0 c).1
      rw [qld_ok x0 (by omega), w32_ok (z := x + 1) (by omega) (by omega)]
      refine kT_bind (me_isDead hk h.1 ho.1 ho.2) (fun r hr => ?_)
      have h2 := h.af hr
      refine kT_if (fun _ => ih (x + 1) _ (by omega) (by omega) (by omega) h2) (fun _ => ?_)
      unfold f_M_soonestDead_23
      have e97 : r.2 97 = w 97 := hr.1 97 (by decide) (by decide) (by decide)
      rw [qld_ok x0 (by omega), e97, qld_ok ho.1 (by omega)]
      exact kT_some h2.2.2
  unfold f_M_soonestDead
  exact main qFU 0 w (by decide) (by decide) (qFU_gt (by decide)) h
theorem me_count (hk : nek n e g K N) (h : mG n e g K N w0 w) : kT (f_M_countOf x w) (fun r => FAl w0 r.2) := by
  have hb := hk.b
  have main : ∀ (m : Nat) (a c y : Int) (w : qMem), 0 ≤ y → y ≤ 10240 → 10240 - y < m → mG n e g K N w0 w → kT (f_M_countOf_7 m x a c y w) (fun r => FAl w0 r.2) := by
    intro m
    induction m with
    | zero => intro a c y w _ _ _ _; omega
    | succ m ih =>
      intro a c y w y0 y1 hm h
      have hle := h.2.1.le
      rw [f_M_countOf_7]
      refine kT_if (fun cy => ?_) (fun _ => ?_)
      · have ho := (h.2.1.2.1 y y0 cy).1
        rw [qld_ok y0 (by omega)]
        refine kT_bind (me_opens hk h.1 ho.1 ho.2) (fun w1 h1 => ?_)
        have h2 := h.af (FAf.op h1.2)
        have e97 : w1 97 = w 97 := h1.2.1 97 (by decide) (by decide)
        refine kT_sA (me_packets hk h2.1 (h1.1.d hk ho.1 ho.2)) (fun z => ?_)
        have h120 : ∀ s0 s1 s3 u, mG n e g K N w0 u → kT (f_M_countOf_120 (f_M_countOf_7 m) s0 s1 x s3 y u) (fun r => FAl w0 r.2) := by
          intro s0 s1 s3 u hu
          unfold f_M_countOf_120
          rw [w32_ok (z := y + 1) (by omega) (by omega)]
          exact ih _ _ (y + 1) u (by omega) (by omega) (by omega) hu
        refine kT_if (fun _ => kT_if (fun _ => h120 _ _ _ _ h2) (fun _ => h120 _ _ _ _ h2)) (fun _ => ?_)
        refine kT_if (fun _ => ?_) (fun _ => kT_if (fun _ => ?_) (fun _ => h120 _ _ _ _ h2))
        · dsimp only
          rw [qld_ok y0 (by omega), e97]
          refine kT_bind (me_isDead hk h2.1 ho.1 ho.2) (fun r hr => ?_)
          exact kT_if (fun _ => h120 _ _ _ _ (h2.af hr)) (fun _ => h120 _ _ _ _ (h2.af hr))
        · dsimp only
          rw [qld_ok y0 (by omega), e97, qld_ok ho.1 (by omega)]
          exact kT_if (fun _ => h120 _ _ _ _ h2) (fun _ => h120 _ _ _ _ h2)
      · unfold f_M_countOf_128
        exact kT_if (fun _ => kT_some h.2.2) (fun _ => kT_some h.2.2)
  unfold f_M_countOf
  exact main qFU 0 0 0 w (by decide) (by decide) (qFU_gt (by decide)) h
theorem goN_in : 0 ≤ goN w k ∧ goN w k ≤ 1 := by
  unfold goN
  split <;> omega
theorem goS_in : 0 ≤ goS w ∧ goS w ≤ 10240 := by
  have := smN_in (f := goN w) (a := 0) (b := 1) 10240 (fun _ _ => goN_in)
  unfold goS
  omega
theorem goS_set (s0 : 0 ≤ s) (s1 : s < 10240) (hz : w 100 s = 0) : goS (qud w 100 s 1) = goS w - 1 := by
  have hs : ((s.toNat : Nat) : Int) = s := by omega
  have u := smN_u (f := goN w) (f' := goN (qud w 100 s 1)) (i := s.toNat) (v := 0) 10240 (by omega) (fun k => by
    unfold goN
    rw [qud_if, hs]
    by_cases z : k = s
    · rw [if_pos z, if_pos z, if_neg (by decide)]
    · rw [if_neg z, if_neg z])
  have z1 : goN w (s.toNat : Nat) = 1 := by unfold goN; rw [hs, if_pos hz]
  unfold goS
  rw [u, z1]
  omega
theorem goS_co (h : w' 100 = w 100) : goS w' = goS w := by
  unfold goS goN
  rw [h]
theorem i_le1 {a b c d : Int} (h1 : a = b - 1) (h2 : b = c) (h3 : c ≤ d) : a ≤ d ∧ a < d := by omega
theorem me_starve80 {r72 : Int → Int → qMem → Option (Int × qMem)} {P : Int × qMem → Prop} (hk : nek n e g K N) (h : mG n e g K N w0 w) (K2 : ∀ a b w', mG n e g K N w0 w' → goS w' ≤ goS w → (b = 0 ∨ goS w' < goS w) → kT (r72 a b w') P) : kT (f_M_isStarving_80 r72 qFU x 0 0 w) P := by
  have hb := hk.b
  have main : ∀ (m : Nat) (a b y : Int) (u : qMem), 0 ≤ y → y ≤ 10240 → 10240 - y < m → mG n e g K N w0 u → goS u ≤ goS w → (b = 0 ∨ goS u < goS w) → kT (f_M_isStarving_80 r72 m a b y u) P := by
    intro m
    induction m with
    | zero => intro a b y u _ _ _ _ _ _; omega
    | succ m ih =>
      intro a b y u y0 y1 hm h hg hbz
      have hle := h.2.1.le
      rw [f_M_isStarving_80]
      refine kT_if (fun cy => ?_) (fun _ => K2 a b u h hg hbz)
      have ho := (h.2.1.2.1 y y0 cy).1
      rw [qld_ok y0 (by omega), qld_ok ho.1 (by omega), w32_ok (z := y + 1) (by omega) (by omega)]
      refine kT_if (fun cz => ?_) (fun _ => ih _ _ (y + 1) u (by omega) (by omega) (by omega) h hg hbz)
      refine kT_bind (me_leads hk h.1 ho.1 ho.2) (fun r hr => ?_)
      have e100 : r.2 100 = u 100 := hr.1 100 (by decide) (by decide) (by decide)
      have eg := goS_co e100
      refine kT_if (fun _ => ?_) (fun _ => ih _ _ (y + 1) _ (by omega) (by omega) (by omega) (h.af hr) (by rw [eg]; exact hg) (by rw [eg]; exact hbz))
      rw [qstz_ok ho.1 (by omega) (Or.inr rfl)]
      have es := goS_set (w := r.2) ho.1 (by omega) (by rw [e100]; exact cz)
      exact ih _ _ (y + 1) _ (by omega) (by omega) (by omega) ((h.af hr).wr) (i_le1 es eg hg).1 (Or.inr (i_le1 es eg hg).2)
  exact main qFU x 0 0 w (by decide) (by decide) (qFU_gt (by decide)) h (Int.le_refl _) (Or.inl rfl)
theorem me_starving (hk : nek n e g K N) (h : mG n e g K N w0 w) : kT (f_M_isStarving w) (fun r => FAl w0 r.2) := by
  have hb := hk.b
  have h72 : ∀ (m : Nat) (a b : Int) (u : qMem), goS u + 2 ≤ m → mG n e g K N w0 u → kT (f_M_isStarving_72 m a b u) (fun r => FAl w0 r.2) := by
    have fin : ∀ a u, mG n e g K N w0 u → kT (f_M_isStarving_140 a u) (fun r => FAl w0 r.2) := by
      intro a u hu
      unfold f_M_isStarving_140
      exact kT_if (fun _ => kT_some hu.2.2) (fun _ => kT_some hu.2.2)
    intro m
    induction m with
    | zero =>
      intro a b u hm _
      have := goS_in (w := u)
      omega
    | succ m ih =>
      intro a b u hm hu
      have hgi := goS_in (w := u)
      rw [f_M_isStarving_72]
      refine kT_if (fun _ => fin a u hu) (fun _ => ?_)
      refine me_starve80 hk hu (fun a' b' w' h' hg hbz => ?_)
      rcases hbz with z | z
      · cases m with
        | zero => omega
        | succ m =>
          rw [f_M_isStarving_72, if_pos z]
          exact fin a' w' h'
      · exact ih a' b' w' (by omega) h'
  have main : ∀ (m : Nat) (a y : Int) (u : qMem), 0 ≤ y → y ≤ 10240 → 10240 - y < m → mG n e g K N w0 u → kT (f_M_isStarving_4 m a y u) (fun r => FAl w0 r.2) := by
    intro m
    induction m with
    | zero => intro a y u _ _ _ _; omega
    | succ m ih =>
      intro a y u y0 y1 hm hu
      have hle := hu.2.1.le
      rw [f_M_isStarving_4]
      refine kT_if (fun cy => ?_) (fun _ => ?_)
      · have ho := (hu.2.1.2.1 y y0 cy).1
        have h41 : ∀ v, v = 0 ∨ v = 1 → kT (f_M_isStarving_41 (f_M_isStarving_4 m) (u 97 y) v a y u) (fun r => FAl w0 r.2) := by
          intro v hv
          have h62 : ∀ z, kT (f_M_isStarving_62 (f_M_isStarving_4 m) a z y (qud u 100 (u 97 y) v)) (fun r => FAl w0 r.2) := by
            intro z
            unfold f_M_isStarving_62
            rw [w32_ok (z := y + 1) (by omega) (by omega)]
            exact ih _ (y + 1) _ (by omega) (by omega) (by omega) (hu.wr)
          unfold f_M_isStarving_41
          rw [qstz_ok ho.1 (by omega) hv, qld_ok y0 (by omega), qud_nk (show (97 : Nat) ≠ 100 by decide), qld_ok ho.1 (by omega)]
          exact kT_if (fun _ => h62 _) (fun _ => h62 _)
        rw [qld_ok y0 (by omega), qld_ok y0 (by omega), qld_ok ho.1 (by omega)]
        exact kT_if (fun _ => h41 1 (Or.inr rfl)) (fun _ => h41 0 (Or.inl rfl))
      · unfold f_M_isStarving_70
        have hgi := goS_in (w := u)
        exact h72 qFU a 1 u (by have : goS u + 1 < qFU := qFU_gt (by omega); omega) hu
  unfold f_M_isStarving
  exact main qFU 0 0 w (by decide) (by decide) (qFU_gt (by decide)) h
end MC
