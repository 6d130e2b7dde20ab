/-! one ring alone, the reference: starving, waits; asked -/
def slf (sc : Int → List Int) (dn : Int → Int) (X : Int → Prop) : Prop := ∀ a, X a → rCh sc a ∧ dn a = 1 ∧ ∃ b, inS (sc a) b ∧ X b
/-- flags f: those that stand have flag z; none of what supports itself is gone -/
def sT (sc : Int → List Int) (dn : Int → Int) (M : Int) (ks : Int → Int) (z : Int) (f : Int → Int) : Prop := (∀ i, 0 ≤ i → i < M → f (ks i) = z → dn (ks i) = 1) ∧ ∀ X, slf sc dn X → ∀ a, X a → f a = z
def ctz (M : Int) (ks : Int → Int) (z : Int) (f : Int → Int) : Int := cV (fun i => if f (ks i) = z then 1 else 0) M
/-- waits f: those of D are as they end up, when their packets have less than m + 1 to go, others when less than m -/
def wI (M : Int) (ks pot W : Int → Int) (D : Int → Prop) (m : Int) (f : Int → Int) : Prop := ∀ i, 0 ≤ i → i < M → (0 ≤ f (ks i) ∧ f (ks i) ≤ W (ks i)) ∧ (pot (ks i) < m ∨ (D i ∧ pot (ks i) < m + 1) → f (ks i) = W (ks i))
section AY
variable {sc pl : Int → List Int} {ks dp dn W f f' pf : Int → Int} {w w' w0 w1 w2 : qMem} {n e g K N M k x y l s v b p c r cnt t a z : Int} {i j m : Nat} {D D' : Int → Prop}
theorem ctz_in (M0 : 0 ≤ M) : 0 ≤ ctz M ks z f ∧ ctz M ks z f ≤ M := by
  have := smN_in (f := fun i => if f (ks i) = z then 1 else 0) (a := 0) (b := 1) M.toNat (fun i _ => by split <;> omega)
  rw [show ((M.toNat : Nat) : Int) = M by omega, Int.zero_mul, Int.one_mul] at this
  exact this
/-- one is taken away -/
theorem ctz_rm (hi : ∀ i t, 0 ≤ i → i < M → 0 ≤ t → t < M → ks i = ks t → i = t) (y0 : 0 ≤ y) (y1 : y < M) (hf : f (ks y) = z) (h' : ∀ a, f' a = if a = ks y then v else f a) (hv : v ≠ z) : ctz M ks z f' = ctz M ks z f - 1 := by
  have h1 := cV_u (f := fun i => if f (ks i) = z then (1 : Int) else 0) (g := fun t => if t = y then 0 else if f (ks t) = z then 1 else 0) (p := y) (v := 0) (x := M) y0 y1 (fun t => rfl)
  have h2 : ctz M ks z f' = cV (fun t => if t = y then 0 else if f (ks t) = z then 1 else 0) M := by
    unfold ctz
    refine cV_co (by omega) (fun t t0 t1 => ?_)
    rw [h']
    by_cases e : t = y
    · rw [if_pos e, e, if_pos rfl, if_neg hv]
    · rw [if_neg e, if_neg (fun q => e (hi t y t0 t1 y0 y1 q))]
  rw [h2, h1]
  unfold ctz
  rw [if_pos hf]
  omega
theorem sT.rm (h : sT sc dn M ks z f) (hs : ∀ b, inS (sc s) b → f b ≠ z) (h' : ∀ a, f' a = if a = s then v else f a) (hv : v ≠ z) : sT sc dn M ks z f' := by
  refine ⟨fun i i0 i1 hz => ?_, fun X hX a ha => ?_⟩
  · rw [h'] at hz
    by_cases e : ks i = s
    · rw [if_pos e] at hz
      exact absurd hz hv
    · rw [if_neg e] at hz
      exact h.1 i i0 i1 hz
  · rw [h']
    by_cases e : a = s
    · exfalso
      obtain ⟨-, -, b, hb, hXb⟩ := hX a ha
      rw [e] at hb
      exact hs b hb (h.2 X hX b hXb)
    · rw [if_neg e]
      exact h.2 X hX a ha
/-- what stands in the end supports itself -/
theorem sT.fin (B : SR sc M M 0 ks dp) (h : sT sc dn M ks z f) (hs : ∀ i, 0 ≤ i → i < M → f (ks i) = z → ∃ b, inS (sc (ks i)) b ∧ f b = z) : (0 < ctz M ks z f ∧ STV sc dn) ∨ (ctz M ks z f = 0 ∧ ¬ STV sc dn) := by
  have hM := B.1.1
  have hc := ctz_in (M := M) (ks := ks) (z := z) (f := f) (by omega)
  by_cases c : ctz M ks z f = 0
  · refine Or.inr ⟨c, fun ⟨X, ⟨a, ha⟩, hX⟩ => ?_⟩
    have hfa := h.2 X hX a ha
    obtain ⟨t, ⟨t0, t1⟩, et⟩ := B.sub (hX a ha).1
    rw [← et] at hfa
    have h1 := cV_u (f := fun i => if f (ks i) = z then (1 : Int) else 0) (g := fun i => if i = t then 0 else if f (ks i) = z then 1 else 0) (p := t) (v := 0) (x := M) t0 t1 (fun t => rfl)
    have h2 := smN_in (f := fun i => if i = t then 0 else if f (ks i) = z then (1 : Int) else 0) (a := 0) (b := 1) M.toNat (fun i _ => by
      split
      · omega
      · split <;> omega)
    rw [show ((M.toNat : Nat) : Int) = M by omega, Int.zero_mul] at h2
    have h3 : 0 ≤ cV (fun i => if i = t then 0 else if f (ks i) = z then (1 : Int) else 0) M := h2.1
    rw [if_pos hfa] at h1
    unfold ctz at c
    omega
  · refine Or.inl ⟨by omega, fun a => rCh sc a ∧ f a = z, ?_, fun a ⟨ha, hfa⟩ => ?_⟩
    · refine Classical.byContradiction fun q => c ?_
      refine cV_0f (fun i i0 i1 => ?_) (by omega)
      rw [if_neg (fun u => q ⟨ks i, B.1.2.2 i i0 i1, u⟩)]
    · obtain ⟨t, ⟨t0, t1⟩, et⟩ := B.sub ha
      obtain ⟨b, hb, hfb⟩ := hs t t0 t1 (by rw [et]; exact hfa)
      rw [et] at hb
      refine ⟨ha, ?_, b, hb, ha.st hb, hfb⟩
      rw [← et]
      exact h.1 t t0 t1 (by rw [et]; exact hfa)
theorem me_leadsV (hk : nek n e g K N) (hM : LM n e g K w) (h12 : w 88 12 = r) (hr : 0 ≤ r ∧ r ≤ 2) (s0 : 0 ≤ s) (s1 : s < N) : kT (f_M_leadsOn s w) (fun q => ((q.1 = 1 ∧ ∃ b, inS (scA n e g K r s) b ∧ w 100 b = 0) ∨ (q.1 = 0 ∧ ∀ b, inS (scA n e g K r s) b → w 100 b ≠ 0)) ∧ FAf w q.2) := by
  have hb := hk.b
  unfold f_M_leadsOn
  refine kT_bind (me_afterV0 hk hM h12 hr s0 s1) (fun w1 h1 => ?_)
  obtain ⟨⟨⟨m1, -, f1⟩, hL⟩, -⟩ := h1
  have hlen := scA_len (r := r) (s := s) hk
  have hsc := (sc_in hk hr s0 s1).1
  have e100 : w1 100 = w 100 := f1.1 100 (by decide) (by decide) (by decide)
  have h24 := hL.1
  refine kD_loop (σ := Unit) (N := w1 88 24) (L := fun m x _ u => f_M_leadsOn_7 m x u) (J := fun x _ u => u = w1 ∧ ∀ i : Nat, (i : Int) < x → i < (scA n e g K r s).length → w 100 ((scA n e g K r s).getD i 0) ≠ 0) (fun m x _ u x0 x1 hu ih => ?_) (fun m _ u hu => ?_) (by omega) (by omega) () ⟨rfl, fun i a _ => by omega⟩
  · obtain ⟨rfl, hno⟩ := hu
    have hxl : x.toNat < (scA n e g K r s).length := by omega
    have e101 : u 101 x = (scA n e g K r s).getD x.toNat 0 := by
      have := hL.2 x.toNat hxl
      rw [show ((x.toNat : Nat) : Int) = x by omega] at this
      exact this
    have hin := hsc _ ⟨x.toNat, hxl, rfl⟩
    rw [f_M_leadsOn_7, if_pos x1, qld_ok x0 (by omega), e101, qld_ok hin.1 (by omega), w32_ok (z := x + 1) (by omega) (by omega), e100]
    refine kT_if (fun c => kT_some ⟨Or.inl ⟨rfl, _, ⟨x.toNat, hxl, rfl⟩, c⟩, f1⟩) (fun c => ih () _ ⟨rfl, fun i i1 i2 => ?_⟩)
    by_cases z : i = x.toNat
    · rw [z]; exact c
    · exact hno i (by omega) i2
  · obtain ⟨rfl, hno⟩ := hu
    rw [f_M_leadsOn_7, if_neg (by omega)]
    refine kT_some ⟨Or.inr ⟨rfl, fun b hb => ?_⟩, f1⟩
    obtain ⟨i, hi, ei⟩ := hb
    rw [← ei]
    exact hno i (by omega) hi
theorem me_starveV (hk : nek n e g K N) (hr : 0 ≤ r ∧ r ≤ 2) (h : mFd n e g K N r M ks dp w) : kT (f_M_isStarving w) (fun q => (q.1 = 1 ∧ STV (scA n e g K r) (dnA n e g K r)) ∨ (q.1 = 0 ∧ ¬ STV (scA n e g K r) (dnA n e g K r))) := by
  have hb := hk.b
  have hle := h.2.1.le (by omega)
  have B := h.2.1.1
  have hM0 := B.1.1
  have hdj := B.1.2.1
  have h80 : ∀ (r72 : Int → Int → qMem → Option (Int × qMem)) (c0 : Int) (P : Int × qMem → Prop), (∀ a b u, mFd n e g K N r M ks dp u → sT (scA n e g K r) (dnA n e g K r) M ks 0 (u 100) → a = ctz M ks 0 (u 100) → (b = 0 ∨ (b ≠ 0 ∧ ctz M ks 0 (u 100) < c0)) → (b = 0 → ∀ i, 0 ≤ i → i < M → u 100 (ks i) = 0 → ∃ b, inS (scA n e g K r (ks i)) b ∧ u 100 b = 0) → kT (r72 a b u) P) → ∀ (m : Nat) (a b y : Int) (u : qMem), 0 ≤ y → y ≤ M → M - y < m → mFd n e g K N r M ks dp u → sT (scA n e g K r) (dnA n e g K r) M ks 0 (u 100) → a = ctz M ks 0 (u 100) → ctz M ks 0 (u 100) ≤ c0 → (b = 0 ∨ (b ≠ 0 ∧ ctz M ks 0 (u 100) < c0)) → (b = 0 → ∀ i, 0 ≤ i → i < y → u 100 (ks i) = 0 → ∃ b, inS (scA n e g K r (ks i)) b ∧ u 100 b = 0) → kT (f_M_isStarving_80 r72 m a b y u) P := by
    intro r72 c0 P K2 m
    induction m with
    | zero => intro a b y u _ _ _; omega
    | succ m ih =>
      intro a b y u y0 y1 hm hu hT ha hc0 hb0 hsup
      have h19 := hu.2.1.2.1
      have hci := ctz_in (M := M) (ks := ks) (z := 0) (f := u 100) (by omega)
      rw [f_M_isStarving_80, h19]
      refine kT_if (fun c => ?_) (fun c => K2 a b u hu hT ha hb0 (fun z i i0 i1 => hsup z i i0 (by omega)))
      have ho := hu.2.1.2.2.1 y y0 c
      rw [qld_ok y0 (by omega), ho.1, qld_ok ho.2.1 (by omega), w32_ok (z := y + 1) (by omega) (by omega)]
      refine kT_if (fun cz => ?_) (fun cz => ?_)
      · refine kT_bind (me_leadsV hk hu.1.1 hu.1.2 hr ho.2.1 ho.2.2) (fun q hq => ?_)
        obtain ⟨hq1, hf⟩ := hq
        have e100 : q.2 100 = u 100 := hf.1 100 (by decide) (by decide) (by decide)
        have g1 := hu.af hf
        rcases hq1 with ⟨z1, hlead⟩ | ⟨z1, hno⟩
        · rw [z1, if_neg (by decide)]
          refine ih a b (y + 1) q.2 (by omega) (by omega) (by omega) g1 (by rw [e100]; exact hT) (by rw [e100]; exact ha) (by rw [e100]; exact hc0) (by rw [e100]; exact hb0) (fun z i i0 i1 => ?_)
          rw [e100]
          by_cases u : i = y
          · rw [u]; exact fun _ => hlead
          · exact hsup z i i0 (by omega)
        · rw [z1, if_pos rfl, qstz_ok ho.2.1 (by omega) (Or.inr rfl), w32_ok (z := a + -1) (by omega) (by omega)]
          have hup : ∀ a, qud q.2 100 (ks y) 1 100 a = if a = ks y then 1 else u 100 a := fun a => by rw [qud_if, e100]
          have hct := ctz_rm (f := u 100) (f' := qud q.2 100 (ks y) 1 100) (v := 1) hdj y0 c cz hup (by decide)
          refine ih (a + -1) 1 (y + 1) _ (by omega) (by omega) (by omega) (g1.wr (Or.inr rfl)) (hT.rm hno hup (by decide)) (by rw [hct, ha]; omega) (by rw [hct]; omega) (Or.inr ⟨by decide, by rw [hct]; omega⟩) (fun z => absurd z (by decide))
      · refine ih a b (y + 1) u (by omega) (by omega) (by omega) hu hT ha hc0 hb0 (fun z i i0 i1 hz => ?_)
        by_cases v : i = y
        · rw [v] at hz
          exact absurd hz cz
        · exact hsup z i i0 (by omega) hz
  have h72 : ∀ (m : Nat) (a b : Int) (u : qMem), ctz M ks 0 (u 100) + 2 ≤ m → mFd n e g K N r M ks dp u → sT (scA n e g K r) (dnA n e g K r) M ks 0 (u 100) → a = ctz M ks 0 (u 100) → (b = 0 → ∀ i, 0 ≤ i → i < M → u 100 (ks i) = 0 → ∃ b, inS (scA n e g K r (ks i)) b ∧ u 100 b = 0) → kT (f_M_isStarving_72 m a b u) (fun q => (q.1 = 1 ∧ STV (scA n e g K r) (dnA n e g K r)) ∨ (q.1 = 0 ∧ ¬ STV (scA n e g K r) (dnA n e g K r))) := by
    have fin : ∀ a u, a = ctz M ks 0 (u 100) → sT (scA n e g K r) (dnA n e g K r) M ks 0 (u 100) → (∀ i, 0 ≤ i → i < M → u 100 (ks i) = 0 → ∃ b, inS (scA n e g K r (ks i)) b ∧ u 100 b = 0) → kT (f_M_isStarving_140 a u) (fun q => (q.1 = 1 ∧ STV (scA n e g K r) (dnA n e g K r)) ∨ (q.1 = 0 ∧ ¬ STV (scA n e g K r) (dnA n e g K r))) := by
      intro a u ha hT hs
      have he := hT.fin B hs
      unfold f_M_isStarving_140
      refine kT_if (fun c => kT_some (Or.inr ⟨rfl, ?_⟩)) (fun c => kT_some (Or.inl ⟨rfl, ?_⟩))
      · rcases he with z | z
        · omega
        · exact z.2
      · rcases he with z | z
        · exact z.2
        · omega
    intro m
    induction m with
    | zero =>
      intro a b u hm _ _ _ _
      have := ctz_in (M := M) (ks := ks) (z := 0) (f := u 100) (by omega)
      omega
    | succ m ih =>
      intro a b u hm hu hT ha hsup
      rw [f_M_isStarving_72]
      refine kT_if (fun c => fin a u ha hT (hsup c)) (fun c => ?_)
      refine h80 (f_M_isStarving_72 m) (ctz M ks 0 (u 100)) _ (fun a' b' u' hu' hT' ha' hb' hs' => ?_) qFU a 0 0 u (by decide) (by omega) (qFU_gt (by omega)) hu hT ha (Int.le_refl _) (Or.inl rfl) (fun _ i a b => by omega)
      rcases hb' with z | z
      · have := ctz_in (M := M) (ks := ks) (z := 0) (f := u 100) (by omega)
        cases m with
        | zero => omega
        | succ m =>
          rw [f_M_isStarving_72, if_pos z]
          exact fin a' u' ha' hT' (hs' z)
      · exact ih a' b' u' (by omega) hu' hT' ha' hs'
  have main : ∀ (m : Nat) (a y : Int) (u : qMem), 0 ≤ y → y ≤ M → M - y < m → mFd n e g K N r M ks dp u → a = cV (fun i => if dnA n e g K r (ks i) = 1 then 1 else 0) y → (∀ i, 0 ≤ i → i < y → u 100 (ks i) = if dnA n e g K r (ks i) = 1 then 0 else 1) → kT (f_M_isStarving_4 m a y u) (fun q => (q.1 = 1 ∧ STV (scA n e g K r) (dnA n e g K r)) ∨ (q.1 = 0 ∧ ¬ STV (scA n e g K r) (dnA n e g K r))) := by
    intro m
    induction m with
    | zero => intro a y u _ _ _; omega
    | succ m ih =>
      intro a y u y0 y1 hm hu ha hfl
      have h19 := hu.2.1.2.1
      rw [f_M_isStarving_4, h19]
      refine kT_if (fun c => ?_) (fun c => ?_)
      · have ho := hu.2.1.2.2.1 y y0 c
        have hd01 := dnA_01 (n := n) (e := e) (g := g) (K := K) (r := r) (s := ks y)
        have hcb := smN_in (f := fun i => if dnA n e g K r (ks i) = 1 then 1 else 0) (a := 0) (b := 1) y.toNat (fun i _ => by split <;> omega)
        rw [show ((y.toNat : Nat) : Int) = y by omega, Int.zero_mul] at hcb
        have hcb' : 0 ≤ cV (fun i => if dnA n e g K r (ks i) = 1 then 1 else 0) y ∧ cV (fun i => if dnA n e g K r (ks i) = 1 then 1 else 0) y ≤ 1 * y := hcb
        have h41 : ∀ z, (z = 0 ∨ z = 1) → z = (if dnA n e g K r (ks y) = 1 then 0 else 1) → kT (f_M_isStarving_41 (f_M_isStarving_4 m) (ks y) z a y u) (fun q => (q.1 = 1 ∧ STV (scA n e g K r) (dnA n e g K r)) ∨ (q.1 = 0 ∧ ¬ STV (scA n e g K r) (dnA n e g K r))) := by
          intro z hz1 hz
          have g1 := hu.wr (q := 100) (x := ks y) (v := z) (Or.inr rfl)
          have h62 : ∀ d, d = (if dnA n e g K r (ks y) = 1 then 1 else 0) → kT (f_M_isStarving_62 (f_M_isStarving_4 m) a d y (qud u 100 (ks y) z)) (fun q => (q.1 = 1 ∧ STV (scA n e g K r) (dnA n e g K r)) ∨ (q.1 = 0 ∧ ¬ STV (scA n e g K r) (dnA n e g K r))) := by
            intro d hd
            have hd1 : 0 ≤ d ∧ d ≤ 1 := by
              rw [hd]
              split <;> omega
            unfold f_M_isStarving_62
            rw [w32_ok (z := y + 1) (by omega) (by omega), w32_ok (z := a + d) (by omega) (by omega)]
            refine ih _ (y + 1) _ (by omega) (by omega) (by omega) g1 (by rw [cV_s y0, ha, hd]) (fun i i0 i1 => ?_)
            rw [qud_if]
            by_cases u : i = y
            · rw [u, if_pos rfl, hz]
            · rw [if_neg (fun q => u (hdj i y i0 (by omega) y0 c q))]
              exact hfl i i0 (by omega)
          unfold f_M_isStarving_41
          rw [qstz_ok ho.2.1 (by omega) hz1, qld_ok y0 (by omega), (g1.2.1.2.2.1 y y0 c).1, qld_ok ho.2.1 (by omega), g1.2.2 y y0 c]
          refine kT_if (fun q => h62 0 ?_) (fun q => h62 1 ?_)
          · rw [if_neg (by omega)]
          · rw [if_pos (by omega)]
        rw [qld_ok y0 (by omega), qld_ok y0 (by omega), ho.1, qld_ok ho.2.1 (by omega), hu.2.2 y y0 c]
        refine kT_if (fun q => h41 1 (Or.inr rfl) ?_) (fun q => h41 0 (Or.inl rfl) ?_)
        · rw [if_neg (by omega)]
        · rw [if_pos (by omega)]
      · have hyM : y = M := by omega
        subst hyM
        have hc := ctz_in (M := y) (ks := ks) (z := 0) (f := u 100) (by omega)
        unfold f_M_isStarving_70
        refine h72 qFU a 1 u (by have : ctz y ks 0 (u 100) + 1 < qFU := qFU_gt (by omega); omega) hu ⟨fun i i0 i1 hz => ?_, fun X hX a ha => ?_⟩ ?_ (fun z => absurd z (by decide))
        · have := hfl i i0 i1
          by_cases d : dnA n e g K r (ks i) = 1
          · exact d
          · rw [if_neg d] at this
            omega
        · obtain ⟨t, ⟨t0, t1⟩, et⟩ := B.sub (hX a ha).1
          have := hfl t t0 t1
          rw [et, if_pos (hX a ha).2.1] at this
          exact this
        · rw [ha]
          unfold ctz
          refine cV_co (by omega) (fun i i0 i1 => ?_)
          have hfi := hfl i i0 i1
          by_cases d : dnA n e g K r (ks i) = 1
          · rw [if_pos d] at hfi ⊢
            rw [if_pos hfi]
          · rw [if_neg d] at hfi ⊢
            rw [if_neg (by omega)]
  unfold f_M_isStarving
  exact main qFU 0 0 w (by decide) (by omega) (qFU_gt (by omega)) h rfl (fun i a b => by omega)
/-! waits -/
theorem wI.mn (h : wI M ks pf W D x f) (hD : ∀ i, D' i → D i) : wI M ks pf W D' x f := fun i i0 i1 => ⟨(h i i0 i1).1, fun z => (h i i0 i1).2 (z.imp id (fun q => ⟨hD i q.1, q.2⟩))⟩
/-- a longer wait is written -/
theorem wI.up (h : wI M ks pf W D x f) (hi : ∀ i t, 0 ≤ i → i < M → 0 ≤ t → t < M → ks i = ks t → i = t) (y0 : 0 ≤ y) (y1 : y < M) (h' : ∀ a, f' a = if a = ks y then v else f a) (hv : 0 ≤ v ∧ v ≤ W (ks y)) (hx : pf (ks y) < x + 1 → v = W (ks y)) : wI M ks pf W (fun i => D i ∨ i = y) x f' := fun i i0 i1 => by
  rw [h']
  by_cases e : i = y
  · rw [e, if_pos rfl]
    exact ⟨hv, fun z => hx (by omega)⟩
  · rw [if_neg (fun q => e (hi i y i0 i1 y0 y1 q))]
    refine ⟨(h i i0 i1).1, fun z => (h i i0 i1).2 ?_⟩
    rcases z with z | ⟨z | z, z2⟩
    · exact Or.inl z
    · exact Or.inr ⟨z, z2⟩
    · exact absurd z e
theorem Mx_up (h : Mx 0 (fun i => f (ks i)) M x) (hi : ∀ i t, 0 ≤ i → i < M → 0 ≤ t → t < M → ks i = ks t → i = t) (y0 : 0 ≤ y) (y1 : y < M) (h' : ∀ a, f' a = if a = ks y then v else f a) (hv : f (ks y) ≤ v) : Mx 0 (fun i => f' (ks i)) M (if x < v then v else x) := by
  obtain ⟨h0, h1, h2⟩ := h
  have e' : ∀ i, 0 ≤ i → i < M → f' (ks i) = if i = y then v else f (ks i) := fun i i0 i1 => by
    rw [h']
    by_cases e : i = y
    · rw [if_pos e, e, if_pos rfl]
    · rw [if_neg e, if_neg (fun q => e (hi i y i0 i1 y0 y1 q))]
  refine ⟨by split <;> omega, fun i i0 i1 => ?_, ?_⟩
  · dsimp only
    rw [e' i i0 i1]
    have := h1 i i0 i1
    dsimp only at this
    split <;> split <;> omega
  · by_cases c : x < v
    · rw [if_pos c]
      refine Or.inr ⟨y, ⟨y0, y1⟩, ?_⟩
      dsimp only
      rw [e' y y0 y1, if_pos rfl]
    · rw [if_neg c]
      rcases h2 with z | ⟨i, ⟨i0, i1⟩, z⟩
      · exact Or.inl z
      · refine Or.inr ⟨i, ⟨i0, i1⟩, ?_⟩
        dsimp only at z ⊢
        rw [e' i i0 i1]
        by_cases u : i = y
        · rw [u] at z
          rw [if_pos u]
          omega
        · rw [if_neg u]
          exact z
/-- no more changes: all waits are as they end up -/
theorem wI.all (h0 : wI M ks pf W (fun _ => False) 0 f) (hs : ∀ m, wI M ks pf W (fun _ => False) m f → wI M ks pf W (fun _ => False) (m + 1) f) : ∀ m : Nat, wI M ks pf W (fun _ => False) m f := by
  intro m
  induction m with
  | zero => exact h0
  | succ m ih =>
    have := hs m ih
    rw [show ((m + 1 : Nat) : Int) = (m : Int) + 1 by omega]
    exact this
theorem wI.ex (h : wI M ks pf W (fun _ => False) x f) (hp : ∀ i, 0 ≤ i → i < M → pf (ks i) < x) : ∀ i, 0 ≤ i → i < M → f (ks i) = W (ks i) := fun i i0 i1 => (h i i0 i1).2 (Or.inl (hp i i0 i1))
/-- what one's wait is found to be -/
theorem wI.new {L : List Int} (h : wI M ks pf W D x f) (hb : ∀ b, inS L b → fnd M ks b ∧ pf b < p) (hw : isWm f L v) (hW : isWm W L a) : v ≤ a ∧ (p < x + 1 → v = a) := by
  refine ⟨hw.le hW (fun b hb' => ?_), fun hp => hw.un hW (fun b hb' => ?_)⟩
  · obtain ⟨⟨t, ⟨t0, t1⟩, et⟩, -⟩ := hb b hb'
    rw [← et]
    exact (h t t0 t1).1.2
  · obtain ⟨⟨t, ⟨t0, t1⟩, et⟩, hlt⟩ := hb b hb'
    rw [← et] at hlt ⊢
    exact (h t t0 t1).2 (Or.inl (by omega))
theorem me_waitV (hk : nek n e g K N) (hr : 0 ≤ r ∧ r ≤ 2) (h : mFd n e g K N r M ks dp w) : kT (f_M_longestWait w) (fun q => Mx 0 (fun i => Wst (plA n e g K r) (dnA n e g K r) (ks i)) M q.1) := by
  have hb := hk.b
  have hle := h.2.1.le (by omega)
  have B := h.2.1.1
  have hM0 := B.1.1
  have hdj := B.1.2.1
  have hps := pot_sc (r := r) hk hr
  have hp24 := pot_24 (r := r) hk hr
  have hWok := Wst_ok (dn := dnA n e g K r) (pl_sc (n := n) (e := e) (g := g) (K := K) (r := r)) hps hp24
  have hW24 := Wst_24 (dn := dnA n e g K r) (pl_sc (n := n) (e := e) (g := g) (K := K) (r := r)) hps hp24
  generalize hWd : Wst (plA n e g K r) (dnA n e g K r) = W at *
  have hWb : ∀ i, 0 ≤ i → i < M → 0 ≤ W (ks i) ∧ W (ks i) ≤ 24 := fun i i0 i1 => by
    have hR := B.1.2.2 i i0 i1
    have h1 := hp24 _ hR
    have h2 := hW24 25 (ks i) hR (by omega)
    omega
  have hpb : ∀ i, 0 ≤ i → i < M → 0 ≤ pot g K n (ks i) ∧ pot g K n (ks i) ≤ 24 := fun i i0 i1 => ⟨(hps _ (B.1.2.2 i i0 i1)).1, hp24 _ (B.1.2.2 i i0 i1)⟩
  -- a sweep
  have h40 : ∀ (r32 : Int → Int → qMem → Option (Int × qMem)) (w0 : qMem) (P : Int × qMem → Prop), (∀ a b u, mFd n e g K N r M ks dp u → Mx 0 (fun i => u 99 (ks i)) M a → (∀ m, wI M ks (pot g K n) W (fun _ => False) m (w0 99) → wI M ks (pot g K n) W (fun _ => False) (m + 1) (u 99)) → (b = 0 → ∀ i, 0 ≤ i → i < M → u 99 (ks i) = w0 99 (ks i)) → (wI M ks (pot g K n) W (fun _ => False) 25 (w0 99) → b = 0) → kT (r32 a b u) P) → wI M ks (pot g K n) W (fun _ => False) 0 (w0 99) → ∀ (m : Nat) (a b y : Int) (u : qMem), 0 ≤ y → y ≤ M → M - y < m → mFd n e g K N r M ks dp u → Mx 0 (fun i => u 99 (ks i)) M a → (∀ m, wI M ks (pot g K n) W (fun _ => False) m (w0 99) → wI M ks (pot g K n) W (fun i => i < y) m (u 99)) → (b = 0 → ∀ i, 0 ≤ i → i < M → u 99 (ks i) = w0 99 (ks i)) → (wI M ks (pot g K n) W (fun _ => False) 25 (w0 99) → b = 0) → kT (f_M_longestWait_40 r32 m a b y u) P := by
    intro r32 w0 P K2 hw0 m
    induction m with
    | zero => intro a b y u _ _ _; omega
    | succ m ih =>
      intro a b y u y0 y1 hm hu hmx hlev hb0 h25
      have h19 := hu.2.1.2.1
      have hI0 := hlev 0 hw0
      rw [f_M_longestWait_40, h19]
      refine kT_if (fun c => ?_) (fun c => K2 a b u hu hmx (fun m hm i i0 i1 => ⟨(hlev m hm i i0 i1).1, fun z => (hlev m hm i i0 i1).2 ?_⟩) hb0 h25)
      · have ho := hu.2.1.2.2.1 y y0 c
        have hRy := B.1.2.2 y y0 c
        rw [qld_ok y0 (by omega), ho.1, qld_ok ho.2.1 (by omega), hu.2.2 y y0 c, w32_ok (z := y + 1) (by omega) (by omega)]
        have hnote := (hI0 y y0 c).1
        have hWy := hWb y y0 c
        refine kT_if (fun cd => ?_) (fun cd => ?_)
        · have hW0 : W (ks y) = 0 := (hWok _ hRy).1 (by omega)
          refine ih a b (y + 1) u (by omega) (by omega) (by omega) hu hmx (fun m hm i i0 i1 => ⟨(hlev m hm i i0 i1).1, fun z => ?_⟩) hb0 h25
          by_cases e : i = y
          · rw [e]; omega
          · exact (hlev m hm i i0 i1).2 (by omega)
        · have hd1 : dnA n e g K r (ks y) = 1 := by
            have := dnA_01 (n := n) (e := e) (g := g) (K := K) (r := r) (s := ks y)
            omega
          have hWm := (hWok _ hRy).2 hd1
          have hpl : ∀ b, inS (plA n e g K r (ks y)) b → fnd M ks b ∧ pot g K n b < pot g K n (ks y) := fun b hb => ⟨B.sub (hRy.st (pl_sc _ _ hb)), (hps _ hRy).2 b hb⟩
          refine kT_bind (me_afterV0 hk hu.1.1 hu.1.2 hr ho.2.1 ho.2.2) (fun w1 h1 => ?_)
          obtain ⟨⟨⟨m1, -, f1⟩, hL⟩, e25⟩ := h1
          have g1 := hu.af f1
          have hlen := scA_len (r := r) (s := ks y) hk
          have h24 := hL.1
          have e99 : w1 99 = u 99 := f1.1 99 (by decide) (by decide) (by decide)
          rw [qld_ok ho.2.1 (by omega), e99]
          have hfin : ∀ x5, u 99 (ks y) ≤ x5 → (∀ b, inS (plA n e g K r (ks y)) b → u 99 b + 1 ≤ x5) → (x5 = u 99 (ks y) ∨ ∃ b, inS (plA n e g K r (ks y)) b ∧ x5 = u 99 b + 1) → kT (f_M_longestWait_123 r32 (f_M_longestWait_40 r32 m) a b y (ks y) x5 w1) P := by
            intro x5 c1 c2 c3
            have hwm := wmx_ok (f := u 99) (L := plA n e g K r (ks y))
            generalize wmx (u 99) (plA n e g K r (ks y)) = vm at hwm
            have hx5 : x5 = if u 99 (ks y) < vm then vm else u 99 (ks y) := by
              obtain ⟨d0, d1, d2⟩ := hwm
              have q1 : vm ≤ x5 := by
                rcases d2 with z | ⟨b, hb, z⟩
                · omega
                · have := c2 b hb
                  omega
              rcases c3 with z | ⟨b, hb, z⟩
              · rw [if_neg (by omega)]; exact z
              · have := d1 b hb
                split <;> omega
            have hle5 : x5 ≤ W (ks y) := by
              have := (hI0.new hpl hwm hWm).1
              rw [hx5]
              split <;> omega
            have hex : ∀ m, wI M ks (pot g K n) W (fun _ => False) m (w0 99) → pot g K n (ks y) < m + 1 → x5 = W (ks y) := fun m hm hp => by
              have := ((hlev m hm).new hpl hwm hWm).2 hp
              rw [hx5]
              split <;> omega
            have hup : ∀ a, qud w1 99 (ks y) x5 99 a = if a = ks y then x5 else u 99 a := fun a => by rw [qud_if, e99]
            have h144 : ∀ z, (z = 0 → b = 0 ∧ x5 = u 99 (ks y)) → (z ≠ 0 → wI M ks (pot g K n) W (fun _ => False) 25 (w0 99) → False) → kT (f_M_longestWait_144 r32 (f_M_longestWait_40 r32 m) z a y (ks y) x5 w1) P := by
              intro z hz hz2
              unfold f_M_longestWait_144
              rw [qst_ok ho.2.1 (by omega), w32_ok (z := y + 1) (by omega) (by omega)]
              refine ih _ z (y + 1) _ (by omega) (by omega) (by omega) (g1.wr (Or.inl rfl)) (Mx_up hmx hdj y0 c hup c1) (fun m hm => ?_) (fun q i i0 i1 => ?_) (fun q => Decidable.by_contra fun v => hz2 v q)
              · exact ((hlev m hm).up hdj y0 c hup ⟨by omega, hle5⟩ (hex m hm)).mn (fun i hi => by omega)
              · rw [hup]
                by_cases v : ks i = ks y
                · rw [if_pos v, (hz q).2, ← v]
                  exact hb0 (hz q).1 i i0 i1
                · rw [if_neg v]
                  exact hb0 (hz q).1 i i0 i1
            have h25' : wI M ks (pot g K n) W (fun _ => False) 25 (w0 99) → x5 = u 99 (ks y) := fun q => by
              have hpy := hpb y y0 c
              have e1 := hex 25 q (by omega)
              have e2 := (hlev 25 q y y0 c).2 (Or.inl (by omega))
              rw [e1, e2]
            unfold f_M_longestWait_123
            refine kT_if (fun cb => ?_) (fun cb => h144 1 (fun q => absurd q (by decide)) (fun _ q => cb (h25 q)))
            rw [qld_ok ho.2.1 (by omega), e99]
            exact kT_if (fun cx => h144 0 (fun _ => ⟨cb, cx⟩) (fun q => absurd rfl q)) (fun cx => h144 1 (fun q => absurd q (by decide)) (fun _ q => cx (h25' q)))
          refine kD_loop (σ := Int) (N := w1 88 25) (L := fun m' z x5 u' => f_M_longestWait_87 r32 (f_M_longestWait_40 r32 m) m' a b y (ks y) x5 z u') (J := fun z x5 u' => u' = w1 ∧ u 99 (ks y) ≤ x5 ∧ (∀ i : Nat, (i : Int) < z → i < (plA n e g K r (ks y)).length → u 99 ((plA n e g K r (ks y)).getD i 0) + 1 ≤ x5) ∧ (x5 = u 99 (ks y) ∨ ∃ b, inS (plA n e g K r (ks y)) b ∧ x5 = u 99 b + 1)) (fun m' z x5 u' z0 z1 hJ ih' => ?_) (fun m' x5 u' hJ => ?_) (by omega) (by omega) (u 99 (ks y)) ⟨rfl, Int.le_refl _, fun i a _ => by omega, Or.inl rfl⟩
          · obtain ⟨rfl, j1, j2, j3⟩ := hJ
            have hzl : z.toNat < (plA n e g K r (ks y)).length := by omega
            have e101 : u' 101 z = (plA n e g K r (ks y)).getD z.toNat 0 := by
              have := hL.2 z.toNat (by omega)
              rw [show ((z.toNat : Nat) : Int) = z by omega] at this
              have e1 : (scA n e g K r (ks y)).getD z.toNat 0 = (plA n e g K r (ks y)).getD z.toNat 0 := gd_l _ _ hzl
              rw [this]
              exact e1
            have hinz : inS (plA n e g K r (ks y)) ((plA n e g K r (ks y)).getD z.toNat 0) := ⟨z.toNat, hzl, rfl⟩
            have hbz := rCh_in hk hr (hRy.st (pl_sc _ _ hinz))
            have hvb : 0 ≤ u 99 ((plA n e g K r (ks y)).getD z.toNat 0) ∧ u 99 ((plA n e g K r (ks y)).getD z.toNat 0) ≤ 24 := by
              obtain ⟨t, ⟨t0, t1⟩, et⟩ := (hpl _ hinz).1
              rw [← et]
              have := (hI0 t t0 t1).1
              have := hWb t t0 t1
              omega
            rw [f_M_longestWait_87, if_pos z1, qld_ok z0 (by omega), e101, qld_ok hbz.1 (by omega), e99, w32_ok (z := z + 1) (by omega) (by omega), w32_ok (z := 1 + u 99 ((plA n e g K r (ks y)).getD z.toNat 0)) (by omega) (by omega)]
            refine ih' _ _ ⟨rfl, by split <;> omega, fun i i1 i2 => ?_, ?_⟩
            · by_cases v : i = z.toNat
              · rw [v]
                split <;> omega
              · have := j2 i (by omega) i2
                split <;> omega
            · by_cases v : x5 < 1 + u 99 ((plA n e g K r (ks y)).getD z.toNat 0)
              · rw [if_pos v]
                exact Or.inr ⟨_, hinz, by omega⟩
              · rw [if_neg v]
                exact j3
          · obtain ⟨rfl, j1, j2, j3⟩ := hJ
            rw [f_M_longestWait_87, if_neg (by omega)]
            refine hfin x5 j1 (fun b hb => ?_) j3
            obtain ⟨i, hi, ei⟩ := hb
            rw [← ei]
            exact j2 i (by omega) hi
      · have hyM : y = M := by omega
        rcases z with z | z
        · by_cases q : pot g K n (ks i) < m
          · exact Or.inl q
          · exact Or.inr ⟨by omega, by omega⟩
        · exact absurd z.1 id
  have h32 : ∀ (t : Nat) (m a b : Int) (u : qMem), 0 ≤ m → m ≤ 26 → 30 - m < t → mFd n e g K N r M ks dp u → Mx 0 (fun i => u 99 (ks i)) M a → wI M ks (pot g K n) W (fun _ => False) m (u 99) → (b = 0 → ∀ i, 0 ≤ i → i < M → u 99 (ks i) = W (ks i)) → (26 ≤ m → b = 0) → kT (f_M_longestWait_32 t a b u) (fun q => Mx 0 (fun i => W (ks i)) M q.1) := by
    have mx : ∀ (u : qMem) (a : Int), Mx 0 (fun i => u 99 (ks i)) M a → (∀ i, 0 ≤ i → i < M → u 99 (ks i) = W (ks i)) → Mx 0 (fun i => W (ks i)) M a := fun u a hmx he => by
      obtain ⟨q0, q1, q2⟩ := hmx
      refine ⟨q0, fun i i0 i1 => by dsimp only; rw [← he i i0 i1]; exact q1 i i0 i1, ?_⟩
      rcases q2 with z | ⟨i, ⟨i0, i1⟩, z⟩
      · exact Or.inl z
      · exact Or.inr ⟨i, ⟨i0, i1⟩, by dsimp only; rw [← he i i0 i1]; exact z⟩
    intro t
    induction t with
    | zero =>
      intro m a b u m0 m26 ht _ _ _ _ h26
      omega
    | succ t ih =>
      intro m a b u m0 m26 ht hu hmx hI hbz h26
      rw [f_M_longestWait_32]
      refine kT_if (fun c => kT_some (mx u a hmx (hbz c))) (fun c => ?_)
      have hm26 : m < 26 := Decidable.by_contra fun q => c (h26 (by omega))
      have hI0 : wI M ks (pot g K n) W (fun _ => False) 0 (u 99) := fun i i0 i1 => ⟨(hI i i0 i1).1, fun z => by
        have := (hps _ (B.1.2.2 i i0 i1)).1
        rcases z with z | z
        · omega
        · exact absurd z.1 id⟩
      refine h40 (f_M_longestWait_32 t) u _ (fun a' b' u' hu' hmx' hlev hb' h25 => ?_) hI0 qFU a 0 0 u (by decide) (by omega) (qFU_gt (by omega)) hu hmx (fun m hm i i0 i1 => ⟨(hm i i0 i1).1, fun z => (hm i i0 i1).2 (by omega)⟩) (fun _ i _ _ => rfl) (fun _ => rfl)
      refine ih (m + 1) a' b' u' (by omega) (by omega) (by omega) hu' hmx' (hlev m hI) (fun z => ?_) (fun q => h25 ?_)
      · have he := hb' z
        have hall := wI.all hI0 (fun m hm i i0 i1 => by
          have := hlev m hm i i0 i1
          rw [he i i0 i1] at this
          exact this) 25
        have hex := hall.ex (fun i i0 i1 => by
          have := hp24 _ (B.1.2.2 i i0 i1)
          omega)
        intro i i0 i1
        rw [he i i0 i1]
        exact hex i i0 i1
      · have : m = 25 := by omega
        rw [this] at hI
        exact hI
  have main : ∀ (m : Nat) (y : Int) (u : qMem), 0 ≤ y → y ≤ M → M - y < m → mFd n e g K N r M ks dp u → (∀ i, 0 ≤ i → i < y → u 99 (ks i) = 0) → kT (f_M_longestWait_2 m y u) (fun q => Mx 0 (fun i => W (ks i)) M q.1) := by
    intro m
    induction m with
    | zero => intro y u _ _ _; omega
    | succ m ih =>
      intro y u y0 y1 hm hu hz
      have h19 := hu.2.1.2.1
      rw [f_M_longestWait_2, h19]
      refine kT_if (fun c => ?_) (fun c => ?_)
      · have ho := hu.2.1.2.2.1 y y0 c
        rw [qld_ok y0 (by omega), ho.1, qst_ok ho.2.1 (by omega), w32_ok (z := y + 1) (by omega) (by omega)]
        refine ih (y + 1) _ (by omega) (by omega) (by omega) (hu.wr (Or.inl rfl)) (fun i i0 i1 => ?_)
        rw [qud_if]
        split
        · rfl
        · rename_i q
          exact hz i i0 (Decidable.by_contra fun v => q (by rw [show i = y by omega]))
      · have hyM : y = M := by omega
        subst hyM
        unfold f_M_longestWait_28
        refine h32 qFU 0 0 1 u (Int.le_refl _) (by decide) (qFU_gt (by decide)) hu ⟨Int.le_refl _, fun i i0 i1 => by dsimp only; rw [hz i i0 i1]; exact Int.le_refl _, Or.inl rfl⟩ (fun i i0 i1 => ?_) (fun z => absurd z (by decide)) (fun z => by omega)
        have h1 := hWb i i0 i1
        have h2 := (hps _ (B.1.2.2 i i0 i1)).1
        rw [hz i i0 i1]
        refine ⟨⟨Int.le_refl _, h1.1⟩, fun z => ?_⟩
        rcases z with z | z
        · omega
        · exact absurd z.1 id
  unfold f_M_longestWait
  exact main qFU 0 w (by decide) (by omega) (qFU_gt (by omega)) h (fun i a b => by omega)
end AY
