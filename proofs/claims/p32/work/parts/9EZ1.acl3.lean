/-! one ring alone, the class: starving, waits; solved, answered -/
section BB2
variable {sc : Int → List Int} {ks ks' dp dp' W : Int → Int} {w w' w0 w1 w2 : qMem} {n e g K N M k x y l s v b p c r cnt t a z q : Int} {i j m : Nat} {L : List Int}
/-- notes by states -/
def nt (g K n : Int) (w : qMem) : Int → Int := fun s => w 103 (fC g K n s)
theorem nt_xo (h : LXo w w') : nt g K n w' = nt g K n w := by
  unfold nt
  rw [h.1 103 (by decide) (by decide) (by decide) (by decide)]
theorem nt_wr (hk : nek n e g K N) (s : Int) : ∀ a, nt g K n (qud w 103 (fC g K n s) v) a = if a = s then v else nt g K n w a := fun a => by
  unfold nt
  rw [qud_if]
  by_cases z : a = s
  · rw [if_pos z, if_pos (by rw [z])]
  · rw [if_neg z, if_neg (fun q => z (fC_inj hk q))]
theorem l_leadsV (hk : nek n e g K N) (hr : 0 ≤ r ∧ r ≤ 2) (hV : LV n e g K r w) (s0 : 0 ≤ s) (s1 : s < N) : kT (f_L_leadsOn (fC g K n s) w) (fun q => ((q.1 = 1 ∧ ∃ b, inS (scA n e g K r s) b ∧ nt g K n w b = 1) ∨ (q.1 = 0 ∧ ∀ b, inS (scA n e g K r s) b → nt g K n w b ≠ 1)) ∧ LXo w q.2) := by
  have hb := hk.b
  unfold f_L_leadsOn
  refine kT_bind (l_openV hk hV s0 s1) (fun w1 h1 => ?_)
  obtain ⟨hO1, hx1⟩ := h1
  refine kT_bind (l_stepsV hk hr s0 s1 (hV.xo hx1) hO1) (fun w2 h2 => ?_)
  obtain ⟨⟨⟨hV2, hO2, hx2⟩, hL⟩, -⟩ := h2
  have hlen := scA_len (r := r) (s := s) hk
  have hsc := (sc_in hk hr s0 s1).1
  have hx := hx1.tr hx2.xo
  have h14 := hL.1
  have ent := nt_xo (g := g) (K := K) (n := n) hx
  refine kD_loop (σ := Unit) (N := ((scA n e g K r s).length : Int)) (L := fun m x _ u => f_L_leadsOn_12 m x u) (J := fun x _ u => u = w2 ∧ ∀ i : Nat, (i : Int) < x → i < (scA n e g K r s).length → nt g K n w ((scA n e g K r s).getD i 0) ≠ 1) (fun m x _ u x0 x1 hu ih => ?_) (fun m _ u hu => ?_) (by omega) (by omega) () ⟨rfl, fun i a _ => by omega⟩
  · obtain ⟨rfl, hno⟩ := hu
    have hxl : x.toNat < (scA n e g K r s).length := by omega
    have e87 : u 87 x = fC g K n ((scA n e g K r s).getD x.toNat 0) := by
      have := hL.2 x.toNat hxl
      rw [show ((x.toNat : Nat) : Int) = x by omega] at this
      exact this
    have hin := hsc _ ⟨x.toNat, hxl, rfl⟩
    have hf := fC_in hk hin.1 hin.2
    have en : u 103 (fC g K n ((scA n e g K r s).getD x.toNat 0)) = nt g K n w ((scA n e g K r s).getD x.toNat 0) := by rw [← ent]; rfl
    rw [f_L_leadsOn_12, if_pos (show x < u 81 14 by omega), if_pos hV2.2.2.2, qld_ok x0 (by omega), e87, qld_ok hf.1 (by omega), en, w32_ok (z := x + 1) (by omega) (by omega)]
    refine kT_if (fun c => kT_some ⟨Or.inl ⟨rfl, _, ⟨x.toNat, hxl, rfl⟩, c⟩, hx⟩) (fun c => ih () _ ⟨rfl, fun i i1 i2 => ?_⟩)
    by_cases z : i = x.toNat
    · rw [z]; exact c
    · exact hno i (by omega) i2
  · obtain ⟨rfl, hno⟩ := hu
    rw [f_L_leadsOn_12, if_neg (by omega)]
    refine kT_some ⟨Or.inr ⟨rfl, fun b hb => ?_⟩, hx⟩
    obtain ⟨i, hi, ei⟩ := hb
    rw [← ei]
    exact hno i (by omega) hi
theorem l_starveV (hk : nek n e g K N) (hr : 0 ≤ r ∧ r ≤ 2) (h : cFd n e g K N r M ks w) (B : SR (scA n e g K r) M M 0 ks dp) : kT (f_L_isStarving w) (fun q => ((q.1 = 1 ∧ STV (scA n e g K r) (dnA n e g K r)) ∨ (q.1 = 0 ∧ ¬ STV (scA n e g K r) (dnA n e g K r))) ∧ cFd n e g K N r M ks q.2 ∧ cSm w q.2) := by
  have hb := hk.b
  have hM0 := B.1.1
  have hdj := B.1.2.1
  have hle : M ≤ N := fnd_le (by omega) (by omega) hdj (fun i i0 i1 => (h.2.2 i i0 i1).2)
  have h91 : ∀ (r70 : Int → Int → Int → qMem → Option (Int × qMem)) (c0 x3 : Int) (P : Int × qMem → Prop), (∀ a b u, cFd n e g K N r M ks u → cSm w u → sT (scA n e g K r) (dnA n e g K r) M ks 1 (nt g K n u) → a = ctz M ks 1 (nt g K n u) → (b = 0 ∨ (b ≠ 0 ∧ ctz M ks 1 (nt g K n u) < c0)) → (b = 0 → ∀ i, 0 ≤ i → i < M → nt g K n u (ks i) = 1 → ∃ b, inS (scA n e g K r (ks i)) b ∧ nt g K n u b = 1) → kT (r70 a b (w32 (x3 + 1)) u) P) → ∀ (m : Nat) (a b y : Int) (u : qMem), -1 ≤ y → y < M → y + 1 < m → cFd n e g K N r M ks u → cSm w u → sT (scA n e g K r) (dnA n e g K r) M ks 1 (nt g K n u) → a = ctz M ks 1 (nt g K n u) → ctz M ks 1 (nt g K n u) ≤ c0 → (b = 0 ∨ (b ≠ 0 ∧ ctz M ks 1 (nt g K n u) < c0)) → (b = 0 → ∀ i, y < i → i < M → nt g K n u (ks i) = 1 → ∃ b, inS (scA n e g K r (ks i)) b ∧ nt g K n u b = 1) → kT (f_L_isStarving_91 r70 m a b x3 y u) P := by
    intro r70 c0 x3 P K2 m
    induction m with
    | zero => intro a b y u _ _ _; omega
    | succ m ih =>
      intro a b y u y0 y1 hm hu hS hT ha hc0 hb0 hsup
      have hci := ctz_in (M := M) (ks := ks) (z := 1) (f := nt g K n u) (by omega)
      rw [f_L_isStarving_91, w32_ok (z := y + -1) (by omega) (by omega)]
      refine kT_if (fun c => K2 a b u hu hS hT ha hb0 (fun z i i0 i1 => hsup z i (by omega) i1)) (fun c => ?_)
      have ho := hu.2.2 y (by omega) y1
      have hf := fC_in hk ho.2.1 ho.2.2
      have en : u 103 (fC g K n (ks y)) = nt g K n u (ks y) := rfl
      rw [if_pos hu.1.2.2.2, if_pos hu.1.2.2.1, qld_ok (by omega) (by omega), ho.1, qld_ok hf.1 (by omega), en]
      refine kT_if (fun cz => ?_) (fun cz => ?_)
      · rw [if_pos hu.1.2.2.1, qld_ok (by omega) (by omega), ho.1]
        refine kT_bind (l_leadsV hk hr hu.1 ho.2.1 ho.2.2) (fun q hq => ?_)
        obtain ⟨hq1, hx⟩ := hq
        have g1 := hu.xo hx
        have ent := nt_xo (g := g) (K := K) (n := n) hx
        have hS1 := hS.tr (cSm.xo hx)
        rcases hq1 with ⟨z1, hlead⟩ | ⟨z1, hno⟩
        · rw [z1, if_neg (by decide)]
          refine ih a b (y + -1) q.2 (by omega) (by omega) (by omega) g1 hS1 (by rw [ent]; exact hT) (by rw [ent]; exact ha) (by rw [ent]; exact hc0) (by rw [ent]; exact hb0) (fun z i i0 i1 => ?_)
          rw [ent]
          by_cases v : i = y
          · rw [v]; exact fun _ => hlead
          · exact hsup z i (by omega) i1
        · rw [z1, if_pos rfl, if_pos g1.1.2.2.2, if_pos g1.1.2.2.1, qld_ok (by omega) (by omega), (g1.2.2 y (by omega) y1).1, w32_ok (z := a + -1) (by omega) (by omega)]
          refine kT_st hf.1 (by omega) ?_
          have hup : ∀ a, nt g K n (qud q.2 103 (fC g K n (ks y)) 0) a = if a = ks y then 0 else nt g K n u a := fun a => by rw [nt_wr hk, ent]
          have hct := ctz_rm (f := nt g K n u) (f' := nt g K n (qud q.2 103 (fC g K n (ks y)) 0)) (v := 0) hdj (by omega) y1 cz hup (by decide)
          refine ih (a + -1) 1 (y + -1) _ (by omega) (by omega) (by omega) (g1.wr (by decide)) (hS1.tr (cSm.wr (by decide))) (hT.rm hno hup (by decide)) (by rw [hct, ha]; omega) (by rw [hct]; omega) (Or.inr ⟨by decide, by rw [hct]; omega⟩) (fun z => absurd z (by decide))
      · refine ih a b (y + -1) u (by omega) (by omega) (by omega) hu hS hT ha hc0 hb0 (fun z i i0 i1 hz => ?_)
        by_cases v : i = y
        · rw [v] at hz
          exact absurd hz cz
        · exact hsup z i (by omega) i1 hz
  have h70 : ∀ (m : Nat) (a b x3 : Int) (u : qMem), 0 ≤ x3 → x3 ≤ 10126 → 10126 - x3 < m → cFd n e g K N r M ks u → cSm w u → sT (scA n e g K r) (dnA n e g K r) M ks 1 (nt g K n u) → a = ctz M ks 1 (nt g K n u) → (b = 0 → ∀ i, 0 ≤ i → i < M → nt g K n u (ks i) = 1 → ∃ b, inS (scA n e g K r (ks i)) b ∧ nt g K n u b = 1) → (b ≠ 0 → a + x3 ≤ M) → kT (f_L_isStarving_70 m a b x3 u) (fun q => ((q.1 = 1 ∧ STV (scA n e g K r) (dnA n e g K r)) ∨ (q.1 = 0 ∧ ¬ STV (scA n e g K r) (dnA n e g K r))) ∧ cFd n e g K N r M ks q.2 ∧ cSm w q.2) := by
    have fin : ∀ a u, cFd n e g K N r M ks u → cSm w u → a = ctz M ks 1 (nt g K n u) → sT (scA n e g K r) (dnA n e g K r) M ks 1 (nt g K n u) → (∀ i, 0 ≤ i → i < M → nt g K n u (ks i) = 1 → ∃ b, inS (scA n e g K r (ks i)) b ∧ nt g K n u b = 1) → kT (f_L_isStarving_156 a u) (fun q => ((q.1 = 1 ∧ STV (scA n e g K r) (dnA n e g K r)) ∨ (q.1 = 0 ∧ ¬ STV (scA n e g K r) (dnA n e g K r))) ∧ cFd n e g K N r M ks q.2 ∧ cSm w q.2) := by
      intro a u hu hS ha hT hs
      have he := hT.fin B hs
      unfold f_L_isStarving_156
      refine kT_if (fun c => kT_some ⟨Or.inr ⟨rfl, ?_⟩, hu, hS⟩) (fun c => kT_some ⟨Or.inl ⟨rfl, ?_⟩, hu, hS⟩)
      · rcases he with z | z
        · omega
        · exact z.2
      · rcases he with z | z
        · exact z.2
        · omega
    intro m
    induction m with
    | zero => intro a b x3 u _ _ _; omega
    | succ m ih =>
      intro a b x3 u x0 x1 hm hu hS hT ha hsup hcnt
      have hci := ctz_in (M := M) (ks := ks) (z := 1) (f := nt g K n u) (by omega)
      rw [f_L_isStarving_70]
      refine kT_if (fun c => kT_if (fun c2 => fin a u hu hS ha hT (hsup c2)) (fun c2 => ?_)) (fun c => fin a u hu hS ha hT (hsup (Decidable.by_contra fun q => by have := hcnt q; omega)))
      rw [hu.2.1, w32_ok (z := M - 1) (by omega) (by omega)]
      refine h91 (f_L_isStarving_70 m) (ctz M ks 1 (nt g K n u)) x3 _ (fun a' b' u' hu' hS' hT' ha' hb' hs' => ?_) qFU a 0 (M - 1) u (by omega) (by omega) (qFU_gt (by omega)) hu hS hT ha (Int.le_refl _) (Or.inl rfl) (fun _ i a b => by omega)
      rw [w32_ok (z := x3 + 1) (by omega) (by omega)]
      have hc2 := hcnt c2
      refine ih a' b' (x3 + 1) u' (by omega) (by omega) (by omega) hu' hS' hT' ha' hs' (fun q => ?_)
      rcases hb' with z | z
      · exact absurd z q
      · omega
  have main : ∀ (m : Nat) (a y : Int) (u : qMem), 0 ≤ y → y ≤ M → M - y < m → cFd n e g K N r M ks u → cSm w u → a = cV (fun i => dnA n e g K r (ks i)) y → (∀ i, 0 ≤ i → i < y → nt g K n u (ks i) = dnA n e g K r (ks i)) → kT (f_L_isStarving_4 m a y u) (fun q => ((q.1 = 1 ∧ STV (scA n e g K r) (dnA n e g K r)) ∨ (q.1 = 0 ∧ ¬ STV (scA n e g K r) (dnA n e g K r))) ∧ cFd n e g K N r M ks q.2 ∧ cSm w q.2) := by
    intro m
    induction m with
    | zero => intro a y u _ _ _; omega
    | succ m ih =>
      intro a y u y0 y1 hm hu hS ha hfl
      rw [f_L_isStarving_4, hu.2.1]
      refine kT_if (fun c => ?_) (fun c => ?_)
      · have ho := hu.2.2 y y0 c
        have hf := fC_in hk ho.2.1 ho.2.2
        have hd01 := dnA_01 (n := n) (e := e) (g := g) (K := K) (r := r) (s := ks y)
        have hcb := smN_in (f := fun i => dnA n e g K r (ks i)) (a := 0) (b := 1) y.toNat (fun i _ => by
          have := dnA_01 (n := n) (e := e) (g := g) (K := K) (r := r) (s := ks i)
          omega)
        rw [show ((y.toNat : Nat) : Int) = y by omega, Int.zero_mul] at hcb
        have hcb' : 0 ≤ cV (fun i => dnA n e g K r (ks i)) y ∧ cV (fun i => dnA n e g K r (ks i)) y ≤ 1 * y := hcb
        rw [if_pos hu.1.2.2.1, qld_ok y0 (by omega), ho.1]
        refine kT_bind (l_openV hk hu.1 ho.2.1 ho.2.2) (fun w1 h1 => ?_)
        obtain ⟨hO1, hx1⟩ := h1
        have g1 := hu.xo hx1
        have ent := nt_xo (g := g) (K := K) (n := n) hx1
        have hS1 := hS.tr (cSm.xo hx1)
        have hql : 0 ≤ lq g (dg K (ks y) 0) ∧ lq g (dg K (ks y) 0) ≤ e := (qtb_of hk (dg_in hk).1 (dg_in hk).2).1.1
        rw [if_pos g1.1.2.2.2, if_pos g1.1.2.2.1, qld_ok y0 (by omega), (g1.2.2 y y0 c).1]
        refine kT_eq (l_ruleV g1.1 hO1 (by omega) (by omega) hql (Int.le_refl _) (by omega)) ?_
        dsimp only
        rw [bi_ii]
        have h45 : ∀ z, z = dnA n e g K r (ks y) → kT (f_L_isStarving_45 (f_L_isStarving_4 m) (fC g K n (ks y)) z a y w1) (fun q => ((q.1 = 1 ∧ STV (scA n e g K r) (dnA n e g K r)) ∨ (q.1 = 0 ∧ ¬ STV (scA n e g K r) (dnA n e g K r))) ∧ cFd n e g K N r M ks q.2 ∧ cSm w q.2) := by
          intro z hz
          have g2 := g1.wr (q := 103) (x := fC g K n (ks y)) (v := z) (by decide)
          unfold f_L_isStarving_45
          refine kT_st hf.1 (by omega) ?_
          rw [if_pos g2.1.2.2.2, if_pos g2.1.2.2.1, qld_ok y0 (by omega), (g2.2.2 y y0 c).1, qld_ok hf.1 (by omega), qud_s, w32_ok (z := y + 1) (by omega) (by omega), w32_ok (z := a + z) (by omega) (by omega)]
          refine ih _ (y + 1) _ (by omega) (by omega) (by omega) g2 (hS1.tr (cSm.wr (by decide))) (by rw [cV_s y0, ha, hz]) (fun i i0 i1 => ?_)
          rw [nt_wr hk, ent]
          by_cases v : i = y
          · rw [v, if_pos rfl, hz]
          · rw [if_neg (fun q => v (hdj i y i0 (by omega) y0 c q))]
            exact hfl i i0 (by omega)
        refine kT_if (fun z => h45 0 ?_) (fun z => h45 1 ?_)
        · unfold dnA
          rw [if_pos z]
        · unfold dnA
          rw [if_neg z]
      · have hyM : y = M := by omega
        subst hyM
        have hc := ctz_in (M := y) (ks := ks) (z := 1) (f := nt g K n u) (by omega)
        have hac : a = ctz y ks 1 (nt g K n u) := by
          rw [ha]
          unfold ctz
          refine cV_co (by omega) (fun i i0 i1 => ?_)
          rw [hfl i i0 i1]
          rcases dnA_01 (n := n) (e := e) (g := g) (K := K) (r := r) (s := ks i) with d | d
          · rw [d, if_neg (by decide)]
          · rw [d, if_pos rfl]
        unfold f_L_isStarving_66
        refine h70 qFU a 1 0 u (by decide) (by decide) (qFU_gt (by decide)) hu hS ⟨fun i i0 i1 hz => by rw [← hfl i i0 i1]; exact hz, fun X hX a ha => ?_⟩ hac (fun z => absurd z (by decide)) (fun _ => by omega)
        obtain ⟨t, ⟨t0, t1⟩, et⟩ := B.sub (hX a ha).1
        have := hfl t t0 t1
        rw [et, (hX a ha).2.1] at this
        exact this
  unfold f_L_isStarving
  exact main qFU 0 0 w (by decide) (by omega) (qFU_gt (by omega)) h cSm.rfl' rfl (fun i a b => by omega)
/-- what one's wait is, by the notes -/
theorem l_waitV (hk : nek n e g K N) (hr : 0 ≤ r ∧ r ≤ 2) (hV : LV n e g K r w) (s0 : 0 ≤ s) (s1 : s < N) (hn : ∀ b, inS (plA n e g K r s) b → 0 ≤ nt g K n w b ∧ nt g K n w b ≤ 1000) : kT (f_L_waitIn (fC g K n s) w) (fun q => ((dnA n e g K r s = 1 ∧ isWm (nt g K n w) (plA n e g K r s) q.1) ∨ (dnA n e g K r s ≠ 1 ∧ q.1 = 0)) ∧ LXo w q.2) := by
  have hb := hk.b
  have hql : 0 ≤ lq g (dg K s 0) ∧ lq g (dg K s 0) ≤ e := (qtb_of hk (dg_in hk).1 (dg_in hk).2).1.1
  unfold f_L_waitIn
  refine kT_bind (l_openV hk hV s0 s1) (fun w1 h1 => ?_)
  obtain ⟨hO1, hx1⟩ := h1
  have hV1 := hV.xo hx1
  refine kT_eq (l_ruleV hV1 hO1 (by omega) (by omega) hql (Int.le_refl _) (by omega)) ?_
  dsimp only
  rw [bi_ii]
  refine kT_if (fun c => kT_some ⟨Or.inr ⟨?_, rfl⟩, hx1⟩) (fun c => ?_)
  · unfold dnA
    rw [if_pos c]
    decide
  · have hd : dnA n e g K r s = 1 := by
      unfold dnA
      rw [if_neg c]
    refine kT_bind (l_stepsV hk hr s0 s1 hV1 hO1) (fun w2 h2 => ?_)
    obtain ⟨⟨⟨hV2, hO2, hx2⟩, hL⟩, e15⟩ := h2
    have hlen := scA_len (r := r) (s := s) hk
    have hsc := (sc_in hk hr s0 s1).1
    have hx := hx1.tr hx2.xo
    have ent := nt_xo (g := g) (K := K) (n := n) hx
    refine kD_loop (σ := Int) (N := ((plA n e g K r s).length : Int)) (L := fun m z x5 u => f_L_waitIn_22 m x5 z u) (J := fun z x5 u => u = w2 ∧ 0 ≤ x5 ∧ (∀ i : Nat, (i : Int) < z → i < (plA n e g K r s).length → nt g K n w ((plA n e g K r s).getD i 0) + 1 ≤ x5) ∧ (x5 = 0 ∨ ∃ b, inS (plA n e g K r s) b ∧ x5 = nt g K n w b + 1)) (fun m z x5 u z0 z1 hJ ih => ?_) (fun m x5 u hJ => ?_) (by omega) (by omega) 0 ⟨rfl, Int.le_refl _, fun i a _ => by omega, Or.inl rfl⟩
    · obtain ⟨rfl, j1, j2, j3⟩ := hJ
      have hzl : z.toNat < (plA n e g K r s).length := by omega
      have e87 : u 87 z = fC g K n ((plA n e g K r s).getD z.toNat 0) := by
        have := hL.2 z.toNat (by omega)
        rw [show ((z.toNat : Nat) : Int) = z by omega] at this
        have e1 : (scA n e g K r s).getD z.toNat 0 = (plA n e g K r s).getD z.toNat 0 := gd_l _ _ hzl
        rw [e1] at this
        exact this
      have hinz : inS (plA n e g K r s) ((plA n e g K r s).getD z.toNat 0) := ⟨z.toNat, hzl, rfl⟩
      have hbz := hsc _ (pl_sc _ _ hinz)
      have hf := fC_in hk hbz.1 hbz.2
      have hvb := hn _ hinz
      have en : u 103 (fC g K n ((plA n e g K r s).getD z.toNat 0)) = nt g K n w ((plA n e g K r s).getD z.toNat 0) := by rw [← ent]; rfl
      rw [f_L_waitIn_22, e15, if_pos z1, if_pos hV2.2.2.2, qld_ok z0 (by omega), e87, qld_ok hf.1 (by omega), en, w32_ok (z := z + 1) (by omega) (by omega), w32_ok (z := nt g K n w ((plA n e g K r s).getD z.toNat 0) + 1) (by omega) (by omega)]
      refine ih _ _ ⟨rfl, by split <;> omega, fun i i1 i2 => ?_, ?_⟩
      · by_cases v : i = z.toNat
        · rw [v]
          split <;> omega
        · have := j2 i (by omega) i2
          split <;> omega
      · by_cases v : x5 < nt g K n w ((plA n e g K r s).getD z.toNat 0) + 1
        · rw [if_pos v]
          exact Or.inr ⟨_, hinz, rfl⟩
        · rw [if_neg v]
          exact j3
    · obtain ⟨rfl, j1, j2, j3⟩ := hJ
      rw [f_L_waitIn_22, e15, if_neg (by omega)]
      refine kT_some ⟨Or.inl ⟨hd, j1, fun b hb => ?_, j3⟩, hx⟩
      obtain ⟨i, hi, ei⟩ := hb
      rw [← ei]
      exact j2 i (by omega) hi
theorem l_longV (hk : nek n e g K N) (hr : 0 ≤ r ∧ r ≤ 2) (h : cFd n e g K N r M ks w) (B : SR (scA n e g K r) M M 0 ks dp) : kT (f_L_longestWait w) (fun q => Mx 0 (fun i => Wst (plA n e g K r) (dnA n e g K r) (ks i)) M q.1 ∧ cSm w q.2) := by
  have hb := hk.b
  have hM0 := B.1.1
  have hdj := B.1.2.1
  have hle : M ≤ N := fnd_le (by omega) (by omega) hdj (fun i i0 i1 => (h.2.2 i i0 i1).2)
  have hps := pot_sc (r := r) hk hr
  have hp24 := pot_24 (r := r) hk hr
  have hWok := Wst_ok (dn := dnA n e g K r) (pl_sc (n := n) (e := e) (g := g) (K := K) (r := r)) hps hp24
  have hW24 := Wst_24 (dn := dnA n e g K r) (pl_sc (n := n) (e := e) (g := g) (K := K) (r := r)) hps hp24
  generalize hWd : Wst (plA n e g K r) (dnA n e g K r) = W at *
  have hWb : ∀ i, 0 ≤ i → i < M → 0 ≤ W (ks i) ∧ W (ks i) ≤ 24 := fun i i0 i1 => by
    have hR := B.1.2.2 i i0 i1
    have h1 := hp24 _ hR
    have h2 := hW24 25 (ks i) hR (by omega)
    omega
  have h35 : ∀ (r14 : Int → Int → Int → qMem → Option (Int × qMem)) (x3 : Int) (w0 : qMem) (P : Int × qMem → Prop), (∀ a b u, cFd n e g K N r M ks u → cSm w u → Mx 0 (fun i => nt g K n u (ks i)) M a → (∀ m, wI M ks (pot g K n) W (fun _ => False) m (nt g K n w0) → wI M ks (pot g K n) W (fun _ => False) (m + 1) (nt g K n u)) → (b = 0 → ∀ i, 0 ≤ i → i < M → nt g K n u (ks i) = nt g K n w0 (ks i)) → kT (r14 a b (w32 (x3 + 1)) u) P) → wI M ks (pot g K n) W (fun _ => False) 0 (nt g K n w0) → ∀ (m : Nat) (a b y : Int) (u : qMem), -1 ≤ y → y < M → y + 1 < m → cFd n e g K N r M ks u → cSm w u → Mx 0 (fun i => nt g K n u (ks i)) M a → (∀ m, wI M ks (pot g K n) W (fun _ => False) m (nt g K n w0) → wI M ks (pot g K n) W (fun i => y < i) m (nt g K n u)) → (b = 0 → ∀ i, 0 ≤ i → i < M → nt g K n u (ks i) = nt g K n w0 (ks i)) → kT (f_L_longestWait_35 r14 m a b x3 y u) P := by
    intro r14 x3 w0 P K2 hw0 m
    induction m with
    | zero => intro a b y u _ _ _; omega
    | succ m ih =>
      intro a b y u y0 y1 hm hu hS hmx hlev hb0
      have hI0 := hlev 0 hw0
      rw [f_L_longestWait_35, w32_ok (z := y + -1) (by omega) (by omega)]
      refine kT_if (fun c => K2 a b u hu hS hmx (fun m hm i i0 i1 => ⟨(hlev m hm i i0 i1).1, fun z => (hlev m hm i i0 i1).2 ?_⟩) hb0) (fun c => ?_)
      · rcases z with z | z
        · by_cases q : pot g K n (ks i) < m
          · exact Or.inl q
          · exact Or.inr ⟨by omega, by omega⟩
        · exact absurd z.1 id
      · have ho := hu.2.2 y (by omega) y1
        have hf := fC_in hk ho.2.1 ho.2.2
        have hRy := B.1.2.2 y (by omega) y1
        have hpl : ∀ b, inS (plA n e g K r (ks y)) b → fnd M ks b ∧ pot g K n b < pot g K n (ks y) := fun b hb => ⟨B.sub (hRy.st (pl_sc _ _ hb)), (hps _ hRy).2 b hb⟩
        have hnote := (hI0 y (by omega) y1).1
        have hWy := hWb y (by omega) y1
        rw [if_pos hu.1.2.2.1, qld_ok (by omega) (by omega), ho.1]
        refine kT_bind (l_waitV hk hr hu.1 ho.2.1 ho.2.2 (fun b hb => ?_)) (fun q hq => ?_)
        · obtain ⟨⟨t, ⟨t0, t1⟩, et⟩, -⟩ := hpl b hb
          rw [← et]
          have := (hI0 t t0 t1).1
          have := hWb t t0 t1
          omega
        obtain ⟨hq1, hx⟩ := hq
        have g1 := hu.xo hx
        have ent := nt_xo (g := g) (K := K) (n := n) hx
        have hS1 := hS.tr (cSm.xo hx)
        have en : q.2 103 (fC g K n (ks y)) = nt g K n u (ks y) := by rw [← ent]; rfl
        have hqle : q.1 ≤ W (ks y) := by
          rcases hq1 with ⟨d, hw⟩ | ⟨d, z⟩
          · exact (hI0.new hpl hw ((hWok _ hRy).2 d)).1
          · omega
        have hqex : ∀ m, wI M ks (pot g K n) W (fun _ => False) m (nt g K n w0) → pot g K n (ks y) < m + 1 → q.1 = W (ks y) := fun m hm hp => by
          rcases hq1 with ⟨d, hw⟩ | ⟨d, z⟩
          · exact ((hlev m hm).new hpl hw ((hWok _ hRy).2 d)).2 hp
          · rw [z, (hWok _ hRy).1 d]
        rw [if_pos g1.1.2.2.2, qld_ok hf.1 (by omega), en]
        refine kT_if (fun cq => ?_) (fun cq => ?_)
        · refine ih a b (y + -1) q.2 (by omega) (by omega) (by omega) g1 hS1 (by rw [ent]; exact hmx) (fun m hm i i0 i1 => ?_) (by rw [ent]; exact hb0)
          rw [ent]
          refine ⟨(hlev m hm i i0 i1).1, fun z => ?_⟩
          by_cases v : i = y
          · rw [v] at z ⊢
            have := hqex m hm (by omega)
            omega
          · exact (hlev m hm i i0 i1).2 (z.imp id (fun q => ⟨by have := q.1; omega, q.2⟩))
        · rw [if_pos g1.1.2.2.2]
          refine kT_st hf.1 (by omega) ?_
          have hup : ∀ a, nt g K n (qud q.2 103 (fC g K n (ks y)) q.1) a = if a = ks y then q.1 else nt g K n u a := fun a => by rw [nt_wr hk, ent]
          refine ih _ 1 (y + -1) _ (by omega) (by omega) (by omega) (g1.wr (by decide)) (hS1.tr (cSm.wr (by decide))) (Mx_up hmx hdj (by omega) y1 hup (by omega)) (fun m hm => ?_) (fun z => absurd z (by decide))
          exact ((hlev m hm).up hdj (by omega) y1 hup ⟨by omega, hqle⟩ (hqex m hm)).mn (fun i hi => by omega)
  have h14 : ∀ (t : Nat) (a b x3 : Int) (u : qMem), 0 ≤ x3 → x3 ≤ 10126 → 10126 - x3 < t → cFd n e g K N r M ks u → cSm w u → Mx 0 (fun i => nt g K n u (ks i)) M a → wI M ks (pot g K n) W (fun _ => False) x3 (nt g K n u) → (b = 0 → ∀ i, 0 ≤ i → i < M → nt g K n u (ks i) = W (ks i)) → kT (f_L_longestWait_14 t a b x3 u) (fun q => Mx 0 (fun i => W (ks i)) M q.1 ∧ cSm w q.2) := by
    have mx : ∀ (u : qMem) (a : Int), Mx 0 (fun i => nt g K n u (ks i)) M a → (∀ i, 0 ≤ i → i < M → nt g K n u (ks i) = W (ks i)) → Mx 0 (fun i => W (ks i)) M a := fun u a hmx he => by
      obtain ⟨q0, q1, q2⟩ := hmx
      refine ⟨q0, fun i i0 i1 => by dsimp only; rw [← he i i0 i1]; exact q1 i i0 i1, ?_⟩
      rcases q2 with z | ⟨i, ⟨i0, i1⟩, z⟩
      · exact Or.inl z
      · exact Or.inr ⟨i, ⟨i0, i1⟩, by dsimp only; rw [← he i i0 i1]; exact z⟩
    intro t
    induction t with
    | zero => intro a b x3 u _ _ _; omega
    | succ t ih =>
      intro a b x3 u x0 x1 ht hu hS hmx hI hbz
      rw [f_L_longestWait_14]
      refine kT_if (fun c => kT_if (fun c2 => kT_some ⟨mx u a hmx (hbz c2), hS⟩) (fun c2 => ?_)) (fun c => kT_some ⟨mx u a hmx (hI.ex (fun i i0 i1 => ?_)), hS⟩)
      · have hI0 : wI M ks (pot g K n) W (fun _ => False) 0 (nt g K n u) := fun i i0 i1 => ⟨(hI i i0 i1).1, fun z => by
          have := (hps _ (B.1.2.2 i i0 i1)).1
          rcases z with z | z
          · omega
          · exact absurd z.1 id⟩
        rw [hu.2.1, w32_ok (z := M - 1) (by omega) (by omega)]
        refine h35 (f_L_longestWait_14 t) x3 u _ (fun a' b' u' hu' hS' hmx' hlev hb' => ?_) hI0 qFU a 0 (M - 1) u (by omega) (by omega) (qFU_gt (by omega)) hu hS hmx (fun m hm i i0 i1 => ⟨(hm i i0 i1).1, fun z => (hm i i0 i1).2 (z.imp id (fun q => by have := q.1; omega))⟩) (fun _ i _ _ => rfl)
        rw [w32_ok (z := x3 + 1) (by omega) (by omega)]
        refine ih a' b' (x3 + 1) u' (by omega) (by omega) (by omega) hu' hS' hmx' (hlev x3 hI) (fun z => ?_)
        have he := hb' z
        have hall := wI.all hI0 (fun m hm i i0 i1 => by
          have := hlev m hm i i0 i1
          rw [he i i0 i1] at this
          exact this) 25
        have hex := hall.ex (fun i i0 i1 => by
          have := hp24 _ (B.1.2.2 i i0 i1)
          omega)
        intro i i0 i1
        rw [he i i0 i1]
        exact hex i i0 i1
      · have := hp24 _ (B.1.2.2 i i0 i1)
        omega
  unfold f_L_longestWait
  rw [if_pos h.1.2.2.2]
  refine kT_bind (j_fill2 (by decide) (by decide)) (fun w1 hw1 => ?_)
  have r1 : ∀ k : Nat, k ≠ 103 → w1 k = w k := fun k hk => by
    funext i
    rw [hw1, if_neg (fun z => hk z.1)]
  have h1 : cFd n e g K N r M ks w1 := by
    unfold cFd LV at h ⊢
    rw [r1 81 (by decide), r1 86 (by decide), r1 102 (by decide)]
    exact h
  have hz : ∀ i, 0 ≤ i → i < M → nt g K n w1 (ks i) = 0 := fun i i0 i1 => by
    have ho := h.2.2 i i0 i1
    have hf := fC_in hk ho.2.1 ho.2.2
    unfold nt
    rw [hw1, if_pos ⟨rfl, hf.1, by omega⟩]
  refine h14 qFU 0 1 0 w1 (Int.le_refl _) (by decide) (qFU_gt (by decide)) h1 ⟨r1 82 (by decide), r1 83 (by decide)⟩ ⟨Int.le_refl _, fun i i0 i1 => by dsimp only; rw [hz i i0 i1]; exact Int.le_refl _, Or.inl rfl⟩ (fun i i0 i1 => ?_) (fun z => absurd z (by decide))
  have h1 := hWb i i0 i1
  have h2 := (hps _ (B.1.2.2 i i0 i1)).1
  rw [hz i i0 i1]
  refine ⟨⟨Int.le_refl _, h1.1⟩, fun z => ?_⟩
  rcases z with z | z
  · omega
  · exact absurd z.1 id
end BB2
