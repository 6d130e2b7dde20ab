/-! one ring alone, the reference: all states are searched -/
def mSS (sc : Int → List Int) (N M x : Int) (j : Nat) (ks dp : Int → Int) (w : qMem) : Prop := SR sc M x j ks dp ∧ w 88 19 = M ∧ (∀ i, 0 ≤ i → i < M → w 97 i = ks i ∧ 0 ≤ ks i ∧ ks i < N) ∧ ∀ s, 0 ≤ s → s < N → (fnd M ks s ∧ w 96 s = dp s) ∨ (¬ fnd M ks s ∧ w 96 s = -1)
section AX
variable {sc : Int → List Int} {ks ks' dp dp' : Int → Int} {w w' w0 w1 w2 : qMem} {n e g K N M k x y l s v b p c r cnt t a : Int} {i j m : Nat}
theorem mSS.co (h : mSS sc N M x j ks dp w) (e19 : w' 88 19 = w 88 19) (e96 : w' 96 = w 96) (e97 : w' 97 = w 97) : mSS sc N M x j ks dp w' := by
  unfold mSS at h ⊢
  rw [e19, e96, e97]
  exact h
theorem mSS.le (h : mSS sc N M x j ks dp w) (N0 : 0 ≤ N) : M ≤ N := by
  have hB := h.1.1
  exact fnd_le (by omega) N0 hB.2.1 (fun i i0 i1 => (h.2.2.1 i i0 i1).2)
theorem me_findsV (h : mSS sc N M x j ks dp w) (hN : 0 ≤ N ∧ N ≤ 10125) (hx : x < M) (hj : j < (sc (ks x)).length) (eb : (sc (ks x)).getD j 0 = b) (b0 : 0 ≤ b) (b1 : b < N) (ev : v = dp (ks x) + 1) : kT (f_M_finds b v w) (fun w' => (∃ M' ks' dp', mSS sc N M' x (j + 1) ks' dp' w' ∧ M ≤ M' ∧ ∀ i, i < M → ks' i = ks i) ∧ (∀ k : Nat, k ≠ 88 → k ≠ 96 → k ≠ 97 → w' k = w k) ∧ ∀ i, i ≠ 19 → w' 88 i = w 88 i) := by
  have hle := h.le hN.1
  obtain ⟨B, h19, h97, h96⟩ := h
  have hM := B.1.1
  have hdx := B.2.2.2.2 x hM.2.2.1 hx
  unfold f_M_finds
  rw [qld_ok b0 (by omega)]
  refine kT_if (fun c => ?_) (fun c => ?_)
  · have hnf : ¬ fnd M ks b := fun hf => by
      rcases h96 b b0 b1 with ⟨-, z⟩ | ⟨z, -⟩
      · obtain ⟨t, ⟨t0, t1⟩, et⟩ := hf
        have := B.2.2.2.2 t t0 t1
        rw [et] at this
        omega
      · exact z hf
    have B' := B.new (ks' := fun i => if i = M then b else ks i) (dp' := fun a => if a = b then dp (ks x) + 1 else dp a) hx hj (by rw [eb]; exact hnf) (fun i => by rw [eb]) (fun a => by rw [eb])
    have hne : ∀ i, 0 ≤ i → i < M → ks i ≠ b := fun i a c e => hnf ⟨i, ⟨a, c⟩, e⟩
    have hlt : M + 1 ≤ N := fnd_le (by omega) hN.1 B'.1.2.1 (fun i i0 i1 => by
      by_cases z : i = M
      · rw [if_pos z]; exact ⟨b0, b1⟩
      · rw [if_neg z]; exact (h97 i i0 (by omega)).2)
    refine kT_st b0 (by omega) ?_
    rw [qud_nk (show (88 : Nat) ≠ 96 by decide), h19]
    refine kT_st (by omega) (by omega) ?_
    rw [qlt_ok, qud_nk (show (88 : Nat) ≠ 97 by decide), qud_nk (show (88 : Nat) ≠ 96 by decide), h19, w32_ok (z := M + 1) (by omega) (by omega)]
    refine kT_some ⟨⟨M + 1, _, _, ⟨B', qud_s, fun i i0 i1 => ?_, fun s s0 s1 => ?_⟩, by omega, fun i i1 => ?_⟩, fun k a b c => by rw [qud_row a, qud_row c, qud_row b], fun i a => by rw [qud_ni a, qud_nk (by decide), qud_nk (by decide)]⟩
    · rw [qud_nk (by decide), qud_if, qud_nk (by decide)]
      by_cases z : i = M
      · rw [if_pos z, if_pos z]; exact ⟨rfl, b0, b1⟩
      · rw [if_neg z, if_neg z]
        exact h97 i i0 (by omega)
    · rw [qud_nk (by decide), qud_nk (by decide), qud_if]
      by_cases z : s = b
      · rw [if_pos z, if_pos z]
        exact Or.inl ⟨⟨M, ⟨by omega, by omega⟩, by show (if M = M then b else ks M) = s; rw [if_pos rfl, z]⟩, ev⟩
      · rw [if_neg z, if_neg z]
        rcases h96 s s0 s1 with ⟨⟨t, ⟨t0, t1⟩, et⟩, z1⟩ | ⟨z1, z2⟩
        · exact Or.inl ⟨⟨t, ⟨t0, by omega⟩, by show (if t = M then b else ks t) = s; rw [if_neg (by omega)]; exact et⟩, z1⟩
        · refine Or.inr ⟨fun ⟨t, ⟨t0, t1⟩, et⟩ => ?_, z2⟩
          have et : (if t = M then b else ks t) = s := et
          by_cases u : t = M
          · rw [if_pos u] at et
            exact z et.symm
          · rw [if_neg u] at et
            exact z1 ⟨t, ⟨t0, by omega⟩, et⟩
    · rw [if_neg (by omega)]
  · have hf : fnd M ks b := by
      rcases h96 b b0 b1 with ⟨z, -⟩ | ⟨-, z⟩
      · exact z
      · exact absurd z c
    exact kT_some ⟨⟨M, ks, dp, ⟨B.old hx hj (by rw [eb]; exact hf), h19, h97, h96⟩, Int.le_refl _, fun _ _ => rfl⟩, fun _ _ _ _ => rfl, fun _ _ => rfl⟩
/-- when all states are found -/
def mFd (n e g K N r M : Int) (ks dp : Int → Int) (w : qMem) : Prop := (LM n e g K w ∧ w 88 12 = r) ∧ mSS (scA n e g K r) N M M 0 ks dp w ∧ ∀ i, 0 ≤ i → i < M → w 98 (ks i) = dnA n e g K r (ks i)
theorem me_searchV (hk : nek n e g K N) (hM : LM n e g K w) (h12 : w 88 12 = r) (hr : 0 ≤ r ∧ r ≤ 2) : kT (f_M_searches w) (fun w' => ∃ M ks dp, mFd n e g K N r M ks dp w') := by
  have hb := hk.b
  have h35 : ∀ (m : Nat) (x : Int) (w' : qMem), 0 ≤ x → x ≤ 10126 → 10127 - x < m → FSr w w' → (∃ M ks dp, mSS (scA n e g K r) N M x 0 ks dp w' ∧ ∀ i, 0 ≤ i → i < x → w' 98 (ks i) = dnA n e g K r (ks i)) → kT (f_M_searches_35 m x w') (fun w' => ∃ M ks dp, mFd n e g K N r M ks dp w') := by
    intro m
    induction m with
    | zero => intro x w' _ _ _ _ _; omega
    | succ m ih =>
      intro x w' x0 x1 hm hS hJ
      obtain ⟨M, ks, dp, hss, h98⟩ := hJ
      have hle := hss.le (by omega)
      have h19 := hss.2.1
      have hMx := hss.1.1.1
      rw [f_M_searches_35, h19]
      refine kT_if (fun c => ?_) (fun c => ?_)
      · have hox := hss.2.2.1 x x0 c
        have hMS := hM.sr hS
        have e12 : w' 88 12 = r := by rw [hS.2 12 (by decide) (by decide) (by decide) (by decide)]; exact h12
        rw [qld_ok x0 (by omega), hox.1]
        refine kT_bind (me_afterV0 hk hMS e12 hr hox.2.1 hox.2.2) (fun w1 h1 => ?_)
        obtain ⟨⟨⟨m1, s1, f1⟩, hL⟩, -⟩ := h1
        have hlen := scA_len (r := r) (s := ks x) hk
        have hsc := sc_in hk hr hox.2.1 hox.2.2
        have hss1 : mSS (scA n e g K r) N M x 0 ks dp w1 := hss.co (f1.2 19 (by decide) (by decide) (by decide)) (f1.1 96 (by decide) (by decide) (by decide)) (f1.1 97 (by decide) (by decide) (by decide))
        refine kD_loop (σ := Unit) (N := w1 88 24) (L := fun m' y _ u => f_M_searches_57 (f_M_searches_35 m) m' x (ks x) y u) (J := fun y _ u => (∃ M' ks' dp', mSS (scA n e g K r) N M' x y.toNat ks' dp' u ∧ M ≤ M' ∧ ∀ i, i < M → ks' i = ks i) ∧ (∀ k : Nat, k ≠ 88 → k ≠ 96 → k ≠ 97 → u k = w1 k) ∧ ∀ i, i ≠ 19 → u 88 i = w1 88 i) (fun m' y _ u y0 y1 hJ ih' => ?_) (fun m' _ u hJ => ?_) (by rw [hL.1]; omega) (by rw [hL.1]; omega) () ⟨⟨M, ks, dp, hss1, Int.le_refl _, fun _ _ => rfl⟩, fun _ _ _ _ => rfl, fun _ _ => rfl⟩
        · obtain ⟨⟨M', ks', dp', hs', hMM, hag⟩, fu, f88⟩ := hJ
          have hle' := hs'.le (by omega)
          have hyl : y.toNat < (scA n e g K r (ks x)).length := by
            have := hL.1
            omega
          have e101 : u 101 y = (scA n e g K r (ks x)).getD y.toNat 0 := by
            have := hL.2 y.toNat hyl
            rw [show ((y.toNat : Nat) : Int) = y by omega] at this
            rw [fu 101 (by decide) (by decide) (by decide)]
            exact this
          have hbi := hsc.1 _ ⟨y.toNat, hyl, rfl⟩
          have ekx := hag x c
          have e96 : u 96 (ks x) = dp' (ks x) := by
            rcases hs'.2.2.2 (ks x) hox.2.1 hox.2.2 with ⟨-, z⟩ | ⟨z, -⟩
            · exact z
            · exact absurd ⟨x, ⟨x0, by omega⟩, ekx⟩ z
          have hd0 := hs'.1.2.2.2.2 x x0 (by omega)
          have hd1 := hs'.1.dpi (x + 1).toNat x x0 (by omega) (by omega)
          rw [ekx] at hd0 hd1
          rw [f_M_searches_57, f88 24 (by decide), if_pos y1, qld_ok y0 (by rw [hL.1] at y1; omega), qld_ok hox.2.1 (by omega), e101, e96, w32_ok (z := dp' (ks x) + 1) (by omega) (by omega), w32_ok (z := y + 1) (by rw [hL.1] at y1; omega) (by rw [hL.1] at y1; omega)]
          refine kT_bind (me_findsV (b := (scA n e g K r (ks x)).getD y.toNat 0) (v := dp' (ks x) + 1) hs' (by omega) (by omega) (by rw [ekx]; exact hyl) (by rw [ekx]) hbi.1 hbi.2 (by rw [ekx])) (fun w3 h3 => ih' () w3 ?_)
          obtain ⟨⟨M3, ks3, dp3, hs3, hM3, hag3⟩, g1, g2⟩ := h3
          refine ⟨⟨M3, ks3, dp3, ?_, by omega, fun i hi => by rw [hag3 i (by omega), hag i hi]⟩, fun k a b c => by rw [g1 k a b c, fu k a b c], fun i a => by rw [g2 i a, f88 i a]⟩
          rw [show (y + 1).toNat = y.toNat + 1 by omega]
          exact hs3
        · obtain ⟨⟨M', ks', dp', hs', hMM, hag⟩, fu, f88⟩ := hJ
          have hle' := hs'.le (by omega)
          have ekx := hag x c
          have fwu : FSr w u := hS.tr ((FSr.af f1).tr ⟨fun k a b d e f g => by exact fu k a d e, fun i _ a _ _ => f88 i a⟩)
          rw [f_M_searches_57, f88 24 (by decide), if_neg (by omega)]
          unfold f_M_searches_89
          refine kT_bind (me_opens hk (hM.sr fwu) hox.2.1 hox.2.2) (fun w3 h3 => ?_)
          have fw3 := fwu.tr (FSr.op h3.2)
          have d3 := h3.1.d hk hox.2.1 hox.2.2
          have e12' : w3 88 12 = r := by rw [fw3.2 12 (by decide) (by decide) (by decide) (by decide)]; exact h12
          have hmay := me_mayV hk (hM.sr fw3) e12' hr (k := 0) (Int.le_refl _) (by omega) (d3.1 0 (Int.le_refl _) (by omega))
          have e16 : w3 88 16 = cr K n (ks x) := h3.1.2
          have e95 : w3 95 0 = dg K (ks x) 0 := h3.1.1 0 (Int.le_refl _) (by omega)
          rw [e16, e95] at hmay
          refine kT_eq hmay ?_
          dsimp only
          rw [bi_ii]
          have h112 : ∀ z, (z = 0 ∨ z = 1) → z = dnA n e g K r (ks x) → kT (f_M_searches_112 (f_M_searches_35 m) (ks x) z x w3) (fun w' => ∃ M ks dp, mFd n e g K N r M ks dp w') := by
            intro z hz1 hz
            unfold f_M_searches_112
            rw [qstz_ok hox.2.1 (by omega) hz1, w32_ok (z := x + 1) (by omega) (by omega)]
            refine ih (x + 1) _ (by omega) (by omega) (by omega) (fw3.tr ⟨fun k _ _ _ _ a _ => qud_row a, fun i _ _ _ _ => qud_nk (by decide)⟩) ⟨M', ks', dp', ?_, fun i i0 i1 => ?_⟩
            · have hnx := hs'.1.nx (by omega) (by rw [ekx]; have := hL.1; omega)
              exact (show mSS (scA n e g K r) N M' (x + 1) 0 ks' dp' u from ⟨hnx, hs'.2⟩).co (by rw [qud_nk (by decide), h3.2.2 19 (by decide)]) (by rw [qud_row (by decide), h3.2.1 96 (by decide) (by decide)]) (by rw [qud_row (by decide), h3.2.1 97 (by decide) (by decide)])
            · rw [qud_if]
              by_cases u : i = x
              · rw [u, ekx, if_pos rfl, hz]
              · have hne : ks' i ≠ ks x := fun q => by
                  rw [← ekx] at q
                  exact u (hs'.1.1.2.1 i x i0 (by omega) x0 (by omega) q)
                rw [if_neg hne, h3.2.1 98 (by decide) (by decide), fu 98 (by decide) (by decide) (by decide), f1.1 98 (by decide) (by decide) (by decide), hag i (by omega)]
                exact h98 i i0 (by omega)
          refine kT_if (fun z => h112 0 (Or.inl rfl) ?_) (fun z => h112 1 (Or.inr rfl) ?_)
          · unfold dnA
            rw [if_pos z]
          · unfold dnA
            rw [if_neg z]
      · have hxM : x = M := by omega
        subst hxM
        exact kT_some ⟨x, ks, dp, ⟨hM.sr hS, by rw [hS.2 12 (by decide) (by decide) (by decide) (by decide)]; exact h12⟩, hss, h98⟩
  have h22 : ∀ w', FSr w w' → (∀ s, 0 ≤ s → s < 10240 → w' 96 s = -1) → kT (f_M_searches_22 w') (fun w' => ∃ M ks dp, mFd n e g K N r M ks dp w') := by
    intro w' hS hall
    unfold f_M_searches_22 f_M_finds
    rw [qlt_ok, qld_ok (by decide) (by decide), qud_nk (show (96 : Nat) ≠ 88 by decide), hall 0 (by decide) (by decide), if_pos rfl, qst_ok (by decide) (by decide), qud_nk (show (88 : Nat) ≠ 96 by decide), qud_s, qst_ok (by decide) (by decide), qlt_ok, qud_nk (show (88 : Nat) ≠ 97 by decide), qud_nk (show (88 : Nat) ≠ 96 by decide), qud_s, w32_ok (by decide) (by decide)]
    refine kT_eq rfl ?_
    refine h35 qFU 0 _ (by decide) (by decide) (qFU_gt (by decide)) (hS.tr ⟨fun k a b c d e f => by rw [qud_row a, qud_row d, qud_row c, qud_row a], fun i a b _ _ => by rw [qud_ni b, qud_nk (by decide), qud_nk (by decide), qud_ni b]⟩) ⟨1, fun _ => 0, fun _ => 0, ⟨SR.one rfl rfl, qud_s, fun i i0 i1 => ?_, fun s s0 s1 => ?_⟩, fun i a b => by omega⟩
    · have ei : i = 0 := by omega
      rw [ei, qud_nk (by decide), qud_s]
      exact ⟨rfl, Int.le_refl _, by show (0 : Int) < N; omega⟩
    · rw [qud_nk (by decide), qud_nk (by decide), qud_if]
      by_cases z : s = 0
      · rw [if_pos z]
        exact Or.inl ⟨⟨0, ⟨by decide, by decide⟩, z.symm⟩, rfl⟩
      · rw [if_neg z, qud_nk (by decide), hall s s0 (by omega)]
        exact Or.inr ⟨fun ⟨t, _, et⟩ => z et.symm, rfl⟩
  unfold f_M_searches
  refine kD_loop (σ := Unit) (N := 10240) (L := fun m x _ u => f_M_searches_2 m x u) (J := fun x _ u => FSr w u ∧ ∀ s, 0 ≤ s → s < x → u 96 s = -1) (fun m x _ u x0 x1 hJ ih => ?_) (fun m _ u hJ => ?_) (by omega) (by omega) () ⟨FSr.rfl', fun s a b => by omega⟩
  · rw [f_M_searches_2, if_pos x1, qst_ok x0 x1, w32_ok (z := x + 1) (by omega) (by omega)]
    refine ih () _ ⟨hJ.1.tr ⟨fun k _ _ a _ _ _ => qud_row a, fun j _ _ _ _ => qud_nk (by decide)⟩, fun s s0 s1 => ?_⟩
    rw [qud_if]
    split
    · rfl
    · exact hJ.2 s s0 (by omega)
  · rw [f_M_searches_2, if_neg (by decide)]
    exact h22 u hJ.1 hJ.2
/-! counted -/
theorem mFd.af (h : mFd n e g K N r M ks dp w) (hf : FAf w w') : mFd n e g K N r M ks dp w' := by
  refine ⟨⟨h.1.1.af hf, by rw [hf.2 12 (by decide) (by decide) (by decide)]; exact h.1.2⟩, h.2.1.co (hf.2 19 (by decide) (by decide) (by decide)) (hf.1 96 (by decide) (by decide) (by decide)) (hf.1 97 (by decide) (by decide) (by decide)), ?_⟩
  rw [hf.1 98 (by decide) (by decide) (by decide)]
  exact h.2.2
theorem mFd.wr {q : Nat} (h : mFd n e g K N r M ks dp w) (hq : q = 99 ∨ q = 100) : mFd n e g K N r M ks dp (qud w q x v) := by
  have e0 : ∀ k : Nat, k ≠ q → qud w q x v k = w k := fun k hk => qud_row hk
  refine ⟨⟨h.1.1.co (fun j _ _ _ _ => by rw [e0 88 (by omega)]), by rw [e0 88 (by omega)]; exact h.1.2⟩, h.2.1.co (by rw [e0 88 (by omega)]) (e0 96 (by omega)) (e0 97 (by omega)), ?_⟩
  rw [e0 98 (by omega)]
  exact h.2.2
theorem me_packetsV (hk : nek n e g K N) (hM : LM n e g K w) (s0 : 0 ≤ s) (s1 : s < N) (hs : LHs n K s w) : f_M_packetsIn w = some (hdA n g K s, w) ∧ 0 ≤ hdA n g K s ∧ hdA n g K s ≤ 12 := by
  have hb := hk.b
  have hd := hs.d hk s0 s1
  have hin : ∀ x, 0 ≤ x → x ≤ n → 0 ≤ cV (fun v => lq g (dg K s v)) x ∧ cV (fun v => lq g (dg K s v)) x ≤ 3 * x := fun x x0 x1 => by
    have := smN_in (f := fun v => lq g (dg K s v)) (a := 0) (b := 3) x.toNat (fun i hi => by
      have t : 0 ≤ lq g (dg K s i) ∧ lq g (dg K s i) ≤ e := (qtb_of hk (dg_in hk).1 (dg_in hk).2).1.1
      omega)
    rw [show ((x.toNat : Nat) : Int) = x by omega, Int.zero_mul] at this
    exact this
  refine ⟨?_, by have := hin n (by omega) (Int.le_refl _); unfold hdA; omega⟩
  unfold f_M_packetsIn
  refine vL (V := fun x => cV (fun v => lq g (dg K s v)) x) (N := n) (L := fun m x s => f_M_packetsIn_4 m s x w) (fun m x x0 x1 => ?_) (fun m => ?_) (by omega) (by omega) rfl
  · have hv := hd.1 x x0 x1
    have ev : w 95 x = dg K s x := hs.1 x x0 x1
    have h1 := hin x x0 (by omega)
    have t : 0 ≤ lq g (dg K s x) ∧ lq g (dg K s x) ≤ e := (qtb_of hk (dg_in hk).1 (dg_in hk).2).1.1
    rw [cV_s x0, f_M_packetsIn_4, hM.1.1, if_pos x1, qld_ok x0 (by omega), w32_ok (z := x + 1) (by omega) (by omega), qbd (me_long hM.2.1 hb.2.2.1 hv.1 (by omega)), ev]
    dsimp only
    rw [w32_ok (by omega) (by omega)]
  · rw [f_M_packetsIn_4, hM.1.1, if_neg (by omega)]
    rfl
theorem me_isDeadV (hk : nek n e g K N) (hM : LM n e g K w) (h12 : w 88 12 = r) (hr : 0 ≤ r ∧ r ≤ 2) (s0 : 0 ≤ s) (s1 : s < N) : kT (f_M_isDeadState s w) (fun q => q.1 = ddA n e g K r s ∧ FAf w q.2) := by
  unfold f_M_isDeadState
  refine kT_bind (me_afterV0 hk hM h12 hr s0 s1) (fun w1 h1 => ?_)
  obtain ⟨⟨⟨m1, -, f1⟩, -⟩, h25⟩ := h1
  refine kT_bind (me_opens hk m1 s0 s1) (fun w2 h2 => ?_)
  have f2 : FAf w w2 := f1.tr (FAf.op h2.2)
  refine kT_eq (me_packetsV hk (hM.af f2) s0 s1 h2.1).1 ?_
  dsimp only
  have e25 : w2 88 25 = ((plA n e g K r s).length : Int) := by rw [h2.2.2 25 (by decide)]; exact h25
  refine kT_if (fun c => kT_some ⟨?_, f2⟩) (fun c => kT_if (fun c2 => kT_some ⟨?_, f2⟩) (fun c2 => kT_some ⟨?_, f2⟩))
  · unfold ddA
    rw [if_neg (by omega)]
  · have c2 : w2 88 25 = 0 := c2
    unfold ddA
    rw [if_pos ⟨by omega, by omega⟩]
  · have c2 : ¬ w2 88 25 = 0 := c2
    unfold ddA
    rw [if_neg (by omega)]
def cFA (n e g K r x s : Int) : Int := if x = 1 then (if hdA n g K s = n * e then 1 else 0) else if x = 2 then ddA n e g K r s else if x = 5 then dnA n e g K r s else 0
theorem ddA_01 : ddA n e g K r s = 0 ∨ ddA n e g K r s = 1 := by
  unfold ddA
  split
  · exact Or.inr rfl
  · exact Or.inl rfl
theorem dnA_01 : dnA n e g K r s = 0 ∨ dnA n e g K r s = 1 := by
  unfold dnA
  split
  · exact Or.inl rfl
  · exact Or.inr rfl
theorem cFA_01 : 0 ≤ cFA n e g K r x s ∧ cFA n e g K r x s ≤ 1 := by
  have h1 := ddA_01 (n := n) (e := e) (g := g) (K := K) (r := r) (s := s)
  have h2 := dnA_01 (n := n) (e := e) (g := g) (K := K) (r := r) (s := s)
  unfold cFA
  split
  · split <;> omega
  · split
    · omega
    · split <;> omega
theorem me_countV (hk : nek n e g K N) (hr : 0 ≤ r ∧ r ≤ 2) (h : mFd n e g K N r M ks dp w) : kT (f_M_countOf x w) (fun q => (x ≠ 4 → q.1 = cV (fun i => cFA n e g K r x (ks i)) M) ∧ (x = 4 → Mx 0 (fun i => hdA n g K (ks i)) M q.1)) := by
  have hb := hk.b
  have hle := h.2.1.le (by omega)
  have main : ∀ (m : Nat) (a c y : Int) (u : qMem), 0 ≤ y → y ≤ M → M - y < m → mFd n e g K N r M ks dp u → a = cV (fun i => cFA n e g K r x (ks i)) y → Mx 0 (fun i => hdA n g K (ks i)) y c → kT (f_M_countOf_7 m x a c y u) (fun q => (x ≠ 4 → q.1 = cV (fun i => cFA n e g K r x (ks i)) M) ∧ (x = 4 → Mx 0 (fun i => hdA n g K (ks i)) M q.1)) := by
    intro m
    induction m with
    | zero => intro a c y u _ _ _; omega
    | succ m ih =>
      intro a c y u y0 y1 hm h ha hc
      have h19 := h.2.1.2.1
      rw [f_M_countOf_7, h19]
      refine kT_if (fun cy => ?_) (fun cy => ?_)
      · have ho := h.2.1.2.2.1 y y0 cy
        rw [qld_ok y0 (by omega), ho.1]
        refine kT_bind (me_opens hk h.1.1 ho.2.1 ho.2.2) (fun w1 h1 => ?_)
        have g1 := h.af (FAf.op h1.2)
        have e97 : w1 97 = u 97 := h1.2.1 97 (by decide) (by decide)
        have hp := me_packetsV hk g1.1.1 ho.2.1 ho.2.2 h1.1
        refine kT_eq hp.1 ?_
        have hcb := smN_in (f := fun i => cFA n e g K r x (ks i)) (a := 0) (b := 1) y.toNat (fun _ _ => cFA_01)
        rw [show ((y.toNat : Nat) : Int) = y by omega, Int.zero_mul] at hcb
        have hcb' : 0 ≤ cV (fun i => cFA n e g K r x (ks i)) y ∧ cV (fun i => cFA n e g K r x (ks i)) y ≤ 1 * y := hcb
        have h120 : ∀ z u', z = cFA n e g K r x (ks y) → mFd n e g K N r M ks dp u' → kT (f_M_countOf_120 (f_M_countOf_7 m) a z x (if c < hdA n g K (ks y) then hdA n g K (ks y) else c) y u') (fun q => (x ≠ 4 → q.1 = cV (fun i => cFA n e g K r x (ks i)) M) ∧ (x = 4 → Mx 0 (fun i => hdA n g K (ks i)) M q.1)) := by
          intro z u' hz hu
          have hz01 := cFA_01 (n := n) (e := e) (g := g) (K := K) (r := r) (x := x) (s := ks y)
          unfold f_M_countOf_120
          rw [w32_ok (z := y + 1) (by omega) (by omega), w32_ok (z := a + z) (by omega) (by omega)]
          refine ih _ _ (y + 1) u' (by omega) (by omega) (by omega) hu ?_ (hc.s y0)
          rw [cV_s y0, ha, hz]
        have e10 : w1 88 10 = n := g1.1.1.1.1
        have e11 : w1 88 11 = e := g1.1.1.1.2
        have hne : w32 (n * e) = n * e := by
          refine w32_ok ?_ ?_
          · have := Int.mul_nonneg (show 0 ≤ n by omega) (show 0 ≤ e by omega)
            omega
          · rcases (by omega : n = 2 ∨ n = 3 ∨ n = 4) with rfl | rfl | rfl <;> omega
        dsimp only
        refine kT_if (fun c1 => kT_if (fun c2 => h120 1 w1 ?_ g1) (fun c2 => h120 0 w1 ?_ g1)) (fun c1 => kT_if (fun c2 => ?_) (fun c2 => kT_if (fun c5 => ?_) (fun c5 => h120 0 w1 ?_ g1)))
        · have c2 : hdA n g K (ks y) = w32 (w1 88 10 * w1 88 11) := c2
          rw [e10, e11, hne] at c2
          unfold cFA
          rw [if_pos c1, if_pos c2]
        · have c2 : ¬ hdA n g K (ks y) = w32 (w1 88 10 * w1 88 11) := c2
          rw [e10, e11, hne] at c2
          unfold cFA
          rw [if_pos c1, if_neg c2]
        · rw [qld_ok y0 (by omega), e97, ho.1]
          refine kT_bind (me_isDeadV hk g1.1.1 g1.1.2 hr ho.2.1 ho.2.2) (fun q hq => ?_)
          refine kT_if (fun z => h120 0 q.2 ?_ (g1.af hq.2)) (fun z => h120 1 q.2 ?_ (g1.af hq.2))
          · unfold cFA
            rw [if_neg c1, if_pos c2, ← hq.1, z]
          · unfold cFA
            rw [if_neg c1, if_pos c2]
            have := ddA_01 (n := n) (e := e) (g := g) (K := K) (r := r) (s := ks y)
            have := hq.1
            omega
        · rw [qld_ok y0 (by omega), e97, ho.1, qld_ok ho.2.1 (by omega), g1.2.2 y y0 cy]
          refine kT_if (fun z => h120 0 w1 ?_ g1) (fun z => h120 1 w1 ?_ g1)
          · unfold cFA
            rw [if_neg c1, if_neg c2, if_pos c5, z]
          · unfold cFA
            rw [if_neg c1, if_neg c2, if_pos c5]
            have := dnA_01 (n := n) (e := e) (g := g) (K := K) (r := r) (s := ks y)
            omega
        · unfold cFA
          rw [if_neg c1, if_neg c2, if_neg c5]
      · have hyM : y = M := by omega
        subst hyM
        unfold f_M_countOf_128
        exact kT_if (fun z => kT_some ⟨fun q => absurd z q, fun _ => hc⟩) (fun z => kT_some ⟨fun _ => ha, fun q => absurd q z⟩)
  have hM0 := h.2.1.1.1.1
  unfold f_M_countOf
  exact main qFU 0 0 0 w (by decide) (by omega) (qFU_gt (by omega)) h rfl Mx.z
theorem me_soonV (hk : nek n e g K N) (hr : 0 ≤ r ∧ r ≤ 2) (h : mFd n e g K N r M ks dp w) : kT (f_M_soonestDead w) (fun q => (q.1 = -1 ∧ ∀ i, 0 ≤ i → i < M → ddA n e g K r (ks i) ≠ 1) ∨ ((∃ i, (0 ≤ i ∧ i < M) ∧ ddA n e g K r (ks i) = 1 ∧ dp (ks i) = q.1) ∧ ∀ i, 0 ≤ i → i < M → ddA n e g K r (ks i) = 1 → q.1 ≤ dp (ks i))) := by
  have hb := hk.b
  have hle := h.2.1.le (by omega)
  have main : ∀ (m : Nat) (x : Int) (u : qMem), 0 ≤ x → x ≤ M → M - x < m → mFd n e g K N r M ks dp u → (∀ i, 0 ≤ i → i < x → ddA n e g K r (ks i) ≠ 1) → kT (f_M_soonestDead_2 m x u) (fun q => (q.1 = -1 ∧ ∀ i, 0 ≤ i → i < M → ddA n e g K r (ks i) ≠ 1) ∨ ((∃ i, (0 ≤ i ∧ i < M) ∧ ddA n e g K r (ks i) = 1 ∧ dp (ks i) = q.1) ∧ ∀ i, 0 ≤ i → i < M → ddA n e g K r (ks i) = 1 → q.1 ≤ dp (ks i))) := by
    intro m
    induction m with
    | zero => intro x u _ _ _; omega
    | succ m ih =>
      intro x u x0 x1 hm h hno
      have h19 := h.2.1.2.1
      rw [f_M_soonestDead_2, h19]
      refine kT_if (fun c => ?_) (fun c => kT_some (Or.inl ⟨rfl, fun i i0 i1 => hno i i0 (by omega)⟩))
      have ho := h.2.1.2.2.1 x x0 c
      rw [qld_ok x0 (by omega), w32_ok (z := x + 1) (by omega) (by omega), ho.1]
      refine kT_bind (me_isDeadV hk h.1.1 h.1.2 hr ho.2.1 ho.2.2) (fun q hq => ?_)
      have g1 := h.af hq.2
      have hd1 := ddA_01 (n := n) (e := e) (g := g) (K := K) (r := r) (s := ks x)
      refine kT_if (fun z => ih (x + 1) _ (by omega) (by omega) (by omega) g1 (fun i i0 i1 => ?_)) (fun z => ?_)
      · by_cases u : i = x
        · rw [u, ← hq.1, z]; decide
        · exact hno i i0 (by omega)
      · have hdx : ddA n e g K r (ks x) = 1 := by
          have := hq.1
          omega
        have e96 : q.2 96 (ks x) = dp (ks x) := by
          rcases g1.2.1.2.2.2 (ks x) ho.2.1 ho.2.2 with ⟨-, z⟩ | ⟨z, -⟩
          · exact z
          · exact absurd ⟨x, ⟨x0, c⟩, rfl⟩ z
        unfold f_M_soonestDead_23
        rw [qld_ok x0 (by omega), (g1.2.1.2.2.1 x x0 c).1, qld_ok ho.2.1 (by omega), e96]
        refine kT_some (Or.inr ⟨⟨x, ⟨x0, c⟩, hdx, rfl⟩, fun i i0 i1 hi => ?_⟩)
        have hix : x ≤ i := Decidable.by_contra fun u => hno i i0 (by omega) hi
        exact h.2.1.1.2.2.1.1 x i x0 hix i1
  have hM0 := h.2.1.1.1.1
  unfold f_M_soonestDead
  exact main qFU 0 w (by decide) (by omega) (qFU_gt (by omega)) h (fun i a b => by omega)
end AX
