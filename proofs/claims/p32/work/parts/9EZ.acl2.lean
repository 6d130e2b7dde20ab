/-! one ring alone, the class: all states are searched, weighed -/
def cSS (g K n : Int) (sc : Int → List Int) (N M x : Int) (j : Nat) (ks dp : Int → Int) (w : qMem) : Prop := SR sc M x j ks dp ∧ w 81 13 = M ∧ (∀ i, 0 ≤ i → i < M → w 102 i = fC g K n (ks i) ∧ 0 ≤ ks i ∧ ks i < N) ∧ ∀ s, 0 ≤ s → s < N → (fnd M ks s ∧ w 103 (fC g K n s) = dp s) ∨ (¬ fnd M ks s ∧ w 103 (fC g K n s) = -1)
def cFd (n e g K N r M : Int) (ks : Int → Int) (w : qMem) : Prop := LV n e g K r w ∧ w 81 13 = M ∧ ∀ i, 0 ≤ i → i < M → w 102 i = fC g K n (ks i) ∧ 0 ≤ ks i ∧ ks i < N
def cSm (w w' : qMem) : Prop := w' 82 = w 82 ∧ w' 83 = w 83
section BA
variable {sc : Int → List Int} {ks ks' dp dp' W : Int → Int} {w w' w0 w1 w2 : qMem} {n e g K N M k x y l s v b p c r cnt t a z : Int} {i j m : Nat} {L : List Int}
theorem cSm.rfl' : cSm w w := ⟨rfl, rfl⟩
theorem cSm.tr (h : cSm w w') (h2 : cSm w' w2) : cSm w w2 := ⟨h2.1.trans h.1, h2.2.trans h.2⟩
theorem cSm.xo (h : LXo w w') : cSm w w' := ⟨h.1 82 (by decide) (by decide) (by decide) (by decide), h.1 83 (by decide) (by decide) (by decide) (by decide)⟩
theorem cSm.wr {q : Nat} (hq : q ≠ 82 ∧ q ≠ 83) : cSm w (qud w q x v) := ⟨qud_row (Ne.symm hq.1), qud_row (Ne.symm hq.2)⟩
theorem cSS.xo (h : cSS g K n sc N M x j ks dp w) (hx : LXo w w') : cSS g K n sc N M x j ks dp w' := by
  unfold cSS at h ⊢
  rw [hx.2 13 (by decide) (by decide) (by decide), hx.1 102 (by decide) (by decide) (by decide) (by decide), hx.1 103 (by decide) (by decide) (by decide) (by decide)]
  exact h
theorem cSS.le (h : cSS g K n sc N M x j ks dp w) (N0 : 0 ≤ N) : M ≤ N := by
  have hB := h.1.1
  exact fnd_le (by omega) N0 hB.2.1 (fun i i0 i1 => (h.2.2.1 i i0 i1).2)
theorem LV.wr {q : Nat} (hV : LV n e g K r w) (hq : q ≠ 81 ∧ q ≠ 86) : LV n e g K r (qud w q x v) := by
  unfold LV
  rw [qud_row (Ne.symm hq.1), qud_row (Ne.symm hq.2)]
  exact hV
theorem LV.w13 (hV : LV n e g K r w) : LV n e g K r (qud w 81 13 v) := by
  unfold LV
  rw [qud_ni (by decide), qud_ni (by decide), qud_ni (by decide), qud_ni (by decide), qud_ni (by decide), qud_ni (by decide), qud_row (show (86 : Nat) ≠ 81 by decide)]
  exact hV
theorem cFd.xo (h : cFd n e g K N r M ks w) (hx : LXo w w') : cFd n e g K N r M ks w' := ⟨h.1.xo hx, by rw [hx.2 13 (by decide) (by decide) (by decide)]; exact h.2.1, by rw [hx.1 102 (by decide) (by decide) (by decide) (by decide)]; exact h.2.2⟩
theorem cFd.wr {q : Nat} (h : cFd n e g K N r M ks w) (hq : q ≠ 81 ∧ q ≠ 86 ∧ q ≠ 102) : cFd n e g K N r M ks (qud w q x v) := ⟨h.1.wr ⟨hq.1, hq.2.1⟩, by rw [qud_row (Ne.symm hq.1)]; exact h.2.1, by rw [qud_row (Ne.symm hq.2.2)]; exact h.2.2⟩
theorem l_exploreV (hk : nek n e g K N) (hr : 0 ≤ r ∧ r ≤ 2) (hV : LV n e g K r w) : kT (f_L_explore w) (fun w' => ∃ M ks dp, (LV n e g K r w' ∧ cSS g K n (scA n e g K r) N M M 0 ks dp w') ∧ cSm w w') := by
  have hb := hk.b
  have h29 : ∀ (m : Nat) (x : Int) (w' : qMem), 0 ≤ x → x ≤ 10126 → 10127 - x < m → LV n e g K r w' → cSm w w' → (∃ M ks dp, cSS g K n (scA n e g K r) N M x 0 ks dp w') → kT (f_L_explore_29 m x w') (fun w' => ∃ M ks dp, (LV n e g K r w' ∧ cSS g K n (scA n e g K r) N M M 0 ks dp w') ∧ cSm w w') := by
    intro m
    induction m with
    | zero => intro x w' _ _ _ _ _ _; omega
    | succ m ih =>
      intro x w' x0 x1 hm hVw hSm hJ
      obtain ⟨M, ks, dp, hss⟩ := hJ
      have hle := hss.le (by omega)
      have h13 := hss.2.1
      have hMx := hss.1.1.1
      rw [f_L_explore_29, h13]
      refine kT_if (fun c => ?_) (fun c => ?_)
      · have hox := hss.2.2.1 x x0 c
        rw [if_pos (show x < 10125 by omega), if_pos hVw.2.2.1, qld_ok x0 (by omega), hox.1]
        refine kT_bind (l_openV hk hVw hox.2.1 hox.2.2) (fun w1 h1 => ?_)
        obtain ⟨hO1, hx1⟩ := h1
        have hV1 := hVw.xo hx1
        refine kT_bind (l_stepsV hk hr hox.2.1 hox.2.2 hV1 hO1) (fun w2 h2 => ?_)
        obtain ⟨⟨⟨hV2, hO2, hx2⟩, hL⟩, -⟩ := h2
        have hlen := scA_len (r := r) (s := ks x) hk
        have hsc := (sc_in hk hr hox.2.1 hox.2.2).1
        have hss2 := (hss.xo hx1).xo hx2.xo
        have hSm2 := (hSm.tr (cSm.xo hx1)).tr (cSm.xo hx2.xo)
        have hfx := fC_in hk hox.2.1 hox.2.2
        refine kD_loop (σ := Unit) (N := ((scA n e g K r (ks x)).length : Int)) (L := fun m' y _ u => f_L_explore_63 (f_L_explore_29 m) m' x (fC g K n (ks x)) y u) (J := fun y _ u => (∃ M' ks' dp', cSS g K n (scA n e g K r) N M' x y.toNat ks' dp' u ∧ M ≤ M' ∧ ∀ i, i < M → ks' i = ks i) ∧ (LV n e g K r u ∧ inL (u 87) (u 81 14) (scA n e g K r (ks x)) (fun a => fC g K n a)) ∧ cSm w u) (fun m' y _ u y0 y1 hJ ih' => ?_) (fun m' _ u hJ => ?_) (by omega) (by omega) () ⟨⟨M, ks, dp, hss2, Int.le_refl _, fun _ _ => rfl⟩, ⟨hV2, hL⟩, hSm2⟩
        · obtain ⟨⟨M', ks', dp', hs', hMM, hag⟩, ⟨hVu, hLu⟩, hSu⟩ := hJ
          have hle' := hs'.le (by omega)
          have hyl : y.toNat < (scA n e g K r (ks x)).length := by omega
          have e87 : u 87 y = fC g K n ((scA n e g K r (ks x)).getD y.toNat 0) := by
            have := hLu.2 y.toNat hyl
            rw [show ((y.toNat : Nat) : Int) = y by omega] at this
            exact this
          have hbi := hsc _ ⟨y.toNat, hyl, rfl⟩
          have hfb := fC_in hk hbi.1 hbi.2
          have ekx := hag x c
          have hMx' := hs'.1.1.1
          have e103 : u 103 (fC g K n (ks x)) = dp' (ks x) := by
            rcases hs'.2.2.2 (ks x) hox.2.1 hox.2.2 with ⟨-, z⟩ | ⟨z, -⟩
            · exact z
            · exact absurd ⟨x, ⟨x0, by omega⟩, ekx⟩ z
          have hd0 := hs'.1.2.2.2.2 x x0 (by omega)
          have hd1 := hs'.1.dpi (x + 1).toNat x x0 (by omega) (by omega)
          rw [ekx] at hd0 hd1
          have h14 := hLu.1
          have hyl' : y.toNat < (scA n e g K r (ks' x)).length := by rw [ekx]; exact hyl
          rw [f_L_explore_63, if_pos (show y < u 81 14 by omega), if_pos hVu.2.2.2, qld_ok y0 (by omega), e87, qld_ok hfb.1 (by omega), w32_ok (z := y + 1) (by omega) (by omega)]
          have htab := hs'.2.2.2 _ hbi.1 hbi.2
          refine kT_if (fun cz => ?_) (fun cz => ?_)
          · have hnf : ¬ fnd M' ks' ((scA n e g K r (ks x)).getD y.toNat 0) := fun hf => by
              rcases htab with ⟨-, z⟩ | ⟨z, -⟩
              · obtain ⟨t, ⟨t0, t1⟩, et⟩ := hf
                have := hs'.1.2.2.2.2 t t0 t1
                rw [et] at this
                omega
              · exact z hf
            have hnf' : ¬ fnd M' ks' ((scA n e g K r (ks' x)).getD y.toNat 0) := by rw [ekx]; exact hnf
            have B' := hs'.1.new (ks' := fun i => if i = M' then (scA n e g K r (ks x)).getD y.toNat 0 else ks' i) (dp' := fun a => if a = (scA n e g K r (ks x)).getD y.toNat 0 then dp' (ks x) + 1 else dp' a) (by omega) hyl' hnf' (fun i => by rw [ekx]) (fun a => by rw [ekx])
            generalize (scA n e g K r (ks x)).getD y.toNat 0 = b at *
            have hlt : M' + 1 ≤ N := fnd_le (by omega) (by omega) B'.1.2.1 (fun i i0 i1 => by
              by_cases z : i = M'
              · rw [if_pos z]; exact hbi
              · rw [if_neg z]; exact (hs'.2.2.1 i i0 (by omega)).2)
            have h13u := hs'.2.1
            rw [h13u, if_pos (show M' < 10125 by omega), if_pos hVu.2.2.2, qld_ok y0 (by omega), e87, if_pos hVu.2.2.2, qld_ok hfx.1 (by omega), e103, w32_ok (z := dp' (ks x) + 1) (by omega) (by omega)]
            refine kT_st hfb.1 (by omega) ?_
            rw [qud_nk (show (81 : Nat) ≠ 103 by decide), if_pos hVu.2.2.1, qld_ok y0 (by omega), qud_nk (show (87 : Nat) ≠ 103 by decide), e87, qud_nk (show (81 : Nat) ≠ 103 by decide), h13u]
            refine kT_st (by omega) (by omega) ?_
            rw [qlt_ok, qud_nk (show (81 : Nat) ≠ 102 by decide), qud_nk (show (81 : Nat) ≠ 103 by decide), h13u, w32_ok (z := M' + 1) (by omega) (by omega)]
            refine ih' () _ ⟨⟨M' + 1, _, _, ⟨by rw [show (y + 1).toNat = y.toNat + 1 by omega]; exact B', qud_s, fun i i0 i1 => ?_, fun s s0 s1 => ?_⟩, by omega, fun i i1 => ?_⟩, ⟨((hVu.wr (by decide)).wr (by decide)).w13, ?_⟩, ((hSu.tr (cSm.wr (by decide))).tr (cSm.wr (by decide))).tr (cSm.wr (by decide))⟩
            · rw [qud_nk (by decide), qud_if, qud_nk (by decide)]
              by_cases z : i = M'
              · rw [if_pos z, if_pos z]; exact ⟨rfl, hbi⟩
              · rw [if_neg z, if_neg z]
                exact hs'.2.2.1 i i0 (by omega)
            · rw [qud_nk (by decide), qud_nk (by decide), qud_if]
              by_cases z : s = b
              · rw [if_pos (by rw [z]), if_pos z]
                exact Or.inl ⟨⟨M', ⟨by omega, by omega⟩, by show (if M' = M' then b else ks' M') = s; rw [if_pos rfl, z]⟩, rfl⟩
              · rw [if_neg (fun q => z (fC_inj hk q)), if_neg z]
                rcases hs'.2.2.2 s s0 s1 with ⟨⟨t, ⟨t0, t1⟩, et⟩, z1⟩ | ⟨z1, z2⟩
                · exact Or.inl ⟨⟨t, ⟨t0, by omega⟩, by show (if t = M' then b else ks' t) = s; rw [if_neg (by omega)]; exact et⟩, z1⟩
                · refine Or.inr ⟨fun ⟨t, ⟨t0, t1⟩, et⟩ => ?_, z2⟩
                  have et : (if t = M' then b else ks' t) = s := et
                  by_cases u : t = M'
                  · rw [if_pos u] at et
                    exact z et.symm
                  · rw [if_neg u] at et
                    exact z1 ⟨t, ⟨t0, by omega⟩, et⟩
            · rw [if_neg (by omega)]
              exact hag i i1
            · rw [qud_row (show (87 : Nat) ≠ 81 by decide), qud_row (show (87 : Nat) ≠ 102 by decide), qud_row (show (87 : Nat) ≠ 103 by decide), qud_ni (show (14 : Int) ≠ 13 by decide), qud_nk (show (81 : Nat) ≠ 102 by decide), qud_nk (show (81 : Nat) ≠ 103 by decide)]
              exact hLu
          · have hf : fnd M' ks' ((scA n e g K r (ks' x)).getD y.toNat 0) := by
              rw [ekx]
              rcases htab with ⟨z, -⟩ | ⟨-, z⟩
              · exact z
              · exact absurd z cz
            refine ih' () u ⟨⟨M', ks', dp', ⟨?_, hs'.2⟩, hMM, hag⟩, ⟨hVu, hLu⟩, hSu⟩
            rw [show (y + 1).toNat = y.toNat + 1 by omega]
            exact hs'.1.old (by omega) hyl' hf
        · obtain ⟨⟨M', ks', dp', hs', hMM, hag⟩, ⟨hVu, hLu⟩, hSu⟩ := hJ
          have hle' := hs'.le (by omega)
          have ekx := hag x c
          rw [f_L_explore_63, if_neg (by rw [hLu.1]; omega), w32_ok (z := x + 1) (by omega) (by omega)]
          refine ih (x + 1) u (by omega) (by omega) (by omega) hVu hSu ⟨M', ks', dp', ?_, hs'.2⟩
          exact hs'.1.nx (by omega) (by rw [ekx]; omega)
      · have hxM : x = M := by omega
        subst hxM
        exact kT_some ⟨x, ks, dp, ⟨hVw, hss⟩, hSm⟩
  have f0 := fC_0 hk
  unfold f_L_explore
  rw [if_pos hV.2.2.2]
  refine kT_bind (j_fill2 (by decide) (by decide)) (fun w1 hw1 => ?_)
  have r1 : ∀ k : Nat, k ≠ 103 → w1 k = w k := fun k hk => by
    funext i
    rw [hw1, if_neg (fun z => hk z.1)]
  have hV1 : LV n e g K r w1 := by
    unfold LV
    rw [r1 81 (by decide), r1 86 (by decide)]
    exact hV
  rw [if_pos hV1.2.2.1, qst_ok (by decide) (by decide), qud_nk (show (81 : Nat) ≠ 102 by decide), if_pos hV1.2.2.2, qst_ok (by decide) (by decide), qlt_ok]
  refine h29 qFU 0 _ (by decide) (by decide) (qFU_gt (by decide)) (((hV1.wr (by decide)).wr (by decide)).w13) ((((show cSm w w1 from ⟨r1 82 (by decide), r1 83 (by decide)⟩).tr (cSm.wr (by decide))).tr (cSm.wr (by decide))).tr (cSm.wr (by decide))) ⟨1, fun _ => 0, fun _ => 0, SR.one rfl rfl, qud_s, fun i i0 i1 => ?_, fun s s0 s1 => ?_⟩
  · have ei : i = 0 := by omega
    rw [ei, qud_nk (by decide), qud_nk (by decide), qud_s, f0]
    exact ⟨rfl, Int.le_refl _, by show (0 : Int) < N; omega⟩
  · have hfs := fC_in hk s0 s1
    rw [qud_nk (by decide), qud_if]
    by_cases z : s = 0
    · rw [if_pos (by rw [z, f0])]
      exact Or.inl ⟨⟨0, ⟨by decide, by decide⟩, z.symm⟩, rfl⟩
    · rw [if_neg (fun q => z (fC_inj hk (by rw [q, f0]))), qud_nk (by decide), hw1, if_pos ⟨rfl, hfs.1, by omega⟩]
      exact Or.inr ⟨fun ⟨t, _, et⟩ => z et.symm, rfl⟩
/-- one state is weighed -/
def cWg (n e g K r s d a : Int) (w w' : qMem) : Prop := (∀ i, i < a + 1 ∨ a + 5 < i → w' 82 i = w 82 i) ∧ (w' 82 (a + 1) = w 82 (a + 1) + (if hdA n g K s = n * e then 1 else 0) ∧ w' 82 (a + 2) = w 82 (a + 2) + ddA n e g K r s) ∧ (w' 82 (a + 3) = if ddA n e g K r s = 1 ∧ (w 82 (a + 3) = -1 ∨ d < w 82 (a + 3)) then d else w 82 (a + 3)) ∧ (w' 82 (a + 4) = if w 82 (a + 4) < hdA n g K s then hdA n g K s else w 82 (a + 4)) ∧ w' 82 (a + 5) = w 82 (a + 5) + dnA n e g K r s
theorem hdA_in (hk : nek n e g K N) : 0 ≤ hdA n g K s ∧ hdA n g K s ≤ 12 := by
  have hb := hk.b
  have := smN_in (f := fun v => lq g (dg K s v)) (a := 0) (b := 3) n.toNat (fun i hi => by
    have t : 0 ≤ lq g (dg K s i) ∧ lq g (dg K s i) ≤ e := (qtb_of hk (dg_in hk).1 (dg_in hk).2).1.1
    omega)
  rw [show ((n.toNat : Nat) : Int) = n by omega, Int.zero_mul] at this
  have h2 : 0 ≤ hdA n g K s ∧ hdA n g K s ≤ 3 * n := this
  omega
theorem l_weighV (hk : nek n e g K N) (hr : 0 ≤ r ∧ r ≤ 2) (hV : LV n e g K r w) (s0 : 0 ≤ s) (s1 : s < N) (a0 : 0 ≤ a) (a1 : a + 7 < 168) (hd : w 103 (fC g K n s) = t) (b1 : 0 ≤ w 82 (a + 1) ∧ w 82 (a + 1) < 20000) (b2 : 0 ≤ w 82 (a + 2) ∧ w 82 (a + 2) < 20000) (b5 : 0 ≤ w 82 (a + 5) ∧ w 82 (a + 5) < 20000) : kT (f_L_weigh (fC g K n s) a w) (fun w' => (∃ w1, LXo w w1 ∧ ∀ k : Nat, k ≠ 82 → w' k = w1 k) ∧ cWg n e g K r s t a w w') := by
  have hb := hk.b
  have hfs := fC_in hk s0 s1
  have hh := hdA_in (s := s) hk
  have hdn := dnA_01 (n := n) (e := e) (g := g) (K := K) (r := r) (s := s)
  unfold f_L_weigh
  refine kT_bind (l_openV hk hV s0 s1) (fun w1 h1 => ?_)
  obtain ⟨hO1, hx1⟩ := h1
  refine kT_bind (l_stepsV hk hr s0 s1 (hV.xo hx1) hO1) (fun w2 h2 => ?_)
  obtain ⟨⟨⟨hV2, hO2, hx2⟩, hL⟩, e15⟩ := h2
  have hx := hx1.tr hx2.xo
  have e82 : w2 82 = w 82 := hx.1 82 (by decide) (by decide) (by decide) (by decide)
  have e103 : w2 103 (fC g K n s) = t := by rw [hx.1 103 (by decide) (by decide) (by decide) (by decide)]; exact hd
  have hql : 0 ≤ lq g (dg K s 0) ∧ lq g (dg K s 0) ≤ e := (qtb_of hk (dg_in hk).1 (dg_in hk).2).1.1
  have hV' : ∀ u : qMem, (∀ k : Nat, k ≠ 82 → u k = w2 k) → LV n e g K r u ∧ LOp n g K s u := fun u hu => by
    refine ⟨?_, ?_⟩
    · unfold LV
      rw [hu 81 (by decide), hu 86 (by decide)]
      exact hV2
    · unfold LOp
      rw [hu 84 (by decide), hu 85 (by decide), hu 81 (by decide)]
      exact hO2
  -- the most packets, is it denied
  have h131 : ∀ u : qMem, (∀ k : Nat, k ≠ 82 → u k = w2 k) → (0 ≤ u 82 (a + 5) ∧ u 82 (a + 5) < 20000) → kT (f_L_weigh_131 a (hdA n g K s) u) (fun w' => (∀ k : Nat, k ≠ 82 → w' k = w2 k) ∧ (∀ i, i ≠ a + 4 → i ≠ a + 5 → w' 82 i = u 82 i) ∧ (w' 82 (a + 4) = if u 82 (a + 4) < hdA n g K s then hdA n g K s else u 82 (a + 4)) ∧ w' 82 (a + 5) = u 82 (a + 5) + dnA n e g K r s) := by
    intro u hu hb5
    have hVO := hV' (qud u 82 (a + 4) (if u 82 (a + 4) < hdA n g K s then hdA n g K s else u 82 (a + 4))) (fun k hk => by rw [qud_row hk]; exact hu k hk)
    unfold f_L_weigh_131
    rw [w32_ok (z := a + 4) (by omega) (by omega), w32_ok (z := a + 5) (by omega) (by omega), qld_ok (by omega) (by omega)]
    refine kT_st (by omega) (by omega) ?_
    refine kT_eq (l_ruleV hVO.1 hVO.2 (by omega) (by omega) hql (Int.le_refl _) (by omega)) ?_
    dsimp only
    rw [bi_ii]
    refine kT_if (fun c => kT_some ⟨fun k hk => by rw [qud_row hk]; exact hu k hk, fun i a _ => qud_ni a, qud_s, ?_⟩) (fun c => ?_)
    · unfold dnA
      rw [if_pos c, qud_ni (by omega), Int.add_zero]
    · rw [qld_ok (by omega) (by omega), qud_ni (show a + 5 ≠ a + 4 by omega), w32_ok (z := u 82 (a + 5) + 1) (by omega) (by omega)]
      refine kT_st (by omega) (by omega) ?_
      refine kT_some ⟨fun k hk => by rw [qud_row hk, qud_row hk]; exact hu k hk, fun i a b => by rw [qud_ni b, qud_ni a], by rw [qud_ni (by omega), qud_s], ?_⟩
      unfold dnA
      rw [if_neg c, qud_s]
  have h65 : ∀ u : qMem, (∀ k : Nat, k ≠ 82 → u k = w2 k) → (0 ≤ u 82 (a + 5) ∧ u 82 (a + 5) < 20000) → (0 ≤ u 82 (a + 2) ∧ u 82 (a + 2) < 20000) → kT (f_L_weigh_65 (fC g K n s) a (hdA n g K s) u) (fun w' => (∀ k : Nat, k ≠ 82 → w' k = w2 k) ∧ (∀ i, i < a + 2 ∨ a + 5 < i → w' 82 i = u 82 i) ∧ w' 82 (a + 2) = u 82 (a + 2) + ddA n e g K r s ∧ (w' 82 (a + 3) = if ddA n e g K r s = 1 ∧ (u 82 (a + 3) = -1 ∨ t < u 82 (a + 3)) then t else u 82 (a + 3)) ∧ (w' 82 (a + 4) = if u 82 (a + 4) < hdA n g K s then hdA n g K s else u 82 (a + 4)) ∧ w' 82 (a + 5) = u 82 (a + 5) + dnA n e g K r s) := by
    intro u hu hb5 hb2
    have hno : ¬ (0 < hdA n g K s ∧ (plA n e g K r s).length = 0) → kT (f_L_weigh_131 a (hdA n g K s) u) (fun w' => (∀ k : Nat, k ≠ 82 → w' k = w2 k) ∧ (∀ i, i < a + 2 ∨ a + 5 < i → w' 82 i = u 82 i) ∧ w' 82 (a + 2) = u 82 (a + 2) + ddA n e g K r s ∧ (w' 82 (a + 3) = if ddA n e g K r s = 1 ∧ (u 82 (a + 3) = -1 ∨ t < u 82 (a + 3)) then t else u 82 (a + 3)) ∧ (w' 82 (a + 4) = if u 82 (a + 4) < hdA n g K s then hdA n g K s else u 82 (a + 4)) ∧ w' 82 (a + 5) = u 82 (a + 5) + dnA n e g K r s) := by
      intro hz
      have hd0 : ddA n e g K r s = 0 := by
        unfold ddA
        rw [if_neg hz]
      refine kT_mono (h131 u hu hb5) (fun w' h => ⟨h.1, fun i hi => h.2.1 i (by omega) (by omega), ?_, ?_, h.2.2⟩)
      · rw [h.2.1 (a + 2) (by omega) (by omega), hd0, Int.add_zero]
      · rw [h.2.1 (a + 3) (by omega) (by omega), hd0, if_neg (fun q => absurd q.1 (by decide))]
    unfold f_L_weigh_65
    refine kT_if (fun c => hno (fun q => by omega)) (fun c => ?_)
    rw [hu 81 (by decide), e15]
    refine kT_if (fun c2 => ?_) (fun c2 => hno (fun q => c2 (by omega)))
    have hd1 : ddA n e g K r s = 1 := by
      unfold ddA
      rw [if_pos ⟨by omega, by omega⟩]
    rw [w32_ok (z := a + 2) (by omega) (by omega), w32_ok (z := a + 3) (by omega) (by omega), qld_ok (by omega) (by omega), w32_ok (z := u 82 (a + 2) + 1) (by omega) (by omega)]
    refine kT_st (by omega) (by omega) ?_
    rw [qld_ok (by omega) (by omega), qud_ni (show a + 3 ≠ a + 2 by omega)]
    have hu2 : ∀ k : Nat, k ≠ 82 → qud u 82 (a + 2) (u 82 (a + 2) + 1) k = w2 k := fun k hk => by rw [qud_row hk]; exact hu k hk
    have h117 : (u 82 (a + 3) = -1 ∨ t < u 82 (a + 3)) → kT (f_L_weigh_117 (fC g K n s) a (hdA n g K s) (qud u 82 (a + 2) (u 82 (a + 2) + 1))) (fun w' => (∀ k : Nat, k ≠ 82 → w' k = w2 k) ∧ (∀ i, i < a + 2 ∨ a + 5 < i → w' 82 i = u 82 i) ∧ w' 82 (a + 2) = u 82 (a + 2) + ddA n e g K r s ∧ (w' 82 (a + 3) = if ddA n e g K r s = 1 ∧ (u 82 (a + 3) = -1 ∨ t < u 82 (a + 3)) then t else u 82 (a + 3)) ∧ (w' 82 (a + 4) = if u 82 (a + 4) < hdA n g K s then hdA n g K s else u 82 (a + 4)) ∧ w' 82 (a + 5) = u 82 (a + 5) + dnA n e g K r s) := by
      intro hc
      unfold f_L_weigh_117
      rw [if_pos (hV' _ hu2).1.2.2.2, w32_ok (z := a + 3) (by omega) (by omega), qld_ok hfs.1 (by omega), hu2 103 (by decide), e103]
      refine kT_st (by omega) (by omega) ?_
      refine kT_mono (h131 _ (fun k hk => by rw [qud_row hk]; exact hu2 k hk) (by rw [qud_ni (by omega), qud_ni (by omega)]; exact hb5)) (fun w' h => ⟨h.1, fun i hi => ?_, ?_, ?_, ?_, ?_⟩)
      · rw [h.2.1 i (by omega) (by omega), qud_ni (by omega), qud_ni (by omega)]
      · rw [h.2.1 (a + 2) (by omega) (by omega), qud_ni (by omega), qud_s, hd1]
      · rw [h.2.1 (a + 3) (by omega) (by omega), qud_s, if_pos ⟨hd1, hc⟩]
      · rw [h.2.2.1, qud_ni (by omega), qud_ni (by omega)]
      · rw [h.2.2.2, qud_ni (by omega), qud_ni (by omega)]
    refine kT_if (fun c3 => h117 (Or.inl c3)) (fun c3 => ?_)
    rw [if_pos (hV' _ hu2).1.2.2.2, qld_ok hfs.1 (by omega), hu2 103 (by decide), e103, qld_ok (by omega) (by omega), qud_ni (show a + 3 ≠ a + 2 by omega)]
    refine kT_if (fun c4 => h117 (Or.inr c4)) (fun c4 => ?_)
    refine kT_mono (h131 _ hu2 (by rw [qud_ni (by omega)]; exact hb5)) (fun w' h => ⟨h.1, fun i hi => ?_, ?_, ?_, ?_, ?_⟩)
    · rw [h.2.1 i (by omega) (by omega), qud_ni (by omega)]
    · rw [h.2.1 (a + 2) (by omega) (by omega), qud_s, hd1]
    · rw [h.2.1 (a + 3) (by omega) (by omega), qud_ni (by omega), if_neg (fun q => by omega)]
    · rw [h.2.2.1, qud_ni (by omega)]
    · rw [h.2.2.2, qud_ni (by omega)]
  have hne : w32 (n * e) = n * e := by
    refine w32_ok ?_ ?_
    · have := Int.mul_nonneg (show 0 ≤ n by omega) (show 0 ≤ e by omega)
      omega
    · rcases (by omega : n = 2 ∨ n = 3 ∨ n = 4) with rfl | rfl | rfl <;> omega
  have h40 : kT (f_L_weigh_40 (fC g K n s) a (hdA n g K s) w2) (fun w' => (∀ k : Nat, k ≠ 82 → w' k = w2 k) ∧ cWg n e g K r s t a w w') := by
    unfold f_L_weigh_40
    rw [hV2.1.1.1, hV2.1.1.2, hne]
    refine kT_if (fun c => ?_) (fun c => ?_)
    · rw [w32_ok (z := a + 1) (by omega) (by omega), qld_ok (by omega) (by omega), e82, w32_ok (z := w 82 (a + 1) + 1) (by omega) (by omega)]
      refine kT_st (by omega) (by omega) ?_
      refine kT_mono (h65 _ (fun k hk => qud_row hk) (by rw [qud_ni (by omega), e82]; exact b5) (by rw [qud_ni (by omega), e82]; exact b2)) (fun w' h => ⟨h.1, fun i hi => ?_, ⟨?_, ?_⟩, ?_, ?_, ?_⟩)
      · rw [h.2.1 i (by omega), qud_ni (by omega), e82]
      · rw [h.2.1 (a + 1) (by omega), qud_s, if_pos c]
      · rw [h.2.2.1, qud_ni (by omega), e82]
      · rw [h.2.2.2.1, qud_ni (by omega), e82]
      · rw [h.2.2.2.2.1, qud_ni (by omega), e82]
      · rw [h.2.2.2.2.2, qud_ni (by omega), e82]
    · refine kT_mono (h65 w2 (fun _ _ => rfl) (by rw [e82]; exact b5) (by rw [e82]; exact b2)) (fun w' h => ⟨h.1, fun i hi => ?_, ⟨?_, ?_⟩, ?_, ?_, ?_⟩)
      · rw [h.2.1 i (by omega), e82]
      · rw [h.2.1 (a + 1) (by omega), e82, if_neg c, Int.add_zero]
      · rw [h.2.2.1, e82]
      · rw [h.2.2.2.1, e82]
      · rw [h.2.2.2.2.1, e82]
      · rw [h.2.2.2.2.2, e82]
  have hin : ∀ x, 0 ≤ x → x ≤ n → 0 ≤ cV (fun v => lq g (dg K s v)) x ∧ cV (fun v => lq g (dg K s v)) x ≤ 3 * x := fun x x0 x1 => by
    have := smN_in (f := fun v => lq g (dg K s v)) (a := 0) (b := 3) x.toNat (fun i hi => by
      have t : 0 ≤ lq g (dg K s i) ∧ lq g (dg K s i) ≤ e := (qtb_of hk (dg_in hk).1 (dg_in hk).2).1.1
      omega)
    rw [show ((x.toNat : Nat) : Int) = x by omega, Int.zero_mul] at this
    exact this
  refine kT_mono (Q := fun w' => (∃ w1, LXo w w1 ∧ ∀ k : Nat, k ≠ 82 → w' k = w1 k) ∧ cWg n e g K r s t a w w') (P := fun w' => (∀ k : Nat, k ≠ 82 → w' k = w2 k) ∧ cWg n e g K r s t a w w') ?_ (fun w' h => ⟨⟨w2, hx, h.1⟩, h.2⟩)
  refine kD_loop (σ := Int) (N := n) (L := fun m y q u => f_L_weigh_15 m (fC g K n s) a q y u) (J := fun y q u => u = w2 ∧ q = cV (fun v => lq g (dg K s v)) y) (fun m y q u y0 y1 hJ ih => ?_) (fun m q u hJ => ?_) (by omega) (by omega) 0 ⟨rfl, rfl⟩
  · obtain ⟨rfl, hq⟩ := hJ
    have h1 := hin y y0 (by omega)
    have t : 0 ≤ lq g (dg K s y) ∧ lq g (dg K s y) ≤ e := (qtb_of hk (dg_in hk).1 (dg_in hk).2).1.1
    rw [f_L_weigh_15, hV2.1.1.1, if_pos y1, qld_ok y0 (by omega), (hO2.1 y y0 y1).2, w32_ok (z := y + 1) (by omega) (by omega), w32_ok (z := q + lq g (dg K s y)) (by omega) (by omega)]
    exact ih _ _ ⟨rfl, by rw [cV_s y0, hq]⟩
  · obtain ⟨rfl, hq⟩ := hJ
    rw [f_L_weigh_15, hV2.1.1.1, if_neg (by omega), hq]
    exact h40
end BA
