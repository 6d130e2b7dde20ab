/-! calls: tick, shower, pattern, state -/
theorem it2 {σ τ ρ : Type} {N : Int} {L : Nat → Int → σ → Option ρ} {ex : σ → Option ρ} {g : τ → Int → τ} {R : Int → σ → τ → Prop}
    (hs : ∀ m x w s, 0 ≤ x → x < N → R x w s → ∃ w', R (x + 1) w' (g s x) ∧ L (m + 1) x w = L m (x + 1) w')
    (he : ∀ m w s, R N w s → L (m + 1) N w = ex w) {w : σ} {s : τ} (h : R 0 w s) (n0 : 0 ≤ N) (n1 : N < 1000000000) : ∃ w', R N w' (fli g (fun x => x) N.toNat s) ∧ L qFU 0 w = ex w' := by
  have := k_loop (σ := σ) (ρ := ρ) N L ex (fun x w => 0 ≤ x ∧ R x w (fli g (fun x => x) x.toNat s))
    (by
      intro m x w hp hx
      obtain ⟨w', a, b⟩ := hs m x w _ hp.1 hx hp.2
      refine ⟨w', ⟨by omega, ?_⟩, b⟩
      have e : (x + 1).toNat = x.toNat + 1 := by omega
      rw [e]
      show R (x + 1) w' (g (fli g (fun x => x) x.toNat s) ((x.toNat : Nat) : Int))
      rw [show ((x.toNat : Nat) : Int) = x by omega]
      exact a)
    (fun m w hp => he m w _ hp.2) qFU 0 w ⟨by omega, h⟩ n0 (qFU_gt (by omega))
  obtain ⟨w', hp, e⟩ := this
  exact ⟨w', hp.2, e⟩
def stks (S : qMem) (n : Int) : qMem := fli (fun S _ => stk S) (fun x => x) n.toNat S
section TK
variable {w w' S T : qMem} {n a b c v D x : Int}
theorem itk_5 {F : Int → qMem → qMem} (hF : ∀ x S, F x S 5 = S 5) (m : Nat) : itk F m S 5 = S 5 :=
  itk_i (F := F) (P := fun _ s => s 5 = S 5) (S := S) rfl m (fun x s _ _ hs => by rw [hF]; exact hs)
theorem stk_5 : stk S 5 = skd (sfg (qud S 22 1 0)) 5 := by
  have hg : ∀ T, skg T 5 = T 5 := fun T => itk_5 (fun x T => itk_5 (fun y U => by
    unfold sgc
    split
    · rfl
    · exact sgo_r (by decide) (by decide) (by decide) (by decide) (by decide) (by decide) (by decide) (by decide) (by decide) (by decide) (by decide) (by decide) (by decide) (by decide) (by decide) (by decide) (by decide) (by decide)) 4) _
  have hh : ∀ T, skh T 5 = T 5 := fun T => itk_5 (fun x T => itk_5 (fun y U => shu_r (by decide) (by decide)) 4) _
  have hm : ∀ T, skm T 5 = T 5 := fun T => by
    unfold skm
    split
    · rfl
    · exact itk_5 (fun x U => smk_r (by decide) (by decide) (by decide) (by decide)) _
  have hw : ∀ T, skw T 5 = T 5 := fun T => itk_5 (fun x U => sfw_r (by decide)) _
  unfold stk skc
  rw [qud_row (by decide), hw, hm, hh, hg]
theorem x_tick (hx : NX 2 w S) (I : IV S) (X : w32 (S 5 14) = S 5 14) (hc : S 0 10 + 100 ≤ 1000000) : kT (f_X_tick n w) (fun r => (1 ≤ n ∧ n ≤ 100 → (0 ≤ r.1 ∧ r.1 ≤ 144 * n) ∧ stks S n 5 14 = w32 (S 5 14 + r.1) ∧ NX 2 r.2 (stks S n)) ∧ (¬ (1 ≤ n ∧ n ≤ 100) → r.1 = -1 ∧ NX 2 r.2 S) ∧ F2 w r.2) := by
  unfold f_X_tick
  refine kT_eq x_within ?_
  dsimp only
  rw [bi_if]
  by_cases e : 1 ≤ n ∧ n ≤ 100
  · rw [if_pos e]
    have := it2 (N := n) (L := fun m x (s : Int × qMem) => f_X_tick_16 m n s.1 x s.2) (ex := fun s => some s) (g := fun S _ => stk S) (R := fun x s S' => (NX 2 s.2 S' ∧ FN 2 w s.2) ∧ (IV S' ∧ S' 0 10 = S 0 10 + x) ∧ (0 ≤ s.1 ∧ s.1 ≤ 144 * x) ∧ S' 5 14 = w32 (S 5 14 + s.1))
      (by
        intro m x s S' x0 x1 ⟨⟨h1, h2⟩, ⟨h3, h4⟩, ⟨h5, h6⟩, h7⟩
        obtain ⟨y, w2, ⟨a1, a2, a3, a4⟩, a5, a6, a7⟩ := n_runTick h1 h3 (by omega) h7
        have hck := h3.1.2.2.2.2.2.2.1
        have e10 : stk S' 0 10 = S' 0 10 + 1 := by
          have hg : ∀ T : qMem, IV T → T 22 1 ≤ 0 → skg T 0 10 = T 0 10 := fun T IT h22 => by
            have K : KG (T 0 10) 0 (T 1) T := ⟨IT, ⟨rfl, rfl⟩, h22⟩
            have hN := gN IT.1.1
            rw [skg_eq K]
            exact (itk_i (F := fun i S => itk (fun d S => sgc S (kvi (T 0 10) (T 1 3 * T 1 4) i) d) 4 S) (P := fun _ s => s 0 10 = T 0 10) (S := T) rfl _ (fun x s _ _ hs => itk_i (F := fun d S => sgc S (kvi (T 0 10) (T 1 3 * T 1 4) x) d) (P := fun _ s => s 0 10 = T 0 10) (S := s) hs 4 (fun y t _ _ ht => by
              unfold sgc
              split
              · exact ht
              · rw [sgo_0 (by decide)]; exact ht)))
          have hm : ∀ T : qMem, skm T 0 = T 0 := fun T => by
            unfold skm
            split
            · rfl
            · exact itk_i (F := fun r S => smk S r) (P := fun _ s => s 0 = T 0) (S := T) rfl _ (fun x s _ _ hs => by rw [smk_r (by decide) (by decide) (by decide) (by decide)]; exact hs)
          have hw : ∀ T : qMem, skw T 0 = T 0 := fun T => by
            unfold skw
            exact itk_i (F := fun r S => sfw S r) (P := fun _ s => s 0 = T 0) (S := T) rfl _ (fun x s _ _ hs => by rw [sfw_r (by decide)]; exact hs)
          have I2 : IV (sfg (qud S' 22 1 0)) := (h3.m0 (by omega) (by omega)).fg
          have ID : IV (skd (sfg (qud S' 22 1 0))) := by
            unfold skd
            have hN := gN I2.1.1
            have := itk_i (F := fun v S => itk (fun k S => sdl S v (k + 1)) 8 S) (P := fun _ s => IV s ∧ s 1 = sfg (qud S' 22 1 0) 1) (S := sfg (qud S' 22 1 0)) ⟨I2, rfl⟩ (sfg (qud S' 22 1 0) 1 3 * sfg (qud S' 22 1 0) 1 4).toNat (fun x s x0 x1 hs => itk_i (F := fun k S => sdl S x (k + 1)) (P := fun _ s => IV s ∧ s 1 = sfg (qud S' 22 1 0) 1) (S := s) hs 8 (fun y t y0 y1 ht => ⟨ht.1.dl x0 (by rw [ht.2]; omega) (by omega) (by omega), by rw [sdl_r (by decide) (by decide) (by decide) (by decide) (by decide) (by decide) (by decide)]; exact ht.2⟩))
            exact this.1
          unfold stk skc
          rw [qud_s, hw, hm, skh_0, hg _ ID (by rw [skd_22, sfg_r (by decide), qud_s]; omega), skd_0, sfg_r (by decide), qud_nk (by decide)]
        rw [f_X_tick_16, if_pos x1, qbd a7]
        dsimp only
        rw [w32_ok (z := s.1 + y) (by omega) (by omega), w32_ok (z := x + 1) (by omega) (by omega)]
        refine ⟨(s.1 + y, w2), ⟨⟨a1, h2.tr a2⟩, ⟨a3, by rw [e10, h4]; omega⟩, ⟨by dsimp only; omega, by dsimp only; omega⟩, ?_⟩, rfl⟩
        rw [stk_5, a6]
        dsimp only
        congr 1
        omega)
      (by
        intro m s S' _
        show f_X_tick_16 (m + 1) n s.1 n s.2 = _
        rw [f_X_tick_16, if_neg (by omega)])
      (w := (0, w)) (s := S) ⟨⟨hx, FN.rfl'⟩, ⟨I, by omega⟩, ⟨by dsimp only; omega, by dsimp only; omega⟩, by dsimp only; rw [Int.add_zero, X]⟩ (by omega) (by omega)
    obtain ⟨s, ⟨⟨h1, h2⟩, _, h5, h7⟩, q⟩ := this
    exact ⟨s, q, ⟨fun _ => ⟨h5, h7, h1⟩, fun z => absurd e z, F2.of h2⟩⟩
  · rw [if_neg e]
    exact kT_some ⟨fun z => absurd z e, fun _ => ⟨rfl, hx⟩, F2.rfl'⟩
theorem m_tick (hR : RM w S) (I : IV S) (X : IX S) (hc : S 0 10 + 100 ≤ 1000000) : kT (f_M_tick n w) (fun r => (1 ≤ n ∧ n ≤ 100 → r.1 = w32 (stks S n 5 14 - S 5 14) ∧ RM r.2 (stks S n) ∧ (IV (stks S n) ∧ IX (stks S n) ∧ stks S n 1 = S 1) ∧ stks S n 0 10 = S 0 10 + n) ∧ (¬ (1 ≤ n ∧ n ≤ 100) → r.1 = -1 ∧ RM r.2 S) ∧ FM w r.2) := by
  unfold f_M_tick
  refine kT_eq m_isIn ?_
  dsimp only
  rw [bi_if]
  by_cases e : 1 ≤ n ∧ n ≤ 100
  · rw [if_pos e, qld_ok (by decide) (by decide), rm_5_14 hR]
    have := it2 (N := n) (L := fun m x s => f_M_tick_22 m n (S 5 14) x s) (ex := fun s => f_M_tick_37 (S 5 14) s) (g := fun S _ => stk S) (R := fun x s S' => (RM s S' ∧ FM w s) ∧ (IV S' ∧ IX S' ∧ S' 1 = S 1) ∧ S' 0 10 = S 0 10 + x)
      (by
        intro m x s S' x0 x1 ⟨⟨h1, h2⟩, ⟨h3, h4, h5⟩, h6⟩
        obtain ⟨w2, a1, ⟨a2, a3⟩, ⟨a4, a5, a6⟩, a7⟩ := m_ticks h1 h3 h4 (by omega)
        rw [f_M_tick_22, if_pos x1, qbd a1, w32_ok (z := x + 1) (by omega) (by omega)]
        exact ⟨w2, ⟨⟨a2, h2.tr a3⟩, ⟨a5, a4, a6.trans h5⟩, by rw [a7, h6]; omega⟩, rfl⟩)
      (by
        intro m s S' _
        show f_M_tick_22 (m + 1) n (S 5 14) n s = _
        rw [f_M_tick_22, if_neg (by omega)])
      (w := w) (s := S) ⟨⟨hR, FM.rfl'⟩, ⟨I, X, rfl⟩, by omega⟩ (by omega) (by omega)
    obtain ⟨s, ⟨⟨h1, h2⟩, h3, h6⟩, q⟩ := this
    refine ⟨(w32 (stks S n 5 14 - S 5 14), s), ?_, ⟨fun _ => ⟨rfl, h1, h3, h6⟩, fun z => absurd e z, h2⟩⟩
    rw [q]
    unfold f_M_tick_37
    rw [qld_ok (by decide) (by decide), rm_5_14 h1]
    rfl
  · rw [if_neg e]
    exact kT_some ⟨fun z => absurd z e, fun _ => ⟨rfl, hR⟩, FM.rfl'⟩
/-- draws -/
def dn (D : Int) : Int := w32 (w32 (D * 1664525) + 1013904223)
def dv (D m : Int) : Int := jrem (jushr (dn D) 8) m
theorem jushr_8 : 0 ≤ jushr x 8 ∧ jushr x 8 < 16777216 := by
  unfold jushr
  have h : ((Int32.ofInt 8).toUInt32 &&& Int32.toUInt32 31) = 8 := by decide
  rw [h]
  generalize (Int32.ofInt x).toUInt32 = u
  have e1 : (u >>> 8).toNat = u.toNat >>> (8 % 32) := rfl
  have e2 : (u >>> 8).toInt32.toInt = if 2 * (u >>> 8).toNat < 2 ^ 32 then ((u >>> 8).toNat : Int) else ((u >>> 8).toNat : Int) - ((2 ^ 32 : Nat) : Int) := rfl
  have e3 : u.toNat < 4294967296 := u.toBitVec.isLt
  have e4 : (u >>> 8).toNat < 16777216 := by
    rw [e1, Nat.shiftRight_eq_div_pow]
    show u.toNat / 256 < 16777216
    clear e2 e1
    omega
  have e5 : (u >>> 8).toInt32.toInt = ((u >>> 8).toNat : Int) := by
    rw [e2, if_pos (by omega)]
  clear e1 e2 e3
  rw [e5]
  generalize (u >>> 8).toNat = z at e4
  omega
theorem dv_in (hm : 0 < n) (h2 : n < 1000) : 0 ≤ dv D n ∧ dv D n < n := by
  have := jushr_8 (x := dn D)
  unfold dv
  rw [jrem_ok this.1 (by omega) hm (by omega)]
  exact ⟨Int.emod_nonneg _ (by omega), Int.emod_lt_of_pos _ hm⟩
end TK
