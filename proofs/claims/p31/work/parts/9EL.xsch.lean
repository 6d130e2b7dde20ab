/-! schedules, the class: the search runs; it is asked -/
/-- x states are done, all is in order -/
def xRN (S : qMem) (n : Int) (P : Int → Int) (root : List Int) (x : Int) (w : qMem) : Prop := ∃ (N : Int) (ks : Int → List Int) (ws : Int → Int), (∃ T loc, cCur S n P T loc w) ∧ (w 74 7 = N ∧ N ≤ 400 ∧ w 74 9 = 0) ∧ (∀ i, 0 ≤ i → i < N → w 75 i = cdK (S 1 3) (S 1 4) (ks i) ∧ w 76 i = ws i) ∧ BF (mu S n P) (rkK S n P root) root N x ks ws (fun _ => 0) ∧ w 80 1 = cV (fun i => gStk S n P (ks i)) x ∧ w 80 2 = cV (fun i => ws i * gEnd (ks i)) x % 1000003 ∧ Mx 0 (fun i => gLan S n P (ks i)) x (w 80 3) ∧ Mx (-16) (fun i => - gFre S n P (ks i)) x (- w 80 4)
section EL
variable {w w' w0 w2 S T T' U F : qMem} {loc loc' P : Int → Int} {v k d l q p i j n r x y m W H N s t a c M : Int} {K K' root b : List Int} {ks ks' k0 : Int → List Int} {ws ws' v0 f g : Int → Int} {dn dn' : List Int → Int}
theorem gStk_01 : 0 ≤ gStk S n P K ∧ gStk S n P K ≤ 1 := by
  unfold gStk
  by_cases h : gEnd K = 0 ∧ ∀ b, mu S n P K b = 0
  · rw [if_pos h]; decide
  · rw [if_neg h]; decide
theorem md_b {u v : Int} : (u % 1000003 + v) % 1000003 = (u + v) % 1000003 := by omega
theorem Mx.co (h : Mx a f n M) (e : ∀ i, 0 ≤ i → i < n → g i = f i) : Mx a g n M := by
  obtain ⟨h1, h2, h3⟩ := h
  refine ⟨h1, fun i i0 i1 => by rw [e i i0 i1]; exact h2 i i0 i1, ?_⟩
  rcases h3 with z | ⟨i, ⟨p, q⟩, z⟩
  · exact Or.inl z
  · exact Or.inr ⟨i, ⟨p, q⟩, by rw [e i p q]; exact z⟩
theorem Mx.s' (h : Mx a f x M) (x0 : 0 ≤ x) (e : N = if M < f x then f x else M) : Mx a f (x + 1) N := by
  rw [e]
  exact h.s x0
theorem x_run52 (V0 : VT S S (lof S)) (R0 : RK S n P S (lof S) root) (L : LVe S n P) (I : IV S) (hf0 : tFS w0 w) (h : xRN S n P root 0 w) : kT (f_S_run_52 37 qFU 0 w) (fun r => (tFS w0 r.2 ∧ RGx r.2) ∧ ((r.1 = 0 ∧ OVF S n P root) ∨ (r.1 = 1 ∧ ∃ N ks ws, N ≤ 400 ∧ BF (mu S n P) (rkK S n P root) root N N ks ws (fun _ => 0) ∧ r.2 80 0 = N ∧ r.2 80 1 = cV (fun i => gStk S n P (ks i)) N ∧ r.2 80 2 = cV (fun i => ws i * gEnd (ks i)) N % 1000003 ∧ Mx 0 (fun i => gLan S n P (ks i)) N (r.2 80 3) ∧ Mx (-16) (fun i => - gFre S n P (ks i)) N (- r.2 80 4)))) := by
  have hN := gN I.1.1
  have hn := L.1
  have h2W : 0 ≤ 2 * (S 1 3 + S 1 4) := by
    have := I.1.1
    unfold gIn at this
    omega
  have hrg : ∀ w', (∃ T loc, cCur S n P T loc w') → RGx w' := fun w' ⟨T, loc, hC⟩ => ⟨S 1 3, S 1 4, I.1.1, by
    have := hC.1.1.2
    rw [hC.1.2.1.1.1.1] at this
    exact this⟩
  have rg80 : ∀ w' y, RGx w' → RGx (qud w' 80 0 y) := fun w' y ⟨W, H, g, hG⟩ => ⟨W, H, g, hG.fr (fun k a b => qud_row (by omega))⟩
  have h103 : ∀ x w', tFS w0 w' → xRN S n P root x w' → ¬ x < w' 74 7 → kT (f_S_run_103 37 w') (fun r => (tFS w0 r.2 ∧ RGx r.2) ∧ ((r.1 = 0 ∧ OVF S n P root) ∨ (r.1 = 1 ∧ ∃ N ks ws, N ≤ 400 ∧ BF (mu S n P) (rkK S n P root) root N N ks ws (fun _ => 0) ∧ r.2 80 0 = N ∧ r.2 80 1 = cV (fun i => gStk S n P (ks i)) N ∧ r.2 80 2 = cV (fun i => ws i * gEnd (ks i)) N % 1000003 ∧ Mx 0 (fun i => gLan S n P (ks i)) N (r.2 80 3) ∧ Mx (-16) (fun i => - gFre S n P (ks i)) N (- r.2 80 4)))) := by
    intro x w' hf hx hlt
    obtain ⟨N, ks, ws, hC, ⟨h7, hN4, h9⟩, ht, B, g1, g2, g3, g4⟩ := hx
    have hxN : x = N := by
      have := B.1.1.2.2.2
      omega
    subst hxN
    have u1 : ∀ i, i ≠ 0 → qud w' 80 0 (w' 74 7) 80 i = w' 80 i := fun i h => qud_ni h
    unfold f_S_run_103
    refine kT_st (by decide) (by decide) ?_
    rw [qud_nk (show (74 : Nat) ≠ 80 by decide), h9, if_pos rfl]
    refine kT_some ⟨⟨hf.wr (by omega), rg80 _ _ (hrg w' hC)⟩, Or.inr ⟨rfl, x, ks, ws, hN4, B, (show qud w' 80 0 (w' 74 7) 80 0 = x from qud_s.trans h7), (u1 1 (by decide)).trans g1, (u1 2 (by decide)).trans g2, ?_, ?_⟩⟩
    · have := g3
      rw [← u1 3 (by decide)] at this
      exact this
    · have := g4
      rw [← u1 4 (by decide)] at this
      exact this
  have hfl : ∀ (m : Nat) x w', tFS w0 w' → (∃ T loc, cCur S n P T loc w') → w' 74 9 = 1 → OVF S n P root → kT (f_S_run_52 37 (m + 1) x w') (fun r => (tFS w0 r.2 ∧ RGx r.2) ∧ ((r.1 = 0 ∧ OVF S n P root) ∨ (r.1 = 1 ∧ ∃ N ks ws, N ≤ 400 ∧ BF (mu S n P) (rkK S n P root) root N N ks ws (fun _ => 0) ∧ r.2 80 0 = N ∧ r.2 80 1 = cV (fun i => gStk S n P (ks i)) N ∧ r.2 80 2 = cV (fun i => ws i * gEnd (ks i)) N % 1000003 ∧ Mx 0 (fun i => gLan S n P (ks i)) N (r.2 80 3) ∧ Mx (-16) (fun i => - gFre S n P (ks i)) N (- r.2 80 4)))) := by
    intro m x w' hf hC h9 O
    have e103 : kT (f_S_run_103 37 w') (fun r => (tFS w0 r.2 ∧ RGx r.2) ∧ ((r.1 = 0 ∧ OVF S n P root) ∨ (r.1 = 1 ∧ ∃ N ks ws, N ≤ 400 ∧ BF (mu S n P) (rkK S n P root) root N N ks ws (fun _ => 0) ∧ r.2 80 0 = N ∧ r.2 80 1 = cV (fun i => gStk S n P (ks i)) N ∧ r.2 80 2 = cV (fun i => ws i * gEnd (ks i)) N % 1000003 ∧ Mx 0 (fun i => gLan S n P (ks i)) N (r.2 80 3) ∧ Mx (-16) (fun i => - gFre S n P (ks i)) N (- r.2 80 4)))) := by
      unfold f_S_run_103
      refine kT_st (by decide) (by decide) ?_
      rw [qud_nk (show (74 : Nat) ≠ 80 by decide), h9, if_neg (by decide)]
      exact kT_some ⟨⟨hf.wr (by omega), rg80 _ _ (hrg w' hC)⟩, Or.inl ⟨rfl, O⟩⟩
    rw [f_S_run_52]
    refine kT_if (fun _ => kT_if (fun _ => kT_if (fun z => ?_) (fun _ => e103)) (fun _ => e103)) (fun _ => e103)
    rw [h9] at z
    exact absurd z (by decide)
  have main : ∀ (m : Nat) (x : Int) (w' : qMem), 0 ≤ x → x ≤ 400 → 401 - x < m → tFS w0 w' → xRN S n P root x w' → kT (f_S_run_52 37 m x w') (fun r => (tFS w0 r.2 ∧ RGx r.2) ∧ ((r.1 = 0 ∧ OVF S n P root) ∨ (r.1 = 1 ∧ ∃ N ks ws, N ≤ 400 ∧ BF (mu S n P) (rkK S n P root) root N N ks ws (fun _ => 0) ∧ r.2 80 0 = N ∧ r.2 80 1 = cV (fun i => gStk S n P (ks i)) N ∧ r.2 80 2 = cV (fun i => ws i * gEnd (ks i)) N % 1000003 ∧ Mx 0 (fun i => gLan S n P (ks i)) N (r.2 80 3) ∧ Mx (-16) (fun i => - gFre S n P (ks i)) N (- r.2 80 4)))) := by
    intro m
    induction m with
    | zero => intro x w' x0 x4 hm hf hx; omega
    | succ m ih =>
      intro x w' x0 x4 hm hf hx
      have hx' := hx
      obtain ⟨N, ks, ws, ⟨T0, l0, hC⟩, ⟨h7, hN4, h9⟩, ht, B, g1, g2, g3, g4⟩ := hx
      rw [f_S_run_52]
      refine kT_if (fun c => ?_) (fun c => h103 x w' hf hx' c)
      refine kT_if (fun c2 => ?_) (fun c2 => by omega)
      rw [h9]
      rw [if_pos rfl, qld_ok x0 c2]
      rw [h7] at c
      have hrx := B.1.2.2 x x0 c
      obtain ⟨Tx, lx, Vx, Rx⟩ := rC_ok V0 R0 L I hrx
      have hrep := rep_ok Vx Rx
      have Vr := hrep.1.cl
      have Rr := hrep.2.cl
      have h75 := (ht x x0 c).1
      rw [h75]
      refine kT_bind (e_open hC Rr Vr (fun f a b c => cl_row a b c) L I) (fun w1 h1 => ?_)
      have o1 : ∀ k, 72 ≤ k → k ≠ 78 → k ≠ 79 → w1 k = w' k := fun k a b c => h1.2 k (Or.inr a) b c
      have hTB : xTB S n P root x ks ws (fun _ => 0) w1 := by
        refine ⟨N, ks, ws, ?_, ?_, fun i _ _ => ⟨rfl, rfl⟩, ?_⟩
        · rw [o1 74 (by decide) (by decide) (by decide)]; exact ⟨h7, x0, c, hN4⟩
        · rw [o1 75 (by decide) (by decide) (by decide), o1 76 (by decide) (by decide) (by decide)]
          exact fun i i0 i1 => ⟨ht i i0 i1, (B.2.2.2 i i0 i1).1, B.1.2.2 i i0 i1⟩
        · rw [o1 74 (by decide) (by decide) (by decide)]; exact Or.inl ⟨h9, B⟩
      refine kT_bind (e_extend h1.1 hTB (by rw [o1 75 (by decide) (by decide) (by decide)]; exact h75) Rr V0 R0 L I) (fun w3 h3 => ?_)
      obtain ⟨hC3, hT3, ⟨h8, -⟩, hfr3⟩ := h3
      have r80 : w3 80 = w' 80 := by rw [hfr3 80 (by decide) (by decide) (by decide) (by decide) (by decide) (by decide), o1 80 (by decide) (by decide) (by decide)]
      obtain ⟨N', ks', ws', ⟨h7', -, hxN', hN4'⟩, ht', hag, hbf⟩ := hT3
      have hax := hag x x0 (Int.le_refl _)
      have hwx := (ht' x x0 hxN').2.1
      have b1 : 0 ≤ cV (fun i => gStk S n P (ks i)) x ∧ cV (fun i => gStk S n P (ks i)) x ≤ 1 * x := cV_bd (N := x) (fun i _ _ => gStk_01) (by decide) x0 (Int.le_refl _)
      have b4 : w' 80 4 ≤ 1000 := by
        have := g4.1
        omega
      refine kT_bind (e_weigh (s := x) hC3 Rr L I x0 c2 (by rw [r80, g1]; omega) (by rw [r80, g2]; exact ⟨Int.emod_nonneg _ (by decide), Int.emod_lt_of_pos _ (by decide)⟩) (by rw [(ht' x x0 hxN').1.2]; exact hwx) (by rw [r80]; exact b4)) (fun w5 h5 => ?_)
      obtain ⟨f5, a1, a2, a3, a4⟩ := h5
      rw [w32_ok (z := x + 1) (by omega) (by omega)]
      have hC5 : cCur S n P (clS S (rep S n P (ks x)).1) (rep S n P (ks x)).2 w5 := hC3.fr (fun k a b => f5 k (by omega)) (by rw [f5 74 (by decide)]) (f5 77 (by decide)) (f5 78 (by decide))
      have hf5 : tFS w0 w5 := fun k hk => by
        by_cases z : k < 37 ∨ 72 ≤ k
        · rw [f5 k (by omega), hfr3 k z (by omega) (by omega) (by omega) (by omega) (by omega), h1.2 k z (by omega) (by omega)]
          exact hf k hk
        · omega
      rcases hbf with ⟨h9', B'⟩ | ⟨h9', -, O⟩
      · have hmu : ∀ b, mu S n P (ks x) b = mu S n P (ks' x) b := fun b => by rw [hax.1]
        have B2 := B'.nx (dn' := fun _ => 0) hxN' hmu (fun _ => rfl)
        have er : (rep S n P (ks' x)).1 = (rep S n P (ks x)).1 := by rw [hax.1]
        have e20 : clS S (rep S n P (ks x)).1 20 = (rep S n P (ks x)).1 20 := if_pos (by decide)
        have eL : cV (lan (clS S (rep S n P (ks x)).1) 1) (S 1 3 * S 1 4) = gLan S n P (ks' x) := by
          unfold gLan lan
          rw [er, e20]
        have eF : mfr (clS S (rep S n P (ks x)).1) (2 * (S 1 3 + S 1 4)).toNat = gFre S n P (ks' x) := by
          unfold gFre
          rw [er]
          exact mfr_co (fun r _ _ => sfj_co (by rw [cl_row (by decide) (by decide) (by decide)]; exact hrep.1.1.1.1.symm) (by rw [cl_row (by decide) (by decide) (by decide)]; exact (hrep.1.1.1.2 6 (by decide)).symm) e20) h2W
        have eC : w3 74 8 = 0 ↔ ∀ b, mu S n P (ks' x) b = 0 := by
          rw [h8, ct_0 Vr L I]
          exact ⟨fun z b => by rw [hax.1, mu_eq Vr Rr L I]; exact z b, fun z b => by rw [← mu_eq Vr Rr L I, ← hax.1]; exact z b⟩
        have eS : (if gEnd (ks x) = 0 ∧ w3 74 8 = 0 then (1 : Int) else 0) = gStk S n P (ks' x) := by
          unfold gStk
          by_cases z : gEnd (ks x) = 0 ∧ w3 74 8 = 0
          · rw [if_pos z, if_pos ⟨by rw [hax.1]; exact z.1, eC.mp z.2⟩]
          · rw [if_neg z, if_neg (fun y => z ⟨by rw [← hax.1]; exact y.1, eC.mpr y.2⟩)]
        have k1 : cV (fun i => gStk S n P (ks' i)) x = cV (fun i => gStk S n P (ks i)) x := cV_co x0 (fun i i0 i1 => by
          rw [(hag i i0 (by omega)).1])
        have k2 : cV (fun i => ws' i * gEnd (ks' i)) x = cV (fun i => ws i * gEnd (ks i)) x := cV_co x0 (fun i i0 i1 => by
          rw [(hag i i0 (by omega)).1, (hag i i0 (by omega)).2])
        refine ih (x + 1) w5 (by omega) (by omega) (by omega) hf5 ⟨N', ks', ws', ⟨_, _, hC5⟩, ⟨by rw [f5 74 (by decide)]; exact h7', hN4', by rw [f5 74 (by decide)]; exact h9'⟩, fun i i0 i1 => ?_, B2, ?_, ?_, ?_, ?_⟩
        · rw [f5 75 (by decide), f5 76 (by decide)]
          exact (ht' i i0 i1).1
        · rw [a1, r80, g1, eS, cV_s x0, k1]
        · rw [a2, r80, g2, (ht' x x0 hxN').1.2, cV_s x0, md_b, k2, ← hax.1]
        · refine (g3.co (g := fun i => gLan S n P (ks' i)) (fun i i0 i1 => by rw [(hag i i0 (by omega)).1])).s' x0 ?_
          rw [a3, r80, eL]
        · refine (g4.co (g := fun i => - gFre S n P (ks' i)) (fun i i0 i1 => by rw [(hag i i0 (by omega)).1])).s' x0 ?_
          rw [a4, r80, eF]
          repeat' split
          all_goals omega
      · cases m with
        | zero => omega
        | succ m => exact hfl m (x + 1) w5 hf5 ⟨_, _, hC5⟩ (by rw [f5 74 (by decide)]; exact h9') O
  exact main qFU 0 w (by omega) (by omega) (qFU_gt (by omega)) hf0 h
end EL
