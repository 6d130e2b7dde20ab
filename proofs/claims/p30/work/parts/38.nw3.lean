/-! shift, going -/
section IWP
variable {S : qMem} {f : Nat} {n v p q' : Int}
theorem qd0 (h0 : f = 0 → 11 ≤ n) {j : Int} (hj : j ≤ 10) : qud S f n v 0 j = S 0 j := by
  by_cases e : f = 0
  · exact qud_ni (by have := h0 e; omega)
  · exact qud_nk (Ne.symm e)
theorem IW.qu (I : IW S) (h : f ≠ 1 ∧ f ≠ 5 ∧ f ≠ 7 ∧ f ≠ 20 ∧ f ≠ 21 ∧ f ≠ 22) (h0 : f = 0 → 11 ≤ n) : IW (qud S f n v) := by
  obtain ⟨h1, h5, h7, h20, h21, h22⟩ := h
  unfold IW ICf IT IQw
  simp only [qud_nk (Ne.symm h1), qud_nk (Ne.symm h5), qud_nk (Ne.symm h7), qud_nk (Ne.symm h20), qud_nk (Ne.symm h21), qud_nk (Ne.symm h22), qd0 h0 (show (6 : Int) ≤ 10 by decide), qd0 h0 (show (7 : Int) ≤ 10 by decide), qd0 h0 (show (8 : Int) ≤ 10 by decide), qd0 h0 (show (9 : Int) ≤ 10 by decide), qd0 h0 (show (10 : Int) ≤ 10 by decide)]
  exact I
theorem IW.q5 (I : IW S) (h5 : n ≠ 13) : IW (qud S 5 n v) := by
  unfold IW ICf IT IQw
  simp (disch := decide) only [qud_nk]
  rw [show qud S 5 n v 5 13 = S 5 13 from qud_ni (Ne.symm h5)]
  exact I
theorem IW.dr {q : Int} (I : IW S) (q0 : 0 ≤ q) (q1 : q < 144) : IW (sdr S q) := by
  by_cases e : S 20 q ≤ 0
  · unfold sdr; rw [if_pos e]; exact I
  · unfold IW ICf IT IQw
    have hs := (I.2.2.2 q q0 q1).1
    rw [sdr_f (f := 0) (by decide) (by decide), sdr_f (f := 1) (by decide) (by decide), sdr_f (f := 5) (by decide) (by decide), sdr_f (f := 7) (by decide) (by decide), sdr_f (f := 22) (by decide) (by decide)]
    refine ⟨I.1, I.2.1, I.2.2.1, fun q' a b => ?_⟩
    have h' := I.2.2.2 q' a b
    rw [sdr_20 (by omega)]
    by_cases e2 : q' = q
    · subst e2
      rw [if_pos rfl]
      refine ⟨by omega, fun i i0 i1 => ?_⟩
      rw [sdr_21 (by omega), if_pos (by omega), Int.add_assoc]
      exact h'.2 (i + 1) (by omega) (by omega)
    · rw [if_neg e2]
      refine ⟨h'.1, fun i i0 i1 => ?_⟩
      rw [sdr_21 (by omega), if_neg (by omega)]
      exact h'.2 i i0 i1
theorem IW.pu {q : Int} (I : IW S) (q0 : 0 ≤ q) (q1 : q < 144) (p0 : 0 ≤ p) (p1 : p < S 5 13) : IW (spu S q p) := by
  by_cases e : S 20 q < 6
  · unfold IW ICf IT IQw
    have hs := (I.2.2.2 q q0 q1).1
    rw [spu_f (f := 0) (by decide) (by decide), spu_f (f := 1) (by decide) (by decide), spu_f (f := 5) (by decide) (by decide), spu_f (f := 7) (by decide) (by decide), spu_f (f := 22) (by decide) (by decide)]
    refine ⟨I.1, I.2.1, I.2.2.1, fun q' a b => ?_⟩
    have h' := I.2.2.2 q' a b
    rw [spu_20 e]
    by_cases e2 : q' = q
    · subst e2
      rw [if_pos rfl]
      refine ⟨by omega, fun i i0 i1 => ?_⟩
      rw [spu_21 e]
      by_cases e3 : q' * 6 + i = q' * 6 + S 20 q'
      · rw [if_pos e3]; exact ⟨p0, p1⟩
      · rw [if_neg e3]; exact h'.2 i i0 (by omega)
    · rw [if_neg e2]
      refine ⟨h'.1, fun i i0 i1 => ?_⟩
      rw [spu_21 e, if_neg (by omega)]
      exact h'.2 i i0 i1
  · unfold spu; rw [if_neg e]; exact I
end IWP
/-- shift: queues and CRITICAL -/
def ssm (S : qMem) (v k d l : Int) : qMem := spu (sdr S (v * 9 + k)) (gn (S 1 3) (S 1 4) v d * 9 + (if l = 1 then 1 else 5) + d) (sfst S (v * 9 + k))
def sst (S : qMem) (v k d l : Int) : Bool := decide (l = 1) && scn S v k d && decide (S 0 8 = 2) && decide (S 25 (gr (S 1 3) (S 1 4) v d) = gn (S 1 3) (S 1 4) v d) && decide (sfa (ssm S v k d l) v d = 0)
def ssh (S : qMem) (v k d l : Int) : qMem := if sst S v k d l = true then qud (ssm S v k d l) 25 (gr (S 1 3) (S 1 4) v d) v else ssm S v k d l
section NW3
variable {o : Nat} {w S : qMem} {q p v k d a b c t n l h : Int}
theorem ssm_f {f : Nat} (h1 : f ≠ 20) (h2 : f ≠ 21) : ssm S v k d l f = S f := by
  unfold ssm
  rw [spu_f h1 h2, sdr_f h1 h2]
theorem ssh_f {f : Nat} (h1 : f ≠ 20) (h2 : f ≠ 21) (h3 : f ≠ 25) : ssh S v k d l f = S f := by
  funext n
  unfold ssh
  split
  · rw [qud_nk h3, ssm_f h1 h2]
  · rw [ssm_f h1 h2]
theorem IW.sm (I : IW S) (v0 : 0 ≤ v) (v1 : v < S 1 3 * S 1 4) (k0 : 0 ≤ k) (k1 : k < 9) (d0 : 0 ≤ d) (d1 : d < 4) (he : sfst S (v * 9 + k) ≠ -1) : IW (ssm S v k d l) := by
  have hN := gN I.1
  have hn := gn_in I.1 v0 v1 d0 d1
  have hs := sfst_in I.2.2.2 (by omega) (by omega) he
  have hl : (if l = 1 then (1 : Int) else 5) = 1 ∨ (if l = 1 then (1 : Int) else 5) = 5 := by split <;> simp
  unfold ssm
  refine (I.dr (by omega) (by omega)).pu (by omega) (by omega) hs.1 ?_
  rw [sdr_f (by decide) (by decide)]
  exact hs.2.1
theorem IW.sh (I : IW S) (v0 : 0 ≤ v) (v1 : v < S 1 3 * S 1 4) (k0 : 0 ≤ k) (k1 : k < 9) (d0 : 0 ≤ d) (d1 : d < 4) (he : sfst S (v * 9 + k) ≠ -1) : IW (ssh S v k d l) := by
  unfold ssh
  split
  · exact (I.sm v0 v1 k0 k1 d0 d1 he).qu (by decide) (fun h => absurd h (by decide))
  · exact I.sm v0 v1 k0 k1 d0 d1 he
theorem n_shift (hx : NX o w S) (I : IW S) (v0 : 0 ≤ v) (v1 : v < S 1 3 * S 1 4) (k0 : 0 ≤ k) (k1 : k < 9) (d0 : 0 ≤ d) (d1 : d < 4) (he : sfst S (v * 9 + k) ≠ -1) : kT (f_N_shift o v k d l w) (fun w' => NX o w' (ssh S v k d l) ∧ FN o w w') := by
  have hN := gN I.1
  have hn := gn_in I.1 v0 v1 d0 d1
  have hr := gr_in I.1 v0 v1 d0 d1
  have hs := sfst_in I.2.2.2 (by omega) (by omega) he
  have I2 := I.sm (l := l) v0 v1 k0 k1 d0 d1 he
  have hg := I.1
  obtain ⟨⟨gx, gy⟩, gz, gu⟩ := hg
  have main : ∀ b : Bool, kT (f_N_shift_21 o (bi b) v k d l w) (fun w' => NX o w' (if (b && decide (S 0 8 = 2) && decide (S 25 (gr (S 1 3) (S 1 4) v d) = gn (S 1 3) (S 1 4) v d) && decide (sfa (ssm S v k d l) v d = 0)) = true then qud (ssm S v k d l) 25 (gr (S 1 3) (S 1 4) v d) v else ssm S v k d l) ∧ FN o w w') := by
    intro b
    unfold f_N_shift_21
    rw [w32_ok (z := v * 9) (by omega) (by omega), w32_ok (z := v * 9 + k) (by omega) (by omega)]
    refine kT_eq (n_first hx.1 (by omega) (by omega)) ?_
    refine kT_eq (g_nextBy hx.2 I.1 v0 v1 d0 d1) ?_
    refine kT_bind (n_dropFirst hx (by omega) (by omega) (I.2.2.2 _ (by omega) (by omega)).1.1 (I.2.2.2 _ (by omega) (by omega)).1.2) (fun w1 h1 => ?_)
    have e1 : f_X_firstOfLane l w1 = some ((if l = 1 then 1 else 5), w1) := by
      unfold f_X_firstOfLane
      split <;> rfl
    refine kT_eq e1 ?_
    have hl : (if l = 1 then (1 : Int) else 5) = 1 ∨ (if l = 1 then (1 : Int) else 5) = 5 := by split <;> simp
    have Id := I.dr (q := v * 9 + k) (by omega) (by omega)
    dsimp only
    rw [w32_ok (z := gn (S 1 3) (S 1 4) v d * 9) (by omega) (by omega), w32_ok (z := gn (S 1 3) (S 1 4) v d * 9 + (if l = 1 then 1 else 5)) (by omega) (by omega), w32_ok (by omega) (by omega)]
    refine kT_bind (n_put (p := sfst S (v * 9 + k)) h1.1 (by omega) (by omega) (Id.2.2.2 _ (by omega) (by omega)).1.1) (fun w2 h2 => ?_)
    have hx2 : NX o w2 (ssm S v k d l) := h2.1
    have hf2 := h1.2.tr h2.2
    have hG : RG (o + 1) w2 (S 1 3) (S 1 4) := by
      have := hx2.2
      rw [ssm_f (by decide) (by decide)] at this
      exact this
    refine kT_eq (g_ringIndex hG.1 I.1 v0 v1 d0 d1) ?_
    dsimp only
    cases b with
    | false => exact kT_some ⟨hx2, hf2⟩
    | true =>
      rw [if_bt]
      refine kT_if (fun c1 => ?_) (fun c1 => ?_)
      · rw [rz_8 hx2.1, ssm_f (f := 0) (by decide) (by decide)] at c1
        rw [qld_ok hr.1 (by omega), rx_25 hx2.1 hr.1 (by rw [ssm_f (f := 1) (by decide) (by decide)]; exact hr.2) (by rw [ssm_f (f := 1) (by decide) (by decide)]; omega), ssm_f (f := 25) (by decide) (by decide)]
        refine kT_if (fun c2 => ?_) (fun c2 => ?_)
        · refine kT_eq (n_freeAhead hx2 I2 v0 (by rw [ssm_f (f := 1) (by decide) (by decide)]; exact v1) d0 d1) ?_
          refine kT_if (fun c3 => ?_) (fun c3 => ?_)
          · rw [qst_ok hr.1 (by omega)]
            rw [decide_eq_true c1, decide_eq_true c2, decide_eq_true c3]
            exact kT_some ⟨hx2.v (f := 25) (by decide), hf2.q (f := 25) (by decide) (by decide)⟩
          · rw [decide_eq_false c3, Bool.and_false, if_neg (by decide)]
            exact kT_some ⟨hx2, hf2⟩
        · rw [decide_eq_false c2, Bool.and_false, Bool.false_and, if_neg (by decide)]
          exact kT_some ⟨hx2, hf2⟩
      · rw [rz_8 hx2.1, ssm_f (f := 0) (by decide) (by decide)] at c1
        rw [decide_eq_false c1, Bool.and_false, Bool.false_and, Bool.false_and, if_neg (by decide)]
        exact kT_some ⟨hx2, hf2⟩
  unfold f_N_shift ssh sst
  by_cases e : l = 1
  · rw [if_pos e]
    refine kT_eq (n_continues hx I v0 v1 k0 k1 d0 d1) ?_
    have hb := main (scn S v k d)
    dsimp only
    rw [decide_eq_true e, Bool.true_and]
    cases hc : scn S v k d with
    | false => rw [hc] at hb; rw [if_bf]; exact hb
    | true => rw [hc] at hb; rw [if_bt]; exact hb
  · rw [if_neg e, decide_eq_false e, Bool.false_and]
    exact main false
end NW3
