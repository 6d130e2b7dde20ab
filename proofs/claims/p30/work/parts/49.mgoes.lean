/-! the reference: one goes -/
section MC
variable {S : qMem} {q p a b x y : Int} {f f' : Nat} {n n' : Int}
theorem sdr_q (h1 : f ≠ 20) (h2 : f ≠ 21) : sdr (qud S f n x) q = qud (sdr S q) f n x := by
  unfold sdr
  rw [qud_row (k := f) (Ne.symm h1), qud_row (k := f) (Ne.symm h2)]
  by_cases e : S 20 q ≤ 0
  · rw [if_pos e, if_pos e]
  · rw [if_neg e, if_neg e]
    funext g m
    unfold qud
    dsimp only
    by_cases e1 : g = 20 ∧ m = q
    · rw [if_pos e1, if_neg (fun z => h1 (z.1.symm.trans e1.1)), if_pos e1]
    · rw [if_neg e1]
      by_cases e2 : g = 21 ∧ q * 6 ≤ m ∧ m < q * 6 + (S 20 q - 1)
      · rw [if_pos e2, if_neg (fun z => h2 (z.1.symm.trans e2.1)), if_neg e1, if_pos e2]
      · rw [if_neg e2, if_neg e1, if_neg e2]
theorem spu_q (h1 : f ≠ 20) (h2 : f ≠ 21) : spu (qud S f n x) q p = qud (spu S q p) f n x := by
  unfold spu
  rw [qud_row (k := f) (Ne.symm h1)]
  by_cases e : S 20 q < 6
  · rw [if_pos e, if_pos e, qud_cm (k := f) (k' := 21) (Or.inl (Ne.symm h2)), qud_cm (k := f) (k' := 20) (Or.inl (Ne.symm h1))]
  · rw [if_neg e, if_neg e]
end MC
/-- a packet's going, in the reference's order: from the queues on -/
def sgT (S : qMem) (v k d t p l h b : Int) : qMem := smv (qud (qud (qud (qud (qud (qud (qud (qud (qud (spu (sdr S (v * 9 + k)) (t * 9 + (if l = 1 then 1 else 5) + d) p) 9 p l) 10 p t) 11 p d) 12 p (S 12 p + 1)) 17 p (S 0 10)) 18 (p * 5 + (S 12 p + 1)) t) 35 1 (w32 (S 35 1 + 1))) 0 11 (w32 (S 0 11 + b))) 34 (v * 4 + d) (w32 (S 34 (v * 4 + d) + 1))) p v d l h
section MG2
variable {w w' S : qMem} {v k d p q n r l t h b x7 : Int} {f : Nat}
theorem m_notes_go (hr : RMP (fun f n => lv S f n ∨ (f = 18 ∧ n = p * 5 + S 12 p)) w S) (c0 : 0 ≤ S 22 1) (c1 : S 22 1 < 64) : ∃ w', f_M_notes p v d l h w = some w' ∧ RMP (fun f n => lv (smv S p v d l h) f n) w' (smv S p v d l h) ∧ FM w w' := by
  have e15 : w 89 15 = S 22 1 := hr 22 1 vv_22_1 (Or.inl lv_22_1)
  have vm : ∀ i : Int, 0 ≤ i → i < 5 → vv 23 (S 22 1 * 5 + i) := fun i a b => by unfold vv; omega
  unfold f_M_notes
  rw [qld_ok (by decide) (by decide), e15, w32_ok (z := 5 * S 22 1) (by omega) (by omega), w32_ok (z := 5514 + 5 * S 22 1) (by omega) (by omega), w32_ok (z := 5514 + 5 * S 22 1 + 1) (by omega) (by omega), w32_ok (z := 5514 + 5 * S 22 1 + 2) (by omega) (by omega), w32_ok (z := 5514 + 5 * S 22 1 + 3) (by omega) (by omega), w32_ok (z := 5514 + 5 * S 22 1 + 4) (by omega) (by omega)]
  simp (disch := omega) only [qst_ok, qld_ok]
  simp (disch := omega) only [qud_ni]
  rw [e15, w32_ok (z := S 22 1 + 1) (by omega) (by omega)]
  have h0 := vm 0 (by decide) (by decide)
  rw [Int.add_zero] at h0
  have H := hr.u (f := 23) (n := S 22 1 * 5) (v := p) (a := 5514 + 5 * S 22 1) h0 (by rw [ad_23]; omega)
    |>.u (f := 23) (n := S 22 1 * 5 + 1) (v := v) (a := 5514 + 5 * S 22 1 + 1) (vm 1 (by decide) (by decide)) (by rw [ad_23]; omega)
    |>.u (f := 23) (n := S 22 1 * 5 + 2) (v := d) (a := 5514 + 5 * S 22 1 + 2) (vm 2 (by decide) (by decide)) (by rw [ad_23]; omega)
    |>.u (f := 23) (n := S 22 1 * 5 + 3) (v := l) (a := 5514 + 5 * S 22 1 + 3) (vm 3 (by decide) (by decide)) (by rw [ad_23]; omega)
    |>.u (f := 23) (n := S 22 1 * 5 + 4) (v := h) (a := 5514 + 5 * S 22 1 + 4) (vm 4 (by decide) (by decide)) (by rw [ad_23]; omega)
    |>.u (f := 22) (n := 1) (v := S 22 1 + 1) (a := 15) vv_22_1 rfl
  refine ⟨_, rfl, ?_, FM.rfl'.q.q.q.q.q.q⟩
  intro f n hv hl
  refine H f n hv ?_
  obtain ⟨l0, l1, l2, l3, l4, l5⟩ := hl
  rw [smv_f (by decide) (by decide)] at l1 l3 l5
  rw [smv_f (by decide) (by decide), smv_f (by decide) (by decide)] at l2
  rw [smv_22] at l4
  by_cases e : f = 23 ∧ S 22 1 * 5 ≤ n
  · have := l4 e.1
    rcases (by omega : n = S 22 1 * 5 ∨ n = S 22 1 * 5 + 1 ∨ n = S 22 1 * 5 + 2 ∨ n = S 22 1 * 5 + 3 ∨ n = S 22 1 * 5 + 4) with q | q | q | q | q <;> simp only [e.1, q, and_self, true_or, or_true]
  · have : lv S f n := ⟨l0, l1, l2, l3, fun hf => by have : ¬ S 22 1 * 5 ≤ n := fun z => e ⟨hf, z⟩
                                                     omega, l5⟩
    simp only [this, true_or]
/-- from the queues on -/
theorem m_goes152 (hR : RM w S) (I : IW S) (v0 : 0 ≤ v) (v1 : v < 16) (k0 : 0 ≤ k) (k1 : k < 9) (d0 : 0 ≤ d) (d1 : d < 4) (t0 : 0 ≤ t) (t1 : t < 16) (p0 : 0 ≤ p) (p1 : p < S 5 13) (hc : S 5 13 ≤ 250)
    (h120 : 0 ≤ S 12 p) (h121 : S 12 p ≤ 3) (hm0 : 0 ≤ S 22 1) (hm1 : S 22 1 < 64) (hs : 0 < S 20 (v * 9 + k)) (htv : t ≠ v) (ht : S 20 (t * 9 + (if l = 1 then 1 else 5) + d) < 6) {x5 x6 : Int} (hl : (x5 = 0 ∧ l = 1 ∧ b = 0 ∧ ((x6 = 0 ∧ h = 1) ∨ (x6 ≠ 0 ∧ h = 2))) ∨ (x5 = 1 ∧ l = 2 ∧ b = 1 ∧ h = 0)) :
    kT (f_M_goes_152 p v k d x5 x6 t (16 + 17 * p) w) (fun w' => RM w' (sgT S v k d t p l h b) ∧ FM w w') := by
  obtain ⟨w1, e1, h1, f1⟩ := m_leaves hR v0 v1 k0 k1 hs (I.2.2.2 _ (by omega) (by omega)).1.2
  have vp : ∀ g : Nat, 6 ≤ g → g ≤ 17 → vv g p := fun g a b => by unfold vv; omega
  have s20 : sdr S (v * 9 + k) 20 (t * 9 + (if l = 1 then 1 else 5) + d) = S 20 (t * 9 + (if l = 1 then 1 else 5) + d) := by
    rw [sdr_20 hs, if_neg (by split <;> omega)]
  -- the writes behind the queues
  have main : ∀ w2, RM w2 (spu (sdr S (v * 9 + k)) (t * 9 + (if l = 1 then 1 else 5) + d) p) → FM w w2 → kT (f_M_goes_196 (16 + 17 * p + 3) l p v d x5 x6 t (16 + 17 * p) w2) (fun w' => RM w' (sgT S v k d t p l h b) ∧ FM w w') := by
    intro w2 h2 f2
    have r : ∀ g : Nat, g ≠ 20 → g ≠ 21 → spu (sdr S (v * 9 + k)) (t * 9 + (if l = 1 then 1 else 5) + d) p g = S g := fun g a b => by rw [spu_f a b, sdr_f a b]
    have hck : w2 89 6 = S 0 10 := by rw [rm_0_10 h2, r 0 (by decide) (by decide)]
    have h12 : w2 89 (16 + 17 * p + 6) = S 12 p := by
      rw [rm_12 h2 p0 (by rw [r 5 (by decide) (by decide)]; exact p1) (by rw [r 5 (by decide) (by decide)]; exact hc) (by omega), r 12 (by decide) (by decide)]
    have h10 : w2 89 10 = S 35 1 := by rw [rm_35_1 h2, r 35 (by decide) (by decide)]
    have h11 : w2 89 11 = S 0 11 := by rw [rm_0_11 h2, r 0 (by decide) (by decide)]
    have h34 : w2 89 (5450 + 4 * v + d) = S 34 (v * 4 + d) := by rw [rm_34 h2 (n := v * 4 + d) (by omega) (by omega) (by omega), r 34 (by decide) (by decide)]
    have H := (RMP.of h2).u (f := 9) (n := p) (v := l) (a := 16 + 17 * p + 3) (vp _ (by decide) (by decide)) (by rw [ad_pk (by decide) (by decide)]; omega)
      |>.u (f := 10) (n := p) (v := t) (a := 16 + 17 * p + 4) (vp _ (by decide) (by decide)) (by rw [ad_pk (by decide) (by decide)]; omega)
      |>.u (f := 11) (n := p) (v := d) (a := 16 + 17 * p + 5) (vp _ (by decide) (by decide)) (by rw [ad_pk (by decide) (by decide)]; omega)
      |>.u (f := 12) (n := p) (v := S 12 p + 1) (a := 16 + 17 * p + 6) (vp _ (by decide) (by decide)) (by rw [ad_pk (by decide) (by decide)]; omega)
      |>.u (f := 17) (n := p) (v := S 0 10) (a := 16 + 17 * p + 11) (vp _ (by decide) (by decide)) (by rw [ad_pk (by decide) (by decide)]; omega)
      |>.u (f := 18) (n := p * 5 + (S 12 p + 1)) (v := t) (a := 16 + 17 * p + 12 + (S 12 p + 1)) (by unfold vv; omega) (by rw [ad_18]; omega)
      |>.u (f := 35) (n := 1) (v := w32 (S 35 1 + 1)) (a := 10) vv_35_1 rfl
      |>.u (f := 0) (n := 11) (v := w32 (S 0 11 + b)) (a := 11) vv_0_11 rfl
      |>.u (f := 34) (n := v * 4 + d) (v := w32 (S 34 (v * 4 + d) + 1)) (a := 5450 + 4 * v + d) (by unfold vv; omega) (by rw [ad_34]; omega)
    have fin : ∀ w3, w3 = qud (qud (qud (qud (qud (qud (qud (qud (qud w2 89 (16 + 17 * p + 3) l) 89 (16 + 17 * p + 4) t) 89 (16 + 17 * p + 5) d) 89 (16 + 17 * p + 6) (S 12 p + 1)) 89 (16 + 17 * p + 11) (S 0 10)) 89 (16 + 17 * p + 12 + (S 12 p + 1)) t) 89 10 (w32 (S 35 1 + 1))) 89 11 (w32 (S 0 11 + b))) 89 (5450 + 4 * v + d) (w32 (S 34 (v * 4 + d) + 1)) → kT (f_M_goes_357 p v d l h w3) (fun w' => RM w' (sgT S v k d t p l h b) ∧ FM w w') := by
      intro w3 e3
      subst e3
      obtain ⟨w4, e4, h4, f4⟩ := m_notes_go (p := p) (v := v) (d := d) (l := l) (h := h) (w := qud (qud (qud (qud (qud (qud (qud (qud (qud w2 89 (16 + 17 * p + 3) l) 89 (16 + 17 * p + 4) t) 89 (16 + 17 * p + 5) d) 89 (16 + 17 * p + 6) (S 12 p + 1)) 89 (16 + 17 * p + 11) (S 0 10)) 89 (16 + 17 * p + 12 + (S 12 p + 1)) t) 89 10 (w32 (S 35 1 + 1))) 89 11 (w32 (S 0 11 + b))) 89 (5450 + 4 * v + d) (w32 (S 34 (v * 4 + d) + 1)))
        (S := qud (qud (qud (qud (qud (qud (qud (qud (qud (spu (sdr S (v * 9 + k)) (t * 9 + (if l = 1 then 1 else 5) + d) p) 9 p l) 10 p t) 11 p d) 12 p (S 12 p + 1)) 17 p (S 0 10)) 18 (p * 5 + (S 12 p + 1)) t) 35 1 (w32 (S 35 1 + 1))) 0 11 (w32 (S 0 11 + b))) 34 (v * 4 + d) (w32 (S 34 (v * 4 + d) + 1)))
        (by
          intro f n hv hp
          refine H f n hv ?_
          have e12 : qud (qud (qud (qud (qud (qud (qud (qud (qud (spu (sdr S (v * 9 + k)) (t * 9 + (if l = 1 then 1 else 5) + d) p) 9 p l) 10 p t) 11 p d) 12 p (S 12 p + 1)) 17 p (S 0 10)) 18 (p * 5 + (S 12 p + 1)) t) 35 1 (w32 (S 35 1 + 1))) 0 11 (w32 (S 0 11 + b))) 34 (v * 4 + d) (w32 (S 34 (v * 4 + d) + 1)) 12 p = S 12 p + 1 := by
            simp (disch := decide) only [qud_nk, qud_s]
          rcases hp with hp | hp
          · obtain ⟨l0, l1, l2, l3, l4, l5⟩ := hp
            simp (disch := decide) only [qud_nk] at l1 l2 l3 l4 l5
            by_cases e18 : f = 18 ∧ n = p * 5 + (S 12 p + 1)
            · simp only [e18, and_self, true_or, or_true]
            · have hl' : lv (spu (sdr S (v * 9 + k)) (t * 9 + (if l = 1 then 1 else 5) + d) p) f n := by
                refine ⟨l0, l1, fun hf => ?_, l3, l4, l5⟩
                have := l2 hf
                refine ⟨this.1, ?_⟩
                rw [r 12 (by decide) (by decide)]
                rw [qud_if, qud_nk (by decide), qud_nk (by decide), qud_nk (by decide), r 12 (by decide) (by decide)] at this
                by_cases e5 : n / 5 = p
                · rw [if_pos e5] at this
                  rw [e5]
                  have : ¬ n = p * 5 + (S 12 p + 1) := fun z => e18 ⟨hf, z⟩
                  omega
                · rw [if_neg e5] at this
                  exact this.2
              simp only [hl', true_or]
          · rw [e12] at hp
            simp only [hp, and_self, true_or, or_true])
        (by
          simp (disch := decide) only [qud_nk]
          rw [r 22 (by decide) (by decide)]
          exact hm0)
        (by
          simp (disch := decide) only [qud_nk]
          rw [r 22 (by decide) (by decide)]
          exact hm1)
      unfold f_M_goes_357
      rw [e4]
      refine kT_some ⟨?_, ((f2.q.q.q.q.q.q.q.q.q).tr f4)⟩
      exact fun f n hl' => h4 f n (vv_of hl') hl'
    unfold f_M_goes_196 f_M_goes_302 f_M_goes_338
    rw [w32_ok (z := 16 + 17 * p + 4) (by omega) (by omega), w32_ok (z := 16 + 17 * p + 5) (by omega) (by omega), w32_ok (z := 16 + 17 * p + 6) (by omega) (by omega), w32_ok (z := 16 + 17 * p + 11) (by omega) (by omega), w32_ok (z := 16 + 17 * p + 12) (by omega) (by omega), w32_ok (z := 4 * v) (by omega) (by omega), w32_ok (z := 5450 + 4 * v) (by omega) (by omega), w32_ok (z := 5450 + 4 * v + d) (by omega) (by omega)]
    rw [qst_ok (by omega) (by omega), qst_ok (by omega) (by omega), qst_ok (by omega) (by omega), qld_ok (by omega) (by omega), qud_ni (by omega), qud_ni (by omega), qud_ni (by omega), h12, w32_ok (z := S 12 p + 1) (by omega) (by omega), qst_ok (by omega) (by omega), qld_ok (by omega) (by omega)]
    rw [qud_ni (by omega), qud_ni (by omega), qud_ni (by omega), qud_ni (by omega), hck, qst_ok (by omega) (by omega), qld_ok (by omega) (by omega), qud_ni (by omega), qud_s, w32_ok (by omega) (by omega), qst_ok (by omega) (by omega), qld_ok (by omega) (by omega)]
    rw [qud_ni (by omega), qud_ni (by omega), qud_ni (by omega), qud_ni (by omega), qud_ni (by omega), qud_ni (by omega), h10, qst_ok (by omega) (by omega), qld_ok (by omega) (by omega)]
    rw [qud_ni (by omega), qud_ni (by omega), qud_ni (by omega), qud_ni (by omega), qud_ni (by omega), qud_ni (by omega), qud_ni (by omega), h11]
    have e34 : ∀ z : Int, qud (qud (qud (qud (qud (qud (qud (qud w2 89 (16 + 17 * p + 3) l) 89 (16 + 17 * p + 4) t) 89 (16 + 17 * p + 5) d) 89 (16 + 17 * p + 6) (S 12 p + 1)) 89 (16 + 17 * p + 11) (S 0 10)) 89 (16 + 17 * p + 12 + (S 12 p + 1)) t) 89 10 (w32 (S 35 1 + 1))) 89 11 z 89 (5450 + 4 * v + d) = S 34 (v * 4 + d) := by
      intro z
      rw [qud_ni (by omega), qud_ni (by omega), qud_ni (by omega), qud_ni (by omega), qud_ni (by omega), qud_ni (by omega), qud_ni (by omega), qud_ni (by omega), h34]
    rcases hl with ⟨rfl, rfl, rfl, hx⟩ | ⟨rfl, rfl, rfl, rfl⟩
    · rw [if_pos rfl, qst_ok (by decide) (by decide), qld_ok (by omega) (by omega), qst_ok (by omega) (by omega), e34, if_pos rfl, if_pos rfl]
      rcases hx with ⟨rfl, rfl⟩ | ⟨hx, rfl⟩
      · rw [if_pos rfl]
        exact fin _ rfl
      · rw [if_neg hx]
        exact fin _ rfl
    · rw [if_neg (by decide), qst_ok (by decide) (by decide), qld_ok (by omega) (by omega), qst_ok (by omega) (by omega), e34, if_neg (by decide), if_neg (by decide)]
      exact fin _ rfl
  unfold f_M_goes_152 f_M_goes_171
  rw [e1]
  simp only [Option.bind_some]
  have q0 : 0 ≤ sdr S (v * 9 + k) 20 (t * 9 + (if l = 1 then 1 else 5) + d) := by
    rw [s20]
    exact (I.2.2.2 _ (by split <;> omega) (by split <;> omega)).1.1
  rcases hl with ⟨rfl, rfl, rfl, hx⟩ | ⟨rfl, rfl, rfl, rfl⟩
  · rw [if_pos rfl] at s20 ht q0
    rw [if_pos rfl, w32_ok (z := 1 + d) (by omega) (by omega), w32_ok (z := 16 + 17 * p + 3) (by omega) (by omega)]
    have e9 : t * 9 + 1 + d = t * 9 + (1 + d) := by omega
    rw [e9] at s20 ht q0
    obtain ⟨w2, e2, h2, f2⟩ := m_comes (p := p) (v := t) (k := 1 + d) h1 t0 t1 (by omega) (by omega) q0 (by rw [s20]; exact ht)
    rw [e2]
    simp only [Option.bind_some]
    rw [if_pos trivial]
    rw [← e9] at h2
    exact main w2 (by rw [if_pos rfl]; exact h2) (f1.tr f2)
  · rw [if_neg (by decide)] at s20 ht q0
    rw [if_neg (by decide), w32_ok (z := 5 + d) (by omega) (by omega), w32_ok (z := 16 + 17 * p + 3) (by omega) (by omega)]
    have e9 : t * 9 + 5 + d = t * 9 + (5 + d) := by omega
    rw [e9] at s20 ht q0
    obtain ⟨w2, e2, h2, f2⟩ := m_comes (p := p) (v := t) (k := 5 + d) h1 t0 t1 (by omega) (by omega) q0 (by rw [s20]; exact ht)
    rw [e2]
    simp only [Option.bind_some]
    rw [if_neg (by decide)]
    rw [← e9] at h2
    exact main w2 (by rw [if_neg (by decide)]; exact h2) (f1.tr f2)
end MG2
