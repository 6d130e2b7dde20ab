/-! the reference: one goes, whole -/
def gOK (S : qMem) (v k d t p l : Int) : Prop := IW S ∧ ((0 ≤ p ∧ p < S 5 13) ∧ S 5 13 ≤ 250) ∧ ((0 ≤ S 12 p ∧ S 12 p ≤ 3) ∧ 0 ≤ S 22 1 ∧ S 22 1 < 64) ∧ 0 < S 20 (v * 9 + k) ∧ S 20 (t * 9 + (if l = 1 then 1 else 5) + d) < 6
def sgl (S : qMem) (k p : Int) : qMem := if k = 0 then qud S 16 p (S 0 10) else S
def sgc0 (S : qMem) (v d : Int) : qMem := if S 0 8 = 2 ∧ S 25 (gr (S 1 3) (S 1 4) v d) = gn (S 1 3) (S 1 4) v d ∧ S 0 6 - S 20 (gn (S 1 3) (S 1 4) v d * 9 + 1 + d) = 1 then qud S 25 (gr (S 1 3) (S 1 4) v d) v else S
def sge (S : qMem) (v d p : Int) : qMem := qud (qud (qud S 14 p (w32 (S 14 p + 1))) 29 (gr (S 1 3) (S 1 4) v d) (w32 (S 29 (gr (S 1 3) (S 1 4) v d) + 1))) 33 (v * 4 + d) 1
theorem qud_self {T : qMem} {k : Nat} {a v : Int} (h : T k a = v) : qud T k a v = T := by rw [← h]; exact qud_id
/-- writes one behind the other, sorted -/
def quds (S : qMem) (l : List (Nat × Int × Int)) : qMem := l.foldl (fun S e => qud S e.1 e.2.1 e.2.2) S
def qinF (x : Nat × Int × Int) : List (Nat × Int × Int) → List (Nat × Int × Int)
  | [] => [x]
  | y :: l => if y.1 < x.1 then y :: qinF x l else x :: y :: l
def qist : List (Nat × Int × Int) → List (Nat × Int × Int)
  | [] => []
  | x :: l => qinF x (qist l)
theorem quds_in {x : Nat × Int × Int} : ∀ (l : List (Nat × Int × Int)) (S : qMem), quds S (qinF x l) = quds S (x :: l) := by
  intro l
  induction l with
  | nil => intro S; rfl
  | cons y l ih =>
    intro S
    rw [qinF]
    by_cases h : y.1 < x.1
    · rw [if_pos h]
      show quds (qud S y.1 y.2.1 y.2.2) (qinF x l) = quds (qud (qud S x.1 x.2.1 x.2.2) y.1 y.2.1 y.2.2) l
      rw [ih, qud_cm (k := x.1) (k' := y.1) (Or.inl (by omega))]
      rfl
    · rw [if_neg h]
theorem quds_st : ∀ (l : List (Nat × Int × Int)) (S : qMem), quds S (qist l) = quds S l := by
  intro l
  induction l with
  | nil => intro S; rfl
  | cons x l ih =>
    intro S
    rw [qist, quds_in]
    exact ih _
theorem qsame {B : qMem} (l1 l2 : List (Nat × Int × Int)) (h : qist l1 = qist l2) : quds B l1 = quds B l2 := by rw [← quds_st l1, h, quds_st]
section MG3
variable {w w' S : qMem} {v k d p q n r l t h b x5 x6 x : Int} {f : Nat}
theorem gOK.qu (g : gOK S v k d t p l) (hf : f ≠ 0 ∧ f ≠ 1 ∧ f ≠ 5 ∧ f ≠ 7 ∧ f ≠ 12 ∧ f ≠ 20 ∧ f ≠ 21 ∧ f ≠ 22) : gOK (qud S f n x) v k d t p l := by
  obtain ⟨h0, h1, h5, h7, h12, h20, h21, h22⟩ := hf
  unfold gOK
  rw [qud_nk (Ne.symm h5), qud_nk (Ne.symm h12), qud_nk (Ne.symm h22), qud_nk (Ne.symm h20), qud_nk (Ne.symm h20)]
  exact ⟨g.1.qu ⟨h1, h5, h7, h20, h21, h22⟩ (fun z => absurd z h0), g.2⟩
theorem m_goes125 (hR : RM w S) (g : gOK S v k d t p l) (v0 : 0 ≤ v) (v1 : v < 16) (k0 : 0 ≤ k) (k1 : k < 9) (d0 : 0 ≤ d) (d1 : d < 4) (t0 : 0 ≤ t) (t1 : t < 16) (htv : t ≠ v) (hl : (x5 = 0 ∧ l = 1 ∧ b = 0 ∧ ((x6 = 0 ∧ h = 1) ∨ (x6 ≠ 0 ∧ h = 2))) ∨ (x5 = 1 ∧ l = 2 ∧ b = 1 ∧ h = 0)) :
    kT (f_M_goes_125 p v k d x5 x6 t w) (fun w' => RM w' (sgT (sgl S k p) v k d t p l h b) ∧ FM w w') := by
  have fin : ∀ w1 S1, RM w1 S1 → FM w w1 → gOK S1 v k d t p l → kT (f_M_goes_152 p v k d x5 x6 t (16 + 17 * p) w1) (fun w' => RM w' (sgT S1 v k d t p l h b) ∧ FM w w') := by
    intro w1 S1 h1 f1 g1
    exact kT_mono (m_goes152 h1 g1.1 v0 v1 k0 k1 d0 d1 t0 t1 g1.2.1.1.1 g1.2.1.1.2 g1.2.1.2 g1.2.2.1.1.1 g1.2.2.1.1.2 g1.2.2.1.2.1 g1.2.2.1.2.2 g1.2.2.2.1 htv g1.2.2.2.2 hl) (fun w' hw => ⟨hw.1, f1.tr hw.2⟩)
  have hp := g.2.1
  unfold f_M_goes_125 sgl
  rw [m_packetAt hp.1.1 (by omega)]
  simp only [Option.bind_some]
  by_cases e : k = 0
  · rw [if_pos e, if_pos e, qld_ok (by decide) (by decide), w32_ok (by omega) (by omega), qst_ok (by omega) (by omega), rm_0_10 hR]
    exact fin _ _ (hR.wr (f := 16) (n := p) (by unfold vv; omega) (by rw [ad_pk (by decide) (by decide)]; omega) (by decide) (by decide) (by decide) (by decide) (by decide)) FM.rfl'.q (g.qu (by decide))
  · rw [if_neg e, if_neg e]
    exact fin _ _ hR FM.rfl' g
theorem sfst_q (h20 : f ≠ 20) (h21 : f ≠ 21) : sfst (qud S f n x) q = sfst S q := sfst_co (qud_row (Ne.symm h20)) (qud_row (Ne.symm h21))
/-- the two orders of writing come to the same -/
theorem sgo_A (I : IV S) (v0 : 0 ≤ v) (v1 : v < S 1 3 * S 1 4) (k0 : 0 ≤ k) (k1 : k < 9) (he : sfst S (v * 9 + k) ≠ -1) (ha : sad S v k d = true) : sgo S v k d = sgT (sgl S k (sfst S (v * 9 + k))) v k d (gn (S 1 3) (S 1 4) v d) (sfst S (v * 9 + k)) 2 0 1 := by
  obtain ⟨⟨p0, p1⟩, -, -, hat, h3, h0, h1, h2⟩ := first_at I v0 v1 k0 k1 he
  unfold sgo sg2 sg1 sla shw
  rw [if_pos ha, if_pos ha, if_pos ha]
  have hst : sst (qud S 0 11 (w32 (S 0 11 + 1))) v k d 2 = false := by
    unfold sst
    rw [decide_eq_false (show ¬ (2 : Int) = 1 by decide)]
    rfl
  unfold ssh
  rw [hst, if_neg (by decide)]
  unfold ssm sgT sgl shp smv
  rw [if_neg (show ¬ (2 : Int) = 1 by decide)]
  by_cases ek : k = 0
  · have e9 := h0.mpr ek
    rw [if_pos ek]
    simp (disch := decide) only [sfst_q, qud_nk, spu_f, sdr_f, sdr_q, spu_q]
    rw [if_pos e9]
    simp (disch := decide) only [qud_nk, qud_s, spu_f, sdr_f]
    refine qsame (B := spu (sdr S (v * 9 + k)) _ (sfst S (v * 9 + k))) [(0, _, _), (34, _, _), (16, _, _), (9, _, _), (10, _, _), (11, _, _), (17, _, _), (12, _, _), (18, _, _), (23, _, _), (23, _, _), (23, _, _), (23, _, _), (23, _, _), (22, _, _), (35, _, _)] [(16, _, _), (9, _, _), (10, _, _), (11, _, _), (12, _, _), (17, _, _), (18, _, _), (35, _, _), (0, _, _), (34, _, _), (23, _, _), (23, _, _), (23, _, _), (23, _, _), (23, _, _), (22, _, _)] ?_
    rfl
  · have e9 : ¬ S 9 (sfst S (v * 9 + k)) = 0 := fun z => ek (h0.mp z)
    rw [if_neg ek]
    simp (disch := decide) only [sfst_q, qud_nk, spu_f, sdr_f, sdr_q, spu_q]
    rw [if_neg e9]
    simp (disch := decide) only [qud_nk, qud_s, spu_f, sdr_f]
    refine qsame (B := spu (sdr S (v * 9 + k)) _ (sfst S (v * 9 + k))) [(0, _, _), (34, _, _), (9, _, _), (10, _, _), (11, _, _), (17, _, _), (12, _, _), (18, _, _), (23, _, _), (23, _, _), (23, _, _), (23, _, _), (23, _, _), (22, _, _), (35, _, _)] [(9, _, _), (10, _, _), (11, _, _), (12, _, _), (17, _, _), (18, _, _), (35, _, _), (0, _, _), (34, _, _), (23, _, _), (23, _, _), (23, _, _), (23, _, _), (23, _, _), (22, _, _)] ?_
    rfl
theorem sst_on (I : IV S) (v0 : 0 ≤ v) (v1 : v < S 1 3 * S 1 4) (k0 : 0 ≤ k) (k1 : k < 9) (d0 : 0 ≤ d) (d1 : d < 4) (ho : sok S v k d) (hcn : scn S v k d = true) (ha : sad S v k d = false) : sst S v k d 1 = decide (S 0 8 = 2 ∧ S 25 (gr (S 1 3) (S 1 4) v d) = gn (S 1 3) (S 1 4) v d ∧ S 0 6 - S 20 (gn (S 1 3) (S 1 4) v d * 9 + 1 + d) = 1) := by
  have hn := gn_in I.1.1 v0 v1 d0 d1
  obtain ⟨⟨p0, p1⟩, ⟨hp, hs⟩, -, hat, -⟩ := first_at I v0 v1 k0 k1 ho.1
  have hpk := I.2.1.1 _ p0 p1
  have hfar := gp_far I.1.1 v0 v1 hpk.1.2.1.1 hpk.1.2.1.2 d0 d1 ho.2.1
  have hnv : gn (S 1 3) (S 1 4) v d ≠ v := fun z => by rw [z] at hfar; omega
  have hfree := ho.2.2
  have hE := I.1.2.1
  unfold sla at hfree
  rw [ha, if_neg (show ¬ false = true by decide), if_pos rfl, if_pos rfl] at hfree
  have s20 : sdr S (v * 9 + k) 20 (gn (S 1 3) (S 1 4) v d * 9 + 1 + d) = S 20 (gn (S 1 3) (S 1 4) v d * 9 + 1 + d) := by
    rw [sdr_20 hs, if_neg (by omega)]
  have e : sfa (ssm S v k d 1) v d = S 0 6 - S 20 (gn (S 1 3) (S 1 4) v d * 9 + 1 + d) - 1 := by
    unfold sfa
    rw [ssm_f (f := 0) (by decide) (by decide), ssm_f (f := 1) (by decide) (by decide)]
    unfold ssm
    rw [if_pos rfl, spu_20 (by rw [s20]; omega), if_pos rfl, s20]
    omega
  unfold sst
  rw [e, hcn, decide_eq_true (show (1 : Int) = 1 from rfl), Bool.true_and, Bool.true_and]
  by_cases c1 : S 0 8 = 2
  · by_cases c2 : S 25 (gr (S 1 3) (S 1 4) v d) = gn (S 1 3) (S 1 4) v d
    · rw [decide_eq_true c1, decide_eq_true c2, Bool.true_and, Bool.true_and, decide_eq_decide]
      constructor
      · intro c3; exact ⟨c1, c2, by omega⟩
      · intro c3; have := c3.2.2; omega
    · rw [decide_eq_false c2, Bool.and_false, Bool.false_and, decide_eq_false (fun z => c2 z.2.1)]
  · rw [decide_eq_false c1, Bool.false_and, Bool.false_and, decide_eq_false (fun z => c1 z.1)]
theorem scn_f (h : scn S v k d = true) : k = 1 + d := by
  unfold scn at h
  rw [Bool.and_eq_true] at h
  exact of_decide_eq_true h.1
theorem sgo_B (I : IV S) (X : w32 (S 0 11) = S 0 11) (v0 : 0 ≤ v) (v1 : v < S 1 3 * S 1 4) (k0 : 0 ≤ k) (k1 : k < 9) (d0 : 0 ≤ d) (d1 : d < 4) (ho : sok S v k d) (ha : sad S v k d = false) (hcn : scn S v k d = true) : sgo S v k d = sgT (sgl (sgc0 S v d) k (sfst S (v * 9 + k))) v k d (gn (S 1 3) (S 1 4) v d) (sfst S (v * 9 + k)) 1 2 0 := by
  obtain ⟨⟨p0, p1⟩, -, -, hat, h3, h0, h1, h2⟩ := first_at I v0 v1 k0 k1 ho.1
  have hk := scn_f hcn
  have hst := sst_on I v0 v1 k0 k1 d0 d1 ho hcn ha
  have ek : ¬ k = 0 := by omega
  have e9 : ¬ S 9 (sfst S (v * 9 + k)) = 0 := fun z => ek (h0.mp z)
  have e9b : ¬ S 9 (sfst S (v * 9 + k)) = 0 ∧ True := ⟨e9, trivial⟩
  have e1 : sg1 S v k d = S := by unfold sg1; rw [ha, hcn, if_neg (by decide), if_pos rfl]
  have e2 : sla S v k d = 1 := by unfold sla; rw [ha, if_neg (by decide)]
  have e3 : shw S v k d = 2 := by unfold shw; rw [ha, hcn, if_neg (by decide), if_pos rfl]
  unfold sgo sg2
  rw [e1, e2, e3]
  unfold ssh sgc0
  rw [hst]
  have e11' : ∀ T : qMem, T 0 11 = S 0 11 → qud T 0 11 (w32 (S 0 11 + 0)) = T := fun T hT => qud_self (by rw [hT, Int.add_zero, X])
  have hsp : ∀ q1 q2 : Int, spu (sdr S q1) q2 (sfst S (v * 9 + k)) 0 11 = S 0 11 := fun q1 q2 => by rw [spu_f (by decide) (by decide), sdr_f (by decide) (by decide)]
  by_cases cc : S 0 8 = 2 ∧ S 25 (gr (S 1 3) (S 1 4) v d) = gn (S 1 3) (S 1 4) v d ∧ S 0 6 - S 20 (gn (S 1 3) (S 1 4) v d * 9 + 1 + d) = 1
  · rw [decide_eq_true cc, if_pos rfl, if_pos cc]
    unfold ssm sgT sgl shp smv
    rw [if_pos (show (1 : Int) = 1 from rfl), if_neg ek]
    simp (disch := decide) only [sfst_q, qud_nk, spu_f, sdr_f, sdr_q, spu_q]
    rw [if_neg e9]
    simp (disch := decide) only [qud_nk, qud_s, spu_f, sdr_f]
    rw [e11' _ (by simp (disch := decide) only [qud_nk]; exact hsp _ _)]
    refine qsame (B := spu (sdr S (v * 9 + k)) _ (sfst S (v * 9 + k))) [(25, _, _), (34, _, _), (9, _, _), (10, _, _), (11, _, _), (17, _, _), (12, _, _), (18, _, _), (23, _, _), (23, _, _), (23, _, _), (23, _, _), (23, _, _), (22, _, _), (35, _, _)] [(25, _, _), (9, _, _), (10, _, _), (11, _, _), (12, _, _), (17, _, _), (18, _, _), (35, _, _), (34, _, _), (23, _, _), (23, _, _), (23, _, _), (23, _, _), (23, _, _), (22, _, _)] ?_
    rfl
  · rw [decide_eq_false cc, if_neg (by decide), if_neg cc]
    unfold ssm sgT sgl shp smv
    rw [if_pos (show (1 : Int) = 1 from rfl), if_neg ek]
    simp (disch := decide) only [sfst_q, qud_nk, spu_f, sdr_f, sdr_q, spu_q]
    rw [if_neg e9]
    simp (disch := decide) only [qud_nk, qud_s, spu_f, sdr_f]
    rw [e11' _ (by simp (disch := decide) only [qud_nk]; exact hsp _ _)]
    refine qsame (B := spu (sdr S (v * 9 + k)) _ (sfst S (v * 9 + k))) [(34, _, _), (9, _, _), (10, _, _), (11, _, _), (17, _, _), (12, _, _), (18, _, _), (23, _, _), (23, _, _), (23, _, _), (23, _, _), (23, _, _), (22, _, _), (35, _, _)] [(9, _, _), (10, _, _), (11, _, _), (12, _, _), (17, _, _), (18, _, _), (35, _, _), (34, _, _), (23, _, _), (23, _, _), (23, _, _), (23, _, _), (23, _, _), (22, _, _)] ?_
    rfl
theorem sgo_C (I : IV S) (X : w32 (S 0 11) = S 0 11) (v0 : 0 ≤ v) (v1 : v < S 1 3 * S 1 4) (k0 : 0 ≤ k) (k1 : k < 9) (he : sfst S (v * 9 + k) ≠ -1) (ha : sad S v k d = false) (hcn : scn S v k d = false) : sgo S v k d = sgT (sgl (sge S v d (sfst S (v * 9 + k))) k (sfst S (v * 9 + k))) v k d (gn (S 1 3) (S 1 4) v d) (sfst S (v * 9 + k)) 1 1 0 := by
  obtain ⟨⟨p0, p1⟩, -, -, hat, h3, h0, h1, h2⟩ := first_at I v0 v1 k0 k1 he
  have hst : sst (sge S v d (sfst S (v * 9 + k))) v k d 1 = false := by
    unfold sst
    have : scn (sge S v d (sfst S (v * 9 + k))) v k d = false := by
      unfold scn ses at hcn ⊢
      unfold sge
      simp (disch := decide) only [sfst_q, qud_nk]
      exact hcn
    rw [this, Bool.and_false, Bool.false_and, Bool.false_and, Bool.false_and]
  have e1 : sg1 S v k d = sge S v d (sfst S (v * 9 + k)) := by unfold sg1 sge; rw [ha, hcn, if_neg (by decide), if_neg (by decide)]
  have e2 : sla S v k d = 1 := by unfold sla; rw [ha, if_neg (by decide)]
  have e3 : shw S v k d = 1 := by unfold shw; rw [ha, hcn, if_neg (by decide), if_neg (by decide)]
  unfold sgo sg2
  rw [e1, e2, e3]
  have e11' : ∀ T : qMem, T 0 11 = S 0 11 → qud T 0 11 (w32 (S 0 11 + 0)) = T := fun T hT => qud_self (by rw [hT, Int.add_zero, X])
  have hsp : ∀ q1 q2 : Int, spu (sdr S q1) q2 (sfst S (v * 9 + k)) 0 11 = S 0 11 := fun q1 q2 => by rw [spu_f (by decide) (by decide), sdr_f (by decide) (by decide)]
  unfold ssh
  unfold sge at hst ⊢
  rw [hst, if_neg (by decide)]
  unfold ssm sgT sgl shp smv
  rw [if_pos (show (1 : Int) = 1 from rfl)]
  by_cases ek : k = 0
  · have e9 := h0.mpr ek
    rw [if_pos ek]
    simp (disch := decide) only [sfst_q, qud_nk, spu_f, sdr_f, sdr_q, spu_q]
    rw [if_pos e9]
    simp (disch := decide) only [qud_nk, qud_s, spu_f, sdr_f]
    rw [e11' _ (by simp (disch := decide) only [qud_nk]; exact hsp _ _)]
    refine qsame (B := spu (sdr S (v * 9 + k)) _ (sfst S (v * 9 + k))) [(14, _, _), (29, _, _), (33, _, _), (34, _, _), (16, _, _), (9, _, _), (10, _, _), (11, _, _), (17, _, _), (12, _, _), (18, _, _), (23, _, _), (23, _, _), (23, _, _), (23, _, _), (23, _, _), (22, _, _), (35, _, _)] [(14, _, _), (29, _, _), (33, _, _), (16, _, _), (9, _, _), (10, _, _), (11, _, _), (12, _, _), (17, _, _), (18, _, _), (35, _, _), (34, _, _), (23, _, _), (23, _, _), (23, _, _), (23, _, _), (23, _, _), (22, _, _)] ?_
    rfl
  · have e9 : ¬ S 9 (sfst S (v * 9 + k)) = 0 := fun z => ek (h0.mp z)
    rw [if_neg ek]
    simp (disch := decide) only [sfst_q, qud_nk, spu_f, sdr_f, sdr_q, spu_q]
    rw [if_neg e9]
    simp (disch := decide) only [qud_nk, qud_s, spu_f, sdr_f]
    rw [e11' _ (by simp (disch := decide) only [qud_nk]; exact hsp _ _)]
    refine qsame (B := spu (sdr S (v * 9 + k)) _ (sfst S (v * 9 + k))) [(14, _, _), (29, _, _), (33, _, _), (34, _, _), (9, _, _), (10, _, _), (11, _, _), (17, _, _), (12, _, _), (18, _, _), (23, _, _), (23, _, _), (23, _, _), (23, _, _), (23, _, _), (22, _, _), (35, _, _)] [(14, _, _), (29, _, _), (33, _, _), (9, _, _), (10, _, _), (11, _, _), (12, _, _), (17, _, _), (18, _, _), (35, _, _), (34, _, _), (23, _, _), (23, _, _), (23, _, _), (23, _, _), (23, _, _), (22, _, _)] ?_
    rfl
theorem m_enters3 (h : RM w S) (g : gIn (S 1 3) (S 1 4)) (v0 : 0 ≤ v) (v1 : v < S 1 3 * S 1 4) (d0 : 0 ≤ d) (d1 : d < 4) (p0 : 0 ≤ p) (p1 : p < S 5 13) (hc : S 5 13 ≤ 250) : kT (f_M_enters3 p v d w) (fun w' => RM w' (sge S v d p) ∧ FM w w') := by
  have hN := gN g
  have hr := gr_in g v0 v1 d0 d1
  have h16 := g16r g
  unfold f_M_enters3
  rw [m_packetAt p0 (by omega)]
  simp only [Option.bind_some]
  rw [w32_ok (z := 16 + 17 * p + 8) (by omega) (by omega), qld_ok (by omega) (by omega), qst_ok (by omega) (by omega), rm_14 h p0 p1 hc (by omega)]
  have h1 := h.wr (f := 14) (n := p) (v := w32 (S 14 p + 1)) (a := 16 + 17 * p + 8) (by unfold vv; omega) (by rw [ad_pk (by decide) (by decide)]; omega) (by decide) (by decide) (by decide) (by decide) (by decide)
  have e1 : qud S 14 p (w32 (S 14 p + 1)) 1 = S 1 := qud_row (by decide)
  have hwh := h1.wh
  rw [e1] at hwh
  rw [mg_ringFor hwh g v0 v1 d0 d1]
  simp only [Option.bind_some]
  rw [m_ringAt hr.1 (by omega)]
  simp only [Option.bind_some]
  rw [w32_ok (z := 5274 + 6 * gr (S 1 3) (S 1 4) v d + 4) (by omega) (by omega), qld_ok (by omega) (by omega), qst_ok (by omega) (by omega), rm_29 h1 (n := gr (S 1 3) (S 1 4) v d) hr.1 (by rw [e1]; exact hr.2) (by rw [e1]; exact h16) (by omega), qud_nk (show (29 : Nat) ≠ 14 by decide), w32_ok (z := 4 * v) (by omega) (by omega), w32_ok (z := 5834 + 4 * v) (by omega) (by omega), w32_ok (z := 5834 + 4 * v + d) (by omega) (by omega), qst_ok (by omega) (by omega)]
  refine kT_some ⟨?_, FM.rfl'.q.q.q⟩
  have h2 := h1.wr (f := 29) (n := gr (S 1 3) (S 1 4) v d) (v := w32 (S 29 (gr (S 1 3) (S 1 4) v d) + 1)) (a := 5274 + 6 * gr (S 1 3) (S 1 4) v d + 4) (by unfold vv; omega) (by rw [ad_rg (by decide) (by decide)]; omega) (by decide) (by decide) (by decide) (by decide) (by decide)
  exact h2.wr (f := 33) (n := v * 4 + d) (v := 1) (a := 5834 + 4 * v + d) (by unfold vv; omega) (by rw [ad_33]; omega) (by decide) (by decide) (by decide) (by decide) (by decide)
theorem m_goes (hR : RM w S) (I : IV S) (X : w32 (S 0 11) = S 0 11) (v0 : 0 ≤ v) (v1 : v < S 1 3 * S 1 4) (k0 : 0 ≤ k) (k1 : k < 9) (d0 : 0 ≤ d) (d1 : d < 4) (ho : sok S v k d) (hm : S 22 1 < 64) : kT (f_M_goes (sfst S (v * 9 + k)) v k d w) (fun w' => RM w' (sgo S v k d) ∧ FM w w') := by
  have hN := gN I.1.1
  have hn := gn_in I.1.1 v0 v1 d0 d1
  have hr := gr_in I.1.1 v0 v1 d0 d1
  have h16 := g16r I.1.1
  obtain ⟨⟨p0, p1⟩, ⟨hp, hs⟩, -, hat, -⟩ := first_at I v0 v1 k0 k1 ho.1
  have hpk := I.2.1.1 _ p0 p1
  have hfar := gp_far I.1.1 v0 v1 hpk.1.2.1.1 hpk.1.2.1.2 d0 d1 ho.2.1
  have hnv : gn (S 1 3) (S 1 4) v d ≠ v := fun z => by rw [z] at hfar; omega
  have hh := sg2_lo I v0 v1 k0 k1 d0 d1 ho.1 ho.2.1
  have hc := I.1.2.2.2.2.2.2
  have hE := I.1.2.1
  have hA := I.1.2.2.1
  have hfree := ho.2.2
  have hg : ∀ l, l = sla S v k d → gOK S v k d (gn (S 1 3) (S 1 4) v d) (sfst S (v * 9 + k)) l := by
    intro l hl
    subst hl
    refine ⟨I.w, ⟨⟨p0, p1⟩, hc.1.2⟩, ⟨hh, hc.2.1, hm⟩, hs, ?_⟩
    by_cases e : sla S v k d = 1
    · rw [if_pos e] at hfree ⊢
      rw [if_pos e] at hfree
      omega
    · rw [if_neg e] at hfree ⊢
      rw [if_neg e] at hfree
      omega
  unfold f_M_goes
  refine kT_eq (m_canByAdaptive hR I v0 v1 k0 k1 d0 d1 ho.1) ?_
  dsimp only
  cases ha : sad S v k d with
  | true =>
    have hl2 : sla S v k d = 2 := by unfold sla; rw [if_pos ha]
    rw [if_bt]
    unfold f_M_goes_31
    refine kT_eq (mg_nextOf hR.wh I.1.1 v0 v1 d0 d1) ?_
    refine kT_eq (mg_ringFor hR.wh I.1.1 v0 v1 d0 d1) ?_
    refine kT_eq (m_ringAt hr.1 (by omega)) ?_
    dsimp only
    rw [if_pos rfl]
    unfold f_M_goes_107
    rw [if_bt, sgo_A I v0 v1 k0 k1 ho.1 ha]
    exact m_goes125 hR (hg 2 hl2.symm) v0 (by omega) k0 k1 d0 d1 hn.1 (by omega) hnv (Or.inr ⟨rfl, rfl, rfl, rfl⟩)
  | false =>
    have hl1 : sla S v k d = 1 := by unfold sla; rw [ha]; rfl
    have hg1 := hg 1 hl1.symm
    rw [if_bf]
    refine kT_eq (m_doesContinue hR I v0 v1 k0 k1 d0 d1 ho.1) ?_
    dsimp only
    cases hcn : scn S v k d with
    | false =>
      rw [if_bf]
      unfold f_M_goes_31
      refine kT_eq (mg_nextOf hR.wh I.1.1 v0 v1 d0 d1) ?_
      refine kT_eq (mg_ringFor hR.wh I.1.1 v0 v1 d0 d1) ?_
      refine kT_eq (m_ringAt hr.1 (by omega)) ?_
      dsimp only
      rw [if_pos rfl]
      unfold f_M_goes_107
      rw [if_bf, if_pos rfl]
      refine kT_bind (m_enters3 hR I.1.1 v0 v1 d0 d1 p0 p1 hc.1.2) (fun w1 hh1 => ?_)
      obtain ⟨h1, f1⟩ := hh1
      rw [sgo_C I X v0 v1 k0 k1 ho.1 ha hcn]
      have hg2 : gOK (sge S v d (sfst S (v * 9 + k))) v k d (gn (S 1 3) (S 1 4) v d) (sfst S (v * 9 + k)) 1 := ((hg1.qu (by decide)).qu (by decide)).qu (by decide)
      exact kT_mono (m_goes125 h1 hg2 v0 (by omega) k0 k1 d0 d1 hn.1 (by omega) hnv (Or.inl ⟨rfl, rfl, rfl, Or.inl ⟨rfl, rfl⟩⟩)) (fun w' hw => ⟨hw.1, f1.tr hw.2⟩)
    | true =>
      rw [if_bt]
      have fin : ∀ w1, RM w1 (sgc0 S v d) → FM w w1 → kT (f_M_goes_107 (sfst S (v * 9 + k)) v k d 0 1 (gn (S 1 3) (S 1 4) v d) w1) (fun w' => RM w' (sgo S v k d) ∧ FM w w') := by
        intro w1 h1 f1
        unfold f_M_goes_107
        rw [if_pos rfl, if_neg (by decide), sgo_B I X v0 v1 k0 k1 d0 d1 ho ha hcn]
        have hg2 : gOK (sgc0 S v d) v k d (gn (S 1 3) (S 1 4) v d) (sfst S (v * 9 + k)) 1 := by
          unfold sgc0
          split
          · exact hg1.qu (by decide)
          · exact hg1
        exact kT_mono (m_goes125 h1 hg2 v0 (by omega) k0 k1 d0 d1 hn.1 (by omega) hnv (Or.inl ⟨rfl, rfl, rfl, Or.inr ⟨by decide, rfl⟩⟩)) (fun w' hw => ⟨hw.1, f1.tr hw.2⟩)
      unfold f_M_goes_31
      refine kT_eq (mg_nextOf hR.wh I.1.1 v0 v1 d0 d1) ?_
      refine kT_eq (mg_ringFor hR.wh I.1.1 v0 v1 d0 d1) ?_
      refine kT_eq (m_ringAt hr.1 (by omega)) ?_
      dsimp only
      rw [if_neg (show ¬ (1 : Int) = 0 by decide), qld_ok (by decide) (by decide), rm_0_8 hR, w32_ok (z := 5274 + 6 * gr (S 1 3) (S 1 4) v d + 0) (by omega) (by omega)]
      unfold sgc0 at fin
      by_cases c1 : S 0 8 = 2
      · rw [if_pos c1, qld_ok (by omega) (by omega), rm_25 hR (n := gr (S 1 3) (S 1 4) v d) hr.1 hr.2 h16 (by omega)]
        by_cases c2 : S 25 (gr (S 1 3) (S 1 4) v d) = gn (S 1 3) (S 1 4) v d
        · rw [if_pos c2, w32_ok (z := 1 + d) (by omega) (by omega)]
          refine kT_eq (m_free hR I.w hn.1 (by omega) (by omega) (by omega)) ?_
          dsimp only
          rw [cp_e d0 d1, ← Int.add_assoc]
          by_cases c3 : S 0 6 - S 20 (gn (S 1 3) (S 1 4) v d * 9 + 1 + d) = 1
          · rw [if_pos c3, qst_ok (by omega) (by omega)]
            rw [if_pos ⟨c1, c2, c3⟩] at fin
            exact fin _ (hR.wr (f := 25) (n := gr (S 1 3) (S 1 4) v d) (v := v) (by unfold vv; omega) (by rw [ad_rg (by decide) (by decide)]; omega) (by decide) (by decide) (by decide) (by decide) (by decide)) FM.rfl'.q
          · rw [if_neg c3]
            rw [if_neg (fun z => c3 z.2.2)] at fin
            exact fin _ hR FM.rfl'
        · rw [if_neg c2]
          rw [if_neg (fun z => c2 z.2.1)] at fin
          exact fin _ hR FM.rfl'
      · rw [if_neg c1]
        rw [if_neg (fun z => c1 z.1)] at fin
        exact fin _ hR FM.rfl'
end MG3
