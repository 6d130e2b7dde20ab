/-! going keeps what holds -/
section GO
variable {S S' : qMem} {p n v k d l h c : Int} {f : Nat}
theorem sg1_f (h0 : f ≠ 0) (h14 : f ≠ 14) (h29 : f ≠ 29) (h33 : f ≠ 33) : sg1 S v k d f = S f := by
  unfold sg1
  split
  · rw [qud_row h0]
  · split
    · rfl
    · rw [qud_row h33, qud_row h29, qud_row h14]
theorem sg1_0 {j : Int} (hj : j ≤ 10) : sg1 S v k d 0 j = S 0 j := by
  unfold sg1
  split
  · rw [qud_ni (by omega)]
  · split
    · rfl
    · rw [qud_nk (by decide), qud_nk (by decide), qud_nk (by decide)]
theorem sg1_33 : sg1 S v k d 33 n = S 33 n ∨ sg1 S v k d 33 n = 1 := by
  unfold sg1
  split
  · rw [qud_nk (by decide)]; exact Or.inl rfl
  · split
    · exact Or.inl rfl
    · rw [qud_if]
      split
      · exact Or.inr rfl
      · rw [qud_nk (by decide), qud_nk (by decide)]; exact Or.inl rfl
theorem sfst_co {q : Int} (e20 : S' 20 = S 20) (e21 : S' 21 = S 21) : sfst S' q = sfst S q := by
  unfold sfst
  rw [e20, e21]
theorem ssh_25 : ssh S v k d l 25 n = S 25 n ∨ (ssh S v k d l 25 n = v ∧ n = gr (S 1 3) (S 1 4) v d) := by
  unfold ssh
  split
  · rw [qud_if, ssm_f (by decide) (by decide)]
    split
    · exact Or.inr ⟨rfl, by assumption⟩
    · exact Or.inl rfl
  · rw [ssm_f (by decide) (by decide)]; exact Or.inl rfl
theorem ssh_q (hf : f = 20 ∨ f = 21) : ssh S v k d l f = ssm S v k d l f := by
  unfold ssh
  split
  · rw [qud_row (by omega)]
  · rfl
/-- what is needed for going -/
def sok (S : qMem) (v k d : Int) : Prop := sfst S (v * 9 + k) ≠ -1 ∧ gp (S 1 3) (S 1 4) v (S 7 (sfst S (v * 9 + k))) d = true ∧ S 20 (gn (S 1 3) (S 1 4) v d * 9 + (if sla S v k d = 1 then 1 else 5) + d) < (if sla S v k d = 1 then S 0 6 else S 0 7)
theorem sok_of (hd0 : 0 ≤ d) (h : scg S v k d = true) : sok S v k d := by
  unfold scg at h
  unfold sok sla
  by_cases ha : sad S v k d = true
  · rw [if_pos ha, if_neg (show ¬ (2 : Int) = 1 by decide), if_neg (show ¬ (2 : Int) = 1 by decide)]
    unfold sad spr at ha
    rw [Bool.and_eq_true] at ha
    by_cases e : sfst S (v * 9 + k) = -1
    · rw [if_pos e] at ha; cases ha.1
    · rw [if_neg e] at ha
      exact ⟨e, ha.1, of_decide_eq_true ha.2⟩
  · rw [if_neg ha, if_pos rfl, if_pos rfl]
    have hb : sel S v k d = true := by
      cases hs : sel S v k d with
      | true => rfl
      | false =>
        rw [hs] at h
        have : sad S v k d = false := by
          cases q : sad S v k d with
          | true => exact absurd q ha
          | false => rfl
        rw [this] at h
        exact h
    unfold sel ses at hb
    rw [Bool.and_eq_true] at hb
    by_cases e : sfst S (v * 9 + k) = -1
    · rw [if_pos e] at hb; cases hb.1
    · rw [if_neg e] at hb
      refine ⟨e, ge_gp (of_decide_eq_true hb.1) (by omega), ?_⟩
      have h2 := hb.2
      have : 0 < sfa S v d := by
        by_cases ek : k = 1 + d
        · rw [if_pos ek] at h2
          exact of_decide_eq_true h2
        · rw [if_neg ek] at h2
          unfold srl srn at h2
          have := of_decide_eq_true h2
          revert this
          split
          · omega
          · split <;> omega
      unfold sfa at this
      omega
theorem sg2_f (h9 : f ≠ 9) (h10 : f ≠ 10) (h11 : f ≠ 11) (h12 : f ≠ 12) (h16 : f ≠ 16) (h17 : f ≠ 17) (h18 : f ≠ 18) (h20 : f ≠ 20) (h21 : f ≠ 21) (h22 : f ≠ 22) (h23 : f ≠ 23) (h25 : f ≠ 25) (h34 : f ≠ 34) : sg2 S v k d l h f = S f := by
  unfold sg2
  rw [smv_f h22 h23]
  unfold shp
  rw [qud_row h18, qud_row h12, qud_row h17, qud_row h11, qud_row h10, qud_row h9]
  split
  · rw [qud_row h16, qud_row h34, ssh_f h20 h21 h25]
  · rw [qud_row h34, ssh_f h20 h21 h25]
theorem shp_r {t : Int} (h9 : f ≠ 9) (h10 : f ≠ 10) (h11 : f ≠ 11) (h12 : f ≠ 12) (h16 : f ≠ 16) (h17 : f ≠ 17) (h18 : f ≠ 18) : shp S p t d l c f = S f := by
  unfold shp
  rw [qud_row h18, qud_row h12, qud_row h17, qud_row h11, qud_row h10, qud_row h9]
  split
  · rw [qud_row h16]
  · rfl
theorem shp_9 {t : Int} : shp S p t d l c 9 n = if n = p then l else S 9 n := by
  unfold shp
  rw [qud_nk (by decide), qud_nk (by decide), qud_nk (by decide), qud_nk (by decide), qud_nk (by decide), qud_if]
  split
  · rfl
  · split
    · rw [qud_nk (by decide)]
    · rfl
theorem shp_10 {t : Int} : shp S p t d l c 10 n = if n = p then t else S 10 n := by
  unfold shp
  rw [qud_nk (by decide), qud_nk (by decide), qud_nk (by decide), qud_nk (by decide), qud_if, qud_nk (by decide)]
  split
  · rfl
  · split
    · rw [qud_nk (by decide)]
    · rfl
theorem shp_11 {t : Int} : shp S p t d l c 11 n = if n = p then d else S 11 n := by
  unfold shp
  rw [qud_nk (by decide), qud_nk (by decide), qud_nk (by decide), qud_if, qud_nk (by decide), qud_nk (by decide)]
  split
  · rfl
  · split
    · rw [qud_nk (by decide)]
    · rfl
theorem shp_17 {t : Int} : shp S p t d l c 17 n = if n = p then c else S 17 n := by
  unfold shp
  rw [qud_nk (by decide), qud_nk (by decide), qud_if, qud_nk (by decide), qud_nk (by decide), qud_nk (by decide)]
  split
  · rfl
  · split
    · rw [qud_nk (by decide)]
    · rfl
theorem sg2_q (hf : f = 20 ∨ f = 21) : sg2 S v k d l h f = ssm S v k d l f := by
  unfold sg2
  rw [smv_f (by omega) (by omega), shp_r (by omega) (by omega) (by omega) (by omega) (by omega) (by omega) (by omega), qud_row (by omega), ssh_q hf]
theorem sg2_9 : sg2 S v k d l h 9 n = if n = sfst S (v * 9 + k) then l else S 9 n := by
  unfold sg2
  rw [smv_f (by decide) (by decide), shp_9, qud_nk (by decide), ssh_f (by decide) (by decide) (by decide)]
theorem sg2_10 : sg2 S v k d l h 10 n = if n = sfst S (v * 9 + k) then gn (S 1 3) (S 1 4) v d else S 10 n := by
  unfold sg2
  rw [smv_f (by decide) (by decide), shp_10, qud_nk (by decide), ssh_f (by decide) (by decide) (by decide)]
theorem sg2_11 : sg2 S v k d l h 11 n = if n = sfst S (v * 9 + k) then d else S 11 n := by
  unfold sg2
  rw [smv_f (by decide) (by decide), shp_11, qud_nk (by decide), ssh_f (by decide) (by decide) (by decide)]
theorem sg2_17 : sg2 S v k d l h 17 n = if n = sfst S (v * 9 + k) then S 0 10 else S 17 n := by
  unfold sg2
  rw [smv_f (by decide) (by decide), shp_17, qud_nk (by decide), ssh_f (by decide) (by decide) (by decide)]
theorem sg2_12 : sg2 S v k d l h 12 n = if n = sfst S (v * 9 + k) then S 12 (sfst S (v * 9 + k)) + 1 else S 12 n := by
  unfold sg2
  rw [smv_f (by decide) (by decide), shp_12, qud_nk (by decide), qud_nk (by decide), ssh_f (by decide) (by decide) (by decide)]
theorem sg2_22 : sg2 S v k d l h 22 1 = S 22 1 + 1 := by
  unfold sg2
  rw [smv_22, shp_r (by decide) (by decide) (by decide) (by decide) (by decide) (by decide) (by decide), qud_nk (by decide), ssh_f (by decide) (by decide) (by decide)]
theorem sg2_25 : sg2 S v k d l h 25 = ssh S v k d l 25 := by
  unfold sg2
  rw [smv_f (by decide) (by decide), shp_r (by decide) (by decide) (by decide) (by decide) (by decide) (by decide) (by decide), qud_row (by decide)]
/-- from what is true of the state before, for the state in which only counts have changed -/
theorem IV.g2 (I : IV S) (v0 : 0 ≤ v) (v1 : v < S 1 3 * S 1 4) (k0 : 0 ≤ k) (k1 : k < 9) (d0 : 0 ≤ d) (d1 : d < 4) (hl : l = 1 ∨ l = 2) (he : sfst S (v * 9 + k) ≠ -1) (hg : gp (S 1 3) (S 1 4) v (S 7 (sfst S (v * 9 + k))) d = true) (hc : S 20 (gn (S 1 3) (S 1 4) v d * 9 + (if l = 1 then 1 else 5) + d) < (if l = 1 then S 0 6 else S 0 7)) (hm : S 22 1 < 64) : IV (sg2 S v k d l h) := by
  have hN := gN I.1.1
  have hn := gn_in I.1.1 v0 v1 d0 d1
  have hr := gr_in I.1.1 v0 v1 d0 d1
  obtain ⟨⟨p0, p1⟩, ⟨hp, hs⟩, hlo, hat, h3, -⟩ := first_at I v0 v1 k0 k1 he
  have hpk := I.2.1.1 _ p0 p1
  have hfar := gp_far I.1.1 v0 v1 hpk.1.2.1.1 hpk.1.2.1.2 d0 d1 hg
  have hfar0 := gf_in I.1.1 hn.1 hn.2 hpk.1.2.1.1 hpk.1.2.1.2
  have e6 : (if l = 1 then S 0 6 else S 0 7) ≤ 4 := by
    have := I.1.2.1
    have := I.1.2.2.1
    split <;> omega
  have el : (if l = 1 then (1 : Int) else 5) = 1 ∧ l = 1 ∨ (if l = 1 then (1 : Int) else 5) = 5 ∧ l = 2 := by
    rcases hl with rfl | rfl
    · exact Or.inl ⟨rfl, rfl⟩
    · exact Or.inr ⟨rfl, rfl⟩
  have hnv : gn (S 1 3) (S 1 4) v d ≠ v := fun z => by rw [z] at hfar; omega
  have rr : ∀ g : Nat, g ≠ 9 → g ≠ 10 → g ≠ 11 → g ≠ 12 → g ≠ 16 → g ≠ 17 → g ≠ 18 → g ≠ 20 → g ≠ 21 → g ≠ 22 → g ≠ 23 → g ≠ 25 → g ≠ 34 → sg2 S v k d l h g = S g := fun g a b c d' e f g' h' i j k' m n => sg2_f a b c d' e f g' h' i j k' m n
  have r0 := rr 0 (by decide) (by decide) (by decide) (by decide) (by decide) (by decide) (by decide) (by decide) (by decide) (by decide) (by decide) (by decide) (by decide)
  have r1 := rr 1 (by decide) (by decide) (by decide) (by decide) (by decide) (by decide) (by decide) (by decide) (by decide) (by decide) (by decide) (by decide) (by decide)
  have r5 := rr 5 (by decide) (by decide) (by decide) (by decide) (by decide) (by decide) (by decide) (by decide) (by decide) (by decide) (by decide) (by decide) (by decide)
  have r6 := rr 6 (by decide) (by decide) (by decide) (by decide) (by decide) (by decide) (by decide) (by decide) (by decide) (by decide) (by decide) (by decide) (by decide)
  have r7 := rr 7 (by decide) (by decide) (by decide) (by decide) (by decide) (by decide) (by decide) (by decide) (by decide) (by decide) (by decide) (by decide) (by decide)
  have r8 := rr 8 (by decide) (by decide) (by decide) (by decide) (by decide) (by decide) (by decide) (by decide) (by decide) (by decide) (by decide) (by decide) (by decide)
  have r13 := rr 13 (by decide) (by decide) (by decide) (by decide) (by decide) (by decide) (by decide) (by decide) (by decide) (by decide) (by decide) (by decide) (by decide)
  have r26 := rr 26 (by decide) (by decide) (by decide) (by decide) (by decide) (by decide) (by decide) (by decide) (by decide) (by decide) (by decide) (by decide) (by decide)
  have r27 := rr 27 (by decide) (by decide) (by decide) (by decide) (by decide) (by decide) (by decide) (by decide) (by decide) (by decide) (by decide) (by decide) (by decide)
  have r31 := rr 31 (by decide) (by decide) (by decide) (by decide) (by decide) (by decide) (by decide) (by decide) (by decide) (by decide) (by decide) (by decide) (by decide)
  have r32 := rr 32 (by decide) (by decide) (by decide) (by decide) (by decide) (by decide) (by decide) (by decide) (by decide) (by decide) (by decide) (by decide) (by decide)
  have r33 := rr 33 (by decide) (by decide) (by decide) (by decide) (by decide) (by decide) (by decide) (by decide) (by decide) (by decide) (by decide) (by decide) (by decide)
  have hms := I.1.2.2.2.2.2.2.2
  have hck := I.1.2.2.2.2.2.1
  refine ⟨?_, ⟨?_, ?_, ?_⟩, ?_, IHg.co I.2.2.2 r31 r32 r33⟩
  · unfold ICf
    rw [r0, r1, r5, sg2_22]
    have := I.1.2
    unfold ICf at this
    refine ⟨I.1.1, this.1, this.2.1, this.2.2.1, this.2.2.2.1, this.2.2.2.2.1, this.2.2.2.2.2.1, by omega⟩
  · intro r a b
    rw [r5] at b
    have hr := I.2.1.1 r a b
    by_cases er' : r = sfst S (v * 9 + k)
    · unfold PK at hr ⊢
      rw [r0, r1, r6, r7, r8, r13, sg2_9, sg2_10, sg2_11, sg2_12, sg2_17, if_pos er', if_pos er', if_pos er', if_pos er', if_pos er', er', hfar]
      rw [er'] at hr
      rw [hat] at hr
      omega
    · exact hr.co r1 (by rw [r0]) (by rw [r6]) (by rw [r7]) (by rw [r8]) (by rw [sg2_9, if_neg er']) (by rw [sg2_10, if_neg er']) (by rw [sg2_11, if_neg er']) (by rw [sg2_12, if_neg er']) (by rw [r13]) (by rw [sg2_17, if_neg er'])
  · intro q' a b
    have hq := I.2.1.2.1 q' a b
    unfold cap at hq ⊢
    have h20 : sdr S (v * 9 + k) 20 (gn (S 1 3) (S 1 4) v d * 9 + (if l = 1 then 1 else 5) + d) = S 20 (gn (S 1 3) (S 1 4) v d * 9 + (if l = 1 then 1 else 5) + d) := by rw [sdr_20 hs, if_neg (by omega)]
    rw [r0, r1, sg2_q (Or.inl rfl)]
    unfold ssm
    rw [spu_20 (by rw [h20]; omega)]
    by_cases eq : q' = gn (S 1 3) (S 1 4) v d * 9 + (if l = 1 then 1 else 5) + d
    · rw [if_pos eq, h20]
      rw [eq] at hq ⊢
      rcases el with ⟨e1, e2⟩ | ⟨e1, e2⟩
      · rw [e1] at hq hc ⊢
        rw [if_pos e2] at hc
        rw [if_neg (by omega), if_pos (by omega)] at hq ⊢
        omega
      · rw [e1] at hq hc ⊢
        rw [if_neg (by omega)] at hc
        rw [if_neg (by omega), if_neg (by omega)] at hq ⊢
        omega
    · rw [if_neg eq, sdr_20 hs]
      by_cases eq2 : q' = v * 9 + k
      · rw [if_pos eq2]
        rw [eq2] at hq ⊢
        omega
      · rw [if_neg eq2]
        exact hq
  · have h20 : sdr S (v * 9 + k) 20 (gn (S 1 3) (S 1 4) v d * 9 + (if l = 1 then 1 else 5) + d) = S 20 (gn (S 1 3) (S 1 4) v d * 9 + (if l = 1 then 1 else 5) + d) := by rw [sdr_20 hs, if_neg (by omega)]
    have hpop := I.2.1.2.2.pop (q := v * 9 + k) (by omega) (by omega) hs
    have hqs : QS (sdr S (v * 9 + k)) := by
      intro q' a b
      have hq := I.2.1.2.1 q' a b
      unfold cap at hq ⊢
      rw [sdr_f (f := 0) (by decide) (by decide), sdr_f (f := 1) (by decide) (by decide), sdr_20 hs]
      by_cases eq2 : q' = v * 9 + k
      · rw [if_pos eq2]
        rw [eq2] at hq ⊢
        omega
      · rw [if_neg eq2]
        exact hq
    have hic : ICf (sdr S (v * 9 + k)) := by
      unfold ICf
      rw [sdr_f (f := 0) (by decide) (by decide), sdr_f (f := 5) (by decide) (by decide), sdr_f (f := 22) (by decide) (by decide)]
      exact I.1.2
    have hpush := hpop.push (q := gn (S 1 3) (S 1 4) v d * 9 + (if l = 1 then 1 else 5) + d) (p := sfst S (v * 9 + k)) hqs hic (by omega) (by omega) (by rw [h20]; omega) p0 (by rw [sdr_f (by decide) (by decide)]; exact p1) (by rw [← hp, if_pos rfl])
    refine QI.co hpush (by rw [r5, spu_f (by decide) (by decide), sdr_f (by decide) (by decide)]) (sg2_q (Or.inl rfl)) (sg2_q (Or.inr rfl)) (fun r _ _ => ?_)
    by_cases er' : r = sfst S (v * 9 + k)
    · rw [if_pos er']
      unfold lof
      rw [sg2_9, sg2_10, sg2_11, if_pos er', if_pos er', if_pos er']
      rcases el with ⟨e1, e2⟩ | ⟨e1, e2⟩
      · rw [e1, e2, if_neg (by decide), if_neg (by decide), if_pos rfl]; omega
      · rw [e1, e2, if_neg (by decide), if_neg (by decide), if_neg (by decide)]; omega
    · rw [if_neg er', ← hp, if_neg er']
      exact lof_co (by rw [sg2_9, if_neg er']) (by rw [sg2_10, if_neg er']) (by rw [sg2_11, if_neg er'])
  · have h := I.2.2.1
    unfold IR at h ⊢
    rw [r1, r26, r27, sg2_25]
    intro r a b
    have hr' := h r a b
    refine ⟨fun c => ⟨?_, (hr'.1 c).2⟩, hr'.2⟩
    rcases ssh_25 (S := S) (v := v) (k := k) (d := d) (l := l) (n := r) with e | e
    · rw [e]; exact (hr'.1 c).1
    · rw [e.1]; exact ⟨v0, v1⟩
end GO
