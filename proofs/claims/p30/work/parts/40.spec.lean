/-! one tick, as it is meant -/
theorem qud_row {w : qMem} {k k' : Nat} {a v : Int} (h : k' ≠ k) : qud w k a v k' = w k' := funext fun _ => qud_nk h
/-- delivering the first one of a queue, if it is where it goes -/
def sdl (S : qMem) (v k : Int) : qMem := if sin S v k = true then sdv (sdr S (v * 9 + k)) (sfst S (v * 9 + k)) (S 0 10) else S
def sg1 (S : qMem) (v k d : Int) : qMem := if sad S v k d = true then qud S 0 11 (w32 (S 0 11 + 1)) else if scn S v k d = true then S else qud (qud (qud S 14 (sfst S (v * 9 + k)) (w32 (S 14 (sfst S (v * 9 + k)) + 1))) 29 (gr (S 1 3) (S 1 4) v d) (w32 (S 29 (gr (S 1 3) (S 1 4) v d) + 1))) 33 (v * 4 + d) 1
def sla (S : qMem) (v k d : Int) : Int := if sad S v k d = true then 2 else 1
def shw (S : qMem) (v k d : Int) : Int := if sad S v k d = true then 0 else if scn S v k d = true then 2 else 1
def sg2 (S : qMem) (v k d l h : Int) : qMem := smv (shp (qud (ssh S v k d l) 34 (v * 4 + d) (w32 (S 34 (v * 4 + d) + 1))) (sfst S (v * 9 + k)) (gn (S 1 3) (S 1 4) v d) d l (S 0 10)) (sfst S (v * 9 + k)) v d l h
def sgo (S : qMem) (v k d : Int) : qMem := qud (sg2 (sg1 S v k d) v k d (sla S v k d) (shw S v k d)) 35 1 (w32 (S 35 1 + 1))
section CO
variable {S S' : qMem} {p n v k d l h c : Int} {f : Nat}
theorem C1.co (h : gIn (S 1 3) (S 1 4) ∧ ICf S) (e1 : S' 1 = S 1) (e0 : ∀ j, j ≤ 10 → S' 0 j = S 0 j) (e5 : S' 5 13 = S 5 13) (e22 : S' 22 1 = S 22 1) : gIn (S' 1 3) (S' 1 4) ∧ ICf S' := by
  unfold ICf
  rw [e1, e5, e22, e0 6 (by decide), e0 7 (by decide), e0 8 (by decide), e0 9 (by decide), e0 10 (by decide)]
  exact h
theorem QS.co (h : QS S) (e1 : S' 1 = S 1) (e0 : ∀ j, j ≤ 10 → S' 0 j = S 0 j) (e20 : S' 20 = S 20) : QS S' := by
  unfold QS cap
  rw [e1, e20, e0 6 (by decide), e0 7 (by decide)]
  exact h
theorem PK.co (h : PK S p) (e1 : S' 1 = S 1) (e0 : S' 0 10 = S 0 10) (e6 : S' 6 p = S 6 p) (e7 : S' 7 p = S 7 p) (e8 : S' 8 p = S 8 p) (e9 : S' 9 p = S 9 p) (e10 : S' 10 p = S 10 p) (e11 : S' 11 p = S 11 p) (e12 : S' 12 p = S 12 p) (e13 : S' 13 p = S 13 p) (e17 : S' 17 p = S 17 p) : PK S' p := by
  unfold PK
  rw [e1, e0, e6, e7, e8, e9, e10, e11, e12, e13, e17]
  exact h
theorem IR.co (h : IR S) (e1 : S' 1 = S 1) (e25 : S' 25 = S 25) (e26 : S' 26 = S 26) (e27 : S' 27 = S 27) : IR S' := by
  unfold IR
  rw [e1, e25, e26, e27]
  exact h
theorem IHg.co (h : IHg S) (e31 : S' 31 = S 31) (e32 : S' 32 = S 32) (e33 : S' 33 = S 33) : IHg S' := by
  unfold IHg
  rw [e31, e32, e33]
  exact h
theorem lof_co (e9 : S' 9 p = S 9 p) (e10 : S' 10 p = S 10 p) (e11 : S' 11 p = S 11 p) : lof S' p = lof S p := by
  unfold lof
  rw [e9, e10, e11]
/-- where a first packet is -/
theorem first_at (I : IV S) (v0 : 0 ≤ v) (v1 : v < S 1 3 * S 1 4) (k0 : 0 ≤ k) (k1 : k < 9) (he : sfst S (v * 9 + k) ≠ -1) : (0 ≤ sfst S (v * 9 + k) ∧ sfst S (v * 9 + k) < S 5 13) ∧ (sfst S (v * 9 + k) = S 21 ((v * 9 + k) * 6) ∧ 0 < S 20 (v * 9 + k)) ∧ lof S (sfst S (v * 9 + k)) = v * 9 + k ∧ S 10 (sfst S (v * 9 + k)) = v ∧ S 9 (sfst S (v * 9 + k)) ≠ 3 ∧ (S 9 (sfst S (v * 9 + k)) = 0 ↔ k = 0) ∧ (S 9 (sfst S (v * 9 + k)) = 1 → k = 1 + S 11 (sfst S (v * 9 + k))) ∧ (S 9 (sfst S (v * 9 + k)) = 2 → k = 5 + S 11 (sfst S (v * 9 + k))) := by
  have hN := gN I.1.1
  have hs := sfst_in I.w.2.2.2 (by omega) (by omega) he
  have hl := I.2.1.2.2.1 (v * 9 + k) 0 (by omega) (by omega) (by omega) hs.2.2.1
  rw [Int.add_zero, ← hs.2.2.2] at hl
  have hp := I.2.1.1 _ hs.1 hs.2.1
  refine ⟨⟨hs.1, hs.2.1⟩, ⟨hs.2.2.2, hs.2.2.1⟩, hl.2.1, ?_⟩
  have h2 := hl.2.1
  unfold lof at h2
  generalize sfst S (v * 9 + k) = r at *
  obtain ⟨⟨-, -, a0, a1⟩, ⟨-, ⟨l0, l1⟩, ⟨c0, c1⟩, z0, z1⟩, -⟩ := hp
  by_cases e3 : S 9 r = 3
  · rw [if_pos e3] at h2; omega
  · rw [if_neg e3] at h2
    by_cases e0 : S 9 r = 0
    · rw [if_pos e0] at h2; omega
    · rw [if_neg e0] at h2
      have := z1 (by omega)
      by_cases e1 : S 9 r = 1
      · rw [if_pos e1] at h2; omega
      · rw [if_neg e1] at h2; omega
theorem sin_f (h : sin S v k = true) : sfst S (v * 9 + k) ≠ -1 ∧ S 7 (sfst S (v * 9 + k)) = v := by
  unfold sin at h
  by_cases e : sfst S (v * 9 + k) = -1
  · rw [if_pos e] at h; cases h
  · rw [if_neg e] at h; exact ⟨e, of_decide_eq_true h⟩
theorem sdv_f (h5 : f ≠ 5) (h9 : f ≠ 9) (h13 : f ≠ 13) (h15 : f ≠ 15) (h35 : f ≠ 35) : sdv S p c f = S f := by
  unfold sdv
  rw [qud_row h35, qud_row h35, qud_row h5, qud_row h13, qud_row h9, qud_row h15]
theorem sdv_5 : sdv S p c 5 13 = S 5 13 := by
  unfold sdv
  simp (disch := decide) only [qud_nk]
  rw [qud_ni (by decide)]
  simp (disch := decide) only [qud_nk]
theorem sdv_9 : sdv S p c 9 n = if n = p then 3 else S 9 n := by
  unfold sdv
  simp (disch := decide) only [qud_nk, qud_if]
theorem sdv_13 : sdv S p c 13 n = if n = p then c else S 13 n := by
  unfold sdv
  simp (disch := decide) only [qud_nk, qud_if]
theorem IV.dl (I : IV S) (v0 : 0 ≤ v) (v1 : v < S 1 3 * S 1 4) (k0 : 0 ≤ k) (k1 : k < 9) : IV (sdl S v k) := by
  unfold sdl
  by_cases e : sin S v k = true
  · rw [if_pos e]
    have hN := gN I.1.1
    obtain ⟨e1, e2⟩ := sin_f e
    obtain ⟨⟨p0, p1⟩, ⟨hp, hs⟩, hl, hat, h3, -⟩ := first_at I v0 v1 k0 k1 e1
    generalize sfst S (v * 9 + k) = p at *
    have q0 : 0 ≤ v * 9 + k := by omega
    have q1 : v * 9 + k < 144 := by omega
    generalize v * 9 + k = q at *
    have er : ∀ f, f ≠ 5 → f ≠ 9 → f ≠ 13 → f ≠ 15 → f ≠ 35 → f ≠ 20 → f ≠ 21 → sdv (sdr S q) p (S 0 10) f = S f := fun f a b c d e g h => by rw [sdv_f a b c d e, sdr_f g h]
    have e5 : sdv (sdr S q) p (S 0 10) 5 13 = S 5 13 := by rw [sdv_5, sdr_f (by decide) (by decide)]
    have e9 : ∀ n, sdv (sdr S q) p (S 0 10) 9 n = if n = p then 3 else S 9 n := fun n => by rw [sdv_9, sdr_f (f := 9) (by decide) (by decide)]
    have e13 : ∀ n, sdv (sdr S q) p (S 0 10) 13 n = if n = p then S 0 10 else S 13 n := fun n => by rw [sdv_13, sdr_f (f := 13) (by decide) (by decide)]
    have r0 := er 0 (by decide) (by decide) (by decide) (by decide) (by decide) (by decide) (by decide)
    have r1 := er 1 (by decide) (by decide) (by decide) (by decide) (by decide) (by decide) (by decide)
    have r6 := er 6 (by decide) (by decide) (by decide) (by decide) (by decide) (by decide) (by decide)
    have r7 := er 7 (by decide) (by decide) (by decide) (by decide) (by decide) (by decide) (by decide)
    have r8 := er 8 (by decide) (by decide) (by decide) (by decide) (by decide) (by decide) (by decide)
    have r10 := er 10 (by decide) (by decide) (by decide) (by decide) (by decide) (by decide) (by decide)
    have r11 := er 11 (by decide) (by decide) (by decide) (by decide) (by decide) (by decide) (by decide)
    have r12 := er 12 (by decide) (by decide) (by decide) (by decide) (by decide) (by decide) (by decide)
    have r17 := er 17 (by decide) (by decide) (by decide) (by decide) (by decide) (by decide) (by decide)
    refine ⟨C1.co I.1 r1 (fun j _ => by rw [r0]) e5 (by rw [er 22 (by decide) (by decide) (by decide) (by decide) (by decide) (by decide) (by decide)]), ⟨?_, ?_, ?_⟩, IR.co I.2.2.1 r1 (er 25 (by decide) (by decide) (by decide) (by decide) (by decide) (by decide) (by decide)) (er 26 (by decide) (by decide) (by decide) (by decide) (by decide) (by decide) (by decide)) (er 27 (by decide) (by decide) (by decide) (by decide) (by decide) (by decide) (by decide)), IHg.co I.2.2.2 (er 31 (by decide) (by decide) (by decide) (by decide) (by decide) (by decide) (by decide)) (er 32 (by decide) (by decide) (by decide) (by decide) (by decide) (by decide) (by decide)) (er 33 (by decide) (by decide) (by decide) (by decide) (by decide) (by decide) (by decide))⟩
    · intro r a b
      rw [e5] at b
      have hr := I.2.1.1 r a b
      by_cases er' : r = p
      · subst er'
        unfold PK at hr ⊢
        rw [r0, r1, r6, r7, r8, r10, r11, r12, r17, e9, e13, if_pos rfl, if_pos rfl]
        have hc := I.1.2.2.2.2.2.1
        omega
      · exact hr.co r1 (by rw [r0]) (by rw [r6]) (by rw [r7]) (by rw [r8]) (by rw [e9, if_neg er']) (by rw [r10]) (by rw [r11]) (by rw [r12]) (by rw [e13, if_neg er']) (by rw [r17])
    · intro q' a b
      have hq := I.2.1.2.1 q' a b
      unfold cap at hq ⊢
      rw [r0, r1, sdv_f (by decide) (by decide) (by decide) (by decide) (by decide), sdr_20 hs]
      by_cases eq : q' = q
      · rw [if_pos eq]
        rw [eq] at hq ⊢
        omega
      · rw [if_neg eq]
        exact hq
    · refine QI.co (I.2.1.2.2.pop q0 q1 hs) (by rw [e5, sdr_f (by decide) (by decide)]) (sdv_f (by decide) (by decide) (by decide) (by decide) (by decide)) (sdv_f (by decide) (by decide) (by decide) (by decide) (by decide)) (fun r _ _ => ?_)
      rw [← hp]
      by_cases er' : r = p
      · rw [if_pos er', er']
        unfold lof
        rw [e9, if_pos rfl, if_pos rfl]
      · rw [if_neg er']
        exact lof_co (by rw [e9, if_neg er']) (by rw [r10]) (by rw [r11])
  · rw [if_neg e]; exact I
end CO
