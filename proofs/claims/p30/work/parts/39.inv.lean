/-! what always holds of a torus -/
def lof (S : qMem) (p : Int) : Int := if S 9 p = 3 then -1 else S 10 p * 9 + (if S 9 p = 0 then 0 else if S 9 p = 1 then 1 + S 11 p else 5 + S 11 p)
def QI (S : qMem) (loc : Int → Int) : Prop := (∀ q i, 0 ≤ q → q < 144 → 0 ≤ i → i < S 20 q → (0 ≤ S 21 (q * 6 + i) ∧ S 21 (q * 6 + i) < S 5 13) ∧ loc (S 21 (q * 6 + i)) = q ∧ ∀ j, 0 ≤ j → j < i → S 21 (q * 6 + j) ≠ S 21 (q * 6 + i)) ∧ ∀ p, 0 ≤ p → p < S 5 13 → loc p ≠ -1 → (0 ≤ loc p ∧ loc p < 144) ∧ ∃ i, 0 ≤ i ∧ i < S 20 (loc p) ∧ S 21 (loc p * 6 + i) = p
def cap (S : qMem) (q : Int) : Int := if q % 9 = 0 then 6 else if q % 9 < 5 then S 0 6 else S 0 7
def QS (S : qMem) : Prop := ∀ q, 0 ≤ q → q < 144 → (0 ≤ S 20 q ∧ S 20 q ≤ cap S q) ∧ (9 * (S 1 3 * S 1 4) ≤ q → S 20 q = 0)
def PK (S : qMem) (p : Int) : Prop := ((0 ≤ S 6 p ∧ S 6 p < S 1 3 * S 1 4) ∧ (0 ≤ S 7 p ∧ S 7 p < S 1 3 * S 1 4) ∧ 0 ≤ S 10 p ∧ S 10 p < S 1 3 * S 1 4) ∧ ((0 ≤ S 8 p ∧ S 8 p ≤ S 0 10) ∧ (0 ≤ S 9 p ∧ S 9 p ≤ 3) ∧ (-1 ≤ S 11 p ∧ S 11 p < 4) ∧ (S 9 p = 0 → S 11 p = -1) ∧ (S 9 p = 1 ∨ S 9 p = 2 → 0 ≤ S 11 p)) ∧ (0 ≤ S 12 p ∧ S 12 p + gf (S 1 3) (S 1 4) (S 10 p) (S 7 p) ≤ 4) ∧ (S 9 p = 3 ↔ S 13 p ≠ -1) ∧ (-1 ≤ S 13 p ∧ S 13 p ≤ S 0 10 ∧ (S 13 p ≠ -1 → S 8 p ≤ S 13 p)) ∧ -1 ≤ S 17 p ∧ S 17 p ≤ S 0 10
def IP (S : qMem) : Prop := ∀ p, 0 ≤ p → p < S 5 13 → PK S p
def IR (S : qMem) : Prop := ∀ r, 0 ≤ r → r < 16 → (r < 2 * (S 1 3 + S 1 4) → (0 ≤ S 25 r ∧ S 25 r < S 1 3 * S 1 4) ∧ (S 26 r = -1 ∨ ((0 ≤ S 26 r ∧ S 26 r < S 1 3 * S 1 4) ∧ 0 ≤ S 27 r ∧ S 27 r < S 1 3 * S 1 4))) ∧ (2 * (S 1 3 + S 1 4) ≤ r → S 26 r = -1)
def IHg (S : qMem) : Prop := (∀ i, 0 ≤ i → i < 64 → (0 ≤ S 31 i ∧ S 31 i ≤ 999) ∧ (S 33 i = 0 ∨ S 33 i = 1)) ∧ ∀ i, 0 ≤ i → i < 16 → 0 ≤ S 32 i ∧ S 32 i ≤ 999
def IV (S : qMem) : Prop := (gIn (S 1 3) (S 1 4) ∧ ICf S) ∧ (IP S ∧ QS S ∧ QI S (lof S)) ∧ IR S ∧ IHg S
section IVS
variable {S S' : qMem} {loc loc' : Int → Int} {q p n v k d l c : Int} {f : Nat}
theorem cap_in (h : ICf S) : 0 ≤ cap S q ∧ cap S q ≤ 6 := by
  have h1 := h.1
  have h2 := h.2.1
  unfold cap
  split
  · omega
  · split <;> omega
theorem IV.w (h : IV S) : IW S := by
  refine ⟨h.1.1, h.1.2, fun p p0 p1 => (h.2.1.1 p p0 p1).1.2.1, fun q q0 q1 => ?_⟩
  have hs := h.2.1.2.1 q q0 q1
  have hc := cap_in (q := q) h.1.2
  exact ⟨by omega, fun i i0 i1 => (h.2.1.2.2.1 q i q0 q1 i0 i1).1⟩
theorem QI.co (h : QI S loc) (e5 : S' 5 13 = S 5 13) (e20 : S' 20 = S 20) (e21 : S' 21 = S 21) (el : ∀ p, 0 ≤ p → p < S 5 13 → loc' p = loc p) : QI S' loc' := by
  unfold QI
  rw [e5, e20, e21]
  refine ⟨fun q i q0 q1 i0 i1 => ?_, fun p p0 p1 hp => ?_⟩
  · have := h.1 q i q0 q1 i0 i1
    rw [el _ this.1.1 this.1.2]
    exact this
  · rw [el p p0 p1] at hp ⊢
    exact h.2 p p0 p1 hp
theorem QI.pop (h : QI S loc) (q0 : 0 ≤ q) (q1 : q < 144) (hs : 0 < S 20 q) : QI (sdr S q) (fun r => if r = S 21 (q * 6) then -1 else loc r) := by
  unfold QI
  rw [sdr_f (f := 5) (by decide) (by decide)]
  have h0 := h.1 q 0 q0 q1 (by omega) hs
  rw [Int.add_zero] at h0
  refine ⟨fun q' i a b i0 i1 => ?_, fun p p0 p1 hp => ?_⟩
  · rw [sdr_20 hs] at i1
    by_cases e : q' = q
    · subst e
      rw [if_pos rfl] at i1
      have hi := h.1 q' (i + 1) a b (by omega) (by omega)
      have en : S 21 (q' * 6 + (i + 1)) ≠ S 21 (q' * 6) := by
        have := hi.2.2 0 (by omega) (by omega)
        rw [Int.add_zero] at this
        exact Ne.symm this
      rw [sdr_21 hs, if_pos (by omega), Int.add_assoc]
      refine ⟨hi.1, by dsimp only; rw [if_neg en]; exact hi.2.1, fun j j0 j1 => ?_⟩
      rw [sdr_21 hs, if_pos (by omega), Int.add_assoc]
      exact hi.2.2 (j + 1) (by omega) (by omega)
    · rw [if_neg e] at i1
      have hi := h.1 q' i a b i0 i1
      have hsz : q' * 6 + i < q * 6 ∨ q * 6 + (S 20 q - 1) ≤ q' * 6 + i ∨ 6 ≤ i ∨ 6 < S 20 q := by omega
      have hne : ∀ j, 0 ≤ j → j ≤ i → sdr S q 21 (q' * 6 + j) = S 21 (q' * 6 + j) := by
        intro j j0 j1
        rw [sdr_21 hs]
        by_cases e2 : q * 6 ≤ q' * 6 + j ∧ q' * 6 + j < q * 6 + (S 20 q - 1)
        · exfalso
          rcases Int.lt_or_lt_of_ne e with e3 | e3
          · -- items of another queue would lie in this one
            have hj := h.1 q' j a b j0 (by omega)
            have h6 : S 21 (q' * 6 + j) = S 21 (q * 6 + (q' * 6 + j - q * 6)) := by congr 1; omega
            have hk := h.1 q (q' * 6 + j - q * 6) q0 q1 (by omega) (by omega)
            rw [← h6] at hk
            exact e (hj.2.1.symm.trans hk.2.1)
          · have hj := h.1 q' j a b j0 (by omega)
            have h6 : S 21 (q' * 6 + j) = S 21 (q * 6 + (q' * 6 + j - q * 6)) := by congr 1; omega
            have hk := h.1 q (q' * 6 + j - q * 6) q0 q1 (by omega) (by omega)
            rw [← h6] at hk
            exact e (hj.2.1.symm.trans hk.2.1)
        · rw [if_neg e2]
      rw [hne i i0 (by omega)]
      refine ⟨hi.1, ?_, fun j j0 j1 => ?_⟩
      · dsimp only
        rw [if_neg (fun z => e (by rw [z] at hi; exact hi.2.1.symm.trans h0.2.1))]
        exact hi.2.1
      · rw [hne j j0 (by omega)]
        exact hi.2.2 j j0 j1
  · by_cases e : p = S 21 (q * 6)
    · simp only [e, reduceIte] at hp
      exact absurd rfl hp
    · simp only [if_neg e] at hp ⊢
      obtain ⟨hb, i, i0, i1, hi⟩ := h.2 p p0 p1 hp
      refine ⟨hb, ?_⟩
      by_cases e2 : loc p = q
      · rw [e2] at hi i1 ⊢
        have hi0 : i ≠ 0 := fun z => by
          rw [z, Int.add_zero] at hi
          exact e hi.symm
        refine ⟨i - 1, by omega, ?_, ?_⟩
        · rw [sdr_20 hs, if_pos rfl]; omega
        · rw [sdr_21 hs, if_pos (by omega)]
          rw [← hi]
          congr 1
          omega
      · refine ⟨i, i0, ?_, ?_⟩
        · rw [sdr_20 hs, if_neg e2]; exact i1
        · rw [sdr_21 hs]
          by_cases e3 : q * 6 ≤ loc p * 6 + i ∧ loc p * 6 + i < q * 6 + (S 20 q - 1)
          · exfalso
            have h6 : S 21 (loc p * 6 + i) = S 21 (q * 6 + (loc p * 6 + i - q * 6)) := by congr 1; omega
            have hk := h.1 q (loc p * 6 + i - q * 6) q0 q1 (by omega) (by omega)
            rw [← h6, hi] at hk
            exact e2 hk.2.1
          · rw [if_neg e3]; exact hi
theorem QI.push (h : QI S loc) (hq : QS S) (hc : ICf S) (q0 : 0 ≤ q) (q1 : q < 144) (hs : S 20 q < 6) (p0 : 0 ≤ p) (p1 : p < S 5 13) (hp : loc p = -1) : QI (spu S q p) (fun r => if r = p then q else loc r) := by
  have s0 := (hq q q0 q1).1.1
  have h6 : ∀ q', 0 ≤ q' → q' < 144 → S 20 q' ≤ 6 := fun q' a b => by
    have := (hq q' a b).1.2
    have := (cap_in (q := q') hc).2
    omega
  unfold QI
  rw [spu_f (f := 5) (by decide) (by decide)]
  refine ⟨fun q' i a b i0 i1 => ?_, fun r r0 r1 hr => ?_⟩
  · rw [spu_20 hs] at i1
    by_cases e : q' = q
    · subst e
      rw [if_pos rfl] at i1
      by_cases e2 : i = S 20 q'
      · subst e2
        rw [spu_21 hs, if_pos rfl]
        refine ⟨⟨p0, p1⟩, by dsimp only; rw [if_pos rfl], fun j j0 j1 => ?_⟩
        rw [spu_21 hs, if_neg (by omega)]
        intro z
        have := (h.1 q' j a b j0 j1).2.1
        rw [z, hp] at this
        omega
      · have hi := h.1 q' i a b i0 (by omega)
        rw [spu_21 hs, if_neg (by omega)]
        refine ⟨hi.1, ?_, fun j j0 j1 => ?_⟩
        · dsimp only
          rw [if_neg (fun z => by rw [z, hp] at hi; have := hi.2.1; omega)]
          exact hi.2.1
        · rw [spu_21 hs, if_neg (by omega)]
          exact hi.2.2 j j0 j1
    · rw [if_neg e] at i1
      have hi := h.1 q' i a b i0 i1
      have := h6 q' a b
      rw [spu_21 hs, if_neg (by omega)]
      refine ⟨hi.1, ?_, fun j j0 j1 => ?_⟩
      · dsimp only
        rw [if_neg (fun z => by rw [z, hp] at hi; have := hi.2.1; omega)]
        exact hi.2.1
      · rw [spu_21 hs, if_neg (by omega)]
        exact hi.2.2 j j0 j1
  · by_cases e : r = p
    · subst e
      simp only [reduceIte]
      refine ⟨⟨q0, q1⟩, S 20 q, s0, ?_, ?_⟩
      · rw [spu_20 hs, if_pos rfl]; omega
      · rw [spu_21 hs, if_pos rfl]
    · simp only [if_neg e] at hr ⊢
      obtain ⟨hb, i, i0, i1, hi⟩ := h.2 r r0 r1 hr
      refine ⟨hb, i, i0, ?_, ?_⟩
      · rw [spu_20 hs]
        by_cases e2 : loc r = q
        · rw [if_pos e2, ← e2]; omega
        · rw [if_neg e2]; exact i1
      · have := h6 (loc r) hb.1 hb.2
        rw [spu_21 hs, if_neg ?_]
        · exact hi
        · intro z
          have hq' : loc r = q := by omega
          rw [hq'] at z i1
          omega
end IVS
