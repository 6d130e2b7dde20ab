/-! calls: shower, pattern, state, whole -/
def FX1 (w w' : qMem) : Prop := ∀ k, (k < 1 ∨ 37 ≤ k) → w' k = w k
def FM1 (w w' : qMem) : Prop := ∀ k, k ≠ 88 → k ≠ 89 → w' k = w k
section SW
variable {w w' S T : qMem} {n a b c v D x k p m : Int}
theorem FX1.of (h : F2 w w') : FX1 w w' := fun k hk => h k (by omega)
theorem FX1.of' (h : FN 2 w w') : FX1 w w' := fun k hk => h k (by omega)
theorem FX1.tr (h : FX1 w w') (h2 : FX1 w' T) : FX1 w T := fun k hk => (h2 k hk).trans (h k hk)
theorem FX1.rfl' : FX1 w w := fun _ _ => rfl
theorem FX1.q (h : FX1 w w') : FX1 w (qud w' 1 n v) := fun k hk => by
  funext j
  rw [qud_nk (by omega), h k hk]
theorem FM1.of (h : FM w w') : FM1 w w' := fun k _ hk => h k hk
theorem FM1.tr (h : FM1 w w') (h2 : FM1 w' T) : FM1 w T := fun k a b => (h2 k a b).trans (h k a b)
theorem FM1.rfl' : FM1 w w := fun _ _ _ => rfl
theorem FM1.q (h : FM1 w w') : FM1 w (qud w' 88 n v) := fun k a b => by
  funext j
  rw [qud_nk a, h k a b]
theorem x_draw (h : w 1 6 = D) (hm : 0 < m) : f_X_draw m w = some (dv D m, qud w 1 6 (dn D)) := by
  unfold f_X_draw
  rw [qlt_ok, h, if_neg (by omega), qdv_ok (by omega), qud_s]
  rfl
theorem m_drawOf (h : w 88 2 = D) (hm : 0 < m) : f_M_drawOf m w = some (dv D m, qud w 88 2 (dn D)) := by
  unfold f_M_drawOf
  rw [qlt_ok, h, qdv_ok (by omega), qud_s, Int.mul_comm 1664525 D]
  rfl
theorem NX.o1 (h : NX 2 w S) : NX 2 (qud w 1 n v) S := h.fr (fun k k0 k1 => by funext j; exact qud_nk (by omega))
theorem ssw1_d {t : qMem × Int × Int} : ssw1 t = ((sso t.1 (dv t.2.1 (t.1 1 3 * t.1 1 4)) (if dv (dn t.2.1) (t.1 1 3 * t.1 1 4 - 1) < dv t.2.1 (t.1 1 3 * t.1 1 4) then dv (dn t.2.1) (t.1 1 3 * t.1 1 4 - 1) else dv (dn t.2.1) (t.1 1 3 * t.1 1 4 - 1) + 1)).2, dn (dn t.2.1), t.2.2 + (sso t.1 (dv t.2.1 (t.1 1 3 * t.1 1 4)) (if dv (dn t.2.1) (t.1 1 3 * t.1 1 4 - 1) < dv t.2.1 (t.1 1 3 * t.1 1 4) then dv (dn t.2.1) (t.1 1 3 * t.1 1 4 - 1) else dv (dn t.2.1) (t.1 1 3 * t.1 1 4 - 1) + 1)).1) := rfl
/-- pattern -/
def pok (S : qMem) (k p : Int) : Prop := (0 ≤ k ∧ k ≤ 4) ∧ (k = 4 → 0 ≤ p ∧ p < S 1 3 * S 1 4)
theorem x_pattern (hx : NX 2 w S) (I : IV S) : kT (f_X_pattern k p w) (fun r => (pok S k p → r.1 = (spa S k p).2 ∧ NX 2 r.2 (spa S k p).1) ∧ (¬ pok S k p → r.1 = -1 ∧ NX 2 r.2 S) ∧ F2 w r.2) := by
  have hno : ¬ pok S k p → kT (some ((-1 : Int), w)) (fun r => (pok S k p → r.1 = (spa S k p).2 ∧ NX 2 r.2 (spa S k p).1) ∧ (¬ pok S k p → r.1 = -1 ∧ NX 2 r.2 S) ∧ F2 w r.2) := fun z => kT_some ⟨fun y => absurd y z, fun _ => ⟨rfl, hx⟩, F2.rfl'⟩
  have hyes : pok S k p → kT (f_X_pattern_27 k p w) (fun r => (pok S k p → r.1 = (spa S k p).2 ∧ NX 2 r.2 (spa S k p).1) ∧ (¬ pok S k p → r.1 = -1 ∧ NX 2 r.2 S) ∧ F2 w r.2) := fun z => by
    unfold f_X_pattern_27
    exact kT_mono (x_pat32 hx I z.1.1 z.1.2 z.2) (fun r hr => ⟨fun _ => ⟨hr.1, hr.2.1⟩, fun y => absurd z y, hr.2.2⟩)
  unfold f_X_pattern
  refine kT_eq x_within ?_
  dsimp only
  rw [bi_if]
  by_cases e : 0 ≤ k ∧ k ≤ 4
  · rw [if_pos e]
    by_cases e4 : k = 4
    · rw [if_pos e4]
      refine kT_eq (g_hasNode (o := 3) hx.2) ?_
      dsimp only
      rw [bi_if]
      by_cases ep : 0 ≤ p ∧ p < S 1 3 * S 1 4
      · rw [if_pos ep]
        exact hyes ⟨e, fun _ => ep⟩
      · rw [if_neg ep]
        exact hno (fun z => ep (z.2 e4))
    · rw [if_neg e4]
      exact hyes ⟨e, fun z => absurd z e4⟩
  · rw [if_neg e]
    exact hno (fun z => e z.1)
theorem m_pattern (hR : RM w S) (I : IV S) (X : IX S) : kT (f_M_pattern k p w) (fun r => (pok S k p → (r.1 = (spa S k p).2 ∧ RM r.2 (spa S k p).1) ∧ KS S (spa S k p).1 ∧ IX (spa S k p).1) ∧ (¬ pok S k p → r.1 = -1 ∧ RM r.2 S) ∧ FM w r.2) := by
  have hno : ¬ pok S k p → kT (some ((-1 : Int), w)) (fun r => (pok S k p → (r.1 = (spa S k p).2 ∧ RM r.2 (spa S k p).1) ∧ KS S (spa S k p).1 ∧ IX (spa S k p).1) ∧ (¬ pok S k p → r.1 = -1 ∧ RM r.2 S) ∧ FM w r.2) := fun z => kT_some ⟨fun y => absurd y z, fun _ => ⟨rfl, hR⟩, FM.rfl'⟩
  have hyes : pok S k p → kT (f_M_pattern_24 k p w) (fun r => (pok S k p → (r.1 = (spa S k p).2 ∧ RM r.2 (spa S k p).1) ∧ KS S (spa S k p).1 ∧ IX (spa S k p).1) ∧ (¬ pok S k p → r.1 = -1 ∧ RM r.2 S) ∧ FM w r.2) := fun z => by
    unfold f_M_pattern_24
    exact kT_mono (m_pat29 hR I X z.1.1 z.1.2 z.2) (fun r hr => ⟨fun _ => ⟨⟨hr.1.1, hr.1.2.1⟩, hr.2⟩, fun y => absurd z y, hr.1.2.2⟩)
  unfold f_M_pattern
  refine kT_eq m_isIn ?_
  dsimp only
  rw [bi_if]
  by_cases e : 0 ≤ k ∧ k ≤ 4
  · rw [if_pos e]
    by_cases e4 : k = 4
    · rw [if_pos e4]
      refine kT_eq (mg_isNode hR.wh I.1.1) ?_
      dsimp only
      rw [bi_if]
      by_cases ep : 0 ≤ p ∧ p < S 1 3 * S 1 4
      · rw [if_pos ep]
        exact hyes ⟨e, fun _ => ep⟩
      · rw [if_neg ep]
        exact hno (fun z => ep (z.2 e4))
    · rw [if_neg e4]
      exact hyes ⟨e, fun z => absurd z e4⟩
  · rw [if_neg e]
    exact hno (fun z => e z.1)
theorem x_state (hx : NX 2 w S) : f_X_state v w = some (w 1 6, qud w 1 6 v) ∧ NX 2 (qud w 1 6 v) S ∧ FX1 w (qud w 1 6 v) := ⟨rfl, hx.o1, FX1.rfl'.q⟩
theorem m_state (hR : RM w S) : f_M_state v w = some (w 88 2, qud w 88 2 v) ∧ RM (qud w 88 2 v) S ∧ FM1 w (qud w 88 2 v) := ⟨rfl, hR.out (by decide), FM1.rfl'.q⟩
end SW
