/-! both sides are made: they agree -/
def JM (m : Nat) (w0 wB w : qMem) : Prop := (w 0 (-2) = (m : Int) ∧ ∀ j, j ≠ -2 → w 0 j = w0 0 j) ∧ (∀ k, 1 ≤ k → k ≤ 87 → w k = wB k) ∧ w 88 2 = 0 ∧ (99 ≤ m → ∀ j, w 99 j = 0)
def JX (w0 w : qMem) : Prop := (w 0 (-2) = 87 ∧ ∀ j, j ≠ -2 → w 0 j = w0 0 j) ∧ (NX 2 w (sbg 3 3 2 1 1 8) ∧ RGx w) ∧ (w 81 6 = 0 ∧ w 81 13 = 0) ∧ w 1 6 = 0
section IK
variable {w w' w0 wB : qMem} {i v : Int} {m o k : Nat} {D : Nat → Bool} {β : Type}
theorem kT_nw {F : qMem → Option β} {P : β → Prop} (h : w 0 (-2) = (m : Int)) (ho : o = m + 1) (K : ∀ w', w' 0 (-2) = (o : Int) → (∀ j, j ≠ -2 → w' 0 j = w 0 j) → (∀ j, w' o j = 0) → (∀ k, k ≠ 0 → k ≠ o → w' k = w k) → kT (F w') P) : kT (qnw w o F) P := by
  have hn : qnn w = m := by
    unfold qnn
    rw [h]
    rfl
  subst ho
  unfold qnw
  rw [if_pos (by rw [h]; omega)]
  refine K _ ?_ (fun j hj => qal_s w hj) (fun j => ?_) (fun k k0 k1 => ?_)
  · rw [qal_0, h]; omega
  · have := qal_n w j
    rwa [hn] at this
  · funext j
    exact qal_k w (by rw [hn]; exact k1) k0 j
theorem JM.nw {F : qMem → Option β} {P : β → Prop} (h : JM m w0 wB w) (ho : o = m + 1) (h89 : 89 ≤ o) (K : ∀ w', JM o w0 wB w' → kT (F w') P) : kT (qnw w o F) P := by
  refine kT_nw h.1.1 ho (fun w' a b c d => K w' ⟨⟨a, fun j hj => (b j hj).trans (h.1.2 j hj)⟩, fun k k0 k1 => ?_, ?_, fun h99 j => ?_⟩)
  · rw [d k (by omega) (by omega)]; exact h.2.1 k k0 k1
  · rw [d 88 (by decide) (by omega)]; exact h.2.2.1
  · by_cases e : o = 99
    · rw [← e]; exact c j
    · rw [d 99 (by decide) (Ne.symm e)]
      exact h.2.2.2 (by omega) j
theorem JM.lt {F : qMem → Option β} {P : β → Prop} (h : JM m w0 wB w) (hi : i ≠ 2) (K : ∀ w', JM m w0 wB w' → kT (F w') P) : kT (qlt (qud w 88 i v) F) P := by
  refine K _ ⟨⟨?_, fun j hj => ?_⟩, fun k k0 k1 => ?_, ?_, fun h99 j => ?_⟩
  · rw [qud_nk (by decide)]; exact h.1.1
  · rw [qud_nk (by decide)]; exact h.1.2 j hj
  · rw [qud_row (by omega)]; exact h.2.1 k k0 k1
  · rw [qud_ni (Ne.symm hi)]; exact h.2.2.1
  · rw [qud_nk (by decide)]; exact h.2.2.2 h99 j
theorem dy38_in (h : (3 ≤ k ∧ k ≤ 6) ∨ (38 ≤ k ∧ k ≤ 41)) : dy38 k = true := by
  unfold dy38
  rcases h with ⟨a, b⟩ | ⟨a, b⟩
  · rw [Nat.ble_eq_true_of_le a, Nat.ble_eq_true_of_le b]; rfl
  · rw [Nat.ble_eq_true_of_le a, Nat.ble_eq_true_of_le b]; simp
theorem ji_X (h : JI 1 dy0 w0 wB w) : kT (f_X_init w) (JX w0) := by
  have g : gIn 3 3 := ⟨⟨by decide, by decide⟩, by decide, by decide⟩
  have hk : sokb 2 1 1 8 := ⟨⟨by decide, by decide⟩, ⟨by decide, by decide⟩, ⟨by decide, by decide⟩, by decide, by decide⟩
  unfold f_X_init
  refine JI.nw h rfl rfl (fun w h _ => ?_)
  refine kT_bind (ji_N2 h) (fun w h => ?_)
  obtain ⟨wC, h, hG⟩ := h
  refine JI.lt h ⟨rfl, by decide⟩ (fun w h => ?_)
  refine JI.nw h rfl rfl (fun w h _ => ?_)
  refine kT_bind (ji_N37 h hG) (fun w h => ?_)
  obtain ⟨wC, h, hG3, hG38⟩ := h
  refine JI.lt h ⟨rfl, by decide⟩ (fun w h => ?_)
  refine JI.lt h ⟨rfl, by decide⟩ (fun w h => ?_)
  refine JI.nw h rfl rfl (fun w h _ => ?_)
  refine kT_bind (ji_O h) (fun w h => ?_)
  refine JI.lt h ⟨rfl, by decide⟩ (fun w h => ?_)
  refine JI.nw h rfl rfl (fun w h _ => ?_)
  refine kT_bind (ji_S h) (fun w h => ?_)
  refine JI.lt h ⟨rfl, by decide⟩ (fun w h => ?_)
  refine JI.nw h rfl rfl (fun w h _ => ?_)
  refine kT_bind (ji_L h) (fun w h => ?_)
  obtain ⟨h, e6, e13⟩ := h
  rw [qlt_ok, qlt_ok]
  have h2 : JI 87 dy38 w0 wC (qud (qud w 1 5 ((81 : Nat) : Int)) 1 6 0) := (h.qu ⟨rfl, by decide⟩).qu ⟨rfl, by decide⟩
  have e81 : ∀ j, qud (qud w 1 5 ((81 : Nat) : Int)) 1 6 0 81 j = w 81 j := fun j => by rw [qud_nk (by decide), qud_nk (by decide)]
  have e16 : qud (qud w 1 5 ((81 : Nat) : Int)) 1 6 0 1 6 = 0 := qud_s
  generalize qud (qud w 1 5 ((81 : Nat) : Int)) 1 6 0 = u at h2 e81 e16
  have r3 : RG (2 + 1) u 3 3 := hG3.fr (fun k a b => h2.2.1 k (dy38_in (Or.inl ⟨by omega, by omega⟩)))
  have r38 : RG 38 u 3 3 := hG38.fr (fun k a b => h2.2.1 k (dy38_in (Or.inr ⟨by omega, by omega⟩)))
  refine kT_bind (n_begin (o := 2) r3 g hk) (fun w3 h3 => ?_)
  refine kT_some ⟨⟨?_, fun j hj => ?_⟩, ⟨h3.1, 3, 3, g, r38.fr (fun k a b => h3.2 k (by omega))⟩, ⟨?_, ?_⟩, ?_⟩
  · rw [h3.2 0 (by decide)]; exact h2.1.1
  · rw [h3.2 0 (by decide)]; exact h2.1.2 j hj
  · rw [h3.2 81 (by decide), e81]; exact e6
  · rw [h3.2 81 (by decide), e81]; exact e13
  · rw [h3.2 1 (by decide)]; exact e16
theorem jm_M (h : JM 88 w0 wB w) : kT (f_M_init w) (fun w' => JM 101 w0 wB w' ∧ RM w' (sbg 3 3 2 1 1 8)) := by
  have g : gIn 3 3 := ⟨⟨by decide, by decide⟩, by decide, by decide⟩
  have hk : sokb 2 1 1 8 := ⟨⟨by decide, by decide⟩, ⟨by decide, by decide⟩, ⟨by decide, by decide⟩, by decide, by decide⟩
  unfold f_M_init
  refine JM.nw h rfl (by decide) (fun w h => ?_)
  refine JM.lt h (by decide) (fun w h => ?_)
  refine JM.nw h rfl (by decide) (fun w h => ?_)
  refine JM.lt h (by decide) (fun w h => ?_)
  refine JM.nw h rfl (by decide) (fun w h => ?_)
  refine JM.lt h (by decide) (fun w h => ?_)
  refine JM.nw h rfl (by decide) (fun w h => ?_)
  refine JM.lt h (by decide) (fun w h => ?_)
  refine JM.nw h rfl (by decide) (fun w h => ?_)
  refine JM.lt h (by decide) (fun w h => ?_)
  refine JM.nw h rfl (by decide) (fun w h => ?_)
  refine JM.lt h (by decide) (fun w h => ?_)
  refine JM.nw h rfl (by decide) (fun w h => ?_)
  refine JM.lt h (by decide) (fun w h => ?_)
  refine JM.nw h rfl (by decide) (fun w h => ?_)
  refine JM.lt h (by decide) (fun w h => ?_)
  refine JM.nw h rfl (by decide) (fun w h => ?_)
  refine JM.lt h (by decide) (fun w h => ?_)
  refine JM.nw h rfl (by decide) (fun w h => ?_)
  refine JM.lt h (by decide) (fun w h => ?_)
  refine JM.nw h rfl (by decide) (fun w h => ?_)
  refine JM.lt h (by decide) (fun w h => ?_)
  refine JM.nw h rfl (by decide) (fun w h => ?_)
  refine JM.lt h (by decide) (fun w h => ?_)
  refine JM.nw h rfl (by decide) (fun w h => ?_)
  refine JM.lt h (by decide) (fun w h => ?_)
  refine kT_bind (m_begins (W := 3) (H := 3) (e := 2) (a := 1) (r := 1) (b := 8) g hk) (fun w3 h3 => ?_)
  have e : ∀ k, k ≠ 89 → w3 k = w k := h3.2
  refine kT_some ⟨⟨⟨?_, fun j hj => ?_⟩, fun k a b => ?_, ?_, fun h99 j => ?_⟩, h3.1⟩
  · rw [e 0 (by decide)]; exact h.1.1
  · rw [e 0 (by decide)]; exact h.1.2 j hj
  · rw [e k (by omega)]; exact h.2.1 k a b
  · rw [e 88 (by decide)]; exact h.2.2.1
  · rw [e 99 (by decide)]; exact h.2.2.2 h99 j
/-- from the start to the first call -/
theorem law_init {P : Int × qMem → Prop} {F : qMem → Option (Int × qMem)} (h0 : w0 0 (-2) = 0) (K : ∀ w', GIS 0 (sbg 3 3 2 1 1 8) w0 w' → kT (F w') P) : kT (qnw w0 1 fun w1 => (f_X_init w1).bind fun q2 => qnw q2 88 fun w3 => (f_M_init w3).bind fun q4 => F q4) P := by
  have h : JI 0 dy0 w0 w0 w0 := ⟨⟨h0, fun _ _ => rfl⟩, fun _ _ => rfl, rfl⟩
  refine JI.nw h rfl rfl (fun w h _ => ?_)
  refine kT_bind (ji_X h) (fun w h => ?_)
  obtain ⟨⟨a0, a1⟩, ⟨hx, hg⟩, ⟨b6, b13⟩, b16⟩ := h
  refine kT_nw (m := 87) a0 rfl (fun w' c0 c1 c2 c3 => ?_)
  have hM : JM 88 w0 w w' := ⟨⟨c0, fun j hj => (c1 j hj).trans (a1 j hj)⟩, fun k k0 k1 => c3 k (by omega) (by omega), c2 2, fun z => by omega⟩
  refine kT_bind (jm_M hM) (fun w4 h4 => ?_)
  obtain ⟨⟨⟨d0, d1⟩, d2, d3, d4⟩, hR⟩ := h4
  have g : gIn 3 3 := ⟨⟨by decide, by decide⟩, by decide, by decide⟩
  have hk : sokb 2 1 1 8 := ⟨⟨by decide, by decide⟩, ⟨by decide, by decide⟩, ⟨by decide, by decide⟩, by decide, by decide⟩
  refine K w4 ⟨⟨hx.fr (fun k a b => d2 k (by omega) (by omega)), hR⟩, ⟨IV.bg g hk, IX.bg, by decide⟩, ⟨hg.fr (fun k a b => d2 k (by omega) (by omega)), ⟨Or.inl ⟨?_, d0⟩, ?_⟩, fun s _ _ => ?_⟩, ?_, d1⟩
  · rw [d2 81 (by decide) (by decide)]; exact b6
  · rw [d2 81 (by decide) (by decide), b13]; decide
  · rw [d4 (by decide) s]; decide
  · rw [d2 1 (by decide) (by decide), b16, d3]
end IK
