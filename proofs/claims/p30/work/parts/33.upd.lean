/-! updates on both sides -/
section UP
variable {o : Nat} {w w' S : qMem} {f k : Nat} {n v i : Int}
theorem lv_qud (h1 : f ≠ 1) (h5 : f = 5 → n ≠ 13) (h12 : f ≠ 12) (h20 : f ≠ 20) (h22 : f ≠ 22) {f' : Nat} {n' : Int} : lv (qud S f n v) f' n' ↔ lv S f' n' := by
  unfold lv
  rw [qud_nk (Ne.symm h1), qud_nk (Ne.symm h1), qud_nk (Ne.symm h12), qud_nk (Ne.symm h20), qud_nk (Ne.symm h22)]
  have e : qud S f n v 5 13 = S 5 13 := by
    by_cases h : f = 5
    · exact qud_ni (Ne.symm (h5 h))
    · exact qud_nk (Ne.symm h)
  rw [e]
theorem RX.up (h : RX o w S) (hl : ∀ f' n', lv (qud S f n v) f' n' → (f' = f ∧ n' = n) ∨ lv S f' n') : RX o (qud w (o + f) n v) (qud S f n v) := by
  intro f' n' hf hv
  by_cases e : f' = f ∧ n' = n
  · rw [e.1, e.2, qud_s, qud_s]
  · rw [show qud S f n v f' n' = S f' n' from if_neg e, show qud w (o + f) n v (o + f') n' = w (o + f') n' from if_neg (fun q => e ⟨by have := q.1; omega, q.2⟩)]
    exact h f' n' hf ((hl f' n' hv).resolve_left e)
theorem RX.u (h : RX o w S) (h1 : f ≠ 1) (h5 : f = 5 → n ≠ 13) (h12 : f ≠ 12) (h20 : f ≠ 20) (h22 : f ≠ 22) : RX o (qud w (o + f) n v) (qud S f n v) :=
  h.up (fun _ _ hv => Or.inr ((lv_qud h1 h5 h12 h20 h22).mp hv))
theorem RX.out (h : RX o w S) (hk : k < o ∨ o + 35 ≤ k) : RX o (qud w k i v) S := by
  intro f' n' hf hv
  rw [qud_nk (by omega)]
  exact h f' n' hf hv
theorem RX.fr (h : RX o w S) (hk : ∀ k, o ≤ k → k < o + 35 → w' k = w k) : RX o w' S := by
  intro f' n' hf hv
  rw [hk _ (by omega) (by omega)]
  exact h f' n' hf hv
theorem RM.up (h : RM w S) (hf : vv f n) (hl : ∀ f' n', lv (qud S f n v) f' n' → (f' = f ∧ n' = n) ∨ lv S f' n') : RM (qud w 89 (ad f n) v) (qud S f n v) := by
  intro f' n' hv
  by_cases e : f' = f ∧ n' = n
  · rw [e.1, e.2, qud_s, qud_s]
  · rw [show qud S f n v f' n' = S f' n' from if_neg e, qud_ni (fun q => e (ad_inj (vv_of hv) hf q))]
    exact h f' n' ((hl f' n' hv).resolve_left e)
theorem RM.u (h : RM w S) (hf : vv f n) (h1 : f ≠ 1) (h5 : f = 5 → n ≠ 13) (h12 : f ≠ 12) (h20 : f ≠ 20) (h22 : f ≠ 22) : RM (qud w 89 (ad f n) v) (qud S f n v) :=
  h.up hf (fun _ _ hv => Or.inr ((lv_qud h1 h5 h12 h20 h22).mp hv))
theorem RM.out (h : RM w S) (hk : k ≠ 89) : RM (qud w k i v) S := by
  intro f' n' hv
  rw [qud_nk (Ne.symm hk)]
  exact h f' n' hv
theorem RM.fr (h : RM w S) (hk : ∀ j, 0 ≤ j → j < 5898 → w' 89 j = w 89 j) : RM w' S := by
  intro f' n' hv
  have := ad_in (vv_of hv)
  rw [hk _ this.1 this.2]
  exact h f' n' hv
theorem RG.fr {W H : Int} (h : RG o w W H) (hk : ∀ k, o ≤ k → k ≤ o + 3 → w' k = w k) : RG o w' W H := by
  unfold RG
  rw [hk o (by omega) (by omega), hk (o + 1) (by omega) (by omega), hk (o + 2) (by omega) (by omega), hk (o + 3) (by omega) (by omega)]
  exact h
theorem RG.out {W H : Int} (h : RG o w W H) (hk : k < o ∨ o + 3 < k) : RG o (qud w k i v) W H :=
  h.fr (fun k' h1 h2 => by funext j; exact qud_nk (by omega))
end UP
/-- a net and its grid -/
def NX (o : Nat) (w S : qMem) : Prop := RX o w S ∧ RG (o + 1) w (S 1 3) (S 1 4)
/-- what a net's method leaves as it was -/
def FN (o : Nat) (w w' : qMem) : Prop := ∀ k, (k < o ∨ o + 35 ≤ k ∨ (o + 1 ≤ k ∧ k ≤ o + 4)) → w' k = w k
def FM (w w' : qMem) : Prop := ∀ k, k ≠ 89 → w' k = w k
section UF
variable {o : Nat} {w w' w2 S : qMem} {f k : Nat} {n v i : Int}
theorem FN.rfl' : FN o w w := fun _ _ => rfl
theorem FN.tr (h : FN o w w') (h2 : FN o w' w2) : FN o w w2 := fun k hk => (h2 k hk).trans (h k hk)
theorem FN.q (h : FN o w w') (hf : f < 35) (hg : f = 0 ∨ 5 ≤ f) : FN o w (qud w' (o + f) n v) := fun k hk => by
  funext j
  rw [qud_nk (by omega), h k hk]
theorem FM.rfl' : FM w w := fun _ _ => rfl
theorem FM.tr (h : FM w w') (h2 : FM w' w2) : FM w w2 := fun k hk => (h2 k hk).trans (h k hk)
theorem FM.q (h : FM w w') : FM w (qud w' 89 n v) := fun k hk => by
  funext j
  rw [qud_nk hk, h k hk]
theorem RG.fn {W H : Int} (h : RG (o + 1) w W H) (hf : FN o w w') : RG (o + 1) w' W H := h.fr (fun k h1 h2 => hf k (Or.inr (Or.inr ⟨h1, by omega⟩)))
theorem NX.u (h : NX o w S) (hf : f < 35) (hg : f = 0 ∨ 5 ≤ f) (h5 : f = 5 → n ≠ 13) (h12 : f ≠ 12) (h20 : f ≠ 20) (h22 : f ≠ 22) : NX o (qud w (o + f) n v) (qud S f n v) := by
  refine ⟨h.1.u (by omega) h5 h12 h20 h22, ?_⟩
  rw [qud_nk (by omega), qud_nk (by omega)]
  exact h.2.out (by omega)
theorem NX.up (h : NX o w S) (hf : f < 35) (hg : f = 0 ∨ 5 ≤ f) (hl : ∀ f' n', lv (qud S f n v) f' n' → (f' = f ∧ n' = n) ∨ lv S f' n') : NX o (qud w (o + f) n v) (qud S f n v) := by
  refine ⟨h.1.up hl, ?_⟩
  rw [qud_nk (by omega), qud_nk (by omega)]
  exact h.2.out (by omega)
theorem NX.fr (h : NX o w S) (hk : ∀ k, o ≤ k → k < o + 35 → w' k = w k) : NX o w' S := ⟨h.1.fr hk, h.2.fr (fun k h1 h2 => hk k (by omega) (by omega))⟩
end UF
/-- few bounds: what a net's reading methods need -/
def ICf (S : qMem) : Prop := (1 ≤ S 0 6 ∧ S 0 6 ≤ 4) ∧ (0 ≤ S 0 7 ∧ S 0 7 ≤ 3) ∧ (0 ≤ S 0 8 ∧ S 0 8 ≤ 2) ∧ (0 ≤ S 0 9 ∧ S 0 9 ≤ 99) ∧ (0 ≤ S 0 10 ∧ S 0 10 ≤ 1000000) ∧ (0 ≤ S 5 13 ∧ S 5 13 ≤ 250) ∧ (0 ≤ S 22 1 ∧ S 22 1 ≤ 64)
def IT (S : qMem) : Prop := ∀ p, 0 ≤ p → p < S 5 13 → 0 ≤ S 7 p ∧ S 7 p < S 1 3 * S 1 4
def IQw (S : qMem) : Prop := ∀ q, 0 ≤ q → q < 144 → (0 ≤ S 20 q ∧ S 20 q ≤ 6) ∧ ∀ i, 0 ≤ i → i < S 20 q → 0 ≤ S 21 (q * 6 + i) ∧ S 21 (q * 6 + i) < S 5 13
def IW (S : qMem) : Prop := gIn (S 1 3) (S 1 4) ∧ ICf S ∧ IT S ∧ IQw S
