/-! one ring alone (the class): made ready -/
section LT
variable {w w' w0 T : qMem} {n e x v i a s c : Int} {k : Nat}
def ne_ok (n e : Int) : Prop := (n = 2 ∧ 1 ≤ e ∧ e ≤ 3) ∨ (n = 3 ∧ 1 ≤ e ∧ e ≤ 3) ∨ (n = 4 ∧ e = 1)
theorem l_codes (hk : w 81 11 = n - 1) (h : ne_ok n e) : ∃ c, (1 ≤ c ∧ c ≤ 15) ∧ f_L_prepare_60 qFU n e 1 0 w = f_L_prepare_83 n c w := by
  have step : ∀ (m : Nat) (c x : Int), x < e → f_L_prepare_60 (m + 1) n e c x w = f_L_prepare_60 m n e (w32 (w32 (c * (n - 1)) + 1)) (w32 (x + 1)) w := by
    intro m c x hx
    rw [f_L_prepare_60, if_pos hx, hk]
  have stop : ∀ (m : Nat) (c x : Int), ¬ x < e → f_L_prepare_60 (m + 1) n e c x w = f_L_prepare_83 n c w := by
    intro m c x hx
    rw [f_L_prepare_60, if_neg hx]
  rw [show qFU = 999999996 + 1 + 1 + 1 + 1 from rfl]
  rcases (show (n = 2 ∧ e = 1) ∨ (n = 2 ∧ e = 2) ∨ (n = 2 ∧ e = 3) ∨ (n = 3 ∧ e = 1) ∨ (n = 3 ∧ e = 2) ∨ (n = 3 ∧ e = 3) ∨ (n = 4 ∧ e = 1) by unfold ne_ok at h; omega) with h | h | h | h | h | h | h <;> obtain ⟨rfl, rfl⟩ := h
  · rw [step _ 1 0 (by decide), show w32 (w32 (1 * (2 - 1)) + 1) = 2 by decide, show w32 (0 + 1) = 1 by decide, stop _ 2 1 (by decide)]
    exact ⟨2, by decide, rfl⟩
  · rw [step _ 1 0 (by decide), show w32 (w32 (1 * (2 - 1)) + 1) = 2 by decide, show w32 (0 + 1) = 1 by decide, step _ 2 1 (by decide), show w32 (w32 (2 * (2 - 1)) + 1) = 3 by decide, show w32 (1 + 1) = 2 by decide, stop _ 3 2 (by decide)]
    exact ⟨3, by decide, rfl⟩
  · rw [step _ 1 0 (by decide), show w32 (w32 (1 * (2 - 1)) + 1) = 2 by decide, show w32 (0 + 1) = 1 by decide, step _ 2 1 (by decide), show w32 (w32 (2 * (2 - 1)) + 1) = 3 by decide, show w32 (1 + 1) = 2 by decide, step _ 3 2 (by decide), show w32 (w32 (3 * (2 - 1)) + 1) = 4 by decide, show w32 (2 + 1) = 3 by decide, stop _ 4 3 (by decide)]
    exact ⟨4, by decide, rfl⟩
  · rw [step _ 1 0 (by decide), show w32 (w32 (1 * (3 - 1)) + 1) = 3 by decide, show w32 (0 + 1) = 1 by decide, stop _ 3 1 (by decide)]
    exact ⟨3, by decide, rfl⟩
  · rw [step _ 1 0 (by decide), show w32 (w32 (1 * (3 - 1)) + 1) = 3 by decide, show w32 (0 + 1) = 1 by decide, step _ 3 1 (by decide), show w32 (w32 (3 * (3 - 1)) + 1) = 7 by decide, show w32 (1 + 1) = 2 by decide, stop _ 7 2 (by decide)]
    exact ⟨7, by decide, rfl⟩
  · rw [step _ 1 0 (by decide), show w32 (w32 (1 * (3 - 1)) + 1) = 3 by decide, show w32 (0 + 1) = 1 by decide, step _ 3 1 (by decide), show w32 (w32 (3 * (3 - 1)) + 1) = 7 by decide, show w32 (1 + 1) = 2 by decide, step _ 7 2 (by decide), show w32 (w32 (7 * (3 - 1)) + 1) = 15 by decide, show w32 (2 + 1) = 3 by decide, stop _ 15 3 (by decide)]
    exact ⟨15, by decide, rfl⟩
  · rw [step _ 1 0 (by decide), show w32 (w32 (1 * (4 - 1)) + 1) = 4 by decide, show w32 (0 + 1) = 1 by decide, stop _ 4 1 (by decide)]
    exact ⟨4, by decide, rfl⟩
def pb (i : Int) : Int := if i = 0 then 1 else if i = 1 then 15 else if i = 2 then 225 else if i = 3 then 3375 else 50625
theorem l_weights (hn : 2 ≤ n ∧ n ≤ 4) (hc : 1 ≤ c ∧ c ≤ 15) : kT (f_L_prepare_83 n c w) (fun w' => (∀ k, k ≠ 86 → w' k = w k) ∧ ∀ i, 0 ≤ i → i ≤ n → w' 86 i ≠ 0) := by
  have key : ∀ (m : Nat) (x : Int) (w' : qMem), 0 ≤ x → x ≤ n → n - x < m → (∀ k, k ≠ 86 → w' k = w k) → (∀ i, 0 ≤ i → i ≤ x → 1 ≤ w' 86 i ∧ w' 86 i ≤ pb i) → kT (f_L_prepare_93 m n c x w') (fun w' => (∀ k, k ≠ 86 → w' k = w k) ∧ ∀ i, 0 ≤ i → i ≤ n → w' 86 i ≠ 0) := by
    intro m
    induction m with
    | zero => intro x w' _ _ _ _ _; omega
    | succ m ih =>
      intro x w' x0 x1 hm hf hw
      rw [f_L_prepare_93]
      refine kT_if (fun cx => ?_) (fun cx => kT_some ⟨hf, fun i i0 i1 => by have := (hw i i0 (by omega)).1; omega⟩)
      have hx := hw x x0 (Int.le_refl _)
      have hp : (1 ≤ w' 86 x * c ∧ w' 86 x * c ≤ pb (x + 1)) ∧ pb (x + 1) ≤ 50625 := by
        have hb : pb x * 15 = pb (x + 1) ∧ pb (x + 1) ≤ 50625 := by
          rcases (by omega : x = 0 ∨ x = 1 ∨ x = 2 ∨ x = 3) with rfl | rfl | rfl | rfl <;> decide
        have h1 : w' 86 x * 1 ≤ w' 86 x * c := Int.mul_le_mul_of_nonneg_left hc.1 (by omega)
        have h2 : w' 86 x * c ≤ w' 86 x * 15 := Int.mul_le_mul_of_nonneg_left hc.2 (by omega)
        omega
      rw [qld_ok x0 (by omega), w32_ok (z := x + 1) (by omega) (by omega), w32_ok (z := w' 86 x * c) (by omega) (by omega), qst_ok (by omega) (by omega)]
      refine ih (x + 1) _ (by omega) (by omega) (by omega) (fun k hk => by funext j; rw [qud_nk hk, hf k hk]) (fun i i0 i1 => ?_)
      rw [qud_if]
      by_cases ei : i = x + 1
      · rw [if_pos ei, ei]; exact hp.1
      · rw [if_neg ei]; exact hw i i0 (by omega)
  unfold f_L_prepare_83
  rw [qst_ok (by decide) (by decide)]
  refine key qFU 0 _ (by omega) (by omega) (qFU_gt (by omega)) (fun k hk => qud_row hk) (fun i i0 i1 => ?_)
  have : i = 0 := by omega
  subst this
  rw [qud_s]
  decide
theorem l_prep32 {x3 : Int} (h : ne_ok n e) (h6 : w 81 6 = 102 ∧ w 81 7 = 103) (ho : ∀ j, 0 ≤ j → j < 10125 → 0 ≤ w 102 j ∧ w 102 j < 10125) (h13 : 0 ≤ w 81 13 ∧ w 81 13 ≤ 10125) : kT (f_L_prepare_32 n e x3 w) (LN n e w) := by
  have hn : (2 ≤ n ∧ n ≤ 4) ∧ 1 ≤ e ∧ e ≤ 3 := by
    unfold ne_ok at h
    omega
  unfold f_L_prepare_32
  rw [qlt_ok, qlt_ok, qlt_ok, qlt_ok, w32_ok (z := n - 1) (by omega) (by omega)]
  obtain ⟨c, hc, q⟩ := l_codes (w := qud (qud (qud (qud w 81 8 n) 81 9 e) 81 10 x3) 81 11 (n - 1)) (n := n) (e := e) qud_s h
  rw [q]
  refine kT_mono (l_weights hn.1 hc) (fun w' hw => ⟨?_, fun k hk => ?_⟩)
  · unfold LI
    rw [hw.1 81 (by decide), hw.1 102 (by decide)]
    refine ⟨⟨by rw [qud_ni (by decide), qud_ni (by decide), qud_ni (by decide), qud_s], by rw [qud_ni (by decide), qud_ni (by decide), qud_s], by rw [qud_s]⟩, hn, hw.2, ⟨by rw [qud_ni (by decide), qud_ni (by decide), qud_ni (by decide), qud_ni (by decide)]; exact h6.1, by rw [qud_ni (by decide), qud_ni (by decide), qud_ni (by decide), qud_ni (by decide)]; exact h6.2⟩, ?_, ?_⟩
    · rw [qud_row (show (102 : Nat) ≠ 81 by decide), qud_row (show (102 : Nat) ≠ 81 by decide), qud_row (show (102 : Nat) ≠ 81 by decide), qud_row (show (102 : Nat) ≠ 81 by decide)]
      exact ho
    · rw [qud_ni (by decide), qud_ni (by decide), qud_ni (by decide), qud_ni (by decide)]
      exact h13
  · rw [hw.1 k (by omega)]
    funext j
    rw [qud_nk (by omega), qud_nk (by omega), qud_nk (by omega), qud_nk (by omega)]
end LT
