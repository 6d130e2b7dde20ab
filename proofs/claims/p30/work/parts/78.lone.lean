/-! one ring alone (the class): that it answers, begun -/
def LI (n e : Int) (w : qMem) : Prop := (w 81 8 = n ∧ w 81 9 = e ∧ w 81 11 = n - 1) ∧ ((2 ≤ n ∧ n ≤ 4) ∧ 1 ≤ e ∧ e ≤ 3) ∧ (∀ i, 0 ≤ i → i ≤ n → w 86 i ≠ 0) ∧ (w 81 6 = 102 ∧ w 81 7 = 103) ∧ (∀ j, 0 ≤ j → j < 10125 → 0 ≤ w 102 j ∧ w 102 j < 10125) ∧ 0 ≤ w 81 13 ∧ w 81 13 ≤ 10125
def LSt (w : qMem) : Prop := (0 ≤ w 81 14 ∧ w 81 14 ≤ 16) ∧ ∀ i, 0 ≤ i → i < w 81 14 → 0 ≤ w 87 i ∧ w 87 i < 10125
def LL (n e : Int) (w : qMem) : Prop := ∀ v, 0 ≤ v → v < n → 0 ≤ w 85 v ∧ w 85 v ≤ e
def FL (w w' : qMem) : Prop := ∀ k, (k < 81 ∨ (87 < k ∧ k ≠ 102 ∧ k ≠ 103)) → w' k = w k
section LO
variable {w w' w0 T : qMem} {n e x v i a : Int} {k : Nat}
theorem FL.rfl' : FL w w := fun _ _ => rfl
theorem FL.tr (h : FL w w') (h2 : FL w' T) : FL w T := fun k hk => (h2 k hk).trans (h k hk)
theorem FL.wr (h : FL w w') (hk : (81 ≤ k ∧ k ≤ 87) ∨ k = 102 ∨ k = 103) : FL w (qud w' k i x) := fun k' hk' => by
  funext j
  rw [qud_nk (by omega), h k' hk']
theorem LI.wr (h : LI n e w) (hk : k = 82 ∨ k = 83 ∨ k = 84 ∨ k = 85 ∨ k = 87 ∨ k = 103) : LI n e (qud w k i x) := by
  have r : ∀ g : Nat, g = 81 ∨ g = 86 ∨ g = 102 → qud w k i x g = w g := fun g hg => qud_row (by omega)
  unfold LI
  rw [r 81 (by decide), r 86 (by decide), r 102 (by decide)]
  exact h
theorem LI.w81 (h : LI n e w) (hi : i = 10 ∨ i = 12 ∨ i = 14 ∨ i = 15) : LI n e (qud w 81 i x) := by
  have r : ∀ j : Int, j ≠ i → qud w 81 i x 81 j = w 81 j := fun j hj => qud_ni hj
  unfold LI
  rw [r 8 (by omega), r 9 (by omega), r 11 (by omega), r 6 (by omega), r 7 (by omega), r 13 (by omega), qud_row (show (86 : Nat) ≠ 81 by decide), qud_row (show (102 : Nat) ≠ 81 by decide)]
  exact h
theorem LSt.wr (h : LSt w) (hk : k ≠ 81 ∧ k ≠ 87) : LSt (qud w k i x) := by
  unfold LSt
  rw [qud_row (Ne.symm hk.1), qud_row (Ne.symm hk.2)]
  exact h
theorem LL.wr (h : LL n e w) (hk : k ≠ 85) : LL n e (qud w k i x) := by
  unfold LL
  rw [qud_row (Ne.symm hk)]
  exact h
theorem l_len (h : LI n e w) : ∃ y, f_L_lengthOf x w = some (y, w) ∧ 0 ≤ y ∧ y ≤ e := by
  obtain ⟨⟨h8, h9, h11⟩, ⟨hn, he⟩, -⟩ := h
  have key : ∀ (m : Nat) (y z : Int), 0 ≤ y → y ≤ e → e - y < m → ∃ r, f_L_lengthOf_4 m y z w = some (r, w) ∧ 0 ≤ r ∧ r ≤ e := by
    intro m
    induction m with
    | zero => intro y z _ _ _; omega
    | succ m ih =>
      intro y z y0 y1 hm
      rw [f_L_lengthOf_4, h9, h11]
      by_cases c : z ≤ 0
      · rw [if_pos c]; exact ⟨y, rfl, y0, y1⟩
      · rw [if_neg c]
        by_cases c2 : y < e
        · rw [if_pos c2, qdv_ok (by omega), w32_ok (z := y + 1) (by omega) (by omega)]
          exact ih (y + 1) _ (by omega) (by omega) (by omega)
        · rw [if_neg c2]; exact ⟨y, rfl, y0, y1⟩
  unfold f_L_lengthOf
  exact key qFU 0 x (by omega) (by omega) (qFU_gt (by omega))
theorem l_put (h : LI n e w) (hl : LL n e w) (v0 : 0 ≤ v) (v1 : v < n) : sA w (f_L_put v x w) := by
  obtain ⟨⟨h8, h9, h11⟩, ⟨hn, he⟩, -⟩ := h
  have hv := hl v v0 v1
  have key : ∀ (m : Nat) (y z : Int), 0 ≤ y → y ≤ w 85 v → w 85 v - y < m → sA w (f_L_put_7 m v z y w) := by
    intro m
    induction m with
    | zero => intro y z _ _ _; omega
    | succ m ih =>
      intro y z y0 y1 hm
      rw [f_L_put_7, qld_ok v0 (by omega)]
      refine sA_if (fun c => ?_) (fun _ => ?_)
      · rw [w32_ok (z := y + 1) (by omega) (by omega)]
        exact ih (y + 1) _ (by omega) (by omega) (by omega)
      · unfold f_L_put_31
        rw [qld_ok v0 (by omega)]
        exact sA_s
  unfold f_L_put
  exact key qFU 0 _ (by omega) hv.1 (qFU_gt (by omega))
theorem l_rule (h : LI n e w) (v0 : 0 ≤ v) (v1 : v < n) : sA w (f_L_ruleLets v w) := by
  have hn := h.2.1.1
  have h29 : ∀ s, sA w (f_L_ruleLets_29 s v w) := by
    intro s
    unfold f_L_ruleLets_29 f_L_ruleLets_50
    rw [qld_ok v0 (by omega)]
    exact sA_if (fun _ => sA_if (fun _ => sA_s) (fun _ => sA_s)) (fun _ => sA_if (fun _ => sA_s) (fun _ => sA_s))
  unfold f_L_ruleLets
  exact sA_if (fun _ => h29 _) (fun _ => sA_if (fun _ => sA_if (fun _ => h29 _) (fun _ => h29 _)) (fun _ => h29 _))
/-- what holds while steps are listed -/
def LJ (n e : Int) (w0 w : qMem) : Prop := (LI n e w ∧ LL n e w) ∧ LSt w ∧ FL w0 w ∧ w 81 13 = w0 81 13
theorem l_add (h : LJ n e w0 w) : kT (f_L_addStep a w) (LJ n e w0) := by
  unfold f_L_addStep
  refine kT_if (fun c => kT_if (fun _ => kT_some h) (fun ca => kT_if (fun cb => ?_) (fun _ => kT_some h))) (fun _ => kT_some h)
  have h14 := h.2.1.1
  refine kT_st h14.1 c ?_
  rw [qlt_ok, qud_nk (show (81 : Nat) ≠ 87 by decide), w32_ok (by omega) (by omega)]
  refine kT_some ⟨⟨(h.1.1.wr (by decide)).w81 (by decide), (h.1.2.wr (by decide)).wr (by decide)⟩, ⟨?_, ?_⟩, (h.2.2.1.wr (by decide)).wr (by decide), ?_⟩
  · rw [qud_s]; omega
  · rw [qud_s, qud_row (show (87 : Nat) ≠ 81 by decide)]
    intro i i0 i1
    rw [qud_if]
    split
    · omega
    · exact h.2.1.2 i i0 (by omega)
  · rw [qud_ni (by decide), qud_nk (by decide)]
    exact h.2.2.2
end LO
