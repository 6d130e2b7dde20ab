/-! asking: queue, move -/
def qk (l d : Int) : Int := if l = 0 then 0 else if l = 1 then 1 + d else 5 + d
def aQv (S : qMem) (q i : Int) : Int := if i = -1 then S 20 q else if 0 ≤ i ∧ i < S 20 q then S 21 (q * 6 + i) else -1
def qok (S : qMem) (v l d : Int) : Prop := (0 ≤ v ∧ v < S 1 3 * S 1 4) ∧ (0 ≤ d ∧ d ≤ 3) ∧ (0 ≤ l ∧ l ≤ 2) ∧ (l = 0 → d = 0)
def qokb (S : qMem) (v l d : Int) : Bool := decide (0 ≤ v ∧ v < S 1 3 * S 1 4) && decide (0 ≤ d ∧ d ≤ 3) && decide (0 ≤ l ∧ l ≤ 2) && decide (l = 0 → d = 0)
def aQue (S : qMem) (v l d i : Int) : Int := if qokb S v l d = true then aQv S (v * 9 + qk l d) i else -1
def aMvX (S : qMem) (i x : Int) : Int := if 0 ≤ x ∧ x ≤ 4 then (if i = -1 then S 22 1 else if 0 ≤ i ∧ i < S 22 1 then S 23 (i * 5 + x) else -1) else -1
def aMvM (S : qMem) (i x : Int) : Int := if i = -1 then S 22 1 else if (0 ≤ i ∧ i < S 22 1) ∧ 0 ≤ x ∧ x ≤ 4 then S 23 (i * 5 + x) else -1
section Q3
variable {w w' S T : qMem} {v d l i x q k : Int}
theorem qokb_t (h : qok S v l d) : (if qokb S v l d = true then x else -1) = x := by
  unfold qokb
  rw [decide_eq_true h.1, decide_eq_true h.2.1, decide_eq_true h.2.2.1, decide_eq_true h.2.2.2]
  rfl
theorem qokb_f (h : ¬ qok S v l d) : (if qokb S v l d = true then x else -1) = -1 := by
  refine if_neg (fun z => h ?_)
  unfold qokb at z
  simp only [Bool.and_eq_true, decide_eq_true_eq] at z
  exact ⟨z.1.1.1, z.1.1.2, z.1.2, z.2⟩
theorem qk_in (h : qok S v l d) : 0 ≤ qk l d ∧ qk l d < 9 := by
  obtain ⟨_, hd, hl, _⟩ := h
  unfold qk
  split
  · omega
  · split <;> omega
theorem x_q57 (hx : NX 2 w S) (I : IV S) (q0 : 0 ≤ q) (q1 : q < 144) : (if i = (-1) then qld w 22 144 q fun v2 => some (v2, w) else (f_Q_itemAt 21 q i w).bind fun q3 => some (q3.1, q3.2)) = some (aQv S q i, w) := by
  have hq := (I.w.2.2.2 q q0 q1).1
  have e20 : w 22 q = S 20 q := rx_20 hx.1 q0 q1
  unfold aQv
  by_cases e : i = -1
  · rw [if_pos e, if_pos e, qld_ok q0 q1, e20]
  · rw [if_neg e, if_neg e]
    refine qpe ?_
    unfold f_Q_itemAt
    by_cases e2 : i < 0
    · rw [if_pos e2, if_neg (fun z => by omega)]
    · rw [if_neg e2, qld_ok q0 q1, show w (21 + 1) q = S 20 q from e20]
      by_cases e3 : i < S 20 q
      · rw [if_pos e3, if_pos ⟨by omega, e3⟩, w32_ok (z := q * 6) (by omega) (by omega), w32_ok (by omega) (by omega), qld_ok (by omega) (by omega), show w (21 + 2) (q * 6 + i) = S 21 (q * 6 + i) from rx_21 hx.1 (by omega) (by omega) (by rw [show (q * 6 + i) / 6 = q by omega]; omega)]
      · rw [if_neg e3, if_neg (fun z => e3 z.2)]
theorem x_queue (hx : NX 2 w S) (I : IV S) : f_X_queue v l d i w = some (aQue S v l d i, w) := by
  have hN := gN I.1.1
  have yes : qok S v l d → f_X_queue_39 v l d i w = some (aQue S v l d i, w) := by
    intro h
    have hk := qk_in h
    obtain ⟨hv, hd, hl, _⟩ := h
    have h' : qok S v l d := ⟨hv, hd, hl, by assumption⟩
    unfold aQue
    rw [qokb_t h', ← x_q57 hx I (q := v * 9 + qk l d) (by omega) (by omega)]
    unfold f_X_queue_39 f_X_queue_57 qk
    by_cases e : l = 0
    · rw [if_pos e, if_pos e, w32_ok (z := v * 9) (by omega) (by omega), w32_ok (z := v * 9 + 0) (by omega) (by omega)]
    · rw [if_neg e, if_neg e]
      unfold f_X_firstOfLane
      by_cases e1 : l = 1
      · rw [if_pos e1, if_pos e1, qbd rfl]
        dsimp only
        rw [w32_ok (z := v * 9) (by omega) (by omega), w32_ok (z := 1 + d) (by omega) (by omega), w32_ok (by omega) (by omega)]
      · rw [if_neg e1, if_neg e1, qbd rfl]
        dsimp only
        rw [w32_ok (z := v * 9) (by omega) (by omega), w32_ok (z := 5 + d) (by omega) (by omega), w32_ok (by omega) (by omega)]
  have no : ¬ qok S v l d → some ((-1 : Int), w) = some (aQue S v l d i, w) := by
    intro h
    unfold aQue
    rw [qokb_f h]
  unfold f_X_queue
  rw [qbd (g_hasNode (o := 3) hx.2)]
  dsimp only
  rw [bi_if]
  by_cases c1 : 0 ≤ v ∧ v < S 1 3 * S 1 4
  · rw [if_pos c1, qbd x_isDir]
    dsimp only
    rw [bi_if]
    by_cases c2 : 0 ≤ d ∧ d ≤ 3
    · rw [if_pos c2, qbd x_within]
      dsimp only
      rw [bi_if]
      by_cases c3 : 0 ≤ l ∧ l ≤ 2
      · rw [if_pos c3]
        by_cases c4 : l = 0
        · rw [if_pos c4]
          by_cases c5 : d = 0
          · rw [if_pos c5]
            exact yes ⟨c1, c2, c3, fun _ => c5⟩
          · rw [if_neg c5]
            exact no (fun z => c5 (z.2.2.2 c4))
        · rw [if_neg c4]
          exact yes ⟨c1, c2, c3, fun z => absurd z c4⟩
      · rw [if_neg c3]
        exact no (fun z => c3 z.2.2.1)
    · rw [if_neg c2]
      exact no (fun z => c2 z.2.1)
  · rw [if_neg c1]
    exact no (fun z => c1 z.1)
theorem m_q49 (hR : RM w S) (I : IV S) (v0 : 0 ≤ v) (v1 : v < 16) (k0 : 0 ≤ k) (k1 : k < 9) : f_M_queue_49 k v i w = some (aQv S (v * 9 + k) i, w) := by
  have hq := (I.w.2.2.2 (v * 9 + k) (by omega) (by omega)).1
  unfold f_M_queue_49 aQv
  by_cases e : i = -1
  · rw [if_pos e, if_pos e, qbd (m_many hR v0 v1 k0 k1)]
  · rw [if_neg e, if_neg e, qbd (m_many hR v0 v1 k0 k1)]
    dsimp only
    rw [w32_ok (z := S 20 (v * 9 + k) - 1) (by omega) (by omega), qbd m_isIn]
    dsimp only
    rw [bi_if]
    by_cases e3 : 0 ≤ i ∧ i ≤ S 20 (v * 9 + k) - 1
    · rw [if_pos e3, if_pos ⟨e3.1, by omega⟩, qbd (m_queueAt v0 v1 k0 k1)]
      dsimp only
      rw [w32_ok (z := 4266 + 7 * (v * 9 + k) + 1) (by omega) (by omega), w32_ok (by omega) (by omega), qld_ok (by omega) (by omega), rm_21 hR (n := (v * 9 + k) * 6 + i) (by omega) (by omega) (by rw [show ((v * 9 + k) * 6 + i) / 6 = v * 9 + k by omega]; omega) (by omega)]
    · rw [if_neg e3, if_neg (fun z => e3 ⟨z.1, by omega⟩)]
theorem m_queue (hR : RM w S) (I : IV S) : f_M_queue v l d i w = some (aQue S v l d i, w) := by
  have hN := gN I.1.1
  have yes : qok S v l d → f_M_queue_34 v l d i w = some (aQue S v l d i, w) := by
    intro h
    have hk := qk_in h
    obtain ⟨hv, hd, hl, _⟩ := h
    have h' : qok S v l d := ⟨hv, hd, hl, by assumption⟩
    unfold aQue
    rw [qokb_t h', ← m_q49 hR I hv.1 (by omega) hk.1 hk.2]
    unfold f_M_queue_34 qk
    by_cases e : l = 0
    · rw [if_pos e, if_pos e]
    · rw [if_neg e, if_neg e]
      by_cases e1 : l = 1
      · rw [if_pos e1, w32_ok (z := 4 * l) (by omega) (by omega), w32_ok (z := 4 * l - 3) (by omega) (by omega), w32_ok (by omega) (by omega), show 4 * l - 3 + d = 1 + d by omega]
      · rw [if_neg e1, w32_ok (z := 4 * l) (by omega) (by omega), w32_ok (z := 4 * l - 3) (by omega) (by omega), w32_ok (by omega) (by omega), show 4 * l - 3 + d = 5 + d by omega]
  have no : ¬ qok S v l d → some ((-1 : Int), w) = some (aQue S v l d i, w) := by
    intro h
    unfold aQue
    rw [qokb_f h]
  unfold f_M_queue
  rw [qbd (mg_isNode hR.wh I.1.1)]
  dsimp only
  rw [bi_if]
  by_cases c1 : 0 ≤ v ∧ v < S 1 3 * S 1 4
  · rw [if_pos c1, qbd m_isIn]
    dsimp only
    rw [bi_if]
    by_cases c3 : 0 ≤ l ∧ l ≤ 2
    · rw [if_pos c3, qbd m_isDir]
      dsimp only
      rw [bi_if]
      by_cases c2 : 0 ≤ d ∧ d ≤ 3
      · rw [if_pos c2]
        by_cases c4 : l = 0
        · rw [if_pos c4]
          by_cases c5 : d = 0
          · rw [if_pos c5]
            exact yes ⟨c1, c2, c3, fun _ => c5⟩
          · rw [if_neg c5]
            exact no (fun z => c5 (z.2.2.2 c4))
        · rw [if_neg c4]
          exact yes ⟨c1, c2, c3, fun z => absurd z c4⟩
      · rw [if_neg c2]
        exact no (fun z => c2 z.2.1)
    · rw [if_neg c3]
      exact no (fun z => c3 z.2.2.1)
  · rw [if_neg c1]
    exact no (fun z => c1 z.1)
theorem x_move (hx : NX 2 w S) (I : IV S) : f_X_move i x w = some (aMvX S i x, w) := by
  have hm := I.1.2.2.2.2.2.2.2
  have e1 : w 24 1 = S 22 1 := rx_22_1 hx.1
  unfold f_X_move aMvX
  rw [qbd x_within]
  dsimp only
  rw [bi_if]
  by_cases c1 : 0 ≤ x ∧ x ≤ 4
  · rw [if_pos c1, if_pos c1]
    by_cases c2 : i = -1
    · rw [if_pos c2, if_pos c2, e1]
    · rw [if_neg c2, if_neg c2]
      refine qpe ?_
      unfold f_V_fact
      rw [e1]
      by_cases c3 : i < 0
      · rw [if_pos c3, if_neg (fun z => by omega)]
      · rw [if_neg c3]
        by_cases c4 : i < S 22 1
        · rw [if_pos c4, if_pos ⟨by omega, c4⟩, qbd x_within]
          dsimp only
          rw [bi_if, if_pos c1, w32_ok (z := i * 5) (by omega) (by omega), w32_ok (by omega) (by omega), qld_ok (by omega) (by omega), show w (24 + 1) (i * 5 + x) = S 23 (i * 5 + x) from rx_23 hx.1 (by omega) (by omega) hm.2]
        · rw [if_neg c4, if_neg (fun z => c4 z.2)]
  · rw [if_neg c1, if_neg c1]
theorem m_move (hR : RM w S) (I : IV S) : f_M_move i x w = some (aMvM S i x, w) := by
  have hm := I.1.2.2.2.2.2.2.2
  unfold f_M_move aMvM
  by_cases c2 : i = -1
  · rw [if_pos c2, if_pos c2, qld_ok (by decide) (by decide), rm_22_1 hR]
  · rw [if_neg c2, if_neg c2, qld_ok (by decide) (by decide), rm_22_1 hR, w32_ok (z := S 22 1 - 1) (by omega) (by omega), qbd m_isIn]
    dsimp only
    rw [bi_if]
    by_cases c3 : 0 ≤ i ∧ i ≤ S 22 1 - 1
    · rw [if_pos c3, qbd m_isIn]
      dsimp only
      rw [bi_if]
      by_cases c1 : 0 ≤ x ∧ x ≤ 4
      · rw [if_pos c1, if_pos ⟨⟨c3.1, by omega⟩, c1⟩, w32_ok (z := 5 * i) (by omega) (by omega), w32_ok (z := 5514 + 5 * i) (by omega) (by omega), w32_ok (by omega) (by omega), qld_ok (by omega) (by omega), rm_23 hR (n := i * 5 + x) (by omega) (by omega) hm.2 (by omega)]
      · rw [if_neg c1, if_neg (fun z => c1 z.2)]
    · rw [if_neg c3, if_neg (fun z => c3 ⟨z.1.1, by omega⟩)]
end Q3
