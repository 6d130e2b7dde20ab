/-! what a net's methods write: queues, packets, moves -/
def RXP (P : Nat → Int → Prop) (o : Nat) (w S : qMem) : Prop := ∀ (f : Nat) (n : Int), f < 35 → P f n → w (o + f) n = S f n
section RP
variable {o : Nat} {w w' S : qMem} {f : Nat} {n v : Int} {P Q : Nat → Int → Prop}
theorem RXP.of (h : RX o w S) : RXP (lv S) o w S := h
theorem RXP.u (h : RXP P o w S) : RXP (fun f' n' => P f' n' ∨ (f' = f ∧ n' = n)) o (qud w (o + f) n v) (qud S f n v) := by
  intro f' n' hf hv
  by_cases e : f' = f ∧ n' = n
  · rw [e.1, e.2, qud_s, qud_s]
  · rw [show qud S f n v f' n' = S f' n' from if_neg e, show qud w (o + f) n v (o + f') n' = w (o + f') n' from if_neg (fun q => e ⟨by have := q.1; omega, q.2⟩)]
    exact h f' n' hf (hv.resolve_right e)
theorem RXP.fin (h : RXP P o w S) (hl : ∀ f n, lv S f n → P f n) : RX o w S := fun f n hf hv => h f n hf (hl f n hv)
end RP
/-- the first one of a queue goes -/
def sdr (S : qMem) (q : Int) : qMem := if S 20 q ≤ 0 then S else fun f n => if f = 20 ∧ n = q then S 20 q - 1 else if f = 21 ∧ q * 6 ≤ n ∧ n < q * 6 + (S 20 q - 1) then S 21 (n + 1) else S f n
/-- one comes to the end of a queue -/
def spu (S : qMem) (q p : Int) : qMem := if S 20 q < 6 then qud (qud S 21 (q * 6 + S 20 q) p) 20 q (S 20 q + 1) else S
section SD
variable {S : qMem} {q p n : Int} {f : Nat}
theorem sdr_20 (h : 0 < S 20 q) : sdr S q 20 n = if n = q then S 20 q - 1 else S 20 n := by
  unfold sdr
  rw [if_neg (by omega)]
  by_cases e : n = q
  · rw [if_pos ⟨rfl, e⟩, if_pos e]
  · rw [if_neg (fun z => e z.2), if_neg (fun z => absurd z.1 (by decide)), if_neg e]
theorem sdr_21 (h : 0 < S 20 q) : sdr S q 21 n = if q * 6 ≤ n ∧ n < q * 6 + (S 20 q - 1) then S 21 (n + 1) else S 21 n := by
  unfold sdr
  rw [if_neg (by omega), if_neg (fun z => absurd z.1 (by decide))]
  by_cases e : q * 6 ≤ n ∧ n < q * 6 + (S 20 q - 1)
  · rw [if_pos ⟨rfl, e⟩, if_pos e]
  · rw [if_neg (fun z => e z.2), if_neg e]
theorem sdr_f (h1 : f ≠ 20) (h2 : f ≠ 21) : sdr S q f = S f := by
  funext n
  unfold sdr
  split
  · rfl
  · dsimp only
    rw [if_neg (fun z => h1 z.1), if_neg (fun z => h2 z.1)]
theorem spu_20 (h : S 20 q < 6) : spu S q p 20 n = if n = q then S 20 q + 1 else S 20 n := by
  unfold spu
  rw [if_pos h, qud_if, qud_nk (by decide)]
theorem spu_21 (h : S 20 q < 6) : spu S q p 21 n = if n = q * 6 + S 20 q then p else S 21 n := by
  unfold spu
  rw [if_pos h, qud_nk (by decide), qud_if]
theorem spu_f (h1 : f ≠ 20) (h2 : f ≠ 21) : spu S q p f = S f := by
  funext n
  unfold spu
  split
  · rw [qud_nk h1, qud_nk h2]
  · rfl
end SD
section NW1
variable {o : Nat} {w S : qMem} {q p v k d a b c t n : Int}
theorem n_drop_loop (q0 : 0 ≤ q) (q1 : q < 144) (s0 : 0 ≤ n) (s1 : n ≤ 5) (hw : w (o + 20) q = n) : ∃ w', (∀ k j, w' k j = if k = o + 21 ∧ q * 6 ≤ j ∧ j < q * 6 + n then w (o + 21) (j + 1) else w k j) ∧ f_Q_dropFirst_26 (o + 19) qFU q (q * 6) 0 w = some w' := by
  have := k_loop (σ := qMem) (ρ := qMem) n (fun m i s => f_Q_dropFirst_26 (o + 19) m q (q * 6) i s) some
    (fun i s => 0 ≤ i ∧ i ≤ n ∧ ∀ k j, s k j = if k = o + 21 ∧ q * 6 ≤ j ∧ j < q * 6 + i then w (o + 21) (j + 1) else w k j)
    (by
      intro m i s hp hi
      obtain ⟨i0, i1, hs⟩ := hp
      have h20 : s (o + 20) q = n := by
        rw [hs, if_neg (fun z => by have := z.1; omega), hw]
      refine ⟨qud s (o + 21) (q * 6 + i) (s (o + 21) (q * 6 + i + 1)), ⟨by omega, by omega, ?_⟩, ?_⟩
      · intro k j
        by_cases e : k = o + 21 ∧ j = q * 6 + i
        · rw [e.1, e.2, qud_s, hs, if_neg (by omega), if_pos (by omega)]
        · rw [show qud s (o + 21) (q * 6 + i) (s (o + 21) (q * 6 + i + 1)) k j = s k j from if_neg e, hs]
          by_cases e2 : k = o + 21 ∧ q * 6 ≤ j ∧ j < q * 6 + i
          · rw [if_pos e2, if_pos (by omega)]
          · rw [if_neg e2, if_neg (by omega)]
      · show f_Q_dropFirst_26 (o + 19) (m + 1) q (q * 6) i s = _
        rw [f_Q_dropFirst_26, qld_ok q0 q1, show s (o + 19 + 1) q = n from h20, if_pos hi]
        simp (disch := omega) only [w32_ok]
        rw [qld_ok (by omega) (by omega), qst_ok (by omega) (by omega)])
    (by
      intro m s hp
      obtain ⟨i0, i1, hs⟩ := hp
      show f_Q_dropFirst_26 (o + 19) (m + 1) q (q * 6) n s = _
      have h20 : s (o + 20) q = n := by
        rw [hs, if_neg (fun z => by have := z.1; omega), hw]
      rw [f_Q_dropFirst_26, qld_ok q0 q1, show s (o + 19 + 1) q = n from h20, if_neg (by omega)])
    qFU 0 w ⟨by omega, by omega, fun k j => by rw [if_neg (by omega)]⟩ (by omega) (qFU_gt (by omega))
  obtain ⟨w', ⟨-, -, h⟩, e⟩ := this
  exact ⟨w', h, e⟩
theorem n_dropFirst (h : NX o w S) (q0 : 0 ≤ q) (q1 : q < 144) (s0 : 0 ≤ S 20 q) (s1 : S 20 q ≤ 6) : kT (f_Q_dropFirst (o + 19) q w) (fun w' => NX o w' (sdr S q) ∧ FN o w w') := by
  have h20 : w (o + 20) q = S 20 q := rx_20 h.1 q0 q1
  unfold f_Q_dropFirst
  rw [qld_ok q0 q1, show w (o + 19 + 1) q = S 20 q from h20]
  by_cases e : S 20 q ≤ 0
  · rw [if_pos e]
    refine kT_some ⟨?_, FN.rfl'⟩
    unfold sdr
    rw [if_pos e]
    exact h
  · rw [if_neg e, qld_ok q0 q1, qst_ok q0 q1, show w (o + 19 + 1) q = S 20 q from h20]
    simp (disch := omega) only [w32_ok]
    obtain ⟨w', hw, e2⟩ := n_drop_loop (o := o) (w := qud w (o + 20) q (S 20 q - 1)) q0 q1 (n := S 20 q - 1) (by omega) (by omega) qud_s
    rw [show o + 19 + 1 = o + 20 from rfl, e2]
    refine kT_some ⟨⟨?_, ?_⟩, ?_⟩
    · intro f n hf hl
      rw [hw]
      by_cases e3 : o + f = o + 21 ∧ q * 6 ≤ n ∧ n < q * 6 + (S 20 q - 1)
      · have hf21 : f = 21 := by omega
        subst hf21
        rw [if_pos e3, sdr_21 (by omega), if_pos e3.2, qud_nk (by omega)]
        exact rx_21 h.1 (by omega) (by omega) (by rw [show (n + 1) / 6 = q by omega]; omega)
      · rw [if_neg e3]
        by_cases e4 : f = 20 ∧ n = q
        · rw [e4.1, e4.2, qud_s, sdr_20 (by omega), if_pos rfl]
        · rw [show qud w (o + 20) q (S 20 q - 1) (o + f) n = w (o + f) n from if_neg (fun z => e4 ⟨by have := z.1; omega, z.2⟩)]
          have e5 : sdr S q f n = S f n := by
            unfold sdr
            rw [if_neg e, if_neg e4, if_neg (fun z => e3 ⟨by have := z.1; omega, z.2⟩)]
          rw [e5]
          refine h.1 f n hf ?_
          obtain ⟨l0, l1, l2, l3, l4, l5⟩ := hl
          rw [sdr_f (by decide) (by decide)] at l1 l4 l5
          rw [sdr_f (f := 5) (by decide) (by decide), sdr_f (f := 12) (by decide) (by decide)] at l2
          refine ⟨l0, l1, l2, fun hf21 => ?_, l4, l5⟩
          have := l3 hf21
          rw [sdr_20 (by omega)] at this
          by_cases e6 : n / 6 = q
          · rw [if_pos e6] at this
            rw [e6]; omega
          · rw [if_neg e6] at this
            exact this
    · rw [sdr_f (by decide) (by decide)]
      refine h.2.fr (fun k k0 k1 => ?_)
      funext j
      rw [hw, if_neg (by omega), qud_nk (by omega)]
    · intro k hk
      funext j
      rw [hw, if_neg (by omega), qud_nk (by omega)]
theorem n_put (h : NX o w S) (q0 : 0 ≤ q) (q1 : q < 144) (s0 : 0 ≤ S 20 q) : kT (f_Q_put (o + 19) q p w) (fun w' => NX o w' (spu S q p) ∧ FN o w w') := by
  have h20 : w (o + 20) q = S 20 q := rx_20 h.1 q0 q1
  unfold f_Q_put
  rw [qld_ok q0 q1, show w (o + 19 + 1) q = S 20 q from h20]
  by_cases e : S 20 q < 6
  · rw [if_pos e, qld_ok q0 q1, show w (o + 19 + 1) q = S 20 q from h20]
    simp (disch := omega) only [w32_ok]
    rw [qst_ok (by omega) (by omega), qld_ok q0 q1, qst_ok q0 q1, qud_nk (by omega), show w (o + 19 + 1) q = S 20 q from h20, w32_ok (by omega) (by omega)]
    unfold spu
    rw [if_pos e]
    refine kT_some ⟨⟨((RXP.of h.1).u.u).fin (fun f n hl => ?_), ?_⟩, (FN.rfl'.q (f := 21) (by decide) (by decide)).q (f := 20) (by decide) (by decide)⟩
    · obtain ⟨l0, l1, l2, l3, l4, l5⟩ := hl
      simp only [qud_nk (show (5 : Nat) ≠ 20 by decide), qud_nk (show (5 : Nat) ≠ 21 by decide), qud_nk (show (1 : Nat) ≠ 20 by decide), qud_nk (show (1 : Nat) ≠ 21 by decide), qud_nk (show (22 : Nat) ≠ 20 by decide), qud_nk (show (22 : Nat) ≠ 21 by decide), qud_nk (show (12 : Nat) ≠ 20 by decide), qud_nk (show (12 : Nat) ≠ 21 by decide), qud_if, qud_nk (show (20 : Nat) ≠ 21 by decide)] at l1 l2 l3 l4 l5
      by_cases e3 : f = 21 ∧ n = q * 6 + S 20 q
      · exact Or.inl (Or.inr e3)
      · refine Or.inl (Or.inl ⟨l0, l1, l2, fun hf => ?_, l4, l5⟩)
        have := l3 hf
        by_cases e4 : n / 6 = q
        · rw [if_pos e4] at this
          rw [e4]; omega
        · rw [if_neg e4] at this
          exact this
    · rw [qud_nk (by decide), qud_nk (by decide), qud_nk (by decide), qud_nk (by decide)]
      exact (h.2.out (by omega)).out (by omega)
  · rw [if_neg e]
    refine kT_some ⟨?_, FN.rfl'⟩
    unfold spu
    rw [if_neg e]
    exact h
end NW1
