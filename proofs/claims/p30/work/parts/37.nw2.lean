/-! packets and moves -/
/-- a new packet -/
def sap (S : qMem) (a b c : Int) : qMem := qud (qud (qud (qud (qud (qud (qud (qud (qud (qud (qud (qud (qud (qud S 5 13 (S 5 13 + 1)) 6 (S 5 13) a) 7 (S 5 13) b) 8 (S 5 13) c) 9 (S 5 13) 0) 10 (S 5 13) a) 11 (S 5 13) (-1)) 12 (S 5 13) 0) 13 (S 5 13) (-1)) 14 (S 5 13) 0) 15 (S 5 13) 0) 16 (S 5 13) (-1)) 17 (S 5 13) (-1)) 18 (S 5 13 * 5) a
theorem qd_13 {S : qMem} {v : Int} : qud S 5 13 v 5 14 = S 5 14 := qud_ni (by decide)
section AP
variable {S : qMem} {a b c n : Int} {f : Nat}
theorem sap_lo (h : f < 5 ∨ 18 < f) : sap S a b c f = S f := by
  funext n
  unfold sap
  repeat rw [qud_nk (by omega)]
theorem sap_c : sap S a b c 5 13 = S 5 13 + 1 := by
  unfold sap
  simp (disch := decide) only [qud_nk, qud_s]
theorem sap_d : sap S a b c 5 14 = S 5 14 := by
  unfold sap
  simp (disch := decide) only [qud_nk, qd_13]
theorem sap_6 : sap S a b c 6 n = if n = S 5 13 then a else S 6 n := by
  unfold sap
  simp (disch := decide) only [qud_nk, qud_if]
theorem sap_7 : sap S a b c 7 n = if n = S 5 13 then b else S 7 n := by
  unfold sap
  simp (disch := decide) only [qud_nk, qud_if]
theorem sap_8 : sap S a b c 8 n = if n = S 5 13 then c else S 8 n := by
  unfold sap
  simp (disch := decide) only [qud_nk, qud_if]
theorem sap_9 : sap S a b c 9 n = if n = S 5 13 then 0 else S 9 n := by
  unfold sap
  simp (disch := decide) only [qud_nk, qud_if]
theorem sap_10 : sap S a b c 10 n = if n = S 5 13 then a else S 10 n := by
  unfold sap
  simp (disch := decide) only [qud_nk, qud_if]
theorem sap_11 : sap S a b c 11 n = if n = S 5 13 then (-1) else S 11 n := by
  unfold sap
  simp (disch := decide) only [qud_nk, qud_if]
theorem sap_12 : sap S a b c 12 n = if n = S 5 13 then 0 else S 12 n := by
  unfold sap
  simp (disch := decide) only [qud_nk, qud_if]
theorem sap_13 : sap S a b c 13 n = if n = S 5 13 then (-1) else S 13 n := by
  unfold sap
  simp (disch := decide) only [qud_nk, qud_if]
theorem sap_14 : sap S a b c 14 n = if n = S 5 13 then 0 else S 14 n := by
  unfold sap
  simp (disch := decide) only [qud_nk, qud_if]
theorem sap_15 : sap S a b c 15 n = if n = S 5 13 then 0 else S 15 n := by
  unfold sap
  simp (disch := decide) only [qud_nk, qud_if]
theorem sap_16 : sap S a b c 16 n = if n = S 5 13 then (-1) else S 16 n := by
  unfold sap
  simp (disch := decide) only [qud_nk, qud_if]
theorem sap_17 : sap S a b c 17 n = if n = S 5 13 then (-1) else S 17 n := by
  unfold sap
  simp (disch := decide) only [qud_nk, qud_if]
theorem sap_18 : sap S a b c 18 n = if n = S 5 13 * 5 then a else S 18 n := by
  unfold sap
  simp (disch := decide) only [qud_nk, qud_if]
theorem sap_lv (h : lv (sap S a b c) f n) : lv S f n ∨ (f = 5 ∧ n = 13) ∨ (6 ≤ f ∧ f ≤ 17 ∧ n = S 5 13) ∨ (f = 18 ∧ n = S 5 13 * 5) := by
  obtain ⟨l0, l1, l2, l3, l4, l5⟩ := h
  rw [sap_c] at l1 l2
  rw [sap_12] at l2
  rw [sap_lo (by decide)] at l3 l4 l5
  by_cases e1 : 6 ≤ f ∧ f ≤ 17 ∧ n = S 5 13
  · exact Or.inr (Or.inr (Or.inl e1))
  · by_cases e2 : f = 18 ∧ n / 5 = S 5 13
    · have := l2 e2.1
      rw [if_pos e2.2] at this
      exact Or.inr (Or.inr (Or.inr ⟨e2.1, by omega⟩))
    · refine Or.inl ⟨l0, fun a b => ?_, fun hf => ?_, l3, l4, l5⟩
      · have := l1 a b
        by_cases e3 : n = S 5 13
        · exact absurd ⟨a, b, e3⟩ e1
        · omega
      · have := l2 hf
        rw [if_neg (fun z => e2 ⟨hf, z⟩)] at this
        have : n / 5 ≠ S 5 13 := fun z => e2 ⟨hf, z⟩
        omega
end AP
/-- the ghosts -/
theorem RX.gh {o : Nat} {w S : qMem} {n v : Int} (h : RX o w S) : RX o w (qud S 35 n v) := by
  intro f' n' hf hv
  rw [qud_nk (by omega)]
  exact h f' n' hf ((lv_qud (by decide) (fun h => absurd h (by decide)) (by decide) (by decide) (by decide)).mp hv)
theorem NX.v {o : Nat} {w S : qMem} {f : Nat} {n v : Int} (h : NX o w S) (hf : f < 35 ∧ 5 < f ∧ f ≠ 12 ∧ f ≠ 20 ∧ f ≠ 22) : NX o (qud w (o + f) n v) (qud S f n v) := h.u (by omega) (by omega) (by omega) (by omega) (by omega) (by omega)
theorem NX.gh {o : Nat} {w S : qMem} {n v : Int} (h : NX o w S) : NX o w (qud S 35 n v) := ⟨h.1.gh, by rw [qud_nk (by decide), qud_nk (by decide)]; exact h.2⟩
/-- a hop is noted -/
def shp (S : qMem) (p t d l c : Int) : qMem := qud (qud (qud (qud (qud (qud (if S 9 p = 0 then qud S 16 p c else S) 9 p l) 10 p t) 11 p d) 17 p c) 12 p (S 12 p + 1)) 18 (p * 5 + (S 12 p + 1)) t
def sltL (S : qMem) (p : Int) : Nat → Int → Bool
  | 0, _ => false
  | n + 1, i => if S 6 i = S 6 p then if S 7 i = S 7 p then if S 9 i = 3 then true else sltL S p n (i + 1) else sltL S p n (i + 1) else sltL S p n (i + 1)
def slt (S : qMem) (p : Int) : Bool := sltL S p (S 5 13 - (p + 1)).toNat (p + 1)
/-- a delivery is noted -/
def sdv (S : qMem) (p c : Int) : qMem := qud (qud (qud (qud (qud (qud S 15 p (bi (slt S p))) 9 p 3) 13 p c) 5 14 (w32 (S 5 14 + 1))) 35 0 (w32 (S 35 0 + (c - S 8 p)))) 35 2 (w32 (S 35 2 + bi (slt S p)))
/-- a move is noted -/
def smv (S : qMem) (p v d l h : Int) : qMem := qud (qud (qud (qud (qud (qud S 23 (S 22 1 * 5) p) 23 (S 22 1 * 5 + 1) v) 23 (S 22 1 * 5 + 2) d) 23 (S 22 1 * 5 + 3) l) 23 (S 22 1 * 5 + 4) h) 22 1 (S 22 1 + 1)
section NW2
variable {o : Nat} {w S : qMem} {q p v k d a b c t n l h : Int}
theorem n_add (hx : NX o w S) (c0 : 0 ≤ S 5 13) (c1 : S 5 13 < 250) : kT (f_P_add (o + 5) a b c w) (fun r => r.1 = S 5 13 ∧ NX o r.2 (sap S a b c) ∧ FN o w r.2) := by
  unfold f_P_add
  rw [show w (o + 5) 13 = S 5 13 from rx_5_13 hx.1]
  simp (disch := omega) only [w32_ok, qlt_ok, qst_ok]
  refine kT_some ⟨rfl, ⟨?_, ?_⟩, ?_⟩
  · refine ((RXP.of hx.1).u (f := 5).u (f := 6).u (f := 7).u (f := 8).u (f := 9).u (f := 10).u (f := 11).u (f := 12).u (f := 13).u (f := 14).u (f := 15).u (f := 16).u (f := 17).u (f := 18)).fin (fun f n hl => ?_)
    rcases sap_lv hl with e | e | ⟨e1, e2, e3⟩ | e
    · simp only [e, true_or]
    · simp only [e, and_self, true_or, or_true]
    · rcases (by omega : f = 6 ∨ f = 7 ∨ f = 8 ∨ f = 9 ∨ f = 10 ∨ f = 11 ∨ f = 12 ∨ f = 13 ∨ f = 14 ∨ f = 15 ∨ f = 16 ∨ f = 17) with e | e | e | e | e | e | e | e | e | e | e | e <;> simp only [e, e3, and_self, true_or, or_true]
    · simp only [e, and_self, or_true]
  · rw [sap_lo (by decide)]
    refine hx.2.fr (fun k k0 k1 => ?_)
    funext j
    dsimp only
    repeat rw [qud_nk (by omega)]
  · intro k hk
    funext j
    dsimp only
    repeat rw [qud_nk (by omega)]
theorem shp_f {f : Nat} (h1 : f < 9 ∨ 18 < f ∨ (12 < f ∧ f < 16)) : shp S p t d l c f = S f := by
  funext n
  unfold shp
  rw [qud_nk (by omega), qud_nk (by omega), qud_nk (by omega), qud_nk (by omega), qud_nk (by omega), qud_nk (by omega)]
  split
  · rw [qud_nk (by omega)]
  · rfl
theorem shp_12 : shp S p t d l c 12 n = if n = p then S 12 p + 1 else S 12 n := by
  unfold shp
  rw [qud_nk (by omega), qud_if, qud_nk (by omega), qud_nk (by omega), qud_nk (by omega), qud_nk (by omega)]
  split
  · rfl
  · split
    · rw [qud_nk (by omega)]
    · rfl
theorem shp_lv {f : Nat} (hl : lv (shp S p t d l c) f n) : lv S f n ∨ (f = 18 ∧ n = p * 5 + (S 12 p + 1)) := by
  obtain ⟨l0, l1, l2, l3, l4, l5⟩ := hl
  rw [shp_f (by decide)] at l1 l3 l4 l5
  rw [shp_f (by decide), shp_12] at l2
  by_cases e2 : f = 18 ∧ n = p * 5 + (S 12 p + 1)
  · exact Or.inr e2
  · refine Or.inl ⟨l0, l1, fun hf => ?_, l3, l4, l5⟩
    have := l2 hf
    by_cases e3 : n / 5 = p
    · rw [if_pos e3] at this
      rw [e3]
      refine ⟨this.1, ?_⟩
      have : ¬ n = p * 5 + (S 12 p + 1) := fun z => e2 ⟨hf, z⟩
      omega
    · rw [if_neg e3] at this
      exact this
theorem n_noteHop (hx : NX o w S) (p0 : 0 ≤ p) (p1 : p < S 5 13) (c1 : S 5 13 ≤ 250) (h0 : 0 ≤ S 12 p) (h1 : S 12 p ≤ 3) : kT (f_P_noteHop (o + 5) p t d l c w) (fun w' => NX o w' (shp S p t d l c) ∧ FN o w w') := by
  have main : ∀ w1 S1, RXP (lv S) o w1 S1 → S1 12 p = S 12 p → FN o w w1 → kT (f_P_noteHop_17 (o + 5) p t d l c w1) (fun w' => RXP (fun f n => lv S f n ∨ (f = 18 ∧ n = p * 5 + (S 12 p + 1))) o w' (qud (qud (qud (qud (qud (qud S1 9 p l) 10 p t) 11 p d) 17 p c) 12 p (S 12 p + 1)) 18 (p * 5 + (S 12 p + 1)) t) ∧ FN o w w') := by
    intro w1 S1 hr e12 hf
    have e1 : w1 (o + 12) p = S 12 p := by rw [← e12]; exact hr 12 p (by decide) (lv_12 p0 p1 c1)
    unfold f_P_noteHop_17
    rw [qst_ok p0 (by omega), qst_ok p0 (by omega), qst_ok p0 (by omega), qst_ok p0 (by omega), qld_ok p0 (by omega), qud_nk (by omega), qud_nk (by omega), qud_nk (by omega), qud_nk (by omega), show w1 (o + 5 + 7) p = S 12 p from e1, w32_ok (by omega) (by omega), qst_ok p0 (by omega), qld_ok p0 (by omega), qud_s, if_pos (by omega), qld_ok p0 (by omega), qud_s]
    simp (disch := omega) only [w32_ok, qst_ok]
    refine kT_some ⟨?_, (((((hf.q (f := 9) (by decide) (by decide)).q (f := 10) (by decide) (by decide)).q (f := 11) (by decide) (by decide)).q (f := 17) (by decide) (by decide)).q (f := 12) (by decide) (by decide)).q (f := 18) (by decide) (by decide)⟩
    have := hr.u (f := 9) (n := p) (v := l) |>.u (f := 10) (n := p) (v := t) |>.u (f := 11) (n := p) (v := d) |>.u (f := 17) (n := p) (v := c) |>.u (f := 12) (n := p) (v := S 12 p + 1) |>.u (f := 18) (n := p * 5 + (S 12 p + 1)) (v := t)
    intro f n hf hp
    refine this f n hf ?_
    rcases hp with hp | hp
    · simp only [hp, true_or]
    · exact Or.inr hp
  unfold f_P_noteHop
  rw [qld_ok p0 (by omega), show w (o + 5 + 4) p = S 9 p from rx_9 hx.1 p0 p1 c1]
  have fin : ∀ w', RXP (fun f n => lv S f n ∨ (f = 18 ∧ n = p * 5 + (S 12 p + 1))) o w' (shp S p t d l c) → FN o w w' → NX o w' (shp S p t d l c) ∧ FN o w w' := by
    intro w' h1 h2
    refine ⟨⟨h1.fin (fun f n hl => shp_lv hl), ?_⟩, h2⟩
    rw [shp_f (by decide)]
    exact hx.2.fn h2
  by_cases e : S 9 p = 0
  · rw [if_pos e, qst_ok p0 (by omega)]
    have hr : RXP (lv S) o (qud w (o + 16) p c) (qud S 16 p c) := by
      intro f n hf hv
      exact (RXP.of hx.1).u (f := 16) (n := p) (v := c) f n hf (Or.inl hv)
    refine kT_mono (main (qud w (o + 16) p c) (qud S 16 p c) hr (qud_nk (by decide)) (FN.rfl'.q (by decide) (by decide))) (fun w' hw => fin w' ?_ hw.2)
    unfold shp
    rw [if_pos e]
    exact hw.1
  · rw [if_neg e]
    refine kT_mono (main w S (RXP.of hx.1) rfl FN.rfl') (fun w' hw => fin w' ?_ hw.2)
    unfold shp
    rw [if_neg e]
    exact hw.1
theorem n_later (hx : RX o w S) (p0 : 0 ≤ p) (p1 : p < S 5 13) (c1 : S 5 13 ≤ 250) : ∀ (m j : Nat) (i : Int), 0 ≤ i → (S 5 13 - i).toNat = j → j < m → f_P_laterIsDelivered_4 (o + 5) m p i w = some (bi (sltL S p j i), w) := by
  intro m
  induction m with
  | zero => intro j i _ _ h; omega
  | succ m ih =>
    intro j i i0 hj hm
    rw [f_P_laterIsDelivered_4, show w (o + 5) 13 = S 5 13 from rx_5_13 hx]
    by_cases e : i < S 5 13
    · obtain ⟨j', rfl⟩ : ∃ j', j = j' + 1 := ⟨j - 1, by omega⟩
      have IH := ih j' (i + 1) (by omega) (by omega) (by omega)
      rw [if_pos e, qld_ok p0 (by omega), qld_ok p0 (by omega), show w (o + 5 + 1) p = S 6 p from rx_6 hx p0 p1 c1, show w (o + 5 + 2) p = S 7 p from rx_7 hx p0 p1 c1, w32_ok (by omega) (by omega)]
      unfold f_P_isBetween f_P_isDelivered
      rw [qld_ok i0 (by omega), qld_ok i0 (by omega), show w (o + 5 + 1) i = S 6 i from rx_6 hx i0 e c1, show w (o + 5 + 2) i = S 7 i from rx_7 hx i0 e c1, sltL]
      by_cases e1 : S 6 i = S 6 p
      · rw [if_pos e1, if_pos e1]
        by_cases e2 : S 7 i = S 7 p
        · rw [if_pos e2, if_pos e2]
          simp only [Option.bind_some, Int.reduceEq, reduceIte]
          rw [qld_ok i0 (by omega), show w (o + 5 + 4) i = S 9 i from rx_9 hx i0 e c1]
          by_cases e3 : S 9 i = 3
          · rw [if_pos e3, if_pos e3]
            rfl
          · rw [if_neg e3, if_neg e3]
            simp only [Option.bind_some, reduceIte]
            exact IH
        · rw [if_neg e2, if_neg e2]
          simp only [Option.bind_some, reduceIte]
          exact IH
      · rw [if_neg e1, if_neg e1]
        simp only [Option.bind_some, reduceIte]
        exact IH
    · have : j = 0 := by omega
      subst this
      rw [if_neg e]
      rfl
theorem n_noteDelivery (hx : NX o w S) (p0 : 0 ≤ p) (p1 : p < S 5 13) (c1 : S 5 13 ≤ 250) : kT (f_P_noteDelivery (o + 5) p c w) (fun w' => NX o w' (sdv S p c) ∧ FN o w w') := by
  have main : ∀ b : Int, kT (f_P_noteDelivery_18 (o + 5) p b p c w) (fun w' => NX o w' (qud (qud (qud (qud S 15 p b) 9 p 3) 13 p c) 5 14 (w32 (S 5 14 + 1))) ∧ FN o w w') := by
    intro b
    unfold f_P_noteDelivery_18
    rw [qst_ok p0 (by omega), qst_ok p0 (by omega), qst_ok p0 (by omega), qlt_ok, qud_nk (by omega), qud_nk (by omega), qud_nk (by omega), show w (o + 5) 14 = S 5 14 from rx_5_14 hx.1]
    refine kT_some ⟨?_, (((FN.rfl'.q (f := 15) (by decide) (by decide)).q (f := 9) (by decide) (by decide)).q (f := 13) (by decide) (by decide)).q (f := 5) (by decide) (by decide)⟩
    exact (((hx.v (f := 15) (by decide)).v (f := 9) (by decide)).v (f := 13) (by decide)).u (f := 5) (by decide) (by decide) (by decide) (by decide) (by decide) (by decide)
  have hl := n_later hx.1 p0 p1 c1 qFU (S 5 13 - (p + 1)).toNat (p + 1) (by omega) rfl (by unfold qFU; omega)
  unfold f_P_noteDelivery f_P_laterIsDelivered
  rw [w32_ok (by omega) (by omega), hl]
  simp only [Option.bind_some]
  rw [show sltL S p (S 5 13 - (p + 1)).toNat (p + 1) = slt S p from rfl]
  unfold sdv
  cases slt S p with
  | false => exact kT_mono (main 0) (fun w' hw => ⟨hw.1.gh.gh, hw.2⟩)
  | true => exact kT_mono (main 1) (fun w' hw => ⟨hw.1.gh.gh, hw.2⟩)
theorem smv_f {f : Nat} (h1 : f ≠ 22) (h2 : f ≠ 23) : smv S p v d l h f = S f := by
  funext n
  unfold smv
  rw [qud_nk h1, qud_nk h2, qud_nk h2, qud_nk h2, qud_nk h2, qud_nk h2]
theorem smv_22 : smv S p v d l h 22 1 = S 22 1 + 1 := qud_s
theorem n_vadd (hx : NX o w S) (c0 : 0 ≤ S 22 1) (c1 : S 22 1 < 64) : kT (f_V_add (o + 22) p v d l h w) (fun w' => NX o w' (smv S p v d l h) ∧ FN o w w') := by
  unfold f_V_add
  rw [show w (o + 22) 1 = S 22 1 from rx_22_1 hx.1, if_pos c1]
  simp (disch := omega) only [w32_ok, qst_ok]
  rw [qlt_ok, qud_nk (by omega), qud_nk (by omega), qud_nk (by omega), qud_nk (by omega), qud_nk (by omega), show w (o + 22) 1 = S 22 1 from rx_22_1 hx.1, w32_ok (by omega) (by omega)]
  refine kT_some ⟨⟨?_, ?_⟩, (((((FN.rfl'.q (f := 23) (by decide) (by decide)).q (f := 23) (by decide) (by decide)).q (f := 23) (by decide) (by decide)).q (f := 23) (by decide) (by decide)).q (f := 23) (by decide) (by decide)).q (f := 22) (by decide) (by decide)⟩
  · refine RXP.fin (S := smv S p v d l h) ((RXP.of hx.1).u (f := 23).u (f := 23).u (f := 23).u (f := 23).u (f := 23).u (f := 22)) (fun f n hl => ?_)
    obtain ⟨l0, l1, l2, l3, l4, l5⟩ := hl
    rw [smv_f (by decide) (by decide)] at l1 l3 l5
    rw [smv_f (by decide) (by decide), smv_f (by decide) (by decide)] at l2
    rw [smv_22] at l4
    by_cases e : f = 23 ∧ S 22 1 * 5 ≤ n
    · have := l4 e.1
      rcases (by omega : n = S 22 1 * 5 ∨ n = S 22 1 * 5 + 1 ∨ n = S 22 1 * 5 + 2 ∨ n = S 22 1 * 5 + 3 ∨ n = S 22 1 * 5 + 4) with q | q | q | q | q <;> simp only [e.1, q, and_self, true_or, or_true]
    · have : lv S f n := ⟨l0, l1, l2, l3, fun hf => by have : ¬ S 22 1 * 5 ≤ n := fun z => e ⟨hf, z⟩
                                                       omega, l5⟩
      simp only [this, true_or]
  · rw [smv_f (by decide) (by decide)]
    refine hx.2.fr (fun k k0 k1 => ?_)
    funext j
    repeat rw [qud_nk (by omega)]
end NW2
