/-! one ring alone (the reference): all states are searched -/
def smN (f : Int → Int) : Nat → Int
  | 0 => 0
  | j + 1 => smN f j + f j
def foN (w : qMem) (k : Int) : Int := if w 96 k = -1 then 0 else 1
def mF (N : Int) (w : qMem) : Prop := (0 ≤ w 88 19 ∧ smN (foN w) 10240 = w 88 19) ∧ (∀ k, 0 ≤ k → k < w 88 19 → (0 ≤ w 97 k ∧ w 97 k < N) ∧ w 96 (w 97 k) ≠ -1) ∧ ∀ s, 0 ≤ s → s < 10240 → w 96 s = -1 ∨ (0 ≤ w 96 s ∧ w 96 s < w 88 19)
def FFi (w w' : qMem) : Prop := ((∀ k : Nat, k ≠ 88 → k ≠ 96 → k ≠ 97 → w' k = w k) ∧ ∀ j, j ≠ 19 → w' 88 j = w 88 j) ∧ w 88 19 ≤ w' 88 19 ∧ ∀ s, w 96 s ≠ -1 → w' 96 s = w 96 s
def FSr (w w' : qMem) : Prop := (∀ k : Nat, k ≠ 88 → k ≠ 95 → k ≠ 96 → k ≠ 97 → k ≠ 98 → k ≠ 101 → w' k = w k) ∧ ∀ j, j ≠ 16 → j ≠ 19 → j ≠ 24 → j ≠ 25 → w' 88 j = w 88 j
section MB
variable {w w' w0 w2 : qMem} {n e g K N k x y l s v b p c : Int} {f f' : Int → Int} {i j : Nat}
theorem smN_co : ∀ j : Nat, (∀ i : Nat, i < j → f i = f' i) → smN f j = smN f' j := by
  intro j
  induction j with
  | zero => intro _; rfl
  | succ j ih =>
    intro hh
    show smN f j + f j = smN f' j + f' j
    rw [ih (fun i hi => hh i (by omega)), hh j (by omega)]
theorem smN_u : ∀ j : Nat, i < j → (∀ k : Int, f' k = if k = i then v else f k) → smN f' j = smN f j - f i + v := by
  intro j
  induction j with
  | zero => intro hi _; omega
  | succ j ih =>
    intro hi hh
    show smN f' j + f' j = smN f j + f j - f i + v
    by_cases z : i = j
    · rw [hh j, if_pos (by omega), smN_co (f := f') (f' := f) j (fun k hk => by rw [hh k, if_neg (by omega)]), z]
      omega
    · rw [ih (by omega) hh, hh j, if_neg (by omega)]
      omega
theorem smN_in {a b : Int} : ∀ j : Nat, (∀ i : Nat, i < j → a ≤ f i ∧ f i ≤ b) → a * j ≤ smN f j ∧ smN f j ≤ b * j := by
  intro j
  induction j with
  | zero => intro _; exact ⟨by show a * 0 ≤ 0; omega, by show (0 : Int) ≤ b * 0; omega⟩
  | succ j ih =>
    intro hh
    have t := ih (fun i hi => hh i (by omega))
    have u := hh j (by omega)
    show a * ((j + 1 : Nat) : Int) ≤ smN f j + f j ∧ smN f j + f j ≤ b * ((j + 1 : Nat) : Int)
    rw [Int.natCast_add, Int.mul_add, Int.mul_add]
    omega
/-- one less than all, when one of them is none -/
theorem smN_lt (i : Nat) (j : Nat) (hi : i < j) (h : ∀ k : Nat, k < j → 0 ≤ f k ∧ f k ≤ 1) (hz : f i = 0) : smN f j < j := by
  have t := smN_u (f := f) (f' := fun k => if k = i then 1 else f k) (v := 1) j hi (fun k => rfl)
  have u := smN_in (f := fun k => if k = i then 1 else f k) (a := 0) (b := 1) j (fun k hk => by
    have := h k hk
    split <;> omega)
  rw [hz] at t
  omega
theorem foN_in : 0 ≤ foN w k ∧ foN w k ≤ 1 := by
  unfold foN
  split <;> omega
theorem mF.le (h : mF N w) : w 88 19 ≤ 10240 := by
  have := smN_in (f := foN w) (a := 0) (b := 1) 10240 (fun _ _ => foN_in)
  have e := h.1.2
  omega
theorem FFi.rfl' : FFi w w := ⟨⟨fun _ _ _ _ => rfl, fun _ _ => rfl⟩, Int.le_refl _, fun _ _ => rfl⟩
theorem FFi.tr (h : FFi w w') (h2 : FFi w' w2) : FFi w w2 := ⟨⟨fun k a b c => (h2.1.1 k a b c).trans (h.1.1 k a b c), fun j a => (h2.1.2 j a).trans (h.1.2 j a)⟩, Int.le_trans h.2.1 h2.2.1, fun s a => by
  have e := h.2.2 s a
  rw [h2.2.2 s (by rw [e]; exact a), e]⟩
theorem FSr.rfl' : FSr w w := ⟨fun _ _ _ _ _ _ _ => rfl, fun _ _ _ _ _ => rfl⟩
theorem FSr.tr (h : FSr w w') (h2 : FSr w' w2) : FSr w w2 := ⟨fun k a b c d e f => (h2.1 k a b c d e f).trans (h.1 k a b c d e f), fun j a b c d => (h2.2 j a b c d).trans (h.2 j a b c d)⟩
theorem FSr.fi (h : FFi w w') : FSr w w' := ⟨fun k a _ b c _ _ => h.1.1 k a b c, fun j _ a _ _ => h.1.2 j a⟩
theorem FSr.af (h : FAf w w') : FSr w w' := ⟨fun k a b _ _ _ c => h.1 k a b c, fun j a _ b c => h.2 j a b c⟩
theorem FSr.op (h : FOp w w') : FSr w w' := FSr.af (FAf.op h)
theorem LM.sr (h : LM n e g K w) (hf : FSr w w') : LM n e g K w' := h.co (fun j a b c d => hf.2 j a d b c)
theorem mF.co (h : mF N w) (e19 : w' 88 19 = w 88 19) (e96 : w' 96 = w 96) (e97 : w' 97 = w 97) : mF N w' := by
  unfold mF foN
  rw [e19, e96, e97]
  exact h
theorem mF.af (h : mF N w) (hf : FAf w w') : mF N w' := h.co (hf.2 19 (by decide) (by decide) (by decide)) (hf.1 96 (by decide) (by decide) (by decide)) (hf.1 97 (by decide) (by decide) (by decide))
theorem me_finds (h : mF N w) (hN : N ≤ 10125) (s0 : 0 ≤ s) (s1 : s < N) (x0 : 0 ≤ x) (x1 : x ≤ w 88 19) : kT (f_M_finds s x w) (fun w' => mF N w' ∧ FFi w w' ∧ w' 96 s ≠ -1) := by
  obtain ⟨⟨h0, hs⟩, ho, hv⟩ := h
  unfold f_M_finds
  rw [qld_ok s0 (by omega)]
  refine kT_if (fun c => ?_) (fun c => kT_some ⟨⟨⟨h0, hs⟩, ho, hv⟩, FFi.rfl', c⟩)
  have hlt : w 88 19 < 10240 := by
    have := smN_lt (f := foN w) s.toNat 10240 (by omega) (fun _ _ => foN_in) (by unfold foN; rw [show ((s.toNat : Nat) : Int) = s by omega, if_pos c])
    omega
  refine kT_st s0 (by omega) ?_
  rw [qud_nk (show (88 : Nat) ≠ 96 by decide)]
  refine kT_st h0 hlt ?_
  rw [qlt_ok, qud_nk (show (88 : Nat) ≠ 97 by decide), qud_nk (show (88 : Nat) ≠ 96 by decide), w32_ok (z := w 88 19 + 1) (by omega) (by omega)]
  have e96 : qud (qud (qud w 96 s x) 97 (w 88 19) s) 88 19 (w 88 19 + 1) 96 = qud w 96 s x 96 := by rw [qud_row (by decide), qud_row (by decide)]
  have e97 : qud (qud (qud w 96 s x) 97 (w 88 19) s) 88 19 (w 88 19 + 1) 97 = qud (qud w 96 s x) 97 (w 88 19) s 97 := qud_row (by decide)
  have e19 : qud (qud (qud w 96 s x) 97 (w 88 19) s) 88 19 (w 88 19 + 1) 88 19 = w 88 19 + 1 := qud_s
  refine kT_some ⟨⟨⟨by rw [e19]; omega, ?_⟩, fun k k0 k1 => ?_, fun t t0 t1 => ?_⟩, ⟨⟨fun k a b c => by rw [qud_row a, qud_row c, qud_row b], fun j a => by rw [qud_ni a, qud_nk (by decide), qud_nk (by decide)]⟩, by rw [e19]; omega, fun t ht => ?_⟩, ?_⟩
  · rw [e19]
    have u := smN_u (f := foN w) (f' := foN (qud (qud (qud w 96 s x) 97 (w 88 19) s) 88 19 (w 88 19 + 1))) (i := s.toNat) (v := 1) 10240 (by omega) (fun k => by
      unfold foN
      rw [e96, qud_if, show ((s.toNat : Nat) : Int) = s by omega]
      by_cases z : k = s
      · rw [if_pos z, if_pos z, if_neg (by omega)]
      · rw [if_neg z, if_neg z])
    have z0 : foN w (s.toNat : Nat) = 0 := by unfold foN; rw [show ((s.toNat : Nat) : Int) = s by omega, if_pos c]
    rw [u, z0, hs]
    omega
  · rw [e19] at k1
    rw [e97, e96, qud_if]
    split
    · refine ⟨⟨s0, s1⟩, ?_⟩
      rw [qud_s]; omega
    · rw [qud_nk (by decide)]
      have := ho k k0 (by omega)
      refine ⟨this.1, ?_⟩
      rw [qud_if]
      split
      · omega
      · exact this.2
  · rw [e96, e19, qud_if]
    split
    · right; omega
    · have := hv t t0 t1
      omega
  · rw [e96, qud_if]
    split
    · rename_i z; rw [z, c] at ht; exact absurd rfl ht
    · rfl
  · rw [e96, qud_s]; omega
theorem me_searches (hk : nek n e g K N) (hM : LM n e g K w) : kT (f_M_searches w) (fun w' => mF N w' ∧ FSr w w') := by
  have hb := hk.b
  have h35 : ∀ (m : Nat) (x : Int) (w' : qMem), 0 ≤ x → x ≤ 10240 → 10240 - x < m → mF N w' → FSr w w' → kT (f_M_searches_35 m x w') (fun w' => mF N w' ∧ FSr w w') := by
    intro m
    induction m with
    | zero => intro x w' _ _ _ _ _; omega
    | succ m ih =>
      intro x w' x0 x1 hm hF hS
      have hle := hF.le
      rw [f_M_searches_35]
      refine kT_if (fun c => ?_) (fun _ => kT_some ⟨hF, hS⟩)
      have ho := hF.2.1 x x0 c
      rw [qld_ok x0 (by omega)]
      generalize hse : w' 97 x = s at ho
      refine kT_bind (me_after hk (hM.sr hS) ho.1.1 ho.1.2) (fun w1 h1 => ?_)
      have hF1 : mF N w1 := hF.af h1.1.2.2
      have hA24 : (0 ≤ w1 88 25 ∧ w1 88 25 ≤ w1 88 24) ∧ w1 88 24 ≤ 24 := h1.2.1
      have e19 : w1 88 19 = w' 88 19 := h1.1.2.2.2 19 (by decide) (by decide) (by decide)
      have e96 : w1 96 = w' 96 := h1.1.2.2.1 96 (by decide) (by decide) (by decide)
      refine kC_loop (σ := Unit) (N := w1 88 24) (L := fun m' y _ u => f_M_searches_57 (f_M_searches_35 m) m' x s y u) (J := fun _ u => mF N u ∧ FFi w1 u) (fun m' y _ u y0 y1 hJ ih' => ?_) (fun m' _ u hJ => ?_) (by omega) (by omega) () ⟨hF1, FFi.rfl'⟩
      · obtain ⟨hFu, hfi⟩ := hJ
        have a24 : u 88 24 = w1 88 24 := hfi.1.2 24 (by decide)
        have a101 : u 101 = w1 101 := hfi.1.1 101 (by decide) (by decide) (by decide)
        have hi := h1.2.2 y y0 y1
        have hst := hfi.2.2 s (by rw [e96]; exact ho.2)
        have hsv := hFu.2.2 s ho.1.1 (by omega)
        have hsn : u 96 s ≠ -1 := by rw [hst, e96]; exact ho.2
        have hsv2 := hsv.resolve_left hsn
        have hule := hFu.le
        rw [f_M_searches_57, a24, if_pos y1, qld_ok y0 (by omega), qld_ok ho.1.1 (by omega), a101, w32_ok (z := u 96 s + 1) (by omega) (by omega), w32_ok (z := y + 1) (by omega) (by omega)]
        exact kT_bind (me_finds hFu (by omega) hi.1.1 hi.1.2 (by omega) (by omega)) (fun w3 h3 => ih' () w3 ⟨h3.1, hfi.tr h3.2.1⟩)
      · obtain ⟨hFu, hfi⟩ := hJ
        have a24 : u 88 24 = w1 88 24 := hfi.1.2 24 (by decide)
        have hSu : FSr w u := hS.tr ((FSr.af h1.1.2.2).tr (FSr.fi hfi))
        rw [f_M_searches_57, a24, if_neg (by omega)]
        unfold f_M_searches_89
        refine kT_bind (me_opens hk (hM.sr hSu) ho.1.1 ho.1.2) (fun w3 h3 => ?_)
        have hM3 := hM.sr (hSu.tr (FSr.op h3.2))
        have hd3 := h3.1.d hk ho.1.1 ho.1.2
        obtain ⟨z, ez, -⟩ := me_may hk hM3 (k := 0) (by decide) (by omega) (hd3.1 0 (by decide) (by omega))
        refine kT_eq ez ?_
        dsimp only
        have h112 : ∀ v, v = 0 ∨ v = 1 → kT (f_M_searches_112 (f_M_searches_35 m) s v x w3) (fun w' => mF N w' ∧ FSr w w') := by
          intro v hv
          unfold f_M_searches_112
          rw [qstz_ok ho.1.1 (by omega) hv, w32_ok (z := x + 1) (by omega) (by omega)]
          refine ih (x + 1) _ (by omega) (by omega) (by omega) ((hFu.af (FAf.op h3.2)).co (qud_nk (by decide)) (qud_row (by decide)) (qud_row (by decide))) ((hSu.tr (FSr.op h3.2)).tr ⟨fun k _ _ _ _ a _ => qud_row a, fun j _ _ _ _ => qud_nk (by decide)⟩)
        exact kT_if (fun _ => h112 1 (Or.inr rfl)) (fun _ => h112 0 (Or.inl rfl))
  have h22 : ∀ w', FSr w w' → (∀ s, 0 ≤ s → s < 10240 → w' 96 s = -1) → kT (f_M_searches_22 w') (fun w' => mF N w' ∧ FSr w w') := by
    intro w' hS hall
    unfold f_M_searches_22
    rw [qlt_ok]
    have f0 : mF N (qud w' 88 19 0) := by
      refine ⟨⟨by rw [qud_s]; decide, ?_⟩, fun k k0 k1 => by rw [qud_s] at k1; omega, fun s s0 s1 => Or.inl (by rw [qud_nk (by decide)]; exact hall s s0 s1)⟩
      have := smN_in (f := foN (qud w' 88 19 0)) (a := 0) (b := 0) 10240 (fun i hi => by
        unfold foN
        rw [qud_nk (by decide), hall i (by omega) (by omega), if_pos rfl]
        omega)
      rw [qud_s]
      omega
    refine kT_bind (me_finds f0 (by omega) (s := 0) (by decide) (by omega) (x := 0) (by decide) (by rw [qud_s]; decide)) (fun w1 h1 => ?_)
    exact h35 qFU 0 w1 (by decide) (by decide) (qFU_gt (by decide)) h1.1 (hS.tr (FSr.tr ⟨fun k a _ _ _ _ _ => qud_row a, fun j _ a _ _ => qud_ni a⟩ (FSr.fi h1.2.1)))
  unfold f_M_searches
  refine kD_loop (σ := Unit) (N := 10240) (L := fun m x _ u => f_M_searches_2 m x u) (J := fun x _ u => FSr w u ∧ ∀ s, 0 ≤ s → s < x → u 96 s = -1) (fun m x _ u x0 x1 hJ ih => ?_) (fun m _ u hJ => ?_) (by omega) (by omega) () ⟨FSr.rfl', fun s a b => by omega⟩
  · rw [f_M_searches_2, if_pos x1, qst_ok x0 x1, w32_ok (z := x + 1) (by omega) (by omega)]
    refine ih () _ ⟨hJ.1.tr ⟨fun k _ _ a _ _ _ => qud_row a, fun j _ _ _ _ => qud_nk (by decide)⟩, fun s s0 s1 => ?_⟩
    rw [qud_if]
    split
    · rfl
    · exact hJ.2 s s0 (by omega)
  · rw [f_M_searches_2, if_neg (by decide)]
    exact h22 u hJ.1 hJ.2
end MB
