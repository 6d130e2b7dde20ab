/-! one ring alone: one answer of both sides -/
def AL (n e r x y : Int) : Prop := ∃ (K N M : Int) (ks dp : Int → Int), nek n e (n - 1) K N ∧ SR (scA n e (n - 1) K r) M M 0 ks dp ∧ aVal (scA n e (n - 1) K r) (plA n e (n - 1) K r) (hdA n (n - 1) K) (ddA n e (n - 1) K r) (dnA n e (n - 1) K r) (n * e) M ks dp x y
def ANS (n e r x y : Int) : Prop := ((ne_ok n e ∧ (0 ≤ r ∧ r ≤ 2) ∧ 0 ≤ x ∧ x ≤ 7) ∧ AL n e r x y) ∨ (¬ (ne_ok n e ∧ (0 ≤ r ∧ r ≤ 2) ∧ 0 ≤ x ∧ x ≤ 7) ∧ y = -1)
def ALq (q x y : Int) : Prop := ∃ n e r, (ne_ok n e ∧ 0 ≤ r ∧ r ≤ 2) ∧ q = ((n - 2) * 3 + e - 1) * 3 + r ∧ AL n e r x y
/-- what the class keeps -/
def KNo (w : qMem) : Prop := ∀ q, 0 ≤ q → q < 21 → (w 83 q = 0 ∧ w 82 (8 * q + 1) = 0 ∧ w 82 (8 * q + 2) = 0 ∧ w 82 (8 * q + 4) = 0 ∧ w 82 (8 * q + 5) = 0) ∨ (w 83 q ≠ 0 ∧ ∀ x, 0 ≤ x → x ≤ 7 → ALq q x (w 82 (8 * q + x)))
section BC
variable {ks dp : Int → Int} {w w' w0 w1 w2 : qMem} {n e g K N M k x y l s v b p c r cnt t a z q : Int} {i j m : Nat}
theorem AL.eq (hr : 0 ≤ r ∧ r ≤ 2) (hx : 0 ≤ x ∧ x ≤ 7) (h : AL n e r x y) (h' : AL n e r x z) : y = z := by
  obtain ⟨K, N, M, ks, dp, hk, B, hv⟩ := h
  obtain ⟨K', N', M', ks', dp', hk', B', hv'⟩ := h'
  have eK : K' = K := by
    unfold nek at hk hk'
    omega
  subst eK
  have hps := pot_sc (r := r) hk hr
  exact aVal.eq (pot := pot (n - 1) K' n) B B' pl_sc (fun a b ha hb => ⟨(hps b (ha.st (pl_sc a b hb))).1, (hps a ha).2 b hb⟩) hx hv hv'
theorem ANS.eq (h : ANS n e r x y) (h' : ANS n e r x z) : y = z := by
  rcases h with ⟨a, b⟩ | ⟨a, b⟩
  · rcases h' with ⟨a', b'⟩ | ⟨a', b'⟩
    · exact b.eq a.2.1 a.2.2 b'
    · exact absurd a a'
  · rcases h' with ⟨a', b'⟩ | ⟨a', b'⟩
    · exact absurd a' a
    · rw [b, b']
theorem ALq.al (hn : ne_ok n e) (hr : 0 ≤ r ∧ r ≤ 2) (h : ALq (((n - 2) * 3 + e - 1) * 3 + r) x y) : AL n e r x y := by
  obtain ⟨n', e', r', ⟨hn', hr'⟩, he, h⟩ := h
  unfold ne_ok at hn hn'
  have e1 : n' = n ∧ e' = e ∧ r' = r := by omega
  obtain ⟨rfl, rfl, rfl⟩ := e1
  exact h
theorem KNo.fr (h : KNo w) (e82 : w' 82 = w 82) (e83 : w' 83 = w 83) : KNo w' := by
  unfold KNo
  rw [e82, e83]
  exact h
/-! the reference -/
theorem m_alone33V (h : ne_ok n e) : kT (f_M_alone_33 1 n e r x w) (fun q => ANS n e r x q.1) := by
  obtain ⟨K, N, hk, eK⟩ := nek_of h
  have hb := hk.b
  unfold f_M_alone_33
  rw [if_neg (by decide)]
  refine kT_eq m_isIn ?_
  dsimp only
  rw [bi_if]
  refine kT_if (fun hr => ?_) (fun hr => kT_some (Or.inr ⟨fun z => hr z.2.1, rfl⟩))
  refine kT_eq m_isIn ?_
  dsimp only
  rw [bi_if]
  refine kT_if (fun hx => ?_) (fun hx => kT_some (Or.inr ⟨fun z => hx z.2.2, rfl⟩))
  rw [qlt_ok, qlt_ok, qlt_ok, qlt_ok, w32_ok (z := n - 1) (by omega) (by omega), w32_ok (z := e + 1) (by omega) (by omega)]
  refine kT_eq (me_first (g := n - 1) qud_s hb.2.2.1 (by omega) (by omega)) ?_
  dsimp only
  rw [qlt_ok, eK]
  have m5 : LM n e (n - 1) K (qud (qud (qud (qud (qud w 88 10 n) 88 11 e) 88 12 r) 88 13 (n - 1)) 88 14 K) := by
    refine ⟨⟨?_, ?_⟩, ?_, qud_s⟩
    · rw [qud_ni (by decide), qud_ni (by decide), qud_ni (by decide), qud_ni (by decide), qud_s]
    · rw [qud_ni (by decide), qud_ni (by decide), qud_ni (by decide), qud_s]
    · rw [qud_ni (by decide), qud_s]
  have m12 : qud (qud (qud (qud (qud w 88 10 n) 88 11 e) 88 12 r) 88 13 (n - 1)) 88 14 K 88 12 = r := by rw [qud_ni (by decide), qud_ni (by decide), qud_s]
  refine kT_bind (me_searchV hk m5 m12 hr) (fun w1 h1 => ?_)
  obtain ⟨M, ks, dp, hF⟩ := h1
  have B := hF.2.1.1
  have fin : ∀ (y : Int) (u : qMem), aVal (scA n e (n - 1) K r) (plA n e (n - 1) K r) (hdA n (n - 1) K) (ddA n e (n - 1) K r) (dnA n e (n - 1) K r) (n * e) M ks dp x y → kT (some (y, u)) (fun q => ANS n e r x q.1) := fun y u hv => kT_some (Or.inl ⟨⟨h, hr, hx⟩, K, N, M, ks, dp, hk, B, hv⟩)
  have cF : ∀ (F : Int → Int), (∀ s, cFA n e (n - 1) K r x s = F s) → cV (fun i => cFA n e (n - 1) K r x (ks i)) M = cV (fun i => F (ks i)) M := fun F hF' => cV_co (by have := B.1.1; omega) (fun i _ _ => hF' (ks i))
  have h176 : (x = 1 ∨ x = 2 ∨ x = 4 ∨ x = 5) → kT (f_M_alone_176 x w1) (fun q => ANS n e r x q.1) := by
    intro hxx
    unfold f_M_alone_176
    refine kT_bind (me_countV (x := x) hk hr hF) (fun q hq => fin _ _ ?_)
    refine ⟨⟨fun z => by omega, fun z => ?_, fun z => ?_⟩, ⟨fun z => by omega, hq.2, fun z => ?_⟩, fun z => by omega, fun z => by omega⟩
    · rw [hq.1 (by omega)]
      exact cF (fun s => if hdA n (n - 1) K s = n * e then 1 else 0) (fun s => by unfold cFA; rw [if_pos z])
    · rw [hq.1 (by omega)]
      exact cF (ddA n e (n - 1) K r) (fun s => by unfold cFA; rw [if_neg (by omega), if_pos z])
    · rw [hq.1 (by omega)]
      exact cF (dnA n e (n - 1) K r) (fun s => by unfold cFA; rw [if_neg (by omega), if_neg (by omega), if_pos z])
  refine kT_if (fun z0 => fin _ _ ?_) (fun z0 => ?_)
  · exact ⟨⟨fun _ => hF.2.1.2.1, fun z => by omega, fun z => by omega⟩, ⟨fun z => by omega, fun z => by omega, fun z => by omega⟩, fun z => by omega, fun z => by omega⟩
  refine kT_if (fun z1 => h176 (Or.inl z1)) (fun z1 => ?_)
  refine kT_if (fun z2 => h176 (Or.inr (Or.inl z2))) (fun z2 => ?_)
  refine kT_if (fun z3 => kT_bind (me_soonV hk hr hF) (fun q hq => fin _ _ ?_)) (fun z3 => ?_)
  · exact ⟨⟨fun z => by omega, fun z => by omega, fun z => by omega⟩, ⟨fun _ => hq, fun z => by omega, fun z => by omega⟩, fun z => by omega, fun z => by omega⟩
  refine kT_if (fun z4 => h176 (Or.inr (Or.inr (Or.inl z4)))) (fun z4 => ?_)
  refine kT_if (fun z5 => h176 (Or.inr (Or.inr (Or.inr z5)))) (fun z5 => ?_)
  refine kT_if (fun z6 => kT_bind (me_starveV hk hr hF) (fun q hq => ?_)) (fun z6 => ?_)
  · rcases hq with ⟨q1, hs⟩ | ⟨q1, hs⟩
    · rw [q1, if_neg (by decide)]
      exact fin _ _ ⟨⟨fun z => by omega, fun z => by omega, fun z => by omega⟩, ⟨fun z => by omega, fun z => by omega, fun z => by omega⟩, fun _ => Or.inl ⟨rfl, hs⟩, fun z => by omega⟩
    · rw [q1, if_pos rfl]
      exact fin _ _ ⟨⟨fun z => by omega, fun z => by omega, fun z => by omega⟩, ⟨fun z => by omega, fun z => by omega, fun z => by omega⟩, fun _ => Or.inr ⟨rfl, hs⟩, fun z => by omega⟩
  have hps := pot_sc (r := r) hk hr
  refine kT_if (fun z7 => kT_bind (me_waitV hk hr hF) (fun q hq => fin _ _ ?_)) (fun z7 => by omega)
  exact ⟨⟨fun z => by omega, fun z => by omega, fun z => by omega⟩, ⟨fun z => by omega, fun z => by omega, fun z => by omega⟩, fun z => by omega, fun _ => ⟨_, Wst_w pl_sc hps (pot_24 hk hr), hq⟩⟩
theorem m_aloneV : kT (f_M_alone n e r x w) (fun q => ANS n e r x q.1) := by
  have hno : ¬ ne_ok n e → kT (f_M_alone_33 0 n e r x w) (fun q => ANS n e r x q.1) := by
    intro h
    unfold f_M_alone_33
    rw [if_pos rfl]
    exact kT_some (Or.inr ⟨fun z => h z.1, rfl⟩)
  have h18 : ¬ ((2 ≤ n ∧ n ≤ 3) ∧ 1 ≤ e ∧ e ≤ 3) → kT (f_M_alone_18 n e r x w) (fun q => ANS n e r x q.1) := by
    intro h
    unfold f_M_alone_18
    exact kT_if (fun a => kT_if (fun b => m_alone33V (Or.inr (Or.inr ⟨a, b⟩))) (fun b => hno (fun z => by unfold ne_ok at z; omega))) (fun a => hno (fun z => by unfold ne_ok at z; omega))
  unfold f_M_alone
  refine kT_eq m_isIn ?_
  dsimp only
  rw [bi_if]
  refine kT_if (fun a => ?_) (fun a => h18 (fun z => a z.1))
  refine kT_eq m_isIn ?_
  dsimp only
  rw [bi_if]
  refine kT_if (fun b => ?_) (fun b => h18 (fun z => b z.2))
  refine m_alone33V ?_
  unfold ne_ok
  omega
/-! the class -/
theorem l_codesV (hk : nek n e g K N) (h11 : w 81 11 = g) : f_L_prepare_60 qFU n e 1 0 w = f_L_prepare_83 n K w := by
  have step : ∀ (m : Nat) (c x : Int), x < e → f_L_prepare_60 (m + 1) n e c x w = f_L_prepare_60 m n e (w32 (w32 (c * g) + 1)) (w32 (x + 1)) w := by
    intro m c x hx
    rw [f_L_prepare_60, if_pos hx, h11]
  have stop : ∀ (m : Nat) (c x : Int), ¬ x < e → f_L_prepare_60 (m + 1) n e c x w = f_L_prepare_83 n c w := by
    intro m c x hx
    rw [f_L_prepare_60, if_neg hx]
  rw [show qFU = 999999996 + 1 + 1 + 1 + 1 from rfl]
  rcases hk with ⟨⟨rfl, rfl⟩, h⟩ | ⟨⟨rfl, rfl⟩, h⟩ | ⟨⟨rfl, rfl⟩, rfl, rfl, rfl⟩
  · rcases h with ⟨rfl, rfl, rfl⟩ | ⟨rfl, rfl, rfl⟩ | ⟨rfl, rfl, rfl⟩
    · rw [step _ 1 0 (by decide), show w32 (w32 (1 * 1) + 1) = 2 by decide, show w32 (0 + 1) = 1 by decide, stop _ 2 1 (by decide)]
    · rw [step _ 1 0 (by decide), show w32 (w32 (1 * 1) + 1) = 2 by decide, show w32 (0 + 1) = 1 by decide, step _ 2 1 (by decide), show w32 (w32 (2 * 1) + 1) = 3 by decide, show w32 (1 + 1) = 2 by decide, stop _ 3 2 (by decide)]
    · rw [step _ 1 0 (by decide), show w32 (w32 (1 * 1) + 1) = 2 by decide, show w32 (0 + 1) = 1 by decide, step _ 2 1 (by decide), show w32 (w32 (2 * 1) + 1) = 3 by decide, show w32 (1 + 1) = 2 by decide, step _ 3 2 (by decide), show w32 (w32 (3 * 1) + 1) = 4 by decide, show w32 (2 + 1) = 3 by decide, stop _ 4 3 (by decide)]
  · rcases h with ⟨rfl, rfl, rfl⟩ | ⟨rfl, rfl, rfl⟩ | ⟨rfl, rfl, rfl⟩
    · rw [step _ 1 0 (by decide), show w32 (w32 (1 * 2) + 1) = 3 by decide, show w32 (0 + 1) = 1 by decide, stop _ 3 1 (by decide)]
    · rw [step _ 1 0 (by decide), show w32 (w32 (1 * 2) + 1) = 3 by decide, show w32 (0 + 1) = 1 by decide, step _ 3 1 (by decide), show w32 (w32 (3 * 2) + 1) = 7 by decide, show w32 (1 + 1) = 2 by decide, stop _ 7 2 (by decide)]
    · rw [step _ 1 0 (by decide), show w32 (w32 (1 * 2) + 1) = 3 by decide, show w32 (0 + 1) = 1 by decide, step _ 3 1 (by decide), show w32 (w32 (3 * 2) + 1) = 7 by decide, show w32 (1 + 1) = 2 by decide, step _ 7 2 (by decide), show w32 (w32 (7 * 2) + 1) = 15 by decide, show w32 (2 + 1) = 3 by decide, stop _ 15 3 (by decide)]
  · rw [step _ 1 0 (by decide), show w32 (w32 (1 * 3) + 1) = 4 by decide, show w32 (0 + 1) = 1 by decide, stop _ 4 1 (by decide)]
theorem l_weightsV (hk : nek n e g K N) : kT (f_L_prepare_83 n K w) (fun w' => (∀ k : Nat, k ≠ 86 → w' k = w k) ∧ ∀ i : Nat, (i : Int) ≤ n → w' 86 i = kp K i) := by
  have hb := hk.b
  have key : ∀ (m : Nat) (x : Int) (w' : qMem), 0 ≤ x → x ≤ n → n - x < m → (∀ k : Nat, k ≠ 86 → w' k = w k) → (∀ i : Nat, (i : Int) ≤ x → w' 86 i = kp K i) → kT (f_L_prepare_93 m n K x w') (fun w' => (∀ k : Nat, k ≠ 86 → w' k = w k) ∧ ∀ i : Nat, (i : Int) ≤ n → w' 86 i = kp K i) := by
    intro m
    induction m with
    | zero => intro x w' _ _ _ _ _; omega
    | succ m ih =>
      intro x w' x0 x1 hm hf hw
      rw [f_L_prepare_93]
      refine kT_if (fun cx => ?_) (fun cx => kT_some ⟨hf, fun i i1 => hw i (by omega)⟩)
      have e1 : w' 86 x = kp K x.toNat := by
        have := hw x.toNat (by omega)
        rw [show ((x.toNat : Nat) : Int) = x by omega] at this
        exact this
      have b1 := kp_b hk (x.toNat + 1) (by omega)
      have e2 : kp K x.toNat * K = kp K (x.toNat + 1) := rfl
      rw [qld_ok x0 (by omega), w32_ok (z := x + 1) (by omega) (by omega), e1, e2, w32_ok (z := kp K (x.toNat + 1)) (by omega) (by omega), qst_ok (by omega) (by omega)]
      refine ih (x + 1) _ (by omega) (by omega) (by omega) (fun k hk => by rw [qud_row hk, hf k hk]) (fun i i1 => ?_)
      rw [qud_if]
      by_cases ei : (i : Int) = x + 1
      · rw [if_pos ei, show i = x.toNat + 1 by omega]
      · rw [if_neg ei]
        exact hw i (by omega)
  unfold f_L_prepare_83
  rw [qst_ok (by decide) (by decide)]
  refine key qFU 0 _ (by omega) (by omega) (qFU_gt (by omega)) (fun k hk => qud_row hk) (fun i i1 => ?_)
  have : i = 0 := by omega
  subst this
  exact qud_s
theorem l_prep32V (hk : nek n e g K N) (h6 : w 81 6 = 102 ∧ w 81 7 = 103) : kT (f_L_prepare_32 n e r w) (fun w' => LV n e g K r w' ∧ cSm w w') := by
  have hb := hk.b
  unfold f_L_prepare_32
  rw [qlt_ok, qlt_ok, qlt_ok, qlt_ok, w32_ok (z := n - 1) (by omega) (by omega), show n - 1 = g by omega, l_codesV (w := qud (qud (qud (qud w 81 8 n) 81 9 e) 81 10 r) 81 11 g) hk qud_s]
  refine kT_mono (l_weightsV hk) (fun w' hw => ⟨⟨⟨⟨?_, ?_⟩, ?_, ?_⟩, hw.2, ?_, ?_⟩, ?_, ?_⟩)
  · rw [hw.1 81 (by decide), qud_ni (by decide), qud_ni (by decide), qud_ni (by decide), qud_s]
  · rw [hw.1 81 (by decide), qud_ni (by decide), qud_ni (by decide), qud_s]
  · rw [hw.1 81 (by decide), qud_ni (by decide), qud_s]
  · rw [hw.1 81 (by decide), qud_s]
  · rw [hw.1 81 (by decide), qud_ni (by decide), qud_ni (by decide), qud_ni (by decide), qud_ni (by decide)]
    exact h6.1
  · rw [hw.1 81 (by decide), qud_ni (by decide), qud_ni (by decide), qud_ni (by decide), qud_ni (by decide)]
    exact h6.2
  · rw [hw.1 82 (by decide), qud_row (by decide), qud_row (by decide), qud_row (by decide), qud_row (by decide)]
  · rw [hw.1 83 (by decide), qud_row (by decide), qud_row (by decide), qud_row (by decide), qud_row (by decide)]
theorem l_prepareV (hk : nek n e g K N) (hG : GLo w) : kT (f_L_prepare n e r w) (fun w' => LV n e g K r w' ∧ cSm w w') := by
  unfold f_L_prepare
  rcases hG.1 with ⟨h6, hq⟩ | ⟨h6, h7, hq, ho⟩
  · rw [if_pos h6]
    unfold f_L_prepare_14 qnw
    have hnn : qnn w = 101 := by
      unfold qnn
      rw [hq]
      rfl
    have c0 : qal w 0 (-2) = 102 := by
      unfold qal
      rw [hnn, if_neg (by decide), if_pos ⟨rfl, rfl⟩, hq]
      rfl
    have r1 : ∀ k, k ≠ 0 → k ≠ 102 → qal w k = w k := fun k a b => by
      funext j
      unfold qal
      rw [hnn, if_neg b, if_neg (fun z => a z.1)]
    rw [if_pos (by rw [hq]; rfl)]
    refine kT_lt ?_
    have q2 : qud (qal w) 81 6 ((102 : Nat) : Int) 0 (-2) = 102 := by rw [qud_nk (by decide)]; exact c0
    rw [if_pos (by rw [q2]; rfl)]
    refine kT_lt ?_
    have hnn2 : qnn (qud (qal w) 81 6 ((102 : Nat) : Int)) = 102 := by
      unfold qnn
      rw [q2]
      rfl
    have e1 : ∀ k, k ≠ 0 → k ≠ 103 → qal (qud (qal w) 81 6 ((102 : Nat) : Int)) k = qud (qal w) 81 6 ((102 : Nat) : Int) k := fun k a b => by
      funext j
      show (if k = qnn (qud (qal w) 81 6 ((102 : Nat) : Int)) + 1 then 0 else if k = 0 ∧ j = -2 then _ else _) = _
      rw [hnn2, if_neg b, if_neg (fun z => a z.1)]
    refine kT_mono (l_prep32V hk ⟨?_, ?_⟩) (fun w' hw => ⟨hw.1, ?_, ?_⟩)
    · rw [qud_ni (by decide), e1 81 (by decide) (by decide), qud_s]
      rfl
    · rw [qud_s]
      rfl
    · rw [hw.2.1, qud_row (by decide), e1 82 (by decide) (by decide), qud_row (by decide), r1 82 (by decide) (by decide)]
    · rw [hw.2.2, qud_row (by decide), e1 83 (by decide) (by decide), qud_row (by decide), r1 83 (by decide) (by decide)]
  · rw [if_neg (by omega), if_pos h6, if_neg (by omega), if_pos h7]
    exact l_prep32V hk ⟨h6, h7⟩
/-- while states are weighed: x are -/
def cWI (n e g K r : Int) (ks dp : Int → Int) (a x : Int) (w : qMem) : Prop := (w 82 (a + 1) = cV (fun i => if hdA n g K (ks i) = n * e then 1 else 0) x ∧ w 82 (a + 2) = cV (fun i => ddA n e g K r (ks i)) x) ∧ ((w 82 (a + 3) = -1 ∧ ∀ i, 0 ≤ i → i < x → ddA n e g K r (ks i) ≠ 1) ∨ ((∃ i, (0 ≤ i ∧ i < x) ∧ ddA n e g K r (ks i) = 1 ∧ dp (ks i) = w 82 (a + 3)) ∧ ∀ i, 0 ≤ i → i < x → ddA n e g K r (ks i) = 1 → w 82 (a + 3) ≤ dp (ks i))) ∧ Mx 0 (fun i => hdA n g K (ks i)) x (w 82 (a + 4)) ∧ w 82 (a + 5) = cV (fun i => dnA n e g K r (ks i)) x
theorem l_solveV (hk : nek n e g K N) (hr : 0 ≤ r ∧ r ≤ 2) (hG : GLo w) (a0 : 0 ≤ a) (a1 : a + 7 < 168) (z1 : w 82 (a + 1) = 0) (z2 : w 82 (a + 2) = 0) (z4 : w 82 (a + 4) = 0) (z5 : w 82 (a + 5) = 0) : kT (f_L_solve n e r a w) (fun w' => (∃ M ks dp, SR (scA n e g K r) M M 0 ks dp ∧ ∀ x, 0 ≤ x → x ≤ 7 → aVal (scA n e g K r) (plA n e g K r) (hdA n g K) (ddA n e g K r) (dnA n e g K r) (n * e) M ks dp x (w' 82 (a + x))) ∧ (∀ i, i < a ∨ a + 8 ≤ i → w' 82 i = w 82 i) ∧ w' 83 = w 83) := by
  have hb := hk.b
  unfold f_L_solve
  refine kT_bind (l_prepareV hk hG) (fun w1 h1 => ?_)
  obtain ⟨hV1, hS1⟩ := h1
  refine kT_bind (l_exploreV hk hr hV1) (fun w2 h2 => ?_)
  obtain ⟨M, ks, dp, ⟨hV2, hss⟩, hS2⟩ := h2
  have B := hss.1
  have hM0 := B.1.1
  have hle := hss.le (by omega)
  have e82 : w2 82 = w 82 := (hS1.tr hS2).1
  have e83 : w2 83 = w 83 := (hS1.tr hS2).2
  have hps := pot_sc (r := r) hk hr
  have hWw := Wst_w (dn := dnA n e g K r) (pl_sc (n := n) (e := e) (g := g) (K := K) (r := r)) hps (pot_24 hk hr)
  -- starving, waits
  have h63 : ∀ u, cFd n e g K N r M ks u → cWI n e g K r ks dp a M u → u 82 a = M → (∀ i, i < a ∨ a + 8 ≤ i → u 82 i = w 82 i) → u 83 = w 83 → kT (f_L_solve_63 a u) (fun w' => (∃ M ks dp, SR (scA n e g K r) M M 0 ks dp ∧ ∀ x, 0 ≤ x → x ≤ 7 → aVal (scA n e g K r) (plA n e g K r) (hdA n g K) (ddA n e g K r) (dnA n e g K r) (n * e) M ks dp x (w' 82 (a + x))) ∧ (∀ i, i < a ∨ a + 8 ≤ i → w' 82 i = w 82 i) ∧ w' 83 = w 83) := by
    intro u hu hW h0 hfr h83
    unfold f_L_solve_63
    refine kT_bind (l_starveV hk hr hu B) (fun q hq => ?_)
    obtain ⟨hq1, hu2, hS⟩ := hq
    have h84 : ∀ z, ((z = 1 ∧ STV (scA n e g K r) (dnA n e g K r)) ∨ (z = 0 ∧ ¬ STV (scA n e g K r) (dnA n e g K r))) → kT (f_L_solve_84 (w32 (a + 6)) z a q.2) (fun w' => (∃ M ks dp, SR (scA n e g K r) M M 0 ks dp ∧ ∀ x, 0 ≤ x → x ≤ 7 → aVal (scA n e g K r) (plA n e g K r) (hdA n g K) (ddA n e g K r) (dnA n e g K r) (n * e) M ks dp x (w' 82 (a + x))) ∧ (∀ i, i < a ∨ a + 8 ≤ i → w' 82 i = w 82 i) ∧ w' 83 = w 83) := by
      intro z hz
      unfold f_L_solve_84
      rw [w32_ok (z := a + 6) (by omega) (by omega), w32_ok (z := a + 7) (by omega) (by omega)]
      refine kT_st (by omega) (by omega) ?_
      refine kT_bind (l_longV hk hr (hu2.wr (q := 82) (x := a + 6) (v := z) (by decide)) B) (fun q2 hq2 => ?_)
      obtain ⟨hmx, hS2⟩ := hq2
      refine kT_st (by omega) (by omega) (kT_some ?_)
      have ev : ∀ i, qud q2.2 82 (a + 7) q2.1 82 i = if i = a + 7 then q2.1 else if i = a + 6 then z else u 82 i := fun i => by
        rw [qud_if, hS2.1, qud_if, hS.1]
      refine ⟨⟨M, ks, dp, B, fun x x0 x7 => ?_⟩, fun i hi => ?_, ?_⟩
      · rw [ev]
        obtain ⟨⟨c1, c2⟩, c3, c4, c5⟩ := hW
        rcases (by omega : x = 0 ∨ x = 1 ∨ x = 2 ∨ x = 3 ∨ x = 4 ∨ x = 5 ∨ x = 6 ∨ x = 7) with e | e | e | e | e | e | e | e
        · rw [e, if_neg (by omega), if_neg (by omega), Int.add_zero]
          exact ⟨⟨fun _ => h0, fun z => by omega, fun z => by omega⟩, ⟨fun z => by omega, fun z => by omega, fun z => by omega⟩, fun z => by omega, fun z => by omega⟩
        · rw [e, if_neg (by omega), if_neg (by omega)]
          exact ⟨⟨fun z => by omega, fun _ => c1, fun z => by omega⟩, ⟨fun z => by omega, fun z => by omega, fun z => by omega⟩, fun z => by omega, fun z => by omega⟩
        · rw [e, if_neg (by omega), if_neg (by omega)]
          exact ⟨⟨fun z => by omega, fun z => by omega, fun _ => c2⟩, ⟨fun z => by omega, fun z => by omega, fun z => by omega⟩, fun z => by omega, fun z => by omega⟩
        · rw [e, if_neg (by omega), if_neg (by omega)]
          exact ⟨⟨fun z => by omega, fun z => by omega, fun z => by omega⟩, ⟨fun _ => c3, fun z => by omega, fun z => by omega⟩, fun z => by omega, fun z => by omega⟩
        · rw [e, if_neg (by omega), if_neg (by omega)]
          exact ⟨⟨fun z => by omega, fun z => by omega, fun z => by omega⟩, ⟨fun z => by omega, fun _ => c4, fun z => by omega⟩, fun z => by omega, fun z => by omega⟩
        · rw [e, if_neg (by omega), if_neg (by omega)]
          exact ⟨⟨fun z => by omega, fun z => by omega, fun z => by omega⟩, ⟨fun z => by omega, fun z => by omega, fun _ => c5⟩, fun z => by omega, fun z => by omega⟩
        · rw [e, if_neg (by omega), if_pos rfl]
          exact ⟨⟨fun z => by omega, fun z => by omega, fun z => by omega⟩, ⟨fun z => by omega, fun z => by omega, fun z => by omega⟩, fun _ => hz, fun z => by omega⟩
        · rw [e, if_pos rfl]
          exact ⟨⟨fun z => by omega, fun z => by omega, fun z => by omega⟩, ⟨fun z => by omega, fun z => by omega, fun z => by omega⟩, fun z => by omega, fun _ => ⟨_, hWw, hmx⟩⟩
      · rw [ev, if_neg (by omega), if_neg (by omega)]
        exact hfr i hi
      · rw [qud_row (by decide), hS2.2, qud_row (by decide), hS.2]
        exact h83
    rcases hq1 with ⟨q1, hs⟩ | ⟨q1, hs⟩
    · rw [q1, if_neg (by decide)]
      exact h84 1 (Or.inl ⟨rfl, hs⟩)
    · rw [q1, if_pos rfl]
      exact h84 0 (Or.inr ⟨rfl, hs⟩)
  have h35 : ∀ (m : Nat) (x : Int) (u : qMem), 0 ≤ x → x ≤ M → M - x < m → cFd n e g K N r M ks u → u 103 = w2 103 → cWI n e g K r ks dp a x u → u 82 a = M → (∀ i, i < a ∨ a + 8 ≤ i → u 82 i = w 82 i) → u 83 = w 83 → kT (f_L_solve_35 m a x u) (fun w' => (∃ M ks dp, SR (scA n e g K r) M M 0 ks dp ∧ ∀ x, 0 ≤ x → x ≤ 7 → aVal (scA n e g K r) (plA n e g K r) (hdA n g K) (ddA n e g K r) (dnA n e g K r) (n * e) M ks dp x (w' 82 (a + x))) ∧ (∀ i, i < a ∨ a + 8 ≤ i → w' 82 i = w 82 i) ∧ w' 83 = w 83) := by
    intro m
    induction m with
    | zero => intro x u _ _ _; omega
    | succ m ih =>
      intro x u x0 x1 hm hu h103 hW h0 hfr h83
      rw [f_L_solve_35, hu.2.1]
      refine kT_if (fun c => ?_) (fun c => ?_)
      · have ho := hu.2.2 x x0 c
        have hd : u 103 (fC g K n (ks x)) = dp (ks x) := by
          rw [h103]
          rcases hss.2.2.2 (ks x) ho.2.1 ho.2.2 with ⟨-, z⟩ | ⟨z, -⟩
          · exact z
          · exact absurd ⟨x, ⟨x0, c⟩, rfl⟩ z
        obtain ⟨⟨c1, c2⟩, c3, c4, c5⟩ := hW
        have s1 := smN_in (f := fun i => if hdA n g K (ks i) = n * e then 1 else 0) (a := 0) (b := 1) x.toNat (fun i _ => by split <;> omega)
        have s2 := smN_in (f := fun i => ddA n e g K r (ks i)) (a := 0) (b := 1) x.toNat (fun i _ => by
          have := ddA_01 (n := n) (e := e) (g := g) (K := K) (r := r) (s := ks i)
          omega)
        have s5 := smN_in (f := fun i => dnA n e g K r (ks i)) (a := 0) (b := 1) x.toNat (fun i _ => by
          have := dnA_01 (n := n) (e := e) (g := g) (K := K) (r := r) (s := ks i)
          omega)
        rw [show ((x.toNat : Nat) : Int) = x by omega, Int.zero_mul] at s1 s2 s5
        have s1' : 0 ≤ cV (fun i => if hdA n g K (ks i) = n * e then 1 else 0) x ∧ cV (fun i => if hdA n g K (ks i) = n * e then 1 else 0) x ≤ 1 * x := s1
        have s2' : 0 ≤ cV (fun i => ddA n e g K r (ks i)) x ∧ cV (fun i => ddA n e g K r (ks i)) x ≤ 1 * x := s2
        have s5' : 0 ≤ cV (fun i => dnA n e g K r (ks i)) x ∧ cV (fun i => dnA n e g K r (ks i)) x ≤ 1 * x := s5
        rw [if_pos hu.1.2.2.1, qld_ok x0 (by omega), ho.1]
        refine kT_bind (l_weighV hk hr hu.1 ho.2.1 ho.2.2 a0 a1 hd (by omega) (by omega) (by omega)) (fun u2 hu2 => ?_)
        obtain ⟨⟨v1, hxo, hrow⟩, k1, ⟨k2, k3⟩, k4, k5, k6⟩ := hu2
        have hdx0 := B.2.2.2.2 x x0 c
        have g1 : cFd n e g K N r M ks u2 := by
          have := hu.xo hxo
          unfold cFd LV at this ⊢
          rw [hrow 81 (by decide), hrow 86 (by decide), hrow 102 (by decide)]
          exact this
        rw [w32_ok (z := x + 1) (by omega) (by omega)]
        refine ih (x + 1) u2 (by omega) (by omega) (by omega) g1 (by rw [hrow 103 (by decide), hxo.1 103 (by decide) (by decide) (by decide) (by decide)]; exact h103) ⟨⟨by rw [k2, c1, cV_s x0], by rw [k3, c2, cV_s x0]⟩, ?_, by rw [k5]; exact c4.s x0, by rw [k6, c5, cV_s x0]⟩ (by rw [k1 a (by omega)]; exact h0) (fun i hi => by rw [k1 i (by omega)]; exact hfr i hi) (by rw [hrow 83 (by decide), hxo.1 83 (by decide) (by decide) (by decide) (by decide)]; exact h83)
        rw [k4]
        by_cases d : ddA n e g K r (ks x) = 1
        · rcases c3 with ⟨y1, hn⟩ | ⟨⟨i, ⟨i0, i1⟩, hi, hdi⟩, hall⟩
          · rw [if_pos ⟨d, Or.inl y1⟩]
            refine Or.inr ⟨⟨x, ⟨x0, by omega⟩, d, rfl⟩, fun i i0 i1 hi => ?_⟩
            by_cases z : i = x
            · rw [z]; exact Int.le_refl _
            · exact absurd hi (hn i i0 (by omega))
          · have hdi0 := B.2.2.2.2 i i0 (by omega)
            by_cases z : dp (ks x) < u 82 (a + 3)
            · rw [if_pos ⟨d, Or.inr z⟩]
              refine Or.inr ⟨⟨x, ⟨x0, by omega⟩, d, rfl⟩, fun i i0 i1 hi => ?_⟩
              by_cases q : i = x
              · rw [q]; exact Int.le_refl _
              · have := hall i i0 (by omega) hi
                omega
            · rw [if_neg (fun q => by omega)]
              refine Or.inr ⟨⟨i, ⟨i0, by omega⟩, hi, hdi⟩, fun t t0 t1 ht => ?_⟩
              by_cases q : t = x
              · rw [q]; omega
              · exact hall t t0 (by omega) ht
        · rw [if_neg (fun q => d q.1)]
          rcases c3 with ⟨y1, hn⟩ | ⟨⟨i, ⟨i0, i1⟩, hi, hdi⟩, hall⟩
          · refine Or.inl ⟨y1, fun i i0 i1 => ?_⟩
            by_cases z : i = x
            · rw [z]; exact d
            · exact hn i i0 (by omega)
          · refine Or.inr ⟨⟨i, ⟨i0, by omega⟩, hi, hdi⟩, fun t t0 t1 ht => ?_⟩
            by_cases q : t = x
            · rw [q] at ht
              exact absurd ht d
            · exact hall t t0 (by omega) ht
      · have hxM : x = M := by omega
        rw [hxM] at hW
        exact h63 u hu hW h0 hfr h83
  refine kT_st a0 (by omega) ?_
  rw [w32_ok (z := a + 3) (by omega) (by omega)]
  refine kT_st (by omega) (by omega) ?_
  have hF2 : cFd n e g K N r M ks w2 := ⟨hV2, hss.2.1, hss.2.2.1⟩
  have ev : ∀ i, qud (qud w2 82 a (w2 81 13)) 82 (a + 3) (-1) 82 i = if i = a + 3 then -1 else if i = a then M else w 82 i := fun i => by rw [qud_if, qud_if, hss.2.1, e82]
  refine h35 qFU 0 _ (by decide) (by omega) (qFU_gt (by omega)) ((hF2.wr (by decide)).wr (by decide)) (by rw [qud_row (by decide), qud_row (by decide)]) ⟨⟨?_, ?_⟩, ?_, ?_, ?_⟩ ?_ (fun i hi => ?_) ?_
  · rw [ev, if_neg (by omega), if_neg (by omega), z1]; rfl
  · rw [ev, if_neg (by omega), if_neg (by omega), z2]; rfl
  · rw [ev, if_pos rfl]
    exact Or.inl ⟨rfl, fun i a b => by omega⟩
  · rw [ev, if_neg (by omega), if_neg (by omega), z4]
    exact Mx.z
  · rw [ev, if_neg (by omega), if_neg (by omega), z5]; rfl
  · rw [ev, if_neg (by omega), if_pos rfl]
  · rw [ev, if_neg (by omega), if_neg (by omega)]
  · rw [qud_row (by decide), qud_row (by decide)]
    exact e83
theorem x_aloneV (hG : GLo w) (hN : KNo w) : kT (f_X_alone n e r x w) (fun q => ANS n e r x q.1 ∧ KNo q.2) := by
  have hcan : (ne_ok n e ∧ f_L_canBe n e w = some (1, w)) ∨ (¬ ne_ok n e ∧ f_L_canBe n e w = some (0, w)) := by
    have hb : ¬ ((2 ≤ n ∧ n ≤ 3) ∧ 1 ≤ e ∧ e ≤ 3) → (ne_ok n e ∧ f_L_canBe_18 n e w = some (1, w)) ∨ (¬ ne_ok n e ∧ f_L_canBe_18 n e w = some (0, w)) := by
      intro h
      unfold f_L_canBe_18
      by_cases a : n = 4
      · rw [if_pos a]
        by_cases b : e = 1
        · rw [if_pos b]; exact Or.inl ⟨Or.inr (Or.inr ⟨a, b⟩), rfl⟩
        · rw [if_neg b]; exact Or.inr ⟨fun z => by unfold ne_ok at z; omega, rfl⟩
      · rw [if_neg a]; exact Or.inr ⟨fun z => by unfold ne_ok at z; omega, rfl⟩
    unfold f_L_canBe
    rw [qbd x_within]
    dsimp only
    rw [bi_if]
    by_cases a : 2 ≤ n ∧ n ≤ 3
    · rw [if_pos a, qbd x_within]
      dsimp only
      rw [bi_if]
      by_cases b : 1 ≤ e ∧ e ≤ 3
      · rw [if_pos b]
        refine Or.inl ⟨?_, rfl⟩
        unfold ne_ok
        omega
      · rw [if_neg b]; exact hb (fun z => b z.2)
    · rw [if_neg a]; exact hb (fun z => a z.1)
  suffices hh : kT (f_L_answer n e r x w) (fun q => ANS n e r x q.1 ∧ KNo q.2) by
    unfold f_X_alone
    exact kT_bind hh (fun r hr => kT_some hr)
  unfold f_L_answer
  rcases hcan with ⟨hne, hc⟩ | ⟨hne, hc⟩
  · refine kT_eq hc ?_
    refine kT_if (fun z => absurd z (show ¬ (1 : Int) = 0 by decide)) (fun _ => ?_)
    refine kT_eq x_within ?_
    dsimp only
    rw [bi_if]
    refine kT_if (fun hr => ?_) (fun hr => kT_some ⟨Or.inr ⟨fun z => hr z.2.1, rfl⟩, hN⟩)
    refine kT_eq x_within ?_
    dsimp only
    rw [bi_if]
    refine kT_if (fun hx => ?_) (fun hx => kT_some ⟨Or.inr ⟨fun z => hx z.2.2, rfl⟩, hN⟩)
    have hq : 0 ≤ ((n - 2) * 3 + e - 1) * 3 + r ∧ ((n - 2) * 3 + e - 1) * 3 + r ≤ 20 := by
      unfold ne_ok at hne
      omega
    have eq : w32 ((w32 ((w32 ((w32 ((w32 ((w32 (n - 2)) * 3)) + e)) - 1)) * 3)) + r) = ((n - 2) * 3 + e - 1) * 3 + r := by
      unfold ne_ok at hne
      rw [w32_ok (z := n - 2) (by omega) (by omega), w32_ok (z := (n - 2) * 3) (by omega) (by omega), w32_ok (z := (n - 2) * 3 + e) (by omega) (by omega), w32_ok (z := (n - 2) * 3 + e - 1) (by omega) (by omega), w32_ok (z := ((n - 2) * 3 + e - 1) * 3) (by omega) (by omega), w32_ok (by omega) (by omega)]
    rw [eq]
    generalize hqq : ((n - 2) * 3 + e - 1) * 3 + r = q at *
    have h75 : ∀ u, KNo u → u 83 q ≠ 0 → kT (f_L_answer_75 x q u) (fun q => ANS n e r x q.1 ∧ KNo q.2) := by
      intro u hu h83
      unfold f_L_answer_75
      rw [w32_ok (z := q * 8) (by omega) (by omega), w32_ok (by omega) (by omega), qld_ok (by omega) (by omega)]
      refine kT_some ⟨Or.inl ⟨⟨hne, hr, hx⟩, ?_⟩, hu⟩
      rcases hu q hq.1 (by omega) with ⟨z, -⟩ | ⟨-, z⟩
      · exact absurd z h83
      · have h2 := z x hx.1 hx.2
        rw [show q * 8 + x = 8 * q + x by omega]
        rw [← hqq] at h2 ⊢
        exact ALq.al hne hr h2
    rw [qld_ok hq.1 (by omega), w32_ok (z := q * 8) (by omega) (by omega)]
    refine kT_if (fun z => ?_) (fun z => h75 w hN z)
    rcases hN q hq.1 (by omega) with ⟨-, y1, y2, y4, y5⟩ | ⟨y, -⟩
    · obtain ⟨K, N, hk, -⟩ := nek_of hne
      refine kT_bind (l_solveV hk hr hG (a := q * 8) (by omega) (by omega) (by rw [show q * 8 + 1 = 8 * q + 1 by omega]; exact y1) (by rw [show q * 8 + 2 = 8 * q + 2 by omega]; exact y2) (by rw [show q * 8 + 4 = 8 * q + 4 by omega]; exact y4) (by rw [show q * 8 + 5 = 8 * q + 5 by omega]; exact y5)) (fun w1 h1 => ?_)
      obtain ⟨⟨M, ks, dp, B, hv⟩, hfr, h83⟩ := h1
      rw [qstz_ok hq.1 (by omega) (Or.inr rfl)]
      refine h75 _ (fun q' q0 q1 => ?_) (by rw [qud_s]; decide)
      rw [qud_nk (show (82 : Nat) ≠ 83 by decide), qud_nk (show (82 : Nat) ≠ 83 by decide), qud_nk (show (82 : Nat) ≠ 83 by decide), qud_nk (show (82 : Nat) ≠ 83 by decide), qud_if, qud_row (show (82 : Nat) ≠ 83 by decide)]
      by_cases e' : q' = q
      · rw [if_pos e']
        refine Or.inr ⟨by decide, fun x x0 x7 => ⟨n, e, r, ⟨hne, hr⟩, by rw [e', hqq], K, N, M, ks, dp, hk, B, ?_⟩⟩
        rw [e', show 8 * q + x = q * 8 + x by omega]
        exact hv x x0 x7
      · rw [if_neg e', h83, hfr _ (by omega), hfr _ (by omega), hfr _ (by omega), hfr _ (by omega)]
        rcases hN q' q0 q1 with h | ⟨h, h2⟩
        · exact Or.inl h
        · refine Or.inr ⟨h, fun x x0 x7 => ?_⟩
          rw [hfr _ (by omega)]
          exact h2 x x0 x7
    · exact absurd z y
  · refine kT_eq hc ?_
    refine kT_if (fun _ => kT_some ⟨Or.inr ⟨fun z => hne z.1, rfl⟩, hN⟩) (fun c => absurd rfl c)
end BC
