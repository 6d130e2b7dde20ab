/-! what the reference writes -/
def RMP (P : Nat → Int → Prop) (w S : qMem) : Prop := ∀ (f : Nat) (n : Int), vv f n → P f n → w 89 (ad f n) = S f n
theorem ad_20 {q : Int} : ad 20 q = 4266 + 7 * q := rfl
theorem ad_21 {n : Int} : ad 21 n = 4267 + 7 * (n / 6) + n % 6 := rfl
theorem ad_18 {n : Int} : ad 18 n = 28 + 17 * (n / 5) + n % 5 := rfl
theorem ad_23 {n : Int} : ad 23 n = 5514 + n := rfl
theorem ad_31 {n : Int} : ad 31 n = 5370 + n := rfl
theorem ad_32 {n : Int} : ad 32 n = 5434 + n := rfl
theorem ad_33 {n : Int} : ad 33 n = 5834 + n := rfl
theorem ad_34 {n : Int} : ad 34 n = 5450 + n := rfl
theorem vv_0_6 : vv 0 6 := by unfold vv; omega
theorem vv_0_7 : vv 0 7 := by unfold vv; omega
theorem vv_0_8 : vv 0 8 := by unfold vv; omega
theorem vv_0_9 : vv 0 9 := by unfold vv; omega
theorem vv_0_10 : vv 0 10 := by unfold vv; omega
theorem vv_0_11 : vv 0 11 := by unfold vv; omega
theorem vv_0_12 : vv 0 12 := by unfold vv; omega
theorem vv_1_3 : vv 1 3 := by unfold vv; omega
theorem vv_1_4 : vv 1 4 := by unfold vv; omega
theorem vv_5_13 : vv 5 13 := by unfold vv; omega
theorem vv_5_14 : vv 5 14 := by unfold vv; omega
theorem vv_22_1 : vv 22 1 := by unfold vv; omega
theorem vv_24_9 : vv 24 9 := by unfold vv; omega
theorem vv_35_0 : vv 35 0 := by unfold vv; omega
theorem vv_35_1 : vv 35 1 := by unfold vv; omega
theorem vv_35_2 : vv 35 2 := by unfold vv; omega
section MW
variable {w w' S : qMem} {v k d p q n r : Int} {f : Nat} {P Q : Nat → Int → Prop}
theorem RMP.of (h : RM w S) : RMP (lv S) w S := fun f n _ hl => h f n hl
theorem RMP.u {a : Int} (h : RMP P w S) (hf : vv f n) (ha : a = ad f n) : RMP (fun f' n' => P f' n' ∨ (f' = f ∧ n' = n)) (qud w 89 a v) (qud S f n v) := by
  intro f' n' hv hp
  subst ha
  by_cases e : f' = f ∧ n' = n
  · rw [e.1, e.2, qud_s, qud_s]
  · rw [show qud S f n v f' n' = S f' n' from if_neg e, qud_ni (fun q => e (ad_inj hv hf q))]
    exact h f' n' hv (hp.resolve_right e)
theorem RMP.fin (h : RMP P w S) (hl : ∀ f n, lv S f n → P f n) : RM w S := fun f n hv => h f n (vv_of hv) (hl f n hv)
/-- a write to a place of which nothing else depends -/
theorem RM.wr {a : Int} (h : RM w S) (hf : vv f n) (ha : a = ad f n) (h1 : f ≠ 1) (h5 : f ≠ 5) (h12 : f ≠ 12) (h20 : f ≠ 20) (h22 : f ≠ 22) : RM (qud w 89 a v) (qud S f n v) := by
  subst ha
  exact h.u hf h1 (fun z => absurd z h5) h12 h20 h22
theorem RM.w5 {a : Int} (h : RM w S) (ha : a = 8) : RM (qud w 89 a v) (qud S 5 14 v) := by
  subst ha
  exact h.u vv_5_14 (by decide) (fun _ => by decide) (by decide) (by decide) (by decide)
theorem m_comes (h : RM w S) (v0 : 0 ≤ v) (v1 : v < 16) (k0 : 0 ≤ k) (k1 : k < 9) (s0 : 0 ≤ S 20 (v * 9 + k)) (s1 : S 20 (v * 9 + k) < 6) : kT (f_M_comes v k p w) (fun w' => RM w' (spu S (v * 9 + k) p) ∧ FM w w') := by
  have e20 := rm_20 h (n := v * 9 + k) (by omega) (by omega) rfl
  unfold f_M_comes spu
  rw [m_queueAt v0 v1 k0 k1, if_pos s1]
  simp only [Option.bind_some]
  rw [qld_ok (by omega) (by omega), qst_ok (by omega) (by omega), qld_ok (by omega) (by omega), qud_s, e20, w32_ok (z := S 20 (v * 9 + k) + 1) (by omega) (by omega), w32_ok (by omega) (by omega), qst_ok (by omega) (by omega), qud_cm (Or.inr (by omega))]
  refine kT_some ⟨RMP.fin (((RMP.of h).u (f := 21) (n := (v * 9 + k) * 6 + S 20 (v * 9 + k)) (by unfold vv; omega) (by rw [ad_21]; omega)).u (f := 20) (n := v * 9 + k) (by unfold vv; omega) (by rw [ad_20])) (fun f n hl => ?_), (FM.rfl'.q).q⟩
  obtain ⟨l0, l1, l2, l3, l4, l5⟩ := hl
  simp only [qud_nk (show (5 : Nat) ≠ 20 by decide), qud_nk (show (5 : Nat) ≠ 21 by decide), qud_nk (show (1 : Nat) ≠ 20 by decide), qud_nk (show (1 : Nat) ≠ 21 by decide), qud_nk (show (22 : Nat) ≠ 20 by decide), qud_nk (show (22 : Nat) ≠ 21 by decide), qud_nk (show (12 : Nat) ≠ 20 by decide), qud_nk (show (12 : Nat) ≠ 21 by decide), qud_if, qud_nk (show (20 : Nat) ≠ 21 by decide)] at l1 l2 l3 l4 l5
  by_cases e3 : f = 21 ∧ n = (v * 9 + k) * 6 + S 20 (v * 9 + k)
  · exact Or.inl (Or.inr e3)
  · refine Or.inl (Or.inl ⟨l0, l1, l2, fun hf => ?_, l4, l5⟩)
    have := l3 hf
    by_cases e4 : n / 6 = v * 9 + k
    · rw [if_pos e4] at this
      rw [e4]; omega
    · rw [if_neg e4] at this
      exact this
theorem m_leaves (h : RM w S) (v0 : 0 ≤ v) (v1 : v < 16) (k0 : 0 ≤ k) (k1 : k < 9) (s0 : 0 < S 20 (v * 9 + k)) (s1 : S 20 (v * 9 + k) ≤ 6) : kT (f_M_leaves v k w) (fun w' => RM w' (sdr S (v * 9 + k)) ∧ FM w w') := by
  have e20 := rm_20 h (n := v * 9 + k) (by omega) (by omega) rfl
  unfold f_M_leaves
  rw [qbd (m_queueAt v0 v1 k0 k1)]
  have q0 : 0 ≤ v * 9 + k := by omega
  have q1 : v * 9 + k < 144 := by omega
  generalize v * 9 + k = q at *
  have := k_loop (σ := qMem) (ρ := qMem) (S 20 q) (fun m i s => f_M_leaves_9 m (4266 + 7 * q) i s) (fun s => f_M_leaves_46 (4266 + 7 * q) s)
    (fun i s => (1 ≤ i ∧ i ≤ S 20 q) ∧ ∀ k j, s k j = if k = 89 ∧ 4266 + 7 * q + 1 ≤ j ∧ j < 4266 + 7 * q + i then w 89 (j + 1) else w k j)
    (by
      intro m i s ⟨⟨i0, i1⟩, hs⟩ hi
      have h20 : s 89 (4266 + 7 * q) = S 20 q := by rw [hs, if_neg (by omega), e20]
      refine ⟨qud s 89 (4266 + 7 * q + i) (s 89 (4266 + 7 * q + i + 1)), ⟨⟨by omega, by omega⟩, ?_⟩, ?_⟩
      · intro k j
        by_cases e : k = 89 ∧ j = 4266 + 7 * q + i
        · rw [e.1, e.2, qud_s, hs, if_neg (by omega), if_pos (by omega)]
        · rw [show qud s 89 (4266 + 7 * q + i) (s 89 (4266 + 7 * q + i + 1)) k j = s k j from if_neg e, hs]
          by_cases e2 : k = 89 ∧ 4266 + 7 * q + 1 ≤ j ∧ j < 4266 + 7 * q + i
          · rw [if_pos e2, if_pos (by omega)]
          · rw [if_neg e2, if_neg (by omega)]
      · rw [f_M_leaves_9, qld_ok (by omega) (by omega), h20, if_pos hi]
        simp (disch := omega) only [w32_ok]
        rw [qld_ok (by omega) (by omega), qst_ok (by omega) (by omega)])
    (by
      intro m s ⟨_, hs⟩
      have h20 : s 89 (4266 + 7 * q) = S 20 q := by rw [hs, if_neg (by omega), e20]
      rw [f_M_leaves_9, qld_ok (by omega) (by omega), h20, if_neg (by omega)])
    qFU 1 w ⟨by omega, fun k j => by rw [if_neg (by omega)]⟩ (by omega) (qFU_gt (by omega))
  obtain ⟨s, ⟨-, hs⟩, e⟩ := this
  rw [e]
  have h20 : s 89 (4266 + 7 * q) = S 20 q := by rw [hs, if_neg (by omega), e20]
  unfold f_M_leaves_46
  rw [qld_ok (by omega) (by omega), qst_ok (by omega) (by omega), h20, w32_ok (by omega) (by omega)]
  refine kT_some ⟨?_, ?_⟩
  · intro f n hl
    have hc := ad_c (vv_of hl)
    by_cases ef : f = 20 ∧ n = q
    · rw [ef.1, ef.2, sdr_20 s0, if_pos rfl, ad_20, qud_s]
    · have hne : ad f n ≠ 4266 + 7 * q := fun z => ef (ad_inj (vv_of hl) (show vv 20 q by unfold vv; omega) (by rw [ad_20]; exact z))
      rw [qud_ni hne, hs]
      by_cases e3 : f = 21 ∧ q * 6 ≤ n ∧ n < q * 6 + (S 20 q - 1)
      · obtain ⟨rfl, e3⟩ := e3
        rw [sdr_21 s0, if_pos e3, if_pos ⟨rfl, by rw [ad_21]; omega⟩]
        exact rm_21 h (by omega) (by omega) (by rw [show (n + 1) / 6 = q by omega]; omega) (by rw [ad_21]; omega)
      · have e5 : sdr S q f n = S f n := by
          unfold sdr
          rw [if_neg (by omega), if_neg ef, if_neg e3]
        rw [e5, if_neg (by omega)]
        refine h f n ?_
        obtain ⟨l0, l1, l2, l3, l4, l5⟩ := hl
        rw [sdr_f (by decide) (by decide)] at l1 l4 l5
        rw [sdr_f (f := 5) (by decide) (by decide), sdr_f (f := 12) (by decide) (by decide)] at l2
        refine ⟨l0, l1, l2, fun hf21 => ?_, l4, l5⟩
        have := l3 hf21
        rw [sdr_20 s0] at this
        by_cases e6 : n / 6 = q
        · rw [if_pos e6] at this
          rw [e6]; omega
        · rw [if_neg e6] at this
          exact this
  · intro k hk
    funext j
    rw [qud_nk hk, hs, if_neg (fun z => hk z.1)]
theorem sltL_m (h : RM w S) (I : IV S) (p0 : 0 ≤ p) (p1 : p < S 5 13) : ∀ (m j : Nat) (i : Int), 0 ≤ i → (S 5 13 - i).toNat = j → j < m → f_M_isOvertaken_4 m p i w = some (bi (sltL S p j i), w) := by
  have c1 := I.1.2.2.2.2.2.2.1.2
  intro m
  induction m with
  | zero => intro j i _ _ h; omega
  | succ m ih =>
    intro j i i0 hj hm
    rw [f_M_isOvertaken_4, qld_ok (by decide) (by decide), rm_5_13 h]
    by_cases e : i < S 5 13
    · obtain ⟨j', rfl⟩ : ∃ j', j = j' + 1 := ⟨j - 1, by omega⟩
      have IH := ih j' (i + 1) (by omega) (by omega) (by omega)
      rw [if_pos e, m_of h i0 e c1 (f := 6) (by decide) (by decide) (by decide), sltL]
      simp only [Option.bind_some]
      rw [m_of h p0 p1 c1 (f := 6) (by decide) (by decide) (by decide)]
      simp only [Option.bind_some]
      rw [w32_ok (by omega) (by omega)]
      by_cases e1 : S 6 i = S 6 p
      · rw [if_pos e1, if_pos e1, m_of h i0 e c1 (f := 7) (by decide) (by decide) (by decide)]
        simp only [Option.bind_some]
        rw [m_of h p0 p1 c1 (f := 7) (by decide) (by decide) (by decide)]
        simp only [Option.bind_some]
        by_cases e2 : S 7 i = S 7 p
        · rw [if_pos e2, if_pos e2, m_of h i0 e c1 (f := 13) (by decide) (by decide) (by decide)]
          simp only [Option.bind_some]
          have h3 := (I.2.1.1 i i0 e).2.2.2.1
          by_cases e3 : S 13 i = -1
          · rw [if_pos e3, if_neg (fun z => (h3.mp z) e3)]
            exact IH
          · rw [if_neg e3, if_pos (h3.mpr e3)]
            rfl
        · rw [if_neg e2, if_neg e2]
          exact IH
      · rw [if_neg e1, if_neg e1]
        exact IH
    · have : j = 0 := by omega
      subst this
      rw [if_neg e]
      rfl
theorem m_isOvertaken (h : RM w S) (I : IV S) (p0 : 0 ≤ p) (p1 : p < S 5 13) : f_M_isOvertaken p w = some (bi (slt S p), w) := by
  have c1 := I.1.2.2.2.2.2.2.1.2
  unfold f_M_isOvertaken
  rw [w32_ok (by omega) (by omega)]
  exact sltL_m h I p0 p1 qFU (S 5 13 - (p + 1)).toNat (p + 1) (by omega) rfl (by unfold qFU; omega)
end MW
/-- what reads of packets alone stays -/
theorem sltL_co {S S' : qMem} {p : Int} (e6 : S' 6 = S 6) (e7 : S' 7 = S 7) (e9 : S' 9 = S 9) : ∀ (j : Nat) (i : Int), sltL S' p j i = sltL S p j i := by
  intro j
  induction j with
  | zero => intro i; rfl
  | succ j ih =>
    intro i
    rw [sltL, sltL, e6, e7, e9, ih]
section MV
variable {w w' S : qMem} {v k d p q n r : Int} {f : Nat}
theorem slt_dr : slt (sdr S q) p = slt S p := by
  unfold slt
  rw [sdr_f (f := 5) (by decide) (by decide)]
  exact sltL_co (sdr_f (by decide) (by decide)) (sdr_f (by decide) (by decide)) (sdr_f (by decide) (by decide)) _ _
theorem m_ovt_dr {S' : qMem} (h : RM w (sdr S q)) (I : IV S) (p0 : 0 ≤ p) (p1 : p < S 5 13) : f_M_isOvertaken p w = some (bi (slt S p), w) := by
  have c1 := I.1.2.2.2.2.2.2.1.2
  have r : ∀ g : Nat, g ≠ 20 → g ≠ 21 → sdr S q g = S g := fun g a b => sdr_f a b
  have key : ∀ (m j : Nat) (i : Int), 0 ≤ i → (S 5 13 - i).toNat = j → j < m → f_M_isOvertaken_4 m p i w = some (bi (sltL S p j i), w) := by
    intro m
    induction m with
    | zero => intro j i _ _ h; omega
    | succ m ih =>
      intro j i i0 hj hm
      have c5 : sdr S q 5 13 = S 5 13 := by rw [r 5 (by decide) (by decide)]
      have mo : ∀ (f : Nat) (i k : Int), 0 ≤ i → i < S 5 13 → 6 ≤ f → f ≤ 17 → k = (f : Int) - 6 → f_M_of i k w = some (S f i, w) := by
        intro f i k a b c d e
        rw [m_of h a (by rw [c5]; exact b) (by rw [c5]; exact c1) c d e, r f (by omega) (by omega)]
      rw [f_M_isOvertaken_4, qld_ok (by decide) (by decide), rm_5_13 h, c5]
      by_cases e : i < S 5 13
      · obtain ⟨j', rfl⟩ : ∃ j', j = j' + 1 := ⟨j - 1, by omega⟩
        have IH := ih j' (i + 1) (by omega) (by omega) (by omega)
        rw [if_pos e, mo 6 i 0 i0 e (by decide) (by decide) (by decide), sltL]
        simp only [Option.bind_some]
        rw [mo 6 p 0 p0 p1 (by decide) (by decide) (by decide)]
        simp only [Option.bind_some]
        rw [w32_ok (by omega) (by omega)]
        by_cases e1 : S 6 i = S 6 p
        · rw [if_pos e1, if_pos e1, mo 7 i 1 i0 e (by decide) (by decide) (by decide)]
          simp only [Option.bind_some]
          rw [mo 7 p 1 p0 p1 (by decide) (by decide) (by decide)]
          simp only [Option.bind_some]
          by_cases e2 : S 7 i = S 7 p
          · rw [if_pos e2, if_pos e2, mo 13 i 7 i0 e (by decide) (by decide) (by decide)]
            simp only [Option.bind_some]
            have h3 := (I.2.1.1 i i0 e).2.2.2.1
            by_cases e3 : S 13 i = -1
            · rw [if_pos e3, if_neg (fun z => (h3.mp z) e3)]
              exact IH
            · rw [if_neg e3, if_pos (h3.mpr e3)]
              rfl
          · rw [if_neg e2, if_neg e2]
            exact IH
        · rw [if_neg e1, if_neg e1]
          exact IH
      · have : j = 0 := by omega
        subst this
        rw [if_neg e]
        rfl
  unfold f_M_isOvertaken
  rw [w32_ok (by omega) (by omega)]
  exact key qFU (S 5 13 - (p + 1)).toNat (p + 1) (by omega) rfl (by unfold qFU; omega)
theorem m_del57 {b : Int} (h : RM w S) (p0 : 0 ≤ p) (p1 : p < S 5 13) (hc : S 5 13 ≤ 250) (hck : 0 ≤ S 0 10 ∧ S 0 10 ≤ 1000000) (hb : 0 ≤ S 8 p ∧ S 8 p ≤ S 0 10) : kT (f_M_delivers_57 (16 + 17 * p + 9) b (16 + 17 * p) w) (fun w' => RM w' (qud (qud (qud (qud (qud (qud S 15 p b) 9 p 3) 13 p (S 0 10)) 5 14 (w32 (S 5 14 + 1))) 35 0 (w32 (S 35 0 + (S 0 10 - S 8 p)))) 35 2 (w32 (S 35 2 + b))) ∧ FM w w') := by
  have vp : ∀ g : Nat, 6 ≤ g → g ≤ 17 → vv g p := fun g a b => by unfold vv; omega
  have e10 := rm_0_10 h
  have e8 := rm_8 h p0 p1 hc (i := 16 + 17 * p + 2) (by omega)
  unfold f_M_delivers_57
  rw [w32_ok (z := 16 + 17 * p + 7) (by omega) (by omega), w32_ok (z := 16 + 17 * p + 3) (by omega) (by omega), w32_ok (z := 16 + 17 * p + 9) (by omega) (by omega), w32_ok (z := 16 + 17 * p + 2) (by omega) (by omega)]
  simp (disch := omega) only [qst_ok, qld_ok]
  simp (disch := omega) only [qud_ni, qud_s]
  rw [e10, e8, rm_5_14 h, rm_35_0 h, rm_35_2 h, w32_ok (z := S 0 10 - S 8 p) (by omega) (by omega)]
  refine kT_some ⟨?_, FM.rfl'.q.q.q.q.q.q⟩
  have h1 := h.wr (f := 15) (n := p) (v := b) (a := 16 + 17 * p + 9) (vp _ (by decide) (by decide)) (by rw [ad_pk (by decide) (by decide)]; omega) (by decide) (by decide) (by decide) (by decide) (by decide)
  have h2 := h1.wr (f := 13) (n := p) (v := S 0 10) (a := 16 + 17 * p + 7) (vp _ (by decide) (by decide)) (by rw [ad_pk (by decide) (by decide)]; omega) (by decide) (by decide) (by decide) (by decide) (by decide)
  have h3 := h2.wr (f := 9) (n := p) (v := 3) (a := 16 + 17 * p + 3) (vp _ (by decide) (by decide)) (by rw [ad_pk (by decide) (by decide)]; omega) (by decide) (by decide) (by decide) (by decide) (by decide)
  have h4 := h3.wr (f := 35) (n := 2) (v := w32 (S 35 2 + b)) (a := 13) vv_35_2 rfl (by decide) (by decide) (by decide) (by decide) (by decide)
  have h5 := h4.w5 (v := w32 (S 5 14 + 1)) (a := 8) rfl
  have h6 := h5.wr (f := 35) (n := 0) (v := w32 (S 35 0 + (S 0 10 - S 8 p))) (a := 9) vv_35_0 rfl (by decide) (by decide) (by decide) (by decide) (by decide)
  have es : qud (qud (qud (qud (qud (qud S 15 p b) 13 p (S 0 10)) 9 p 3) 35 2 (w32 (S 35 2 + b))) 5 14 (w32 (S 5 14 + 1))) 35 0 (w32 (S 35 0 + (S 0 10 - S 8 p))) = qud (qud (qud (qud (qud (qud S 15 p b) 9 p 3) 13 p (S 0 10)) 5 14 (w32 (S 5 14 + 1))) 35 0 (w32 (S 35 0 + (S 0 10 - S 8 p)))) 35 2 (w32 (S 35 2 + b)) := by
    rw [qud_cm (w := qud S 15 p b) (k := 13) (k' := 9) (Or.inl (by decide)), qud_cm (k := 35) (k' := 5) (Or.inl (by decide)), qud_cm (k := 35) (k' := 35) (Or.inr (by decide))]
  rw [← es]
  exact h6
theorem m_delivers (h : RM w S) (I : IV S) (v0 : 0 ≤ v) (v1 : v < S 1 3 * S 1 4) (k0 : 0 ≤ k) (k1 : k < 9) : kT (f_M_delivers v k w) (fun w' => RM w' (sdl S v k) ∧ FM w w') := by
  have hN := gN I.1.1
  have hc := I.1.2.2.2.2.2.2.1.2
  have hck := I.1.2.2.2.2.2.1
  unfold f_M_delivers
  rw [m_firstOf h I.w.2.2.2 v0 (by omega) k0 k1]
  simp only [Option.bind_some]
  by_cases e : sfst S (v * 9 + k) = -1
  · have ef : sdl S v k = S := by
      unfold sdl sin
      rw [if_pos e]
      rfl
    rw [if_pos e, ef]
    exact kT_some ⟨h, FM.rfl'⟩
  · obtain ⟨⟨p0, p1⟩, ⟨hp, hs⟩, -⟩ := first_at I v0 v1 k0 k1 e
    have hpk := I.2.1.1 _ p0 p1
    rw [if_neg e, m_of h p0 p1 hc (f := 7) (by decide) (by decide) (by decide)]
    simp only [Option.bind_some]
    by_cases e2 : S 7 (sfst S (v * 9 + k)) = v
    · have ef : sdl S v k = sdv (sdr S (v * 9 + k)) (sfst S (v * 9 + k)) (S 0 10) := by
        unfold sdl sin
        rw [if_neg e, decide_eq_true e2, if_pos rfl]
      have r : ∀ g : Nat, g ≠ 20 → g ≠ 21 → sdr S (v * 9 + k) g = S g := fun g a b => sdr_f a b
      rw [if_pos e2]
      obtain ⟨w1, e1, h1, f1⟩ := m_leaves h v0 (by omega : v < 16) k0 k1 hs (I.w.2.2.2 _ (by omega) (by omega)).1.2
      rw [e1]
      simp only [Option.bind_some]
      rw [m_packetAt p0 (by omega)]
      simp only [Option.bind_some]
      rw [m_ovt_dr (S' := S) h1 I p0 p1]
      simp only [Option.bind_some]
      rw [w32_ok (by omega) (by omega)]
      have main : ∀ b, bi (slt S (sfst S (v * 9 + k))) = b → kT (f_M_delivers_57 (16 + 17 * sfst S (v * 9 + k) + 9) b (16 + 17 * sfst S (v * 9 + k)) w1) (fun w' => RM w' (sdl S v k) ∧ FM w w') := by
        intro b hb
        refine kT_mono (m_del57 (b := b) h1 p0 (by rw [r 5 (by decide) (by decide)]; exact p1) (by rw [r 5 (by decide) (by decide)]; exact hc) (by rw [r 0 (by decide) (by decide)]; exact hck) (by rw [r 0 (by decide) (by decide), r 8 (by decide) (by decide)]; exact hpk.2.1.1)) (fun w' hw => ⟨?_, f1.tr hw.2⟩)
        rw [ef]
        unfold sdv
        rw [slt_dr, hb]
        have := hw.1
        rw [r 0 (by decide) (by decide)] at this
        exact this
      cases hsl : slt S (sfst S (v * 9 + k)) with
      | false =>
        rw [if_bf]
        exact main 0 (by rw [hsl]; rfl)
      | true =>
        rw [if_bt]
        exact main 1 (by rw [hsl]; rfl)
    · have ef : sdl S v k = S := by
        unfold sdl sin
        rw [if_neg e, decide_eq_false e2, if_neg (by decide)]
      rw [if_neg e2, ef]
      exact kT_some ⟨h, FM.rfl'⟩
end MV
