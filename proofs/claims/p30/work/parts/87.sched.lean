/-! schedules, the class: keys, bringing a state back -/
def kdv : Nat → Int → Int
  | 0, x => x
  | n + 1, x => kdv n (x / 4)
def krs (key i : Int) : Int := if i = 2 then kdv 16 key else if i = 1 then kdv 16 key / 1024 else kdv 16 key / 1024 / 1024
def ksp (key i : Int) : Int := krs key i / 4 % 256
def SPo (N x : Int) : Prop := x = 144 ∨ (0 ≤ x ∧ x < 9 * N)
def KOK (N key : Int) : Prop := (0 ≤ key ∧ key < 4611686018427387904) ∧ ∀ i, 0 ≤ i → i < 3 → SPo N (ksp key i)
def CRb (S : qMem) : Prop := ∀ r, 0 ≤ r → r < 2 * (S 1 3 + S 1 4) → 0 ≤ S 25 r ∧ S 25 r ≤ 15 ∧ (2 * S 1 4 ≤ r → S 25 r < 4 * S 1 3)
/-- the net of the search -/
def tNW (W H C : Int) (w : qMem) : Prop := ∃ S, NX 37 w S ∧ IW S ∧ CRb S ∧ (S 1 3 = W ∧ S 1 4 = H) ∧ S 5 13 = C
def tFS (w w' : qMem) : Prop := ∀ k, (k < 37 ∨ (72 ≤ k ∧ k < 74) ∨ 80 < k) → w' k = w k
def tTB (N C : Int) (w : qMem) : Prop := ((0 ≤ w 74 6 ∧ w 74 6 ≤ 3) ∧ ∀ i, 0 ≤ i → i < w 74 6 → 0 ≤ w 77 i ∧ w 77 i < C) ∧ ((0 ≤ w 74 7 ∧ w 74 7 ≤ 400) ∧ ∀ s, 0 ≤ s → s < w 74 7 → KOK N (w 75 s)) ∧ ∀ i, 0 ≤ i → i < 3 → SPo N (w 78 i)
def tTW (W H C : Int) (w0 w : qMem) : Prop := tNW W H C w ∧ tFS w0 w ∧ tTB (W * H) C w
def tMK (w w' : qMem) : Prop := w' 74 6 = w 74 6 ∧ w 74 7 ≤ w' 74 7 ∧ (∀ i, w' 77 i = w 77 i) ∧ ∀ s, 0 ≤ s → s < w 74 7 → w' 75 s = w 75 s
def tSD (key : Int) (w : qMem) : Prop := ∀ i, 0 ≤ i → i < 3 → w 78 i = ksp key i
section TS
variable {w w' w0 w2 S T : qMem} {W H C N key x r i v q s : Int} {k : Nat}
theorem kdv_in : ∀ (n : Nat) (x : Int), 0 ≤ x → 0 ≤ kdv n x ∧ kdv n x ≤ x := by
  intro n
  induction n with
  | zero => intro x h; exact ⟨h, Int.le_refl _⟩
  | succ n ih =>
    intro x h
    have := ih (x / 4) (by omega)
    show 0 ≤ kdv n (x / 4) ∧ kdv n (x / 4) ≤ x
    omega
theorem krs_in (h0 : 0 ≤ key) (h1 : key < 4611686018427387904) : 0 ≤ krs key i ∧ krs key i < 4611686018427387904 := by
  have := kdv_in 16 key h0
  unfold krs
  split
  · omega
  · split <;> omega
theorem tFS.rfl' : tFS w w := fun _ _ => rfl
theorem tFS.tr (h : tFS w w') (h2 : tFS w' w2) : tFS w w2 := fun k hk => (h2 k hk).trans (h k hk)
theorem tFS.wr (h : tFS w w') (hk : (37 ≤ k ∧ k < 72) ∨ (74 ≤ k ∧ k ≤ 80)) : tFS w (qud w' k i v) := fun k' hk' => by
  funext j
  rw [qud_nk (by omega), h k' hk']
theorem tFS.f37 (h : tFS w w') (h2 : F37 w' w2) : tFS w w2 := fun k hk => (h2 k (by omega)).trans (h k hk)
theorem tMK.rfl' : tMK w w := ⟨rfl, Int.le_refl _, fun _ => rfl, fun _ _ _ => rfl⟩
theorem tMK.tr (h : tMK w w') (h2 : tMK w' w2) : tMK w w2 := by
  have := h.2.1
  have := h2.2.1
  exact ⟨h2.1.trans h.1, by omega, fun i => (h2.2.2.1 i).trans (h.2.2.1 i), fun s s0 s1 => (h2.2.2.2 s s0 (by omega)).trans (h.2.2.2 s s0 s1)⟩
theorem tMK.f37 (h : F37 w w') : tMK w w' := by
  unfold tMK
  rw [h 74 (by omega), h 75 (by omega), h 77 (by omega)]
  exact ⟨rfl, Int.le_refl _, fun _ => rfl, fun _ _ _ => rfl⟩
theorem tTB.f37 (h : tTB N C w) (hf : F37 w w') : tTB N C w' := by
  unfold tTB
  rw [hf 74 (by omega), hf 75 (by omega), hf 77 (by omega), hf 78 (by omega)]
  exact h
theorem tNW.fr (h : tNW W H C w) (hk : ∀ k, 37 ≤ k → k < 72 → w' k = w k) : tNW W H C w' := by
  obtain ⟨S, a, b⟩ := h
  exact ⟨S, a.fr (fun k h1 h2 => hk k h1 (by omega)), b⟩
theorem tNW.wr (h : tNW W H C w) (hk : 72 ≤ k) : tNW W H C (qud w k i v) := h.fr (fun k' _ h2 => by funext j; exact qud_nk (by omega))
theorem NX.z20 {o : Nat} (h : NX o w S) : NX o (qud w (o + 20) q 0) (qud S 20 q 0) := by
  refine h.up (by omega) (by omega) (fun f' n' hl => ?_)
  by_cases e : f' = 20 ∧ n' = q
  · exact Or.inl e
  · right
    refine ⟨hl.1, ?_, ?_, ?_, ?_, ?_⟩
    · have := hl.2.1
      rwa [qud_nk (by decide)] at this
    · have := hl.2.2.1
      rwa [qud_nk (by decide)] at this
    · intro h21
      have := hl.2.2.2.1 h21
      rw [qud_if] at this
      by_cases e2 : n' / 6 = q
      · rw [if_pos e2] at this
        omega
      · rwa [if_neg e2] at this
    · have := hl.2.2.2.2.1
      rwa [qud_nk (by decide)] at this
    · have := hl.2.2.2.2.2
      rwa [qud_nk (by decide), qud_nk (by decide)] at this
theorem IW.z20 (I : IW S) : IW (qud S 20 q 0) := by
  unfold IW ICf IT IQw
  simp (disch := decide) only [qud_nk]
  refine ⟨I.1, I.2.1, I.2.2.1, fun q' a b => ?_⟩
  have h' := I.2.2.2 q' a b
  rw [qud_if]
  by_cases e : q' = q
  · rw [if_pos e]
    exact ⟨by omega, fun i i0 i1 => by omega⟩
  · rw [if_neg e]
    exact h'
theorem CRb.co (h : CRb S) (e1 : T 1 = S 1) (e25 : T 25 = S 25) : CRb T := by
  unfold CRb
  rw [e1, e25]
  exact h
theorem CRb.wr (h : CRb S) (h0 : 0 ≤ v ∧ v ≤ 15) (h1 : 2 * S 1 4 ≤ r → v < 4 * S 1 3) : CRb (qud S 25 r v) := by
  intro r' a b
  rw [qud_nk (by decide), qud_nk (by decide)] at b
  rw [qud_nk (k' := 1) (by decide), qud_nk (k' := 1) (by decide), qud_if]
  by_cases e : r' = r
  · rw [if_pos e]
    exact ⟨h0.1, h0.2, fun z => h1 (by omega)⟩
  · rw [if_neg e]
    exact h r' a b
theorem tNW.z20 (h : tNW W H C w) : tNW W H C (qud w 57 q 0) := by
  obtain ⟨S, a, b, c, d, e⟩ := h
  exact ⟨qud S 20 q 0, a.z20, b.z20, c.co (qud_row (by decide)) (qud_row (by decide)), by rw [qud_nk (by decide), qud_nk (by decide)]; exact d, by rw [qud_nk (by decide)]; exact e⟩
theorem tNW.cr (h : tNW W H C w) (h0 : 0 ≤ v ∧ v ≤ 15) (h1 : 2 * H ≤ r → v < 4 * W) : tNW W H C (qud w 62 r v) := by
  obtain ⟨S, a, b, c, d, e⟩ := h
  exact ⟨qud S 25 r v, a.v (f := 25) (by decide), b.qu (by decide) (fun z => absurd z (by decide)), c.wr h0 (by rw [d.1, d.2]; exact h1), by rw [qud_nk (by decide), qud_nk (by decide)]; exact d, by rw [qud_nk (by decide)]; exact e⟩
theorem tNW.pu (h : tNW W H C w) (q0 : 0 ≤ q) (q1 : q < 144) (p0 : 0 ≤ x) (p1 : x < C) : kT (f_Q_put (37 + 19) q x w) (fun w' => tNW W H C w' ∧ F37 w w') := by
  obtain ⟨S, a, b, c, d, e⟩ := h
  refine kT_mono (n_put (p := x) a q0 q1 (b.2.2.2 q q0 q1).1.1) (fun w' hw => ⟨⟨spu S q x, hw.1, b.pu q0 q1 p0 (by omega), c.co (spu_f (by decide) (by decide)) (spu_f (by decide) (by decide)), ?_, ?_⟩, F37.fn hw.2⟩)
  · rw [spu_f (by decide) (by decide)]; exact d
  · rw [spu_f (by decide) (by decide)]; exact e
theorem tNW.dr (h : tNW W H C w) (q0 : 0 ≤ q) (q1 : q < 144) : kT (f_Q_dropFirst (37 + 19) q w) (fun w' => tNW W H C w' ∧ F37 w w') := by
  obtain ⟨S, a, b, c, d, e⟩ := h
  have hq := (b.2.2.2 q q0 q1).1
  have f1 : ∀ f, f ≠ 20 → f ≠ 21 → sdr S q f = S f := fun f x y => sdr_f x y
  refine kT_mono (n_dropFirst a q0 q1 hq.1 hq.2) (fun w' hw => ⟨⟨sdr S q, hw.1, b.dr q0 q1, c.co (f1 1 (by decide) (by decide)) (f1 25 (by decide) (by decide)), ?_, ?_⟩, F37.fn hw.2⟩)
  · rw [f1 1 (by decide) (by decide)]; exact d
  · rw [f1 5 (by decide) (by decide)]; exact e
theorem gq_15 (g : gIn W H) (r0 : 0 ≤ r) (r1 : r < 2 * (W + H)) (i0 : 0 ≤ i) (i1 : i < 4) : (0 ≤ gq W H r i ∧ gq W H r i ≤ 15) ∧ (2 * H ≤ r → gq W H r i < 4 * W) := by
  obtain ⟨⟨x, y⟩, z, u⟩ := g
  unfold gq
  rcases (by omega : W = 2 ∨ W = 3 ∨ W = 4) with rfl | rfl | rfl <;> rcases (by omega : H = 2 ∨ H = 3 ∨ H = 4) with rfl | rfl | rfl <;> (split; omega; split; omega; split <;> omega)
/-- the rings are set -/
theorem t_open7 {P : qMem → Prop} (K : ∀ w', tNW W H C w' → F37 w w' → kT (f_S_open_62 37 (kdv 16 key) w') P) (h : tNW W H C w) (k0 : 0 ≤ key) (k1 : key < 4611686018427387904) : kT (f_S_open 37 key w) P := by
  have main : ∀ (m : Nat) (x4 x6 : Int) (w' : qMem), -1 ≤ x6 → x6 ≤ 15 → x6 + 1 < m → 0 ≤ x4 → x4 < 4611686018427387904 → kdv (x6 + 1).toNat x4 = kdv 16 key → tNW W H C w' → F37 w w' → kT (f_S_open_7 37 m x4 x6 w') P := by
    intro m
    induction m with
    | zero => intro x4 x6 w' _ _ _ _ _ _ _ _; omega
    | succ m ih =>
      intro x4 x6 w' a b c d e f g hF
      rw [f_S_open_7]
      refine kT_if (fun z => ?_) (fun z => ?_)
      · have z2 : x6 = -1 := by omega
        subst z2
        have f' : x4 = kdv 16 key := f
        rw [f']
        exact K w' g hF
      · have h50 : ∀ w2, tNW W H C w2 → F37 w w2 → kT (f_S_open_50 37 (f_S_open_7 37 m) x4 x6 w2) P := by
          intro w2 g2 hF2
          unfold f_S_open_50
          rw [klushr_2 d (by omega), w32_ok (by omega) (by omega)]
          refine ih (x4 / 4) (x6 + -1) w2 (by omega) (by omega) (by omega) (by omega) (by omega) ?_ g2 hF2
          rw [← f]
          have e1 : (x6 + 1).toNat = (x6 + -1 + 1).toNat + 1 := by omega
          rw [e1]
          rfl
        obtain ⟨S, ⟨hx, hg⟩, I, cr, ⟨eW, eH⟩, eC⟩ := g
        have hG := I.1
        rw [eW, eH] at hg hG
        have h16 := g16r hG
        rw [show w' (37 + 1) 6 = 2 * (W + H) from hg.2.1.2]
        refine kT_if (fun z2 => ?_) (fun z2 => h50 w' ⟨S, ⟨hx, by rw [eW, eH]; exact hg⟩, I, cr, ⟨eW, eH⟩, eC⟩ hF)
        rw [kland_3 d (by omega), kl2i_ok (by omega) (by omega)]
        refine kT_eq (g_ringNode (o := 37 + 1) hg.1 hG (by omega) (by omega) (by omega) (by omega)) ?_
        refine kT_st (by omega) (by omega) ?_
        have h15 := gq_15 (i := x4 % 4) hG (by omega) z2 (by omega) (by omega)
        refine h50 _ (tNW.cr ⟨S, ⟨hx, by rw [eW, eH]; exact hg⟩, I, cr, ⟨eW, eH⟩, eC⟩ h15.1 h15.2) (hF.tr (F37.rfl'.qd (f := 25) (by decide)))
  unfold f_S_open
  exact main qFU key 15 w (by omega) (by omega) (qFU_gt (by omega)) k0 k1 rfl h F37.rfl'
end TS
