/-! schedules, the class: all steps of a state -/
section T4
variable {w w' w0 w2 S T : qMem} {W H C N key x y r i v q s d l : Int} {k : Nat} {kk : Int}
theorem n_first_eq (hx : NX 37 w S) (hx' : NX 37 w T) (q0 : 0 ≤ q) (q1 : q < 144) : sfst S q = sfst T q := by
  have a := n_first hx.1 q0 q1
  have b := n_first hx'.1 q0 q1
  rw [a] at b
  exact congrArg Prod.fst (Option.some.inj b)
theorem tNW.sh (hn : tNW W H C w) (v0 : 0 ≤ v) (v1 : v < W * H) (k0 : 0 ≤ kk) (k1 : kk < 9) (d0 : 0 ≤ d) (d1 : d < 4) (he : ∀ S, NX 37 w S → IW S → (S 1 3 = W ∧ S 1 4 = H) → sfst S (v * 9 + kk) ≠ -1) : kT (f_N_shift 37 v kk d l w) (fun w' => tNW W H C w' ∧ F37 w w') := by
  obtain ⟨S, hx, I, cr, e, eC⟩ := hn
  have hf := he S hx I e
  have v1' : v < S 1 3 * S 1 4 := by rw [e.1, e.2]; exact v1
  refine kT_mono (n_shift (l := l) hx I v0 v1' k0 k1 d0 d1 hf) (fun w' hw => ⟨⟨ssh S v kk d l, hw.1, I.sh v0 v1' k0 k1 d0 d1 hf, ?_, ?_, ?_⟩, F37.fn hw.2⟩)
  · have e1 : ssh S v kk d l 1 = S 1 := ssh_f (by decide) (by decide) (by decide)
    have hg := I.1
    intro r r0 r1
    rw [e1] at r1 ⊢
    rcases ssh_25 (S := S) (v := v) (k := kk) (d := d) (l := l) (n := r) with z | z
    · rw [z]; exact cr r r0 r1
    · rw [z.1]
      have hN := gN hg
      obtain ⟨⟨a, b⟩, a2, b2⟩ := hg
      generalize S 1 3 = A at *
      generalize S 1 4 = B at *
      rcases (by omega : A = 2 ∨ A = 3 ∨ A = 4) with rfl | rfl | rfl <;> omega
  · rw [ssh_f (by decide) (by decide) (by decide)]; exact e
  · rw [ssh_f (by decide) (by decide) (by decide)]; exact eC
/-- what holds between the steps of a state -/
def tEX (W H C s : Int) (w0 w w' : qMem) : Prop := tTW W H C w0 w' ∧ tMK w w' ∧ tSD (w 75 s) w'
theorem t_afterShift (h : tEX W H C s w0 w w2) (g : gIn W H) (s0 : 0 ≤ s) (s1 : s < w 74 7) (i0 : 0 ≤ i) (i1 : i < 3) (hv : SPo (W * H) v) (hn : tNW W H C w') (hf : F37 w2 w') : kT (f_S_close 37 s i v w') (tEX W H C s w0 w) := by
  have h2 : tTW W H C w0 w' := ⟨hn, h.1.2.1.f37 hf, h.1.2.2.f37 hf⟩
  have m2 : tMK w w' := h.2.1.tr (tMK.f37 hf)
  have hl := m2.2.1
  have e75 := m2.2.2.2 s s0 s1
  refine kT_mono (t_close h2 g s0 (by omega) i0 i1 hv) (fun w3 h3 => ⟨h3.1, m2.tr h3.2.1, ?_⟩)
  rw [← e75]
  exact h3.2.2
theorem t_try76 (h : tEX W H C s w0 w w2) (g : gIn W H) (s0 : 0 ≤ s) (s1 : s < w 74 7) (i0 : 0 ≤ i) (i1 : i < 3) (v0 : 0 ≤ v) (v1 : v < W * H) (k0 : 0 ≤ kk) (k1 : kk < 9) (d0 : 0 ≤ d) (d1 : d < 4) : kT (f_S_tryBy_76 37 s i d v kk (gn W H v d * 9 + d) w2) (tEX W H C s w0 w) := by
  have hN := gN g
  have hgn := gn_in g v0 v1 d0 d1
  unfold f_S_tryBy_76
  obtain ⟨S, hx, I, cr, e, eC⟩ := h.1.1
  have v1' : v < S 1 3 * S 1 4 := by rw [e.1, e.2]; exact v1
  refine kT_eq (n_escapeLets hx I v0 v1' k0 k1 d0 d1) ?_
  dsimp only
  cases hb : sel S v kk d with
  | false => rw [if_bf]; exact kT_some h
  | true =>
    rw [if_bt]
    have he : sfst S (v * 9 + kk) ≠ -1 := by
      intro z
      unfold sel ses at hb
      rw [if_pos z] at hb
      cases hb
    refine kT_bind (tNW.sh (l := 1) ⟨S, hx, I, cr, e, eC⟩ v0 v1 k0 k1 d0 d1 (fun S' hx' I' e' => ?_)) (fun w3 h3 => ?_)
    · rw [← n_first_eq hx hx' (q := v * 9 + kk) (by omega) (by omega)]
      exact he
    · rw [w32_ok (by omega) (by omega)]
      exact kT_bind (t_afterShift h g s0 s1 i0 i1 (Or.inr ⟨by omega, by omega⟩) h3.1 h3.2) (fun w4 h4 => kT_some h4)
theorem t_tryBy (h : tEX W H C s w0 w w2) (g : gIn W H) (s0 : 0 ≤ s) (s1 : s < w 74 7) (i0 : 0 ≤ i) (i1 : i < 3) (d0 : 0 ≤ d) (d1 : d < 4) (hk : KOK (W * H) (w 75 s)) (hd : ksp (w 75 s) i ≠ 144) : kT (f_S_tryBy 37 s i d w2) (tEX W H C s w0 w) := by
  have hN := gN g
  have hq : w2 78 i = ksp (w 75 s) i := h.2.2 i i0 i1
  have hs : SPo (W * H) (w2 78 i) := by rw [hq]; exact hk.2 i i0 i1
  have hq2 : 0 ≤ w2 78 i ∧ w2 78 i < 9 * (W * H) := by
    rcases hs with z | z
    · rw [hq] at z; exact absurd z hd
    · exact z
  unfold f_S_tryBy
  rw [qld_ok i0 i1, qdv_ok (by decide), qld_ok i0 i1, qdv_ok (by decide), jdiv_ok hq2.1 (by omega) (by decide) (by decide), jrem_ok hq2.1 (by omega) (by decide) (by decide)]
  have v0 : 0 ≤ w2 78 i / 9 := by omega
  have v1 : w2 78 i / 9 < W * H := by omega
  have k0 : 0 ≤ w2 78 i % 9 := by omega
  have k1 : w2 78 i % 9 < 9 := by omega
  generalize w2 78 i / 9 = v at v0 v1 ⊢
  generalize w2 78 i % 9 = kk at k0 k1 ⊢
  have hgn := gn_in g v0 v1 d0 d1
  obtain ⟨S, hx, I, cr, e, eC⟩ := h.1.1
  have v1' : v < S 1 3 * S 1 4 := by rw [e.1, e.2]; exact v1
  have hG : RG (37 + 1) w2 W H := by
    have := hx.2
    rwa [e.1, e.2] at this
  refine kT_eq (g_nextBy hG g v0 v1 d0 d1) ?_
  refine kT_eq (n_adaptiveLets hx I v0 v1' k0 k1 d0 d1) ?_
  dsimp only
  rw [w32_ok (z := gn W H v d * 9) (by omega) (by omega), w32_ok (z := gn W H v d * 9 + d) (by omega) (by omega)]
  cases hb : sad S v kk d with
  | false =>
    rw [if_bf]
    exact t_try76 h g s0 s1 i0 i1 v0 v1 k0 k1 d0 d1
  | true =>
    rw [if_bt]
    have he : sfst S (v * 9 + kk) ≠ -1 := by
      intro z
      unfold sad spr at hb
      rw [if_pos z] at hb
      cases hb
    refine kT_bind (tNW.sh (l := 2) ⟨S, hx, I, cr, e, eC⟩ v0 v1 k0 k1 d0 d1 (fun S' hx' I' e' => ?_)) (fun w3 h3 => ?_)
    · rw [← n_first_eq hx hx' (q := v * 9 + kk) (by omega) (by omega)]
      exact he
    · rw [w32_ok (by omega) (by omega)]
      refine kT_bind (t_afterShift h g s0 s1 i0 i1 (Or.inr ⟨by omega, by omega⟩) h3.1 h3.2) (fun w4 h4 => ?_)
      exact t_try76 h4 g s0 s1 i0 i1 v0 v1 k0 k1 d0 d1
theorem t_extend (h : tTW W H C w0 w) (g : gIn W H) (s0 : 0 ≤ s) (s1 : s < w 74 7) (hsd : tSD (w 75 s) w) : kT (f_S_extend 37 s w) (tEX W H C s w0 w) := by
  have hN := gN g
  have h6 := h.2.2.1.1
  have hk := h.2.2.2.1.2 s s0 s1
  unfold f_S_extend
  rw [qlt_ok]
  have h0 : tEX W H C s w0 w (qud w 74 8 0) := ⟨h.w74 (by decide), tMK.w74 (by decide), fun i a b => by rw [qud_nk (by decide)]; exact hsd i a b⟩
  refine kC_loop (σ := Unit) (N := w 74 6) (L := fun m x _ w => f_S_extend_7 37 m s x w) (J := fun _ w' => tEX W H C s w0 w w') (fun m x _ w2 x0 x1 hJ ih => ?_) (fun m _ w2 hJ => ?_) (by omega) (by omega) () h0
  · have e6 : w2 74 6 = w 74 6 := hJ.2.1.1
    have hq : w2 78 x = ksp (w 75 s) x := hJ.2.2 x x0 (by omega)
    rw [f_S_extend_7, e6, if_pos x1, qld_ok x0 (by omega), w32_ok (z := x + 1) (by omega) (by omega)]
    refine kT_if (fun _ => ih () _ hJ) (fun c => ?_)
    have hs : SPo (W * H) (w2 78 x) := by rw [hq]; exact hk.2 x x0 (by omega)
    have hq2 : 0 ≤ w2 78 x ∧ w2 78 x < 9 * (W * H) := by
      rcases hs with z | z
      · exact absurd z c
      · exact z
    obtain ⟨S, hx, I, cr, e, eC⟩ := hJ.1.1
    refine kT_eq (n_first hx.1 hq2.1 (by omega)) ?_
    dsimp only
    rw [qld_ok x0 (by omega)]
    refine kT_if (fun _ => ?_) (fun _ => ih () _ hJ)
    rw [qdv_ok (by decide), qdv_ok (by decide), jdiv_ok hq2.1 (by omega) (by decide) (by decide), jrem_ok hq2.1 (by omega) (by decide) (by decide)]
    refine kT_eq (n_isInTo hx I (by omega) (by rw [e.1, e.2]; omega) (by omega) (by omega)) ?_
    dsimp only
    refine kT_if (fun _ => ?_) (fun _ => ?_)
    · refine kC_loop (σ := Unit) (N := 4) (L := fun m' y _ w => f_S_extend_94 37 (f_S_extend_7 37 m) m' s x y w) (J := fun _ w' => tEX W H C s w0 w w') (fun m' y _ w3 y0 y1 hJ3 ih' => ?_) (fun m' _ w3 hJ3 => ?_) (by omega) (by omega) () hJ
      · rw [f_S_extend_94, if_pos y1, w32_ok (z := y + 1) (by omega) (by omega)]
        exact kT_bind (t_tryBy hJ3 g s0 s1 x0 (by omega) y0 y1 hk (by rw [← hq]; exact c)) (fun w4 h4 => ih' () _ h4)
      · rw [f_S_extend_94, if_neg (by decide), w32_ok (z := x + 1) (by omega) (by omega)]
        exact ih () _ hJ3
    · refine kT_bind (tNW.dr hJ.1.1 hq2.1 (by omega)) (fun w3 h3 => ?_)
      exact kT_bind (t_afterShift hJ g s0 s1 x0 (by omega) (Or.inl rfl) h3.1 h3.2) (fun w4 h4 => ih () _ h4)
  · have e6 : w2 74 6 = w 74 6 := hJ.2.1.1
    rw [f_S_extend_7, e6, if_neg (by omega)]
    exact kT_some hJ
end T4
