/-! schedules, the class: a state is brought back -/
section T2
variable {w w' w0 w2 S T : qMem} {W H C N key x r i v q s : Int} {k : Nat}
theorem t_open142 (h : tNW W H C w) (hB : tTB (W * H) C w) (g : gIn W H) : kT (f_S_open_142 37 w) (fun w' => tNW W H C w' ∧ F37 w w') := by
  have hN := gN g
  have h74 := hB.1.1
  unfold f_S_open_142
  refine kC_loop (σ := Unit) (N := 3) (L := fun m x _ w => f_S_open_145 37 m x w) (J := fun _ w' => tNW W H C w' ∧ F37 w w') (fun m x s w1 x0 x1 hJ ih => ?_) (fun m s w1 hJ => ?_) (by omega) (by omega) () ⟨h, F37.rfl'⟩
  · rw [f_S_open_145, if_pos x1]
    refine kC_loop (σ := Unit) (N := w 74 6) (L := fun m' y _ w => f_S_open_154 37 (f_S_open_145 37 m) m' x y w) (J := fun _ w' => tNW W H C w' ∧ F37 w w') (fun m' y s' w2 y0 y1 hJ ih' => ?_) (fun m' s' w2 hJ => ?_) (by omega) (by omega) () hJ
    · have e74 : w2 74 = w 74 := hJ.2 74 (by omega)
      have e77 : w2 77 = w 77 := hJ.2 77 (by omega)
      have e78 : w2 78 = w 78 := hJ.2 78 (by omega)
      have hs := hB.2.2 y y0 (by omega)
      have hi := hB.1.2 y y0 y1
      rw [f_S_open_154, e74, if_pos y1, qld_ok y0 (by omega), w32_ok (z := y + 1) (by omega) (by omega), e78]
      refine kT_if (fun _ => ih' () _ hJ) (fun c => ?_)
      refine kT_ld y0 (by omega) ?_
      refine kT_if (fun _ => ?_) (fun _ => ih' () _ hJ)
      rw [qld_ok y0 (by omega), qld_ok y0 (by omega), e78, e77]
      have hq : 0 ≤ w 78 y ∧ w 78 y < 144 := by
        rcases hs with z | z
        · exact absurd z c
        · omega
      exact kT_bind (hJ.1.pu hq.1 hq.2 hi.1 hi.2) (fun w3 h3 => ih' () _ ⟨h3.1, hJ.2.tr h3.2⟩)
    · have e74 : w2 74 = w 74 := hJ.2 74 (by omega)
      rw [f_S_open_154, e74, if_neg (by omega), w32_ok (z := x + 1) (by omega) (by omega)]
      exact ih () _ hJ
  · rw [f_S_open_145, if_neg (by omega)]
    exact kT_some hJ
/-- while spots are set: those behind x are the key's -/
def tOP (W H C : Int) (w0 w : qMem) (key x : Int) (w' : qMem) : Prop := (tNW W H C w' ∧ tFS w0 w') ∧ (w' 74 = w 74 ∧ w' 75 = w 75 ∧ w' 77 = w 77) ∧ (∀ i, x < i → i < 3 → w' 78 i = ksp key i) ∧ ∀ i, 0 ≤ i → i ≤ x → w' 78 i = w 78 i
theorem krs_2 : krs key 2 = kdv 16 key := rfl
theorem krs_1 : krs key 1 = kdv 16 key / 1024 := rfl
theorem krs_0 : krs key 0 = kdv 16 key / 1024 / 1024 := rfl
theorem t_open65 (h : tTW W H C w0 w) (g : gIn W H) (k0 : 0 ≤ key) (k1 : key < 4611686018427387904) (hk : ∀ i, 0 ≤ i → i < 3 → SPo (W * H) (ksp key i)) (h1 : tOP W H C w0 w key 2 w2) : kT (f_S_open_62 37 (kdv 16 key) w2) (fun w' => tTW W H C w0 w' ∧ tMK w w' ∧ tSD key w') := by
  have hN := gN g
  have main : ∀ (m : Nat) (x : Int) (y : Int) (w' : qMem), -1 ≤ x → x ≤ 2 → x + 1 < m → (0 ≤ x → y = krs key x) → tOP W H C w0 w key x w' → kT (f_S_open_65 37 m y x w') (fun w' => tTW W H C w0 w' ∧ tMK w w' ∧ tSD key w') := by
    intro m
    induction m with
    | zero => intro x y w' a b c _ _; omega
    | succ m ih =>
      intro x y w' a b c hy hO
      obtain ⟨⟨hn, hf⟩, ⟨e74, e75, e77⟩, hhi, hlo⟩ := hO
      rw [f_S_open_65]
      refine kT_if (fun z => ?_) (fun z => ?_)
      · have hx : x = -1 := by omega
        subst hx
        have hsd : tSD key w' := fun i i0 i1 => hhi i (by omega) i1
        have hB : tTB (W * H) C w' := by
          refine ⟨?_, ?_, fun i i0 i1 => ?_⟩
          · rw [e74, e77]; exact h.2.2.1
          · rw [e74, e75]; exact h.2.2.2.1
          · rw [hsd i i0 i1]; exact hk i i0 i1
        refine kT_mono (t_open142 hn hB g) (fun w3 h3 => ⟨⟨h3.1, hf.f37 h3.2, hB.f37 h3.2⟩, tMK.tr ⟨by rw [e74], by rw [e74]; exact Int.le_refl _, fun i => by rw [e77], fun s _ _ => by rw [e75]⟩ (tMK.f37 h3.2), fun i i0 i1 => by rw [h3.2 78 (by omega)]; exact hsd i i0 i1⟩)
      · have x0 : 0 ≤ x := by omega
        have hyk := hy x0
        have hy2 := krs_in (i := x) k0 k1
        rw [← hyk] at hy2
        have h99 : ∀ w3, tNW W H C w3 → tFS w0 w3 → w3 74 = w 74 → w3 75 = w 75 → w3 77 = w 77 → w3 78 = w' 78 → kT (f_S_open_99 37 (f_S_open_65 37 m) y x w3) (fun w' => tTW W H C w0 w' ∧ tMK w w' ∧ tSD key w') := by
          intro w3 n3 f3 a3 b3 c3 d3
          unfold f_S_open_99
          rw [kland_3 hy2.1 (by omega), kl2i_ok (by omega) (by omega), klushr_2 hy2.1 (by omega), kland_255 (by omega) (by omega), kl2i_ok (by omega) (by omega), klushr_10 hy2.1 (by omega), w32_ok (z := x + -1) (by omega) (by omega)]
          refine kT_st x0 (by omega) (kT_st x0 (by omega) ?_)
          refine ih (x + -1) _ _ (by omega) (by omega) (by omega) (fun x1 => ?_) ⟨⟨(n3.wr (by omega)).wr (by omega), (f3.wr (by omega)).wr (by omega)⟩, ⟨?_, ?_, ?_⟩, fun i i0 i1 => ?_, fun i i0 i1 => ?_⟩
          · rw [hyk]
            rcases (by omega : x = 1 ∨ x = 2) with rfl | rfl
            · rfl
            · rfl
          · rw [qud_row (by decide), qud_row (by decide), a3]
          · rw [qud_row (by decide), qud_row (by decide), b3]
          · rw [qud_row (by decide), qud_row (by decide), c3]
          · rw [qud_if]
            split
            · rename_i e
              rw [e, hyk]
              rfl
            · rw [qud_nk (by decide), d3]
              exact hhi i (by omega) i1
          · rw [qud_ni (by omega), qud_nk (by decide), d3]
            exact hlo i i0 (by omega)
        have hs : SPo (W * H) (w' 78 x) := by
          rw [hlo x x0 (by omega)]
          exact h.2.2.2.2 x x0 (by omega)
        rw [qld_ok x0 (by omega)]
        refine kT_if (fun _ => h99 w' hn hf e74 e75 e77 rfl) (fun c2 => ?_)
        have hq : 0 ≤ w' 78 x ∧ w' 78 x < 144 := by
          rcases hs with z2 | z2
          · exact absurd z2 c2
          · omega
        rw [qld_ok x0 (by omega)]
        refine kT_st hq.1 hq.2 ?_
        exact h99 _ hn.z20 (hf.wr (by omega)) (by rw [qud_row (by decide), e74]) (by rw [qud_row (by decide), e75]) (by rw [qud_row (by decide), e77]) (qud_row (by decide))
  unfold f_S_open_62
  exact main qFU 2 _ w2 (by omega) (by omega) (qFU_gt (by omega)) (fun _ => rfl) h1
theorem t_open (h : tTW W H C w0 w) (g : gIn W H) (hk : KOK (W * H) key) : kT (f_S_open 37 key w) (fun w' => tTW W H C w0 w' ∧ tMK w w' ∧ tSD key w') := by
  refine t_open7 (W := W) (H := H) (C := C) (fun w1 n1 f1 => ?_) h.1 hk.1.1 hk.1.2
  refine t_open65 h g hk.1.1 hk.1.2 hk.2 ⟨⟨n1, h.2.1.f37 f1⟩, ⟨f1 74 (by omega), f1 75 (by omega), f1 77 (by omega)⟩, fun i a b => by omega, fun i _ _ => by rw [f1 78 (by omega)]⟩
end T2
