/-! asking: ring -/
def aRg (S : qMem) (r x : Int) : Int := if 0 ≤ r ∧ r < 2 * (S 1 3 + S 1 4) then (if x = 0 then gd (S 1 3) (S 1 4) r else if x = 1 then gq (S 1 3) (S 1 4) r 0 else if x = 2 then gl (S 1 3) (S 1 4) r else if x = 3 then shd S r else if x = 4 then sfi S r else if x = 5 then (if S 0 8 = 2 then S 25 r else -1) else if x = 6 then S 26 r else if x = 7 then S 27 r else if x = 8 then S 28 r else if x = 9 then S 29 r else if x = 10 then S 30 r else -1) else -1
section Q4
variable {w w' S T : qMem} {r x : Int}
theorem x_ring (hx : NX 2 w S) (I : IV S) : f_X_ring r x w = some (aRg S r x, w) := by
  have h16 := g16r I.1.1
  have e6 : w 3 6 = 2 * (S 1 3 + S 1 4) := hx.2.2.1.2
  have e8 : w 2 8 = S 0 8 := rz_8 (o := 2) hx.1
  have hG := hx.2.1
  have g := I.1.1
  have hh : ∀ r0 r1, _ := fun (r0 : 0 ≤ r) (r1 : r < 2 * (S 1 3 + S 1 4)) => n_heldIn (o := 2) hx I.w r0 r1
  have hf : ∀ r0 r1, _ := fun (r0 : 0 ≤ r) (r1 : r < 2 * (S 1 3 + S 1 4)) => n_freeIn (o := 2) hx I.w r0 r1
  unfold f_X_ring aRg
  by_cases r0 : r < 0
  · rw [if_pos r0, if_neg (fun z => by omega)]
  · rw [if_neg r0, e6]
    by_cases r1 : r < 2 * (S 1 3 + S 1 4)
    · have r0' : 0 ≤ r := by omega
      rw [if_pos r1, if_pos (show 0 ≤ r ∧ r < 2 * (S 1 3 + S 1 4) from ⟨r0', r1⟩)]
      by_cases c0 : x = 0
      · rw [if_pos c0, if_pos c0]; exact qpe (g_ringDirection (o := 3) hG g)
      · rw [if_neg c0, if_neg c0]
        by_cases c1 : x = 1
        · rw [if_pos c1, if_pos c1]; exact qpe (g_ringNode (o := 3) hG g r0' r1 (by decide) (by decide))
        · rw [if_neg c1, if_neg c1]
          by_cases c2 : x = 2
          · rw [if_pos c2, if_pos c2]; exact qpe (g_ringLength (o := 3) hG g)
          · rw [if_neg c2, if_neg c2]
            by_cases c3 : x = 3
            · rw [if_pos c3, if_pos c3]; exact qpe (hh r0' r1).1
            · rw [if_neg c3, if_neg c3]
              by_cases c4 : x = 4
              · rw [if_pos c4, if_pos c4]; exact qpe (hf r0' r1)
              · rw [if_neg c4, if_neg c4]
                by_cases c5 : x = 5
                · rw [if_pos c5, if_pos c5, e8]
                  by_cases e : S 0 8 = 2
                  · rw [if_pos e, if_pos e, qld_ok r0' (by omega), show w 27 r = S 25 r from rx_25 hx.1 r0' r1 h16]
                  · rw [if_neg e, if_neg e]
                · rw [if_neg c5, if_neg c5]
                  by_cases c6 : x = 6
                  · rw [if_pos c6, if_pos c6, qld_ok r0' (by omega), show w 28 r = S 26 r from rx_26 hx.1 r0' r1 h16]
                  · rw [if_neg c6, if_neg c6]
                    by_cases c7 : x = 7
                    · rw [if_pos c7, if_pos c7, qld_ok r0' (by omega), show w 29 r = S 27 r from rx_27 hx.1 r0' r1 h16]
                    · rw [if_neg c7, if_neg c7]
                      by_cases c8 : x = 8
                      · rw [if_pos c8, if_pos c8, qld_ok r0' (by omega), show w 30 r = S 28 r from rx_28 hx.1 r0' r1 h16]
                      · rw [if_neg c8, if_neg c8]
                        by_cases c9 : x = 9
                        · rw [if_pos c9, if_pos c9, qld_ok r0' (by omega), show w 31 r = S 29 r from rx_29 hx.1 r0' r1 h16]
                        · rw [if_neg c9, if_neg c9]
                          by_cases c10 : x = 10
                          · rw [if_pos c10, if_pos c10, qld_ok r0' (by omega), show w 32 r = S 30 r from rx_30 hx.1 r0' r1 h16]
                          · rw [if_neg c10, if_neg c10]
    · rw [if_neg r1, if_neg (fun z => r1 z.2)]
theorem m_ring (hR : RM w S) (I : IV S) : f_M_ring r x w = some (aRg S r x, w) := by
  have h16 := g16r I.1.1
  have g := I.1.1
  have hE := I.1.2.1
  have hg4 := g
  obtain ⟨⟨ga, gb⟩, gc, gd'⟩ := hg4
  unfold f_M_ring aRg
  rw [qbd (mg_rings hR.wh g)]
  dsimp only
  rw [w32_ok (z := 2 * (S 1 3 + S 1 4) - 1) (by omega) (by omega), qbd m_isIn]
  dsimp only
  rw [bi_if]
  by_cases rr : 0 ≤ r ∧ r ≤ 2 * (S 1 3 + S 1 4) - 1
  · have r0' := rr.1
    have r1 : r < 2 * (S 1 3 + S 1 4) := by omega
    have hl := gl_in (r := r) g
    have hm : 0 ≤ gl (S 1 3) (S 1 4) r * S 0 6 ∧ gl (S 1 3) (S 1 4) r * S 0 6 ≤ 16 := by
      rcases (by omega : gl (S 1 3) (S 1 4) r = 2 ∨ gl (S 1 3) (S 1 4) r = 3 ∨ gl (S 1 3) (S 1 4) r = 4) with q | q | q <;> rw [q] <;> omega
    rw [if_pos rr, if_pos (show 0 ≤ r ∧ r < 2 * (S 1 3 + S 1 4) from ⟨r0', r1⟩), qbd (m_ringAt r0' (by omega))]
    dsimp only
    rw [w32_ok (z := 5274 + 6 * r + 0) (by omega) (by omega), w32_ok (z := 5274 + 6 * r + 1) (by omega) (by omega), w32_ok (z := 5274 + 6 * r + 2) (by omega) (by omega), w32_ok (z := 5274 + 6 * r + 3) (by omega) (by omega), w32_ok (z := 5274 + 6 * r + 4) (by omega) (by omega), w32_ok (z := 5274 + 6 * r + 5) (by omega) (by omega)]
    by_cases c0 : x = 0
    · rw [if_pos c0, if_pos c0]; exact qpe (mg_directionOf hR.wh g r0' r1)
    · rw [if_neg c0, if_neg c0]
      by_cases c1 : x = 1
      · rw [if_pos c1, if_pos c1]; exact qpe (mg_leastNode hR.wh g r0' r1)
      · rw [if_neg c1, if_neg c1]
        by_cases c2 : x = 2
        · rw [if_pos c2, if_pos c2]; exact qpe (mg_longOf hR.wh g r0' r1)
        · rw [if_neg c2, if_neg c2]
          by_cases c3 : x = 3
          · rw [if_pos c3, if_pos c3, qld_ok (by decide) (by decide), rm_0_6 hR, qbd (mg_longOf hR.wh g r0' r1)]
            dsimp only
            rw [qbd (m_freeIn hR I.w r0' r1)]
            dsimp only
            have hs : sfi S r = gl (S 1 3) (S 1 4) r * S 0 6 - shd S r := rfl
            rw [Int.mul_comm (S 0 6), w32_ok (z := gl (S 1 3) (S 1 4) r * S 0 6) (by omega) (by omega), hs, show gl (S 1 3) (S 1 4) r * S 0 6 - (gl (S 1 3) (S 1 4) r * S 0 6 - shd S r) = shd S r by omega]
            have hb : 0 ≤ shd S r ∧ shd S r ≤ 24 := by
              have hd := gd_in (W := S 1 3) (H := S 1 4) (r := r)
              have hN := gN g
              have := fli_i (g := fun s v => s + S 20 (v * 9 + 1 + gd (S 1 3) (S 1 4) r)) (h := gq (S 1 3) (S 1 4) r) (P := fun y s => 0 ≤ s ∧ s ≤ 6 * y) (s := 0) ⟨by omega, by omega⟩ (gl (S 1 3) (S 1 4) r).toNat (fun y t y0 y1 ht => by
                have hq := gq_in g r0' r1 y0 (show y < gl (S 1 3) (S 1 4) r by omega)
                have h20 := (I.w.2.2.2 (gq (S 1 3) (S 1 4) r y * 9 + 1 + gd (S 1 3) (S 1 4) r) (by omega) (by omega)).1
                omega)
              have h2 : 0 ≤ shd S r ∧ shd S r ≤ 6 * (((gl (S 1 3) (S 1 4) r).toNat : Nat) : Int) := this
              omega
            rw [w32_ok (by omega) (by omega)]
          · rw [if_neg c3, if_neg c3]
            by_cases c4 : x = 4
            · rw [if_pos c4, if_pos c4]; exact qpe (m_freeIn hR I.w r0' r1)
            · rw [if_neg c4, if_neg c4]
              by_cases c5 : x = 5
              · rw [if_pos c5, if_pos c5, qld_ok (by decide) (by decide), rm_0_8 hR]
                by_cases e : S 0 8 = 2
                · rw [if_pos e, if_pos e, qld_ok (by omega) (by omega), rm_25 hR (n := r) r0' r1 h16 (by omega)]
                · rw [if_neg e, if_neg e]
              · rw [if_neg c5, if_neg c5]
                by_cases c6 : x = 6
                · rw [if_pos c6, if_pos c6, qld_ok (by omega) (by omega), rm_26 hR (n := r) r0' r1 h16 (by omega)]
                · rw [if_neg c6, if_neg c6]
                  by_cases c7 : x = 7
                  · rw [if_pos c7, if_pos c7, qld_ok (by omega) (by omega), rm_27 hR (n := r) r0' r1 h16 (by omega)]
                  · rw [if_neg c7, if_neg c7]
                    by_cases c8 : x = 8
                    · rw [if_pos c8, if_pos c8, qld_ok (by omega) (by omega), rm_28 hR (n := r) r0' r1 h16 (by omega)]
                    · rw [if_neg c8, if_neg c8]
                      by_cases c9 : x = 9
                      · rw [if_pos c9, if_pos c9, qld_ok (by omega) (by omega), rm_29 hR (n := r) r0' r1 h16 (by omega)]
                      · rw [if_neg c9, if_neg c9]
                        by_cases c10 : x = 10
                        · rw [if_pos c10, if_pos c10, qld_ok (by omega) (by omega), rm_30 hR (n := r) r0' r1 h16 (by omega)]
                        · rw [if_neg c10, if_neg c10]
  · rw [if_neg rr, if_neg (fun z => rr ⟨z.1, by omega⟩)]
end Q4
