/-! schedules, the reference: a state is opened (the method) -/
section R4
variable {w w' w0 w2 : qMem} {W H C N x y r i v q s d l p k n L a b : Int} {f : Int → Int}
theorem m_op203 {c : Int → Int} {r51 : Int → Int → qMem → Option qMem} {r59 : Int → Int → Int → qMem → Option qMem} {P : qMem → Prop} {lane x5 x6 a2 a3 : Int} (h : mOp W H C w c w') (hc : mC3 (W * H) c) (p0 : 0 ≤ p) (p1 : p < C) (x6' : 0 ≤ x6 ∧ x6 < 9) (y0 : 0 ≤ y) (y1 : y < 3) (hx5 : 0 ≤ x5 ∧ x5 < 500) (K : ∀ w2, mOp W H C w c w2 → kT (r59 a2 a3 (y + 1) w2) P) : kT (f_M_opensState_165 r51 r59 (w32 (16 + 17 * p + 3)) lane a2 a3 y x5 x6 (16 + 17 * p) w') P := by
  have hC := h.1.2.2.1
  have hp : (0 ≤ p ∧ p < 250) := by omega
  unfold f_M_opensState_165
  rw [w32_ok (z := 16 + 17 * p + 3) (by omega) (by omega), w32_ok (z := 16 + 17 * p + 4) (by omega) (by omega), w32_ok (z := 16 + 17 * p + 5) (by omega) (by omega)]
  refine kT_st (by omega) (by omega) (kT_dv (by decide) (kT_st (by omega) (by omega) ?_))
  have h2 : ∀ v, kT (f_M_opensState_203 r51 r59 (16 + 17 * p + 5) v a2 a3 y (qud (qud w' 89 (16 + 17 * p + 3) lane) 89 (16 + 17 * p + 4) (jdiv x5 27))) P := by
    intro v
    unfold f_M_opensState_203
    refine kT_st (by omega) (by omega) ?_
    rw [w32_ok (z := y + 1) (by omega) (by omega)]
    exact K _ (((h.o hc (Or.inr ⟨p, hp, by omega, by omega⟩)).o hc (Or.inr ⟨p, hp, by omega, by omega⟩)).o hc (Or.inr ⟨p, hp, by omega, by omega⟩))
  exact kT_if (fun _ => h2 _) (fun _ => kT_dv (by decide) (h2 _))
theorem mc_c3 : mC3 N (fun q => mc f L q x y) := fun _ _ _ => mc_in
theorem m_opens (hn : mN W H C w) (hs : mS (W * H) w) (hL : mLv C w) (k0 : 0 ≤ k) (k1 : k < w 88 8) : kT (f_M_opensState k w) (mOp W H C w (mcn w k)) := by
  have g := hn.1.2
  have hN := gN g
  have h8 := hs.1
  have hl := hL.1
  -- the rings
  have h216 : ∀ w', mOp W H C w (mcn w k) w' → kT (f_M_opensState_216 (19 * k) w') (mOp W H C w (mcn w k)) := by
    intro w' hw
    unfold f_M_opensState_216
    refine kC_loop (σ := Unit) (N := 16) (L := fun m x _ v => f_M_opensState_218 m (19 * k) x v) (J := fun _ v => mOp W H C w (mcn w k) v) (fun m x _ v x0 x1 hv ih => ?_) (fun m _ v hv => ?_) (by omega) (by omega) () hw
    · rw [f_M_opensState_218, if_pos x1, qbd (m_ringAt x0 x1)]
      dsimp only
      rw [w32_ok (z := 19 * k + 3) (by omega) (by omega), w32_ok (z := 19 * k + 3 + x) (by omega) (by omega), qld_ok (by omega) (by omega), w32_ok (z := 5274 + 6 * x + 0) (by omega) (by omega), qst_ok (by omega) (by omega), w32_ok (z := x + 1) (by omega) (by omega)]
      exact ih () _ (hv.o mc_c3 (Or.inl (by omega)))
    · rw [f_M_opensState_218, if_neg (by decide)]
      exact kT_some hv
  -- the packets
  have h49 : ∀ w', mOp W H C w (fun q => mc (fun i => w 92 (19 * k + i)) (w 88 7) q 0 0) w' → kT (f_M_opensState_49 (19 * k) w') (mOp W H C w (mcn w k)) := by
    intro w' hw
    unfold f_M_opensState_49
    refine kD_loop (σ := Unit) (N := 3) (L := fun m x _ v => f_M_opensState_51 m (19 * k) x v) (J := fun x _ v => mOp W H C w (fun q => mc (fun i => w 92 (19 * k + i)) (w 88 7) q x 0) v) (fun m x _ v x0 x1 hv ih => ?_) (fun m _ v hv => ?_) (by omega) (by omega) () hw
    · rw [f_M_opensState_51, if_pos x1]
      refine kD_loop (σ := Unit) (N := w 88 7) (L := fun m' y _ v => f_M_opensState_59 (f_M_opensState_51 m) m' (19 * k) x y v) (J := fun y _ v => mOp W H C w (fun q => mc (fun i => w 92 (19 * k + i)) (w 88 7) q x y) v) (fun m' y _ v y0 y1 hv ih' => ?_) (fun m' _ v hv => ?_) hl.1 (by omega) () hv
      · have e88 : v 88 = w 88 := hv.1.1 88 (by decide)
        have e92 : v 92 = w 92 := hv.1.1 92 (by decide)
        have e94 : v 94 = w 94 := hv.1.1 94 (by decide)
        have hy := hs.2 k y k0 k1 y0 (by omega)
        have hid := hL.2 y y0 y1
        rw [f_M_opensState_59, e88, if_pos y1, w32_ok (z := 19 * k + y) (by omega) (by omega), qld_ok (by omega) (by omega), w32_ok (z := y + 1) (by omega) (by omega), e92]
        refine kT_if (fun c => ?_) (fun c => ?_)
        · refine ih' () _ ?_
          have e : (fun q => mc (fun i => w 92 (19 * k + i)) (w 88 7) q x (y + 1)) = (fun q => mc (fun i => w 92 (19 * k + i)) (w 88 7) q x y) := funext fun q => mc_step_no y0 (by omega) (Or.inl c)
          rw [e]
          exact hv
        · have hf : 0 ≤ w 92 (19 * k + y) ∧ w 92 (19 * k + y) < 27 * (W * H) := by
            rcases hy with z | z
            · exact absurd z c
            · exact z
          rw [qdv_ok (by decide), jrem_ok hf.1 (by omega) (by decide) (by decide)]
          refine kT_if (fun cx => ?_) (fun cx => ?_)
          · rw [qdv_ok (by decide), qdv_ok (by decide), qld_ok y0 (by omega), e94, qbd (m_packetAt hid.1 (by have := hn.2.1; omega))]
            dsimp only
            rw [qdv_ok (by decide), qld_ok y0 (by omega), e94, jdiv_ok hf.1 (by omega) (by decide) (by decide), jdiv_ok hf.1 (by omega) (by decide) (by decide), jrem_ok (by omega) (by omega) (by decide) (by decide)]
            have hq : w 92 (19 * k + y) / 27 * 9 + w 92 (19 * k + y) / 3 % 9 = w 92 (19 * k + y) / 3 := by omega
            have hm : mc (fun i => w 92 (19 * k + i)) (w 88 7) (w 92 (19 * k + y) / 3) x y ≤ 2 := by
              have a := mc_step_in (f := fun i => w 92 (19 * k + i)) (q := w 92 (19 * k + y) / 3) y0 (by omega) y1 c cx
              rw [if_pos rfl] at a
              have b := mc_in (f := fun i => w 92 (19 * k + i)) (L := w 88 7) (q := w 92 (19 * k + y) / 3) (x := x) (y := y + 1)
              omega
            refine kT_bind (r_comes (c' := fun q => mc (fun i => w 92 (19 * k + i)) (w 88 7) q x (y + 1)) hv mc_c3 (by omega) (by omega) (by omega) (by omega) (by rw [hq]; exact hm) hid.1 hid.2 (fun r => ?_)) (fun w3 h3 => ?_)
            · rw [hq]
              exact mc_step_in y0 (by omega) y1 c cx
            · have h165 : ∀ lane, kT (f_M_opensState_165 (f_M_opensState_51 m) (f_M_opensState_59 (f_M_opensState_51 m) m') (w32 (16 + 17 * w 94 y + 3)) lane (19 * k) x y (w 92 (19 * k + y)) (w 92 (19 * k + y) / 3 % 9) (16 + 17 * w 94 y) w3) (mOp W H C w (mcn w k)) := fun lane => m_op203 h3 mc_c3 hid.1 hid.2 (by omega) y0 (by omega) (by omega) (fun w4 h4 => ih' () _ h4)
              exact kT_if (fun _ => h165 _) (fun _ => kT_if (fun _ => h165 _) (fun _ => h165 _))
          · refine ih' () _ ?_
            have e : (fun q => mc (fun i => w 92 (19 * k + i)) (w 88 7) q x (y + 1)) = (fun q => mc (fun i => w 92 (19 * k + i)) (w 88 7) q x y) := funext fun q => mc_step_no y0 (by omega) (Or.inr cx)
            rw [e]
            exact hv
      · have e88 : v 88 = w 88 := hv.1.1 88 (by decide)
        rw [f_M_opensState_59, e88, if_neg (by omega), w32_ok (z := x + 1) (by omega) (by omega)]
        refine ih () _ ?_
        have e : (fun q => mc (fun i => w 92 (19 * k + i)) (w 88 7) q (x + 1) 0) = (fun q => mc (fun i => w 92 (19 * k + i)) (w 88 7) q x (w 88 7)) := funext fun q => mc_next.symm
        rw [e]
        exact hv
    · rw [f_M_opensState_51, if_neg (by decide)]
      exact h216 v hv
  unfold f_M_opensState
  rw [w32_ok (z := 19 * k) (by omega) (by omega)]
  refine kD_loop (σ := Unit) (N := W * H) (L := fun m x _ v => f_M_opensState_7 m (19 * k) x v) (J := fun x _ v => ((∀ k : Nat, k ≠ 89 → v k = w k) ∧ mN W H C v) ∧ ∀ q, 0 ≤ q → q < 9 * x → mz v q = 0) (fun m x _ v x0 x1 hv ih => ?_) (fun m _ v hv => ?_) (by omega) (by omega) () ⟨⟨fun _ _ => rfl, hn⟩, fun q a b => by omega⟩
  · rw [f_M_opensState_7, qbd (mg_nodes hv.1.2.1.1 g)]
    dsimp only
    rw [if_pos x1]
    refine kD_loop (σ := Unit) (N := 9) (L := fun m' y _ v => f_M_opensState_18 (f_M_opensState_7 m) m' (19 * k) x y v) (J := fun y _ v => ((∀ k : Nat, k ≠ 89 → v k = w k) ∧ mN W H C v) ∧ ∀ q, 0 ≤ q → q < 9 * x + y → mz v q = 0) (fun m' y _ v y0 y1 hv ih' => ?_) (fun m' _ v hv => ?_) (by omega) (by omega) () ⟨hv.1, fun q a b => hv.2 q a (by omega)⟩
    · rw [f_M_opensState_18, if_pos y1, qbd (m_queueAt x0 (by omega) y0 y1)]
      dsimp only
      rw [qst_ok (by omega) (by omega), w32_ok (z := y + 1) (by omega) (by omega)]
      refine ih' () _ ⟨⟨fun k hk => by rw [qud_row hk, hv.1.1 k hk], hv.1.2.w89 (Or.inl (by omega))⟩, fun q a b => ?_⟩
      by_cases e : q = x * 9 + y
      · rw [e]; exact qud_s
      · rw [mz_ne (by omega)]; exact hv.2 q a (by omega)
    · rw [f_M_opensState_18, if_neg (by decide), w32_ok (z := x + 1) (by omega) (by omega)]
      exact ih () _ ⟨hv.1, fun q a b => hv.2 q a (by omega)⟩
  · rw [f_M_opensState_7, qbd (mg_nodes hv.1.2.1.1 g)]
    dsimp only
    rw [if_neg (by omega)]
    refine h49 v ⟨hv.1, fun q a b => by rw [hv.2 q a b]; exact mc_0.symm, fun q j a b c d => ?_⟩
    rw [hv.2 q a b] at d
    omega
end R4
