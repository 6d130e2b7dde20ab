/-! a look -/
section LK
variable {w w' S T : qMem} {v t n x p a b l N y s r : Int} {f g : Int → Int}
theorem cV_9 : cV f 9 = f 0 + f 1 + f 2 + f 3 + f 4 + f 5 + f 6 + f 7 + f 8 := by
  have : cV f 9 = 0 + f 0 + f 1 + f 2 + f 3 + f 4 + f 5 + f 6 + f 7 + f 8 := rfl
  rw [this]
  omega
theorem cV_4 : cV f 4 = f 0 + f 1 + f 2 + f 3 := by
  have : cV f 4 = 0 + f 0 + f 1 + f 2 + f 3 := rfl
  rw [this]
  omega
def lanK (S : qMem) (l v k : Int) : Int := if (k + 3) / 4 = l then S 20 (v * 9 + k) else 0
theorem lan_9 (hl : l = 0 ∨ l = 1 ∨ l = 2) : cV (lanK S l v) 9 = lan S l v := by
  have e : ∀ k j : Int, (k + 3) / 4 = j → lanK S l v k = if j = l then S 20 (v * 9 + k) else 0 := fun k j h => by
    unfold lanK
    rw [h]
  rw [cV_9, e 0 0 (by decide), e 1 1 (by decide), e 2 1 (by decide), e 3 1 (by decide), e 4 1 (by decide), e 5 2 (by decide), e 6 2 (by decide), e 7 2 (by decide), e 8 2 (by decide)]
  unfold lan
  rw [cV_4]
  rcases hl with rfl | rfl | rfl
  · rw [if_pos rfl, if_pos rfl, if_neg (by decide), if_neg (by decide), if_neg (by decide), if_neg (by decide), if_neg (by decide), if_neg (by decide), if_neg (by decide), if_neg (by decide), show v * 9 + 0 = v * 9 by omega]
    omega
  · rw [if_neg (show ¬ (0 : Int) = 1 by decide), if_pos rfl, if_pos rfl, if_pos rfl, if_pos rfl, if_neg (by decide), if_neg (by decide), if_neg (by decide), if_neg (by decide), if_neg (by decide), if_pos rfl, show v * 9 + 1 + 0 = v * 9 + 1 by omega, show v * 9 + 1 + 1 = v * 9 + 2 by omega, show v * 9 + 1 + 2 = v * 9 + 3 by omega, show v * 9 + 1 + 3 = v * 9 + 4 by omega]
    omega
  · rw [if_neg (show ¬ (0 : Int) = 2 by decide), if_neg (show ¬ (1 : Int) = 2 by decide), if_neg (show ¬ (1 : Int) = 2 by decide), if_neg (show ¬ (1 : Int) = 2 by decide), if_neg (show ¬ (1 : Int) = 2 by decide), if_pos rfl, if_pos rfl, if_pos rfl, if_pos rfl, if_neg (by decide), if_neg (by decide), show v * 9 + 5 + 0 = v * 9 + 5 by omega, show v * 9 + 5 + 1 = v * 9 + 6 by omega, show v * 9 + 5 + 2 = v * 9 + 7 by omega, show v * 9 + 5 + 3 = v * 9 + 8 by omega]
    omega
theorem cV_le' {M : Int} (h : ∀ k, 0 ≤ k → k < N → 0 ≤ f k ∧ f k ≤ M) (M0 : 0 ≤ M) (x0 : 0 ≤ x) (x1 : x ≤ N) : 0 ≤ cV f x ∧ cV f x ≤ M * x := by
  have := smN_in (f := f) (a := 0) (b := M) x.toNat (fun i hi => h i (by omega) (by omega))
  rw [show ((x.toNat : Nat) : Int) = x by omega, Int.zero_mul] at this
  exact this
theorem q20_in (I : IV S) {q : Int} (q0 : 0 ≤ q) (q1 : q < 144) : 0 ≤ S 20 q ∧ S 20 q ≤ 6 := (I.w.2.2.2 q q0 q1).1
theorem lan_in (I : IV S) (v0 : 0 ≤ v) (v1 : v < S 1 3 * S 1 4) : 0 ≤ lan S l v ∧ lan S l v ≤ 24 := by
  have hN := gN I.1.1
  unfold lan
  split
  · have := q20_in I (q := v * 9) (by omega) (by omega)
    omega
  · have := cV_le' (f := fun k => S 20 (v * 9 + (if l = 1 then 1 else 5) + k)) (N := 4) (M := 6) (x := 4) (fun k a b => by
      split
      · exact q20_in I (by omega) (by omega)
      · exact q20_in I (by omega) (by omega)) (by decide) (by decide) (by decide)
    omega
theorem lans_in (I : IV S) (x0 : 0 ≤ x) (x1 : x ≤ S 1 3 * S 1 4) : 0 ≤ cV (lan S l) x ∧ cV (lan S l) x ≤ 24 * x := cV_le' (fun _ a b => lan_in I a b) (by decide) x0 x1
theorem x_laneV (hx : NX 2 w S) (I : IV S) : f_N_heldInLane 2 l w = some (cV (lan S l) (S 1 3 * S 1 4), w) := by
  have hN := gN I.1.1
  have e5 : w (2 + 1) 5 = S 1 3 * S 1 4 := hx.2.2.1.1
  unfold f_N_heldInLane
  refine vL (V := fun x => cV (lan S l) x) (N := S 1 3 * S 1 4) (L := fun m x s => f_N_heldInLane_4 2 m l s x w) (fun m x x0 x1 => ?_) (fun m => ?_) (by omega) (by omega) rfl
  · have h1 := lans_in (l := l) I x0 (by omega)
    have h2 := lan_in (l := l) I x0 x1
    rw [cV_s x0, f_N_heldInLane_4, e5, if_pos x1, w32_ok (z := x * 9) (by omega) (by omega), w32_ok (z := x + 1) (by omega) (by omega)]
    by_cases c : l = 0
    · have e : lan S l x = S 20 (x * 9) := by
        unfold lan
        rw [if_pos c]
      rw [if_pos c, qld_ok (by omega) (by omega), show w (2 + 20) (x * 9) = S 20 (x * 9) from rx_20 hx.1 (by omega) (by omega), ← e, w32_ok (by omega) (by omega)]
    · have hf : f_X_firstOfLane l w = some ((if l = 1 then 1 else 5), w) := by
        unfold f_X_firstOfLane
        split <;> rfl
      have h15 : (if l = 1 then (1 : Int) else 5) = 1 ∨ (if l = 1 then (1 : Int) else 5) = 5 := by split <;> simp
      have e : lan S l x = cV (fun k => S 20 (x * 9 + (if l = 1 then 1 else 5) + k)) 4 := by
        unfold lan
        rw [if_neg c]
      rw [if_neg c, qbd hf]
      dsimp only
      rw [w32_ok (z := x * 9 + (if l = 1 then 1 else 5)) (by omega) (by omega), qbd (x_heldV hx I (by omega) (by omega) (by decide) (by decide))]
      dsimp only
      rw [← e, w32_ok (by omega) (by omega)]
  · rw [f_N_heldInLane_4, e5, if_neg (by omega)]
theorem m_laneV (hR : RM w S) (I : IV S) (hl : l = 0 ∨ l = 1 ∨ l = 2) : f_M_inLane l w = some (cV (lan S l) (S 1 3 * S 1 4), w) := by
  have hN := gN I.1.1
  have hk : ∀ v, 0 ≤ v → v < S 1 3 * S 1 4 → ∀ k, 0 ≤ k → k < 9 → 0 ≤ lanK S l v k ∧ lanK S l v k ≤ 6 := fun v a b k c d => by
    have := q20_in I (q := v * 9 + k) (by omega) (by omega)
    unfold lanK
    split <;> omega
  unfold f_M_inLane
  refine vL (V := fun x => cV (lan S l) x) (N := S 1 3 * S 1 4) (L := fun m x s => f_M_inLane_4 m l s x w) (fun m x x0 x1 => ?_) (fun m => ?_) (by omega) (by omega) rfl
  · have h1 := lans_in (l := l) I x0 (by omega)
    rw [cV_s x0, ← lan_9 hl, f_M_inLane_4, qbd (mg_nodes hR.wh I.1.1)]
    dsimp only
    rw [if_pos x1]
    refine vL (V := fun y => cV (lan S l) x + cV (lanK S l x) y) (N := 9) (L := fun m' y s => f_M_inLane_15 (f_M_inLane_4 m) m' l s x y w) (fun m' y y0 y1 => ?_) (fun m' => ?_) (by decide) (by decide) (by show _ = cV (lan S l) x + 0; omega)
    · have h3 := cV_le' (f := lanK S l x) (N := 9) (M := 6) (x := y) (hk x x0 x1) (by decide) y0 (by omega)
      have h4 := hk x x0 x1 y y0 y1
      have h44 : ∀ z, z = lanK S l x y → f_M_inLane_44 (f_M_inLane_4 m) (f_M_inLane_15 (f_M_inLane_4 m) m') (cV (lan S l) x + cV (lanK S l x) y) z l x y w = f_M_inLane_15 (f_M_inLane_4 m) m' l (cV (lan S l) x + (cV (lanK S l x) y + lanK S l x y)) x (y + 1) w := by
        intro z hz
        unfold f_M_inLane_44
        rw [hz, w32_ok (z := y + 1) (by omega) (by omega), w32_ok (by omega) (by omega), Int.add_assoc]
      rw [cV_s y0, f_M_inLane_15, if_pos y1, qdv_ok (by decide), w32_ok (z := y + 3) (by omega) (by omega), jdiv_ok (by omega) (by omega) (by decide) (by decide)]
      by_cases c : (y + 3) / 4 = l
      · rw [if_pos c, qbd (m_many hR x0 (by omega) y0 y1)]
        dsimp only
        rw [h44 _ (by unfold lanK; rw [if_pos c])]
      · rw [if_neg c, h44 0 (by unfold lanK; rw [if_neg c])]
    · rw [f_M_inLane_15, if_neg (by decide), w32_ok (z := x + 1) (by omega) (by omega)]
  · rw [f_M_inLane_4, qbd (mg_nodes hR.wh I.1.1)]
    dsimp only
    rw [if_neg (by omega)]
def mkN (S : qMem) (r : Int) : Int := if S 26 r = -1 then 0 else 1
theorem mkN_in : 0 ≤ mkN S r ∧ mkN S r ≤ 1 := by
  unfold mkN
  split <;> omega
theorem m_marksV (hR : RM w S) (I : IV S) : f_M_marksNow w = some (cV (mkN S) (2 * (S 1 3 + S 1 4)), w) := by
  have h16 := g16r I.1.1
  have g := I.1.1
  obtain ⟨⟨ga, gb⟩, gc, gd'⟩ := g
  unfold f_M_marksNow
  refine vL (V := fun x => cV (mkN S) x) (N := 2 * (S 1 3 + S 1 4)) (L := fun m x s => f_M_marksNow_4 m s x w) (fun m x x0 x1 => ?_) (fun m => ?_) (by omega) (by omega) rfl
  · have hin := cV_in (f := mkN S) x0 (fun _ => mkN_in)
    have h33 : ∀ z, z = mkN S x → f_M_marksNow_33 (f_M_marksNow_4 m) (cV (mkN S) x) z x w = f_M_marksNow_4 m (cV (mkN S) x + mkN S x) (x + 1) w := by
      intro z hz
      have := mkN_in (S := S) (r := x)
      unfold f_M_marksNow_33
      rw [hz, w32_ok (z := x + 1) (by omega) (by omega), w32_ok (by omega) (by omega)]
    rw [cV_s x0, f_M_marksNow_4, qbd (mg_rings hR.wh I.1.1)]
    dsimp only
    rw [if_pos x1, qbd (m_ringAt x0 (by omega))]
    dsimp only
    rw [w32_ok (z := 5274 + 6 * x + 1) (by omega) (by omega), qld_ok (by omega) (by omega), rm_26 hR x0 x1 h16 (by omega)]
    by_cases e : S 26 x = -1
    · rw [if_pos e, h33 0 (by unfold mkN; rw [if_pos e])]
    · rw [if_neg e, h33 1 (by unfold mkN; rw [if_neg e])]
  · rw [f_M_marksNow_4, qbd (mg_rings hR.wh I.1.1)]
    dsimp only
    rw [if_neg (by omega)]
/-- what isn't a ring has no mark -/
def DD (w : qMem) (S : qMem) : Prop := ∀ r, 0 ≤ r → r < 16 → w 28 r = S 26 r
theorem x_marksV (D : DD w S) (I : IV S) : f_R_marksNow 26 w = some (cV (mkN S) (2 * (S 1 3 + S 1 4)), w) := by
  have h16 := g16r I.1.1
  have g := I.1.1
  obtain ⟨⟨ga, gb⟩, gc, gd'⟩ := g
  have hz : cV (mkN S) 16 = cV (mkN S) (2 * (S 1 3 + S 1 4)) := cV_z (by omega) h16 (fun k a b => by
    unfold mkN
    rw [if_pos ((I.2.2.1 k (by omega) b).2 a)])
  rw [← hz]
  unfold f_R_marksNow
  refine vL (V := fun x => cV (mkN S) x) (N := 16) (L := fun m x s => f_R_marksNow_4 26 m s x w) (fun m x x0 x1 => ?_) (fun m => ?_) (by decide) (by decide) rfl
  · have hin := cV_in (f := mkN S) x0 (fun _ => mkN_in)
    rw [cV_s x0, f_R_marksNow_4, if_pos x1, qld_ok x0 x1, w32_ok (z := x + 1) (by omega) (by omega), show w (26 + 2) x = S 26 x from D x x0 x1]
    have ev : mkN S x = if S 26 x = -1 then 0 else 1 := rfl
    rw [ev]
    by_cases e : S 26 x = -1
    · rw [if_pos e, if_pos e, Int.add_zero]
    · rw [if_neg e, if_neg e, w32_ok (by omega) (by omega)]
  · rw [f_R_marksNow_4, if_neg (by decide)]
theorem look_eq (hx : NX 2 w S) (hR : RM w S) (I : IV S) (X : XT S) (D : DD w S) (h6 : w 1 6 = w 88 2) : ∃ y, f_X_look x w = some (y, w) ∧ f_M_look x w = some (y, w) := by
  unfold f_X_look f_M_look
  rw [qbd m_isIn]
  dsimp only
  rw [bi_if]
  have wh := hx.2.1
  by_cases c0 : x = 0
  · subst c0
    refine ⟨S 1 3, ?_, ?_⟩
    · rw [if_pos rfl, show w 3 3 = S 1 3 from wh.1]
    · rw [if_pos (by decide), qld_ok (by decide) (by decide), show w 89 0 = S 1 3 from hR.wh.1]
  by_cases c1 : x = 1
  · subst c1
    refine ⟨S 1 4, ?_, ?_⟩
    · rw [if_neg (by decide), if_pos rfl, show w 3 4 = S 1 4 from wh.2]
    · rw [if_pos (by decide), qld_ok (by decide) (by decide), show w 89 1 = S 1 4 from hR.wh.2]
  by_cases c2 : x = 2
  · subst c2
    refine ⟨S 0 6, ?_, ?_⟩
    · rw [if_neg (by decide), if_neg (by decide), if_pos rfl, show w 2 6 = S 0 6 from rx_0_6 hx.1]
    · rw [if_pos (by decide), qld_ok (by decide) (by decide), show w 89 2 = S 0 6 from rm_0_6 hR]
  by_cases c3 : x = 3
  · subst c3
    refine ⟨S 0 7, ?_, ?_⟩
    · rw [if_neg (by decide), if_neg (by decide), if_neg (by decide), if_pos rfl, show w 2 7 = S 0 7 from rx_0_7 hx.1]
    · rw [if_pos (by decide), qld_ok (by decide) (by decide), show w 89 3 = S 0 7 from rm_0_7 hR]
  by_cases c4 : x = 4
  · subst c4
    refine ⟨S 0 8, ?_, ?_⟩
    · rw [if_neg (by decide), if_neg (by decide), if_neg (by decide), if_neg (by decide), if_pos rfl, show w 2 8 = S 0 8 from rx_0_8 hx.1]
    · rw [if_pos (by decide), qld_ok (by decide) (by decide), show w 89 4 = S 0 8 from rm_0_8 hR]
  by_cases c5 : x = 5
  · subst c5
    refine ⟨S 0 9, ?_, ?_⟩
    · rw [if_neg (by decide), if_neg (by decide), if_neg (by decide), if_neg (by decide), if_neg (by decide), if_pos rfl, show w 2 9 = S 0 9 from rx_0_9 hx.1]
    · rw [if_pos (by decide), qld_ok (by decide) (by decide), show w 89 5 = S 0 9 from rm_0_9 hR]
  by_cases c6 : x = 6
  · subst c6
    refine ⟨S 0 10, ?_, ?_⟩
    · rw [if_neg (by decide), if_neg (by decide), if_neg (by decide), if_neg (by decide), if_neg (by decide), if_neg (by decide), if_pos rfl, show w 2 10 = S 0 10 from rx_0_10 hx.1]
    · rw [if_pos (by decide), qld_ok (by decide) (by decide), show w 89 6 = S 0 10 from rm_0_10 hR]
  by_cases c7 : x = 7
  · subst c7
    refine ⟨S 5 13, ?_, ?_⟩
    · rw [if_neg (by decide), if_neg (by decide), if_neg (by decide), if_neg (by decide), if_neg (by decide), if_neg (by decide), if_neg (by decide), if_pos rfl, show w 7 13 = S 5 13 from rx_5_13 hx.1]
    · rw [if_pos (by decide), qld_ok (by decide) (by decide), show w 89 7 = S 5 13 from rm_5_13 hR]
  by_cases c8 : x = 8
  · subst c8
    refine ⟨S 5 14, ?_, ?_⟩
    · rw [if_neg (by decide), if_neg (by decide), if_neg (by decide), if_neg (by decide), if_neg (by decide), if_neg (by decide), if_neg (by decide), if_neg (by decide), if_pos rfl, show w 7 14 = S 5 14 from rx_5_14 hx.1]
    · rw [if_pos (by decide), qld_ok (by decide) (by decide), show w 89 8 = S 5 14 from rm_5_14 hR]
  by_cases c9 : x = 9
  · subst c9
    refine ⟨cV (lan S 0) (S 1 3 * S 1 4), ?_, ?_⟩
    · rw [if_neg (by decide), if_neg (by decide), if_neg (by decide), if_neg (by decide), if_neg (by decide), if_neg (by decide), if_neg (by decide), if_neg (by decide), if_neg (by decide), if_pos rfl, qbd (x_laneV hx I)]
    · rw [if_neg (by decide), if_pos rfl, qbd (m_laneV hR I (by decide))]
  by_cases c10 : x = 10
  · subst c10
    refine ⟨cV (lan S 1) (S 1 3 * S 1 4), ?_, ?_⟩
    · rw [if_neg (by decide), if_neg (by decide), if_neg (by decide), if_neg (by decide), if_neg (by decide), if_neg (by decide), if_neg (by decide), if_neg (by decide), if_neg (by decide), if_neg (by decide), if_pos rfl, qbd (x_laneV hx I)]
    · rw [if_neg (by decide), if_neg (by decide), if_pos rfl, qbd (m_laneV hR I (by decide))]
  by_cases c11 : x = 11
  · subst c11
    refine ⟨cV (lan S 2) (S 1 3 * S 1 4), ?_, ?_⟩
    · rw [if_neg (by decide), if_neg (by decide), if_neg (by decide), if_neg (by decide), if_neg (by decide), if_neg (by decide), if_neg (by decide), if_neg (by decide), if_neg (by decide), if_neg (by decide), if_neg (by decide), if_pos rfl, qbd (x_laneV hx I)]
    · rw [if_neg (by decide), if_neg (by decide), if_neg (by decide), if_pos rfl, qbd (m_laneV hR I (by decide))]
  by_cases c12 : x = 12
  · subst c12
    refine ⟨S 35 0, ?_, ?_⟩
    · rw [if_neg (by decide), if_neg (by decide), if_neg (by decide), if_neg (by decide), if_neg (by decide), if_neg (by decide), if_neg (by decide), if_neg (by decide), if_neg (by decide), if_neg (by decide), if_neg (by decide), if_neg (by decide), if_pos rfl, qbd (x_lateTV hx I), ← X.2.1]
    · rw [if_neg (by decide), if_neg (by decide), if_neg (by decide), if_neg (by decide), if_pos rfl, qld_ok (by decide) (by decide), show w 89 9 = S 35 0 from rm_35_0 hR]
  by_cases c13 : x = 13
  · subst c13
    refine ⟨S 35 1, ?_, ?_⟩
    · rw [if_neg (by decide), if_neg (by decide), if_neg (by decide), if_neg (by decide), if_neg (by decide), if_neg (by decide), if_neg (by decide), if_neg (by decide), if_neg (by decide), if_neg (by decide), if_neg (by decide), if_neg (by decide), if_neg (by decide), if_pos rfl, qbd (x_hopsTV hx I), ← X.2.2.1]
    · rw [if_neg (by decide), if_neg (by decide), if_neg (by decide), if_neg (by decide), if_neg (by decide), if_pos rfl, qld_ok (by decide) (by decide), show w 89 10 = S 35 1 from rm_35_1 hR]
  by_cases c14 : x = 14
  · subst c14
    refine ⟨S 0 11, ?_, ?_⟩
    · rw [if_neg (by decide), if_neg (by decide), if_neg (by decide), if_neg (by decide), if_neg (by decide), if_neg (by decide), if_neg (by decide), if_neg (by decide), if_neg (by decide), if_neg (by decide), if_neg (by decide), if_neg (by decide), if_neg (by decide), if_neg (by decide), if_pos rfl, show w 2 11 = S 0 11 from rx_0_11 hx.1]
    · rw [if_neg (by decide), if_neg (by decide), if_neg (by decide), if_neg (by decide), if_neg (by decide), if_neg (by decide), if_pos rfl, qld_ok (by decide) (by decide), show w 89 11 = S 0 11 from rm_0_11 hR]
  by_cases c15 : x = 15
  · subst c15
    refine ⟨S 24 9, ?_, ?_⟩
    · rw [if_neg (by decide), if_neg (by decide), if_neg (by decide), if_neg (by decide), if_neg (by decide), if_neg (by decide), if_neg (by decide), if_neg (by decide), if_neg (by decide), if_neg (by decide), if_neg (by decide), if_neg (by decide), if_neg (by decide), if_neg (by decide), if_neg (by decide), if_pos rfl, show w 26 9 = S 24 9 from rx_24_9 hx.1]
    · rw [if_neg (by decide), if_neg (by decide), if_neg (by decide), if_neg (by decide), if_neg (by decide), if_neg (by decide), if_neg (by decide), if_pos rfl, qld_ok (by decide) (by decide), show w 89 12 = S 24 9 from rm_24_9 hR]
  by_cases c16 : x = 16
  · subst c16
    refine ⟨cV (mkN S) (2 * (S 1 3 + S 1 4)), ?_, ?_⟩
    · rw [if_neg (by decide), if_neg (by decide), if_neg (by decide), if_neg (by decide), if_neg (by decide), if_neg (by decide), if_neg (by decide), if_neg (by decide), if_neg (by decide), if_neg (by decide), if_neg (by decide), if_neg (by decide), if_neg (by decide), if_neg (by decide), if_neg (by decide), if_neg (by decide), if_pos rfl, qbd (x_marksV D I)]
    · rw [if_neg (by decide), if_neg (by decide), if_neg (by decide), if_neg (by decide), if_neg (by decide), if_neg (by decide), if_neg (by decide), if_neg (by decide), if_pos rfl, qbd (m_marksV hR I)]
  by_cases c17 : x = 17
  · subst c17
    refine ⟨w 1 6, ?_, ?_⟩
    · rw [if_neg (by decide), if_neg (by decide), if_neg (by decide), if_neg (by decide), if_neg (by decide), if_neg (by decide), if_neg (by decide), if_neg (by decide), if_neg (by decide), if_neg (by decide), if_neg (by decide), if_neg (by decide), if_neg (by decide), if_neg (by decide), if_neg (by decide), if_neg (by decide), if_neg (by decide), if_pos rfl]
    · rw [if_neg (by decide), if_neg (by decide), if_neg (by decide), if_neg (by decide), if_neg (by decide), if_neg (by decide), if_neg (by decide), if_neg (by decide), if_neg (by decide), if_pos rfl, h6]
  by_cases c18 : x = 18
  · subst c18
    refine ⟨S 35 2, ?_, ?_⟩
    · rw [if_neg (by decide), if_neg (by decide), if_neg (by decide), if_neg (by decide), if_neg (by decide), if_neg (by decide), if_neg (by decide), if_neg (by decide), if_neg (by decide), if_neg (by decide), if_neg (by decide), if_neg (by decide), if_neg (by decide), if_neg (by decide), if_neg (by decide), if_neg (by decide), if_neg (by decide), if_neg (by decide), if_pos rfl, qbd (x_disTV hx I), ← X.2.2.2]
    · rw [if_neg (by decide), if_neg (by decide), if_neg (by decide), if_neg (by decide), if_neg (by decide), if_neg (by decide), if_neg (by decide), if_neg (by decide), if_neg (by decide), if_neg (by decide), if_pos rfl, qld_ok (by decide) (by decide), show w 89 13 = S 35 2 from rm_35_2 hR]
  by_cases c19 : x = 19
  · subst c19
    refine ⟨S 0 12, ?_, ?_⟩
    · rw [if_neg (by decide), if_neg (by decide), if_neg (by decide), if_neg (by decide), if_neg (by decide), if_neg (by decide), if_neg (by decide), if_neg (by decide), if_neg (by decide), if_neg (by decide), if_neg (by decide), if_neg (by decide), if_neg (by decide), if_neg (by decide), if_neg (by decide), if_neg (by decide), if_neg (by decide), if_neg (by decide), if_neg (by decide), if_pos rfl, show w 2 12 = S 0 12 from rx_0_12 hx.1]
    · rw [if_neg (by decide), if_neg (by decide), if_neg (by decide), if_neg (by decide), if_neg (by decide), if_neg (by decide), if_neg (by decide), if_neg (by decide), if_neg (by decide), if_neg (by decide), if_neg (by decide), if_pos rfl, qld_ok (by decide) (by decide), show w 89 14 = S 0 12 from rm_0_12 hR]
  refine ⟨-10, ?_, ?_⟩
  · rw [if_neg c0, if_neg c1, if_neg c2, if_neg c3, if_neg c4, if_neg c5, if_neg c6, if_neg c7, if_neg c8, if_neg c9, if_neg c10, if_neg c11, if_neg c12, if_neg c13, if_neg c14, if_neg c15, if_neg c16, if_neg c17, if_neg c18, if_neg c19]
  · rw [if_neg (by omega), if_neg c9, if_neg c10, if_neg c11, if_neg c12, if_neg c13, if_neg c14, if_neg c15, if_neg c16, if_neg c17, if_neg c18, if_neg c19]
end LK
