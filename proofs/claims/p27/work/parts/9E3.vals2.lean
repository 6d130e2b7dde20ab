/-! of a pair, and of all: the same number on both sides -/
def pfN (S : qMem) (a b x p : Int) : Int := if S 6 p = a ∧ S 7 p = b then (if x = 0 then 1 else if S 9 p = 3 then (if x = 1 then 1 else if S 15 p = 1 then 1 else 0) else 0) else 0
def pfL (S : qMem) (a b p s : Int) : Int := if S 6 p = a ∧ S 7 p = b ∧ S 9 p = 3 then (if s < dlt S p then dlt S p else s) else s
def aPair (S : qMem) (a b x : Int) : Int := if 0 ≤ a ∧ a < S 1 3 * S 1 4 then (if 0 ≤ b ∧ b < S 1 3 * S 1 4 then (if 0 ≤ x ∧ x ≤ 3 then (if x = 3 then fV (pfL S a b) (-1) (S 5 13) else cV (pfN S a b x) (S 5 13)) else -1) else -1) else -1
def lan (S : qMem) (l v : Int) : Int := if l = 0 then S 20 (v * 9) else cV (fun k => S 20 (v * 9 + (if l = 1 then 1 else 5) + k)) 4
section VM
variable {w w' S T : qMem} {v t n x p a b l N y s : Int} {f g : Int → Int}
theorem pfN_01 : 0 ≤ pfN S a b x p ∧ pfN S a b x p ≤ 1 := by
  unfold pfN
  repeat' split
  all_goals omega
theorem pfN_n (e : ¬ (S 6 p = a ∧ S 7 p = b)) : pfN S a b x p = 0 := by
  unfold pfN
  rw [if_neg e]
theorem pfN_0 (e : S 6 p = a ∧ S 7 p = b) : pfN S a b 0 p = 1 := by
  unfold pfN
  rw [if_pos e, if_pos rfl]
theorem pfN_u (e : S 6 p = a ∧ S 7 p = b) (h : S 9 p ≠ 3) (hx : x ≠ 0) : pfN S a b x p = 0 := by
  unfold pfN
  rw [if_pos e, if_neg hx, if_neg h]
theorem pfN_1 (e : S 6 p = a ∧ S 7 p = b) (h : S 9 p = 3) : pfN S a b 1 p = 1 := by
  unfold pfN
  rw [if_pos e, if_neg (by decide), if_pos h, if_pos rfl]
theorem pfN_2 (e : S 6 p = a ∧ S 7 p = b) (h : S 9 p = 3) (h0 : x ≠ 0) (h1 : x ≠ 1) : pfN S a b x p = if S 15 p = 1 then 1 else 0 := by
  unfold pfN
  rw [if_pos e, if_neg h0, if_pos h, if_neg h1]
theorem pfN_x (X : XT S) (e : S 6 p = a ∧ S 7 p = b) (p0 : 0 ≤ p) (p1 : p < S 5 13) : pfN S a b 2 p = S 15 p := by
  by_cases h9 : S 9 p = 3
  · rw [pfN_2 e h9 (by decide) (by decide)]
    rcases X.1 p p0 p1 with h | h
    · rw [h, if_neg (by decide)]
    · rw [h.1, if_pos rfl]
  · rw [pfN_u e h9 (by decide)]
    exact ((X.1 p p0 p1).resolve_right (fun z => h9 z.2)).symm
theorem pfL_e (e : S 6 p = a ∧ S 7 p = b) (hd : S 9 p = 3 ↔ S 13 p ≠ -1) (h : -1 ≤ s) : pfL S a b p s = if (if S 13 p = -1 then -1 else w32 (S 13 p - S 8 p)) ≤ s then s else (if S 13 p = -1 then -1 else w32 (S 13 p - S 8 p)) := by
  unfold pfL dlt
  by_cases c : S 13 p = -1
  · rw [if_pos c, if_pos h, if_neg (fun z => hd.mp z.2.2 c)]
  · rw [if_neg c, if_pos ⟨e.1, e.2, hd.mpr c⟩]
    by_cases q : w32 (S 13 p - S 8 p) ≤ s
    · rw [if_pos q, if_neg (by omega)]
    · rw [if_neg q, if_pos (by omega)]
theorem pfL_ge (h : -1 ≤ s) : -1 ≤ pfL S a b p s := by
  unfold pfL
  repeat' split
  all_goals omega
theorem fL_ge : ∀ n : Nat, -1 ≤ foN1 (pfL S a b) (-1) n := by
  intro n
  induction n with
  | zero => exact Int.le_refl _
  | succ n ih => exact pfL_ge ih
theorem x_sentBV (hx : NX 2 w S) (I : IV S) : f_P_sentBetween 7 a b w = some (cV (pfN S a b 0) (S 5 13), w) := by
  have hc := I.1.2.2.2.2.2.2.1
  unfold f_P_sentBetween
  refine vL (V := fun x => cV (pfN S a b 0) x) (N := S 5 13) (L := fun m x s => f_P_sentBetween_5 7 m a b s x w) (fun m x x0 x1 => ?_) (fun m => ?_) hc.1 (by omega) rfl
  · have hin := cV_in (f := pfN S a b 0) x0 (fun _ => pfN_01)
    rw [cV_s x0, f_P_sentBetween_5, xp_c hx, if_pos x1, qbd (xp_btw hx I x0 x1)]
    dsimp only
    rw [bi_if, w32_ok (z := x + 1) (by omega) (by omega)]
    by_cases e : S 6 x = a ∧ S 7 x = b
    · rw [if_pos e, w32_ok (by omega) (by omega), pfN_0 e]
    · rw [if_neg e, pfN_n e, Int.add_zero]
  · rw [f_P_sentBetween_5, xp_c hx, if_neg (by omega)]
theorem x_delBV (hx : NX 2 w S) (I : IV S) : f_P_deliveredBetween 7 a b w = some (cV (pfN S a b 1) (S 5 13), w) := by
  have hc := I.1.2.2.2.2.2.2.1
  unfold f_P_deliveredBetween
  refine vL (V := fun x => cV (pfN S a b 1) x) (N := S 5 13) (L := fun m x s => f_P_deliveredBetween_5 7 m a b s x w) (fun m x x0 x1 => ?_) (fun m => ?_) hc.1 (by omega) rfl
  · have hin := cV_in (f := pfN S a b 1) x0 (fun _ => pfN_01)
    rw [cV_s x0, f_P_deliveredBetween_5, xp_c hx, if_pos x1, qbd (xp_btw hx I x0 x1)]
    dsimp only
    rw [bi_if, w32_ok (z := x + 1) (by omega) (by omega)]
    by_cases e : S 6 x = a ∧ S 7 x = b
    · rw [if_pos e, qbd (xp_del hx I x0 x1)]
      dsimp only
      rw [bi_if]
      by_cases e3 : S 9 x = 3
      · rw [if_pos e3, w32_ok (by omega) (by omega), pfN_1 e e3]
      · rw [if_neg e3, pfN_u e e3 (by decide), Int.add_zero]
    · rw [if_neg e, pfN_n e, Int.add_zero]
  · rw [f_P_deliveredBetween_5, xp_c hx, if_neg (by omega)]
theorem x_disBV (hx : NX 2 w S) (I : IV S) (X : XT S) : f_P_disorderBetween 7 a b w = some (cV (pfN S a b 2) (S 5 13), w) := by
  have hc := I.1.2.2.2.2.2.2.1
  unfold f_P_disorderBetween
  refine vL (V := fun x => cV (pfN S a b 2) x) (N := S 5 13) (L := fun m x s => f_P_disorderBetween_5 7 m a b s x w) (fun m x x0 x1 => ?_) (fun m => ?_) hc.1 (by omega) rfl
  · have hin := cV_in (f := pfN S a b 2) x0 (fun _ => pfN_01)
    have h01 := pfN_01 (S := S) (a := a) (b := b) (x := 2) (p := x)
    rw [cV_s x0, f_P_disorderBetween_5, xp_c hx, if_pos x1, qbd (xp_btw hx I x0 x1)]
    dsimp only
    rw [bi_if, w32_ok (z := x + 1) (by omega) (by omega)]
    by_cases e : S 6 x = a ∧ S 7 x = b
    · rw [if_pos e, qld_ok x0 (by omega), show w (7 + 10) x = S 15 x from rx_15 hx.1 x0 x1 hc.2, ← pfN_x X e x0 x1, w32_ok (by omega) (by omega)]
    · rw [if_neg e, pfN_n e, Int.add_zero]
  · rw [f_P_disorderBetween_5, xp_c hx, if_neg (by omega)]
theorem x_latBV (hx : NX 2 w S) (I : IV S) : f_P_latestBetween 7 a b w = some (fV (pfL S a b) (-1) (S 5 13), w) := by
  have hc := I.1.2.2.2.2.2.2.1
  unfold f_P_latestBetween
  refine vL (V := fun x => fV (pfL S a b) (-1) x) (N := S 5 13) (L := fun m x s => f_P_latestBetween_5 7 m a b s x w) (fun m x x0 x1 => ?_) (fun m => ?_) hc.1 (by omega) rfl
  · rw [fV_s x0, f_P_latestBetween_5, xp_c hx, if_pos x1, qbd (xp_btw hx I x0 x1)]
    dsimp only
    rw [bi_if, w32_ok (z := x + 1) (by omega) (by omega)]
    generalize fV (pfL S a b) (-1) x = s
    unfold pfL
    by_cases e : S 6 x = a ∧ S 7 x = b
    · rw [if_pos e, qbd (xp_del hx I x0 x1)]
      dsimp only
      rw [bi_if]
      by_cases e3 : S 9 x = 3
      · rw [if_pos e3, qbd (xp_late hx I x0 x1), if_pos (show S 6 x = a ∧ S 7 x = b ∧ S 9 x = 3 from ⟨e.1, e.2, e3⟩)]
        rfl
      · rw [if_neg e3, if_neg (fun z => e3 z.2.2)]
    · rw [if_neg e, if_neg (fun z => e ⟨z.1, z.2.1⟩)]
  · rw [f_P_latestBetween_5, xp_c hx, if_neg (by omega)]
theorem x_pair (hx : NX 2 w S) (I : IV S) (X : XT S) : f_X_pair a b x w = some (aPair S a b x, w) := by
  unfold f_X_pair aPair
  rw [qbd (g_hasNode (o := 3) hx.2)]
  dsimp only
  rw [bi_if]
  by_cases c : 0 ≤ a ∧ a < S 1 3 * S 1 4
  · rw [if_pos c, if_pos c, qbd (g_hasNode (o := 3) hx.2)]
    dsimp only
    rw [bi_if]
    by_cases c2 : 0 ≤ b ∧ b < S 1 3 * S 1 4
    · rw [if_pos c2, if_pos c2]
      by_cases c0 : x = 0
      · subst c0
        rw [if_pos rfl, qbd (x_sentBV hx I), if_pos (by decide), if_neg (by decide)]
      · rw [if_neg c0]
        by_cases c1 : x = 1
        · subst c1
          rw [if_pos rfl, qbd (x_delBV hx I), if_pos (by decide), if_neg (by decide)]
        · rw [if_neg c1]
          by_cases c2 : x = 2
          · subst c2
            rw [if_pos rfl, qbd (x_disBV hx I X), if_pos (by decide), if_neg (by decide)]
          · rw [if_neg c2]
            by_cases c3 : x = 3
            · subst c3
              rw [if_pos rfl, qbd (x_latBV hx I), if_pos (by decide), if_pos rfl]
            · rw [if_neg c3, if_neg (by omega)]
    · rw [if_neg c2, if_neg c2]
  · rw [if_neg c, if_neg c]
theorem m_pair (hR : RM w S) (I : IV S) : f_M_pair a b t w = some (aPair S a b t, w) := by
  have hc := I.1.2.2.2.2.2.2.1
  unfold f_M_pair aPair
  rw [qbd (mg_isNode hR.wh I.1.1)]
  dsimp only
  rw [bi_if]
  by_cases c : 0 ≤ a ∧ a < S 1 3 * S 1 4
  · rw [if_pos c, if_pos c, qbd (mg_isNode hR.wh I.1.1)]
    dsimp only
    rw [bi_if]
    by_cases c2 : 0 ≤ b ∧ b < S 1 3 * S 1 4
    · rw [if_pos c2, if_pos c2, qbd m_isIn]
      dsimp only
      rw [bi_if]
      by_cases c3 : 0 ≤ t ∧ t ≤ 3
      · rw [if_pos c3, if_pos c3]
        refine vL (σ := Int × Int) (s := (0, -1)) (V := fun x => (cV (pfN S a b t) x, fV (pfL S a b) (-1) x)) (N := S 5 13) (L := fun m x s => f_M_pair_36 m a b t s.1 s.2 x w) (fun m x x0 x1 => ?_) (fun m => ?_) hc.1 (by omega) rfl
        · have hin := cV_in (f := pfN S a b t) x0 (fun _ => pfN_01)
          have hfv : -1 ≤ fV (pfL S a b) (-1) x := fL_ge x.toNat
          have hd := pk_d I x0 x1
          have h150 : ∀ s0 s1, f_M_pair_150 (f_M_pair_36 m) s0 a b t s1 x w = f_M_pair_36 m a b t s1 s0 (x + 1) w := by
            intro s0 s1
            unfold f_M_pair_150
            rw [w32_ok (z := x + 1) (by omega) (by omega)]
          dsimp only
          rw [cV_s x0, fV_s x0]
          generalize cV (pfN S a b t) x = s0 at hin
          generalize fV (pfL S a b) (-1) x = s1 at hfv
          have h125 : S 6 x = a ∧ S 7 x = b → ∀ y, (y = 0 ∨ y = 1) → f_M_pair_125 (f_M_pair_36 m) s0 y a b t s1 x w = f_M_pair_36 m a b t (s0 + y) (pfL S a b x s1) (x + 1) w := by
            intro e y hy
            unfold f_M_pair_125
            rw [qbd (ms_lateOf hR I x0 x1)]
            dsimp only
            rw [w32_ok (z := s0 + y) (by omega) (by omega), pfL_e e hd hfv]
            by_cases q : (if S 13 x = -1 then -1 else w32 (S 13 x - S 8 x)) ≤ s1
            · rw [if_pos q, if_pos q, h150]
            · rw [if_neg q, if_neg q, qbd (ms_lateOf hR I x0 x1)]
              dsimp only
              rw [h150]
          have h90 : S 6 x = a ∧ S 7 x = b → ∀ z, (z = 0 ↔ S 9 x ≠ 3) → f_M_pair_90 (f_M_pair_36 m) z a b t s0 s1 x w = f_M_pair_36 m a b t (s0 + pfN S a b t x) (pfL S a b x s1) (x + 1) w := by
            intro e z hz
            unfold f_M_pair_90
            by_cases t0 : t = 0
            · rw [if_pos t0, h125 e 1 (Or.inr rfl), t0, pfN_0 e]
            · rw [if_neg t0]
              by_cases z0 : z = 0
              · rw [if_pos z0, h125 e 0 (Or.inl rfl), pfN_u e (hz.mp z0) t0]
              · have h9 : S 9 x = 3 := Decidable.of_not_not (fun q => z0 (hz.mpr q))
                rw [if_neg z0]
                by_cases t1 : t = 1
                · rw [if_pos t1, h125 e 1 (Or.inr rfl), t1, pfN_1 e h9]
                · rw [if_neg t1, qbd (mp_of hR I x0 x1 (f := 15) (by decide) (by decide) (by decide)), pfN_2 e h9 t0 t1]
                  dsimp only
                  by_cases e15 : S 15 x = 1
                  · rw [if_pos e15, if_pos e15, h125 e 1 (Or.inr rfl)]
                  · rw [if_neg e15, if_neg e15, h125 e 0 (Or.inl rfl)]
          rw [f_M_pair_36, qld_ok (by decide) (by decide), rm_5_13 hR, if_pos x1, w32_ok (z := x + 1) (by omega) (by omega), qbd (mp_of hR I x0 x1 (f := 6) (by decide) (by decide) (by decide))]
          dsimp only
          by_cases e : S 6 x = a ∧ S 7 x = b
          · rw [if_pos e.1, qbd (mp_of hR I x0 x1 (f := 7) (by decide) (by decide) (by decide))]
            dsimp only
            rw [if_pos e.2, qbd (mp_of hR I x0 x1 (f := 13) (by decide) (by decide) (by decide))]
            dsimp only
            by_cases e13 : S 13 x = -1
            · rw [if_pos e13, h90 e 0 ⟨fun _ q => hd.mp q e13, fun _ => rfl⟩]
            · rw [if_neg e13, h90 e 1 ⟨fun q => absurd q (by decide), fun q => absurd (hd.mpr e13) q⟩]
          · have hL : pfL S a b x s1 = s1 := by
              unfold pfL
              rw [if_neg (fun z => e ⟨z.1, z.2.1⟩)]
            rw [pfN_n e, hL, Int.add_zero]
            by_cases e6 : S 6 x = a
            · rw [if_pos e6, qbd (mp_of hR I x0 x1 (f := 7) (by decide) (by decide) (by decide))]
              dsimp only
              rw [if_neg (fun z => e ⟨e6, z⟩)]
            · rw [if_neg e6]
        · rw [f_M_pair_36, qld_ok (by decide) (by decide), rm_5_13 hR, if_neg (by omega)]
          unfold f_M_pair_158
          by_cases t3 : t = 3
          · rw [if_pos t3, if_pos t3]
          · rw [if_neg t3, if_neg t3]
      · rw [if_neg c3, if_neg c3]
    · rw [if_neg c2, if_neg c2]
  · rw [if_neg c, if_neg c]
/-- all together -/
theorem lt0_of (I : IV S) (p0 : 0 ≤ p) (p1 : p < S 5 13) : lt0 S p = if S 9 p = 3 then w32 (S 13 p - S 8 p) else 0 := by
  have h := I.2.1.1 p p0 p1
  have hck := I.1.2.2.2.2.2.1
  unfold lt0
  by_cases e : S 9 p = 3
  · have h8 := h.2.1.1
    have h13 := h.2.2.2.2.1
    have := h13.2.2 ((pk_d I p0 p1).mp e)
    rw [if_pos e, if_pos e, w32_ok (by omega) (by omega)]
  · rw [if_neg e, if_neg e]
theorem x_lateTV (hx : NX 2 w S) (I : IV S) : f_P_lateTogether 7 w = some (w32 (cV (lt0 S) (S 5 13)), w) := by
  have hc := I.1.2.2.2.2.2.2.1
  unfold f_P_lateTogether
  refine vL (V := fun x => w32 (cV (lt0 S) x)) (N := S 5 13) (L := fun m x s => f_P_lateTogether_4 7 m s x w) (fun m x x0 x1 => ?_) (fun m => ?_) hc.1 (by omega) rfl
  · rw [cV_s x0, lt0_of I x0 x1, f_P_lateTogether_4, xp_c hx, if_pos x1, qbd (xp_del hx I x0 x1)]
    dsimp only
    rw [bi_if, w32_ok (z := x + 1) (by omega) (by omega)]
    by_cases e : S 9 x = 3
    · rw [if_pos e, if_pos e, qbd (xp_late hx I x0 x1)]
      dsimp only
      rw [w32_a]
    · rw [if_neg e, if_neg e, Int.add_zero]
  · rw [f_P_lateTogether_4, xp_c hx, if_neg (by omega)]
theorem x_hopsTV (hx : NX 2 w S) (I : IV S) : f_P_hopsTogether 7 w = some (w32 (cV (S 12) (S 5 13)), w) := by
  have hc := I.1.2.2.2.2.2.2.1
  unfold f_P_hopsTogether
  refine vL (V := fun x => w32 (cV (S 12) x)) (N := S 5 13) (L := fun m x s => f_P_hopsTogether_4 7 m s x w) (fun m x x0 x1 => ?_) (fun m => ?_) hc.1 (by omega) rfl
  · rw [cV_s x0, f_P_hopsTogether_4, xp_c hx, if_pos x1, qld_ok x0 (by omega), show w (7 + 7) x = S 12 x from rx_12 hx.1 x0 x1 hc.2, w32_ok (z := x + 1) (by omega) (by omega), w32_a]
  · rw [f_P_hopsTogether_4, xp_c hx, if_neg (by omega)]
theorem x_disTV (hx : NX 2 w S) (I : IV S) : f_P_disorderTogether 7 w = some (w32 (cV (S 15) (S 5 13)), w) := by
  have hc := I.1.2.2.2.2.2.2.1
  unfold f_P_disorderTogether
  refine vL (V := fun x => w32 (cV (S 15) x)) (N := S 5 13) (L := fun m x s => f_P_disorderTogether_4 7 m s x w) (fun m x x0 x1 => ?_) (fun m => ?_) hc.1 (by omega) rfl
  · rw [cV_s x0, f_P_disorderTogether_4, xp_c hx, if_pos x1, qld_ok x0 (by omega), show w (7 + 10) x = S 15 x from rx_15 hx.1 x0 x1 hc.2, w32_ok (z := x + 1) (by omega) (by omega), w32_a]
  · rw [f_P_disorderTogether_4, xp_c hx, if_neg (by omega)]
end VM
