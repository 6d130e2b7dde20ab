/-! asking: way, queue, packet, trace, move -/
def wst (W H t a : Int) : Int := if ge W H a t = -1 then a else gn W H a (ge W H a t)
def wq (W H t : Int) : Nat → Int → Int
  | 0, a => a
  | n + 1, a => wq W H t n (wst W H t a)
def wyv (W H v t i : Int) : Int := if i = -1 then gf W H v t else if 0 ≤ i ∧ i < gf W H v t then ge W H (wq W H t i.toNat v) t else -1
def aWay (S : qMem) (v t i : Int) : Int := if vtb S v t = true then wyv (S 1 3) (S 1 4) v t i else -1
theorem qpe {F : Option (Int × qMem)} {r : Int × qMem} (h : F = some r) : (F.bind fun q => some (q.1, q.2)) = some r := by rw [h]; rfl
section Q2
variable {w w' S T : qMem} {W H v d t n x i a k l p : Int} {o : Nat}
theorem ge_in4 (h : ge W H a t ≠ -1) : 0 ≤ ge W H a t ∧ ge W H a t < 4 := by
  have := ge_in (W := W) (H := H) (v := a) (t := t)
  omega
theorem wst_in (g : gIn W H) (a0 : 0 ≤ a) (a1 : a < W * H) : 0 ≤ wst W H t a ∧ wst W H t a < W * H := by
  unfold wst
  by_cases e : ge W H a t = -1
  · rw [if_pos e]; exact ⟨a0, a1⟩
  · rw [if_neg e]
    have := ge_in4 e
    exact gn_in g a0 a1 this.1 this.2
theorem wst_f (g : gIn W H) (a0 : 0 ≤ a) (a1 : a < W * H) (t0 : 0 ≤ t) (t1 : t < W * H) (h : a ≠ t) : (ge W H a t ≠ -1 ∧ wst W H t a = gn W H a (ge W H a t)) ∧ gf W H (wst W H t a) t = gf W H a t - 1 := by
  have hn : ge W H a t ≠ -1 := fun z => h ((ge_ne g a0 a1 t0 t1).mp z)
  have h4 := ge_in4 hn
  have e : wst W H t a = gn W H a (ge W H a t) := by unfold wst; rw [if_neg hn]
  refine ⟨⟨hn, e⟩, ?_⟩
  rw [e]
  exact gp_far g a0 a1 t0 t1 h4.1 h4.2 (ge_gp rfl hn)
theorem g_way23 (h : RG o w W H) (g : gIn W H) (t0 : 0 ≤ t) (t1 : t < W * H) (i4 : i < 5) : ∀ (m : Nat) (d a k : Int), 0 ≤ a → a < W * H → 0 ≤ k → k ≤ i + 1 → i + 1 - k < m → f_G_wayStep_23 o m t i d a k w = some (if k ≤ i then ge W H (wq W H t (i - k).toNat a) t else d, w) := by
  intro m
  induction m with
  | zero => intro d a k _ _ _ _ _; omega
  | succ m ih =>
    intro d a k a0 a1 k0 k1 hm
    rw [f_G_wayStep_23]
    by_cases e : k ≤ i
    · have ha := wst_in (t := t) g a0 a1
      have IH := ih (ge W H a t) (wst W H t a) (k + 1) ha.1 ha.2 (by omega) (by omega) (by omega)
      have h57 : f_G_wayStep_57 o (f_G_wayStep_23 o m) (wst W H t a) t i (ge W H a t) k w = some (ge W H (wq W H t (i - k).toNat a) t, w) := by
        unfold f_G_wayStep_57
        rw [w32_ok (z := k + 1) (by omega) (by omega), IH]
        refine congrArg (fun z => some (z, w)) ?_
        by_cases e2 : k + 1 ≤ i
        · rw [if_pos e2, show (i - k).toNat = (i - (k + 1)).toNat + 1 by omega]
          rfl
        · rw [if_neg e2, show (i - k).toNat = 0 by omega]
          rfl
      rw [if_pos e, if_pos e, qbd (g_escapeBy h g a0 a1 t0 t1)]
      dsimp only
      unfold wst at h57
      by_cases e3 : ge W H a t = -1
      · rw [if_pos e3] at h57
        rw [if_pos e3]
        exact h57
      · have h4 := ge_in4 e3
        rw [if_neg e3] at h57
        rw [if_neg e3, qbd (g_nextBy h g a0 a1 h4.1 h4.2)]
        exact h57
    · rw [if_neg e, if_neg e]
theorem x_way (hx : NX 2 w S) (I : IV S) : f_X_way v t i w = some (aWay S v t i, w) := by
  unfold f_X_way aWay
  refine xg_vt hx (fun w => if i = (-1) then (f_G_distance 3 v t w).bind fun q6 => some (q6.1, q6.2) else (f_G_wayStep 3 v t i w).bind fun q7 => some (q7.1, q7.2)) _ (fun h => ?_) (fun h => vtb_f h)
  have hf := gf_in I.1.1 h.1.1 h.1.2 h.2.1 h.2.2
  rw [vtb_t h]
  unfold wyv
  by_cases e : i = -1
  · rw [if_pos e, if_pos e, qbd (g_distance (o := 3) hx.2.1 I.1.1 h.1.1 h.1.2 h.2.1 h.2.2)]
  · rw [if_neg e, if_neg e]
    refine qpe ?_
    unfold f_G_wayStep
    by_cases e2 : i < 0
    · rw [if_pos e2, if_neg (fun z => by omega)]
    · rw [if_neg e2, qbd (g_distance (o := 3) hx.2.1 I.1.1 h.1.1 h.1.2 h.2.1 h.2.2)]
      dsimp only
      by_cases e3 : i < gf (S 1 3) (S 1 4) v t
      · rw [if_pos e3, if_pos ⟨by omega, e3⟩, g_way23 hx.2 I.1.1 h.2.1 h.2.2 (by omega) qFU (-1) v 0 h.1.1 h.1.2 (by omega) (by omega) (qFU_gt (by omega)), if_pos (by omega), Int.sub_zero]
      · rw [if_neg e3, if_neg (fun z => e3 z.2)]
theorem m_way24 (hw : w 89 0 = W ∧ w 89 1 = H) (g : gIn W H) (t0 : 0 ≤ t) (t1 : t < W * H) : ∀ (m : Nat) (n a : Int), 0 ≤ a → a < W * H → 0 ≤ n → n ≤ 100 → gf W H a t < m → n + gf W H a t ≤ 100 → f_M_way_24 m t i n a w = some (if i = -1 then n + gf W H a t else if n ≤ i ∧ i < n + gf W H a t then ge W H (wq W H t (i - n).toNat a) t else -1, w) := by
  intro m
  induction m with
  | zero =>
    intro n a a0 a1 _ _ h _
    have := gf_in g a0 a1 t0 t1
    omega
  | succ m ih =>
    intro n a a0 a1 n0 n1 hm h100
    rw [f_M_way_24]
    have hf := gf_in g a0 a1 t0 t1
    by_cases e : a = t
    · have z := (gf_0 g a0 a1 t0 t1).mpr e
      rw [if_pos e, z]
      unfold f_M_way_64
      by_cases e2 : i = -1
      · rw [if_pos e2, if_pos e2, Int.add_zero]
      · rw [if_neg e2, if_neg e2, if_neg (fun y => by omega)]
    · obtain ⟨⟨h1, h2⟩, h3⟩ := wst_f g a0 a1 t0 t1 e
      have h4 := ge_in4 h1
      have ha := wst_in (t := t) g a0 a1
      have hf2 := gf_in g ha.1 ha.2 t0 t1
      have IH := ih (n + 1) (wst W H t a) ha.1 ha.2 (by omega) (by omega) (by omega) (by omega)
      rw [if_neg e, qbd (mg_escapeOf hw g a0 a1 t0 t1)]
      dsimp only
      by_cases e2 : n = i
      · rw [if_pos e2, if_neg (show ¬ i = -1 by omega), if_pos ⟨by omega, by omega⟩, show (i - n).toNat = 0 by omega]
        rfl
      · rw [if_neg e2, qbd (mg_nextOf hw g a0 a1 h4.1 h4.2), w32_ok (z := n + 1) (by omega) (by omega), ← h2]
        dsimp only
        rw [IH, h3]
        refine congrArg (fun z => some (z, w)) ?_
        by_cases e3 : i = -1
        · rw [if_pos e3, if_pos e3]; omega
        · rw [if_neg e3, if_neg e3]
          by_cases e4 : n ≤ i ∧ i < n + gf W H a t
          · rw [if_pos e4, if_pos ⟨by omega, by omega⟩, show (i - n).toNat = (i - (n + 1)).toNat + 1 by omega]
            rfl
          · rw [if_neg e4, if_neg (fun y => e4 ⟨by omega, by omega⟩)]
theorem m_way (hR : RM w S) (I : IV S) : f_M_way v t i w = some (aWay S v t i, w) := by
  unfold f_M_way aWay
  refine mg_vt hR I.1.1 (fun w => f_M_way_24 qFU t i 0 v w) _ (fun h => ?_) (fun h => vtb_f h)
  have hf := gf_in I.1.1 h.1.1 h.1.2 h.2.1 h.2.2
  rw [vtb_t h, m_way24 hR.wh I.1.1 h.2.1 h.2.2 qFU 0 v h.1.1 h.1.2 (by omega) (by omega) (qFU_gt (by omega)) (by omega)]
  unfold wyv
  rw [Int.zero_add, Int.sub_zero]
/-- packets -/
def aPk (S : qMem) (p x : Int) : Int := if (0 ≤ p ∧ p < S 5 13) ∧ 0 ≤ x ∧ x ≤ 10 then S (x.toNat + 6) p else -1
theorem x_has (hx : NX 2 w S) : f_P_has 7 p w = some (bi (decide (0 ≤ p ∧ p < S 5 13)), w) := by
  have e13 : w 7 13 = S 5 13 := rx_5_13 hx.1
  unfold f_P_has
  rw [e13]
  by_cases h : p < 0
  · rw [if_pos h, decide_eq_false (by omega)]; rfl
  · rw [if_neg h]
    by_cases h2 : p < S 5 13
    · rw [if_pos h2, decide_eq_true (by omega)]; rfl
    · rw [if_neg h2, decide_eq_false (by omega)]; rfl
theorem m_isPacket (hR : RM w S) (hc : 0 ≤ S 5 13 ∧ S 5 13 ≤ 250) : f_M_isPacket p w = some (bi (decide (0 ≤ p ∧ p < S 5 13)), w) := by
  unfold f_M_isPacket
  rw [qld_ok (by decide) (by decide), rm_5_13 hR, w32_ok (by omega) (by omega), qbd m_isIn]
  dsimp only
  refine congrArg (fun z => some (bi z, w)) ?_
  rw [decide_eq_decide]
  omega
theorem x_packet (hx : NX 2 w S) (I : IV S) : f_X_packet p x w = some (aPk S p x, w) := by
  have hc := I.1.2.2.2.2.2.2.1
  unfold f_X_packet aPk
  rw [qbd (x_has hx)]
  dsimp only
  rw [bi_if]
  by_cases e : 0 ≤ p ∧ p < S 5 13
  · rw [if_pos e]
    refine qpe ?_
    unfold f_P_fact
    have hl : ∀ g : Nat, 6 ≤ g → g ≤ 17 → w (2 + g) p = S g p := fun g x y => hx.1 g p (by omega) ⟨by unfold vv; omega, fun _ _ => e.2, fun _ => by omega, fun _ => by omega, fun _ => by omega, fun _ _ => by omega⟩
    by_cases ex : 0 ≤ x ∧ x ≤ 10
    · rw [show (if (0 ≤ p ∧ p < S 5 13) ∧ 0 ≤ x ∧ x ≤ 10 then S (x.toNat + 6) p else -1) = S (x.toNat + 6) p from if_pos ⟨e, ex⟩]
      rcases (by omega : x = 0 ∨ x = 1 ∨ x = 2 ∨ x = 3 ∨ x = 4 ∨ x = 5 ∨ x = 6 ∨ x = 7 ∨ x = 8 ∨ x = 9 ∨ x = 10) with rfl | rfl | rfl | rfl | rfl | rfl | rfl | rfl | rfl | rfl | rfl
      · rw [if_pos rfl, qld_ok e.1 (by omega)]; exact congrArg (fun z => some (z, w)) (hl 6 (by decide) (by decide))
      · rw [if_neg (by decide), if_pos rfl, qld_ok e.1 (by omega)]; exact congrArg (fun z => some (z, w)) (hl 7 (by decide) (by decide))
      · rw [if_neg (by decide), if_neg (by decide), if_pos rfl, qld_ok e.1 (by omega)]; exact congrArg (fun z => some (z, w)) (hl 8 (by decide) (by decide))
      · rw [if_neg (by decide), if_neg (by decide), if_neg (by decide), if_pos rfl, qld_ok e.1 (by omega)]; exact congrArg (fun z => some (z, w)) (hl 9 (by decide) (by decide))
      · rw [if_neg (by decide), if_neg (by decide), if_neg (by decide), if_neg (by decide), if_pos rfl, qld_ok e.1 (by omega)]; exact congrArg (fun z => some (z, w)) (hl 10 (by decide) (by decide))
      · rw [if_neg (by decide), if_neg (by decide), if_neg (by decide), if_neg (by decide), if_neg (by decide), if_pos rfl, qld_ok e.1 (by omega)]; exact congrArg (fun z => some (z, w)) (hl 11 (by decide) (by decide))
      · rw [if_neg (by decide), if_neg (by decide), if_neg (by decide), if_neg (by decide), if_neg (by decide), if_neg (by decide), if_pos rfl, qld_ok e.1 (by omega)]; exact congrArg (fun z => some (z, w)) (hl 12 (by decide) (by decide))
      · rw [if_neg (by decide), if_neg (by decide), if_neg (by decide), if_neg (by decide), if_neg (by decide), if_neg (by decide), if_neg (by decide), if_pos rfl, qld_ok e.1 (by omega)]; exact congrArg (fun z => some (z, w)) (hl 13 (by decide) (by decide))
      · rw [if_neg (by decide), if_neg (by decide), if_neg (by decide), if_neg (by decide), if_neg (by decide), if_neg (by decide), if_neg (by decide), if_neg (by decide), if_pos rfl, qld_ok e.1 (by omega)]; exact congrArg (fun z => some (z, w)) (hl 14 (by decide) (by decide))
      · rw [if_neg (by decide), if_neg (by decide), if_neg (by decide), if_neg (by decide), if_neg (by decide), if_neg (by decide), if_neg (by decide), if_neg (by decide), if_neg (by decide), if_pos rfl, qld_ok e.1 (by omega)]; exact congrArg (fun z => some (z, w)) (hl 15 (by decide) (by decide))
      · rw [if_neg (by decide), if_neg (by decide), if_neg (by decide), if_neg (by decide), if_neg (by decide), if_neg (by decide), if_neg (by decide), if_neg (by decide), if_neg (by decide), if_neg (by decide), if_pos rfl, qld_ok e.1 (by omega)]; exact congrArg (fun z => some (z, w)) (hl 16 (by decide) (by decide))
    · rw [show (if (0 ≤ p ∧ p < S 5 13) ∧ 0 ≤ x ∧ x ≤ 10 then S (x.toNat + 6) p else -1) = -1 from if_neg (fun z => ex z.2)]
      rw [if_neg (by omega), if_neg (by omega), if_neg (by omega), if_neg (by omega), if_neg (by omega), if_neg (by omega), if_neg (by omega), if_neg (by omega), if_neg (by omega), if_neg (by omega), if_neg (by omega)]
  · rw [if_neg e, if_neg (fun z => e z.1)]
theorem m_packet (hR : RM w S) (I : IV S) : f_M_packet p x w = some (aPk S p x, w) := by
  have hc := I.1.2.2.2.2.2.2.1
  unfold f_M_packet aPk
  rw [qbd (m_isPacket hR hc)]
  dsimp only
  rw [bi_if]
  by_cases e : 0 ≤ p ∧ p < S 5 13
  · rw [if_pos e, qbd m_isIn]
    dsimp only
    rw [bi_if]
    by_cases ex : 0 ≤ x ∧ x ≤ 10
    · rw [if_pos ex, if_pos ⟨e, ex⟩, qbd (m_of hR e.1 e.2 hc.2 (f := x.toNat + 6) (by omega) (by omega) (by omega))]
    · rw [if_neg ex, if_neg (fun z => ex z.2)]
  · rw [if_neg e, if_neg (fun z => e z.1)]
def aTr (S : qMem) (p x : Int) : Int := if (0 ≤ p ∧ p < S 5 13) ∧ 0 ≤ x ∧ x ≤ S 12 p then S 18 (p * 5 + x) else -1
theorem hop_4 (I : IV S) (p0 : 0 ≤ p) (p1 : p < S 5 13) : 0 ≤ S 12 p ∧ S 12 p ≤ 4 := by
  have h := I.2.1.1 p p0 p1
  have hf := gf_in I.1.1 h.1.2.2.1 h.1.2.2.2 h.1.2.1.1 h.1.2.1.2
  have := h.2.2.1
  omega
theorem x_trace (hx : NX 2 w S) (I : IV S) : f_X_trace p x w = some (aTr S p x, w) := by
  have hc := I.1.2.2.2.2.2.2.1
  unfold f_X_trace aTr
  rw [qbd (x_has hx)]
  dsimp only
  rw [bi_if]
  by_cases e : 0 ≤ p ∧ p < S 5 13
  · have h4 := hop_4 I e.1 e.2
    rw [if_pos e]
    refine qpe ?_
    unfold f_P_nodeBehind
    by_cases e2 : x < 0
    · rw [if_pos e2, if_neg (fun z => by omega)]
    · rw [if_neg e2, qld_ok e.1 (by omega), show w (7 + 7) p = S 12 p from rx_12 hx.1 e.1 e.2 hc.2]
      by_cases e3 : x ≤ S 12 p
      · rw [if_pos e3, if_pos (by omega), if_pos ⟨e, by omega, e3⟩, w32_ok (z := p * 5) (by omega) (by omega), w32_ok (by omega) (by omega), qld_ok (by omega) (by omega), show w (7 + 13) (p * 5 + x) = S 18 (p * 5 + x) from rx_18 hx.1 (by omega) (by omega) hc.2 (by rw [show (p * 5 + x) / 5 = p by omega]; omega)]
      · rw [if_neg e3, if_neg (fun z => e3 z.2.2)]
  · rw [if_neg e, if_neg (fun z => e z.1)]
theorem m_trace (hR : RM w S) (I : IV S) : f_M_trace p x w = some (aTr S p x, w) := by
  have hc := I.1.2.2.2.2.2.2.1
  unfold f_M_trace aTr
  rw [qbd (m_isPacket hR hc)]
  dsimp only
  rw [bi_if]
  by_cases e : 0 ≤ p ∧ p < S 5 13
  · have h4 := hop_4 I e.1 e.2
    rw [if_pos e, qbd (m_of hR e.1 e.2 hc.2 (f := 12) (by decide) (by decide) (by decide))]
    dsimp only
    rw [qbd m_isIn]
    dsimp only
    rw [bi_if]
    by_cases e3 : 0 ≤ x ∧ x ≤ S 12 p
    · rw [if_pos e3, if_pos ⟨e, e3⟩]
      refine qpe ?_
      unfold f_M_of
      rw [qbd (m_packetAt e.1 (by omega))]
      dsimp only
      rw [w32_ok (z := 12 + x) (by omega) (by omega), w32_ok (by omega) (by omega), qld_ok (by omega) (by omega), rm_18 hR (n := p * 5 + x) (by omega) (by omega) hc.2 (by rw [show (p * 5 + x) / 5 = p by omega]; omega) (by omega)]
    · rw [if_neg e3, if_neg (fun z => e3 z.2)]
  · rw [if_neg e, if_neg (fun z => e z.1)]
end Q2
