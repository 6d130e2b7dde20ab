/-! what goes on, and what stands: the same on both sides -/
def gkF (S : qMem) (q : Int) : Int := if gkA S q = true then 0 else S 20 q
def aStk (S : qMem) : Int := cV (gkF S) (S 1 3 * S 1 4 * 9)
def aGo (S : qMem) (p : Int) : Int := if 0 ≤ p ∧ p < S 5 13 then (if S 9 p = 3 then -1 else if sfst S (lof S p) = p then bi (gkA S (lof S p)) else -1) else -1
section GE
variable {w w' w0 S T : qMem} {v t n x p a b l d k q r M N : Int} {f g : Int → Int}
theorem cV_6 (h : ∀ k, 0 ≤ k → k < M → 0 ≤ f k ∧ f k ≤ 6) (x0 : 0 ≤ x) (x1 : x ≤ M) : 0 ≤ cV f x ∧ cV f x ≤ 6 * x := by
  have := smN_in (f := f) (a := 0) (b := 6) x.toNat (fun i hi => h i (by omega) (by omega))
  unfold cV
  omega
theorem cV_z (a0 : 0 ≤ a) (hab : a ≤ b) (h : ∀ k, a ≤ k → k < b → f k = 0) : cV f b = cV f a := by
  have key : ∀ m : Nat, a + m ≤ b → cV f (a + m) = cV f a := by
    intro m
    induction m with
    | zero => intro _; rw [show a + ((0 : Nat) : Int) = a by omega]
    | succ m ih =>
      intro hm
      rw [show a + ((m + 1 : Nat) : Int) = (a + m) + 1 by omega, cV_s (by omega), ih (by omega), h _ (by omega) (by omega), Int.add_zero]
  have := key (b - a).toNat (by omega)
  rw [show a + (((b - a).toNat : Nat) : Int) = b by omega] at this
  exact this
theorem gkF_in (I : IV S) (q0 : 0 ≤ q) (q1 : q < 144) : 0 ≤ gkF S q ∧ gkF S q ≤ 6 := by
  have := (I.w.2.2.2 q q0 q1).1
  unfold gkF
  split
  · omega
  · exact this
theorem x_held (hx : NX 2 w S) (I : IV S) (hB : JB 73 144 (gkA S) w) : f_O_held 2 w = some (aStk S, w) := by
  have hN := gN I.1.1
  have hz : cV (gkF S) 144 = aStk S := cV_z (by omega) (by omega) (fun k a b => by
    have := (I.2.1.2.1 k (by omega) b).2 (by omega)
    unfold gkF
    rw [this]
    split <;> rfl)
  rw [← hz]
  unfold f_O_held
  refine vL (V := fun x => cV (gkF S) x) (N := 144) (L := fun m x s => f_O_held_4 2 m s x w) (fun m x x0 x1 => ?_) (fun m => ?_) (by decide) (by decide) rfl
  · have h1 := cV_6 (f := gkF S) (M := 144) (fun k a b => gkF_in I a b) x0 (by omega)
    have h2 := gkF_in I x0 x1
    rw [cV_s x0, f_O_held_4, if_pos x1, qld_ok x0 x1, qld_ok x0 x1, show w (2 + 20) x = S 20 x from rx_20 hx.1 x0 x1, w32_ok (z := x + 1) (by omega) (by omega), hB x x0 x1, bi_ii]
    have hg : gkF S x = if gkA S x = true then 0 else S 20 x := rfl
    rw [hg] at h2 ⊢
    by_cases c : gkA S x = true
    · rw [if_pos c, if_pos c, Int.add_zero]
    · rw [if_neg c] at h2
      rw [if_neg c, if_neg c, w32_ok (by omega) (by omega)]
  · rw [f_O_held_4, if_neg (by decide)]
theorem x_stuckV (hx : NX 2 w S) (I : IV S) : kT (f_X_stuck w) (fun r => r.1 = aStk S ∧ FO w r.2) := by
  unfold f_X_stuck
  refine kT_bind (o_judge hx I.w) (fun w' hw => ?_)
  exact kT_eq (x_held hw.1.1 I hw.2) (kT_some ⟨rfl, hw.1.2⟩)
theorem m_stuckV (hR : RM w S) (I : IV S) : kT (f_M_stuck w) (fun r => r.1 = aStk S ∧ FO1 w r.2) := by
  have hN := gN I.1.1
  unfold f_M_stuck
  refine kT_bind (ml_laysV hR I) (fun w' hw => ?_)
  obtain ⟨⟨hR', hf⟩, hB⟩ := hw
  have e : f_M_stuck_8 qFU 0 0 w' = some (aStk S, w') := by
    have hF := fun k (a : 0 ≤ k) (b : k < 144) => gkF_in I a b
    refine vL (V := fun x => cV (gkF S) (x * 9)) (N := S 1 3 * S 1 4) (L := fun m x s => f_M_stuck_8 m s x w') (fun m x x0 x1 => ?_) (fun m => ?_) (by omega) (by omega) rfl
    · rw [f_M_stuck_8, qbd (mg_nodes hR'.wh I.1.1)]
      dsimp only
      rw [if_pos x1]
      refine vL (V := fun y => cV (gkF S) (x * 9 + y)) (N := 9) (L := fun m' y s => f_M_stuck_18 (f_M_stuck_8 m) m' s x y w') (fun m' y y0 y1 => ?_) (fun m' => ?_) (by decide) (by decide) (by rw [Int.add_zero])
      · have h1 := cV_6 (f := gkF S) (M := 144) hF (x := x * 9 + y) (by omega) (by omega)
        have h2 := gkF_in I (q := x * 9 + y) (by omega) (by omega)
        have h48 : ∀ z, z = gkF S (x * 9 + y) → f_M_stuck_48 (f_M_stuck_8 m) (f_M_stuck_18 (f_M_stuck_8 m) m') (cV (gkF S) (x * 9 + y)) z x y w' = f_M_stuck_18 (f_M_stuck_8 m) m' (cV (gkF S) (x * 9 + y) + gkF S (x * 9 + y)) x (y + 1) w' := by
          intro z hz
          unfold f_M_stuck_48
          rw [hz, w32_ok (z := y + 1) (by omega) (by omega), w32_ok (by omega) (by omega)]
        rw [← Int.add_assoc, cV_s (by omega), f_M_stuck_18, if_pos y1, qbd (m_slot x0 (by omega) y0 y1)]
        dsimp only
        rw [qld_ok (by omega) (by omega), hB _ (by omega) (by omega), bi_ii]
        by_cases c : gkA S (x * 9 + y) = true
        · rw [if_pos c, h48 0 (by unfold gkF; rw [if_pos c])]
        · rw [if_neg c, qbd (m_many hR' x0 (by omega) y0 y1)]
          dsimp only
          rw [h48 _ (by unfold gkF; rw [if_neg c])]
      · rw [f_M_stuck_18, if_neg (by decide), w32_ok (z := x + 1) (by omega) (by omega), show (x + 1) * 9 = x * 9 + 9 by omega]
    · rw [f_M_stuck_8, qbd (mg_nodes hR'.wh I.1.1)]
      dsimp only
      rw [if_neg (by omega)]
      rfl
  exact ⟨_, e, rfl, hf⟩
theorem x_goesOnV (hx : NX 2 w S) (I : IV S) : kT (f_X_goesOn p w) (fun r => r.1 = aGo S p ∧ FO w r.2) := by
  unfold f_X_goesOn aGo
  refine kT_eq (x_has hx) ?_
  dsimp only
  rw [bi_if]
  refine kT_if (fun c => ?_) (fun c => kT_some ⟨by rw [if_neg c], FO.rfl'⟩)
  refine kT_eq (xp_del hx I c.1 c.2) ?_
  dsimp only
  rw [bi_if]
  refine kT_if (fun hd => kT_some ⟨by rw [if_pos c, if_pos hd], FO.rfl'⟩) (fun hd => ?_)
  obtain ⟨e, q0, q1⟩ := n_queueOf hx I c.1 c.2 hd
  refine kT_eq e ?_
  refine kT_eq (n_first (o := 2) hx.1 q0 q1) ?_
  dsimp only
  refine kT_if (fun z => ?_) (fun z => kT_some ⟨by rw [if_pos c, if_neg hd, if_neg z], FO.rfl'⟩)
  refine kT_bind (o_judge hx I.w) (fun w' hw => ?_)
  refine kT_ld q0 q1 ?_
  rw [hw.2 _ q0 q1, bi_ii]
  refine kT_if (fun y => kT_some ⟨by rw [if_pos c, if_neg hd, if_pos z, y]; rfl, hw.1.2⟩) (fun y => kT_some ⟨by rw [if_pos c, if_neg hd, if_pos z, Bool.eq_false_iff.mpr y]; rfl, hw.1.2⟩)
theorem m_goesOnV (hR : RM w S) (I : IV S) : kT (f_M_goesOn p w) (fun r => r.1 = aGo S p ∧ FO1 w r.2) := by
  have hc := I.1.2.2.2.2.2.2.1
  have hN := gN I.1.1
  unfold f_M_goesOn aGo
  refine kT_eq (m_isPacket hR hc) ?_
  dsimp only
  rw [bi_if]
  refine kT_if (fun c => ?_) (fun c => kT_some ⟨by rw [if_neg c], FO1.rfl'⟩)
  have hp := (I.2.1.1 p c.1 c.2).1.2.2
  have hl := (I.2.1.1 p c.1 c.2).2.1
  have hd := pk_d I c.1 c.2
  refine kT_eq (mp_of hR I c.1 c.2 (f := 13) (by decide) (by decide) (by decide)) (kT_if (fun z => ?_) (fun z => kT_some ⟨by rw [if_pos c, if_pos (hd.mpr z)], FO1.rfl'⟩))
  have h3 : S 9 p ≠ 3 := fun y => hd.mp y z
  refine kT_eq (mp_of hR I c.1 c.2 (f := 10) (by decide) (by decide) (by decide)) ?_
  refine kD_loop (σ := Unit) (N := 9) (L := fun m y _ w' => f_M_goesOn_30 m p (S 10 p) y w') (J := fun y _ w' => w' = w ∧ ∀ j, 0 ≤ j → j < y → sfst S (S 10 p * 9 + j) ≠ p) (fun m y s w' y0 y1 hJ ih => ?_) (fun m s w' hJ => ?_) (by decide) (by decide) () ⟨rfl, fun j a b => by omega⟩
  · obtain ⟨hw, hJ⟩ := hJ
    subst hw
    rw [f_M_goesOn_30, if_pos y1, qbd (m_firstOf hR I.w.2.2.2 hp.1 (by omega) y0 y1)]
    dsimp only
    rw [w32_ok (z := y + 1) (by omega) (by omega)]
    refine kT_if (fun e => ?_) (fun e => ih () _ ⟨rfl, fun j a b => ?_⟩)
    · have hlof : lof S p = S 10 p * 9 + y := by
        have := (first_at I hp.1 hp.2 y0 y1 (by rw [e]; omega)).2.2.1
        rw [e] at this
        exact this
      unfold f_M_goesOn_49
      refine kT_bind (ml_laysV hR I) (fun w2 hw => ?_)
      refine kT_eq (m_slot hp.1 (by omega) y0 y1) ?_
      refine kT_ld (by dsimp only; omega) (by dsimp only; omega) ?_
      dsimp only
      rw [hw.2 _ (by omega) (by omega), bi_ii]
      refine kT_if (fun g => kT_some ⟨by rw [if_pos c, if_neg h3, hlof, if_pos e, g]; rfl, hw.1.2⟩) (fun g => kT_some ⟨by rw [if_pos c, if_neg h3, hlof, if_pos e, Bool.eq_false_iff.mpr g]; rfl, hw.1.2⟩)
    · by_cases q : j = y
      · rw [q]; exact e
      · exact hJ j a (by omega)
  · obtain ⟨hw, hJ⟩ := hJ
    subst hw
    rw [f_M_goesOn_30, if_neg (by decide)]
    refine kT_some ⟨?_, FO1.rfl'⟩
    have hk : ∃ j, (0 ≤ j ∧ j < 9) ∧ lof S p = S 10 p * 9 + j := by
      unfold lof
      rw [if_neg h3]
      by_cases e0 : S 9 p = 0
      · rw [if_pos e0]; exact ⟨0, by decide, rfl⟩
      · have h11 := hl.2.2.2.2 (by omega)
        rw [if_neg e0]
        by_cases e1 : S 9 p = 1
        · rw [if_pos e1]; exact ⟨1 + S 11 p, by omega, rfl⟩
        · rw [if_neg e1]; exact ⟨5 + S 11 p, by omega, rfl⟩
    obtain ⟨j, ⟨j0, j1⟩, hj⟩ := hk
    rw [if_pos c, if_neg h3, hj, if_neg (hJ j j0 j1)]
/-- a cell that goes on isn't empty -/
def gkP (S : qMem) (B : Int → Bool) : Prop := ∀ q, 0 ≤ q → B q = true → q < S 1 3 * S 1 4 * 9 ∧ 0 < S 20 q
theorem gkP_I {B : Int → Bool} (h : gkP S B) (x0 : 0 ≤ x) (x1 : x ≤ S 1 3 * S 1 4 * 9) : gkP S (gkI S B x) := by
  have key : ∀ m : Nat, (m : Int) ≤ S 1 3 * S 1 4 * 9 → gkP S (gkI S B m) := by
    intro m
    induction m with
    | zero => intro _; exact h
    | succ m ih =>
      intro hm
      have h1 := ih (by omega)
      rw [show ((m + 1 : Nat) : Int) = (m : Int) + 1 by omega, gkI_s (by omega)]
      by_cases c : gkI S B m m = true
      · rw [if_pos c]; exact h1
      · rw [if_neg c]
        by_cases c2 : gkT S (gkI S B m) ((m : Int) / 9) ((m : Int) % 9) = true
        · rw [if_pos c2]
          intro q q0 hq
          by_cases e : q = m
          · rw [e]
            refine ⟨by omega, Decidable.by_contra fun hz => ?_⟩
            have he : sfst S ((m : Int) / 9 * 9 + (m : Int) % 9) = -1 := by
              rw [show (m : Int) / 9 * 9 + (m : Int) % 9 = m by omega]
              unfold sfst
              rw [if_pos (by omega)]
            rw [gkT_z he] at c2
            exact absurd c2 (by decide)
          · unfold jbu at hq
            rw [if_neg e] at hq
            exact h1 q q0 hq
        · rw [if_neg c2]; exact h1
  have := key x.toNat (by omega)
  rw [show ((x.toNat : Nat) : Int) = x by omega] at this
  exact this
theorem gkP_A (I : IV S) : gkP S (gkA S) := by
  have hN := gN I.1.1
  have h0 : gkP S (gkB S) := fun q q0 hq => by
    unfold gkB at hq
    rw [Bool.and_eq_true, decide_eq_true_eq] at hq
    refine ⟨hq.1, Decidable.by_contra fun hz => ?_⟩
    have he : sfst S (q / 9 * 9 + q % 9) = -1 := by
      rw [show q / 9 * 9 + q % 9 = q by omega]
      unfold sfst
      rw [if_pos (by omega)]
    rw [gk0_z he] at hq
    exact absurd hq.2 (by decide)
  have key : ∀ m : Nat, gkP S (gkW S (gkB S) m) := by
    intro m
    induction m with
    | zero => exact h0
    | succ m ih => exact gkP_I ih (by omega) (Int.le_refl _)
  exact key 144
theorem cV_le (x0 : 0 ≤ x) (h : ∀ k, 0 ≤ k → k < x → f k ≤ g k) : cV f x ≤ cV g x := by
  have key : ∀ m : Nat, (m : Int) ≤ x → cV f m ≤ cV g m := by
    intro m
    induction m with
    | zero => intro _; exact Int.le_refl _
    | succ m ih =>
      intro hm
      have h1 := ih (by omega)
      have h2 := h m (by omega) (by omega)
      rw [show ((m + 1 : Nat) : Int) = (m : Int) + 1 by omega, cV_s (by omega), cV_s (by omega)]
      omega
  have := key x.toNat (by omega)
  rw [show ((x.toNat : Nat) : Int) = x by omega] at this
  exact this
theorem cV_lt (i0 : 0 ≤ p) (i1 : p < x) (h : ∀ k, 0 ≤ k → k < x → f k ≤ g k) (hp : f p < g p) : cV f x < cV g x := by
  have h1 := cV_u (f := f) (g := fun k => if k = p then g p else f k) (v := g p) i0 i1 (fun k => rfl)
  have h2 := cV_le (f := fun k => if k = p then g p else f k) (g := g) (x := x) (by omega) (fun k a b => by
    by_cases e : k = p
    · rw [if_pos e, e]
      exact Int.le_refl _
    · rw [if_neg e]
      exact h k a b)
  omega
/-- all that stand: as many as there are -/
theorem stk_all (I : IV S) : (aStk S = cV (S 20) (S 1 3 * S 1 4 * 9)) ↔ anV (gkA S) 144 = false := by
  have hN := gN I.1.1
  have hP := gkP_A I
  have hle : ∀ k, 0 ≤ k → k < S 1 3 * S 1 4 * 9 → gkF S k ≤ S 20 k := fun k a b => by
    have := (I.w.2.2.2 k a (by omega)).1
    unfold gkF
    split <;> omega
  refine ⟨fun h => ?_, fun h => ?_⟩
  · rw [Bool.eq_false_iff]
    intro z
    obtain ⟨i, i0, i1, hi⟩ := anV_t.mp z
    have h2 := hP i i0 hi
    have := cV_lt (f := gkF S) (g := S 20) i0 h2.1 hle (by unfold gkF; rw [if_pos hi]; exact h2.2)
    unfold aStk at h
    omega
  · unfold aStk
    refine cV_co (by omega) (fun k a b => ?_)
    have hk : gkA S k ≠ true := fun z => by
      rw [anV_t.mpr ⟨k, a, by omega, z⟩] at h
      exact absurd h (by decide)
    unfold gkF
    rw [if_neg hk]
theorem x_any (hB : JB 73 144 (gkA S) w) : f_O_anyGoesOn w = some (bi (anV (gkA S) 144), w) := by
  unfold f_O_anyGoesOn
  refine aL (L := fun m x => f_O_anyGoesOn_2 m x w) (fun m x x0 x1 => ?_) (fun m => ?_) (by decide) (by decide)
  · rw [f_O_anyGoesOn_2, if_pos x1, qld_ok x0 x1, w32_ok (z := x + 1) (by omega) (by omega), hB x x0 x1, bi_ii]
  · rw [f_O_anyGoesOn_2, if_neg (by decide)]
end GE
