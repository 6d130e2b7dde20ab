/-! schedules, the reference: lanes, rings; all states -/
def mRN (S : qMem) (n : Int) (P dc : Int → Int) (root : List Int) (x x2 x3 x4 x5 : Int) (w : qMem) : Prop := ∃ (N : Int) (ks : Int → List Int) (ws : Int → Int), (∃ U loc, mMem S U loc n P dc w) ∧ (w 88 8 = N ∧ N ≤ 400) ∧ (∀ i, 0 ≤ i → i < N → mRec S dc w i (ks i) ∧ w 93 i = ws i) ∧ BF (mu S n P) (rkK S n P root) root N x ks ws (fun _ => 0) ∧ (x2 = cV (fun i => gStk S n P (ks i)) x ∧ x3 = cV (fun i => ws i * gEnd (ks i)) x % 1000003) ∧ Mx 0 (fun i => gLan S n P (ks i)) x x4 ∧ Mx (-1000) (fun i => - gFre S n P (ks i)) x (-x5)
def ctg (T : qMem) (q : Int) : Int := if T 20 q ≤ 0 then 0 else ctF T q
/-- what all states come to -/
def mAns (S : qMem) (n : Int) (P : Int → Int) (root : List Int) (X y : Int) : Prop := (y = -1 ∧ OVF S n P root) ∨ ∃ N ks ws, N ≤ 400 ∧ BF (mu S n P) (rkK S n P root) root N N ks ws (fun _ => 0) ∧ sVal S n P N ks ws X y
section ER
variable {w w' w0 w2 S T T' U F G : qMem} {loc loc' locU P dc e : Int → Int} {v k d l q p i j n r x y m W H N s t c a X x2 x3 x4 x5 : Int} {K K' root b : List Int} {ks k0 : Int → List Int} {ws v0 : Int → Int} {dn dn' : List Int → Int}
theorem lanK_in (h6 : ∀ y, 0 ≤ y → y < 144 → 0 ≤ U 20 y ∧ U 20 y ≤ 6) (v0' : 0 ≤ v) (v1 : v < 16) (k0' : 0 ≤ k) (k1 : k < 9) : 0 ≤ lanK U l v k ∧ lanK U l v k ≤ 6 := by
  have := h6 (v * 9 + k) (by omega) (by omega)
  unfold lanK
  split <;> omega
theorem lanW_in (h6 : ∀ y, 0 ≤ y → y < 144 → 0 ≤ U 20 y ∧ U 20 y ≤ 6) (hl : l = 0 ∨ l = 1 ∨ l = 2) (v0' : 0 ≤ v) (v1 : v < 16) : 0 ≤ lan U l v ∧ lan U l v ≤ 54 := by
  rw [← lan_9 hl]
  have := cV_le' (f := lanK U l v) (N := 9) (M := 6) (x := 9) (fun k a b => lanK_in h6 v0' v1 a b) (by decide) (by decide) (by decide)
  omega
theorem m_laneW (hR : RM w U) (I2 : IW U) (hl : l = 0 ∨ l = 1 ∨ l = 2) : f_M_inLane l w = some (cV (lan U l) (U 1 3 * U 1 4), w) ∧ 0 ≤ cV (lan U l) (U 1 3 * U 1 4) ∧ cV (lan U l) (U 1 3 * U 1 4) ≤ 1000 := by
  have hN := gN I2.1
  have h6 : ∀ y, 0 ≤ y → y < 144 → 0 ≤ U 20 y ∧ U 20 y ≤ 6 := fun y a b => (I2.2.2.2 y a b).1
  have hs : ∀ x, 0 ≤ x → x ≤ U 1 3 * U 1 4 → 0 ≤ cV (lan U l) x ∧ cV (lan U l) x ≤ 54 * x := fun x a b => cV_le' (N := U 1 3 * U 1 4) (fun v c d => lanW_in h6 hl c (by omega)) (by decide) a b
  refine ⟨?_, by have := hs (U 1 3 * U 1 4) (by omega) (Int.le_refl _); omega⟩
  unfold f_M_inLane
  refine vL (V := fun x => cV (lan U l) x) (N := U 1 3 * U 1 4) (L := fun m x s => f_M_inLane_4 m l s x w) (fun m x x0 x1 => ?_) (fun m => ?_) (by omega) (by omega) rfl
  · have h1 := hs x x0 (by omega)
    rw [cV_s x0, ← lan_9 hl, f_M_inLane_4, qbd (mg_nodes hR.wh I2.1)]
    dsimp only
    rw [if_pos x1]
    refine vL (V := fun y => cV (lan U l) x + cV (lanK U l x) y) (N := 9) (L := fun m' y s => f_M_inLane_15 (f_M_inLane_4 m) m' l s x y w) (fun m' y y0 y1 => ?_) (fun m' => ?_) (by decide) (by decide) (by show _ = cV (lan U l) x + 0; omega)
    · have h3 := cV_le' (f := lanK U l x) (N := 9) (M := 6) (x := y) (fun k a b => lanK_in h6 x0 (by omega) a b) (by decide) y0 (by omega)
      have h4 := lanK_in (l := l) h6 x0 (show x < 16 by omega) y0 y1
      have h44 : ∀ z, z = lanK U l x y → f_M_inLane_44 (f_M_inLane_4 m) (f_M_inLane_15 (f_M_inLane_4 m) m') (cV (lan U l) x + cV (lanK U l x) y) z l x y w = f_M_inLane_15 (f_M_inLane_4 m) m' l (cV (lan U l) x + (cV (lanK U l x) y + lanK U l x y)) x (y + 1) w := by
        intro z hz
        unfold f_M_inLane_44
        rw [hz, w32_ok (z := y + 1) (by omega) (by omega), w32_ok (by omega) (by omega), Int.add_assoc]
      rw [cV_s y0, f_M_inLane_15, if_pos y1, qdv_ok (by decide), w32_ok (z := y + 3) (by omega) (by omega), jdiv_ok (by omega) (by omega) (by decide) (by decide)]
      by_cases c : (y + 3) / 4 = l
      · rw [if_pos c, qbd (m_many hR x0 (by omega) y0 y1)]
        dsimp only
        rw [h44 _ (by unfold lanK; rw [if_pos c])]
      · rw [if_neg c, h44 0 (by unfold lanK; rw [if_neg c])]
    · rw [f_M_inLane_15, if_neg (by decide), w32_ok (z := x + 1) (by omega) (by omega)]
  · rw [f_M_inLane_4, qbd (mg_nodes hR.wh I2.1)]
    dsimp only
    rw [if_neg (by omega)]
theorem m_fewW (hR : RM w U) (I2 : IW U) : f_M_fewestFree w = some (mfr U (2 * (U 1 3 + U 1 4)).toNat, w) := by
  have g := I2.1
  have h16 := g16r g
  have hg := g
  unfold gIn at hg
  unfold f_M_fewestFree
  refine vL (V := fun x => mfr U x.toNat) (N := 2 * (U 1 3 + U 1 4)) (L := fun m x s => f_M_fewestFree_6 m s x w) (fun m x x0 x1 => ?_) (fun m => ?_) (by omega) (by omega) rfl
  · have e : mfr U (x + 1).toNat = if sfi U x < mfr U x.toNat then sfi U x else mfr U x.toNat := by
      rw [show (x + 1).toNat = x.toNat + 1 by omega]
      show (if sfi U ((x.toNat : Nat) : Int) < mfr U x.toNat then sfi U ((x.toNat : Nat) : Int) else mfr U x.toNat) = _
      rw [show ((x.toNat : Nat) : Int) = x by omega]
    rw [e, f_M_fewestFree_6, qbd (mg_rings hR.wh g)]
    dsimp only
    rw [if_pos x1, qbd (m_freeIn hR I2 x0 x1)]
    dsimp only
    by_cases z : sfi U x < mfr U x.toNat
    · rw [if_pos z, if_pos z, qbd (m_freeIn hR I2 x0 x1)]
      unfold f_M_fewestFree_32
      rw [w32_ok (z := x + 1) (by omega) (by omega)]
    · rw [if_neg z, if_neg z]
      unfold f_M_fewestFree_32
      rw [w32_ok (z := x + 1) (by omega) (by omega)]
  · rw [f_M_fewestFree_6, qbd (mg_rings hR.wh g)]
    dsimp only
    rw [if_neg (by omega)]
/-- no packet is held: it is an end -/
theorem held_E (V : VT S T loc) (R : RK S n P T loc K) (L : LVe S n P) (I : IV S) : cV (lan T 0) (S 1 3 * S 1 4) + cV (lan T 1) (S 1 3 * S 1 4) + cV (lan T 2) (S 1 3 * S 1 4) = 0 ↔ gEnd K = 1 := by
  have hN := gN I.1.1
  have hn := L.1
  have h6 := V.h6 I
  have e1 : T 1 = S 1 := V.1.1.1
  have hgE := (gEnd_p R V L I).1
  have hnn : ∀ l, (l = 0 ∨ l = 1 ∨ l = 2) → 0 ≤ cV (lan T l) (S 1 3 * S 1 4) := fun l hl => cV_ge (by omega) (fun v a b => (lanW_in h6 hl a (by omega)).1)
  rw [hgE]
  refine ⟨fun h j j0 j1 => Classical.byContradiction fun z => ?_, fun h => ?_⟩
  · have hy := spo_y z
    have hp := (L.2.1 j j0 j1).1
    have hq := V.2.1.2.1.2 (P j) hp.1 (by rw [V.1.2.1]; exact hp.2) hy.2.2
    rw [hy.2.1] at hq
    obtain ⟨hq1, i, i0, i1, -⟩ := hq
    have h9 : spo loc P n j < S 1 3 * S 1 4 * 9 := Decidable.by_contra fun u => by
      have := (V.2.1.1 _ hq1.1 hq1.2).2 (by rw [e1]; omega)
      omega
    generalize spo loc P n j = q at *
    have hk : ((q % 9 + 3) / 4 = 0 ∨ (q % 9 + 3) / 4 = 1 ∨ (q % 9 + 3) / 4 = 2) := by omega
    have hm : 1 ≤ cV (lan T ((q % 9 + 3) / 4)) (S 1 3 * S 1 4) := by
      have g1 := cV_mem (f := lan T ((q % 9 + 3) / 4)) (x := S 1 3 * S 1 4) (i := q / 9) (fun v a b => (lanW_in h6 hk a (by omega)).1) (by omega) (by omega)
      have g2 := cV_mem (f := lanK T ((q % 9 + 3) / 4) (q / 9)) (x := 9) (i := q % 9) (fun k a b => (lanK_in h6 (by omega) (by omega) a b).1) (by omega) (by omega)
      rw [lan_9 hk] at g2
      have g3 : lanK T ((q % 9 + 3) / 4) (q / 9) (q % 9) = T 20 q := by
        unfold lanK
        rw [if_pos rfl, show q / 9 * 9 + q % 9 = q by omega]
      omega
    have a0 := hnn 0 (Or.inl rfl)
    have a1 := hnn 1 (Or.inr (Or.inl rfl))
    have a2 := hnn 2 (Or.inr (Or.inr rfl))
    rcases hk with u | u | u <;> rw [u] at hm <;> omega
  · have hz : ∀ q, 0 ≤ q → q < 144 → T 20 q = 0 := fun q q0 q1 => Decidable.by_contra fun z => by
      have := (h6 q q0 q1).1
      obtain ⟨t, ht, e1, e2⟩ := slot_P V L q0 q1 (Int.le_refl 0) (by omega)
      have := spo_of (n := n) ht.2 e2 (by omega)
      have := h t ht.1 ht.2
      omega
    have hl0 : ∀ l, (l = 0 ∨ l = 1 ∨ l = 2) → cV (lan T l) (S 1 3 * S 1 4) = 0 := fun l hl => cV_0f (fun v a b => by
      rw [← lan_9 hl]
      refine cV_0f (fun k c d => ?_) (by decide)
      unfold lanK
      split
      · exact hz _ (by omega) (by omega)
      · rfl) (by omega)
    rw [hl0 0 (Or.inl rfl), hl0 1 (Or.inr (Or.inl rfl)), hl0 2 (Or.inr (Or.inr rfl))]
    rfl
theorem ctg_in : 0 ≤ ctg T q ∧ ctg T q ≤ 8 := by
  unfold ctg
  split
  · decide
  · exact ctF_in
theorem ctg_0 (V : VT S T loc) (L : LVe S n P) (I : IV S) : cV (ctg T) (S 1 3 * S 1 4 * 9) = 0 ↔ ∀ b, muT S n P T loc b = 0 := by
  have e : cV (ctP n P T loc) n = cV (ctg T) (S 1 3 * S 1 4 * 9) := sum_pq (G := ctF T) V L I
  rw [← e]
  exact ct_0 V L I
theorem m_run30 (V0 : VT S S (lof S)) (R0 : RK S n P S (lof S) root) (L : LVe S n P) (I : IV S) (hX : 0 ≤ X ∧ X ≤ 4) : ∀ (m : Nat) (x x2 x3 x4 x5 : Int) (w : qMem), 0 ≤ x → x ≤ 400 → 401 - x < m → mRN S n P dc root x x2 x3 x4 x5 w → kT (f_M_laysSchedules_30 m X x2 x3 x4 x5 x w) (fun r => mAns S n P root X r.1) := by
  have hN := gN I.1.1
  have hn := L.1
  have h2W : 0 ≤ 2 * (S 1 3 + S 1 4) := by
    have := I.1.1
    unfold gIn at this
    omega
  intro m
  induction m with
  | zero => intro x x2 x3 x4 x5 w _ _ _ _; omega
  | succ m ih =>
    intro x x2 x3 x4 x5 w x0 x400 hm hx
    obtain ⟨N, ks, ws, ⟨U0, loc0, hM⟩, ⟨h8, hN4⟩, ht, B, ⟨g1, g2⟩, g3, g4⟩ := hx
    rw [f_M_laysSchedules_30, h8]
    refine kT_if (fun c => ?_) (fun c => ?_)
    · have hrx := B.1.2.2 x x0 c
      obtain ⟨Tx, lx, Vx, Rx⟩ := rC_ok V0 R0 L I hrx
      have hrep := rep_ok Vx Rx
      have V := hrep.1.cl
      have RT := hrep.2.cl
      have e20r : clS S (rep S n P (ks x)).1 20 = (rep S n P (ks x)).1 20 := if_pos (by decide)
      have eT1 : clS S (rep S n P (ks x)).1 1 = S 1 := V.1.1.1
      have eL : cV (lan (clS S (rep S n P (ks x)).1) 1) (S 1 3 * S 1 4) = gLan S n P (ks x) := by
        unfold gLan lan
        rw [e20r]
      have eF : mfr (clS S (rep S n P (ks x)).1) (2 * (S 1 3 + S 1 4)).toNat = gFre S n P (ks x) := by
        unfold gFre
        exact mfr_co (fun r _ _ => sfj_co (by rw [cl_row (by decide) (by decide) (by decide)]; exact hrep.1.1.1.1.symm) (by rw [cl_row (by decide) (by decide) (by decide)]; exact (hrep.1.1.1.2 6 (by decide)).symm) e20r) h2W
      generalize clS S (rep S n P (ks x)).1 = T at *
      generalize (rep S n P (ks x)).2 = loc at *
      have hgE := gEnd_p RT V L I
      have hgS := gStk_01 (S := S) (n := n) (P := P) (K := ks x)
      refine kT_bind (m_opensV hM V RT L I (ht x x0 c).1 x0 x400) (fun w1 h1 => ?_)
      obtain ⟨hC1, hF1⟩ := h1
      have hT1 : mTB S n P dc root x ks ws (fun _ => 0) w1 := by
        refine mTB.fr (w := w) ⟨N, ks, ws, ⟨h8, x0, c, hN4⟩, ht, fun i _ _ => ⟨rfl, rfl⟩, B⟩ ?_ (hF1 92 (by decide)) (hF1 93 (by decide))
        rw [hF1 88 (by decide)]
      have hC1' := hC1
      obtain ⟨U, hM1, hPl1, hTQ1, h20⟩ := hC1'
      have I2 := hM1.1.2.1.iw I
      have eU1 : U 1 = S 1 := hM1.1.2.1.1.1.1
      have hlane : ∀ l, (l = 0 ∨ l = 1 ∨ l = 2) → f_M_inLane l w1 = some (cV (lan T l) (S 1 3 * S 1 4), w1) ∧ 0 ≤ cV (lan T l) (S 1 3 * S 1 4) ∧ cV (lan T l) (S 1 3 * S 1 4) ≤ 1000 := fun l hl => by
        have := m_laneW hM1.1.1 I2 hl
        rw [eU1] at this
        have e : lan U l = lan T l := by
          funext v
          unfold lan
          rw [h20]
        rw [e] at this
        exact this
      have hfew : f_M_fewestFree w1 = some (gFre S n P (ks x), w1) := by
        have := m_fewW hM1.1.1 I2
        rw [eU1, mfr_co (T := T) (T' := U) (m := 2 * (S 1 3 + S 1 4)) (fun r _ _ => sfj_co (by rw [eU1, eT1]) (hTQ1.1.1.2 6 (by decide)) h20) h2W, eF] at this
        exact this
      have l0 := hlane 0 (Or.inl rfl)
      have l1 := hlane 1 (Or.inr (Or.inl rfl))
      have l2 := hlane 2 (Or.inr (Or.inr rfl))
      have hh := held_E V RT L I
      rw [eL] at l1 hh
      generalize cV (lan T 0) (S 1 3 * S 1 4) = A0 at *
      generalize cV (lan T 2) (S 1 3 * S 1 4) = A2 at *
      have hi4 := g3.s x0
      have hi5 := g4.s x0
      -- its steps are done
      have h172 : ∀ s0 y4, s0 = (if gFre S n P (ks x) < x5 then gFre S n P (ks x) else x5) → y4 = (if x4 < gLan S n P (ks x) then gLan S n P (ks x) else x4) → ∀ u, mEX S n P dc root x ks ws T loc (fun b => muT S n P T loc b) (cV (ctg T) (S 1 3 * S 1 4 * 9)) u → kT (f_M_laysSchedules_172 (f_M_laysSchedules_30 m) X x2 x3 y4 s0 x (A0 + gLan S n P (ks x) + A2) u) (fun r => mAns S n P root X r.1) := by
        intro s0 y4 hs0 hy4 u hu
        obtain ⟨hCu, hTu, h9u⟩ := hu
        obtain ⟨N', ks', ws', ⟨h8', -, hxN', hN4'⟩, ht', hag, B'⟩ := hTu
        have hax := hag x x0 (Int.le_refl _)
        have hwx := (B'.2.2.2 x x0 hxN').1
        have b1 : 0 ≤ cV (fun i => gStk S n P (ks i)) x ∧ cV (fun i => gStk S n P (ks i)) x ≤ 1 * x := cV_bd (N := x) (fun i _ _ => gStk_01) (by decide) x0 (Int.le_refl _)
        have b3 : 0 ≤ x3 ∧ x3 < 1000003 := by
          rw [g2]
          exact ⟨Int.emod_nonneg _ (by decide), Int.emod_lt_of_pos _ (by decide)⟩
        have B2 := B'.nx (dn' := fun _ => 0) hxN' (fun b => by rw [hax.1, mu_eq V RT L I]) (fun _ => rfl)
        have eC : cV (ctg T) (S 1 3 * S 1 4 * 9) = 0 ↔ ∀ b, mu S n P (ks x) b = 0 := by
          rw [ctg_0 V L I]
          exact ⟨fun z b => by rw [mu_eq V RT L I]; exact z b, fun z b => by rw [← mu_eq V RT L I]; exact z b⟩
        have k1 : cV (fun i => gStk S n P (ks' i)) x = cV (fun i => gStk S n P (ks i)) x := cV_co x0 (fun i i0 i1 => by
          rw [(hag i i0 (by omega)).1])
        have k2 : cV (fun i => ws' i * gEnd (ks' i)) x = cV (fun i => ws i * gEnd (ks i)) x := cV_co x0 (fun i i0 i1 => by
          rw [(hag i i0 (by omega)).1, (hag i i0 (by omega)).2])
        have fin : ∀ g g', g = gStk S n P (ks x) → g' = (x3 + ws' x * gEnd (ks x)) % 1000003 → kT (f_M_laysSchedules_214 (f_M_laysSchedules_30 m) g' X (w32 (x2 + g)) y4 s0 x u) (fun r => mAns S n P root X r.1) := by
          intro g g' hg hg'
          unfold f_M_laysSchedules_214
          rw [w32_ok (z := x + 1) (by omega) (by omega), w32_ok (z := x2 + g) (by omega) (by omega)]
          obtain ⟨Uu, hMu, -⟩ := hCu
          refine ih (x + 1) _ _ _ _ u (by omega) (by omega) (by omega) ⟨N', ks', ws', ⟨Uu, loc, hMu⟩, ⟨h8', hN4'⟩, ht', B2, ⟨?_, ?_⟩, ?_, ?_⟩
          · rw [cV_s x0, k1, hg, g1, hax.1]
          · rw [cV_s x0, k2, hg', g2, hax.1, md_b]
          · rw [hy4]
            refine hi4.co (fun i i0 i1 => ?_)
            rw [(hag i i0 (by omega)).1]
          · rw [hs0]
            have e5 : -(if gFre S n P (ks x) < x5 then gFre S n P (ks x) else x5) = (if -x5 < -gFre S n P (ks x) then -gFre S n P (ks x) else -x5) := by
              repeat' split
              all_goals omega
            rw [e5]
            refine hi5.co (fun i i0 i1 => ?_)
            rw [(hag i i0 (by omega)).1]
        unfold f_M_laysSchedules_172
        have h190 : ∀ g, g = gStk S n P (ks x) → kT (f_M_laysSchedules_190 (f_M_laysSchedules_30 m) x2 g X x3 y4 s0 x (A0 + gLan S n P (ks x) + A2) u) (fun r => mAns S n P root X r.1) := by
          intro g hg
          unfold f_M_laysSchedules_190
          refine kT_if (fun z => ?_) (fun z => ?_)
          · rw [qld_ok x0 (by omega), qdv_ok (by decide), (ht' x x0 hxN').2, w32_ok (z := x3 + ws' x) (by omega) (by omega), jrem_ok (by omega) (by omega) (by decide) (by decide)]
            exact fin g _ hg (by rw [hh.mp z, Int.mul_one])
          · have ge : gEnd (ks x) = 0 := by
              rcases hgE.2 with y | y
              · exact y
              · exact absurd (hh.mpr y) z
            exact fin g _ hg (by rw [ge, Int.mul_zero, Int.add_zero]; omega)
        have hgS1 : gEnd (ks x) = 1 → gStk S n P (ks x) = 0 := fun z => by
          unfold gStk
          rw [if_neg (fun y => by omega)]
        refine kT_if (fun z => h190 0 ?_) (fun z => ?_)
        · rw [hgS1 (hh.mp (by omega))]
        · have ge : gEnd (ks x) = 0 := by
            rcases hgE.2 with y | y
            · exact y
            · have := hh.mpr y
              omega
          rw [h9u]
          refine kT_if (fun y => h190 1 ?_) (fun y => h190 0 ?_)
          · unfold gStk
            rw [if_pos ⟨ge, eC.mp y⟩]
          · unfold gStk
            rw [if_neg (fun t => y (eC.mpr t.2))]
      have h104 : ∀ s0 y4, s0 = (if gFre S n P (ks x) < x5 then gFre S n P (ks x) else x5) → y4 = (if x4 < gLan S n P (ks x) then gLan S n P (ks x) else x4) → kT (f_M_laysSchedules_104 (f_M_laysSchedules_30 m) s0 X x2 x3 y4 x (A0 + gLan S n P (ks x) + A2) w1) (fun r => mAns S n P root X r.1) := by
        intro s0 y4 hs0 hy4
        have hE0 : mEX S n P dc root x ks ws T loc (fun b => cV (blk S n P T loc b) (9 * 0)) (cV (ctg T) (9 * 0)) (qud w1 88 9 0) := by
          have h1 : mEX S n P dc root x ks ws T loc (fun _ => 0) (w1 88 9) w1 := ⟨hC1, hT1, rfl⟩
          exact h1.w9
        unfold f_M_laysSchedules_104
        rw [qlt_ok]
        refine kD_loop (σ := Unit) (N := S 1 3 * S 1 4) (L := fun m' v _ u => f_M_laysSchedules_114 (f_M_laysSchedules_30 m) m' X x2 x3 y4 s0 x (A0 + gLan S n P (ks x) + A2) v u) (J := fun v _ u => mEX S n P dc root x ks ws T loc (fun b => cV (blk S n P T loc b) (9 * v)) (cV (ctg T) (9 * v)) u) (fun m' v _ u v0' v1 hu ihv => ?_) (fun m' _ u hu => ?_) (by omega) (by omega) () hE0
        · have hwh : u 89 0 = S 1 3 ∧ u 89 1 = S 1 4 := by
            obtain ⟨⟨Uu, hMu, -⟩, -⟩ := hu
            have := hMu.1.1.wh
            rw [hMu.1.2.1.1.1.1] at this
            exact this
          rw [f_M_laysSchedules_114, qbd (mg_nodes hwh I.1.1)]
          dsimp only
          rw [if_pos v1]
          have hu0 : mEX S n P dc root x ks ws T loc (fun b => cV (blk S n P T loc b) (9 * v + 0)) (cV (ctg T) (9 * v + 0)) u := by
            rw [Int.add_zero]
            exact hu
          refine kD_loop (σ := Unit) (N := 9) (L := fun m'' q _ u => f_M_laysSchedules_126 (f_M_laysSchedules_30 m) (f_M_laysSchedules_114 (f_M_laysSchedules_30 m) m') m'' X x2 x3 y4 s0 x (A0 + gLan S n P (ks x) + A2) v q u) (J := fun q _ u => mEX S n P dc root x ks ws T loc (fun b => cV (blk S n P T loc b) (9 * v + q)) (cV (ctg T) (9 * v + q)) u) (fun m'' q _ u q0 q1 hu ihq => ?_) (fun m'' _ u hu => ?_) (by omega) (by omega) () hu0
          · have hu' := hu
            obtain ⟨⟨Uu, hMu, hPlu, hTQu, -⟩, -, -⟩ := hu'
            have I3 := hMu.1.2.1.iw I
            have eq9 : sfst Uu (v * 9 + q) = sfst T (v * 9 + q) := hTQu.f1 (by omega) (by omega)
            have hcc := cV_bd (f := ctg T) (N := 9 * v + q) (M := 8) (x := 9 * v + q) (fun _ _ _ => ctg_in) (by decide) (by omega) (Int.le_refl _)
            have e9 : 9 * v + q = v * 9 + q := by omega
            rw [f_M_laysSchedules_126, if_pos q1, qbd (m_firstOf hMu.1.1 I3.2.2.2 v0' (by omega) q0 q1), eq9]
            dsimp only
            rw [w32_ok (z := q + 1) (by omega) (by omega)]
            refine kT_if (fun z => ihq () _ ?_) (fun z => ?_)
            · have hz : T 20 (v * 9 + q) ≤ 0 := Decidable.by_contra fun y => fst_p V (by omega) (by omega) y z
              rw [← Int.add_assoc, cV_s (f := ctg T) (by omega), show ctg T (9 * v + q) = 0 by unfold ctg; rw [e9, if_pos hz], Int.add_zero]
              refine hu.cg (fun b => ?_)
              rw [cV_s (by omega), show blk S n P T loc b (9 * v + q) = 0 by unfold blk; rw [e9, if_pos hz], Int.add_zero]
            · have hz : ¬ T 20 (v * 9 + q) ≤ 0 := by
                rcases fst_0 (T := T) (v * 9 + q) with y | y
                · exact absurd y z
                · omega
              refine kT_bind (m_goesV hu V RT V0 R0 L I (fun b => cV_ge (by omega) (fun _ _ _ => blk_0)) v0' (by rw [eT1]; exact v1) q0 q1 z (by omega) (by omega)) (fun r hr => ?_)
              refine kT_if (fun y => kT_some (Or.inl ⟨rfl, ?_⟩)) (fun y => ihq () _ ?_)
              · rcases hr with hr | hr
                · exact hr.2
                · omega
              · have h3 := (hr.resolve_left (fun t => y t.1)).2
                rw [← Int.add_assoc, cV_s (f := ctg T) (by omega), show ctg T (9 * v + q) = ctF T (v * 9 + q) by unfold ctg; rw [e9, if_neg hz]]
                refine h3.cg (fun b => ?_)
                rw [cV_s (by omega), show blk S n P T loc b (9 * v + q) = blF S n P T loc b (v * 9 + q) by unfold blk; rw [e9, if_neg hz]]
          · rw [f_M_laysSchedules_126, if_neg (by decide), w32_ok (z := v + 1) (by omega) (by omega)]
            exact ihv () _ (by rw [show 9 * (v + 1) = 9 * v + 9 by omega]; exact hu)
        · have hwh : u 89 0 = S 1 3 ∧ u 89 1 = S 1 4 := by
            obtain ⟨⟨Uu, hMu, -⟩, -⟩ := hu
            have := hMu.1.1.wh
            rw [hMu.1.2.1.1.1.1] at this
            exact this
          rw [f_M_laysSchedules_114, qbd (mg_nodes hwh I.1.1)]
          dsimp only
          rw [if_neg (by omega)]
          refine h172 s0 y4 hs0 hy4 u ?_
          rw [Int.mul_comm] at hu
          exact hu
      have h84 : ∀ y4, y4 = (if x4 < gLan S n P (ks x) then gLan S n P (ks x) else x4) → kT (f_M_laysSchedules_84 (f_M_laysSchedules_30 m) y4 X x2 x3 x5 x (A0 + gLan S n P (ks x) + A2) w1) (fun r => mAns S n P root X r.1) := by
        intro y4 hy4
        unfold f_M_laysSchedules_84
        refine kT_eq hfew ?_
        dsimp only
        refine kT_if (fun z => kT_eq hfew (h104 _ _ (by rw [if_pos z]) hy4)) (fun z => h104 _ _ (by rw [if_neg z]) hy4)
      refine kT_eq l0.1 (kT_eq l1.1 (kT_eq l2.1 (kT_eq l1.1 ?_)))
      dsimp only
      rw [w32_ok (z := A0 + gLan S n P (ks x)) (by omega) (by omega), w32_ok (z := A0 + gLan S n P (ks x) + A2) (by omega) (by omega)]
      exact kT_if (fun z => h84 _ (by rw [if_neg (by omega)])) (fun z => kT_eq l1.1 (h84 _ (by rw [if_pos (by omega)])))
    · have hxN : x = N := by
        have := B.1.1.2.2.2
        omega
      subst hxN
      unfold f_M_laysSchedules_221
      rw [h8]
      have fin : ∀ y, sVal S n P x ks ws X y → kT (some (y, w)) (fun r => mAns S n P root X r.1) := fun y hy => kT_some (Or.inr ⟨x, ks, ws, hN4, B, hy⟩)
      refine kT_if (fun z => fin _ ?_) (fun z0 => kT_if (fun z => fin _ ?_) (fun z1 => kT_if (fun z => fin _ ?_) (fun z2 => kT_if (fun z => fin _ ?_) (fun z3 => fin _ ?_))))
      · exact ⟨fun _ => rfl, fun u => by omega, fun u => by omega, fun u => by omega, fun u => by omega⟩
      · exact ⟨fun u => by omega, fun _ => g1, fun u => by omega, fun u => by omega, fun u => by omega⟩
      · exact ⟨fun u => by omega, fun u => by omega, fun _ => g2, fun u => by omega, fun u => by omega⟩
      · exact ⟨fun u => by omega, fun u => by omega, fun u => by omega, fun _ => g3, fun u => by omega⟩
      · exact ⟨fun u => by omega, fun u => by omega, fun u => by omega, fun u => by omega, fun _ => g4⟩
end ER
/-! schedules, the reference: it is asked -/
section ES
variable {w w' w0 w2 S T U : qMem} {loc P dc : Int → Int} {i j n r x y p m : Int} {root : List Int}
theorem m_back1 : kT (f_M_comesBack w) (fun _ => True) := by
  unfold f_M_comesBack
  refine kC_loop (σ := Unit) (N := 5898) (L := fun m x _ u => f_M_comesBack_2 m x u) (J := fun _ _ => True) (fun m x _ u x0 x1 hu ih => ?_) (fun m _ u hu => ?_) (by decide) (by decide) () trivial
  · rw [f_M_comesBack_2, if_pos x1, qld_ok x0 x1, qst_ok x0 x1, w32_ok (z := x + 1) (by omega) (by omega)]
    exact ih () _ trivial
  · rw [f_M_comesBack_2, if_neg (by decide)]
    exact kT_some trivial
theorem m_liveV (hR : RM w S) (I : IV S) : kT (f_M_laysLive w) (fun r => FLv w r.2 ∧ ((r.1 = 0 ∧ 3 < lcn S (S 5 13)) ∨ (r.1 = 1 ∧ lcn S (S 5 13) ≤ 3 ∧ mLi (lcn S (S 5 13)) (lvP S) r.2))) := by
  have hc := I.1.2.2.2.2.2.2.1
  unfold f_M_laysLive
  rw [qlt_ok]
  refine kD_loop (σ := Unit) (N := S 5 13) (L := fun m x _ u => f_M_laysLive_7 m x u) (J := fun x _ u => FLv w u ∧ (u 88 7 = lcn S x ∧ lcn S x ≤ 3) ∧ ∀ j, 0 ≤ j → j < lcn S x → u 94 j = lvP S j) (fun m x _ u x0 x1 hu ih => ?_) (fun m _ u hu => ?_) hc.1 (by omega) () ⟨⟨fun k a _ => qud_row a, fun j a => qud_ni a⟩, ⟨by rw [qud_s]; rfl, by show (0 : Int) ≤ 3; decide⟩, fun j j0 j1 => ?_⟩
  · have hR2 : RM u S := hR.fr (fun j _ _ => by rw [hu.1.1 89 (by decide) (by decide)])
    have h7 := hu.2.1
    have hl0 := lcn_in (S := S) x0
    have hle := lcn_le (S := S) (x := x + 1) (y := S 5 13) (by omega) (by omega)
    have hs := lcn_s (S := S) x0
    have h13 := (I.2.1.1 x x0 x1).2.2.2.1
    rw [f_M_laysLive_7, qld_ok (by decide) (by decide), rm_5_13 hR2, if_pos x1, qbd (mp_of hR2 I x0 x1 (f := 13) (by decide) (by decide) (by decide))]
    dsimp only
    rw [w32_ok (z := x + 1) (by omega) (by omega)]
    refine kT_if (fun c => ?_) (fun c => ?_)
    · have h9 : S 9 x ≠ 3 := fun z => (h13.mp z) c
      rw [if_neg h9] at hs
      refine kT_if (fun c3 => kT_some ⟨hu.1, Or.inl ⟨rfl, by omega⟩⟩) (fun c3 => ?_)
      refine kT_st (by omega) (by omega) ?_
      rw [qlt_ok, qud_row (show (88 : Nat) ≠ 94 by decide), w32_ok (z := u 88 7 + 1) (by omega) (by omega)]
      refine ih () _ ⟨⟨fun k a b => by rw [qud_row a, qud_row b, hu.1.1 k a b], fun j a => by rw [qud_ni a, qud_row (by decide), hu.1.2 j a]⟩, ⟨by rw [qud_s, hs]; omega, by omega⟩, fun j j0 j1 => ?_⟩
      rw [qud_row (by decide), qud_if, h7.1]
      by_cases z : j = lcn S x
      · rw [if_pos z, z, lvP_at x0 x1 h9]
      · rw [if_neg z]
        exact hu.2.2 j j0 (by omega)
    · have h9 : S 9 x = 3 := h13.mpr c
      rw [if_pos h9, Int.add_zero] at hs
      refine ih () _ ⟨hu.1, by rw [hs]; exact h7, fun j j0 j1 => hu.2.2 j j0 (by omega)⟩
  · have hR2 : RM u S := hR.fr (fun j _ _ => by rw [hu.1.1 89 (by decide) (by decide)])
    rw [f_M_laysLive_7, qld_ok (by decide) (by decide), rm_5_13 hR2, if_neg (by omega)]
    exact kT_some ⟨hu.1, Or.inr ⟨rfl, hu.2.1.2, hu.2.1.1, hu.2.2⟩⟩
  · have : lcn S 0 = 0 := rfl
    omega
theorem m_laysV (hR : RM w S) (I : IV S) (HO0 : HO S) (L : LVe S n P) (hL : mLi n P w) (hX : 0 ≤ x ∧ x ≤ 4) (R0 : RK S n P S (lof S) root) : kT (f_M_laysSchedules x w) (fun r => mAns S n P root x r.1) := by
  have V0 := VT.root I HO0
  have hM : mMem S S (lof S) n P (fun r => w 89 (5274 + 6 * r)) (qud w 88 8 0) := by
    refine ⟨⟨hR.out (by decide), V0, fun _ _ _ _ _ _ _ => rfl⟩, fun r _ _ => qud_nk (by decide), ?_⟩
    unfold mLi
    rw [qud_ni (by decide), qud_row (by decide)]
    exact hL
  unfold f_M_laysSchedules
  rw [qlt_ok]
  refine kT_bind (m_meetsV (N := 0) (ks := fun _ => root) hM R0 L I qud_s ⟨by decide, by decide⟩ (fun i a b => by omega)) (fun r hr => ?_)
  rcases r with ⟨r1, w1⟩
  unfold mMts at hr
  dsimp only at hr ⊢
  obtain ⟨hcase, h1, h2, h3⟩ := hr
  rcases hcase with ⟨j, ⟨j0, j1⟩, -⟩ | ⟨-, er, e8, hrec, e93⟩
  · omega
  · rw [er]
    refine kT_st (by decide) (by decide) ?_
    have hM1 : mMem S S (lof S) n P (fun r => w 89 (5274 + 6 * r)) (qud w1 93 0 1) := (hM.fr (h1 89 (by decide) (by decide) (by decide)) (h1 94 (by decide) (by decide) (by decide)) (h2 7 (by decide))).fr (qud_row (by decide)) (qud_row (by decide)) (qud_nk (by decide))
    refine m_run30 V0 R0 L I hX qFU 0 0 0 0 1000 _ (by decide) (by decide) (qFU_gt (by decide)) ⟨1, fun _ => root, fun _ => 1, ⟨S, lof S, hM1⟩, ⟨by rw [qud_nk (by decide)]; exact e8, by decide⟩, fun i i0 i1 => ?_, BF.one (fun _ => rfl) rfl rfl, ⟨rfl, rfl⟩, Mx.z, Mx.z⟩
    have ei : i = 0 := by omega
    rw [ei]
    refine ⟨fun t t0 t1 => ?_, qud_s⟩
    rw [qud_row (by decide)]
    exact hrec t t0 t1
theorem m_schedulesV (hR : RM w S) (I : IV S) (HO0 : HO S) : kT (f_M_schedules x w) (fun r => SCH S x r.1) := by
  have g := I.1.1
  have hc := I.1.2.2.2.2.2.2.1
  unfold f_M_schedules
  refine kT_eq m_isIn ?_
  dsimp only
  rw [bi_if]
  refine kT_if (fun cx => ?_) (fun cx => kT_some (Or.inl ⟨cx, rfl⟩))
  refine kT_bind (m_liveV hR I) (fun r hr => ?_)
  have e89 : r.2 89 = w 89 := hr.1.1 89 (by decide) (by decide)
  have hR1 : RM r.2 S := hR.fr (fun j _ _ => by rw [e89])
  rcases hr.2 with ⟨b1, h3⟩ | ⟨b1, h3, hL⟩
  · rw [b1, if_pos rfl]
    exact kT_some (Or.inr (Or.inl ⟨cx, h3, rfl⟩))
  · rw [b1, if_neg (by decide)]
    refine kT_bind m_aside (fun w2 h2 => ?_)
    obtain ⟨⟨h2a, h2b⟩, h2c⟩ := h2
    have hR2 : RM w2 S := hR1.fr (fun j _ _ => h2c j)
    have hL2 : mLi (lcn S (S 5 13)) (lvP S) w2 := by
      unfold mLi
      rw [h2a 88 (by decide) (by decide), h2a 94 (by decide) (by decide)]
      exact hL
    have L := LVe.of hc.1 h3
    obtain ⟨root, R0⟩ := RK.ex (VT.root I HO0) L
    refine kT_bind (m_laysV hR2 I HO0 L hL2 cx R0) (fun r3 h3' => ?_)
    refine kT_bind m_back1 (fun w4 _ => kT_some ?_)
    exact Or.inr (Or.inr ⟨cx, h3, root, R0, h3'⟩)
end ES
