/-! schedules, the class: it is weighed, run, asked -/
def clS (S T : qMem) : qMem := fun f => if f = 20 ∨ f = 21 ∨ f = 25 then T f else S f
noncomputable def gStk (S : qMem) (n : Int) (P : Int → Int) (k : List Int) : Int := @ite Int (gEnd k = 0 ∧ ∀ b, mu S n P k b = 0) (Classical.propDecidable _) 1 0
noncomputable def gLan (S : qMem) (n : Int) (P : Int → Int) (k : List Int) : Int := cV (lan (rep S n P k).1 1) (S 1 3 * S 1 4)
noncomputable def gFre (S : qMem) (n : Int) (P : Int → Int) (k : List Int) : Int := mfr (rep S n P k).1 (2 * (S 1 3 + S 1 4)).toNat
/-- what is answered of a search that is done -/
def sVal (S : qMem) (n : Int) (P : Int → Int) (N : Int) (ks : Int → List Int) (ws : Int → Int) (x y : Int) : Prop := (x = 0 → y = N) ∧ (x = 1 → y = cV (fun i => gStk S n P (ks i)) N) ∧ (x = 2 → y = cV (fun i => ws i * gEnd (ks i)) N % 1000003) ∧ (x = 3 → Mx 0 (fun i => gLan S n P (ks i)) N y) ∧ (x = 4 → Mx (-1000) (fun i => - gFre S n P (ks i)) N (-y))
def xWG (S T : qMem) (K : List Int) (s : Int) (w w' : qMem) : Prop := (∀ k, k ≠ 80 → w' k = w k) ∧ w' 80 1 = w 80 1 + (if gEnd K = 0 ∧ w 74 8 = 0 then 1 else 0) ∧ w' 80 2 = (w 80 2 + w 76 s * gEnd K) % 1000003 ∧ w' 80 3 = (if w 80 3 < cV (lan T 1) (S 1 3 * S 1 4) then cV (lan T 1) (S 1 3 * S 1 4) else w 80 3) ∧ w' 80 4 = if mfr T (2 * (S 1 3 + S 1 4)).toNat < w 80 4 then mfr T (2 * (S 1 3 + S 1 4)).toNat else w 80 4
def SCH (S : qMem) (x y : Int) : Prop := (¬ (0 ≤ x ∧ x ≤ 4) ∧ y = -1) ∨ ((0 ≤ x ∧ x ≤ 4) ∧ 3 < lcn S (S 5 13) ∧ y = -1) ∨ ((0 ≤ x ∧ x ≤ 4) ∧ lcn S (S 5 13) ≤ 3 ∧ ∃ root, RK S (lcn S (S 5 13)) (lvP S) S (lof S) root ∧ ((y = -1 ∧ OVF S (lcn S (S 5 13)) (lvP S) root) ∨ ∃ N ks ws, N ≤ 400 ∧ BF (mu S (lcn S (S 5 13)) (lvP S)) (rkK S (lcn S (S 5 13)) (lvP S) root) root N N ks ws (fun _ => 0) ∧ sVal S (lcn S (S 5 13)) (lvP S) N ks ws x y))
section EX
variable {w w' w0 w2 S T T' U F : qMem} {loc loc' P : Int → Int} {v k d l q p i j n r x y m W H N s t a c M : Int} {K K' root b : List Int} {ks ks' k0 : Int → List Int} {ws ws' v0 f g : Int → Int} {dn dn' : List Int → Int}
theorem BF.no (B : BF (mu S n P) (rkK S n P root) root N N ks ws dn) (O : OVF S n P root) (h : N ≤ 400) : False := by
  obtain ⟨a, ha, hr⟩ := O
  have hB := B.1.1
  have := (en_sum (K := List Int) (g := fun _ => 0) (a := a) (b := ks) (n := 401) (m := N) (by decide) (by omega) ha B.1.2.1 (fun i i0 i1 => B.sub (hr i i0 i1))).1
  omega
/-- one answer -/
theorem SCH.eq (I : IV S) (HO0 : HO S) (h : SCH S x y) (h' : SCH S x m) : y = m := by
  have hC := I.1.2.2.2.2.2.2.1
  rcases h with ⟨a, b⟩ | ⟨a, a3, b⟩ | ⟨a, a3, root, hr, hb⟩
  · rcases h' with ⟨a', b'⟩ | ⟨a', _, b'⟩ | ⟨a', _⟩
    · rw [b, b']
    · exact absurd a' a
    · exact absurd a' a
  · rcases h' with ⟨a', b'⟩ | ⟨a', _, b'⟩ | ⟨a', a3', _⟩
    · exact absurd a a'
    · rw [b, b']
    · omega
  · rcases h' with ⟨a', b'⟩ | ⟨a', a3', b'⟩ | ⟨a', a3', root', hr', hb'⟩
    · exact absurd a a'
    · omega
    · have L := LVe.of hC.1 a3
      have V0 := VT.root I HO0
      have er : root' = root := hr'.un hr V0 L
      subst er
      have hru := rk_up V0 hr L I
      have h0 : 0 ≤ rkK S (lcn S (S 5 13)) (lvP S) root' root' := by
        unfold rkK
        omega
      rcases hb with ⟨b1, o1⟩ | ⟨N, ks, ws, hN, B, e⟩
      · rcases hb' with ⟨b2, o2⟩ | ⟨N', ks', ws', hN', B', e'⟩
        · rw [b1, b2]
        · exact (B'.no o1 hN').elim
      · rcases hb' with ⟨b2, o2⟩ | ⟨N', ks', ws', hN', B', e'⟩
        · exact (B.no o2 hN).elim
        · obtain ⟨e0, e1, e2, e3, e4⟩ := e
          obtain ⟨f0, f1, f2, f3, f4⟩ := e'
          rcases (by omega : x = 0 ∨ x = 1 ∨ x = 2 ∨ x = 3 ∨ x = 4) with z | z | z | z | z
          · rw [e0 z, f0 z]
            exact (B.eq B' (fun _ => 0)).1
          · rw [e1 z, f1 z]
            exact (B.eq B' (gStk S (lcn S (S 5 13)) (lvP S))).2
          · rw [e2 z, f2 z]
            rw [B.wsum (G := gEnd) B' hru h0]
          · exact B.mx B' (G := gLan S (lcn S (S 5 13)) (lvP S)) (e3 z) (f3 z)
          · have := B.mx B' (G := fun k => - gFre S (lcn S (S 5 13)) (lvP S) k) (e4 z) (f4 z)
            omega
theorem VT.cl (V : VT S T loc) : VT S (clS S T) loc := by
  have a : ∀ f : Nat, f = 20 ∨ f = 21 ∨ f = 25 → clS S T f = T f := fun f h => if_pos h
  have b : ∀ f : Nat, ¬ (f = 20 ∨ f = 21 ∨ f = 25) → clS S T f = S f := fun f h => if_neg h
  have e1 : clS S T 1 = T 1 := by rw [b 1 (by decide), V.1.1.1]
  refine ⟨⟨⟨b 1 (by decide), fun j _ => by rw [b 0 (by decide)]⟩, b 5 (by decide), b 7 (by decide), b 22 (by decide)⟩, ⟨?_, V.2.1.2.1.co (by rw [b 5 (by decide), V.1.2.1]) (a 20 (by decide)) (a 21 (by decide)) (fun _ _ _ => rfl), V.2.1.2.2⟩, V.2.2.co e1 (a 25 (by decide))⟩
  exact V.2.1.1.co e1 (fun j hj => by rw [b 0 (by decide), V.1.1.2 j hj]) (a 20 (by decide))
theorem RK.cl (h : RK S n P T loc K) : RK S n P (clS S T) loc K := by
  have a : ∀ f : Nat, f = 20 ∨ f = 21 ∨ f = 25 → clS S T f = T f := fun f h => if_pos h
  unfold RK at h ⊢
  rw [a 20 (by decide), a 21 (by decide), a 25 (by decide)]
  exact h
theorem cl_row {f : Nat} (h20 : f ≠ 20) (h21 : f ≠ 21) (h25 : f ≠ 25) : clS S T f = S f := if_neg (by omega)
theorem sfj_co (e1 : T' 1 = T 1) (e6 : T' 0 6 = T 0 6) (e20 : T' 20 = T 20) : sfi T' r = sfi T r := by
  unfold sfi shd
  rw [e1, e6, e20]
theorem mfr_co (h : ∀ r, 0 ≤ r → r < m → sfi T' r = sfi T r) (m0 : 0 ≤ m) : mfr T' m.toNat = mfr T m.toNat := by
  have key : ∀ t : Nat, (t : Int) ≤ m → mfr T' t = mfr T t := by
    intro t
    induction t with
    | zero => intro _; rfl
    | succ t ih =>
      intro ht
      show (if sfi T' t < mfr T' t then sfi T' t else mfr T' t) = if sfi T t < mfr T t then sfi T t else mfr T t
      rw [ih (by omega), h t (by omega) (by omega)]
  exact key m.toNat (by omega)
theorem e_lane (hx : NX 37 w T) (I : IW T) : f_N_heldInLane 37 1 w = some (cV (lan T 1) (T 1 3 * T 1 4), w) ∧ 0 ≤ cV (lan T 1) (T 1 3 * T 1 4) := by
  have hN := gN I.1
  have e5 : w (37 + 1) 5 = T 1 3 * T 1 4 := hx.2.2.1.1
  have q20 : ∀ q, 0 ≤ q → q < 144 → 0 ≤ T 20 q ∧ T 20 q ≤ 6 := fun q a b => (I.2.2.2 q a b).1
  have hl : ∀ v, lan T 1 v = cV (fun k => T 20 (v * 9 + 1 + k)) 4 := fun v => by
    unfold lan
    rw [if_neg (by decide)]
    rfl
  have hin : ∀ v, 0 ≤ v → v < T 1 3 * T 1 4 → ∀ y, 0 ≤ y → y ≤ 4 → 0 ≤ cV (fun k => T 20 (v * 9 + 1 + k)) y ∧ cV (fun k => T 20 (v * 9 + 1 + k)) y ≤ 6 * y := fun v a b y c d => cV_bd (f := fun k => T 20 (v * 9 + 1 + k)) (N := 4) (M := 6) (fun k e f => q20 _ (by omega) (by omega)) (by decide) c d
  have hli : ∀ v, 0 ≤ v → v < T 1 3 * T 1 4 → 0 ≤ lan T 1 v ∧ lan T 1 v ≤ 24 := fun v a b => by
    rw [hl]
    have := hin v a b 4 (by decide) (by decide)
    omega
  have hs : ∀ x, 0 ≤ x → x ≤ T 1 3 * T 1 4 → 0 ≤ cV (lan T 1) x ∧ cV (lan T 1) x ≤ 24 * x := fun x a b => cV_bd hli (by decide) a b
  refine ⟨?_, (hs _ (by omega) (Int.le_refl _)).1⟩
  unfold f_N_heldInLane
  refine vL (V := fun x => cV (lan T 1) x) (N := T 1 3 * T 1 4) (L := fun m x s => f_N_heldInLane_4 37 m 1 s x w) (fun m x x0 x1 => ?_) (fun m => ?_) (by omega) (by omega) rfl
  · have h1 := hs x x0 (by omega)
    have h2 := hli x x0 x1
    have hf : f_X_firstOfLane 1 w = some (1, w) := rfl
    have hh : f_Q_heldFrom (37 + 19) (x * 9 + 1) 4 w = some (lan T 1 x, w) := by
      rw [hl]
      unfold f_Q_heldFrom
      refine vL (V := fun y => cV (fun k => T 20 (x * 9 + 1 + k)) y) (N := 4) (L := fun m y s => f_Q_heldFrom_5 (37 + 19) m (x * 9 + 1) 4 s y w) (fun m y y0 y1 => ?_) (fun m => ?_) (by decide) (by decide) rfl
      · have h3 := hin x x0 x1 y y0 (by omega)
        have h4 := q20 (x * 9 + 1 + y) (by omega) (by omega)
        rw [cV_s y0, f_Q_heldFrom_5, if_pos y1, w32_ok (z := x * 9 + 1 + y) (by omega) (by omega), qld_ok (by omega) (by omega), w32_ok (z := y + 1) (by omega) (by omega), show w (37 + 19 + 1) (x * 9 + 1 + y) = T 20 (x * 9 + 1 + y) from rx_20 hx.1 (by omega) (by omega), w32_ok (by omega) (by omega)]
      · rw [f_Q_heldFrom_5, if_neg (by decide)]
    rw [cV_s x0, f_N_heldInLane_4, e5, if_pos x1, w32_ok (z := x * 9) (by omega) (by omega), w32_ok (z := x + 1) (by omega) (by omega), if_neg (by decide), qbd hf]
    dsimp only
    rw [w32_ok (z := x * 9 + 1) (by omega) (by omega), qbd hh]
    dsimp only
    rw [w32_ok (by omega) (by omega)]
  · rw [f_N_heldInLane_4, e5, if_neg (by omega)]
theorem gEnd_p (h : RK S n P T loc K) (V : VT S T loc) (L : LVe S n P) (I : IV S) : (gEnd K = 1 ↔ ∀ j, 0 ≤ j → j < n → spo loc P n j = 144) ∧ (gEnd K = 0 ∨ gEnd K = 1) := by
  have hn := L.1
  have hN := gN I.1.1
  have hk : ∀ j, 0 ≤ j → j < 3 → (kA K j = 432 ↔ spo loc P n j = 144) := fun j j0 j1 => by
    rcases h.at V L j0 j1 with ⟨a, b⟩ | ⟨⟨a, b, c, e⟩, i, i1, -, i3⟩
    · exact ⟨fun _ => a, fun _ => b⟩
    · exact ⟨fun z => by omega, fun z => by omega⟩
  unfold gEnd
  by_cases y : kA K 0 = 432 ∧ kA K 1 = 432 ∧ kA K 2 = 432
  · rw [if_pos y]
    refine ⟨⟨fun _ j j0 j1 => ?_, fun _ => rfl⟩, Or.inr rfl⟩
    rcases (by omega : j = 0 ∨ j = 1 ∨ j = 2) with rfl | rfl | rfl
    · exact (hk 0 (by decide) (by decide)).mp y.1
    · exact (hk 1 (by decide) (by decide)).mp y.2.1
    · exact (hk 2 (by decide) (by decide)).mp y.2.2
  · rw [if_neg y]
    refine ⟨⟨fun z => absurd z (by decide), fun z => ?_⟩, Or.inl rfl⟩
    have hz : ∀ j, 0 ≤ j → spo loc P n j = 144 := fun j j0 => by
      by_cases e : j < n
      · exact z j j0 e
      · unfold spo
        rw [if_neg (fun y => e y.1)]
    exact absurd ⟨(hk 0 (by decide) (by decide)).mpr (hz 0 (by decide)), (hk 1 (by decide) (by decide)).mpr (hz 1 (by decide)), (hk 2 (by decide) (by decide)).mpr (hz 2 (by decide))⟩ y
theorem mn_3 {u v z : Int} : (if u < (if v < z then v else z) then u else (if v < z then v else z)) = if (if u < v then u else v) < z then (if u < v then u else v) else z := by
  repeat' split
  all_goals omega
theorem e_weigh (hC : cCur S n P T loc w) (RT : RK S n P T loc K) (L : LVe S n P) (I : IV S) (s0 : 0 ≤ s) (s1 : s < 400) (h1 : 0 ≤ w 80 1 ∧ w 80 1 < 1000) (h2 : 0 ≤ w 80 2 ∧ w 80 2 < 1000003) (h76 : 0 ≤ w 76 s ∧ w 76 s < 1000003) (h4 : w 80 4 ≤ 1000) : kT (f_S_weigh 37 s w) (xWG S T K s w) := by
  obtain ⟨⟨hx, V, hrow⟩, ⟨h6, h77⟩, h78⟩ := hC
  have hn := L.1
  have I2 := V.iw I
  have e1 : T 1 = S 1 := V.1.1.1
  have h16 := g16r I.1.1
  have hg := I.1.1
  obtain ⟨⟨ga, gb⟩, gc, gd'⟩ := hg
  have hgE := gEnd_p RT V L I
  -- the rings
  have h112 : ∀ u : qMem, (∀ k, k ≠ 80 → u k = w k) → u 80 4 = w 80 4 → kT (f_S_weigh_112 37 qFU 0 u) (fun w' => (∀ k, k ≠ 80 → w' k = w k) ∧ (∀ i, i ≠ 4 → w' 80 i = u 80 i) ∧ w' 80 4 = if mfr T (2 * (S 1 3 + S 1 4)).toNat < w 80 4 then mfr T (2 * (S 1 3 + S 1 4)).toNat else w 80 4) := by
    intro u hu h4u
    have hc0 : u 80 4 = if mfr T (0 : Int).toNat < w 80 4 then mfr T (0 : Int).toNat else w 80 4 := by
      have : mfr T (0 : Int).toNat = 1000 := rfl
      rw [this, if_neg (by omega), h4u]
    refine kD_loop (σ := Unit) (N := 2 * (S 1 3 + S 1 4)) (L := fun m x _ w => f_S_weigh_112 37 m x w) (J := fun x _ w' => (∀ k, k ≠ 80 → w' k = w k) ∧ (∀ i, i ≠ 4 → w' 80 i = u 80 i) ∧ w' 80 4 = if mfr T x.toNat < w 80 4 then mfr T x.toNat else w 80 4) (fun m x _ w2 x0 x1 hJ ih => ?_) (fun m _ w2 hJ => ?_) (by omega) (by omega) () ⟨hu, fun _ _ => rfl, hc0⟩
    · have hx2 : NX 37 w2 T := hx.fr (fun k a b => hJ.1 k (by omega))
      have e6 : w2 (37 + 1) 6 = 2 * (S 1 3 + S 1 4) := by
        have := hx2.2.2.1.2
        rwa [e1] at this
      rw [f_S_weigh_112, e6, if_pos x1, qld_ok (by decide) (by decide), w32_ok (z := x + 1) (by omega) (by omega)]
      refine kT_eq (n_freeIn hx2 I2 x0 (by rw [e1]; exact x1)) ?_
      dsimp only
      refine kT_st (by decide) (by decide) ?_
      refine ih () _ ⟨fun k a => by rw [qud_row a]; exact hJ.1 k a, fun i a => by rw [qud_ni a]; exact hJ.2.1 i a, ?_⟩
      have en : (x + 1).toNat = x.toNat + 1 := by omega
      have ex : ((x.toNat : Nat) : Int) = x := by omega
      rw [qud_s, hJ.2.2, en]
      show _ = if (if sfi T ((x.toNat : Nat) : Int) < mfr T x.toNat then sfi T ((x.toNat : Nat) : Int) else mfr T x.toNat) < w 80 4 then (if sfi T ((x.toNat : Nat) : Int) < mfr T x.toNat then sfi T ((x.toNat : Nat) : Int) else mfr T x.toNat) else w 80 4
      rw [ex]
      exact mn_3
    · have hx2 : NX 37 w2 T := hx.fr (fun k a b => hJ.1 k (by omega))
      have e6 : w2 (37 + 1) 6 = 2 * (S 1 3 + S 1 4) := by
        have := hx2.2.2.1.2
        rwa [e1] at this
      rw [f_S_weigh_112, e6, if_neg (by omega)]
      exact kT_some hJ
  have h89 : ∀ u : qMem, (∀ k, k ≠ 80 → u k = w k) → u 80 4 = w 80 4 → u 80 3 = w 80 3 → kT (f_S_weigh_89 37 u) (fun w' => (∀ k, k ≠ 80 → w' k = w k) ∧ w' 80 1 = u 80 1 ∧ w' 80 2 = u 80 2 ∧ w' 80 3 = (if w 80 3 < cV (lan T 1) (S 1 3 * S 1 4) then cV (lan T 1) (S 1 3 * S 1 4) else w 80 3) ∧ w' 80 4 = if mfr T (2 * (S 1 3 + S 1 4)).toNat < w 80 4 then mfr T (2 * (S 1 3 + S 1 4)).toNat else w 80 4) := by
    intro u hu h4u h3u
    have hx2 : NX 37 u T := hx.fr (fun k a b => hu k (by omega))
    have hl := (e_lane hx2 I2).1
    rw [e1] at hl
    unfold f_S_weigh_89
    rw [qld_ok (by decide) (by decide), h3u]
    refine kT_eq hl ?_
    dsimp only
    refine kT_st (by decide) (by decide) ?_
    refine kT_mono (h112 _ (fun k a => by rw [qud_row a]; exact hu k a) (by rw [qud_ni (by decide)]; exact h4u)) (fun w' h => ⟨h.1, ?_, ?_, ?_, h.2.2⟩)
    · rw [h.2.1 1 (by decide), qud_ni (by decide)]
    · rw [h.2.1 2 (by decide), qud_ni (by decide)]
    · rw [h.2.1 3 (by decide), qud_s]
  have h43 : ∀ z, z = gEnd K → kT (f_S_weigh_43 37 s z w) (xWG S T K s w) := by
    intro z hz
    unfold f_S_weigh_43
    rw [hz]
    refine kT_if (fun c => kT_if (fun c8 => ?_) (fun c8 => ?_)) (fun c => ?_)
    · rw [qld_ok (by decide) (by decide), w32_ok (z := w 80 1 + 1) (by omega) (by omega)]
      refine kT_st (by decide) (by decide) ?_
      refine kT_mono (h89 _ (fun k a => qud_row a) (qud_ni (by decide)) (qud_ni (by decide))) (fun w' h => ⟨h.1, ?_, ?_, h.2.2.2⟩)
      · rw [h.2.1, qud_s, if_pos ⟨c, c8⟩]
      · rw [h.2.2.1, qud_ni (by decide), c, Int.mul_zero, Int.add_zero]
        omega
    · refine kT_mono (h89 w (fun _ _ => rfl) rfl rfl) (fun w' h => ⟨h.1, ?_, ?_, h.2.2.2⟩)
      · rw [h.2.1, if_neg (fun y => c8 y.2), Int.add_zero]
      · rw [h.2.2.1, c, Int.mul_zero, Int.add_zero]
        omega
    · have g1 : gEnd K = 1 := by have := hgE.2; omega
      rw [qld_ok (by decide) (by decide), qld_ok s0 s1, qdv_ok (by decide), w32_ok (z := w 80 2 + w 76 s) (by omega) (by omega), jrem_ok (by omega) (by omega) (by decide) (by decide)]
      refine kT_st (by decide) (by decide) ?_
      refine kT_mono (h89 _ (fun k a => qud_row a) (qud_ni (by decide)) (qud_ni (by decide))) (fun w' h => ⟨h.1, ?_, ?_, h.2.2.2⟩)
      · rw [h.2.1, qud_ni (by decide), if_neg (fun y => c y.1), Int.add_zero]
      · rw [h.2.2.1, qud_s, g1, Int.mul_one]
  have main : ∀ (m : Nat) (z x : Int), 0 ≤ x → x ≤ n → n - x < m → (z = 0 ∨ z = 1) → (z = 1 ↔ ∀ j, 0 ≤ j → j < x → spo loc P n j = 144) → kT (f_S_weigh_5 37 m s z x w) (xWG S T K s w) := by
    intro m
    induction m with
    | zero => intro z x _ _ _ _ _; omega
    | succ m ih =>
      intro z x x0 x1 hm hz01 hz
      rw [f_S_weigh_5, h6]
      refine kT_if (fun c => ?_) (fun c => h43 z ?_)
      · have h36 : ∀ u, (u = 0 ∨ u = 1) → (u = 1 ↔ ∀ j, 0 ≤ j → j < x + 1 → spo loc P n j = 144) → kT (f_S_weigh_36 37 (f_S_weigh_5 37 m) u s x w) (xWG S T K s w) := by
          intro u hu1 hu
          unfold f_S_weigh_36
          rw [w32_ok (z := x + 1) (by omega) (by omega)]
          exact ih u (x + 1) (by omega) (by omega) (by omega) hu1 hu
        refine kT_if (fun c0 => h36 0 (Or.inl rfl) ⟨fun y => absurd y (by decide), fun y => ?_⟩) (fun c0 => ?_)
        · have := hz.mpr (fun j a b => y j a (by omega))
          omega
        · have hz1 := hz.mp (by omega)
          rw [qld_ok x0 (by omega), h78 x x0 (by omega)]
          refine kT_if (fun c1 => h36 1 (Or.inr rfl) ⟨fun _ j a b => ?_, fun _ => rfl⟩) (fun c1 => h36 0 (Or.inl rfl) ⟨fun y => absurd y (by decide), fun y => absurd (y x x0 (by omega)) c1⟩)
          by_cases e : j = x
          · rw [e]; exact c1
          · exact hz1 j a (by omega)
      · have hxn : x = n := by omega
        rw [hxn] at hz
        have := hgE.1
        rcases hz01 with z0 | z1
        · rcases hgE.2 with g0 | g1
          · rw [z0, g0]
          · have := hz.mpr (this.mp g1)
            omega
        · rw [z1, this.mpr (hz.mp z1)]
  unfold f_S_weigh
  exact main qFU 1 0 (by omega) hn.1 (qFU_gt (by omega)) (Or.inr rfl) ⟨fun _ j a b => by omega, fun _ => rfl⟩
end EX
