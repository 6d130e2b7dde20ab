/-! schedules, the class: it is asked -/
section EM
variable {w w' w0 w2 S T T' U F : qMem} {loc loc' P : Int → Int} {v k d l q p i j n r x y m W H N s t a c M : Int} {K K' root b : List Int} {ks ks' k0 : Int → List Int} {ws ws' v0 f g : Int → Int} {dn dn' : List Int → Int}
theorem e_find (hx : NX 37 w S) (I : IV S) (hf : tFS w0 w) (h3 : lcn S (S 5 13) ≤ 3) : kT (f_S_findLeft 37 w) (fun w' => (NX 37 w' S ∧ tFS w0 w') ∧ (w' 74 6 = lcn S (S 5 13) ∧ ∀ j, 0 ≤ j → j < lcn S (S 5 13) → w' 77 j = lvP S j) ∧ ∀ j, 0 ≤ j → j < 3 → w' 78 j = spo (lof S) (lvP S) (lcn S (S 5 13)) j) := by
  have hc := I.1.2.2.2.2.2.2.1
  unfold f_S_findLeft
  rw [qlt_ok]
  refine kT_bind (j_fill (n := 3) (by decide) (by decide)) (fun w1 h1 => ?_)
  have r1 : ∀ k, k ≠ 78 → w1 k = qud w 74 6 0 k := fun k hk => by
    funext j
    rw [h1, if_neg (fun z => hk z.1)]
  have main : ∀ (m : Nat) (x : Int) (w' : qMem), 0 ≤ x → x ≤ S 5 13 → S 5 13 - x < m → (NX 37 w' S ∧ tFS w0 w') → (w' 74 6 = lcn S x ∧ ∀ j, 0 ≤ j → j < lcn S x → w' 77 j = lvP S j ∧ w' 78 j = lof S (lvP S j)) → (∀ j, lcn S x ≤ j → j < 3 → w' 78 j = 144) → kT (f_S_findLeft_17 37 m x w') (fun w' => (NX 37 w' S ∧ tFS w0 w') ∧ (w' 74 6 = lcn S (S 5 13) ∧ ∀ j, 0 ≤ j → j < lcn S (S 5 13) → w' 77 j = lvP S j) ∧ ∀ j, 0 ≤ j → j < 3 → w' 78 j = spo (lof S) (lvP S) (lcn S (S 5 13)) j) := by
    intro m
    induction m with
    | zero => intro x w' _ _ _ _ _ _; omega
    | succ m ih =>
      intro x w' x0 x1 hm hX h6 h78
      obtain ⟨hx', hf'⟩ := hX
      have hl0 := lcn_in (S := S) x0
      have hle := lcn_le (S := S) x0 x1
      have fin : lcn S x = lcn S (S 5 13) → kT (some w') (fun w' => (NX 37 w' S ∧ tFS w0 w') ∧ (w' 74 6 = lcn S (S 5 13) ∧ ∀ j, 0 ≤ j → j < lcn S (S 5 13) → w' 77 j = lvP S j) ∧ ∀ j, 0 ≤ j → j < 3 → w' 78 j = spo (lof S) (lvP S) (lcn S (S 5 13)) j) := by
        intro e
        rw [e] at h6 h78
        refine kT_some ⟨⟨hx', hf'⟩, ⟨h6.1, fun j a b => (h6.2 j a b).1⟩, fun j a b => ?_⟩
        unfold spo
        by_cases z : j < lcn S (S 5 13)
        · have hp := lvP_in hc.1 a z
          have := (n_queueOf7 hx' I hp.1.1.1 hp.1.1.2 hp.1.2).2
          rw [if_pos ⟨z, by omega⟩, (h6.2 j a z).2]
        · rw [if_neg (fun y => z y.1), h78 j (by omega) b]
      rw [f_S_findLeft_17, show w' (37 + 5) 13 = S 5 13 from rx_5_13 hx'.1, h6.1]
      refine kT_if (fun c => kT_if (fun c3 => ?_) (fun c3 => fin (by omega))) (fun c => fin (by rw [show x = S 5 13 by omega]))
      have hd : f_P_isDelivered (37 + 5) x w' = some (bi (decide (S 9 x = 3)), w') := by
        unfold f_P_isDelivered
        rw [qld_ok x0 (by omega), show w' (37 + 5 + 4) x = S 9 x from rx_9 hx'.1 x0 c hc.2]
        by_cases e : S 9 x = 3
        · rw [if_pos e, decide_eq_true e]; rfl
        · rw [if_neg e, decide_eq_false e]; rfl
      refine kT_eq hd ?_
      dsimp only
      rw [bi_if, w32_ok (z := x + 1) (by omega) (by omega)]
      have hs := lcn_s (S := S) x0
      refine kT_if (fun cd => ?_) (fun cd => ?_)
      · rw [if_pos cd, Int.add_zero] at hs
        exact ih (x + 1) w' (by omega) (by omega) (by omega) ⟨hx', hf'⟩ (by rw [hs]; exact h6) (by rw [hs]; exact h78)
      · rw [if_neg cd] at hs
        have hat := lvP_at x0 c cd
        rw [h6.1]
        refine kT_st hl0.1 c3 ?_
        have hx2 : NX 37 (qud w' 77 (lcn S x) x) S := hx'.fr (fun k a b => qud_row (by omega))
        obtain ⟨e, q0, q1⟩ := n_queueOf7 hx2 I x0 c cd
        refine kT_eq e ?_
        dsimp only
        rw [qud_nk (show (74 : Nat) ≠ 77 by decide), h6.1]
        refine kT_st hl0.1 c3 ?_
        rw [qlt_ok, qud_nk (show (74 : Nat) ≠ 78 by decide), qud_nk (show (74 : Nat) ≠ 77 by decide), h6.1, w32_ok (z := lcn S x + 1) (by omega) (by omega)]
        refine ih (x + 1) _ (by omega) (by omega) (by omega) ⟨hx2.fr (fun k a b => by rw [qud_row (by omega), qud_row (by omega)]), ((hf'.wr (by omega)).wr (by omega)).wr (by omega)⟩ ⟨by rw [qud_s, hs], fun j a b => ?_⟩ (fun j a b => ?_)
        · rw [hs] at b
          have a77 : qud (qud (qud w' 77 (lcn S x) x) 78 (lcn S x) (lof S x)) 74 6 (lcn S x + 1) 77 j = if j = lcn S x then x else w' 77 j := by rw [qud_nk (by decide), qud_nk (by decide), qud_if]
          have a78 : qud (qud (qud w' 77 (lcn S x) x) 78 (lcn S x) (lof S x)) 74 6 (lcn S x + 1) 78 j = if j = lcn S x then lof S x else w' 78 j := by rw [qud_nk (by decide), qud_if, qud_nk (by decide)]
          rw [a77, a78]
          by_cases z : j = lcn S x
          · rw [if_pos z, if_pos z, z, hat]
            exact ⟨rfl, rfl⟩
          · rw [if_neg z, if_neg z]
            exact h6.2 j a (by omega)
        · rw [hs] at a
          rw [qud_nk (by decide), qud_ni (by omega), qud_nk (by decide)]
          exact h78 j (by omega) b
  refine main qFU 0 w1 (by omega) hc.1 (qFU_gt (by omega)) ⟨hx.fr (fun k a b => by rw [r1 k (by omega), qud_row (by omega)]), fun k hk => by rw [r1 k (by omega), qud_row (by omega), hf k hk]⟩ ⟨by rw [r1 74 (by decide), qud_s]; rfl, fun j a b => ?_⟩ (fun j a b => ?_)
  · have : lcn S 0 = 0 := rfl
    omega
  · have : lcn S 0 = 0 := rfl
    rw [h1, if_pos ⟨rfl, by omega, b⟩]
theorem sfi_16 (I : IW T) (r0 : 0 ≤ r) (r1 : r < 2 * (T 1 3 + T 1 4)) : sfi T r ≤ 16 := by
  have hl := gl_in (r := r) I.1
  have hE := I.2.1.1
  have hm : gl (T 1 3) (T 1 4) r * T 0 6 ≤ 16 := by
    rcases (by omega : gl (T 1 3) (T 1 4) r = 2 ∨ gl (T 1 3) (T 1 4) r = 3 ∨ gl (T 1 3) (T 1 4) r = 4) with e | e | e <;> rw [e] <;> omega
  have hd := gd_in (W := T 1 3) (H := T 1 4) (r := r)
  have hs : 0 ≤ shd T r := by
    unfold shd
    refine fli_i (g := fun s v => s + T 20 (v * 9 + 1 + gd (T 1 3) (T 1 4) r)) (h := gq (T 1 3) (T 1 4) r) (P := fun _ s => 0 ≤ s) (s := (0 : Int)) (Int.le_refl 0) (gl (T 1 3) (T 1 4) r).toNat (fun x s x0 x1 hs => ?_)
    have hN := gN I.1
    have hq := gq_in I.1 r0 r1 x0 (by omega)
    have := (I.2.2.2 (gq (T 1 3) (T 1 4) r x * 9 + 1 + gd (T 1 3) (T 1 4) r) (by omega) (by omega)).1.1
    omega
  unfold sfi
  omega
theorem mfr_le (h : sfi T 0 ≤ 16) : ∀ m : Nat, 0 < m → mfr T m ≤ 16 := by
  intro m
  induction m with
  | zero => intro h; omega
  | succ m ih =>
    intro _
    show (if sfi T m < mfr T m then sfi T m else mfr T m) ≤ 16
    cases m with
    | zero =>
      have e : mfr T 0 = 1000 := rfl
      have e0 : sfi T ((0 : Nat) : Int) = sfi T 0 := rfl
      rw [e, e0]
      split <;> omega
    | succ m =>
      have := ih (by omega)
      split <;> omega
theorem Mx_16 (h : Mx (-16) f n M) (n0 : 0 < n) (h0 : -16 ≤ f 0) : Mx (-1000) f n M := by
  obtain ⟨h1, h2, h3⟩ := h
  refine ⟨by omega, h2, Or.inr ?_⟩
  rcases h3 with z | z
  · exact ⟨0, ⟨by decide, n0⟩, by have := h2 0 (by decide) n0; omega⟩
  · exact z
theorem x_schedulesV (hx : NX 2 w S) (I : IV S) (hG : RGx w) (HO0 : HO S) (XD0 : XD S) : kT (f_X_schedules x w) (fun r => SCH S x r.1 ∧ tFS w r.2 ∧ RGx r.2) := by
  have g := I.1.1
  have hc := I.1.2.2.2.2.2.2.1
  have hlf := left_n XD0 hc.1
  have hlc := lcn_in (S := S) hc.1
  unfold f_X_schedules
  refine kT_eq x_within ?_
  dsimp only
  rw [bi_if]
  refine kT_if (fun cx => ?_) (fun cx => kT_some ⟨Or.inl ⟨cx, rfl⟩, tFS.rfl', hG⟩)
  refine kT_bind (n_copyFrom hx I hG) (fun w1 h1 => ?_)
  have f1 : tFS w w1 := tFS.rfl'.f37 h1.2
  have g1 : RGx w1 := ⟨S 1 3, S 1 4, g, h1.1.2⟩
  have e13 : w1 (37 + 5) 13 = S 5 13 := rx_5_13 h1.1.1
  have e14 : w1 (37 + 5) 14 = S 5 14 := rx_5_14 h1.1.1
  have hrun : kT (f_S_run 37 w1) (fun r => (tFS w r.2 ∧ RGx r.2) ∧ ((r.1 = 0 ∧ SCH S x (-1)) ∨ (r.1 = 1 ∧ SCH S x (r.2 80 x)))) := by
    unfold f_S_run f_P_left
    refine kT_eq rfl ?_
    dsimp only
    rw [e13, e14, w32_ok (by omega) (by omega), hlf]
    refine kT_if (fun h3 => ?_) (fun h3 => kT_some ⟨⟨f1, g1⟩, Or.inl ⟨rfl, Or.inr (Or.inl ⟨cx, by omega, rfl⟩)⟩⟩)
    have L := LVe.of hc.1 h3
    have V0 := VT.root I HO0
    obtain ⟨root, R0⟩ := RK.ex V0 L
    refine kT_bind (e_find h1.1 I f1 h3) (fun w2 h2 => ?_)
    obtain ⟨⟨x2, f2⟩, ⟨h6, h77⟩, h78⟩ := h2
    refine kT_bind (j_fill (n := 5) (by decide) (by decide)) (fun w3 h3' => ?_)
    have r3 : ∀ k, k ≠ 80 → w3 k = w2 k := fun k hk => by
      funext j
      rw [h3', if_neg (fun z => hk z.1)]
    refine kT_st (by decide) (by decide) ?_
    rw [qlt_ok, qlt_ok]
    have rr : ∀ k, k ≠ 74 → k ≠ 80 → qud (qud (qud w3 80 4 16) 74 7 0) 74 9 0 k = w2 k := fun k a b => by rw [qud_row a, qud_row a, qud_row b, r3 k b]
    have hC : cCur S (lcn S (S 5 13)) (lvP S) S (lof S) (qud (qud (qud w3 80 4 16) 74 7 0) 74 9 0) := by
      refine ⟨⟨x2.fr (fun k a b => rr k (by omega) (by omega)), V0, fun _ _ _ _ => rfl⟩, ⟨?_, ?_⟩, ?_⟩
      · rw [qud_ni (by decide), qud_ni (by decide), qud_nk (by decide), r3 74 (by decide)]; exact h6
      · rw [rr 77 (by decide) (by decide)]; exact h77
      · rw [rr 78 (by decide) (by decide)]; exact h78
    have hf3 : tFS w (qud (qud (qud w3 80 4 16) 74 7 0) 74 9 0) := fun k hk => by
      rw [rr k (by omega) (by omega)]
      exact f2 k hk
    refine kT_bind (e_reach (N := 0) (ks := fun _ => root) (ws := fun _ => 1) (x := 1) hC R0 L I ⟨by rw [qud_ni (by decide), qud_s], by decide, by decide⟩ (fun i a b => by omega) (by decide) (by decide)) (fun w4 h4 => ?_)
    rcases h4 with ⟨j, ⟨a, b⟩, -⟩ | ⟨-, -, e4⟩ | ⟨-, e0, -⟩
    · omega
    · have hC4 : cCur S (lcn S (S 5 13)) (lvP S) S (lof S) w4 := by
        rw [e4]
        exact hC.fr (fun k a b => by rw [qud_row (by omega), qud_row (by omega), qud_row (by omega)]) (by rw [qud_ni (by decide), qud_nk (by decide), qud_nk (by decide)]) (by rw [qud_row (by decide), qud_row (by decide), qud_row (by decide)]) (by rw [qud_row (by decide), qud_row (by decide), qud_row (by decide)])
      have hf4 : tFS w w4 := fun k hk => by
        rw [e4, qud_row (by omega), qud_row (by omega), qud_row (by omega)]
        exact hf3 k hk
      have w80 : ∀ i, w4 80 i = if i = 4 then 16 else if 0 ≤ i ∧ i < 5 then 0 else w2 80 i := fun i => by
        rw [e4, qud_nk (by decide), qud_nk (by decide), qud_nk (by decide), qud_nk (by decide), qud_nk (by decide), qud_if, h3']
        by_cases z : i = 4
        · rw [if_pos z, if_pos z]
        · rw [if_neg z, if_neg z]
          by_cases y : 0 ≤ i ∧ i < 5
          · rw [if_pos y, if_pos ⟨rfl, y⟩]
          · rw [if_neg y, if_neg (fun u => y u.2)]
      have hRN : xRN S (lcn S (S 5 13)) (lvP S) root 0 w4 := by
        refine ⟨1, fun _ => root, fun _ => 1, ⟨S, lof S, hC4⟩, ⟨by rw [e4, qud_s]; rfl, by decide, by rw [e4, qud_ni (by decide), qud_nk (by decide), qud_nk (by decide), qud_s]⟩, fun i i0 i1 => ?_, BF.one (fun _ => rfl) rfl rfl, ?_, ?_, ?_, ?_⟩
        · rw [e4, show i = 0 by omega, qud_nk (by decide), qud_nk (by decide), qud_s, qud_nk (by decide), qud_s]
          exact ⟨rfl, rfl⟩
        · rw [w80]; rfl
        · rw [w80]; rfl
        · rw [w80]; exact Mx.z
        · rw [w80]; exact Mx.z
      refine kT_mono (x_run52 V0 R0 L I hf4 hRN) (fun r hr => ⟨hr.1, ?_⟩)
      rcases hr.2 with ⟨b1, O⟩ | ⟨b1, N, ks, ws, hN, B, v0, v1, v2, v3, v4⟩
      · exact Or.inl ⟨b1, Or.inr (Or.inr ⟨cx, h3, root, R0, Or.inl ⟨rfl, O⟩⟩)⟩
      · refine Or.inr ⟨b1, Or.inr (Or.inr ⟨cx, h3, root, R0, Or.inr ⟨N, ks, ws, hN, B, fun z => by rw [z]; exact v0, fun z => by rw [z]; exact v1, fun z => by rw [z]; exact v2, fun z => by rw [z]; exact v3, fun z => ?_⟩⟩)⟩
        rw [z]
        refine Mx_16 v4 B.1.1.1 ?_
        obtain ⟨Tx, lx, Vx, Rx⟩ := rC_ok V0 R0 L I (B.1.2.2 0 (by decide) B.1.1.1)
        have hrep := rep_ok Vx Rx
        have hgb := I.1.1
        unfold gIn at hgb
        have e1 := hrep.1.1.1.1
        have h16 := sfi_16 (r := 0) (hrep.1.iw I) (by decide) (by rw [e1]; omega)
        have := mfr_le h16 (2 * (S 1 3 + S 1 4)).toNat (by omega)
        unfold gFre
        omega
    · exact absurd e0 (by decide)
  refine kT_bind hrun (fun r hr => ?_)
  rcases hr.2 with ⟨b1, hS⟩ | ⟨b1, hS⟩
  · rw [b1, if_pos rfl]
    exact kT_some ⟨hS, hr.1⟩
  · rw [b1, if_neg (by decide)]
    refine kT_ld (by omega) (by omega) ?_
    exact kT_some ⟨hS, hr.1⟩
end EM
