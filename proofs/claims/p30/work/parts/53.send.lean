/-! sending -/
def svd (S : qMem) (a b : Int) : Prop := ((0 ≤ a ∧ a < S 1 3 * S 1 4) ∧ (0 ≤ b ∧ b < S 1 3 * S 1 4) ∧ a ≠ b) ∧ S 5 13 < 250 ∧ S 20 (a * 9) < 6
def svb (S : qMem) (a b : Int) : Bool := decide (0 ≤ a ∧ a < S 1 3 * S 1 4) && decide (0 ≤ b ∧ b < S 1 3 * S 1 4) && decide (a ≠ b) && decide (S 5 13 < 250) && decide (S 20 (a * 9) < 6)
def ssd (S : qMem) (a b : Int) : qMem := spu (sap S a b (S 0 10)) (a * 9) (S 5 13)
def ssa (S : qMem) (a b : Int) : Int × qMem := if svb S a b = true then (S 5 13, ssd S a b) else (-1, S)
def sso (S : qMem) (a b : Int) : Int × qMem := if (ssa S a b).1 = -1 then (0, qud S 0 12 (w32 (S 0 12 + 1))) else (1, ssd S a b)
section SE
variable {o : Nat} {w w0 S S' : qMem} {a b c p q n : Int} {f : Nat} {loc loc' : Int → Int}
theorem svb_t (z : svb S a b = true) : ((0 ≤ a ∧ a < S 1 3 * S 1 4) ∧ (0 ≤ b ∧ b < S 1 3 * S 1 4) ∧ a ≠ b) ∧ S 5 13 < 250 ∧ S 20 (a * 9) < 6 := by
  unfold svb at z
  simp only [Bool.and_eq_true, decide_eq_true_eq] at z
  exact ⟨⟨z.1.1.1.1, z.1.1.1.2, z.1.1.2⟩, z.1.2, z.2⟩
theorem svb_i (z : ((0 ≤ a ∧ a < S 1 3 * S 1 4) ∧ (0 ≤ b ∧ b < S 1 3 * S 1 4) ∧ a ≠ b) ∧ S 5 13 < 250 ∧ S 20 (a * 9) < 6) : svb S a b = true := by
  unfold svb
  simp only [Bool.and_eq_true, decide_eq_true_eq]
  exact ⟨⟨⟨⟨z.1.1, z.1.2.1⟩, z.1.2.2⟩, z.2.1⟩, z.2.2⟩
theorem ssd_f (h5 : f ≠ 5) (h : f < 5 ∨ 18 < f) (h20 : f ≠ 20) (h21 : f ≠ 21) : ssd S a b f = S f := by
  unfold ssd
  rw [spu_f h20 h21, sap_lo h]
theorem ssd_p (h6 : 6 ≤ f) (h18 : f ≤ 18) : ssd S a b f = sap S a b (S 0 10) f := by
  unfold ssd
  rw [spu_f (by omega) (by omega)]
theorem ssd_c : ssd S a b 5 13 = S 5 13 + 1 := by
  unfold ssd
  rw [spu_f (by decide) (by decide), sap_c]
theorem ssd_d : ssd S a b 5 14 = S 5 14 := by
  unfold ssd
  rw [spu_f (by decide) (by decide), sap_d]
theorem IV.sd (I : IV S) (z : svb S a b = true) : IV (ssd S a b) := by
  obtain ⟨⟨ha, hb, hab⟩, hc, hq⟩ := svb_t z
  have hN := gN I.1.1
  have hcc := I.1.2.2.2.2.2.2.1
  have hck := I.1.2.2.2.2.2.1
  have q0 : 0 ≤ a * 9 := by omega
  have q1 : a * 9 < 144 := by omega
  have hf := gf_in I.1.1 ha.1 ha.2 hb.1 hb.2
  have r : ∀ g : Nat, g ≠ 5 → (g < 5 ∨ 18 < g) → g ≠ 20 → g ≠ 21 → ssd S a b g = S g := fun g a b c d => ssd_f a b c d
  have r0 := r 0 (by decide) (by decide) (by decide) (by decide)
  have r1 := r 1 (by decide) (by decide) (by decide) (by decide)
  have hs20 : sap S a b (S 0 10) 20 = S 20 := sap_lo (by decide)
  have hs21 : sap S a b (S 0 10) 21 = S 21 := sap_lo (by decide)
  have s20 : ∀ q', ssd S a b 20 q' = if q' = a * 9 then S 20 (a * 9) + 1 else S 20 q' := fun q' => by
    unfold ssd
    rw [spu_20 (by rw [hs20]; exact hq), hs20]
  refine ⟨⟨by rw [r1]; exact I.1.1, ?_⟩, ⟨fun p p0 p1 => ?_, fun q' x y => ?_, ?_⟩, I.2.2.1.co r1 (r _ (by decide) (by decide) (by decide) (by decide)) (r _ (by decide) (by decide) (by decide) (by decide)) (r _ (by decide) (by decide) (by decide) (by decide)), I.2.2.2.co (r _ (by decide) (by decide) (by decide) (by decide)) (r _ (by decide) (by decide) (by decide) (by decide)) (r _ (by decide) (by decide) (by decide) (by decide))⟩
  · have := I.1.2
    unfold ICf at this ⊢
    rw [r0, ssd_c, r 22 (by decide) (by decide) (by decide) (by decide)]
    exact ⟨this.1, this.2.1, this.2.2.1, this.2.2.2.1, this.2.2.2.2.1, by omega, this.2.2.2.2.2.2⟩
  · rw [ssd_c] at p1
    have e : ∀ g : Nat, 6 ≤ g → g ≤ 18 → ssd S a b g p = sap S a b (S 0 10) g p := fun g x y => by rw [ssd_p x y]
    unfold PK
    rw [r0, r1, e 6 (by decide) (by decide), e 7 (by decide) (by decide), e 8 (by decide) (by decide), e 9 (by decide) (by decide), e 10 (by decide) (by decide), e 11 (by decide) (by decide), e 12 (by decide) (by decide), e 13 (by decide) (by decide), e 17 (by decide) (by decide), sap_6, sap_7, sap_8, sap_9, sap_10, sap_11, sap_12, sap_13, sap_17]
    by_cases ep : p = S 5 13
    · repeat rw [if_pos ep]
      exact ⟨⟨ha, hb, ha.1, ha.2⟩, ⟨⟨hck.1, Int.le_refl _⟩, by omega, by omega, fun _ => rfl, fun y => by omega⟩, ⟨by omega, by omega⟩, ⟨fun y => by omega, fun y => absurd rfl y⟩, ⟨by omega, by omega, fun y => absurd rfl y⟩, by omega, by omega⟩
    · repeat rw [if_neg ep]
      have := I.2.1.1 p p0 (by omega)
      unfold PK at this
      exact this
  · have hqs := I.2.1.2.1 q' x y
    have hqa := I.2.1.2.1 (a * 9) q0 q1
    unfold cap at hqs hqa ⊢
    rw [r0, r1, s20]
    by_cases e : q' = a * 9
    · rw [if_pos e]
      rw [e] at hqs ⊢
      rw [if_pos (by omega)] at hqs ⊢
      omega
    · rw [if_neg e]
      exact hqs
  · -- places of packets
    have h1 : QI (sap S a b (S 0 10)) (fun p => if p = S 5 13 then -1 else lof S p) := by
      have hQ := I.2.1.2.2
      unfold QI at hQ ⊢
      rw [hs20, hs21, sap_c]
      refine ⟨fun q' i x y i0 i1 => ?_, fun p p0 p1 hp => ?_⟩
      · have := hQ.1 q' i x y i0 i1
        refine ⟨⟨this.1.1, by omega⟩, ?_, this.2.2⟩
        dsimp only
        rw [if_neg (by omega)]
        exact this.2.1
      · by_cases ep : p = S 5 13
        · exfalso
          apply hp
          dsimp only
          rw [if_pos ep]
        · simp only [if_neg ep] at hp ⊢
          exact hQ.2 p p0 (by omega) hp
    have hqs2 : QS (sap S a b (S 0 10)) := I.2.1.2.1.co (sap_lo (by decide)) (fun j _ => by rw [sap_lo (by decide)]) hs20
    have hic : ICf (sap S a b (S 0 10)) := by
      have := I.1.2
      unfold ICf at this ⊢
      rw [sap_lo (f := 0) (by decide), sap_c, sap_lo (f := 22) (by decide)]
      exact ⟨this.1, this.2.1, this.2.2.1, this.2.2.2.1, this.2.2.2.2.1, by omega, this.2.2.2.2.2.2⟩
    have h2 := h1.push (q := a * 9) (p := S 5 13) hqs2 hic q0 q1 (by rw [hs20]; exact hq) hcc.1 (by rw [sap_c]; omega) (by rw [if_pos rfl])
    refine QI.co h2 (by rw [ssd_c, spu_f (by decide) (by decide), sap_c]) rfl rfl (fun p p0 p1 => ?_)
    have e : ∀ g : Nat, 6 ≤ g → g ≤ 18 → ssd S a b g p = sap S a b (S 0 10) g p := fun g x y => by rw [ssd_p x y]
    unfold lof
    rw [e 9 (by decide) (by decide), e 10 (by decide) (by decide), e 11 (by decide) (by decide), sap_9, sap_10, sap_11]
    show _ = (if p = S 5 13 then a * 9 else if p = S 5 13 then -1 else lof S p)
    by_cases ep : p = S 5 13
    · repeat rw [if_pos ep]
      rw [if_neg (show ¬ (0 : Int) = 3 by decide), if_pos (show (0 : Int) = 0 from rfl)]
      omega
    · repeat rw [if_neg ep]
      rfl
theorem IX.sd (X : IX S) (I : IV S) : IX (ssd S a b) := by
  have r0 : ssd S a b 0 = S 0 := ssd_f (by decide) (by decide) (by decide) (by decide)
  have hcc := I.1.2.2.2.2.2.2.1
  refine ⟨?_, by rw [r0]; exact X.2.1, by rw [r0]; exact X.2.2.1, by rw [ssd_d]; exact X.2.2.2⟩
  unfold IB
  rw [ssd_c, ssd_p (by decide) (by decide)]
  intro p p' p0 pp p1
  rw [sap_8, sap_8]
  by_cases e' : p' = S 5 13
  · rw [if_pos e']
    by_cases e : p = S 5 13
    · rw [if_pos e]; omega
    · rw [if_neg e]
      exact (I.2.1.1 p p0 (by omega)).2.1.1.2
  · rw [if_neg e', if_neg (show ¬ p = S 5 13 by omega)]
    exact X.1 p p' p0 pp (by omega)
theorem IV.so (I : IV S) : IV (sso S a b).2 := by
  unfold sso ssa
  by_cases z : svb S a b = true
  · rw [if_pos z]
    have := I.1.2.2.2.2.2.2.1
    rw [if_neg (show ¬ (S 5 13, ssd S a b).1 = -1 from fun y => by dsimp only at y; omega)]
    exact I.sd z
  · rw [if_neg z, if_pos rfl]
    have r : ∀ g : Nat, g ≠ 0 → qud S 0 12 (w32 (S 0 12 + 1)) g = S g := fun g h => qud_row h
    show IV (qud S 0 12 (w32 (S 0 12 + 1)))
    exact I.co (fun j hj => qud_ni (by omega)) (by rw [r 5 (by omega)]) (by rw [r 22 (by omega)]) (r _ (by omega)) (r _ (by omega)) (r _ (by omega)) (r _ (by omega)) (r _ (by omega)) (r _ (by omega)) (r _ (by omega)) (r _ (by omega)) (r _ (by omega)) (r _ (by omega)) (r _ (by omega)) (r _ (by omega)) (I.2.2.1.co (r _ (by omega)) (r _ (by omega)) (r _ (by omega)) (r _ (by omega))) (I.2.2.2.co (r _ (by omega)) (r _ (by omega)) (r _ (by omega)))
theorem IX.so (X : IX S) (I : IV S) : IX (sso S a b).2 := by
  unfold sso ssa
  by_cases z : svb S a b = true
  · rw [if_pos z]
    have := I.1.2.2.2.2.2.2.1
    rw [if_neg (show ¬ (S 5 13, ssd S a b).1 = -1 from fun y => by dsimp only at y; omega)]
    exact X.sd I
  · rw [if_neg z, if_pos rfl]
    show IX (qud S 0 12 (w32 (S 0 12 + 1)))
    exact X.co (qud_row (by decide)) (qud_nk (by decide)) (by rw [qud_ni (by decide)]; exact X.2.1) (by rw [qud_s, w32_2]) (by rw [qud_nk (by decide)]; exact X.2.2.2)
theorem sso_0 {j : Int} (hj : j ≠ 12) : (sso S a b).2 0 j = S 0 j := by
  unfold sso ssa
  by_cases z : (if svb S a b = true then (S 5 13, ssd S a b) else (-1, S)).1 = -1
  · rw [if_pos z]
    exact qud_ni hj
  · rw [if_neg z]
    show ssd S a b 0 j = S 0 j
    rw [ssd_f (by decide) (by decide) (by decide) (by decide)]
theorem sso_1 : (sso S a b).2 1 = S 1 := by
  unfold sso ssa
  by_cases z : (if svb S a b = true then (S 5 13, ssd S a b) else (-1, S)).1 = -1
  · rw [if_pos z]
    show qud S 0 12 (w32 (S 0 12 + 1)) 1 = S 1
    exact qud_row (by decide)
  · rw [if_neg z]
    exact ssd_f (by decide) (by decide) (by decide) (by decide)
/-- a net's -/
theorem bi_if {α : Type} {c : Prop} [Decidable c] {x y : α} : (if bi (decide c) = 0 then x else y) = if c then y else x := by
  by_cases e : c
  · rw [decide_eq_true e, if_bt, if_pos e]
  · rw [decide_eq_false e, if_bf, if_neg e]
theorem n_admit (hx : NX o w S) (I : IV S) : kT (f_N_admit o a b w) (fun r => r.1 = (ssa S a b).1 ∧ NX o r.2 (ssa S a b).2 ∧ FN o w r.2) := by
  have hN := gN I.1.1
  have hcc := I.1.2.2.2.2.2.2.1
  have hno : ¬ svb S a b = true → kT (some ((-1 : Int), w)) (fun r => r.1 = (ssa S a b).1 ∧ NX o r.2 (ssa S a b).2 ∧ FN o w r.2) := by
    intro z
    unfold ssa
    rw [if_neg z]
    exact kT_some ⟨rfl, hx, FN.rfl'⟩
  unfold f_N_admit
  refine kT_eq (g_hasNode hx.2) ?_
  dsimp only
  rw [bi_if]
  by_cases ea : 0 ≤ a ∧ a < S 1 3 * S 1 4
  · rw [if_pos ea]
    refine kT_eq (g_hasNode hx.2) ?_
    dsimp only
    rw [bi_if]
    by_cases eb : 0 ≤ b ∧ b < S 1 3 * S 1 4
    · rw [if_pos eb]
      by_cases eab : a = b
      · rw [if_pos eab]
        exact hno (fun z => (svb_t z).1.2.2 eab)
      · rw [if_neg eab]
        have e13 : w (o + 5) 13 = S 5 13 := rx_5_13 hx.1
        refine kT_if (fun ec => ?_) (fun ec => ?_)
        · rw [e13] at ec
          rw [w32_ok (z := a * 9) (by omega) (by omega), qld_ok (by omega) (by omega), rx_20 hx.1 (by omega) (by omega)]
          by_cases eq : S 20 (a * 9) < 6
          · have z : svb S a b = true := svb_i ⟨⟨ea, eb, eab⟩, ec, eq⟩
            rw [if_pos eq, rz_10 hx.1]
            refine kT_bind (n_add hx hcc.1 ec) (fun r hr => ?_)
            refine kT_bind (n_put (q := a * 9) (p := r.1) hr.2.1 (by omega) (by omega) (by rw [sap_lo (by decide)]; exact (I.w.2.2.2 _ (by omega) (by omega)).1.1)) (fun w2 h2 => ?_)
            unfold ssa
            rw [if_pos z]
            have := h2.1
            rw [hr.1] at this
            exact kT_some ⟨hr.1, this, hr.2.2.tr h2.2⟩
          · rw [if_neg eq]
            exact hno (fun z => eq (svb_t z).2.2)
        · rw [e13] at ec
          exact hno (fun z => ec (svb_t z).2.1)
    · rw [if_neg eb]
      exact hno (fun z => eb (svb_t z).1.2.1)
  · rw [if_neg ea]
    exact hno (fun z => ea (svb_t z).1.1)
theorem n_admitOrLose (hx : NX o w S) (I : IV S) : kT (f_N_admitOrLose o a b w) (fun r => r.1 = (sso S a b).1 ∧ NX o r.2 (sso S a b).2 ∧ FN o w r.2) := by
  have hcc := I.1.2.2.2.2.2.2.1
  unfold f_N_admitOrLose
  refine kT_bind (n_admit (a := a) (b := b) hx I) (fun r hr => ?_)
  unfold sso
  by_cases z : svb S a b = true
  · have e1 : (ssa S a b).1 = S 5 13 := by unfold ssa; rw [if_pos z]
    have e2 : (ssa S a b).2 = ssd S a b := by unfold ssa; rw [if_pos z]
    rw [hr.1, e1, if_neg (show ¬ S 5 13 = -1 by omega), if_neg (show ¬ S 5 13 = -1 by omega)]
    rw [e2] at hr
    exact kT_some ⟨rfl, hr.2.1, hr.2.2⟩
  · have e1 : (ssa S a b).1 = -1 := by unfold ssa; rw [if_neg z]
    have e2 : (ssa S a b).2 = S := by unfold ssa; rw [if_neg z]
    rw [hr.1, e1, if_pos rfl, if_pos rfl, qlt_ok]
    rw [e2] at hr
    rw [rz_12 hr.2.1.1]
    exact kT_some ⟨rfl, hr.2.1.u (f := 0) (by decide) (by decide) (by decide) (by decide) (by decide) (by decide), hr.2.2.q (f := 0) (by decide) (by decide)⟩
/-- the reference's -/
theorem m_clear17 {x1 x2 x3 : Int} (p0 : 0 ≤ p) (p1 : p < 250) : ∃ w', (∀ k j, w' k j = if k = 89 ∧ 16 + 17 * p ≤ j ∧ j < 16 + 17 * p + 17 then 0 else w k j) ∧ f_M_sends_41 qFU x1 x2 x3 (16 + 17 * p) 0 w = f_M_sends_65 x1 x2 x3 (16 + 17 * p) w' := by
  have := k_loop (σ := qMem) (ρ := Int × qMem) 17 (fun m i s => f_M_sends_41 m x1 x2 x3 (16 + 17 * p) i s) (fun s => f_M_sends_65 x1 x2 x3 (16 + 17 * p) s)
    (fun i s => (0 ≤ i ∧ i ≤ 17) ∧ ∀ k j, s k j = if k = 89 ∧ 16 + 17 * p ≤ j ∧ j < 16 + 17 * p + i then 0 else w k j)
    (by
      intro m i s ⟨⟨i0, i1⟩, hs⟩ hi
      refine ⟨qud s 89 (16 + 17 * p + i) 0, ⟨⟨by omega, by omega⟩, ?_⟩, ?_⟩
      · intro k j
        by_cases e : k = 89 ∧ j = 16 + 17 * p + i
        · rw [e.1, e.2, qud_s, if_pos ⟨rfl, by omega, by omega⟩]
        · rw [show qud s 89 (16 + 17 * p + i) 0 k j = s k j from if_neg e, hs]
          by_cases e2 : k = 89 ∧ 16 + 17 * p ≤ j ∧ j < 16 + 17 * p + i
          · rw [if_pos e2, if_pos (by omega)]
          · rw [if_neg e2, if_neg (by omega)]
      · rw [f_M_sends_41, if_pos hi, w32_ok (z := 16 + 17 * p + i) (by omega) (by omega), qst_ok (by omega) (by omega), w32_ok (by omega) (by omega)])
    (by
      intro m s _
      rw [f_M_sends_41, if_neg (by decide)])
    qFU 0 w ⟨by omega, fun k j => by rw [if_neg (by omega)]⟩ (by omega) (qFU_gt (by omega))
  obtain ⟨w', ⟨-, hs⟩, e⟩ := this
  exact ⟨w', hs, e⟩
end SE
