/-! calls: torus, send, state, bound -/
def tok (x1 x2 x3 x4 x5 x6 : Int) : Prop := (gIn x1 x2 ∧ sokb x3 x4 x5 x6) ∧ (x5 = 1 → 2 ≤ x3)
def F2 (w w' : qMem) : Prop := ∀ k, (k < 2 ∨ 37 ≤ k) → w' k = w k
section CA
variable {w w' S T : qMem} {x1 x2 x3 x4 x5 x6 a b v : Int}
theorem F2.of (h : FN 2 w w') : F2 w w' := fun k hk => h k (by omega)
theorem F2.tr (h : F2 w w') (h2 : F2 w' T) : F2 w T := fun k hk => (h2 k hk).trans (h k hk)
theorem F2.rfl' : F2 w w := fun _ _ => rfl
theorem x_isBound : f_X_isBound v w = some (bi (decide (0 ≤ v ∧ v ≤ 99)), w) := by
  unfold f_X_isBound
  rw [qbd x_within]
theorem x_torus_1 (h : tok x1 x2 x3 x4 x5 x6) : kT (f_X_torus x1 x2 x3 x4 x5 x6 w) (fun r => r.1 = 1 ∧ NX 2 r.2 (sbg x1 x2 x3 x4 x5 x6) ∧ F2 w r.2) := by
  obtain ⟨⟨gg, k⟩, h2⟩ := h
  have e70 : kT (f_X_torus_70 x1 x2 x3 x4 x5 x6 w) (fun r => r.1 = 1 ∧ NX 2 r.2 (sbg x1 x2 x3 x4 x5 x6) ∧ F2 w r.2) := by
    unfold f_X_torus_70
    refine kT_bind (g_lay (o := 3) gg) (fun w1 h1 => ?_)
    refine kT_bind (n_begin (o := 2) h1.1 gg k) (fun w2 h3 => ?_)
    refine kT_some ⟨rfl, h3.1, fun j hj => ?_⟩
    exact ((F2.of h3.2) j hj).trans (h1.2 j (by omega))
  unfold f_X_torus
  refine kT_eq x_within ?_
  dsimp only
  rw [bi_if, if_pos gg.1]
  refine kT_eq x_within ?_
  dsimp only
  rw [bi_if, if_pos gg.2]
  refine kT_eq x_within ?_
  dsimp only
  rw [bi_if, if_pos k.1]
  refine kT_eq x_within ?_
  dsimp only
  rw [bi_if, if_pos k.2.1]
  refine kT_eq x_within ?_
  dsimp only
  rw [bi_if, if_pos k.2.2.1]
  refine kT_eq x_isBound ?_
  dsimp only
  rw [bi_if, if_pos k.2.2.2]
  by_cases e : x5 = 1
  · have := h2 e
    rw [if_pos e, if_neg (by omega)]
    exact e70
  · rw [if_neg e]
    exact e70
theorem x_torus_0 (h : ¬ tok x1 x2 x3 x4 x5 x6) : f_X_torus x1 x2 x3 x4 x5 x6 w = some (0, w) := by
  unfold f_X_torus
  rw [qbd x_within]
  dsimp only
  rw [bi_if]
  by_cases c1 : 2 ≤ x1 ∧ x1 ≤ 4
  · rw [if_pos c1, qbd x_within]
    dsimp only
    rw [bi_if]
    by_cases c2 : 2 ≤ x2 ∧ x2 ≤ 4
    · rw [if_pos c2, qbd x_within]
      dsimp only
      rw [bi_if]
      by_cases c3 : 1 ≤ x3 ∧ x3 ≤ 4
      · rw [if_pos c3, qbd x_within]
        dsimp only
        rw [bi_if]
        by_cases c4 : 0 ≤ x4 ∧ x4 ≤ 3
        · rw [if_pos c4, qbd x_within]
          dsimp only
          rw [bi_if]
          by_cases c5 : 0 ≤ x5 ∧ x5 ≤ 2
          · rw [if_pos c5, qbd x_isBound]
            dsimp only
            rw [bi_if]
            by_cases c6 : 0 ≤ x6 ∧ x6 ≤ 99
            · rw [if_pos c6]
              by_cases e : x5 = 1
              · rw [if_pos e]
                by_cases e2 : x3 < 2
                · rw [if_pos e2]
                · exact absurd ⟨⟨⟨c1, c2⟩, c3, c4, c5, c6⟩, fun _ => by omega⟩ h
              · exact absurd ⟨⟨⟨c1, c2⟩, c3, c4, c5, c6⟩, fun z => absurd z e⟩ h
            · rw [if_neg c6]
          · rw [if_neg c5]
        · rw [if_neg c4]
      · rw [if_neg c3]
    · rw [if_neg c2]
  · rw [if_neg c1]
theorem m_torus_1 (h : tok x1 x2 x3 x4 x5 x6) : kT (f_M_torus x1 x2 x3 x4 x5 x6 w) (fun r => r.1 = 1 ∧ RM r.2 (sbg x1 x2 x3 x4 x5 x6) ∧ FM w r.2) := by
  obtain ⟨⟨gg, k⟩, h2⟩ := h
  have e71 : kT (f_M_torus_71 x1 x2 x3 x4 x5 x6 w) (fun r => r.1 = 1 ∧ RM r.2 (sbg x1 x2 x3 x4 x5 x6) ∧ FM w r.2) := by
    unfold f_M_torus_71
    refine kT_bind (m_begins gg k) (fun w1 h1 => ?_)
    exact kT_some ⟨rfl, h1⟩
  unfold f_M_torus
  refine kT_eq m_isIn ?_
  dsimp only
  rw [bi_if, if_pos gg.1]
  refine kT_eq m_isIn ?_
  dsimp only
  rw [bi_if, if_pos gg.2]
  refine kT_eq m_isIn ?_
  dsimp only
  rw [bi_if, if_pos k.1]
  refine kT_eq m_isIn ?_
  dsimp only
  rw [bi_if, if_pos k.2.1]
  refine kT_eq m_isIn ?_
  dsimp only
  rw [bi_if, if_pos k.2.2.1]
  refine kT_eq m_isIn ?_
  dsimp only
  rw [bi_if, if_pos k.2.2.2]
  by_cases e : x5 = 1
  · have := h2 e
    rw [if_pos e, if_neg (by omega)]
    exact e71
  · rw [if_neg e]
    exact e71
theorem m_torus_0 (h : ¬ tok x1 x2 x3 x4 x5 x6) : f_M_torus x1 x2 x3 x4 x5 x6 w = some (0, w) := by
  unfold f_M_torus
  rw [qbd m_isIn]
  dsimp only
  rw [bi_if]
  by_cases c1 : 2 ≤ x1 ∧ x1 ≤ 4
  · rw [if_pos c1, qbd m_isIn]
    dsimp only
    rw [bi_if]
    by_cases c2 : 2 ≤ x2 ∧ x2 ≤ 4
    · rw [if_pos c2, qbd m_isIn]
      dsimp only
      rw [bi_if]
      by_cases c3 : 1 ≤ x3 ∧ x3 ≤ 4
      · rw [if_pos c3, qbd m_isIn]
        dsimp only
        rw [bi_if]
        by_cases c4 : 0 ≤ x4 ∧ x4 ≤ 3
        · rw [if_pos c4, qbd m_isIn]
          dsimp only
          rw [bi_if]
          by_cases c5 : 0 ≤ x5 ∧ x5 ≤ 2
          · rw [if_pos c5, qbd m_isIn]
            dsimp only
            rw [bi_if]
            by_cases c6 : 0 ≤ x6 ∧ x6 ≤ 99
            · rw [if_pos c6]
              by_cases e : x5 = 1
              · rw [if_pos e]
                by_cases e2 : x3 = 1
                · rw [if_pos e2]
                · exact absurd ⟨⟨⟨c1, c2⟩, c3, c4, c5, c6⟩, fun _ => by omega⟩ h
              · exact absurd ⟨⟨⟨c1, c2⟩, c3, c4, c5, c6⟩, fun z => absurd z e⟩ h
            · rw [if_neg c6]
          · rw [if_neg c5]
        · rw [if_neg c4]
      · rw [if_neg c3]
    · rw [if_neg c2]
  · rw [if_neg c1]
theorem x_send (hx : NX 2 w S) (I : IV S) : kT (f_X_send a b w) (fun r => r.1 = (ssa S a b).1 ∧ NX 2 r.2 (ssa S a b).2 ∧ F2 w r.2) := by
  unfold f_X_send
  refine kT_bind (n_admit hx I) (fun r hr => ?_)
  exact kT_some ⟨hr.1, hr.2.1, F2.of hr.2.2⟩
theorem m_send (hR : RM w S) (I : IV S) : kT (f_M_send a b w) (fun r => r.1 = (ssa S a b).1 ∧ RM r.2 (ssa S a b).2 ∧ FM w r.2) := by
  have hno : ¬ svb S a b = true → kT (some ((-1 : Int), w)) (fun r => r.1 = (ssa S a b).1 ∧ RM r.2 (ssa S a b).2 ∧ FM w r.2) := by
    intro z
    unfold ssa
    rw [if_neg z]
    exact kT_some ⟨rfl, hR, FM.rfl'⟩
  unfold f_M_send
  refine kT_eq (mg_isNode hR.wh I.1.1) ?_
  dsimp only
  rw [bi_if]
  by_cases ea : 0 ≤ a ∧ a < S 1 3 * S 1 4
  · rw [if_pos ea]
    refine kT_eq (mg_isNode hR.wh I.1.1) ?_
    dsimp only
    rw [bi_if]
    by_cases eb : 0 ≤ b ∧ b < S 1 3 * S 1 4
    · rw [if_pos eb]
      by_cases eab : a = b
      · rw [if_pos eab]
        exact hno (fun z => (svb_t z).1.2.2 eab)
      · rw [if_neg eab]
        refine kT_bind (m_sends hR I ea eb eab) (fun r hr => ?_)
        exact kT_some hr
    · rw [if_neg eb]
      exact hno (fun z => eb (svb_t z).1.2.1)
  · rw [if_neg ea]
    exact hno (fun z => ea (svb_t z).1.1)
theorem IV.sa (I : IV S) : IV (ssa S a b).2 := by
  unfold ssa
  by_cases z : svb S a b = true
  · rw [if_pos z]; exact I.sd z
  · rw [if_neg z]; exact I
theorem IX.sa (X : IX S) (I : IV S) : IX (ssa S a b).2 := by
  unfold ssa
  by_cases z : svb S a b = true
  · rw [if_pos z]; exact X.sd I
  · rw [if_neg z]; exact X
theorem ssa_0 : (ssa S a b).2 0 = S 0 ∧ (ssa S a b).2 1 = S 1 := by
  unfold ssa
  by_cases z : svb S a b = true
  · rw [if_pos z]; exact ⟨ssd_f (by decide) (by decide) (by decide) (by decide), ssd_f (by decide) (by decide) (by decide) (by decide)⟩
  · rw [if_neg z]; exact ⟨rfl, rfl⟩
/-- BOUND -/
def sbd (S : qMem) (v : Int) : qMem := if 0 ≤ v ∧ v ≤ 99 then qud S 0 9 v else S
theorem x_bound (hx : NX 2 w S) : kT (f_X_bound v w) (fun r => r.1 = bi (decide (0 ≤ v ∧ v ≤ 99)) ∧ NX 2 r.2 (sbd S v) ∧ F2 w r.2) := by
  unfold f_X_bound sbd
  refine kT_eq x_isBound ?_
  dsimp only
  rw [bi_if]
  by_cases e : 0 ≤ v ∧ v ≤ 99
  · rw [if_pos e, if_pos e, decide_eq_true e, qlt_ok]
    exact kT_some ⟨rfl, hx.u (o := 2) (f := 0) (by decide) (by decide) (by decide) (by decide) (by decide) (by decide), F2.of (FN.q (o := 2) FN.rfl' (f := 0) (by decide) (by decide))⟩
  · rw [if_neg e, if_neg e, decide_eq_false e]
    exact kT_some ⟨rfl, hx, F2.rfl'⟩
theorem m_bound (hR : RM w S) : kT (f_M_bound v w) (fun r => r.1 = bi (decide (0 ≤ v ∧ v ≤ 99)) ∧ RM r.2 (sbd S v) ∧ FM w r.2) := by
  unfold f_M_bound sbd
  refine kT_eq m_isIn ?_
  dsimp only
  rw [bi_if]
  by_cases e : 0 ≤ v ∧ v ≤ 99
  · rw [if_pos e, if_pos e, decide_eq_true e, qst_ok (by decide) (by decide)]
    exact kT_some ⟨rfl, hR.wr (f := 0) (n := 9) (a := 5) vv_0_9 rfl (by decide) (by decide) (by decide) (by decide) (by decide), FM.rfl'.q⟩
  · rw [if_neg e, if_neg e, decide_eq_false e]
    exact kT_some ⟨rfl, hR, FM.rfl'⟩
theorem IV.bd (I : IV S) : IV (sbd S v) := by
  unfold sbd
  by_cases e : 0 ≤ v ∧ v ≤ 99
  · rw [if_pos e]
    have r : ∀ g : Nat, g ≠ 0 → qud S 0 9 v g = S g := fun g a => qud_row a
    have r0 : ∀ j, j ≠ 9 → qud S 0 9 v 0 j = S 0 j := fun j a => qud_ni a
    refine ⟨⟨by rw [r 1 (by decide)]; exact I.1.1, ?_⟩, ⟨fun p x y => ?_, fun q x y => ?_, QI.co I.2.1.2.2 (by rw [r 5 (by decide)]) (r _ (by decide)) (r _ (by decide)) (fun p _ _ => lof_co (by rw [r 9 (by decide)]) (by rw [r 10 (by decide)]) (by rw [r 11 (by decide)]))⟩, I.2.2.1.co (r _ (by decide)) (r _ (by decide)) (r _ (by decide)) (r _ (by decide)), I.2.2.2.co (r _ (by decide)) (r _ (by decide)) (r _ (by decide))⟩
    · have := I.1.2
      unfold ICf at this ⊢
      rw [r0 6 (by decide), r0 7 (by decide), r0 8 (by decide), qud_s, r0 10 (by decide), r 5 (by decide), r 22 (by decide)]
      exact ⟨this.1, this.2.1, this.2.2.1, e, this.2.2.2.2⟩
    · rw [r 5 (by decide)] at y
      exact (I.2.1.1 p x y).co (r _ (by decide)) (r0 10 (by decide)) (by rw [r 6 (by decide)]) (by rw [r 7 (by decide)]) (by rw [r 8 (by decide)]) (by rw [r 9 (by decide)]) (by rw [r 10 (by decide)]) (by rw [r 11 (by decide)]) (by rw [r 12 (by decide)]) (by rw [r 13 (by decide)]) (by rw [r 17 (by decide)])
    · have := I.2.1.2.1 q x y
      unfold cap at this ⊢
      rw [r0 6 (by decide), r0 7 (by decide), r 1 (by decide), r 20 (by decide)]
      exact this
  · rw [if_neg e]; exact I
theorem IX.bd (X : IX S) : IX (sbd S v) := by
  unfold sbd
  split
  · exact X.qq ⟨by decide, by decide, fun _ => by decide⟩
  · exact X
theorem sbd_c : sbd S v 0 10 = S 0 10 := by
  unfold sbd
  split
  · exact qud_ni (by decide)
  · rfl
end CA
