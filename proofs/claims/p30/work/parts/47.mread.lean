/-! what the reference reads -/
def IB (S : qMem) : Prop := ∀ p p', 0 ≤ p → p ≤ p' → p' < S 5 13 → S 8 p ≤ S 8 p'
def cp (S : qMem) (k : Int) : Int := if k = 0 then 6 else if k < 5 then S 0 6 else S 0 7
theorem RM.wh {w S : qMem} (h : RM w S) : w 89 0 = S 1 3 ∧ w 89 1 = S 1 4 := ⟨rm_1_3 h, rm_1_4 h⟩
theorem cp_0 {S : qMem} : cp S 0 = 6 := rfl
theorem cp_in {S : qMem} {k : Int} (h : ICf S) : 0 ≤ cp S k ∧ cp S k ≤ 6 := by
  have h1 := h.1
  have h2 := h.2.1
  unfold cp
  split
  · omega
  · split <;> omega
theorem cp_e {S : qMem} {d : Int} (d0 : 0 ≤ d) (d1 : d < 4) : cp S (1 + d) = S 0 6 := by
  unfold cp
  rw [if_neg (by omega), if_pos (by omega)]
theorem cp_a {S : qMem} {d : Int} (d0 : 0 ≤ d) : cp S (5 + d) = S 0 7 := by
  unfold cp
  rw [if_neg (by omega), if_neg (by omega)]
section MR
variable {w S : qMem} {v k d p q : Int}
theorem m_packetAt (p0 : 0 ≤ p) (p1 : p < 250) : f_M_packetAt p w = some (16 + 17 * p, w) := by
  unfold f_M_packetAt
  rw [w32_ok (z := 17 * p) (by omega) (by omega), w32_ok (by omega) (by omega)]
theorem m_of {f : Nat} (h : RM w S) (p0 : 0 ≤ p) (p1 : p < S 5 13) (hc : S 5 13 ≤ 250) (f6 : 6 ≤ f) (f17 : f ≤ 17) (hk : k = (f : Int) - 6) : f_M_of p k w = some (S f p, w) := by
  unfold f_M_of
  rw [m_packetAt p0 (by omega)]
  simp only [Option.bind_some]
  rw [w32_ok (by omega) (by omega), qld_ok (by omega) (by omega)]
  have e := h f p ⟨by unfold vv; omega, fun _ _ => p1, fun _ => by omega, fun _ => by omega, fun _ => by omega, fun _ _ => by omega⟩
  rw [ad_pk f6 f17] at e
  rw [show 16 + 17 * p + k = 10 + 17 * p + (f : Int) by omega, e]
theorem m_queueAt (v0 : 0 ≤ v) (v1 : v < 16) (k0 : 0 ≤ k) (k1 : k < 9) : f_M_queueAt v k w = some (4266 + 7 * (v * 9 + k), w) := by
  unfold f_M_queueAt
  rw [w32_ok (z := 63 * v) (by omega) (by omega), w32_ok (z := 4266 + 63 * v) (by omega) (by omega), w32_ok (z := 7 * k) (by omega) (by omega), w32_ok (by omega) (by omega)]
  refine congrArg (fun z => some (z, w)) ?_
  omega
theorem m_many (h : RM w S) (v0 : 0 ≤ v) (v1 : v < 16) (k0 : 0 ≤ k) (k1 : k < 9) : f_M_many v k w = some (S 20 (v * 9 + k), w) := by
  unfold f_M_many
  rw [m_queueAt v0 v1 k0 k1]
  simp only [Option.bind_some]
  rw [qld_ok (by omega) (by omega), rm_20 h (n := v * 9 + k) (by omega) (by omega) rfl]
theorem m_firstOf (h : RM w S) (I : IQw S) (v0 : 0 ≤ v) (v1 : v < 16) (k0 : 0 ≤ k) (k1 : k < 9) : f_M_firstOf v k w = some (sfst S (v * 9 + k), w) := by
  have hq := (I (v * 9 + k) (by omega) (by omega)).1
  unfold f_M_firstOf sfst
  rw [m_many h v0 v1 k0 k1]
  simp only [Option.bind_some]
  by_cases e : S 20 (v * 9 + k) = 0
  · rw [if_pos e, if_pos (by omega)]
  · rw [if_neg e, if_neg (by omega), m_queueAt v0 v1 k0 k1]
    simp only [Option.bind_some]
    rw [w32_ok (by omega) (by omega), qld_ok (by omega) (by omega), rm_21 h (n := (v * 9 + k) * 6) (by omega) (by omega) (by rw [Int.mul_emod_left, Int.mul_ediv_cancel _ (by decide)]; omega) (by rw [Int.mul_emod_left, Int.mul_ediv_cancel _ (by decide)]; omega)]
theorem m_placesOf (h : RM w S) : f_M_placesOf k w = some (cp S k, w) := by
  unfold f_M_placesOf cp
  by_cases e : k = 0
  · rw [if_pos e, if_pos e]
  · rw [if_neg e, if_neg e]
    by_cases e2 : k < 5
    · rw [if_pos e2, if_pos e2, qld_ok (by decide) (by decide), rm_0_6 h]
    · rw [if_neg e2, if_neg e2, qld_ok (by decide) (by decide), rm_0_7 h]
theorem m_free (h : RM w S) (I : IW S) (v0 : 0 ≤ v) (v1 : v < 16) (k0 : 0 ≤ k) (k1 : k < 9) : f_M_free v k w = some (cp S k - S 20 (v * 9 + k), w) := by
  have hq := (I.2.2.2 (v * 9 + k) (by omega) (by omega)).1
  have hc := cp_in (k := k) I.2.1
  unfold f_M_free
  rw [m_placesOf h]
  simp only [Option.bind_some]
  rw [m_many h v0 v1 k0 k1]
  simp only [Option.bind_some]
  rw [w32_ok (by omega) (by omega)]
theorem m_ringAt {r : Int} (r0 : 0 ≤ r) (r1 : r < 16) : f_M_ringAt r w = some (5274 + 6 * r, w) := by
  unfold f_M_ringAt
  rw [w32_ok (z := 6 * r) (by omega) (by omega), w32_ok (by omega) (by omega)]
theorem g16r {W H : Int} (g : gIn W H) : 2 * (W + H) ≤ 16 := by
  obtain ⟨⟨a, b⟩, c, d⟩ := g
  omega
theorem m_isBarred (h : RM w S) (I : IW S) (v0 : 0 ≤ v) (v1 : v < S 1 3 * S 1 4) (d0 : 0 ≤ d) (d1 : d < 4) : f_M_isBarred v d w = some (bi (sbr S v d), w) := by
  have hr := gr_in I.1 v0 v1 d0 d1
  have h16 := g16r I.1
  unfold f_M_isBarred sbr
  rw [mg_ringFor h.wh I.1 v0 v1 d0 d1]
  simp only [Option.bind_some]
  rw [m_ringAt hr.1 (by omega)]
  simp only [Option.bind_some]
  rw [w32_ok (by omega) (by omega), qld_ok (by omega) (by omega), rm_28 h hr.1 hr.2 h16 (by omega)]
  by_cases e : jand (jshr (S 28 (gr (S 1 3) (S 1 4) v d)) v) 1 = 1
  · rw [if_pos e, decide_eq_true e]; rfl
  · rw [if_neg e, decide_eq_false e]; rfl
theorem m_doesContinue (h : RM w S) (I : IV S) (v0 : 0 ≤ v) (v1 : v < S 1 3 * S 1 4) (k0 : 0 ≤ k) (k1 : k < 9) (d0 : 0 ≤ d) (d1 : d < 4) (he : sfst S (v * 9 + k) ≠ -1) : f_M_doesContinue (sfst S (v * 9 + k)) v d w = some (bi (scn S v k d), w) := by
  obtain ⟨⟨p0, p1⟩, -, -, hat, h3, h0, h1, h2⟩ := first_at I v0 v1 k0 k1 he
  have hc := I.1.2.2.2.2.2.2.1.2
  have hp := I.2.1.1 _ p0 p1
  have hl := hp.2.1.2.1
  have hz := hp.2.1.2.2.2.2
  unfold f_M_doesContinue scn ses
  rw [if_neg he, m_of h p0 p1 hc (f := 9) (by decide) (by decide) (by decide)]
  simp only [Option.bind_some]
  by_cases e1 : S 9 (sfst S (v * 9 + k)) = 1
  · rw [if_pos e1, m_of h p0 p1 hc (f := 11) (by decide) (by decide) (by decide)]
    simp only [Option.bind_some]
    have hk := h1 e1
    by_cases e2 : S 11 (sfst S (v * 9 + k)) = d
    · rw [if_pos e2, m_of h p0 p1 hc (f := 7) (by decide) (by decide) (by decide)]
      simp only [Option.bind_some]
      rw [mg_escapeOf h.wh I.1.1 v0 v1 hp.1.2.1.1 hp.1.2.1.2, decide_eq_true (show k = 1 + d by omega)]
      simp only [Option.bind_some]
      by_cases e3 : ge (S 1 3) (S 1 4) v (S 7 (sfst S (v * 9 + k))) = d
      · rw [if_pos e3, decide_eq_true e3]; rfl
      · rw [if_neg e3, decide_eq_false e3]; rfl
    · rw [if_neg e2, decide_eq_false (show ¬ k = 1 + d by omega)]; rfl
  · rw [if_neg e1, decide_eq_false (show ¬ k = 1 + d by omega)]; rfl
theorem m_ruleLet_f {to : Int} (h : RM w S) (I : IW S) (v0 : 0 ≤ v) (v1 : v < S 1 3 * S 1 4) (d0 : 0 ≤ d) (d1 : d < 4) (hto : to = gn (S 1 3) (S 1 4) v d) : f_M_doesRuleLet to d w = some (bi (srl S v d), w) := by
  have hn := gn_in I.1 v0 v1 d0 d1
  have hr := gr_in I.1 v0 v1 d0 d1
  have hN := gN I.1
  have h16 := g16r I.1
  have hg := gr_gn I.1 v0 v1 d0 d1
  have hR := I.2.1.2.2.1
  subst hto
  have e75 : ∀ b : Int, f_M_doesRuleLet_75 (sfa S v d) b w = some (bi (decide (b + 1 ≤ sfa S v d)), w) := by
    intro b
    unfold f_M_doesRuleLet_75
    by_cases e : sfa S v d ≤ b
    · rw [if_pos e, decide_eq_false (by omega)]; rfl
    · rw [if_neg e, decide_eq_true (by omega)]; rfl
  unfold f_M_doesRuleLet srl srn
  rw [w32_ok (by omega) (by omega), m_free h I hn.1 (by omega) (by omega) (by omega)]
  simp only [Option.bind_some]
  simp (disch := decide) only [qld_ok]
  rw [cp_e d0 d1, ← Int.add_assoc, rm_0_8 h]
  rw [show S 0 6 - S 20 (gn (S 1 3) (S 1 4) v d * 9 + 1 + d) = sfa S v d from rfl]
  by_cases e0 : S 0 8 = 0
  · rw [if_pos e0, if_neg (show ¬ S 0 8 = 1 by omega), if_neg (show ¬ (S 0 8 = 2 ∧ S 25 (gr (S 1 3) (S 1 4) v d) = gn (S 1 3) (S 1 4) v d) from fun z => absurd z.1 (by omega))]
    exact e75 0
  · rw [if_neg e0]
    by_cases e1 : S 0 8 = 1
    · rw [if_pos e1, if_pos e1]
      exact e75 1
    · rw [if_neg e1, if_neg e1, mg_ringFor h.wh I.1 hn.1 hn.2 d0 d1, hg]
      simp only [Option.bind_some]
      rw [m_ringAt hr.1 (by omega)]
      simp only [Option.bind_some]
      rw [w32_ok (by omega) (by omega), qld_ok (by omega) (by omega), rm_25 h hr.1 hr.2 h16 (by omega)]
      by_cases e3 : S 25 (gr (S 1 3) (S 1 4) v d) = gn (S 1 3) (S 1 4) v d
      · rw [if_pos e3, if_pos ⟨by omega, e3⟩]
        exact e75 1
      · rw [if_neg e3, if_neg (fun q => e3 q.2)]
        exact e75 0
theorem m_canByEscape {b : Int} (h : RM w S) (I : IV S) (v0 : 0 ≤ v) (v1 : v < S 1 3 * S 1 4) (k0 : 0 ≤ k) (k1 : k < 9) (d0 : 0 ≤ d) (d1 : d < 4) (he : sfst S (v * 9 + k) ≠ -1) (hb : b = 0 ∨ b = 1) : f_M_canByEscape (sfst S (v * 9 + k)) v d b w = some (bi (sel S v k d && (scn S v k d || decide (b = 0) || !sbr S v d)), w) := by
  obtain ⟨⟨p0, p1⟩, -⟩ := first_at I v0 v1 k0 k1 he
  have hc := I.1.2.2.2.2.2.2.1.2
  have hp := I.2.1.1 _ p0 p1
  have hn := gn_in I.1.1 v0 v1 d0 d1
  have hN := gN I.1.1
  have e67 : f_M_canByEscape_67 d (gn (S 1 3) (S 1 4) v d) w = some (bi (srl S v d), w) := by
    unfold f_M_canByEscape_67
    rw [m_ruleLet_f h I.w v0 v1 d0 d1 rfl]
    simp only [Option.bind_some]
    cases srl S v d <;> rfl
  unfold f_M_canByEscape
  rw [m_of h p0 p1 hc (f := 7) (by decide) (by decide) (by decide)]
  simp only [Option.bind_some]
  rw [mg_escapeOf h.wh I.1.1 v0 v1 hp.1.2.1.1 hp.1.2.1.2]
  simp only [Option.bind_some]
  by_cases e3 : ge (S 1 3) (S 1 4) v (S 7 (sfst S (v * 9 + k))) = d
  · have hse : ses S v k d = true := by
      unfold ses
      rw [if_neg he, decide_eq_true e3]
    rw [if_pos e3, mg_nextOf h.wh I.1.1 v0 v1 d0 d1]
    simp only [Option.bind_some]
    rw [m_doesContinue h I v0 v1 k0 k1 d0 d1 he]
    simp only [Option.bind_some]
    have hsc : scn S v k d = decide (k = 1 + d) := by
      unfold scn
      rw [hse, Bool.and_true]
    unfold sel
    rw [hse, hsc]
    by_cases ek : k = 1 + d
    · rw [decide_eq_true ek, if_bt, if_pos ek, w32_ok (by omega) (by omega), m_free h I.w hn.1 (by omega) (by omega) (by omega), cp_e d0 d1]
      simp only [Option.bind_some]
      rw [← Int.add_assoc, show S 0 6 - S 20 (gn (S 1 3) (S 1 4) v d * 9 + 1 + d) = sfa S v d from rfl]
      by_cases e5 : sfa S v d ≤ 0
      · rw [if_pos e5, decide_eq_false (show ¬ 0 < sfa S v d by omega)]; rfl
      · rw [if_neg e5, decide_eq_true (show 0 < sfa S v d by omega)]; rfl
    · rw [decide_eq_false ek, if_bf, if_neg ek]
      rcases hb with rfl | rfl
      · rw [if_pos rfl, e67]
        cases srl S v d <;> rfl
      · rw [if_neg (by decide), m_isBarred h I.w v0 v1 d0 d1]
        simp only [Option.bind_some]
        cases sbr S v d with
        | false =>
          rw [if_bf, e67]
          cases srl S v d <;> rfl
        | true =>
          rw [if_bt]
          cases srl S v d <;> rfl
  · have hse : ses S v k d = false := by
      unfold ses
      rw [if_neg he, decide_eq_false e3]
    rw [if_neg e3]
    unfold sel
    rw [hse]
    rfl
theorem m_canByAdaptive (h : RM w S) (I : IV S) (v0 : 0 ≤ v) (v1 : v < S 1 3 * S 1 4) (k0 : 0 ≤ k) (k1 : k < 9) (d0 : 0 ≤ d) (d1 : d < 4) (he : sfst S (v * 9 + k) ≠ -1) : f_M_canByAdaptive (sfst S (v * 9 + k)) v d w = some (bi (sad S v k d), w) := by
  obtain ⟨⟨p0, p1⟩, -⟩ := first_at I v0 v1 k0 k1 he
  have hc := I.1.2.2.2.2.2.2.1.2
  have hp := I.2.1.1 _ p0 p1
  have hn := gn_in I.1.1 v0 v1 d0 d1
  have hN := gN I.1.1
  unfold f_M_canByAdaptive sad spr
  rw [m_of h p0 p1 hc (f := 7) (by decide) (by decide) (by decide)]
  simp only [Option.bind_some]
  rw [if_neg he, mg_isProfitable h.wh I.1.1 v0 v1 hp.1.2.1.1 hp.1.2.1.2 d0 d1]
  simp only [Option.bind_some]
  cases gp (S 1 3) (S 1 4) v (S 7 (sfst S (v * 9 + k))) d with
  | false => rfl
  | true =>
    rw [if_bt, mg_nextOf h.wh I.1.1 v0 v1 d0 d1]
    simp only [Option.bind_some]
    rw [w32_ok (by omega) (by omega), m_free h I.w hn.1 (by omega) (by omega) (by omega), cp_a d0]
    simp only [Option.bind_some]
    rw [← Int.add_assoc]
    by_cases e : S 20 (gn (S 1 3) (S 1 4) v d * 9 + 5 + d) < S 0 7
    · rw [if_neg (by omega), decide_eq_true e]; rfl
    · rw [if_pos (by omega), decide_eq_false e]; rfl
theorem m_canGo (h : RM w S) (I : IV S) (v0 : 0 ≤ v) (v1 : v < S 1 3 * S 1 4) (k0 : 0 ≤ k) (k1 : k < 9) (d0 : 0 ≤ d) (d1 : d < 4) (he : sfst S (v * 9 + k) ≠ -1) : f_M_canGo (sfst S (v * 9 + k)) v d 1 w = some (bi (scg S v k d), w) := by
  unfold f_M_canGo scg
  rw [m_canByAdaptive h I v0 v1 k0 k1 d0 d1 he]
  simp only [Option.bind_some]
  cases sad S v k d with
  | true => rfl
  | false =>
    rw [if_bf, m_canByEscape h I v0 v1 k0 k1 d0 d1 he (Or.inr rfl)]
    simp only [Option.bind_some]
    cases sel S v k d <;> cases scn S v k d <;> cases sbr S v d <;> rfl
theorem m_isAhead {c : Int} (h : RM w S) (I : IV S) (B : IB S) (v0 : 0 ≤ v) (v1 : v < S 1 3 * S 1 4) (k0 : 0 ≤ k) (k1 : k < 9) (c0 : 0 ≤ c) (c1 : c < 9) (d0 : 0 ≤ d) (d1 : d < 4) (he : sfst S (v * 9 + k) ≠ -1) (hc : sfst S (v * 9 + c) ≠ -1) : f_M_isAhead (sfst S (v * 9 + k)) (sfst S (v * 9 + c)) v d w = some (if scn S v k d = scn S v c d then bi (decide (sfst S (v * 9 + k) < sfst S (v * 9 + c))) else bi (scn S v k d), w) := by
  obtain ⟨⟨p0, p1⟩, -⟩ := first_at I v0 v1 k0 k1 he
  obtain ⟨⟨o0, o1⟩, -⟩ := first_at I v0 v1 c0 c1 hc
  have hcn := I.1.2.2.2.2.2.2.1.2
  unfold f_M_isAhead
  rw [m_doesContinue h I v0 v1 k0 k1 d0 d1 he]
  simp only [Option.bind_some]
  rw [m_doesContinue h I v0 v1 c0 c1 d0 d1 hc]
  simp only [Option.bind_some]
  have hbi : bi (scn S v k d) = bi (scn S v c d) ↔ scn S v k d = scn S v c d := by
    cases scn S v k d <;> cases scn S v c d <;> simp [bi]
  by_cases e : scn S v k d = scn S v c d
  · rw [if_pos (hbi.mpr e), if_pos e, m_of h p0 p1 hcn (f := 8) (by decide) (by decide) (by decide)]
    simp only [Option.bind_some]
    rw [m_of h o0 o1 hcn (f := 8) (by decide) (by decide) (by decide)]
    simp only [Option.bind_some]
    by_cases e2 : S 8 (sfst S (v * 9 + k)) = S 8 (sfst S (v * 9 + c))
    · rw [if_pos e2]
      by_cases e3 : sfst S (v * 9 + k) < sfst S (v * 9 + c)
      · rw [if_pos e3, decide_eq_true e3]; rfl
      · rw [if_neg e3, decide_eq_false e3]; rfl
    · rw [if_neg e2, m_of h p0 p1 hcn (f := 8) (by decide) (by decide) (by decide)]
      simp only [Option.bind_some]
      rw [m_of h o0 o1 hcn (f := 8) (by decide) (by decide) (by decide)]
      simp only [Option.bind_some]
      have hlt : S 8 (sfst S (v * 9 + k)) < S 8 (sfst S (v * 9 + c)) ↔ sfst S (v * 9 + k) < sfst S (v * 9 + c) := by
        constructor
        · intro hl
          by_cases z : sfst S (v * 9 + k) < sfst S (v * 9 + c)
          · exact z
          · have := B _ _ o0 (by omega : sfst S (v * 9 + c) ≤ sfst S (v * 9 + k)) p1
            omega
        · intro hl
          have := B _ _ p0 (by omega : sfst S (v * 9 + k) ≤ sfst S (v * 9 + c)) o1
          omega
      by_cases e3 : sfst S (v * 9 + k) < sfst S (v * 9 + c)
      · rw [if_pos (hlt.mpr e3), decide_eq_true e3]; rfl
      · rw [if_neg (fun z => e3 (hlt.mp z)), decide_eq_false e3]; rfl
  · rw [if_neg (fun z => e (hbi.mp z)), if_neg e]
end MR
