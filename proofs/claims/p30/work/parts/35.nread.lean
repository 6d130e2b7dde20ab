/-! what a net's methods read -/
def sfst (S : qMem) (q : Int) : Int := if S 20 q ≤ 0 then -1 else S 21 (q * 6)
def spr (S : qMem) (v k d : Int) : Bool := if sfst S (v * 9 + k) = -1 then false else gp (S 1 3) (S 1 4) v (S 7 (sfst S (v * 9 + k))) d
def sad (S : qMem) (v k d : Int) : Bool := spr S v k d && decide (S 20 (gn (S 1 3) (S 1 4) v d * 9 + 5 + d) < S 0 7)
def ses (S : qMem) (v k d : Int) : Bool := if sfst S (v * 9 + k) = -1 then false else decide (ge (S 1 3) (S 1 4) v (S 7 (sfst S (v * 9 + k))) = d)
def sfa (S : qMem) (v d : Int) : Int := S 0 6 - S 20 (gn (S 1 3) (S 1 4) v d * 9 + 1 + d)
def srn (S : qMem) (v d : Int) : Int := if S 0 8 = 1 then 2 else if S 0 8 = 2 ∧ S 25 (gr (S 1 3) (S 1 4) v d) = gn (S 1 3) (S 1 4) v d then 2 else 1
def srl (S : qMem) (v d : Int) : Bool := decide (srn S v d ≤ sfa S v d)
def scn (S : qMem) (v k d : Int) : Bool := decide (k = 1 + d) && ses S v k d
def sel (S : qMem) (v k d : Int) : Bool := ses S v k d && (if k = 1 + d then decide (0 < sfa S v d) else srl S v d)
def sbr (S : qMem) (v d : Int) : Bool := decide (jand (jshr (S 28 (gr (S 1 3) (S 1 4) v d)) v) 1 = 1)
def scg (S : qMem) (v k d : Int) : Bool := sad S v k d || (sel S v k d && (scn S v k d || !sbr S v d))
def sin (S : qMem) (v k : Int) : Bool := if sfst S (v * 9 + k) = -1 then false else decide (S 7 (sfst S (v * 9 + k)) = v)
theorem if_bf {α : Type} {a b : α} : (if bi false = 0 then a else b) = a := rfl
theorem if_bt {α : Type} {a b : α} : (if bi true = 0 then a else b) = b := rfl
theorem if_10 {α : Type} {a b : α} : (if (1 : Int) = 0 then a else b) = b := rfl
theorem if_00 {α : Type} {a b : α} : (if (0 : Int) = 0 then a else b) = a := rfl
section NR
variable {o : Nat} {w S : qMem} {v k d q t p : Int}
theorem rz_6 (h : RX o w S) : w o 6 = S 0 6 := rx_0_6 h
theorem rz_7 (h : RX o w S) : w o 7 = S 0 7 := rx_0_7 h
theorem rz_8 (h : RX o w S) : w o 8 = S 0 8 := rx_0_8 h
theorem rz_9 (h : RX o w S) : w o 9 = S 0 9 := rx_0_9 h
theorem rz_10 (h : RX o w S) : w o 10 = S 0 10 := rx_0_10 h
theorem rz_11 (h : RX o w S) : w o 11 = S 0 11 := rx_0_11 h
theorem rz_12 (h : RX o w S) : w o 12 = S 0 12 := rx_0_12 h
theorem sfst_in (I : IQw S) (q0 : 0 ≤ q) (q1 : q < 144) (h : sfst S q ≠ -1) : 0 ≤ sfst S q ∧ sfst S q < S 5 13 ∧ 0 < S 20 q ∧ sfst S q = S 21 (q * 6) := by
  unfold sfst at h ⊢
  by_cases e : S 20 q ≤ 0
  · rw [if_pos e] at h; exact absurd rfl h
  · rw [if_neg e]
    have := (I q q0 q1).2 0 (by omega) (by omega)
    rw [Int.add_zero] at this
    exact ⟨this.1, this.2, by omega, rfl⟩
theorem n_first (h : RX o w S) (q0 : 0 ≤ q) (q1 : q < 144) : f_Q_first (o + 19) q w = some (sfst S q, w) := by
  unfold f_Q_first sfst
  rw [qld_ok q0 q1, show w (o + 19 + 1) q = S 20 q from rx_20 h q0 q1]
  by_cases e : S 20 q ≤ 0
  · rw [if_pos e, if_pos e]
  · rw [if_neg e, if_neg e, w32_ok (by omega) (by omega), qld_ok (by omega) (by omega), show w (o + 19 + 2) (q * 6) = S 21 (q * 6) from rx_21 h (by omega) (by omega) (by rw [Int.mul_emod_left, Int.mul_ediv_cancel _ (by decide)]; omega)]
theorem n_isProfitable (h : NX o w S) (I : IW S) (v0 : 0 ≤ v) (v1 : v < S 1 3 * S 1 4) (k0 : 0 ≤ k) (k1 : k < 9) (d0 : 0 ≤ d) (d1 : d < 4) : f_N_isProfitable o v k d w = some (bi (spr S v k d), w) := by
  have hN := gN I.1
  have hc := I.2.1.2.2.2.2.2.1
  unfold f_N_isProfitable spr
  simp (disch := omega) only [w32_ok]
  rw [n_first h.1 (by omega) (by omega)]
  simp only [Option.bind_some]
  by_cases e : sfst S (v * 9 + k) = -1
  · rw [if_pos e, if_pos e]; rfl
  · have hs := sfst_in I.2.2.2 (by omega) (by omega) e
    have ht := I.2.2.1 _ hs.1 hs.2.1
    rw [if_neg e, if_neg e, qld_ok hs.1 (by omega), rx_7 h.1 hs.1 hs.2.1 hc.2, g_nearerBy h.2 I.1 v0 v1 ht.1 ht.2]
    simp only [Option.bind_some]
    rw [gs_bit I.1 v0 v1 ht.1 ht.2 d0 d1]
    cases gp (S 1 3) (S 1 4) v (S 7 (sfst S (v * 9 + k))) d <;> rfl
theorem n_isEscape (h : NX o w S) (I : IW S) (v0 : 0 ≤ v) (v1 : v < S 1 3 * S 1 4) (k0 : 0 ≤ k) (k1 : k < 9) : f_N_isEscape o v k d w = some (bi (ses S v k d), w) := by
  have hN := gN I.1
  have hc := I.2.1.2.2.2.2.2.1
  unfold f_N_isEscape ses
  simp (disch := omega) only [w32_ok]
  rw [n_first h.1 (by omega) (by omega)]
  simp only [Option.bind_some]
  by_cases e : sfst S (v * 9 + k) = -1
  · rw [if_pos e, if_pos e]; rfl
  · have hs := sfst_in I.2.2.2 (by omega) (by omega) e
    have ht := I.2.2.1 _ hs.1 hs.2.1
    rw [if_neg e, if_neg e, qld_ok hs.1 (by omega), rx_7 h.1 hs.1 hs.2.1 hc.2, g_escapeBy h.2 I.1 v0 v1 ht.1 ht.2]
    simp only [Option.bind_some]
    by_cases e2 : ge (S 1 3) (S 1 4) v (S 7 (sfst S (v * 9 + k))) = d
    · rw [if_pos e2, decide_eq_true e2]; rfl
    · rw [if_neg e2, decide_eq_false e2]; rfl
theorem n_isInTo (h : NX o w S) (I : IW S) (v0 : 0 ≤ v) (v1 : v < S 1 3 * S 1 4) (k0 : 0 ≤ k) (k1 : k < 9) : f_N_isInTo o v k w = some (bi (sin S v k), w) := by
  have hN := gN I.1
  have hc := I.2.1.2.2.2.2.2.1
  unfold f_N_isInTo sin
  simp (disch := omega) only [w32_ok]
  rw [n_first h.1 (by omega) (by omega)]
  simp only [Option.bind_some]
  by_cases e : sfst S (v * 9 + k) = -1
  · rw [if_pos e, if_pos e]; rfl
  · have hs := sfst_in I.2.2.2 (by omega) (by omega) e
    rw [if_neg e, if_neg e, qld_ok hs.1 (by omega), rx_7 h.1 hs.1 hs.2.1 hc.2]
    by_cases e2 : S 7 (sfst S (v * 9 + k)) = v
    · rw [if_pos e2, decide_eq_true e2]; rfl
    · rw [if_neg e2, decide_eq_false e2]; rfl
theorem n_adaptiveLets (h : NX o w S) (I : IW S) (v0 : 0 ≤ v) (v1 : v < S 1 3 * S 1 4) (k0 : 0 ≤ k) (k1 : k < 9) (d0 : 0 ≤ d) (d1 : d < 4) : f_N_adaptiveLets o v k d w = some (bi (sad S v k d), w) := by
  have hN := gN I.1
  have hn := gn_in I.1 v0 v1 d0 d1
  unfold f_N_adaptiveLets sad
  rw [n_isProfitable h I v0 v1 k0 k1 d0 d1]
  simp only [Option.bind_some]
  cases spr S v k d with
  | false => rfl
  | true =>
    rw [if_bt, g_nextBy h.2 I.1 v0 v1 d0 d1]
    simp only [Option.bind_some]
    simp (disch := omega) only [w32_ok]
    rw [qld_ok (by omega) (by omega), rx_20 h.1 (by omega) (by omega), rz_7 h.1]
    by_cases e : S 20 (gn (S 1 3) (S 1 4) v d * 9 + 5 + d) < S 0 7
    · rw [if_pos e, decide_eq_true e]; rfl
    · rw [if_neg e, decide_eq_false e]; rfl
theorem n_freeAhead (h : NX o w S) (I : IW S) (v0 : 0 ≤ v) (v1 : v < S 1 3 * S 1 4) (d0 : 0 ≤ d) (d1 : d < 4) : f_N_freeAhead o v d w = some (sfa S v d, w) := by
  have hN := gN I.1
  have hn := gn_in I.1 v0 v1 d0 d1
  have hE := I.2.1.1
  unfold f_N_freeAhead sfa
  simp (disch := omega) only [w32_ok]
  have hq := (I.2.2.2 (gn (S 1 3) (S 1 4) v d * 9 + 1 + d) (by omega) (by omega)).1
  rw [qld_ok (by omega) (by omega), show w (o + 2) (v * 4 + d) = gn (S 1 3) (S 1 4) v d from h.2.2.2.1 v d v0 v1 d0 d1]
  simp (disch := omega) only [w32_ok]
  rw [qld_ok (by omega) (by omega), rx_20 h.1 (by omega) (by omega), rz_6 h.1]
  rw [w32_ok (by omega) (by omega)]
theorem n_ruleLets (h : NX o w S) (I : IW S) (v0 : 0 ≤ v) (v1 : v < S 1 3 * S 1 4) (d0 : 0 ≤ d) (d1 : d < 4) : f_N_ruleLets o v d w = some (bi (srl S v d), w) := by
  have hN := gN I.1
  have hg := I.1
  have hr := gr_in I.1 v0 v1 d0 d1
  have h50 : ∀ b : Int, (b = 0 ∨ b = 1) → f_N_ruleLets_50 o b v d w = some (bi (decide ((if b = 0 then 1 else 2) ≤ sfa S v d)), w) := by
    intro b hb
    unfold f_N_ruleLets_50 f_N_ruleLets_66
    rw [n_freeAhead h I v0 v1 d0 d1]
    simp only [Option.bind_some]
    rcases hb with rfl | rfl
    · rw [if_00, if_00]
      by_cases e : sfa S v d < 1
      · rw [if_pos e, decide_eq_false (by omega)]; rfl
      · rw [if_neg e, decide_eq_true (by omega)]; rfl
    · rw [if_10, if_10]
      by_cases e : sfa S v d < 2
      · rw [if_pos e, decide_eq_false (by omega)]; rfl
      · rw [if_neg e, decide_eq_true (by omega)]; rfl
  unfold f_N_ruleLets srl srn
  rw [rz_8 h.1]
  by_cases e1 : S 0 8 = 1
  · rw [if_pos e1, if_pos e1, h50 1 (Or.inr rfl)]; rfl
  · rw [if_neg e1, if_neg e1]
    by_cases e2 : S 0 8 = 2
    · rw [if_pos e2, g_ringIndex h.2.1 I.1 v0 v1 d0 d1]
      simp only [Option.bind_some]
      obtain ⟨⟨x, y⟩, z, u⟩ := hg
      rw [qld_ok hr.1 (by omega), rx_25 h.1 hr.1 hr.2 (by omega), g_nextBy h.2 I.1 v0 v1 d0 d1]
      simp only [Option.bind_some]
      by_cases e3 : S 25 (gr (S 1 3) (S 1 4) v d) = gn (S 1 3) (S 1 4) v d
      · rw [if_pos e3, if_pos ⟨e2, e3⟩, h50 1 (Or.inr rfl)]; rfl
      · rw [if_neg e3, if_neg (fun q => e3 q.2), h50 0 (Or.inl rfl)]; rfl
    · rw [if_neg e2, if_neg (fun q => e2 q.1), h50 0 (Or.inl rfl)]; rfl
theorem n_continues (h : NX o w S) (I : IW S) (v0 : 0 ≤ v) (v1 : v < S 1 3 * S 1 4) (k0 : 0 ≤ k) (k1 : k < 9) (d0 : 0 ≤ d) (d1 : d < 4) : f_N_continues o v k d w = some (bi (scn S v k d), w) := by
  unfold f_N_continues scn
  rw [w32_ok (by omega) (by omega)]
  by_cases e : k = 1 + d
  · rw [if_pos e, decide_eq_true e, n_isEscape h I v0 v1 k0 k1]
    cases ses S v k d <;> rfl
  · rw [if_neg e, decide_eq_false e]; rfl
theorem n_escapeLets (h : NX o w S) (I : IW S) (v0 : 0 ≤ v) (v1 : v < S 1 3 * S 1 4) (k0 : 0 ≤ k) (k1 : k < 9) (d0 : 0 ≤ d) (d1 : d < 4) : f_N_escapeLets o v k d w = some (bi (sel S v k d), w) := by
  unfold f_N_escapeLets sel
  rw [n_isEscape h I v0 v1 k0 k1]
  simp only [Option.bind_some]
  cases ses S v k d with
  | false => rfl
  | true =>
    rw [if_bt, w32_ok (by omega) (by omega)]
    by_cases e : k = 1 + d
    · rw [if_pos e, if_pos e, n_freeAhead h I v0 v1 d0 d1]
      simp only [Option.bind_some]
      by_cases e2 : sfa S v d ≤ 0
      · rw [if_pos e2, decide_eq_false (by omega)]; rfl
      · rw [if_neg e2, decide_eq_true (by omega)]; rfl
    · rw [if_neg e, if_neg e, n_ruleLets h I v0 v1 d0 d1]
      rfl
theorem n_isBarred (h : NX o w S) (I : IW S) (v0 : 0 ≤ v) (v1 : v < S 1 3 * S 1 4) (d0 : 0 ≤ d) (d1 : d < 4) : f_N_isBarred o v d w = some (bi (sbr S v d), w) := by
  have hr := gr_in I.1 v0 v1 d0 d1
  have hg := I.1
  unfold f_N_isBarred sbr
  rw [g_ringIndex h.2.1 I.1 v0 v1 d0 d1]
  simp only [Option.bind_some]
  obtain ⟨⟨x, y⟩, z, u⟩ := hg
  rw [qld_ok hr.1 (by omega), rx_28 h.1 hr.1 hr.2 (by omega)]
  by_cases e : jand (jshr (S 28 (gr (S 1 3) (S 1 4) v d)) v) 1 = 1
  · rw [if_pos e, decide_eq_true e]; rfl
  · rw [if_neg e, decide_eq_false e]; rfl
theorem n_canGo (h : NX o w S) (I : IW S) (v0 : 0 ≤ v) (v1 : v < S 1 3 * S 1 4) (k0 : 0 ≤ k) (k1 : k < 9) (d0 : 0 ≤ d) (d1 : d < 4) : f_N_canGo o v k d w = some (bi (scg S v k d), w) := by
  unfold f_N_canGo scg
  rw [n_adaptiveLets h I v0 v1 k0 k1 d0 d1]
  simp only [Option.bind_some]
  cases sad S v k d with
  | true => rfl
  | false =>
    rw [if_bf, n_escapeLets h I v0 v1 k0 k1 d0 d1]
    simp only [Option.bind_some]
    cases sel S v k d with
    | false => rfl
    | true =>
      rw [if_bt, n_continues h I v0 v1 k0 k1 d0 d1]
      simp only [Option.bind_some]
      cases scn S v k d with
      | true => rfl
      | false =>
        rw [if_bf, n_isBarred h I v0 v1 d0 d1]
        simp only [Option.bind_some]
        cases sbr S v d <;> rfl
end NR
