/-! asking: next, far, profitable, way, ringOf, enters, hunger, link -/
def vdok (S : qMem) (v d : Int) : Prop := (0 ≤ v ∧ v < S 1 3 * S 1 4) ∧ 0 ≤ d ∧ d ≤ 3
def vtok (S : qMem) (v t : Int) : Prop := (0 ≤ v ∧ v < S 1 3 * S 1 4) ∧ 0 ≤ t ∧ t < S 1 3 * S 1 4
section Q1
variable {w w' S T : qMem} {v d t n x i : Int}
theorem x_isDir : f_X_isDirection d w = some (bi (decide (0 ≤ d ∧ d ≤ 3)), w) := by
  unfold f_X_isDirection
  rw [qbd x_within]
theorem m_isDir : f_M_isDirection d w = some (bi (decide (0 ≤ d ∧ d ≤ 3)), w) := by
  unfold f_M_isDirection
  rw [qbd m_isIn]
theorem xg_vd (hx : NX 2 w S) (K : qMem → Option (Int × qMem)) (y : Int) (h1 : vdok S v d → K w = some (y, w)) (h0 : ¬ vdok S v d → y = -1) : ((f_G_hasNode 3 v w).bind fun q1 => if q1.1 = 0 then some ((-1), q1.2) else (f_X_isDirection d q1.2).bind fun q3 => if q3.1 = 0 then some ((-1), q3.2) else K q3.2) = some (y, w) := by
  rw [qbd (g_hasNode (o := 3) hx.2)]
  dsimp only
  rw [bi_if]
  by_cases a : 0 ≤ v ∧ v < S 1 3 * S 1 4
  · rw [if_pos a, qbd x_isDir]
    dsimp only
    rw [bi_if]
    by_cases b : 0 ≤ d ∧ d ≤ 3
    · rw [if_pos b]; exact h1 ⟨a, b⟩
    · rw [if_neg b, h0 (fun z => b z.2)]
  · rw [if_neg a, h0 (fun z => a z.1)]
theorem xg_vt (hx : NX 2 w S) (K : qMem → Option (Int × qMem)) (y : Int) (h1 : vtok S v t → K w = some (y, w)) (h0 : ¬ vtok S v t → y = -1) : ((f_G_hasNode 3 v w).bind fun q1 => if q1.1 = 0 then some ((-1), q1.2) else (f_G_hasNode 3 t q1.2).bind fun q3 => if q3.1 = 0 then some ((-1), q3.2) else K q3.2) = some (y, w) := by
  rw [qbd (g_hasNode (o := 3) hx.2)]
  dsimp only
  rw [bi_if]
  by_cases a : 0 ≤ v ∧ v < S 1 3 * S 1 4
  · rw [if_pos a, qbd (g_hasNode (o := 3) hx.2)]
    dsimp only
    rw [bi_if]
    by_cases b : 0 ≤ t ∧ t < S 1 3 * S 1 4
    · rw [if_pos b]; exact h1 ⟨a, b⟩
    · rw [if_neg b, h0 (fun z => b z.2)]
  · rw [if_neg a, h0 (fun z => a z.1)]
theorem mg_vd (hR : RM w S) (g : gIn (S 1 3) (S 1 4)) (K : qMem → Option (Int × qMem)) (y : Int) (h1 : vdok S v d → K w = some (y, w)) (h0 : ¬ vdok S v d → y = -1) : ((f_M_isNode v w).bind fun q1 => if q1.1 = 0 then some ((-1), q1.2) else (f_M_isDirection d q1.2).bind fun q3 => if q3.1 = 0 then some ((-1), q3.2) else K q3.2) = some (y, w) := by
  rw [qbd (mg_isNode hR.wh g)]
  dsimp only
  rw [bi_if]
  by_cases a : 0 ≤ v ∧ v < S 1 3 * S 1 4
  · rw [if_pos a, qbd m_isDir]
    dsimp only
    rw [bi_if]
    by_cases b : 0 ≤ d ∧ d ≤ 3
    · rw [if_pos b]; exact h1 ⟨a, b⟩
    · rw [if_neg b, h0 (fun z => b z.2)]
  · rw [if_neg a, h0 (fun z => a z.1)]
theorem mg_vt (hR : RM w S) (g : gIn (S 1 3) (S 1 4)) (K : qMem → Option (Int × qMem)) (y : Int) (h1 : vtok S v t → K w = some (y, w)) (h0 : ¬ vtok S v t → y = -1) : ((f_M_isNode v w).bind fun q1 => if q1.1 = 0 then some ((-1), q1.2) else (f_M_isNode t q1.2).bind fun q3 => if q3.1 = 0 then some ((-1), q3.2) else K q3.2) = some (y, w) := by
  rw [qbd (mg_isNode hR.wh g)]
  dsimp only
  rw [bi_if]
  by_cases a : 0 ≤ v ∧ v < S 1 3 * S 1 4
  · rw [if_pos a, qbd (mg_isNode hR.wh g)]
    dsimp only
    rw [bi_if]
    by_cases b : 0 ≤ t ∧ t < S 1 3 * S 1 4
    · rw [if_pos b]; exact h1 ⟨a, b⟩
    · rw [if_neg b, h0 (fun z => b z.2)]
  · rw [if_neg a, h0 (fun z => a z.1)]
/-- what is answered; NONE where it may not be asked -/
def onV (c : Prop) [Decidable c] (x : Int) : Int := if c then x else -1
def vdb (S : qMem) (v d : Int) : Bool := decide (0 ≤ v ∧ v < S 1 3 * S 1 4) && decide (0 ≤ d ∧ d ≤ 3)
def vtb (S : qMem) (v t : Int) : Bool := decide (0 ≤ v ∧ v < S 1 3 * S 1 4) && decide (0 ≤ t ∧ t < S 1 3 * S 1 4)
theorem vdb_t (h : vdok S v d) : (if vdb S v d = true then x else -1) = x := by
  unfold vdb
  rw [decide_eq_true h.1, decide_eq_true h.2]
  rfl
theorem vdb_f (h : ¬ vdok S v d) : (if vdb S v d = true then x else -1) = -1 := by
  refine if_neg (fun z => h ?_)
  unfold vdb at z
  rw [Bool.and_eq_true] at z
  exact ⟨of_decide_eq_true z.1, of_decide_eq_true z.2⟩
theorem vtb_t (h : vtok S v t) : (if vtb S v t = true then x else -1) = x := by
  unfold vtb
  rw [decide_eq_true h.1, decide_eq_true h.2]
  rfl
theorem vtb_f (h : ¬ vtok S v t) : (if vtb S v t = true then x else -1) = -1 := by
  refine if_neg (fun z => h ?_)
  unfold vtb at z
  rw [Bool.and_eq_true] at z
  exact ⟨of_decide_eq_true z.1, of_decide_eq_true z.2⟩
def aNext (S : qMem) (v d : Int) : Int := if vdb S v d = true then gn (S 1 3) (S 1 4) v d else -1
def aFar (S : qMem) (v t : Int) : Int := if vtb S v t = true then gf (S 1 3) (S 1 4) v t else -1
def aProf (S : qMem) (v t : Int) : Int := if vtb S v t = true then gs (S 1 3) (S 1 4) v t else -1
def aRing (S : qMem) (v d : Int) : Int := if vdb S v d = true then gr (S 1 3) (S 1 4) v d else -1
def aEnt (S : qMem) (v d : Int) : Int := if vdb S v d = true then bi (srl S v d && !sbr S v d) else -1
def aHun (S : qMem) (v d : Int) : Int := if vdb S v d = true then S 31 (v * 4 + d) else -1
def aLink (S : qMem) (v d : Int) : Int := if vdb S v d = true then S 34 (v * 4 + d) else -1
theorem x_next (hx : NX 2 w S) (I : IV S) : f_X_next v d w = some (aNext S v d, w) := by
  unfold f_X_next aNext
  exact xg_vd hx (fun w => (f_G_nextBy 3 v d w).bind fun q5 => some (q5.1, q5.2)) _ (fun h => by rw [vdb_t h, qbd (g_nextBy (o := 3) hx.2 I.1.1 h.1.1 h.1.2 h.2.1 (by have := h.2.2; omega))]) (fun h => vdb_f h)
theorem m_next (hR : RM w S) (I : IV S) : f_M_next v d w = some (aNext S v d, w) := by
  unfold f_M_next aNext
  exact mg_vd hR I.1.1 (fun w => (f_M_nextOf v d w).bind fun q5 => some (q5.1, q5.2)) _ (fun h => by rw [vdb_t h, qbd (mg_nextOf hR.wh I.1.1 h.1.1 h.1.2 h.2.1 (by have := h.2.2; omega))]) (fun h => vdb_f h)
theorem x_far (hx : NX 2 w S) (I : IV S) : f_X_far v t w = some (aFar S v t, w) := by
  unfold f_X_far aFar
  exact xg_vt hx (fun w => (f_G_distance 3 v t w).bind fun q5 => some (q5.1, q5.2)) _ (fun h => by rw [vtb_t h, qbd (g_distance (o := 3) hx.2.1 I.1.1 h.1.1 h.1.2 h.2.1 h.2.2)]) (fun h => vtb_f h)
theorem m_far (hR : RM w S) (I : IV S) : f_M_far v t w = some (aFar S v t, w) := by
  unfold f_M_far aFar
  exact mg_vt hR I.1.1 (fun w => (f_M_farOf v t w).bind fun q5 => some (q5.1, q5.2)) _ (fun h => by rw [vtb_t h, qbd (mg_farOf hR.wh I.1.1 h.1.1 h.1.2 h.2.1 h.2.2)]) (fun h => vtb_f h)
theorem x_prof (hx : NX 2 w S) (I : IV S) : f_X_profitable v t w = some (aProf S v t, w) := by
  unfold f_X_profitable aProf
  exact xg_vt hx (fun w => (f_G_nearerBy 3 v t w).bind fun q5 => some (q5.1, q5.2)) _ (fun h => by rw [vtb_t h, qbd (g_nearerBy (o := 3) hx.2 I.1.1 h.1.1 h.1.2 h.2.1 h.2.2)]) (fun h => vtb_f h)
theorem m_prof23 (hR : RM w S) (I : IV S) (h : vtok S v t) : f_M_profitable_23 qFU v t 0 0 w = some (gs (S 1 3) (S 1 4) v t, w) := by
  have step : ∀ (m : Nat) (c d : Int), 0 ≤ d → d < 4 → f_M_profitable_23 (m + 1) v t c d w = f_M_profitable_23 m v t (jor c (if gp (S 1 3) (S 1 4) v t d = true then jshl 1 d else 0)) (d + 1) w := by
    intro m c d d0 d1
    rw [f_M_profitable_23, if_pos d1, qbd (mg_isProfitable hR.wh I.1.1 h.1.1 h.1.2 h.2.1 h.2.2 d0 d1)]
    dsimp only
    unfold f_M_profitable_49
    rw [w32_ok (z := d + 1) (by omega) (by omega)]
    cases gp (S 1 3) (S 1 4) v t d with
    | true => rw [if_bt, if_pos rfl]
    | false => rw [if_bf, if_neg (show ¬ false = true by decide)]
  have stop : ∀ (m : Nat) (c : Int), f_M_profitable_23 (m + 1) v t c 4 w = some (c, w) := by
    intro m c
    rw [f_M_profitable_23, if_neg (by decide)]
  rw [show qFU = 999999995 + 1 + 1 + 1 + 1 + 1 from rfl, step _ _ 0 (by omega) (by omega), show (0 : Int) + 1 = 1 from rfl, step _ _ 1 (by omega) (by omega), show (1 : Int) + 1 = 2 from rfl, step _ _ 2 (by omega) (by omega), show (2 : Int) + 1 = 3 from rfl, step _ _ 3 (by omega) (by omega), show (3 : Int) + 1 = 4 from rfl, stop]
  refine congrArg (fun z => some (z, w)) ?_
  unfold gs
  cases gp (S 1 3) (S 1 4) v t 0 <;> cases gp (S 1 3) (S 1 4) v t 1 <;> cases gp (S 1 3) (S 1 4) v t 2 <;> cases gp (S 1 3) (S 1 4) v t 3 <;> decide +kernel
theorem m_prof (hR : RM w S) (I : IV S) : f_M_profitable v t w = some (aProf S v t, w) := by
  unfold f_M_profitable aProf
  exact mg_vt hR I.1.1 (fun w => f_M_profitable_23 qFU v t 0 0 w) _ (fun h => by rw [vtb_t h]; exact m_prof23 hR I h) (fun h => vtb_f h)
theorem x_ringOf (hx : NX 2 w S) (I : IV S) : f_X_ringOf v d w = some (aRing S v d, w) := by
  unfold f_X_ringOf aRing
  exact xg_vd hx (fun w => (f_G_ringIndex 3 v d w).bind fun q5 => some (q5.1, q5.2)) _ (fun h => by rw [vdb_t h, qbd (g_ringIndex (o := 3) hx.2.1 I.1.1 h.1.1 h.1.2 h.2.1 (by have := h.2.2; omega))]) (fun h => vdb_f h)
theorem m_ringOf (hR : RM w S) (I : IV S) : f_M_ringOf v d w = some (aRing S v d, w) := by
  unfold f_M_ringOf aRing
  exact mg_vd hR I.1.1 (fun w => (f_M_ringFor v d w).bind fun q5 => some (q5.1, q5.2)) _ (fun h => by rw [vdb_t h, qbd (mg_ringFor hR.wh I.1.1 h.1.1 h.1.2 h.2.1 (by have := h.2.2; omega))]) (fun h => vdb_f h)
theorem x_enters (hx : NX 2 w S) (I : IV S) : f_X_enters v d w = some (aEnt S v d, w) := by
  unfold f_X_enters aEnt
  refine xg_vd hx (fun w => (f_N_ruleLets 2 v d w).bind fun q5 => if q5.1 = 0 then some (0, q5.2) else (f_N_isBarred 2 v d q5.2).bind fun q7 => if q7.1 = 0 then some (1, q7.2) else some (0, q7.2)) _ (fun h => ?_) (fun h => vdb_f h)
  have d1 : d < 4 := by have := h.2.2; omega
  rw [vdb_t h, qbd (n_ruleLets hx I.w h.1.1 h.1.2 h.2.1 d1)]
  dsimp only
  cases srl S v d with
  | false => rfl
  | true =>
    rw [if_bt, qbd (n_isBarred hx I.w h.1.1 h.1.2 h.2.1 d1)]
    cases sbr S v d <;> rfl
theorem m_enters (hR : RM w S) (I : IV S) : f_M_enters v d w = some (aEnt S v d, w) := by
  unfold f_M_enters aEnt
  refine mg_vd hR I.1.1 (fun w => (f_M_isBarred v d w).bind fun q5 => if q5.1 = 0 then (f_M_nextOf v d q5.2).bind fun q7 => (f_M_doesRuleLet q7.1 d q7.2).bind fun q8 => if q8.1 = 0 then some (0, q8.2) else some (1, q8.2) else some (0, q5.2)) _ (fun h => ?_) (fun h => vdb_f h)
  have d1 : d < 4 := by have := h.2.2; omega
  rw [vdb_t h, qbd (m_isBarred hR I.w h.1.1 h.1.2 h.2.1 d1)]
  dsimp only
  cases sbr S v d with
  | true => cases srl S v d <;> rfl
  | false =>
    rw [if_bf, qbd (mg_nextOf hR.wh I.1.1 h.1.1 h.1.2 h.2.1 d1)]
    dsimp only
    rw [qbd (m_ruleLet_f hR I.w h.1.1 h.1.2 h.2.1 d1 rfl)]
    cases srl S v d <;> rfl
theorem x_hunger (hx : NX 2 w S) (I : IV S) : f_X_hunger v d w = some (aHun S v d, w) := by
  have hN := gN I.1.1
  unfold f_X_hunger aHun
  refine xg_vd hx (fun w => qld w 33 64 (w32 ((w32 (v * 4)) + d)) fun v5 => some (v5, w)) _ (fun h => ?_) (fun h => vdb_f h)
  obtain ⟨⟨a, b⟩, c, e⟩ := h
  rw [vdb_t ⟨⟨a, b⟩, c, e⟩, w32_ok (z := v * 4) (by omega) (by omega), w32_ok (by omega) (by omega), qld_ok (by omega) (by omega), show w 33 (v * 4 + d) = S 31 (v * 4 + d) from rx_31 hx.1 (by omega) (by omega)]
theorem m_hunger (hR : RM w S) (I : IV S) : f_M_hunger v d w = some (aHun S v d, w) := by
  have hN := gN I.1.1
  unfold f_M_hunger aHun
  refine mg_vd hR I.1.1 (fun w => qld w 89 5898 (w32 ((w32 (5370 + (w32 (4 * v)))) + d)) fun v5 => some (v5, w)) _ (fun h => ?_) (fun h => vdb_f h)
  obtain ⟨⟨a, b⟩, c, e⟩ := h
  rw [vdb_t ⟨⟨a, b⟩, c, e⟩, w32_ok (z := 4 * v) (by omega) (by omega), w32_ok (z := 5370 + 4 * v) (by omega) (by omega), w32_ok (by omega) (by omega), qld_ok (by omega) (by omega), rm_31 hR (n := v * 4 + d) (by omega) (by omega) (by omega)]
theorem x_link (hx : NX 2 w S) (I : IV S) : f_X_link v d w = some (aLink S v d, w) := by
  have hN := gN I.1.1
  unfold f_X_link aLink
  refine xg_vd hx (fun w => qld w 36 64 (w32 ((w32 (v * 4)) + d)) fun v5 => some (v5, w)) _ (fun h => ?_) (fun h => vdb_f h)
  obtain ⟨⟨a, b⟩, c, e⟩ := h
  rw [vdb_t ⟨⟨a, b⟩, c, e⟩, w32_ok (z := v * 4) (by omega) (by omega), w32_ok (by omega) (by omega), qld_ok (by omega) (by omega), show w 36 (v * 4 + d) = S 34 (v * 4 + d) from rx_34 hx.1 (by omega) (by omega)]
theorem m_link (hR : RM w S) (I : IV S) : f_M_link v d w = some (aLink S v d, w) := by
  have hN := gN I.1.1
  unfold f_M_link aLink
  refine mg_vd hR I.1.1 (fun w => qld w 89 5898 (w32 ((w32 (5450 + (w32 (4 * v)))) + d)) fun v5 => some (v5, w)) _ (fun h => ?_) (fun h => vdb_f h)
  obtain ⟨⟨a, b⟩, c, e⟩ := h
  rw [vdb_t ⟨⟨a, b⟩, c, e⟩, w32_ok (z := 4 * v) (by omega) (by omega), w32_ok (z := 5450 + 4 * v) (by omega) (by omega), w32_ok (by omega) (by omega), qld_ok (by omega) (by omega), rm_34 hR (n := v * 4 + d) (by omega) (by omega) (by omega)]
end Q1
