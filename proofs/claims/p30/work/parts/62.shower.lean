/-! calls: shower, pattern, state -/
def gaim (W H k v : Int) : Int := if k = 0 then W * ((v / W + H / 2) % H) + (v % W + W / 2) % W else if k = 1 then W * H - 1 - v else if k = 2 then W * ((v % W) % H) + (v / W) % W else gn W H v 0
def gto (W H k p v : Int) : Int := if k = 4 then p else gaim W H k v
def spa1 (k p : Int) (t : qMem × Int) (v : Int) : qMem × Int := if gto (t.1 1 3) (t.1 1 4) k p v = v then t else ((sso t.1 v (gto (t.1 1 3) (t.1 1 4) k p v)).2, t.2 + (sso t.1 v (gto (t.1 1 3) (t.1 1 4) k p v)).1)
def spa (S : qMem) (k p : Int) : qMem × Int := fli (spa1 k p) (fun x => x) (S 1 3 * S 1 4).toNat (S, 0)
def ssw1 (t : qMem × Int × Int) : qMem × Int × Int :=
  let f := dv t.2.1 (t.1 1 3 * t.1 1 4)
  let g := dv (dn t.2.1) (t.1 1 3 * t.1 1 4 - 1)
  let r := sso t.1 f (if g < f then g else g + 1)
  (r.2, dn (dn t.2.1), t.2.2 + r.1)
def ssw (S : qMem) (D n : Int) : qMem × Int × Int := fli (fun t _ => ssw1 t) (fun x => x) n.toNat (S, D, 0)
section SH
variable {o : Nat} {w w' S T : qMem} {W H n a b c v D x k p : Int}
theorem gaim_in (g : gIn W H) (v0 : 0 ≤ v) (v1 : v < W * H) (k0 : 0 ≤ k) (k1 : k < 4) : 0 ≤ gaim W H k v ∧ gaim W H k v < W * H := by
  have := gck3_of (P := fun W H v k => decide (0 ≤ gaim W H k v ∧ gaim W H k v < W * H)) (by decide +kernel) g v0 v1 k0 k1
  exact of_decide_eq_true this
theorem g_aimOf (h : RG o w W H) (g : gIn W H) (v0 : 0 ≤ v) (v1 : v < W * H) (k0 : 0 ≤ k) (k1 : k < 4) : f_G_aimOf o k v w = some (gaim W H k v, w) := by
  have hN := gN g
  have h5 := h.2.1.1
  have hn := g_nextBy h g v0 v1 (show (0 : Int) ≤ 0 by decide) (by decide)
  unfold f_G_aimOf
  rw [h.1.1, h.1.2, h5]
  rcases (by omega : k = 0 ∨ k = 1 ∨ k = 2 ∨ k = 3) with rfl | rfl | rfl | rfl
  · obtain ⟨⟨x, y⟩, z, u⟩ := g
    rcases (by omega : W = 2 ∨ W = 3 ∨ W = 4) with rfl | rfl | rfl <;> rcases (by omega : H = 2 ∨ H = 3 ∨ H = 4) with rfl | rfl | rfl <;> (
      simp (disch := omega) only [qdv_ok, jdiv_ok, jrem_ok, w32_ok, gaim]
      refine congrArg (fun z => some (z, w)) ?_
      simp only [Int.reduceEq, reduceIte]
      omega)
  · obtain ⟨⟨x, y⟩, z, u⟩ := g
    rw [qdv_ok (by omega), qdv_ok (by omega), if_neg (by decide), if_pos rfl, w32_ok (z := W * H - 1) (by omega) (by omega), w32_ok (by omega) (by omega)]
    rfl
  · obtain ⟨⟨x, y⟩, z, u⟩ := g
    rcases (by omega : W = 2 ∨ W = 3 ∨ W = 4) with rfl | rfl | rfl <;> rcases (by omega : H = 2 ∨ H = 3 ∨ H = 4) with rfl | rfl | rfl <;> (
      simp (disch := omega) only [qdv_ok, jdiv_ok, jrem_ok, w32_ok, gaim]
      refine congrArg (fun z => some (z, w)) ?_
      simp only [Int.reduceEq, reduceIte]
      omega)
  · obtain ⟨⟨x, y⟩, z, u⟩ := g
    rw [qdv_ok (by omega), qdv_ok (by omega), if_neg (by decide), if_neg (by decide), if_neg (by decide), qbd hn]
    rfl
theorem m_patternTo (h : w 89 0 = W ∧ w 89 1 = H) (g : gIn W H) (v0 : 0 ≤ v) (v1 : v < W * H) (k0 : 0 ≤ k) (k1 : k ≤ 4) : f_M_patternTo k p v w = some (gto W H k p v, w) := by
  have hN := gN g
  have hn := mg_nextOf h g v0 v1 (show (0 : Int) ≤ 0 by decide) (by decide)
  have hno := mg_nodes h g
  unfold f_M_patternTo
  simp (disch := decide) only [qld_ok]
  rw [h.1, h.2]
  rcases (by omega : k = 0 ∨ k = 1 ∨ k = 2 ∨ k = 3 ∨ k = 4) with rfl | rfl | rfl | rfl | rfl
  · obtain ⟨⟨x, y⟩, z, u⟩ := g
    rcases (by omega : W = 2 ∨ W = 3 ∨ W = 4) with rfl | rfl | rfl <;> rcases (by omega : H = 2 ∨ H = 3 ∨ H = 4) with rfl | rfl | rfl <;> (
      simp (disch := omega) only [qdv_ok, jdiv_ok, jrem_ok, w32_ok, gto, gaim]
      refine congrArg (fun z => some (z, w)) ?_
      simp only [Int.reduceEq, reduceIte])
  · obtain ⟨⟨x, y⟩, z, u⟩ := g
    rw [qdv_ok (by omega), qdv_ok (by omega), if_neg (by decide), if_pos rfl, qbd hno]
    dsimp only
    rw [w32_ok (z := W * H - 1) (by omega) (by omega), w32_ok (by omega) (by omega)]
    rfl
  · obtain ⟨⟨x, y⟩, z, u⟩ := g
    rcases (by omega : W = 2 ∨ W = 3 ∨ W = 4) with rfl | rfl | rfl <;> rcases (by omega : H = 2 ∨ H = 3 ∨ H = 4) with rfl | rfl | rfl <;> (
      simp (disch := omega) only [qdv_ok, jdiv_ok, jrem_ok, w32_ok, gto, gaim]
      refine congrArg (fun z => some (z, w)) ?_
      simp only [Int.reduceEq, reduceIte])
  · obtain ⟨⟨x, y⟩, z, u⟩ := g
    rw [qdv_ok (by omega), qdv_ok (by omega), if_neg (by decide), if_neg (by decide), if_neg (by decide), if_pos rfl, qbd hn]
    rfl
  · obtain ⟨⟨x, y⟩, z, u⟩ := g
    rw [qdv_ok (by omega), qdv_ok (by omega), if_neg (by decide), if_neg (by decide), if_neg (by decide), if_neg (by decide)]
    rfl
theorem gto_in (g : gIn W H) (v0 : 0 ≤ v) (v1 : v < W * H) (k0 : 0 ≤ k) (k1 : k ≤ 4) (hp : k = 4 → 0 ≤ p ∧ p < W * H) : 0 ≤ gto W H k p v ∧ gto W H k p v < W * H := by
  unfold gto
  by_cases e : k = 4
  · rw [if_pos e]; exact hp e
  · rw [if_neg e]; exact gaim_in g v0 v1 k0 (by omega)
theorem sso_01 : 0 ≤ (sso S a b).1 ∧ (sso S a b).1 ≤ 1 := by
  unfold sso
  split <;> (dsimp only; omega)
/-- what keeps -/
def KS (S : qMem) (T : qMem) : Prop := IV T ∧ T 1 = S 1 ∧ T 0 10 = S 0 10
theorem KS.so (h : KS S T) : KS S (sso T a b).2 := ⟨h.1.so, by rw [sso_1]; exact h.2.1, by rw [sso_0 (by decide)]; exact h.2.2⟩
theorem x_pat32 (hx : NX 2 w S) (I : IV S) (k0 : 0 ≤ k) (k1 : k ≤ 4) (hp : k = 4 → 0 ≤ p ∧ p < S 1 3 * S 1 4) : kT (f_X_pattern_32 qFU k p 0 0 w) (fun r => r.1 = (spa S k p).2 ∧ NX 2 r.2 (spa S k p).1 ∧ F2 w r.2) := by
  have hN := gN I.1.1
  have := it2 (N := S 1 3 * S 1 4) (L := fun m x (s : Int × qMem) => f_X_pattern_32 m k p s.1 x s.2) (ex := fun s => some s) (g := spa1 k p) (R := fun x s t => (NX 2 s.2 t.1 ∧ FN 2 w s.2) ∧ KS S t.1 ∧ s.1 = t.2 ∧ 0 ≤ t.2 ∧ t.2 ≤ x)
    (by
      intro m x s t x0 x1 ⟨⟨h1, h2⟩, h3, h4, h5, h6⟩
      have e5 : s.2 3 5 = S 1 3 * S 1 4 := by rw [h1.2.2.1.1, h3.2.1]
      have x1' : x < t.1 1 3 * t.1 1 4 := by rw [h3.2.1]; exact x1
      have hto := gto_in (p := p) h3.1.1.1 x0 x1' k0 k1 (by rw [h3.2.1]; exact hp)
      have h63 : ∃ w2 : Int × qMem, ((NX 2 w2.2 (spa1 k p t x).1 ∧ FN 2 w w2.2) ∧ KS S (spa1 k p t x).1 ∧ w2.1 = (spa1 k p t x).2 ∧ 0 ≤ (spa1 k p t x).2 ∧ (spa1 k p t x).2 ≤ x + 1) ∧ f_X_pattern_63 (f_X_pattern_32 m) (gto (t.1 1 3) (t.1 1 4) k p x) k p s.1 x s.2 = f_X_pattern_32 m k p w2.1 (x + 1) w2.2 := by
        unfold f_X_pattern_63 spa1
        by_cases e : gto (t.1 1 3) (t.1 1 4) k p x = x
        · rw [if_pos e, if_pos e, w32_ok (z := x + 1) (by omega) (by omega)]
          exact ⟨s, ⟨⟨h1, h2⟩, h3, h4, h5, by omega⟩, rfl⟩
        · obtain ⟨r, q, a1, a2, a3⟩ := n_admitOrLose (a := x) (b := gto (t.1 1 3) (t.1 1 4) k p x) h1 h3.1
          have h01 := sso_01 (S := t.1) (a := x) (b := gto (t.1 1 3) (t.1 1 4) k p x)
          rw [if_neg e, if_neg e, qbd q, w32_ok (z := x + 1) (by omega) (by omega), w32_ok (z := s.1 + r.1) (by omega) (by omega)]
          exact ⟨(s.1 + r.1, r.2), ⟨⟨a2, h2.tr a3⟩, h3.so, by dsimp only; omega, by dsimp only; omega, by dsimp only; omega⟩, rfl⟩
      obtain ⟨w2, hr, e63⟩ := h63
      refine ⟨w2, hr, ?_⟩
      rw [f_X_pattern_32, e5, if_pos x1]
      by_cases e4 : k = 4
      · rw [if_pos e4]
        have : gto (t.1 1 3) (t.1 1 4) k p x = p := by unfold gto; rw [if_pos e4]
        rw [this] at e63
        exact e63
      · rw [if_neg e4, qbd (g_aimOf (o := 3) h1.2 h3.1.1.1 x0 x1' k0 (by omega))]
        have : gto (t.1 1 3) (t.1 1 4) k p x = gaim (t.1 1 3) (t.1 1 4) k x := by unfold gto; rw [if_neg e4]
        rw [this] at e63
        exact e63)
    (by
      intro m s t ⟨⟨h1, h2⟩, h3, _⟩
      have e5 : s.2 3 5 = S 1 3 * S 1 4 := by rw [h1.2.2.1.1, h3.2.1]
      show f_X_pattern_32 (m + 1) k p s.1 _ s.2 = _
      rw [f_X_pattern_32, e5, if_neg (by omega)])
    (w := (0, w)) (s := (S, 0)) ⟨⟨hx, FN.rfl'⟩, ⟨I, rfl, rfl⟩, rfl, by dsimp only; omega, by dsimp only; omega⟩ (by omega) (by omega)
  obtain ⟨s, ⟨⟨h1, h2⟩, h3, h4, -⟩, q⟩ := this
  exact ⟨s, q, h4, h1, F2.of h2⟩
theorem m_pat29 (hR : RM w S) (I : IV S) (X : IX S) (k0 : 0 ≤ k) (k1 : k ≤ 4) (hp : k = 4 → 0 ≤ p ∧ p < S 1 3 * S 1 4) : kT (f_M_pattern_29 qFU k p 0 0 w) (fun r => (r.1 = (spa S k p).2 ∧ RM r.2 (spa S k p).1 ∧ FM w r.2) ∧ KS S (spa S k p).1 ∧ IX (spa S k p).1) := by
  have hN := gN I.1.1
  have := it2 (N := S 1 3 * S 1 4) (L := fun m x (s : Int × qMem) => f_M_pattern_29 m k p s.1 x s.2) (ex := fun s => some s) (g := spa1 k p) (R := fun x s t => (RM s.2 t.1 ∧ FM w s.2) ∧ (KS S t.1 ∧ IX t.1) ∧ s.1 = t.2 ∧ 0 ≤ t.2 ∧ t.2 ≤ x)
    (by
      intro m x s t x0 x1 ⟨⟨h1, h2⟩, ⟨h3, h3x⟩, h4, h5, h6⟩
      have x1' : x < t.1 1 3 * t.1 1 4 := by rw [h3.2.1]; exact x1
      have hto := gto_in (p := p) h3.1.1.1 x0 x1' k0 k1 (by rw [h3.2.1]; exact hp)
      rw [f_M_pattern_29, qbd (mg_nodes h1.wh h3.1.1.1)]
      dsimp only
      rw [if_pos x1', qbd (m_patternTo h1.wh h3.1.1.1 x0 x1' k0 k1)]
      dsimp only
      unfold f_M_pattern_68 spa1
      by_cases e : gto (t.1 1 3) (t.1 1 4) k p x = x
      · rw [if_pos e, if_pos e, w32_ok (z := x + 1) (by omega) (by omega), Int.add_zero, w32_ok (z := s.1) (by omega) (by omega)]
        exact ⟨s, ⟨⟨h1, h2⟩, ⟨h3, h3x⟩, h4, h5, by omega⟩, rfl⟩
      · obtain ⟨r, q, a1, a2, a3⟩ := m_sendsOrNot (a := x) (b := gto (t.1 1 3) (t.1 1 4) k p x) h1 h3.1 h3x ⟨x0, x1'⟩ hto (fun z => e z.symm)
        have h01 := sso_01 (S := t.1) (a := x) (b := gto (t.1 1 3) (t.1 1 4) k p x)
        rw [if_neg e, if_neg e, qbd q, w32_ok (z := x + 1) (by omega) (by omega), w32_ok (z := s.1 + r.1) (by omega) (by omega)]
        exact ⟨(s.1 + r.1, r.2), ⟨⟨a2, h2.tr a3⟩, ⟨h3.so, h3x.so h3.1⟩, by dsimp only; omega, by dsimp only; omega, by dsimp only; omega⟩, rfl⟩)
    (by
      intro m s t ⟨⟨h1, h2⟩, ⟨h3, _⟩, _⟩
      show f_M_pattern_29 (m + 1) k p s.1 _ s.2 = _
      rw [f_M_pattern_29, qbd (mg_nodes h1.wh h3.1.1.1)]
      dsimp only
      rw [h3.2.1, if_neg (by omega)])
    (w := (0, w)) (s := (S, 0)) ⟨⟨hR, FM.rfl'⟩, ⟨⟨I, rfl, rfl⟩, X⟩, rfl, by dsimp only; omega, by dsimp only; omega⟩ (by omega) (by omega)
  obtain ⟨s, ⟨⟨h1, h2⟩, ⟨h3, h3x⟩, h4, -⟩, q⟩ := this
  exact ⟨s, q, ⟨h4, h1, h2⟩, h3, h3x⟩
end SH
