/-! shower: both sides -/
section SX
variable {w w' S T s : qMem} {n a b c v D x k p D1 D2 f g N y : Int} {m : Nat}
theorem x_show_step (h1 : NX 2 s T) (K : KS S T) (hN : T 1 3 * T 1 4 = N) (N0 : 4 ≤ N) (N1 : N ≤ 16) (d1 : f_X_draw N s = some (f, qud s 1 6 D1)) (d2 : f_X_draw (N - 1) (qud s 1 6 D1) = some (g, qud (qud s 1 6 D1) 1 6 D2)) (hg : 0 ≤ g ∧ g < N - 1) (x0 : 0 ≤ x) (x60 : x < 60) (x1 : x < n) (y0 : 0 ≤ y) (y1 : y ≤ x) :
    ∃ w2 : Int × qMem, ((NX 2 w2.2 (sso T f (if g < f then g else g + 1)).2 ∧ FX1 s w2.2 ∧ w2.2 1 6 = D2) ∧ KS S (sso T f (if g < f then g else g + 1)).2 ∧ w2.1 = y + (sso T f (if g < f then g else g + 1)).1 ∧ 0 ≤ y + (sso T f (if g < f then g else g + 1)).1 ∧ y + (sso T f (if g < f then g else g + 1)).1 ≤ x + 1) ∧ f_X_shower_16 (m + 1) n y x s = f_X_shower_16 m n w2.1 (x + 1) w2.2 := by
  have hx2 : NX 2 (qud (qud s 1 6 D1) 1 6 D2) T := h1.o1.o1
  have fin : ∀ g', ∃ w2 : Int × qMem, ((NX 2 w2.2 (sso T f g').2 ∧ FX1 s w2.2 ∧ w2.2 1 6 = D2) ∧ KS S (sso T f g').2 ∧ w2.1 = y + (sso T f g').1 ∧ 0 ≤ y + (sso T f g').1 ∧ y + (sso T f g').1 ≤ x + 1) ∧ f_X_shower_59 (f_X_shower_16 m) n y x f g' (qud (qud s 1 6 D1) 1 6 D2) = f_X_shower_16 m n w2.1 (x + 1) w2.2 := by
    intro g'
    obtain ⟨r, q, a1, a2, a3⟩ := n_admitOrLose (a := f) (b := g') hx2 K.1
    have h01 := sso_01 (S := T) (a := f) (b := g')
    have e16 : r.2 1 6 = D2 := by rw [a3 1 (by omega), qud_s]
    have hk : KS S (sso T f g').2 := K.so
    clear hx2 hN N0 N1 d1 d2 hg
    generalize hz : (sso T f g').1 = z at *
    unfold f_X_shower_59
    rw [qbd q, a1, w32_ok (z := x + 1) (by omega) (by omega), w32_ok (z := y + z) (by omega) (by omega)]
    exact ⟨(y + z, r.2), ⟨⟨a2, (FX1.rfl'.q.q).tr (FX1.of' a3), e16⟩, hk, rfl, by omega, by omega⟩, rfl⟩
  rw [f_X_shower_16, if_pos x1, show s 3 5 = N from h1.2.2.1.1.trans hN, qbd d1]
  dsimp only
  rw [show qud s 1 6 D1 3 5 = N from by rw [qud_nk (by decide)]; exact h1.2.2.1.1.trans hN, w32_ok (z := N - 1) (by omega) (by omega), qbd d2]
  dsimp only
  by_cases c : g < f
  · rw [if_pos c, if_pos c]
    exact fin _
  · rw [if_neg c, if_neg c, w32_ok (z := g + 1) (by omega) (by omega)]
    exact fin _
theorem m_show_step (h1 : RM s T) (K : KS S T) (X : IX T) (hN : T 1 3 * T 1 4 = N) (N0 : 4 ≤ N) (N1 : N ≤ 16) (d1 : f_M_drawOf N s = some (f, qud s 88 2 D1)) (d2 : f_M_drawOf (N - 1) (qud s 88 2 D1) = some (g, qud (qud s 88 2 D1) 88 2 D2)) (hf : 0 ≤ f ∧ f < N) (hg : 0 ≤ g ∧ g < N - 1) (x0 : 0 ≤ x) (x60 : x < 60) (x1 : x < n) (y0 : 0 ≤ y) (y1 : y ≤ x) :
    ∃ w2 : Int × qMem, ((RM w2.2 (sso T f (if g < f then g else g + 1)).2 ∧ FM1 s w2.2 ∧ w2.2 88 2 = D2) ∧ (KS S (sso T f (if g < f then g else g + 1)).2 ∧ IX (sso T f (if g < f then g else g + 1)).2) ∧ w2.1 = y + (sso T f (if g < f then g else g + 1)).1 ∧ 0 ≤ y + (sso T f (if g < f then g else g + 1)).1 ∧ y + (sso T f (if g < f then g else g + 1)).1 ≤ x + 1) ∧ f_M_shower_16 (m + 1) n y x s = f_M_shower_16 m n w2.1 (x + 1) w2.2 := by
  have hr1 : RM (qud s 88 2 D1) T := h1.out (by decide)
  have hx2 : RM (qud (qud s 88 2 D1) 88 2 D2) T := hr1.out (by decide)
  have fin : ∀ g', 0 ≤ g' → g' < N → f ≠ g' → ∃ w2 : Int × qMem, ((RM w2.2 (sso T f g').2 ∧ FM1 s w2.2 ∧ w2.2 88 2 = D2) ∧ (KS S (sso T f g').2 ∧ IX (sso T f g').2) ∧ w2.1 = y + (sso T f g').1 ∧ 0 ≤ y + (sso T f g').1 ∧ y + (sso T f g').1 ≤ x + 1) ∧ f_M_shower_63 (f_M_shower_16 m) y f g' n x (qud (qud s 88 2 D1) 88 2 D2) = f_M_shower_16 m n w2.1 (x + 1) w2.2 := by
    intro g' g0 g1 gne
    obtain ⟨r, q, a1, a2, a3⟩ := m_sendsOrNot (a := f) (b := g') hx2 K.1 X (by rw [hN]; exact hf) (by rw [hN]; exact ⟨g0, g1⟩) gne
    have h01 := sso_01 (S := T) (a := f) (b := g')
    have e16 : r.2 88 2 = D2 := by rw [a3 88 (by decide), qud_s]
    have hk : KS S (sso T f g').2 := K.so
    have hX : IX (sso T f g').2 := X.so K.1
    clear hx2 hN N0 N1 d1 d2 hg
    generalize hz : (sso T f g').1 = z at *
    unfold f_M_shower_63
    rw [qbd q, a1, w32_ok (z := x + 1) (by omega) (by omega), w32_ok (z := y + z) (by omega) (by omega)]
    exact ⟨(y + z, r.2), ⟨⟨a2, (FM1.rfl'.q.q).tr (FM1.of a3), e16⟩, ⟨hk, hX⟩, rfl, by omega, by omega⟩, rfl⟩
  rw [f_M_shower_16, if_pos x1, qbd (mg_nodes h1.wh K.1.1.1), hN]
  dsimp only
  rw [qbd d1]
  dsimp only
  rw [qbd (mg_nodes hr1.wh K.1.1.1), hN]
  dsimp only
  rw [w32_ok (z := N - 1) (by omega) (by omega), qbd d2]
  dsimp only
  by_cases c : g < f
  · rw [if_pos c, if_pos c]
    exact fin _ hg.1 (by omega) (by omega)
  · rw [if_neg c, if_neg c, w32_ok (z := g + 1) (by omega) (by omega)]
    exact fin _ (by omega) (by omega) (by omega)
theorem ssw1_e {t : qMem × Int × Int} {f g : Int} (hf : dv t.2.1 (t.1 1 3 * t.1 1 4) = f) (hg : dv (dn t.2.1) (t.1 1 3 * t.1 1 4 - 1) = g) : ssw1 t = ((sso t.1 f (if g < f then g else g + 1)).2, dn (dn t.2.1), t.2.2 + (sso t.1 f (if g < f then g else g + 1)).1) := by
  rw [ssw1_d, hf, hg]
end SX
