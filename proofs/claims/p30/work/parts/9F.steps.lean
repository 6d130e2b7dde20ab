/-! a call of each side, from a state in which both agree to such a state -/
def GIS (c : Int) (S w0 w : qMem) : Prop := (NX 2 w S ∧ RM w S) ∧ (IV S ∧ IX S ∧ S 0 10 ≤ 100 * c) ∧ (RGx w ∧ GLo w ∧ mWb (24 * c) w) ∧ w 1 6 = w 88 2 ∧ ∀ j, j ≠ -2 → w 0 j = w0 0 j
def GI (c : Int) (w0 w : qMem) : Prop := ∃ S, GIS c S w0 w
/-- a call of the class, then the same of the reference -/
def stp (c : Int) (w0 : qMem) (FX FM : qMem → Option (Int × qMem)) (Q : Int → Int → Prop) (w : qMem) : Prop := kT (FX w) (fun r1 => (∀ j, j ≠ -2 → r1.2 0 j = w 0 j) ∧ kT (FM r1.2) (fun r2 => GI (c + 1) w0 r2.2 ∧ Q r1.1 r2.1))
section SP
variable {w w1 w2 w0 S S' : qMem} {c x y a b d e r u v n k p t i l D : Int} {FX FM : qMem → Option (Int × qMem)} {Q : Int → Int → Prop}
theorem mWb.mono (h : mWb a w) (hab : a ≤ b) : mWb b w := fun s s0 s1 => by
  have := h s s0 s1
  omega
theorem RM.of89 (h : RM w S) (e : w1 89 = w 89) : RM w1 S := h.fr (fun j _ _ => by rw [e])
theorem GLo.fr (h : GLo w) (e0 : w1 0 (-2) = w 0 (-2)) (e81 : w1 81 = w 81) (e102 : w1 102 = w 102) : GLo w1 := by
  unfold GLo
  rw [e0, e81, e102]
  exact h
theorem RGx.fr (h : RGx w) (e : ∀ k, 38 ≤ k → k ≤ 41 → w1 k = w k) : RGx w1 := by
  obtain ⟨W, H, g, hG⟩ := h
  exact ⟨W, H, g, hG.fr (fun k k0 k1 => e k k0 (by omega))⟩
/-- all but what nobody asks is as it was -/
theorem GIS.fr (h : GIS c S w0 w) (hn : ∀ k, 1 ≤ k → k ≤ 36 → w1 k = w k) (h0 : ∀ j, j ≠ -2 → w1 0 j = w 0 j) (hR : RM w1 S) (h2 : w1 88 2 = w 88 2) (g : RGx w1) (hl : GLo w1) (hw : mWb (24 * (c + 1)) w1) : GIS (c + 1) S w0 w1 := by
  refine ⟨⟨h.1.1.fr (fun k a b => hn k (by omega) (by omega)), hR⟩, ⟨h.2.1.1, h.2.1.2.1, ?_⟩, ⟨g, hl, hw⟩, ?_, fun j hj => (h0 j hj).trans (h.2.2.2.2 j hj)⟩
  · have := h.2.1.2.2
    omega
  · rw [hn 1 (by decide) (by decide), h2]
    exact h.2.2.2.1
theorem GIS.up (h : GIS c S w0 w) : GIS (c + 1) S w0 w := h.fr (fun _ _ _ => rfl) (fun _ _ => rfl) h.1.2 rfl h.2.2.1.1 h.2.2.1.2.1 (h.2.2.1.2.2.mono (by omega))
/-- the state has changed on both sides -/
theorem GIS.ch (h : GIS c S w0 w) (hx : NX 2 w1 S') (f1 : FX1 w w1) (hr : RM w2 S') (f2 : FM1 w1 w2) (I : IV S') (X : IX S') (hc : S' 0 10 ≤ 100 * (c + 1)) (hd : w2 1 6 = w2 88 2) : GIS (c + 1) S' w0 w2 := by
  have e : ∀ k, 37 ≤ k → k ≠ 88 → k ≠ 89 → w2 k = w k := fun k a b c => (f2 k b c).trans (f1 k (by omega))
  have e0 : w2 0 = w 0 := (f2 0 (by decide) (by decide)).trans (f1 0 (by decide))
  refine ⟨⟨hx.fr (fun k a b => f2 k (by omega) (by omega)), hr⟩, ⟨I, X, hc⟩, ⟨h.2.2.1.1.fr (fun k a b => e k (by omega) (by omega) (by omega)), h.2.2.1.2.1.fr (by rw [e0]) (e 81 (by decide) (by decide) (by decide)) (e 102 (by decide) (by decide) (by decide)), ?_⟩, hd, fun j hj => by rw [e0]; exact h.2.2.2.2 j hj⟩
  unfold mWb
  rw [e 99 (by decide) (by decide) (by decide)]
  exact h.2.2.1.2.2.mono (by omega)
theorem stp_q (h : GIS c S w0 w) (e1 : FX w = some (x, w)) (e2 : FM w = some (y, w)) (hQ : Q x y) : stp c w0 FX FM Q w := ⟨(x, w), e1, fun _ _ => rfl, (y, w), e2, ⟨S, h.up⟩, hQ⟩
theorem stp_sA (h : GIS c S w0 w) (a : sA w (FX w)) (b : sA w (FM w)) : stp c w0 FX FM (fun _ _ => True) w := by
  obtain ⟨x, a⟩ := a
  obtain ⟨y, b⟩ := b
  exact stp_q h a b trivial
theorem st_torus (h : GIS c S w0 w) (c0 : 0 ≤ c) : stp c w0 (f_X_torus a b e d r u) (f_M_torus a b e d r u) (fun x y => x = y) w := by
  by_cases z : tok a b e d r u
  · refine kT_mono (x_torus_1 z) (fun r1 h1 => ⟨fun j _ => by rw [h1.2.2 0 (by decide)], ?_⟩)
    refine kT_mono (m_torus_1 z) (fun r2 h2 => ⟨⟨_, h.ch h1.2.1 (FX1.of h1.2.2) h2.2.1 (FM1.of h2.2.2) (IV.bg z.1.1 z.1.2) IX.bg ?_ ?_⟩, by rw [h1.1, h2.1]⟩)
    · have e10 : sbg a b e d r u 0 10 = 0 := rfl
      rw [e10]
      omega
    · rw [h2.2.2 1 (by decide), h2.2.2 88 (by decide), h1.2.2 1 (by decide), h1.2.2 88 (by decide)]
      exact h.2.2.2.1
  · exact stp_q h (x_torus_0 z) (m_torus_0 z) rfl
theorem st_send (h : GIS c S w0 w) : stp c w0 (f_X_send a b) (f_M_send a b) (fun x y => x = y) w := by
  have I := h.2.1.1
  refine kT_mono (x_send h.1.1 I) (fun r1 h1 => ⟨fun j _ => by rw [h1.2.2 0 (by decide)], ?_⟩)
  refine kT_mono (m_send (h.1.2.of89 (h1.2.2 89 (by decide))) I) (fun r2 h2 => ⟨⟨_, h.ch h1.2.1 (FX1.of h1.2.2) h2.2.1 (FM1.of h2.2.2) I.sa (h.2.1.2.1.sa I) ?_ ?_⟩, by rw [h1.1, h2.1]⟩)
  · rw [ssa_0.1]
    have := h.2.1.2.2
    omega
  · rw [h2.2.2 1 (by decide), h2.2.2 88 (by decide), h1.2.2 1 (by decide), h1.2.2 88 (by decide)]
    exact h.2.2.2.1
theorem st_shower (h : GIS c S w0 w) : stp c w0 (f_X_shower n) (f_M_shower n) (fun x y => x = y) w := by
  have I := h.2.1.1
  have X := h.2.1.2.1
  have hc := h.2.1.2.2
  refine kT_mono (x_shower (n := n) h.1.1 I rfl) (fun r1 h1 => ⟨fun j _ => by rw [h1.2.2 0 (by decide)], ?_⟩)
  have e88 : r1.2 88 2 = w 1 6 := by rw [h1.2.2 88 (by decide), h.2.2.2.1]
  refine kT_mono (m_shower (n := n) (h.1.2.of89 (h1.2.2 89 (by decide))) I X e88) (fun r2 h2 => ?_)
  have e16 : r2.2 1 6 = r1.2 1 6 := by rw [h2.2.2 1 (by decide) (by decide)]
  by_cases z : 1 ≤ n ∧ n ≤ 60
  · obtain ⟨a1, a2, a3⟩ := h1.1 z
    obtain ⟨⟨b1, b2, b3⟩, b4, b5⟩ := h2.1 z
    exact ⟨⟨_, h.ch a2 h1.2.2 b2 h2.2.2 b4.1 b5 (by rw [b4.2.2]; omega) (by rw [e16, a3, b3])⟩, by rw [a1, b1]⟩
  · obtain ⟨a1, a2, a3⟩ := h1.2.1 z
    obtain ⟨b1, b2, b3⟩ := h2.2.1 z
    exact ⟨⟨_, h.ch a2 h1.2.2 b2 h2.2.2 I X (by omega) (by rw [e16, a3, b3])⟩, by rw [a1, b1]⟩
theorem st_pattern (h : GIS c S w0 w) : stp c w0 (f_X_pattern k p) (f_M_pattern k p) (fun x y => x = y) w := by
  have I := h.2.1.1
  have X := h.2.1.2.1
  have hc := h.2.1.2.2
  refine kT_mono (x_pattern (k := k) (p := p) h.1.1 I) (fun r1 h1 => ⟨fun j _ => by rw [h1.2.2 0 (by decide)], ?_⟩)
  refine kT_mono (m_pattern (k := k) (p := p) (h.1.2.of89 (h1.2.2 89 (by decide))) I X) (fun r2 h2 => ?_)
  have hd : r2.2 1 6 = r2.2 88 2 := by
    rw [h2.2.2 1 (by decide), h2.2.2 88 (by decide), h1.2.2 1 (by decide), h1.2.2 88 (by decide)]
    exact h.2.2.2.1
  by_cases z : pok S k p
  · obtain ⟨a1, a2⟩ := h1.1 z
    obtain ⟨⟨b1, b2⟩, b4, b5⟩ := h2.1 z
    exact ⟨⟨_, h.ch a2 (FX1.of h1.2.2) b2 (FM1.of h2.2.2) b4.1 b5 (by rw [b4.2.2]; omega) hd⟩, by rw [a1, b1]⟩
  · obtain ⟨a1, a2⟩ := h1.2.1 z
    obtain ⟨b1, b2⟩ := h2.2.1 z
    exact ⟨⟨_, h.ch a2 (FX1.of h1.2.2) b2 (FM1.of h2.2.2) I X (by omega) hd⟩, by rw [a1, b1]⟩
theorem st_tick (h : GIS c S w0 w) (c1 : c ≤ 1000) : stp c w0 (f_X_tick n) (f_M_tick n) (fun x y => x = y) w := by
  have I := h.2.1.1
  have X := h.2.1.2.1
  have hc := h.2.1.2.2
  refine kT_mono (x_tick (n := n) h.1.1 I X.2.2.2 (by omega)) (fun r1 h1 => ⟨fun j _ => by rw [h1.2.2 0 (by decide)], ?_⟩)
  refine kT_mono (m_tick (n := n) (h.1.2.of89 (h1.2.2 89 (by decide))) I X (by omega)) (fun r2 h2 => ?_)
  have hd : r2.2 1 6 = r2.2 88 2 := by
    rw [h2.2.2 1 (by decide), h2.2.2 88 (by decide), h1.2.2 1 (by decide), h1.2.2 88 (by decide)]
    exact h.2.2.2.1
  by_cases z : 1 ≤ n ∧ n ≤ 100
  · obtain ⟨a1, a2, a3⟩ := h1.1 z
    obtain ⟨b1, b2, ⟨b3, b4, b5⟩, b6⟩ := h2.1 z
    refine ⟨⟨_, h.ch a3 (FX1.of h1.2.2) b2 (FM1.of h2.2.2) b3 b4 (by rw [b6]; omega) hd⟩, ?_⟩
    rw [b1, a2]
    have hs := X.2.2.2
    unfold w32 at hs ⊢
    omega
  · obtain ⟨a1, a2⟩ := h1.2.1 z
    obtain ⟨b1, b2⟩ := h2.2.1 z
    exact ⟨⟨_, h.ch a2 (FX1.of h1.2.2) b2 (FM1.of h2.2.2) I X (by omega) hd⟩, by rw [a1, b1]⟩
theorem st_state (h : GIS c S w0 w) : stp c w0 (f_X_state v) (f_M_state v) (fun x y => x = y) w := by
  obtain ⟨e1, n1, f1⟩ := x_state (v := v) h.1.1
  have hR : RM (qud w 1 6 v) S := h.1.2.of89 (qud_row (by decide))
  obtain ⟨e2, n2, f2⟩ := m_state (v := v) hR
  refine ⟨(w 1 6, qud w 1 6 v), e1, fun j _ => (qud_nk (by decide) : qud w 1 6 v 0 j = w 0 j), _, e2, ⟨S, h.ch n1 f1 n2 f2 h.2.1.1 h.2.1.2.1 ?_ ?_⟩, ?_⟩
  · have := h.2.1.2.2
    omega
  · show qud (qud w 1 6 v) 88 2 v 1 6 = qud (qud w 1 6 v) 88 2 v 88 2
    rw [qud_nk (by decide), qud_s, qud_s]
  · show w 1 6 = qud w 1 6 v 88 2
    rw [qud_nk (by decide)]
    exact h.2.2.2.1
theorem st_bound (h : GIS c S w0 w) : stp c w0 (f_X_bound v) (f_M_bound v) (fun x y => x = y) w := by
  have I := h.2.1.1
  refine kT_mono (x_bound (v := v) h.1.1) (fun r1 h1 => ⟨fun j _ => by rw [h1.2.2 0 (by decide)], ?_⟩)
  refine kT_mono (m_bound (v := v) (h.1.2.of89 (h1.2.2 89 (by decide)))) (fun r2 h2 => ⟨⟨_, h.ch h1.2.1 (FX1.of h1.2.2) h2.2.1 (FM1.of h2.2.2) I.bd h.2.1.2.1.bd ?_ ?_⟩, by rw [h1.1, h2.1]⟩)
  · rw [sbd_c]
    have := h.2.1.2.2
    omega
  · rw [h2.2.2 1 (by decide), h2.2.2 88 (by decide), h1.2.2 1 (by decide), h1.2.2 88 (by decide)]
    exact h.2.2.2.1
theorem st_packet (h : GIS c S w0 w) : stp c w0 (f_X_packet p x) (f_M_packet p x) (fun x y => x = y) w := stp_q h (x_packet h.1.1 h.2.1.1) (m_packet h.1.2 h.2.1.1) rfl
theorem st_queue (h : GIS c S w0 w) : stp c w0 (f_X_queue v l d i) (f_M_queue v l d i) (fun x y => x = y) w := stp_q h (x_queue h.1.1 h.2.1.1) (m_queue h.1.2 h.2.1.1) rfl
theorem st_next (h : GIS c S w0 w) : stp c w0 (f_X_next v d) (f_M_next v d) (fun x y => x = y) w := stp_q h (x_next h.1.1 h.2.1.1) (m_next h.1.2 h.2.1.1) rfl
theorem st_far (h : GIS c S w0 w) : stp c w0 (f_X_far v t) (f_M_far v t) (fun x y => x = y) w := stp_q h (x_far h.1.1 h.2.1.1) (m_far h.1.2 h.2.1.1) rfl
theorem st_profitable (h : GIS c S w0 w) : stp c w0 (f_X_profitable v t) (f_M_profitable v t) (fun x y => x = y) w := stp_q h (x_prof h.1.1 h.2.1.1) (m_prof h.1.2 h.2.1.1) rfl
theorem st_way (h : GIS c S w0 w) : stp c w0 (f_X_way v t i) (f_M_way v t i) (fun x y => x = y) w := stp_q h (x_way h.1.1 h.2.1.1) (m_way h.1.2 h.2.1.1) rfl
theorem st_ring (h : GIS c S w0 w) : stp c w0 (f_X_ring r x) (f_M_ring r x) (fun x y => x = y) w := stp_q h (x_ring h.1.1 h.2.1.1) (m_ring h.1.2 h.2.1.1) rfl
theorem st_ringOf (h : GIS c S w0 w) : stp c w0 (f_X_ringOf v d) (f_M_ringOf v d) (fun x y => x = y) w := stp_q h (x_ringOf h.1.1 h.2.1.1) (m_ringOf h.1.2 h.2.1.1) rfl
theorem st_hunger (h : GIS c S w0 w) : stp c w0 (f_X_hunger v d) (f_M_hunger v d) (fun x y => x = y) w := stp_q h (x_hunger h.1.1 h.2.1.1) (m_hunger h.1.2 h.2.1.1) rfl
theorem st_link (h : GIS c S w0 w) : stp c w0 (f_X_link v d) (f_M_link v d) (fun x y => x = y) w := stp_q h (x_link h.1.1 h.2.1.1) (m_link h.1.2 h.2.1.1) rfl
theorem st_trace (h : GIS c S w0 w) : stp c w0 (f_X_trace p x) (f_M_trace p x) (fun x y => x = y) w := stp_q h (x_trace h.1.1 h.2.1.1) (m_trace h.1.2 h.2.1.1) rfl
theorem st_enters (h : GIS c S w0 w) : stp c w0 (f_X_enters v d) (f_M_enters v d) (fun x y => x = y) w := stp_q h (x_enters h.1.1 h.2.1.1) (m_enters h.1.2 h.2.1.1) rfl
theorem st_move (h : GIS c S w0 w) : stp c w0 (f_X_move i x) (f_M_move i x) (fun _ _ => True) w := stp_q h (x_move h.1.1 h.2.1.1) (m_move h.1.2 h.2.1.1) trivial
theorem st_node (h : GIS c S w0 w) : stp c w0 (f_X_node v x) (f_M_node v x) (fun _ _ => True) w := stp_sA h (xs_node h.1.1 h.2.1.1) (ms_node h.1.2 h.2.1.1)
theorem st_pair (h : GIS c S w0 w) : stp c w0 (f_X_pair a b x) (f_M_pair a b x) (fun _ _ => True) w := stp_sA h (xs_pair h.1.1 h.2.1.1) (ms_pair h.1.2 h.2.1.1)
theorem st_late (h : GIS c S w0 w) : stp c w0 (f_X_late a b) (f_M_late a b) (fun _ _ => True) w := stp_sA h (xs_late h.1.1 h.2.1.1) (ms_late h.1.2 h.2.1.1)
theorem st_lates (h : GIS c S w0 w) : stp c w0 (f_X_lates a x) (f_M_lates a x) (fun _ _ => True) w := stp_sA h (xs_lates h.1.1 h.2.1.1) (ms_lates h.1.2 h.2.1.1)
theorem st_look (h : GIS c S w0 w) : stp c w0 (f_X_look x) (f_M_look x) (fun _ _ => True) w := stp_sA h (xs_look h.1.1 h.2.1.1) (ms_look h.1.2 h.2.1.1)
/-- both sides have thought, each in cells of its own -/
theorem GIS.o12 (h : GIS c S w0 w) (f1 : FO w w1) (f2 : FO1 w1 w2) : GIS (c + 1) S w0 w2 := by
  have e : ∀ k, k ≠ 73 → k ≠ 91 → w2 k = w k := fun k a b => (f2 k b).trans (f1 k a)
  refine h.fr (fun k a b => e k (by omega) (by omega)) (fun j _ => by rw [e 0 (by decide) (by decide)]) (h.1.2.of89 (e 89 (by decide) (by decide))) (by rw [e 88 (by decide) (by decide)]) (h.2.2.1.1.fr (fun k a b => e k (by omega) (by omega))) (h.2.2.1.2.1.fr (by rw [e 0 (by decide) (by decide)]) (e 81 (by decide) (by decide)) (e 102 (by decide) (by decide))) ?_
  unfold mWb
  rw [e 99 (by decide) (by decide)]
  exact h.2.2.1.2.2.mono (by omega)
theorem st_o {FX FM : qMem → Option (Int × qMem)} (h : GIS c S w0 w) (hx : kT (FX w) (fun r => FO w r.2)) (hm : ∀ w1, RM w1 S → kT (FM w1) (fun r => FO1 w1 r.2)) : stp c w0 FX FM (fun _ _ => True) w := by
  refine kT_mono hx (fun r1 h1 => ⟨fun j _ => by rw [h1 0 (by decide)], ?_⟩)
  exact kT_mono (hm r1.2 (h.1.2.of89 (h1 89 (by decide)))) (fun r2 h2 => ⟨⟨S, h.o12 h1 h2⟩, trivial⟩)
theorem st_goesOn (h : GIS c S w0 w) : stp c w0 (f_X_goesOn p) (f_M_goesOn p) (fun _ _ => True) w := st_o h (xs_goesOn h.1.1 h.2.1.1) (fun w1 hR => ms_goesOn hR h.2.1.1)
theorem st_stuck (h : GIS c S w0 w) : stp c w0 f_X_stuck f_M_stuck (fun _ _ => True) w := st_o h (xs_stuck h.1.1 h.2.1.1) (fun w1 hR => ms_stuck hR h.2.1.1)
theorem st_dead (h : GIS c S w0 w) : stp c w0 f_X_dead f_M_dead (fun _ _ => True) w := st_o h (xs_dead h.1.1 h.2.1.1) (fun w1 hR => ms_dead hR h.2.1.1)
theorem GIS.th (h : GIS c S w0 w) (f1 : F37 w w1) (g : RGx w1) (hR : RM w2 S) (f2 : FA w1 w2) : GIS (c + 1) S w0 w2 := by
  have e : ∀ k, (k < 37 ∨ 72 ≤ k) → k ≠ 89 → k ≠ 90 → w2 k = w k := fun k a b c => (f2 k b c).trans (f1 k a)
  refine h.fr (fun k a b => e k (by omega) (by omega) (by omega)) (fun j _ => by rw [e 0 (by decide) (by decide) (by decide)]) hR (by rw [e 88 (by decide) (by decide) (by decide)]) (g.fr (fun k a b => f2 k (by omega) (by omega))) (h.2.2.1.2.1.fr (by rw [e 0 (by decide) (by decide) (by decide)]) (e 81 (by decide) (by decide) (by decide)) (e 102 (by decide) (by decide) (by decide))) ?_
  unfold mWb
  rw [e 99 (by decide) (by decide) (by decide)]
  exact h.2.2.1.2.2.mono (by omega)
theorem st_through (h : GIS c S w0 w) (c1 : c ≤ 1000) : stp c w0 f_X_through f_M_through (fun _ _ => True) w := by
  have I := h.2.1.1
  have hc := h.2.1.2.2
  refine kT_mono (x_through h.1.1 I h.2.1.2.1 h.2.2.1.1 (by omega)) (fun r1 h1 => ⟨fun j _ => by rw [h1.1 0 (by decide)], ?_⟩)
  exact kT_mono (m_through (h.1.2.of89 (h1.1 89 (by decide))) I h.2.1.2.1 (by omega)) (fun r2 h2 => ⟨⟨S, h.th h1.1 h1.2 h2.1 h2.2⟩, trivial⟩)
theorem st_arrives (h : GIS c S w0 w) (c1 : c ≤ 1000) : stp c w0 (f_X_arrives a b) (f_M_arrives a b) (fun _ _ => True) w := by
  have I := h.2.1.1
  have hc := h.2.1.2.2
  refine kT_mono (x_arrives (a := a) (b := b) h.1.1 I h.2.1.2.1 h.2.2.1.1 (by omega)) (fun r1 h1 => ⟨fun j _ => by rw [h1.1 0 (by decide)], ?_⟩)
  exact kT_mono (m_arrives (a := a) (b := b) (h.1.2.of89 (h1.1 89 (by decide))) I h.2.1.2.1 (by omega)) (fun r2 h2 => ⟨⟨S, h.th h1.1 h1.2 h2.1 h2.2⟩, trivial⟩)
theorem st_schedules (h : GIS c S w0 w) : stp c w0 (f_X_schedules x) (f_M_schedules x) (fun _ _ => True) w := by
  have I := h.2.1.1
  refine kT_mono (x_schedules (x := x) h.1.1 I h.2.2.1.1) (fun r1 h1 => ⟨fun j _ => by rw [h1.1 0 (by decide)], ?_⟩)
  refine kT_mono (m_schedules (x := x) (h.1.2.of89 (h1.1 89 (by decide))) I) (fun r2 h2 => ⟨⟨S, ?_⟩, trivial⟩)
  obtain ⟨f1, g⟩ := h1
  obtain ⟨hR, f2, f3⟩ := h2
  have e : ∀ k, (k < 37 ∨ (72 ≤ k ∧ k < 74) ∨ 80 < k) → k ≠ 88 → k ≠ 89 → k ≠ 90 → k ≠ 92 → k ≠ 93 → k ≠ 94 → r2.2 k = w k := fun k a b c d e f g => (f2 k b c d e f g).trans (f1 k a)
  refine h.fr (fun k a b => e k (by omega) (by omega) (by omega) (by omega) (by omega) (by omega) (by omega)) (fun j _ => by rw [e 0 (by decide) (by decide) (by decide) (by decide) (by decide) (by decide) (by decide)]) hR ?_ (g.fr (fun k a b => f2 k (by omega) (by omega) (by omega) (by omega) (by omega) (by omega))) (h.2.2.1.2.1.fr (by rw [e 0 (by decide) (by decide) (by decide) (by decide) (by decide) (by decide) (by decide)]) (e 81 (by decide) (by decide) (by decide) (by decide) (by decide) (by decide) (by decide)) (e 102 (by decide) (by decide) (by decide) (by decide) (by decide) (by decide) (by decide))) ?_
  · rw [f3 2 (by decide) (by decide) (by decide), f1 88 (by decide)]
  · unfold mWb
    rw [e 99 (by decide) (by decide) (by decide) (by decide) (by decide) (by decide) (by decide)]
    exact h.2.2.1.2.2.mono (by omega)
theorem st_alone (h : GIS c S w0 w) (c0 : 0 ≤ c) (c1 : c ≤ 700) : stp c w0 (f_X_alone n e r x) (f_M_alone n e r x) (fun _ _ => True) w := by
  refine kT_mono (x_alone (n := n) (e := e) (x3 := r) (x4 := x) h.2.2.1.2.1) (fun r1 h1 => ⟨fun j hj => h1.2.2 j hj, ?_⟩)
  obtain ⟨hl, f1, f0⟩ := h1
  have hw1 : mWb (24 * c) r1.2 := by
    unfold mWb
    rw [f1 99 (by decide) (by decide)]
    exact h.2.2.1.2.2
  refine kT_mono (m_alone (n := n) (e := e) (r := r) (x := x) (B := 24 * c) (by omega) hw1) (fun r2 h2 => ⟨⟨S, ?_⟩, trivial⟩)
  obtain ⟨⟨f2, f3⟩, hw2⟩ := h2
  have e : ∀ k, k ≠ 0 → k ≠ 88 → (k < 81 ∨ (87 < k ∧ k < 95)) → r2.2 k = w k := fun k a b c => (f2 k b (by omega)).trans (f1 k a (by omega))
  have e0 : r2.2 0 = r1.2 0 := f2 0 (by decide) (by decide)
  refine h.fr (fun k a b => e k (by omega) (by omega) (by omega)) (fun j hj => by rw [e0]; exact f0 j hj) (h.1.2.of89 (e 89 (by decide) (by decide) (by decide))) ?_ (h.2.2.1.1.fr (fun k a b => e k (by omega) (by omega) (by omega))) (hl.fr (by rw [e0]) (f2 81 (by decide) (by decide)) (f2 102 (by decide) (by decide))) (hw2.mono (by omega))
  rw [f3 2 (by decide) (by decide) (by decide) (by decide) (by decide) (by decide) (by decide) (by decide) (by decide), f1 88 (by decide) (by decide)]
end SP
