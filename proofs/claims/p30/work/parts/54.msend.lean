/-! sending: the reference's -/
section SM
variable {w w' S T : qMem} {a b c d p q n v k : Int} {f : Nat}
theorem lv_spu (hq : 0 ≤ q ∧ q < 144) (hT : T 20 q < 6) (hl : lv (spu T q p) f n) : (f = 21 ∧ n = q * 6 + T 20 q) ∨ lv T f n := by
  unfold spu at hl
  rw [if_pos hT] at hl
  obtain ⟨l0, l1, l2, l3, l4, l5⟩ := hl
  simp only [qud_nk (show (5 : Nat) ≠ 20 by decide), qud_nk (show (5 : Nat) ≠ 21 by decide), qud_nk (show (1 : Nat) ≠ 20 by decide), qud_nk (show (1 : Nat) ≠ 21 by decide), qud_nk (show (22 : Nat) ≠ 20 by decide), qud_nk (show (22 : Nat) ≠ 21 by decide), qud_nk (show (12 : Nat) ≠ 20 by decide), qud_nk (show (12 : Nat) ≠ 21 by decide), qud_if, qud_nk (show (20 : Nat) ≠ 21 by decide)] at l1 l2 l3 l4 l5
  by_cases e3 : f = 21 ∧ n = q * 6 + T 20 q
  · exact Or.inl e3
  · refine Or.inr ⟨l0, l1, l2, fun hf => ?_, l4, l5⟩
    have := l3 hf
    by_cases e4 : n / 6 = q
    · rw [if_pos e4] at this
      rw [e4]; omega
    · rw [if_neg e4] at this
      exact this
theorem m_comes_eq (v0 : 0 ≤ v) (v1 : v < 16) (k0 : 0 ≤ k) (k1 : k < 9) (hw : w 89 (4266 + 7 * (v * 9 + k)) = c) (c0 : 0 ≤ c) (c1 : c < 6) : f_M_comes v k p w = some (qud (qud w 89 (4266 + 7 * (v * 9 + k)) (c + 1)) 89 (4266 + 7 * (v * 9 + k) + (c + 1)) p) := by
  unfold f_M_comes
  rw [qbd (m_queueAt v0 v1 k0 k1)]
  dsimp only
  rw [qld_ok (by omega) (by omega), qst_ok (by omega) (by omega), qld_ok (by omega) (by omega), qud_s, hw, w32_ok (z := c + 1) (by omega) (by omega), w32_ok (by omega) (by omega), qst_ok (by omega) (by omega)]
def swc (p : Int) (w wc : qMem) : Prop := ∀ k j, wc k j = if k = 89 ∧ 16 + 17 * p ≤ j ∧ j < 16 + 17 * p + 17 then 0 else w k j
def sw4 (S : qMem) (p : Int) : qMem := qud (qud (qud (qud S 9 p 0) 12 p 0) 14 p 0) 15 p 0
theorem m_send_1 {wc : qMem} (hR : RM w S) (hc : swc (S 5 13) w wc) (p0 : 0 ≤ S 5 13) (p1 : S 5 13 < 250) : RMP (fun f n => lv S f n ∨ ((f = 9 ∨ f = 12 ∨ f = 14 ∨ f = 15) ∧ n = S 5 13)) wc (sw4 S (S 5 13)) := by
  intro f n hv hp
  unfold sw4
  rcases hp with hl | ⟨hf, rfl⟩
  · have hc' := ad_c hv
    have l1 := hl.2.1
    have l2 := hl.2.2.1
    have hne : ∀ g : Nat, 6 ≤ g → g ≤ 17 → ¬ (f = g ∧ n = S 5 13) := fun g x y z' => by
      have := l1 (by omega) (by omega)
      omega
    rw [hc, if_neg (fun z' => by omega)]
    rw [show qud (qud (qud (qud S 9 (S 5 13) 0) 12 (S 5 13) 0) 14 (S 5 13) 0) 15 (S 5 13) 0 f n = S f n from by
      rw [show ∀ (T : qMem), qud T 15 (S 5 13) 0 f n = T f n from fun T => if_neg (hne 15 (by decide) (by decide)), show ∀ (T : qMem), qud T 14 (S 5 13) 0 f n = T f n from fun T => if_neg (hne 14 (by decide) (by decide)), show ∀ (T : qMem), qud T 12 (S 5 13) 0 f n = T f n from fun T => if_neg (hne 12 (by decide) (by decide)), show ∀ (T : qMem), qud T 9 (S 5 13) 0 f n = T f n from fun T => if_neg (hne 9 (by decide) (by decide))]]
    exact hR f n hl
  · rw [hc, ad_pk (by omega) (by omega), if_pos ⟨rfl, by omega, by omega⟩]
    rcases hf with rfl | rfl | rfl | rfl
    · rw [qud_nk (by decide), qud_nk (by decide), qud_nk (by decide), qud_s]
    · rw [qud_nk (by decide), qud_nk (by decide), qud_s]
    · rw [qud_nk (by decide), qud_s]
    · rw [qud_s]
def sw9 (w : qMem) (p a b c : Int) : qMem := qud (qud (qud (qud (qud (qud (qud (qud (qud w 89 (16 + 17 * p + 0) a) 89 (16 + 17 * p + 1) b) 89 (16 + 17 * p + 2) c) 89 (16 + 17 * p + 4) a) 89 (16 + 17 * p + 5) (-1)) 89 (16 + 17 * p + 7) (-1)) 89 (16 + 17 * p + 10) (-1)) 89 (16 + 17 * p + 11) (-1)) 89 (16 + 17 * p + 12) a
def sw3 (w : qMem) (p a n : Int) : qMem := qud (qud (qud w 89 (4266 + 7 * (a * 9 + 0)) (n + 1)) 89 (4266 + 7 * (a * 9 + 0) + (n + 1)) p) 89 7 (p + 1)
def sT9 (T : qMem) (p a b c : Int) : qMem := qud (qud (qud (qud (qud (qud (qud (qud (qud T 6 p a) 7 p b) 8 p c) 10 p a) 11 p (-1)) 13 p (-1)) 16 p (-1)) 17 p (-1)) 18 (p * 5) a
def sT3 (T : qMem) (p a n : Int) : qMem := qud (qud (qud T 20 (a * 9) (n + 1)) 21 (a * 9 * 6 + n) p) 5 13 (p + 1)
def sP9 (P : Nat → Int → Prop) (p : Int) : Nat → Int → Prop := fun f n => P f n ∨ (6 ≤ f ∧ f ≤ 17 ∧ (f = 6 ∨ f = 7 ∨ f = 8 ∨ f = 10 ∨ f = 11 ∨ f = 13 ∨ f = 16 ∨ f = 17) ∧ n = p) ∨ (f = 18 ∧ n = p * 5)
theorem RMP.mo {P Q : Nat → Int → Prop} (h : RMP P w S) (hq : ∀ f n, Q f n → P f n) : RMP Q w S := fun f n hv hp => h f n hv (hq f n hp)
theorem m_send_2 {P : Nat → Int → Prop} (H : RMP P w T) (p0 : 0 ≤ p) (p1 : p < 250) : RMP (sP9 P p) (sw9 w p a b c) (sT9 T p a b c) := by
  have hv : ∀ g : Nat, 6 ≤ g → g ≤ 17 → vv g p := fun g x y => by unfold vv; omega
  have hv18 : vv 18 (p * 5) := by unfold vv; omega
  have h18 : 16 + 17 * p + 12 = ad 18 (p * 5) := by rw [ad_18]; omega
  have had : ∀ (g : Nat) (i : Int), 6 ≤ g → g ≤ 17 → (g : Int) = i + 6 → 16 + 17 * p + i = ad g p := fun g i x y e => by rw [ad_pk x y]; omega
  clear p0 p1
  refine RMP.mo (((((((((H.u (f := 6) (hv 6 (by decide) (by decide)) (had 6 0 (by decide) (by decide) rfl)).u (f := 7) (hv 7 (by decide) (by decide)) (had 7 1 (by decide) (by decide) rfl)).u (f := 8) (hv 8 (by decide) (by decide)) (had 8 2 (by decide) (by decide) rfl)).u (f := 10) (hv 10 (by decide) (by decide)) (had 10 4 (by decide) (by decide) rfl)).u (f := 11) (hv 11 (by decide) (by decide)) (had 11 5 (by decide) (by decide) rfl)).u (f := 13) (hv 13 (by decide) (by decide)) (had 13 7 (by decide) (by decide) rfl)).u (f := 16) (hv 16 (by decide) (by decide)) (had 16 10 (by decide) (by decide) rfl)).u (f := 17) (hv 17 (by decide) (by decide)) (had 17 11 (by decide) (by decide) rfl)).u (f := 18) hv18 h18) (fun f n hp => ?_)
  rcases hp with hp | ⟨-, -, hp, rfl⟩ | hp
  · simp only [hp, true_or]
  · rcases hp with rfl | rfl | rfl | rfl | rfl | rfl | rfl | rfl <;> simp only [and_self, true_or, or_true]
  · simp only [hp, and_self, true_or, or_true]
theorem m_send_3 {P : Nat → Int → Prop} (H : RMP P w T) (a0 : 0 ≤ a) (a1 : a < 16) (n0 : 0 ≤ n) (n1 : n < 6) : RMP (fun f m => P f m ∨ (f = 20 ∧ m = a * 9) ∨ (f = 21 ∧ m = a * 9 * 6 + n) ∨ (f = 5 ∧ m = 13)) (sw3 w p a n) (sT3 T p a n) := by
  refine RMP.mo (((H.u (f := 20) (n := a * 9) (by unfold vv; omega) (by rw [ad_20]; omega)).u (f := 21) (n := a * 9 * 6 + n) (by unfold vv; omega) (by rw [ad_21]; omega)).u (f := 5) (n := 13) vv_5_13 rfl) (fun f m hp => ?_)
  rcases hp with hp | hp | hp | hp <;> simp only [hp, and_self, true_or, or_true]
theorem m_send_4 (h20 : S 20 (a * 9) < 6) : ssd S a b = sT3 (sT9 (sw4 S (S 5 13)) (S 5 13) a b (S 0 10)) (S 5 13) a (S 20 (a * 9)) := by
  have hs20 : sap S a b (S 0 10) 20 = S 20 := sap_lo (by decide)
  unfold ssd spu
  rw [hs20, if_pos h20]
  unfold sap sT3 sT9 sw4
  exact qsame (B := S) [(5, _, _), (6, _, _), (7, _, _), (8, _, _), (9, _, _), (10, _, _), (11, _, _), (12, _, _), (13, _, _), (14, _, _), (15, _, _), (16, _, _), (17, _, _), (18, _, _), (21, _, _), (20, _, _)] [(9, _, _), (12, _, _), (14, _, _), (15, _, _), (6, _, _), (7, _, _), (8, _, _), (10, _, _), (11, _, _), (13, _, _), (16, _, _), (17, _, _), (18, _, _), (20, _, _), (21, _, _), (5, _, _)] rfl
theorem m_send_5 {wc : qMem} (hR : RM w S) (hc : swc (S 5 13) w wc) (p0 : 0 ≤ S 5 13) (p1 : S 5 13 < 250) (a0 : 0 ≤ a) (a1 : a < 16) (n0 : 0 ≤ S 20 (a * 9)) (n1 : S 20 (a * 9) < 6) : RM (sw3 (sw9 wc (S 5 13) a b (S 0 10)) (S 5 13) a (S 20 (a * 9))) (ssd S a b) := by
  have hs20 : sap S a b (S 0 10) 20 = S 20 := sap_lo (by decide)
  have H := m_send_3 (p := S 5 13) (m_send_2 (a := a) (b := b) (c := S 0 10) (m_send_1 hR hc p0 p1) p0 p1) a0 a1 n0 n1
  rw [← m_send_4 (b := b) n1] at H
  refine H.fin (fun f n hl => ?_)
  unfold ssd at hl
  rcases lv_spu (T := sap S a b (S 0 10)) ⟨by omega, by omega⟩ (by rw [hs20]; exact n1) hl with y | y
  · rw [hs20] at y
    exact Or.inr (Or.inr (Or.inl y))
  · rcases sap_lv y with e | e | ⟨x1, x2, x3⟩ | e
    · exact Or.inl (Or.inl (Or.inl e))
    · exact Or.inr (Or.inr (Or.inr e))
    · by_cases hf : f = 9 ∨ f = 12 ∨ f = 14 ∨ f = 15
      · exact Or.inl (Or.inl (Or.inr ⟨hf, x3⟩))
      · exact Or.inl (Or.inr (Or.inl ⟨x1, x2, by omega, x3⟩))
    · exact Or.inl (Or.inr (Or.inr e))
theorem m_send_6 {wc : qMem} (hc : swc p w wc) : FM w (sw3 (sw9 wc p a b c) p a n) := by
  intro k hk
  funext j
  unfold sw3 sw9
  rw [qud_nk hk, qud_nk hk, qud_nk hk, qud_nk hk, qud_nk hk, qud_nk hk, qud_nk hk, qud_nk hk, qud_nk hk, qud_nk hk, qud_nk hk, qud_nk hk, hc, if_neg (fun z' => hk z'.1)]
theorem m_send_7 {wc : qMem} (p0 : 0 ≤ p) (p1 : p < 250) (a0 : 0 ≤ a) (a1 : a < 16) (n0 : 0 ≤ n) (n1 : n < 6) (e6 : wc 89 6 = c) (e20 : wc 89 (4266 + 7 * (a * 9 + 0)) = n) (e7 : wc 89 7 = p) : f_M_sends_65 a b p (16 + 17 * p) wc = some (p, sw3 (sw9 wc p a b c) p a n) := by
  have h0 : ∀ i j : Int, 0 ≤ i → i ≤ 12 → j < 16 → ∀ (W : qMem) (x : Int), qud W 89 (16 + 17 * p + i) x 89 j = W 89 j := fun i j x y z W u => qud_ni (by omega)
  have h2 : ∀ i j : Int, 0 ≤ i → i ≤ 12 → 4266 ≤ j → ∀ (W : qMem) (x : Int), qud W 89 (16 + 17 * p + i) x 89 j = W 89 j := fun i j x y z W u => qud_ni (by omega)
  have ew : ∀ i : Int, 0 ≤ i → i ≤ 12 → w32 (16 + 17 * p + i) = 16 + 17 * p + i := fun i x y => w32_ok (by omega) (by omega)
  have es : ∀ (i : Int), 0 ≤ i → i ≤ 12 → ∀ (W : qMem) (x : Int) (K : qMem → Option (Int × qMem)), qst W 89 5898 (16 + 17 * p + i) x K = K (qud W 89 (16 + 17 * p + i) x) := fun i x y W u K => qst_ok (by omega) (by omega)
  have hcm := m_comes_eq (p := p) (v := a) (k := 0) (c := n) (w := sw9 wc p a b c) a0 a1 (by decide) (by decide)
    (by
      unfold sw9
      rw [h2 12 _ (by decide) (by decide) (by omega), h2 11 _ (by decide) (by decide) (by omega), h2 10 _ (by decide) (by decide) (by omega), h2 7 _ (by decide) (by decide) (by omega), h2 5 _ (by decide) (by decide) (by omega), h2 4 _ (by decide) (by decide) (by omega), h2 2 _ (by decide) (by decide) (by omega), h2 1 _ (by decide) (by decide) (by omega), h2 0 _ (by decide) (by decide) (by omega)]
      exact e20) n0 n1
  have e7' : sw9 wc p a b c 89 7 = p := by
    unfold sw9
    rw [h0 12 _ (by decide) (by decide) (by decide), h0 11 _ (by decide) (by decide) (by decide), h0 10 _ (by decide) (by decide) (by decide), h0 7 _ (by decide) (by decide) (by decide), h0 5 _ (by decide) (by decide) (by decide), h0 4 _ (by decide) (by decide) (by decide), h0 2 _ (by decide) (by decide) (by decide), h0 1 _ (by decide) (by decide) (by decide), h0 0 _ (by decide) (by decide) (by decide)]
    exact e7
  unfold f_M_sends_65
  rw [ew 0 (by decide) (by decide), ew 1 (by decide) (by decide), ew 2 (by decide) (by decide), ew 4 (by decide) (by decide), ew 5 (by decide) (by decide), ew 7 (by decide) (by decide), ew 10 (by decide) (by decide), ew 11 (by decide) (by decide), ew 12 (by decide) (by decide)]
  rw [es 0 (by decide) (by decide), es 1 (by decide) (by decide), qld_ok (by decide) (by decide), h0 1 _ (by decide) (by decide) (by decide), h0 0 _ (by decide) (by decide) (by decide), e6, es 2 (by decide) (by decide), es 4 (by decide) (by decide), es 5 (by decide) (by decide), es 7 (by decide) (by decide), es 10 (by decide) (by decide), es 11 (by decide) (by decide), es 12 (by decide) (by decide)]
  refine (qbd hcm).trans ?_
  rw [qld_ok (by decide) (by decide), qst_ok (by decide) (by decide), qud_ni (by omega), qud_ni (by omega), e7', w32_ok (by omega) (by omega)]
  rfl
theorem m_sends (hR : RM w S) (I : IV S) (ha : 0 ≤ a ∧ a < S 1 3 * S 1 4) (hb : 0 ≤ b ∧ b < S 1 3 * S 1 4) (hab : a ≠ b) : kT (f_M_sends a b w) (fun r => r.1 = (ssa S a b).1 ∧ RM r.2 (ssa S a b).2 ∧ FM w r.2) := by
  have hN := gN I.1.1
  have hcc := I.1.2.2.2.2.2.2.1
  have hno : ¬ svb S a b = true → kT (some ((-1 : Int), w)) (fun r => r.1 = (ssa S a b).1 ∧ RM r.2 (ssa S a b).2 ∧ FM w r.2) := by
    intro z
    unfold ssa
    rw [if_neg z]
    exact kT_some ⟨rfl, hR, FM.rfl'⟩
  have h20 := (I.w.2.2.2 (a * 9) (by omega) (by omega)).1
  unfold f_M_sends
  rw [qld_ok (by decide) (by decide), rm_5_13 hR]
  by_cases ec : S 5 13 = 250
  · rw [if_pos ec]
    exact hno (fun z => by have := (svb_t z).2.1; omega)
  · rw [if_neg ec]
    refine kT_eq (m_free hR I.w ha.1 (by omega) (by decide) (by decide)) ?_
    dsimp only
    rw [cp_0, Int.add_zero]
    by_cases eq : 6 - S 20 (a * 9) = 0
    · rw [if_pos eq]
      exact hno (fun z => by have := (svb_t z).2.2; omega)
    · have z : svb S a b = true := svb_i ⟨⟨ha, hb, hab⟩, by omega, by omega⟩
      rw [if_neg eq, qld_ok (by decide) (by decide), rm_5_13 hR]
      refine kT_eq (m_packetAt hcc.1 (by omega)) ?_
      dsimp only
      obtain ⟨wc, hc, e41⟩ := m_clear17 (w := w) (x1 := a) (x2 := b) (x3 := S 5 13) (p := S 5 13) hcc.1 (by omega)
      rw [e41]
      have e1 : (ssa S a b).1 = S 5 13 := by unfold ssa; rw [if_pos z]
      have e2 : (ssa S a b).2 = ssd S a b := by unfold ssa; rw [if_pos z]
      rw [m_send_7 hcc.1 (by omega) ha.1 (by omega) h20.1 (by omega) (c := S 0 10) (n := S 20 (a * 9)) (by rw [hc, if_neg (by omega), rm_0_10 hR]) (by rw [hc, if_neg (by omega)]; exact rm_20 hR (by omega) (by omega) (by omega)) (by rw [hc, if_neg (by omega), rm_5_13 hR]), e1, e2]
      exact kT_some ⟨rfl, m_send_5 hR hc hcc.1 (by omega) ha.1 (by omega) h20.1 (by omega), m_send_6 hc⟩
theorem m_sendsOrNot (hR : RM w S) (I : IV S) (X : IX S) (ha : 0 ≤ a ∧ a < S 1 3 * S 1 4) (hb : 0 ≤ b ∧ b < S 1 3 * S 1 4) (hab : a ≠ b) : kT (f_M_sendsOrNot a b w) (fun r => r.1 = (sso S a b).1 ∧ RM r.2 (sso S a b).2 ∧ FM w r.2) := by
  have hcc := I.1.2.2.2.2.2.2.1
  unfold f_M_sendsOrNot
  refine kT_bind (m_sends hR I ha hb hab) (fun r hr => ?_)
  unfold sso f_M_sendsOrNot_15 f_M_sendsOrNot_33
  by_cases z : svb S a b = true
  · have e1 : (ssa S a b).1 = S 5 13 := by unfold ssa; rw [if_pos z]
    have e2 : (ssa S a b).2 = ssd S a b := by unfold ssa; rw [if_pos z]
    rw [hr.1, e1, if_neg (show ¬ S 5 13 = -1 by omega), if_neg (show ¬ S 5 13 = -1 by omega)]
    rw [e2] at hr
    have e12 : r.2 89 14 = S 0 12 := by rw [rm_0_12 hr.2.1, ssd_f (by decide) (by decide) (by decide) (by decide)]
    rw [qld_ok (by decide) (by decide), if_neg (by decide), qst_ok (by decide) (by decide), if_neg (by decide), e12, Int.add_zero, X.2.2.1, qud_self e12]
    exact kT_some ⟨rfl, hr.2.1, hr.2.2⟩
  · have e1 : (ssa S a b).1 = -1 := by unfold ssa; rw [if_neg z]
    have e2 : (ssa S a b).2 = S := by unfold ssa; rw [if_neg z]
    rw [hr.1, e1, if_pos rfl, if_pos rfl]
    rw [e2] at hr
    rw [qld_ok (by decide) (by decide), if_pos rfl, qst_ok (by decide) (by decide), if_pos rfl, rm_0_12 hr.2.1]
    exact kT_some ⟨rfl, hr.2.1.wr (f := 0) (n := 12) (a := 14) vv_0_12 rfl (by decide) (by decide) (by decide) (by decide) (by decide), hr.2.2.q⟩
end SM
