/-! one ring alone, the class: a state is opened, its steps are listed -/
def LV (n e g K r : Int) (w : qMem) : Prop := ((w 81 8 = n ∧ w 81 9 = e) ∧ w 81 10 = r ∧ w 81 11 = g) ∧ (∀ i : Nat, (i : Int) ≤ n → w 86 i = kp K i) ∧ w 81 6 = 102 ∧ w 81 7 = 103
/-- the state s is open -/
def LOp (n g K s : Int) (w : qMem) : Prop := (∀ v, 0 ≤ v → v < n → w 84 v = tc g (dg K s v) ∧ w 85 v = lq g (dg K s v)) ∧ w 81 12 = cr K n s
/-- what opening and listing leave -/
def LXo (w w' : qMem) : Prop := (∀ k : Nat, k ≠ 81 → k ≠ 84 → k ≠ 85 → k ≠ 87 → w' k = w k) ∧ ∀ j, j ≠ 12 → j ≠ 14 → j ≠ 15 → w' 81 j = w 81 j
section AZ
variable {w w' w0 w1 w2 : qMem} {n e g K N k x y l s v b p c r cnt t a z : Int} {i j m : Nat} {L : List Int} {h : Int → Int}
theorem kp_b (hk : nek n e g K N) : ∀ i : Nat, (i : Int) ≤ 4 → 1 ≤ kp K i ∧ kp K i ≤ 50625 := by
  have hb := hk.b
  have key : ∀ i : Nat, (i : Int) ≤ 4 → 1 ≤ kp K i ∧ kp K i ≤ pb i := by
    intro i
    induction i with
    | zero => intro _; exact ⟨Int.le_refl _, Int.le_refl _⟩
    | succ i ih =>
      intro hi
      have h1 := ih (by omega)
      have hp : pb (i : Int) * 15 = pb ((i + 1 : Nat) : Int) := by
        rcases (by omega : i = 0 ∨ i = 1 ∨ i = 2 ∨ i = 3) with rfl | rfl | rfl | rfl <;> decide
      have h2 : kp K i * 1 ≤ kp K i * K := Int.mul_le_mul_of_nonneg_left (by omega) (by omega)
      have h3 : kp K i * K ≤ kp K i * 15 := Int.mul_le_mul_of_nonneg_left (by omega) (by omega)
      show 1 ≤ kp K i * K ∧ kp K i * K ≤ pb ((i + 1 : Nat) : Int)
      omega
  intro i hi
  have h1 := key i hi
  have hp : pb (i : Int) ≤ 50625 := by
    rcases (by omega : i = 0 ∨ i = 1 ∨ i = 2 ∨ i = 3 ∨ i = 4) with rfl | rfl | rfl | rfl | rfl <;> decide
  omega
theorem dwk_kp (hK : 0 < K) : ∀ j : Nat, dwk K j s = s / kp K j := by
  have hp : ∀ j : Nat, 0 < kp K j := fun j => by
    induction j with
    | zero => show (0 : Int) < 1; decide
    | succ j ih => exact Int.mul_pos ih hK
  intro j
  induction j with
  | zero => show s = s / 1; omega
  | succ j ih =>
    show dwk K j s / K = s / (kp K j * K)
    rw [ih, Int.ediv_ediv_of_nonneg (by have := hp j; omega)]
theorem LXo.rfl' : LXo w w := ⟨fun _ _ _ _ _ => rfl, fun _ _ _ _ => rfl⟩
theorem LXo.tr (h : LXo w w') (h2 : LXo w' w2) : LXo w w2 := ⟨fun k a b c d => (h2.1 k a b c d).trans (h.1 k a b c d), fun j a b c => (h2.2 j a b c).trans (h.2 j a b c)⟩
theorem LXo.wr {q : Nat} (hq : q = 84 ∨ q = 85 ∨ q = 87) : LXo w (qud w q x v) := ⟨fun k _ a b c => qud_row (by omega), fun j _ _ _ => qud_nk (by omega)⟩
theorem LXo.w81 (hx : x = 12 ∨ x = 14 ∨ x = 15) : LXo w (qud w 81 x v) := ⟨fun k a _ _ _ => qud_row a, fun j a b c => qud_ni (by omega)⟩
theorem LV.xo (hV : LV n e g K r w) (hx : LXo w w') : LV n e g K r w' := by
  unfold LV
  rw [hx.2 8 (by decide) (by decide) (by decide), hx.2 9 (by decide) (by decide) (by decide), hx.2 10 (by decide) (by decide) (by decide), hx.2 11 (by decide) (by decide) (by decide), hx.2 6 (by decide) (by decide) (by decide), hx.2 7 (by decide) (by decide) (by decide), hx.1 86 (by decide) (by decide) (by decide) (by decide)]
  exact hV
theorem l_lenV (hk : nek n e g K N) (hV : LV n e g K r w) (x0 : 0 ≤ x) (x1 : x < 16) : f_L_lengthOf x w = some (aln g e x, w) := by
  have hb := hk.b
  have key : ∀ (j m : Nat) (y z : Int), 0 ≤ y → y ≤ e → e - y < j → e - y < m → z < 16 → f_L_lengthOf_4 m y z w = some (alnS g e j y z, w) := by
    intro j
    induction j with
    | zero => intro m y z _ _ _ _ _; omega
    | succ j ih =>
      intro m y z y0 y1 hj hm hz
      cases m with
      | zero => omega
      | succ m =>
        rw [f_L_lengthOf_4, alnS, hV.1.1.2, hV.1.2.2]
        by_cases c : z ≤ 0
        · rw [if_pos c, if_pos c]
        · rw [if_neg c, if_neg c]
          by_cases c2 : y < e
          · have hd : 0 ≤ (z - 1) / g ∧ (z - 1) / g ≤ z - 1 := ⟨Int.ediv_nonneg (by omega) (by omega), Int.ediv_le_self _ (by omega)⟩
            rw [if_pos c2, if_pos c2, qdv_ok (by omega), w32_ok (z := y + 1) (by omega) (by omega), w32_ok (z := z - 1) (by omega) (by omega), jdiv_ok (by omega) (by omega) (by omega) (by omega)]
            exact ih m (y + 1) _ (by omega) (by omega) (by omega) (by omega) (by omega)
          · rw [if_neg c2, if_neg c2]
  unfold f_L_lengthOf aln
  exact key 5 qFU 0 x (by omega) (by omega) (by omega) (qFU_gt (by omega)) x1
theorem l_openV (hk : nek n e g K N) (hV : LV n e g K r w) (s0 : 0 ≤ s) (s1 : s < N) : kT (f_L_open (fC g K n s) w) (fun w' => LOp n g K s w' ∧ LXo w w') := by
  have hb := hk.b
  have hf := fC_in hk s0 s1
  have main : ∀ (m : Nat) (x : Int) (w' : qMem), 0 ≤ x → x ≤ n → n - x < m → LXo w w' → (∀ v, 0 ≤ v → v < x → w' 84 v = tc g (dg K s v) ∧ w' 85 v = lq g (dg K s v)) → kT (f_L_open_2 m (fC g K n s) x w') (fun w' => LOp n g K s w' ∧ LXo w w') := by
    intro m
    induction m with
    | zero => intro x w' _ _ _; omega
    | succ m ih =>
      intro x w' x0 x1 hm hx hh
      have hV' := hV.xo hx
      rw [f_L_open_2, hV'.1.1.1]
      refine kT_if (fun c => ?_) (fun c => ?_)
      · have e1 : w' 86 (x + 1) = kp K (x.toNat + 1) := by
          have := hV'.2.1 (x.toNat + 1) (by omega)
          rw [show ((x.toNat + 1 : Nat) : Int) = x + 1 by omega] at this
          exact this
        have e2 : w' 86 x = kp K x.toNat := by
          have := hV'.2.1 x.toNat (by omega)
          rw [show ((x.toNat : Nat) : Int) = x by omega] at this
          exact this
        have p1 := kp_b hk (x.toNat + 1) (by omega)
        have p2 := kp_b hk x.toNat (by omega)
        have hd : fC g K n s % kp K (x.toNat + 1) / kp K x.toNat = tc g (dg K s x) := by rw [dg_w hk hf.1 x0 c, fC_dg hk x0 c]
        have hm0 := Int.emod_nonneg (fC g K n s) (b := kp K (x.toNat + 1)) (by omega)
        have hm1 := Int.emod_lt_of_pos (fC g K n s) (b := kp K (x.toNat + 1)) (by omega)
        have tt := (atb_of hk (dg_in hk (s := s) (v := x)).1 (dg_in hk).2).1
        rw [w32_ok (z := x + 1) (by omega) (by omega), qld_ok (by omega) (by omega), e1, qdv_ok (by omega), qld_ok x0 (by omega), e2, qdv_ok (by omega), jrem_ok hf.1 (by omega) (by omega) (by omega), jdiv_ok hm0 (by omega) (by omega) (by omega), hd]
        refine kT_st x0 (by omega) ?_
        rw [qld_ok x0 (by omega), qud_s]
        refine kT_eq (l_lenV hk (hV'.xo (LXo.wr (Or.inl rfl))) tt.1.1 (by omega)) ?_
        dsimp only
        refine kT_st x0 (by omega) ?_
        refine ih (x + 1) _ (by omega) (by omega) (by omega) ((hx.tr (LXo.wr (Or.inl rfl))).tr (LXo.wr (Or.inr (Or.inl rfl)))) (fun v v0 v1 => ?_)
        rw [qud_nk (show (84 : Nat) ≠ 85 by decide), qud_if, qud_if, qud_nk (show (85 : Nat) ≠ 84 by decide)]
        by_cases z : v = x
        · rw [if_pos z, if_pos z, z]
          exact ⟨rfl, tt.2.1⟩
        · rw [if_neg z, if_neg z]
          exact hh v v0 (by omega)
      · have hxn : x = n := by omega
        have e2 : w' 86 n = kp K n.toNat := by
          have := hV'.2.1 n.toNat (by omega)
          rw [show ((n.toNat : Nat) : Int) = n by omega] at this
          exact this
        have p2 := kp_b hk n.toNat (by omega)
        unfold f_L_open_55
        rw [hV'.1.1.1, qld_ok (by omega) (by omega), e2, qdv_ok (by omega), jdiv_ok hf.1 (by omega) (by omega) (by omega), qlt_ok]
        refine kT_some ⟨⟨fun v v0 v1 => ?_, ?_⟩, hx.tr (LXo.w81 (Or.inl rfl))⟩
        · rw [qud_nk (by decide), qud_nk (by decide)]
          exact hh v v0 (by omega)
        · rw [qud_s, ← dwk_kp (by omega)]
          exact fC_cr hk
  unfold f_L_open
  exact main qFU 0 w (by omega) (by omega) (qFU_gt (by omega)) LXo.rfl' (fun v a b => by omega)
/-- what listing leaves -/
def LXs (w w' : qMem) : Prop := (∀ k : Nat, k ≠ 81 → k ≠ 87 → w' k = w k) ∧ ∀ j, j ≠ 14 → j ≠ 15 → w' 81 j = w 81 j
theorem LXs.rfl' : LXs w w := ⟨fun _ _ _ => rfl, fun _ _ _ => rfl⟩
theorem LXs.tr (h : LXs w w') (h2 : LXs w' w2) : LXs w w2 := ⟨fun k a b => (h2.1 k a b).trans (h.1 k a b), fun j a b => (h2.2 j a b).trans (h.2 j a b)⟩
theorem LXs.xo (h : LXs w w') : LXo w w' := ⟨fun k a _ _ b => h.1 k a b, fun j _ a b => h.2 j a b⟩
theorem LOp.xs (hO : LOp n g K s w) (h : LXs w w') : LOp n g K s w' := by
  unfold LOp
  rw [h.1 84 (by decide) (by decide), h.1 85 (by decide) (by decide), h.2 12 (by decide) (by decide)]
  exact hO
/-- while steps are listed: those of L -/
def cB (n e g K r s : Int) (w0 : qMem) (L : List Int) (w : qMem) : Prop := (LV n e g K r w ∧ LOp n g K s w ∧ LXs w0 w) ∧ inL (w 87) (w 81 14) L (fun a => fC g K n a)
theorem l_addV (hk : nek n e g K N) (hJ : cB n e g K r s w0 L w) (hl : L.length < 16) (y0 : 0 ≤ y) (y1 : y < N) (hx : x = fC g K n y) : kT (f_L_addStep x w) (fun w' => cB n e g K r s w0 (L ++ [y]) w' ∧ w' 81 15 = w 81 15) := by
  obtain ⟨⟨hV, hO, hX⟩, hL⟩ := hJ
  have hb := hk.b
  have hf := fC_in hk y0 y1
  have hc := hL.1
  unfold f_L_addStep
  rw [if_pos (show w 81 14 < 16 by omega), if_neg (show ¬ x < 0 by omega), if_pos (show x < 10125 by omega)]
  refine kT_st (by omega) (by omega) ?_
  rw [qlt_ok, qud_nk (show (81 : Nat) ≠ 87 by decide), w32_ok (z := w 81 14 + 1) (by omega) (by omega)]
  have hx2 : LXs w (qud (qud w 87 (w 81 14) x) 81 14 (w 81 14 + 1)) := ⟨fun k a b => by rw [qud_row a, qud_row b], fun j a _ => by rw [qud_ni a, qud_nk (by decide)]⟩
  refine kT_some ⟨⟨⟨hV.xo hx2.xo, hO.xs hx2, hX.tr hx2⟩, ?_⟩, by rw [qud_ni (by decide), qud_nk (by decide)]⟩
  rw [qud_s]
  refine hL.add (fun i => ?_)
  rw [qud_nk (by decide), qud_if, hx]
theorem l_putV (hk : nek n e g K N) (hV : LV n e g K r w) (v0 : 0 ≤ v) (v1 : v < n) (h85 : w 85 v = l) (l0 : 0 ≤ l) (l1 : l ≤ 3) (x0 : 0 ≤ x) (x1 : x < 3) : f_L_put v x w = some ((x + 1) * pw g l.toNat * kp K v.toNat, w) := by
  have hb := hk.b
  have e2 : w 86 v = kp K v.toNat := by
    have := hV.2.1 v.toNat (by omega)
    rw [show ((v.toNat : Nat) : Int) = v by omega] at this
    exact this
  have p2 := kp_b hk v.toNat (by omega)
  have hpb : ∀ j : Nat, j < 4 → 1 ≤ pw g j ∧ pw g j ≤ 27 := by
    intro j hj
    have t : ∀ j : Nat, j < 4 → (1 ≤ pw 1 j ∧ pw 1 j ≤ 27) ∧ (1 ≤ pw 2 j ∧ pw 2 j ≤ 27) ∧ 1 ≤ pw 3 j ∧ pw 3 j ≤ 27 := by decide +kernel
    have := t j hj
    rcases (by omega : g = 1 ∨ g = 2 ∨ g = 3) with rfl | rfl | rfl
    · exact this.1
    · exact this.2.1
    · exact this.2.2
  have hxp : ∀ j : Nat, j < 4 → 0 ≤ (x + 1) * pw g j ∧ (x + 1) * pw g j ≤ 81 := fun j hj => by
    have := hpb j hj
    rcases (by omega : x = 0 ∨ x = 1 ∨ x = 2) with rfl | rfl | rfl <;> omega
  have key : ∀ (m j : Nat), (j : Int) ≤ l → l - j < m → f_L_put_7 m v ((x + 1) * pw g j) j w = some ((x + 1) * pw g l.toNat * kp K v.toNat, w) := by
    intro m
    induction m with
    | zero => intro j _ _; omega
    | succ m ih =>
      intro j j1 hm
      rw [f_L_put_7, qld_ok v0 (by omega), h85]
      by_cases c : (j : Int) < l
      · have h1 := hxp j (by omega)
        have h2 := hxp (j + 1) (by omega)
        have e3 : (x + 1) * pw g j * g = (x + 1) * pw g (j + 1) := by
          show (x + 1) * pw g j * g = (x + 1) * (pw g j * g)
          rw [Int.mul_assoc]
        rw [if_pos c, hV.1.2.2, w32_ok (z := (j : Int) + 1) (by omega) (by omega), e3, w32_ok (z := (x + 1) * pw g (j + 1)) (by omega) (by omega)]
        exact ih (j + 1) (by omega) (by omega)
      · have ej : l.toNat = j := by omega
        have h1 := hxp j (by omega)
        have h2 : 0 ≤ (x + 1) * pw g j * kp K v.toNat := Int.mul_nonneg h1.1 (by omega)
        have h3 : (x + 1) * pw g j * kp K v.toNat ≤ 81 * kp K v.toNat := Int.mul_le_mul_of_nonneg_right h1.2 (by omega)
        rw [if_neg c, ej]
        unfold f_L_put_31
        rw [qld_ok v0 (by omega), e2, w32_ok (by omega) (by omega)]
  unfold f_L_put
  rw [w32_ok (z := x + 1) (by omega) (by omega)]
  have := key qFU 0 (by omega) (qFU_gt (by omega))
  rw [show (x + 1) * pw g 0 = x + 1 by show (x + 1) * 1 = x + 1; omega] at this
  exact this
theorem l_ruleV (hV : LV n e g K r w) (hO : LOp n g K s w) (hn : n ≤ 4) (he : 0 ≤ e ∧ e ≤ 3) (hl : 0 ≤ lq g (dg K s v) ∧ lq g (dg K s v) ≤ e) (v0 : 0 ≤ v) (v1 : v < n) : f_L_ruleLets v w = some (bi (mayQ e r (cr K n s) g (dg K s v) v), w) := by
  have e85 := (hO.1 v v0 v1).2
  have h29 : ∀ s0, f_L_ruleLets_29 s0 v w = some (bi (decide ((if s0 = 0 then 1 else 2) ≤ e - lq g (dg K s v))), w) := by
    intro s0
    unfold f_L_ruleLets_29
    rw [qld_ok v0 (by omega), e85, hV.1.1.2, w32_ok (z := e - lq g (dg K s v)) (by omega) (by omega)]
    have h50 : ∀ c, f_L_ruleLets_50 (e - lq g (dg K s v)) c w = some (bi (decide (c ≤ e - lq g (dg K s v))), w) := by
      intro c
      unfold f_L_ruleLets_50
      by_cases q : e - lq g (dg K s v) < c
      · rw [if_pos q, decide_eq_false (by omega)]; rfl
      · rw [if_neg q, decide_eq_true (by omega)]; rfl
    by_cases q : s0 = 0
    · rw [if_pos q, if_pos q, h50]
    · rw [if_neg q, if_neg q, h50]
  unfold f_L_ruleLets mayQ
  rw [hV.1.2.1, hO.2]
  by_cases c1 : r = 1
  · rw [if_pos c1, if_pos (Or.inl c1), h29 1, if_neg (by decide)]
  · rw [if_neg c1]
    by_cases c2 : r = 2
    · rw [if_pos c2]
      by_cases c3 : cr K n s = v
      · rw [if_pos c3, if_pos (Or.inr ⟨c2, c3⟩), h29 1, if_neg (by decide)]
      · rw [if_neg c3, if_neg (show ¬ (r = 1 ∨ (r = 2 ∧ cr K n s = v)) by omega), h29 0, if_pos rfl]
    · rw [if_neg c2, if_neg (show ¬ (r = 1 ∨ (r = 2 ∧ cr K n s = v)) by omega), h29 0, if_pos rfl]
theorem tc_dU : (fun i => tc g (dU h v x i)) = dU (fun i => tc g (h i)) v (tc g x) := by
  funext i
  unfold dU
  by_cases z : i = v
  · rw [if_pos z, if_pos z]
  · rw [if_neg z, if_neg z]
theorem dU_in (hh : ∀ i, 0 ≤ i → i < n → 0 ≤ h i ∧ h i < K) (hx : 0 ≤ x ∧ x < K) : ∀ i, 0 ≤ i → i < n → 0 ≤ dU h v x i ∧ dU h v x i < K := fun i i0 i1 => by
  unfold dU
  split
  · exact hx
  · exact hh i i0 i1
theorem fC_in' (hk : nek n e g K N) (hh : ∀ i, 0 ≤ i → i < n → 0 ≤ h i ∧ h i < K) (c0 : 0 ≤ c) (c1 : c < n) : (0 ≤ nmB K n (fun i => tc g (h i)) c ∧ nmB K n (fun i => tc g (h i)) c < N) ∧ fC g K n (nmB K n h c) = nmB K n (fun i => tc g (h i)) c := by
  have e0 := fC_nm hk hh (c := c)
  have h1 := nm_in hk hh c0 c1
  have h2 := fC_in hk h1.1 h1.2
  rw [e0] at h2
  exact ⟨h2, e0⟩
theorem l_firstV (hk : nek n e g K N) (hr : 0 ≤ r ∧ r ≤ 2) (s0 : 0 ≤ s) (s1 : s < N) (hJ : cB n e g K r s w0 L w) (hl : L.length < 16) (v0 : 0 ≤ v) (v1 : v < n) (hq : ¬ w 84 v ≤ 0) : kT (f_L_listStepOfFirst (fC g K n s) v w) (fun w' => cB n e g K r s w0 (L ++ fsL n e g K r s v) w' ∧ w' 81 15 = w 81 15) := by
  have hJ0 := hJ
  obtain ⟨⟨hV, hO, hX⟩, hL⟩ := hJ
  have hb := hk.b
  have hfs := fC_in hk s0 s1
  have hcr := cr_in hk s0 s1
  have hD : ∀ i, 0 ≤ i → i < n → 0 ≤ dg K s i ∧ dg K s i < K := fun _ _ _ => dg_in hk
  have e84 := (hO.1 v v0 v1).1
  have at0 := atb_of hk (dg_in hk (s := s) (v := v)).1 (dg_in hk).2
  have qt0 := qtb_of hk (dg_in hk (s := s) (v := v)).1 (dg_in hk).2
  have hlq : lq g (dg K s v) ≠ 0 := fun z => hq (by rw [e84, at0.1.2.2 z]; decide)
  obtain ⟨a1, a2, a3⟩ := at0.2.1 hlq
  obtain ⟨⟨b1, b2⟩, -⟩ := qt0.2.1 hlq
  have tcb := at0.1.1
  have ht : 0 ≤ (v + 1) % n ∧ (v + 1) % n < n := ⟨Int.emod_nonneg _ (by omega), Int.emod_lt_of_pos _ (by omega)⟩
  have htv : (v + 1) % n ≠ v := by
    rcases (by omega : n = 2 ∨ n = 3 ∨ n = 4) with rfl | rfl | rfl <;> omega
  have at1 := atb_of hk (dg_in hk (s := s) (v := (v + 1) % n)).1 (dg_in hk).2
  have qt1 := qtb_of hk (dg_in hk (s := s) (v := (v + 1) % n)).1 (dg_in hk).2
  have e85t := (hO.1 _ ht.1 ht.2).2
  have qtl : 0 ≤ lq g (dg K s ((v + 1) % n)) ∧ lq g (dg K s ((v + 1) % n)) ≤ e := qt1.1.1
  have e86 : w 86 v = kp K v.toNat := by
    have := hV.2.1 v.toNat (by omega)
    rw [show ((v.toNat : Nat) : Int) = v by omega] at this
    exact this
  have e86n : w 86 n = kp K n.toNat := by
    have := hV.2.1 n.toNat (by omega)
    rw [show ((n.toNat : Nat) : Int) = n by omega] at this
    exact this
  have pv := kp_b hk v.toNat (by omega)
  have pt' := kp_b hk ((v + 1) % n).toNat (by omega)
  have pn := kp_b hk n.toNat (by omega)
  have pl : nmB K n (fun i => tc g (dg K s i)) (cr K n s) = fC g K n s := rfl
  -- the first one is away
  have hA := fC_in' hk (dU_in (v := v) hD b2) hcr.1 hcr.2
  rw [tc_dU, nm_u v0 v1, pl] at hA
  have hmul : -(15 * kp K v.toNat) ≤ (tc g (qwo g (dg K s v)) - tc g (dg K s v)) * kp K v.toNat ∧ (tc g (qwo g (dg K s v)) - tc g (dg K s v)) * kp K v.toNat ≤ 15 * kp K v.toNat := by
    have hq2 := (atb_of hk b2.1 b2.2).1.1
    have h1 : (tc g (qwo g (dg K s v)) - tc g (dg K s v)) * kp K v.toNat ≤ 15 * kp K v.toNat := Int.mul_le_mul_of_nonneg_right (by omega) (by omega)
    have h2 : (-15) * kp K v.toNat ≤ (tc g (qwo g (dg K s v)) - tc g (dg K s v)) * kp K v.toNat := Int.mul_le_mul_of_nonneg_right (by omega) (by omega)
    omega
  unfold f_L_listStepOfFirst
  rw [qld_ok v0 (by omega), hV.1.2.2, qdv_ok (by omega), qld_ok v0 (by omega), qdv_ok (by omega), qld_ok v0 (by omega), qld_ok v0 (by omega), e84, e86, w32_ok (z := tc g (dg K s v) - 1) (by omega) (by omega), jdiv_ok (by omega) (by omega) (by omega) (by omega), jrem_ok (by omega) (by omega) (by omega) (by omega), a2, a3, w32_ok (z := tc g (qwo g (dg K s v)) - tc g (dg K s v)) (by have := (atb_of hk b2.1 b2.2).1.1; omega) (by have := (atb_of hk b2.1 b2.2).1.1; omega), w32_ok (z := (tc g (qwo g (dg K s v)) - tc g (dg K s v)) * kp K v.toNat) (by omega) (by omega), w32_ok (z := fC g K n s + (tc g (qwo g (dg K s v)) - tc g (dg K s v)) * kp K v.toNat) (by omega) (by omega)]
  refine kT_if (fun c0 => ?_) (fun c0 => ?_)
  · have hnm := nm_in hk (dU_in (v := v) hD b2) hcr.1 hcr.2
    have efs : fsL n e g K r s v = [nmB K n (dU (dg K s) v (qwo g (dg K s v))) (cr K n s)] := by
      unfold fsL
      rw [if_neg hlq, if_pos (by omega)]
    rw [efs]
    exact kT_bind (l_addV hk hJ0 hl hnm.1 hnm.2 hA.2.symm) (fun w' h' => kT_some h')
  · rw [hV.1.1.1, qdv_ok (by omega), w32_ok (z := v + 1) (by omega) (by omega), jrem_ok (by omega) (by omega) (by omega) (by omega), qld_ok ht.1 (by omega), e85t, hV.1.1.2, w32_ok (z := e - lq g (dg K s ((v + 1) % n))) (by omega) (by omega)]
    refine kT_if (fun c1 => kT_some ?_) (fun c1 => ?_)
    · have efs : fsL n e g K r s v = [] := by
        unfold fsL
        rw [if_neg hlq, if_neg (by omega), if_pos (by omega)]
      rw [efs, List.append_nil]
      exact ⟨hJ0, rfl⟩
    · have hlt : lq g (dg K s ((v + 1) % n)) < e := by omega
      have b3 := (qt1.2.2 hlt (qgo g (dg K s v) - 1).toNat (by omega)).1
      have a4 := at1.2.2 hlt (qgo g (dg K s v) - 1).toNat (by omega)
      rw [show (((qgo g (dg K s v) - 1).toNat : Nat) : Int) = qgo g (dg K s v) - 1 by omega] at b3 a4
      have hD2 := dU_in (v := (v + 1) % n) (dU_in (v := v) hD b2) b3
      have dUt : dU (fun i => tc g (dg K s i)) v (tc g (qwo g (dg K s v))) ((v + 1) % n) = tc g (dg K s ((v + 1) % n)) := if_neg htv
      have hB : ∀ c, nmB K n (fun i => tc g (dU (dU (dg K s) v (qwo g (dg K s v))) ((v + 1) % n) (qwi g (dg K s ((v + 1) % n)) (qgo g (dg K s v) - 1)) i)) c = nmB K n (fun i => tc g (dg K s i)) c + (tc g (qwo g (dg K s v)) - tc g (dg K s v)) * kp K v.toNat + (qgo g (dg K s v) - 1 + 1) * pw g (lq g (dg K s ((v + 1) % n))).toNat * kp K ((v + 1) % n).toNat := fun c => by
        rw [tc_dU, tc_dU, nm_u ht.1 ht.2, nm_u v0 v1, dUt, a4]
        congr 2
        omega
      have hput := l_putV (x := qgo g (dg K s v) - 1) hk hV ht.1 ht.2 e85t qtl.1 (by omega) (by omega) (by omega)
      have h117 : ∀ z, (z = 0 ↔ ¬ (r = 2 ∧ cr K n s = (v + 1) % n ∧ e - lq g (dg K s ((v + 1) % n)) = 1)) → kT (f_L_listStepOfFirst_117 z v (qgo g (dg K s v)) (fC g K n s + (tc g (qwo g (dg K s v)) - tc g (dg K s v)) * kp K v.toNat) ((v + 1) % n) w) (fun w' => cB n e g K r s w0 (L ++ fsL n e g K r s v) w' ∧ w' 81 15 = w 81 15) := by
        intro z hz
        have efs : fsL n e g K r s v = [nmB K n (dU (dU (dg K s) v (qwo g (dg K s v))) ((v + 1) % n) (qwi g (dg K s ((v + 1) % n)) (qgo g (dg K s v) - 1))) (if r = 2 ∧ cr K n s = (v + 1) % n ∧ e - lq g (dg K s ((v + 1) % n)) = 1 then v else cr K n s)] := by
          unfold fsL
          rw [if_neg hlq, if_neg (by omega), if_neg (by omega)]
        rw [efs]
        have hE := fC_in' hk hD2 hcr.1 hcr.2
        rw [hB, pl] at hE
        unfold f_L_listStepOfFirst_117
        rw [w32_ok (z := qgo g (dg K s v) - 1) (by omega) (by omega)]
        refine kT_eq hput ?_
        dsimp only
        rw [w32_ok (z := fC g K n s + (tc g (qwo g (dg K s v)) - tc g (dg K s v)) * kp K v.toNat + (qgo g (dg K s v) - 1 + 1) * pw g (lq g (dg K s ((v + 1) % n))).toNat * kp K ((v + 1) % n).toNat) (by omega) (by omega)]
        refine kT_if (fun cz => ?_) (fun cz => ?_)
        · have hnm := nm_in hk hD2 hcr.1 hcr.2
          rw [if_neg (hz.mp cz)]
          unfold f_L_listStepOfFirst_158
          rw [Int.add_zero, w32_ok (by omega) (by omega)]
          exact kT_bind (l_addV hk hJ0 hl hnm.1 hnm.2 hE.2.symm) (fun w' h' => kT_some h')
        · have hnm := nm_in hk hD2 v0 v1
          have hF := fC_in' hk hD2 v0 v1
          have ec := nm_c (K := K) (n := n) (h := fun i => tc g (dg K s i)) (c := cr K n s) (x := v)
          rw [hB, ec, pl] at hF
          have hm1 : (v - cr K n s) * kp K n.toNat ≤ 4 * kp K n.toNat := Int.mul_le_mul_of_nonneg_right (by omega) (by omega)
          have hm2 : (-4) * kp K n.toNat ≤ (v - cr K n s) * kp K n.toNat := Int.mul_le_mul_of_nonneg_right (by omega) (by omega)
          rw [if_pos (Classical.byContradiction fun q => cz (hz.mpr q)), hV.1.1.1, qld_ok (by omega) (by omega), e86n, hO.2, w32_ok (z := v - cr K n s) (by omega) (by omega), w32_ok (z := (v - cr K n s) * kp K n.toNat) (by omega) (by omega)]
          unfold f_L_listStepOfFirst_158
          rw [w32_ok (by omega) (by omega)]
          exact kT_bind (l_addV hk hJ0 hl hnm.1 hnm.2 (by omega)) (fun w' h' => kT_some h')
      rw [hV.1.2.1, hO.2]
      refine kT_if (fun d1 => kT_if (fun d2 => kT_if (fun d3 => h117 1 ⟨fun q => absurd q (by decide), fun q => absurd ⟨d1, d2, d3⟩ q⟩) (fun d3 => h117 0 ⟨fun _ q => d3 q.2.2, fun _ => rfl⟩)) (fun d2 => h117 0 ⟨fun _ q => d2 q.2.1, fun _ => rfl⟩)) (fun d1 => h117 0 ⟨fun _ q => d1 q.1, fun _ => rfl⟩)
/-- all steps of the open state are listed -/
theorem l_stepsV (hk : nek n e g K N) (hr : 0 ≤ r ∧ r ≤ 2) (s0 : 0 ≤ s) (s1 : s < N) (hV : LV n e g K r w) (hO : LOp n g K s w) : kT (f_L_listSteps (fC g K n s) w) (fun w' => (cB n e g K r s w (scA n e g K r s) w') ∧ w' 81 15 = ((plA n e g K r s).length : Int)) := by
  have hb := hk.b
  have hlen := scA_len (r := r) (s := s) hk
  have second : ∀ w1, cB n e g K r s w (plA n e g K r s) w1 → kT (f_L_listSteps_36 (fC g K n s) w1) (fun w' => (cB n e g K r s w (scA n e g K r s) w') ∧ w' 81 15 = ((plA n e g K r s).length : Int)) := by
    intro w1 hw1
    obtain ⟨⟨hV1, hO1, hX1⟩, hL1⟩ := hw1
    unfold f_L_listSteps_36
    rw [qlt_ok]
    have f1 : LXs w1 (qud w1 81 15 (w1 81 14)) := ⟨fun k a _ => qud_row a, fun j _ a => qud_ni a⟩
    have hL0 : inL (qud w1 81 15 (w1 81 14) 87) (qud w1 81 15 (w1 81 14) 81 14) (plA n e g K r s ++ enL n e g K r s (0 : Int).toNat) (fun a => fC g K n a) := by
      rw [qud_row (by decide), qud_ni (by decide)]
      show inL (w1 87) (w1 81 14) (plA n e g K r s ++ []) _
      rw [List.append_nil]
      exact hL1
    refine kD_loop (σ := Unit) (N := n) (L := fun m x _ v => f_L_listSteps_46 m (fC g K n s) x v) (J := fun x _ v => cB n e g K r s w (plA n e g K r s ++ enL n e g K r s x.toNat) v ∧ v 81 15 = ((plA n e g K r s).length : Int)) (fun m x _ u x0 x1 hJ ih => ?_) (fun m _ u hJ => ?_) (by omega) (by omega) () ⟨⟨⟨hV1.xo f1.xo, hO1.xs f1, hX1.tr f1⟩, hL0⟩, by rw [qud_s]; exact hL1.1⟩
    · rw [f_L_listSteps_46, hJ.1.1.1.1.1.1, if_pos x1]
      have hJ0 : ((0 : Int) = 0 ∨ mayQ e r (cr K n s) g (dg K s x) x = true) ∧ cB n e g K r s w (plA n e g K r s ++ (enL n e g K r s x.toNat ++ enV n g K s x (0 : Int).toNat)) u ∧ u 81 15 = ((plA n e g K r s).length : Int) := by
        refine ⟨Or.inl rfl, ?_, hJ.2⟩
        show cB n e g K r s w (plA n e g K r s ++ (enL n e g K r s x.toNat ++ [])) u
        rw [List.append_nil]
        exact hJ.1
      refine kD_loop (σ := Unit) (N := g) (L := fun m' y _ v => f_L_listSteps_56 (f_L_listSteps_46 m) m' (fC g K n s) x y v) (J := fun y _ v => (y = 0 ∨ mayQ e r (cr K n s) g (dg K s x) x = true) ∧ cB n e g K r s w (plA n e g K r s ++ (enL n e g K r s x.toNat ++ enV n g K s x y.toNat)) v ∧ v 81 15 = ((plA n e g K r s).length : Int)) (fun m' y _ u y0 y1 hJ ih' => ?_) (fun m' _ u hJ => ?_) (by omega) (by omega) () hJ0
      · obtain ⟨hy, hcB, e15⟩ := hJ
        have hcB0 := hcB
        obtain ⟨⟨hVu, hOu, hXu⟩, hLu⟩ := hcB
        have at0 := atb_of hk (dg_in hk (s := s) (v := x)).1 (dg_in hk).2
        have qt0 := qtb_of hk (dg_in hk (s := s) (v := x)).1 (dg_in hk).2
        have qtl : 0 ≤ lq g (dg K s x) ∧ lq g (dg K s x) ≤ e := qt0.1.1
        have ez := l_ruleV hVu hOu (by omega) (by omega) qtl x0 x1
        rw [f_L_listSteps_56, hVu.1.2.2, if_pos y1, qbd ez]
        dsimp only
        rw [bi_ii, w32_ok (z := x + 1) (by omega) (by omega), w32_ok (z := y + 1) (by omega) (by omega)]
        refine kT_if (fun c => ?_) (fun c => ?_)
        · have hlt : lq g (dg K s x) < e := by
            unfold mayQ at c
            rw [decide_eq_true_eq] at c
            split at c <;> omega
          have b3 := (qt0.2.2 hlt y.toNat (by omega)).1
          have a4 := at0.2.2 hlt y.toNat (by omega)
          rw [show ((y.toNat : Nat) : Int) = y by omega] at b3 a4
          have hD : ∀ i, 0 ≤ i → i < n → 0 ≤ dg K s i ∧ dg K s i < K := fun _ _ _ => dg_in hk
          have hcr := cr_in hk s0 s1
          have hE := fC_in' hk (dU_in (v := x) hD b3) hcr.1 hcr.2
          have pl : nmB K n (fun i => tc g (dg K s i)) (cr K n s) = fC g K n s := rfl
          rw [tc_dU, nm_u x0 x1, a4, pl, show tc g (dg K s x) + (y + 1) * pw g (lq g (dg K s x)).toNat - tc g (dg K s x) = (y + 1) * pw g (lq g (dg K s x)).toNat by omega] at hE
          have hnm := nm_in hk (dU_in (v := x) hD b3) hcr.1 hcr.2
          refine kT_eq (l_putV (x := y) hk hVu x0 x1 (hOu.1 x x0 x1).2 qtl.1 (by omega) y0 (by omega)) ?_
          dsimp only
          rw [w32_ok (by omega) (by omega)]
          have hll : (plA n e g K r s ++ (enL n e g K r s x.toNat ++ enV n g K s x y.toNat)).length < 16 := by
            have h1 := plL_len (n := n) (e := e) (g := g) (K := K) (r := r) (s := s) n.toNat
            have h2 := enL_len (n := n) (e := e) (g := g) (K := K) (r := r) (s := s) x.toNat
            rw [List.length_append, List.length_append, enV_len]
            have h4 : (plA n e g K r s).length ≤ n.toNat := h1
            have h5 : n.toNat + (n.toNat - 1) * g.toNat + g.toNat ≤ 16 := by
              rcases hk with ⟨⟨rfl, rfl⟩, -⟩ | ⟨⟨rfl, rfl⟩, -⟩ | ⟨⟨rfl, rfl⟩, -⟩ <;> decide
            have h6 : x.toNat * g.toNat ≤ (n.toNat - 1) * g.toNat := Nat.mul_le_mul_right _ (by omega)
            omega
          refine kT_bind (l_addV hk hcB0 hll hnm.1 hnm.2 hE.2.symm) (fun w3 h3 => ih' () w3 ⟨Or.inr c, ?_, by rw [h3.2]; exact e15⟩)
          have h4 := h3.1
          rw [enV_s y0]
          rw [List.append_assoc, List.append_assoc] at h4
          exact h4
        · have y00 : y = 0 := hy.resolve_right c
          refine ih () u ⟨⟨⟨hVu, hOu, hXu⟩, ?_⟩, e15⟩
          rw [enL_s x0, if_neg c, List.append_nil]
          rw [y00] at hLu
          have e0 : enV n g K s x (0 : Int).toNat = [] := rfl
          rw [e0, List.append_nil] at hLu
          exact hLu
      · obtain ⟨hy, ⟨⟨hVu, hOu, hXu⟩, hLu⟩, e15⟩ := hJ
        rw [f_L_listSteps_56, hVu.1.2.2, if_neg (by omega), w32_ok (z := x + 1) (by omega) (by omega)]
        refine ih () u ⟨⟨⟨hVu, hOu, hXu⟩, ?_⟩, e15⟩
        rw [enL_s x0, if_pos (hy.resolve_left (by omega))]
        exact hLu
    · rw [f_L_listSteps_46, hJ.1.1.1.1.1.1, if_neg (by omega)]
      exact kT_some hJ
  unfold f_L_listSteps
  rw [qlt_ok]
  have f0 : LXs w (qud w 81 14 0) := ⟨fun k a _ => qud_row a, fun j a _ => qud_ni a⟩
  refine kD_loop (σ := Unit) (N := n) (L := fun m x _ v => f_L_listSteps_7 m (fC g K n s) x v) (J := fun x _ v => cB n e g K r s w (plL n e g K r s x.toNat) v) (fun m x _ u x0 x1 hJ ih => ?_) (fun m _ u hJ => ?_) (by omega) (by omega) () ⟨⟨hV.xo f0.xo, hO.xs f0, f0⟩, by rw [qud_s]; exact inL.nil⟩
  · have hJ0 := hJ
    obtain ⟨⟨hVu, hOu, hXu⟩, hLu⟩ := hJ
    have hll := plL_len (n := n) (e := e) (g := g) (K := K) (r := r) (s := s) x.toNat
    rw [f_L_listSteps_7, hVu.1.1.1, if_pos x1, qld_ok x0 (by omega), w32_ok (z := x + 1) (by omega) (by omega)]
    refine kT_if (fun c => ih () u ?_) (fun c => ?_)
    · have efs : fsL n e g K r s x = [] := by
        unfold fsL
        rw [if_pos]
        refine Decidable.by_contra fun q => ?_
        have at0 := ((atb_of hk (dg_in hk (s := s) (v := x)).1 (dg_in hk).2).2.1 q).1
        rw [(hOu.1 x x0 x1).1] at c
        omega
      rw [plL_s x0, efs, List.append_nil]
      exact hJ0
    · refine kT_bind (l_firstV hk hr s0 s1 hJ0 (by omega) x0 x1 c) (fun w2 h2 => ih () w2 ?_)
      rw [plL_s x0]
      exact h2.1
  · rw [f_L_listSteps_7, hJ.1.1.1.1.1, if_neg (by omega)]
    exact second u hJ
end AZ
