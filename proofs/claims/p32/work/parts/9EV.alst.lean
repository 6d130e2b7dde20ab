/-! one ring alone, the reference: the steps of a state, one by one -/
def dnA (n e g K r s : Int) : Int := if mayQ e r (cr K n s) g (dg K s 0) 0 = true then 0 else 1
def hdA (n g K s : Int) : Int := cV (fun v => lq g (dg K s v)) n
def ddA (n e g K r s : Int) : Int := if 0 < hdA n g K s ∧ (plA n e g K r s).length = 0 then 1 else 0
/-- between two steps: those of L are listed -/
def mB (n e g K s : Int) (w0 : qMem) (L : List Int) (w : qMem) : Prop := (LM n e g K w ∧ LHs n K s w ∧ FAf w0 w) ∧ inL (w 101) (w 88 24) L (fun x => x)
section AV
variable {w w' w0 w2 : qMem} {n e g K N k x y l s v b p c r cnt t a : Int} {i j m : Nat} {L M : List Int}
theorem kT_an {α : Type} {F : Option α} {P Q : α → Prop} (h : kT F P) (h2 : kT F Q) : kT F (fun a => P a ∧ Q a) := by
  obtain ⟨a, e, p⟩ := h
  obtain ⟨b, e2, q⟩ := h2
  rw [e] at e2
  cases e2
  exact ⟨a, e, p, q⟩
theorem fsL_len : (fsL n e g K r s v).length ≤ 1 := by
  unfold fsL
  split
  · simp
  · split
    · simp
    · split <;> simp
theorem plL_len : ∀ j : Nat, (plL n e g K r s j).length ≤ j := by
  intro j
  induction j with
  | zero => exact Nat.le_refl _
  | succ j ih =>
    show (plL n e g K r s j ++ fsL n e g K r s j).length ≤ j + 1
    rw [List.length_append]
    have := fsL_len (n := n) (e := e) (g := g) (K := K) (r := r) (s := s) (v := j)
    omega
theorem enV_len : ∀ y : Nat, (enV n g K s v y).length = y := by
  intro y
  induction y with
  | zero => rfl
  | succ y ih =>
    show (enV n g K s v y ++ [_]).length = y + 1
    rw [len_1, ih]
theorem enL_len : ∀ j : Nat, (enL n e g K r s j).length ≤ j * g.toNat := by
  intro j
  induction j with
  | zero => exact Nat.zero_le _
  | succ j ih =>
    show (enL n e g K r s j ++ (if mayQ e r (cr K n s) g (dg K s j) j = true then enV n g K s j g.toNat else [])).length ≤ (j + 1) * g.toNat
    rw [List.length_append, Nat.succ_mul]
    have : (if mayQ e r (cr K n s) g (dg K s j) j = true then enV n g K s j g.toNat else []).length ≤ g.toNat := by
      split
      · rw [enV_len]; exact Nat.le_refl _
      · exact Nat.zero_le _
    omega
theorem scA_len (hk : nek n e g K N) : (plA n e g K r s).length ≤ (scA n e g K r s).length ∧ (scA n e g K r s).length ≤ 16 := by
  have h1 := plL_len (n := n) (e := e) (g := g) (K := K) (r := r) (s := s) n.toNat
  have h2 := enL_len (n := n) (e := e) (g := g) (K := K) (r := r) (s := s) n.toNat
  unfold scA plA
  rw [List.length_append]
  have h3 : n.toNat ≤ 4 ∧ n.toNat * g.toNat ≤ 12 := by
    rcases hk with ⟨⟨rfl, rfl⟩, -⟩ | ⟨⟨rfl, rfl⟩, -⟩ | ⟨⟨rfl, rfl⟩, -⟩ <;> decide
  omega
theorem me_mayV (hk : nek n e g K N) (hM : LM n e g K w) (h12 : w 88 12 = r) (hr : 0 ≤ r ∧ r ≤ 2) (k0 : 0 ≤ k) (k1 : k < n) (hv : 0 ≤ w 95 k ∧ w 95 k < K) : f_M_mayEnter k w = some (bi (mayQ e r (w 88 16) g (w 95 k) k), w) := by
  have h36 : ∀ a : Int, f_M_mayEnter_36 a k w = some (bi (decide (a ≤ e - lq g (w 95 k))), w) := by
    intro a
    unfold f_M_mayEnter_36
    rw [qbd (me_free hk hM k0 k1 hv)]
    dsimp only
    by_cases c : e - lq g (w 95 k) < a
    · rw [if_pos c, decide_eq_false (by omega)]; rfl
    · rw [if_neg c, decide_eq_true (by omega)]; rfl
  unfold f_M_mayEnter mayQ
  rw [h12]
  by_cases c0 : r = 0
  · rw [if_pos c0, if_neg (show ¬ (r = 1 ∨ (r = 2 ∧ w 88 16 = k)) by omega)]
    exact h36 1
  · rw [if_neg c0]
    by_cases c1 : r = 1
    · rw [if_pos c1, if_pos (Or.inl c1)]
      exact h36 2
    · rw [if_neg c1]
      by_cases c2 : w 88 16 = k
      · rw [if_pos c2, if_pos (Or.inr ⟨by omega, c2⟩)]
        exact h36 2
      · rw [if_neg c2, if_neg (show ¬ (r = 1 ∨ (r = 2 ∧ w 88 16 = k)) by omega)]
        exact h36 1
/-- a state is listed, and the one that it comes from is opened again -/
theorem me_storeV {P : qMem → Prop} {K' : qMem → Option qMem} (hk : nek n e g K N) (s0 : 0 ≤ s) (s1 : s < N) (hM : LM n e g K w) (hd : LHd n K w) (hL : inL (w 101) (w 88 24) L (fun x => x)) (hlen : L.length < 24) (hy : mnm n K w = y) (k : ∀ w2, LM n e g K w2 → LHs n K s w2 → FAf w w2 → inL (w2 101) (w2 88 24) (L ++ [y]) (fun x => x) → w2 88 25 = w 88 25 → kT (K' w2) P) : kT ((f_M_number w).bind fun q1 => qst q1.2 101 24 (w 88 24) q1.1 fun w2 => qlt (qud w2 88 24 (w32 ((w2 88 24) + 1))) fun w3 => (f_M_opens s w3).bind fun q4 => K' q4) P := by
  have hA := hL.1
  refine kT_eq (me_number hk hM hd) ?_
  refine kT_st (by omega) (by omega) ?_
  rw [qlt_ok, qud_row (show (88 : Nat) ≠ 101 by decide), w32_ok (z := w 88 24 + 1) (by omega) (by omega), hy]
  have f3 : FAf w (qud (qud w 101 (w 88 24) y) 88 24 (w 88 24 + 1)) := FAf.w101.tr (FAf.w88 (by decide))
  refine kT_bind (me_opens hk (hM.af f3) s0 s1) (fun w4 h4 => ?_)
  have e24 : w4 88 24 = w 88 24 + 1 := by rw [h4.2.2 24 (by decide), qud_s]
  refine k w4 (hM.af (f3.tr (FAf.op h4.2))) h4.1 (f3.tr (FAf.op h4.2)) ?_ (by rw [h4.2.2 25 (by decide), qud_ni (by decide), qud_nk (by decide)])
  rw [e24]
  refine hL.add (fun i => ?_)
  rw [h4.2.1 101 (by decide) (by decide), qud_row (k' := 101) (by decide), qud_if]
theorem plL_s (x0 : 0 ≤ x) : plL n e g K r s (x + 1).toNat = plL n e g K r s x.toNat ++ fsL n e g K r s x := by
  rw [show (x + 1).toNat = x.toNat + 1 by omega]
  show plL n e g K r s x.toNat ++ fsL n e g K r s ((x.toNat : Nat) : Int) = _
  rw [show ((x.toNat : Nat) : Int) = x by omega]
theorem enL_s (x0 : 0 ≤ x) : enL n e g K r s (x + 1).toNat = enL n e g K r s x.toNat ++ (if mayQ e r (cr K n s) g (dg K s x) x = true then enV n g K s x g.toNat else []) := by
  rw [show (x + 1).toNat = x.toNat + 1 by omega]
  show enL n e g K r s x.toNat ++ (if mayQ e r (cr K n s) g (dg K s ((x.toNat : Nat) : Int)) ((x.toNat : Nat) : Int) = true then enV n g K s ((x.toNat : Nat) : Int) g.toNat else []) = _
  rw [show ((x.toNat : Nat) : Int) = x by omega]
theorem enV_s (y0 : 0 ≤ y) : enV n g K s v (y + 1).toNat = enV n g K s v y.toNat ++ [nmB K n (dU (dg K s) v (qwi g (dg K s v) y)) (cr K n s)] := by
  rw [show (y + 1).toNat = y.toNat + 1 by omega]
  show enV n g K s v y.toNat ++ [nmB K n (dU (dg K s) v (qwi g (dg K s v) ((y.toNat : Nat) : Int))) (cr K n s)] = _
  rw [show ((y.toNat : Nat) : Int) = y by omega]
theorem me_afterV1 {P : qMem → Prop} (hk : nek n e g K N) (h12 : w0 88 12 = r) (hr : 0 ≤ r ∧ r ≤ 2) (s0 : 0 ≤ s) (s1 : s < N) (h : LM n e g K w ∧ LHs n K s w ∧ FAf w0 w) (h24 : w 88 24 = 0) (K2 : ∀ w2, mB n e g K s w0 (plA n e g K r s) w2 → kT (f_M_laysAfter_185 s w2) P) : kT (f_M_laysAfter_12 qFU s 0 w) P := by
  have hb := hk.b
  refine kD_loop (σ := Unit) (N := n) (L := fun m x _ v => f_M_laysAfter_12 m s x v) (J := fun x _ v => mB n e g K s w0 (plL n e g K r s x.toNat) v) (fun m x _ w x0 x1 hJ ih => ?_) (fun m _ w hJ => ?_) (by omega) (by omega) () ⟨h, by rw [h24]; exact inL.nil⟩
  · obtain ⟨⟨hM, hs, hF⟩, hL⟩ := hJ
    have hd := hs.d hk s0 s1
    have hv := hd.1 x x0 x1
    have e12 : w 88 12 = r := by rw [hF.2 12 (by decide) (by decide) (by decide)]; exact h12
    have e16 : w 88 16 = cr K n s := hs.2
    have hh : ∀ i, 0 ≤ i → i < n → w 95 i = dg K s i := fun i i0 i1 => hs.1 i i0 i1
    have ht : 0 ≤ (x + 1) % n ∧ (x + 1) % n < n := ⟨Int.emod_nonneg _ (by omega), Int.emod_lt_of_pos _ (by omega)⟩
    have htx : (x + 1) % n ≠ x := by
      rcases (by omega : n = 2 ∨ n = 3 ∨ n = 4) with rfl | rfl | rfl <;> omega
    have hvt := hd.1 _ ht.1 ht.2
    have t := qtb_of hk hv.1 hv.2
    have tt := qtb_of hk hvt.1 hvt.2
    have tl : 0 ≤ lq g (w 95 x) ∧ lq g (w 95 x) ≤ e := t.1.1
    have ttl : 0 ≤ lq g (w 95 ((x + 1) % n)) ∧ lq g (w 95 ((x + 1) % n)) ≤ e := tt.1.1
    have hll := plL_len (n := n) (e := e) (g := g) (K := K) (r := r) (s := s) x.toNat
    have skip : fsL n e g K r s x = [] → kT (f_M_laysAfter_12 m s (x + 1) w) P := fun z => ih () w ⟨⟨hM, hs, hF⟩, by rw [plL_s x0, z, List.append_nil]; exact hL⟩
    have hgo : qgo g (w 95 x) = -1 ∨ lq g (w 95 x) ≠ 0 := by
      by_cases z : lq g (w 95 x) = 0
      · left; unfold qgo; rw [if_pos z]
      · exact Or.inr z
    have h151 : ∀ w3 y, FAf w w3 → LHd n K w3 → w3 88 24 = w 88 24 → w3 101 = w 101 → mnm n K w3 = y → fsL n e g K r s x = [y] → kT (f_M_laysAfter_151 (f_M_laysAfter_12 m) s x w3) P := by
      intro w3 y f3 d3 e24 e101 hy hfs
      unfold f_M_laysAfter_151
      refine me_storeV (L := plL n e g K r s x.toNat) (y := y) (K' := fun q4 => f_M_laysAfter_12 m s (w32 (x + 1)) q4) hk s0 s1 (hM.af f3) d3 (by rw [e24, e101]; exact hL) (by omega) hy (fun w4 m4 s4 f4 l4 _ => ?_)
      rw [w32_ok (z := x + 1) (by omega) (by omega)]
      exact ih () w4 ⟨⟨m4, s4, hF.tr (f3.tr f4)⟩, by rw [plL_s x0, hfs]; exact l4⟩
    have h141 : ∀ z w3 y, FAf w w3 → LHd n K w3 → w3 88 24 = w 88 24 → w3 101 = w 101 → nmB K n (w3 95) (if z = 0 then w3 88 16 else x) = y → fsL n e g K r s x = [y] → kT (f_M_laysAfter_141 (f_M_laysAfter_12 m) s x z w3) P := by
      intro z w3 y f3 d3 e24 e101 hy hfs
      unfold f_M_laysAfter_141
      refine kT_if (fun cz => h151 w3 y f3 d3 e24 e101 (by rw [← hy, if_pos cz]; rfl) hfs) (fun cz => ?_)
      rw [qlt_ok]
      refine h151 _ y (f3.tr (FAf.w88 (by decide))) (d3.w16 ⟨x0, x1⟩) (by rw [qud_ni (by decide)]; exact e24) (by rw [qud_row (by decide)]; exact e101) ?_ hfs
      rw [← hy, if_neg cz]
      unfold mnm nmB
      rw [qud_row (show (95 : Nat) ≠ 88 by decide), qud_s]
    have h98 : ∀ z, lq g (w 95 x) ≠ 0 → (qgo g (w 95 x) ≤ 0 ∨ lq g (w 95 ((x + 1) % n)) < e) → (qgo g (w 95 x) ≤ 0 → z = 0) → (¬ qgo g (w 95 x) ≤ 0 → (z = 0 ↔ ¬ (r = 2 ∧ cr K n s = (x + 1) % n ∧ e - lq g (dg K s ((x + 1) % n)) = 1))) → kT (f_M_laysAfter_98 (f_M_laysAfter_12 m) z s x (qgo g (w 95 x)) ((x + 1) % n) w) P := by
      intro z hz hc hz1 hz2
      have to := t.2.1 hz
      have tg : 0 ≤ qgo g (w 95 x) ∧ qgo g (w 95 x) < g := to.1.1
      unfold f_M_laysAfter_98
      rw [qld_ok x0 (by omega)]
      refine kT_eq (me_without hk hM.2.1 hv.1 hv.2 hz) ?_
      refine kT_st x0 (by omega) ?_
      dsimp only
      refine kT_if (fun c => ?_) (fun c => ?_)
      · refine h141 z _ (nmB K n (dU (dg K s) x (qwo g (dg K s x))) (cr K n s)) FAf.w95 (hd.w95 to.1.2) (qud_nk (by decide)) (qud_row (by decide)) ?_ ?_
        · rw [if_pos (hz1 c), qud_nk (show (88 : Nat) ≠ 95 by decide), e16]
          refine nm_co (by omega) (fun i i0 i1 => ?_)
          rw [qud_if]
          unfold dU
          rw [hh x x0 x1]
          by_cases u : i = x
          · rw [if_pos u, if_pos u]
          · rw [if_neg u, if_neg u, hh i i0 i1]
        · unfold fsL
          rw [← hh x x0 x1, if_neg hz, if_pos c]
      · have hlt := hc.resolve_left c
        have e9 : qud w 95 x (qwo g (w 95 x)) 95 ((x + 1) % n) = w 95 ((x + 1) % n) := qud_ni htx
        rw [qld_ok ht.1 (by omega), e9, w32_ok (z := qgo g (w 95 x) - 1) (by omega) (by omega)]
        refine kT_eq (me_with hk (hM.af FAf.w95).2.1 hvt.1 hvt.2 hlt (by omega) (by omega)) ?_
        refine kT_st ht.1 (by omega) ?_
        dsimp only
        have tw := tt.2.2 hlt (qgo g (w 95 x) - 1).toNat (by omega)
        rw [show (((qgo g (w 95 x) - 1).toNat : Nat) : Int) = qgo g (w 95 x) - 1 by omega] at tw
        refine h141 z _ (nmB K n (dU (dU (dg K s) x (qwo g (dg K s x))) ((x + 1) % n) (qwi g (dg K s ((x + 1) % n)) (qgo g (dg K s x) - 1))) (if r = 2 ∧ cr K n s = (x + 1) % n ∧ e - lq g (dg K s ((x + 1) % n)) = 1 then x else cr K n s)) (FAf.w95.tr FAf.w95) ((hd.w95 to.1.2).w95 tw.1) (by rw [qud_nk (by decide), qud_nk (by decide)]) (by rw [qud_row (by decide), qud_row (by decide)]) ?_ ?_
        · have ec : (if z = 0 then qud (qud w 95 x (qwo g (w 95 x))) 95 ((x + 1) % n) (qwi g (w 95 ((x + 1) % n)) (qgo g (w 95 x) - 1)) 88 16 else x) = (if r = 2 ∧ cr K n s = (x + 1) % n ∧ e - lq g (dg K s ((x + 1) % n)) = 1 then x else cr K n s) := by
            rw [qud_nk (by decide), qud_nk (by decide), e16]
            by_cases u : z = 0
            · rw [if_pos u, if_neg ((hz2 c).mp u)]
            · rw [if_neg u, if_pos (Classical.byContradiction fun q => u ((hz2 c).mpr q))]
          rw [ec]
          refine nm_co (by omega) (fun i i0 i1 => ?_)
          rw [qud_if, qud_if]
          unfold dU
          rw [hh x x0 x1, hh _ ht.1 ht.2]
          by_cases u : i = (x + 1) % n
          · rw [if_pos u, if_pos u]
          · rw [if_neg u, if_neg u]
            by_cases u2 : i = x
            · rw [if_pos u2, if_pos u2]
            · rw [if_neg u2, if_neg u2, hh i i0 i1]
        · unfold fsL
          rw [← hh x x0 x1, ← hh _ ht.1 ht.2, if_neg hz, if_neg c, if_neg (show ¬ e - lq g (w 95 ((x + 1) % n)) = 0 by omega)]
    have h62 : lq g (w 95 x) ≠ 0 → (qgo g (w 95 x) ≤ 0 ∨ lq g (w 95 ((x + 1) % n)) < e) → kT (f_M_laysAfter_62 (f_M_laysAfter_12 m) s x (qgo g (w 95 x)) ((x + 1) % n) w) P := by
      intro hz hc
      unfold f_M_laysAfter_62
      rw [e12, e16]
      refine kT_if (fun c => h98 0 hz hc (fun _ => rfl) (fun q => absurd c q)) (fun c => ?_)
      refine kT_if (fun c2 => ?_) (fun c2 => h98 0 hz hc (fun _ => rfl) (fun _ => ⟨fun _ q => c2 q.1, fun _ => rfl⟩))
      refine kT_if (fun c3 => ?_) (fun c3 => h98 0 hz hc (fun _ => rfl) (fun _ => ⟨fun _ q => c3 q.2.1, fun _ => rfl⟩))
      refine kT_eq (me_free hk hM ht.1 ht.2 hvt) ?_
      dsimp only
      rw [hh _ ht.1 ht.2]
      exact kT_if (fun c4 => h98 1 hz hc (fun q => absurd q c) (fun _ => ⟨fun q => absurd q (by decide), fun q => absurd ⟨c2, c3, c4⟩ q⟩)) (fun c4 => h98 0 hz hc (fun _ => rfl) (fun _ => ⟨fun _ q => c4 q.2.2, fun _ => rfl⟩))
    rw [f_M_laysAfter_12, hM.1.1, if_pos x1, qld_ok x0 (by omega), qbd (me_goal hk hM.2.1 hv.1 hv.2)]
    dsimp only
    rw [hM.1.1, qdv_ok (by omega), w32_ok (z := x + 1) (by omega) (by omega), jrem_ok (by omega) (by omega) (by omega) (by omega)]
    refine kT_if (fun c1 => skip ?_) (fun c1 => ?_)
    · unfold fsL
      rw [← hh x x0 x1, if_pos]
      refine Decidable.by_contra fun u => ?_
      have : 0 ≤ qgo g (w 95 x) := (t.2.1 u).1.1.1
      omega
    · have hz := hgo.resolve_left c1
      refine kT_if (fun c2 => h62 hz (Or.inl c2)) (fun c2 => ?_)
      refine kT_eq (me_free hk hM ht.1 ht.2 hvt) ?_
      dsimp only
      refine kT_if (fun c3 => skip ?_) (fun c3 => h62 hz (Or.inr (by omega)))
      unfold fsL
      rw [← hh x x0 x1, ← hh _ ht.1 ht.2, if_neg hz, if_neg c2, if_pos c3]
  · rw [f_M_laysAfter_12, hJ.1.1.1.1, if_neg (by omega)]
    exact K2 w hJ
/-- all steps of a state are listed -/
def mAV (n e g K r s : Int) (w0 w : qMem) : Prop := mB n e g K s w0 (scA n e g K r s) w ∧ w 88 25 = ((plA n e g K r s).length : Int)
theorem me_afterV2 (hk : nek n e g K N) (h12 : w0 88 12 = r) (hr : 0 ≤ r ∧ r ≤ 2) (s0 : 0 ≤ s) (s1 : s < N) (h : mB n e g K s w0 (plA n e g K r s) w) : kT (f_M_laysAfter_185 s w) (mAV n e g K r s w0) := by
  have hb := hk.b
  obtain ⟨⟨hM, hs, hF⟩, hL⟩ := h
  have hlen := scA_len (r := r) (s := s) hk
  unfold f_M_laysAfter_185
  rw [qlt_ok]
  have f1 : FAf w (qud w 88 25 (w 88 24)) := FAf.w88 (by decide)
  have hs1 : LHs n K s (qud w 88 25 (w 88 24)) := by
    unfold LHs
    rw [qud_row (by decide), qud_ni (by decide)]
    exact hs
  have hL0 : inL (qud w 88 25 (w 88 24) 101) (qud w 88 25 (w 88 24) 88 24) (plA n e g K r s ++ enL n e g K r s (0 : Int).toNat) (fun x => x) := by
    rw [qud_row (by decide), qud_ni (by decide)]
    show inL (w 101) (w 88 24) (plA n e g K r s ++ []) _
    rw [List.append_nil]
    exact hL
  refine kD_loop (σ := Unit) (N := n) (L := fun m x _ v => f_M_laysAfter_195 m s x v) (J := fun x _ v => mB n e g K s w0 (plA n e g K r s ++ enL n e g K r s x.toNat) v ∧ v 88 25 = ((plA n e g K r s).length : Int)) (fun m x _ w x0 x1 hJ ih => ?_) (fun m _ w hJ => ?_) (by omega) (by omega) () ⟨⟨⟨hM.af f1, hs1, hF.tr f1⟩, hL0⟩, by rw [qud_s]; exact hL.1⟩
  · rw [f_M_laysAfter_195, hJ.1.1.1.1.1, if_pos x1]
    have hJ0 : ((0 : Int) = 0 ∨ mayQ e r (cr K n s) g (dg K s x) x = true) ∧ mB n e g K s w0 (plA n e g K r s ++ (enL n e g K r s x.toNat ++ enV n g K s x (0 : Int).toNat)) w ∧ w 88 25 = ((plA n e g K r s).length : Int) := by
      refine ⟨Or.inl rfl, ?_, hJ.2⟩
      show mB n e g K s w0 (plA n e g K r s ++ (enL n e g K r s x.toNat ++ [])) w
      rw [List.append_nil]
      exact hJ.1
    refine kD_loop (σ := Unit) (N := g) (L := fun m' y _ v => f_M_laysAfter_205 (f_M_laysAfter_195 m) m' s x y v) (J := fun y _ v => (y = 0 ∨ mayQ e r (cr K n s) g (dg K s x) x = true) ∧ mB n e g K s w0 (plA n e g K r s ++ (enL n e g K r s x.toNat ++ enV n g K s x y.toNat)) v ∧ v 88 25 = ((plA n e g K r s).length : Int)) (fun m' y _ w y0 y1 hJ ih' => ?_) (fun m' _ w hJ => ?_) (by omega) (by omega) () hJ0
    · obtain ⟨hy, ⟨⟨hM, hs, hF⟩, hL⟩, e25⟩ := hJ
      have hd := hs.d hk s0 s1
      have hv := hd.1 x x0 x1
      have t := qtb_of hk hv.1 hv.2
      have hh : ∀ i, 0 ≤ i → i < n → w 95 i = dg K s i := fun i i0 i1 => hs.1 i i0 i1
      have e12 : w 88 12 = r := by rw [hF.2 12 (by decide) (by decide) (by decide)]; exact h12
      have ez := me_mayV hk hM e12 hr x0 x1 hv
      have e16 : w 88 16 = cr K n s := hs.2
      rw [e16, hh x x0 x1] at ez
      rw [f_M_laysAfter_205, hM.2.1, if_pos y1, qbd ez]
      dsimp only
      rw [bi_ii, w32_ok (z := x + 1) (by omega) (by omega), w32_ok (z := y + 1) (by omega) (by omega)]
      refine kT_if (fun c => ?_) (fun c => ?_)
      · have hlt : lq g (w 95 x) < e := by
          rw [hh x x0 x1]
          unfold mayQ at c
          rw [decide_eq_true_eq] at c
          split at c <;> omega
        have tw := t.2.2 hlt y.toNat (by omega)
        rw [show ((y.toNat : Nat) : Int) = y by omega] at tw
        rw [qld_ok x0 (by omega)]
        refine kT_eq (me_with hk hM.2.1 hv.1 hv.2 hlt y0 y1) ?_
        refine kT_st x0 (by omega) ?_
        have e9 : qud w 95 x (qwi g (w 95 x) y) 88 = w 88 := qud_row (by decide)
        have e91 : qud w 95 x (qwi g (w 95 x) y) 101 = w 101 := qud_row (by decide)
        have hll : (plA n e g K r s ++ (enL n e g K r s x.toNat ++ enV n g K s x y.toNat)).length < 24 := by
          have h1 := plL_len (n := n) (e := e) (g := g) (K := K) (r := r) (s := s) n.toNat
          have h2 := enL_len (n := n) (e := e) (g := g) (K := K) (r := r) (s := s) x.toNat
          have h3 : x.toNat * g.toNat ≤ 3 * 3 := Nat.mul_le_mul (by omega) (by omega)
          rw [List.length_append, List.length_append, enV_len]
          have h4 : (plA n e g K r s).length ≤ n.toNat := h1
          omega
        refine me_storeV (L := plA n e g K r s ++ (enL n e g K r s x.toNat ++ enV n g K s x y.toNat)) (y := nmB K n (dU (dg K s) x (qwi g (dg K s x) y)) (cr K n s)) (K' := fun q4 => f_M_laysAfter_205 (f_M_laysAfter_195 m) m' s x (y + 1) q4) hk s0 s1 (hM.af FAf.w95) (hd.w95 tw.1) (by rw [e9, e91]; exact hL) hll ?_ (fun w4 m4 s4 f4 l4 e4 => ?_)
        · unfold mnm
          rw [e9, e16]
          refine nm_co (by omega) (fun i i0 i1 => ?_)
          rw [qud_if]
          unfold dU
          rw [hh x x0 x1]
          by_cases u : i = x
          · rw [if_pos u, if_pos u]
          · rw [if_neg u, if_neg u]
            exact hh i i0 i1
        · rw [e9] at e4
          refine ih' () w4 ⟨Or.inr c, ⟨⟨m4, s4, hF.tr (FAf.w95.tr f4)⟩, ?_⟩, by rw [e4]; exact e25⟩
          rw [enV_s y0]
          rw [List.append_assoc, List.append_assoc] at l4
          exact l4
      · have y00 : y = 0 := hy.resolve_right c
        refine ih () w ⟨⟨⟨hM, hs, hF⟩, ?_⟩, e25⟩
        rw [enL_s x0, if_neg c, List.append_nil]
        rw [y00] at hL
        have e0 : enV n g K s x (0 : Int).toNat = [] := rfl
        rw [e0, List.append_nil] at hL
        exact hL
    · obtain ⟨hy, ⟨⟨hM, hs, hF⟩, hL⟩, e25⟩ := hJ
      rw [f_M_laysAfter_205, hM.2.1, if_neg (by omega), w32_ok (z := x + 1) (by omega) (by omega)]
      refine ih () w ⟨⟨⟨hM, hs, hF⟩, ?_⟩, e25⟩
      rw [enL_s x0, if_pos (hy.resolve_left (by omega))]
      exact hL
  · rw [f_M_laysAfter_195, hJ.1.1.1.1.1, if_neg (by omega)]
    exact kT_some hJ
theorem me_afterV0 (hk : nek n e g K N) (hM : LM n e g K w) (h12 : w 88 12 = r) (hr : 0 ≤ r ∧ r ≤ 2) (s0 : 0 ≤ s) (s1 : s < N) : kT (f_M_laysAfter s w) (mAV n e g K r s w) := by
  unfold f_M_laysAfter
  refine kT_bind (me_opens hk hM s0 s1) (fun w1 h1 => ?_)
  rw [qlt_ok]
  have f1 : FAf w (qud w1 88 24 0) := (FAf.op h1.2).tr (FAf.w88 (by decide))
  have hs1 : LHs n K s (qud w1 88 24 0) := by
    unfold LHs
    rw [qud_row (by decide), qud_ni (by decide)]
    exact h1.1
  exact me_afterV1 (w0 := w) hk h12 hr s0 s1 ⟨hM.af f1, hs1, f1⟩ qud_s (fun w2 h2 => me_afterV2 hk h12 hr s0 s1 h2)
/-- a state's steps lead to states; what packets have to go grows less without entering -/
theorem sc_in (hk : nek n e g K N) (hr : 0 ≤ r ∧ r ≤ 2) (s0 : 0 ≤ s) (s1 : s < N) : (∀ b, inS (scA n e g K r s) b → 0 ≤ b ∧ b < N) ∧ ∀ b, inS (plA n e g K r s) b → pot g K n b < pot g K n s := by
  have hM : LM n e g K (fun k j => if k = 88 then (if j = 10 then n else if j = 11 then e else if j = 12 then r else if j = 13 then g else if j = 14 then K else 0) else 0) := ⟨⟨rfl, rfl⟩, rfl, rfl⟩
  obtain ⟨w1, -, ⟨⟨-, hL⟩, h25⟩, -, -, hl⟩ := kT_an (me_afterV0 (r := r) hk hM rfl hr s0 s1) (me_after hk hM s0 s1)
  have hlen := scA_len (r := r) (s := s) hk
  have main : ∀ i : Nat, i < (scA n e g K r s).length → (0 ≤ (scA n e g K r s).getD i 0 ∧ (scA n e g K r s).getD i 0 < N) ∧ (i < (plA n e g K r s).length → pot g K n ((scA n e g K r s).getD i 0) < pot g K n s) := fun i hi => by
    have h1 := hl i (by omega) (by rw [hL.1]; omega)
    rw [hL.2 i hi] at h1
    exact ⟨h1.1, fun z => h1.2 (by rw [h25]; omega)⟩
  refine ⟨fun b hb => ?_, fun b hb => ?_⟩
  · obtain ⟨i, hi, e0⟩ := hb
    rw [← e0]
    exact (main i hi).1
  · obtain ⟨i, hi, e0⟩ := hb
    have := (main i (by omega)).2 hi
    have e1 : (scA n e g K r s).getD i 0 = (plA n e g K r s).getD i 0 := gd_l _ i hi
    rw [e1, e0] at this
    exact this
theorem pl_sc : ∀ a b, inS (plA n e g K r a) b → inS (scA n e g K r a) b := fun a b h => h.app
theorem rCh_in (hk : nek n e g K N) (hr : 0 ≤ r ∧ r ≤ 2) (h : rCh (scA n e g K r) a) : 0 ≤ a ∧ a < N := by
  have hb := hk.b
  exact h (fun a => 0 ≤ a ∧ a < N) ⟨Int.le_refl _, by omega⟩ (fun a b ha hb => (sc_in hk hr ha.1 ha.2).1 b hb)
theorem pot_sc (hk : nek n e g K N) (hr : 0 ≤ r ∧ r ≤ 2) : ∀ a, rCh (scA n e g K r) a → 0 ≤ pot g K n a ∧ ∀ b, inS (plA n e g K r a) b → pot g K n b < pot g K n a := fun a ha => by
  have h := rCh_in hk hr ha
  exact ⟨(pot_in hk h.1).1, (sc_in hk hr h.1 h.2).2⟩
theorem pot_24 (hk : nek n e g K N) (hr : 0 ≤ r ∧ r ≤ 2) : ∀ a, rCh (scA n e g K r) a → pot g K n a ≤ 24 := fun a ha => (pot_in hk (rCh_in hk hr ha).1).2
end AV
