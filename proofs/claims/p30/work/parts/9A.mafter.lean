/-! one ring alone (the reference): what comes after a state -/
def FAf (w w' : qMem) : Prop := (∀ k : Nat, k ≠ 88 → k ≠ 95 → k ≠ 101 → w' k = w k) ∧ ∀ j, j ≠ 16 → j ≠ 24 → j ≠ 25 → w' 88 j = w 88 j
/-- what is listed by now: states, the first b of them with less to go -/
def mAl (n g K N s b : Int) (w : qMem) : Prop := ∀ i, 0 ≤ i → i < w 88 24 → (0 ≤ w 101 i ∧ w 101 i < N) ∧ (i < b → pot g K n (w 101 i) < pot g K n s)
/-- between two steps -/
def mA (n e g K N s b : Int) (w0 : qMem) (x : Int) (w : qMem) : Prop := (LM n e g K w ∧ LHs n K s w ∧ FAf w0 w) ∧ (0 ≤ w 88 24 ∧ w 88 24 ≤ x) ∧ mAl n g K N s b w
section MA
variable {w w' w0 w2 : qMem} {n e g K N k x y l s v b p c : Int}
theorem FAf.rfl' : FAf w w := ⟨fun _ _ _ _ => rfl, fun _ _ _ _ => rfl⟩
theorem FAf.tr (h : FAf w w') (h2 : FAf w' w2) : FAf w w2 := ⟨fun k a b c => (h2.1 k a b c).trans (h.1 k a b c), fun j a b c => (h2.2 j a b c).trans (h.2 j a b c)⟩
theorem FAf.op (h : FOp w w') : FAf w w' := ⟨fun k a b _ => h.1 k a b, fun j a _ _ => h.2 j a⟩
theorem FAf.w95 : FAf w (qud w 95 x v) := ⟨fun k _ b _ => qud_row b, fun j _ _ _ => qud_nk (by decide)⟩
theorem FAf.w101 : FAf w (qud w 101 x v) := ⟨fun k _ _ c => qud_row c, fun j _ _ _ => qud_nk (by decide)⟩
theorem FAf.w88 (hx : x = 16 ∨ x = 24 ∨ x = 25) : FAf w (qud w 88 x v) := ⟨fun k a _ _ => qud_row a, fun j a b c => qud_ni (by omega)⟩
theorem LM.af (h : LM n e g K w) (hf : FAf w w') : LM n e g K w' := h.co (fun j a b c _ => hf.2 j a b c)
theorem LHd.w95 (h : LHd n K w) (hv : 0 ≤ v ∧ v < K) : LHd n K (qud w 95 x v) := by
  refine ⟨fun k k0 k1 => ?_, ?_⟩
  · rw [qud_if]
    split
    · exact hv
    · exact h.1 k k0 k1
  · rw [qud_nk (by decide)]; exact h.2
theorem LHd.w16 (h : LHd n K w) (hv : 0 ≤ v ∧ v < n) : LHd n K (qud w 88 16 v) := by
  refine ⟨fun k k0 k1 => ?_, ?_⟩
  · rw [qud_nk (by decide)]; exact h.1 k k0 k1
  · rw [qud_s]; exact hv
theorem poS_qud (x0 : 0 ≤ x) (x1 : x < n) : poS g (qud w 95 x v 95) n.toNat = poS g (w 95) n.toNat - pt g (w 95 x) + pt g v := by
  have hx : ((x.toNat : Nat) : Int) = x := by omega
  have := poS_u (g := g) (h := w 95) (h' := qud w 95 x v 95) (i := x.toNat) (v := v) n.toNat (by omega) (fun k => by rw [hx]; exact qud_if)
  rw [hx] at this
  exact this
/-- a state is listed, and the one that it comes from is opened again -/
theorem me_store {P : qMem → Prop} {K' : qMem → Option qMem} (hk : nek n e g K N) (s0 : 0 ≤ s) (s1 : s < N) (hM : LM n e g K w) (hd : LHd n K w) (hA : 0 ≤ w 88 24 ∧ w 88 24 < 24) (hl : mAl n g K N s b w) (hp : w 88 24 < b → poS g (w 95) n.toNat < pot g K n s) (k : ∀ w2, LM n e g K w2 → LHs n K s w2 → FAf w w2 → w2 88 24 = w 88 24 + 1 → w2 88 25 = w 88 25 → mAl n g K N s b w2 → kT (K' w2) P) : kT ((f_M_number w).bind fun q1 => qst q1.2 101 24 (w 88 24) q1.1 fun w2 => qlt (qud w2 88 24 (w32 ((w2 88 24) + 1))) fun w3 => (f_M_opens s w3).bind fun q4 => K' q4) P := by
  have hm := mnm_in hk hd
  refine kT_eq (me_number hk hM hd) ?_
  refine kT_st hA.1 hA.2 ?_
  rw [qlt_ok, qud_row (show (88 : Nat) ≠ 101 by decide), w32_ok (z := w 88 24 + 1) (by omega) (by omega)]
  have f3 : FAf w (qud (qud w 101 (w 88 24) (mnm n K w)) 88 24 (w 88 24 + 1)) := FAf.w101.tr (FAf.w88 (by decide))
  refine kT_bind (me_opens hk (hM.af f3) s0 s1) (fun w4 h4 => ?_)
  have e24 : w4 88 24 = w 88 24 + 1 := by rw [h4.2.2 24 (by decide), qud_s]
  refine k w4 (hM.af (f3.tr (FAf.op h4.2))) h4.1 (f3.tr (FAf.op h4.2)) e24 (by rw [h4.2.2 25 (by decide), qud_ni (by decide), qud_nk (by decide)]) (fun i i0 i1 => ?_)
  rw [h4.2.1 101 (by decide) (by decide), qud_row (k' := 101) (by decide), qud_if]
  split
  · rename_i e
    refine ⟨hm, fun hb => ?_⟩
    rw [pot_nm hk hd]
    exact hp (by omega)
  · exact hl i i0 (by omega)
theorem me_after1 {P : qMem → Prop} (hk : nek n e g K N) (s0 : 0 ≤ s) (s1 : s < N) (hJ : mA n e g K N s 100 w0 n w → True) (h : LM n e g K w ∧ LHs n K s w ∧ FAf w0 w) (h24 : w 88 24 = 0) (K2 : ∀ w2, mA n e g K N s 100 w0 n w2 → kT (f_M_laysAfter_185 s w2) P) : kT (f_M_laysAfter_12 qFU s 0 w) P := by
  have hb := hk.b
  refine kD_loop (σ := Unit) (N := n) (L := fun m x _ v => f_M_laysAfter_12 m s x v) (J := fun x _ v => mA n e g K N s 100 w0 x v) (fun m x _ w x0 x1 hJ ih => ?_) (fun m _ w hJ => ?_) (by omega) (by omega) () ⟨h, by omega, fun i i0 i1 => by omega⟩
  · obtain ⟨⟨hM, hs, hF⟩, hA, hl⟩ := hJ
    have hd := hs.d hk s0 s1
    have hv := hd.1 x x0 x1
    have ht : 0 ≤ (x + 1) % n ∧ (x + 1) % n < n := ⟨Int.emod_nonneg _ (by omega), Int.emod_lt_of_pos _ (by omega)⟩
    have htx : (x + 1) % n ≠ x := by
      rcases (by omega : n = 2 ∨ n = 3 ∨ n = 4) with rfl | rfl | rfl <;> omega
    have hvt := hd.1 _ ht.1 ht.2
    have t := qtb_of hk hv.1 hv.2
    have tt := qtb_of hk hvt.1 hvt.2
    have tl : 0 ≤ lq g (w 95 x) ∧ lq g (w 95 x) ≤ e := t.1.1
    have ttl : 0 ≤ lq g (w 95 ((x + 1) % n)) ∧ lq g (w 95 ((x + 1) % n)) ≤ e := tt.1.1
    have skip : kT (f_M_laysAfter_12 m s (x + 1) w) P := ih () w ⟨⟨hM, hs, hF⟩, by omega, hl⟩
    have hgo : qgo g (w 95 x) = -1 ∨ lq g (w 95 x) ≠ 0 := by
      by_cases z : lq g (w 95 x) = 0
      · left; unfold qgo; rw [if_pos z]
      · exact Or.inr z
    -- with what is changed: number, list, open again
    have h151 : ∀ w3, FAf w w3 → LHd n K w3 → w3 88 24 = w 88 24 → w3 101 = w 101 → poS g (w3 95) n.toNat < pot g K n s → kT (f_M_laysAfter_151 (f_M_laysAfter_12 m) s x w3) P := by
      intro w3 f3 d3 e24 e101 hp
      unfold f_M_laysAfter_151
      refine me_store (b := 100) (K' := fun q4 => f_M_laysAfter_12 m s (w32 (x + 1)) q4) hk s0 s1 (hM.af f3) d3 (by omega) (fun i i0 i1 => ?_) (fun _ => hp) (fun w4 m4 s4 f4 e4 _ l4 => ?_)
      · rw [e101]; exact hl i i0 (by omega)
      · rw [w32_ok (z := x + 1) (by omega) (by omega)]
        exact ih () w4 ⟨⟨m4, s4, hF.tr (f3.tr f4)⟩, by omega, l4⟩
    have h141 : ∀ z w3, FAf w w3 → LHd n K w3 → w3 88 24 = w 88 24 → w3 101 = w 101 → poS g (w3 95) n.toNat < pot g K n s → kT (f_M_laysAfter_141 (f_M_laysAfter_12 m) s x z w3) P := by
      intro z w3 f3 d3 e24 e101 hp
      unfold f_M_laysAfter_141
      refine kT_if (fun _ => h151 w3 f3 d3 e24 e101 hp) (fun _ => ?_)
      rw [qlt_ok]
      exact h151 _ (f3.tr (FAf.w88 (by decide))) (d3.w16 ⟨x0, x1⟩) (by rw [qud_ni (by decide)]; exact e24) (by rw [qud_row (by decide)]; exact e101) (by rw [qud_row (by decide)]; exact hp)
    have h98 : ∀ z, lq g (w 95 x) ≠ 0 → (qgo g (w 95 x) ≤ 0 ∨ lq g (w 95 ((x + 1) % n)) < e) → kT (f_M_laysAfter_98 (f_M_laysAfter_12 m) z s x (qgo g (w 95 x)) ((x + 1) % n) w) P := by
      intro z hz hc
      have to := t.2.1 hz
      have tp : pt g (qwo g (w 95 x)) = pt g (w 95 x) - (qgo g (w 95 x) + 1) := to.2
      have tg : 0 ≤ qgo g (w 95 x) ∧ qgo g (w 95 x) < g := to.1.1
      have hp9 := poS_qud (g := g) (w := w) (v := qwo g (w 95 x)) x0 x1
      rw [tp, pot_hs hs] at hp9
      unfold f_M_laysAfter_98
      rw [qld_ok x0 (by omega)]
      refine kT_eq (me_without hk hM.2.1 hv.1 hv.2 hz) ?_
      refine kT_st x0 (by omega) ?_
      dsimp only
      refine kT_if (fun _ => ?_) (fun c => ?_)
      · exact h141 z _ FAf.w95 (hd.w95 to.1.2) (qud_nk (by decide)) (qud_row (by decide)) (by rw [hp9]; omega)
      · have hlt := hc.resolve_left c
        have e9 : qud w 95 x (qwo g (w 95 x)) 95 ((x + 1) % n) = w 95 ((x + 1) % n) := qud_ni htx
        rw [qld_ok ht.1 (by omega), e9, w32_ok (z := qgo g (w 95 x) - 1) (by omega) (by omega)]
        refine kT_eq (me_with hk (hM.af FAf.w95).2.1 hvt.1 hvt.2 hlt (by omega) (by omega)) ?_
        refine kT_st ht.1 (by omega) ?_
        dsimp only
        have tw := tt.2.2 hlt (qgo g (w 95 x) - 1).toNat (by omega)
        rw [show (((qgo g (w 95 x) - 1).toNat : Nat) : Int) = qgo g (w 95 x) - 1 by omega] at tw
        have tq : pt g (qwi g (w 95 ((x + 1) % n)) (qgo g (w 95 x) - 1)) = pt g (w 95 ((x + 1) % n)) + (qgo g (w 95 x) - 1) + 1 := tw.2
        have hp13 := poS_qud (g := g) (w := qud w 95 x (qwo g (w 95 x))) (v := qwi g (w 95 ((x + 1) % n)) (qgo g (w 95 x) - 1)) ht.1 ht.2
        rw [hp9, e9, tq] at hp13
        exact h141 z _ (FAf.w95.tr FAf.w95) ((hd.w95 to.1.2).w95 tw.1) (by rw [qud_nk (by decide), qud_nk (by decide)]) (by rw [qud_row (by decide), qud_row (by decide)]) (by rw [hp13]; omega)
    have h62 : lq g (w 95 x) ≠ 0 → (qgo g (w 95 x) ≤ 0 ∨ lq g (w 95 ((x + 1) % n)) < e) → kT (f_M_laysAfter_62 (f_M_laysAfter_12 m) s x (qgo g (w 95 x)) ((x + 1) % n) w) P := by
      intro hz hc
      unfold f_M_laysAfter_62
      refine kT_if (fun _ => h98 0 hz hc) (fun _ => ?_)
      refine kT_if (fun _ => ?_) (fun _ => h98 0 hz hc)
      refine kT_if (fun _ => ?_) (fun _ => h98 0 hz hc)
      refine kT_eq (me_free hk hM ht.1 ht.2 hvt) ?_
      exact kT_if (fun _ => h98 1 hz hc) (fun _ => h98 0 hz hc)
    rw [f_M_laysAfter_12, hM.1.1, if_pos x1, qld_ok x0 (by omega), qbd (me_goal hk hM.2.1 hv.1 hv.2)]
    dsimp only
    rw [hM.1.1, qdv_ok (by omega), w32_ok (z := x + 1) (by omega) (by omega), jrem_ok (by omega) (by omega) (by omega) (by omega)]
    refine kT_if (fun _ => skip) (fun c1 => ?_)
    have hz := hgo.resolve_left c1
    refine kT_if (fun c2 => h62 hz (Or.inl c2)) (fun c2 => ?_)
    refine kT_eq (me_free hk hM ht.1 ht.2 hvt) ?_
    dsimp only
    exact kT_if (fun _ => skip) (fun c3 => h62 hz (Or.inr (by omega)))
  · rw [f_M_laysAfter_12, hJ.1.1.1.1, if_neg (by omega)]
    exact K2 w hJ
/-- what holds when all is listed -/
def mAf (n e g K N s : Int) (w0 w : qMem) : Prop := (LM n e g K w ∧ LHs n K s w ∧ FAf w0 w) ∧ ((0 ≤ w 88 25 ∧ w 88 25 ≤ w 88 24) ∧ w 88 24 ≤ 24) ∧ mAl n g K N s (w 88 25) w
theorem me_after2 (hk : nek n e g K N) (s0 : 0 ≤ s) (s1 : s < N) (h : mA n e g K N s 100 w0 n w) : kT (f_M_laysAfter_185 s w) (mAf n e g K N s w0) := by
  have hb := hk.b
  obtain ⟨⟨hM, hs, hF⟩, hA, hl⟩ := h
  unfold f_M_laysAfter_185
  rw [qlt_ok]
  have e24 : qud w 88 25 (w 88 24) 88 24 = w 88 24 := qud_ni (by decide)
  have e101 : qud w 88 25 (w 88 24) 101 = w 101 := qud_row (by decide)
  have f1 : FAf w (qud w 88 25 (w 88 24)) := FAf.w88 (by decide)
  have hs1 : LHs n K s (qud w 88 25 (w 88 24)) := by
    unfold LHs
    rw [qud_row (by decide), qud_ni (by decide)]
    exact hs
  generalize hB : w 88 24 = B at *
  refine kD_loop (σ := Unit) (N := n) (L := fun m x _ v => f_M_laysAfter_195 m s x v) (J := fun x _ v => mA n e g K N s B w0 (n + 3 * x) v ∧ v 88 25 = B ∧ B ≤ v 88 24) (fun m x _ w x0 x1 hJ ih => ?_) (fun m _ w hJ => ?_) (by omega) (by omega) () ⟨⟨⟨hM.af f1, hs1, hF.tr f1⟩, by omega, fun i i0 i1 => ?_⟩, qud_s, by omega⟩
  · rw [f_M_laysAfter_195, hJ.1.1.1.1.1, if_pos x1]
    refine kD_loop (σ := Unit) (N := g) (L := fun m' y _ v => f_M_laysAfter_205 (f_M_laysAfter_195 m) m' s x y v) (J := fun y _ v => mA n e g K N s B w0 (n + 3 * x + y) v ∧ v 88 25 = B ∧ B ≤ v 88 24) (fun m' y _ w y0 y1 hJ ih' => ?_) (fun m' _ w hJ => ?_) (by omega) (by omega) () (by rw [Int.add_zero]; exact hJ)
    · obtain ⟨⟨⟨hM, hs, hF⟩, hA, hl⟩, e25, hB2⟩ := hJ
      have hd := hs.d hk s0 s1
      have hv := hd.1 x x0 x1
      have t := qtb_of hk hv.1 hv.2
      have next : kT (f_M_laysAfter_195 m s (x + 1) w) (mAf n e g K N s w0) := ih () w ⟨⟨⟨hM, hs, hF⟩, by omega, hl⟩, e25, hB2⟩
      obtain ⟨z, ez, hz⟩ := me_may hk hM x0 x1 hv
      rw [f_M_laysAfter_205, hM.2.1, if_pos y1, qbd ez]
      dsimp only
      rw [w32_ok (z := x + 1) (by omega) (by omega), w32_ok (z := y + 1) (by omega) (by omega)]
      refine kT_if (fun _ => next) (fun c => ?_)
      have hlt := hz.resolve_left c
      have tw := t.2.2 hlt y.toNat (by omega)
      rw [show ((y.toNat : Nat) : Int) = y by omega] at tw
      rw [qld_ok x0 (by omega)]
      refine kT_eq (me_with hk hM.2.1 hv.1 hv.2 hlt y0 y1) ?_
      refine kT_st x0 (by omega) ?_
      have e9 : qud w 95 x (qwi g (w 95 x) y) 88 = w 88 := qud_row (by decide)
      have e91 : qud w 95 x (qwi g (w 95 x) y) 101 = w 101 := qud_row (by decide)
      refine me_store (b := B) (K' := fun q4 => f_M_laysAfter_205 (f_M_laysAfter_195 m) m' s x (y + 1) q4) hk s0 s1 (hM.af FAf.w95) (hd.w95 tw.1) (by rw [e9]; omega) (fun i i0 i1 => ?_) (fun hb => ?_) (fun w4 m4 s4 f4 e4 e5 l4 => ?_)
      · rw [e91]; rw [e9] at i1; exact hl i i0 i1
      · rw [e9] at hb; omega
      · rw [e9] at e4 e5
        exact ih' () w4 ⟨⟨⟨m4, s4, hF.tr (FAf.w95.tr f4)⟩, by omega, l4⟩, by omega, by omega⟩
    · obtain ⟨⟨⟨hM, hs, hF⟩, hA, hl⟩, e25, hB2⟩ := hJ
      rw [f_M_laysAfter_205, hM.2.1, if_neg (by omega), w32_ok (z := x + 1) (by omega) (by omega)]
      exact ih () w ⟨⟨⟨hM, hs, hF⟩, by omega, hl⟩, e25, hB2⟩
  · obtain ⟨⟨⟨hM, hs, hF⟩, hA, hl⟩, e25, hB2⟩ := hJ
    rw [f_M_laysAfter_195, hM.1.1, if_neg (by omega)]
    refine kT_some ⟨⟨hM, hs, hF⟩, by omega, ?_⟩
    rw [e25]; exact hl
  · rw [e24] at i1
    rw [e101]
    have hi := hl i i0 (by omega)
    exact ⟨hi.1, fun _ => hi.2 (by omega)⟩
theorem me_after (hk : nek n e g K N) (hM : LM n e g K w) (s0 : 0 ≤ s) (s1 : s < N) : kT (f_M_laysAfter s w) (mAf n e g K N s w) := by
  unfold f_M_laysAfter
  refine kT_bind (me_opens hk hM s0 s1) (fun w1 h1 => ?_)
  rw [qlt_ok]
  have f1 : FAf w (qud w1 88 24 0) := (FAf.op h1.2).tr (FAf.w88 (by decide))
  have hs1 : LHs n K s (qud w1 88 24 0) := by
    unfold LHs
    rw [qud_row (by decide), qud_ni (by decide)]
    exact h1.1
  exact me_after1 (w0 := w) hk s0 s1 (fun _ => trivial) ⟨hM.af f1, hs1, f1⟩ qud_s (fun w2 h2 => me_after2 hk s0 s1 h2)
end MA
