section ZD
variable {α : Type} {κ : α → Option qPV × qMem} {ph ph2 : Nat} {M : qMI} {pc : Nat} {st : List qPV} {pls pls' : List (Option qPV)} {w : qMem} {F F1 F2 : Option α} {x y z n off : Int} {tgt : Nat}
theorem z_lald {o N : Nat} {i Ni : Int} {K : Int → Option α} (hd : decode M.2.1 pc = .ok (.laload, 1)) (ho : qlay o = (2, N)) (hN : (N : Int) = Ni)
    (k : 0 ≤ i → i < Ni → qSim κ ph ph2 M (pc + 1) (qL (w o i) :: st) pls w (K (w o i))) : qSim κ ph ph2 M pc (qI i :: qR o :: st) pls w (qld w o Ni i K) := by
  subst hN
  unfold qld
  refine z_if (fun h => ?_) (fun _ => z_none)
  have ho1 : (qlay o).1 = 2 := by rw [ho]
  obtain ⟨i0, rfl⟩ := q_pos (k := o) (by omega)
  refine z_go (k h.1 h.2) (fun h1 h2 hr _ _ _ => ⟨List.forall_mem_cons.mpr ⟨?_, fun u hu => h1 u (List.mem_cons_of_mem _ (List.mem_cons_of_mem _ hu))⟩, h2⟩)
    (fun sz b D C p l e R s m args below meth c H locs cells slots ls Q hC hH hL hs hp hR kk => ?_)
  · have h3 := hr (i0 + 1) i
    rw [if_pos (by omega)] at h3
    exact h3
  · obtain ⟨hx, hb, hml, hown, hts, -, -, hK⟩ := hC
    have hi : i0 < qnn w := hs (qR (i0 + 1)) (List.mem_cons_of_mem _ List.mem_cons_self)
    have hA : qA i := hs (qI i) List.mem_cons_self
    refine va_lald hx hb hK hH.2.2.2.1 i0 2 (a := sz + i0) (by rw [qwl_get hi, qcel_lon ho1]) rfl (of_in hA h.1 (by rw [ho]; exact h.2)) hd ?_
    have e := kk ls hL
    rw [of_nat hA]
    simp only [Int.toNat_of_nonneg h.1]
    exact e
theorem z_alen {o N : Nat} {kd : Nat} {Ni : Int} (hd : decode M.2.1 pc = .ok (.arraylength, 1)) (ho : qlay o = (kd, N)) (hk : kd < 3) (hN : (N : Int) = Ni) (hA : Ni < 2147483648)
    (k : qSim κ ph ph2 M (pc + 1) (qI Ni :: st) pls w F) : qSim κ ph ph2 M pc (qR o :: st) pls w F := by
  subst hN
  have ho1 : (qlay o).1 = kd := by rw [ho]
  obtain ⟨i0, rfl⟩ := q_pos (k := o) (by omega)
  refine z_go k (fun h1 h2 hr _ _ _ => ⟨List.forall_mem_cons.mpr ⟨qA_nat (by omega), fun u hu => h1 u (List.mem_cons_of_mem _ hu)⟩, h2⟩)
    (fun sz b D C p l e R s m args below meth c H locs cells slots ls Q hC hH hL hs hp hR kk => ?_)
  obtain ⟨hx, hb, hml, hown, hts, -, -, hK⟩ := hC
  have hi : i0 < qnn w := hs (qR (i0 + 1)) List.mem_cons_self
  have hv : Int32.ofNat N = Int32.ofInt (N : Int) := by
    apply Int32.toInt_inj.mp
    rw [of_toInt (qA_nat (by omega)), Int32.toInt_ofNat_of_lt (by omega)]
  have hh : (qlay (i0 + 1)).2 = N := by rw [ho]
  rcases (by omega : kd = 0 ∨ kd = 1 ∨ kd = 2) with rfl | rfl | rfl
  · exact va_alen hx hb hK hH.2.2.2.1 i0 0 (a := sz + i0) (by rw [qwl_get hi, qcel_int ho1]) rfl (by show Int32.ofNat (qlay (i0 + 1)).2 = _; rw [hh, hv]) hd (kk ls hL)
  · exact va_alen hx hb hK hH.2.2.2.1 i0 1 (a := sz + i0) (by rw [qwl_get hi, qcel_boo ho1]) rfl (by show Int32.ofNat (qlay (i0 + 1)).2 = _; rw [hh, hv]) hd (kk ls hL)
  · exact va_alen hx hb hK hH.2.2.2.1 i0 2 (a := sz + i0) (by rw [qwl_get hi, qcel_lon ho1]) rfl (by show Int32.ofNat (qlay (i0 + 1)).2 = _; rw [hh, hv]) hd (kk ls hL)
/-- the script: cell 0 -/
theorem z_sld {i : Int} {K : Int → Option α} (hd : decode M.2.1 pc = .ok (.iaload, 1))
    (k : 0 ≤ i → i < w 0 (-1) → qSim κ ph ph2 M (pc + 1) (qI (w 0 i) :: st) pls w (K (w 0 i))) : qSim κ ph ph2 M pc (qI i :: qR 0 :: st) pls w (qld w 0 (w 0 (-1)) i K) := by
  unfold qld
  refine z_if (fun h => ?_) (fun _ => z_none)
  refine z_go (k h.1 h.2) (fun h1 h2 hr _ _ _ => ⟨List.forall_mem_cons.mpr ⟨?_, fun u hu => h1 u (List.mem_cons_of_mem _ (List.mem_cons_of_mem _ hu))⟩, h2⟩)
    (fun sz b D C p l e R s m args below meth c H locs cells slots ls Q hC hH hL hs hp hR kk => ?_)
  · have h3 := hr 0 i
    rw [if_neg (by decide), if_neg (by decide)] at h3
    exact h3
  · obtain ⟨hx, hb, hml, hown, hts, -, -, hK⟩ := hC
    have hA : qA i := hs (qI i) List.mem_cons_self
    have hX := hH.2.2.2.2.1
    have hin : vp_in (Int32.ofInt i) (w 0 (-1)).toNat := of_in hA h.1 (by have := h.2; have := h.1; omega)
    obtain ⟨scr, g1, g2, g3, g4, g5⟩ := hX
    have hlt : (Int32.ofInt i).toNatClampNeg < (w 0 (-1)).toNat := Nat.not_le.mp fun q => hin (Or.inr q)
    refine W.iald (v := .int (Int32.ofInt (w 0 ((Int32.ofInt i).toNatClampNeg : Int)))) hx hb g1 g2 g3 (by rw [g4]; exact hin) (g5 _ hlt) rfl rfl hd ?_
    have e := kk ls hL
    rw [of_nat hA]
    simp only [Int.toNat_of_nonneg h.1]
    exact e
theorem z_slen (hd : decode M.2.1 pc = .ok (.arraylength, 1)) (hA : w 0 (-1) < 2147483648) (h0 : 0 ≤ w 0 (-1))
    (k : qSim κ ph ph2 M (pc + 1) (qI (w 0 (-1)) :: st) pls w F) : qSim κ ph ph2 M pc (qR 0 :: st) pls w F := by
  refine z_go k (fun h1 h2 hr _ _ _ => ⟨List.forall_mem_cons.mpr ⟨show qA _ by unfold qA; omega, fun u hu => h1 u (List.mem_cons_of_mem _ hu)⟩, h2⟩)
    (fun sz b D C p l e R s m args below meth c H locs cells slots ls Q hC hH hL hs hp hR kk => ?_)
  obtain ⟨scr, g1, g2, g3, g4, g5⟩ := hH.2.2.2.2.1
  have hv : (w 0 (-1)).toNat.toInt32 = Int32.ofInt (w 0 (-1)) := by
    apply Int32.toInt_inj.mp
    rw [of_toInt (show qA _ by unfold qA; omega)]
    show (Int32.ofNat (w 0 (-1)).toNat).toInt = _
    rw [Int32.toInt_ofNat_of_lt (by omega)]
    omega
  exact W.alen (n := Int32.ofInt (w 0 (-1))) hC.1 hC.2.1 g1 g2 (by rw [g4]; exact hv) rfl rfl hd (kk ls hL)
/-! a cell changes -/
theorem va_S_trans {A : Nat → Prop} {H0 H H1 : Heap} {l0 l1 : List Loc} (h : va_S A H0 H l0) (h1 : va_S A H H1 l1) : va_S A H0 H1 l1 :=
  ⟨Nat.le_trans h.1 h1.1, fun q a b => (h1.2.1 q (Nat.lt_of_lt_of_le a h.1) b).trans (h.2.1 q a b), h1.2.2⟩
theorem q98 : ∀ k, k < 104 → (qlay k).1 = 98 → k = 0 := by decide +kernel
theorem z_upd {pc2 : Nat} {st2 : List qPV} {w2 : qMem} {i : Nat} (k : qSim κ ph ph2 M pc2 st2 pls w2 F) (h0 : ∀ j, w2 0 j = w 0 j) (hdf : ∀ k, k ≠ i + 1 → ∀ j, w2 k j = w k j)
    (hok : qGd ph w → (∀ v ∈ st, qOk w v) → (∀ v ∈ st2, qOk w v) ∧ (∀ j, if (qlay (i + 1)).1 = 2 then qB (w2 (i + 1) j) else if (qlay (i + 1)).1 = 1 then (w2 (i + 1) j = 0 ∨ w2 (i + 1) j = 1) else qA (w2 (i + 1) j)) ∧ (∀ j : Nat, 3 ≤ (qlay (i + 1)).1 → j < (qlay (i + 1)).2 → qfk ((qlay (i + 1)).1 - 3) j = 2 → w2 (i + 1) j ≤ w 0 (-2) ∧ (qtm (i + 1) j ≤ ph → qof ((qlay (i + 1)).1 - 3) j ≠ 0 → w2 (i + 1) j = w (i + 1) j)))
    (hW : ∀ (sz b : Nat) (D : va_G) (C : ClassId × ClassId × ClassId) (p : Program) (l : Launch) (e : Env) (R : Room) (s : State) (m : MethodId) (args : Array Value) (below : List Frame) (meth : Method) (c : Code) (H : Heap) (locs : List Loc) (cells slots : Nat) (ls : Array Slot) (Q : State → Prop),
      qCx M D C p c m meth args s → qHd ph sz b D C w s H → qLr sz b M.2.2.1 ls pls → (∀ v ∈ st, qOk w v) → M.2.2.2.2.2 ≤ R.frames ∧ 39 * M.2.2.2.2.2 ≤ R.locals → va_D (fun q => sz ≤ q) (qwl sz b C w) → va_S (fun q => sz ≤ q) H H locs →
      (∀ (H1 : Heap) (locs1 : List Loc), va_P D vwCl ((qwl sz b C w).set i (sz + i, qcel sz b C w2 (i + 1))) H1 → va_S (fun q => sz ≤ q) H H1 locs1 → W p l e R s m args below meth c H1 locs1 cells slots Q (F0 m pc2 ls (st2.map (qV sz b)))) →
      W p l e R s m args below meth c H locs cells slots Q (F0 m pc ls (st.map (qV sz b)))) : qSim κ ph ph2 M pc st pls w F := by
  intro a ha hg hs hp
  obtain ⟨o1, o2, o3⟩ := hok hg hs
  have hnn : qnn w2 = qnn w := by unfold qnn; rw [h0]
  have hg2 : qGd ph w2 := by
    refine ⟨fun k' j => ?_, fun k' j h3 hl hf => ?_, fun k' j ht h3 hl hf => ?_, by rw [h0]; exact hg.2.2.2⟩
    · by_cases hk : k' = i + 1
      · subst hk; exact o2 j
      · rw [hdf k' hk]; exact hg.1 k' j
    · by_cases hk : k' = i + 1
      · subst hk; rw [h0]; exact (o3 j h3 hl hf).1
      · rw [hdf k' hk, h0]; exact hg.2.1 k' j h3 hl hf
    · by_cases hk : k' = i + 1
      · subst hk
        have e := hg.2.2.1 (i + 1) j ht h3 hl hf
        have hk4 : i + 1 < 104 := by
          by_cases hb : i + 1 < 104
          · exact hb
          · rw [qlay_big (by omega)] at hl
            exact absurd hl (Nat.not_lt_zero _)
        have h98 : (qlay (i + 1)).1 ≠ 98 := by
          intro h; have := q98 (i + 1) hk4 h; omega
        have hc := qlay_cls (i + 1) hk4 h3 h98
        have h26 := qlay_few (i + 1) hk4 h3
        rw [(o3 j h3 hl (qof_ref _ hc.1 j (by omega) hf (by rw [← hc.2]; exact hl))).2 ht hf]
        exact e
      · rw [hdf k' hk]; exact hg.2.2.1 k' j ht h3 hl hf
  have hok2 : ∀ v, qOk w v → qOk w2 v := by
    intro v hv
    rcases v with z | z | _ | z
    · exact hv
    · exact hv
    · exact trivial
    · show z ≤ qnn w2
      rw [hnn]; exact hv
  obtain ⟨k1, k2⟩ := k a ha hg2 (fun v hv => hok2 v (o1 v hv)) (fun v hv => hok2 v (hp v hv))
  rw [hnn] at k1
  refine ⟨k1, fun sz b D C p l e R s m args below meth c H locs cells slots ls Q hC hH hS hz hn hR hL hret => ?_⟩
  have hl : ∀ q ∈ locs, sz ≤ q.base := hS.2.2
  refine hW sz b D C p l e R s m args below meth c H locs cells slots ls Q hC hH hL hs hR.2.2 qwl_D ⟨Nat.le_refl _, fun _ _ _ => rfl, hl⟩ fun H1 locs1 hP1 hS1 => ?_
  refine W_sz fun hsz => ?_
  have hsize : H1.size = sz + qnn w2 := by
    have a1 := hS1.1
    have a2 := hH.2.1
    omega
  have hb : H1[b]? = H[b]? := hS1.2.1 b (by have := hH.2.1; have := hH.2.2.1; omega) (by have := hH.2.2.1; omega)
  have hH1 : qHd ph sz b D C w2 s H1 := by
    refine ⟨hg2, hsize, hH.2.2.1, ?_, ?_, by rw [h0]; exact hH.2.2.2.2.2⟩
    · rw [qwl_set hnn (fun k' hk j _ => hdf k' hk j)] at hP1
      exact hP1
    · have e : (fun j : Nat => Int32.ofInt (w2 0 j)) = fun j : Nat => Int32.ofInt (w 0 j) := funext fun j => by rw [h0]
      rw [e, h0]
      exact hH.2.2.2.2.1.kept hb
  refine k2 sz b D C p l e R s m args below meth c H1 locs1 cells slots ls Q hC hH1 (va_S_trans hS hS1) hz (by rw [hnn]; exact hn) ?_ hL ?_
  · unfold qRm at hR ⊢
    rw [hnn]
    exact hR
  · rw [hnn]
    exact hret
theorem qud_same (w : qMem) (k : Nat) (i v : Int) : qud w k i v k i = v := by simp [qud]
theorem qud_i (w : qMem) (k : Nat) (i v j : Int) : qud w k i v k j = if j = i then v else w k j := by simp [qud]
theorem qud_k (w : qMem) {k k' : Nat} (h : k' ≠ k) (i v j : Int) : qud w k i v k' j = w k' j := by simp [qud, h]
theorem qcel_iud {sz b : Nat} {C : ClassId × ClassId × ClassId} {w : qMem} {k : Nat} {i v : Int} (h : (qlay k).1 = 0) (hi : qA i) (h0 : 0 ≤ i) : qcel sz b C (qud w k i v) k = .inl (C.1, (qlay k).2, .inl (upd (fun j => Int32.ofInt (w k j)) (Int32.ofInt i).toNatClampNeg (Int32.ofInt v))) := by
  rw [qcel_int h, of_nat hi]
  congr 5
  funext j
  rw [qud_i]
  unfold upd
  by_cases hj : (j : Int) = i
  · rw [if_pos hj, if_pos (by omega)]
  · rw [if_neg hj, if_neg (by omega)]
theorem qcel_zud {sz b : Nat} {C : ClassId × ClassId × ClassId} {w : qMem} {k : Nat} {i v : Int} (h : (qlay k).1 = 1) (hi : qA i) (h0 : 0 ≤ i) (hv : v = 0 ∨ v = 1) : qcel sz b C (qud w k i v) k = .inl (C.2.1, (qlay k).2, .inl (upd (fun j => Int32.ofInt (w k j)) (Int32.ofInt i).toNatClampNeg (vp_nar .boolean (Int32.ofInt v)))) := by
  rw [qcel_boo h, of_nat hi]
  have e : vp_nar .boolean (Int32.ofInt v) = Int32.ofInt v := by
    rcases hv with rfl | rfl <;> rfl
  rw [e]
  congr 5
  funext j
  rw [qud_i]
  unfold upd
  by_cases hj : (j : Int) = i
  · rw [if_pos hj, if_pos (by omega)]
  · rw [if_neg hj, if_neg (by omega)]
theorem qcel_lud {sz b : Nat} {C : ClassId × ClassId × ClassId} {w : qMem} {k : Nat} {i v : Int} (h : (qlay k).1 = 2) (hi : qA i) (h0 : 0 ≤ i) : qcel sz b C (qud w k i v) k = .inl (C.2.2, (qlay k).2, .inr (.inl (vp_updL (fun j => Int64.ofInt (w k j)) (Int32.ofInt i).toNatClampNeg (Int64.ofInt v)))) := by
  rw [qcel_lon h, of_nat hi]
  congr 6
  funext j
  rw [qud_i]
  unfold vp_updL
  by_cases hj : (j : Int) = i
  · rw [if_pos hj, if_pos (by omega)]
  · rw [if_neg hj, if_neg (by omega)]
theorem z_iast {o N : Nat} {i v Ni : Int} {K : qMem → Option α} (hd : decode M.2.1 pc = .ok (.iastore, 1)) (ho : qlay o = (0, N)) (hN : (N : Int) = Ni)
    (k : 0 ≤ i → i < Ni → qSim κ ph ph2 M (pc + 1) st pls (qud w o i v) (K (qud w o i v))) : qSim κ ph ph2 M pc (qI v :: qI i :: qR o :: st) pls w (qst w o Ni i v K) := by
  subst hN
  unfold qst
  refine z_if (fun h => ?_) (fun _ => z_none)
  have ho1 : (qlay o).1 = 0 := by rw [ho]
  obtain ⟨i0, rfl⟩ := q_pos (k := o) (by omega)
  refine z_upd (i := i0) (k h.1 h.2) (fun j => qud_k _ (by omega) _ _ _) (fun k' hk j => qud_k _ hk _ _ _) (fun hg hs => ⟨fun u hu => hs u (List.mem_cons_of_mem _ (List.mem_cons_of_mem _ (List.mem_cons_of_mem _ hu))), fun j => ?_, fun j h3 => absurd h3 (by omega)⟩)
    (fun sz b D C p l e R s m args below meth c H locs cells slots ls Q hC hH hL hs hR hD hS kk => ?_)
  · rw [if_neg (by omega), if_neg (by omega), qud_i]
    by_cases hj : j = i
    · rw [if_pos hj]; exact hs (qI v) List.mem_cons_self
    · rw [if_neg hj]
      have h3 := hg.1 (i0 + 1) j
      rw [if_neg (by omega), if_neg (by omega)] at h3
      exact h3
  · obtain ⟨hx, hb, hml, hown, hts, -, -, hK⟩ := hC
    have hi : i0 < qnn w := hs (qR (i0 + 1)) (List.mem_cons_of_mem _ (List.mem_cons_of_mem _ List.mem_cons_self))
    have hA : qA i := hs (qI i) (List.mem_cons_of_mem _ List.mem_cons_self)
    refine va_iast hx hb hK hH.2.2.2.1 hD hS i0 0 (a := sz + i0) (by rw [qwl_get hi, qcel_int ho1]) rfl (of_in hA h.1 (by rw [ho]; exact h.2)) hd fun H1 locs1 hP1 _ hS1 => kk H1 locs1 ?_ hS1
    rw [qcel_iud ho1 hA h.1]
    exact hP1
theorem z_zast {o N : Nat} {i v Ni : Int} {K : qMem → Option α} (hd : decode M.2.1 pc = .ok (.bastore, 1)) (ho : qlay o = (1, N)) (hN : (N : Int) = Ni)
    (k : 0 ≤ i → i < Ni → qSim κ ph ph2 M (pc + 1) st pls (qud w o i v) (K (qud w o i v))) : qSim κ ph ph2 M pc (qI v :: qI i :: qR o :: st) pls w (qstz w o Ni i v K) := by
  subst hN
  unfold qstz
  refine z_if (fun h => ?_) (fun _ => z_none)
  have ho1 : (qlay o).1 = 1 := by rw [ho]
  obtain ⟨i0, rfl⟩ := q_pos (k := o) (by omega)
  refine z_upd (i := i0) (k h.1.1 h.1.2) (fun j => qud_k _ (by omega) _ _ _) (fun k' hk j => qud_k _ hk _ _ _) (fun hg hs => ⟨fun u hu => hs u (List.mem_cons_of_mem _ (List.mem_cons_of_mem _ (List.mem_cons_of_mem _ hu))), fun j => ?_, fun j h3 => absurd h3 (by omega)⟩)
    (fun sz b D C p l e R s m args below meth c H locs cells slots ls Q hC hH hL hs hR hD hS kk => ?_)
  · rw [if_neg (by omega), if_pos (by omega), qud_i]
    by_cases hj : j = i
    · rw [if_pos hj]; exact h.2
    · rw [if_neg hj]
      have h3 := hg.1 (i0 + 1) j
      rw [if_neg (by omega), if_pos (by omega)] at h3
      exact h3
  · obtain ⟨hx, hb, hml, hown, hts, -, -, hK⟩ := hC
    have hi : i0 < qnn w := hs (qR (i0 + 1)) (List.mem_cons_of_mem _ (List.mem_cons_of_mem _ List.mem_cons_self))
    have hA : qA i := hs (qI i) (List.mem_cons_of_mem _ List.mem_cons_self)
    refine va_zast hx hb hK hH.2.2.2.1 hD hS i0 1 (a := sz + i0) (by rw [qwl_get hi, qcel_boo ho1]) rfl (of_in hA h.1.1 (by rw [ho]; exact h.1.2)) hd fun H1 locs1 hP1 _ hS1 => kk H1 locs1 ?_ hS1
    rw [qcel_zud ho1 hA h.1.1 h.2]
    exact hP1
theorem z_last {o N : Nat} {i v Ni : Int} {K : qMem → Option α} (hd : decode M.2.1 pc = .ok (.lastore, 1)) (ho : qlay o = (2, N)) (hN : (N : Int) = Ni)
    (k : 0 ≤ i → i < Ni → qSim κ ph ph2 M (pc + 1) st pls (qud w o i v) (K (qud w o i v))) : qSim κ ph ph2 M pc (qL v :: qI i :: qR o :: st) pls w (qst w o Ni i v K) := by
  subst hN
  unfold qst
  refine z_if (fun h => ?_) (fun _ => z_none)
  have ho1 : (qlay o).1 = 2 := by rw [ho]
  obtain ⟨i0, rfl⟩ := q_pos (k := o) (by omega)
  refine z_upd (i := i0) (k h.1 h.2) (fun j => qud_k _ (by omega) _ _ _) (fun k' hk j => qud_k _ hk _ _ _) (fun hg hs => ⟨fun u hu => hs u (List.mem_cons_of_mem _ (List.mem_cons_of_mem _ (List.mem_cons_of_mem _ hu))), fun j => ?_, fun j h3 => absurd h3 (by omega)⟩)
    (fun sz b D C p l e R s m args below meth c H locs cells slots ls Q hC hH hL hs hR hD hS kk => ?_)
  · rw [if_pos (by omega), qud_i]
    by_cases hj : j = i
    · rw [if_pos hj]; exact hs (qL v) List.mem_cons_self
    · rw [if_neg hj]
      have h3 := hg.1 (i0 + 1) j
      rw [if_pos (by omega)] at h3
      exact h3
  · obtain ⟨hx, hb, hml, hown, hts, -, -, hK⟩ := hC
    have hi : i0 < qnn w := hs (qR (i0 + 1)) (List.mem_cons_of_mem _ (List.mem_cons_of_mem _ List.mem_cons_self))
    have hA : qA i := hs (qI i) (List.mem_cons_of_mem _ List.mem_cons_self)
    refine va_last hx hb hK hH.2.2.2.1 hD hS i0 2 (a := sz + i0) (by rw [qwl_get hi, qcel_lon ho1]) rfl (of_in hA h.1 (by rw [ho]; exact h.2)) hd fun H1 locs1 hP1 _ hS1 => kk H1 locs1 ?_ hS1
    rw [qcel_lud ho1 hA h.1]
    exact hP1
theorem qcel_fud {sz b : Nat} {C : ClassId × ClassId × ClassId} {w : qMem} {k ci j : Nat} {v : Int} {x : Value} (h : (qlay k).1 = ci + 3) (hj : j < (qlay k).2) (hx : qfv sz b (qud w k j v) k ci j = x) : qcel sz b C (qud w k j v) k = .inr (ci, ((List.range (qlay k).2).map (qfv sz b w k ci)).set j x) := by
  rw [qcel_obj h]
  congr 2
  apply List.ext_getElem?
  intro t
  by_cases ht : t < (qlay k).2
  · rw [List.getElem?_map, List.getElem?_range ht]
    by_cases htj : t = j
    · subst htj
      rw [List.getElem?_set_self (by simpa using ht)]
      simp [hx]
    · rw [List.getElem?_set_ne (Ne.symm htj), List.getElem?_map, List.getElem?_range ht]
      have e : ¬ (t : Int) = (j : Int) := by omega
      simp [qfv, qud_i, e]
  · rw [List.getElem?_eq_none (by simp; omega), List.getElem?_eq_none (by simp; omega)]
theorem z_put {ci j o idx : Nat} {ji v : Int} {pv : qPV} {q : vw_C} {ty : FieldType} (hd : decode M.2.1 pc = .ok (.putfield idx, 3)) (hc : vwCl[ci]? = some q) (hl : Cond.fieldLink M.1.cls idx q.1 (q.2.1 j).2.1 (q.2.1 j).2.2.1 ∈ qT) (ho : qlay o = (ci + 3, q.2.2)) (hj : j < q.2.2) (hji : (j : Int) = ji)
    (hfin : (q.2.1 j).2.2.2 = false) (hty : parseFieldDescriptor (q.2.1 j).2.2.1 = some ty)
    (hnar : ∀ (sz b : Nat), qOk w pv → narrow ty (qV sz b pv) = qV sz b pv ∧ fits ty (qV sz b pv) = true ∧ qfv sz b (qud w o j v) o ci j = qV sz b pv) (hvA : qOk w pv → qA v) (hvr : qOk w pv → 0 ≤ w 0 (-2) → qfk ci j = 2 → v ≤ w 0 (-2) ∧ ph < qtm o j)
    (k : qSim κ ph ph2 M (pc + 3) st pls (qud w o ji v) F) : qSim κ ph ph2 M pc (pv :: qR o :: st) pls w F := by
  subst hji
  have hci := vwCl_lt hc
  have ho1 : (qlay o).1 = ci + 3 := by rw [ho]
  obtain ⟨i0, rfl⟩ := q_pos (k := o) (by omega)
  refine z_upd (i := i0) k (fun t => qud_k _ (by omega) _ _ _) (fun k' hk t => qud_k _ hk _ _ _) (fun hg hs => ⟨fun u hu => hs u (List.mem_cons_of_mem _ (List.mem_cons_of_mem _ hu)), fun t => ?_, fun t h3 hlt hf => ?_⟩)
    (fun sz b D C p l e R s m args below meth c H locs cells slots ls Q hC hH hL hs hR hD hS kk => ?_)
  · rw [if_neg (by omega), if_neg (by omega), qud_i]
    by_cases ht : t = (j : Int)
    · rw [if_pos ht]; exact hvA (hs pv List.mem_cons_self)
    · rw [if_neg ht]
      have h3 := hg.1 (i0 + 1) t
      rw [if_neg (by omega), if_neg (by omega)] at h3
      exact h3
  · rw [ho1, Nat.add_sub_cancel] at hf ⊢
    rw [qud_i]
    by_cases ht : t = j
    · subst ht
      rw [if_pos rfl]
      have h := hvr (hs pv List.mem_cons_self) hg.2.2.2 hf
      exact ⟨h.1, fun h9 => absurd h9 (by omega)⟩
    · rw [if_neg (by omega)]
      exact ⟨hg.2.1 (i0 + 1) t (by omega) hlt (by rw [ho1, Nat.add_sub_cancel]; exact hf), fun _ _ => rfl⟩
  · obtain ⟨hx, hb, hml, hown, hts, -, -, hK⟩ := hC
    have hi : i0 < qnn w := hs (qR (i0 + 1)) (List.mem_cons_of_mem _ List.mem_cons_self)
    obtain ⟨n1, n2, n3⟩ := hnar sz b (hs pv List.mem_cons_self)
    have ok := cls_ok hc
    refine va_put hx hb hts ok.1 (qty ci) ok.2.1 ok.2.2 hown hK hH.2.2.2.1 hD hS i0 (a := sz + i0) (by rw [qwl_get hi, qcel_obj ho1]) hc j hj (hts _ hl) (fun x hx => by rw [cls_own hc j] at hx; exact hx) hfin hty n1 n2 (by simp [ho]; exact hj) hd fun H1 locs1 hP1 _ hS1 => kk H1 locs1 ?_ hS1
    rw [qcel_fud ho1 (by rw [ho]; exact hj) n3]
    exact hP1
theorem z_puti {ci j o idx : Nat} {ji v : Int} {q : vw_C} (hd : decode M.2.1 pc = .ok (.putfield idx, 3)) (hc : vwCl[ci]? = some q) (hl : Cond.fieldLink M.1.cls idx q.1 (q.2.1 j).2.1 (q.2.1 j).2.2.1 ∈ qT) (ho : qlay o = (ci + 3, q.2.2)) (hj : j < q.2.2) (hji : (j : Int) = ji)
    (hfin : (q.2.1 j).2.2.2 = false) (hty : parseFieldDescriptor (q.2.1 j).2.2.1 = some .int) (hf : qfk ci j = 0)
    (k : qSim κ ph ph2 M (pc + 3) st pls (qud w o ji v) F) : qSim κ ph ph2 M pc (qI v :: qR o :: st) pls w F :=
  z_put hd hc hl ho hj hji hfin hty (fun sz b h => ⟨rfl, rfl, by simp [qfv, hf, qud_i, qV]⟩) (fun h => h) (fun _ _ h => by omega) k
theorem z_putz {ci j o idx : Nat} {ji v : Int} {q : vw_C} (hd : decode M.2.1 pc = .ok (.putfield idx, 3)) (hc : vwCl[ci]? = some q) (hl : Cond.fieldLink M.1.cls idx q.1 (q.2.1 j).2.1 (q.2.1 j).2.2.1 ∈ qT) (ho : qlay o = (ci + 3, q.2.2)) (hj : j < q.2.2) (hji : (j : Int) = ji)
    (hfin : (q.2.1 j).2.2.2 = false) (hty : parseFieldDescriptor (q.2.1 j).2.2.1 = some .boolean) (hf : qfk ci j = 1) (hv : v = 0 ∨ v = 1)
    (k : qSim κ ph ph2 M (pc + 3) st pls (qud w o ji v) F) : qSim κ ph ph2 M pc (qI v :: qR o :: st) pls w F :=
  z_put hd hc hl ho hj hji hfin hty (fun sz b h => ⟨by rcases hv with rfl | rfl <;> rfl, by rcases hv with rfl | rfl <;> rfl, by simp [qfv, hf, qud_i, qV]⟩) (fun h => h) (fun _ _ h => by omega) k
theorem z_copy {o1 o2 N1 N2 kd idx : Nat} {sp dp nn N1i N2i : Int} {K : qMem → Option α} (hd : decode M.2.1 pc = .ok (.invokestatic idx, 3)) (hl : Cond.methodLink M.1.cls idx ⟨"java/lang/System", "arraycopy", "(Ljava/lang/Object;ILjava/lang/Object;II)V"⟩ ∈ qT) (hkd : kd < 2) (h1 : qlay o1 = (kd, N1)) (h2 : qlay o2 = (kd, N2)) (hN1 : (N1 : Int) = N1i) (hN2 : (N2 : Int) = N2i) (hdep : 1 ≤ M.2.2.2.2.2) (hst : (st.map qcat).sum ≤ 8)
    (k : qSim κ ph ph2 M (pc + 3) st pls (qcp w o1 sp o2 dp nn) (K (qcp w o1 sp o2 dp nn))) : qSim κ ph ph2 M pc (qI nn :: qI dp :: qR o2 :: qI sp :: qR o1 :: st) pls w (qcpy w o1 N1i sp o2 N2i dp nn K) := by
  subst hN1; subst hN2
  unfold qcpy
  refine z_if (fun h => ?_) (fun _ => z_none)
  have ho1 : (qlay o1).1 = kd := by rw [h1]
  have ho2 : (qlay o2).1 = kd := by rw [h2]
  obtain ⟨i1, rfl⟩ := q_pos (k := o1) (by omega)
  obtain ⟨i2, rfl⟩ := q_pos (k := o2) (by omega)
  refine z_upd (i := i2) k (fun t => by unfold qcp; rw [if_neg (by omega)]) (fun k' hk t => by unfold qcp; rw [if_neg (fun q => hk q.1)]) (fun hg hs => ⟨fun u hu => hs u (by simp [hu]), fun t => ?_, fun t h3 => absurd h3 (by omega)⟩)
    (fun sz b D C p l e R s m args below meth c H locs cells slots ls Q hC hH hL hs hR hD hS kk => ?_)
  · have g1 := hg.1 (i1 + 1) (sp + (t - dp))
    have g2 := hg.1 (i2 + 1) t
    rw [ho1] at g1
    rw [ho2] at g2 ⊢
    unfold qcp
    by_cases ht : i2 + 1 = i2 + 1 ∧ dp ≤ t ∧ t < dp + nn
    · rw [if_pos ht]; exact g1
    · rw [if_neg ht]; exact g2
  · obtain ⟨hx, hb, hml, hown, hts, -, -, hK⟩ := hC
    have hi1 : i1 < qnn w := hs (qR (i1 + 1)) (by simp)
    have hi2 : i2 < qnn w := hs (qR (i2 + 1)) (by simp)
    have hAs : qA sp := hs (qI sp) (by simp)
    have hAd : qA dp := hs (qI dp) (by simp)
    have hAn : qA nn := hs (qI nn) (by simp)
    have hst' : ((st.map (qV sz b)).map fun v => v.category).sum ≤ 8 := by
      rw [List.map_map]
      have e : ((fun v : Value => v.category) ∘ qV sz b) = qcat := funext fun v => qV_cat sz b v
      rw [e]; exact hst
    have nneg : ∀ {z : Int}, qA z → 0 ≤ z → ¬ Int32.ofInt z < 0 := fun hz h0 q => by
      have := (of_lt hz qA_0).mp q
      omega
    have hh1 : (qlay (i1 + 1)).2 = N1 := by rw [h1]
    have hh2 : (qlay (i2 + 1)).2 = N2 := by rw [h2]
    have hcpy : (fun j : Nat => Int32.ofInt (qcp w (i1 + 1) sp (i2 + 1) dp nn (i2 + 1) j)) = va_cpy (fun j : Nat => Int32.ofInt (w (i1 + 1) j)) (fun j : Nat => Int32.ofInt (w (i2 + 1) j)) (Int32.ofInt sp).toNatClampNeg (Int32.ofInt dp).toNatClampNeg (Int32.ofInt nn).toNatClampNeg := by
      rw [of_nat hAs, of_nat hAd, of_nat hAn]
      funext j
      unfold qcp va_cpy
      by_cases hj : dp ≤ (j : Int) ∧ (j : Int) < dp + nn
      · rw [if_pos ⟨rfl, hj⟩, if_pos (by omega)]
        congr 2
        omega
      · rw [if_neg (fun q => hj q.2), if_neg (by omega)]
    have hlo : ((st.map (qV sz b)).map fun v => v.category).sum + (nativeFrameWords "java/lang/System" "arraycopy" 5 + 11) ≤ R.locals := by
      have e : nativeFrameWords "java/lang/System" "arraycopy" 5 + 11 ≤ 31 := by decide +kernel
      have := hR.2
      omega
    rcases (by omega : kd = 0 ∨ kd = 1) with rfl | rfl
    · refine va_copyi hx hb (hml.trans hL.1.symm) hown (hts _ hl) (hts _ nat_copy) (hts _ sta_copy) (hts _ ini_sys) hK hH.2.2.2.1 hD hS i1 i2 0 0 (a0 := sz + i1) (a := sz + i2) (by rw [qwl_get hi1, qcel_int ho1]) (by rw [qwl_get hi2, qcel_int ho2]) rfl rfl rfl (nneg hAs h.1.1) (nneg hAd h.1.2.1) (nneg hAn h.1.2.2) (by rw [of_nat hAs, of_nat hAn, hh1]; have := h.2.1; have := h.1; omega) (by rw [of_nat hAd, of_nat hAn, hh2]; have := h.2.2; have := h.1; omega) (fun _ _ => rfl) (by have := hR.1; omega) hlo hd fun H1 locs1 hP1 _ hS1 => kk H1 locs1 ?_ hS1
      rw [qcel_int ho2, hcpy]
      exact hP1
    · refine va_copyi hx hb (hml.trans hL.1.symm) hown (hts _ hl) (hts _ nat_copy) (hts _ sta_copy) (hts _ ini_sys) hK hH.2.2.2.1 hD hS i1 i2 1 1 (a0 := sz + i1) (a := sz + i2) (by rw [qwl_get hi1, qcel_boo ho1]) (by rw [qwl_get hi2, qcel_boo ho2]) rfl rfl rfl (nneg hAs h.1.1) (nneg hAd h.1.2.1) (nneg hAn h.1.2.2) (by rw [of_nat hAs, of_nat hAn, hh1]; have := h.2.1; have := h.1; omega) (by rw [of_nat hAd, of_nat hAn, hh2]; have := h.2.2; have := h.1; omega) (fun t ht => ?_) (by have := hR.1; omega) hlo hd fun H1 locs1 hP1 _ hS1 => kk H1 locs1 ?_ hS1
      · have g1 := hH.1.1 (i1 + 1) (((Int32.ofInt sp).toNatClampNeg + t : Nat) : Int)
        rw [ho1] at g1
        simp only [] at g1
        rw [if_neg (by omega), if_pos trivial] at g1
        show fits .boolean (.int (Int32.ofInt (w (i1 + 1) (((Int32.ofInt sp).toNatClampNeg + t : Nat) : Int)))) = true
        rcases g1 with g1 | g1 <;> rw [g1] <;> rfl
      · rw [qcel_boo ho2, hcpy]
        exact hP1
/-! Math -/
theorem of_le0 {x : Int} (h : qA x) : (0 : Int32) ≤ Int32.ofInt x ↔ 0 ≤ x := of_le qA_0 h
theorem qst8 {sz b : Nat} {st : List qPV} (h : (st.map qcat).sum ≤ 8) : ((st.map (qV sz b)).map fun v => v.category).sum ≤ 8 := by
  rw [List.map_map]
  have e : ((fun v : Value => v.category) ∘ qV sz b) = qcat := funext fun v => qV_cat sz b v
  rw [e]; exact h
theorem z_max {idx : Nat} (hd : decode M.2.1 pc = .ok (.invokestatic idx, 3)) (hl : Cond.methodLink M.1.cls idx m_JM_max.1 ∈ qT) (hdep : 1 ≤ M.2.2.2.2.2) (hst : (st.map qcat).sum ≤ 8)
    (k : qSim κ ph ph2 M (pc + 3) (qI (if x < y then y else x) :: st) pls w F) : qSim κ ph ph2 M pc (qI y :: qI x :: st) pls w F := by
  refine z_go k (fun h1 h2 _ _ _ _ => ⟨List.forall_mem_cons.mpr ⟨?_, fun u hu => h1 u (by simp [hu])⟩, h2⟩)
    (fun sz b D C p l e R s m args below meth c H locs cells slots ls Q hC hH hL hs hp hR kk => ?_)
  · show qA _
    have a1 : qA x := h1 (qI x) (by simp)
    have a2 : qA y := h1 (qI y) (by simp)
    split <;> assumption
  · obtain ⟨hx, hb, hml, hown, hts, -, -, hK⟩ := hC
    have a1 : qA x := hs (qI x) (by simp)
    have a2 : qA y := hs (qI y) (by simp)
    have hk := kk ls hL
    rw [List.map_cons, show qV sz b (qI (if x < y then y else x)) = .int (if Int32.ofInt x < Int32.ofInt y then Int32.ofInt y else Int32.ofInt x) by
      show Value.int (Int32.ofInt _) = _
      by_cases q : x < y
      · rw [if_pos q, if_pos ((of_lt a1 a2).mpr q)]
      · rw [if_neg q, if_neg (fun z => q ((of_lt a1 a2).mp z))]] at hk
    exact va_mmax hx hb (hml.trans hL.1.symm) hown (hts _ hl) (hts _ ms_JM_max) (hts _ ini_JM) (hts _ mc_JM_max) (by have := hR.1; omega) (by have e := qst8 (sz := sz) (b := b) hst; have := hR.2.1; omega) hR.2.2.1 hR.2.2.2 hd hk
theorem z_min {idx : Nat} (hd : decode M.2.1 pc = .ok (.invokestatic idx, 3)) (hl : Cond.methodLink M.1.cls idx m_JM_min.1 ∈ qT) (hdep : 1 ≤ M.2.2.2.2.2) (hst : (st.map qcat).sum ≤ 8)
    (k : qSim κ ph ph2 M (pc + 3) (qI (if y < x then y else x) :: st) pls w F) : qSim κ ph ph2 M pc (qI y :: qI x :: st) pls w F := by
  refine z_go k (fun h1 h2 _ _ _ _ => ⟨List.forall_mem_cons.mpr ⟨?_, fun u hu => h1 u (by simp [hu])⟩, h2⟩)
    (fun sz b D C p l e R s m args below meth c H locs cells slots ls Q hC hH hL hs hp hR kk => ?_)
  · show qA _
    have a1 : qA x := h1 (qI x) (by simp)
    have a2 : qA y := h1 (qI y) (by simp)
    split <;> assumption
  · obtain ⟨hx, hb, hml, hown, hts, -, -, hK⟩ := hC
    have a1 : qA x := hs (qI x) (by simp)
    have a2 : qA y := hs (qI y) (by simp)
    have hk := kk ls hL
    rw [List.map_cons, show qV sz b (qI (if y < x then y else x)) = .int (if Int32.ofInt y < Int32.ofInt x then Int32.ofInt y else Int32.ofInt x) by
      show Value.int (Int32.ofInt _) = _
      by_cases q : y < x
      · rw [if_pos q, if_pos ((of_lt a2 a1).mpr q)]
      · rw [if_neg q, if_neg (fun z => q ((of_lt a2 a1).mp z))]] at hk
    exact va_mmin hx hb (hml.trans hL.1.symm) hown (hts _ hl) (hts _ ms_JM_min) (hts _ ini_JM) (hts _ mc_JM_min) (by have := hR.1; omega) (by have e := qst8 (sz := sz) (b := b) hst; have := hR.2.1; omega) hR.2.2.1 hR.2.2.2 hd hk
theorem z_abs {idx : Nat} (hd : decode M.2.1 pc = .ok (.invokestatic idx, 3)) (hl : Cond.methodLink M.1.cls idx m_JM_abs.1 ∈ qT) (hdep : 1 ≤ M.2.2.2.2.2) (hst : (st.map qcat).sum ≤ 8)
    (k : qSim κ ph ph2 M (pc + 3) (qI (if 0 ≤ x then x else w32 (0 - x)) :: st) pls w F) : qSim κ ph ph2 M pc (qI x :: st) pls w F := by
  refine z_go k (fun h1 h2 _ _ _ _ => ⟨List.forall_mem_cons.mpr ⟨?_, fun u hu => h1 u (by simp [hu])⟩, h2⟩)
    (fun sz b D C p l e R s m args below meth c H locs cells slots ls Q hC hH hL hs hp hR kk => ?_)
  · show qA _
    have a1 : qA x := h1 (qI x) (by simp)
    split
    · exact a1
    · exact w32_in _
  · obtain ⟨hx, hb, hml, hown, hts, -, -, hK⟩ := hC
    have a1 : qA x := hs (qI x) (by simp)

    have hk := kk ls hL
    rw [List.map_cons, show qV sz b (qI (if 0 ≤ x then x else w32 (0 - x))) = .int (if 0 ≤ Int32.ofInt x then Int32.ofInt x else 0 - Int32.ofInt x) by
      show Value.int (Int32.ofInt _) = _
      by_cases q : 0 ≤ x
      · rw [if_pos q, if_pos ((of_le0 a1).mpr q)]
      · rw [if_neg q, if_neg (fun z => q ((of_le0 a1).mp z)), of_sub]
        rfl] at hk
    exact va_mabs hx hb (hml.trans hL.1.symm) hown (hts _ hl) (hts _ ms_JM_abs) (hts _ ini_JM) (hts _ mc_JM_abs) (by have := hR.1; omega) (by have e := qst8 (sz := sz) (b := b) hst; have := hR.2.1; omega) hR.2.2.1 hR.2.2.2 hd hk
end ZD
