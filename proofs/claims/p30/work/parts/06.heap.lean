/-! classes -/
theorem cls_ok {ci : Nat} {q : vw_C} (h : vwCl[ci]? = some q) : (∀ x ∈ u_ws q.1 q.2.1 q.2.2, x ∈ qT) ∧ (∀ k, k < q.2.2 → parseFieldDescriptor (q.2.1 k).2.2.1 = some (qty ci k)) ∧ (∀ a, a < q.2.2 → ∀ b, b < q.2.2 → a ≠ b → (q.2.1 a).2.1 ≠ (q.2.1 b).2.1) := by
  match ci, h with
  | 0, h => cases h; exact ⟨inX0, tyX0_ok, nmX0⟩
  | 1, h => cases h; exact ⟨inX1, tyX1_ok, nmX1⟩
  | 2, h => cases h; exact ⟨inX2, tyX2_ok, nmX2⟩
  | 3, h => cases h; exact ⟨inX3, tyX3_ok, nmX3⟩
  | 4, h => cases h; exact ⟨inX4, tyX4_ok, nmX4⟩
  | 5, h => cases h; exact ⟨inX5, tyX5_ok, nmX5⟩
  | 6, h => cases h; exact ⟨inX6, tyX6_ok, nmX6⟩
  | 7, h => cases h; exact ⟨inX7, tyX7_ok, nmX7⟩
  | 8, h => cases h; exact ⟨inX8, tyX8_ok, nmX8⟩
  | 9, h => cases h; exact ⟨inX9, tyX9_ok, nmX9⟩
  | 10, h => cases h; exact ⟨inX10, tyX10_ok, nmX10⟩
  | n + 11, h => simp at h
theorem cls_own {ci : Nat} {q : vw_C} (h : vwCl[ci]? = some q) : ∀ j, (q.2.1 j).1 = q.1 := by
  intro j
  match ci, h with
  | 0, h => cases h; show (TX0 j).1 = RX0; unfold TX0; split <;> rfl
  | 1, h => cases h; show (TX1 j).1 = RX1; unfold TX1; split <;> rfl
  | 2, h => cases h; show (TX2 j).1 = RX2; unfold TX2; split <;> rfl
  | 3, h => cases h; show (TX3 j).1 = RX3; unfold TX3; split <;> rfl
  | 4, h => cases h; show (TX4 j).1 = RX4; unfold TX4; split <;> rfl
  | 5, h => cases h; show (TX5 j).1 = RX5; unfold TX5; split <;> rfl
  | 6, h => cases h; show (TX6 j).1 = RX6; unfold TX6; split <;> rfl
  | 7, h => cases h; show (TX7 j).1 = RX7; unfold TX7; split <;> rfl
  | 8, h => cases h; show (TX8 j).1 = RX8; unfold TX8; split <;> rfl
  | 9, h => cases h; show (TX9 j).1 = RX9; unfold TX9; split <;> rfl
  | 10, h => cases h; show (TX10 j).1 = RX10; unfold TX10; split <;> rfl
  | n + 11, h => simp at h
theorem qlay_big {k : Nat} (h : 104 ≤ k) : qlay k = (99, 0) := by
  have : Nat.blt k 104 = false := by
    rw [← Bool.not_eq_true]
    intro q
    have := Nat.le_of_ble_eq_true q
    omega
  unfold qlay
  rw [this]
  rfl
theorem qlay_few : ∀ k, k < 104 → 3 ≤ (qlay k).1 → (qlay k).2 ≤ 26 := by decide +kernel
theorem qof_ref : ∀ c, c < 11 → ∀ j, j < 26 → qof c j ≠ 0 → j < ((vwCl[c]?).map fun q => q.2.2).getD 0 → qfk c j = 2 := by decide +kernel
theorem qlay_cls : ∀ k, k < 104 → 3 ≤ (qlay k).1 → (qlay k).1 ≠ 98 → (qlay k).1 - 3 < 11 ∧ (qlay k).2 = ((vwCl[(qlay k).1 - 3]?).map fun q => q.2.2).getD 0 := by decide +kernel
theorem qcel_obj {sz b : Nat} {C : ClassId × ClassId × ClassId} {w : qMem} {k ci : Nat} (h : (qlay k).1 = ci + 3) : qcel sz b C w k = .inr (ci, (List.range (qlay k).2).map (qfv sz b w k ci)) := by
  unfold qcel
  rw [if_neg (by omega), if_neg (by omega), if_neg (by omega), h, Nat.add_sub_cancel]
theorem qcel_int {sz b : Nat} {C : ClassId × ClassId × ClassId} {w : qMem} {k : Nat} (h : (qlay k).1 = 0) : qcel sz b C w k = .inl (C.1, (qlay k).2, .inl fun j => Int32.ofInt (w k j)) := by
  unfold qcel
  rw [if_pos h]
theorem qcel_boo {sz b : Nat} {C : ClassId × ClassId × ClassId} {w : qMem} {k : Nat} (h : (qlay k).1 = 1) : qcel sz b C w k = .inl (C.2.1, (qlay k).2, .inl fun j => Int32.ofInt (w k j)) := by
  unfold qcel
  rw [if_neg (by omega), if_pos h]
theorem qcel_lon {sz b : Nat} {C : ClassId × ClassId × ClassId} {w : qMem} {k : Nat} (h : (qlay k).1 = 2) : qcel sz b C w k = .inl (C.2.2, (qlay k).2, .inr (.inl fun j => Int64.ofInt (w k j))) := by
  unfold qcel
  rw [if_neg (by omega), if_neg (by omega), if_pos h]
theorem qlay_0 : qlay 0 = (98, 0) := rfl
theorem q_pos {k : Nat} (h : (qlay k).1 ≠ 98) : ∃ i, k = i + 1 := by
  cases k with
  | zero => exact absurd rfl h
  | succ i => exact ⟨i, rfl⟩
theorem vwCl_lt {ci : Nat} {q : vw_C} (h : vwCl[ci]? = some q) : ci < 11 := (List.getElem?_eq_some_iff.mp h).1
/-! loads -/
def qld {α : Type} (w : qMem) (k : Nat) (N i : Int) (K : Int → Option α) : Option α := if 0 ≤ i ∧ i < N then K (w k i) else none
def qst {α : Type} (w : qMem) (k : Nat) (N i v : Int) (K : qMem → Option α) : Option α := if 0 ≤ i ∧ i < N then K (qud w k i v) else none
def qstz {α : Type} (w : qMem) (k : Nat) (N i v : Int) (K : qMem → Option α) : Option α := if (0 ≤ i ∧ i < N) ∧ (v = 0 ∨ v = 1) then K (qud w k i v) else none
def qcp (w : qMem) (k1 : Nat) (sp : Int) (k2 : Nat) (dp n : Int) : qMem := fun k j => if k = k2 ∧ dp ≤ j ∧ j < dp + n then w k1 (sp + (j - dp)) else w k j
def qcpy {α : Type} (w : qMem) (k1 : Nat) (N1 sp : Int) (k2 : Nat) (N2 dp n : Int) (K : qMem → Option α) : Option α := if (0 ≤ sp ∧ 0 ≤ dp ∧ 0 ≤ n) ∧ sp + n ≤ N1 ∧ dp + n ≤ N2 then K (qcp w k1 sp k2 dp n) else none
theorem W_sz {p : Program} {l : Launch} {e : Env} {R : Room} {s : State} {m : MethodId} {args : Array Value} {below : List Frame} {meth : Method} {c : Code} {H : Heap} {locs : List Loc} {cells slots : Nat} {Q : State → Prop} {g : JFrame}
    (h : H.size ≤ s.heap.size + cells → W p l e R s m args below meth c H locs cells slots Q g) : W p l e R s m args below meth c H locs cells slots Q g :=
  fun T hT X => h (by rw [← hT]; exact X.heapSize) T hT X
section ZC
variable {α : Type} {κ : α → Option qPV × qMem} {ph ph2 : Nat} {M : qMI} {pc : Nat} {st : List qPV} {pls pls' : List (Option qPV)} {w : qMem} {F F1 F2 : Option α} {x y z n off : Int} {tgt : Nat}
theorem z_geti {ci j o idx : Nat} {ji : Int} {q : vw_C} (hd : decode M.2.1 pc = .ok (.getfield idx, 3)) (hc : vwCl[ci]? = some q) (hl : Cond.fieldLink M.1.cls idx q.1 (q.2.1 j).2.1 (q.2.1 j).2.2.1 ∈ qT) (ho : qlay o = (ci + 3, q.2.2)) (hj : j < q.2.2) (hf : qfk ci j < 2) (hji : (j : Int) = ji)
    (k : qSim κ ph ph2 M (pc + 3) (qI (w o ji) :: st) pls w F) : qSim κ ph ph2 M pc (qR o :: st) pls w F := by
  subst hji
  have hci := vwCl_lt hc
  have ho1 : (qlay o).1 = ci + 3 := by rw [ho]
  obtain ⟨i, rfl⟩ := q_pos (k := o) (by omega)
  refine z_go k (fun h1 h2 hr _ _ _ => ⟨List.forall_mem_cons.mpr ⟨?_, fun u hu => h1 u (List.mem_cons_of_mem _ hu)⟩, h2⟩)
    (fun sz b D C p l e R s m args below meth c H locs cells slots ls Q hC hH hL hs hp hR kk => ?_)
  · have h3 := hr (i + 1) j
    rw [if_neg (by omega), if_neg (by omega)] at h3
    exact h3
  · obtain ⟨hx, hb, hml, hown, hts, -, -, hK⟩ := hC
    have hi : i < qnn w := by
      have := hs _ List.mem_cons_self
      exact this
    refine va_get hx hb hts (cls_ok hc).1 hown hK hH.2.2.2.1 i (fs := (List.range (qlay (i + 1)).2).map (qfv sz b w (i + 1) ci)) (a := sz + i) (v := .int (Int32.ofInt (w (i + 1) j))) (by rw [qwl_get hi, qcel_obj ho1]) hc j hj (hts _ hl) (fun x hx => by rw [cls_own hc j] at hx; exact hx) ?_ hd (kk ls hL)
    rw [List.getElem?_map, List.getElem?_range (by rw [ho]; exact hj)]
    simp [qfv, hf]
theorem z_getr {ci j o idx : Nat} {q : vw_C} {d : Nat} (hd : decode M.2.1 pc = .ok (.getfield idx, 3)) (hc : vwCl[ci]? = some q) (hl : Cond.fieldLink M.1.cls idx q.1 (q.2.1 j).2.1 (q.2.1 j).2.2.1 ∈ qT) (ho : qlay o = (ci + 3, q.2.2)) (hj : j < q.2.2) (hf : qfk ci j = 2) (ht : qtm o j ≤ ph) (hw : qof ci j = d) (hd0 : d ≠ 0)
    (k : qSim κ ph ph2 M (pc + 3) (qR (o + d) :: st) pls w F) : qSim κ ph ph2 M pc (qR o :: st) pls w F := by
  subst hw
  have hci := vwCl_lt hc
  have ho1 : (qlay o).1 = ci + 3 := by rw [ho]
  obtain ⟨i, rfl⟩ := q_pos (k := o) (by omega)
  refine z_go k (fun h1 h2 hr hrf hwr h00 => ⟨List.forall_mem_cons.mpr ⟨?_, fun u hu => h1 u (List.mem_cons_of_mem _ hu)⟩, h2⟩)
    (fun sz b D C p l e R s m args below meth c H locs cells slots ls Q hC hH hL hs hp hR kk => ?_)
  · have a1 := hwr (i + 1) j ht (by omega) (by rw [ho]; exact hj) (by rw [ho1, Nat.add_sub_cancel]; exact hd0)
    have a2 := hrf (i + 1) j (by omega) (by rw [ho]; exact hj) (by rw [ho1, Nat.add_sub_cancel]; exact hf)
    rw [ho1, Nat.add_sub_cancel] at a1
    show i + 1 + qof ci j ≤ (w 0 (-2)).toNat
    omega
  · obtain ⟨hx, hb, hml, hown, hts, -, -, hK⟩ := hC
    have hi : i < qnn w := by
      have := hs _ List.mem_cons_self
      exact this
    refine va_get hx hb hts (cls_ok hc).1 hown hK hH.2.2.2.1 i (fs := (List.range (qlay (i + 1)).2).map (qfv sz b w (i + 1) ci)) (a := sz + i) (v := .ref (qad sz b (i + 1 + qof ci j))) (by rw [qwl_get hi, qcel_obj ho1]) hc j hj (hts _ hl) (fun x hx => by rw [cls_own hc j] at hx; exact hx) ?_ hd (kk ls hL)
    rw [List.getElem?_map, List.getElem?_range (by rw [ho]; exact hj)]
    have a1 := hH.1.2.2.1 (i + 1) j ht (by omega) (by rw [ho]; exact hj) (by rw [ho1, Nat.add_sub_cancel]; exact hd0)
    rw [ho1, Nat.add_sub_cancel] at a1
    have e1 : ¬ (((i + 1 + qof ci j : Nat) : Int) ≤ 0) := by omega
    simp only [Option.map_some, Option.some.injEq]
    unfold qfv qrv
    rw [hf, if_neg (by omega), a1, if_neg e1, Int.toNat_natCast]
theorem z_getd {ci j o idx d : Nat} {ji : Int} {q : vw_C} (hd : decode M.2.1 pc = .ok (.getfield idx, 3)) (hc : vwCl[ci]? = some q) (hl : Cond.fieldLink M.1.cls idx q.1 (q.2.1 j).2.1 (q.2.1 j).2.2.1 ∈ qT) (ho : qlay o = (ci + 3, q.2.2)) (hj : j < q.2.2) (hf : qfk ci j = 2) (hji : (j : Int) = ji) (hv : w o ji = (d : Int)) (hd0 : 0 < d)
    (k : qSim κ ph ph2 M (pc + 3) (qR d :: st) pls w F) : qSim κ ph ph2 M pc (qR o :: st) pls w F := by
  subst hji
  have hci := vwCl_lt hc
  have ho1 : (qlay o).1 = ci + 3 := by rw [ho]
  obtain ⟨i, rfl⟩ := q_pos (k := o) (by omega)
  refine z_go k (fun h1 h2 hr hrf hm _ => ⟨List.forall_mem_cons.mpr ⟨?_, fun u hu => h1 u (List.mem_cons_of_mem _ hu)⟩, h2⟩)
    (fun sz b D C p l e R s m args below meth c H locs cells slots ls Q hC hH hL hs hp hR kk => ?_)
  · have := hrf (i + 1) j (by omega) (by rw [ho]; exact hj) (by rw [ho1, Nat.add_sub_cancel]; exact hf)
    rw [hv] at this
    show d ≤ (w 0 (-2)).toNat
    omega
  · obtain ⟨hx, hb, hml, hown, hts, -, -, hK⟩ := hC
    have hi : i < qnn w := by
      have := hs _ List.mem_cons_self
      exact this
    refine va_get hx hb hts (cls_ok hc).1 hown hK hH.2.2.2.1 i (fs := (List.range (qlay (i + 1)).2).map (qfv sz b w (i + 1) ci)) (a := sz + i) (v := .ref (qad sz b d)) (by rw [qwl_get hi, qcel_obj ho1]) hc j hj (hts _ hl) (fun x hx => by rw [cls_own hc j] at hx; exact hx) ?_ hd (kk ls hL)
    rw [List.getElem?_map, List.getElem?_range (by rw [ho]; exact hj)]
    have e1 : ¬ (d : Int) ≤ 0 := by omega
    simp [qfv, hf, qrv, hv, e1]
    omega
theorem z_getn {ci j o idx : Nat} {ji : Int} {q : vw_C} (hd : decode M.2.1 pc = .ok (.getfield idx, 3)) (hc : vwCl[ci]? = some q) (hl : Cond.fieldLink M.1.cls idx q.1 (q.2.1 j).2.1 (q.2.1 j).2.2.1 ∈ qT) (ho : qlay o = (ci + 3, q.2.2)) (hj : j < q.2.2) (hf : qfk ci j = 2) (hji : (j : Int) = ji) (hv : w o ji = 0)
    (k : qSim κ ph ph2 M (pc + 3) (qN :: st) pls w F) : qSim κ ph ph2 M pc (qR o :: st) pls w F := by
  subst hji
  have hci := vwCl_lt hc
  have ho1 : (qlay o).1 = ci + 3 := by rw [ho]
  obtain ⟨i, rfl⟩ := q_pos (k := o) (by omega)
  refine z_go k (fun h1 h2 hr hrf hm _ => ⟨List.forall_mem_cons.mpr ⟨trivial, fun u hu => h1 u (List.mem_cons_of_mem _ hu)⟩, h2⟩)
    (fun sz b D C p l e R s m args below meth c H locs cells slots ls Q hC hH hL hs hp hR kk => ?_)
  obtain ⟨hx, hb, hml, hown, hts, -, -, hK⟩ := hC
  have hi : i < qnn w := by
    have := hs _ List.mem_cons_self
    exact this
  refine va_get hx hb hts (cls_ok hc).1 hown hK hH.2.2.2.1 i (fs := (List.range (qlay (i + 1)).2).map (qfv sz b w (i + 1) ci)) (a := sz + i) (v := .null) (by rw [qwl_get hi, qcel_obj ho1]) hc j hj (hts _ hl) (fun x hx => by rw [cls_own hc j] at hx; exact hx) ?_ hd (kk ls hL)
  rw [List.getElem?_map, List.getElem?_range (by rw [ho]; exact hj)]
  simp [qfv, hf, qrv, hv]
theorem z_iald {o N : Nat} {i Ni : Int} {K : Int → Option α} (hd : decode M.2.1 pc = .ok (.iaload, 1)) (ho : qlay o = (0, N)) (hN : (N : Int) = Ni)
    (k : 0 ≤ i → i < Ni → qSim κ ph ph2 M (pc + 1) (qI (w o i) :: st) pls w (K (w o i))) : qSim κ ph ph2 M pc (qI i :: qR o :: st) pls w (qld w o Ni i K) := by
  subst hN
  unfold qld
  refine z_if (fun h => ?_) (fun _ => z_none)
  have ho1 : (qlay o).1 = 0 := by rw [ho]
  obtain ⟨i0, rfl⟩ := q_pos (k := o) (by omega)
  refine z_go (k h.1 h.2) (fun h1 h2 hr _ _ _ => ⟨List.forall_mem_cons.mpr ⟨?_, fun u hu => h1 u (List.mem_cons_of_mem _ (List.mem_cons_of_mem _ hu))⟩, h2⟩)
    (fun sz b D C p l e R s m args below meth c H locs cells slots ls Q hC hH hL hs hp hR kk => ?_)
  · have h3 := hr (i0 + 1) i
    rw [if_neg (by omega), if_neg (by omega)] at h3
    exact h3
  · obtain ⟨hx, hb, hml, hown, hts, -, -, hK⟩ := hC
    have hi : i0 < qnn w := hs (qR (i0 + 1)) (List.mem_cons_of_mem _ List.mem_cons_self)
    have hA : qA i := hs (qI i) List.mem_cons_self
    refine va_iald hx hb hK hH.2.2.2.1 i0 0 (a := sz + i0) (by rw [qwl_get hi, qcel_int ho1]) rfl (of_in hA h.1 (by rw [ho]; exact h.2)) hd ?_
    have e := kk ls hL
    rw [of_nat hA]
    simp only [Int.toNat_of_nonneg h.1]
    exact e
theorem z_zald {o N : Nat} {i Ni : Int} {K : Int → Option α} (hd : decode M.2.1 pc = .ok (.baload, 1)) (ho : qlay o = (1, N)) (hN : (N : Int) = Ni)
    (k : 0 ≤ i → i < Ni → (w o i = 0 ∨ w o i = 1) → qSim κ ph ph2 M (pc + 1) (qI (w o i) :: st) pls w (K (w o i))) : qSim κ ph ph2 M pc (qI i :: qR o :: st) pls w (qld w o Ni i K) := by
  subst hN
  unfold qld
  refine z_if (fun h => ?_) (fun _ => z_none)
  have ho1 : (qlay o).1 = 1 := by rw [ho]
  obtain ⟨i0, rfl⟩ := q_pos (k := o) (by omega)
  intro a ha hg hs hp
  have hv := hg.1 (i0 + 1) i
  rw [if_neg (by omega), if_pos (by omega)] at hv
  refine z_go (k h.1 h.2 hv) (fun h1 h2 hr _ _ _ => ⟨List.forall_mem_cons.mpr ⟨?_, fun u hu => h1 u (List.mem_cons_of_mem _ (List.mem_cons_of_mem _ hu))⟩, h2⟩)
    (fun sz b D C p l e R s m args below meth c H locs cells slots ls Q hC hH hL hs hp hR kk => ?_) a ha hg hs hp
  · show qA _
    unfold qA
    omega
  · obtain ⟨hx, hb, hml, hown, hts, -, -, hK⟩ := hC
    have hi : i0 < qnn w := hs (qR (i0 + 1)) (List.mem_cons_of_mem _ List.mem_cons_self)
    have hA : qA i := hs (qI i) List.mem_cons_self
    refine va_zald hx hb hK hH.2.2.2.1 i0 1 (a := sz + i0) (by rw [qwl_get hi, qcel_boo ho1]) rfl (of_in hA h.1 (by rw [ho]; exact h.2)) hd ?_
    have e := kk ls hL
    rw [of_nat hA]
    simp only [Int.toNat_of_nonneg h.1]
    exact e
end ZC
