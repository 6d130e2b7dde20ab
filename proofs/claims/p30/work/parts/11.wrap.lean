/-! rows as the program uses them -/
def qlt {α β : Type} (x : α) (K : α → β) : β := K x
def qFU : Nat := 1000000000
/-- cells from o on are as L says, and the objects among them are complete -/
def qIs (L : List (Nat × Nat)) (ph o : Nat) : Prop := ∀ (i : Nat) (p : Nat × Nat), L[i]? = some p → qlay (o + i) = p ∧ (3 ≤ p.1 → qto (o + i) ≤ ph)
theorem qIs_sub {L : List (Nat × Nat)} {ph o : Nat} (h : qIs L ph o) (d n : Nat) : qIs ((L.drop d).take n) ph (o + d) := by
  intro i p hi
  have e : L[d + i]? = some p := by
    rw [List.getElem?_take] at hi
    split at hi
    · rw [List.getElem?_drop] at hi; exact hi
    · cases hi
  have := h (d + i) p e
  rw [← Nat.add_assoc] at this
  exact this
def qIsb (L : List (Nat × Nat)) (ph o : Nat) : Bool := (List.range L.length).all fun i => match L[i]? with
  | some p => decide (qlay (o + i) = p) && (decide (p.1 < 3) || decide (qto (o + i) ≤ ph))
  | none => true
theorem qIs_of {L : List (Nat × Nat)} {ph o : Nat} (h : qIsb L ph o = true) : qIs L ph o := by
  intro i p hi
  have hl : i < L.length := (List.getElem?_eq_some_iff.mp hi).1
  have := List.all_eq_true.mp h i (List.mem_range.mpr hl)
  rw [hi] at this
  simp only [Bool.and_eq_true, Bool.or_eq_true, decide_eq_true_eq] at this
  refine ⟨this.1, fun h3 => ?_⟩
  rcases this.2 with h | h
  · omega
  · exact h
theorem qto_ok : ∀ k, k < 104 → ∀ j, j < 26 → 3 ≤ (qlay k).1 → j < (qlay k).2 → qof ((qlay k).1 - 3) j ≠ 0 → qtm k j ≤ qto k := by decide +kernel
/-- what a call asks of the method that it calls -/
def qMK (M' : qMI) : Prop := qOM M' ∧ Cond.code M'.1 M'.2.1 M'.2.2.1 M'.2.2.2.1 ∈ qT ∧ Cond.initialized M'.1.cls ∈ qT
def qMV (M' : qMI) : Prop := qMK M' ∧ Cond.instanceMethod M'.1 ∈ qT ∧ Cond.selects M'.1.cls M'.1 M'.1 ∈ qT
def qMS (M' : qMI) : Prop := qMK M' ∧ Cond.static M'.1 ∈ qT
def qMC (M' : qMI) : Prop := qMK M' ∧ Cond.instanceMethod M'.1 ∈ qT
section ZG
variable {α : Type} {κ : α → Option qPV × qMem} {ph ph1 ph2 : Nat} {M M' : qMI} {pc : Nat} {st stk as av : List qPV} {pls pls' : List (Option qPV)} {w : qMem} {F F1 F2 : Option α} {x y z n off : Int} {tgt nl idx o ci : Nat} {q : vw_C} {host : String}
theorem z_ic0 (hd : decode M.2.1 pc = .ok (.iconst 0, 1)) (k : qSim κ ph ph2 M (pc + 1) (qI 0 :: st) pls w F) : qSim κ ph ph2 M pc st pls w F := z_iconst hd ⟨by decide, by decide⟩ k
theorem z_ic1 (hd : decode M.2.1 pc = .ok (.iconst 1, 1)) (k : qSim κ ph ph2 M (pc + 1) (qI 1 :: st) pls w F) : qSim κ ph ph2 M pc st pls w F := z_iconst hd ⟨by decide, by decide⟩ k
theorem z_ic2 (hd : decode M.2.1 pc = .ok (.iconst 2, 1)) (k : qSim κ ph ph2 M (pc + 1) (qI 2 :: st) pls w F) : qSim κ ph ph2 M pc st pls w F := z_iconst hd ⟨by decide, by decide⟩ k
theorem z_ic3 (hd : decode M.2.1 pc = .ok (.iconst 3, 1)) (k : qSim κ ph ph2 M (pc + 1) (qI 3 :: st) pls w F) : qSim κ ph ph2 M pc st pls w F := z_iconst hd ⟨by decide, by decide⟩ k
theorem z_ic4 (hd : decode M.2.1 pc = .ok (.iconst 4, 1)) (k : qSim κ ph ph2 M (pc + 1) (qI 4 :: st) pls w F) : qSim κ ph ph2 M pc st pls w F := z_iconst hd ⟨by decide, by decide⟩ k
theorem z_ic5 (hd : decode M.2.1 pc = .ok (.iconst 5, 1)) (k : qSim κ ph ph2 M (pc + 1) (qI 5 :: st) pls w F) : qSim κ ph ph2 M pc st pls w F := z_iconst hd ⟨by decide, by decide⟩ k
theorem z_icm1 (hd : decode M.2.1 pc = .ok (.iconst (-1), 1)) (k : qSim κ ph ph2 M (pc + 1) (qI (-1) :: st) pls w F) : qSim κ ph ph2 M pc st pls w F := z_iconst hd ⟨by decide, by decide⟩ k
theorem z_gi {j : Nat} {ji : Int} (hd : decode M.2.1 pc = .ok (.getfield idx, 3)) (hc : vwCl[ci]? = some q) (hl : Cond.fieldLink M.1.cls idx q.1 (q.2.1 j).2.1 (q.2.1 j).2.2.1 ∈ qT) (ho : qlay o = (ci + 3, q.2.2)) (hb : (Nat.blt j q.2.2 && Nat.blt (qfk ci j) 2) = true) (hji : (j : Int) = ji)
    (k : qSim κ ph ph2 M (pc + 3) (qI (w o ji) :: st) pls w F) : qSim κ ph ph2 M pc (qR o :: st) pls w F := by
  rw [Bool.and_eq_true] at hb
  exact z_geti hd hc hl ho (Nat.le_of_ble_eq_true hb.1) (Nat.le_of_ble_eq_true hb.2) hji k
theorem z_gr {j d o2 : Nat} (hd : decode M.2.1 pc = .ok (.getfield idx, 3)) (hc : vwCl[ci]? = some q) (hl : Cond.fieldLink M.1.cls idx q.1 (q.2.1 j).2.1 (q.2.1 j).2.2.1 ∈ qT) (ho : qlay o = (ci + 3, q.2.2)) (ht : qto o ≤ ph) (hb : (Nat.blt j q.2.2 && (Nat.beq (qfk ci j) 2 && (Nat.beq (qof ci j) d && Nat.blt 0 d))) = true) (he : o + d = o2)
    (k : qSim κ ph ph2 M (pc + 3) (qR o2 :: st) pls w F) : qSim κ ph ph2 M pc (qR o :: st) pls w F := by
  subst he
  simp only [Bool.and_eq_true] at hb
  have h0 := Nat.le_of_ble_eq_true hb.2.2.2
  have hj := Nat.le_of_ble_eq_true hb.1
  have ho4 : o < 104 := qlay_lt ho (by have := vwCl_lt hc; omega)
  have h26 := qlay_few o ho4 (by rw [ho]; exact Nat.le_add_left _ _)
  rw [ho] at h26
  have hq := Nat.eq_of_beq_eq_true hb.2.2.1
  have := qto_ok o ho4 j (by have : q.2.2 ≤ 26 := h26; omega) (by rw [ho]; exact Nat.le_add_left _ _) (by rw [ho]; exact hj) (by rw [ho]; show qof (ci + 3 - 3) j ≠ 0; rw [Nat.add_sub_cancel, hq]; omega)
  exact z_getr hd hc hl ho hj (Nat.eq_of_beq_eq_true hb.2.1) (Nat.le_trans this ht) hq (by omega) k
theorem q_ty {j : Nat} {ty : FieldType} (hc : vwCl[ci]? = some q) (hj : j < q.2.2) (h : qty ci j = ty) : parseFieldDescriptor (q.2.1 j).2.2.1 = some ty := by
  rw [(cls_ok hc).2.1 j hj, h]
theorem z_pi {j : Nat} {ji v : Int} {K : qMem → Option α} (hd : decode M.2.1 pc = .ok (.putfield idx, 3)) (hc : vwCl[ci]? = some q) (hl : Cond.fieldLink M.1.cls idx q.1 (q.2.1 j).2.1 (q.2.1 j).2.2.1 ∈ qT) (ho : qlay o = (ci + 3, q.2.2)) (hb : (Nat.blt j q.2.2 && Nat.beq (qfk ci j) 0) = true) (hji : (j : Int) = ji)
    (hfin : (q.2.1 j).2.2.2 = false) (hty : qty ci j = .int)
    (k : ∀ w', qSim κ ph ph2 M (pc + 3) st pls w' (K w')) : qSim κ ph ph2 M pc (qI v :: qR o :: st) pls w (qlt (qud w o ji v) K) := by
  rw [Bool.and_eq_true] at hb
  have hj := Nat.le_of_ble_eq_true hb.1
  exact z_puti hd hc hl ho hj hji hfin (q_ty hc hj hty) (Nat.eq_of_beq_eq_true hb.2) (k _)
theorem z_pz {j : Nat} {ji v : Int} {K : qMem → Option α} (hd : decode M.2.1 pc = .ok (.putfield idx, 3)) (hc : vwCl[ci]? = some q) (hl : Cond.fieldLink M.1.cls idx q.1 (q.2.1 j).2.1 (q.2.1 j).2.2.1 ∈ qT) (ho : qlay o = (ci + 3, q.2.2)) (hb : (Nat.blt j q.2.2 && Nat.beq (qfk ci j) 1) = true) (hji : (j : Int) = ji)
    (hfin : (q.2.1 j).2.2.2 = false) (hty : qty ci j = .boolean) (hv : v = 0 ∨ v = 1)
    (k : ∀ w', qSim κ ph ph2 M (pc + 3) st pls w' (K w')) : qSim κ ph ph2 M pc (qI v :: qR o :: st) pls w (qlt (qud w o ji v) K) := by
  rw [Bool.and_eq_true] at hb
  have hj := Nat.le_of_ble_eq_true hb.1
  exact z_putz hd hc hl ho hj hji hfin (q_ty hc hj hty) (Nat.eq_of_beq_eq_true hb.2) hv (k _)
/-- a reference that a constructor puts into a final field -/
theorem z_pf {j d : Nat} {ji : Int} {K : qMem → Option α} (hd : decode M.2.1 pc = .ok (.putfield idx, 3)) (hc : vwCl[ci]? = some q) (hl : Cond.fieldLink M.1.cls idx q.1 (q.2.1 j).2.1 (q.2.1 j).2.2.1 ∈ qT) (ho : qlay o = (ci + 3, q.2.2)) (hb : (Nat.blt j q.2.2 && Nat.beq (qfk ci j) 2) = true) (hji : (j : Int) = ji)
    (hfin : (q.2.1 j).2.2.2 = true) (hown : q.1 = M.1.cls) (hnm : M.1.name = "<init>") (hty : (∃ n, qty ci j = .object n) ∨ ∃ t, qty ci j = .array t) (hd0 : 0 < d) (hinv : qinv (ph + 1) = (o, j)) (hb2 : (Nat.blt (ph + 1) 999 && (Nat.beq (qtm o j) (ph + 1) && Nat.beq (o + qof ci j) d)) = true)
    (k : ∀ w', qSim κ (ph + 1) ph2 M (pc + 3) st pls w' (K w')) : qSim κ ph ph2 M pc (qR d :: qR o :: st) pls w (qlt (qud w o ji (d : Int)) K) := by
  simp only [Bool.and_eq_true] at hb hb2
  have hj := Nat.le_of_ble_eq_true hb.1
  exact z_putFr hd hc hl ho hj hji hfin hown hnm ((cls_ok hc).2.1 j hj) hty (Nat.eq_of_beq_eq_true hb.2) hd0 hinv (Nat.le_of_ble_eq_true hb2.1) (Nat.eq_of_beq_eq_true hb2.2.1) (Nat.eq_of_beq_eq_true hb2.2.2) (k _)
theorem z_pn {j : Nat} {ji : Int} {K : qMem → Option α} (hd : decode M.2.1 pc = .ok (.putfield idx, 3)) (hc : vwCl[ci]? = some q) (hl : Cond.fieldLink M.1.cls idx q.1 (q.2.1 j).2.1 (q.2.1 j).2.2.1 ∈ qT) (ho : qlay o = (ci + 3, q.2.2)) (hb : (Nat.blt j q.2.2 && Nat.beq (qfk ci j) 2) = true) (hji : (j : Int) = ji)
    (hfin : (q.2.1 j).2.2.2 = false) (hty : (∃ n, qty ci j = .object n) ∨ ∃ t, qty ci j = .array t) (hph : ph < qtm o j)
    (k : ∀ w', qSim κ ph ph2 M (pc + 3) st pls w' (K w')) : qSim κ ph ph2 M pc (qN :: qR o :: st) pls w (qlt (qud w o ji 0) K) := by
  rw [Bool.and_eq_true] at hb
  have hj := Nat.le_of_ble_eq_true hb.1
  exact z_putn hd hc hl ho hj hji hfin ((cls_ok hc).2.1 j hj) hty (Nat.eq_of_beq_eq_true hb.2) hph (k _)
theorem z_pd {j d : Nat} {ji : Int} {K : qMem → Option α} (hd : decode M.2.1 pc = .ok (.putfield idx, 3)) (hc : vwCl[ci]? = some q) (hl : Cond.fieldLink M.1.cls idx q.1 (q.2.1 j).2.1 (q.2.1 j).2.2.1 ∈ qT) (ho : qlay o = (ci + 3, q.2.2)) (hb : (Nat.blt j q.2.2 && Nat.beq (qfk ci j) 2) = true) (hji : (j : Int) = ji)
    (hfin : (q.2.1 j).2.2.2 = false) (hty : (∃ n, qty ci j = .object n) ∨ ∃ t, qty ci j = .array t) (hph : ph < qtm o j) (hd0 : 0 < d) (hd1 : d < 2147483648)
    (k : ∀ w', qSim κ ph ph2 M (pc + 3) st pls w' (K w')) : qSim κ ph ph2 M pc (qR d :: qR o :: st) pls w (qlt (qud w o ji (d : Int)) K) := by
  rw [Bool.and_eq_true] at hb
  have hj := Nat.le_of_ble_eq_true hb.1
  exact z_putd hd hc hl ho hj hji hfin ((cls_ok hc).2.1 j hj) hty (Nat.eq_of_beq_eq_true hb.2) hph hd0 hd1 (k _)
theorem z_il {N : Nat} {i Ni : Int} {K : Int → Option α} (hd : decode M.2.1 pc = .ok (.iaload, 1)) (ho : qlay o = (0, N)) (hN : (N : Int) = Ni)
    (k : ∀ v, qSim κ ph ph2 M (pc + 1) (qI v :: st) pls w (K v)) : qSim κ ph ph2 M pc (qI i :: qR o :: st) pls w (qld w o Ni i K) := z_iald hd ho hN (fun _ _ => k _)
theorem z_zl {N : Nat} {i Ni : Int} {K : Int → Option α} (hd : decode M.2.1 pc = .ok (.baload, 1)) (ho : qlay o = (1, N)) (hN : (N : Int) = Ni)
    (k : ∀ v, (v = 0 ∨ v = 1) → qSim κ ph ph2 M (pc + 1) (qI v :: st) pls w (K v)) : qSim κ ph ph2 M pc (qI i :: qR o :: st) pls w (qld w o Ni i K) := z_zald hd ho hN (fun _ _ h => k _ h)
theorem z_ll {N : Nat} {i Ni : Int} {K : Int → Option α} (hd : decode M.2.1 pc = .ok (.laload, 1)) (ho : qlay o = (2, N)) (hN : (N : Int) = Ni)
    (k : ∀ v, qSim κ ph ph2 M (pc + 1) (qL v :: st) pls w (K v)) : qSim κ ph ph2 M pc (qI i :: qR o :: st) pls w (qld w o Ni i K) := z_lald hd ho hN (fun _ _ => k _)
theorem z_is {N : Nat} {i v Ni : Int} {K : qMem → Option α} (hd : decode M.2.1 pc = .ok (.iastore, 1)) (ho : qlay o = (0, N)) (hN : (N : Int) = Ni)
    (k : ∀ w', qSim κ ph ph2 M (pc + 1) st pls w' (K w')) : qSim κ ph ph2 M pc (qI v :: qI i :: qR o :: st) pls w (qst w o Ni i v K) := z_iast hd ho hN (fun _ _ => k _)
theorem z_zs {N : Nat} {i v Ni : Int} {K : qMem → Option α} (hd : decode M.2.1 pc = .ok (.bastore, 1)) (ho : qlay o = (1, N)) (hN : (N : Int) = Ni)
    (k : ∀ w', qSim κ ph ph2 M (pc + 1) st pls w' (K w')) : qSim κ ph ph2 M pc (qI v :: qI i :: qR o :: st) pls w (qstz w o Ni i v K) := z_zast hd ho hN (fun _ _ => k _)
theorem z_ls {N : Nat} {i v Ni : Int} {K : qMem → Option α} (hd : decode M.2.1 pc = .ok (.lastore, 1)) (ho : qlay o = (2, N)) (hN : (N : Int) = Ni)
    (k : ∀ w', qSim κ ph ph2 M (pc + 1) st pls w' (K w')) : qSim κ ph ph2 M pc (qL v :: qI i :: qR o :: st) pls w (qst w o Ni i v K) := z_last hd ho hN (fun _ _ => k _)
theorem z_cp {o1 o2 N1 N2 kd : Nat} {sp dp nn N1i N2i : Int} {K : qMem → Option α} (hd : decode M.2.1 pc = .ok (.invokestatic idx, 3)) (hl : Cond.methodLink M.1.cls idx ⟨"java/lang/System", "arraycopy", "(Ljava/lang/Object;ILjava/lang/Object;II)V"⟩ ∈ qT) (hkd : kd < 2) (h1 : qlay o1 = (kd, N1)) (h2 : qlay o2 = (kd, N2)) (hN1 : (N1 : Int) = N1i) (hN2 : (N2 : Int) = N2i) (hdep : 1 ≤ M.2.2.2.2.2) (hst : (st.map qcat).sum ≤ 8)
    (k : ∀ w', qSim κ ph ph2 M (pc + 3) st pls w' (K w')) : qSim κ ph ph2 M pc (qI nn :: qI dp :: qR o2 :: qI sp :: qR o1 :: st) pls w (qcpy w o1 N1i sp o2 N2i dp nn K) := z_copy hd hl hkd h1 h2 hN1 hN2 hdep hst (k _)
theorem z_na_int {N : Nat} {Ni : Int} {K : qMem → Option α} (hd : decode M.2.1 pc = .ok (.newarray .int, 2)) (ho : qlay o = (0, N)) (hN : (N : Int) = Ni) (hb : N ≤ 100000000)
    (k : ∀ w', qSim κ ph ph2 M (pc + 2) (qR o :: st) pls w' (K w')) : qSim κ ph ph2 M pc (qI Ni :: st) pls w (qnw w o K) := z_newa_int hd ho hN hb (fun _ => k _)
theorem z_na_boo {N : Nat} {Ni : Int} {K : qMem → Option α} (hd : decode M.2.1 pc = .ok (.newarray .boolean, 2)) (ho : qlay o = (1, N)) (hN : (N : Int) = Ni) (hb : N ≤ 100000000)
    (k : ∀ w', qSim κ ph ph2 M (pc + 2) (qR o :: st) pls w' (K w')) : qSim κ ph ph2 M pc (qI Ni :: st) pls w (qnw w o K) := z_newa_boo hd ho hN hb (fun _ => k _)
theorem z_na_lon {N : Nat} {Ni : Int} {K : qMem → Option α} (hd : decode M.2.1 pc = .ok (.newarray .long, 2)) (ho : qlay o = (2, N)) (hN : (N : Int) = Ni) (hb : N ≤ 60000000)
    (k : ∀ w', qSim κ ph ph2 M (pc + 2) (qR o :: st) pls w' (K w')) : qSim κ ph ph2 M pc (qI Ni :: st) pls w (qnw w o K) := z_newa_lon hd ho hN hb (fun _ => k _)
theorem z_nw {K : qMem → Option α} (hd : decode M.2.1 pc = .ok (.new idx, 3)) (hci : vwCl[ci]? = some q) (hcl : Cond.classLink M.1.cls idx q.1 ∈ qT) (hins : Cond.instantiable q.1 q.2.2 ∈ qT) (hini : Cond.initialized q.1 ∈ qT) (ho : qlay o = (ci + 3, q.2.2)) (hph : ∀ j, j < 26 → ph < qtm o j)
    (k : ∀ w', qSim κ ph ph2 M (pc + 3) (qR o :: st) pls w' (K w')) : qSim κ ph ph2 M pc st pls w (qnw w o K) := z_new hd hci hcl hins hini ho hph (fun _ => k _)
theorem z_cVI {nm : Nat} {Fc : Option (Int × qMem)} {K : Int × qMem → Option α} (hd : decode M.2.1 pc = .ok (.invokevirtual idx, 3)) (hl : Cond.methodLink M.1.cls idx M'.1 ∈ qT) (hm : qMV M') (hci : vwCl[ci]? = some q) (hq : q.1 = M'.1.cls) (ho : qlay o = (ci + 3, nm))
    (hb : (Nat.blt M'.2.2.2.2.2 M.2.2.2.2.2 && (Nat.beq as.length M'.2.2.2.2.1 && (Nat.ble (st.map qcat).sum 8 && Nat.beq ((qloc (qR o :: as)).length + nl) M'.2.2.1))) = true) (hstk : stk = as.reverse ++ qR o :: st) (hpl : pls' = qloc (qR o :: as) ++ List.replicate nl none)
    (hS : qSim κI ph ph1 M' 0 [] pls' w Fc) (k : ∀ a, Fc = some a → qRk M' (κI a).1 → qSim κ ph1 ph2 M (pc + 3) (qI a.1 :: st) pls a.2 (K a)) : qSim κ ph ph2 M pc stk pls w (Fc.bind K) := by
  simp only [Bool.and_eq_true] at hb
  exact z_callV hd hl hm.1.1 hm.1.2.1 hm.1.2.2 hm.2.1 hm.2.2 hci hq (congrArg Prod.fst ho) (Nat.le_of_ble_eq_true hb.1) (Nat.eq_of_beq_eq_true hb.2.1) (Nat.le_of_ble_eq_true hb.2.2.1) hstk hpl (Nat.eq_of_beq_eq_true hb.2.2.2) hS k
theorem z_cVL {nm : Nat} {Fc : Option (Int × qMem)} {K : Int × qMem → Option α} (hd : decode M.2.1 pc = .ok (.invokevirtual idx, 3)) (hl : Cond.methodLink M.1.cls idx M'.1 ∈ qT) (hm : qMV M') (hci : vwCl[ci]? = some q) (hq : q.1 = M'.1.cls) (ho : qlay o = (ci + 3, nm))
    (hb : (Nat.blt M'.2.2.2.2.2 M.2.2.2.2.2 && (Nat.beq as.length M'.2.2.2.2.1 && (Nat.ble (st.map qcat).sum 8 && Nat.beq ((qloc (qR o :: as)).length + nl) M'.2.2.1))) = true) (hstk : stk = as.reverse ++ qR o :: st) (hpl : pls' = qloc (qR o :: as) ++ List.replicate nl none)
    (hS : qSim κL ph ph1 M' 0 [] pls' w Fc) (k : ∀ a, Fc = some a → qRk M' (κL a).1 → qSim κ ph1 ph2 M (pc + 3) (qL a.1 :: st) pls a.2 (K a)) : qSim κ ph ph2 M pc stk pls w (Fc.bind K) := by
  simp only [Bool.and_eq_true] at hb
  exact z_callV hd hl hm.1.1 hm.1.2.1 hm.1.2.2 hm.2.1 hm.2.2 hci hq (congrArg Prod.fst ho) (Nat.le_of_ble_eq_true hb.1) (Nat.eq_of_beq_eq_true hb.2.1) (Nat.le_of_ble_eq_true hb.2.2.1) hstk hpl (Nat.eq_of_beq_eq_true hb.2.2.2) hS k
theorem z_cVV {nm : Nat} {Fc : Option qMem} {K : qMem → Option α} (hd : decode M.2.1 pc = .ok (.invokevirtual idx, 3)) (hl : Cond.methodLink M.1.cls idx M'.1 ∈ qT) (hm : qMV M') (hci : vwCl[ci]? = some q) (hq : q.1 = M'.1.cls) (ho : qlay o = (ci + 3, nm))
    (hb : (Nat.blt M'.2.2.2.2.2 M.2.2.2.2.2 && (Nat.beq as.length M'.2.2.2.2.1 && (Nat.ble (st.map qcat).sum 8 && Nat.beq ((qloc (qR o :: as)).length + nl) M'.2.2.1))) = true) (hstk : stk = as.reverse ++ qR o :: st) (hpl : pls' = qloc (qR o :: as) ++ List.replicate nl none)
    (hS : qSim κV ph ph1 M' 0 [] pls' w Fc) (k : ∀ a, Fc = some a → qSim κ ph1 ph2 M (pc + 3) st pls a (K a)) : qSim κ ph ph2 M pc stk pls w (Fc.bind K) := by
  simp only [Bool.and_eq_true] at hb
  exact z_callV hd hl hm.1.1 hm.1.2.1 hm.1.2.2 hm.2.1 hm.2.2 hci hq (congrArg Prod.fst ho) (Nat.le_of_ble_eq_true hb.1) (Nat.eq_of_beq_eq_true hb.2.1) (Nat.le_of_ble_eq_true hb.2.2.1) hstk hpl (Nat.eq_of_beq_eq_true hb.2.2.2) hS (fun a ha _ => k a ha)
theorem z_cSI {Fc : Option (Int × qMem)} {K : Int × qMem → Option α} (hd : decode M.2.1 pc = .ok (.invokestatic idx, 3)) (hl : Cond.methodLink M.1.cls idx M'.1 ∈ qT) (hm : qMS M')
    (hb : (Nat.blt M'.2.2.2.2.2 M.2.2.2.2.2 && (Nat.beq av.length M'.2.2.2.2.1 && (Nat.ble (st.map qcat).sum 8 && Nat.beq ((qloc av).length + nl) M'.2.2.1))) = true) (hstk : stk = av.reverse ++ st) (hpl : pls' = qloc av ++ List.replicate nl none)
    (hS : qSim κI ph ph1 M' 0 [] pls' w Fc) (k : ∀ a, Fc = some a → qRk M' (κI a).1 → qSim κ ph1 ph2 M (pc + 3) (qI a.1 :: st) pls a.2 (K a)) : qSim κ ph ph2 M pc stk pls w (Fc.bind K) := by
  simp only [Bool.and_eq_true] at hb
  exact z_callS hd hl hm.1.1 hm.1.2.1 hm.1.2.2 hm.2 (Nat.le_of_ble_eq_true hb.1) (Nat.eq_of_beq_eq_true hb.2.1) (Nat.le_of_ble_eq_true hb.2.2.1) hstk hpl (Nat.eq_of_beq_eq_true hb.2.2.2) hS k
theorem z_cSV {Fc : Option qMem} {K : qMem → Option α} (hd : decode M.2.1 pc = .ok (.invokestatic idx, 3)) (hl : Cond.methodLink M.1.cls idx M'.1 ∈ qT) (hm : qMS M')
    (hb : (Nat.blt M'.2.2.2.2.2 M.2.2.2.2.2 && (Nat.beq av.length M'.2.2.2.2.1 && (Nat.ble (st.map qcat).sum 8 && Nat.beq ((qloc av).length + nl) M'.2.2.1))) = true) (hstk : stk = av.reverse ++ st) (hpl : pls' = qloc av ++ List.replicate nl none)
    (hS : qSim κV ph ph1 M' 0 [] pls' w Fc) (k : ∀ a, Fc = some a → qSim κ ph1 ph2 M (pc + 3) st pls a (K a)) : qSim κ ph ph2 M pc stk pls w (Fc.bind K) := by
  simp only [Bool.and_eq_true] at hb
  exact z_callS hd hl hm.1.1 hm.1.2.1 hm.1.2.2 hm.2 (Nat.le_of_ble_eq_true hb.1) (Nat.eq_of_beq_eq_true hb.2.1) (Nat.le_of_ble_eq_true hb.2.2.1) hstk hpl (Nat.eq_of_beq_eq_true hb.2.2.2) hS (fun a ha _ => k a ha)
theorem z_cNI {Fc : Option (Int × qMem)} {K : Int × qMem → Option α} (hd : decode M.2.1 pc = .ok (.invokestatic idx, 3)) (hl : (M.1.cls, idx, M'.1, host) ∈ qNest) (hm : qMS M')
    (hb : (Nat.blt M'.2.2.2.2.2 M.2.2.2.2.2 && (Nat.beq av.length M'.2.2.2.2.1 && (Nat.ble (st.map qcat).sum 8 && Nat.beq ((qloc av).length + nl) M'.2.2.1))) = true) (hstk : stk = av.reverse ++ st) (hpl : pls' = qloc av ++ List.replicate nl none)
    (hS : qSim κI ph ph1 M' 0 [] pls' w Fc) (k : ∀ a, Fc = some a → qRk M' (κI a).1 → qSim κ ph1 ph2 M (pc + 3) (qI a.1 :: st) pls a.2 (K a)) : qSim κ ph ph2 M pc stk pls w (Fc.bind K) := by
  simp only [Bool.and_eq_true] at hb
  exact z_callSN hd hl hm.1.1 hm.1.2.1 hm.1.2.2 hm.2 (Nat.le_of_ble_eq_true hb.1) (Nat.eq_of_beq_eq_true hb.2.1) (Nat.le_of_ble_eq_true hb.2.2.1) hstk hpl (Nat.eq_of_beq_eq_true hb.2.2.2) hS k
theorem z_cIV {Fc : Option qMem} {K : qMem → Option α} (hd : decode M.2.1 pc = .ok (.invokespecial idx, 3)) (hl : Cond.methodLink M.1.cls idx M'.1 ∈ qT) (hm : qMC M') (hret : M'.2.2.2.1 = none) (hnm : M'.1.name = "<init>") (ho : (qlay o).1 ≠ 98)
    (hb : (Nat.blt M'.2.2.2.2.2 M.2.2.2.2.2 && (Nat.beq as.length M'.2.2.2.2.1 && (Nat.ble (st.map qcat).sum 8 && Nat.beq ((qloc (qR o :: as)).length + nl) M'.2.2.1))) = true) (hstk : stk = as.reverse ++ qR o :: st) (hpl : pls' = qloc (qR o :: as) ++ List.replicate nl none)
    (hS : qSim κV ph ph1 M' 0 [] pls' w Fc) (k : ∀ a, Fc = some a → qSim κ ph1 ph2 M (pc + 3) st pls a (K a)) : qSim κ ph ph2 M pc stk pls w (Fc.bind K) := by
  simp only [Bool.and_eq_true] at hb
  exact z_callI hd hl hm.1.1 hm.1.2.1 hm.1.2.2 hm.2 hret hnm ho (Nat.le_of_ble_eq_true hb.1) (Nat.eq_of_beq_eq_true hb.2.1) (Nat.le_of_ble_eq_true hb.2.2.1) hstk hpl (Nat.eq_of_beq_eq_true hb.2.2.2) hS (fun a ha _ => k a ha)
theorem z_cINV {Fc : Option qMem} {K : qMem → Option α} (hd : decode M.2.1 pc = .ok (.invokespecial idx, 3)) (hl : (M.1.cls, idx, M'.1, host) ∈ qNest) (hm : qMC M') (hret : M'.2.2.2.1 = none) (hnm : M'.1.name = "<init>") (ho : (qlay o).1 ≠ 98)
    (hb : (Nat.blt M'.2.2.2.2.2 M.2.2.2.2.2 && (Nat.beq as.length M'.2.2.2.2.1 && (Nat.ble (st.map qcat).sum 8 && Nat.beq ((qloc (qR o :: as)).length + nl) M'.2.2.1))) = true) (hstk : stk = as.reverse ++ qR o :: st) (hpl : pls' = qloc (qR o :: as) ++ List.replicate nl none)
    (hS : qSim κV ph ph1 M' 0 [] pls' w Fc) (k : ∀ a, Fc = some a → qSim κ ph1 ph2 M (pc + 3) st pls a (K a)) : qSim κ ph ph2 M pc stk pls w (Fc.bind K) := by
  simp only [Bool.and_eq_true] at hb
  exact z_callIN hd hl hm.1.1 hm.1.2.1 hm.1.2.2 hm.2 hret hnm ho (Nat.le_of_ble_eq_true hb.1) (Nat.eq_of_beq_eq_true hb.2.1) (Nat.le_of_ble_eq_true hb.2.2.1) hstk hpl (Nat.eq_of_beq_eq_true hb.2.2.2) hS (fun a ha _ => k a ha)
end ZG
