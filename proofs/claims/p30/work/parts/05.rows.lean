/-! locals -/
def qlv (sz b : Nat) (pls : List (Option qPV)) : List (Nat × Value) := (List.range pls.length).filterMap fun i => match pls[i]? with
  | some (some v) => some (i, qV sz b v)
  | _ => none
theorem qlv_mem {sz b : Nat} {pls : List (Option qPV)} {i : Nat} {x : Value} : (i, x) ∈ qlv sz b pls ↔ ∃ v, pls[i]? = some (some v) ∧ x = qV sz b v := by
  unfold qlv
  rw [List.mem_filterMap]
  constructor
  · rintro ⟨j, -, hj⟩
    split at hj
    · next v hv =>
      simp only [Option.some.injEq, Prod.mk.injEq] at hj
      obtain ⟨rfl, rfl⟩ := hj
      exact ⟨v, hv, rfl⟩
    · cases hj
  · rintro ⟨v, hv, rfl⟩
    refine ⟨i, List.mem_range.mpr (List.getElem?_eq_some_iff.mp hv).1, ?_⟩
    rw [hv]
theorem qLr_lv {sz b nL : Nat} {ls : Array Slot} {pls : List (Option qPV)} (h : qLr sz b nL ls pls) : lv_has ls nL (qlv sz b pls) := by
  refine ⟨h.1, h.2.1, fun q hq => ?_⟩
  obtain ⟨i, x⟩ := q
  obtain ⟨v, hv, rfl⟩ := qlv_mem.mp hq
  exact h.2.2 i v hv
/-- no long stands just ahead -/
def qnl (pls : List (Option qPV)) : Nat → Bool
  | 0 => true
  | j + 1 => match pls[j]? with
    | some (some v) => qcat v == 1
    | _ => true
theorem qLr_set1 {sz b nL : Nat} {ls' : Array Slot} {pls : List (Option qPV)} {i : Nat} {x : qPV} (hp : qnl pls i = true)
    (h : lv_has ls' nL ((i, qV sz b x) :: (qlv sz b pls).filter (fun q => !(q.1 == i) && !(q.1 + 1 == i && q.2.category == 2)))) : qLr sz b nL ls' (pls.set i (some x)) := by
  refine ⟨h.1, h.2.1, fun j v hj => ?_⟩
  by_cases hji : j = i
  · subst hji
    have hl : j < pls.length := by simpa using (List.getElem?_eq_some_iff.mp hj).1
    rw [List.getElem?_set_self hl] at hj
    cases hj
    exact h.2.2 _ List.mem_cons_self
  · rw [List.getElem?_set_ne (Ne.symm hji)] at hj
    refine h.2.2 (j, qV sz b v) (List.mem_cons_of_mem _ (List.mem_filter.mpr ⟨qlv_mem.mpr ⟨v, hj, rfl⟩, ?_⟩))
    have h1 : (j == i) = false := by simpa using hji
    by_cases h2 : j + 1 = i
    · subst h2
      simp only [qnl, hj, beq_iff_eq] at hp
      simp [qV_cat, hp]
    · have h3 : (j + 1 == i) = false := by simpa using h2
      simp [h1, h3]
theorem qLr_set2 {sz b nL : Nat} {ls' : Array Slot} {pls : List (Option qPV)} {i : Nat} {x : qPV} (hp : qnl pls i = true)
    (h : lv_has ls' nL ((i, qV sz b x) :: (qlv sz b pls).filter (fun q => !(q.1 == i) && (!(q.1 == i + 1) && !(q.1 + 1 == i && q.2.category == 2))))) : qLr sz b nL ls' ((pls.set i (some x)).set (i + 1) none) := by
  refine ⟨h.1, h.2.1, fun j v hj => ?_⟩
  by_cases hj1 : j = i + 1
  · subst hj1
    by_cases hl : i + 1 < pls.length
    · rw [List.getElem?_set_self (by simpa using hl)] at hj
      cases hj
    · rw [List.getElem?_eq_none (by simp; omega)] at hj
      cases hj
  · rw [List.getElem?_set_ne (Ne.symm hj1)] at hj
    by_cases hji : j = i
    · subst hji
      have hl : j < pls.length := by simpa using (List.getElem?_eq_some_iff.mp hj).1
      rw [List.getElem?_set_self hl] at hj
      cases hj
      exact h.2.2 _ List.mem_cons_self
    · rw [List.getElem?_set_ne (Ne.symm hji)] at hj
      refine h.2.2 (j, qV sz b v) (List.mem_cons_of_mem _ (List.mem_filter.mpr ⟨qlv_mem.mpr ⟨v, hj, rfl⟩, ?_⟩))
      have h1 : (j == i) = false := by simpa using hji
      have h4 : (j == i + 1) = false := by simpa using hj1
      by_cases h2 : j + 1 = i
      · subst h2
        simp only [qnl, hj, beq_iff_eq] at hp
        simp [qV_cat, hp]
        omega
      · have h3 : (j + 1 == i) = false := by simpa using h2
        simp [h1, h3, h4]
theorem qset_mem {α : Type} {l : List (Option α)} {i : Nat} {x v : α} (h : some v ∈ l.set i (some x)) : v = x ∨ some v ∈ l := by
  rcases List.mem_or_eq_of_mem_set h with h | h
  · exact Or.inr h
  · exact Or.inl (Option.some.inj h)
theorem qset_memn {α : Type} {l : List (Option α)} {i : Nat} {v : α} (h : some v ∈ l.set i none) : some v ∈ l := by
  rcases List.mem_or_eq_of_mem_set h with h | h
  · exact h
  · cases h
def qmk : List Bool → List (Option qPV) → List (Option qPV)
  | b :: bs, v :: vs => (cond b v none) :: qmk bs vs
  | _, _ => []
theorem qmk_get : ∀ (bs : List Bool) (pls : List (Option qPV)) (i : Nat) (v : qPV), (qmk bs pls)[i]? = some (some v) → pls[i]? = some (some v)
  | [], pls, i, v, h => by simp [qmk] at h
  | b :: bs, [], i, v, h => by simp [qmk] at h
  | b :: bs, x :: xs, 0, v, h => by
    simp only [qmk, List.getElem?_cons_zero, Option.some.injEq] at h ⊢
    cases b
    · cases h
    · exact h
  | b :: bs, x :: xs, i + 1, v, h => by
    simp only [qmk, List.getElem?_cons_succ] at h ⊢
    exact qmk_get bs xs i v h
section ZB
variable {α : Type} {κ : α → Option qPV × qMem} {ph ph2 : Nat} {M : qMI} {pc : Nat} {st : List qPV} {pls pls' : List (Option qPV)} {w : qMem} {F F1 F2 : Option α} {x y z n off : Int} {tgt : Nat}
theorem z_mask (bs : List Bool) (k : qSim κ ph ph2 M pc st (qmk bs pls) w F) : qSim κ ph ph2 M pc st pls w F :=
  z_go k (fun h1 h2 _ _ _ _ => ⟨h1, fun v hv => by
      obtain ⟨i, hi⟩ := List.getElem?_of_mem hv
      exact h2 v (List.mem_of_getElem? (qmk_get bs pls i v hi))⟩)
    (fun sz b D C p l e R s m args below meth c H locs cells slots ls Q hC hH hL hs hp hR kk => kk ls ⟨hL.1, hL.2.1, fun i v hv => hL.2.2 i v (qmk_get bs pls i v hv)⟩)
theorem z_iconst (hd : decode M.2.1 pc = .ok (.iconst n, 1)) (hn : qA n) (k : qSim κ ph ph2 M (pc + 1) (qI n :: st) pls w F) : qSim κ ph ph2 M pc st pls w F :=
  z_go k (fun h1 h2 _ _ _ _ => ⟨List.forall_mem_cons.mpr ⟨hn, h1⟩, h2⟩)
    (fun sz b D C p l e R s m args below meth c H locs cells slots ls Q hC hH hL hs hp hR kk => lv_iconst hC.1 hC.2.1 hd rfl (kk ls hL))
theorem i8_in (h : -128 ≤ n ∧ n < 128) : (Int8.ofInt n).toInt32 = Int32.ofInt n := by
  apply Int32.toInt_inj.mp
  rw [Int8.toInt_toInt32, Int8.toInt_ofInt_of_le (by omega) (by omega), Int32.toInt_ofInt_of_le (by omega) (by omega)]
theorem i16_in (h : -32768 ≤ n ∧ n < 32768) : (Int16.ofInt n).toInt32 = Int32.ofInt n := by
  apply Int32.toInt_inj.mp
  rw [Int16.toInt_toInt32, Int16.toInt_ofInt_of_le (by omega) (by omega), Int32.toInt_ofInt_of_le (by omega) (by omega)]
theorem z_bipush (hd : decode M.2.1 pc = .ok (.bipush n, 2)) (hn : -128 ≤ n ∧ n < 128) (k : qSim κ ph ph2 M (pc + 2) (qI n :: st) pls w F) : qSim κ ph ph2 M pc st pls w F :=
  z_go k (fun h1 h2 _ _ _ _ => ⟨List.forall_mem_cons.mpr ⟨show qA n from ⟨by omega, by omega⟩, h1⟩, h2⟩)
    (fun sz b D C p l e R s m args below meth c H locs cells slots ls Q hC hH hL hs hp hR kk => lv_bipush hC.1 hC.2.1 hd (i8_in hn) (kk ls hL))
theorem z_sipush (hd : decode M.2.1 pc = .ok (.sipush n, 3)) (hn : -32768 ≤ n ∧ n < 32768) (k : qSim κ ph ph2 M (pc + 3) (qI n :: st) pls w F) : qSim κ ph ph2 M pc st pls w F :=
  z_go k (fun h1 h2 _ _ _ _ => ⟨List.forall_mem_cons.mpr ⟨show qA n from ⟨by omega, by omega⟩, h1⟩, h2⟩)
    (fun sz b D C p l e R s m args below meth c H locs cells slots ls Q hC hH hL hs hp hR kk => lv_sipush hC.1 hC.2.1 hd (i16_in hn) (kk ls hL))
theorem z_ldc {i : Nat} {v : Int32} (hd : decode M.2.1 pc = .ok (.ldc i, 2)) (hc : Cond.constant M.1.cls i v ∈ qT) (hv : v.toInt = n) (k : qSim κ ph ph2 M (pc + 2) (qI n :: st) pls w F) : qSim κ ph ph2 M pc st pls w F :=
  z_go k (fun h1 h2 _ _ _ _ => ⟨List.forall_mem_cons.mpr ⟨show qA n from hv ▸ qA_toInt v, h1⟩, h2⟩)
    (fun sz b D C p l e R s m args below meth c H locs cells slots ls Q hC hH hL hs hp hR kk => by
      have hk := kk ls hL
      rw [← hv, show (qI v.toInt :: st).map (qV sz b) = .int v :: st.map (qV sz b) by simp [qV]] at hk
      exact lv_ldc hC.1 hC.2.1 hC.2.2.2.1 (hC.2.2.2.2.1 _ hc) hd hk)
theorem z_ldc_w {i : Nat} {v : Int32} (hd : decode M.2.1 pc = .ok (.ldc_w i, 3)) (hc : Cond.constant M.1.cls i v ∈ qT) (hv : v.toInt = n) (k : qSim κ ph ph2 M (pc + 3) (qI n :: st) pls w F) : qSim κ ph ph2 M pc st pls w F :=
  z_go k (fun h1 h2 _ _ _ _ => ⟨List.forall_mem_cons.mpr ⟨show qA n from hv ▸ qA_toInt v, h1⟩, h2⟩)
    (fun sz b D C p l e R s m args below meth c H locs cells slots ls Q hC hH hL hs hp hR kk => by
      have hk := kk ls hL
      rw [← hv, show (qI v.toInt :: st).map (qV sz b) = .int v :: st.map (qV sz b) by simp [qV]] at hk
      exact lv_ldcw hC.1 hC.2.1 hC.2.2.2.1 (hC.2.2.2.2.1 _ hc) hd hk)
theorem z_ldc2 {i : Nat} {v : Int64} (hd : decode M.2.1 pc = .ok (.ldc2_w i, 3)) (hc : Cond.constantLong M.1.cls i v ∈ qT) (hv : v.toInt = n) (k : qSim κ ph ph2 M (pc + 3) (qL n :: st) pls w F) : qSim κ ph ph2 M pc st pls w F :=
  z_go k (fun h1 h2 _ _ _ _ => ⟨List.forall_mem_cons.mpr ⟨show qB n from hv ▸ qB_toInt v, h1⟩, h2⟩)
    (fun sz b D C p l e R s m args below meth c H locs cells slots ls Q hC hH hL hs hp hR kk => by
      have hk := kk ls hL
      rw [← hv, show (qL v.toInt :: st).map (qV sz b) = .long v :: st.map (qV sz b) by simp [qV]] at hk
      exact lv_ldc2 hC.1 hC.2.1 hC.2.2.2.1 (hC.2.2.2.2.1 _ hc) hd hk)
theorem z_lconst0 (hd : decode M.2.1 pc = .ok (.lconst 0, 1)) (k : qSim κ ph ph2 M (pc + 1) (qL 0 :: st) pls w F) : qSim κ ph ph2 M pc st pls w F :=
  z_go k (fun h1 h2 _ _ _ _ => ⟨List.forall_mem_cons.mpr ⟨show qB _ from ⟨by omega, by omega⟩, h1⟩, h2⟩)
    (fun sz b D C p l e R s m args below meth c H locs cells slots ls Q hC hH hL hs hp hR kk => lv_lconst hC.1 hC.2.1 hd rfl (kk ls hL))
theorem z_null (hd : decode M.2.1 pc = .ok (.aconst_null, 1)) (k : qSim κ ph ph2 M (pc + 1) (qN :: st) pls w F) : qSim κ ph ph2 M pc st pls w F :=
  z_go k (fun h1 h2 _ _ _ _ => ⟨List.forall_mem_cons.mpr ⟨trivial, h1⟩, h2⟩)
    (fun sz b D C p l e R s m args below meth c H locs cells slots ls Q hC hH hL hs hp hR kk => lv_null hC.1 hC.2.1 hd (kk ls hL))
theorem z_iload_n {i : Fin 4} (hd : decode M.2.1 pc = .ok (.iload_n i, 1)) (hl : pls[(i : Nat)]? = some (some (qI z))) (k : qSim κ ph ph2 M (pc + 1) (qI z :: st) pls w F) : qSim κ ph ph2 M pc st pls w F :=
  z_go k (fun h1 h2 _ _ _ _ => ⟨List.forall_mem_cons.mpr ⟨h2 _ (List.mem_of_getElem? hl), h1⟩, h2⟩)
    (fun sz b D C p l e R s m args below meth c H locs cells slots ls Q hC hH hL hs hp hR kk => lv_iload_n hC.1 hC.2.1 hd rfl (hL.2.2 _ _ hl) (kk ls hL))
theorem z_iload {i : Nat} (hd : decode M.2.1 pc = .ok (.iload i, 2)) (hl : pls[i]? = some (some (qI z))) (k : qSim κ ph ph2 M (pc + 2) (qI z :: st) pls w F) : qSim κ ph ph2 M pc st pls w F :=
  z_go k (fun h1 h2 _ _ _ _ => ⟨List.forall_mem_cons.mpr ⟨h2 _ (List.mem_of_getElem? hl), h1⟩, h2⟩)
    (fun sz b D C p l e R s m args below meth c H locs cells slots ls Q hC hH hL hs hp hR kk => lv_iload hC.1 hC.2.1 hd (hL.2.2 _ _ hl) (kk ls hL))
theorem z_lload_n {i : Fin 4} (hd : decode M.2.1 pc = .ok (.lload_n i, 1)) (hl : pls[(i : Nat)]? = some (some (qL z))) (k : qSim κ ph ph2 M (pc + 1) (qL z :: st) pls w F) : qSim κ ph ph2 M pc st pls w F :=
  z_go k (fun h1 h2 _ _ _ _ => ⟨List.forall_mem_cons.mpr ⟨h2 _ (List.mem_of_getElem? hl), h1⟩, h2⟩)
    (fun sz b D C p l e R s m args below meth c H locs cells slots ls Q hC hH hL hs hp hR kk => lv_lload_n hC.1 hC.2.1 hd rfl (hL.2.2 _ _ hl) (kk ls hL))
theorem z_lload {i : Nat} (hd : decode M.2.1 pc = .ok (.lload i, 2)) (hl : pls[i]? = some (some (qL z))) (k : qSim κ ph ph2 M (pc + 2) (qL z :: st) pls w F) : qSim κ ph ph2 M pc st pls w F :=
  z_go k (fun h1 h2 _ _ _ _ => ⟨List.forall_mem_cons.mpr ⟨h2 _ (List.mem_of_getElem? hl), h1⟩, h2⟩)
    (fun sz b D C p l e R s m args below meth c H locs cells slots ls Q hC hH hL hs hp hR kk => lv_lload hC.1 hC.2.1 hd (hL.2.2 _ _ hl) (kk ls hL))
theorem z_aload_n {i : Fin 4} {o : Nat} (hd : decode M.2.1 pc = .ok (.aload_n i, 1)) (hl : pls[(i : Nat)]? = some (some (qR o))) (k : qSim κ ph ph2 M (pc + 1) (qR o :: st) pls w F) : qSim κ ph ph2 M pc st pls w F :=
  z_go k (fun h1 h2 _ _ _ _ => ⟨List.forall_mem_cons.mpr ⟨h2 _ (List.mem_of_getElem? hl), h1⟩, h2⟩)
    (fun sz b D C p l e R s m args below meth c H locs cells slots ls Q hC hH hL hs hp hR kk => lv_aload_n hC.1 hC.2.1 hd rfl (hL.2.2 _ _ hl) (kk ls hL))
theorem z_aload {i o : Nat} (hd : decode M.2.1 pc = .ok (.aload i, 2)) (hl : pls[i]? = some (some (qR o))) (k : qSim κ ph ph2 M (pc + 2) (qR o :: st) pls w F) : qSim κ ph ph2 M pc st pls w F :=
  z_go k (fun h1 h2 _ _ _ _ => ⟨List.forall_mem_cons.mpr ⟨h2 _ (List.mem_of_getElem? hl), h1⟩, h2⟩)
    (fun sz b D C p l e R s m args below meth c H locs cells slots ls Q hC hH hL hs hp hR kk => lv_aload hC.1 hC.2.1 hd (hL.2.2 _ _ hl) (kk ls hL))
theorem z_istore_n {i : Fin 4} (hd : decode M.2.1 pc = .ok (.istore_n i, 1)) (hi : (i : Nat) < M.2.2.1) (hp : qnl pls (i : Nat) = true) (hpl : pls.set (i : Nat) (some (qI z)) = pls') (k : qSim κ ph ph2 M (pc + 1) st pls' w F) : qSim κ ph ph2 M pc (qI z :: st) pls w F := by
  subst hpl
  exact z_go k (fun h1 h2 _ _ _ _ => ⟨fun v hv => h1 v (List.mem_cons_of_mem _ hv), fun v hv => (qset_mem hv).elim (fun e => e ▸ h1 _ List.mem_cons_self) (h2 v)⟩)
    (fun sz b D C p l e R s m args below meth c H locs cells slots ls Q hC hH hL hs _ hR kk => lv_istore_n hC.1 hC.2.1 hd rfl (qLr_lv hL) hi rfl (fun ls' h' => kk ls' (qLr_set1 hp h')))
theorem z_istore {i : Nat} (hd : decode M.2.1 pc = .ok (.istore i, 2)) (hi : i < M.2.2.1) (hp : qnl pls i = true) (hpl : pls.set i (some (qI z)) = pls') (k : qSim κ ph ph2 M (pc + 2) st pls' w F) : qSim κ ph ph2 M pc (qI z :: st) pls w F := by
  subst hpl
  exact z_go k (fun h1 h2 _ _ _ _ => ⟨fun v hv => h1 v (List.mem_cons_of_mem _ hv), fun v hv => (qset_mem hv).elim (fun e => e ▸ h1 _ List.mem_cons_self) (h2 v)⟩)
    (fun sz b D C p l e R s m args below meth c H locs cells slots ls Q hC hH hL hs _ hR kk => lv_istore hC.1 hC.2.1 hd (qLr_lv hL) hi rfl (fun ls' h' => kk ls' (qLr_set1 hp h')))
theorem z_astore_n {i : Fin 4} {o : Nat} (hd : decode M.2.1 pc = .ok (.astore_n i, 1)) (hi : (i : Nat) < M.2.2.1) (hp : qnl pls (i : Nat) = true) (hpl : pls.set (i : Nat) (some (qR o)) = pls') (k : qSim κ ph ph2 M (pc + 1) st pls' w F) : qSim κ ph ph2 M pc (qR o :: st) pls w F := by
  subst hpl
  exact z_go k (fun h1 h2 _ _ _ _ => ⟨fun v hv => h1 v (List.mem_cons_of_mem _ hv), fun v hv => (qset_mem hv).elim (fun e => e ▸ h1 _ List.mem_cons_self) (h2 v)⟩)
    (fun sz b D C p l e R s m args below meth c H locs cells slots ls Q hC hH hL hs _ hR kk => lv_astore_n hC.1 hC.2.1 hd rfl (qLr_lv hL) hi rfl (fun ls' h' => kk ls' (qLr_set1 (x := qR o) hp h')))
theorem z_lstore_n {i : Fin 4} (hd : decode M.2.1 pc = .ok (.lstore_n i, 1)) (hi : (i : Nat) + 1 < M.2.2.1) (hp : qnl pls (i : Nat) = true) (hpl : (pls.set (i : Nat) (some (qL z))).set ((i : Nat) + 1) none = pls') (k : qSim κ ph ph2 M (pc + 1) st pls' w F) : qSim κ ph ph2 M pc (qL z :: st) pls w F := by
  subst hpl
  exact z_go k (fun h1 h2 _ _ _ _ => ⟨fun v hv => h1 v (List.mem_cons_of_mem _ hv), fun v hv => (qset_mem (qset_memn hv)).elim (fun e => e ▸ h1 _ List.mem_cons_self) (h2 v)⟩)
    (fun sz b D C p l e R s m args below meth c H locs cells slots ls Q hC hH hL hs _ hR kk => lv_lstore_n hC.1 hC.2.1 hd rfl (qLr_lv hL) hi rfl (fun ls' h' => kk ls' (qLr_set2 (x := qL z) hp h')))
theorem z_lstore {i : Nat} (hd : decode M.2.1 pc = .ok (.lstore i, 2)) (hi : i + 1 < M.2.2.1) (hp : qnl pls i = true) (hpl : (pls.set i (some (qL z))).set (i + 1) none = pls') (k : qSim κ ph ph2 M (pc + 2) st pls' w F) : qSim κ ph ph2 M pc (qL z :: st) pls w F := by
  subst hpl
  exact z_go k (fun h1 h2 _ _ _ _ => ⟨fun v hv => h1 v (List.mem_cons_of_mem _ hv), fun v hv => (qset_mem (qset_memn hv)).elim (fun e => e ▸ h1 _ List.mem_cons_self) (h2 v)⟩)
    (fun sz b D C p l e R s m args below meth c H locs cells slots ls Q hC hH hL hs _ hR kk => lv_lstore hC.1 hC.2.1 hd (qLr_lv hL) hi rfl (fun ls' h' => kk ls' (qLr_set2 (x := qL z) hp h')))
theorem of_add (x y : Int) : Int32.ofInt (w32 (x + y)) = Int32.ofInt x + Int32.ofInt y := by rw [of_w32, Int32.ofInt_add]
theorem of_sub (x y : Int) : Int32.ofInt (w32 (x - y)) = Int32.ofInt x - Int32.ofInt y := by rw [of_w32, Int32.ofInt_sub]
theorem of_mul (x y : Int) : Int32.ofInt (w32 (x * y)) = Int32.ofInt x * Int32.ofInt y := by rw [of_w32, Int32.ofInt_mul]
theorem of_neg (x : Int) : Int32.ofInt (w32 (-x)) = -Int32.ofInt x := by rw [of_w32, Int32.ofInt_neg]
theorem z_iinc {i : Nat} (hd : decode M.2.1 pc = .ok (.iinc i n, 3)) (hi : i < M.2.2.1) (hp : qnl pls i = true) (hl : pls[i]? = some (some (qI z))) (hpl : pls.set i (some (qI (w32 (z + n)))) = pls') (k : qSim κ ph ph2 M (pc + 3) st pls' w F) : qSim κ ph ph2 M pc st pls w F := by
  subst hpl
  exact z_go k (fun h1 h2 _ _ _ _ => ⟨h1, fun v hv => (qset_mem hv).elim (fun e => e ▸ w32_in _) (h2 v)⟩)
    (fun sz b D C p l e R s m args below meth c H locs cells slots ls Q hC hH hL hs _ hR kk => by
      obtain ⟨q, hq⟩ := List.getElem?_of_mem (qlv_mem.mpr ⟨_, hl, rfl⟩ : (i, qV sz b (qI z)) ∈ qlv sz b pls)
      exact lv_iinc (v := Int32.ofInt (w32 (z + n))) hC.1 hC.2.1 hd (qLr_lv hL) hq (of_add z n).symm hi rfl (fun ls' h' => kk ls' (qLr_set1 (x := qI (w32 (z + n))) hp h')))
/-! arithmetic -/
def jdiv (x y : Int) : Int := (Int32.ofInt x / Int32.ofInt y).toInt
def jrem (x y : Int) : Int := (Int32.ofInt x - Int32.ofInt x / Int32.ofInt y * Int32.ofInt y).toInt
def jand (x y : Int) : Int := (Int32.ofInt x &&& Int32.ofInt y).toInt
def jor (x y : Int) : Int := (Int32.ofInt x ||| Int32.ofInt y).toInt
def jshl (x y : Int) : Int := (Int32.ofInt x <<< (Int32.ofInt y &&& 31)).toInt
def jshr (x y : Int) : Int := (Int32.ofInt x >>> (Int32.ofInt y &&& 31)).toInt
def jushr (x y : Int) : Int := ((Int32.ofInt x).toUInt32 >>> ((Int32.ofInt y).toUInt32 &&& Int32.toUInt32 31)).toInt32.toInt
def kland (x y : Int) : Int := (Int64.ofInt x &&& Int64.ofInt y).toInt
def klor (x y : Int) : Int := (Int64.ofInt x ||| Int64.ofInt y).toInt
def klshl (x y : Int) : Int := (Int64.ofInt x <<< ((Int32.ofInt y).toInt64 &&& 63)).toInt
def klushr (x y : Int) : Int := ((Int64.ofInt x).toUInt64 >>> ((Int32.ofInt y).toInt64.toUInt64 &&& Int64.toUInt64 63)).toInt64.toInt
def kl2i (x : Int) : Int := (Int64.ofInt x).toInt32.toInt
def ki2l (x : Int) : Int := (Int32.ofInt x).toInt64.toInt
def klcmp (x y : Int) : Int := (lg_cmp (Int64.ofInt x) (Int64.ofInt y)).toInt
theorem z_bin {pc2 : Nat} {r : Int} (k : qSim κ ph ph2 M pc2 (qI r :: st) pls w F) (hr : qA r)
    (hW : ∀ {p : Program} {l : Launch} {e : Env} {R : Room} {s : State} {m : MethodId} {args : Array Value} {below : List Frame} {meth : Method} {c : Code} {H : Heap} {locs : List Loc} {cells slots : Nat} {ls : Array Slot} {Q : State → Prop} {rest : List Value}, p.tables.exec = Jvm.exec → c.code = M.2.1 →
      W p l e R s m args below meth c H locs cells slots Q (F0 m pc2 ls (.int (Int32.ofInt r) :: rest)) → W p l e R s m args below meth c H locs cells slots Q (F0 m pc ls (.int (Int32.ofInt y) :: .int (Int32.ofInt x) :: rest))) : qSim κ ph ph2 M pc (qI y :: qI x :: st) pls w F :=
  z_go k (fun h1 h2 _ _ _ _ => ⟨List.forall_mem_cons.mpr ⟨hr, fun v hv => h1 v (List.mem_cons_of_mem _ (List.mem_cons_of_mem _ hv))⟩, h2⟩)
    (fun sz b D C p l e R s m args below meth c H locs cells slots ls Q hC hH hL hs hp hR kk => hW hC.1 hC.2.1 (kk ls hL))
theorem z_iadd (hd : decode M.2.1 pc = .ok (.iadd, 1)) (k : qSim κ ph ph2 M (pc + 1) (qI (w32 (x + y)) :: st) pls w F) : qSim κ ph ph2 M pc (qI y :: qI x :: st) pls w F :=
  z_bin k (w32_in _) (fun hx hb kk => lv_iadd hx hb hd (by rw [← of_add]; exact kk))
theorem z_isub (hd : decode M.2.1 pc = .ok (.isub, 1)) (k : qSim κ ph ph2 M (pc + 1) (qI (w32 (x - y)) :: st) pls w F) : qSim κ ph ph2 M pc (qI y :: qI x :: st) pls w F :=
  z_bin k (w32_in _) (fun hx hb kk => lv_isub hx hb hd (by rw [← of_sub]; exact kk))
theorem z_imul (hd : decode M.2.1 pc = .ok (.imul, 1)) (k : qSim κ ph ph2 M (pc + 1) (qI (w32 (x * y)) :: st) pls w F) : qSim κ ph ph2 M pc (qI y :: qI x :: st) pls w F :=
  z_bin k (w32_in _) (fun hx hb kk => lv_imul hx hb hd (by rw [← of_mul]; exact kk))
theorem z_iand (hd : decode M.2.1 pc = .ok (.iand, 1)) (k : qSim κ ph ph2 M (pc + 1) (qI (jand x y) :: st) pls w F) : qSim κ ph ph2 M pc (qI y :: qI x :: st) pls w F :=
  z_bin k (qA_toInt _) (fun hx hb kk => lv_iand hx hb hd (by rw [jand, Int32.ofInt_toInt] at kk; exact kk))
theorem z_ior (hd : decode M.2.1 pc = .ok (.ior, 1)) (k : qSim κ ph ph2 M (pc + 1) (qI (jor x y) :: st) pls w F) : qSim κ ph ph2 M pc (qI y :: qI x :: st) pls w F :=
  z_bin k (qA_toInt _) (fun hx hb kk => lv_ior hx hb hd (by rw [jor, Int32.ofInt_toInt] at kk; exact kk))
theorem z_ishl (hd : decode M.2.1 pc = .ok (.ishl, 1)) (k : qSim κ ph ph2 M (pc + 1) (qI (jshl x y) :: st) pls w F) : qSim κ ph ph2 M pc (qI y :: qI x :: st) pls w F :=
  z_bin k (qA_toInt _) (fun hx hb kk => lv_ishl hx hb hd (by rw [jshl, Int32.ofInt_toInt] at kk; exact kk))
theorem z_ishr (hd : decode M.2.1 pc = .ok (.ishr, 1)) (k : qSim κ ph ph2 M (pc + 1) (qI (jshr x y) :: st) pls w F) : qSim κ ph ph2 M pc (qI y :: qI x :: st) pls w F :=
  z_bin k (qA_toInt _) (fun hx hb kk => lv_ishr hx hb hd (by rw [jshr, Int32.ofInt_toInt] at kk; exact kk))
theorem z_iushr (hd : decode M.2.1 pc = .ok (.iushr, 1)) (k : qSim κ ph ph2 M (pc + 1) (qI (jushr x y) :: st) pls w F) : qSim κ ph ph2 M pc (qI y :: qI x :: st) pls w F :=
  z_bin k (qA_toInt _) (fun hx hb kk => lv_iushr hx hb hd (v := ((Int32.ofInt x).toUInt32 >>> ((Int32.ofInt y).toUInt32 &&& Int32.toUInt32 31)).toInt32) rfl (by rw [jushr, Int32.ofInt_toInt] at kk; exact kk))
/-- a divisor that isn't 0 -/
def qdv {α : Type} (y : Int) (F : Option α) : Option α := if y = 0 then none else F
theorem z_idiv (hd : decode M.2.1 pc = .ok (.idiv, 1)) (k : y ≠ 0 → qSim κ ph ph2 M (pc + 1) (qI (jdiv x y) :: st) pls w F) : qSim κ ph ph2 M pc (qI y :: qI x :: st) pls w (qdv y F) := by
  unfold qdv
  refine z_if (fun _ => z_none) (fun hy => ?_)
  refine z_go (k hy) (fun h1 h2 _ _ _ _ => ⟨List.forall_mem_cons.mpr ⟨qA_toInt _, fun v hv => h1 v (List.mem_cons_of_mem _ (List.mem_cons_of_mem _ hv))⟩, h2⟩)
    (fun sz b D C p l e R s m args below meth c H locs cells slots ls Q hC hH hL hs hp hR kk => ?_)
  have hyA : qA y := hs _ List.mem_cons_self
  refine lv_idiv hC.1 hC.2.1 hd (fun h => hy ((of_eq hyA qA_0).mp h)) ?_
  have h := kk ls hL
  rw [show (qI (jdiv x y) :: st).map (qV sz b) = .int (Int32.ofInt x / Int32.ofInt y) :: st.map (qV sz b) by simp only [List.map_cons, qV, jdiv, Int32.ofInt_toInt]] at h
  exact h
theorem z_irem (hd : decode M.2.1 pc = .ok (.irem, 1)) (k : y ≠ 0 → qSim κ ph ph2 M (pc + 1) (qI (jrem x y) :: st) pls w F) : qSim κ ph ph2 M pc (qI y :: qI x :: st) pls w (qdv y F) := by
  unfold qdv
  refine z_if (fun _ => z_none) (fun hy => ?_)
  refine z_go (k hy) (fun h1 h2 _ _ _ _ => ⟨List.forall_mem_cons.mpr ⟨qA_toInt _, fun v hv => h1 v (List.mem_cons_of_mem _ (List.mem_cons_of_mem _ hv))⟩, h2⟩)
    (fun sz b D C p l e R s m args below meth c H locs cells slots ls Q hC hH hL hs hp hR kk => ?_)
  have hyA : qA y := hs _ List.mem_cons_self
  refine lv_irem hC.1 hC.2.1 hd (fun h => hy ((of_eq hyA qA_0).mp h)) ?_
  have h := kk ls hL
  rw [show (qI (jrem x y) :: st).map (qV sz b) = .int (Int32.ofInt x - Int32.ofInt x / Int32.ofInt y * Int32.ofInt y) :: st.map (qV sz b) by simp only [List.map_cons, qV, jrem, Int32.ofInt_toInt]] at h
  exact h
/-! longs -/
theorem z_land (hd : decode M.2.1 pc = .ok (.land, 1)) (k : qSim κ ph ph2 M (pc + 1) (qL (kland x y) :: st) pls w F) : qSim κ ph ph2 M pc (qL y :: qL x :: st) pls w F :=
  z_go k (fun h1 h2 _ _ _ _ => ⟨List.forall_mem_cons.mpr ⟨qB_toInt _, fun v hv => h1 v (List.mem_cons_of_mem _ (List.mem_cons_of_mem _ hv))⟩, h2⟩)
    (fun sz b D C p l e R s m args below meth c H locs cells slots ls Q hC hH hL hs hp hR kk => by
      have h := kk ls hL
      rw [show (qL (kland x y) :: st).map (qV sz b) = .long (Int64.ofInt x &&& Int64.ofInt y) :: st.map (qV sz b) by simp only [List.map_cons, qV, kland, Int64.ofInt_toInt]] at h
      exact lv_land hC.1 hC.2.1 hd h)
theorem z_lor (hd : decode M.2.1 pc = .ok (.lor, 1)) (k : qSim κ ph ph2 M (pc + 1) (qL (klor x y) :: st) pls w F) : qSim κ ph ph2 M pc (qL y :: qL x :: st) pls w F :=
  z_go k (fun h1 h2 _ _ _ _ => ⟨List.forall_mem_cons.mpr ⟨qB_toInt _, fun v hv => h1 v (List.mem_cons_of_mem _ (List.mem_cons_of_mem _ hv))⟩, h2⟩)
    (fun sz b D C p l e R s m args below meth c H locs cells slots ls Q hC hH hL hs hp hR kk => by
      have h := kk ls hL
      rw [show (qL (klor x y) :: st).map (qV sz b) = .long (Int64.ofInt x ||| Int64.ofInt y) :: st.map (qV sz b) by simp only [List.map_cons, qV, klor, Int64.ofInt_toInt]] at h
      exact lv_lor hC.1 hC.2.1 hd h)
theorem z_lshl (hd : decode M.2.1 pc = .ok (.lshl, 1)) (k : qSim κ ph ph2 M (pc + 1) (qL (klshl x y) :: st) pls w F) : qSim κ ph ph2 M pc (qI y :: qL x :: st) pls w F :=
  z_go k (fun h1 h2 _ _ _ _ => ⟨List.forall_mem_cons.mpr ⟨qB_toInt _, fun v hv => h1 v (List.mem_cons_of_mem _ (List.mem_cons_of_mem _ hv))⟩, h2⟩)
    (fun sz b D C p l e R s m args below meth c H locs cells slots ls Q hC hH hL hs hp hR kk => by
      have h := kk ls hL
      rw [show (qL (klshl x y) :: st).map (qV sz b) = .long (Int64.ofInt x <<< ((Int32.ofInt y).toInt64 &&& 63)) :: st.map (qV sz b) by simp only [List.map_cons, qV, klshl, Int64.ofInt_toInt]] at h
      exact lv_lshl hC.1 hC.2.1 hd rfl h)
theorem z_lushr (hd : decode M.2.1 pc = .ok (.lushr, 1)) (k : qSim κ ph ph2 M (pc + 1) (qL (klushr x y) :: st) pls w F) : qSim κ ph ph2 M pc (qI y :: qL x :: st) pls w F :=
  z_go k (fun h1 h2 _ _ _ _ => ⟨List.forall_mem_cons.mpr ⟨qB_toInt _, fun v hv => h1 v (List.mem_cons_of_mem _ (List.mem_cons_of_mem _ hv))⟩, h2⟩)
    (fun sz b D C p l e R s m args below meth c H locs cells slots ls Q hC hH hL hs hp hR kk => by
      have h := kk ls hL
      rw [show (qL (klushr x y) :: st).map (qV sz b) = .long (((Int64.ofInt x).toUInt64 >>> ((Int32.ofInt y).toInt64.toUInt64 &&& Int64.toUInt64 63)).toInt64) :: st.map (qV sz b) by simp only [List.map_cons, qV, klushr, Int64.ofInt_toInt]] at h
      exact lv_lushr hC.1 hC.2.1 hd rfl h)
theorem z_l2i (hd : decode M.2.1 pc = .ok (.l2i, 1)) (k : qSim κ ph ph2 M (pc + 1) (qI (kl2i x) :: st) pls w F) : qSim κ ph ph2 M pc (qL x :: st) pls w F :=
  z_go k (fun h1 h2 _ _ _ _ => ⟨List.forall_mem_cons.mpr ⟨qA_toInt _, fun v hv => h1 v (List.mem_cons_of_mem _ hv)⟩, h2⟩)
    (fun sz b D C p l e R s m args below meth c H locs cells slots ls Q hC hH hL hs hp hR kk => by
      have h := kk ls hL
      rw [show (qI (kl2i x) :: st).map (qV sz b) = .int ((Int64.ofInt x).toInt32) :: st.map (qV sz b) by simp only [List.map_cons, qV, kl2i, Int32.ofInt_toInt]] at h
      exact lv_l2i hC.1 hC.2.1 hd rfl h)
theorem z_i2l (hd : decode M.2.1 pc = .ok (.i2l, 1)) (k : qSim κ ph ph2 M (pc + 1) (qL (ki2l x) :: st) pls w F) : qSim κ ph ph2 M pc (qI x :: st) pls w F :=
  z_go k (fun h1 h2 _ _ _ _ => ⟨List.forall_mem_cons.mpr ⟨qB_toInt _, fun v hv => h1 v (List.mem_cons_of_mem _ hv)⟩, h2⟩)
    (fun sz b D C p l e R s m args below meth c H locs cells slots ls Q hC hH hL hs hp hR kk => by
      have h := kk ls hL
      rw [show (qL (ki2l x) :: st).map (qV sz b) = .long ((Int32.ofInt x).toInt64) :: st.map (qV sz b) by simp only [List.map_cons, qV, ki2l, Int64.ofInt_toInt]] at h
      exact lv_i2l hC.1 hC.2.1 hd rfl h)
theorem z_lcmp (hd : decode M.2.1 pc = .ok (.lcmp, 1)) (k : qSim κ ph ph2 M (pc + 1) (qI (klcmp x y) :: st) pls w F) : qSim κ ph ph2 M pc (qL y :: qL x :: st) pls w F :=
  z_go k (fun h1 h2 _ _ _ _ => ⟨List.forall_mem_cons.mpr ⟨qA_toInt _, fun v hv => h1 v (List.mem_cons_of_mem _ (List.mem_cons_of_mem _ hv))⟩, h2⟩)
    (fun sz b D C p l e R s m args below meth c H locs cells slots ls Q hC hH hL hs hp hR kk => by
      have h := kk ls hL
      rw [show (qI (klcmp x y) :: st).map (qV sz b) = .int (lg_cmp (Int64.ofInt x) (Int64.ofInt y)) :: st.map (qV sz b) by simp only [List.map_cons, qV, klcmp, Int32.ofInt_toInt]] at h
      exact W.lcmp hC.1 hC.2.1 hd h)
/-! the stack -/
theorem z_dup {v : qPV} (hd : decode M.2.1 pc = .ok (.dup, 1)) (hv : qcat v = 1) (k : qSim κ ph ph2 M (pc + 1) (v :: v :: st) pls w F) : qSim κ ph ph2 M pc (v :: st) pls w F :=
  z_go k (fun h1 h2 _ _ _ _ => ⟨List.forall_mem_cons.mpr ⟨h1 _ List.mem_cons_self, h1⟩, h2⟩)
    (fun sz b D C p l e R s m args below meth c H locs cells slots ls Q hC hH hL hs hp hR kk => lv_dup hC.1 hC.2.1 hd ((qV_cat sz b v).trans hv) (kk ls hL))
theorem z_pop {v : qPV} (hd : decode M.2.1 pc = .ok (.pop, 1)) (hv : qcat v = 1) (k : qSim κ ph ph2 M (pc + 1) st pls w F) : qSim κ ph ph2 M pc (v :: st) pls w F :=
  z_go k (fun h1 h2 _ _ _ _ => ⟨fun u hu => h1 u (List.mem_cons_of_mem _ hu), h2⟩)
    (fun sz b D C p l e R s m args below meth c H locs cells slots ls Q hC hH hL hs hp hR kk => lv_pop hC.1 hC.2.1 hd ((qV_cat sz b v).trans hv) (kk ls hL))
theorem z_dup2 {u v : qPV} (hd : decode M.2.1 pc = .ok (.dup2, 1)) (hu : qcat u = 1) (hv : qcat v = 1) (k : qSim κ ph ph2 M (pc + 1) (u :: v :: u :: v :: st) pls w F) : qSim κ ph ph2 M pc (u :: v :: st) pls w F :=
  z_go k (fun h1 h2 _ _ _ _ => ⟨List.forall_mem_cons.mpr ⟨h1 _ List.mem_cons_self, List.forall_mem_cons.mpr ⟨h1 _ (List.mem_cons_of_mem _ List.mem_cons_self), h1⟩⟩, h2⟩)
    (fun sz b D C p l e R s m args below meth c H locs cells slots ls Q hC hH hL hs hp hR kk => lv_dup2_11 hC.1 hC.2.1 hd ((qV_cat sz b u).trans hu) ((qV_cat sz b v).trans hv) (kk ls hL))
/-! branches -/
theorem z_goto (hd : decode M.2.1 pc = .ok (.goto off, 3)) (ht : (pc : Int) + off = (tgt : Int)) (k : qSim κ ph ph2 M tgt st pls w F) : qSim κ ph ph2 M pc st pls w F :=
  z_go k (fun h1 h2 _ _ _ _ => ⟨h1, h2⟩)
    (fun sz b D C p l e R s m args below meth c H locs cells slots ls Q hC hH hL hs hp hR kk => lv_goto hC.1 hC.2.1 hd ht (kk ls hL))
theorem z_br1 {c : Prop} {pt pf : Nat} {inst : Decidable c} (kt : c → qSim κ ph ph2 M pt st pls w F1) (kf : ¬ c → qSim κ ph ph2 M pf st pls w F2) (hc : qA x → (∀ {p : Program} {l : Launch} {e : Env} {R : Room} {s : State} {m : MethodId} {args : Array Value} {below : List Frame} {meth : Method} {cd : Code} {H : Heap} {locs : List Loc} {cells slots : Nat} {ls : Array Slot} {Q : State → Prop} {rest : List Value}, p.tables.exec = Jvm.exec → cd.code = M.2.1 →
      (c → W p l e R s m args below meth cd H locs cells slots Q (F0 m pt ls rest)) → (¬ c → W p l e R s m args below meth cd H locs cells slots Q (F0 m pf ls rest)) → W p l e R s m args below meth cd H locs cells slots Q (F0 m pc ls (.int (Int32.ofInt x) :: rest)))) : qSim κ ph ph2 M pc (qI x :: st) pls w (@ite _ c inst F1 F2) := by
  by_cases h : c
  · rw [if_pos h]
    exact z_go (kt h) (fun h1 h2 _ _ _ _ => ⟨fun u hu => h1 u (List.mem_cons_of_mem _ hu), h2⟩)
      (fun sz b D C p l e R s m args below meth c H locs cells slots ls Q hC hH hL hs hp hR kk => hc (hs _ List.mem_cons_self) hC.1 hC.2.1 (fun _ => kk ls hL) (fun q => absurd h q))
  · rw [if_neg h]
    exact z_go (kf h) (fun h1 h2 _ _ _ _ => ⟨fun u hu => h1 u (List.mem_cons_of_mem _ hu), h2⟩)
      (fun sz b D C p l e R s m args below meth c H locs cells slots ls Q hC hH hL hs hp hR kk => hc (hs _ List.mem_cons_self) hC.1 hC.2.1 (fun q => absurd q h) (fun _ => kk ls hL))
theorem z_br2 {c : Prop} {pt pf : Nat} {inst : Decidable c} (kt : c → qSim κ ph ph2 M pt st pls w F1) (kf : ¬ c → qSim κ ph ph2 M pf st pls w F2) (hc : qA x → qA y → (∀ {p : Program} {l : Launch} {e : Env} {R : Room} {s : State} {m : MethodId} {args : Array Value} {below : List Frame} {meth : Method} {cd : Code} {H : Heap} {locs : List Loc} {cells slots : Nat} {ls : Array Slot} {Q : State → Prop} {rest : List Value}, p.tables.exec = Jvm.exec → cd.code = M.2.1 →
      (c → W p l e R s m args below meth cd H locs cells slots Q (F0 m pt ls rest)) → (¬ c → W p l e R s m args below meth cd H locs cells slots Q (F0 m pf ls rest)) → W p l e R s m args below meth cd H locs cells slots Q (F0 m pc ls (.int (Int32.ofInt y) :: .int (Int32.ofInt x) :: rest)))) : qSim κ ph ph2 M pc (qI y :: qI x :: st) pls w (@ite _ c inst F1 F2) := by
  by_cases h : c
  · rw [if_pos h]
    exact z_go (kt h) (fun h1 h2 _ _ _ _ => ⟨fun u hu => h1 u (List.mem_cons_of_mem _ (List.mem_cons_of_mem _ hu)), h2⟩)
      (fun sz b D C p l e R s m args below meth c H locs cells slots ls Q hC hH hL hs hp hR kk => hc (hs _ (List.mem_cons_of_mem _ List.mem_cons_self)) (hs _ List.mem_cons_self) hC.1 hC.2.1 (fun _ => kk ls hL) (fun q => absurd h q))
  · rw [if_neg h]
    exact z_go (kf h) (fun h1 h2 _ _ _ _ => ⟨fun u hu => h1 u (List.mem_cons_of_mem _ (List.mem_cons_of_mem _ hu)), h2⟩)
      (fun sz b D C p l e R s m args below meth c H locs cells slots ls Q hC hH hL hs hp hR kk => hc (hs _ (List.mem_cons_of_mem _ List.mem_cons_self)) (hs _ List.mem_cons_self) hC.1 hC.2.1 (fun q => absurd q h) (fun _ => kk ls hL))
theorem z_if_eq (hd : decode M.2.1 pc = .ok (.ifCond .eq off, 3)) (ht : (pc : Int) + off = (tgt : Int)) (kt : x = 0 → qSim κ ph ph2 M tgt st pls w F1) (kf : ¬ x = 0 → qSim κ ph ph2 M (pc + 3) st pls w F2) : qSim κ ph ph2 M pc (qI x :: st) pls w (if x = 0 then F1 else F2) :=
  z_br1 kt kf (fun hA => fun hx hb k1 k2 => lv_if_eq hx hb hd ht (fun h => k1 ((of_eq hA qA_0).mp h)) (fun h => k2 (fun q => h ((of_eq hA qA_0).mpr q))))
theorem z_if_ne (hd : decode M.2.1 pc = .ok (.ifCond .ne off, 3)) (ht : (pc : Int) + off = (tgt : Int)) (kf : x = 0 → qSim κ ph ph2 M (pc + 3) st pls w F1) (kt : ¬ x = 0 → qSim κ ph ph2 M tgt st pls w F2) : qSim κ ph ph2 M pc (qI x :: st) pls w (if x = 0 then F1 else F2) :=
  z_br1 kf kt (fun hA => fun hx hb k1 k2 => lv_if_ne hx hb hd ht (fun h => k2 (fun q => h ((of_eq hA qA_0).mpr q))) (fun h => k1 ((of_eq hA qA_0).mp h)))
theorem z_if_lt (hd : decode M.2.1 pc = .ok (.ifCond .lt off, 3)) (ht : (pc : Int) + off = (tgt : Int)) (kt : x < 0 → qSim κ ph ph2 M tgt st pls w F1) (kf : ¬ x < 0 → qSim κ ph ph2 M (pc + 3) st pls w F2) : qSim κ ph ph2 M pc (qI x :: st) pls w (if x < 0 then F1 else F2) :=
  z_br1 kt kf (fun hA => fun hx hb k1 k2 => lv_if_lt hx hb hd ht (fun h => k1 ((of_lt hA qA_0).mp h)) (fun h => k2 (fun q => h ((of_lt hA qA_0).mpr q))))
theorem z_if_ge (hd : decode M.2.1 pc = .ok (.ifCond .ge off, 3)) (ht : (pc : Int) + off = (tgt : Int)) (kf : x < 0 → qSim κ ph ph2 M (pc + 3) st pls w F1) (kt : ¬ x < 0 → qSim κ ph ph2 M tgt st pls w F2) : qSim κ ph ph2 M pc (qI x :: st) pls w (if x < 0 then F1 else F2) :=
  z_br1 kf kt (fun hA => fun hx hb k1 k2 => lv_if_ge hx hb hd ht (fun h => k2 (by have := (of_le qA_0 hA).mp h; omega)) (fun h => k1 (Int.not_le.mp (fun q => h ((of_le qA_0 hA).mpr q)))))
theorem z_if_gt (hd : decode M.2.1 pc = .ok (.ifCond .gt off, 3)) (ht : (pc : Int) + off = (tgt : Int)) (kf : x ≤ 0 → qSim κ ph ph2 M (pc + 3) st pls w F1) (kt : ¬ x ≤ 0 → qSim κ ph ph2 M tgt st pls w F2) : qSim κ ph ph2 M pc (qI x :: st) pls w (if x ≤ 0 then F1 else F2) :=
  z_br1 kf kt (fun hA => fun hx hb k1 k2 => lv_if_gt hx hb hd ht (fun h => k2 (by have := (of_lt qA_0 hA).mp h; omega)) (fun h => k1 (Int.not_lt.mp (fun q => h ((of_lt qA_0 hA).mpr q)))))
theorem z_if_le (hd : decode M.2.1 pc = .ok (.ifCond .le off, 3)) (ht : (pc : Int) + off = (tgt : Int)) (kt : x ≤ 0 → qSim κ ph ph2 M tgt st pls w F1) (kf : ¬ x ≤ 0 → qSim κ ph ph2 M (pc + 3) st pls w F2) : qSim κ ph ph2 M pc (qI x :: st) pls w (if x ≤ 0 then F1 else F2) :=
  z_br1 kt kf (fun hA => fun hx hb k1 k2 => lv_if_le hx hb hd ht (fun h => k1 ((of_le hA qA_0).mp h)) (fun h => k2 (fun q => h ((of_le hA qA_0).mpr q))))
theorem z_icmp_eq (hd : decode M.2.1 pc = .ok (.if_icmp .eq off, 3)) (ht : (pc : Int) + off = (tgt : Int)) (kt : x = y → qSim κ ph ph2 M tgt st pls w F1) (kf : ¬ x = y → qSim κ ph ph2 M (pc + 3) st pls w F2) : qSim κ ph ph2 M pc (qI y :: qI x :: st) pls w (if x = y then F1 else F2) :=
  z_br2 kt kf (fun hA hB => fun hx hb k1 k2 => lv_icmp_eq hx hb hd ht (fun h => k1 ((of_eq hA hB).mp h)) (fun h => k2 (fun q => h ((of_eq hA hB).mpr q))))
theorem z_icmp_ne (hd : decode M.2.1 pc = .ok (.if_icmp .ne off, 3)) (ht : (pc : Int) + off = (tgt : Int)) (kf : x = y → qSim κ ph ph2 M (pc + 3) st pls w F1) (kt : ¬ x = y → qSim κ ph ph2 M tgt st pls w F2) : qSim κ ph ph2 M pc (qI y :: qI x :: st) pls w (if x = y then F1 else F2) :=
  z_br2 kf kt (fun hA hB => fun hx hb k1 k2 => lv_icmp_ne hx hb hd ht (fun h => k2 (fun q => h ((of_eq hA hB).mpr q))) (fun h => k1 ((of_eq hA hB).mp h)))
theorem z_icmp_lt (hd : decode M.2.1 pc = .ok (.if_icmp .lt off, 3)) (ht : (pc : Int) + off = (tgt : Int)) (kt : x < y → qSim κ ph ph2 M tgt st pls w F1) (kf : ¬ x < y → qSim κ ph ph2 M (pc + 3) st pls w F2) : qSim κ ph ph2 M pc (qI y :: qI x :: st) pls w (if x < y then F1 else F2) :=
  z_br2 kt kf (fun hA hB => fun hx hb k1 k2 => lv_icmp_lt hx hb hd ht (fun h => k1 ((of_lt hA hB).mp h)) (fun h => k2 (fun q => h ((of_lt hA hB).mpr q))))
theorem z_icmp_ge (hd : decode M.2.1 pc = .ok (.if_icmp .ge off, 3)) (ht : (pc : Int) + off = (tgt : Int)) (kf : x < y → qSim κ ph ph2 M (pc + 3) st pls w F1) (kt : ¬ x < y → qSim κ ph ph2 M tgt st pls w F2) : qSim κ ph ph2 M pc (qI y :: qI x :: st) pls w (if x < y then F1 else F2) :=
  z_br2 kf kt (fun hA hB => fun hx hb k1 k2 => lv_icmp_ge hx hb hd ht (fun h => k2 (by have := (of_le hB hA).mp h; omega)) (fun h => k1 (Int.not_le.mp (fun q => h ((of_le hB hA).mpr q)))))
theorem z_icmp_gt (hd : decode M.2.1 pc = .ok (.if_icmp .gt off, 3)) (ht : (pc : Int) + off = (tgt : Int)) (kf : x ≤ y → qSim κ ph ph2 M (pc + 3) st pls w F1) (kt : ¬ x ≤ y → qSim κ ph ph2 M tgt st pls w F2) : qSim κ ph ph2 M pc (qI y :: qI x :: st) pls w (if x ≤ y then F1 else F2) :=
  z_br2 kf kt (fun hA hB => fun hx hb k1 k2 => lv_icmp_gt hx hb hd ht (fun h => k2 (by have := (of_lt hB hA).mp h; omega)) (fun h => k1 (Int.not_lt.mp (fun q => h ((of_lt hB hA).mpr q)))))
theorem z_icmp_le (hd : decode M.2.1 pc = .ok (.if_icmp .le off, 3)) (ht : (pc : Int) + off = (tgt : Int)) (kt : x ≤ y → qSim κ ph ph2 M tgt st pls w F1) (kf : ¬ x ≤ y → qSim κ ph ph2 M (pc + 3) st pls w F2) : qSim κ ph ph2 M pc (qI y :: qI x :: st) pls w (if x ≤ y then F1 else F2) :=
  z_br2 kt kf (fun hA hB => fun hx hb k1 k2 => lv_icmp_le hx hb hd ht (fun h => k1 ((of_le hA hB).mp h)) (fun h => k2 (fun q => h ((of_le hA hB).mpr q))))
theorem z_ifnull_n (hd : decode M.2.1 pc = .ok (.ifnull off, 3)) (ht : (pc : Int) + off = (tgt : Int)) (k : qSim κ ph ph2 M tgt st pls w F) : qSim κ ph ph2 M pc (qN :: st) pls w F :=
  z_go k (fun h1 h2 _ _ _ _ => ⟨fun u hu => h1 u (List.mem_cons_of_mem _ hu), h2⟩)
    (fun sz b D C p l e R s m args below meth c H locs cells slots ls Q hC hH hL hs hp hR kk => lv_ifnullN hC.1 hC.2.1 hd ht (kk ls hL))
theorem z_ifnull_r {o : Nat} (hd : decode M.2.1 pc = .ok (.ifnull off, 3)) (k : qSim κ ph ph2 M (pc + 3) st pls w F) : qSim κ ph ph2 M pc (qR o :: st) pls w F :=
  z_go k (fun h1 h2 _ _ _ _ => ⟨fun u hu => h1 u (List.mem_cons_of_mem _ hu), h2⟩)
    (fun sz b D C p l e R s m args below meth c H locs cells slots ls Q hC hH hL hs hp hR kk => lv_ifnull hC.1 hC.2.1 hd (kk ls hL))
theorem z_ifnn_n (hd : decode M.2.1 pc = .ok (.ifnonnull off, 3)) (k : qSim κ ph ph2 M (pc + 3) st pls w F) : qSim κ ph ph2 M pc (qN :: st) pls w F :=
  z_go k (fun h1 h2 _ _ _ _ => ⟨fun u hu => h1 u (List.mem_cons_of_mem _ hu), h2⟩)
    (fun sz b D C p l e R s m args below meth c H locs cells slots ls Q hC hH hL hs hp hR kk => lv_ifnonnullN hC.1 hC.2.1 hd (kk ls hL))
theorem z_ifnn_r {o : Nat} (hd : decode M.2.1 pc = .ok (.ifnonnull off, 3)) (ht : (pc : Int) + off = (tgt : Int)) (k : qSim κ ph ph2 M tgt st pls w F) : qSim κ ph ph2 M pc (qR o :: st) pls w F :=
  z_go k (fun h1 h2 _ _ _ _ => ⟨fun u hu => h1 u (List.mem_cons_of_mem _ hu), h2⟩)
    (fun sz b D C p l e R s m args below meth c H locs cells slots ls Q hC hH hL hs hp hR kk => lv_ifnonnull hC.1 hC.2.1 hd ht (kk ls hL))
theorem z_tabOut {dflt lo hi : Int} {offs : Array Int} {len : Nat} (hd : decode M.2.1 pc = .ok (.tableswitch dflt lo hi offs, len)) (hx : x < lo ∨ hi < x) (ht : (pc : Int) + dflt = (tgt : Int)) (k : qSim κ ph ph2 M tgt st pls w F) : qSim κ ph ph2 M pc (qI x :: st) pls w F :=
  z_go k (fun h1 h2 _ _ _ _ => ⟨fun u hu => h1 u (List.mem_cons_of_mem _ hu), h2⟩)
    (fun sz b D C p l e R s m args below meth c H locs cells slots ls Q hC hH hL hs hp hR kk => lv_tableOut hC.1 hC.2.1 hd (by rw [of_toInt (hs _ List.mem_cons_self)]; exact hx) ht (kk ls hL))
theorem z_tabIn {dflt lo hi : Int} {offs : Array Int} {len : Nat} {v : Int} (hd : decode M.2.1 pc = .ok (.tableswitch dflt lo hi offs, len)) (hx : x = v) (h1 : ¬ v < lo) (h2 : ¬ hi < v) (ho : offs[(v - lo).toNat]? = some off) (ht : (pc : Int) + off = (tgt : Int)) (k : qSim κ ph ph2 M tgt st pls w F) : qSim κ ph ph2 M pc (qI x :: st) pls w F :=
  z_go k (fun h1 h2 _ _ _ _ => ⟨fun u hu => h1 u (List.mem_cons_of_mem _ hu), h2⟩)
    (fun sz b D C p l e R s m args below meth c H locs cells slots ls Q hC hH hL hs hp hR kk => by
      have e : (Int32.ofInt x).toInt = v := (of_toInt (hs _ List.mem_cons_self)).trans hx
      exact lv_tableIn hC.1 hC.2.1 hd (by rw [e]; exact h1) (by rw [e]; exact h2) (by rw [e]; exact ho) ht (kk ls hL))
end ZB
