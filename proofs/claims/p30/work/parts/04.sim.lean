/-! the pure side: memory by cell number and place, values, ranges -/
abbrev qMem : Type := Nat → Int → Int
abbrev qPV : Type := Int ⊕ (Int ⊕ Option Nat)
abbrev qI (z : Int) : qPV := Sum.inl z
abbrev qL (z : Int) : qPV := Sum.inr (Sum.inl z)
abbrev qR (k : Nat) : qPV := Sum.inr (Sum.inr (some k))
abbrev qN : qPV := Sum.inr (Sum.inr none)
def qA (z : Int) : Prop := -2147483648 ≤ z ∧ z < 2147483648
def qB (z : Int) : Prop := -9223372036854775808 ≤ z ∧ z < 9223372036854775808
def w32 (z : Int) : Int := (z + 2147483648) % 4294967296 - 2147483648
def qud (w : qMem) (k : Nat) (i v : Int) : qMem := fun k' i' => if k' = k ∧ i' = i then v else w k' i'
def qad (sz b : Nat) : Nat → Nat
  | 0 => b
  | n + 1 => sz + n
def qrv (sz b : Nat) (z : Int) : Value := if z ≤ 0 then .null else .ref (qad sz b z.toNat)
def qV (sz b : Nat) : qPV → Value
  | .inl z => .int (Int32.ofInt z)
  | .inr (.inl z) => .long (Int64.ofInt z)
  | .inr (.inr none) => .null
  | .inr (.inr (some k)) => .ref (qad sz b k)
def qcat : qPV → Nat
  | .inr (.inl _) => 2
  | _ => 1
theorem qV_cat (sz b : Nat) (v : qPV) : (qV sz b v).category = qcat v := by
  rcases v with z | z | _ | k <;> rfl
def qnn (w : qMem) : Nat := (w 0 (-2)).toNat
def qsl : Nat → Nat
  | 0 => 0
  | n + 1 => qsl n + (qlay (n + 1)).2
theorem qsl_mono {a b : Nat} (h : a ≤ b) : qsl a ≤ qsl b := by
  induction h with
  | refl => exact Nat.le_refl _
  | step _ ih => exact Nat.le_trans ih (Nat.le_add_right _ _)
def qfv (sz b : Nat) (w : qMem) (k ci j : Nat) : Value := if qfk ci j < 2 then .int (Int32.ofInt (w k j)) else qrv sz b (w k j)
def qcel (sz b : Nat) (C : ClassId × ClassId × ClassId) (w : qMem) (k : Nat) : va_E :=
  if (qlay k).1 = 0 then .inl (C.1, (qlay k).2, .inl fun j => Int32.ofInt (w k j))
  else if (qlay k).1 = 1 then .inl (C.2.1, (qlay k).2, .inl fun j => Int32.ofInt (w k j))
  else if (qlay k).1 = 2 then .inl (C.2.2, (qlay k).2, .inr (.inl fun j => Int64.ofInt (w k j)))
  else .inr ((qlay k).1 - 3, (List.range (qlay k).2).map (qfv sz b w k ((qlay k).1 - 3)))
theorem qcel_ext {sz b : Nat} {C : ClassId × ClassId × ClassId} {w w' : qMem} {k : Nat} (h : ∀ j, w' k j = w k j) : qcel sz b C w' k = qcel sz b C w k := by
  have e : w' k = w k := funext h
  unfold qcel qfv
  simp only [e]
def qwl (sz b : Nat) (C : ClassId × ClassId × ClassId) (w : qMem) : va_W := (List.range (qnn w)).map fun i => (sz + i, qcel sz b C w (i + 1))
theorem qwl_get {sz b : Nat} {C : ClassId × ClassId × ClassId} {w : qMem} {i : Nat} (h : i < qnn w) : (qwl sz b C w)[i]? = some (sz + i, qcel sz b C w (i + 1)) := by
  simp [qwl, h]
theorem qwl_of {sz b : Nat} {C : ClassId × ClassId × ClassId} {w : qMem} {i : Nat} {q : Nat × va_E} (h : (qwl sz b C w)[i]? = some q) : i < qnn w ∧ q = (sz + i, qcel sz b C w (i + 1)) := by
  have hl : i < (qwl sz b C w).length := (List.getElem?_eq_some_iff.mp h).1
  have hl' : i < qnn w := by simpa [qwl] using hl
  rw [qwl_get hl'] at h
  exact ⟨hl', (Option.some.inj h).symm⟩
theorem qwl_D {sz b : Nat} {C : ClassId × ClassId × ClassId} {w : qMem} : va_D (fun q => sz ≤ q) (qwl sz b C w) := by
  refine ⟨fun i j p q hi hj e => ?_, fun k q hk => ?_⟩
  · obtain ⟨-, rfl⟩ := qwl_of hi
    obtain ⟨-, rfl⟩ := qwl_of hj
    have e' : sz + i = sz + j := e
    omega
  · obtain ⟨-, rfl⟩ := qwl_of hk
    exact Nat.le_add_right _ _
theorem qwl_set {sz b : Nat} {C : ClassId × ClassId × ClassId} {w w' : qMem} {i : Nat} (hn : qnn w' = qnn w) (hc : ∀ k, k ≠ i + 1 → ∀ j, k ≠ 0 → w' k j = w k j) : (qwl sz b C w).set i (sz + i, qcel sz b C w' (i + 1)) = qwl sz b C w' := by
  apply List.ext_getElem?
  intro j
  by_cases hj : j < qnn w
  · rw [qwl_get (w := w') (by omega)]
    by_cases hji : j = i
    · subst hji
      rw [List.getElem?_set_self (by simpa [qwl] using hj)]
    · rw [List.getElem?_set_ne (Ne.symm hji), qwl_get hj, qcel_ext (fun z => hc (j + 1) (by omega) z (by omega))]
  · rw [List.getElem?_eq_none (by simp [qwl]; omega), List.getElem?_eq_none (by simp [qwl]; omega)]
def qRng (w : qMem) : Prop := ∀ (k : Nat) (i : Int), if (qlay k).1 = 2 then qB (w k i) else if (qlay k).1 = 1 then (w k i = 0 ∨ w k i = 1) else qA (w k i)
def qRef (w : qMem) : Prop := ∀ (k j : Nat), 3 ≤ (qlay k).1 → j < (qlay k).2 → qfk ((qlay k).1 - 3) j = 2 → w k j ≤ w 0 (-2)
/-- at phase ph: the final references that are set by then, and what they refer to -/
def qWr (ph : Nat) (w : qMem) : Prop := ∀ (k j : Nat), qtm k j ≤ ph → 3 ≤ (qlay k).1 → j < (qlay k).2 → qof ((qlay k).1 - 3) j ≠ 0 → w k j = ((k + qof ((qlay k).1 - 3) j : Nat) : Int)
def qGd (ph : Nat) (w : qMem) : Prop := qRng w ∧ qRef w ∧ qWr ph w ∧ 0 ≤ w 0 (-2)
def qHd (ph sz b : Nat) (D : va_G) (C : ClassId × ClassId × ClassId) (w : qMem) (U : State) (H : Heap) : Prop :=
  qGd ph w ∧ H.size = sz + qnn w ∧ b < sz ∧ va_P D vwCl (qwl sz b C w) H ∧ va_X b (w 0 (-1)).toNat (fun j => Int32.ofInt (w 0 j)) U H ∧ 0 ≤ w 0 (-1)
def qOk (w : qMem) : qPV → Prop
  | .inl z => qA z
  | .inr (.inl z) => qB z
  | .inr (.inr none) => True
  | .inr (.inr (some k)) => k ≤ qnn w
def qLr (sz b nL : Nat) (ls : Array Slot) (pls : List (Option qPV)) : Prop := ls.size = nL ∧ lv_wf ls ∧ ∀ (i : Nat) (v : qPV), pls[i]? = some (some v) → ls[i]? = some (.val (qV sz b v))
def qNs (s : State) : Prop := ∀ q ∈ qNest, va_Nw (.methodLinkNest q.1 q.2.1 q.2.2.1 q.2.2.2) s
def qtys (C : ClassId × ClassId × ClassId) : List (ClassId × FieldType) := [(C.1, .int), (C.2.1, .boolean), (C.2.2, .long)]
/-- what is fixed while a method runs -/
def qCx (M : qMI) (D : va_G) (C : ClassId × ClassId × ClassId) (p : Program) (c : Code) (m : MethodId) (meth : Method) (args : Array Value) (s : State) : Prop :=
  p.tables.exec = Jvm.exec ∧ c.code = M.2.1 ∧ c.maxLocals = M.2.2.1 ∧ s.vm.findClass M.1.cls = some m.cls ∧ (∀ w ∈ qT, w.before args s = true) ∧ qNs s ∧ (meth.name = M.1.name) ∧ va_K D vwCl (qtys C) s
def qRm (M : qMI) (R : Room) (w w' : qMem) (cells slots : Nat) : Prop := cells + (qnn w' - qnn w) ≤ R.cells ∧ slots + (qsl (qnn w') - qsl (qnn w)) ≤ R.slots ∧ M.2.2.2.2.2 ≤ R.frames ∧ 39 * M.2.2.2.2.2 ≤ R.locals
def qRi : Option qPV → Instr
  | none => .return_
  | some (.inl _) => .ireturn
  | some (.inr (.inl _)) => .lreturn
  | some (.inr (.inr _)) => .areturn
def qRk (M : qMI) (rv : Option qPV) : Prop := match M.2.2.2.1 with
  | none => rv = none
  | some .int => ∃ z, rv = some (qI z) ∧ qA z
  | some .boolean => ∃ z, rv = some (qI z) ∧ (z = 0 ∨ z = 1)
  | some .long => ∃ z, rv = some (qL z) ∧ qB z
  | _ => False
/-- THE JUDGEMENT: whenever F answers, the machine at this place of method M comes to its end with this answer -/
def qSim {α : Type} (κ : α → Option qPV × qMem) (ph ph2 : Nat) (M : qMI) (pc : Nat) (st : List qPV) (pls : List (Option qPV)) (w : qMem) (F : Option α) : Prop :=
  ∀ a, F = some a → qGd ph w → (∀ v ∈ st, qOk w v) → (∀ v, some v ∈ pls → qOk w v) → (qnn w ≤ qnn (κ a).2 ∧ qGd ph2 (κ a).2 ∧ qRk M (κ a).1) ∧
    ∀ (sz b : Nat) (D : va_G) (C : ClassId × ClassId × ClassId) (p : Program) (l : Launch) (e : Env) (R : Room) (s : State) (m : MethodId) (args : Array Value) (below : List Frame) (meth : Method) (c : Code) (H : Heap) (locs : List Loc) (cells slots : Nat) (ls : Array Slot) (Q : State → Prop),
      qCx M D C p c m meth args s → qHd ph sz b D C w s H → va_S (fun q => sz ≤ q) s.heap H locs → sz ≤ s.heap.size → s.heap.size + cells = sz + qnn w →
      qRm M R w (κ a).2 cells slots → qLr sz b M.2.2.1 ls pls →
      (∀ (H' : Heap) (locs' : List Loc) (ls' : Array Slot) (pc' : Nat), qHd ph2 sz b D C (κ a).2 s H' → va_S (fun q => sz ≤ q) s.heap H' locs' → decode M.2.1 pc' = .ok (qRi (κ a).1, 1) → qRk M (κ a).1 →
        W p l e R s m args below meth c H' locs' (cells + (qnn (κ a).2 - qnn w)) (slots + (qsl (qnn (κ a).2) - qsl (qnn w))) Q (F0 m pc' ls' ((κ a).1.toList.map (qV sz b)))) →
      W p l e R s m args below meth c H locs cells slots Q (F0 m pc ls (st.map (qV sz b)))
def κI (q : Int × qMem) : Option qPV × qMem := (some (qI q.1), q.2)
def κL (q : Int × qMem) : Option qPV × qMem := (some (qL q.1), q.2)
def κV (w : qMem) : Option qPV × qMem := (none, w)
section ZA
variable {α : Type} {κ : α → Option qPV × qMem} {ph ph2 : Nat} {M : qMI} {pc : Nat} {st : List qPV} {pls : List (Option qPV)} {w : qMem} {F F1 F2 : Option α}
theorem z_none : qSim κ ph ph2 M pc st pls w none := fun a h => by cases h
theorem z_if {c : Prop} {inst : Decidable c} (h1 : c → qSim κ ph ph2 M pc st pls w F1) (h2 : ¬ c → qSim κ ph ph2 M pc st pls w F2) : qSim κ ph ph2 M pc st pls w (@ite _ c inst F1 F2) := by
  by_cases h : c
  · rw [if_pos h]; exact h1 h
  · rw [if_neg h]; exact h2 h
/-- a step that leaves the heap as it is -/
theorem z_go {pc2 : Nat} {st2 : List qPV} {pls2 : List (Option qPV)} (k : qSim κ ph ph2 M pc2 st2 pls2 w F)
    (hok : (∀ v ∈ st, qOk w v) → (∀ v, some v ∈ pls → qOk w v) → qRng w → qRef w → qWr ph w → 0 ≤ w 0 (-2) → (∀ v ∈ st2, qOk w v) ∧ (∀ v, some v ∈ pls2 → qOk w v))
    (hW : ∀ (sz b : Nat) (D : va_G) (C : ClassId × ClassId × ClassId) (p : Program) (l : Launch) (e : Env) (R : Room) (s : State) (m : MethodId) (args : Array Value) (below : List Frame) (meth : Method) (c : Code) (H : Heap) (locs : List Loc) (cells slots : Nat) (ls : Array Slot) (Q : State → Prop),
      qCx M D C p c m meth args s → qHd ph sz b D C w s H → qLr sz b M.2.2.1 ls pls → (∀ v ∈ st, qOk w v) → (∀ v, some v ∈ pls → qOk w v) → M.2.2.2.2.2 ≤ R.frames ∧ 39 * M.2.2.2.2.2 ≤ R.locals ∧ cells ≤ R.cells ∧ slots ≤ R.slots →
      (∀ ls2 : Array Slot, qLr sz b M.2.2.1 ls2 pls2 → W p l e R s m args below meth c H locs cells slots Q (F0 m pc2 ls2 (st2.map (qV sz b)))) →
      W p l e R s m args below meth c H locs cells slots Q (F0 m pc ls (st.map (qV sz b)))) : qSim κ ph ph2 M pc st pls w F := by
  intro a ha hg hs hp
  have hk := hok hs hp hg.1 hg.2.1 hg.2.2.1 hg.2.2.2
  obtain ⟨h1, h2⟩ := k a ha hg hk.1 hk.2
  refine ⟨h1, fun sz b D C p l e R s m args below meth c H locs cells slots ls Q hC hH hS hz hn hR hL hret => ?_⟩
  exact hW sz b D C p l e R s m args below meth c H locs cells slots ls Q hC hH hL hs hp ⟨hR.2.2.1, hR.2.2.2, Nat.le_trans (Nat.le_add_right _ _) hR.1, Nat.le_trans (Nat.le_add_right _ _) hR.2.1⟩ fun ls2 hl2 =>
    h2 sz b D C p l e R s m args below meth c H locs cells slots ls2 Q hC hH hS hz hn hR hl2 hret
end ZA
/-! numbers -/
theorem w32_id {z : Int} (h : qA z) : w32 z = z := by unfold w32; unfold qA at h; omega
theorem w32_in (z : Int) : qA (w32 z) := by unfold w32 qA; omega
theorem w32_bmod (z : Int) : w32 z = z.bmod (2 ^ 32) := by
  unfold w32
  rw [Int.bmod_def]
  split <;> omega
theorem of_w32 (z : Int) : Int32.ofInt (w32 z) = Int32.ofInt z := by
  apply Int32.toInt_inj.mp
  rw [Int32.toInt_ofInt, Int32.toInt_ofInt, w32_bmod]
  exact Int.bmod_bmod
theorem of_toInt {z : Int} (h : qA z) : (Int32.ofInt z).toInt = z := Int32.toInt_ofInt_of_le h.1 h.2
theorem of_lt {x y : Int} (hx : qA x) (hy : qA y) : Int32.ofInt x < Int32.ofInt y ↔ x < y := by
  rw [Int32.lt_iff_toInt_lt, of_toInt hx, of_toInt hy]
theorem of_le {x y : Int} (hx : qA x) (hy : qA y) : Int32.ofInt x ≤ Int32.ofInt y ↔ x ≤ y := by
  rw [Int32.le_iff_toInt_le, of_toInt hx, of_toInt hy]
theorem of_eq {x y : Int} (hx : qA x) (hy : qA y) : Int32.ofInt x = Int32.ofInt y ↔ x = y := by
  rw [← Int32.toInt_inj, of_toInt hx, of_toInt hy]
theorem of_0 : Int32.ofInt 0 = 0 := rfl
theorem qA_0 : qA 0 := by unfold qA; omega
theorem qA_toInt (x : Int32) : qA x.toInt := ⟨Int32.le_toInt x, Int32.toInt_lt x⟩
theorem of_nat {z : Int} (h : qA z) : (Int32.ofInt z).toNatClampNeg = z.toNat := by
  show (Int32.ofInt z).toInt.toNat = _
  rw [of_toInt h]
theorem of_in {z : Int} {n : Nat} (h : qA z) (h0 : 0 ≤ z) (hn : z < n) : vp_in (Int32.ofInt z) n := by
  rw [vp_in_iff, of_toInt h]
  exact ⟨h0, hn⟩
theorem qB_toInt (x : Int64) : qB x.toInt := ⟨Int64.le_toInt x, Int64.toInt_lt x⟩
theorem qA_nat {n : Nat} (h : n < 2147483648) : qA (n : Int) := by unfold qA; omega
