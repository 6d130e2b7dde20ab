/-! locals of a method that begins -/
def qloc : List qPV → List (Option qPV)
  | [] => []
  | v :: vs => if qcat v = 2 then some v :: none :: qloc vs else some v :: qloc vs
theorem qloc_len (sz b : Nat) : ∀ av : List qPV, (lg_sl (av.map (qV sz b))).length = (qloc av).length
  | [] => rfl
  | v :: vs => by
    have ih := qloc_len sz b vs
    by_cases h : qcat v = 2
    · have h' : (qV sz b v).category = 2 := (qV_cat sz b v).trans h
      simp [lg_sl, qloc, h, h'] at ih ⊢
      omega
    · have h' : ¬ (qV sz b v).category = 2 := by rw [qV_cat]; exact h
      simp [lg_sl, qloc, h, h'] at ih ⊢
      omega
theorem qloc_get (sz b : Nat) : ∀ (av : List qPV) (i0 i : Nat) (v : qPV), (qloc av)[i]? = some (some v) → (i0 + i, qV sz b v) ∈ lv_args i0 (av.map (qV sz b))
  | [], i0, i, v, h => by simp [qloc] at h
  | u :: us, i0, i, v, h => by
    by_cases hc : qcat u = 2
    · have h' : (qV sz b u).category = 2 := (qV_cat sz b u).trans hc
      rw [qloc, if_pos hc] at h
      rw [List.map_cons, lv_args, if_pos h']
      match i, h with
      | 0, h =>
        simp only [List.getElem?_cons_zero, Option.some.injEq] at h
        subst h
        exact List.mem_cons_self
      | 1, h => simp at h
      | j + 2, h =>
        simp only [List.getElem?_cons_succ] at h
        have := qloc_get sz b us (i0 + 2) j v h
        rw [show i0 + (j + 2) = i0 + 2 + j by omega]
        exact List.mem_cons_of_mem _ this
    · have h' : ¬ (qV sz b u).category = 2 := by rw [qV_cat]; exact hc
      rw [qloc, if_neg hc] at h
      rw [List.map_cons, lv_args, if_neg h']
      match i, h with
      | 0, h =>
        simp only [List.getElem?_cons_zero, Option.some.injEq] at h
        subst h
        exact List.mem_cons_self
      | j + 1, h =>
        simp only [List.getElem?_cons_succ] at h
        have := qloc_get sz b us (i0 + 1) j v h
        rw [show i0 + (j + 1) = i0 + 1 + j by omega]
        exact List.mem_cons_of_mem _ this
theorem qloc_mem {av : List qPV} {v : qPV} (h : some v ∈ qloc av) : v ∈ av := by
  induction av with
  | nil => simp [qloc] at h
  | cons u us ih =>
    by_cases hc : qcat u = 2
    · rw [qloc, if_pos hc] at h
      simp at h
      rcases h with rfl | h
      · exact List.mem_cons_self
      · exact List.mem_cons_of_mem _ (ih h)
    · rw [qloc, if_neg hc] at h
      simp at h
      rcases h with rfl | h
      · exact List.mem_cons_self
      · exact List.mem_cons_of_mem _ (ih h)
/-! the world that a method is given -/
def qBd (ph sz b : Nat) (D : va_G) (C : ClassId × ClassId × ClassId) (w : qMem) (U : State) : Prop := qHd ph sz b D C w U U.heap ∧ va_K D vwCl (qtys C) U ∧ qNs U
theorem qHd_moved {ph sz b : Nat} {D : va_G} {C : ClassId × ClassId × ClassId} {w : qMem} {u U : State} {H : Heap} (h : u.vm.Alike U.vm) (hH : qHd ph sz b D C w u H) : qHd ph sz b D C w U H :=
  ⟨hH.1, hH.2.1, hH.2.2.1, hH.2.2.2.1, hH.2.2.2.2.1.moved h, hH.2.2.2.2.2⟩
theorem qBd_of {ph sz b : Nat} {D : va_G} {C : ClassId × ClassId × ClassId} {w : qMem} {s : State} {H : Heap} (hH : qHd ph sz b D C w s H) (hK : va_K D vwCl (qtys C) s) (hN : qNs s) (U : State) (hU : U.heap = H) (hW : s.WarmedH U.vm) : qBd ph sz b D C w U :=
  ⟨by rw [hU]; exact qHd_moved hW.alike hH, va_K.moved hW.alike hK, fun q hq => va_Nw.warmM hW (hN q hq)⟩
theorem qBd_blind {ph sz b : Nat} {D : va_G} {C : ClassId × ClassId × ClassId} {w : qMem} {av : List Value} : FrameBlind (va_Pc av (qBd ph sz b D C w)) := by
  intro a U g mk q
  obtain ⟨q0, q1, q2, q3⟩ := q
  exact ⟨q0, qHd_moved (u := U) (U := U.calling g mk a) (Vm.Alike.refl U.vm) q1, va_K.moved (u := U) (U := U.calling g mk a) (Vm.Alike.refl U.vm) q2, fun q hq => va_Nw.same rfl (show U.vm = (U.calling g mk a).vm from rfl) (q3 q hq)⟩
def qQc {α : Type} (κ : α → Option qPV × qMem) (ph sz b : Nat) (D : va_G) (C : ClassId × ClassId × ClassId) (a : α) : Array Value → State → Outcome → State → Prop := fun _ st oc t =>
  oc = .returned ((κ a).1.map (qV sz b)) ∧ qHd ph sz b D C (κ a).2 t t.heap ∧ va_F (fun q => sz ≤ q) st t
def qrm {α : Type} (κ : α → Option qPV × qMem) (M : qMI) (w : qMem) (a : α) : Room := { frames := M.2.2.2.2.2, cells := qnn (κ a).2 - qnn w, slots := qsl (qnn (κ a).2) - qsl (qnn w), locals := 39 * M.2.2.2.2.2 }
def qws (M : qMI) : List Cond := Cond.code M.1 M.2.1 M.2.2.1 M.2.2.2.1 :: qT
theorem qOk_mono {w w1 : qMem} (h : qnn w ≤ qnn w1) {v : qPV} (hv : qOk w v) : qOk w1 v := by
  rcases v with z | z | _ | z
  · exact hv
  · exact hv
  · exact trivial
  · exact Nat.le_trans hv h
set_option maxHeartbeats 4000000 in
theorem q_met {α : Type} {κ : α → Option qPV × qMem} {ph ph2 : Nat} {M : qMI} {w : qMem} {F : Option α} {a : α} {av : List qPV} {nl : Nat} (hS : qSim κ ph ph2 M 0 [] (qloc av ++ List.replicate nl none) w F) (ha : F = some a) (hO : qOM M) (hnl : (qloc av).length + nl = M.2.2.1) (hg : qGd ph w) (hav : ∀ v ∈ av, qOk w v)
    (l : Launch) (sz b : Nat) (D : va_G) (C : ClassId × ClassId × ClassId) :
    Met l M.1 (qws M) (qrm κ M w a) (va_Pc (av.map (qV sz b)) (qBd ph sz b D C w)) (qQc κ ph2 sz b D C a) (qnn (κ a).2 - qnn w) (qsl (qnn (κ a).2) - qsl (qnn w)) (fun q => sz ≤ q) := by
  refine Met.ofW (cc := M.2.1) (maxL := M.2.2.1) (ret := M.2.2.2.1) hO.1 rfl ?_
  intro p e s m args below meth c s₁ B hml hv
  obtain ⟨rfl, hH, hK, hN⟩ := hv
  have hts := atoms_spec (ws := qws M) B.pre
  have hown : s.vm.findClass M.1.cls = some m.cls := findClass_of_methodNamed B.named
  have hnm : meth.name = M.1.name := (name_of_methodNamed B.named B.method).1
  have hlocks := B.notSynchronized
  have hret := B.returns
  have hx := B.exec
  have hb := B.bytes
  have hlen : (lg_sl (av.map (qV sz b))).length ≤ M.2.2.1 := by rw [qloc_len]; omega
  have hl := lv_entry (av.map (qV sz b)) (n := M.2.2.1) hlen
  rw [lg_entry_eq]
  generalize (lg_sl (av.map (qV sz b)) ++ List.replicate (M.2.2.1 - (lg_sl (av.map (qV sz b))).length) Slot.unset).toArray = ls at hl ⊢
  have hok : ∀ v, some v ∈ qloc av ++ List.replicate nl none → qOk w v := by
    intro v hv
    rcases List.mem_append.mp hv with h | h
    · exact hav v (qloc_mem h)
    · cases List.eq_of_mem_replicate h
  obtain ⟨⟨m1, -, m2⟩, k2⟩ := hS a ha hg (fun v hv => by cases hv) hok
  have hL : qLr sz b M.2.2.1 ls (qloc av ++ List.replicate nl none) := by
    refine ⟨hl.1, hl.2.1, fun i v hi => ?_⟩
    by_cases hlt : i < (qloc av).length
    · rw [List.getElem?_append_left hlt] at hi
      have := qloc_get sz b av 0 i v hi
      rw [Nat.zero_add] at this
      exact hl.2.2 _ this
    · rw [List.getElem?_append_right (by omega)] at hi
      have := List.eq_of_mem_replicate (List.mem_of_getElem? hi)
      cases this
  refine k2 sz b D C p l e _ s m _ below meth c s.heap [] 0 0 ls _ ⟨hx, hb, hml, hown, fun w hw => hts w (List.mem_cons_of_mem _ hw), hN, hnm, hK⟩ hH va_S.rf ?_ ?_ ?_ hL ?_
  · have := hH.2.1; omega
  · have := hH.2.1; omega
  · exact ⟨by simp [headSpec, qrm], by simp [headSpec, qrm], Nat.le_refl _, Nat.le_refl _⟩
  · intro H' locs' ls' pc' hH' hS' hdec hrk
    have hq : ∀ t : State, t.heap = H' → s.WarmedH t.vm → qQc κ ph2 sz b D C a (av.map (qV sz b)).toArray s (.returned ((κ a).1.map (qV sz b))) t := by
      intro t ht hW
      refine ⟨rfl, by rw [ht]; exact qHd_moved hW.alike hH', hS'.F ht⟩
    rw [Nat.zero_add, Nat.zero_add]
    unfold qRk at hrk
    generalize hr9 : M.2.2.2.1 = ret at hrk hret
    match ret, hrk with
    | none, hrk =>
      rw [hrk] at hdec hq ⊢
      exact W.vret hx hb hret hq hS'.2.2 hdec
    | some .int, hrk =>
      obtain ⟨z, hz, -⟩ := hrk
      rw [hz] at hdec hq ⊢
      exact W.iret hx hb hret hq hS'.2.2 hdec
    | some .boolean, hrk =>
      obtain ⟨z, hz, hz2⟩ := hrk
      rw [hz] at hdec hq ⊢
      exact W.zret hx hb hret (by rcases hz2 with rfl | rfl <;> rfl) hq hS'.2.2 hdec
    | some .long, hrk =>
      obtain ⟨z, hz, -⟩ := hrk
      rw [hz] at hdec hq ⊢
      exact W.lret hx hb hret hq hS'.2.2 hdec
