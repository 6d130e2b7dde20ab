theorem qws_in (M' : qMI) (hc : Cond.code M'.1 M'.2.1 M'.2.2.1 M'.2.2.2.1 ∈ qT) : GoodIn qT (qws M') := by
  intro w hw
  rcases List.mem_cons.mp hw with rfl | h
  · exact ⟨hc, qT_good _ hc⟩
  · exact ⟨h, qT_good _ h⟩
section ZE
variable {α β : Type} {κ : α → Option qPV × qMem} {κ' : β → Option qPV × qMem} {ph ph1 ph2 : Nat} {M M' : qMI} {pc : Nat} {st stk av : List qPV} {pls pls' : List (Option qPV)} {w : qMem} {F F1 F2 : Option α} {Fc : Option β} {K : β → Option α} {x y z n off : Int} {tgt nl : Nat}
set_option maxHeartbeats 4000000 in
theorem z_call (hS : qSim κ' ph ph1 M' 0 [] (qloc av ++ List.replicate nl none) w Fc) (hO : qOM M') (hnl : (qloc av).length + nl = M'.2.2.1) (hdep : M'.2.2.2.2.2 < M.2.2.2.2.2) (hav : ∀ v ∈ av, v ∈ stk) (hst : ∀ v ∈ st, v ∈ stk)
    (hrun : ∀ (sz b : Nat) (D : va_G) (C : ClassId × ClassId × ClassId) (p : Program) (l : Launch) (e : Env) (R : Room) (s : State) (m : MethodId) (args : Array Value) (below : List Frame) (meth : Method) (c : Code) (H : Heap) (locs : List Loc) (cells slots mc ms : Nat) (ls : Array Slot) (rm : Room) (Qc : Array Value → State → Outcome → State → Prop),
      qCx M D C p c m meth args s → qHd ph sz b D C w s H → qLr sz b M.2.2.1 ls pls → (∀ v ∈ stk, qOk w v) → rm.cells = mc → rm.slots = ms → rm.frames = M'.2.2.2.2.2 → rm.locals = 39 * M'.2.2.2.2.2 → M'.2.2.2.2.2 + 1 ≤ R.frames → 8 + (M'.2.2.1 + 11) + 39 * M'.2.2.2.2.2 ≤ R.locals → cells + mc ≤ R.cells ∧ slots + ms ≤ R.slots →
      Met l M'.1 (qws M') rm (va_Pc (av.map (qV sz b)) (qBd ph sz b D C w)) Qc mc ms (fun q => sz ≤ q) →
      va_Run p l e R s m args below meth c H locs cells slots mc ms (F0 m pc ls (stk.map (qV sz b))) (st.map (qV sz b)) (Qc (av.map (qV sz b)).toArray) (fun q => sz ≤ q))
    (k : ∀ a, Fc = some a → qRk M' (κ' a).1 → qSim κ ph1 ph2 M (pc + 3) ((κ' a).1.toList ++ st) pls (κ' a).2 (K a)) : qSim κ ph ph2 M pc stk pls w (Fc.bind K) := by
  intro a ha hg hs hp
  obtain ⟨r, hr, hKr⟩ := Option.bind_eq_some_iff.mp ha
  have hok : ∀ v, some v ∈ qloc av ++ List.replicate nl none → qOk w v := by
    intro v hv
    rcases List.mem_append.mp hv with h | h
    · exact hs v (hav v (qloc_mem h))
    · cases List.eq_of_mem_replicate h
  obtain ⟨⟨m1, g1, rk⟩, -⟩ := hS r hr hg (fun v hv => by cases hv) hok
  have okr : ∀ v ∈ (κ' r).1.toList, qOk (κ' r).2 v := by
    intro v hv
    unfold qRk at rk
    generalize M'.2.2.2.1 = ret at rk
    match ret, rk with
    | none, rk => rw [rk] at hv; simp at hv
    | some .int, rk => obtain ⟨z, hz, h⟩ := rk; rw [hz] at hv; simp at hv; subst hv; exact h
    | some .boolean, rk =>
      obtain ⟨z, hz, h⟩ := rk
      rw [hz] at hv; simp at hv; subst hv
      show qA z
      unfold qA; omega
    | some .long, rk => obtain ⟨z, hz, h⟩ := rk; rw [hz] at hv; simp at hv; subst hv; exact h
  obtain ⟨⟨n1, n2⟩, k2⟩ := k r hr rk a hKr g1 (fun v hv => (List.mem_append.mp hv).elim (okr v) (fun h => qOk_mono m1 (hs v (hst v h)))) (fun v hv => qOk_mono m1 (hp v hv))
  refine ⟨⟨Nat.le_trans m1 n1, n2⟩, fun sz b D C p l e R s m args below meth c H locs cells slots ls Q hC hH hS2 hz hn hR hL hret => ?_⟩
  have hM := q_met hS hr hO hnl hg (fun v hv => hs v (hav v hv)) l sz b D C
  obtain ⟨R1, R2, R3, R4⟩ := hR
  have s1 := qsl_mono m1
  have s2 := qsl_mono n1
  have hmax := hO.2.2.2
  have run := hrun sz b D C p l e R s m args below meth c H locs cells slots (qnn (κ' r).2 - qnn w) (qsl (qnn (κ' r).2) - qsl (qnn w)) ls (qrm κ' M' w r) _ hC hH hL hs rfl rfl rfl rfl (by omega) (by omega) ⟨by omega, by omega⟩ hM
  intro T hT X
  obtain ⟨v, st₀, t, T', L, h0, X', hLf, e1, e2, ⟨q1, q2, q3⟩, stp⟩ := run T hT X
  have hv : v = (κ' r).1.map (qV sz b) := Outcome.returned.inj q1
  subst hv
  have q4 : qHd ph1 sz b D C (κ' r).2 s T'.heap := by
    rw [e1]
    exact qHd_moved (by rw [← e2]; exact X'.warmed.alike.symm) q2
  have q5 : va_S (fun q => sz ≤ q) s.heap T'.heap (locs ++ L) := by
    obtain ⟨z1, z2⟩ := q3
    rw [h0] at z1 z2
    rw [e1]
    refine ⟨Nat.le_trans hS2.1 z1, fun q a1 a2 => (z2 q (Nat.lt_of_lt_of_le a1 hS2.1) a2).trans (hS2.2.1 q a1 a2), fun q hq => ?_⟩
    rcases List.mem_append.mp hq with h | h
    · exact hS2.2.2 q h
    · exact hLf q h
  have q6 := k2 sz b D C p l e R s m args below meth c T'.heap (locs ++ L) (cells + (qnn (κ' r).2 - qnn w)) (slots + (qsl (qnn (κ' r).2) - qsl (qnn w))) ls Q hC q4 q5 hz (by omega) ⟨by omega, by omega, R3, R4⟩ hL
    (fun H' locs' ls' pc' h2 h3 h4 h5 => by
      have g := hret H' locs' ls' pc' h2 h3 h4 h5
      rw [show cells + (qnn (κ' r).2 - qnn w) + (qnn (κ a).2 - qnn (κ' r).2) = cells + (qnn (κ a).2 - qnn w) by omega,
        show slots + (qsl (qnn (κ' r).2) - qsl (qnn w)) + (qsl (qnn (κ a).2) - qsl (qnn (κ' r).2)) = slots + (qsl (qnn (κ a).2) - qsl (qnn w)) by omega]
      exact g)
  have e9 : ((κ' r).1.toList ++ st).map (qV sz b) = ((κ' r).1.map (qV sz b)).toList ++ st.map (qV sz b) := by
    cases (κ' r).1 <;> rfl
  rw [e9] at q6
  obtain ⟨t2, a1, b1⟩ := q6 T' rfl X'
  exact ⟨t2, stp t2 a1, b1⟩
theorem q_callB {R : Room} {s : State} {args : Array Value} {own : String} {idx mc ms : Nat} {rm : Room} (hts : ∀ w ∈ qT, w.before args s = true) (hO : qOM M') (hc : Cond.code M'.1 M'.2.1 M'.2.2.1 M'.2.2.2.1 ∈ qT) (hini : Cond.initialized M'.1.cls ∈ qT) (hl : Cond.methodLink own idx M'.1 ∈ qT)
    (h1 : rm.cells = mc) (h2 : rm.slots = ms) (h3 : rm.frames = M'.2.2.2.2.2) (h4 : rm.locals = 39 * M'.2.2.2.2.2) (h5 : M'.2.2.2.2.2 + 1 ≤ R.frames) (h6 : 8 + (M'.2.2.1 + 11) + 39 * M'.2.2.2.2.2 ≤ R.locals) :
    CallB R s args own idx M'.1 M'.2.1 M'.2.2.1 M'.2.2.2.1 (qws M') rm mc ms M'.2.2.2.2.1 :=
  callB_of _ hts (qws_in M' hc) rfl h1 h2 (hts _ hini) (hts _ hl) hO.2.2.1 ⟨by rw [h3]; exact h5, by rw [h4]; exact h6⟩
set_option maxHeartbeats 4000000 in
theorem z_callV {o ci : Nat} {as : List qPV} {idx : Nat} {q : vw_C} (hd : decode M.2.1 pc = .ok (.invokevirtual idx, 3)) (hl : Cond.methodLink M.1.cls idx M'.1 ∈ qT) (hO : qOM M') (hc : Cond.code M'.1 M'.2.1 M'.2.2.1 M'.2.2.2.1 ∈ qT) (hini : Cond.initialized M'.1.cls ∈ qT) (hi : Cond.instanceMethod M'.1 ∈ qT) (hv : Cond.selects M'.1.cls M'.1 M'.1 ∈ qT)
    (hci : vwCl[ci]? = some q) (hq : q.1 = M'.1.cls) (ho : (qlay o).1 = ci + 3) (hdep : M'.2.2.2.2.2 < M.2.2.2.2.2) (hn : as.length = M'.2.2.2.2.1) (hst : (st.map qcat).sum ≤ 8) (hstk : stk = as.reverse ++ qR o :: st) (hpl : pls' = qloc (qR o :: as) ++ List.replicate nl none) (hnl : (qloc (qR o :: as)).length + nl = M'.2.2.1)
    (hS : qSim κ' ph ph1 M' 0 [] pls' w Fc)
    (k : ∀ a, Fc = some a → qRk M' (κ' a).1 → qSim κ ph1 ph2 M (pc + 3) ((κ' a).1.toList ++ st) pls (κ' a).2 (K a)) : qSim κ ph ph2 M pc stk pls w (Fc.bind K) := by
  subst hpl
  subst hstk
  have hci' := vwCl_lt hci
  obtain ⟨i0, rfl⟩ := q_pos (k := o) (by omega)
  refine z_call hS hO hnl hdep (fun v hv => ?_) (fun v hv => by simp [hv]) (fun sz b D C p l e R s m args below meth c H locs cells slots mc ms ls rm Qc hC hH hL hs h1 h2 h3 h4 h5 h6 h7 hM => ?_) k
  · rcases List.mem_cons.mp hv with rfl | h
    · simp
    · simp [h]
  · obtain ⟨hx, hb, hml, hown, hts, hN, hnm, hK⟩ := hC
    have hi0 : i0 < qnn w := hs (qR (i0 + 1)) (by simp)
    have hrec := va_recv (a := sz + i0) (q0 := i0) hK hH.2.2.2.1 hci (by rw [qwl_get hi0, qcel_obj ho])
    rw [hq] at hrec
    refine va_runV (cc := M.2.1) (nL := M.2.2.1) (n := M'.2.2.2.2.1) (maxL := M'.2.2.1) (bytes := M'.2.1) (ret := M'.2.2.2.1) (C := M'.1.cls) (As := as.map (qV sz b)) (b := sz + i0) ⟨hx, hb, hml, hown, hts⟩ hM ⟨q_callB hts hO hc hini hl h1 h2 h3 h4 h5 h6, hts _ hi, hts _ hv⟩ ⟨qBd_blind, hrec, fun U hU hW => ⟨rfl, qBd_of hH hK hN U hU hW⟩⟩ rfl (by simpa using hn) hL.1 ?_ (by show 2 * 0 + _ ≤ 8; have := qst8 (sz := sz) (b := b) hst; omega) hd h7
    simp [qV, qad]
set_option maxHeartbeats 4000000 in
theorem z_callS {idx : Nat} (hd : decode M.2.1 pc = .ok (.invokestatic idx, 3)) (hl : Cond.methodLink M.1.cls idx M'.1 ∈ qT) (hO : qOM M') (hc : Cond.code M'.1 M'.2.1 M'.2.2.1 M'.2.2.2.1 ∈ qT) (hini : Cond.initialized M'.1.cls ∈ qT) (hsta : Cond.static M'.1 ∈ qT)
    (hdep : M'.2.2.2.2.2 < M.2.2.2.2.2) (hn : av.length = M'.2.2.2.2.1) (hst : (st.map qcat).sum ≤ 8) (hstk : stk = av.reverse ++ st) (hpl : pls' = qloc av ++ List.replicate nl none) (hnl : (qloc av).length + nl = M'.2.2.1)
    (hS : qSim κ' ph ph1 M' 0 [] pls' w Fc)
    (k : ∀ a, Fc = some a → qRk M' (κ' a).1 → qSim κ ph1 ph2 M (pc + 3) ((κ' a).1.toList ++ st) pls (κ' a).2 (K a)) : qSim κ ph ph2 M pc stk pls w (Fc.bind K) := by
  subst hpl
  subst hstk
  refine z_call hS hO hnl hdep (fun v hv => by simp [hv]) (fun v hv => by simp [hv]) (fun sz b D C p l e R s m args below meth c H locs cells slots mc ms ls rm Qc hC hH hL hs h1 h2 h3 h4 h5 h6 h7 hM => ?_) k
  obtain ⟨hx, hb, hml, hown, hts, hN, hnm, hK⟩ := hC
  refine va_runS (cc := M.2.1) (nL := M.2.2.1) (n := M'.2.2.2.2.1) (maxL := M'.2.2.1) (bytes := M'.2.1) (ret := M'.2.2.2.1) (As := av.map (qV sz b)) ⟨hx, hb, hml, hown, hts⟩ hM ⟨q_callB hts hO hc hini hl h1 h2 h3 h4 h5 h6, hts _ hsta⟩ ⟨qBd_blind, fun U hU hW => ⟨rfl, qBd_of hH hK hN U hU hW⟩⟩ rfl (by simpa using hn) hL.1 ?_ (by show 2 * 0 + _ ≤ 8; have := qst8 (sz := sz) (b := b) hst; omega) hd h7
  simp
theorem q_callN {R : Room} {s : State} {args : Array Value} {own host : String} {idx mc ms : Nat} {rm : Room} (hts : ∀ w ∈ qT, w.before args s = true) (hN : qNs s) (hO : qOM M') (hc : Cond.code M'.1 M'.2.1 M'.2.2.1 M'.2.2.2.1 ∈ qT) (hini : Cond.initialized M'.1.cls ∈ qT) (hl : (own, idx, M'.1, host) ∈ qNest)
    (h1 : rm.cells = mc) (h2 : rm.slots = ms) (h3 : rm.frames = M'.2.2.2.2.2) (h4 : rm.locals = 39 * M'.2.2.2.2.2) (h5 : M'.2.2.2.2.2 + 1 ≤ R.frames) (h6 : 8 + (M'.2.2.1 + 11) + 39 * M'.2.2.2.2.2 ≤ R.locals) :
    va_CN R s args own idx M'.1 host M'.2.1 M'.2.2.1 M'.2.2.2.1 (qws M') rm mc ms M'.2.2.2.2.1 :=
  va_cnB _ hts (qws_in M' hc) rfl h1 h2 (hN _ hl) (hts _ hini) hO.2.2.1 ⟨by rw [h3]; exact h5, by rw [h4]; exact h6⟩
set_option maxHeartbeats 4000000 in
theorem z_callSN {idx : Nat} {host : String} (hd : decode M.2.1 pc = .ok (.invokestatic idx, 3)) (hl : (M.1.cls, idx, M'.1, host) ∈ qNest) (hO : qOM M') (hc : Cond.code M'.1 M'.2.1 M'.2.2.1 M'.2.2.2.1 ∈ qT) (hini : Cond.initialized M'.1.cls ∈ qT) (hsta : Cond.static M'.1 ∈ qT)
    (hdep : M'.2.2.2.2.2 < M.2.2.2.2.2) (hn : av.length = M'.2.2.2.2.1) (hst : (st.map qcat).sum ≤ 8) (hstk : stk = av.reverse ++ st) (hpl : pls' = qloc av ++ List.replicate nl none) (hnl : (qloc av).length + nl = M'.2.2.1)
    (hS : qSim κ' ph ph1 M' 0 [] pls' w Fc)
    (k : ∀ a, Fc = some a → qRk M' (κ' a).1 → qSim κ ph1 ph2 M (pc + 3) ((κ' a).1.toList ++ st) pls (κ' a).2 (K a)) : qSim κ ph ph2 M pc stk pls w (Fc.bind K) := by
  subst hpl
  subst hstk
  refine z_call hS hO hnl hdep (fun v hv => by simp [hv]) (fun v hv => by simp [hv]) (fun sz b D C p l e R s m args below meth c H locs cells slots mc ms ls rm Qc hC hH hL hs h1 h2 h3 h4 h5 h6 h7 hM => ?_) k
  obtain ⟨hx, hb, hml, hown, hts, hN, hnm, hK⟩ := hC
  refine va_runSN (cc := M.2.1) (nL := M.2.2.1) (n := M'.2.2.2.2.1) (maxL := M'.2.2.1) (bytes := M'.2.1) (ret := M'.2.2.2.1) (As := av.map (qV sz b)) ⟨hx, hb, hml, hown, hts⟩ hM ⟨q_callN hts hN hO hc hini hl h1 h2 h3 h4 h5 h6, hts _ hsta, trivial⟩ ⟨qBd_blind, fun U hU hW => ⟨rfl, qBd_of hH hK hN U hU hW⟩⟩ rfl (by simpa using hn) hL.1 ?_ (by show 2 * 0 + _ ≤ 8; have := qst8 (sz := sz) (b := b) hst; omega) hd h7
  simp
/-- constructors -/
theorem q_ret_none {M' : qMI} {a : β} (h : M'.2.2.2.1 = none) (hr : qRk M' (κ' a).1) : (κ' a).1 = none := by
  unfold qRk at hr
  rw [h] at hr
  exact hr
set_option maxHeartbeats 4000000 in
theorem z_callI {o : Nat} {as : List qPV} {idx : Nat} (hd : decode M.2.1 pc = .ok (.invokespecial idx, 3)) (hl : Cond.methodLink M.1.cls idx M'.1 ∈ qT) (hO : qOM M') (hc : Cond.code M'.1 M'.2.1 M'.2.2.1 M'.2.2.2.1 ∈ qT) (hini : Cond.initialized M'.1.cls ∈ qT) (hi : Cond.instanceMethod M'.1 ∈ qT)
    (hret : M'.2.2.2.1 = none) (hnm2 : M'.1.name = "<init>") (ho : (qlay o).1 ≠ 98) (hdep : M'.2.2.2.2.2 < M.2.2.2.2.2) (hn : as.length = M'.2.2.2.2.1) (hst : (st.map qcat).sum ≤ 8) (hstk : stk = as.reverse ++ qR o :: st) (hpl : pls' = qloc (qR o :: as) ++ List.replicate nl none) (hnl : (qloc (qR o :: as)).length + nl = M'.2.2.1)
    (hS : qSim κ' ph ph1 M' 0 [] pls' w Fc)
    (k : ∀ a, Fc = some a → qRk M' (κ' a).1 → qSim κ ph1 ph2 M (pc + 3) ((κ' a).1.toList ++ st) pls (κ' a).2 (K a)) : qSim κ ph ph2 M pc stk pls w (Fc.bind K) := by
  subst hpl
  subst hstk
  obtain ⟨i0, rfl⟩ := q_pos ho
  refine z_call hS hO hnl hdep (fun v hv => ?_) (fun v hv => by simp [hv]) (fun sz b D C p l e R s m args below meth c H locs cells slots mc ms ls rm Qc hC hH hL hs h1 h2 h3 h4 h5 h6 h7 hM => ?_) k
  · rcases List.mem_cons.mp hv with rfl | h
    · simp
    · simp [h]
  · obtain ⟨hx, hb, hml, hown, hts, hN, hnm, hK⟩ := hC
    have cw := q_callB hts hO hc hini hl h1 h2 h3 h4 h5 h6
    rw [hret] at cw
    refine va_runI (cc := M.2.1) (nL := M.2.2.1) (n := M'.2.2.2.2.1) (maxL := M'.2.2.1) (bytes := M'.2.1) (As := as.map (qV sz b)) (b := sz + i0) ⟨hx, hb, hml, hown, hts⟩ hM ⟨cw, hnm2, hts _ hi⟩ ⟨qBd_blind, fun U hU hW => ⟨rfl, qBd_of hH hK hN U hU hW⟩⟩ rfl (by simpa using hn) hL.1 ?_ (by show 2 * 0 + _ ≤ 8; have := qst8 (sz := sz) (b := b) hst; omega) hd h7
    simp [qV, qad]
set_option maxHeartbeats 4000000 in
theorem z_callIN {o : Nat} {as : List qPV} {idx : Nat} {host : String} (hd : decode M.2.1 pc = .ok (.invokespecial idx, 3)) (hl : (M.1.cls, idx, M'.1, host) ∈ qNest) (hO : qOM M') (hc : Cond.code M'.1 M'.2.1 M'.2.2.1 M'.2.2.2.1 ∈ qT) (hini : Cond.initialized M'.1.cls ∈ qT) (hi : Cond.instanceMethod M'.1 ∈ qT)
    (hret : M'.2.2.2.1 = none) (hnm2 : M'.1.name = "<init>") (ho : (qlay o).1 ≠ 98) (hdep : M'.2.2.2.2.2 < M.2.2.2.2.2) (hn : as.length = M'.2.2.2.2.1) (hst : (st.map qcat).sum ≤ 8) (hstk : stk = as.reverse ++ qR o :: st) (hpl : pls' = qloc (qR o :: as) ++ List.replicate nl none) (hnl : (qloc (qR o :: as)).length + nl = M'.2.2.1)
    (hS : qSim κ' ph ph1 M' 0 [] pls' w Fc)
    (k : ∀ a, Fc = some a → qRk M' (κ' a).1 → qSim κ ph1 ph2 M (pc + 3) ((κ' a).1.toList ++ st) pls (κ' a).2 (K a)) : qSim κ ph ph2 M pc stk pls w (Fc.bind K) := by
  subst hpl
  subst hstk
  obtain ⟨i0, rfl⟩ := q_pos ho
  refine z_call hS hO hnl hdep (fun v hv => ?_) (fun v hv => by simp [hv]) (fun sz b D C p l e R s m args below meth c H locs cells slots mc ms ls rm Qc hC hH hL hs h1 h2 h3 h4 h5 h6 h7 hM => ?_) k
  · rcases List.mem_cons.mp hv with rfl | h
    · simp
    · simp [h]
  · obtain ⟨hx, hb, hml, hown, hts, hN, hnm, hK⟩ := hC
    have cw := q_callN (host := host) hts hN hO hc hini hl h1 h2 h3 h4 h5 h6
    rw [hret] at cw
    refine va_runIN (cc := M.2.1) (nL := M.2.2.1) (n := M'.2.2.2.2.1) (maxL := M'.2.2.1) (bytes := M'.2.1) (host := host) (As := as.map (qV sz b)) (b := sz + i0) ⟨hx, hb, hml, hown, hts⟩ hM ⟨cw, hnm2, hts _ hi⟩ ⟨qBd_blind, fun U hU hW => ⟨rfl, qBd_of hH hK hN U hU hW⟩⟩ rfl (by simpa using hn) hL.1 ?_ (by show 2 * 0 + _ ≤ 8; have := qst8 (sz := sz) (b := b) hst; omega) hd h7
    simp [qV, qad]
theorem z_objinit {o : Nat} {idx : Nat} (hd : decode M.2.1 pc = .ok (.invokespecial idx, 3)) (hl : Cond.methodLink M.1.cls idx Lib.objectInit ∈ qT) (hdep : 1 ≤ M.2.2.2.2.2) (hst : (st.map qcat).sum ≤ 8)
    (k : qSim κ ph ph2 M (pc + 3) st pls w F) : qSim κ ph ph2 M pc (qR o :: st) pls w F :=
  z_go k (fun h1 h2 _ _ _ _ => ⟨fun v hv => h1 v (List.mem_cons_of_mem _ hv), h2⟩)
    (fun sz b D C p l e R s m args below meth c H locs cells slots ls Q hC hH hL hs hp hR kk => by
      obtain ⟨hx, hb, hml, hown, hts, hN, hnm, hK⟩ := hC
      exact W.objInit (g := F0 m pc ls ((qR o :: st).map (qV sz b))) hx hb hown (hts _ hl) (hts _ mi_obj) (hts _ mc_obj) rfl (hL.1.trans hml.symm) (a := qad sz b o) (rest := st.map (qV sz b)) rfl hd (by have := hR.1; omega) (by show 2 * 0 + _ + 12 ≤ _; have := qst8 (sz := sz) (b := b) hst; have := hR.2.1; omega) (kk ls hL))
/-! ends -/
theorem z_iret {a : α} (hd : decode M.2.1 pc = .ok (.ireturn, 1)) (ha : κ a = (some (qI z), w)) (hr : M.2.2.2.1 = some .int) : qSim κ ph ph M pc [qI z] pls w (some a) := by
  intro a' ha' hg hs hp
  cases ha'
  have hrk : qRk M (some (qI z)) := by
    unfold qRk; rw [hr]; exact ⟨z, rfl, hs _ List.mem_cons_self⟩
  refine ⟨⟨by rw [ha]; exact Nat.le_refl _, by rw [ha]; exact ⟨hg, hrk⟩⟩, fun sz b D C p l e R s m args below meth c H locs cells slots ls Q hC hH hS hz hn hR hL hret => ?_⟩
  have g := hret H locs ls pc (by rw [ha]; exact hH) hS (by rw [ha]; exact hd) (by rw [ha]; exact hrk)
  rw [ha] at g
  simpa using g
theorem z_zret {a : α} (hd : decode M.2.1 pc = .ok (.ireturn, 1)) (ha : κ a = (some (qI z), w)) (hr : M.2.2.2.1 = some .boolean) (hz : z = 0 ∨ z = 1) : qSim κ ph ph M pc [qI z] pls w (some a) := by
  intro a' ha' hg hs hp
  cases ha'
  have hrk : qRk M (some (qI z)) := by
    unfold qRk; rw [hr]; exact ⟨z, rfl, hz⟩
  refine ⟨⟨by rw [ha]; exact Nat.le_refl _, by rw [ha]; exact ⟨hg, hrk⟩⟩, fun sz b D C p l e R s m args below meth c H locs cells slots ls Q hC hH hS hz hn hR hL hret => ?_⟩
  have g := hret H locs ls pc (by rw [ha]; exact hH) hS (by rw [ha]; exact hd) (by rw [ha]; exact hrk)
  rw [ha] at g
  simpa using g
theorem z_lret {a : α} (hd : decode M.2.1 pc = .ok (.lreturn, 1)) (ha : κ a = (some (qL z), w)) (hr : M.2.2.2.1 = some .long) : qSim κ ph ph M pc [qL z] pls w (some a) := by
  intro a' ha' hg hs hp
  cases ha'
  have hrk : qRk M (some (qL z)) := by
    unfold qRk; rw [hr]; exact ⟨z, rfl, hs _ List.mem_cons_self⟩
  refine ⟨⟨by rw [ha]; exact Nat.le_refl _, by rw [ha]; exact ⟨hg, hrk⟩⟩, fun sz b D C p l e R s m args below meth c H locs cells slots ls Q hC hH hS hz hn hR hL hret => ?_⟩
  have g := hret H locs ls pc (by rw [ha]; exact hH) hS (by rw [ha]; exact hd) (by rw [ha]; exact hrk)
  rw [ha] at g
  simpa using g
theorem z_vret {a : α} (hd : decode M.2.1 pc = .ok (.return_, 1)) (ha : κ a = (none, w)) (hr : M.2.2.2.1 = none) : qSim κ ph ph M pc [] pls w (some a) := by
  intro a' ha' hg hs hp
  cases ha'
  have hrk : qRk M none := by
    unfold qRk; rw [hr]
  refine ⟨⟨by rw [ha]; exact Nat.le_refl _, by rw [ha]; exact ⟨hg, hrk⟩⟩, fun sz b D C p l e R s m args below meth c H locs cells slots ls Q hC hH hS hz hn hR hL hret => ?_⟩
  have g := hret H locs ls pc (by rw [ha]; exact hH) hS (by rw [ha]; exact hd) (by rw [ha]; exact hrk)
  rw [ha] at g
  simpa using g
theorem q_boo {M' : qMI} {a : Int × qMem} (h : M'.2.2.2.1 = some .boolean) (hr : qRk M' (κI a).1) : a.1 = 0 ∨ a.1 = 1 := by
  unfold qRk at hr
  rw [h] at hr
  obtain ⟨z, hz, h2⟩ := hr
  have : a.1 = z := by
    have := Option.some.inj hz
    exact Sum.inl.inj this
  rw [this]; exact h2
end ZE
