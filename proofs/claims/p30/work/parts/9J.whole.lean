/-! the start of the machine, as memory -/
def qin (L : Nat) (xs : Nat → Int32) : qMem := fun k j => if k = 0 then (if j = -1 then (L : Int) else if j = -2 then 0 else if 0 ≤ j ∧ j < (L : Int) then (xs j.toNat).toInt else 0) else 0
theorem qtm_1 : ∀ k, k < 104 → ∀ j, j < 26 → 1 ≤ qtm k j := by decide +kernel
theorem qin_gd {L : Nat} {xs : Nat → Int32} (hL : L ≤ 3584) : qGd 0 (qin L xs) := by
  have hz : ∀ k j, k ≠ 0 → qin L xs k j = 0 := fun k j h => by
    unfold qin
    rw [if_neg h]
  have h0 : ∀ j, qA (qin L xs 0 j) := fun j => by
    unfold qin
    rw [if_pos rfl]
    split
    · unfold qA; omega
    · split
      · exact qA_0
      · split
        · exact qA_toInt _
        · exact qA_0
  refine ⟨fun k i => ?_, fun k j h3 hj hf => ?_, fun k j ht h3 hj ho => ?_, Int.le_refl _⟩
  · by_cases e : k = 0
    · subst e
      exact h0 i
    · rw [hz k i e]
      split
      · unfold qB; omega
      · split
        · exact Or.inl rfl
        · exact qA_0
  · by_cases e : k = 0
    · subst e
      exact absurd hj (Nat.not_lt_zero j)
    · rw [hz k j e]
      exact Int.le_refl _
  · by_cases hk : k < 104
    · have a := qlay_few k hk h3
      have := qtm_1 k hk j (by omega)
      omega
    · rw [qlay_big (by omega)] at hj
      exact absurd hj (Nat.not_lt_zero j)
theorem qsl_103 : qsl 103 ≤ 7302250 := by decide +kernel
theorem ty_known {s : State} {ty : FieldType} {args : Array Value} (h : (Cond.arrayClass ty).before args s = true) : ∃ cA : ClassId, ArrOfT s cA ty ∧ s.vm.findClass ("[" ++ ty.toString) = some cA := by
  obtain ⟨cA, kA, comp, h1, h2, h3⟩ := Cond.arrayClass_spec h
  exact ⟨cA, fun n z => ⟨fun k h => (by cases h), kA, h2, comp, h3⟩, h1⟩
theorem cl_ist {ci : Nat} {q : vw_C} (h : vwCl[ci]? = some q) : ∃ n, Cond.instantiable q.1 n ∈ qT := by
  match ci, h with
  | 0, h => cases h; exact ⟨_, ist_G⟩
  | 1, h => cases h; exact ⟨_, ist_L⟩
  | 2, h => cases h; exact ⟨_, ist_V⟩
  | 3, h => cases h; exact ⟨_, ist_N⟩
  | 4, h => cases h; exact ⟨_, ist_O⟩
  | 5, h => cases h; exact ⟨_, ist_P⟩
  | 6, h => cases h; exact ⟨_, ist_Q⟩
  | 7, h => cases h; exact ⟨_, ist_R⟩
  | 8, h => cases h; exact ⟨_, ist_S⟩
  | 9, h => cases h; exact ⟨_, ist_X⟩
  | 10, h => cases h; exact ⟨_, ist_M⟩
  | n + 11, h => simp at h
theorem k_known {s : State} {args : Array Value} (hts : ∀ w ∈ qT, w.before args s = true) : ∃ (D : va_G) (C : ClassId × ClassId × ClassId), va_K D vwCl (qtys C) s := by
  have hc : ∀ ci : Nat, ∃ (cC : ClassId) (iS : Nat → Nat), ∀ q : vw_C, vwCl[ci]? = some q → u_Kn s q.1 q.2.1 q.2.2 cC iS := by
    intro ci
    cases h : vwCl[ci]? with
    | none => exact ⟨0, fun _ => 0, fun q hq => by cases hq⟩
    | some q =>
      obtain ⟨n, hn⟩ := cl_ist h
      obtain ⟨cC, iS, hk⟩ := u_known (n := n) hts (cls_ok h).1 (hts _ hn)
      exact ⟨cC, iS, fun q' hq' => by cases hq'; exact hk⟩
  obtain ⟨cI, a1, a2⟩ := ty_known (hts _ ac_int)
  obtain ⟨cZ, b1, b2⟩ := ty_known (hts _ ac_boolean)
  obtain ⟨cJ, c1, c2⟩ := ty_known (hts _ ac_long)
  refine ⟨(fun ci => Classical.choose (hc ci), fun ci => Classical.choose (Classical.choose_spec (hc ci))), (cI, cZ, cJ), fun ci q hq => Classical.choose_spec (Classical.choose_spec (hc ci)) q hq, fun k q hq => ?_⟩
  match k, hq with
  | 0, hq => cases hq; exact ⟨a1, a2⟩
  | 1, hq => cases hq; exact ⟨b1, b2⟩
  | 2, hq => cases hq; exact ⟨c1, c2⟩
  | n + 3, hq => simp [qtys] at hq
/-! THE CLAIM OUT OF ONE WALK OF THE LAW'S BODY. Your part is whole_start (and what it stands on); all else here is the same for every law, but numbers. -/
def R_law : String := "BubbleTorusLaw"
def lw_P (b : Addr) (xs : List Int32) (args : Array Value) (s : State) : Prop := args = #[.ref b] ∧ s.IntsAt b xs ∧ xs.length ≤ 3584 ∧ (Jvm.Cond.and given_1 narrow_1).before args s = true
def lw_Q (_ : Array Value) (s : State) (o : Outcome) (t : State) : Prop := o = .returned (some (.int 1)) ∧ Framed s o t [] 600000 7302250
def lw_Z (below : List Frame) (a : Array Value) (s : State) : State → Prop := fun t => ∃ o, t.status = .running ∧ Ended t below o ∧ lw_Q a s o t
/-- the law's own end, with 1 on the stack, nothing written that was there before, its room as the claim has it -/
theorem lw_ret {p : Program} {l : Launch} {e : Env} {s : State} {m : MethodId} {below : List Frame} {meth : Method} {c : Code} {b : Nat} (hx : p.tables.exec = Jvm.exec) (hb : c.code = code) (hr : meth.sig.returnType = ret) (hlocks : meth.locks = false) {pc : Nat} {H : Heap} {ls : Array Slot} (hdg : decode code pc = .ok (.ireturn, 1)) : W p l e room_1 s m #[Value.ref b] below meth c H [] 600000 7302250 (lw_Z below #[Value.ref b] s) (F0 m pc ls [.int 1]) := by
  intro T hT X
  obtain ⟨fs, hret, hrun, hended, hW, hframe⟩ := X.leave (v := some (.int 1)) (hlocks := hlocks) (fun h => by rw [hr] at h; cases h)
  have hmeth' : T.vm.method? m = some meth := X.method'
  refine ⟨T.setFrames fs, ?_, .returned (some (.int 1)), hrun, hended, rfl, ⟨_, rfl⟩, hW, hframe⟩
  jvm_step X.here [X.here.top, hx, hb, hdg, hmeth', hr, ret, narrow_b1]
  (try refine ⟨rfl, ?_⟩); (try refine ⟨rfl, ?_⟩)
  first | (intro acts; rw [hret _ acts rfl rfl rfl]) | rw [hret _ _ rfl rfl rfl]
  exact Steps.refl _
/-- what holds at the law's entry: the machine, the code, the tables' words (any of lw_tbl by 'hts w (by decide +kernel)'), the script of L ints xs at the cell b, what the Statement gives of the start (any of its parts by flat_of_before) -/
def lw_At (p : Program) (s : State) (m : MethodId) (meth : Method) (c : Code) (b L : Nat) (xs : Nat → Int32) : Prop :=
  p.tables.exec = Jvm.exec ∧ c.code = code ∧ meth.sig.returnType = ret ∧ c.maxLocals = 4 ∧ s.vm.findClass R_law = some m.cls ∧ (∀ w ∈ lw_tbl, w.before #[Value.ref b] s = true) ∧ va_X b L xs s s.heap ∧ b < s.heap.size ∧ meth.locks = false ∧ (Jvm.Cond.and given_1 narrow_1).before #[Value.ref b] s = true ∧ meth.name = m_A_law.1.name
-- the machine's start
/-- YOUR PART: from the entry, for every script of at most 3584 ints, the law comes to its end with true ('hflags': the launch's flags, for a law that throws: no stack traces) -/
theorem whole_start {p : Program} {e : Env} {s : State} {m : MethodId} {below : List Frame} {meth : Method} {c : Code} (l : Launch) (hflags : l.flags = flags0) {b L : Nat} {xs : Nat → Int32} (hL : L ≤ 3584) (C0 : lw_At p s m meth c b L xs) : W p l e room_1 s m #[Value.ref b] below meth c s.heap [] 0 0 (lw_Z below #[Value.ref b] s) (entryFrame m ([Value.ref b] : List Value).toArray 4) := by
  obtain ⟨hx, hb, hr, hml, hown, hts, hX, hbl, hlocks, hgv, hnm⟩ := id C0
  have hqT : ∀ w ∈ qT, w.before #[Value.ref b] s = true := fun w hw => hts w (List.mem_filter.mp hw).1
  obtain ⟨D, C, hK⟩ := k_known hqT
  have hN : qNs s := fun q hq => va_Nw.of rfl (hts _ (qNest_in q hq))
  obtain ⟨a, ha, ha1, haG⟩ := law_pure (w0 := qin L xs) (L := (L : Int)) (by omega) (by omega) rfl rfl
  have hg := qin_gd (xs := xs) hL
  have hn0 : qnn (qin L xs) = 0 := rfl
  obtain ⟨⟨m1, m2, -⟩, k2⟩ := s_A_law (qin L xs) a ha hg (fun v hv => by cases hv) (fun v hv => by
    rcases List.mem_cons.mp hv with z | hv
    · cases z; exact Nat.zero_le _
    · rcases List.mem_cons.mp hv with z | hv
      · cases z
      · rcases List.mem_cons.mp hv with z | hv
        · cases z
        · rcases List.mem_cons.mp hv with z | hv
          · cases z
          · cases hv)
  have hn1 : qnn a.2 ≤ 103 := by
    unfold qnn
    rcases haG.1 with ⟨-, z⟩ | ⟨-, -, z, -⟩
    · rw [z]; decide
    · rw [z]; decide
  have hsl : qsl (qnn a.2) ≤ 7302250 := Nat.le_trans (qsl_mono hn1) qsl_103
  have hl := lv_entry ([.ref b]) (n := 4) (Nat.le_of_ble_eq_true rfl)
  rw [lg_entry_eq]
  generalize (lg_sl ([.ref b]) ++ List.replicate (4 - (lg_sl ([.ref b])).length) Slot.unset).toArray = ls at hl ⊢
  have hLr : qLr s.heap.size b 4 ls [some (qR 0), none, none, none] := by
    refine ⟨hl.1, hl.2.1, fun i v hi => ?_⟩
    match i, hi with
    | 0, hi => cases hi; exact hl.2.2 _ (List.mem_cons_self)
    | 1, hi => cases hi
    | 2, hi => cases hi
    | 3, hi => cases hi
    | n + 4, hi => simp at hi
  have hHd : qHd 0 s.heap.size b D C (qin L xs) s s.heap := by
    refine ⟨hg, rfl, hbl, fun k q hq => ?_, ?_, by show (0 : Int) ≤ (L : Int); omega⟩
    · simp [qwl, hn0] at hq
    · obtain ⟨scr, x1, x2, x3, x4, x5⟩ := hX
      refine ⟨scr, x1, x2, x3, by rw [x4]; show L = ((L : Int)).toNat; omega, fun j hj => ?_⟩
      have hj' : j < L := by
        have : j < ((L : Int)).toNat := hj
        omega
      rw [x5 j hj']
      have e : qin L xs 0 (j : Int) = (xs j).toInt := by
        unfold qin
        rw [if_pos rfl, if_neg (by omega), if_neg (by omega), if_pos ⟨by omega, by omega⟩, Int.toNat_natCast]
      show some (Value.int (xs j)) = some (Value.int (Int32.ofInt (qin L xs 0 (j : Int))))
      rw [e, Int32.ofInt_toInt]
  refine k2 s.heap.size b D C p l e room_1 s m #[Value.ref b] below meth c s.heap [] 0 0 ls _ ⟨hx, hb, hml, hown, hqT, hN, hnm, hK⟩ hHd va_S.rf (Nat.le_refl _) rfl ?_ hLr ?_
  · refine ⟨?_, ?_, by decide, by decide⟩
    · show 0 + (qnn a.2 - 0) ≤ 600000
      omega
    · show 0 + (qsl (qnn a.2) - qsl 0) ≤ 7302250
      omega
  · intro H' locs' ls' pc' hH' hS' hdec hrk
    have hst : (κI a).1.toList.map (qV s.heap.size b) = [.int 1] := by
      show [Value.int (Int32.ofInt a.1)] = [.int 1]
      rw [ha1]
      rfl
    rw [hst]
    refine va_forget hS'.2.2 ?_
    refine W.widen (k := 600000) (n := 7302250) ?_ ?_ ?_
    · show 0 + (qnn a.2 - 0) ≤ 600000
      omega
    · show 0 + (qsl (qnn a.2) - qsl 0) ≤ 7302250
      omega
    exact lw_ret hx hb hr hlocks hdec

set_option maxHeartbeats 4000000 in
theorem lw_walk (l : Launch) (hflags : l.flags = flags0) (b : Addr) (xs : List Int32) : MetFree l x (headSpec (Jvm.Cond.code x code maxLocals ret :: tables_1) room_1) (lw_P b xs) (fun _ _ _ _ _ => True) lw_Q := by
  refine MetFree.of_bodyS (code := code) (maxLocals := maxLocals) (ret := ret) (by decide) ?_ ?_
  · intro args s m h hn
    obtain ⟨meth, c, h1, h2, h3, h4, h5, h6, -, -⟩ := Cond.code_spec hn (atoms_spec (ws := Jvm.Cond.code x code maxLocals ret :: tables_1) h _ List.mem_cons_self)
    exact ⟨meth, c, h1, h2, h3, h4, h5, h6⟩
  · intro p e s m args below meth c s₁ B hml0 hP _
    obtain ⟨rfl, hx, hbd, hgv⟩ := hP
    obtain ⟨scr, harrAt, hlist, hof, hsmall⟩ := hx
    obtain ⟨hcb, hkn, -, -⟩ := State.arrayAt?_spec harrAt
    have hown : s.vm.findClass R_law = some m.cls := findClass_of_methodNamed B.named
    have hts0 : ∀ c ∈ (Jvm.Cond.code x code maxLocals ret :: tables_1), c.before #[Value.ref b] s = true := atoms_spec (ws := Jvm.Cond.code x code maxLocals ret :: tables_1) B.pre
    have hts : ∀ w ∈ lw_tbl, w.before #[Value.ref b] s = true := k2_hts_sels lw_privs (fun w hw => hts0 w (List.mem_cons_of_mem _ hw)) lw_privs_ok
    have hml : c.maxLocals = 4 := B.maxLocals_eq (hts0 _ List.mem_cons_self)
    have X₀ : Stand p l e room_1 s m #[Value.ref b] below meth c s₁ [] 0 0 := Stand.of_body B
    have hh0 : s₁.heap = s.heap := by rw [B.state]; rfl
    have hsz : scr.slots.size = xs.length := by rw [← Array.length_toList, hlist, List.length_map]
    have hval : ∀ j : Nat, j < xs.length → scr.slots[j]? = some (.int (xs.getD j 0)) := fun j hj => by
      rw [← Array.getElem?_toList, hlist]
      simp [hj]
    have hbl : b < s.heap.size := (Array.getElem?_eq_some_iff.mp hcb).1
    have hX : va_X b xs.length (fun j => xs.getD j 0) s s.heap := ⟨scr, hcb, hof, hkn, hsz, hval⟩
    have K : W p l e room_1 s m #[Value.ref b] below meth c s₁.heap [] 0 0 (lw_Z below #[Value.ref b] s) (entryFrame m ([Value.ref b] : List Value).toArray 4) := by
      rw [hh0]
      exact whole_start l hflags hbd ⟨B.exec, B.bytes, B.returns, hml, hown, hts, hX, hbl, B.notSynchronized, hgv, (name_of_methodNamed B.named B.method).1⟩
    obtain ⟨t, a1, o, b1, b2, b3⟩ := K s₁ rfl X₀
    exact ⟨t, o, a1, b1, b2, b3⟩
theorem lw_pre_spec {args : Array Value} {s : State} (h : (Jvm.Cond.and given_1 narrow_1).before args s = true) (hr : rest_1_c.before args s = true) : ∃ (b : Addr) (xs : List Int32), lw_P b xs args s := by
  have hs := flat_of_before _ h
  have hq := flat_of_before _ hr
  have hc : (Cond.count 1).before args s = true := hs _ (by decide +kernel)
  have harr : (Cond.arrayOf (.arg 0) .int).before args s = true := hs _ (by decide +kernel)
  have hle : (Cond.le (.length (.arg 0)) (.int 3584)).before args s = true := hs _ (by decide +kernel)
  have hlen : (Cond.isInt (.length (.arg 0))).before args s = true := hq _ (by decide +kernel)
  have hall : (Cond.all (.arg 0) (.isInt (.elem (.arg 0) (.index 0)))).before args s = true := hq _ (by decide +kernel)
  obtain ⟨b, xs, hb, hx⟩ := State.ints_of_pre rfl harr hlen hall
  have hsm : xs.length < 2 ^ 31 := hx.choose_spec.2.2.2
  have hev : (Term.length (.arg 0)).eval args s none [] s = some (.int xs.length.toInt32) := hx.length_eval hb
  have hv := Cond.le_ints hev (show (Term.int 3584).eval args s none [] s = some (.int 3584) from rfl)
  have hd : xs.length.toInt32 ≤ 3584 := by
    simpa [Cond.before, Cond.holds, hv] using hle
  have hN : xs.length ≤ 3584 := (Int32.ofNat_le_ofNat hsm (by decide)).mp (show Int32.ofNat xs.length ≤ Int32.ofNat 3584 from hd)
  exact ⟨b, xs, Cond.one_arg hc (show args[0]? = some (.ref b) from hb), hx, hN, h⟩
theorem lw_comes (l : Launch) (hflags : l.flags = flags0) : Comes l x (Jvm.Cond.code x code maxLocals ret :: tables_1) room_1 (fun tb e args s => Calls_1 tb e args s ∧ rest_1 tb e args s ∧ Pre_1 tb e args s)
    (fun _ _ args s o t => lw_Q args s o t) := by
  intro p e ha hc hk s m args below hf hfit hheap happ hpre
  obtain ⟨b, xs, hP⟩ := lw_pre_spec hpre.2.2 hpre.2.1
  obtain ⟨k, o, h1, h2, h3, hQ⟩ := lw_walk l hflags b xs p e ha hc hk s m args below hf ((Spec.applies_iff_loose hf).mp happ).1 hP trivial
  exact ⟨k, o, h1, h2, h3, hQ⟩
theorem lw_frame {s t : State} {o : Outcome} {args : Array Value} (h : Framed s o t [] 600000 7302250) :
    Framed s o t (fieldLocs frame_1_writes args s ++ arrayLocs frame_1_arrays args s ++ staticLocs frame_1_statics s) 600000 7302250 := h
theorem lw_limb (L : Cond) (hL : ∀ (args : Array Value) (s t : State), L.after args s (.returned (some (.int 1))) t = true) :
    ArmFor flags0 classFile x code maxLocals ret World_1 tables_1 room_1 Calls_1 rest_1 Pre_1
      (fun tb e a s o t => postC L tb e a s o t ∧ Framed s o t (fieldLocs frame_1_writes a s ++ arrayLocs frame_1_arrays a s ++ staticLocs frame_1_statics s) 600000 7302250) := by
  intro l hflags _ _ p e ha hc hk s m args below hf hfit hheap happ hpre
  obtain ⟨k, o, h1, h2, h3, rfl, hF⟩ := lw_comes l hflags p e ha hc hk s m args below hf hfit hheap happ hpre
  exact ⟨k, _, h1, h2, h3, hL args s _, lw_frame hF⟩
theorem i_vc : Claimed_1_1 ∧ Claimed_1_2 := ⟨lw_limb limb_1_1 (fun args s t => by simp [limb_1_1, Cond.after, Cond.holds, Cond.value]), lw_limb limb_1_2 (fun args s t => Cond.after_iff.mpr (by
  first | (rw [show limb_1_2 = Cond.eq .result (.int 1) from rfl, Cond.eq_ints (x := 1) (y := 1) rfl rfl]; simp; done) | (simp [limb_1_2, Cond.value, Term.eval]; done)))⟩
