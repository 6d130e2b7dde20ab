/-! new cells -/
def qal (w : qMem) : qMem := fun k j => if k = qnn w + 1 then 0 else if k = 0 ∧ j = -2 then w 0 (-2) + 1 else w k j
def qnw {α : Type} (w : qMem) (o : Nat) (K : qMem → Option α) : Option α := if w 0 (-2) + 1 = (o : Int) then K (qal w) else none
theorem qal_0 (w : qMem) : qal w 0 (-2) = w 0 (-2) + 1 := by
  unfold qal
  rw [if_neg (by omega), if_pos ⟨rfl, rfl⟩]
theorem qal_s (w : qMem) {j : Int} (h : j ≠ -2) : qal w 0 j = w 0 j := by
  unfold qal
  rw [if_neg (by omega), if_neg (fun q => h q.2)]
theorem qal_k (w : qMem) {k : Nat} (h : k ≠ qnn w + 1) (h0 : k ≠ 0) (j : Int) : qal w k j = w k j := by
  unfold qal
  rw [if_neg h, if_neg (fun q => h0 q.1)]
theorem qal_n (w : qMem) (j : Int) : qal w (qnn w + 1) j = 0 := by
  unfold qal
  rw [if_pos rfl]
theorem qal_nn {w : qMem} (h : 0 ≤ w 0 (-2)) : qnn (qal w) = qnn w + 1 := by
  unfold qnn
  rw [qal_0]
  omega
theorem qwl_al {sz b : Nat} {C : ClassId × ClassId × ClassId} {w : qMem} (h : 0 ≤ w 0 (-2)) : qwl sz b C (qal w) = qwl sz b C w ++ [(sz + qnn w, qcel sz b C (qal w) (qnn w + 1))] := by
  unfold qwl
  rw [qal_nn h, List.range_succ, List.map_append]
  congr 1
  apply List.map_congr_left
  intro i hi
  have := List.mem_range.mp hi
  rw [qcel_ext fun j => qal_k w (by omega) (by omega) j]
section ZF
variable {α : Type} {κ : α → Option qPV × qMem} {ph ph2 : Nat} {M : qMI} {pc : Nat} {st : List qPV} {pls pls' : List (Option qPV)} {w : qMem} {F F1 F2 : Option α} {x y z n off : Int} {tgt : Nat}
theorem z_alloc {pc2 o : Nat} {stk : List qPV} (hst : ∀ v ∈ st, v ∈ stk) (k : qSim κ ph ph2 M pc2 (qR o :: st) pls (qal w) F) (ho : w 0 (-2) + 1 = (o : Int)) (ho2 : o < 104) (htm : (∀ j, j < 26 → ph < qtm o j) ∨ (qlay o).1 < 3)
    (hW : ∀ (sz b : Nat) (D : va_G) (C : ClassId × ClassId × ClassId) (p : Program) (l : Launch) (e : Env) (R : Room) (s : State) (m : MethodId) (args : Array Value) (below : List Frame) (meth : Method) (c : Code) (H : Heap) (locs : List Loc) (cells slots : Nat) (ls : Array Slot) (Q : State → Prop),
      qCx M D C p c m meth args s → qHd ph sz b D C w s H → (∀ v ∈ stk, qOk w v) → va_D (fun q => sz ≤ q) (qwl sz b C w) → va_S (fun q => sz ≤ q) H H locs → (∀ q, H.size ≤ q → sz ≤ q) → cells + 1 ≤ R.cells → slots + (qlay o).2 ≤ R.slots →
      (∀ (q : Nat) (E : va_E) (H1 : Heap), E = qcel sz b C (qal w) o → va_P D vwCl (qwl sz b C w ++ [(q, E)]) H1 → va_D (fun q => sz ≤ q) (qwl sz b C w ++ [(q, E)]) → va_S (fun q => sz ≤ q) H H1 locs → W p l e R s m args below meth c H1 locs (cells + 1) (slots + (qlay o).2) Q (F0 m pc2 ls (.ref q :: st.map (qV sz b)))) →
      W p l e R s m args below meth c H locs cells slots Q (F0 m pc ls (stk.map (qV sz b)))) : qSim κ ph ph2 M pc stk pls w F := by
  intro a ha hg hs hp
  have hnn := qal_nn hg.2.2.2
  have hoo : o = qnn w + 1 := by
    have := hg.2.2.2
    unfold qnn; omega
  have hg2 : qGd ph (qal w) := by
    refine ⟨fun k' j => ?_, fun k' j h3 hl hf => ?_, fun k' j ht h3 hl hf => ?_, by rw [qal_0]; have := hg.2.2.2; omega⟩
    · by_cases h1 : k' = qnn w + 1
      · subst h1
        rw [qal_n]
        unfold qA qB
        split
        · omega
        · split <;> omega
      · by_cases h2 : k' = 0
        · subst h2
          rw [if_neg (by decide), if_neg (by decide)]
          by_cases h3 : j = -2
          · subst h3
            rw [qal_0, ho]
            unfold qA; omega
          · rw [qal_s w h3]
            have := hg.1 0 j
            rw [if_neg (by decide), if_neg (by decide)] at this
            exact this
        · rw [qal_k w h1 h2]
          exact hg.1 k' j
    · rw [qal_0]
      by_cases h1 : k' = qnn w + 1
      · subst h1
        rw [qal_n]
        have := hg.2.2.2; omega
      · by_cases h2 : k' = 0
        · subst h2
          rw [qal_s w (by omega)]
          have := hg.2.1 0 j h3 hl hf
          omega
        · rw [qal_k w h1 h2]
          have := hg.2.1 k' j h3 hl hf
          omega
    · by_cases h1 : k' = qnn w + 1
      · subst h1
        rw [← hoo] at ht h3 hl
        have h26 := qlay_few o ho2 h3
        rcases htm with h | h
        · have := h j (by omega); omega
        · omega
      · by_cases h2 : k' = 0
        · subst h2
          exact absurd hl (Nat.not_lt_zero _)
        · rw [qal_k w h1 h2]
          exact hg.2.2.1 k' j ht h3 hl hf
  have hm : qnn w ≤ qnn (qal w) := by omega
  obtain ⟨⟨m1, m2⟩, k2⟩ := k a ha hg2 (fun v hv => by
    rcases List.mem_cons.mp hv with rfl | h
    · show o ≤ qnn (qal w); omega
    · exact qOk_mono hm (hs v (hst v h))) (fun v hv => qOk_mono hm (hp v hv))
  refine ⟨⟨by omega, m2⟩, fun sz b D C p l e R s m args below meth c H locs cells slots ls Q hC hH hS hz hn hR hL hret => ?_⟩
  obtain ⟨R1, R2, R3, R4⟩ := hR
  have s2 := qsl_mono m1
  have s1 : qsl (qnn (qal w)) = qsl (qnn w) + (qlay o).2 := by rw [hnn, hoo]; rfl
  have hsz := hH.2.1
  refine hW sz b D C p l e R s m args below meth c H locs cells slots ls Q hC hH hs qwl_D ⟨Nat.le_refl _, fun _ _ _ => rfl, hS.2.2⟩ (fun q hq => by omega) (by omega) (by omega) fun q E H1 hE hP1 hD1 hS1 => ?_
  refine W_sz fun hsz1 => ?_
  have hlen : (qwl sz b C w).length = qnn w := by simp [qwl]
  have hq0 : (qwl sz b C w ++ [(q, E)])[qnn w]? = some (q, E) := by
    rw [List.getElem?_append_right (by omega), hlen, Nat.sub_self]; rfl
  have hqlt : q < H1.size := (hP1 _ _ hq0).lt
  have hqge : sz ≤ q := hD1.2 _ _ hq0
  have hqne : ¬ q < sz + qnn w := by
    intro hlt
    have hi : q - sz < qnn w := by omega
    have := hD1.1 (q - sz) (qnn w) (sz + (q - sz), qcel sz b C w (q - sz + 1)) (q, E) (by rw [List.getElem?_append_left (by omega), qwl_get hi]) hq0 (by show sz + (q - sz) = q; omega)
    omega
  have hq : q = sz + qnn w := by omega
  subst hq
  have hb : H1[b]? = H[b]? := hS1.2.1 b (by have := hH.2.2.1; omega) (by have := hH.2.2.1; omega)
  have hH1 : qHd ph sz b D C (qal w) s H1 := by
    refine ⟨hg2, by omega, hH.2.2.1, ?_, ?_, by rw [qal_s w (by omega)]; exact hH.2.2.2.2.2⟩
    · rw [qwl_al hg.2.2.2, ← hoo, ← hE]
      exact hP1
    · have e : (fun j : Nat => Int32.ofInt (qal w 0 j)) = fun j : Nat => Int32.ofInt (w 0 j) := funext fun j => by rw [qal_s w (by omega)]
      rw [e, qal_s w (by omega)]
      exact hH.2.2.2.2.1.kept hb
  have g := k2 sz b D C p l e R s m args below meth c H1 locs (cells + 1) (slots + (qlay o).2) ls Q hC hH1 (va_S_trans hS hS1) hz (by omega) ⟨by omega, by omega, R3, R4⟩ hL
    (fun H' locs' ls' pc' h2 h3 h4 h5 => by
      have g := hret H' locs' ls' pc' h2 h3 h4 h5
      rw [show cells + 1 + (qnn (κ a).2 - qnn (qal w)) = cells + (qnn (κ a).2 - qnn w) by omega,
        show slots + (qlay o).2 + (qsl (qnn (κ a).2) - qsl (qnn (qal w))) = slots + (qsl (qnn (κ a).2) - qsl (qnn w)) by omega]
      exact g)
  rw [List.map_cons, show qV sz b (qR o) = .ref (sz + qnn w) by rw [hoo]; rfl] at g
  exact g
theorem qlay_lt {o kd N : Nat} (h : qlay o = (kd, N)) (hk : kd ≠ 99) : o < 104 := by
  by_cases hb : o < 104
  · exact hb
  · rw [qlay_big (by omega)] at h
    cases h
    exact absurd rfl hk
theorem qty_tab : ∀ c, c < 11 → ∀ j, j < 26 → j < ((vwCl[c]?).map fun q => q.2.2).getD 0 → defaultValue (qty c j) = if qfk c j < 2 then Value.int 0 else Value.null := by decide +kernel
theorem vwCl_26 : ∀ c, c < 11 → ((vwCl[c]?).map fun q => q.2.2).getD 0 ≤ 26 := by decide +kernel
theorem qinv_ok : ∀ k, k < 104 → ∀ j, j < 26 → qtm k j < 999 → qinv (qtm k j) = (k, j) := by decide +kernel
theorem z_new {ci o idx : Nat} {q : vw_C} {K : qMem → Option α} (hd : decode M.2.1 pc = .ok (.new idx, 3)) (hci : vwCl[ci]? = some q) (hcl : Cond.classLink M.1.cls idx q.1 ∈ qT) (hins : Cond.instantiable q.1 q.2.2 ∈ qT) (hini : Cond.initialized q.1 ∈ qT) (ho : qlay o = (ci + 3, q.2.2)) (hph : ∀ j, j < 26 → ph < qtm o j)
    (k : w 0 (-2) + 1 = (o : Int) → qSim κ ph ph2 M (pc + 3) (qR o :: st) pls (qal w) (K (qal w))) : qSim κ ph ph2 M pc st pls w (qnw w o K) := by
  unfold qnw
  refine z_if (fun h => ?_) (fun _ => z_none)
  have hc11 := vwCl_lt hci
  refine z_alloc (fun v hv => hv) (k h) h (qlay_lt ho (by omega)) (Or.inl hph) (fun sz b D C p l e R s m args below meth c H locs cells slots ls Q hC hH hs hD hS hA hc hsl kk => ?_)
  obtain ⟨hx, hb, hml, hown, hts, hN, hnm, hK⟩ := hC
  have hh : (qlay o).2 = q.2.2 := by rw [ho]
  have ho1 : (qlay o).1 = ci + 3 := by rw [ho]
  rw [hh] at hsl kk
  have hoo : o = qnn w + 1 := by
    have := hH.1.2.2.2
    unfold qnn; omega
  refine va_new hx hb hts (cls_ok hci).1 (qty ci) (cls_ok hci).2.1 hown (hts _ hcl) (hts _ hins) (hts _ hini) hK hH.2.2.2.1 hD hS hA hci (fs := (List.range q.2.2).map (qfv sz b (qal w) o ci)) (fun j hj => ?_) hc hsl hd fun q' H1 hP1 hD1 hS1 => kk q' _ H1 ?_ hP1 hD1 hS1
  · have h26 := vwCl_26 ci hc11
    have ht := qty_tab ci hc11
    rw [hci] at h26 ht
    have := ht j (by have : q.2.2 ≤ 26 := h26; omega) hj
    rw [this]
    unfold vp_V
    rw [List.getD_eq_getElem?_getD, List.getElem?_map, List.getElem?_range hj]
    show _ = qfv sz b (qal w) o ci j
    unfold qfv
    rw [hoo, qal_n]
    rfl
  · rw [qcel_obj ho1, hh]
theorem q_cA {D : va_G} {C : ClassId × ClassId × ClassId} {s : State} {cA c0 : ClassId} {ty : FieldType} {t0 : Nat} (hK : va_K D vwCl (qtys C) s) (h0 : (qtys C)[t0]? = some (c0, ty)) (hp : refKind ty = false) (h1 : va_K D vwCl (qtys C ++ [(cA, ty)]) s) : cA = c0 := by
  have a1 := (hK.2 t0 _ h0).2
  have a2 := (h1.2 3 (cA, ty) rfl).2
  unfold va_RA at a1 a2
  cases ty with
  | object n => cases hp
  | array t => cases hp
  | _ => exact Option.some.inj (a2.symm.trans a1)
theorem z_newa_int {o N : Nat} {Ni : Int} {K : qMem → Option α} (hd : decode M.2.1 pc = .ok (.newarray .int, 2)) (ho : qlay o = (0, N)) (hN : (N : Int) = Ni) (hb : N ≤ 100000000)
    (k : w 0 (-2) + 1 = (o : Int) → qSim κ ph ph2 M (pc + 2) (qR o :: st) pls (qal w) (K (qal w))) : qSim κ ph ph2 M pc (qI Ni :: st) pls w (qnw w o K) := by
  subst hN
  unfold qnw
  refine z_if (fun h => ?_) (fun _ => z_none)
  refine z_alloc (fun v hv => List.mem_cons_of_mem _ hv) (k h) h (qlay_lt ho (by omega)) (Or.inr (by simp [ho])) (fun sz b D C p l e R s m args below meth c H locs cells slots ls Q hC hH hs hD hS hA hc hsl kk => ?_)
  obtain ⟨hx, hb', hml, hown, hts, hN, hnm, hK⟩ := hC
  have hh : (qlay o).2 = N := by rw [ho]
  have ho1 : (qlay o).1 = 0 := by rw [ho]
  rw [hh] at hsl kk
  have hAN : qA (N : Int) := hs _ List.mem_cons_self
  have hoo : o = qnn w + 1 := by
    have := hH.1.2.2.2
    unfold qnn; omega
  refine va_newa (atype := .int) (ty := .int) (a0 := (N, .inl fun _ => 0)) hx hb' (hts _ ac_int) rfl hK hH.2.2.2.1 hD hS hA (fun cA => rfl) (fun q => by have := (of_lt hAN qA_0).mp q; omega) (by rw [of_nat hAN]; omega) (by show N * 4 ≤ _; omega) hc hsl hd fun q' cA H1 hK1 hP1 hD1 hS1 => kk q' _ H1 ?_ hP1 hD1 hS1
  rw [q_cA (t0 := 0) hK rfl rfl hK1, qcel_int ho1, hh, hoo]
  congr 4
  funext j
  rw [qal_n]
  rfl
theorem z_newa_boo {o N : Nat} {Ni : Int} {K : qMem → Option α} (hd : decode M.2.1 pc = .ok (.newarray .boolean, 2)) (ho : qlay o = (1, N)) (hN : (N : Int) = Ni) (hb : N ≤ 100000000)
    (k : w 0 (-2) + 1 = (o : Int) → qSim κ ph ph2 M (pc + 2) (qR o :: st) pls (qal w) (K (qal w))) : qSim κ ph ph2 M pc (qI Ni :: st) pls w (qnw w o K) := by
  subst hN
  unfold qnw
  refine z_if (fun h => ?_) (fun _ => z_none)
  refine z_alloc (fun v hv => List.mem_cons_of_mem _ hv) (k h) h (qlay_lt ho (by omega)) (Or.inr (by simp [ho])) (fun sz b D C p l e R s m args below meth c H locs cells slots ls Q hC hH hs hD hS hA hc hsl kk => ?_)
  obtain ⟨hx, hb', hml, hown, hts, hN, hnm, hK⟩ := hC
  have hh : (qlay o).2 = N := by rw [ho]
  have ho1 : (qlay o).1 = 1 := by rw [ho]
  rw [hh] at hsl kk
  have hAN : qA (N : Int) := hs _ List.mem_cons_self
  have hoo : o = qnn w + 1 := by
    have := hH.1.2.2.2
    unfold qnn; omega
  refine va_newa (atype := .boolean) (ty := .boolean) (a0 := (N, .inl fun _ => 0)) hx hb' (hts _ ac_boolean) rfl hK hH.2.2.2.1 hD hS hA (fun cA => rfl) (fun q => by have := (of_lt hAN qA_0).mp q; omega) (by rw [of_nat hAN]; omega) (by show N * 1 ≤ _; omega) hc hsl hd fun q' cA H1 hK1 hP1 hD1 hS1 => kk q' _ H1 ?_ hP1 hD1 hS1
  rw [q_cA (t0 := 1) hK rfl rfl hK1, qcel_boo ho1, hh, hoo]
  congr 4
  funext j
  rw [qal_n]
  rfl
theorem z_newa_lon {o N : Nat} {Ni : Int} {K : qMem → Option α} (hd : decode M.2.1 pc = .ok (.newarray .long, 2)) (ho : qlay o = (2, N)) (hN : (N : Int) = Ni) (hb : N ≤ 60000000)
    (k : w 0 (-2) + 1 = (o : Int) → qSim κ ph ph2 M (pc + 2) (qR o :: st) pls (qal w) (K (qal w))) : qSim κ ph ph2 M pc (qI Ni :: st) pls w (qnw w o K) := by
  subst hN
  unfold qnw
  refine z_if (fun h => ?_) (fun _ => z_none)
  refine z_alloc (fun v hv => List.mem_cons_of_mem _ hv) (k h) h (qlay_lt ho (by omega)) (Or.inr (by simp [ho])) (fun sz b D C p l e R s m args below meth c H locs cells slots ls Q hC hH hs hD hS hA hc hsl kk => ?_)
  obtain ⟨hx, hb', hml, hown, hts, hN, hnm, hK⟩ := hC
  have hh : (qlay o).2 = N := by rw [ho]
  have ho1 : (qlay o).1 = 2 := by rw [ho]
  rw [hh] at hsl kk
  have hAN : qA (N : Int) := hs _ List.mem_cons_self
  have hoo : o = qnn w + 1 := by
    have := hH.1.2.2.2
    unfold qnn; omega
  refine va_newa (atype := .long) (ty := .long) (a0 := (N, .inr (.inl fun _ => 0))) hx hb' (hts _ ac_long) rfl hK hH.2.2.2.1 hD hS hA (fun cA => rfl) (fun q => by have := (of_lt hAN qA_0).mp q; omega) (by rw [of_nat hAN]; omega) (by show N * 8 ≤ _; omega) hc hsl hd fun q' cA H1 hK1 hP1 hD1 hS1 => kk q' _ H1 ?_ hP1 hD1 hS1
  rw [q_cA (t0 := 2) hK rfl rfl hK1, qcel_lon ho1, hh, hoo]
  congr 5
  funext j
  rw [qal_n]
  rfl
theorem q_nar_r {ty : FieldType} {sz b d : Nat} (h : (∃ n, ty = .object n) ∨ ∃ t, ty = .array t) : narrow ty (qV sz b (qR d)) = qV sz b (qR d) ∧ fits ty (qV sz b (qR d)) = true := by
  rcases h with ⟨n, rfl⟩ | ⟨t, rfl⟩ <;> exact ⟨rfl, rfl⟩
theorem q_nar_n {ty : FieldType} {sz b : Nat} (h : (∃ n, ty = .object n) ∨ ∃ t, ty = .array t) : narrow ty (qV sz b qN) = qV sz b qN ∧ fits ty (qV sz b qN) = true := by
  rcases h with ⟨n, rfl⟩ | ⟨t, rfl⟩ <;> exact ⟨rfl, rfl⟩
/-- a final reference, in the constructor: it is set from now on -/
theorem z_putFr {ci j o d idx : Nat} {ji : Int} {q : vw_C} {ty : FieldType} (hd : decode M.2.1 pc = .ok (.putfield idx, 3)) (hc : vwCl[ci]? = some q) (hl : Cond.fieldLink M.1.cls idx q.1 (q.2.1 j).2.1 (q.2.1 j).2.2.1 ∈ qT) (ho : qlay o = (ci + 3, q.2.2)) (hj : j < q.2.2) (hji : (j : Int) = ji)
    (hfin : (q.2.1 j).2.2.2 = true) (hown2 : q.1 = M.1.cls) (hnm2 : M.1.name = "<init>") (hty : parseFieldDescriptor (q.2.1 j).2.2.1 = some ty) (hty2 : (∃ n, ty = .object n) ∨ ∃ t, ty = .array t) (hf : qfk ci j = 2) (hd0 : 0 < d) (hinv : qinv (ph + 1) = (o, j)) (hph : ph + 1 < 999) (hph2 : qtm o j = ph + 1) (hof : o + qof ci j = d)
    (k : qSim κ (ph + 1) ph2 M (pc + 3) st pls (qud w o ji (d : Int)) F) : qSim κ ph ph2 M pc (qR d :: qR o :: st) pls w F := by
  subst hji
  have hci := vwCl_lt hc
  have ho1 : (qlay o).1 = ci + 3 := by rw [ho]
  have ho4 : o < 104 := qlay_lt ho (by omega)
  obtain ⟨i0, rfl⟩ := q_pos (k := o) (by omega)
  intro a ha hg hs hp
  have hdn : d ≤ qnn w := hs (qR d) List.mem_cons_self
  have hw0 := hg.2.2.2
  have hdA : (d : Int) ≤ w 0 (-2) := by unfold qnn at hdn; omega
  have hAd : qA (d : Int) := by
    have h3 := hg.1 0 (-2)
    rw [if_neg (by decide), if_neg (by decide)] at h3
    unfold qA at h3 ⊢
    omega
  have h0 : ∀ t, qud w (i0 + 1) j (d : Int) 0 t = w 0 t := fun t => qud_k _ (by omega) _ _ _
  have hdf : ∀ k', k' ≠ i0 + 1 → ∀ t, qud w (i0 + 1) j (d : Int) k' t = w k' t := fun k' hk t => qud_k _ hk _ _ _
  have hnn : qnn (qud w (i0 + 1) j (d : Int)) = qnn w := by unfold qnn; rw [h0]
  have hg2 : qGd (ph + 1) (qud w (i0 + 1) j (d : Int)) := by
    refine ⟨fun k' t => ?_, fun k' t h3 hl hf9 => ?_, fun k' t ht h3 hl hf9 => ?_, by rw [h0]; exact hg.2.2.2⟩
    · by_cases hk : k' = i0 + 1
      · subst hk
        rw [if_neg (by omega), if_neg (by omega), qud_i]
        by_cases ht : t = (j : Int)
        · rw [if_pos ht]; exact hAd
        · rw [if_neg ht]
          have h3 := hg.1 (i0 + 1) t
          rw [if_neg (by omega), if_neg (by omega)] at h3
          exact h3
      · rw [hdf k' hk]; exact hg.1 k' t
    · by_cases hk : k' = i0 + 1
      · subst hk
        rw [h0, qud_i]
        by_cases ht : t = j
        · subst ht
          rw [if_pos rfl]; exact hdA
        · rw [if_neg (by omega)]; exact hg.2.1 (i0 + 1) t h3 hl hf9
      · rw [hdf k' hk, h0]; exact hg.2.1 k' t h3 hl hf9
    · have hk4 : k' < 104 := by
        by_cases hb : k' < 104
        · exact hb
        · rw [qlay_big (by omega)] at hl
          exact absurd hl (Nat.not_lt_zero _)
      have h26 := qlay_few k' hk4 h3
      by_cases he : qtm k' t = ph + 1
      · have := qinv_ok k' hk4 t (by omega) (by omega)
        rw [he, hinv] at this
        have e1 : i0 + 1 = k' := congrArg Prod.fst this
        have e2 : j = t := congrArg Prod.snd this
        subst e1
        subst e2
        rw [qud_i, if_pos rfl, ho1, Nat.add_sub_cancel, hof]
      · have h := hg.2.2.1 k' t (by omega) h3 hl hf9
        by_cases hk : k' = i0 + 1
        · subst hk
          rw [qud_i]
          by_cases ht2 : t = j
          · subst ht2; exact absurd hph2 he
          · rw [if_neg (by omega)]; exact h
        · rw [hdf k' hk]; exact h
  have hok2 : ∀ v, qOk w v → qOk (qud w (i0 + 1) j (d : Int)) v := fun v hv => qOk_mono (Nat.le_of_eq hnn.symm) hv
  obtain ⟨k1, k2⟩ := k a ha hg2 (fun v hv => hok2 v (hs v (List.mem_cons_of_mem _ (List.mem_cons_of_mem _ hv)))) (fun v hv => hok2 v (hp v hv))
  rw [hnn] at k1
  refine ⟨k1, fun sz b D C p l e R s m args below meth c H locs cells slots ls Q hC hH hS hz hn hR hL hret => ?_⟩
  obtain ⟨hx, hb, hml, hown, hts, hN, hnm, hK⟩ := id hC
  have hi : i0 < qnn w := hs (qR (i0 + 1)) (List.mem_cons_of_mem _ List.mem_cons_self)
  have ok := cls_ok hc
  have n12 := q_nar_r (sz := sz) (b := b) (d := d) hty2
  have n3 : qfv sz b (qud w (i0 + 1) j (d : Int)) (i0 + 1) ci j = qV sz b (qR d) := by
    have e1 : ¬ (d : Int) ≤ 0 := by omega
    simp [qfv, hf, qud_i, qrv, e1, qV]
    omega
  refine va_putF hx hb hts ok.1 (qty ci) ok.2.1 ok.2.2 hown hK hH.2.2.2.1 qwl_D (H0 := H) (A := fun q => sz ≤ q) ⟨Nat.le_refl _, fun _ _ _ => rfl, hS.2.2⟩ i0 (a := sz + i0) (by rw [qwl_get hi, qcel_obj ho1]) hc j hj (hts _ hl) (fun x hx => by rw [cls_own hc j] at hx; exact hx) hfin (hnm.trans hnm2) ((cls_own hc j).trans hown2) hty n12.1 n12.2 (by simp [ho]; exact hj) hd fun H1 locs1 hP1 _ hS1 => ?_
  refine W_sz fun hsz => ?_
  have hsize : H1.size = sz + qnn (qud w (i0 + 1) j (d : Int)) := by
    have a1 := hS1.1
    have a2 := hH.2.1
    omega
  have hbb : H1[b]? = H[b]? := hS1.2.1 b (by have := hH.2.1; have := hH.2.2.1; omega) (by have := hH.2.2.1; omega)
  have hH1 : qHd (ph + 1) sz b D C (qud w (i0 + 1) j (d : Int)) s H1 := by
    refine ⟨hg2, hsize, hH.2.2.1, ?_, ?_, by rw [h0]; exact hH.2.2.2.2.2⟩
    · rw [← qcel_fud ho1 (by rw [ho]; exact hj) n3, qwl_set hnn (fun k' hk t _ => hdf k' hk t)] at hP1
      exact hP1
    · have e : (fun t : Nat => Int32.ofInt (qud w (i0 + 1) j (d : Int) 0 t)) = fun t : Nat => Int32.ofInt (w 0 t) := funext fun t => by rw [h0]
      rw [e, h0]
      exact hH.2.2.2.2.1.kept hbb
  refine k2 sz b D C p l e R s m args below meth c H1 locs1 cells slots ls Q hC hH1 (va_S_trans hS hS1) hz (by rw [hnn]; exact hn) ?_ hL ?_
  · unfold qRm at hR ⊢
    rw [hnn]
    exact hR
  · rw [hnn]
    exact hret
theorem z_putn {ci j o idx : Nat} {ji : Int} {q : vw_C} {ty : FieldType} (hd : decode M.2.1 pc = .ok (.putfield idx, 3)) (hc : vwCl[ci]? = some q) (hl : Cond.fieldLink M.1.cls idx q.1 (q.2.1 j).2.1 (q.2.1 j).2.2.1 ∈ qT) (ho : qlay o = (ci + 3, q.2.2)) (hj : j < q.2.2) (hji : (j : Int) = ji)
    (hfin : (q.2.1 j).2.2.2 = false) (hty : parseFieldDescriptor (q.2.1 j).2.2.1 = some ty) (hty2 : (∃ n, ty = .object n) ∨ ∃ t, ty = .array t) (hf : qfk ci j = 2) (hph : ph < qtm o j)
    (k : qSim κ ph ph2 M (pc + 3) st pls (qud w o ji 0) F) : qSim κ ph ph2 M pc (qN :: qR o :: st) pls w F :=
  z_put hd hc hl ho hj hji hfin hty (fun sz b h => ⟨(q_nar_n hty2).1, (q_nar_n hty2).2, by simp [qfv, hf, qud_i, qrv, qV]⟩) (fun _ => qA_0) (fun _ h0 _ => ⟨h0, hph⟩) k
theorem z_putd {ci j o d idx : Nat} {ji : Int} {q : vw_C} {ty : FieldType} (hd : decode M.2.1 pc = .ok (.putfield idx, 3)) (hc : vwCl[ci]? = some q) (hl : Cond.fieldLink M.1.cls idx q.1 (q.2.1 j).2.1 (q.2.1 j).2.2.1 ∈ qT) (ho : qlay o = (ci + 3, q.2.2)) (hj : j < q.2.2) (hji : (j : Int) = ji)
    (hfin : (q.2.1 j).2.2.2 = false) (hty : parseFieldDescriptor (q.2.1 j).2.2.1 = some ty) (hty2 : (∃ n, ty = .object n) ∨ ∃ t, ty = .array t) (hf : qfk ci j = 2) (hph : ph < qtm o j) (hd0 : 0 < d) (hd1 : d < 2147483648)
    (k : qSim κ ph ph2 M (pc + 3) st pls (qud w o ji (d : Int)) F) : qSim κ ph ph2 M pc (qR d :: qR o :: st) pls w F :=
  z_put hd hc hl ho hj hji hfin hty (fun sz b h => ⟨(q_nar_r hty2).1, (q_nar_r hty2).2, by
      have e1 : ¬ (d : Int) ≤ 0 := by omega
      simp [qfv, hf, qud_i, qrv, e1, qV]
      omega⟩) (fun _ => qA_nat hd1) (fun h _ _ => ⟨by
      have : d ≤ qnn w := h
      unfold qnn at this
      omega, hph⟩) k
end ZF
