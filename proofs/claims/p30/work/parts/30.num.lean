/-! the pure layer: numbers, loads, stores, triples -/
theorem w32_ok {z : Int} (h0 : -2147483648 ≤ z) (h1 : z < 2147483648) : w32 z = z := w32_id ⟨h0, h1⟩
theorem jdiv_w32 {x y : Int} (hx : qA x) (hy : qA y) : jdiv x y = w32 (x.tdiv y) := by
  unfold jdiv
  rw [Int32.toInt_div, of_toInt hx, of_toInt hy, w32_bmod]
theorem jdiv_ok {x y : Int} (hx : 0 ≤ x) (hx1 : x < 2147483648) (hy : 0 < y) (hy1 : y < 2147483648) : jdiv x y = x / y := by
  rw [jdiv_w32 ⟨by omega, by omega⟩ ⟨by omega, by omega⟩, Int.tdiv_eq_ediv_of_nonneg hx]
  have h0 : 0 ≤ x / y := Int.ediv_nonneg hx (by omega)
  have h1 : x / y ≤ x := Int.ediv_le_self y hx
  exact w32_ok (by omega) (by omega)
theorem jrem_ok {x y : Int} (hx : 0 ≤ x) (hx1 : x < 2147483648) (hy : 0 < y) (hy1 : y < 2147483648) : jrem x y = x % y := by
  have e : Int32.ofInt x / Int32.ofInt y = Int32.ofInt (x / y) := by
    apply Int32.toInt_inj.mp
    have := jdiv_ok hx hx1 hy hy1
    unfold jdiv at this
    have h0 : 0 ≤ x / y := Int.ediv_nonneg hx (by omega)
    have h1 : x / y ≤ x := Int.ediv_le_self y hx
    rw [this, of_toInt ⟨by omega, by omega⟩]
  have m0 := Int.emod_nonneg x (b := y) (by omega)
  have m1 := Int.emod_lt_of_pos x (b := y) hy
  unfold jrem
  rw [e, ← of_mul, ← of_sub, of_toInt (w32_in _)]
  have e2 : x - x / y * y = x % y := by rw [Int.emod_def, Int.mul_comm y]
  have h0 : 0 ≤ x / y := Int.ediv_nonneg hx (by omega)
  have h2 : x / y * y ≤ x := Int.ediv_mul_le x (by omega)
  have h3 : 0 ≤ x / y * y := Int.mul_nonneg h0 (by omega)
  rw [w32_ok (z := x / y * y) (by omega) (by omega), e2]
  exact w32_ok (by omega) (by omega)
section PN
variable {α β : Type} {w : qMem} {k : Nat} {N i v : Int}
theorem qld_ok {K : Int → Option α} (h0 : 0 ≤ i) (h1 : i < N) : qld w k N i K = K (w k i) := if_pos ⟨h0, h1⟩
theorem qst_ok {K : qMem → Option α} (h0 : 0 ≤ i) (h1 : i < N) : qst w k N i v K = K (qud w k i v) := if_pos ⟨h0, h1⟩
theorem qstz_ok {K : qMem → Option α} (h0 : 0 ≤ i) (h1 : i < N) (hv : v = 0 ∨ v = 1) : qstz w k N i v K = K (qud w k i v) := if_pos ⟨⟨h0, h1⟩, hv⟩
theorem qdv_ok {y : Int} {F : Option α} (h : y ≠ 0) : qdv y F = F := if_neg h
theorem qlt_ok {x : α} {K : α → β} : qlt x K = K x := rfl
theorem qcpy_ok {k1 k2 : Nat} {N1 sp N2 dp n : Int} {K : qMem → Option α} (h : (0 ≤ sp ∧ 0 ≤ dp ∧ 0 ≤ n) ∧ sp + n ≤ N1 ∧ dp + n ≤ N2) : qcpy w k1 N1 sp k2 N2 dp n K = K (qcp w k1 sp k2 dp n) := if_pos h
/-- it answers, and the answer is as P says -/
def kT (F : Option α) (P : α → Prop) : Prop := ∃ a, F = some a ∧ P a
theorem kT_some {a : α} {P : α → Prop} (h : P a) : kT (some a) P := ⟨a, rfl, h⟩
theorem kT_bind {F : Option α} {K : α → Option β} {P : α → Prop} {Q : β → Prop} (h : kT F P) (k : ∀ a, P a → kT (K a) Q) : kT (F.bind K) Q := by
  obtain ⟨a, e, p⟩ := h
  subst e
  exact k a p
theorem kT_eq {F : Option α} {K : α → Option β} {a : α} {Q : β → Prop} (h : F = some a) (k : kT (K a) Q) : kT (F.bind K) Q := by
  subst h
  exact k
theorem kT_mono {F : Option α} {P Q : α → Prop} (h : kT F P) (k : ∀ a, P a → Q a) : kT F Q := by
  obtain ⟨a, e, p⟩ := h
  exact ⟨a, e, k a p⟩
theorem kT_ld {K : Int → Option α} {P : α → Prop} (h0 : 0 ≤ i) (h1 : i < N) (k' : kT (K (w k i)) P) : kT (qld w k N i K) P := by rw [qld_ok h0 h1]; exact k'
theorem kT_st {K : qMem → Option α} {P : α → Prop} (h0 : 0 ≤ i) (h1 : i < N) (k' : kT (K (qud w k i v)) P) : kT (qst w k N i v K) P := by rw [qst_ok h0 h1]; exact k'
theorem kT_stz {K : qMem → Option α} {P : α → Prop} (h0 : 0 ≤ i) (h1 : i < N) (hv : v = 0 ∨ v = 1) (k' : kT (K (qud w k i v)) P) : kT (qstz w k N i v K) P := by rw [qstz_ok h0 h1 hv]; exact k'
theorem kT_dv {y : Int} {F : Option α} {P : α → Prop} (h : y ≠ 0) (k' : kT F P) : kT (qdv y F) P := by rw [qdv_ok h]; exact k'
theorem kT_lt {x : β} {K : β → Option α} {P : α → Prop} (k' : kT (K x) P) : kT (qlt x K) P := k'
theorem kT_if {c : Prop} {inst : Decidable c} {F1 F2 : Option α} {P : α → Prop} (h1 : c → kT F1 P) (h2 : ¬ c → kT F2 P) : kT (@ite _ c inst F1 F2) P := by
  by_cases h : c
  · rw [if_pos h]; exact h1 h
  · rw [if_neg h]; exact h2 h
theorem qud_s {a : Int} : qud w k a v k a = v := if_pos ⟨rfl, rfl⟩
theorem qud_ni {k' : Nat} {a j : Int} (h : j ≠ a) : qud w k a v k' j = w k' j := if_neg (fun q => h q.2)
theorem qud_nk {k' : Nat} {a j : Int} (h : k' ≠ k) : qud w k a v k' j = w k' j := if_neg (fun q => h q.1)
theorem qud_if {a j : Int} : qud w k a v k j = if j = a then v else w k j := by
  unfold qud
  by_cases h : j = a
  · rw [if_pos ⟨rfl, h⟩, if_pos h]
  · rw [if_neg (fun q => h q.2), if_neg h]
theorem qud_cm {k' : Nat} {a b x y : Int} (h : k' ≠ k ∨ b ≠ a) : qud (qud w k a x) k' b y = qud (qud w k' b y) k a x := by
  funext k2 j
  unfold qud
  by_cases h1 : k2 = k' ∧ j = b
  · rw [if_pos h1]
    by_cases h2 : k2 = k ∧ j = a
    · exfalso
      rcases h with h | h
      · exact h (h1.1.symm.trans h2.1)
      · exact h (h1.2.symm.trans h2.2)
    · rw [if_neg h2, if_pos h1]
  · rw [if_neg h1]
    by_cases h2 : k2 = k ∧ j = a
    · rw [if_pos h2, if_pos h2]
    · rw [if_neg h2, if_neg h2, if_neg h1]
/-- the same, sorted by fields -/
theorem qud_so {k' : Nat} {a b x y : Int} (h : k' < k) : qud (qud w k a x) k' b y = qud (qud w k' b y) k a x := qud_cm (Or.inl (by omega))
theorem qud_2 {a x y : Int} : qud (qud w k a x) k a y = qud w k a y := by
  funext k2 j
  unfold qud
  by_cases h1 : k2 = k ∧ j = a
  · rw [if_pos h1, if_pos h1]
  · rw [if_neg h1, if_neg h1, if_neg h1]
theorem qud_id {a : Int} : qud w k a (w k a) = w := by
  funext k2 j
  unfold qud
  by_cases h1 : k2 = k ∧ j = a
  · rw [if_pos h1, h1.1, h1.2]
  · rw [if_neg h1]
end PN
/-- a truth value as a number -/
def bi (b : Bool) : Int := if b then 1 else 0
theorem bi_0 {b : Bool} : bi b = 0 ↔ b = false := by cases b <;> simp [bi]
theorem bi_1 {b : Bool} : bi b = 1 ↔ b = true := by cases b <;> simp [bi]
theorem bi_t : bi true = 1 := rfl
theorem bi_f : bi false = 0 := rfl
/-- a loop that counts up -/
theorem k_loop {σ ρ : Type} (hi : Int) (L : Nat → Int → σ → Option ρ) (ex : σ → Option ρ) (P : Int → σ → Prop)
    (hs : ∀ m x s, P x s → x < hi → ∃ s', P (x + 1) s' ∧ L (m + 1) x s = L m (x + 1) s')
    (he : ∀ m s, P hi s → L (m + 1) hi s = ex s) : ∀ (m : Nat) (x : Int) (s : σ), P x s → x ≤ hi → hi - x < m → ∃ s', P hi s' ∧ L m x s = ex s' := by
  intro m
  induction m with
  | zero => intro x s _ h1 h2; omega
  | succ m ih =>
    intro x s hp h1 h2
    by_cases hx : x < hi
    · obtain ⟨s', hp', e⟩ := hs m x s hp hx
      obtain ⟨s2, hp2, e2⟩ := ih (x + 1) s' hp' (by omega) (by omega)
      exact ⟨s2, hp2, e.trans e2⟩
    · have : x = hi := by omega
      subst this
      exact ⟨s, hp, he m s hp⟩
theorem qFU_gt {x : Int} (h : x < 1000000000) : x < (qFU : Int) := by unfold qFU; omega
