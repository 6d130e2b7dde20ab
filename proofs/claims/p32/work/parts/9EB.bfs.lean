/-! a search over states: what it finds doesn't depend on the order -/
def rC (mu : List Int → List Int → Int) (root k : List Int) : Prop := ∀ C : List Int → Prop, C root → (∀ a b, C a → mu a b ≠ 0 → C b) → C k
/-- n states ks are found, with their weights ws; x of them are done, of the next one dn is done -/
def BF (mu : List Int → List Int → Int) (rk : List Int → Int) (root : List Int) (n x : Int) (ks : Int → List Int) (ws : Int → Int) (dn : List Int → Int) : Prop :=
  ((0 < n ∧ ks 0 = root ∧ 0 ≤ x ∧ x ≤ n) ∧ (∀ i j, 0 ≤ i → i < n → 0 ≤ j → j < n → ks i = ks j → i = j) ∧ ∀ i, 0 ≤ i → i < n → rC mu root (ks i)) ∧
  ((∀ i b, 0 ≤ i → i < x → mu (ks i) b ≠ 0 → ∃ j, (0 ≤ j ∧ j < n) ∧ ks j = b) ∧ (∀ b, dn b ≠ 0 → ∃ j, (0 ≤ j ∧ j < n) ∧ ks j = b) ∧ (x = n → ∀ b, dn b = 0)) ∧
  ((∀ i j, 0 ≤ i → i ≤ j → j < n → rk (ks i) ≤ rk (ks j)) ∧ (x < n → ∀ j, 0 ≤ j → j < n → rk (ks j) ≤ rk (ks x) + 1)) ∧
  ∀ j, 0 ≤ j → j < n → (0 ≤ ws j ∧ ws j < 1000003) ∧ ws j = ((if j = 0 then 1 else 0) + (cV (fun i => ws i * mu (ks i) (ks j)) x + ws x * dn (ks j))) % 1000003
section BB
variable {mu : List Int → List Int → Int} {rk : List Int → Int} {root k : List Int} {n m x y i j N M a b : Int} {ks ks' : Int → List Int} {ws ws' f g : Int → Int} {dn dn' : List Int → Int} {G : List Int → Int}
/-! sums over the same states in another order -/
theorem en_key {K : Type} (g : K → Int) : ∀ (n m : Nat) (a b : Int → K), (∀ i j, 0 ≤ i → i < (n : Int) → 0 ≤ j → j < (n : Int) → a i = a j → i = j) → (∀ i j, 0 ≤ i → i < (m : Int) → 0 ≤ j → j < (m : Int) → b i = b j → i = j) → (∀ i, 0 ≤ i → i < (n : Int) → ∃ j, (0 ≤ j ∧ j < (m : Int)) ∧ b j = a i) → n ≤ m ∧ ((∀ j, 0 ≤ j → j < (m : Int) → ∃ i, (0 ≤ i ∧ i < (n : Int)) ∧ a i = b j) → n = m ∧ cV (fun i => g (a i)) n = cV (fun i => g (b i)) m) := by
  intro n
  induction n with
  | zero =>
    intro m a b _ _ _
    refine ⟨Nat.zero_le _, fun h => ?_⟩
    cases m with
    | zero => exact ⟨rfl, rfl⟩
    | succ m =>
      obtain ⟨i, ⟨i0, i1⟩, -⟩ := h 0 (by omega) (by omega)
      omega
  | succ n ih =>
    intro m a b ha hb hab
    obtain ⟨j, ⟨j0, j1⟩, hj⟩ := hab n (by omega) (by omega)
    cases m with
    | zero => omega
    | succ m =>
      have hne : ∀ i, 0 ≤ i → i < (n : Int) → ∀ t, 0 ≤ t → t < ((m + 1 : Nat) : Int) → b t = a i → t ≠ j := fun i i0 i1 t t0 t1 ht z => by
        rw [z, hj] at ht
        have := ha n i (by omega) (by omega) i0 (by omega) ht
        omega
      obtain ⟨hle, heq⟩ := ih m a (fun i => if i = j then b m else b i) (fun i t i0 i1 t0 t1 h => ha i t i0 (by omega) t0 (by omega) h)
        (fun i t i0 i1 t0 t1 h => by
          by_cases e1 : i = j
          · by_cases e2 : t = j
            · omega
            · rw [if_pos e1, if_neg e2] at h
              have := hb m t (by omega) (by omega) t0 (by omega) h
              omega
          · by_cases e2 : t = j
            · rw [if_neg e1, if_pos e2] at h
              have := hb i m i0 (by omega) (by omega) (by omega) h
              omega
            · rw [if_neg e1, if_neg e2] at h
              exact hb i t i0 (by omega) t0 (by omega) h)
        (fun i i0 i1 => by
          obtain ⟨t, ⟨t0, t1⟩, ht⟩ := hab i i0 (by omega)
          have htj := hne i i0 i1 t t0 t1 ht
          by_cases e : t = m
          · refine ⟨j, ⟨j0, by omega⟩, ?_⟩
            rw [if_pos rfl, ← e]
            exact ht
          · refine ⟨t, ⟨t0, by omega⟩, ?_⟩
            rw [if_neg htj]
            exact ht)
      refine ⟨by omega, fun hba => ?_⟩
      obtain ⟨e1, e2⟩ := heq (fun t t0 t1 => by
        by_cases e : t = j
        · rw [if_pos e]
          obtain ⟨i, ⟨i0, i1⟩, hi⟩ := hba m (by omega) (by omega)
          refine ⟨i, ⟨i0, ?_⟩, hi⟩
          by_cases q : i = n
          · rw [q, ← hj] at hi
            have := hb j m j0 j1 (by omega) (by omega) hi
            omega
          · omega
        · rw [if_neg e]
          obtain ⟨i, ⟨i0, i1⟩, hi⟩ := hba t t0 (by omega)
          refine ⟨i, ⟨i0, ?_⟩, hi⟩
          by_cases q : i = n
          · rw [q, ← hj] at hi
            have := hb j t j0 j1 t0 (by omega) hi
            omega
          · omega)
      refine ⟨by omega, ?_⟩
      have h1 : cV (fun i => g (a i)) ((n + 1 : Nat) : Int) = cV (fun i => g (a i)) n + g (a n) := by
        rw [show ((n + 1 : Nat) : Int) = (n : Int) + 1 by omega, cV_s (by omega)]
      have h2 : cV (fun i => g (b i)) ((m + 1 : Nat) : Int) = cV (fun i => g (b i)) m + g (b m) := by
        rw [show ((m + 1 : Nat) : Int) = (m : Int) + 1 by omega, cV_s (by omega)]
      have h3 : cV (fun i => g (if i = j then b m else b i)) m + g (b j) = cV (fun i => g (b i)) m + g (b m) := by
        by_cases e : j = m
        · rw [← e, cV_co (f := fun i => g (if i = j then b j else b i)) (g := fun i => g (b i)) (x := j) j0 (fun p p0 p1 => by
            rw [if_neg (by omega)])]
        · have := cV_u (f := fun i => g (b i)) (g := fun i => g (if i = j then b m else b i)) (p := j) (v := g (b m)) (x := m) j0 (by omega) (fun t => by
            by_cases z : t = j
            · rw [if_pos z, if_pos z]
            · rw [if_neg z, if_neg z])
          rw [this]
          omega
      rw [h1, h2, ← hj, e2]
      exact h3
theorem en_sum {K : Type} {g : K → Int} {a b : Int → K} (n0 : 0 ≤ n) (m0 : 0 ≤ m) (ha : ∀ i j, 0 ≤ i → i < n → 0 ≤ j → j < n → a i = a j → i = j) (hb : ∀ i j, 0 ≤ i → i < m → 0 ≤ j → j < m → b i = b j → i = j) (hab : ∀ i, 0 ≤ i → i < n → ∃ j, (0 ≤ j ∧ j < m) ∧ b j = a i) : n ≤ m ∧ ((∀ j, 0 ≤ j → j < m → ∃ i, (0 ≤ i ∧ i < n) ∧ a i = b j) → n = m ∧ cV (fun i => g (a i)) n = cV (fun i => g (b i)) m) := by
  have en : ((n.toNat : Nat) : Int) = n := by omega
  have em : ((m.toNat : Nat) : Int) = m := by omega
  have := en_key g n.toNat m.toNat a b
  rw [en, em] at this
  obtain ⟨h1, h2⟩ := this ha hb hab
  exact ⟨by omega, fun h => ⟨by have := (h2 h).1; omega, (h2 h).2⟩⟩
theorem cV_0f (h : ∀ i, 0 ≤ i → i < n → f i = 0) (n0 : 0 ≤ n) : cV f n = 0 := by
  have := cV_z (f := f) (a := 0) (b := n) (by decide) n0 h
  rw [this]
  rfl
/-- the sum of one -/
theorem cV_1 (h : ∀ i, 0 ≤ i → i < n → i ≠ j → f i = 0) (j0 : 0 ≤ j) (j1 : j < n) : cV f n = f j := by
  have h1 := cV_u (f := fun _ => 0) (g := fun i => if i = j then f j else 0) (p := j) (v := f j) (x := n) j0 j1 (fun t => rfl)
  have h2 := cV_co (f := f) (g := fun i => if i = j then f j else 0) (x := n) (by omega) (fun i i0 i1 => by
    by_cases e : i = j
    · rw [if_pos e, e]
    · rw [if_neg e]; exact h i i0 i1 e)
  have h3 := cV_0f (f := fun _ => 0) (n := n) (fun _ _ _ => rfl) (by omega)
  rw [h2, h1, h3]
  omega
/-! the search -/
theorem BF.one (h0 : ∀ b, dn b = 0) (hk : ks 0 = root) (hw : ws 0 = 1) : BF mu rk root 1 0 ks ws dn := by
  refine ⟨⟨⟨by decide, hk, by decide, by decide⟩, fun i j _ _ _ _ _ => by omega, fun i i0 i1 => ?_⟩, ⟨fun i b _ _ => by omega, fun b hb => absurd (h0 b) hb, fun _ => h0⟩, ⟨fun i j i0 ij j1 => ?_, fun _ j j0 j1 => ?_⟩, fun j j0 j1 => ?_⟩
  · rw [show i = 0 by omega, hk]
    exact fun C hC _ => hC
  · rw [show i = j by omega]; exact Int.le_refl _
  · rw [show j = 0 by omega]; omega
  · rw [show j = 0 by omega, hw, h0, if_pos rfl, show cV (fun i => ws i * mu (ks i) (ks 0)) 0 = 0 from rfl]
    omega
theorem BF.rw {n x} (B : BF mu rk root n x ks ws dn) (hx : x < n) (hm : mu (ks x) k ≠ 0) (hr : ∀ a b, rC mu root a → mu a b ≠ 0 → rk b = rk a + 1) : rC mu root k ∧ rk k = rk (ks x) + 1 := by
  obtain ⟨⟨⟨n0, k0, x0, xn⟩, hi, hR⟩, -⟩ := B
  have := hR x x0 hx
  exact ⟨fun C h1 h2 => h2 _ _ (this C h1 h2) hm, hr _ _ this hm⟩
theorem md_a {z u : Int} : (z % 1000003 + u) % 1000003 = (z + u) % 1000003 := by omega
/-- met again -/
theorem BF.old (B : BF mu rk root n x ks ws dn) (hx : x < n) (hm : mu (ks x) k ≠ 0) (hr : ∀ a b, rC mu root a → mu a b ≠ 0 → rk b = rk a + 1) (hd : ∀ b, 0 ≤ dn b) (j0 : 0 ≤ j) (j1 : j < n) (hj : ks j = k) (hdn : ∀ b, dn' b = dn b + (if b = k then 1 else 0)) (hws : ∀ i, ws' i = if i = j then (ws j + ws x) % 1000003 else ws i) : x < j ∧ BF mu rk root n x ks ws' dn' := by
  have hk := B.rw hx hm hr
  obtain ⟨⟨⟨n0, k0, x0, xn⟩, hi, hR⟩, ⟨h1, h2, h3⟩, ⟨h4, h5⟩, h6⟩ := B
  have hxj : x < j := Decidable.by_contra fun z => by
    have := h4 j x j0 (by omega) hx
    rw [hj] at this
    omega
  have hwx : ∀ i, i ≤ x → ws' i = ws i := fun i a => by rw [hws, if_neg (by omega)]
  refine ⟨hxj, ⟨⟨n0, k0, x0, xn⟩, hi, hR⟩, ⟨h1, fun b hb => ?_, fun z => by omega⟩, ⟨h4, h5⟩, fun i i0 i1 => ?_⟩
  · rw [hdn] at hb
    by_cases e : b = k
    · exact ⟨j, ⟨j0, j1⟩, by rw [hj, e]⟩
    · rw [if_neg e, Int.add_zero] at hb
      exact h2 b hb
  · have hc : cV (fun t => ws' t * mu (ks t) (ks i)) x = cV (fun t => ws t * mu (ks t) (ks i)) x := cV_co x0 (fun t a c => by rw [hwx t (by omega)])
    have h := h6 i i0 i1
    have hj6 := h6 j j0 j1
    rw [hc, hwx x (Int.le_refl _), hdn, hws]
    by_cases e : i = j
    · subst e
      rw [if_pos rfl, if_pos hj, Int.mul_add, Int.mul_one]
      refine ⟨⟨Int.emod_nonneg _ (by decide), Int.emod_lt_of_pos _ (by decide)⟩, ?_⟩
      have hq := h.2
      generalize (if i = 0 then (1 : Int) else 0) = u at hq ⊢
      generalize cV (fun t => ws t * mu (ks t) (ks i)) x = c at hq ⊢
      generalize ws x * dn (ks i) = d at hq ⊢
      rw [hq, md_a]
      congr 1
      omega
    · have hik : ks i ≠ k := fun z => e (hi i j i0 i1 j0 j1 (by rw [z, hj]))
      rw [if_neg e, if_neg hik, Int.add_zero]
      exact h
/-- met for the first time -/
theorem BF.new (B : BF mu rk root n x ks ws dn) (hx : x < n) (hm : mu (ks x) k ≠ 0) (hr : ∀ a b, rC mu root a → mu a b ≠ 0 → rk b = rk a + 1) (hn : ∀ j, 0 ≤ j → j < n → ks j ≠ k) (hdn : ∀ b, dn' b = dn b + (if b = k then 1 else 0)) (hks : ∀ i, ks' i = if i = n then k else ks i) (hws : ∀ i, ws' i = if i = n then ws x else ws i) : BF mu rk root (n + 1) x ks' ws' dn' := by
  have hk := B.rw hx hm hr
  obtain ⟨⟨⟨n0, k0, x0, xn⟩, hi, hR⟩, ⟨h1, h2, h3⟩, ⟨h4, h5⟩, h6⟩ := B
  have ke : ∀ i, i < n → ks' i = ks i := fun i a => by rw [hks, if_neg (by omega)]
  have kn : ks' n = k := by rw [hks, if_pos rfl]
  have we : ∀ i, i < n → ws' i = ws i := fun i a => by rw [hws, if_neg (by omega)]
  have wn : ws' n = ws x := by rw [hws, if_pos rfl]
  have up : ∀ b, (∃ j, (0 ≤ j ∧ j < n) ∧ ks j = b) → ∃ j, (0 ≤ j ∧ j < n + 1) ∧ ks' j = b := fun b ⟨j, ⟨a, c⟩, e⟩ => ⟨j, ⟨a, by omega⟩, by rw [ke j c, e]⟩
  refine ⟨⟨⟨by omega, by rw [ke 0 n0]; exact k0, x0, by omega⟩, fun i j i0 i1 j0 j1 e => ?_, fun i i0 i1 => ?_⟩, ⟨fun i b i0 i1 hb => ?_, fun b hb => ?_, fun z => by omega⟩, ⟨fun i j i0 ij j1 => ?_, fun _ j j0 j1 => ?_⟩, fun i i0 i1 => ?_⟩
  · by_cases e1 : i = n
    · by_cases e2 : j = n
      · omega
      · rw [e1, kn, ke j (by omega)] at e
        exact absurd e.symm (hn j j0 (by omega))
    · by_cases e2 : j = n
      · rw [e2, kn, ke i (by omega)] at e
        exact absurd e (hn i i0 (by omega))
      · rw [ke i (by omega), ke j (by omega)] at e
        exact hi i j i0 (by omega) j0 (by omega) e
  · by_cases e1 : i = n
    · rw [e1, kn]; exact hk.1
    · rw [ke i (by omega)]; exact hR i i0 (by omega)
  · rw [ke i (by omega)] at hb
    exact up b (h1 i b i0 i1 hb)
  · rw [hdn] at hb
    by_cases e : b = k
    · exact ⟨n, ⟨by omega, by omega⟩, by rw [kn, e]⟩
    · rw [if_neg e, Int.add_zero] at hb
      exact up b (h2 b hb)
  · by_cases e2 : j = n
    · by_cases e1 : i = n
      · rw [e1, e2]; exact Int.le_refl _
      · rw [e2, kn, ke i (by omega), hk.2]
        exact h5 hx i i0 (by omega)
    · rw [ke i (by omega), ke j (by omega)]
      exact h4 i j i0 ij (by omega)
  · rw [ke x hx]
    by_cases e2 : j = n
    · rw [e2, kn, hk.2]; exact Int.le_refl _
    · rw [ke j (by omega)]
      exact h5 hx j j0 (by omega)
  · have hc : cV (fun t => ws' t * mu (ks' t) (ks' i)) x = cV (fun t => ws t * mu (ks t) (ks' i)) x := cV_co x0 (fun t a c => by rw [we t (by omega), ke t (by omega)])
    rw [hc, we x hx, hdn]
    by_cases e : i = n
    · have hz : cV (fun t => ws t * mu (ks t) k) x = 0 := cV_0f (fun t a c => by
        have : mu (ks t) k = 0 := Decidable.by_contra fun z => by
          obtain ⟨j, ⟨a1, a2⟩, a3⟩ := h1 t k a c z
          exact hn j a1 a2 a3
        rw [this, Int.mul_zero]) x0
      have hdk : dn k = 0 := Decidable.by_contra fun z => by
        obtain ⟨j, ⟨a1, a2⟩, a3⟩ := h2 k z
        exact hn j a1 a2 a3
      have := (h6 x x0 hx).1
      rw [e, kn, wn, hz, hdk, if_neg (by omega), if_pos rfl]
      refine ⟨this, ?_⟩
      rw [show (0 : Int) + (0 + ws x * (0 + 1)) = ws x by omega]
      omega
    · have hik : ks i ≠ k := hn i i0 (by omega)
      rw [we i (by omega), ke i (by omega), if_neg hik, Int.add_zero]
      exact h6 i i0 (by omega)
/-- one is done -/
theorem BF.nx (B : BF mu rk root n x ks ws dn) (hx : x < n) (hd : ∀ b, dn b = mu (ks x) b) (h0 : ∀ b, dn' b = 0) : BF mu rk root n (x + 1) ks ws dn' := by
  obtain ⟨⟨⟨n0, k0, x0, xn⟩, hi, hR⟩, ⟨h1, h2, h3⟩, ⟨h4, h5⟩, h6⟩ := B
  refine ⟨⟨⟨n0, k0, by omega, by omega⟩, hi, hR⟩, ⟨fun i b i0 i1 hb => ?_, fun b hb => absurd (h0 b) hb, fun _ => h0⟩, ⟨h4, fun hx1 j j0 j1 => ?_⟩, fun i i0 i1 => ?_⟩
  · by_cases e : i = x
    · rw [e, ← hd] at hb
      exact h2 b hb
    · exact h1 i b i0 (by omega) hb
  · have a := h5 hx j j0 j1
    have b := h4 x (x + 1) x0 (by omega) hx1
    omega
  · have h := h6 i i0 i1
    rw [hd] at h
    rw [cV_s x0, h0, Int.mul_zero, Int.add_zero]
    exact h
/-- two searches of the same states -/
theorem BF.sub (B : BF mu rk root n n ks ws dn) (h : rC mu root k) : ∃ j, (0 ≤ j ∧ j < n) ∧ ks j = k := by
  obtain ⟨⟨⟨n0, k0, x0, xn⟩, hi, hR⟩, ⟨h1, h2, h3⟩, -⟩ := B
  refine h (fun k => ∃ j, (0 ≤ j ∧ j < n) ∧ ks j = k) ⟨0, ⟨by decide, n0⟩, k0⟩ (fun a b ⟨j, ⟨a1, a2⟩, a3⟩ hb => ?_)
  rw [← a3] at hb
  exact h1 j b a1 a2 hb
theorem BF.le (B : BF mu rk root n n ks ws dn) {x : Int} (C : BF mu rk root m x ks' ws' dn') : m ≤ n := by
  have hB := B.1.1
  have hC := C.1.1
  exact (en_sum (K := List Int) (g := fun _ => 0) (a := ks') (b := ks) (n := m) (m := n) (by omega) (by omega) C.1.2.1 B.1.2.1 (fun i i0 i1 => B.sub (C.1.2.2 i i0 i1))).1
theorem BF.eq (B : BF mu rk root n n ks ws dn) (C : BF mu rk root m m ks' ws' dn') (G : List Int → Int) : n = m ∧ cV (fun i => G (ks i)) n = cV (fun i => G (ks' i)) m := by
  have hB := B.1.1
  have hC := C.1.1
  exact (en_sum (K := List Int) (g := G) (a := ks) (b := ks') (by omega) (by omega) B.1.2.1 C.1.2.1 (fun i i0 i1 => C.sub (B.1.2.2 i i0 i1))).2 (fun j j0 j1 => B.sub (C.1.2.2 j j0 j1))
/-- the weight of a state, out of the rows -/
def wOf (ks : Int → List Int) (ws : Int → Int) (n : Int) (k : List Int) : Int := cV (fun i => if ks i = k then ws i else 0) n
theorem wOf_at (hi : ∀ i j, 0 ≤ i → i < n → 0 ≤ j → j < n → ks i = ks j → i = j) (j0 : 0 ≤ j) (j1 : j < n) : wOf ks ws n (ks j) = ws j := by
  unfold wOf
  rw [cV_1 (j := j) (fun i i0 i1 e => by
    rw [if_neg (fun z => e (hi i j i0 i1 j0 j1 z))]) j0 j1]
  rw [if_pos rfl]
theorem BF.wq (B : BF mu rk root n n ks ws dn) (C : BF mu rk root m m ks' ws' dn') (hr : ∀ a b, rC mu root a → mu a b ≠ 0 → rk b = rk a + 1) (h0 : 0 ≤ rk root) : ∀ i j, 0 ≤ i → i < n → 0 ≤ j → j < m → ks i = ks' j → ws i = ws' j := by
  have hB := B.1.1
  have hC := C.1.1
  have hrk : ∀ k, rC mu root k → 0 ≤ rk k := fun k hk => (hk (fun k => rC mu root k ∧ 0 ≤ rk k) ⟨fun C a _ => a, h0⟩ (fun a b ⟨c1, c2⟩ hb => ⟨fun C e1 e2 => e2 a b (c1 C e1 e2) hb, by have := hr a b c1 hb; omega⟩)).2
  have key : ∀ (r : Nat) i j, rk (ks i) < r → 0 ≤ i → i < n → 0 ≤ j → j < m → ks i = ks' j → ws i = ws' j := by
    intro r
    induction r with
    | zero =>
      intro i j h i0 i1 _ _ _
      have := hrk _ (B.1.2.2 i i0 i1)
      omega
    | succ r ih =>
      intro i j h i0 i1 j0 j1 e
      have hb := (B.2.2.2 i i0 i1).2
      have hc := (C.2.2.2 j j0 j1).2
      have b0 := B.2.1.2.2 rfl (ks i)
      have c0 := C.2.1.2.2 rfl (ks' j)
      rw [b0, Int.mul_zero, Int.add_zero] at hb
      rw [c0, Int.mul_zero, Int.add_zero] at hc
      have hd : (if i = 0 then (1 : Int) else 0) = if j = 0 then 1 else 0 := by
        by_cases z : i = 0
        · have : j = 0 := C.1.2.1 j 0 j0 j1 (by decide) hC.1 (by rw [← e, z, hB.2.1, hC.2.1])
          rw [if_pos z, if_pos this]
        · have : j ≠ 0 := fun y => z (B.1.2.1 i 0 i0 i1 (by decide) hB.1 (by rw [e, y, hB.2.1, hC.2.1]))
          rw [if_neg z, if_neg this]
      have hs := (B.eq C (fun k => wOf ks ws n k * mu k (ks i))).2
      have e1 : cV (fun t => ws t * mu (ks t) (ks i)) n = cV (fun t => wOf ks ws n (ks t) * mu (ks t) (ks i)) n := cV_co (by omega) (fun t t0 t1 => by rw [wOf_at B.1.2.1 t0 t1])
      have e2 : cV (fun t => ws' t * mu (ks' t) (ks' j)) m = cV (fun t => wOf ks ws n (ks' t) * mu (ks' t) (ks i)) m := cV_co (by omega) (fun t t0 t1 => by
        obtain ⟨s, ⟨s0, s1⟩, hs⟩ := B.sub (C.1.2.2 t t0 t1)
        rw [← hs, wOf_at B.1.2.1 s0 s1, ← e]
        by_cases z : mu (ks s) (ks i) = 0
        · rw [z, Int.mul_zero, Int.mul_zero]
        · have := hr _ _ (B.1.2.2 s s0 s1) z
          rw [ih s t (by omega) s0 s1 t0 t1 hs])
      rw [hb, hc, hd, e1, e2]
      rw [hs]
  intro i j i0 i1 j0 j1 e
  have := hrk _ (B.1.2.2 i i0 i1)
  exact key (rk (ks i) + 1).toNat i j (by omega) i0 i1 j0 j1 e
/-- sums with weights -/
theorem BF.wsum (B : BF mu rk root n n ks ws dn) (C : BF mu rk root m m ks' ws' dn') (hr : ∀ a b, rC mu root a → mu a b ≠ 0 → rk b = rk a + 1) (h0 : 0 ≤ rk root) : cV (fun i => ws i * G (ks i)) n = cV (fun i => ws' i * G (ks' i)) m := by
  have hB := B.1.1
  have hC := C.1.1
  have hs := (B.eq C (fun k => wOf ks ws n k * G k)).2
  have e1 : cV (fun t => ws t * G (ks t)) n = cV (fun t => wOf ks ws n (ks t) * G (ks t)) n := cV_co (by omega) (fun t t0 t1 => by rw [wOf_at B.1.2.1 t0 t1])
  have e2 : cV (fun t => ws' t * G (ks' t)) m = cV (fun t => wOf ks ws n (ks' t) * G (ks' t)) m := cV_co (by omega) (fun t t0 t1 => by
    obtain ⟨s, ⟨s0, s1⟩, hs⟩ := B.sub (C.1.2.2 t t0 t1)
    rw [← hs, wOf_at B.1.2.1 s0 s1, B.wq C hr h0 s t s0 s1 t0 t1 hs])
  rw [e1, e2]
  exact hs
/-! the most and the fewest -/
def Mx (l : Int) (f : Int → Int) (n M : Int) : Prop := l ≤ M ∧ (∀ i, 0 ≤ i → i < n → f i ≤ M) ∧ (M = l ∨ ∃ i, (0 ≤ i ∧ i < n) ∧ f i = M)
theorem Mx.z : Mx M f 0 M := ⟨Int.le_refl _, fun i a b => by omega, Or.inl rfl⟩
theorem Mx.s (h : Mx a f x M) (x0 : 0 ≤ x) : Mx a f (x + 1) (if M < f x then f x else M) := by
  obtain ⟨h1, h2, h3⟩ := h
  by_cases e : M < f x
  · rw [if_pos e]
    refine ⟨by omega, fun i i0 i1 => ?_, Or.inr ⟨x, ⟨x0, by omega⟩, rfl⟩⟩
    by_cases q : i = x
    · rw [q]; exact Int.le_refl _
    · have := h2 i i0 (by omega)
      omega
  · rw [if_neg e]
    refine ⟨h1, fun i i0 i1 => ?_, ?_⟩
    · by_cases q : i = x
      · rw [q]; omega
      · exact h2 i i0 (by omega)
    · rcases h3 with z | ⟨i, ⟨p, q⟩, z⟩
      · exact Or.inl z
      · exact Or.inr ⟨i, ⟨p, by omega⟩, z⟩
theorem Mx.eq (h : Mx a f n M) (h' : Mx a g m N) (h1 : ∀ i, 0 ≤ i → i < n → ∃ j, (0 ≤ j ∧ j < m) ∧ g j = f i) (h2 : ∀ j, 0 ≤ j → j < m → ∃ i, (0 ≤ i ∧ i < n) ∧ f i = g j) : M = N := by
  obtain ⟨a1, a2, a3⟩ := h
  obtain ⟨b1, b2, b3⟩ := h'
  have k1 : M ≤ N := by
    rcases a3 with z | ⟨i, ⟨p, q⟩, z⟩
    · omega
    · obtain ⟨j, ⟨c, d⟩, e⟩ := h1 i p q
      have := b2 j c d
      omega
  have k2 : N ≤ M := by
    rcases b3 with z | ⟨i, ⟨p, q⟩, z⟩
    · omega
    · obtain ⟨j, ⟨c, d⟩, e⟩ := h2 i p q
      have := a2 j c d
      omega
  omega
theorem BF.mx (B : BF mu rk root n n ks ws dn) (C : BF mu rk root m m ks' ws' dn') {M N : Int} (h : Mx a (fun i => G (ks i)) n M) (h' : Mx a (fun i => G (ks' i)) m N) : M = N := by
  refine h.eq h' (fun i i0 i1 => ?_) (fun j j0 j1 => ?_)
  · obtain ⟨j, q, e⟩ := C.sub (B.1.2.2 i i0 i1)
    exact ⟨j, q, by rw [e]⟩
  · obtain ⟨i, q, e⟩ := B.sub (C.1.2.2 j j0 j1)
    exact ⟨i, q, by rw [e]⟩
end BB
