/-! one ring alone: a search by steps, its states and how soon; what is asked of it has one answer -/
def rCh (sc : Int → List Int) (k : Int) : Prop := ∀ C : Int → Prop, C 0 → (∀ a b, C a → inS (sc a) b → C b) → C k
def fnd (n : Int) (ks : Int → Int) (b : Int) : Prop := ∃ t, (0 ≤ t ∧ t < n) ∧ ks t = b
/-- n states ks are found, dp says how soon; x of them are done, of the next one the first j steps -/
def SR (sc : Int → List Int) (n x : Int) (j : Nat) (ks dp : Int → Int) : Prop :=
  ((0 < n ∧ ks 0 = 0 ∧ 0 ≤ x ∧ x ≤ n) ∧ (∀ i t, 0 ≤ i → i < n → 0 ≤ t → t < n → ks i = ks t → i = t) ∧ ∀ i, 0 ≤ i → i < n → rCh sc (ks i)) ∧
  ((∀ i b, 0 ≤ i → i < x → inS (sc (ks i)) b → fnd n ks b ∧ dp b ≤ dp (ks i) + 1) ∧ (x < n → ∀ t : Nat, t < j → t < (sc (ks x)).length → fnd n ks ((sc (ks x)).getD t 0) ∧ dp ((sc (ks x)).getD t 0) ≤ dp (ks x) + 1)) ∧
  ((∀ i t, 0 ≤ i → i ≤ t → t < n → dp (ks i) ≤ dp (ks t)) ∧ (x < n → ∀ t, 0 ≤ t → t < n → dp (ks t) ≤ dp (ks x) + 1)) ∧
  (dp 0 = 0 ∧ ∀ i, 0 < i → i < n → ∃ p, (0 ≤ p ∧ p < n) ∧ inS (sc (ks p)) (ks i) ∧ dp (ks i) = dp (ks p) + 1) ∧ ∀ i, 0 ≤ i → i < n → 0 ≤ dp (ks i)
/-- STARVING -/
def STV (sc : Int → List Int) (dn : Int → Int) : Prop := ∃ X : Int → Prop, (∃ a, X a) ∧ ∀ a, X a → rCh sc a ∧ dn a = 1 ∧ ∃ b, inS (sc a) b ∧ X b
/-- waits -/
def WOK (sc pl : Int → List Int) (dn W : Int → Int) : Prop := ∀ a, rCh sc a → (dn a ≠ 1 → W a = 0) ∧ (dn a = 1 → 0 ≤ W a ∧ (∀ b, inS (pl a) b → W b + 1 ≤ W a) ∧ (W a = 0 ∨ ∃ b, inS (pl a) b ∧ W a = W b + 1))
def aVal (sc pl : Int → List Int) (hd dd dn : Int → Int) (full : Int) (N : Int) (ks dp : Int → Int) (x y : Int) : Prop :=
  ((x = 0 → y = N) ∧ (x = 1 → y = cV (fun i => if hd (ks i) = full then 1 else 0) N) ∧ (x = 2 → y = cV (fun i => dd (ks i)) N)) ∧
  ((x = 3 → (y = -1 ∧ ∀ i, 0 ≤ i → i < N → dd (ks i) ≠ 1) ∨ ((∃ i, (0 ≤ i ∧ i < N) ∧ dd (ks i) = 1 ∧ dp (ks i) = y) ∧ ∀ i, 0 ≤ i → i < N → dd (ks i) = 1 → y ≤ dp (ks i))) ∧ (x = 4 → Mx 0 (fun i => hd (ks i)) N y) ∧ (x = 5 → y = cV (fun i => dn (ks i)) N)) ∧
  (x = 6 → (y = 1 ∧ STV sc dn) ∨ (y = 0 ∧ ¬ STV sc dn)) ∧ (x = 7 → ∃ W : Int → Int, WOK sc pl dn W ∧ Mx 0 (fun i => W (ks i)) N y)
section AU
variable {sc pl : Int → List Int} {n m x i t k b a l y z N : Int} {j : Nat} {ks ks' dp dp' hd dd dn W W' pot : Int → Int} {L : List Int} {full : Int}
theorem rCh.st (h : rCh sc a) (hb : inS (sc a) b) : rCh sc b := fun C h1 h2 => h2 a b (h C h1 h2) hb
theorem fnd.up (h : fnd n ks b) (hk : ∀ i, i < n → ks' i = ks i) (hm : n ≤ m) : fnd m ks' b := by
  obtain ⟨t, ⟨a, c⟩, e⟩ := h
  exact ⟨t, ⟨a, by omega⟩, by rw [hk t c, e]⟩
theorem SR.one (hk : ks 0 = 0) (hd0 : dp 0 = 0) : SR sc 1 0 0 ks dp := by
  refine ⟨⟨⟨by decide, hk, by decide, by decide⟩, fun i t _ _ _ _ _ => by omega, fun i i0 i1 => ?_⟩, ⟨fun i b _ _ => by omega, fun _ t ht => by omega⟩, ⟨fun i t i0 it t1 => ?_, fun _ t t0 t1 => ?_⟩, ⟨hd0, fun i _ _ => by omega⟩, fun i i0 i1 => ?_⟩
  · rw [show i = 0 by omega, hk]
    exact fun C h _ => h
  · rw [show i = t by omega]; exact Int.le_refl _
  · rw [show t = 0 by omega]; omega
  · rw [show i = 0 by omega, hk, hd0]; exact Int.le_refl _
/-- a step to what is found -/
theorem SR.old (B : SR sc n x j ks dp) (hx : x < n) (hj : j < (sc (ks x)).length) (hf : fnd n ks ((sc (ks x)).getD j 0)) : SR sc n x (j + 1) ks dp := by
  obtain ⟨h1, ⟨h2, h3⟩, ⟨h4, h5⟩, h6, h7⟩ := B
  refine ⟨h1, ⟨h2, fun hx t ht hl => ?_⟩, ⟨h4, h5⟩, h6, h7⟩
  by_cases e : t = j
  · obtain ⟨s, ⟨a, c⟩, es⟩ := hf
    rw [e]
    refine ⟨⟨s, ⟨a, c⟩, es⟩, ?_⟩
    rw [← es]
    exact h5 hx s a c
  · exact h3 hx t (by omega) hl
/-- a step to what is new -/
theorem SR.new (B : SR sc n x j ks dp) (hx : x < n) (hj : j < (sc (ks x)).length) (hn : ¬ fnd n ks ((sc (ks x)).getD j 0)) (hks : ∀ i, ks' i = if i = n then (sc (ks x)).getD j 0 else ks i) (hdp : ∀ b, dp' b = if b = (sc (ks x)).getD j 0 then dp (ks x) + 1 else dp b) : SR sc (n + 1) x (j + 1) ks' dp' := by
  obtain ⟨⟨⟨n0, k0, x0, xn⟩, hi, hR⟩, ⟨h2, h3⟩, ⟨h4, h5⟩, ⟨h6, h6'⟩, h7⟩ := B
  have hin : inS (sc (ks x)) ((sc (ks x)).getD j 0) := ⟨j, hj, rfl⟩
  have hRx := hR x x0 hx
  have ke : ∀ i, i < n → ks' i = ks i := fun i a => by rw [hks, if_neg (by omega)]
  have kn : ks' n = (sc (ks x)).getD j 0 := by rw [hks, if_pos rfl]
  generalize hgk : (sc (ks x)).getD j 0 = k at *
  have hne : ∀ i, 0 ≤ i → i < n → ks i ≠ k := fun i a c e => hn ⟨i, ⟨a, c⟩, e⟩
  have de : ∀ i, 0 ≤ i → i < n → dp' (ks i) = dp (ks i) := fun i a c => by rw [hdp, if_neg (hne i a c)]
  have dk : dp' k = dp (ks x) + 1 := by rw [hdp, if_pos rfl]
  have df : ∀ b, fnd n ks b → dp' b = dp b := fun b ⟨t, ⟨a, c⟩, e⟩ => by rw [← e, de t a c]
  have up : ∀ b, fnd n ks b → fnd (n + 1) ks' b := fun b h => h.up ke (by omega)
  refine ⟨⟨⟨by omega, by rw [ke 0 n0]; exact k0, x0, by omega⟩, fun i t i0 i1 t0 t1 e => ?_, fun i i0 i1 => ?_⟩, ⟨fun i b i0 i1 hb => ?_, fun _ t ht hl => ?_⟩, ⟨fun i t i0 it t1 => ?_, fun _ t t0 t1 => ?_⟩, ⟨?_, fun i i0 i1 => ?_⟩, fun i i0 i1 => ?_⟩
  · by_cases e1 : i = n
    · by_cases e2 : t = n
      · omega
      · rw [e1, kn, ke t (by omega)] at e
        exact absurd e.symm (hne t t0 (by omega))
    · by_cases e2 : t = n
      · rw [e2, kn, ke i (by omega)] at e
        exact absurd e (hne i i0 (by omega))
      · rw [ke i (by omega), ke t (by omega)] at e
        exact hi i t i0 (by omega) t0 (by omega) e
  · by_cases e1 : i = n
    · rw [e1, kn]; exact hRx.st hin
    · rw [ke i (by omega)]; exact hR i i0 (by omega)
  · rw [ke i (by omega)] at hb ⊢
    have := h2 i b i0 i1 hb
    refine ⟨up b this.1, ?_⟩
    rw [df b this.1, de i i0 (by omega)]
    exact this.2
  · rw [ke x hx] at hl ⊢
    by_cases e : t = j
    · have e0 : (sc (ks x)).getD t 0 = k := by
        rw [e]
        exact hgk
      rw [e0, dk, de x x0 hx]
      exact ⟨⟨n, ⟨by omega, by omega⟩, kn⟩, Int.le_refl _⟩
    · have := h3 hx t (by omega) hl
      refine ⟨up _ this.1, ?_⟩
      rw [df _ this.1, de x x0 hx]
      exact this.2
  · by_cases e2 : t = n
    · by_cases e1 : i = n
      · rw [e1, e2]; exact Int.le_refl _
      · rw [e2, kn, ke i (by omega), dk, de i i0 (by omega)]
        exact h5 hx i i0 (by omega)
    · rw [ke i (by omega), ke t (by omega), de i i0 (by omega), de t (by omega) (by omega)]
      exact h4 i t i0 it (by omega)
  · rw [ke x hx, de x x0 hx]
    by_cases e2 : t = n
    · rw [e2, kn, dk]; exact Int.le_refl _
    · rw [ke t (by omega), de t t0 (by omega)]
      exact h5 hx t t0 (by omega)
  · rw [← k0, de 0 (Int.le_refl _) n0, k0]
    exact h6
  · by_cases e1 : i = n
    · refine ⟨x, ⟨x0, by omega⟩, ?_, ?_⟩
      · rw [e1, kn, ke x hx]; exact hin
      · rw [e1, kn, ke x hx, dk, de x x0 hx]
    · obtain ⟨p, ⟨p0, p1⟩, a1, a2⟩ := h6' i i0 (by omega)
      refine ⟨p, ⟨p0, by omega⟩, ?_, ?_⟩
      · rw [ke p p1, ke i (by omega)]; exact a1
      · rw [ke p p1, ke i (by omega), de p p0 p1, de i (by omega) (by omega)]
        exact a2
  · by_cases e1 : i = n
    · have := h7 x x0 hx
      rw [e1, kn, dk]
      omega
    · rw [ke i (by omega), de i i0 (by omega)]
      exact h7 i i0 (by omega)
/-- one is done -/
theorem SR.nx (B : SR sc n x j ks dp) (hx : x < n) (hj : (sc (ks x)).length ≤ j) : SR sc n (x + 1) 0 ks dp := by
  obtain ⟨⟨⟨n0, k0, x0, xn⟩, hi, hR⟩, ⟨h2, h3⟩, ⟨h4, h5⟩, h6, h7⟩ := B
  refine ⟨⟨⟨n0, k0, by omega, by omega⟩, hi, hR⟩, ⟨fun i b i0 i1 hb => ?_, fun _ t ht => by omega⟩, ⟨h4, fun hx1 t t0 t1 => ?_⟩, h6, h7⟩
  · by_cases e : i = x
    · obtain ⟨t, ht, e2⟩ := hb
      rw [e] at ht e2 ⊢
      have := h3 hx t (by omega) ht
      rw [e2] at this
      exact this
    · exact h2 i b i0 (by omega) hb
  · have a := h5 hx t t0 t1
    have b := h4 x (x + 1) x0 (by omega) hx1
    omega
theorem SR.sub (B : SR sc n n 0 ks dp) (h : rCh sc k) : fnd n ks k := by
  obtain ⟨⟨⟨n0, k0, x0, xn⟩, hi, hR⟩, ⟨h2, h3⟩, -⟩ := B
  refine h (fun k => fnd n ks k) ⟨0, ⟨by decide, n0⟩, k0⟩ (fun a b ⟨t, ⟨a1, a2⟩, a3⟩ hb => ?_)
  rw [← a3] at hb
  exact (h2 t b a1 a2 hb).1
theorem SR.le (B : SR sc n n 0 ks dp) (C : SR sc m m 0 ks' dp') : ∀ (r : Nat) k, rCh sc k → dp k < r → dp' k ≤ dp k := by
  intro r
  induction r with
  | zero =>
    intro k hk hr
    obtain ⟨t, ⟨a, c⟩, e⟩ := B.sub hk
    have := B.2.2.2.2 t a c
    rw [e] at this
    omega
  | succ r ih =>
    intro k hk hr
    obtain ⟨t, ⟨a, c⟩, e⟩ := B.sub hk
    by_cases z : t = 0
    · rw [z, B.1.1.2.1] at e
      rw [← e, B.2.2.2.1.1, C.2.2.2.1.1]
      exact Int.le_refl _
    · obtain ⟨p, ⟨p0, p1⟩, a1, a2⟩ := B.2.2.2.1.2 t (by omega) c
      rw [e] at a1 a2
      have hp := B.1.2.2 p p0 p1
      have h1 := ih (ks p) hp (by omega)
      obtain ⟨s, ⟨s0, s1⟩, es⟩ := C.sub hp
      rw [← es] at a1 h1
      have := (C.2.1.1 s k s0 s1 a1).2
      rw [es] at h1 this
      omega
theorem SR.dpe (B : SR sc n n 0 ks dp) (C : SR sc m m 0 ks' dp') (hk : rCh sc k) : dp' k = dp k := by
  have h1 := B.le C (dp k + 1).toNat k hk (by omega)
  have h2 := C.le B (dp' k + 1).toNat k hk (by omega)
  omega
theorem SR.eq (B : SR sc n n 0 ks dp) (C : SR sc m m 0 ks' dp') (G : Int → Int) : n = m ∧ cV (fun i => G (ks i)) n = cV (fun i => G (ks' i)) m := by
  have hB := B.1.1
  have hC := C.1.1
  exact (en_sum (K := Int) (g := G) (a := ks) (b := ks') (by omega) (by omega) B.1.2.1 C.1.2.1 (fun i i0 i1 => C.sub (B.1.2.2 i i0 i1))).2 (fun t t0 t1 => B.sub (C.1.2.2 t t0 t1))
/-- no more than there are -/
theorem fnd_le (n0 : 0 ≤ n) (m0 : 0 ≤ m) (hi : ∀ i t, 0 ≤ i → i < n → 0 ≤ t → t < n → ks i = ks t → i = t) (hr : ∀ i, 0 ≤ i → i < n → 0 ≤ ks i ∧ ks i < m) : n ≤ m :=
  (en_sum (K := Int) (g := fun _ => 0) (a := ks) (b := fun i => i) n0 m0 hi (fun i t _ _ _ _ e => e) (fun i i0 i1 => ⟨ks i, hr i i0 i1, rfl⟩)).1
theorem WOK.un (h : WOK sc pl dn W) (h' : WOK sc pl dn W') (hs : ∀ a b, inS (pl a) b → inS (sc a) b) (hp : ∀ a b, rCh sc a → inS (pl a) b → 0 ≤ pot b ∧ pot b < pot a) : ∀ (r : Nat) a, rCh sc a → pot a < r → W a = W' a := by
  have key : ∀ (W W' : Int → Int), WOK sc pl dn W → WOK sc pl dn W' → ∀ (r : Nat) a, rCh sc a → pot a < r → (∀ b, inS (pl a) b → W b = W' b) → W a ≤ W' a := by
    intro W W' h h' r a ha _ hb
    by_cases d : dn a = 1
    · obtain ⟨b0, b1, b2⟩ := (h a ha).2 d
      obtain ⟨c0, c1, c2⟩ := (h' a ha).2 d
      rcases b2 with z | ⟨b, hbb, z⟩
      · omega
      · have := c1 b hbb
        rw [← hb b hbb] at this
        omega
    · rw [(h a ha).1 d, (h' a ha).1 d]
      exact Int.le_refl _
  intro r
  induction r with
  | zero =>
    intro a ha hr
    have e : ∀ b, inS (pl a) b → W b = W' b := fun b hb => by
      have := hp a b ha hb
      omega
    have h1 := key W W' h h' (pot a + 1).toNat a ha (by omega) e
    have h2 := key W' W h' h (pot a + 1).toNat a ha (by omega) (fun b hb => (e b hb).symm)
    omega
  | succ r ih =>
    intro a ha hr
    have e : ∀ b, inS (pl a) b → W b = W' b := fun b hb => by
      have := hp a b ha hb
      exact ih b (ha.st (hs a b hb)) (by omega)
    have h1 := key W W' h h' (pot a + 1).toNat a ha (by omega) e
    have h2 := key W' W h' h (pot a + 1).toNat a ha (by omega) (fun b hb => (e b hb).symm)
    omega
theorem SR.mx (B : SR sc n n 0 ks dp) (C : SR sc m m 0 ks' dp') {G : Int → Int} (h : Mx l (fun i => G (ks i)) n y) (h' : Mx l (fun i => G (ks' i)) m z) : y = z := by
  refine Mx.eq h h' (fun i i0 i1 => ?_) (fun i i0 i1 => ?_)
  · obtain ⟨t, ht, e⟩ := C.sub (B.1.2.2 i i0 i1)
    exact ⟨t, ht, by rw [e]⟩
  · obtain ⟨t, ht, e⟩ := B.sub (C.1.2.2 i i0 i1)
    exact ⟨t, ht, by rw [e]⟩
theorem aVal.eq (B : SR sc n n 0 ks dp) (C : SR sc m m 0 ks' dp') (hs : ∀ a b, inS (pl a) b → inS (sc a) b) (hp : ∀ a b, rCh sc a → inS (pl a) b → 0 ≤ pot b ∧ pot b < pot a) (hx : 0 ≤ x ∧ x ≤ 7) (h : aVal sc pl hd dd dn full n ks dp x y) (h' : aVal sc pl hd dd dn full m ks' dp' x z) : y = z := by
  obtain ⟨⟨a0, a1, a2⟩, ⟨a3, a4, a5⟩, a6, a7⟩ := h
  obtain ⟨⟨b0, b1, b2⟩, ⟨b3, b4, b5⟩, b6, b7⟩ := h'
  rcases (by omega : x = 0 ∨ x = 1 ∨ x = 2 ∨ x = 3 ∨ x = 4 ∨ x = 5 ∨ x = 6 ∨ x = 7) with e | e | e | e | e | e | e | e
  · rw [a0 e, b0 e]
    exact (B.eq C (fun _ => 0)).1
  · rw [a1 e, b1 e]
    exact (B.eq C (fun k => if hd k = full then 1 else 0)).2
  · rw [a2 e, b2 e]
    exact (B.eq C dd).2
  · rcases a3 e with ⟨y1, ha⟩ | ⟨⟨i, ⟨i0, i1⟩, hi, hd1⟩, ha⟩
    · rcases b3 e with ⟨z1, -⟩ | ⟨⟨t, ⟨t0, t1⟩, ht, -⟩, -⟩
      · rw [y1, z1]
      · obtain ⟨s, ⟨s0, s1⟩, es⟩ := B.sub (C.1.2.2 t t0 t1)
        rw [← es] at ht
        exact absurd ht (ha s s0 s1)
    · have hRi := B.1.2.2 i i0 i1
      obtain ⟨s, ⟨s0, s1⟩, es⟩ := C.sub hRi
      rcases b3 e with ⟨z1, hb⟩ | ⟨⟨t, ⟨t0, t1⟩, ht, hd2⟩, hb⟩
      · rw [← es] at hi
        exact absurd hi (hb s s0 s1)
      · have hRt := C.1.2.2 t t0 t1
        obtain ⟨u, ⟨u0, u1⟩, eu⟩ := B.sub hRt
        have c1 := hb s s0 s1 (by rw [es]; exact hi)
        have c2 := ha u u0 u1 (by rw [eu]; exact ht)
        rw [es, B.dpe C hRi, hd1] at c1
        rw [eu, ← B.dpe C hRt, hd2] at c2
        omega
  · exact B.mx C (a4 e) (b4 e)
  · rw [a5 e, b5 e]
    exact (B.eq C dn).2
  · rcases a6 e with ⟨y1, hy⟩ | ⟨y1, hy⟩
    · rcases b6 e with ⟨z1, hz⟩ | ⟨z1, hz⟩
      · rw [y1, z1]
      · exact absurd hy hz
    · rcases b6 e with ⟨z1, hz⟩ | ⟨z1, hz⟩
      · exact absurd hz hy
      · rw [y1, z1]
  · obtain ⟨W, hW, hm⟩ := a7 e
    obtain ⟨W', hW', hm'⟩ := b7 e
    have ew : ∀ a, rCh sc a → W a = W' a := fun a ha => hW.un hW' hs hp (pot a + 1).toNat a ha (by omega)
    refine Mx.eq hm hm' (fun i i0 i1 => ?_) (fun i i0 i1 => ?_)
    · obtain ⟨t, ht, et⟩ := C.sub (B.1.2.2 i i0 i1)
      exact ⟨t, ht, by rw [et, ew _ (B.1.2.2 i i0 i1)]⟩
    · obtain ⟨t, ht, et⟩ := B.sub (C.1.2.2 i i0 i1)
      exact ⟨t, ht, by rw [et, ew _ (C.1.2.2 i i0 i1)]⟩
theorem SR.dpi (B : SR sc n x j ks dp) : ∀ (r : Nat) i, 0 ≤ i → i < n → i < r → dp (ks i) ≤ i := by
  intro r
  induction r with
  | zero => intro i _ _ _; omega
  | succ r ih =>
    intro i i0 i1 hr
    by_cases z : i = 0
    · rw [z, B.1.1.2.1, B.2.2.2.1.1]; exact Int.le_refl _
    · obtain ⟨p, ⟨p0, p1⟩, -, a2⟩ := B.2.2.2.1.2 i (by omega) i1
      have hpi : p < i := Decidable.by_contra fun u => by
        have := B.2.2.1.1 i p i0 (by omega) p1
        omega
      have := ih p p0 p1 (by omega)
      omega
end AU
/-! one ring alone: the waits that there are -/
def isWm (f : Int → Int) (L : List Int) (y : Int) : Prop := 0 ≤ y ∧ (∀ b, inS L b → f b + 1 ≤ y) ∧ (y = 0 ∨ ∃ b, inS L b ∧ y = f b + 1)
def wmx (f : Int → Int) : List Int → Int
  | [] => 0
  | b :: L => if wmx f L < f b + 1 then f b + 1 else wmx f L
def wsq (pl : Int → List Int) (dn : Int → Int) : Nat → Int → Int
  | 0, _ => 0
  | m + 1, a => if dn a = 1 then wmx (wsq pl dn m) (pl a) else 0
def Wst (pl : Int → List Int) (dn : Int → Int) (a : Int) : Int := wsq pl dn 30 a
section AW
variable {sc pl : Int → List Int} {n x i t k b a y z : Int} {j m : Nat} {ks dp dn W pot f f' : Int → Int} {L : List Int}
theorem inS_c : inS (a :: L) x ↔ x = a ∨ inS L x := by
  refine ⟨fun ⟨i, hi, e⟩ => ?_, fun h => ?_⟩
  · cases i with
    | zero => exact Or.inl e.symm
    | succ i => exact Or.inr ⟨i, by simp only [List.length_cons] at hi; omega, e⟩
  · rcases h with h | ⟨i, hi, e⟩
    · exact ⟨0, by simp only [List.length_cons]; omega, h.symm⟩
    · exact ⟨i + 1, by simp only [List.length_cons]; omega, e⟩
theorem wmx_ok : isWm f L (wmx f L) := by
  induction L with
  | nil => exact ⟨Int.le_refl _, fun b hb => by obtain ⟨i, hi, -⟩ := hb; exact absurd hi (by simp), Or.inl rfl⟩
  | cons a L ih =>
    obtain ⟨h0, h1, h2⟩ := ih
    show isWm f (a :: L) (if wmx f L < f a + 1 then f a + 1 else wmx f L)
    by_cases c : wmx f L < f a + 1
    · rw [if_pos c]
      refine ⟨by omega, fun b hb => ?_, Or.inr ⟨a, inS_c.mpr (Or.inl rfl), rfl⟩⟩
      rcases inS_c.mp hb with z | z
      · rw [z]; exact Int.le_refl _
      · have := h1 b z
        omega
    · rw [if_neg c]
      refine ⟨h0, fun b hb => ?_, ?_⟩
      · rcases inS_c.mp hb with z | z
        · rw [z]; omega
        · exact h1 b z
      · rcases h2 with z | ⟨b, hb, z⟩
        · exact Or.inl z
        · exact Or.inr ⟨b, inS_c.mpr (Or.inr hb), z⟩
theorem isWm.le (h : isWm f L y) (h' : isWm f' L z) (hf : ∀ b, inS L b → f b ≤ f' b) : y ≤ z := by
  rcases h.2.2 with e | ⟨b, hb, e⟩
  · have := h'.1
    omega
  · have := h'.2.1 b hb
    have := hf b hb
    omega
theorem isWm.un (h : isWm f L y) (h' : isWm f' L z) (hf : ∀ b, inS L b → f b = f' b) : y = z := by
  have a := h.le h' (fun b hb => by rw [hf b hb]; exact Int.le_refl _)
  have b := h'.le h (fun b hb => by rw [hf b hb]; exact Int.le_refl _)
  omega
theorem wsq_lev (hs : ∀ a b, inS (pl a) b → inS (sc a) b) (hp : ∀ a, rCh sc a → 0 ≤ pot a ∧ ∀ b, inS (pl a) b → pot b < pot a) : ∀ (m : Nat) a, rCh sc a → pot a < m → wsq pl dn (m + 1) a = wsq pl dn m a := by
  intro m
  induction m with
  | zero =>
    intro a ha hm
    have := (hp a ha).1
    omega
  | succ m ih =>
    intro a ha hm
    show (if dn a = 1 then wmx (wsq pl dn (m + 1)) (pl a) else 0) = if dn a = 1 then wmx (wsq pl dn m) (pl a) else 0
    by_cases d : dn a = 1
    · rw [if_pos d, if_pos d]
      refine isWm.un wmx_ok wmx_ok (fun b hb => ih b (ha.st (hs a b hb)) ?_)
      have := (hp a ha).2 b hb
      omega
    · rw [if_neg d, if_neg d]
theorem Wst_ok (hs : ∀ a b, inS (pl a) b → inS (sc a) b) (hp : ∀ a, rCh sc a → 0 ≤ pot a ∧ ∀ b, inS (pl a) b → pot b < pot a) (h24 : ∀ a, rCh sc a → pot a ≤ 24) : ∀ a, rCh sc a → (dn a ≠ 1 → Wst pl dn a = 0) ∧ (dn a = 1 → isWm (Wst pl dn) (pl a) (Wst pl dn a)) := by
  intro a ha
  have e : Wst pl dn a = if dn a = 1 then wmx (wsq pl dn 29) (pl a) else 0 := rfl
  refine ⟨fun d => by rw [e, if_neg d], fun d => ?_⟩
  rw [e, if_pos d]
  obtain ⟨h0, h1, h2⟩ := wmx_ok (f := wsq pl dn 29) (L := pl a)
  have eb : ∀ b, inS (pl a) b → Wst pl dn b = wsq pl dn 29 b := fun b hb => by
    have hb' := ha.st (hs a b hb)
    have := h24 b hb'
    exact wsq_lev hs hp 29 b hb' (by omega)
  refine ⟨h0, fun b hb => by rw [eb b hb]; exact h1 b hb, ?_⟩
  rcases h2 with z | ⟨b, hb, z⟩
  · exact Or.inl z
  · exact Or.inr ⟨b, hb, by rw [eb b hb]; exact z⟩
theorem Wst_w (hs : ∀ a b, inS (pl a) b → inS (sc a) b) (hp : ∀ a, rCh sc a → 0 ≤ pot a ∧ ∀ b, inS (pl a) b → pot b < pot a) (h24 : ∀ a, rCh sc a → pot a ≤ 24) : WOK sc pl dn (Wst pl dn) := fun a ha => Wst_ok hs hp h24 a ha
theorem Wst_24 (hs : ∀ a b, inS (pl a) b → inS (sc a) b) (hp : ∀ a, rCh sc a → 0 ≤ pot a ∧ ∀ b, inS (pl a) b → pot b < pot a) (h24 : ∀ a, rCh sc a → pot a ≤ 24) : ∀ (m : Nat) a, rCh sc a → pot a < m → 0 ≤ Wst pl dn a ∧ Wst pl dn a ≤ pot a := by
  intro m
  induction m with
  | zero =>
    intro a ha hm
    have := (hp a ha).1
    omega
  | succ m ih =>
    intro a ha hm
    have h := Wst_ok (dn := dn) hs hp h24 a ha
    have h0 := (hp a ha).1
    by_cases d : dn a = 1
    · obtain ⟨h1, h2, h3⟩ := h.2 d
      refine ⟨h1, ?_⟩
      rcases h3 with z | ⟨b, hb, z⟩
      · omega
      · have hb2 := (hp a ha).2 b hb
        have := (ih b (ha.st (hs a b hb)) (by omega)).2
        omega
    · rw [h.1 d]
      omega
end AW
