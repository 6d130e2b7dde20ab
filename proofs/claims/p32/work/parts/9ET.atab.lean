/-! one ring alone: the states, numbered in two ways -/
def dg (K s v : Int) : Int := dwk K v.toNat s % K
def cr (K n s : Int) : Int := dwk K n.toNat s
def nmB (K n : Int) (h : Int → Int) (c : Int) : Int := nmS K h n.toNat c
def kp (K : Int) : Nat → Int
  | 0 => 1
  | j + 1 => kp K j * K
def sK (K : Int) (h : Int → Int) : Nat → Int
  | 0 => 0
  | j + 1 => sK K h j + h j * kp K j
def dU (h : Int → Int) (v x : Int) : Int → Int := fun i => if i = v then x else h i
/-- the class's number of a queue -/
def tcS (g : Int) : Nat → Int → Int
  | 0, _ => 0
  | m + 1, k => if lq g k = 0 then 0 else qgo g k + 1 + g * tcS g m (qwo g k)
def tc (g k : Int) : Int := tcS g 4 k
def alnS (g e : Int) : Nat → Int → Int → Int
  | 0, x2, _ => x2
  | m + 1, x2, x3 => if x3 ≤ 0 then x2 else if x2 < e then alnS g e m (x2 + 1) ((x3 - 1) / g) else x2
def aln (g e k : Int) : Int := alnS g e 5 0 k
/-- the class's number of a state -/
def fC (g K n s : Int) : Int := nmB K n (fun v => tc g (dg K s v)) (cr K n s)
def atb (g e K : Int) (k : Int) : Prop := ((0 ≤ tc g k ∧ tc g k < K) ∧ aln g e (tc g k) = lq g k ∧ (lq g k = 0 → tc g k = 0)) ∧ (lq g k ≠ 0 → 1 ≤ tc g k ∧ (tc g k - 1) % g = qgo g k ∧ (tc g k - 1) / g = tc g (qwo g k)) ∧ (lq g k < e → ∀ x : Nat, (x : Int) < g → tc g (qwi g k x) = tc g k + (x + 1) * pw g (lq g k).toNat)
/-- a list of steps -/
def inS (L : List Int) (b : Int) : Prop := ∃ i : Nat, i < L.length ∧ L.getD i 0 = b
def inL (cell : Int → Int) (cnt : Int) (L : List Int) (f : Int → Int) : Prop := cnt = (L.length : Int) ∧ ∀ i : Nat, i < L.length → cell i = f (L.getD i 0)
def mayQ (e r c g q v : Int) : Bool := decide ((if r = 1 ∨ (r = 2 ∧ c = v) then 2 else 1) ≤ e - lq g q)
def fsL (n e g K r s v : Int) : List Int :=
  if lq g (dg K s v) = 0 then [] else
  if qgo g (dg K s v) ≤ 0 then [nmB K n (dU (dg K s) v (qwo g (dg K s v))) (cr K n s)] else
  if e - lq g (dg K s ((v + 1) % n)) = 0 then [] else
  [nmB K n (dU (dU (dg K s) v (qwo g (dg K s v))) ((v + 1) % n) (qwi g (dg K s ((v + 1) % n)) (qgo g (dg K s v) - 1))) (if r = 2 ∧ cr K n s = (v + 1) % n ∧ e - lq g (dg K s ((v + 1) % n)) = 1 then v else cr K n s)]
def plL (n e g K r s : Int) : Nat → List Int
  | 0 => []
  | j + 1 => plL n e g K r s j ++ fsL n e g K r s j
def enV (n g K s v : Int) : Nat → List Int
  | 0 => []
  | y + 1 => enV n g K s v y ++ [nmB K n (dU (dg K s) v (qwi g (dg K s v) y)) (cr K n s)]
def enL (n e g K r s : Int) : Nat → List Int
  | 0 => []
  | j + 1 => enL n e g K r s j ++ (if mayQ e r (cr K n s) g (dg K s j) j = true then enV n g K s j g.toNat else [])
def plA (n e g K r s : Int) : List Int := plL n e g K r s n.toNat
def scA (n e g K r s : Int) : List Int := plA n e g K r s ++ enL n e g K r s n.toNat
section AT
variable {w w' w0 : qMem} {n e g K N k x y l s v c r cnt t : Int} {h h1 h2 cell cell' : Int → Int} {f : Int → Int} {i j m : Nat} {L M : List Int}
/-! lists -/
theorem gd_l : ∀ (L : List Int) (i : Nat), i < L.length → (L ++ M).getD i 0 = L.getD i 0 := by
  intro L
  induction L with
  | nil => intro i hi; exact absurd hi (by simp)
  | cons a L ih =>
    intro i hi
    cases i with
    | zero => rfl
    | succ i => exact ih i (by simp only [List.length_cons] at hi; omega)
theorem gd_r : ∀ (L : List Int), (L ++ [x]).getD L.length 0 = x := by
  intro L
  induction L with
  | nil => rfl
  | cons a L ih => exact ih
theorem gd_a : ∀ (L : List Int) (i : Nat), (L ++ M).getD (L.length + i) 0 = M.getD i 0 := by
  intro L
  induction L with
  | nil => intro i; rw [List.length_nil, Nat.zero_add]; rfl
  | cons a L ih =>
    intro i
    rw [List.length_cons, show L.length + 1 + i = (L.length + i) + 1 by omega]
    exact ih i
theorem len_1 : (L ++ [x]).length = L.length + 1 := by rw [List.length_append]; rfl
theorem inL.nil : inL cell 0 [] f := ⟨rfl, fun i hi => absurd hi (by simp)⟩
theorem inL.add (hL : inL cell cnt L f) (hc : ∀ i, cell' i = if i = cnt then f x else cell i) : inL cell' (cnt + 1) (L ++ [x]) f := by
  refine ⟨by rw [len_1, hL.1]; omega, fun i hi => ?_⟩
  rw [len_1] at hi
  have e := hL.1
  rw [hc]
  by_cases z : i = L.length
  · rw [if_pos (by omega), z, gd_r]
  · rw [if_neg (by omega), gd_l L i (by omega)]
    exact hL.2 i (by omega)
theorem inS.app (hb : inS L x) : inS (L ++ M) x := by
  obtain ⟨i, hi, e⟩ := hb
  exact ⟨i, by rw [List.length_append]; omega, by rw [gd_l L i hi]; exact e⟩
/-! numbers and digits -/
theorem nmS_co : ∀ (j : Nat) (x : Int), (∀ i : Nat, i < j → h1 i = h2 i) → nmS K h1 j x = nmS K h2 j x := by
  intro j
  induction j with
  | zero => intro x _; rfl
  | succ j ih =>
    intro x hh
    show nmS K h1 j (x * K + h1 j) = nmS K h2 j (x * K + h2 j)
    rw [hh j (by omega)]
    exact ih _ (fun i hi => hh i (by omega))
theorem nm_co (n0 : 0 ≤ n) (hh : ∀ i, 0 ≤ i → i < n → h1 i = h2 i) : nmB K n h1 c = nmB K n h2 c := nmS_co n.toNat c (fun i hi => hh i (by omega) (by omega))
theorem nmS_s : ∀ (j : Nat) (y : Int), nmS K h j y = y * kp K j + sK K h j := by
  intro j
  induction j with
  | zero => intro y; show y = y * 1 + 0; omega
  | succ j ih =>
    intro y
    show nmS K h j (y * K + h j) = y * (kp K j * K) + (sK K h j + h j * kp K j)
    rw [ih, Int.add_mul, Int.mul_assoc, Int.mul_comm K (kp K j)]
    omega
theorem sK_u : ∀ j : Nat, sK K (dU h i x) j = sK K h j + (if i < j then (x - h i) * kp K i else 0) := by
  intro j
  induction j with
  | zero => show (0 : Int) = 0 + _; rw [if_neg (by omega)]; rfl
  | succ j ih =>
    show sK K (dU h i x) j + dU h i x j * kp K j = sK K h j + h j * kp K j + _
    rw [ih]
    unfold dU
    by_cases z : i = j
    · rw [z, if_neg (by omega), if_pos rfl, if_pos (by omega), Int.sub_mul]
      omega
    · rw [if_neg (show ¬ ((j : Int) = (i : Int)) by omega)]
      by_cases u : i < j
      · rw [if_pos u, if_pos (by omega)]
        omega
      · rw [if_neg u, if_neg (by omega)]
        omega
theorem nm_u (v0 : 0 ≤ v) (v1 : v < n) : nmB K n (dU h v x) c = nmB K n h c + (x - h v) * kp K v.toNat := by
  unfold nmB
  have e := sK_u (K := K) (h := h) (i := v.toNat) (x := x) n.toNat
  rw [if_pos (by omega), show ((v.toNat : Nat) : Int) = v by omega] at e
  rw [nmS_s, nmS_s, e]
  omega
theorem nm_c : nmB K n h x = nmB K n h c + (x - c) * kp K n.toNat := by
  unfold nmB
  rw [nmS_s, nmS_s, Int.sub_mul]
  omega
theorem nm_dg : ∀ j : Nat, nmS K (fun i => dg K s i) j (dwk K j s) = s := by
  intro j
  induction j with
  | zero => rfl
  | succ j ih =>
    show nmS K (fun i => dg K s i) j (dwk K j s / K * K + dwk K (j : Int).toNat s % K) = s
    rw [Int.toNat_natCast, Int.ediv_mul_add_emod]
    exact ih
theorem nm_self : nmB K n (dg K s) (cr K n s) = s := nm_dg n.toNat
theorem nm_in (hk : nek n e g K N) (hh : ∀ i, 0 ≤ i → i < n → 0 ≤ h i ∧ h i < K) (c0 : 0 ≤ c) (c1 : c < n) : 0 ≤ nmB K n h c ∧ nmB K n h c < N := by
  have := mnm_in (w := fun k j => if k = 95 then h j else c) hk ⟨fun k k0 k1 => hh k k0 k1, c0, c1⟩
  exact this
theorem dg_nm (hk : nek n e g K N) (hh : ∀ i, 0 ≤ i → i < n → 0 ≤ h i ∧ h i < K) (v0 : 0 ≤ v) (v1 : v < n) : dg K (nmB K n h c) v = h v := by
  have hb := hk.b
  have t := (dwk_nm (h := h) (K := K) (by omega) n.toNat c (fun i hi => hh i (by omega) (by omega))).2 v.toNat (by omega)
  rw [show ((v.toNat : Nat) : Int) = v by omega] at t
  exact t
theorem cr_nm (hk : nek n e g K N) (hh : ∀ i, 0 ≤ i → i < n → 0 ≤ h i ∧ h i < K) : cr K n (nmB K n h c) = c := by
  have hb := hk.b
  exact (dwk_nm (h := h) (K := K) (by omega) n.toNat c (fun i hi => hh i (by omega) (by omega))).1
theorem dg_in (hk : nek n e g K N) : 0 ≤ dg K s v ∧ dg K s v < K := by
  have hb := hk.b
  exact ⟨Int.emod_nonneg _ (by omega), Int.emod_lt_of_pos _ (by omega)⟩
theorem cr_in (hk : nek n e g K N) (s0 : 0 ≤ s) (s1 : s < N) : 0 ≤ cr K n s ∧ cr K n s < n := dwk_n hk s0 s1
/-! the tables of queues -/
theorem at_1 : ∀ k : Nat, k < 2 → ((0 ≤ tc 1 k ∧ tc 1 k < 2) ∧ aln 1 1 (tc 1 k) = lq 1 k ∧ (lq 1 k = 0 → tc 1 k = 0)) ∧ (lq 1 k ≠ 0 → 1 ≤ tc 1 k ∧ (tc 1 k - 1) % 1 = qgo 1 k ∧ (tc 1 k - 1) / 1 = tc 1 (qwo 1 k)) ∧ (lq 1 k < 1 → ∀ x : Nat, x < 1 → tc 1 (qwi 1 k x) = tc 1 k + (x + 1) * pw 1 (lq 1 k).toNat) := by decide +kernel
theorem at_2 : ∀ k : Nat, k < 3 → ((0 ≤ tc 1 k ∧ tc 1 k < 3) ∧ aln 1 2 (tc 1 k) = lq 1 k ∧ (lq 1 k = 0 → tc 1 k = 0)) ∧ (lq 1 k ≠ 0 → 1 ≤ tc 1 k ∧ (tc 1 k - 1) % 1 = qgo 1 k ∧ (tc 1 k - 1) / 1 = tc 1 (qwo 1 k)) ∧ (lq 1 k < 2 → ∀ x : Nat, x < 1 → tc 1 (qwi 1 k x) = tc 1 k + (x + 1) * pw 1 (lq 1 k).toNat) := by decide +kernel
theorem at_3 : ∀ k : Nat, k < 4 → ((0 ≤ tc 1 k ∧ tc 1 k < 4) ∧ aln 1 3 (tc 1 k) = lq 1 k ∧ (lq 1 k = 0 → tc 1 k = 0)) ∧ (lq 1 k ≠ 0 → 1 ≤ tc 1 k ∧ (tc 1 k - 1) % 1 = qgo 1 k ∧ (tc 1 k - 1) / 1 = tc 1 (qwo 1 k)) ∧ (lq 1 k < 3 → ∀ x : Nat, x < 1 → tc 1 (qwi 1 k x) = tc 1 k + (x + 1) * pw 1 (lq 1 k).toNat) := by decide +kernel
theorem at_4 : ∀ k : Nat, k < 3 → ((0 ≤ tc 2 k ∧ tc 2 k < 3) ∧ aln 2 1 (tc 2 k) = lq 2 k ∧ (lq 2 k = 0 → tc 2 k = 0)) ∧ (lq 2 k ≠ 0 → 1 ≤ tc 2 k ∧ (tc 2 k - 1) % 2 = qgo 2 k ∧ (tc 2 k - 1) / 2 = tc 2 (qwo 2 k)) ∧ (lq 2 k < 1 → ∀ x : Nat, x < 2 → tc 2 (qwi 2 k x) = tc 2 k + (x + 1) * pw 2 (lq 2 k).toNat) := by decide +kernel
theorem at_5 : ∀ k : Nat, k < 7 → ((0 ≤ tc 2 k ∧ tc 2 k < 7) ∧ aln 2 2 (tc 2 k) = lq 2 k ∧ (lq 2 k = 0 → tc 2 k = 0)) ∧ (lq 2 k ≠ 0 → 1 ≤ tc 2 k ∧ (tc 2 k - 1) % 2 = qgo 2 k ∧ (tc 2 k - 1) / 2 = tc 2 (qwo 2 k)) ∧ (lq 2 k < 2 → ∀ x : Nat, x < 2 → tc 2 (qwi 2 k x) = tc 2 k + (x + 1) * pw 2 (lq 2 k).toNat) := by decide +kernel
theorem at_6 : ∀ k : Nat, k < 15 → ((0 ≤ tc 2 k ∧ tc 2 k < 15) ∧ aln 2 3 (tc 2 k) = lq 2 k ∧ (lq 2 k = 0 → tc 2 k = 0)) ∧ (lq 2 k ≠ 0 → 1 ≤ tc 2 k ∧ (tc 2 k - 1) % 2 = qgo 2 k ∧ (tc 2 k - 1) / 2 = tc 2 (qwo 2 k)) ∧ (lq 2 k < 3 → ∀ x : Nat, x < 2 → tc 2 (qwi 2 k x) = tc 2 k + (x + 1) * pw 2 (lq 2 k).toNat) := by decide +kernel
theorem at_7 : ∀ k : Nat, k < 4 → ((0 ≤ tc 3 k ∧ tc 3 k < 4) ∧ aln 3 1 (tc 3 k) = lq 3 k ∧ (lq 3 k = 0 → tc 3 k = 0)) ∧ (lq 3 k ≠ 0 → 1 ≤ tc 3 k ∧ (tc 3 k - 1) % 3 = qgo 3 k ∧ (tc 3 k - 1) / 3 = tc 3 (qwo 3 k)) ∧ (lq 3 k < 1 → ∀ x : Nat, x < 3 → tc 3 (qwi 3 k x) = tc 3 k + (x + 1) * pw 3 (lq 3 k).toNat) := by decide +kernel
theorem at_i1 : ∀ k : Nat, k < 4 → ∀ l : Nat, l < 4 → tc 1 k = tc 1 l → k = l := by decide +kernel
theorem at_i2 : ∀ k : Nat, k < 15 → ∀ l : Nat, l < 15 → tc 2 k = tc 2 l → k = l := by decide +kernel
theorem at_i3 : ∀ k : Nat, k < 4 → ∀ l : Nat, l < 4 → tc 3 k = tc 3 l → k = l := by decide +kernel
theorem atb_of (hk : nek n e g K N) (k0 : 0 ≤ k) (k1 : k < K) : atb g e K k := by
  have ek : ((k.toNat : Nat) : Int) = k := by omega
  unfold atb
  rw [← ek]
  rcases hk with ⟨⟨rfl, rfl⟩, h⟩ | ⟨⟨rfl, rfl⟩, h⟩ | ⟨⟨rfl, rfl⟩, rfl, rfl, rfl⟩
  · rcases h with ⟨rfl, rfl, rfl⟩ | ⟨rfl, rfl, rfl⟩ | ⟨rfl, rfl, rfl⟩
    · have t := at_1 k.toNat (by omega)
      exact ⟨t.1, t.2.1, fun a x b => t.2.2 a x (by omega)⟩
    · have t := at_2 k.toNat (by omega)
      exact ⟨t.1, t.2.1, fun a x b => t.2.2 a x (by omega)⟩
    · have t := at_3 k.toNat (by omega)
      exact ⟨t.1, t.2.1, fun a x b => t.2.2 a x (by omega)⟩
  · rcases h with ⟨rfl, rfl, rfl⟩ | ⟨rfl, rfl, rfl⟩ | ⟨rfl, rfl, rfl⟩
    · have t := at_4 k.toNat (by omega)
      exact ⟨t.1, t.2.1, fun a x b => t.2.2 a x (by omega)⟩
    · have t := at_5 k.toNat (by omega)
      exact ⟨t.1, t.2.1, fun a x b => t.2.2 a x (by omega)⟩
    · have t := at_6 k.toNat (by omega)
      exact ⟨t.1, t.2.1, fun a x b => t.2.2 a x (by omega)⟩
  · have t := at_7 k.toNat (by omega)
    exact ⟨t.1, t.2.1, fun a x b => t.2.2 a x (by omega)⟩
theorem tc_inj (hk : nek n e g K N) (k0 : 0 ≤ k) (k1 : k < K) (l0 : 0 ≤ l) (l1 : l < K) (e0 : tc g k = tc g l) : k = l := by
  have hb := hk.b
  have ek : ((k.toNat : Nat) : Int) = k := by omega
  have el : ((l.toNat : Nat) : Int) = l := by omega
  rw [← ek, ← el] at e0
  have : k.toNat = l.toNat := by
    rcases hk with ⟨⟨rfl, rfl⟩, h⟩ | ⟨⟨rfl, rfl⟩, h⟩ | ⟨⟨rfl, rfl⟩, rfl, rfl, rfl⟩
    · exact at_i1 k.toNat (by omega) l.toNat (by omega) e0
    · exact at_i2 k.toNat (by omega) l.toNat (by omega) e0
    · exact at_i3 k.toNat (by omega) l.toNat (by omega) e0
  omega
/-! the class's number of a state -/
theorem tcd_in (hk : nek n e g K N) : ∀ i, 0 ≤ i → i < n → 0 ≤ tc g (dg K s i) ∧ tc g (dg K s i) < K := fun i _ _ => (atb_of hk (dg_in hk).1 (dg_in hk).2).1.1
theorem fC_in (hk : nek n e g K N) (s0 : 0 ≤ s) (s1 : s < N) : 0 ≤ fC g K n s ∧ fC g K n s < N := nm_in hk (tcd_in hk) (cr_in hk s0 s1).1 (cr_in hk s0 s1).2
theorem fC_dg (hk : nek n e g K N) (v0 : 0 ≤ v) (v1 : v < n) : dg K (fC g K n s) v = tc g (dg K s v) := dg_nm hk (tcd_in hk) v0 v1
theorem fC_cr (hk : nek n e g K N) : cr K n (fC g K n s) = cr K n s := cr_nm hk (tcd_in hk)
theorem fC_inj (hk : nek n e g K N) (e0 : fC g K n s = fC g K n t) : s = t := by
  have hb := hk.b
  have ec : cr K n s = cr K n t := by rw [← fC_cr hk (s := s), ← fC_cr hk (s := t), e0]
  have ed : ∀ v, 0 ≤ v → v < n → dg K s v = dg K t v := fun v v0 v1 => by
    refine tc_inj hk (dg_in hk).1 (dg_in hk).2 (dg_in hk).1 (dg_in hk).2 ?_
    rw [← fC_dg hk v0 v1, ← fC_dg hk v0 v1, e0]
  rw [← nm_self (K := K) (n := n) (s := s), ← nm_self (K := K) (n := n) (s := t), ec]
  exact nm_co (by omega) ed
theorem fC_nm (hk : nek n e g K N) (hh : ∀ i, 0 ≤ i → i < n → 0 ≤ h i ∧ h i < K) : fC g K n (nmB K n h c) = nmB K n (fun v => tc g (h v)) c := by
  have hb := hk.b
  unfold fC
  rw [cr_nm hk hh]
  exact nm_co (by omega) (fun i i0 i1 => by rw [dg_nm hk hh i0 i1])
theorem fC_0 (hk : nek n e g K N) : fC g K n 0 = 0 := by
  have hb := hk.b
  rcases hk with ⟨⟨rfl, rfl⟩, h⟩ | ⟨⟨rfl, rfl⟩, h⟩ | ⟨⟨rfl, rfl⟩, rfl, rfl, rfl⟩
  · rcases h with ⟨rfl, rfl, rfl⟩ | ⟨rfl, rfl, rfl⟩ | ⟨rfl, rfl, rfl⟩ <;> decide +kernel
  · rcases h with ⟨rfl, rfl, rfl⟩ | ⟨rfl, rfl, rfl⟩ | ⟨rfl, rfl, rfl⟩ <;> decide +kernel
  · decide +kernel
/-- digits of a code, as they are read by weights -/
theorem dg_w (hk : nek n e g K N) (s0 : 0 ≤ s) (v0 : 0 ≤ v) (v1 : v < n) : s % kp K (v.toNat + 1) / kp K v.toNat = dg K s v := by
  have a : ∀ a K : Int, 0 < a → 0 < K → s % (a * K) / a = s / a % K := fun a K ha hK => by
    have h1 : s = s / (a * K) * (a * K) + s % (a * K) := (Int.ediv_mul_add_emod s (a * K)).symm
    have hm := Int.emod_nonneg s (b := a * K) (by have := Int.mul_pos ha hK; omega)
    have hm1 := Int.emod_lt_of_pos s (Int.mul_pos ha hK)
    have h2 : s / a = s / (a * K) * K + s % (a * K) / a := by
      have h3 : s = s % (a * K) + s / (a * K) * K * a := by
        rw [Int.mul_assoc, Int.mul_comm K a]
        omega
      have h4 : (s % (a * K) + s / (a * K) * K * a) / a = s % (a * K) / a + s / (a * K) * K := Int.add_mul_ediv_right _ _ (by omega)
      rw [← h3] at h4
      omega
    have h5 : 0 ≤ s % (a * K) / a ∧ s % (a * K) / a < K := ⟨Int.ediv_nonneg hm (by omega), by
      exact Int.ediv_lt_of_lt_mul ha (Int.lt_of_lt_of_le hm1 (Int.le_of_eq (Int.mul_comm a K)))⟩
    rw [h2, Int.add_comm, Int.add_mul_emod_self_right]
    exact (Int.emod_eq_of_lt h5.1 h5.2).symm
  have hb := hk.b
  have hp : ∀ j : Nat, 0 < kp K j := fun j => by
    induction j with
    | zero => show (0 : Int) < 1; decide
    | succ j ih => exact Int.mul_pos ih (by omega)
  have hd : ∀ j : Nat, dwk K j s = s / kp K j := fun j => by
    induction j with
    | zero => show s = s / 1; omega
    | succ j ih =>
      show dwk K j s / K = s / (kp K j * K)
      rw [ih, Int.ediv_ediv_of_nonneg (by have := hp j; omega)]
  unfold dg
  rw [hd]
  exact a (kp K v.toNat) K (hp _) (by omega)
end AT
