/-! one ring alone (the reference): queues by number, their tables -/
def pw (g : Int) : Nat → Int
  | 0 => 1
  | n + 1 => pw g n * g
def fk (g : Int) : Nat → Int
  | 0 => 0
  | n + 1 => fk g n + pw g n
def qgo (g k : Int) : Int := if lq g k = 0 then -1 else (k - fk g (lq g k).toNat) / pw g (lq g k - 1).toNat
def qwo (g k : Int) : Int := fk g (lq g k - 1).toNat + (k - fk g (lq g k).toNat) % pw g (lq g k - 1).toNat
def qwi (g k x : Int) : Int := fk g (lq g k + 1).toNat + (k - fk g (lq g k).toNat) * g + x
def ptS (g : Int) : Nat → Int → Int
  | 0, _ => 0
  | n + 1, k => if lq g k = 0 then 0 else qgo g k + 1 + ptS g n (qwo g k)
def pt (g k : Int) : Int := ptS g 4 k
/-- what holds of the queues of e places, of packets with g goals, K of them -/
def qtb (g e K : Int) (k : Int) : Prop := ((0 ≤ lq g k ∧ lq g k ≤ e) ∧ 0 ≤ pt g k ∧ pt g k ≤ 6) ∧ (lq g k ≠ 0 → ((0 ≤ qgo g k ∧ qgo g k < g) ∧ 0 ≤ qwo g k ∧ qwo g k < K) ∧ pt g (qwo g k) = pt g k - (qgo g k + 1)) ∧ (lq g k < e → ∀ x : Nat, (x : Int) < g → (0 ≤ qwi g k x ∧ qwi g k x < K) ∧ pt g (qwi g k x) = pt g k + x + 1)
/-- the cases: nodes, places, goals, kinds, states -/
def nek (n e g K N : Int) : Prop := ((n = 2 ∧ g = 1) ∧ ((e = 1 ∧ K = 2 ∧ N = 8) ∨ (e = 2 ∧ K = 3 ∧ N = 18) ∨ (e = 3 ∧ K = 4 ∧ N = 32))) ∨ ((n = 3 ∧ g = 2) ∧ ((e = 1 ∧ K = 3 ∧ N = 81) ∨ (e = 2 ∧ K = 7 ∧ N = 1029) ∨ (e = 3 ∧ K = 15 ∧ N = 10125))) ∨ (n = 4 ∧ g = 3) ∧ e = 1 ∧ K = 4 ∧ N = 1024
section MT
variable {w w' : qMem} {n e g K N k x l : Int}
theorem nek.b (h : nek n e g K N) : (2 ≤ n ∧ n ≤ 4) ∧ (1 ≤ e ∧ e ≤ 3) ∧ (1 ≤ g ∧ g ≤ 3) ∧ (g = n - 1) ∧ (2 ≤ K ∧ K ≤ 15) ∧ 8 ≤ N ∧ N ≤ 10125 := by
  unfold nek at h
  omega
theorem tb_1 : ∀ k : Nat, k < 2 → ((0 ≤ lq 1 k ∧ lq 1 k ≤ 1) ∧ 0 ≤ pt 1 k ∧ pt 1 k ≤ 6) ∧ (lq 1 k ≠ 0 → ((0 ≤ qgo 1 k ∧ qgo 1 k < 1) ∧ 0 ≤ qwo 1 k ∧ qwo 1 k < 2) ∧ pt 1 (qwo 1 k) = pt 1 k - (qgo 1 k + 1)) ∧ (lq 1 k < 1 → ∀ x : Nat, x < 1 → (0 ≤ qwi 1 k x ∧ qwi 1 k x < 2) ∧ pt 1 (qwi 1 k x) = pt 1 k + x + 1) := by decide +kernel
theorem tb_2 : ∀ k : Nat, k < 3 → ((0 ≤ lq 1 k ∧ lq 1 k ≤ 2) ∧ 0 ≤ pt 1 k ∧ pt 1 k ≤ 6) ∧ (lq 1 k ≠ 0 → ((0 ≤ qgo 1 k ∧ qgo 1 k < 1) ∧ 0 ≤ qwo 1 k ∧ qwo 1 k < 3) ∧ pt 1 (qwo 1 k) = pt 1 k - (qgo 1 k + 1)) ∧ (lq 1 k < 2 → ∀ x : Nat, x < 1 → (0 ≤ qwi 1 k x ∧ qwi 1 k x < 3) ∧ pt 1 (qwi 1 k x) = pt 1 k + x + 1) := by decide +kernel
theorem tb_3 : ∀ k : Nat, k < 4 → ((0 ≤ lq 1 k ∧ lq 1 k ≤ 3) ∧ 0 ≤ pt 1 k ∧ pt 1 k ≤ 6) ∧ (lq 1 k ≠ 0 → ((0 ≤ qgo 1 k ∧ qgo 1 k < 1) ∧ 0 ≤ qwo 1 k ∧ qwo 1 k < 4) ∧ pt 1 (qwo 1 k) = pt 1 k - (qgo 1 k + 1)) ∧ (lq 1 k < 3 → ∀ x : Nat, x < 1 → (0 ≤ qwi 1 k x ∧ qwi 1 k x < 4) ∧ pt 1 (qwi 1 k x) = pt 1 k + x + 1) := by decide +kernel
theorem tb_4 : ∀ k : Nat, k < 3 → ((0 ≤ lq 2 k ∧ lq 2 k ≤ 1) ∧ 0 ≤ pt 2 k ∧ pt 2 k ≤ 6) ∧ (lq 2 k ≠ 0 → ((0 ≤ qgo 2 k ∧ qgo 2 k < 2) ∧ 0 ≤ qwo 2 k ∧ qwo 2 k < 3) ∧ pt 2 (qwo 2 k) = pt 2 k - (qgo 2 k + 1)) ∧ (lq 2 k < 1 → ∀ x : Nat, x < 2 → (0 ≤ qwi 2 k x ∧ qwi 2 k x < 3) ∧ pt 2 (qwi 2 k x) = pt 2 k + x + 1) := by decide +kernel
theorem tb_5 : ∀ k : Nat, k < 7 → ((0 ≤ lq 2 k ∧ lq 2 k ≤ 2) ∧ 0 ≤ pt 2 k ∧ pt 2 k ≤ 6) ∧ (lq 2 k ≠ 0 → ((0 ≤ qgo 2 k ∧ qgo 2 k < 2) ∧ 0 ≤ qwo 2 k ∧ qwo 2 k < 7) ∧ pt 2 (qwo 2 k) = pt 2 k - (qgo 2 k + 1)) ∧ (lq 2 k < 2 → ∀ x : Nat, x < 2 → (0 ≤ qwi 2 k x ∧ qwi 2 k x < 7) ∧ pt 2 (qwi 2 k x) = pt 2 k + x + 1) := by decide +kernel
theorem tb_6 : ∀ k : Nat, k < 15 → ((0 ≤ lq 2 k ∧ lq 2 k ≤ 3) ∧ 0 ≤ pt 2 k ∧ pt 2 k ≤ 6) ∧ (lq 2 k ≠ 0 → ((0 ≤ qgo 2 k ∧ qgo 2 k < 2) ∧ 0 ≤ qwo 2 k ∧ qwo 2 k < 15) ∧ pt 2 (qwo 2 k) = pt 2 k - (qgo 2 k + 1)) ∧ (lq 2 k < 3 → ∀ x : Nat, x < 2 → (0 ≤ qwi 2 k x ∧ qwi 2 k x < 15) ∧ pt 2 (qwi 2 k x) = pt 2 k + x + 1) := by decide +kernel
theorem tb_7 : ∀ k : Nat, k < 4 → ((0 ≤ lq 3 k ∧ lq 3 k ≤ 1) ∧ 0 ≤ pt 3 k ∧ pt 3 k ≤ 6) ∧ (lq 3 k ≠ 0 → ((0 ≤ qgo 3 k ∧ qgo 3 k < 3) ∧ 0 ≤ qwo 3 k ∧ qwo 3 k < 4) ∧ pt 3 (qwo 3 k) = pt 3 k - (qgo 3 k + 1)) ∧ (lq 3 k < 1 → ∀ x : Nat, x < 3 → (0 ≤ qwi 3 k x ∧ qwi 3 k x < 4) ∧ pt 3 (qwi 3 k x) = pt 3 k + x + 1) := by decide +kernel
theorem qtb_of (h : nek n e g K N) (k0 : 0 ≤ k) (k1 : k < K) : qtb g e K k := by
  have hk : ((k.toNat : Nat) : Int) = k := by omega
  unfold qtb
  rw [← hk]
  rcases h with ⟨⟨rfl, rfl⟩, h⟩ | ⟨⟨rfl, rfl⟩, h⟩ | ⟨⟨rfl, rfl⟩, rfl, rfl, rfl⟩
  · rcases h with ⟨rfl, rfl, rfl⟩ | ⟨rfl, rfl, rfl⟩ | ⟨rfl, rfl, rfl⟩
    · have t := tb_1 k.toNat (by omega)
      exact ⟨t.1, t.2.1, fun a x b => t.2.2 a x (by omega)⟩
    · have t := tb_2 k.toNat (by omega)
      exact ⟨t.1, t.2.1, fun a x b => t.2.2 a x (by omega)⟩
    · have t := tb_3 k.toNat (by omega)
      exact ⟨t.1, t.2.1, fun a x b => t.2.2 a x (by omega)⟩
  · rcases h with ⟨rfl, rfl, rfl⟩ | ⟨rfl, rfl, rfl⟩ | ⟨rfl, rfl, rfl⟩
    · have t := tb_4 k.toNat (by omega)
      exact ⟨t.1, t.2.1, fun a x b => t.2.2 a x (by omega)⟩
    · have t := tb_5 k.toNat (by omega)
      exact ⟨t.1, t.2.1, fun a x b => t.2.2 a x (by omega)⟩
    · have t := tb_6 k.toNat (by omega)
      exact ⟨t.1, t.2.1, fun a x b => t.2.2 a x (by omega)⟩
  · have t := tb_7 k.toNat (by omega)
    exact ⟨t.1, t.2.1, fun a x b => t.2.2 a x (by omega)⟩
theorem fp_b : ∀ j : Nat, j < 6 → ((0 ≤ fk 1 j ∧ fk 1 j ≤ 500) ∧ 1 ≤ pw 1 j ∧ pw 1 j ≤ 500) ∧ ((0 ≤ fk 2 j ∧ fk 2 j ≤ 500) ∧ 1 ≤ pw 2 j ∧ pw 2 j ≤ 500) ∧ ((0 ≤ fk 3 j ∧ fk 3 j ≤ 500) ∧ 1 ≤ pw 3 j ∧ pw 3 j ≤ 500) := by decide +kernel
theorem fp_in {j : Nat} (g0 : 1 ≤ g ∧ g ≤ 3) (hj : j < 6) : (0 ≤ fk g j ∧ fk g j ≤ 500) ∧ 1 ≤ pw g j ∧ pw g j ≤ 500 := by
  have h := fp_b j hj
  rcases (by omega : g = 1 ∨ g = 2 ∨ g = 3) with rfl | rfl | rfl
  · exact h.1
  · exact h.2.1
  · exact h.2.2
theorem me_first (hg : w 88 13 = g) (g0 : 1 ≤ g ∧ g ≤ 3) (l0 : 0 ≤ l) (l1 : l < 6) : f_M_firstKind l w = some (fk g l.toNat, w) := by
  have key : ∀ (m j : Nat), (j : Int) ≤ l → l - j < m → f_M_firstKind_7 m l (fk g j) (pw g j) j w = some (fk g l.toNat, w) := by
    intro m
    induction m with
    | zero => intro j _ _; omega
    | succ m ih =>
      intro j a b
      have hb := fp_in (j := j) g0 (by omega)
      rw [f_M_firstKind_7, hg]
      by_cases c : (j : Int) < l
      · have hp : 0 ≤ pw g j * g ∧ pw g j * g ≤ 1500 := by
          rcases (by omega : g = 1 ∨ g = 2 ∨ g = 3) with rfl | rfl | rfl <;> omega
        rw [if_pos c, w32_ok (z := fk g j + pw g j) (by omega) (by omega), w32_ok (z := pw g j * g) (by omega) (by omega), w32_ok (z := (j : Int) + 1) (by omega) (by omega)]
        exact ih (j + 1) (by omega) (by omega)
      · rw [if_neg c, show l.toNat = j by omega]
  unfold f_M_firstKind
  exact key qFU 0 (by omega) (qFU_gt (by omega))
theorem me_power (hg : w 88 13 = g) (g0 : 1 ≤ g ∧ g ≤ 3) (l0 : 0 ≤ l) (l1 : l < 6) : f_M_power l w = some (pw g l.toNat, w) := by
  have key : ∀ (m j : Nat), (j : Int) ≤ l → l - j < m → f_M_power_4 m l (pw g j) j w = some (pw g l.toNat, w) := by
    intro m
    induction m with
    | zero => intro j _ _; omega
    | succ m ih =>
      intro j a b
      have hb := fp_in (j := j) g0 (by omega)
      rw [f_M_power_4, hg]
      by_cases c : (j : Int) < l
      · have hp : 0 ≤ pw g j * g ∧ pw g j * g ≤ 1500 := by
          rcases (by omega : g = 1 ∨ g = 2 ∨ g = 3) with rfl | rfl | rfl <;> omega
        rw [if_pos c, w32_ok (z := pw g j * g) (by omega) (by omega), w32_ok (z := (j : Int) + 1) (by omega) (by omega)]
        exact ih (j + 1) (by omega) (by omega)
      · rw [if_neg c, show l.toNat = j by omega]
  unfold f_M_power
  exact key qFU 0 (by omega) (qFU_gt (by omega))
theorem me_goal (h : nek n e g K N) (hg : w 88 13 = g) (k0 : 0 ≤ k) (k1 : k < K) : f_M_goalOf k w = some (qgo g k, w) := by
  have hb := h.b
  have t := qtb_of h k0 k1
  have tl : 0 ≤ lq g k ∧ lq g k ≤ e := t.1.1
  unfold f_M_goalOf qgo
  rw [qbd (me_long hg hb.2.2.1 k0 (by omega))]
  dsimp only
  by_cases z : lq g k = 0
  · rw [if_pos z, if_pos z]
  · have f1 := fp_in (j := (lq g k).toNat) hb.2.2.1 (by omega)
    have f2 := fp_in (j := (lq g k - 1).toNat) hb.2.2.1 (by omega)
    have tg := (t.2.1 z).1.1
    unfold qgo at tg
    rw [if_neg z] at tg
    rw [if_neg z, if_neg z, qbd (me_first hg hb.2.2.1 t.1.1.1 (by omega))]
    dsimp only
    rw [w32_ok (z := lq g k - 1) (by omega) (by omega), qbd (me_power hg hb.2.2.1 (by omega) (by omega))]
    dsimp only
    have hk : 0 ≤ k - fk g (lq g k).toNat := by
      by_cases c : k - fk g (lq g k).toNat < 0
      · have := Int.ediv_neg_of_neg_of_pos c (show 0 < pw g (lq g k - 1).toNat by omega)
        omega
      · omega
    rw [qdv_ok (by omega), w32_ok (by omega) (by omega), jdiv_ok hk (by omega) (by omega) (by omega)]
theorem me_hk (h : nek n e g K N) (k0 : 0 ≤ k) (k1 : k < K) (z : lq g k ≠ 0) : 0 ≤ k - fk g (lq g k).toNat := by
  have hb := h.b
  have t := qtb_of h k0 k1
  have tl : 0 ≤ lq g k ∧ lq g k ≤ e := t.1.1
  have f2 := fp_in (j := (lq g k - 1).toNat) hb.2.2.1 (by omega)
  have tg := (t.2.1 z).1.1
  unfold qgo at tg
  rw [if_neg z] at tg
  by_cases c : k - fk g (lq g k).toNat < 0
  · have := Int.ediv_neg_of_neg_of_pos c (show 0 < pw g (lq g k - 1).toNat by omega)
    omega
  · omega
theorem me_without (h : nek n e g K N) (hg : w 88 13 = g) (k0 : 0 ≤ k) (k1 : k < K) (z : lq g k ≠ 0) : f_M_without k w = some (qwo g k, w) := by
  have hb := h.b
  have t := qtb_of h k0 k1
  have tl : 0 ≤ lq g k ∧ lq g k ≤ e := t.1.1
  have hk := me_hk h k0 k1 z
  have f1 := fp_in (j := (lq g k).toNat) hb.2.2.1 (by omega)
  have f2 := fp_in (j := (lq g k - 1).toNat) hb.2.2.1 (by omega)
  have m0 := Int.emod_nonneg (k - fk g (lq g k).toNat) (b := pw g (lq g k - 1).toNat) (by omega)
  have m1 := Int.emod_lt_of_pos (k - fk g (lq g k).toNat) (b := pw g (lq g k - 1).toNat) (by omega)
  unfold f_M_without qwo
  rw [qbd (me_long hg hb.2.2.1 k0 (by omega))]
  dsimp only
  rw [w32_ok (z := lq g k - 1) (by omega) (by omega), qbd (me_first hg hb.2.2.1 (by omega) (by omega))]
  dsimp only
  rw [qbd (me_first hg hb.2.2.1 t.1.1.1 (by omega))]
  dsimp only
  rw [qbd (me_power hg hb.2.2.1 (by omega) (by omega))]
  dsimp only
  rw [qdv_ok (by omega), w32_ok (z := k - fk g (lq g k).toNat) (by omega) (by omega), jrem_ok hk (by omega) (by omega) (by omega), w32_ok (by omega) (by omega)]
theorem me_with (h : nek n e g K N) (hg : w 88 13 = g) (k0 : 0 ≤ k) (k1 : k < K) (z : lq g k < e) (x0 : 0 ≤ x) (x1 : x < g) : f_M_withOne k x w = some (qwi g k x, w) := by
  have hb := h.b
  have t := qtb_of h k0 k1
  have tl : 0 ≤ lq g k ∧ lq g k ≤ e := t.1.1
  have f1 := fp_in (j := (lq g k).toNat) hb.2.2.1 (by omega)
  have f2 := fp_in (j := (lq g k + 1).toNat) hb.2.2.1 (by omega)
  have hp : -1500 ≤ (k - fk g (lq g k).toNat) * g ∧ (k - fk g (lq g k).toNat) * g ≤ 1500 := by
    generalize fk g (lq g k).toNat = y at *
    rcases (by omega : g = 1 ∨ g = 2 ∨ g = 3) with rfl | rfl | rfl <;> omega
  unfold f_M_withOne qwi
  rw [qbd (me_long hg hb.2.2.1 k0 (by omega))]
  dsimp only
  rw [w32_ok (z := lq g k + 1) (by omega) (by omega), qbd (me_first hg hb.2.2.1 (by omega) (by omega))]
  dsimp only
  rw [qbd (me_first hg hb.2.2.1 t.1.1.1 (by omega))]
  dsimp only
  rw [hg, w32_ok (z := k - fk g (lq g k).toNat) (by omega) (by omega), w32_ok (z := (k - fk g (lq g k).toNat) * g) (by omega) (by omega), w32_ok (z := fk g (lq g k + 1).toNat + (k - fk g (lq g k).toNat) * g) (by omega) (by omega), w32_ok (by omega) (by omega)]
end MT
