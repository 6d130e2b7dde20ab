/-! the state of a torus: S f n, f the number of a cell in a net (35: what only the reference keeps) -/
def vv (f : Nat) (n : Int) : Prop := (f = 0 ∧ 6 ≤ n ∧ n ≤ 12) ∨ (f = 1 ∧ 3 ≤ n ∧ n ≤ 4) ∨ (f = 5 ∧ 13 ≤ n ∧ n ≤ 14) ∨ (6 ≤ f ∧ f ≤ 17 ∧ 0 ≤ n ∧ n < 250) ∨ (f = 18 ∧ 0 ≤ n ∧ n < 1250) ∨ (f = 20 ∧ 0 ≤ n ∧ n < 144) ∨ (f = 21 ∧ 0 ≤ n ∧ n < 864) ∨ (f = 22 ∧ n = 1) ∨ (f = 23 ∧ 0 ≤ n ∧ n < 320) ∨ (f = 24 ∧ n = 9) ∨ (25 ≤ f ∧ f ≤ 30 ∧ 0 ≤ n ∧ n < 16) ∨ (f = 31 ∧ 0 ≤ n ∧ n < 64) ∨ (f = 32 ∧ 0 ≤ n ∧ n < 16) ∨ (33 ≤ f ∧ f ≤ 34 ∧ 0 ≤ n ∧ n < 64) ∨ (f = 35 ∧ 0 ≤ n ∧ n ≤ 2)
/-- what is alive of it -/
def lv (S : qMem) (f : Nat) (n : Int) : Prop := vv f n ∧ (6 ≤ f → f ≤ 17 → n < S 5 13) ∧ (f = 18 → n < 5 * S 5 13 ∧ n % 5 ≤ S 12 (n / 5)) ∧ (f = 21 → n % 6 < S 20 (n / 6)) ∧ (f = 23 → n < 5 * S 22 1) ∧ (25 ≤ f → f ≤ 30 → n < 2 * (S 1 3 + S 1 4))
/-- where it stands in the reference's row -/
def ad (f : Nat) (n : Int) : Int := if f = 0 then (if n ≤ 10 then n - 4 else if n = 11 then 11 else 14) else if f = 1 then n - 3 else if f = 5 then n - 6 else if f ≤ 17 then 10 + 17 * n + f else if f = 18 then 28 + 17 * (n / 5) + n % 5 else if f = 20 then 4266 + 7 * n else if f = 21 then 4267 + 7 * (n / 6) + n % 6 else if f = 22 then 15 else if f = 23 then 5514 + n else if f = 24 then 12 else if f ≤ 30 then 5249 + 6 * n + f else if f = 31 then 5370 + n else if f = 32 then 5434 + n else if f = 33 then 5834 + n else if f = 34 then 5450 + n else if n = 0 then 9 else if n = 1 then 10 else 13
def RX (o : Nat) (w S : qMem) : Prop := ∀ (f : Nat) (n : Int), f < 35 → lv S f n → w (o + f) n = S f n
def RM (w S : qMem) : Prop := ∀ (f : Nat) (n : Int), lv S f n → w 89 (ad f n) = S f n
/-- the tables of the grid at o -/
def RG (o : Nat) (w : qMem) (W H : Int) : Prop := (w o 3 = W ∧ w o 4 = H) ∧ (w o 5 = W * H ∧ w o 6 = 2 * (W + H)) ∧ (∀ v d, 0 ≤ v → v < W * H → 0 ≤ d → d < 4 → w (o + 1) (v * 4 + d) = gn W H v d) ∧ (∀ v t, 0 ≤ v → v < W * H → 0 ≤ t → t < W * H → w (o + 2) (v * 16 + t) = gs W H v t) ∧ (∀ v t, 0 ≤ v → v < W * H → 0 ≤ t → t < W * H → w (o + 3) (v * 16 + t) = ge W H v t)
theorem vv_of {S : qMem} {f : Nat} {n : Int} (h : lv S f n) : vv f n := h.1
section LVS
variable {S : qMem} {n : Int}

theorem lv_6 (h0 : 0 ≤ n) (h1 : n < S 5 13) (h2 : S 5 13 ≤ 250) : lv S 6 n := ⟨by unfold vv; omega, fun _ _ => by omega, fun _ => by omega, fun _ => by omega, fun _ => by omega, fun _ _ => by omega⟩
theorem lv_7 (h0 : 0 ≤ n) (h1 : n < S 5 13) (h2 : S 5 13 ≤ 250) : lv S 7 n := ⟨by unfold vv; omega, fun _ _ => by omega, fun _ => by omega, fun _ => by omega, fun _ => by omega, fun _ _ => by omega⟩
theorem lv_8 (h0 : 0 ≤ n) (h1 : n < S 5 13) (h2 : S 5 13 ≤ 250) : lv S 8 n := ⟨by unfold vv; omega, fun _ _ => by omega, fun _ => by omega, fun _ => by omega, fun _ => by omega, fun _ _ => by omega⟩
theorem lv_9 (h0 : 0 ≤ n) (h1 : n < S 5 13) (h2 : S 5 13 ≤ 250) : lv S 9 n := ⟨by unfold vv; omega, fun _ _ => by omega, fun _ => by omega, fun _ => by omega, fun _ => by omega, fun _ _ => by omega⟩
theorem lv_10 (h0 : 0 ≤ n) (h1 : n < S 5 13) (h2 : S 5 13 ≤ 250) : lv S 10 n := ⟨by unfold vv; omega, fun _ _ => by omega, fun _ => by omega, fun _ => by omega, fun _ => by omega, fun _ _ => by omega⟩
theorem lv_11 (h0 : 0 ≤ n) (h1 : n < S 5 13) (h2 : S 5 13 ≤ 250) : lv S 11 n := ⟨by unfold vv; omega, fun _ _ => by omega, fun _ => by omega, fun _ => by omega, fun _ => by omega, fun _ _ => by omega⟩
theorem lv_12 (h0 : 0 ≤ n) (h1 : n < S 5 13) (h2 : S 5 13 ≤ 250) : lv S 12 n := ⟨by unfold vv; omega, fun _ _ => by omega, fun _ => by omega, fun _ => by omega, fun _ => by omega, fun _ _ => by omega⟩
theorem lv_13 (h0 : 0 ≤ n) (h1 : n < S 5 13) (h2 : S 5 13 ≤ 250) : lv S 13 n := ⟨by unfold vv; omega, fun _ _ => by omega, fun _ => by omega, fun _ => by omega, fun _ => by omega, fun _ _ => by omega⟩
theorem lv_14 (h0 : 0 ≤ n) (h1 : n < S 5 13) (h2 : S 5 13 ≤ 250) : lv S 14 n := ⟨by unfold vv; omega, fun _ _ => by omega, fun _ => by omega, fun _ => by omega, fun _ => by omega, fun _ _ => by omega⟩
theorem lv_15 (h0 : 0 ≤ n) (h1 : n < S 5 13) (h2 : S 5 13 ≤ 250) : lv S 15 n := ⟨by unfold vv; omega, fun _ _ => by omega, fun _ => by omega, fun _ => by omega, fun _ => by omega, fun _ _ => by omega⟩
theorem lv_16 (h0 : 0 ≤ n) (h1 : n < S 5 13) (h2 : S 5 13 ≤ 250) : lv S 16 n := ⟨by unfold vv; omega, fun _ _ => by omega, fun _ => by omega, fun _ => by omega, fun _ => by omega, fun _ _ => by omega⟩
theorem lv_17 (h0 : 0 ≤ n) (h1 : n < S 5 13) (h2 : S 5 13 ≤ 250) : lv S 17 n := ⟨by unfold vv; omega, fun _ _ => by omega, fun _ => by omega, fun _ => by omega, fun _ => by omega, fun _ _ => by omega⟩
theorem lv_18 (h0 : 0 ≤ n) (h1 : n < 5 * S 5 13) (h2 : S 5 13 ≤ 250) (h3 : n % 5 ≤ S 12 (n / 5)) : lv S 18 n := ⟨by unfold vv; omega, fun _ _ => by omega, fun _ => by omega, fun _ => by omega, fun _ => by omega, fun _ _ => by omega⟩
theorem lv_20 (h0 : 0 ≤ n) (h1 : n < 144) : lv S 20 n := ⟨by unfold vv; omega, fun _ _ => by omega, fun _ => by omega, fun _ => by omega, fun _ => by omega, fun _ _ => by omega⟩
theorem lv_21 (h0 : 0 ≤ n) (h1 : n < 864) (h2 : n % 6 < S 20 (n / 6)) : lv S 21 n := ⟨by unfold vv; omega, fun _ _ => by omega, fun _ => by omega, fun _ => by omega, fun _ => by omega, fun _ _ => by omega⟩
theorem lv_23 (h0 : 0 ≤ n) (h1 : n < 5 * S 22 1) (h2 : S 22 1 ≤ 64) : lv S 23 n := ⟨by unfold vv; omega, fun _ _ => by omega, fun _ => by omega, fun _ => by omega, fun _ => by omega, fun _ _ => by omega⟩
theorem lv_25 (h0 : 0 ≤ n) (h1 : n < 2 * (S 1 3 + S 1 4)) (h2 : 2 * (S 1 3 + S 1 4) ≤ 16) : lv S 25 n := ⟨by unfold vv; omega, fun _ _ => by omega, fun _ => by omega, fun _ => by omega, fun _ => by omega, fun _ _ => by omega⟩
theorem lv_26 (h0 : 0 ≤ n) (h1 : n < 2 * (S 1 3 + S 1 4)) (h2 : 2 * (S 1 3 + S 1 4) ≤ 16) : lv S 26 n := ⟨by unfold vv; omega, fun _ _ => by omega, fun _ => by omega, fun _ => by omega, fun _ => by omega, fun _ _ => by omega⟩
theorem lv_27 (h0 : 0 ≤ n) (h1 : n < 2 * (S 1 3 + S 1 4)) (h2 : 2 * (S 1 3 + S 1 4) ≤ 16) : lv S 27 n := ⟨by unfold vv; omega, fun _ _ => by omega, fun _ => by omega, fun _ => by omega, fun _ => by omega, fun _ _ => by omega⟩
theorem lv_28 (h0 : 0 ≤ n) (h1 : n < 2 * (S 1 3 + S 1 4)) (h2 : 2 * (S 1 3 + S 1 4) ≤ 16) : lv S 28 n := ⟨by unfold vv; omega, fun _ _ => by omega, fun _ => by omega, fun _ => by omega, fun _ => by omega, fun _ _ => by omega⟩
theorem lv_29 (h0 : 0 ≤ n) (h1 : n < 2 * (S 1 3 + S 1 4)) (h2 : 2 * (S 1 3 + S 1 4) ≤ 16) : lv S 29 n := ⟨by unfold vv; omega, fun _ _ => by omega, fun _ => by omega, fun _ => by omega, fun _ => by omega, fun _ _ => by omega⟩
theorem lv_30 (h0 : 0 ≤ n) (h1 : n < 2 * (S 1 3 + S 1 4)) (h2 : 2 * (S 1 3 + S 1 4) ≤ 16) : lv S 30 n := ⟨by unfold vv; omega, fun _ _ => by omega, fun _ => by omega, fun _ => by omega, fun _ => by omega, fun _ _ => by omega⟩
theorem lv_31 (h0 : 0 ≤ n) (h1 : n < 64) : lv S 31 n := ⟨by unfold vv; omega, fun _ _ => by omega, fun _ => by omega, fun _ => by omega, fun _ => by omega, fun _ _ => by omega⟩
theorem lv_32 (h0 : 0 ≤ n) (h1 : n < 16) : lv S 32 n := ⟨by unfold vv; omega, fun _ _ => by omega, fun _ => by omega, fun _ => by omega, fun _ => by omega, fun _ _ => by omega⟩
theorem lv_33 (h0 : 0 ≤ n) (h1 : n < 64) : lv S 33 n := ⟨by unfold vv; omega, fun _ _ => by omega, fun _ => by omega, fun _ => by omega, fun _ => by omega, fun _ _ => by omega⟩
theorem lv_34 (h0 : 0 ≤ n) (h1 : n < 64) : lv S 34 n := ⟨by unfold vv; omega, fun _ _ => by omega, fun _ => by omega, fun _ => by omega, fun _ => by omega, fun _ _ => by omega⟩
theorem lv_0_6 : lv S 0 6 := ⟨by unfold vv; omega, fun _ _ => by omega, fun _ => by omega, fun _ => by omega, fun _ => by omega, fun _ _ => by omega⟩
theorem lv_0_7 : lv S 0 7 := ⟨by unfold vv; omega, fun _ _ => by omega, fun _ => by omega, fun _ => by omega, fun _ => by omega, fun _ _ => by omega⟩
theorem lv_0_8 : lv S 0 8 := ⟨by unfold vv; omega, fun _ _ => by omega, fun _ => by omega, fun _ => by omega, fun _ => by omega, fun _ _ => by omega⟩
theorem lv_0_9 : lv S 0 9 := ⟨by unfold vv; omega, fun _ _ => by omega, fun _ => by omega, fun _ => by omega, fun _ => by omega, fun _ _ => by omega⟩
theorem lv_0_10 : lv S 0 10 := ⟨by unfold vv; omega, fun _ _ => by omega, fun _ => by omega, fun _ => by omega, fun _ => by omega, fun _ _ => by omega⟩
theorem lv_0_11 : lv S 0 11 := ⟨by unfold vv; omega, fun _ _ => by omega, fun _ => by omega, fun _ => by omega, fun _ => by omega, fun _ _ => by omega⟩
theorem lv_0_12 : lv S 0 12 := ⟨by unfold vv; omega, fun _ _ => by omega, fun _ => by omega, fun _ => by omega, fun _ => by omega, fun _ _ => by omega⟩
theorem lv_1_3 : lv S 1 3 := ⟨by unfold vv; omega, fun _ _ => by omega, fun _ => by omega, fun _ => by omega, fun _ => by omega, fun _ _ => by omega⟩
theorem lv_1_4 : lv S 1 4 := ⟨by unfold vv; omega, fun _ _ => by omega, fun _ => by omega, fun _ => by omega, fun _ => by omega, fun _ _ => by omega⟩
theorem lv_5_13 : lv S 5 13 := ⟨by unfold vv; omega, fun _ _ => by omega, fun _ => by omega, fun _ => by omega, fun _ => by omega, fun _ _ => by omega⟩
theorem lv_5_14 : lv S 5 14 := ⟨by unfold vv; omega, fun _ _ => by omega, fun _ => by omega, fun _ => by omega, fun _ => by omega, fun _ _ => by omega⟩
theorem lv_22_1 : lv S 22 1 := ⟨by unfold vv; omega, fun _ _ => by omega, fun _ => by omega, fun _ => by omega, fun _ => by omega, fun _ _ => by omega⟩
theorem lv_24_9 : lv S 24 9 := ⟨by unfold vv; omega, fun _ _ => by omega, fun _ => by omega, fun _ => by omega, fun _ => by omega, fun _ _ => by omega⟩
theorem lv_35_0 : lv S 35 0 := ⟨by unfold vv; omega, fun _ _ => by omega, fun _ => by omega, fun _ => by omega, fun _ => by omega, fun _ _ => by omega⟩
theorem lv_35_1 : lv S 35 1 := ⟨by unfold vv; omega, fun _ _ => by omega, fun _ => by omega, fun _ => by omega, fun _ => by omega, fun _ _ => by omega⟩
theorem lv_35_2 : lv S 35 2 := ⟨by unfold vv; omega, fun _ _ => by omega, fun _ => by omega, fun _ => by omega, fun _ => by omega, fun _ _ => by omega⟩
end LVS
theorem ad_pk {f : Nat} {n : Int} (h6 : 6 ≤ f) (h17 : f ≤ 17) : ad f n = 10 + 17 * n + f := by
  unfold ad
  rw [if_neg (by omega), if_neg (by omega), if_neg (by omega), if_pos h17]
theorem ad_rg {f : Nat} {n : Int} (h6 : 25 ≤ f) (h17 : f ≤ 30) : ad f n = 5249 + 6 * n + f := by
  unfold ad
  rw [if_neg (by omega), if_neg (by omega), if_neg (by omega), if_neg (by omega), if_neg (by omega), if_neg (by omega), if_neg (by omega), if_neg (by omega), if_neg (by omega), if_neg (by omega), if_pos h17]
/-- what a field's address is, in few words -/
theorem ad_c {f : Nat} {n : Int} (h : vv f n) : (f = 0 ∧ ((n ≤ 10 ∧ 6 ≤ n ∧ ad f n = n - 4) ∨ (n = 11 ∧ ad f n = 11) ∨ (n = 12 ∧ ad f n = 14))) ∨ (f = 1 ∧ 3 ≤ n ∧ n ≤ 4 ∧ ad f n = n - 3) ∨ (f = 5 ∧ 13 ≤ n ∧ n ≤ 14 ∧ ad f n = n - 6) ∨ (6 ≤ f ∧ f ≤ 17 ∧ 0 ≤ n ∧ n < 250 ∧ ad f n = 10 + 17 * n + f) ∨ (f = 18 ∧ 0 ≤ n ∧ n < 1250 ∧ ad f n = 28 + 17 * (n / 5) + n % 5 ∧ 0 ≤ n / 5 ∧ n / 5 ≤ 249) ∨ (f = 20 ∧ 0 ≤ n ∧ n < 144 ∧ ad f n = 4266 + 7 * n) ∨ (f = 21 ∧ 0 ≤ n ∧ n < 864 ∧ ad f n = 4267 + 7 * (n / 6) + n % 6 ∧ 0 ≤ n / 6 ∧ n / 6 ≤ 143) ∨ (f = 22 ∧ n = 1 ∧ ad f n = 15) ∨ (f = 23 ∧ 0 ≤ n ∧ n < 320 ∧ ad f n = 5514 + n) ∨ (f = 24 ∧ n = 9 ∧ ad f n = 12) ∨ (25 ≤ f ∧ f ≤ 30 ∧ 0 ≤ n ∧ n < 16 ∧ ad f n = 5249 + 6 * n + f) ∨ (f = 31 ∧ 0 ≤ n ∧ n < 64 ∧ ad f n = 5370 + n) ∨ (f = 32 ∧ 0 ≤ n ∧ n < 16 ∧ ad f n = 5434 + n) ∨ (f = 33 ∧ 0 ≤ n ∧ n < 64 ∧ ad f n = 5834 + n) ∨ (f = 34 ∧ 0 ≤ n ∧ n < 64 ∧ ad f n = 5450 + n) ∨ (f = 35 ∧ ((n = 0 ∧ ad f n = 9) ∨ (n = 1 ∧ ad f n = 10) ∨ (n = 2 ∧ ad f n = 13))) := by
  rcases h with h | h | h | h | h | h | h | h | h | h | h | h | h | h | h
  · left
    refine ⟨h.1, ?_⟩
    rw [h.1]
    rcases (by omega : n ≤ 10 ∨ n = 11 ∨ n = 12) with q | q | q
    · exact Or.inl ⟨q, h.2.1, by unfold ad; rw [if_pos rfl, if_pos q]⟩
    · subst q; exact Or.inr (Or.inl ⟨rfl, rfl⟩)
    · subst q; exact Or.inr (Or.inr ⟨rfl, rfl⟩)
  · right; left; exact ⟨h.1, h.2.1, h.2.2, by rw [h.1]; rfl⟩
  · right; right; left; exact ⟨h.1, h.2.1, h.2.2, by rw [h.1]; rfl⟩
  · iterate 3 right
    left; exact ⟨h.1, h.2.1, h.2.2.1, h.2.2.2, ad_pk h.1 h.2.1⟩
  · iterate 4 right
    left; exact ⟨h.1, h.2.1, h.2.2, by rw [h.1]; rfl, by omega, by omega⟩
  · iterate 5 right
    left; exact ⟨h.1, h.2.1, h.2.2, by rw [h.1]; rfl⟩
  · iterate 6 right
    left; exact ⟨h.1, h.2.1, h.2.2, by rw [h.1]; rfl, by omega, by omega⟩
  · iterate 7 right
    left; exact ⟨h.1, h.2, by rw [h.1]; rfl⟩
  · iterate 8 right
    left; exact ⟨h.1, h.2.1, h.2.2, by rw [h.1]; rfl⟩
  · iterate 9 right
    left; exact ⟨h.1, h.2, by rw [h.1]; rfl⟩
  · iterate 10 right
    left; exact ⟨h.1, h.2.1, h.2.2.1, h.2.2.2, ad_rg h.1 h.2.1⟩
  · iterate 11 right
    left; exact ⟨h.1, h.2.1, h.2.2, by rw [h.1]; rfl⟩
  · iterate 12 right
    left; exact ⟨h.1, h.2.1, h.2.2, by rw [h.1]; rfl⟩
  · rcases (by omega : f = 33 ∨ f = 34) with q | q
    · iterate 13 right
      left; exact ⟨q, h.2.2.1, h.2.2.2, by rw [q]; rfl⟩
    · iterate 14 right
      left; exact ⟨q, h.2.2.1, h.2.2.2, by rw [q]; rfl⟩
  · iterate 15 right
    refine ⟨h.1, ?_⟩
    rw [h.1]
    rcases (by omega : n = 0 ∨ n = 1 ∨ n = 2) with q | q | q
    · subst q; exact Or.inl ⟨rfl, rfl⟩
    · subst q; exact Or.inr (Or.inl ⟨rfl, rfl⟩)
    · subst q; exact Or.inr (Or.inr ⟨rfl, rfl⟩)
theorem ad_in {f : Nat} {n : Int} (h : vv f n) : 0 ≤ ad f n ∧ ad f n < 5898 := by
  have := ad_c h
  omega
theorem ad_inj {f f' : Nat} {n n' : Int} (h : vv f n) (h' : vv f' n') (e : ad f n = ad f' n') : f = f' ∧ n = n' := by
  have a := ad_c h
  have b := ad_c h'
  generalize ad f n = x at a e
  generalize ad f' n' = y at b e
  subst e
  rcases a with a | a | a | a | a | a | a | a | a | a | a | a | a | a | a | a <;> rcases b with b | b | b | b | b | b | b | b | b | b | b | b | b | b | b | b <;> omega
section RD
variable {o : Nat} {w S : qMem} {n i : Int}

theorem rx_6 (h : RX o w S) (h0 : 0 ≤ n) (h1 : n < S 5 13) (h2 : S 5 13 ≤ 250) : w (o + 6) n = S 6 n := h 6 n (by omega) (lv_6 h0 h1 h2)
theorem rm_6 (h : RM w S) (h0 : 0 ≤ n) (h1 : n < S 5 13) (h2 : S 5 13 ≤ 250) (hi : i = 16 + 17 * n) : w 89 i = S 6 n := by
  have e := h 6 n (lv_6 h0 h1 h2)
  rw [ad_pk (by omega) (by omega)] at e
  rw [hi, ← e]
  congr 1
  omega
theorem rx_7 (h : RX o w S) (h0 : 0 ≤ n) (h1 : n < S 5 13) (h2 : S 5 13 ≤ 250) : w (o + 7) n = S 7 n := h 7 n (by omega) (lv_7 h0 h1 h2)
theorem rm_7 (h : RM w S) (h0 : 0 ≤ n) (h1 : n < S 5 13) (h2 : S 5 13 ≤ 250) (hi : i = 17 + 17 * n) : w 89 i = S 7 n := by
  have e := h 7 n (lv_7 h0 h1 h2)
  rw [ad_pk (by omega) (by omega)] at e
  rw [hi, ← e]
  congr 1
  omega
theorem rx_8 (h : RX o w S) (h0 : 0 ≤ n) (h1 : n < S 5 13) (h2 : S 5 13 ≤ 250) : w (o + 8) n = S 8 n := h 8 n (by omega) (lv_8 h0 h1 h2)
theorem rm_8 (h : RM w S) (h0 : 0 ≤ n) (h1 : n < S 5 13) (h2 : S 5 13 ≤ 250) (hi : i = 18 + 17 * n) : w 89 i = S 8 n := by
  have e := h 8 n (lv_8 h0 h1 h2)
  rw [ad_pk (by omega) (by omega)] at e
  rw [hi, ← e]
  congr 1
  omega
theorem rx_9 (h : RX o w S) (h0 : 0 ≤ n) (h1 : n < S 5 13) (h2 : S 5 13 ≤ 250) : w (o + 9) n = S 9 n := h 9 n (by omega) (lv_9 h0 h1 h2)
theorem rm_9 (h : RM w S) (h0 : 0 ≤ n) (h1 : n < S 5 13) (h2 : S 5 13 ≤ 250) (hi : i = 19 + 17 * n) : w 89 i = S 9 n := by
  have e := h 9 n (lv_9 h0 h1 h2)
  rw [ad_pk (by omega) (by omega)] at e
  rw [hi, ← e]
  congr 1
  omega
theorem rx_10 (h : RX o w S) (h0 : 0 ≤ n) (h1 : n < S 5 13) (h2 : S 5 13 ≤ 250) : w (o + 10) n = S 10 n := h 10 n (by omega) (lv_10 h0 h1 h2)
theorem rm_10 (h : RM w S) (h0 : 0 ≤ n) (h1 : n < S 5 13) (h2 : S 5 13 ≤ 250) (hi : i = 20 + 17 * n) : w 89 i = S 10 n := by
  have e := h 10 n (lv_10 h0 h1 h2)
  rw [ad_pk (by omega) (by omega)] at e
  rw [hi, ← e]
  congr 1
  omega
theorem rx_11 (h : RX o w S) (h0 : 0 ≤ n) (h1 : n < S 5 13) (h2 : S 5 13 ≤ 250) : w (o + 11) n = S 11 n := h 11 n (by omega) (lv_11 h0 h1 h2)
theorem rm_11 (h : RM w S) (h0 : 0 ≤ n) (h1 : n < S 5 13) (h2 : S 5 13 ≤ 250) (hi : i = 21 + 17 * n) : w 89 i = S 11 n := by
  have e := h 11 n (lv_11 h0 h1 h2)
  rw [ad_pk (by omega) (by omega)] at e
  rw [hi, ← e]
  congr 1
  omega
theorem rx_12 (h : RX o w S) (h0 : 0 ≤ n) (h1 : n < S 5 13) (h2 : S 5 13 ≤ 250) : w (o + 12) n = S 12 n := h 12 n (by omega) (lv_12 h0 h1 h2)
theorem rm_12 (h : RM w S) (h0 : 0 ≤ n) (h1 : n < S 5 13) (h2 : S 5 13 ≤ 250) (hi : i = 22 + 17 * n) : w 89 i = S 12 n := by
  have e := h 12 n (lv_12 h0 h1 h2)
  rw [ad_pk (by omega) (by omega)] at e
  rw [hi, ← e]
  congr 1
  omega
theorem rx_13 (h : RX o w S) (h0 : 0 ≤ n) (h1 : n < S 5 13) (h2 : S 5 13 ≤ 250) : w (o + 13) n = S 13 n := h 13 n (by omega) (lv_13 h0 h1 h2)
theorem rm_13 (h : RM w S) (h0 : 0 ≤ n) (h1 : n < S 5 13) (h2 : S 5 13 ≤ 250) (hi : i = 23 + 17 * n) : w 89 i = S 13 n := by
  have e := h 13 n (lv_13 h0 h1 h2)
  rw [ad_pk (by omega) (by omega)] at e
  rw [hi, ← e]
  congr 1
  omega
theorem rx_14 (h : RX o w S) (h0 : 0 ≤ n) (h1 : n < S 5 13) (h2 : S 5 13 ≤ 250) : w (o + 14) n = S 14 n := h 14 n (by omega) (lv_14 h0 h1 h2)
theorem rm_14 (h : RM w S) (h0 : 0 ≤ n) (h1 : n < S 5 13) (h2 : S 5 13 ≤ 250) (hi : i = 24 + 17 * n) : w 89 i = S 14 n := by
  have e := h 14 n (lv_14 h0 h1 h2)
  rw [ad_pk (by omega) (by omega)] at e
  rw [hi, ← e]
  congr 1
  omega
theorem rx_15 (h : RX o w S) (h0 : 0 ≤ n) (h1 : n < S 5 13) (h2 : S 5 13 ≤ 250) : w (o + 15) n = S 15 n := h 15 n (by omega) (lv_15 h0 h1 h2)
theorem rm_15 (h : RM w S) (h0 : 0 ≤ n) (h1 : n < S 5 13) (h2 : S 5 13 ≤ 250) (hi : i = 25 + 17 * n) : w 89 i = S 15 n := by
  have e := h 15 n (lv_15 h0 h1 h2)
  rw [ad_pk (by omega) (by omega)] at e
  rw [hi, ← e]
  congr 1
  omega
theorem rx_16 (h : RX o w S) (h0 : 0 ≤ n) (h1 : n < S 5 13) (h2 : S 5 13 ≤ 250) : w (o + 16) n = S 16 n := h 16 n (by omega) (lv_16 h0 h1 h2)
theorem rm_16 (h : RM w S) (h0 : 0 ≤ n) (h1 : n < S 5 13) (h2 : S 5 13 ≤ 250) (hi : i = 26 + 17 * n) : w 89 i = S 16 n := by
  have e := h 16 n (lv_16 h0 h1 h2)
  rw [ad_pk (by omega) (by omega)] at e
  rw [hi, ← e]
  congr 1
  omega
theorem rx_17 (h : RX o w S) (h0 : 0 ≤ n) (h1 : n < S 5 13) (h2 : S 5 13 ≤ 250) : w (o + 17) n = S 17 n := h 17 n (by omega) (lv_17 h0 h1 h2)
theorem rm_17 (h : RM w S) (h0 : 0 ≤ n) (h1 : n < S 5 13) (h2 : S 5 13 ≤ 250) (hi : i = 27 + 17 * n) : w 89 i = S 17 n := by
  have e := h 17 n (lv_17 h0 h1 h2)
  rw [ad_pk (by omega) (by omega)] at e
  rw [hi, ← e]
  congr 1
  omega
theorem rx_18 (h : RX o w S) (h0 : 0 ≤ n) (h1 : n < 5 * S 5 13) (h2 : S 5 13 ≤ 250) (h3 : n % 5 ≤ S 12 (n / 5)) : w (o + 18) n = S 18 n := h 18 n (by omega) (lv_18 h0 h1 h2 h3)
theorem rm_18 (h : RM w S) (h0 : 0 ≤ n) (h1 : n < 5 * S 5 13) (h2 : S 5 13 ≤ 250) (h3 : n % 5 ≤ S 12 (n / 5)) (hi : i = 28 + 17 * (n / 5) + n % 5) : w 89 i = S 18 n := by
  have e := h 18 n (lv_18 h0 h1 h2 h3)
  rw [hi, ← e]
  rfl
theorem rx_20 (h : RX o w S) (h0 : 0 ≤ n) (h1 : n < 144) : w (o + 20) n = S 20 n := h 20 n (by omega) (lv_20 h0 h1)
theorem rm_20 (h : RM w S) (h0 : 0 ≤ n) (h1 : n < 144) (hi : i = 4266 + 7 * n) : w 89 i = S 20 n := by
  have e := h 20 n (lv_20 h0 h1)
  rw [hi, ← e]
  rfl
theorem rx_21 (h : RX o w S) (h0 : 0 ≤ n) (h1 : n < 864) (h2 : n % 6 < S 20 (n / 6)) : w (o + 21) n = S 21 n := h 21 n (by omega) (lv_21 h0 h1 h2)
theorem rm_21 (h : RM w S) (h0 : 0 ≤ n) (h1 : n < 864) (h2 : n % 6 < S 20 (n / 6)) (hi : i = 4267 + 7 * (n / 6) + n % 6) : w 89 i = S 21 n := by
  have e := h 21 n (lv_21 h0 h1 h2)
  rw [hi, ← e]
  rfl
theorem rx_23 (h : RX o w S) (h0 : 0 ≤ n) (h1 : n < 5 * S 22 1) (h2 : S 22 1 ≤ 64) : w (o + 23) n = S 23 n := h 23 n (by omega) (lv_23 h0 h1 h2)
theorem rm_23 (h : RM w S) (h0 : 0 ≤ n) (h1 : n < 5 * S 22 1) (h2 : S 22 1 ≤ 64) (hi : i = 5514 + n) : w 89 i = S 23 n := by
  have e := h 23 n (lv_23 h0 h1 h2)
  rw [hi, ← e]
  rfl
theorem rx_25 (h : RX o w S) (h0 : 0 ≤ n) (h1 : n < 2 * (S 1 3 + S 1 4)) (h2 : 2 * (S 1 3 + S 1 4) ≤ 16) : w (o + 25) n = S 25 n := h 25 n (by omega) (lv_25 h0 h1 h2)
theorem rm_25 (h : RM w S) (h0 : 0 ≤ n) (h1 : n < 2 * (S 1 3 + S 1 4)) (h2 : 2 * (S 1 3 + S 1 4) ≤ 16) (hi : i = 5274 + 6 * n) : w 89 i = S 25 n := by
  have e := h 25 n (lv_25 h0 h1 h2)
  rw [ad_rg (by omega) (by omega)] at e
  rw [hi, ← e]
  congr 1
  omega
theorem rx_26 (h : RX o w S) (h0 : 0 ≤ n) (h1 : n < 2 * (S 1 3 + S 1 4)) (h2 : 2 * (S 1 3 + S 1 4) ≤ 16) : w (o + 26) n = S 26 n := h 26 n (by omega) (lv_26 h0 h1 h2)
theorem rm_26 (h : RM w S) (h0 : 0 ≤ n) (h1 : n < 2 * (S 1 3 + S 1 4)) (h2 : 2 * (S 1 3 + S 1 4) ≤ 16) (hi : i = 5275 + 6 * n) : w 89 i = S 26 n := by
  have e := h 26 n (lv_26 h0 h1 h2)
  rw [ad_rg (by omega) (by omega)] at e
  rw [hi, ← e]
  congr 1
  omega
theorem rx_27 (h : RX o w S) (h0 : 0 ≤ n) (h1 : n < 2 * (S 1 3 + S 1 4)) (h2 : 2 * (S 1 3 + S 1 4) ≤ 16) : w (o + 27) n = S 27 n := h 27 n (by omega) (lv_27 h0 h1 h2)
theorem rm_27 (h : RM w S) (h0 : 0 ≤ n) (h1 : n < 2 * (S 1 3 + S 1 4)) (h2 : 2 * (S 1 3 + S 1 4) ≤ 16) (hi : i = 5276 + 6 * n) : w 89 i = S 27 n := by
  have e := h 27 n (lv_27 h0 h1 h2)
  rw [ad_rg (by omega) (by omega)] at e
  rw [hi, ← e]
  congr 1
  omega
theorem rx_28 (h : RX o w S) (h0 : 0 ≤ n) (h1 : n < 2 * (S 1 3 + S 1 4)) (h2 : 2 * (S 1 3 + S 1 4) ≤ 16) : w (o + 28) n = S 28 n := h 28 n (by omega) (lv_28 h0 h1 h2)
theorem rm_28 (h : RM w S) (h0 : 0 ≤ n) (h1 : n < 2 * (S 1 3 + S 1 4)) (h2 : 2 * (S 1 3 + S 1 4) ≤ 16) (hi : i = 5277 + 6 * n) : w 89 i = S 28 n := by
  have e := h 28 n (lv_28 h0 h1 h2)
  rw [ad_rg (by omega) (by omega)] at e
  rw [hi, ← e]
  congr 1
  omega
theorem rx_29 (h : RX o w S) (h0 : 0 ≤ n) (h1 : n < 2 * (S 1 3 + S 1 4)) (h2 : 2 * (S 1 3 + S 1 4) ≤ 16) : w (o + 29) n = S 29 n := h 29 n (by omega) (lv_29 h0 h1 h2)
theorem rm_29 (h : RM w S) (h0 : 0 ≤ n) (h1 : n < 2 * (S 1 3 + S 1 4)) (h2 : 2 * (S 1 3 + S 1 4) ≤ 16) (hi : i = 5278 + 6 * n) : w 89 i = S 29 n := by
  have e := h 29 n (lv_29 h0 h1 h2)
  rw [ad_rg (by omega) (by omega)] at e
  rw [hi, ← e]
  congr 1
  omega
theorem rx_30 (h : RX o w S) (h0 : 0 ≤ n) (h1 : n < 2 * (S 1 3 + S 1 4)) (h2 : 2 * (S 1 3 + S 1 4) ≤ 16) : w (o + 30) n = S 30 n := h 30 n (by omega) (lv_30 h0 h1 h2)
theorem rm_30 (h : RM w S) (h0 : 0 ≤ n) (h1 : n < 2 * (S 1 3 + S 1 4)) (h2 : 2 * (S 1 3 + S 1 4) ≤ 16) (hi : i = 5279 + 6 * n) : w 89 i = S 30 n := by
  have e := h 30 n (lv_30 h0 h1 h2)
  rw [ad_rg (by omega) (by omega)] at e
  rw [hi, ← e]
  congr 1
  omega
theorem rx_31 (h : RX o w S) (h0 : 0 ≤ n) (h1 : n < 64) : w (o + 31) n = S 31 n := h 31 n (by omega) (lv_31 h0 h1)
theorem rm_31 (h : RM w S) (h0 : 0 ≤ n) (h1 : n < 64) (hi : i = 5370 + n) : w 89 i = S 31 n := by
  have e := h 31 n (lv_31 h0 h1)
  rw [hi, ← e]
  rfl
theorem rx_32 (h : RX o w S) (h0 : 0 ≤ n) (h1 : n < 16) : w (o + 32) n = S 32 n := h 32 n (by omega) (lv_32 h0 h1)
theorem rm_32 (h : RM w S) (h0 : 0 ≤ n) (h1 : n < 16) (hi : i = 5434 + n) : w 89 i = S 32 n := by
  have e := h 32 n (lv_32 h0 h1)
  rw [hi, ← e]
  rfl
theorem rx_33 (h : RX o w S) (h0 : 0 ≤ n) (h1 : n < 64) : w (o + 33) n = S 33 n := h 33 n (by omega) (lv_33 h0 h1)
theorem rm_33 (h : RM w S) (h0 : 0 ≤ n) (h1 : n < 64) (hi : i = 5834 + n) : w 89 i = S 33 n := by
  have e := h 33 n (lv_33 h0 h1)
  rw [hi, ← e]
  rfl
theorem rx_34 (h : RX o w S) (h0 : 0 ≤ n) (h1 : n < 64) : w (o + 34) n = S 34 n := h 34 n (by omega) (lv_34 h0 h1)
theorem rm_34 (h : RM w S) (h0 : 0 ≤ n) (h1 : n < 64) (hi : i = 5450 + n) : w 89 i = S 34 n := by
  have e := h 34 n (lv_34 h0 h1)
  rw [hi, ← e]
  rfl
theorem rx_0_6 (h : RX o w S) : w (o + 0) 6 = S 0 6 := h 0 6 (by omega) lv_0_6
theorem rm_0_6 (h : RM w S) : w 89 2 = S 0 6 := h 0 6 lv_0_6
theorem rx_0_7 (h : RX o w S) : w (o + 0) 7 = S 0 7 := h 0 7 (by omega) lv_0_7
theorem rm_0_7 (h : RM w S) : w 89 3 = S 0 7 := h 0 7 lv_0_7
theorem rx_0_8 (h : RX o w S) : w (o + 0) 8 = S 0 8 := h 0 8 (by omega) lv_0_8
theorem rm_0_8 (h : RM w S) : w 89 4 = S 0 8 := h 0 8 lv_0_8
theorem rx_0_9 (h : RX o w S) : w (o + 0) 9 = S 0 9 := h 0 9 (by omega) lv_0_9
theorem rm_0_9 (h : RM w S) : w 89 5 = S 0 9 := h 0 9 lv_0_9
theorem rx_0_10 (h : RX o w S) : w (o + 0) 10 = S 0 10 := h 0 10 (by omega) lv_0_10
theorem rm_0_10 (h : RM w S) : w 89 6 = S 0 10 := h 0 10 lv_0_10
theorem rx_0_11 (h : RX o w S) : w (o + 0) 11 = S 0 11 := h 0 11 (by omega) lv_0_11
theorem rm_0_11 (h : RM w S) : w 89 11 = S 0 11 := h 0 11 lv_0_11
theorem rx_0_12 (h : RX o w S) : w (o + 0) 12 = S 0 12 := h 0 12 (by omega) lv_0_12
theorem rm_0_12 (h : RM w S) : w 89 14 = S 0 12 := h 0 12 lv_0_12
theorem rx_1_3 (h : RX o w S) : w (o + 1) 3 = S 1 3 := h 1 3 (by omega) lv_1_3
theorem rm_1_3 (h : RM w S) : w 89 0 = S 1 3 := h 1 3 lv_1_3
theorem rx_1_4 (h : RX o w S) : w (o + 1) 4 = S 1 4 := h 1 4 (by omega) lv_1_4
theorem rm_1_4 (h : RM w S) : w 89 1 = S 1 4 := h 1 4 lv_1_4
theorem rx_5_13 (h : RX o w S) : w (o + 5) 13 = S 5 13 := h 5 13 (by omega) lv_5_13
theorem rm_5_13 (h : RM w S) : w 89 7 = S 5 13 := h 5 13 lv_5_13
theorem rx_5_14 (h : RX o w S) : w (o + 5) 14 = S 5 14 := h 5 14 (by omega) lv_5_14
theorem rm_5_14 (h : RM w S) : w 89 8 = S 5 14 := h 5 14 lv_5_14
theorem rx_22_1 (h : RX o w S) : w (o + 22) 1 = S 22 1 := h 22 1 (by omega) lv_22_1
theorem rm_22_1 (h : RM w S) : w 89 15 = S 22 1 := h 22 1 lv_22_1
theorem rx_24_9 (h : RX o w S) : w (o + 24) 9 = S 24 9 := h 24 9 (by omega) lv_24_9
theorem rm_24_9 (h : RM w S) : w 89 12 = S 24 9 := h 24 9 lv_24_9
theorem rm_35_0 (h : RM w S) : w 89 9 = S 35 0 := h 35 0 lv_35_0
theorem rm_35_1 (h : RM w S) : w 89 10 = S 35 1 := h 35 1 lv_35_1
theorem rm_35_2 (h : RM w S) : w 89 13 = S 35 2 := h 35 2 lv_35_2
end RD
