/-! one ring alone (the reference): a state is opened; its number -/
def dwk (K : Int) : Nat → Int → Int
  | 0, s => s
  | j + 1, s => dwk K j s / K
def nmS (K : Int) (h : Int → Int) : Nat → Int → Int
  | 0, x => x
  | j + 1, x => nmS K h j (x * K + h j)
def poS (g : Int) (h : Int → Int) : Nat → Int
  | 0 => 0
  | j + 1 => poS g h j + pt g (h j)
/-- what the packets of a state have to go, and they -/
def pot (g K n s : Int) : Int := poS g (fun i => dwk K i.toNat s % K) n.toNat
def LM (n e g K : Int) (w : qMem) : Prop := (w 88 10 = n ∧ w 88 11 = e) ∧ w 88 13 = g ∧ w 88 14 = K
def LHd (n K : Int) (w : qMem) : Prop := (∀ k, 0 ≤ k → k < n → 0 ≤ w 95 k ∧ w 95 k < K) ∧ 0 ≤ w 88 16 ∧ w 88 16 < n
def LHs (n K s : Int) (w : qMem) : Prop := (∀ k, 0 ≤ k → k < n → w 95 k = dwk K k.toNat s % K) ∧ w 88 16 = dwk K n.toNat s
def FOp (w w' : qMem) : Prop := (∀ k : Nat, k ≠ 88 → k ≠ 95 → w' k = w k) ∧ ∀ j, j ≠ 16 → w' 88 j = w 88 j
section MU
variable {w w' : qMem} {n e g K N k x l s v : Int} {h h' : Int → Int} {i j : Nat}
theorem dwk_in (hK : 0 < K) (s0 : 0 ≤ s) : ∀ j : Nat, 0 ≤ dwk K j s ∧ dwk K j s ≤ s := by
  intro j
  induction j with
  | zero => exact ⟨s0, Int.le_refl _⟩
  | succ j ih =>
    show 0 ≤ dwk K j s / K ∧ dwk K j s / K ≤ s
    have a := Int.ediv_nonneg ih.1 (show 0 ≤ K by omega)
    have b := Int.ediv_le_self K ih.1
    omega
theorem dwk_n (hk : nek n e g K N) (s0 : 0 ≤ s) (s1 : s < N) : 0 ≤ dwk K n.toNat s ∧ dwk K n.toNat s < n := by
  have h2 : dwk K (2 : Int).toNat s = s / K / K := rfl
  have h3 : dwk K (3 : Int).toNat s = s / K / K / K := rfl
  have h4 : dwk K (4 : Int).toNat s = s / K / K / K / K := rfl
  rcases hk with ⟨⟨rfl, rfl⟩, hk⟩ | ⟨⟨rfl, rfl⟩, hk⟩ | ⟨⟨rfl, rfl⟩, rfl, rfl, rfl⟩
  · rw [h2]
    rcases hk with ⟨rfl, rfl, rfl⟩ | ⟨rfl, rfl, rfl⟩ | ⟨rfl, rfl, rfl⟩ <;> omega
  · rw [h3]
    rcases hk with ⟨rfl, rfl, rfl⟩ | ⟨rfl, rfl, rfl⟩ | ⟨rfl, rfl, rfl⟩ <;> omega
  · rw [h4]; omega
theorem FOp.rfl' : FOp w w := ⟨fun _ _ _ => rfl, fun _ _ => rfl⟩
theorem LM.co (hM : LM n e g K w) (hf : ∀ j, j ≠ 16 → j ≠ 24 → j ≠ 25 → j ≠ 19 → w' 88 j = w 88 j) : LM n e g K w' := by
  unfold LM
  rw [hf 10 (by decide) (by decide) (by decide) (by decide), hf 11 (by decide) (by decide) (by decide) (by decide), hf 13 (by decide) (by decide) (by decide) (by decide), hf 14 (by decide) (by decide) (by decide) (by decide)]
  exact hM
theorem me_opens (hk : nek n e g K N) (hM : LM n e g K w) (s0 : 0 ≤ s) (s1 : s < N) : kT (f_M_opens s w) (fun w' => LHs n K s w' ∧ FOp w w') := by
  have hb := hk.b
  have main : ∀ (m j : Nat) (w' : qMem), (j : Int) ≤ n → n - j < m → FOp w w' → (∀ k : Int, 0 ≤ k → k < j → w' 95 k = dwk K k.toNat s % K) → kT (f_M_opens_4 m (dwk K j s) j w') (fun w' => LHs n K s w' ∧ FOp w w') := by
    intro m
    induction m with
    | zero => intro j w' _ _ _ _; omega
    | succ m ih =>
      intro j w' a b hf hh
      have e10 : w' 88 10 = n := by rw [hf.2 10 (by decide)]; exact hM.1.1
      have e14 : w' 88 14 = K := by rw [hf.2 14 (by decide)]; exact hM.2.2
      have hd := dwk_in (K := K) (by omega) s0 j
      rw [f_M_opens_4, e10, e14]
      refine kT_if (fun c => ?_) (fun c => ?_)
      · rw [qdv_ok (by omega), jrem_ok hd.1 (by omega) (by omega) (by omega)]
        refine kT_st (by omega) (by omega) ?_
        rw [qud_nk (by decide), e14, qdv_ok (by omega), jdiv_ok hd.1 (by omega) (by omega) (by omega), w32_ok (z := (j : Int) + 1) (by omega) (by omega)]
        refine ih (j + 1) _ (by omega) (by omega) ⟨fun k x y => by rw [qud_row y, hf.1 k x y], fun i x => by rw [qud_nk (by decide), hf.2 i x]⟩ (fun k k0 k1 => ?_)
        rw [qud_if]
        split
        · rename_i z; rw [z]; rfl
        · exact hh k k0 (by omega)
      · have hj : (j : Int) = n := by omega
        unfold f_M_opens_37
        rw [qlt_ok]
        refine kT_some ⟨⟨fun k k0 k1 => ?_, ?_⟩, ⟨fun k x y => by rw [qud_row x, hf.1 k x y], fun i x => by rw [qud_ni x, hf.2 i x]⟩⟩
        · rw [qud_nk (by decide)]
          exact hh k k0 (by omega)
        · rw [qud_s, ← hj]; rfl
  unfold f_M_opens
  exact main qFU 0 w (by omega) (qFU_gt (by omega)) FOp.rfl' (fun k k0 k1 => by omega)
theorem LHs.d (hk : nek n e g K N) (hs : LHs n K s w) (s0 : 0 ≤ s) (s1 : s < N) : LHd n K w := by
  have hb := hk.b
  refine ⟨fun k k0 k1 => ?_, ?_⟩
  · rw [hs.1 k k0 k1]
    exact ⟨Int.emod_nonneg _ (by omega), Int.emod_lt_of_pos _ (by omega)⟩
  · rw [hs.2]; exact dwk_n hk s0 s1
theorem dwk_nm (hK : 0 < K) : ∀ (j : Nat) (x : Int), (∀ i : Nat, i < j → 0 ≤ h i ∧ h i < K) → dwk K j (nmS K h j x) = x ∧ ∀ i : Nat, i < j → dwk K i (nmS K h j x) % K = h i := by
  intro j
  induction j with
  | zero => intro x _; exact ⟨rfl, fun i hi => by omega⟩
  | succ j ih =>
    intro x hh
    have t := ih (x * K + h j) (fun i hi => hh i (by omega))
    have hj := hh j (by omega)
    refine ⟨?_, fun i hi => ?_⟩
    · show dwk K j (nmS K h j (x * K + h j)) / K = x
      rw [t.1, Int.add_comm, Int.add_mul_ediv_right _ _ (by omega), Int.ediv_eq_zero_of_lt hj.1 hj.2]
      omega
    · show dwk K i (nmS K h j (x * K + h j)) % K = h i
      by_cases z : i = j
      · rw [z, t.1, Int.add_comm, Int.add_mul_emod_self_right]
        exact Int.emod_eq_of_lt hj.1 hj.2
      · exact t.2 i (by omega)
theorem poS_co : ∀ j : Nat, (∀ i : Nat, i < j → h i = h' i) → poS g h j = poS g h' j := by
  intro j
  induction j with
  | zero => intro _; rfl
  | succ j ih =>
    intro hh
    show poS g h j + pt g (h j) = poS g h' j + pt g (h' j)
    rw [ih (fun i hi => hh i (by omega)), hh j (by omega)]
theorem poS_u {v : Int} : ∀ j : Nat, i < j → (∀ k : Int, h' k = if k = i then v else h k) → poS g h' j = poS g h j - pt g (h i) + pt g v := by
  intro j
  induction j with
  | zero => intro hi _; omega
  | succ j ih =>
    intro hi hh
    show poS g h' j + pt g (h' j) = poS g h j + pt g (h j) - pt g (h i) + pt g v
    by_cases z : i = j
    · rw [hh j, if_pos (by omega), poS_co (h := h') (h' := h) j (fun k hk => by rw [hh k, if_neg (by omega)]), z]
      omega
    · rw [ih (by omega) hh, hh j, if_neg (by omega)]
      omega
def bq : Nat → Int
  | 0 => 256740
  | 1 => 17115
  | 2 => 1140
  | 3 => 75
  | _ => 4
/-- the number of what is held now -/
def mnm (n K : Int) (w : qMem) : Int := nmS K (w 95) n.toNat (w 88 16)
theorem mnm_in (hk : nek n e g K N) (hd : LHd n K w) : 0 ≤ mnm n K w ∧ mnm n K w < N := by
  have hc := hd.2
  unfold mnm
  have h2 : nmS K (w 95) (2 : Int).toNat (w 88 16) = (w 88 16 * K + w 95 1) * K + w 95 0 := rfl
  have h3 : nmS K (w 95) (3 : Int).toNat (w 88 16) = ((w 88 16 * K + w 95 2) * K + w 95 1) * K + w 95 0 := rfl
  have h4 : nmS K (w 95) (4 : Int).toNat (w 88 16) = (((w 88 16 * K + w 95 3) * K + w 95 2) * K + w 95 1) * K + w 95 0 := rfl
  rcases hk with ⟨⟨rfl, rfl⟩, hk⟩ | ⟨⟨rfl, rfl⟩, hk⟩ | ⟨⟨rfl, rfl⟩, rfl, rfl, rfl⟩
  · rw [h2]
    have a0 := hd.1 0 (by decide) (by decide)
    have a1 := hd.1 1 (by decide) (by decide)
    rcases hk with ⟨rfl, rfl, rfl⟩ | ⟨rfl, rfl, rfl⟩ | ⟨rfl, rfl, rfl⟩ <;> omega
  · rw [h3]
    have a0 := hd.1 0 (by decide) (by decide)
    have a1 := hd.1 1 (by decide) (by decide)
    have a2 := hd.1 2 (by decide) (by decide)
    rcases hk with ⟨rfl, rfl, rfl⟩ | ⟨rfl, rfl, rfl⟩ | ⟨rfl, rfl, rfl⟩ <;> omega
  · rw [h4]
    have a0 := hd.1 0 (by decide) (by decide)
    have a1 := hd.1 1 (by decide) (by decide)
    have a2 := hd.1 2 (by decide) (by decide)
    have a3 := hd.1 3 (by decide) (by decide)
    omega
theorem me_number (hk : nek n e g K N) (hM : LM n e g K w) (hd : LHd n K w) : f_M_number w = some (mnm n K w, w) := by
  have hb := hk.b
  have main : ∀ (j m : Nat) (x : Int), (j : Int) ≤ n → j < m → 0 ≤ x → x ≤ bq j → f_M_number_12 m x ((j : Int) - 1) w = some (nmS K (w 95) j x, w) := by
    intro j
    induction j with
    | zero =>
      intro m x _ hm _ _
      cases m with
      | zero => omega
      | succ m =>
        rw [f_M_number_12, if_pos (by omega)]
        rfl
    | succ j ih =>
      intro m x hj hm x0 x1
      cases m with
      | zero => omega
      | succ m =>
        have hv := hd.1 j (by omega) (by omega)
        have hx : 0 ≤ x * K ∧ x * K + 15 ≤ bq j := by
          have a := Int.mul_nonneg x0 (show 0 ≤ K by omega)
          have b := Int.mul_le_mul_of_nonneg_left (show K ≤ 15 by omega) x0
          rcases (by omega : j = 0 ∨ j = 1 ∨ j = 2 ∨ j = 3) with rfl | rfl | rfl | rfl
          · have c : bq (0 + 1) = 17115 := rfl
            have d : bq 0 = 256740 := rfl
            omega
          · have c : bq (1 + 1) = 1140 := rfl
            have d : bq 1 = 17115 := rfl
            omega
          · have c : bq (2 + 1) = 75 := rfl
            have d : bq 2 = 1140 := rfl
            omega
          · have c : bq (3 + 1) = 4 := rfl
            have d : bq 3 = 75 := rfl
            omega
        have hq : bq j ≤ 256740 := by
          rcases (by omega : j = 0 ∨ j = 1 ∨ j = 2 ∨ j = 3) with rfl | rfl | rfl | rfl <;> decide
        rw [f_M_number_12, if_neg (by omega), show (((j + 1 : Nat) : Int) - 1) = (j : Int) by omega, qld_ok (by omega) (by omega), hM.2.2, w32_ok (z := x * K) (by omega) (by omega), w32_ok (by omega) (by omega), w32_ok (z := (j : Int) + -1) (by omega) (by omega)]
        exact ih m (x * K + w 95 j) (by omega) (by omega) (by omega) (by omega)
  unfold f_M_number mnm
  have hc := hd.2
  have hbq : (4 : Int) ≤ bq n.toNat := by
    rcases (by omega : n = 2 ∨ n = 3 ∨ n = 4) with rfl | rfl | rfl <;> decide
  rw [hM.1.1, w32_ok (z := n - 1) (by omega) (by omega)]
  have := main n.toNat qFU (w 88 16) (by omega) (by have : (n.toNat : Int) < qFU := qFU_gt (by omega); omega) hc.1 (by omega)
  rw [show ((n.toNat : Nat) : Int) = n by omega] at this
  exact this
/-- what the packets of the number of what is held have to go -/
theorem pot_nm (hk : nek n e g K N) (hd : LHd n K w) : pot g K n (mnm n K w) = poS g (w 95) n.toNat := by
  have hb := hk.b
  have t := dwk_nm (h := w 95) (K := K) (by omega) n.toNat (w 88 16) (fun i hi => hd.1 i (by omega) (by omega))
  unfold pot mnm
  refine poS_co n.toNat (fun i hi => ?_)
  show dwk K (i : Int).toNat _ % K = _
  rw [Int.toNat_natCast]
  exact t.2 i hi
theorem pot_hs (hs : LHs n K s w) : poS g (w 95) n.toNat = pot g K n s := by
  unfold pot
  refine poS_co n.toNat (fun i hi => ?_)
  exact hs.1 i (by omega) (by omega)
theorem me_free (hk : nek n e g K N) (hM : LM n e g K w) (k0 : 0 ≤ k) (k1 : k < n) (hv : 0 ≤ w 95 k ∧ w 95 k < K) : f_M_freeAt k w = some (e - lq g (w 95 k), w) := by
  have hb := hk.b
  have t : 0 ≤ lq g (w 95 k) ∧ lq g (w 95 k) ≤ e := (qtb_of hk hv.1 hv.2).1.1
  unfold f_M_freeAt
  rw [qld_ok k0 (by omega), qbd (me_long hM.2.1 hb.2.2.1 hv.1 (by omega))]
  dsimp only
  rw [hM.1.2, w32_ok (by omega) (by omega)]
theorem me_may (hk : nek n e g K N) (hM : LM n e g K w) (k0 : 0 ≤ k) (k1 : k < n) (hv : 0 ≤ w 95 k ∧ w 95 k < K) : ∃ y, f_M_mayEnter k w = some (y, w) ∧ (y = 0 ∨ lq g (w 95 k) < e) := by
  have h36 : ∀ a : Int, 1 ≤ a → ∃ y, f_M_mayEnter_36 a k w = some (y, w) ∧ (y = 0 ∨ lq g (w 95 k) < e) := by
    intro a ha
    unfold f_M_mayEnter_36
    rw [qbd (me_free hk hM k0 k1 hv)]
    dsimp only
    by_cases c : e - lq g (w 95 k) < a
    · rw [if_pos c]; exact ⟨0, rfl, Or.inl rfl⟩
    · rw [if_neg c]; exact ⟨1, rfl, Or.inr (by omega)⟩
  unfold f_M_mayEnter
  by_cases c0 : w 88 12 = 0
  · rw [if_pos c0]; exact h36 1 (by decide)
  · rw [if_neg c0]
    by_cases c1 : w 88 12 = 1
    · rw [if_pos c1]; exact h36 2 (by decide)
    · rw [if_neg c1]
      by_cases c2 : w 88 16 = k
      · rw [if_pos c2]; exact h36 2 (by decide)
      · rw [if_neg c2]; exact h36 1 (by decide)
theorem me_packets (hk : nek n e g K N) (hM : LM n e g K w) (hd : LHd n K w) : sA w (f_M_packetsIn w) := by
  have hb := hk.b
  unfold f_M_packetsIn
  refine sA_loop (σ := Int) (N := n) (L := fun m x s => f_M_packetsIn_4 m s x w) (fun m x s x0 x1 ih => ?_) (fun m s => ?_) (by omega) (by omega) 0
  · have hv := hd.1 x x0 x1
    rw [f_M_packetsIn_4, hM.1.1, if_pos x1, qld_ok x0 (by omega), w32_ok (z := x + 1) (by omega) (by omega)]
    exact sA_eq (me_long hM.2.1 hb.2.2.1 hv.1 (by omega)) (ih _)
  · rw [f_M_packetsIn_4, hM.1.1, if_neg (by omega)]; exact sA_s
end MU
