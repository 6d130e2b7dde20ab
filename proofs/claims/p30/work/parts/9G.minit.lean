/-! both sides are made -/
def JI (m : Nat) (D : Nat → Bool) (w0 wB w : qMem) : Prop := (w 0 (-2) = (m : Int) ∧ ∀ j, j ≠ -2 → w 0 j = w0 0 j) ∧ (∀ k, D k = true → w k = wB k) ∧ D 0 = false
def dy0 : Nat → Bool := fun _ => false
def dy3 : Nat → Bool := fun k => Nat.ble 3 k && Nat.ble k 6
def dy38 : Nat → Bool := fun k => (Nat.ble 3 k && Nat.ble k 6) || (Nat.ble 38 k && Nat.ble k 41)
def dy81 : Nat → Bool := fun k => (Nat.ble 3 k && Nat.ble k 6) || (Nat.ble 38 k && Nat.ble k 41) || Nat.beq k 81
def dyM : Nat → Bool := fun k => Nat.ble 1 k && Nat.ble k 87
section IJ
variable {w w' w0 wB : qMem} {i v : Int} {m o k : Nat} {D : Nat → Bool} {β : Type}
theorem JI.nw {F : qMem → Option β} {P : β → Prop} (h : JI m D w0 wB w) (ho : o = m + 1) (hD : D o = false) (K : ∀ w', JI o D w0 wB w' → (∀ j, w' o j = 0) → kT (F w') P) : kT (qnw w o F) P := by
  have hn : qnn w = m := by
    unfold qnn
    rw [h.1.1]
    rfl
  subst ho
  unfold qnw
  rw [if_pos (by rw [h.1.1]; omega)]
  refine K _ ⟨⟨?_, fun j hj => ?_⟩, fun k hk => ?_, h.2.2⟩ (fun j => ?_)
  · rw [qal_0, h.1.1]; omega
  · rw [qal_s w hj]; exact h.1.2 j hj
  · by_cases k0 : k = 0
    · rw [k0, h.2.2] at hk; cases hk
    · have hk2 : k ≠ m + 1 := fun z => by rw [z, hD] at hk; cases hk
      rw [← h.2.1 k hk]
      funext j
      exact qal_k w (by rw [hn]; exact hk2) k0 j
  · have := qal_n w j
    rwa [hn] at this
theorem JI.qu (h : JI m D w0 wB w) (hD : D k = false ∧ k ≠ 0) : JI m D w0 wB (qud w k i v) := by
  refine ⟨⟨?_, fun j hj => ?_⟩, fun k' hk' => ?_, h.2.2⟩
  · rw [qud_nk (Ne.symm hD.2)]; exact h.1.1
  · rw [qud_nk (Ne.symm hD.2)]; exact h.1.2 j hj
  · rw [qud_row (fun z => by rw [z, hD.1] at hk'; cases hk')]; exact h.2.1 k' hk'
theorem JI.lt {F : qMem → Option β} {P : β → Prop} (h : JI m D w0 wB w) (hD : D k = false ∧ k ≠ 0) (K : ∀ w', JI m D w0 wB w' → kT (F w') P) : kT (qlt (qud w k i v) F) P := K _ (h.qu hD)
theorem JI.fr (h : JI m D w0 wB w) (e : ∀ k, (k = 0 ∨ D k = true) → w' k = w k) : JI m D w0 wB w' := ⟨⟨by rw [e 0 (Or.inl rfl)]; exact h.1.1, fun j hj => by rw [e 0 (Or.inl rfl)]; exact h.1.2 j hj⟩, fun k hk => by rw [e k (Or.inr hk)]; exact h.2.1 k hk, h.2.2⟩
theorem JI.sub (h : JI m D w0 wB w) : JI m D w0 w w := ⟨h.1, fun _ _ => rfl, h.2.2⟩
theorem ji_P7 (h : JI 7 dy3 w0 wB w) : kT (f_P7_init w) (JI 20 dy3 w0 wB) := by
  unfold f_P7_init
  repeat' (first | exact kT_some h | refine JI.nw h rfl rfl (fun w h _ => ?_) | refine JI.lt h ⟨rfl, by decide⟩ (fun w h => ?_))
theorem ji_Q21 (h : JI 21 dy3 w0 wB w) : kT (f_Q21_init w) (JI 23 dy3 w0 wB) := by
  unfold f_Q21_init
  repeat' (first | exact kT_some h | refine JI.nw h rfl rfl (fun w h _ => ?_) | refine JI.lt h ⟨rfl, by decide⟩ (fun w h => ?_))
theorem ji_V24 (h : JI 24 dy3 w0 wB w) : kT (f_V24_init w) (JI 25 dy3 w0 wB) := by
  unfold f_V24_init
  repeat' (first | exact kT_some h | refine JI.nw h rfl rfl (fun w h _ => ?_) | refine JI.lt h ⟨rfl, by decide⟩ (fun w h => ?_))
theorem ji_R26 (h : JI 26 dy3 w0 wB w) : kT (f_R26_init w) (JI 35 dy3 w0 wB) := by
  unfold f_R26_init
  repeat' (first | exact kT_some h | refine JI.nw h rfl rfl (fun w h _ => ?_) | refine JI.lt h ⟨rfl, by decide⟩ (fun w h => ?_))
theorem ji_P42 (h : JI 42 dy38 w0 wB w) : kT (f_P42_init w) (JI 55 dy38 w0 wB) := by
  unfold f_P42_init
  repeat' (first | exact kT_some h | refine JI.nw h rfl rfl (fun w h _ => ?_) | refine JI.lt h ⟨rfl, by decide⟩ (fun w h => ?_))
theorem ji_Q56 (h : JI 56 dy38 w0 wB w) : kT (f_Q56_init w) (JI 58 dy38 w0 wB) := by
  unfold f_Q56_init
  repeat' (first | exact kT_some h | refine JI.nw h rfl rfl (fun w h _ => ?_) | refine JI.lt h ⟨rfl, by decide⟩ (fun w h => ?_))
theorem ji_V59 (h : JI 59 dy38 w0 wB w) : kT (f_V59_init w) (JI 60 dy38 w0 wB) := by
  unfold f_V59_init
  repeat' (first | exact kT_some h | refine JI.nw h rfl rfl (fun w h _ => ?_) | refine JI.lt h ⟨rfl, by decide⟩ (fun w h => ?_))
theorem ji_R61 (h : JI 61 dy38 w0 wB w) : kT (f_R61_init w) (JI 70 dy38 w0 wB) := by
  unfold f_R61_init
  repeat' (first | exact kT_some h | refine JI.nw h rfl rfl (fun w h _ => ?_) | refine JI.lt h ⟨rfl, by decide⟩ (fun w h => ?_))
theorem ji_O (h : JI 72 dy38 w0 wB w) : kT (f_O_init w) (JI 73 dy38 w0 wB) := by
  unfold f_O_init
  repeat' (first | exact kT_some h | refine JI.nw h rfl rfl (fun w h _ => ?_) | refine JI.lt h ⟨rfl, by decide⟩ (fun w h => ?_))
theorem ji_S (h : JI 74 dy38 w0 wB w) : kT (f_S_init w) (JI 80 dy38 w0 wB) := by
  unfold f_S_init
  repeat' (first | exact kT_some h | refine JI.nw h rfl rfl (fun w h _ => ?_) | refine JI.lt h ⟨rfl, by decide⟩ (fun w h => ?_))
theorem ji_G3 (h : JI 3 dy0 w0 wB w) : kT (f_G3_init w) (fun w' => JI 6 dy0 w0 wB w' ∧ RG 3 w' 3 3) := by
  have g : gIn 3 3 := ⟨⟨by decide, by decide⟩, by decide, by decide⟩
  unfold f_G3_init
  refine JI.nw h rfl rfl (fun w h _ => ?_)
  refine JI.lt h ⟨rfl, by decide⟩ (fun w h => ?_)
  refine JI.nw h rfl rfl (fun w h _ => ?_)
  refine JI.lt h ⟨rfl, by decide⟩ (fun w h => ?_)
  refine JI.nw h rfl rfl (fun w h _ => ?_)
  refine JI.lt h ⟨rfl, by decide⟩ (fun w h => ?_)
  rw [qlt_ok, qlt_ok, qlt_ok, qlt_ok]
  have e3 : qud (qud (qud (qud w 3 3 3) 3 4 3) 3 5 9) 3 6 12 3 3 = 3 := by rw [qud_ni (by decide), qud_ni (by decide), qud_ni (by decide), qud_s]
  have e4 : qud (qud (qud (qud w 3 3 3) 3 4 3) 3 5 9) 3 6 12 3 4 = 3 := by rw [qud_ni (by decide), qud_ni (by decide), qud_s]
  rw [e3, e4]
  have h2 : JI 6 dy0 w0 wB (qud (qud (qud (qud w 3 3 3) 3 4 3) 3 5 9) 3 6 12) := (((h.qu ⟨rfl, by decide⟩).qu ⟨rfl, by decide⟩).qu ⟨rfl, by decide⟩).qu ⟨rfl, by decide⟩
  refine kT_bind (g_lay (o := 3) g) (fun w1 h1 => kT_some ⟨h2.fr (fun k hk => h1.2 k ?_), h1.1⟩)
  rcases hk with z | z
  · omega
  · cases z
theorem ji_G38 (h : JI 38 dy3 w0 wB w) : kT (f_G38_init w) (fun w' => JI 41 dy3 w0 wB w' ∧ RG 38 w' 3 3) := by
  have g : gIn 3 3 := ⟨⟨by decide, by decide⟩, by decide, by decide⟩
  unfold f_G38_init
  refine JI.nw h rfl rfl (fun w h _ => ?_)
  refine JI.lt h ⟨rfl, by decide⟩ (fun w h => ?_)
  refine JI.nw h rfl rfl (fun w h _ => ?_)
  refine JI.lt h ⟨rfl, by decide⟩ (fun w h => ?_)
  refine JI.nw h rfl rfl (fun w h _ => ?_)
  refine JI.lt h ⟨rfl, by decide⟩ (fun w h => ?_)
  rw [qlt_ok, qlt_ok, qlt_ok, qlt_ok]
  have e3 : qud (qud (qud (qud w 38 3 3) 38 4 3) 38 5 9) 38 6 12 38 3 = 3 := by rw [qud_ni (by decide), qud_ni (by decide), qud_ni (by decide), qud_s]
  have e4 : qud (qud (qud (qud w 38 3 3) 38 4 3) 38 5 9) 38 6 12 38 4 = 3 := by rw [qud_ni (by decide), qud_ni (by decide), qud_s]
  rw [e3, e4]
  have h2 : JI 41 dy3 w0 wB (qud (qud (qud (qud w 38 3 3) 38 4 3) 38 5 9) 38 6 12) := (((h.qu ⟨rfl, by decide⟩).qu ⟨rfl, by decide⟩).qu ⟨rfl, by decide⟩).qu ⟨rfl, by decide⟩
  refine kT_bind (g_lay (o := 38) g) (fun w1 h1 => kT_some ⟨h2.fr (fun k hk => h1.2 k ?_), h1.1⟩)
  rcases hk with z | z
  · omega
  · left
    unfold dy3 at z
    have z2 := (Bool.and_eq_true _ _ ▸ z : _ ∧ _).2
    have := Nat.le_of_ble_eq_true z2
    omega
theorem dy3_in (k0 : 3 ≤ k) (k1 : k ≤ 6) : dy3 k = true := by
  unfold dy3
  rw [Nat.ble_eq_true_of_le k0, Nat.ble_eq_true_of_le k1]
  rfl
theorem ji_N2 (h : JI 2 dy0 w0 wB w) : kT (f_N2_init w) (fun w' => ∃ wC, JI 36 dy3 w0 wC w' ∧ RG 3 wC 3 3) := by
  unfold f_N2_init
  refine JI.nw h rfl rfl (fun w h _ => ?_)
  refine kT_bind (ji_G3 h) (fun w1 h1 => ?_)
  have h : JI 6 dy3 w0 w1 w1 := ⟨h1.1.1, fun _ _ => rfl, rfl⟩
  have hG := h1.2
  suffices hh : kT (qlt (qud w1 2 0 ((3 : Nat) : Int)) fun w3 => qnw w3 7 fun w4 => (f_P7_init w4).bind fun q5 => qlt (qud q5 2 1 ((7 : Nat) : Int)) fun w6 => qnw w6 21 fun w7 => (f_Q21_init w7).bind fun q8 => qlt (qud q8 2 2 ((21 : Nat) : Int)) fun w9 => qnw w9 24 fun w10 => (f_V24_init w10).bind fun q11 => qlt (qud q11 2 3 ((24 : Nat) : Int)) fun w12 => qnw w12 26 fun w13 => (f_R26_init w13).bind fun q14 => qlt (qud q14 2 4 ((26 : Nat) : Int)) fun w15 => qnw w15 36 fun w16 => qlt (qud w16 2 5 ((36 : Nat) : Int)) fun w17 => qlt (qud w17 2 6 1) fun w18 => qlt (qud w18 2 7 0) fun w19 => qlt (qud w19 2 8 0) fun w20 => qlt (qud w20 2 9 0) fun w21 => qlt (qud w21 2 10 0) fun w22 => qlt (qud w22 2 11 0) fun w23 => qlt (qud w23 2 12 0) fun w24 => some w24) (JI 36 dy3 w0 w1) from kT_mono hh (fun w' hw => ⟨w1, hw, hG⟩)
  refine JI.lt h ⟨rfl, by decide⟩ (fun w h => ?_)
  refine JI.nw h rfl rfl (fun w h _ => ?_)
  refine kT_bind (ji_P7 h) (fun w h => ?_)
  refine JI.lt h ⟨rfl, by decide⟩ (fun w h => ?_)
  refine JI.nw h rfl rfl (fun w h _ => ?_)
  refine kT_bind (ji_Q21 h) (fun w h => ?_)
  refine JI.lt h ⟨rfl, by decide⟩ (fun w h => ?_)
  refine JI.nw h rfl rfl (fun w h _ => ?_)
  refine kT_bind (ji_V24 h) (fun w h => ?_)
  refine JI.lt h ⟨rfl, by decide⟩ (fun w h => ?_)
  refine JI.nw h rfl rfl (fun w h _ => ?_)
  refine kT_bind (ji_R26 h) (fun w h => ?_)
  repeat' (first | exact kT_some h | refine JI.nw h rfl rfl (fun w h _ => ?_) | refine JI.lt h ⟨rfl, by decide⟩ (fun w h => ?_))
theorem ji_N37 (h : JI 37 dy3 w0 wB w) (hG : RG 3 wB 3 3) : kT (f_N37_init w) (fun w' => ∃ wC, JI 71 dy38 w0 wC w' ∧ RG 3 wC 3 3 ∧ RG 38 wC 3 3) := by
  unfold f_N37_init
  refine JI.nw h rfl rfl (fun w h _ => ?_)
  refine kT_bind (ji_G38 h) (fun w1 h1 => ?_)
  have h : JI 41 dy38 w0 w1 w1 := ⟨h1.1.1, fun _ _ => rfl, rfl⟩
  have hG3 : RG 3 w1 3 3 := hG.fr (fun k a b => h1.1.2.1 k (dy3_in a (by omega)))
  have hG38 := h1.2
  suffices hh : kT (qlt (qud w1 37 0 ((38 : Nat) : Int)) fun w3 => qnw w3 42 fun w4 => (f_P42_init w4).bind fun q5 => qlt (qud q5 37 1 ((42 : Nat) : Int)) fun w6 => qnw w6 56 fun w7 => (f_Q56_init w7).bind fun q8 => qlt (qud q8 37 2 ((56 : Nat) : Int)) fun w9 => qnw w9 59 fun w10 => (f_V59_init w10).bind fun q11 => qlt (qud q11 37 3 ((59 : Nat) : Int)) fun w12 => qnw w12 61 fun w13 => (f_R61_init w13).bind fun q14 => qlt (qud q14 37 4 ((61 : Nat) : Int)) fun w15 => qnw w15 71 fun w16 => qlt (qud w16 37 5 ((71 : Nat) : Int)) fun w17 => qlt (qud w17 37 6 1) fun w18 => qlt (qud w18 37 7 0) fun w19 => qlt (qud w19 37 8 0) fun w20 => qlt (qud w20 37 9 0) fun w21 => qlt (qud w21 37 10 0) fun w22 => qlt (qud w22 37 11 0) fun w23 => qlt (qud w23 37 12 0) fun w24 => some w24) (JI 71 dy38 w0 w1) from kT_mono hh (fun w' hw => ⟨w1, hw, hG3, hG38⟩)
  refine JI.lt h ⟨rfl, by decide⟩ (fun w h => ?_)
  refine JI.nw h rfl rfl (fun w h _ => ?_)
  refine kT_bind (ji_P42 h) (fun w h => ?_)
  refine JI.lt h ⟨rfl, by decide⟩ (fun w h => ?_)
  refine JI.nw h rfl rfl (fun w h _ => ?_)
  refine kT_bind (ji_Q56 h) (fun w h => ?_)
  refine JI.lt h ⟨rfl, by decide⟩ (fun w h => ?_)
  refine JI.nw h rfl rfl (fun w h _ => ?_)
  refine kT_bind (ji_V59 h) (fun w h => ?_)
  refine JI.lt h ⟨rfl, by decide⟩ (fun w h => ?_)
  refine JI.nw h rfl rfl (fun w h _ => ?_)
  refine kT_bind (ji_R61 h) (fun w h => ?_)
  repeat' (first | exact kT_some h | refine JI.nw h rfl rfl (fun w h _ => ?_) | refine JI.lt h ⟨rfl, by decide⟩ (fun w h => ?_))
theorem ji_L (h : JI 81 dy38 w0 wB w) : kT (f_L_init w) (fun w' => JI 87 dy38 w0 wB w' ∧ w' 81 6 = 0 ∧ w' 81 13 = 0) := by
  unfold f_L_init
  refine JI.nw h rfl rfl (fun w h _ => ?_)
  refine JI.lt h ⟨rfl, by decide⟩ (fun w h => ?_)
  refine JI.nw h rfl rfl (fun w h _ => ?_)
  refine JI.lt h ⟨rfl, by decide⟩ (fun w h => ?_)
  refine JI.nw h rfl rfl (fun w h _ => ?_)
  refine JI.lt h ⟨rfl, by decide⟩ (fun w h => ?_)
  refine JI.nw h rfl rfl (fun w h _ => ?_)
  refine JI.lt h ⟨rfl, by decide⟩ (fun w h => ?_)
  refine JI.nw h rfl rfl (fun w h _ => ?_)
  refine JI.lt h ⟨rfl, by decide⟩ (fun w h => ?_)
  refine JI.nw h rfl rfl (fun w h _ => ?_)
  refine JI.lt h ⟨rfl, by decide⟩ (fun w h => ?_)
  rw [qlt_ok, qlt_ok, qlt_ok, qlt_ok, qlt_ok, qlt_ok, qlt_ok, qlt_ok, qlt_ok, qlt_ok]
  refine kT_some ⟨(((((((((h.qu ⟨rfl, by decide⟩).qu ⟨rfl, by decide⟩).qu ⟨rfl, by decide⟩).qu ⟨rfl, by decide⟩).qu ⟨rfl, by decide⟩).qu ⟨rfl, by decide⟩).qu ⟨rfl, by decide⟩).qu ⟨rfl, by decide⟩).qu ⟨rfl, by decide⟩).qu ⟨rfl, by decide⟩, ?_, ?_⟩
  · rw [qud_ni (by decide), qud_ni (by decide), qud_ni (by decide), qud_ni (by decide), qud_ni (by decide), qud_ni (by decide), qud_ni (by decide), qud_ni (by decide), qud_ni (by decide), qud_s]
  · rw [qud_ni (by decide), qud_ni (by decide), qud_s]
end IJ
