/-! delivering, hunger, marks, fewest: a net's -/
theorem w32_w {a b : Int} : w32 (w32 a + b) = w32 (a + b) := by
  unfold w32
  omega
theorem qbd {α β : Type} {F : Option α} {K : α → Option β} {a : α} (h : F = some a) : F.bind K = K a := by rw [h]; rfl
section NR2
variable {o : Nat} {w w0 S : qMem} {q p v k d a b c t n l h r : Int}
theorem sdv_14 : sdv S p c 5 14 = w32 (S 5 14 + 1) := by
  unfold sdv
  simp (disch := decide) only [qud_nk]
  rw [qud_s]
theorem sdl_r {f : Nat} (h5 : f ≠ 5) (h9 : f ≠ 9) (h13 : f ≠ 13) (h15 : f ≠ 15) (h35 : f ≠ 35) (h20 : f ≠ 20) (h21 : f ≠ 21) : sdl S v k f = S f := by
  unfold sdl
  split
  · rw [sdv_f h5 h9 h13 h15 h35, sdr_f h20 h21]
  · rfl
theorem sdl_c : sdl S v k 5 13 = S 5 13 := by
  unfold sdl
  split
  · rw [sdv_5, sdr_f (by decide) (by decide)]
  · rfl
/-- what delivering keeps -/
def KD (D x1 m : Int) (s : Int → Int) (g : Int → Int) (S : qMem) : Prop := IV S ∧ (S 0 = s ∧ S 1 = g) ∧ (0 ≤ x1 ∧ x1 ≤ m) ∧ S 5 14 = w32 (D + x1)
theorem n_del17 {r4 : Int → Int → qMem → Option (Int × qMem)} {x1 m D : Int} {s g : Int → Int} (hx : NX o w S) (K : KD D x1 m s g S) (hm : m ≤ 1000) (v0 : 0 ≤ v) (v1 : v < g 3 * g 4) : ∃ x1' w', (NX o w' (itk (fun k S => sdl S v (k + 1)) 8 S) ∧ FN o w w' ∧ KD D x1' (m + 8) s g (itk (fun k S => sdl S v (k + 1)) 8 S)) ∧ f_N_deliverFirsts_17 o r4 qFU x1 v 1 w = r4 x1' (w32 (v + 1)) w' := by
  have := it_loop (N := 8) (L := fun n x (s' : Int × qMem) => f_N_deliverFirsts_17 o r4 n s'.1 v (x + 1) s'.2) (ex := fun s' => r4 s'.1 (w32 (v + 1)) s'.2) (F := fun k S => sdl S v (k + 1)) (R := fun x s' S => NX o s'.2 S ∧ FN o w s'.2 ∧ KD D s'.1 (m + x) s g S)
    (by
      intro n x s' S2 x0 x8 ⟨h1, h2, I, ⟨e0, e1⟩, ⟨a0, a1⟩, e14⟩
      have v1' : v < S2 1 3 * S2 1 4 := by rw [e1]; exact v1
      have hN := gN I.1.1
      have hc := I.1.2.2.2.2.2.2
      have hI := I.dl (k := x + 1) v0 v1' (by omega) (by omega)
      have rr : sdl S2 v (x + 1) 0 = s ∧ sdl S2 v (x + 1) 1 = g := ⟨by rw [sdl_r (by decide) (by decide) (by decide) (by decide) (by decide) (by decide) (by decide)]; exact e0, by rw [sdl_r (by decide) (by decide) (by decide) (by decide) (by decide) (by decide) (by decide)]; exact e1⟩
      rw [f_N_deliverFirsts_17, if_pos (by omega), w32_ok (z := v * 9) (by omega) (by omega), w32_ok (z := v * 9 + (x + 1)) (by omega) (by omega), n_first h1.1 (by omega) (by omega)]
      simp only [Option.bind_some]
      rw [w32_ok (z := x + 1 + 1) (by omega) (by omega)]
      by_cases e : sfst S2 (v * 9 + (x + 1)) = -1
      · have ef : sdl S2 v (x + 1) = S2 := by
          unfold sdl sin
          rw [if_pos e]
          rfl
        rw [if_pos e, ef]
        exact ⟨s', ⟨h1, h2, I, ⟨e0, e1⟩, ⟨a0, by omega⟩, e14⟩, rfl⟩
      · have hs := sfst_in I.w.2.2.2 (by omega) (by omega) e
        rw [if_neg e, qld_ok hs.1 (by omega), rx_7 h1.1 hs.1 hs.2.1 hc.1.2]
        by_cases e2 : S2 7 (sfst S2 (v * 9 + (x + 1))) = v
        · have ef : sdl S2 v (x + 1) = sdv (sdr S2 (v * 9 + (x + 1))) (sfst S2 (v * 9 + (x + 1))) (S2 0 10) := by
            unfold sdl sin
            rw [if_neg e, decide_eq_true e2, if_pos rfl]
          rw [if_pos e2]
          have hq := (I.w.2.2.2 (v * 9 + (x + 1)) (by omega) (by omega)).1
          obtain ⟨w3, e3, h5, h6⟩ := n_dropFirst h1 (q := v * 9 + (x + 1)) (by omega) (by omega) hq.1 hq.2
          rw [e3]
          simp only [Option.bind_some]
          have e10 : w3 o 10 = S2 0 10 := by rw [rz_10 h5.1, sdr_f (by decide) (by decide)]
          rw [e10]
          obtain ⟨w4, e4, h7, h8⟩ := n_noteDelivery (c := S2 0 10) h5 (p := sfst S2 (v * 9 + (x + 1))) hs.1 (by rw [sdr_f (by decide) (by decide)]; exact hs.2.1) (by rw [sdr_f (by decide) (by decide)]; exact hc.1.2)
          rw [e4]
          simp only [Option.bind_some]
          rw [w32_ok (z := s'.1 + 1) (by omega) (by omega)]
          refine ⟨(s'.1 + 1, w4), ⟨by rw [ef]; exact h7, (h2.tr h6).tr h8, hI, rr, ⟨by dsimp only; omega, by dsimp only; omega⟩, ?_⟩, rfl⟩
          rw [ef, sdv_14, sdr_f (by decide) (by decide), e14, w32_w]
          dsimp only
          congr 1
          omega
        · have ef : sdl S2 v (x + 1) = S2 := by
            unfold sdl sin
            rw [if_neg e, decide_eq_false e2, if_neg (by decide)]
          rw [if_neg e2, ef]
          exact ⟨s', ⟨h1, h2, I, ⟨e0, e1⟩, ⟨a0, by omega⟩, e14⟩, rfl⟩)
    (by
      intro n s' S2 _
      show f_N_deliverFirsts_17 o r4 (n + 1) s'.1 v (8 + 1) s'.2 = _
      rw [f_N_deliverFirsts_17, if_neg (by decide)])
    (w := (x1, w)) (S := S) ⟨hx, FN.rfl', by rw [Int.add_zero]; exact K⟩ (by omega) (by omega)
  obtain ⟨s', hr, e⟩ := this
  exact ⟨s'.1, s'.2, hr, e⟩
theorem n_deliver {D : Int} (hx : NX o w S) (I : IV S) (hD : S 5 14 = w32 D) : ∃ x1 w', (NX o w' (skd S) ∧ FN o w w' ∧ KD D x1 144 (S 0) (S 1) (skd S)) ∧ f_N_deliverFirsts o w = some (x1, w') := by
  have hN := gN I.1.1
  have := it_loop (N := S 1 3 * S 1 4) (L := fun n x (s' : Int × qMem) => f_N_deliverFirsts_4 o n s'.1 x s'.2) (ex := fun s' => some s') (F := fun v S => itk (fun k S => sdl S v (k + 1)) 8 S) (R := fun x s' S' => NX o s'.2 S' ∧ FN o w s'.2 ∧ KD D s'.1 (8 * x) (S 0) (S 1) S')
    (by
      intro n x s' S2 x0 x8 ⟨h1, h2, h3⟩
      have e5 : s'.2 (o + 1) 5 = S 1 3 * S 1 4 := by rw [h1.2.2.1.1, h3.2.1.2]
      obtain ⟨x1', w', ⟨a, b, c⟩, e⟩ := n_del17 (r4 := f_N_deliverFirsts_4 o n) h1 h3 (by omega) x0 x8
      rw [f_N_deliverFirsts_4, e5, if_pos x8, e, w32_ok (z := x + 1) (by omega) (by omega)]
      exact ⟨(x1', w'), ⟨a, h2.tr b, by rw [show 8 * (x + 1) = 8 * x + 8 by omega]; exact c⟩, rfl⟩)
    (by
      intro n s' S2 ⟨h1, _, h3⟩
      have e5 : s'.2 (o + 1) 5 = S 1 3 * S 1 4 := by rw [h1.2.2.1.1, h3.2.1.2]
      show f_N_deliverFirsts_4 o (n + 1) s'.1 _ s'.2 = _
      rw [f_N_deliverFirsts_4, e5, if_neg (by omega)])
    (w := (0, w)) (S := S) ⟨hx, FN.rfl', I, ⟨rfl, rfl⟩, ⟨by dsimp only; omega, by dsimp only; omega⟩, by rw [Int.add_zero]; exact hD⟩ (by omega) (by omega)
  obtain ⟨s', ⟨a, b, c⟩, e⟩ := this
  refine ⟨s'.1, s'.2, ⟨a, b, ?_⟩, e⟩
  exact ⟨c.1, c.2.1, ⟨c.2.2.1.1, by have := c.2.2.1.2; omega⟩, c.2.2.2⟩
theorem n_wantsL (hx : NX o w S) (I : IW S) (v0 : 0 ≤ v) (v1 : v < S 1 3 * S 1 4) (d0 : 0 ≤ d) (d1 : d < 4) : ∀ (m j : Nat) (k : Int), 0 ≤ k → (9 - k).toNat = j → j < m → f_N_wantsIn_2 o m v d k w = some (bi (swiL S v d j k), w) := by
  intro m
  induction m with
  | zero => intro j k _ _ h; omega
  | succ m ih =>
    intro j k k0 hj hm
    rw [f_N_wantsIn_2]
    by_cases e : k < 9
    · obtain ⟨j', rfl⟩ : ∃ j', j = j' + 1 := ⟨j - 1, by omega⟩
      have IH := ih j' (k + 1) (by omega) (by omega) (by omega)
      rw [if_pos e, w32_ok (z := 1 + d) (by omega) (by omega), w32_ok (z := k + 1) (by omega) (by omega), swiL]
      by_cases e1 : k = 1 + d
      · rw [if_pos e1, if_pos e1]; exact IH
      · rw [if_neg e1, if_neg e1, n_isEscape hx I v0 v1 k0 e]
        simp only [Option.bind_some]
        cases ses S v k d with
        | true => rw [if_bt, if_pos rfl]; rfl
        | false => rw [if_bf, if_neg (by decide)]; exact IH
    · have : j = 0 := by omega
      subst this
      rw [if_neg e]
      rfl
theorem n_wantsIn (hx : NX o w S) (I : IW S) (v0 : 0 ≤ v) (v1 : v < S 1 3 * S 1 4) (d0 : 0 ≤ d) (d1 : d < 4) : f_N_wantsIn o v d w = some (bi (swi S v d), w) :=
  n_wantsL hx I v0 v1 d0 d1 qFU 9 0 (by omega) (by omega) (by unfold qFU; omega)
theorem n_note36 {z : Int} (hx : NX o w S) (v0 : 0 ≤ v) (v1 : v < 16) (d0 : 0 ≤ d) (d1 : d < 4) : kT (f_R_noteHunger_36 (o + 24) (v * 4 + d) z v (v * 4 + d) w) (fun w' => NX o w' (qud (qud S 31 (v * 4 + d) z) 32 v (if S 32 v < z then z else S 32 v)) ∧ FN o w w') := by
  have h1 := hx.v (f := 31) (n := v * 4 + d) (v := z) (by decide)
  have f1 := (FN.rfl' (o := o) (w := w)).q (f := 31) (n := v * 4 + d) (v := z) (by decide) (by decide)
  unfold f_R_noteHunger_36
  refine kT_st (by omega) (by omega) ?_
  refine kT_ld (by omega) (by omega) ?_
  refine kT_ld (by omega) (by omega) ?_
  refine kT_st (by omega) (by omega) ?_
  rw [show o + 24 + 7 = o + 31 from rfl, show o + 24 + 8 = o + 32 from rfl, qud_s, rx_32 h1.1 v0 v1, qud_nk (show (32 : Nat) ≠ 31 by decide)]
  exact kT_some ⟨h1.v (f := 32) (by decide), f1.q (f := 32) (by decide) (by decide)⟩
theorem n_hunger56 {r2 : Int → qMem → Option qMem} {r15 : Int → Int → qMem → Option qMem} (hx : NX o w S) (I : IV S) (v0 : 0 ≤ v) (v1 : v < S 1 3 * S 1 4) (d0 : 0 ≤ d) (d1 : d < 4) {b : Int} (hb : (b = 1 ∧ (swi S v d = true ∧ S 33 (v * 4 + d) = 0)) ∨ (b = 0 ∧ ¬ (swi S v d = true ∧ S 33 (v * 4 + d) = 0))) : ∃ w', (NX o w' (shu S v d) ∧ FN o w w') ∧ f_N_feelHunger_56 o r2 r15 v d b v d w = r15 v (w32 (d + 1)) w' := by
  have hN := gN I.1.1
  unfold f_N_feelHunger_56 f_R_noteHunger
  rw [w32_ok (z := v * 4) (by omega) (by omega), w32_ok (z := v * 4 + d) (by omega) (by omega)]
  have h31 := (I.2.2.2.1 (v * 4 + d) (by omega) (by omega)).1
  rcases hb with ⟨rfl, hb⟩ | ⟨rfl, hb⟩
  · have ev : (if 999 < w32 (S 31 (v * 4 + d) + 1) then 999 else w32 (S 31 (v * 4 + d) + 1)) = shv S v d := by
      unfold shv
      rw [if_pos hb, w32_ok (by omega) (by omega)]
      split <;> split <;> omega
    rw [if_neg (by decide), qld_ok (by omega) (by omega), show w (o + 24 + 7) (v * 4 + d) = S 31 (v * 4 + d) from rx_31 hx.1 (by omega) (by omega), ev]
    obtain ⟨w', e, h1, h2⟩ := n_note36 (z := shv S v d) hx v0 (by omega : v < 16) d0 d1
    rw [e]
    exact ⟨w', ⟨h1, h2⟩, rfl⟩
  · have ev : shv S v d = 0 := by
      unfold shv
      rw [if_neg hb]
    rw [if_pos rfl]
    obtain ⟨w', e, h1, h2⟩ := n_note36 (z := 0) hx v0 (by omega : v < 16) d0 d1
    rw [e]
    refine ⟨w', ⟨?_, h2⟩, rfl⟩
    unfold shu
    rw [ev]
    exact h1
theorem shu_r {f : Nat} (h31 : f ≠ 31) (h32 : f ≠ 32) : shu S v d f = S f := by unfold shu; rw [qud_row h32, qud_row h31]
theorem n_hunger15 {r2 : Int → qMem → Option qMem} {g : Int → Int} (hx : NX o w S) (I : IV S) (hg : S 1 = g) (v0 : 0 ≤ v) (v1 : v < g 3 * g 4) : ∃ w', (NX o w' (itk (fun d S => shu S v d) 4 S) ∧ FN o w w' ∧ IV (itk (fun d S => shu S v d) 4 S) ∧ itk (fun d S => shu S v d) 4 S 1 = g) ∧ f_N_feelHunger_15 o r2 qFU v 0 w = r2 (w32 (v + 1)) w' := by
  have := it_loop (N := 4) (L := fun n x w => f_N_feelHunger_15 o r2 n v x w) (ex := fun w => r2 (w32 (v + 1)) w) (F := fun d S => shu S v d) (R := fun x w' S => NX o w' S ∧ FN o w w' ∧ IV S ∧ S 1 = g)
    (by
      intro n x w2 S2 x0 x8 ⟨h1, h2, h3, h4⟩
      have v1' : v < S2 1 3 * S2 1 4 := by rw [h4]; exact v1
      have hN := gN h3.1.1
      have hI := h3.hu (v := v) (d := x) v0 (by omega) x0 x8
      have h1' : shu S2 v x 1 = g := by rw [shu_r (by decide) (by decide)]; exact h4
      have step : ∀ b : Int, (b = 1 ∧ (swi S2 v x = true ∧ S2 33 (v * 4 + x) = 0)) ∨ (b = 0 ∧ ¬ (swi S2 v x = true ∧ S2 33 (v * 4 + x) = 0)) → ∃ w', (NX o w' (shu S2 v x) ∧ FN o w w' ∧ IV (shu S2 v x) ∧ shu S2 v x 1 = g) ∧ f_N_feelHunger_56 o r2 (f_N_feelHunger_15 o r2 n) v x b v x w2 = f_N_feelHunger_15 o r2 n v (x + 1) w' := by
        intro b hb
        obtain ⟨w', ⟨a, b'⟩, e⟩ := n_hunger56 (r2 := r2) (r15 := f_N_feelHunger_15 o r2 n) h1 h3 v0 v1' x0 x8 hb
        rw [w32_ok (z := x + 1) (by omega) (by omega)] at e
        exact ⟨w', ⟨a, h2.tr b', hI, h1'⟩, e⟩
      rw [f_N_feelHunger_15, if_pos x8, n_wantsIn h1 h3.w v0 v1' x0 x8]
      simp only [Option.bind_some]
      cases hw : swi S2 v x with
      | false =>
        rw [if_bf]
        exact step 0 (Or.inr ⟨rfl, by rw [hw]; rintro ⟨h, -⟩; cases h⟩)
      | true =>
        rw [if_bt, w32_ok (z := v * 4) (by omega) (by omega), w32_ok (z := v * 4 + x) (by omega) (by omega), qld_ok (by omega) (by omega), rx_33 h1.1 (by omega) (by omega)]
        by_cases e : S2 33 (v * 4 + x) = 0
        · rw [if_pos e]
          exact step 1 (Or.inl ⟨rfl, hw, e⟩)
        · rw [if_neg e]
          exact step 0 (Or.inr ⟨rfl, fun z => e z.2⟩))
    (by
      intro n w2 S2 _
      show f_N_feelHunger_15 o r2 (n + 1) v 4 w2 = _
      rw [f_N_feelHunger_15, if_neg (by decide)])
    (w := w) (S := S) ⟨hx, FN.rfl', I, hg⟩ (by omega) (by omega)
  exact this
theorem n_feelHunger (hx : NX o w S) (I : IV S) : kT (f_N_feelHunger o w) (fun w' => NX o w' (skh S) ∧ FN o w w' ∧ IV (skh S) ∧ skh S 1 = S 1) := by
  have hN := gN I.1.1
  have := it_loop (N := S 1 3 * S 1 4) (L := fun n x w => f_N_feelHunger_2 o n x w) (ex := fun w => some w) (F := fun v S => itk (fun d S => shu S v d) 4 S) (R := fun x w' S' => NX o w' S' ∧ FN o w w' ∧ IV S' ∧ S' 1 = S 1)
    (by
      intro n x w2 S2 x0 x8 ⟨h1, h2, h3, h4⟩
      have e5 : w2 (o + 1) 5 = S 1 3 * S 1 4 := by rw [h1.2.2.1.1, h4]
      obtain ⟨w', ⟨a, b, c, d⟩, e⟩ := n_hunger15 (r2 := f_N_feelHunger_2 o n) h1 h3 h4 x0 x8
      rw [f_N_feelHunger_2, e5, if_pos x8, e, w32_ok (z := x + 1) (by omega) (by omega)]
      exact ⟨w', ⟨a, h2.tr b, c, d⟩, rfl⟩)
    (by
      intro n w2 S2 ⟨h1, _, _, h4⟩
      have e5 : w2 (o + 1) 5 = S 1 3 * S 1 4 := by rw [h1.2.2.1.1, h4]
      show f_N_feelHunger_2 o (n + 1) _ w2 = _
      rw [f_N_feelHunger_2, e5, if_neg (by omega)])
    (w := w) (S := S) ⟨hx, FN.rfl', I, rfl⟩ (by omega) (by omega)
  obtain ⟨w', hr, e⟩ := this
  exact ⟨w', e, hr⟩
theorem n_hungriest (hx : NX o w S) (I : IV S) (r0 : 0 ≤ r) (r1 : r < 2 * (S 1 3 + S 1 4)) : f_N_hungriestIn o r (gd (S 1 3) (S 1 4) r) w = some (shg S r, w) := by
  have hl := gl_in (r := r) I.1.1
  have hd := gd_in (W := S 1 3) (H := S 1 4) (r := r)
  have hN := gN I.1.1
  have hlim := I.1.2.2.2.2.1
  unfold f_N_hungriestIn
  rw [rz_9 hx.1, w32_ok (by omega) (by omega)]
  have := fl_loop (N := gl (S 1 3) (S 1 4) r) (L := fun n x b => f_N_hungriestIn_13 o n r (gd (S 1 3) (S 1 4) r) b (if b = -1 then S 0 9 - 1 else S 31 (b * 4 + gd (S 1 3) (S 1 4) r)) x w) (ex := fun b => some (b, w)) (g := shgS S (gd (S 1 3) (S 1 4) r)) (h := gq (S 1 3) (S 1 4) r) (Q := fun _ b => b = -1 ∨ S 0 9 ≤ S 31 (b * 4 + gd (S 1 3) (S 1 4) r))
    (by
      intro m x b x0 x1 hb
      have hq := gq_in I.1.1 r0 r1 x0 x1
      rw [f_N_hungriestIn_13, g_ringLength hx.2.1 I.1.1]
      simp only [Option.bind_some]
      rw [if_pos x1, g_ringNode hx.2.1 I.1.1 r0 r1 x0 (by omega)]
      simp only [Option.bind_some]
      rw [w32_ok (z := gq (S 1 3) (S 1 4) r x * 4) (by omega) (by omega), w32_ok (by omega) (by omega), qld_ok (by omega) (by omega), qld_ok (by omega) (by omega), rx_31 hx.1 (by omega) (by omega), w32_ok (z := x + 1) (by omega) (by omega)]
      unfold shgS
      by_cases e : b = -1
      · rw [if_pos e]
        by_cases e2 : S 31 (gq (S 1 3) (S 1 4) r x * 4 + gd (S 1 3) (S 1 4) r) < S 0 9
        · rw [if_pos (show _ ≤ _ by omega), if_pos e2, if_pos e]
          exact ⟨Or.inl e, rfl⟩
        · rw [if_neg (show ¬ _ ≤ _ by omega), if_neg e2, if_pos (Or.inl e), if_neg (show ¬ _ = _ by omega)]
          exact ⟨Or.inr (by omega), rfl⟩
      · have hb' := hb.resolve_left e
        rw [if_neg e]
        by_cases e2 : S 31 (b * 4 + gd (S 1 3) (S 1 4) r) < S 31 (gq (S 1 3) (S 1 4) r x * 4 + gd (S 1 3) (S 1 4) r)
        · rw [if_neg (show ¬ _ ≤ _ by omega), if_neg (by omega), if_pos (Or.inr e2), if_neg (show ¬ _ = _ by omega)]
          exact ⟨Or.inr (by omega), rfl⟩
        · rw [if_pos (show _ ≤ _ by omega)]
          by_cases e3 : S 31 (gq (S 1 3) (S 1 4) r x * 4 + gd (S 1 3) (S 1 4) r) < S 0 9
          · rw [if_pos e3, if_neg e]
            exact ⟨Or.inr hb', rfl⟩
          · rw [if_neg e3, if_neg (by rintro (h | h); exact e h; exact e2 h), if_neg e]
            exact ⟨Or.inr hb', rfl⟩)
    (by
      intro m b
      rw [f_N_hungriestIn_13, g_ringLength hx.2.1 I.1.1]
      simp only [Option.bind_some]
      rw [if_neg (by omega)])
    (s := -1) (Or.inl rfl) (by omega) (by omega)
  have e := this.2
  rw [if_pos rfl] at e
  exact e

theorem n_heldL (hx : NX o w S) (I : IW S) (r0 : 0 ≤ r) (r1 : r < 2 * (S 1 3 + S 1 4)) : (0 ≤ shd S r ∧ shd S r ≤ 6 * gl (S 1 3) (S 1 4) r) ∧ f_N_heldIn_14 o qFU r (gd (S 1 3) (S 1 4) r) 0 0 w = some (shd S r, w) := by
  have hl := gl_in (r := r) I.1
  have hd := gd_in (W := S 1 3) (H := S 1 4) (r := r)
  have hN := gN I.1
  exact fl_loop (N := gl (S 1 3) (S 1 4) r) (L := fun n x s => f_N_heldIn_14 o n r (gd (S 1 3) (S 1 4) r) s x w) (ex := fun b => some (b, w)) (g := fun s v => s + S 20 (v * 9 + 1 + gd (S 1 3) (S 1 4) r)) (h := gq (S 1 3) (S 1 4) r) (Q := fun x s => 0 ≤ s ∧ s ≤ 6 * x)
    (by
      intro m x s x0 x1 hs
      have hq := gq_in I.1 r0 r1 x0 x1
      have h20 := (I.2.2.2 (gq (S 1 3) (S 1 4) r x * 9 + 1 + gd (S 1 3) (S 1 4) r) (by omega) (by omega)).1
      rw [f_N_heldIn_14, g_ringLength hx.2.1 I.1]
      simp only [Option.bind_some]
      rw [if_pos x1, g_ringNode hx.2.1 I.1 r0 r1 x0 (by omega)]
      simp only [Option.bind_some]
      rw [w32_ok (z := gq (S 1 3) (S 1 4) r x * 9) (by omega) (by omega), w32_ok (z := gq (S 1 3) (S 1 4) r x * 9 + 1) (by omega) (by omega), w32_ok (z := gq (S 1 3) (S 1 4) r x * 9 + 1 + gd (S 1 3) (S 1 4) r) (by omega) (by omega), qld_ok (by omega) (by omega), rx_20 hx.1 (by omega) (by omega), w32_ok (by omega) (by omega), w32_ok (by omega) (by omega)]
      exact ⟨⟨by omega, by omega⟩, rfl⟩)
    (by
      intro m b
      rw [f_N_heldIn_14, g_ringLength hx.2.1 I.1]
      simp only [Option.bind_some]
      rw [if_neg (by omega)])
    (s := 0) ⟨by omega, by omega⟩ (by omega) (by omega)
theorem n_heldIn (hx : NX o w S) (I : IW S) (r0 : 0 ≤ r) (r1 : r < 2 * (S 1 3 + S 1 4)) : f_N_heldIn o r w = some (shd S r, w) ∧ 0 ≤ shd S r ∧ shd S r ≤ 24 := by
  have hl := gl_in (r := r) I.1
  have h := n_heldL hx I r0 r1
  unfold f_N_heldIn
  rw [qbd (g_ringDirection hx.2.1 I.1)]
  exact ⟨h.2, h.1.1, by omega⟩
theorem n_freeIn (hx : NX o w S) (I : IW S) (r0 : 0 ≤ r) (r1 : r < 2 * (S 1 3 + S 1 4)) : f_N_freeIn o r w = some (sfi S r, w) := by
  have hl := gl_in (r := r) I.1
  have hh := n_heldIn hx I r0 r1
  have hE := I.2.1.1
  have hm : 0 ≤ gl (S 1 3) (S 1 4) r * S 0 6 ∧ gl (S 1 3) (S 1 4) r * S 0 6 ≤ 16 := by
    rcases (by omega : gl (S 1 3) (S 1 4) r = 2 ∨ gl (S 1 3) (S 1 4) r = 3 ∨ gl (S 1 3) (S 1 4) r = 4) with e | e | e <;> rw [e] <;> omega
  unfold f_N_freeIn sfi
  rw [g_ringLength hx.2.1 I.1]
  simp only [Option.bind_some]
  rw [hh.1]
  simp only [Option.bind_some]
  rw [rz_6 hx.1, w32_ok (z := gl (S 1 3) (S 1 4) r * S 0 6) (by omega) (by omega), w32_ok (by omega) (by omega)]
theorem n_noteFewest (hx : NX o w S) (I : IV S) : kT (f_N_noteFewest o w) (fun w' => NX o w' (skw S) ∧ FN o w w' ∧ IV (skw S) ∧ skw S 1 = S 1) := by
  have hg := I.1.1
  obtain ⟨⟨ga, gb⟩, gc, gd'⟩ := hg
  have := it_loop (N := 2 * (S 1 3 + S 1 4)) (L := fun n x w => f_N_noteFewest_2 o n x w) (ex := fun w => some w) (F := fun r S => sfw S r) (R := fun x w' S' => NX o w' S' ∧ FN o w w' ∧ IV S' ∧ S' 1 = S 1)
    (by
      intro n x w2 S2 x0 x8 ⟨h1, h2, h3, h4⟩
      have e5 : w2 (o + 1) 6 = 2 * (S 1 3 + S 1 4) := by rw [h1.2.2.1.2, h4]
      have x8' : x < 2 * (S2 1 3 + S2 1 4) := by rw [h4]; exact x8
      rw [f_N_noteFewest_2, e5, if_pos x8, qld_ok x0 (by omega), n_freeIn h1 h3.w x0 x8']
      simp only [Option.bind_some]
      rw [qst_ok x0 (by omega), rx_30 h1.1 x0 x8' (by rw [h4]; omega), w32_ok (z := x + 1) (by omega) (by omega)]
      exact ⟨_, ⟨h1.v (f := 30) (by decide), h2.q (f := 30) (by decide) (by decide), h3.fw, by rw [sfw_r (by decide)]; exact h4⟩, rfl⟩)
    (by
      intro n w2 S2 ⟨h1, _, _, h4⟩
      have e5 : w2 (o + 1) 6 = 2 * (S 1 3 + S 1 4) := by rw [h1.2.2.1.2, h4]
      show f_N_noteFewest_2 o (n + 1) _ w2 = _
      rw [f_N_noteFewest_2, e5, if_neg (by omega)])
    (w := w) (S := S) ⟨hx, FN.rfl', I, rfl⟩ (by omega) (by omega)
  obtain ⟨w', hr, e⟩ := this
  exact ⟨w', e, hr⟩
end NR2
