/-! the reference: which one goes, hunger, marks, free places -/
def mfin (S : qMem) (v d r : Int) (w : qMem) : Option qMem := if r = -1 then some w else (f_M_goes (sfst S (v * 9 + r)) v r d w).bind fun q => some q
section MO
variable {w w' S : qMem} {v k d p q n r l t h b c x : Int} {f : Nat}
theorem scn_no (h : k ≠ 1 + d) : scn S v k d = false := by
  unfold scn
  rw [decide_eq_false h, Bool.false_and]
theorem m_96 (hf : sfst S (v * 9 + c) ≠ -1) (hc : c ≠ -1) : f_M_oneGoes_96 v d (sfst S (v * 9 + c)) c w = mfin S v d c w := by
  unfold f_M_oneGoes_96 mfin
  rw [if_neg hf, if_neg hc]
theorem m_one_A (hR : RM w S) (I : IV S) (B : IB S) (v0 : 0 ≤ v) (v1 : v < S 1 3 * S 1 4) (d0 : 0 ≤ d) (d1 : d < 4) (hcn : scn S v (1 + d) d = true) (he : sfst S (v * 9 + (1 + d)) ≠ -1) : ∀ (m j : Nat) (k : Int), 1 + d < k → (9 - k).toNat = j → j < m → f_M_oneGoes_8 m v d (sfst S (v * 9 + (1 + d))) (1 + d) k w = mfin S v d (1 + d) w := by
  have hN := gN I.1.1
  have hc := I.1.2.2.2.2.2.2.1.2
  intro m
  induction m with
  | zero => intro j k _ _ h; omega
  | succ m ih =>
    intro j k k0 hj hm
    rw [f_M_oneGoes_8]
    by_cases e : k < 9
    · have IH := ih (9 - (k + 1)).toNat (k + 1) (by omega) rfl (by omega)
      rw [if_pos e, m_firstOf hR I.w.2.2.2 v0 (by omega) (by omega) e]
      simp only [Option.bind_some]
      rw [w32_ok (z := k + 1) (by omega) (by omega)]
      by_cases e1 : sfst S (v * 9 + k) = -1
      · rw [if_pos e1]; exact IH
      · have hs := sfst_in I.w.2.2.2 (by omega) (by omega) e1
        rw [if_neg e1, m_of hR hs.1 hs.2.1 hc (f := 17) (by decide) (by decide) (by decide)]
        simp only [Option.bind_some]
        rw [qld_ok (by decide) (by decide), rm_0_10 hR]
        by_cases e2 : S 17 (sfst S (v * 9 + k)) = S 0 10
        · rw [if_pos e2]; exact IH
        · rw [if_neg e2, m_canGo hR I v0 v1 (by omega) e d0 d1 e1]
          simp only [Option.bind_some]
          cases scg S v k d with
          | false => rw [if_bf]; exact IH
          | true =>
            rw [if_bt, if_neg he, m_isAhead hR I B v0 v1 (by omega) e (by omega) (by omega) d0 d1 e1 he]
            simp only [Option.bind_some]
            rw [scn_no (show k ≠ 1 + d by omega), hcn, if_neg (show ¬ false = true by decide), if_bf]
            exact IH
    · rw [if_neg e]
      exact m_96 he (by omega)
theorem m_one_B (hR : RM w S) (I : IV S) (B : IB S) (v0 : 0 ≤ v) (v1 : v < S 1 3 * S 1 4) (d0 : 0 ≤ d) (d1 : d < 4) : ∀ (m j : Nat) (c b c' k : Int), 0 ≤ k → (9 - k).toNat = j → j < m → ((b = -1 ∧ c = -1) ∨ (b ≠ -1 ∧ (0 ≤ c ∧ c < 9) ∧ c' = c ∧ b = sfst S (v * 9 + c) ∧ scn S v c d = false)) → f_M_oneGoes_8 m v d b c' k w = mfin S v d (schL S v d j c b k) w := by
  have hN := gN I.1.1
  have hc := I.1.2.2.2.2.2.2.1.2
  intro m
  induction m with
  | zero => intro j c b c' k _ _ h; omega
  | succ m ih =>
    intro j c b c' k k0 hj hm hi
    rw [f_M_oneGoes_8]
    by_cases e : k < 9
    · obtain ⟨j', rfl⟩ : ∃ j', j = j' + 1 := ⟨j - 1, by omega⟩
      have IH := ih j' c b c' (k + 1) (by omega) (by omega) (by omega) hi
      rw [if_pos e, m_firstOf hR I.w.2.2.2 v0 (by omega) (by omega) e, schL]
      simp only [Option.bind_some]
      rw [w32_ok (z := k + 1) (by omega) (by omega)]
      by_cases e1 : sfst S (v * 9 + k) = -1
      · rw [if_pos e1, if_pos (Or.inl e1)]; exact IH
      · have hs := sfst_in I.w.2.2.2 (by omega) (by omega) e1
        rw [if_neg e1, m_of hR hs.1 hs.2.1 hc (f := 17) (by decide) (by decide) (by decide)]
        simp only [Option.bind_some]
        rw [qld_ok (by decide) (by decide), rm_0_10 hR]
        by_cases e2 : S 17 (sfst S (v * 9 + k)) = S 0 10
        · rw [if_pos e2, if_pos (Or.inr (Or.inl e2))]; exact IH
        · rw [if_neg e2, m_canGo hR I v0 v1 k0 e d0 d1 e1]
          simp only [Option.bind_some]
          cases e3 : scg S v k d with
          | false => rw [if_bf, if_pos (Or.inr (Or.inr rfl))]; exact IH
          | true =>
            have h83 : f_M_oneGoes_83 (f_M_oneGoes_8 m) v d k (sfst S (v * 9 + k)) w = f_M_oneGoes_8 m v d (sfst S (v * 9 + k)) k (k + 1) w := by
              unfold f_M_oneGoes_83
              rw [w32_ok (z := k + 1) (by omega) (by omega)]
            have hn : ¬ (sfst S (v * 9 + k) = -1 ∨ S 17 (sfst S (v * 9 + k)) = S 0 10 ∨ true = false) := by
              rintro (z | z | z)
              · exact e1 z
              · exact e2 z
              · cases z
            rw [if_bt, if_neg hn]
            cases e4 : scn S v k d with
            | true =>
              have hk := scn_f e4
              have hA : f_M_oneGoes_8 m v d (sfst S (v * 9 + k)) k (k + 1) w = mfin S v d k w := by
                have := m_one_A hR I B v0 v1 d0 d1 (by rw [← hk]; exact e4) (by rw [← hk]; exact e1) m (9 - (k + 1)).toNat (k + 1) (by omega) rfl (by omega)
                rw [← hk] at this
                exact this
              rw [if_pos rfl]
              rcases hi with ⟨hb, -⟩ | ⟨hb, hc9, -, hbs, hcn⟩
              · rw [if_pos hb, h83]
                exact hA
              · rw [if_neg hb, hbs, m_isAhead hR I B v0 v1 k0 e hc9.1 hc9.2 d0 d1 e1 (by rw [← hbs]; exact hb)]
                simp only [Option.bind_some]
                rw [e4, hcn, if_neg (show ¬ true = false by decide), if_bt, h83]
                exact hA
            | false =>
              rw [if_neg (show ¬ false = true by decide)]
              have IHk := ih j' k (sfst S (v * 9 + k)) k (k + 1) (by omega) (by omega) (by omega) (Or.inr ⟨e1, ⟨k0, e⟩, rfl, rfl, e4⟩)
              rcases hi with ⟨hb, hc'⟩ | ⟨hb, hc9, hcc, hbs, hcn⟩
              · rw [if_pos hb, h83, if_pos (Or.inl hb)]
                exact IHk
              · have hah := m_isAhead hR I B v0 v1 k0 e hc9.1 hc9.2 d0 d1 e1 (by rw [← hbs]; exact hb)
                rw [← hbs, e4, hcn, if_pos rfl] at hah
                rw [if_neg hb, hah]
                simp only [Option.bind_some]
                by_cases e6 : sfst S (v * 9 + k) < b
                · rw [decide_eq_true e6, if_bt, h83, if_pos (Or.inr e6)]
                  exact IHk
                · rw [decide_eq_false e6, if_bf, if_neg (show ¬ (b = -1 ∨ sfst S (v * 9 + k) < b) from fun z => z.elim hb e6)]
                  exact IH
    · have : j = 0 := by omega
      subst this
      rw [if_neg e, schL]
      rcases hi with ⟨hb, hc'⟩ | ⟨hb, hc9, hcc, hbs, hcn⟩
      · unfold f_M_oneGoes_96 mfin
        rw [if_pos hb, if_pos hc']
      · rw [hcc, hbs]
        exact m_96 (by rw [← hbs]; exact hb) (by omega)
theorem m_oneGoes (hR : RM w S) (I : IV S) (B : IB S) (X : w32 (S 0 11) = S 0 11) (v0 : 0 ≤ v) (v1 : v < S 1 3 * S 1 4) (d0 : 0 ≤ d) (d1 : d < 4) (hm : S 22 1 < 64) : kT (f_M_oneGoes v d w) (fun w' => RM w' (sgc S v d) ∧ FM w w') := by
  unfold f_M_oneGoes
  rw [m_one_B hR I B v0 v1 d0 d1 qFU 9 (-1) (-1) 0 0 (by omega) (by omega) (by unfold qFU; omega) (Or.inl ⟨rfl, rfl⟩)]
  unfold mfin sgc
  rw [show schL S v d 9 (-1) (-1) 0 = sch S v d from rfl]
  by_cases e : sch S v d = -1
  · rw [if_pos e, if_pos e]
    exact kT_some ⟨hR, FM.rfl'⟩
  · rw [if_neg e, if_neg e]
    have hk := sch_ok e
    refine kT_bind (m_goes hR I X v0 v1 hk.1 hk.2.1 d0 d1 (sok_of d0 hk.2.2) hm) (fun w1 h1 => kT_some h1)
theorem m_hungryL (hR : RM w S) (I : IV S) (v0 : 0 ≤ v) (v1 : v < S 1 3 * S 1 4) (d0 : 0 ≤ d) (d1 : d < 4) : ∀ (m j : Nat) (k : Int), 0 ≤ k → (9 - k).toNat = j → j < m → f_M_isHungry_22 m v d k w = some (bi (swiL S v d j k), w) := by
  have hN := gN I.1.1
  have hc := I.1.2.2.2.2.2.2.1.2
  intro m
  induction m with
  | zero => intro j k _ _ h; omega
  | succ m ih =>
    intro j k k0 hj hm
    rw [f_M_isHungry_22]
    by_cases e : k < 9
    · obtain ⟨j', rfl⟩ : ∃ j', j = j' + 1 := ⟨j - 1, by omega⟩
      have IH := ih j' (k + 1) (by omega) (by omega) (by omega)
      rw [if_pos e, m_firstOf hR I.w.2.2.2 v0 (by omega) (by omega) e, swiL]
      simp only [Option.bind_some]
      rw [w32_ok (z := k + 1) (by omega) (by omega), w32_ok (z := 1 + d) (by omega) (by omega)]
      by_cases e1 : k = 1 + d
      · rw [if_pos e1, if_pos e1]; exact IH
      · rw [if_neg e1, if_neg e1]
        unfold ses
        by_cases e2 : sfst S (v * 9 + k) = -1
        · rw [if_pos e2, if_pos e2, if_neg (by decide)]; exact IH
        · have hs := sfst_in I.w.2.2.2 (by omega) (by omega) e2
          have ht := I.w.2.2.1 _ hs.1 hs.2.1
          rw [if_neg e2, if_neg e2, m_of hR hs.1 hs.2.1 hc (f := 7) (by decide) (by decide) (by decide)]
          simp only [Option.bind_some]
          rw [mg_escapeOf hR.wh I.1.1 v0 v1 ht.1 ht.2]
          simp only [Option.bind_some]
          by_cases e3 : ge (S 1 3) (S 1 4) v (S 7 (sfst S (v * 9 + k))) = d
          · rw [if_pos e3, if_pos (decide_eq_true e3)]; rfl
          · rw [if_neg e3, if_neg (by rw [decide_eq_false e3]; decide)]; exact IH
    · have : j = 0 := by omega
      subst this
      rw [if_neg e]
      rfl
theorem m_hun54 (hR : RM w S) (v0 : 0 ≤ v) (v1 : v < 16) (d0 : 0 ≤ d) (d1 : d < 4) : kT (f_M_hungers_54 (5370 + 4 * v + d) h v (5370 + 4 * v + d) w) (fun w' => RM w' (qud (qud S 31 (v * 4 + d) h) 32 v (if S 32 v < h then h else S 32 v)) ∧ FM w w') := by
  have h1 := hR.wr (f := 31) (n := v * 4 + d) (v := h) (a := 5370 + 4 * v + d) (by unfold vv; omega) (by rw [ad_31]; omega) (by decide) (by decide) (by decide) (by decide) (by decide)
  unfold f_M_hungers_54
  rw [qst_ok (by omega) (by omega), qld_ok (by omega) (by omega), qud_s, w32_ok (by omega) (by omega), qld_ok (by omega) (by omega), rm_32 h1 (n := v) v0 v1 rfl, qud_nk (show (32 : Nat) ≠ 31 by decide)]
  by_cases e : h ≤ S 32 v
  · rw [if_pos e, if_neg (by omega), qud_self (T := qud S 31 (v * 4 + d) h) (k := 32) (a := v) (v := S 32 v) (by rw [qud_nk (show (32 : Nat) ≠ 31 by decide)])]
    exact kT_some ⟨h1, FM.rfl'.q⟩
  · rw [if_neg e, if_pos (by omega), qld_ok (by omega) (by omega), qud_s, qst_ok (by omega) (by omega)]
    exact kT_some ⟨h1.wr (f := 32) (n := v) (a := 5434 + v) (by unfold vv; omega) (by rw [ad_32]) (by decide) (by decide) (by decide) (by decide) (by decide), FM.rfl'.q.q⟩
theorem m_hungers (hR : RM w S) (I : IV S) (v0 : 0 ≤ v) (v1 : v < S 1 3 * S 1 4) (d0 : 0 ≤ d) (d1 : d < 4) : kT (f_M_hungers v d w) (fun w' => RM w' (shu S v d) ∧ FM w w') := by
  have hN := gN I.1.1
  have h33 := (I.2.2.2.1 (v * 4 + d) (by omega) (by omega)).2
  have h31 := (I.2.2.2.1 (v * 4 + d) (by omega) (by omega)).1
  have hw : ∀ b : Bool, f_M_isHungry v d w = some (bi b, w) → b = (swi S v d && decide (S 33 (v * 4 + d) = 0)) → kT (f_M_hungers v d w) (fun w' => RM w' (shu S v d) ∧ FM w w') := by
    intro b hb eb
    unfold f_M_hungers
    rw [hb, w32_ok (z := 4 * v) (by omega) (by omega), w32_ok (z := 5370 + 4 * v) (by omega) (by omega), w32_ok (z := 5370 + 4 * v + d) (by omega) (by omega)]
    simp only [Option.bind_some]
    unfold shu
    cases b with
    | false =>
      have hn : ¬ (swi S v d = true ∧ S 33 (v * 4 + d) = 0) := by
        rintro ⟨a1, a2⟩
        rw [a1, decide_eq_true a2] at eb
        cases eb
      have ev : shv S v d = 0 := by unfold shv; rw [if_neg hn]
      rw [if_bf, ev]
      exact m_hun54 hR v0 (by omega) d0 d1
    | true =>
      have hp : swi S v d = true ∧ S 33 (v * 4 + d) = 0 := by
        have := eb.symm
        rw [Bool.and_eq_true] at this
        exact ⟨this.1, of_decide_eq_true this.2⟩
      rw [if_bt, qld_ok (by omega) (by omega), rm_31 hR (n := v * 4 + d) (by omega) (by omega) (by omega)]
      unfold shv
      rw [if_pos hp]
      by_cases e : S 31 (v * 4 + d) < 999
      · rw [if_pos e, if_pos e, qld_ok (by omega) (by omega), rm_31 hR (n := v * 4 + d) (by omega) (by omega) (by omega), w32_ok (by omega) (by omega)]
        exact m_hun54 hR v0 (by omega) d0 d1
      · rw [if_neg e, if_neg e]
        exact m_hun54 hR v0 (by omega) d0 d1
  have hL := m_hungryL hR I v0 v1 d0 d1 qFU 9 0 (by omega) (by omega) (by unfold qFU; omega)
  have e33 := rm_33 hR (n := v * 4 + d) (i := 5834 + 4 * v + d) (by omega) (by omega) (by omega)
  have hh : f_M_isHungry v d w = if S 33 (v * 4 + d) = 1 then some (0, w) else f_M_isHungry_22 qFU v d 0 w := by
    unfold f_M_isHungry
    rw [w32_ok (z := 4 * v) (by omega) (by omega), w32_ok (z := 5834 + 4 * v) (by omega) (by omega), w32_ok (z := 5834 + 4 * v + d) (by omega) (by omega), qld_ok (by omega) (by omega), e33]
  by_cases e : S 33 (v * 4 + d) = 1
  · rw [if_pos e] at hh
    exact hw false hh (by rw [decide_eq_false (show ¬ S 33 (v * 4 + d) = 0 by omega), Bool.and_false])
  · rw [if_neg e, hL] at hh
    refine hw (swiL S v d 9 0) hh ?_
    rw [decide_eq_true (show S 33 (v * 4 + d) = 0 by omega), Bool.and_true]
    rfl
end MO
/-- the nodes of a ring, in turn -/
theorem fli_list {σ : Type} {g : σ → Int → σ} {h : Int → Int} {s : σ} : ∀ (n : Nat), fli g h n s = ((List.range n).map (fun (i : Nat) => h (i : Int))).foldl g s := by
  intro n
  induction n with
  | zero => rfl
  | succ n ih => rw [List.range_succ, List.map_append, List.foldl_append, ← ih]; rfl
def grk (W H r : Int) : Bool := decide ((List.range (gl W H r).toNat).map (fun (i : Nat) => gq W H r (i : Int)) = ((List.range (W * H).toNat).map (fun (i : Nat) => (i : Int))).filter (fun v => decide (gr W H v (gd W H r) = r)))
theorem grk_all : ([2, 3, 4] : List Int).all (fun W => ([2, 3, 4] : List Int).all fun H => g16.all fun r => decide (2 * (W + H) ≤ r) || grk W H r) = true := by decide +kernel
theorem fli_ring {σ : Type} {g : σ → Int → σ} {s : σ} {W H r : Int} (G : gIn W H) (r0 : 0 ≤ r) (r1 : r < 2 * (W + H)) : fli (fun s v => if gr W H v (gd W H r) = r then g s v else s) (fun v => v) (W * H).toNat s = fli g (gq W H r) (gl W H r).toNat s := by
  have h16 := g16r G
  have := List.all_eq_true.mp (List.all_eq_true.mp (List.all_eq_true.mp grk_all W (g234_m G.1.1 G.1.2)) H (g234_m G.2.1 G.2.2)) r (g16_m r0 (by omega))
  simp only [Bool.or_eq_true, decide_eq_true_eq] at this
  have e := of_decide_eq_true (this.resolve_left (by omega))
  rw [fli_list, fli_list, e, List.foldl_filter]
  congr 1
  funext s v
  by_cases z : gr W H v (gd W H r) = r
  · rw [if_pos z, if_pos (decide_eq_true z)]
  · rw [if_neg z, if_neg (by rw [decide_eq_false z]; decide)]
theorem fli_sub {c : Int → Int} {E : Int} {h : Int → Int} : ∀ (n : Nat), fli (fun s v => s + (E - c v)) h n 0 = (n : Int) * E - fli (fun s v => s + c v) h n 0 := by
  intro n
  induction n with
  | zero => simp [fli]
  | succ n ih =>
    show fli (fun s v => s + (E - c v)) h n 0 + (E - c (h n)) = _ - (fli (fun s v => s + c v) h n 0 + c (h n))
    rw [ih, show (((n + 1 : Nat) : Int)) * E = (n : Int) * E + E by rw [Int.natCast_add, Int.add_mul]; simp]
    omega
section MH
variable {w w' S : qMem} {v k d p q n r l t h b c x : Int} {f : Nat}
theorem m_hungriest (hR : RM w S) (I : IV S) (r0 : 0 ≤ r) (r1 : r < 2 * (S 1 3 + S 1 4)) : f_M_hungriest r w = some (shg S r, w) := by
  have hd := gd_in (W := S 1 3) (H := S 1 4) (r := r)
  have hN := gN I.1.1
  unfold f_M_hungriest
  rw [qbd (mg_directionOf hR.wh I.1.1 r0 r1)]
  have := fl_loop (N := S 1 3 * S 1 4) (L := fun n x b => f_M_hungriest_11 n r (gd (S 1 3) (S 1 4) r) b x w) (ex := fun b => some (b, w)) (g := fun b v => if gr (S 1 3) (S 1 4) v (gd (S 1 3) (S 1 4) r) = r then shgS S (gd (S 1 3) (S 1 4) r) b v else b) (h := fun v => v) (Q := fun _ b => b = -1 ∨ (0 ≤ b ∧ b < S 1 3 * S 1 4))
    (by
      intro m x b x0 x1 hb
      rw [f_M_hungriest_11, mg_nodes hR.wh I.1.1]
      simp only [Option.bind_some]
      rw [if_pos x1, w32_ok (z := 4 * x) (by omega) (by omega), w32_ok (z := 5370 + 4 * x) (by omega) (by omega), w32_ok (z := 5370 + 4 * x + gd (S 1 3) (S 1 4) r) (by omega) (by omega), qld_ok (by omega) (by omega), rm_31 hR (n := x * 4 + gd (S 1 3) (S 1 4) r) (by omega) (by omega) (by omega), mg_ringFor hR.wh I.1.1 x0 x1 hd.1 hd.2]
      simp only [Option.bind_some]
      rw [w32_ok (z := x + 1) (by omega) (by omega)]
      unfold f_M_hungriest_86
      rw [w32_ok (z := x + 1) (by omega) (by omega)]
      by_cases e : gr (S 1 3) (S 1 4) x (gd (S 1 3) (S 1 4) r) = r
      · rw [if_pos e, if_pos e, qld_ok (by decide) (by decide), rm_0_9 hR]
        unfold shgS
        by_cases e2 : S 31 (x * 4 + gd (S 1 3) (S 1 4) r) < S 0 9
        · rw [if_pos e2, if_pos e2]; exact ⟨hb, rfl⟩
        · rw [if_neg e2, if_neg e2]
          by_cases e3 : b = -1
          · rw [if_pos e3, if_pos (Or.inl e3)]; exact ⟨Or.inr ⟨x0, x1⟩, rfl⟩
          · have hb' := hb.resolve_left e3
            rw [if_neg e3, w32_ok (z := 4 * b) (by omega) (by omega), w32_ok (z := 5370 + 4 * b) (by omega) (by omega), w32_ok (z := 5370 + 4 * b + gd (S 1 3) (S 1 4) r) (by omega) (by omega), qld_ok (by omega) (by omega), rm_31 hR (n := b * 4 + gd (S 1 3) (S 1 4) r) (by omega) (by omega) (by omega)]
            by_cases e4 : S 31 (x * 4 + gd (S 1 3) (S 1 4) r) ≤ S 31 (b * 4 + gd (S 1 3) (S 1 4) r)
            · rw [if_pos e4, if_neg (show ¬ (b = -1 ∨ S 31 (b * 4 + gd (S 1 3) (S 1 4) r) < S 31 (x * 4 + gd (S 1 3) (S 1 4) r)) from fun z => by omega)]; exact ⟨Or.inr hb', rfl⟩
            · rw [if_neg e4, if_pos (Or.inr (by omega))]; exact ⟨Or.inr ⟨x0, x1⟩, rfl⟩
      · rw [if_neg e, if_neg e]; exact ⟨hb, rfl⟩)
    (by
      intro m b
      rw [f_M_hungriest_11, mg_nodes hR.wh I.1.1]
      simp only [Option.bind_some]
      rw [if_neg (by omega)])
    (s := -1) (Or.inl rfl) (by omega) (by omega)
  have e := this.2
  rw [e, fli_ring I.1.1 r0 r1]
  rfl
theorem m_freeIn (hR : RM w S) (I : IW S) (r0 : 0 ≤ r) (r1 : r < 2 * (S 1 3 + S 1 4)) : f_M_freeIn r w = some (sfi S r, w) := by
  have hd := gd_in (W := S 1 3) (H := S 1 4) (r := r)
  have hl := gl_in (r := r) I.1
  have hN := gN I.1
  have hE := I.2.1.1
  unfold f_M_freeIn
  rw [qbd (mg_directionOf hR.wh I.1 r0 r1)]
  have := fl_loop (N := S 1 3 * S 1 4) (L := fun n x b => f_M_freeIn_11 n r (gd (S 1 3) (S 1 4) r) b x w) (ex := fun b => some (b, w)) (g := fun b v => if gr (S 1 3) (S 1 4) v (gd (S 1 3) (S 1 4) r) = r then (fun s v => s + (S 0 6 - S 20 (v * 9 + 1 + gd (S 1 3) (S 1 4) r))) b v else b) (h := fun v => v) (Q := fun x b => -6 * x ≤ b ∧ b ≤ 6 * x)
    (by
      intro m x b x0 x1 hb
      have h20 := (I.2.2.2 (x * 9 + 1 + gd (S 1 3) (S 1 4) r) (by omega) (by omega)).1
      dsimp only
      rw [f_M_freeIn_11, mg_nodes hR.wh I.1]
      simp only [Option.bind_some]
      rw [if_pos x1, mg_ringFor hR.wh I.1 x0 x1 hd.1 hd.2]
      simp only [Option.bind_some]
      unfold f_M_freeIn_45
      rw [w32_ok (z := x + 1) (by omega) (by omega)]
      by_cases e : gr (S 1 3) (S 1 4) x (gd (S 1 3) (S 1 4) r) = r
      · rw [if_pos e, if_pos e, w32_ok (z := 1 + gd (S 1 3) (S 1 4) r) (by omega) (by omega), m_free hR I x0 (by omega) (by omega) (by omega), cp_e hd.1 hd.2, ← Int.add_assoc]
        simp only [Option.bind_some]
        rw [w32_ok (by omega) (by omega)]
        exact ⟨⟨by omega, by omega⟩, rfl⟩
      · rw [if_neg e, if_neg e, w32_ok (by omega) (by omega), Int.add_zero]
        exact ⟨⟨by omega, by omega⟩, rfl⟩)
    (by
      intro m b
      rw [f_M_freeIn_11, mg_nodes hR.wh I.1]
      simp only [Option.bind_some]
      rw [if_neg (by omega)])
    (s := 0) ⟨by omega, by omega⟩ (by omega) (by omega)
  have e := this.2
  rw [e, fli_ring (g := fun s v => s + (S 0 6 - S 20 (v * 9 + 1 + gd (S 1 3) (S 1 4) r))) I.1 r0 r1, fli_sub (c := fun v => S 20 (v * 9 + 1 + gd (S 1 3) (S 1 4) r)) (E := S 0 6)]
  unfold sfi shd
  rw [show (((gl (S 1 3) (S 1 4) r).toNat : Nat) : Int) = gl (S 1 3) (S 1 4) r by omega]
theorem m_marks72 (hR : RM w S) (I : IV S) (r0 : 0 ≤ r) (r1 : r < 2 * (S 1 3 + S 1 4)) (hx : x = -1 ∨ S 26 r = x ∨ S 26 r = -1) : kT (f_M_marks_72 r (5274 + 6 * r) (gd (S 1 3) (S 1 4) r) x w) (fun w' => RM w' (if S 26 r = -1 then sms S r else (if gn (S 1 3) (S 1 4) (S 27 r) (gd (S 1 3) (S 1 4) r) = x then qud S 27 r (gn (S 1 3) (S 1 4) (S 27 r) (gd (S 1 3) (S 1 4) r)) else qud (qud S 27 r (gn (S 1 3) (S 1 4) (S 27 r) (gd (S 1 3) (S 1 4) r))) 28 r (jor (S 28 r) (jshl 1 (gn (S 1 3) (S 1 4) (S 27 r) (gd (S 1 3) (S 1 4) r)))))) ∧ FM w w') := by
  have hd := gd_in (W := S 1 3) (H := S 1 4) (r := r)
  have h16 := g16r I.1.1
  have hrr : ∀ g : Nat, 25 ≤ g → g ≤ 30 → vv g r := fun g a b => by unfold vv; omega
  unfold f_M_marks_72
  rw [w32_ok (z := 5274 + 6 * r + 1) (by omega) (by omega), w32_ok (z := 5274 + 6 * r + 2) (by omega) (by omega), w32_ok (z := 5274 + 6 * r + 3) (by omega) (by omega), qld_ok (by omega) (by omega), rm_26 hR (n := r) r0 r1 h16 (by omega)]
  by_cases e : S 26 r = -1
  · rw [if_pos e, if_pos e, m_hungriest hR I r0 r1]
    simp only [Option.bind_some]
    unfold sms
    by_cases e2 : shg S r = -1
    · rw [if_pos e2, if_pos e2]
      exact kT_some ⟨hR, FM.rfl'⟩
    · rw [if_neg e2, if_neg e2, qst_ok (by omega) (by omega), qst_ok (by omega) (by omega), qld_ok (by decide) (by decide), qst_ok (by decide) (by decide), qud_ni (by omega), qud_ni (by omega), rm_24_9 hR]
      refine kT_some ⟨?_, FM.rfl'.q.q.q⟩
      have h1 := hR.wr (f := 26) (n := r) (v := shg S r) (a := 5274 + 6 * r + 1) (hrr _ (by decide) (by decide)) (by rw [ad_rg (by decide) (by decide)]; omega) (by decide) (by decide) (by decide) (by decide) (by decide)
      have h2 := h1.wr (f := 27) (n := r) (v := shg S r) (a := 5274 + 6 * r + 2) (hrr _ (by decide) (by decide)) (by rw [ad_rg (by decide) (by decide)]; omega) (by decide) (by decide) (by decide) (by decide) (by decide)
      exact h2.wr (f := 24) (n := 9) (v := w32 (S 24 9 + 1)) (a := 12) vv_24_9 rfl (by decide) (by decide) (by decide) (by decide) (by decide)
  · have hx' := ((I.2.2.1 r r0 (by omega)).1 r1).2.resolve_left e
    rw [if_neg e, if_neg e, qld_ok (by omega) (by omega), rm_27 hR (n := r) r0 r1 h16 (by omega), mg_nextOf hR.wh I.1.1 hx'.2.1 hx'.2.2 hd.1 hd.2]
    simp only [Option.bind_some]
    rw [qst_ok (by omega) (by omega), qld_ok (by omega) (by omega), qud_s]
    have h1 := hR.wr (f := 27) (n := r) (v := gn (S 1 3) (S 1 4) (S 27 r) (gd (S 1 3) (S 1 4) r)) (a := 5274 + 6 * r + 2) (hrr _ (by decide) (by decide)) (by rw [ad_rg (by decide) (by decide)]; omega) (by decide) (by decide) (by decide) (by decide) (by decide)
    by_cases e3 : gn (S 1 3) (S 1 4) (S 27 r) (gd (S 1 3) (S 1 4) r) = x
    · rw [if_pos e3, if_pos e3]
      exact kT_some ⟨h1, FM.rfl'.q⟩
    · rw [if_neg e3, if_neg e3, qld_ok (by omega) (by omega), qld_ok (by omega) (by omega), qst_ok (by omega) (by omega), qud_s, qud_ni (by omega), rm_28 hR (n := r) r0 r1 h16 (by omega)]
      exact kT_some ⟨h1.wr (f := 28) (n := r) (a := 5274 + 6 * r + 3) (hrr _ (by decide) (by decide)) (by rw [ad_rg (by decide) (by decide)]; omega) (by decide) (by decide) (by decide) (by decide) (by decide), FM.rfl'.q.q⟩
theorem m_marks (hR : RM w S) (I : IV S) (r0 : 0 ≤ r) (r1 : r < 2 * (S 1 3 + S 1 4)) : kT (f_M_marks r w) (fun w' => RM w' (smk S r) ∧ FM w w') := by
  have hd := gd_in (W := S 1 3) (H := S 1 4) (r := r)
  have h16 := g16r I.1.1
  have hN := gN I.1.1
  have hrr : ∀ g : Nat, 25 ≤ g → g ≤ 30 → vv g r := fun g a b => by unfold vv; omega
  unfold f_M_marks smk
  rw [m_ringAt r0 (by omega)]
  simp only [Option.bind_some]
  rw [mg_directionOf hR.wh I.1.1 r0 r1]
  simp only [Option.bind_some]
  rw [w32_ok (z := 5274 + 6 * r + 1) (by omega) (by omega), w32_ok (z := 5274 + 6 * r + 2) (by omega) (by omega), w32_ok (z := 5274 + 6 * r + 3) (by omega) (by omega), qld_ok (by omega) (by omega), rm_26 hR (n := r) r0 r1 h16 (by omega)]
  by_cases e : S 26 r = -1
  · rw [if_pos e, if_pos e, e]
    have := m_marks72 (x := -1) hR I r0 r1 (Or.inl rfl)
    rw [if_pos e] at this
    exact this
  · have hx' := ((I.2.2.1 r r0 (by omega)).1 r1).2.resolve_left e
    have h31 := (I.2.2.2.1 (S 26 r * 4 + gd (S 1 3) (S 1 4) r) (by omega) (by omega)).1
    rw [if_neg e, if_neg e, w32_ok (z := 4 * S 26 r) (by omega) (by omega), w32_ok (z := 5370 + 4 * S 26 r) (by omega) (by omega), w32_ok (z := 5370 + 4 * S 26 r + gd (S 1 3) (S 1 4) r) (by omega) (by omega), qld_ok (by omega) (by omega), rm_31 hR (n := S 26 r * 4 + gd (S 1 3) (S 1 4) r) (by omega) (by omega) (by omega)]
    by_cases e2 : S 31 (S 26 r * 4 + gd (S 1 3) (S 1 4) r) = 0
    · rw [if_pos e2, if_pos (by omega), qst_ok (by omega) (by omega), qst_ok (by omega) (by omega), qst_ok (by omega) (by omega)]
      have h1 := hR.wr (f := 26) (n := r) (v := -1) (a := 5274 + 6 * r + 1) (hrr _ (by decide) (by decide)) (by rw [ad_rg (by decide) (by decide)]; omega) (by decide) (by decide) (by decide) (by decide) (by decide)
      have h2 := h1.wr (f := 27) (n := r) (v := -1) (a := 5274 + 6 * r + 2) (hrr _ (by decide) (by decide)) (by rw [ad_rg (by decide) (by decide)]; omega) (by decide) (by decide) (by decide) (by decide) (by decide)
      have h3 := h2.wr (f := 28) (n := r) (v := 0) (a := 5274 + 6 * r + 3) (hrr _ (by decide) (by decide)) (by rw [ad_rg (by decide) (by decide)]; omega) (by decide) (by decide) (by decide) (by decide) (by decide)
      have e1 : sme S r 1 = S 1 := sme_r (by decide) (by decide) (by decide)
      have e26 : sme S r 26 r = -1 := by
        unfold sme
        rw [qud_nk (by decide), qud_nk (by decide), qud_s]
      have := m_marks72 (x := S 26 r) (S := sme S r) h3 I.me r0 (by rw [e1]; exact r1) (Or.inr (Or.inr e26))
      rw [if_pos e26, e1] at this
      exact kT_mono this (fun w' hw => ⟨hw.1, (FM.rfl'.q.q.q).tr hw.2⟩)
    · rw [if_neg e2, if_neg (by omega)]
      have := m_marks72 (x := S 26 r) hR I r0 r1 (Or.inr (Or.inl rfl))
      rw [if_neg e] at this
      exact this
end MH
