/-! a tick, as it is meant -/
def itk (F : Int → qMem → qMem) : Nat → qMem → qMem
  | 0, S => S
  | n + 1, S => F n (itk F n S)
def fli {σ : Type} (g : σ → Int → σ) (h : Int → Int) : Nat → σ → σ
  | 0, s => s
  | n + 1, s => g (fli g h n s) (h n)
def schL (S : qMem) (v d : Int) : Nat → Int → Int → Int → Int
  | 0, c, _, _ => c
  | n + 1, c, b, k => if sfst S (v * 9 + k) = -1 ∨ S 17 (sfst S (v * 9 + k)) = S 0 10 ∨ scg S v k d = false then schL S v d n c b (k + 1) else if scn S v k d = true then k else if b = -1 ∨ sfst S (v * 9 + k) < b then schL S v d n k (sfst S (v * 9 + k)) (k + 1) else schL S v d n c b (k + 1)
def sch (S : qMem) (v d : Int) : Int := schL S v d 9 (-1) (-1) 0
def sgc (S : qMem) (v d : Int) : qMem := if sch S v d = -1 then S else sgo S v (sch S v d) d
def swiL (S : qMem) (v d : Int) : Nat → Int → Bool
  | 0, _ => false
  | n + 1, k => if k = 1 + d then swiL S v d n (k + 1) else if ses S v k d = true then true else swiL S v d n (k + 1)
def swi (S : qMem) (v d : Int) : Bool := swiL S v d 9 0
def shv (S : qMem) (v d : Int) : Int := if swi S v d = true ∧ S 33 (v * 4 + d) = 0 then (if S 31 (v * 4 + d) < 999 then S 31 (v * 4 + d) + 1 else 999) else 0
def shu (S : qMem) (v d : Int) : qMem := qud (qud S 31 (v * 4 + d) (shv S v d)) 32 v (if S 32 v < shv S v d then shv S v d else S 32 v)
def shgS (S : qMem) (d b v : Int) : Int := if S 31 (v * 4 + d) < S 0 9 then b else if b = -1 ∨ S 31 (b * 4 + d) < S 31 (v * 4 + d) then v else b
def shg (S : qMem) (r : Int) : Int := fli (shgS S (gd (S 1 3) (S 1 4) r)) (gq (S 1 3) (S 1 4) r) (gl (S 1 3) (S 1 4) r).toNat (-1)
def sme (S : qMem) (r : Int) : qMem := qud (qud (qud S 26 r (-1)) 27 r (-1)) 28 r 0
def sms (S : qMem) (r : Int) : qMem := if shg S r = -1 then S else qud (qud (qud S 26 r (shg S r)) 27 r (shg S r)) 24 9 (w32 (S 24 9 + 1))
def smc (S : qMem) (r m : Int) : qMem := if m = S 26 r then qud S 27 r m else qud (qud S 27 r m) 28 r (jor (S 28 r) (jshl 1 m))
def smk (S : qMem) (r : Int) : qMem := if S 26 r = -1 then sms S r else if S 31 (S 26 r * 4 + gd (S 1 3) (S 1 4) r) ≤ 0 then sms (sme S r) r else smc S r (gn (S 1 3) (S 1 4) (S 27 r) (gd (S 1 3) (S 1 4) r))
def shd (S : qMem) (r : Int) : Int := fli (fun s v => s + S 20 (v * 9 + 1 + gd (S 1 3) (S 1 4) r)) (gq (S 1 3) (S 1 4) r) (gl (S 1 3) (S 1 4) r).toNat 0
def sfi (S : qMem) (r : Int) : Int := gl (S 1 3) (S 1 4) r * S 0 6 - shd S r
def sfw (S : qMem) (r : Int) : qMem := qud S 30 r (if sfi S r < S 30 r then sfi S r else S 30 r)
def sfg (S : qMem) : qMem := fun f n => if f = 33 ∧ 0 ≤ n ∧ n < 64 then 0 else S f n
def skd (S : qMem) : qMem := itk (fun v S => itk (fun k S => sdl S v (k + 1)) 8 S) (S 1 3 * S 1 4).toNat S
def skg (S : qMem) : qMem := itk (fun i S => itk (fun d S => sgc S ((S 0 10 % (S 1 3 * S 1 4) + i) % (S 1 3 * S 1 4)) d) 4 S) (S 1 3 * S 1 4).toNat S
def skh (S : qMem) : qMem := itk (fun v S => itk (fun d S => shu S v d) 4 S) (S 1 3 * S 1 4).toNat S
def skm (S : qMem) : qMem := if S 0 9 ≤ 0 then S else itk (fun r S => smk S r) (2 * (S 1 3 + S 1 4)).toNat S
def skw (S : qMem) : qMem := itk (fun r S => sfw S r) (2 * (S 1 3 + S 1 4)).toNat S
def skc (S : qMem) : qMem := qud S 0 10 (S 0 10 + 1)
def stk (S : qMem) : qMem := skc (skw (skm (skh (skg (skd (sfg (qud S 22 1 0)))))))
/-- the iteration's rule -/
theorem itk_i {F : Int → qMem → qMem} {P : Int → qMem → Prop} {S : qMem} (h0 : P 0 S) : ∀ (n : Nat), (∀ (x : Int) s, 0 ≤ x → x < (n : Int) → P x s → P (x + 1) (F x s)) → P n (itk F n S) := by
  intro n
  induction n with
  | zero => intro _; exact h0
  | succ n ih =>
    intro h
    have := h n _ (by omega) (by omega) (ih (fun x s a b c => h x s a (by omega) c))
    exact this
/-- a loop of a method goes as the iteration does -/
theorem it_loop {σ ρ : Type} {N : Int} {L : Nat → Int → σ → Option ρ} {ex : σ → Option ρ} {F : Int → qMem → qMem} {R : Int → σ → qMem → Prop}
    (hs : ∀ m x w S, 0 ≤ x → x < N → R x w S → ∃ w', R (x + 1) w' (F x S) ∧ L (m + 1) x w = L m (x + 1) w')
    (he : ∀ m w S, R N w S → L (m + 1) N w = ex w) {w : σ} {S : qMem} (h : R 0 w S) (n0 : 0 ≤ N) (n1 : N < 1000000000) : ∃ w', R N w' (itk F N.toNat S) ∧ L qFU 0 w = ex w' := by
  have := k_loop (σ := σ) (ρ := ρ) N L ex (fun x w => 0 ≤ x ∧ R x w (itk F x.toNat S))
    (by
      intro m x w hp hx
      obtain ⟨w', a, b⟩ := hs m x w _ hp.1 hx hp.2
      refine ⟨w', ⟨by omega, ?_⟩, b⟩
      have e : (x + 1).toNat = x.toNat + 1 := by omega
      rw [e]
      show R (x + 1) w' (F ((x.toNat : Nat) : Int) (itk F x.toNat S))
      rw [show ((x.toNat : Nat) : Int) = x by omega]
      exact a)
    (fun m w hp => he m w _ hp.2) qFU 0 w ⟨by omega, h⟩ n0 (qFU_gt (by omega))
  obtain ⟨w', hp, e⟩ := this
  exact ⟨w', hp.2, e⟩
/-- what an answer of a loop is -/
theorem fl_loop {ρ σ : Type} {N : Int} {L : Nat → Int → σ → Option ρ} {ex : σ → Option ρ} {g : σ → Int → σ} {h : Int → Int} {Q : Int → σ → Prop}
    (hs : ∀ m x s, 0 ≤ x → x < N → Q x s → Q (x + 1) (g s (h x)) ∧ L (m + 1) x s = L m (x + 1) (g s (h x)))
    (he : ∀ m s, L (m + 1) N s = ex s) {s : σ} (h0 : Q 0 s) (n0 : 0 ≤ N) (n1 : N < 1000000000) : Q N (fli g h N.toNat s) ∧ L qFU 0 s = ex (fli g h N.toNat s) := by
  have := k_loop (σ := σ) (ρ := ρ) N L ex (fun x t => 0 ≤ x ∧ Q x t ∧ t = fli g h x.toNat s)
    (by
      intro m x t hp hx
      obtain ⟨a, b⟩ := hs m x t hp.1 hx hp.2.1
      refine ⟨_, ⟨by omega, a, ?_⟩, b⟩
      have e : (x + 1).toNat = x.toNat + 1 := by omega
      rw [e]
      show _ = g (fli g h x.toNat s) (h ((x.toNat : Nat) : Int))
      rw [show ((x.toNat : Nat) : Int) = x by omega, ← hp.2.2])
    (fun m s _ => he m s) qFU 0 s ⟨by omega, h0, rfl⟩ n0 (qFU_gt (by omega))
  obtain ⟨t, hp, e⟩ := this
  rw [← hp.2.2]
  exact ⟨hp.2.1, e⟩
section IVT
variable {S S' : qMem} {p n v k d l h c r : Int} {f : Nat}
theorem IV.co (I : IV S) (e0 : ∀ j, j ≤ 10 → S' 0 j = S 0 j) (e5 : S' 5 13 = S 5 13) (e22 : S' 22 1 = S 22 1) (e1 : S' 1 = S 1) (e6 : S' 6 = S 6) (e7 : S' 7 = S 7) (e8 : S' 8 = S 8) (e9 : S' 9 = S 9) (e10 : S' 10 = S 10) (e11 : S' 11 = S 11) (e12 : S' 12 = S 12) (e13 : S' 13 = S 13) (e17 : S' 17 = S 17) (e20 : S' 20 = S 20) (e21 : S' 21 = S 21) (hR : IR S') (hH : IHg S') : IV S' := by
  refine ⟨C1.co I.1 e1 e0 e5 e22, ⟨fun p a b => ?_, QS.co I.2.1.2.1 e1 e0 e20, QI.co I.2.1.2.2 e5 e20 e21 (fun p _ _ => lof_co (by rw [e9]) (by rw [e10]) (by rw [e11]))⟩, hR, hH⟩
  rw [e5] at b
  exact (I.2.1.1 p a b).co e1 (e0 10 (by decide)) (by rw [e6]) (by rw [e7]) (by rw [e8]) (by rw [e9]) (by rw [e10]) (by rw [e11]) (by rw [e12]) (by rw [e13]) (by rw [e17])
/-- fields of which nothing is asked -/
theorem IV.qu (I : IV S) (hf : f = 14 ∨ f = 15 ∨ f = 16 ∨ f = 18 ∨ f = 23 ∨ f = 24 ∨ f = 28 ∨ f = 29 ∨ f = 30 ∨ f = 34 ∨ f = 35) : IV (qud S f n v) := by
  have r : ∀ g : Nat, g ≠ f → qud S f n v g = S g := fun g h => qud_row h
  exact I.co (fun j _ => by rw [r 0 (by omega)]) (by rw [r 5 (by omega)]) (by rw [r 22 (by omega)]) (r _ (by omega)) (r _ (by omega)) (r _ (by omega)) (r _ (by omega)) (r _ (by omega)) (r _ (by omega)) (r _ (by omega)) (r _ (by omega)) (r _ (by omega)) (r _ (by omega)) (r _ (by omega)) (r _ (by omega)) (I.2.2.1.co (r _ (by omega)) (r _ (by omega)) (r _ (by omega)) (r _ (by omega))) (I.2.2.2.co (r _ (by omega)) (r _ (by omega)) (r _ (by omega)))
theorem IV.g1 (I : IV S) : IV (sg1 S v k d) := by
  have r : ∀ g : Nat, g ≠ 0 → g ≠ 14 → g ≠ 29 → g ≠ 33 → sg1 S v k d g = S g := fun g a b c d' => sg1_f a b c d'
  refine I.co (fun j hj => sg1_0 hj) (by rw [r 5 (by decide) (by decide) (by decide) (by decide)]) (by rw [r 22 (by decide) (by decide) (by decide) (by decide)]) (r _ (by decide) (by decide) (by decide) (by decide)) (r _ (by decide) (by decide) (by decide) (by decide)) (r _ (by decide) (by decide) (by decide) (by decide)) (r _ (by decide) (by decide) (by decide) (by decide)) (r _ (by decide) (by decide) (by decide) (by decide)) (r _ (by decide) (by decide) (by decide) (by decide)) (r _ (by decide) (by decide) (by decide) (by decide)) (r _ (by decide) (by decide) (by decide) (by decide)) (r _ (by decide) (by decide) (by decide) (by decide)) (r _ (by decide) (by decide) (by decide) (by decide)) (r _ (by decide) (by decide) (by decide) (by decide)) (r _ (by decide) (by decide) (by decide) (by decide)) (I.2.2.1.co (r _ (by decide) (by decide) (by decide) (by decide)) (r _ (by decide) (by decide) (by decide) (by decide)) (r _ (by decide) (by decide) (by decide) (by decide)) (r _ (by decide) (by decide) (by decide) (by decide))) ?_
  have h := I.2.2.2
  unfold IHg at h ⊢
  rw [r 31 (by decide) (by decide) (by decide) (by decide), r 32 (by decide) (by decide) (by decide) (by decide)]
  refine ⟨fun i a b => ⟨(h.1 i a b).1, ?_⟩, h.2⟩
  have := (h.1 i a b).2
  rcases sg1_33 (S := S) (v := v) (k := k) (d := d) (n := i) with e | e
  · rw [e]; exact this
  · exact Or.inr e
theorem sg1_fst {q : Int} : sfst (sg1 S v k d) q = sfst S q := sfst_co (sg1_f (by decide) (by decide) (by decide) (by decide)) (sg1_f (by decide) (by decide) (by decide) (by decide))
theorem IV.go (I : IV S) (v0 : 0 ≤ v) (v1 : v < S 1 3 * S 1 4) (k0 : 0 ≤ k) (k1 : k < 9) (d0 : 0 ≤ d) (d1 : d < 4) (ho : sok S v k d) (hm : S 22 1 < 64) : IV (sgo S v k d) := by
  have r : ∀ g : Nat, g ≠ 0 → g ≠ 14 → g ≠ 29 → g ≠ 33 → sg1 S v k d g = S g := fun g a b c d' => sg1_f a b c d'
  have r1 := r 1 (by decide) (by decide) (by decide) (by decide)
  have r7 := r 7 (by decide) (by decide) (by decide) (by decide)
  have r20 := r 20 (by decide) (by decide) (by decide) (by decide)
  unfold sgo
  refine (I.g1.g2 v0 (by rw [r1]; exact v1) k0 k1 d0 d1 ?_ (by rw [sg1_fst]; exact ho.1) (by rw [sg1_fst, r1, r7]; exact ho.2.1) ?_ (by rw [r 22 (by decide) (by decide) (by decide) (by decide)]; exact hm)).qu (by omega)
  · unfold sla
    split <;> omega
  · have h3 := ho.2.2
    rw [r1, r20, sg1_0 (by decide), sg1_0 (by decide)]
    exact h3
theorem sgo_r (h0 : f ≠ 0) (h9 : f ≠ 9) (h10 : f ≠ 10) (h11 : f ≠ 11) (h12 : f ≠ 12) (h14 : f ≠ 14) (h16 : f ≠ 16) (h17 : f ≠ 17) (h18 : f ≠ 18) (h20 : f ≠ 20) (h21 : f ≠ 21) (h22 : f ≠ 22) (h23 : f ≠ 23) (h25 : f ≠ 25) (h29 : f ≠ 29) (h33 : f ≠ 33) (h34 : f ≠ 34) (h35 : f ≠ 35) : sgo S v k d f = S f := by
  unfold sgo
  rw [qud_row h35, sg2_f h9 h10 h11 h12 h16 h17 h18 h20 h21 h22 h23 h25 h34, sg1_f h0 h14 h29 h33]
theorem sgo_0 {j : Int} (hj : j ≤ 10) : sgo S v k d 0 j = S 0 j := by
  unfold sgo
  rw [qud_nk (by decide), sg2_f (by decide) (by decide) (by decide) (by decide) (by decide) (by decide) (by decide) (by decide) (by decide) (by decide) (by decide) (by decide) (by decide), sg1_0 hj]
theorem sgo_22 : sgo S v k d 22 1 = S 22 1 + 1 := by
  unfold sgo
  rw [qud_nk (by decide), sg2_22, sg1_f (by decide) (by decide) (by decide) (by decide)]
theorem shv_in (I : IHg S) (v0 : 0 ≤ v) (v1 : v < 16) (d0 : 0 ≤ d) (d1 : d < 4) : 0 ≤ shv S v d ∧ shv S v d ≤ 999 := by
  have := (I.1 (v * 4 + d) (by omega) (by omega)).1
  unfold shv
  split
  · split <;> omega
  · omega
theorem IV.hu (I : IV S) (v0 : 0 ≤ v) (v1 : v < 16) (d0 : 0 ≤ d) (d1 : d < 4) : IV (shu S v d) := by
  have r : ∀ g : Nat, g ≠ 31 → g ≠ 32 → shu S v d g = S g := fun g a b => by unfold shu; rw [qud_row b, qud_row a]
  have hv := shv_in I.2.2.2 v0 v1 d0 d1
  refine I.co (fun j _ => by rw [r 0 (by decide) (by decide)]) (by rw [r 5 (by decide) (by decide)]) (by rw [r 22 (by decide) (by decide)]) (r _ (by decide) (by decide)) (r _ (by decide) (by decide)) (r _ (by decide) (by decide)) (r _ (by decide) (by decide)) (r _ (by decide) (by decide)) (r _ (by decide) (by decide)) (r _ (by decide) (by decide)) (r _ (by decide) (by decide)) (r _ (by decide) (by decide)) (r _ (by decide) (by decide)) (r _ (by decide) (by decide)) (r _ (by decide) (by decide)) (I.2.2.1.co (r _ (by decide) (by decide)) (r _ (by decide) (by decide)) (r _ (by decide) (by decide)) (r _ (by decide) (by decide))) ?_
  have h := I.2.2.2
  unfold IHg at h ⊢
  rw [r 33 (by decide) (by decide)]
  refine ⟨fun i a b => ⟨?_, (h.1 i a b).2⟩, fun i a b => ?_⟩
  · unfold shu
    rw [qud_nk (by decide), qud_if]
    split
    · exact hv
    · exact (h.1 i a b).1
  · have := h.2 i a b
    unfold shu
    rw [qud_if]
    split
    · rename_i e
      rw [e] at this
      split <;> omega
    · rw [qud_nk (by decide)]; exact this
theorem fli_i {σ : Type} {g : σ → Int → σ} {h : Int → Int} {P : Int → σ → Prop} {s : σ} (h0 : P 0 s) : ∀ (n : Nat), (∀ (x : Int) t, 0 ≤ x → x < (n : Int) → P x t → P (x + 1) (g t (h x))) → P n (fli g h n s) := by
  intro n
  induction n with
  | zero => intro _; exact h0
  | succ n ih =>
    intro hs
    have := hs n _ (by omega) (by omega) (ih (fun x s a b c => hs x s a (by omega) c))
    exact this
theorem shg_in (g : gIn (S 1 3) (S 1 4)) (r0 : 0 ≤ r) (r1 : r < 2 * (S 1 3 + S 1 4)) : shg S r = -1 ∨ (0 ≤ shg S r ∧ shg S r < S 1 3 * S 1 4) := by
  have hl := gl_in (r := r) g
  unfold shg
  have := fli_i (g := shgS S (gd (S 1 3) (S 1 4) r)) (h := gq (S 1 3) (S 1 4) r) (P := fun _ b => b = -1 ∨ (0 ≤ b ∧ b < S 1 3 * S 1 4)) (s := -1) (Or.inl rfl) (gl (S 1 3) (S 1 4) r).toNat
    (by
      intro x t x0 x1 ht
      have hx : x < gl (S 1 3) (S 1 4) r := by omega
      have := gq_in g r0 r1 x0 hx
      unfold shgS
      split
      · exact ht
      · split
        · exact Or.inr this
        · exact ht)
  exact this
theorem IV.mq (I : IV S) (r : ∀ g : Nat, g ≠ 24 → g ≠ 26 → g ≠ 27 → g ≠ 28 → S' g = S g) (hR : IR S') : IV S' :=
  I.co (fun j _ => by rw [r 0 (by decide) (by decide) (by decide) (by decide)]) (by rw [r 5 (by decide) (by decide) (by decide) (by decide)]) (by rw [r 22 (by decide) (by decide) (by decide) (by decide)]) (r _ (by decide) (by decide) (by decide) (by decide)) (r _ (by decide) (by decide) (by decide) (by decide)) (r _ (by decide) (by decide) (by decide) (by decide)) (r _ (by decide) (by decide) (by decide) (by decide)) (r _ (by decide) (by decide) (by decide) (by decide)) (r _ (by decide) (by decide) (by decide) (by decide)) (r _ (by decide) (by decide) (by decide) (by decide)) (r _ (by decide) (by decide) (by decide) (by decide)) (r _ (by decide) (by decide) (by decide) (by decide)) (r _ (by decide) (by decide) (by decide) (by decide)) (r _ (by decide) (by decide) (by decide) (by decide)) (r _ (by decide) (by decide) (by decide) (by decide)) hR (I.2.2.2.co (r _ (by decide) (by decide) (by decide) (by decide)) (r _ (by decide) (by decide) (by decide) (by decide)) (r _ (by decide) (by decide) (by decide) (by decide)))
theorem sms_r (h24 : f ≠ 24) (h26 : f ≠ 26) (h27 : f ≠ 27) : sms S r f = S f := by
  unfold sms
  split
  · rfl
  · rw [qud_row h24, qud_row h27, qud_row h26]
theorem sme_r (h26 : f ≠ 26) (h27 : f ≠ 27) (h28 : f ≠ 28) : sme S r f = S f := by
  unfold sme
  rw [qud_row h28, qud_row h27, qud_row h26]
theorem smc_r {m : Int} (h27 : f ≠ 27) (h28 : f ≠ 28) : smc S r m f = S f := by
  unfold smc
  split
  · rw [qud_row h27]
  · rw [qud_row h28, qud_row h27]
theorem smk_r (h24 : f ≠ 24) (h26 : f ≠ 26) (h27 : f ≠ 27) (h28 : f ≠ 28) : smk S r f = S f := by
  unfold smk
  split
  · exact sms_r h24 h26 h27
  · split
    · rw [sms_r h24 h26 h27, sme_r h26 h27 h28]
    · exact smc_r h27 h28
theorem IR.ms (h : IR S) (g : gIn (S 1 3) (S 1 4)) (r0 : 0 ≤ r) (r1 : r < 2 * (S 1 3 + S 1 4)) : IR (sms S r) := by
  have hs := shg_in g r0 r1
  by_cases e : shg S r = -1
  · unfold sms; rw [if_pos e]; exact h
  · unfold IR
    rw [sms_r (f := 1) (by decide) (by decide) (by decide), sms_r (f := 25) (by decide) (by decide) (by decide)]
    unfold sms
    rw [if_neg e]
    intro x a b
    have hx := h x a b
    have e26 : qud (qud (qud S 26 r (shg S r)) 27 r (shg S r)) 24 9 (w32 (S 24 9 + 1)) 26 x = if x = r then shg S r else S 26 x := by
      rw [qud_nk (by decide), qud_nk (by decide), qud_if]
    have e27 : qud (qud (qud S 26 r (shg S r)) 27 r (shg S r)) 24 9 (w32 (S 24 9 + 1)) 27 x = if x = r then shg S r else S 27 x := by
      rw [qud_nk (by decide), qud_if, qud_nk (by decide)]
    rw [e26, e27]
    by_cases ex : x = r
    · rw [if_pos ex, if_pos ex]
      exact ⟨fun c => ⟨(hx.1 c).1, Or.inr ⟨by omega, by omega⟩⟩, fun c => by omega⟩
    · rw [if_neg ex, if_neg ex]
      exact hx
theorem IR.me (h : IR S) : IR (sme S r) := by
  unfold IR
  rw [sme_r (f := 1) (by decide) (by decide) (by decide), sme_r (f := 25) (by decide) (by decide) (by decide)]
  unfold sme
  intro x a b
  have hx := h x a b
  have e26 : qud (qud (qud S 26 r (-1)) 27 r (-1)) 28 r 0 26 x = if x = r then -1 else S 26 x := by
    rw [qud_nk (by decide), qud_nk (by decide), qud_if]
  have e27 : qud (qud (qud S 26 r (-1)) 27 r (-1)) 28 r 0 27 x = if x = r then -1 else S 27 x := by
    rw [qud_nk (by decide), qud_if, qud_nk (by decide)]
  rw [e26, e27]
  by_cases ex : x = r
  · rw [if_pos ex, if_pos ex]
    exact ⟨fun c => ⟨(hx.1 c).1, Or.inl rfl⟩, fun _ => rfl⟩
  · rw [if_neg ex, if_neg ex]
    exact hx
theorem IR.mc {m : Int} (h : IR S) (r0 : 0 ≤ r) (r1 : r < 2 * (S 1 3 + S 1 4)) (m0 : 0 ≤ m) (m1 : m < S 1 3 * S 1 4) : IR (smc S r m) := by
  unfold IR
  rw [smc_r (f := 1) (by decide) (by decide), smc_r (f := 25) (by decide) (by decide), smc_r (f := 26) (by decide) (by decide)]
  intro x a b
  have hx := h x a b
  have e27 : smc S r m 27 x = if x = r then m else S 27 x := by
    unfold smc
    split
    · rw [qud_if]
    · rw [qud_nk (by decide), qud_if]
  rw [e27]
  by_cases ex : x = r
  · rw [if_pos ex]
    refine ⟨fun c => ⟨(hx.1 c).1, ?_⟩, hx.2⟩
    rcases (hx.1 c).2 with q | q
    · exact Or.inl q
    · exact Or.inr ⟨q.1, m0, m1⟩
  · rw [if_neg ex]
    exact hx
theorem IV.mk (I : IV S) (r0 : 0 ≤ r) (r1 : r < 2 * (S 1 3 + S 1 4)) : IV (smk S r) := by
  refine I.mq (fun g a b c d => smk_r a b c d) ?_
  have h16 := I.1.1
  obtain ⟨⟨ga, gb⟩, gc, gd'⟩ := h16
  have hg := gd_in (W := S 1 3) (H := S 1 4) (r := r)
  unfold smk
  by_cases e : S 26 r = -1
  · rw [if_pos e]; exact I.2.2.1.ms I.1.1 r0 r1
  · rw [if_neg e]
    by_cases e2 : S 31 (S 26 r * 4 + gd (S 1 3) (S 1 4) r) ≤ 0
    · rw [if_pos e2]
      exact I.2.2.1.me.ms (by rw [sme_r (by decide) (by decide) (by decide)]; exact I.1.1) r0 (by rw [sme_r (by decide) (by decide) (by decide)]; exact r1)
    · rw [if_neg e2]
      have hx := ((I.2.2.1 r r0 (by omega)).1 r1).2.resolve_left e
      have := gn_in I.1.1 hx.2.1 hx.2.2 hg.1 hg.2
      exact I.2.2.1.mc r0 r1 this.1 this.2
theorem IV.fw (I : IV S) : IV (sfw S r) := I.qu (by omega)
theorem sfw_r (h : f ≠ 30) : sfw S r f = S f := qud_row h
theorem sfg_r (h : f ≠ 33) : sfg S f = S f := funext fun n => if_neg (fun q => h q.1)
theorem IV.fg (I : IV S) : IV (sfg S) := by
  have r : ∀ g : Nat, g ≠ 33 → sfg S g = S g := fun g a => sfg_r a
  refine I.co (fun j _ => by rw [r 0 (by decide)]) (by rw [r 5 (by decide)]) (by rw [r 22 (by decide)]) (r _ (by decide)) (r _ (by decide)) (r _ (by decide)) (r _ (by decide)) (r _ (by decide)) (r _ (by decide)) (r _ (by decide)) (r _ (by decide)) (r _ (by decide)) (r _ (by decide)) (r _ (by decide)) (r _ (by decide)) (I.2.2.1.co (r _ (by decide)) (r _ (by decide)) (r _ (by decide)) (r _ (by decide))) ?_
  have h := I.2.2.2
  unfold IHg at h ⊢
  rw [r 31 (by decide), r 32 (by decide)]
  exact ⟨fun i a b => ⟨(h.1 i a b).1, Or.inl (if_pos ⟨rfl, a, b⟩)⟩, h.2⟩
theorem IV.m0 (I : IV S) (v0 : 0 ≤ v) (v1 : v ≤ 64) : IV (qud S 22 1 v) := by
  have r : ∀ g : Nat, g ≠ 22 → qud S 22 1 v g = S g := fun g a => qud_row a
  refine ⟨⟨by rw [r 1 (by decide)]; exact I.1.1, ?_⟩, ⟨fun p a b => ?_, QS.co I.2.1.2.1 (r _ (by decide)) (fun j _ => by rw [r 0 (by decide)]) (r _ (by decide)), QI.co I.2.1.2.2 (by rw [r 5 (by decide)]) (r _ (by decide)) (r _ (by decide)) (fun p _ _ => lof_co (by rw [r 9 (by decide)]) (by rw [r 10 (by decide)]) (by rw [r 11 (by decide)]))⟩, I.2.2.1.co (r _ (by decide)) (r _ (by decide)) (r _ (by decide)) (r _ (by decide)), I.2.2.2.co (r _ (by decide)) (r _ (by decide)) (r _ (by decide))⟩
  · have := I.1.2
    unfold ICf at this ⊢
    rw [qud_s, r 0 (by decide), r 5 (by decide)]
    exact ⟨this.1, this.2.1, this.2.2.1, this.2.2.2.1, this.2.2.2.2.1, this.2.2.2.2.2.1, v0, v1⟩
  · rw [r 5 (by decide)] at b
    exact (I.2.1.1 p a b).co (r _ (by decide)) (by rw [r 0 (by decide)]) (by rw [r 6 (by decide)]) (by rw [r 7 (by decide)]) (by rw [r 8 (by decide)]) (by rw [r 9 (by decide)]) (by rw [r 10 (by decide)]) (by rw [r 11 (by decide)]) (by rw [r 12 (by decide)]) (by rw [r 13 (by decide)]) (by rw [r 17 (by decide)])
theorem IV.ck (I : IV S) (h : S 0 10 < 1000000) : IV (skc S) := by
  have r : ∀ g : Nat, g ≠ 0 → skc S g = S g := fun g a => qud_row a
  have r0 : ∀ j, j ≠ 10 → skc S 0 j = S 0 j := fun j a => qud_ni a
  have rc : skc S 0 10 = S 0 10 + 1 := qud_s
  refine ⟨⟨by rw [r 1 (by decide)]; exact I.1.1, ?_⟩, ⟨fun p a b => ?_, fun q a b => ?_, QI.co I.2.1.2.2 (by rw [r 5 (by decide)]) (r _ (by decide)) (r _ (by decide)) (fun p _ _ => lof_co (by rw [r 9 (by decide)]) (by rw [r 10 (by decide)]) (by rw [r 11 (by decide)]))⟩, I.2.2.1.co (r _ (by decide)) (r _ (by decide)) (r _ (by decide)) (r _ (by decide)), I.2.2.2.co (r _ (by decide)) (r _ (by decide)) (r _ (by decide))⟩
  · have := I.1.2
    unfold ICf at this ⊢
    rw [r0 6 (by decide), r0 7 (by decide), r0 8 (by decide), r0 9 (by decide), rc, r 5 (by decide), r 22 (by decide)]
    exact ⟨this.1, this.2.1, this.2.2.1, this.2.2.2.1, by omega, this.2.2.2.2.2⟩
  · rw [r 5 (by decide)] at b
    have := I.2.1.1 p a b
    unfold PK at this ⊢
    rw [rc, r 1 (by decide), r 6 (by decide), r 7 (by decide), r 8 (by decide), r 9 (by decide), r 10 (by decide), r 11 (by decide), r 12 (by decide), r 13 (by decide), r 17 (by decide)]
    obtain ⟨h1, h2, h3, h4, h5, h6⟩ := this
    exact ⟨h1, ⟨⟨h2.1.1, by omega⟩, h2.2⟩, h3, h4, ⟨h5.1, by omega, h5.2.2⟩, h6.1, by omega⟩
  · have := I.2.1.2.1 q a b
    unfold cap at this ⊢
    rw [r0 6 (by decide), r0 7 (by decide), r 1 (by decide), r 20 (by decide)]
    exact this
end IVT
