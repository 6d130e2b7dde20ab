/-! what can go on: the same on both sides -/
def anN (f : Int → Bool) : Nat → Bool
  | 0 => false
  | n + 1 => anN f n || f n
def anV (f : Int → Bool) (N : Int) : Bool := anN f N.toNat
def jbu (B : Int → Bool) (q : Int) : Int → Bool := fun j => if j = q then true else B j
def gk0 (S : qMem) (v k : Int) : Bool := sin S v k || anV (fun d => sad S v k d || sel S v k d) 4
def gkR (S : qMem) (B : Int → Bool) (v d : Int) : Bool := anV (fun x => B (gq (S 1 3) (S 1 4) (gr (S 1 3) (S 1 4) v d) x * 9 + 1 + d)) (gl (S 1 3) (S 1 4) (gr (S 1 3) (S 1 4) v d))
def gkD (S : qMem) (B : Int → Bool) (v k d : Int) : Bool := (spr S v k d && B (gn (S 1 3) (S 1 4) v d * 9 + 5 + d)) || (ses S v k d && (if scn S v k d = true then B (gn (S 1 3) (S 1 4) v d * 9 + 1 + d) else gkR S B v d))
def gkT (S : qMem) (B : Int → Bool) (v k : Int) : Bool := anV (gkD S B v k) 4
def gkS (S : qMem) (B : Int → Bool) : Nat → Int → Bool
  | 0 => B
  | n + 1 => if gkS S B n n = true then gkS S B n else if gkT S (gkS S B n) ((n : Int) / 9) ((n : Int) % 9) = true then jbu (gkS S B n) n else gkS S B n
def gkI (S : qMem) (B : Int → Bool) (x : Int) : Int → Bool := gkS S B x.toNat
/-- once over all -/
def gkM (S : qMem) (B : Int → Bool) : Int → Bool := gkI S B (S 1 3 * S 1 4 * 9)
def gkW (S : qMem) (B : Int → Bool) : Nat → Int → Bool
  | 0 => B
  | n + 1 => gkM S (gkW S B n)
def gkB (S : qMem) (q : Int) : Bool := decide (q < S 1 3 * S 1 4 * 9) && gk0 S (q / 9) (q % 9)
/-- what goes on -/
def gkA (S : qMem) : Int → Bool := gkW S (gkB S) 144
def gkC (B : Int → Bool) : Nat → Nat
  | 0 => 0
  | n + 1 => gkC B n + (if B n = true then 1 else 0)
def JB (k : Nat) (M : Int) (B : Int → Bool) (w : qMem) : Prop := ∀ q, 0 ≤ q → q < M → w k q = bi (B q)
section JG
variable {w w' w0 S T : qMem} {v t n x p a b l d k q r M N W H : Int} {B C : Int → Bool} {f g : Int → Bool} {β : Type} {o : Nat}
theorem anN_t : ∀ m : Nat, anN f m = true ↔ ∃ i : Nat, i < m ∧ f i = true := by
  intro m
  induction m with
  | zero => exact ⟨fun h => absurd (show false = true from h) (by decide), fun ⟨i, h, _⟩ => absurd h (Nat.not_lt_zero i)⟩
  | succ m ih =>
    show (anN f m || f m) = true ↔ _
    rw [Bool.or_eq_true, ih]
    refine ⟨fun h => ?_, fun ⟨i, h1, h2⟩ => ?_⟩
    · rcases h with ⟨i, h1, h2⟩ | h
      · exact ⟨i, by omega, h2⟩
      · exact ⟨m, by omega, h⟩
    · by_cases e : i = m
      · rw [e] at h2; exact Or.inr h2
      · exact Or.inl ⟨i, by omega, h2⟩
theorem anV_t : anV f N = true ↔ ∃ i, 0 ≤ i ∧ i < N ∧ f i = true := by
  unfold anV
  rw [anN_t]
  refine ⟨fun ⟨i, h1, h2⟩ => ⟨i, by omega, by omega, h2⟩, fun ⟨i, h0, h1, h2⟩ => ⟨i.toNat, by omega, ?_⟩⟩
  rw [show ((i.toNat : Nat) : Int) = i by omega]
  exact h2
theorem anV_s (x0 : 0 ≤ x) : anV f (x + 1) = (anV f x || f x) := by
  unfold anV
  rw [show (x + 1).toNat = x.toNat + 1 by omega]
  show (anN f x.toNat || f (x.toNat : Int)) = _
  rw [show ((x.toNat : Nat) : Int) = x by omega]
/-- a loop that ends at the first that is so -/
theorem aL {L : Nat → Int → Option (Int × qMem)} (hs : ∀ m x, 0 ≤ x → x < N → L (m + 1) x = if f x = true then some (1, w) else L m (x + 1)) (he : ∀ m, L (m + 1) N = some (0, w)) (n0 : 0 ≤ N) (n1 : N < 1000000000) : L qFU 0 = some (bi (anV f N), w) := by
  have key : ∀ (m : Nat) (x : Int), 0 ≤ x → x ≤ N → N - x < m → anV f x = false → L m x = some (bi (anV f N), w) := by
    intro m
    induction m with
    | zero => intro x _ _ _ _; omega
    | succ m ih =>
      intro x x0 x1 hm ha
      by_cases e : x < N
      · rw [hs m x x0 e]
        by_cases hf : f x = true
        · rw [if_pos hf, anV_t.mpr ⟨x, x0, e, hf⟩]; rfl
        · rw [if_neg hf]
          refine ih (x + 1) (by omega) (by omega) (by omega) ?_
          rw [anV_s x0, ha, Bool.false_or]
          exact Bool.eq_false_iff.mpr hf
      · have : x = N := by omega
        subst this
        rw [he m, ha]; rfl
  exact key qFU 0 (by omega) n0 (qFU_gt (by omega)) rfl
theorem anV_co (h : ∀ i, 0 ≤ i → i < N → f i = g i) : anV f N = anV g N := by
  rw [Bool.eq_iff_iff, anV_t, anV_t]
  exact ⟨fun ⟨i, h0, h1, h2⟩ => ⟨i, h0, h1, by rw [← h i h0 h1]; exact h2⟩, fun ⟨i, h0, h1, h2⟩ => ⟨i, h0, h1, by rw [h i h0 h1]; exact h2⟩⟩
theorem bi_ii {b : Bool} {x y : β} : (if bi b = 0 then x else y) = if b = true then y else x := by
  cases b <;> rfl
theorem gkI_0 : gkI S B 0 = B := rfl
theorem gkI_s (x0 : 0 ≤ x) : gkI S B (x + 1) = if gkI S B x x = true then gkI S B x else if gkT S (gkI S B x) (x / 9) (x % 9) = true then jbu (gkI S B x) x else gkI S B x := by
  unfold gkI
  rw [show (x + 1).toNat = x.toNat + 1 by omega]
  show (if gkS S B x.toNat ((x.toNat : Nat) : Int) = true then _ else if gkT S _ (((x.toNat : Nat) : Int) / 9) (((x.toNat : Nat) : Int) % 9) = true then jbu _ ((x.toNat : Nat) : Int) else _) = _
  rw [show ((x.toNat : Nat) : Int) = x by omega]
theorem gkC_le : ∀ m : Nat, gkC B m ≤ m := by
  intro m
  induction m with
  | zero => exact Nat.le_refl _
  | succ m ih =>
    show gkC B m + (if B m = true then 1 else 0) ≤ m + 1
    split <;> omega
theorem gkC_out : ∀ m : Nat, (m : Int) ≤ q → gkC (jbu B q) m = gkC B m := by
  intro m
  induction m with
  | zero => intro _; rfl
  | succ m ih =>
    intro h
    show gkC (jbu B q) m + (if (if (m : Int) = q then true else B m) = true then 1 else 0) = gkC B m + (if B m = true then 1 else 0)
    rw [ih (by omega), if_neg (show ¬ (m : Int) = q by omega)]
theorem gkC_set (h0 : 0 ≤ q) (hz : ¬ B q = true) : ∀ m : Nat, q < m → gkC (jbu B q) m = gkC B m + 1 := by
  intro m
  induction m with
  | zero => intro h; omega
  | succ m ih =>
    intro h
    show gkC (jbu B q) m + (if (if (m : Int) = q then true else B m) = true then 1 else 0) = gkC B m + (if B m = true then 1 else 0) + 1
    by_cases e : (m : Int) = q
    · rw [if_pos e, gkC_out m (by omega), e, if_neg hz, if_pos rfl]
    · rw [if_neg e, ih (by omega)]
      omega
theorem gkI_ge (x0 : 0 ≤ x) (x1 : x ≤ 144) : gkC B 144 ≤ gkC (gkI S B x) 144 := by
  have key : ∀ m : Nat, (m : Int) ≤ 144 → gkC B 144 ≤ gkC (gkI S B m) 144 := by
    intro m
    induction m with
    | zero => intro _; exact Nat.le_refl _
    | succ m ih =>
      intro hm
      have h := ih (by omega)
      rw [show ((m + 1 : Nat) : Int) = (m : Int) + 1 by omega, gkI_s (by omega)]
      by_cases c : gkI S B m m = true
      · rw [if_pos c]; exact h
      · rw [if_neg c]
        by_cases c2 : gkT S (gkI S B m) ((m : Int) / 9) ((m : Int) % 9) = true
        · rw [if_pos c2, gkC_set (by omega) c 144 (by omega)]; omega
        · rw [if_neg c2]; exact h
  have := key x.toNat (by omega)
  rw [show ((x.toNat : Nat) : Int) = x by omega] at this
  exact this
theorem gkW_fix {i : Nat} (h : gkM S (gkW S B i) = gkW S B i) : ∀ j : Nat, gkW S B (i + j) = gkW S B i := by
  intro j
  induction j with
  | zero => rfl
  | succ j ih =>
    show gkM S (gkW S B (i + j)) = _
    rw [ih, h]
theorem gkW_end {i : Nat} (h : gkM S (gkW S B i) = gkW S B i) (hi : i ≤ 144) : gkW S B i = gkW S B 144 := by
  have := gkW_fix h (144 - i)
  rw [show i + (144 - i) = 144 by omega] at this
  exact this.symm
/-- the class -/
theorem o_any (hx : NX 2 w S) (g : gIn (S 1 3) (S 1 4)) (hB : JB 73 144 B w) (v0 : 0 ≤ v) (v1 : v < S 1 3 * S 1 4) (d0 : 0 ≤ d) (d1 : d < 4) : f_O_anyInRing 3 v d w = some (bi (gkR S B v d), w) := by
  have hr := gr_in g v0 v1 d0 d1
  have hN := gN g
  have hl := gl_in (r := gr (S 1 3) (S 1 4) v d) g
  unfold f_O_anyInRing
  rw [qbd (g_ringIndex (o := 3) hx.2.1 g v0 v1 d0 d1)]
  unfold gkR
  refine aL (L := fun m x => f_O_anyInRing_11 3 m d (gr (S 1 3) (S 1 4) v d) x w) (fun m x x0 x1 => ?_) (fun m => ?_) (by omega) (by omega)
  · have hq := gq_in g hr.1 hr.2 x0 x1
    rw [f_O_anyInRing_11, qbd (g_ringLength (o := 3) hx.2.1 g)]
    dsimp only
    rw [if_pos x1, qbd (g_ringNode (o := 3) hx.2.1 g hr.1 hr.2 x0 (by omega))]
    dsimp only
    rw [w32_ok (z := gq (S 1 3) (S 1 4) (gr (S 1 3) (S 1 4) v d) x * 9) (by omega) (by omega), w32_ok (z := gq (S 1 3) (S 1 4) (gr (S 1 3) (S 1 4) v d) x * 9 + 1) (by omega) (by omega), w32_ok (z := gq (S 1 3) (S 1 4) (gr (S 1 3) (S 1 4) v d) x * 9 + 1 + d) (by omega) (by omega), qld_ok (by omega) (by omega), w32_ok (z := x + 1) (by omega) (by omega), hB _ (by omega) (by omega), bi_ii]
  · rw [f_O_anyInRing_11, qbd (g_ringLength (o := 3) hx.2.1 g)]
    dsimp only
    rw [if_neg (by omega)]
theorem gk_c {K U : β} {p b1 s c b2 r : Bool} : (if bi p = 0 then (if bi s = 0 then K else if bi c = 0 then (if bi r = 0 then K else U) else (if bi b2 = 0 then K else U)) else if bi b1 = 0 then (if bi s = 0 then K else if bi c = 0 then (if bi r = 0 then K else U) else (if bi b2 = 0 then K else U)) else U) = if ((p && b1) || (s && (if c = true then b2 else r))) = true then U else K := by
  cases p <;> cases b1 <;> cases s <;> cases c <;> cases b2 <;> cases r <;> rfl
theorem o_follows (hx : NX 2 w S) (I : IW S) (hB : JB 73 144 B w) (v0 : 0 ≤ v) (v1 : v < S 1 3 * S 1 4) (k0 : 0 ≤ k) (k1 : k < 9) : f_O_follows 2 v k w = some (bi (gkT S B v k), w) := by
  have hN := gN I.1
  unfold f_O_follows gkT
  refine aL (L := fun m x => f_O_follows_3 2 m v k x w) (fun m x x0 x1 => ?_) (fun m => ?_) (by decide) (by decide)
  · have hn := gn_in I.1 v0 v1 x0 x1
    have h52 : f_O_follows_52 2 (f_O_follows_3 2 m) v k x (gn (S 1 3) (S 1 4) v x * 9) w = if bi (ses S v k x) = 0 then f_O_follows_3 2 m v k (x + 1) w else if bi (scn S v k x) = 0 then (if bi (gkR S B v x) = 0 then f_O_follows_3 2 m v k (x + 1) w else some (1, w)) else (if bi (B (gn (S 1 3) (S 1 4) v x * 9 + 1 + x)) = 0 then f_O_follows_3 2 m v k (x + 1) w else some (1, w)) := by
      unfold f_O_follows_52
      rw [w32_ok (z := x + 1) (by omega) (by omega), qbd (n_isEscape hx I v0 v1 k0 k1)]
      dsimp only
      rw [qbd (n_continues hx I v0 v1 k0 k1 x0 x1)]
      dsimp only
      rw [qbd (o_any hx I.1 hB v0 v1 x0 x1), w32_ok (z := gn (S 1 3) (S 1 4) v x * 9 + 1) (by omega) (by omega), w32_ok (z := gn (S 1 3) (S 1 4) v x * 9 + 1 + x) (by omega) (by omega), qld_ok (by omega) (by omega), hB _ (by omega) (by omega)]
    unfold gkD
    rw [f_O_follows_3, if_pos x1, qbd (g_nextBy (o := 3) hx.2 I.1 v0 v1 x0 x1)]
    dsimp only
    rw [w32_ok (z := gn (S 1 3) (S 1 4) v x * 9) (by omega) (by omega), w32_ok (z := gn (S 1 3) (S 1 4) v x * 9 + 5) (by omega) (by omega), w32_ok (z := gn (S 1 3) (S 1 4) v x * 9 + 5 + x) (by omega) (by omega), qbd (n_isProfitable hx I v0 v1 k0 k1 x0 x1)]
    dsimp only
    rw [h52, qld_ok (by omega) (by omega), hB _ (by omega) (by omega)]
    exact gk_c
  · rw [f_O_follows_3, if_neg (by decide)]
theorem gk_o {K U : β} {a b : Bool} : (if bi a = 0 then (if bi b = 0 then K else U) else U) = if (a || b) = true then U else K := by
  cases a <;> cases b <;> rfl
theorem o_goes (hx : NX 2 w S) (I : IW S) (v0 : 0 ≤ v) (v1 : v < S 1 3 * S 1 4) (k0 : 0 ≤ k) (k1 : k < 9) : f_O_goesAtOnce 2 v k w = some (bi (gk0 S v k), w) := by
  have hL : f_O_goesAtOnce_14 2 qFU v k 0 w = some (bi (anV (fun d => sad S v k d || sel S v k d) 4), w) := by
    refine aL (L := fun m x => f_O_goesAtOnce_14 2 m v k x w) (fun m x x0 x1 => ?_) (fun m => ?_) (by decide) (by decide)
    · rw [f_O_goesAtOnce_14, if_pos x1, w32_ok (z := x + 1) (by omega) (by omega), qbd (n_adaptiveLets hx I v0 v1 k0 k1 x0 x1)]
      dsimp only
      rw [qbd (n_escapeLets hx I v0 v1 k0 k1 x0 x1)]
      exact gk_o
    · rw [f_O_goesAtOnce_14, if_neg (by decide)]
  unfold f_O_goesAtOnce gk0
  rw [qbd (n_isInTo hx I v0 v1 k0 k1)]
  dsimp only
  rw [hL]
  cases sin S v k <;> rfl
theorem JB.up (h : JB o M B w) : JB o M (jbu B q) (qud w o q 1) := fun j j0 j1 => by
  unfold jbu
  by_cases e : j = q
  · rw [if_pos e, e, qud_s]; rfl
  · rw [if_neg e, qud_ni e]; exact h j j0 j1
theorem o_judge60 (I : IW S) (h1 : NX 2 w S ∧ FO w0 w) (h2 : JB 73 144 (gkB S) w) : kT (f_O_judge_60 2 qFU 1 0 w) (fun w' => (NX 2 w' S ∧ FO w0 w') ∧ JB 73 144 (gkA S) w') := by
  have hN := gN I.1
  refine kD_loop (σ := Int) (N := 144) (L := fun m x s w => f_O_judge_60 2 m s x w) (J := fun x s w => ((NX 2 w S ∧ FO w0 w) ∧ JB 73 144 (gkW S (gkB S) x.toNat) w) ∧ (s = 0 → gkW S (gkB S) x.toNat = gkA S)) (fun m x s w x0 x1 hJ ih => ?_) (fun m s w hJ => ?_) (by decide) (by decide) 1 ⟨⟨h1, h2⟩, fun z => absurd z (by decide)⟩
  · rw [f_O_judge_60, if_pos x1]
    refine kT_if (fun z => kT_some ⟨hJ.1.1, by rw [← hJ.2 z]; exact hJ.1.2⟩) (fun _ => ?_)
    refine kD_loop (σ := Int) (N := S 1 3 * S 1 4 * 9) (L := fun m' y s' w => f_O_judge_76 2 (f_O_judge_60 2 m) m' s' x y w) (J := fun y s w => ((NX 2 w S ∧ FO w0 w) ∧ JB 73 144 (gkI S (gkW S (gkB S) x.toNat) y) w) ∧ (s = 0 → gkI S (gkW S (gkB S) x.toNat) y = gkW S (gkB S) x.toNat)) (fun m' y s' w y0 y1 hJ ih' => ?_) (fun m' s' w hJ => ?_) (by omega) (by omega) 0 ⟨hJ.1, fun _ => rfl⟩
    · have e5 : w (2 + 1) 5 = S 1 3 * S 1 4 := hJ.1.1.1.2.2.1.1
      have es := gkI_s (S := S) (B := gkW S (gkB S) x.toNat) y0
      rw [f_O_judge_76, e5, w32_ok (z := S 1 3 * S 1 4 * 9) (by omega) (by omega), if_pos y1, qld_ok y0 (by omega), w32_ok (z := y + 1) (by omega) (by omega), hJ.1.2 y y0 (by omega), bi_ii]
      refine kT_if (fun c => ih' _ _ ?_) (fun c => ?_)
      · rw [es, if_pos c]; exact hJ
      · rw [if_neg c] at es
        rw [qdv_ok (by decide), qdv_ok (by decide), jdiv_ok y0 (by omega) (by decide) (by decide), jrem_ok y0 (by omega) (by decide) (by decide)]
        refine kT_eq (o_follows hJ.1.1.1 I hJ.1.2 (by omega) (by omega) (by omega) (by omega)) ?_
        dsimp only
        rw [bi_ii]
        refine kT_if (fun c2 => ?_) (fun c2 => ih' _ _ ?_)
        · rw [if_pos c2] at es
          rw [qstz_ok y0 (by omega) (Or.inr rfl)]
          refine ih' _ _ ⟨⟨⟨hJ.1.1.1.fo FO.rfl'.wr, hJ.1.1.2.wr⟩, ?_⟩, fun z => absurd z (by decide)⟩
          rw [es]
          exact hJ.1.2.up
        · rw [es, if_neg c2]; exact hJ
    · have e5 : w (2 + 1) 5 = S 1 3 * S 1 4 := hJ.1.1.1.2.2.1.1
      rw [f_O_judge_76, e5, w32_ok (z := S 1 3 * S 1 4 * 9) (by omega) (by omega), if_neg (by omega), w32_ok (z := x + 1) (by omega) (by omega)]
      have ex : (x + 1).toNat = x.toNat + 1 := by omega
      refine ih _ _ ⟨⟨hJ.1.1, ?_⟩, fun z => ?_⟩
      · rw [ex]; exact hJ.1.2
      · have hf : gkM S (gkW S (gkB S) x.toNat) = gkW S (gkB S) x.toNat := hJ.2 z
        rw [ex]
        show gkM S (gkW S (gkB S) x.toNat) = _
        rw [hf]
        exact gkW_end hf (by omega)
  · rw [f_O_judge_60, if_neg (by decide)]
    exact kT_some hJ.1
theorem o_judge (hx : NX 2 w S) (I : IW S) : kT (f_O_judge 2 w) (fun w' => (NX 2 w' S ∧ FO w w') ∧ JB 73 144 (gkA S) w') := by
  have hN := gN I.1
  unfold f_O_judge
  refine kD_loop (σ := Unit) (N := 144) (L := fun m x _ w => f_O_judge_2 2 m x w) (J := fun x _ w' => (NX 2 w' S ∧ FO w w') ∧ JB 73 x (gkB S) w') (fun m x s w' x0 x1 hJ ih => ?_) (fun m s w' hJ => ?_) (by decide) (by decide) () ⟨⟨hx, FO.rfl'⟩, fun q a b => by omega⟩
  · have e5 : w' (2 + 1) 5 = S 1 3 * S 1 4 := hJ.1.1.2.2.1.1
    have h49 : ∀ z, z = bi (gkB S x) → kT (f_O_judge_49 2 (f_O_judge_2 2 m) x z x w') (fun w' => (NX 2 w' S ∧ FO w w') ∧ JB 73 144 (gkA S) w') := by
      intro z hz
      unfold f_O_judge_49
      rw [qstz_ok x0 x1 (by rw [hz]; cases gkB S x; exact Or.inl rfl; exact Or.inr rfl), w32_ok (z := x + 1) (by omega) (by omega)]
      refine ih () _ ⟨⟨hJ.1.1.fo FO.rfl'.wr, hJ.1.2.wr⟩, fun q a b => ?_⟩
      by_cases e : q = x
      · rw [e, qud_s, hz]
      · rw [qud_ni e]; exact hJ.2 q a (by omega)
    rw [f_O_judge_2, if_pos x1, e5, w32_ok (z := S 1 3 * S 1 4 * 9) (by omega) (by omega)]
    refine kT_if (fun c => ?_) (fun c => h49 0 ?_)
    · rw [qdv_ok (by decide), qdv_ok (by decide), jdiv_ok x0 (by omega) (by decide) (by decide), jrem_ok x0 (by omega) (by decide) (by decide)]
      refine kT_eq (o_goes hJ.1.1 I (by omega) (by omega) (by omega) (by omega)) ?_
      dsimp only
      rw [bi_ii]
      refine kT_if (fun c2 => h49 1 ?_) (fun c2 => h49 0 ?_)
      · unfold gkB
        rw [decide_eq_true c, c2]; rfl
      · unfold gkB
        rw [Bool.eq_false_iff.mpr c2, Bool.and_false]; rfl
    · unfold gkB
      rw [decide_eq_false c]; rfl
  · rw [f_O_judge_2, if_neg (by decide)]
    unfold f_O_judge_56
    exact o_judge60 I hJ.1 hJ.2
/-- the reference -/
theorem gi_in (g : gIn W H) (v0 : 0 ≤ v) (v1 : v < W * H) (d0 : 0 ≤ d) (d1 : d < 4) : (0 ≤ (if d < 2 then v % W else v / W) ∧ (if d < 2 then v % W else v / W) < gl W H (gr W H v d)) ∧ gq W H (gr W H v d) (if d < 2 then v % W else v / W) = v := by
  have := gck3_of (P := fun W H v d => decide ((0 ≤ (if d < 2 then v % W else v / W) ∧ (if d < 2 then v % W else v / W) < gl W H (gr W H v d)) ∧ gq W H (gr W H v d) (if d < 2 then v % W else v / W) = v)) (by decide +kernel) g v0 v1 d0 d1
  exact of_decide_eq_true this
theorem ml_someV (hR : RM w S) (g : gIn (S 1 3) (S 1 4)) (hB : JB 91 (S 1 3 * S 1 4 * 9) B w) (v0 : 0 ≤ v) (v1 : v < S 1 3 * S 1 4) (d0 : 0 ≤ d) (d1 : d < 4) : f_M_someOfRing (gr (S 1 3) (S 1 4) v d) w = some (bi (gkR S B v d), w) := by
  have hN := gN g
  have hr := gr_in g v0 v1 d0 d1
  have hd := gd_gr g v0 v1 d0 d1
  have e : gkR S B v d = anV (fun x => decide (gr (S 1 3) (S 1 4) x d = gr (S 1 3) (S 1 4) v d) && B (x * 9 + (1 + d))) (S 1 3 * S 1 4) := by
    unfold gkR
    rw [Bool.eq_iff_iff, anV_t, anV_t]
    refine ⟨fun ⟨i, i0, i1, hi⟩ => ?_, fun ⟨x, x0, x1, hx⟩ => ?_⟩
    · have hq := gq_in g hr.1 hr.2 i0 i1
      have hg := gr_gq g hr.1 hr.2 i0 i1
      rw [hd] at hg
      refine ⟨_, hq.1, hq.2, ?_⟩
      rw [decide_eq_true hg, Bool.true_and, ← Int.add_assoc]
      exact hi
    · rw [Bool.and_eq_true, decide_eq_true_eq] at hx
      have hi := gi_in g x0 x1 d0 d1
      rw [hx.1] at hi
      refine ⟨_, hi.1.1, hi.1.2, ?_⟩
      rw [hi.2, Int.add_assoc]
      exact hx.2
  rw [e]
  unfold f_M_someOfRing
  rw [qbd (mg_directionOf hR.wh g hr.1 hr.2), hd]
  refine aL (L := fun m x => f_M_someOfRing_8 m (gr (S 1 3) (S 1 4) v d) d x w) (fun m x x0 x1 => ?_) (fun m => ?_) (by omega) (by omega)
  · rw [f_M_someOfRing_8, qbd (mg_nodes hR.wh g)]
    dsimp only
    rw [if_pos x1, w32_ok (z := x + 1) (by omega) (by omega), qbd (mg_ringFor hR.wh g x0 x1 d0 d1)]
    dsimp only
    by_cases c : gr (S 1 3) (S 1 4) x d = gr (S 1 3) (S 1 4) v d
    · rw [if_pos c, w32_ok (z := 1 + d) (by omega) (by omega), qbd (m_slot x0 (by omega) (by omega) (by omega))]
      dsimp only
      rw [qld_ok (by omega) (by omega), hB _ (by omega) (by omega), bi_ii, decide_eq_true c, Bool.true_and]
    · rw [if_neg c, decide_eq_false c, Bool.false_and, if_neg (by decide)]
  · rw [f_M_someOfRing_8, qbd (mg_nodes hR.wh g)]
    dsimp only
    rw [if_neg (by omega)]
theorem spr_e (he : sfst S (v * 9 + k) ≠ -1) : spr S v k d = gp (S 1 3) (S 1 4) v (S 7 (sfst S (v * 9 + k))) d := by
  unfold spr
  rw [if_neg he]
theorem ses_e (he : sfst S (v * 9 + k) ≠ -1) : ses S v k d = decide (ge (S 1 3) (S 1 4) v (S 7 (sfst S (v * 9 + k))) = d) := by
  unfold ses
  rw [if_neg he]
theorem spr_z (he : sfst S (v * 9 + k) = -1) : spr S v k d = false := by
  unfold spr
  rw [if_pos he]
theorem ses_z (he : sfst S (v * 9 + k) = -1) : ses S v k d = false := by
  unfold ses
  rw [if_pos he]
theorem an_f (h : ∀ i, f i = false) : anV f N = false := by
  rw [Bool.eq_false_iff]
  intro z
  obtain ⟨i, -, -, hi⟩ := anV_t.mp z
  rw [h i] at hi
  exact absurd hi (by decide)
theorem gkT_z (he : sfst S (v * 9 + k) = -1) : gkT S B v k = false := by
  unfold gkT
  exact an_f (fun i => by unfold gkD; rw [spr_z he, ses_z he]; rfl)
theorem gk0_z (he : sfst S (v * 9 + k) = -1) : gk0 S v k = false := by
  unfold gk0 sin sad sel
  rw [if_pos he, Bool.false_or]
  exact an_f (fun i => by rw [spr_z he, ses_z he]; rfl)
theorem m_canGo0V (h : RM w S) (I : IV S) (v0 : 0 ≤ v) (v1 : v < S 1 3 * S 1 4) (k0 : 0 ≤ k) (k1 : k < 9) (d0 : 0 ≤ d) (d1 : d < 4) (he : sfst S (v * 9 + k) ≠ -1) : f_M_canGo (sfst S (v * 9 + k)) v d 0 w = some (bi (sad S v k d || sel S v k d), w) := by
  unfold f_M_canGo
  rw [qbd (m_canByAdaptive h I v0 v1 k0 k1 d0 d1 he)]
  dsimp only
  rw [qbd (m_canByEscape h I v0 v1 k0 k1 d0 d1 he (Or.inl rfl))]
  cases sad S v k d <;> cases sel S v k d <;> cases scn S v k d <;> cases sbr S v d <;> rfl
theorem ml_nowV (hR : RM w S) (I : IV S) (v0 : 0 ≤ v) (v1 : v < S 1 3 * S 1 4) (k0 : 0 ≤ k) (k1 : k < 9) (he : sfst S (v * 9 + k) ≠ -1) : f_M_canNow v k w = some (bi (gk0 S v k), w) := by
  have hN := gN I.1.1
  obtain ⟨⟨p0, p1⟩, -⟩ := first_at I v0 v1 k0 k1 he
  have hL : f_M_canNow_22 qFU v (sfst S (v * 9 + k)) 0 w = some (bi (anV (fun d => sad S v k d || sel S v k d) 4), w) := by
    refine aL (L := fun m x => f_M_canNow_22 m v (sfst S (v * 9 + k)) x w) (fun m x x0 x1 => ?_) (fun m => ?_) (by decide) (by decide)
    · rw [f_M_canNow_22, if_pos x1, w32_ok (z := x + 1) (by omega) (by omega), qbd (m_canGo0V hR I v0 v1 k0 k1 x0 x1 he)]
      dsimp only
      rw [bi_ii]
    · rw [f_M_canNow_22, if_neg (by decide)]
  unfold f_M_canNow gk0 sin
  rw [qbd (m_firstOf hR I.w.2.2.2 v0 (by omega) k0 k1)]
  dsimp only
  rw [qbd (mp_of hR I p0 p1 (f := 7) (by decide) (by decide) (by decide)), if_neg he]
  dsimp only
  rw [hL]
  by_cases c : S 7 (sfst S (v * 9 + k)) = v
  · rw [if_pos c, decide_eq_true c]; rfl
  · rw [if_neg c, decide_eq_false c]; rfl
theorem ml_thenV (hR : RM w S) (I : IV S) (hB : JB 91 (S 1 3 * S 1 4 * 9) B w) (v0 : 0 ≤ v) (v1 : v < S 1 3 * S 1 4) (k0 : 0 ≤ k) (k1 : k < 9) (he : sfst S (v * 9 + k) ≠ -1) : f_M_canThen v k w = some (bi (gkT S B v k), w) := by
  have hN := gN I.1.1
  obtain ⟨⟨p0, p1⟩, -⟩ := first_at I v0 v1 k0 k1 he
  have hp := I.2.1.1 _ p0 p1
  unfold f_M_canThen gkT
  rw [qbd (m_firstOf hR I.w.2.2.2 v0 (by omega) k0 k1)]
  refine aL (L := fun m x => f_M_canThen_10 m v (sfst S (v * 9 + k)) x w) (fun m x x0 x1 => ?_) (fun m => ?_) (by decide) (by decide)
  · have hn := gn_in I.1.1 v0 v1 x0 x1
    have hr := gr_in I.1.1 v0 v1 x0 x1
    have h60 : f_M_canThen_60 (f_M_canThen_10 m) v (sfst S (v * 9 + k)) x (gn (S 1 3) (S 1 4) v x) w = if bi (ses S v k x) = 0 then f_M_canThen_10 m v (sfst S (v * 9 + k)) (x + 1) w else if bi (scn S v k x) = 0 then (if bi (gkR S B v x) = 0 then f_M_canThen_10 m v (sfst S (v * 9 + k)) (x + 1) w else some (1, w)) else (if bi (B (gn (S 1 3) (S 1 4) v x * 9 + 1 + x)) = 0 then f_M_canThen_10 m v (sfst S (v * 9 + k)) (x + 1) w else some (1, w)) := by
      unfold f_M_canThen_60
      rw [w32_ok (z := x + 1) (by omega) (by omega), w32_ok (z := 1 + x) (by omega) (by omega), qbd (mp_of hR I p0 p1 (f := 7) (by decide) (by decide) (by decide))]
      dsimp only
      rw [qbd (mg_escapeOf hR.wh I.1.1 v0 v1 hp.1.2.1.1 hp.1.2.1.2)]
      dsimp only
      rw [qbd (m_doesContinue hR I v0 v1 k0 k1 x0 x1 he), ses_e he, bi_if]
      dsimp only
      rw [qbd (mg_ringFor hR.wh I.1.1 v0 v1 x0 x1)]
      dsimp only
      rw [qbd (ml_someV hR I.1.1 hB v0 v1 x0 x1), qbd (m_slot hn.1 (by omega) (by omega) (by omega))]
      dsimp only
      rw [qld_ok (by omega) (by omega), hB _ (by omega) (by omega), ← Int.add_assoc]
    unfold gkD
    rw [f_M_canThen_10, if_pos x1, w32_ok (z := 5 + x) (by omega) (by omega), qbd (mg_nextOf hR.wh I.1.1 v0 v1 x0 x1)]
    dsimp only
    rw [qbd (mp_of hR I p0 p1 (f := 7) (by decide) (by decide) (by decide))]
    dsimp only
    rw [qbd (mg_isProfitable hR.wh I.1.1 v0 v1 hp.1.2.1.1 hp.1.2.1.2 x0 x1), ← spr_e he]
    dsimp only
    rw [h60, qbd (m_slot hn.1 (by omega) (by omega) (by omega))]
    dsimp only
    rw [h60, qld_ok (by omega) (by omega), hB _ (by omega) (by omega), ← Int.add_assoc]
    exact gk_c
  · rw [f_M_canThen_10, if_neg (by decide)]
theorem gkI_z (x0 : 0 ≤ x) (x1 : x < 144) (I : IV S) (h : S 20 x ≤ 0) : gkI S B (x + 1) = gkI S B x := by
  have he : sfst S (x / 9 * 9 + x % 9) = -1 := by
    rw [show x / 9 * 9 + x % 9 = x by omega]
    unfold sfst
    rw [if_pos h]
  rw [gkI_s x0, gkT_z he, if_neg (show ¬ (false = true) by decide)]
  split <;> rfl
theorem ml_73V {r65 : Int → qMem → Option qMem} {P : qMem → Prop} (I : IV S) (h1 : RM w S ∧ FO1 w0 w) (h2 : JB 91 (S 1 3 * S 1 4 * 9) B w) (hr : ∀ s' w', RM w' S ∧ FO1 w0 w' → JB 91 (S 1 3 * S 1 4 * 9) (gkM S B) w' → (s' = 0 → gkM S B = B) → (s' ≠ 0 → gkC B 144 < gkC (gkM S B) 144) → kT (r65 s' w') P) : kT (f_M_laysOn_73 r65 qFU 0 0 w) P := by
  have hN := gN I.1.1
  have K0 : gkI S B (0 * 9) = B := by rw [Int.zero_mul]; rfl
  refine kD_loop (σ := Int) (N := S 1 3 * S 1 4) (L := fun m x s w => f_M_laysOn_73 r65 m s x w) (J := fun x s w => (RM w S ∧ FO1 w0 w) ∧ JB 91 (S 1 3 * S 1 4 * 9) (gkI S B (x * 9)) w ∧ (s = 0 → gkI S B (x * 9) = B) ∧ (s ≠ 0 → gkC B 144 < gkC (gkI S B (x * 9)) 144)) (fun m x s w x0 x1 hJ ih => ?_) (fun m s w hJ => ?_) (by omega) (by omega) 0 ⟨h1, by rw [K0]; exact h2, fun _ => K0, fun z => absurd rfl z⟩
  · rw [f_M_laysOn_73, qbd (mg_nodes hJ.1.1.wh I.1.1)]
    dsimp only
    rw [if_pos x1]
    refine kD_loop (σ := Int) (N := 9) (L := fun m' y s' w => f_M_laysOn_83 r65 (f_M_laysOn_73 r65 m) m' s' x y w) (J := fun y s w => (RM w S ∧ FO1 w0 w) ∧ JB 91 (S 1 3 * S 1 4 * 9) (gkI S B (x * 9 + y)) w ∧ (s = 0 → gkI S B (x * 9 + y) = B) ∧ (s ≠ 0 → gkC B 144 < gkC (gkI S B (x * 9 + y)) 144)) (fun m' y s' w y0 y1 hJ ih' => ?_) (fun m' s' w hJ => ?_) (by decide) (by decide) s (by rw [Int.add_zero]; exact hJ)
    · have es := gkI_s (S := S) (B := B) (x := x * 9 + y) (by omega)
      rw [show (x * 9 + y) / 9 = x by omega, show (x * 9 + y) % 9 = y by omega, Int.add_assoc] at es
      rw [f_M_laysOn_83, if_pos y1, qbd (m_slot x0 (by omega) y0 y1)]
      dsimp only
      rw [qld_ok (by omega) (by omega), w32_ok (z := y + 1) (by omega) (by omega), hJ.2.1 (x * 9 + y) (by omega) (by omega), bi_ii]
      refine kT_if (fun c => ih' _ _ (by rw [es, if_pos c]; exact hJ)) (fun c => ?_)
      rw [if_neg c] at es
      rw [qbd (m_many hJ.1.1 x0 (by omega) y0 y1)]
      dsimp only
      refine kT_if (fun hz => ih' _ _ ?_) (fun hn => ?_)
      · have := gkI_z (S := S) (B := B) (x := x * 9 + y) (by omega) (by omega) I (by omega)
        rw [← Int.add_assoc, this]; exact hJ
      have h20 := (I.w.2.2.2 (x * 9 + y) (by omega) (by omega)).1.1
      have hfst := sfst_of (q := x * 9 + y) I (by omega) (by omega) (by omega)
      refine kT_eq (ml_thenV hJ.1.1 I hJ.2.1 x0 x1 y0 y1 hfst) ?_
      dsimp only
      rw [bi_ii]
      refine kT_if (fun c2 => ?_) (fun c2 => ih' _ _ (by rw [es, if_neg c2]; exact hJ))
      rw [if_pos c2] at es
      rw [qbd (m_slot x0 (by omega) y0 y1)]
      dsimp only
      rw [qstz_ok (by omega) (by omega) (Or.inr rfl)]
      refine ih' _ _ ⟨⟨hJ.1.1.fo FO1.rfl'.wr, hJ.1.2.wr⟩, ?_, fun z => absurd z (by decide), fun _ => ?_⟩
      · rw [es]; exact hJ.2.1.up
      · have hg := gkI_ge (S := S) (B := B) (x := x * 9 + y) (by omega) (by omega)
        rw [es, gkC_set (by omega) c 144 (by omega)]
        omega
    · rw [f_M_laysOn_83, if_neg (by decide), w32_ok (z := x + 1) (by omega) (by omega)]
      refine ih _ _ ?_
      rw [show (x + 1) * 9 = x * 9 + 9 by omega]
      exact hJ
  · rw [f_M_laysOn_73, qbd (mg_nodes hJ.1.1.wh I.1.1)]
    dsimp only
    rw [if_neg (by omega)]
    exact hr _ _ hJ.1 hJ.2.1 hJ.2.2.1 hJ.2.2.2
theorem ml_65V (I : IV S) : ∀ (c i m : Nat) (x1 : Int) (w : qMem), i + c = 145 → RM w S ∧ FO1 w0 w → JB 91 (S 1 3 * S 1 4 * 9) (gkW S B i) w → (x1 = 0 → gkW S B i = gkW S B 144) → (x1 ≠ 0 → i ≤ gkC (gkW S B i) 144) → c + 2 ≤ m → kT (f_M_laysOn_65 m x1 w) (fun w' => (RM w' S ∧ FO1 w0 w') ∧ JB 91 (S 1 3 * S 1 4 * 9) (gkW S B 144) w') := by
  intro c
  induction c with
  | zero =>
    intro i m x1 w hi h1 h2 h3 h4 hm
    cases m with
    | zero => omega
    | succ m =>
      rw [f_M_laysOn_65]
      refine kT_if (fun z => kT_some ⟨h1, by rw [← h3 z]; exact h2⟩) (fun z => ?_)
      have := h4 z
      have := gkC_le (B := gkW S B i) 144
      omega
  | succ c ih =>
    intro i m x1 w hi h1 h2 h3 h4 hm
    cases m with
    | zero => omega
    | succ m =>
      rw [f_M_laysOn_65]
      refine kT_if (fun z => kT_some ⟨h1, by rw [← h3 z]; exact h2⟩) (fun z => ?_)
      have hi2 := h4 z
      refine ml_73V I h1 h2 (fun s' w' a1 a2 a3 a4 => ih (i + 1) m s' w' (by omega) a1 a2 (fun z => ?_) (fun z => ?_) (by omega))
      · have hf := a3 z
        show gkM S (gkW S B i) = _
        rw [hf]
        exact gkW_end hf (by omega)
      · have := a4 z
        show i + 1 ≤ gkC (gkM S (gkW S B i)) 144
        omega
theorem ml_laysV (hR : RM w S) (I : IV S) : kT (f_M_laysOn w) (fun w' => (RM w' S ∧ FO1 w w') ∧ JB 91 (S 1 3 * S 1 4 * 9) (gkA S) w') := by
  have hN := gN I.1.1
  unfold f_M_laysOn
  refine kD_loop (σ := Unit) (N := S 1 3 * S 1 4) (L := fun m x _ w => f_M_laysOn_2 m x w) (J := fun x _ w' => (RM w' S ∧ FO1 w w') ∧ JB 91 (x * 9) (gkB S) w') (fun m x s w' x0 x1 hJ ih => ?_) (fun m s w' hJ => ?_) (by omega) (by omega) () ⟨⟨hR, FO1.rfl'⟩, fun q a b => by omega⟩
  · rw [f_M_laysOn_2, qbd (mg_nodes hJ.1.1.wh I.1.1)]
    dsimp only
    rw [if_pos x1]
    refine kD_loop (σ := Unit) (N := 9) (L := fun m' y _ w' => f_M_laysOn_12 (f_M_laysOn_2 m) m' x y w') (J := fun y _ w' => (RM w' S ∧ FO1 w w') ∧ JB 91 (x * 9 + y) (gkB S) w') (fun m' y s' w' y0 y1 hJ ih' => ?_) (fun m' s' w' hJ => ?_) (by decide) (by decide) () (by rw [Int.add_zero]; exact hJ)
    · have hgB : gkB S (x * 9 + y) = gk0 S x y := by
        unfold gkB
        rw [decide_eq_true (show x * 9 + y < S 1 3 * S 1 4 * 9 by omega), show (x * 9 + y) / 9 = x by omega, show (x * 9 + y) % 9 = y by omega, Bool.true_and]
      have h50 : ∀ z, z = bi (gk0 S x y) → kT (f_M_laysOn_50 (f_M_laysOn_2 m) (f_M_laysOn_12 (f_M_laysOn_2 m) m') (x * 9 + y) z x y w') (fun w' => (RM w' S ∧ FO1 w w') ∧ JB 91 (S 1 3 * S 1 4 * 9) (gkA S) w') := by
        intro z hz
        unfold f_M_laysOn_50
        rw [qstz_ok (by omega) (by omega) (by rw [hz]; cases gk0 S x y; exact Or.inl rfl; exact Or.inr rfl), w32_ok (z := y + 1) (by omega) (by omega)]
        refine ih' () _ ⟨⟨hJ.1.1.fo FO1.rfl'.wr, hJ.1.2.wr⟩, fun q a b => ?_⟩
        by_cases e : q = x * 9 + y
        · rw [e, qud_s, hz, hgB]
        · rw [qud_ni e]; exact hJ.2 q a (by omega)
      rw [f_M_laysOn_12, if_pos y1, qbd (m_slot x0 (by omega) y0 y1)]
      dsimp only
      rw [qbd (m_many hJ.1.1 x0 (by omega) y0 y1)]
      dsimp only
      refine kT_if (fun hz => h50 0 ?_) (fun hn => ?_)
      · rw [gk0_z (by unfold sfst; rw [if_pos hz])]; rfl
      have hfst := sfst_of (q := x * 9 + y) I (by omega) (by omega) hn
      refine kT_eq (ml_nowV hJ.1.1 I x0 x1 y0 y1 hfst) ?_
      dsimp only
      rw [bi_ii]
      refine kT_if (fun c => h50 1 (by rw [c]; rfl)) (fun c => h50 0 (by rw [Bool.eq_false_iff.mpr c]; rfl))
    · rw [f_M_laysOn_12, if_neg (by decide), w32_ok (z := x + 1) (by omega) (by omega)]
      refine ih () _ ?_
      rw [show (x + 1) * 9 = x * 9 + 9 by omega]
      exact hJ
  · rw [f_M_laysOn_2, qbd (mg_nodes hJ.1.1.wh I.1.1)]
    dsimp only
    rw [if_neg (by omega)]
    unfold f_M_laysOn_63
    exact ml_65V (B := gkB S) I 145 0 qFU 1 w' rfl hJ.1 hJ.2 (fun z => absurd z (by decide)) (fun _ => Nat.zero_le _) (by unfold qFU; omega)
end JG
