/-! a tick in which nothing goes -/
def xT (T : qMem) : qMem := sfg (qud T 22 1 0)
/-- the same, as far as going asks, the bars aside -/
def QE (S S' : qMem) : Prop := (S' 1 = S 1 ∧ ∀ j, j ≤ 9 → S' 0 j = S 0 j) ∧ ∀ f : Nat, ((5 ≤ f ∧ f ≤ 21) ∨ f = 25) → S' f = S f
def nS (S : qMem) : Prop := ∀ v k, 0 ≤ v → v < S 1 3 * S 1 4 → 0 ≤ k → k < 8 → sin S v (k + 1) = false
def nG (S : qMem) : Prop := ∀ v d, 0 ≤ v → v < S 1 3 * S 1 4 → 0 ≤ d → d < 4 → sch S v d = -1
def idl (T : qMem) : Prop := skd (xT T) 5 14 = T 5 14 ∧ stk T 22 1 = 0
def MKs (S : qMem) : Prop := S 0 9 ≤ 0 ∨ ∀ r, 0 ≤ r → r < 2 * (S 1 3 + S 1 4) → S 26 r = -1 ∨ swi S (S 26 r) (gd (S 1 3) (S 1 4) r) = true
def PTs (S : qMem) : Prop := ∀ p, 0 ≤ p → p < S 5 13 → S 17 p < S 0 10
def skip (S : qMem) (v d k : Int) : Prop := sfst S (v * 9 + k) = -1 ∨ S 17 (sfst S (v * 9 + k)) = S 0 10 ∨ scg S v k d = false
def rst (T : qMem) : qMem := skc (skw (skm (skh (xT T))))
section ID
variable {w w' w0 S T S' U H X Y : qMem} {v t n x p a b l d k q r m c N : Int} {f : Nat}
/-! bits -/
theorem jb_s : ∀ n : Nat, n < 16 → ((Int32.ofInt (n : Int) &&& 31).toBitVec.smod 32).toNat = n := by decide +kernel
theorem jb_key {A s : Int32} {n : Nat} (hn : n < 32) (hs : (s.toBitVec.smod 32).toNat = n) : ((A >>> s) &&& 1).toInt = 1 ↔ A.toBitVec.getLsbD n = true := by
  have h2 : (A >>> s).toBitVec.getLsbD 0 = A.toBitVec.getLsbD n := by
    rw [Int32.toBitVec_shiftRight]
    show (A.toBitVec.sshiftRight (s.toBitVec.smod 32).toNat).getLsbD 0 = _
    rw [hs, BitVec.getLsbD_sshiftRight]
    simp [hn]
  have h1 : ((A >>> s) &&& 1).toBitVec = BitVec.setWidth 32 (BitVec.ofBool ((A >>> s).toBitVec.getLsbD 0)) := by
    rw [Int32.toBitVec_and]
    exact BitVec.and_one_eq_setWidth_ofBool_getLsbD
  show ((A >>> s) &&& 1).toBitVec.toInt = 1 ↔ _
  rw [h1, h2]
  cases A.toBitVec.getLsbD n <;> decide
theorem jb_iff (v0 : 0 ≤ v) (v1 : v < 16) : jand (jshr a v) 1 = 1 ↔ (Int32.ofInt a).toBitVec.getLsbD v.toNat = true := by
  have e : ((v.toNat : Nat) : Int) = v := by omega
  have hs := jb_s v.toNat (by omega)
  rw [e] at hs
  unfold jand jshr
  rw [Int32.ofInt_toInt]
  exact jb_key (by omega) hs
theorem jb_or (v0 : 0 ≤ v) (v1 : v < 16) (h : jand (jshr a v) 1 = 1) : jand (jshr (jor a b) v) 1 = 1 := by
  rw [jb_iff v0 v1] at h ⊢
  unfold jor
  rw [Int32.ofInt_toInt, Int32.toBitVec_or, BitVec.getLsbD_or, h]
  rfl
/-! what is the same -/
theorem QE.rf : QE S S := ⟨⟨rfl, fun _ _ => rfl⟩, fun _ _ => rfl⟩
theorem QE.tr (h : QE S T) (h2 : QE T U) : QE S U := ⟨⟨h2.1.1.trans h.1.1, fun j hj => (h2.1.2 j hj).trans (h.1.2 j hj)⟩, fun f hf => (h2.2 f hf).trans (h.2 f hf)⟩
theorem QE.sy (h : QE S T) : QE T S := ⟨⟨h.1.1.symm, fun j hj => (h.1.2 j hj).symm⟩, fun f hf => (h.2 f hf).symm⟩
theorem QE.f1 (h : QE S S') : sfst S' q = sfst S q := sfst_co (h.2 20 (by decide)) (h.2 21 (by decide))
theorem QE.xin (h : QE S S') : sin S' v k = sin S v k := by
  unfold sin
  rw [h.f1, h.2 7 (by decide)]
theorem QE.xpr (h : QE S S') : spr S' v k d = spr S v k d := by
  unfold spr
  rw [h.f1, h.2 7 (by decide), h.1.1]
theorem QE.xes (h : QE S S') : ses S' v k d = ses S v k d := by
  unfold ses
  rw [h.f1, h.2 7 (by decide), h.1.1]
theorem QE.xad (h : QE S S') : sad S' v k d = sad S v k d := by
  unfold sad
  rw [h.xpr, h.2 20 (by decide), h.1.1, h.1.2 7 (by decide)]
theorem QE.xcn (h : QE S S') : scn S' v k d = scn S v k d := by
  unfold scn
  rw [h.xes]
theorem QE.xel (h : QE S S') : sel S' v k d = sel S v k d := by
  unfold sel srl srn sfa
  rw [h.xes, h.2 20 (by decide), h.2 25 (by decide), h.1.1, h.1.2 6 (by decide), h.1.2 8 (by decide)]
theorem QE.xwi (h : QE S S') : swi S' v d = swi S v d := by
  unfold swi
  have key : ∀ (n : Nat) (k : Int), swiL S' v d n k = swiL S v d n k := by
    intro n
    induction n with
    | zero => intro k; rfl
    | succ n ih => intro k; rw [swiL, swiL, ih, h.xes]
  exact key 9 0
theorem QE.xt : QE T (xT T) := by
  unfold xT
  refine ⟨⟨by rw [sfg_r (by decide), qud_row (by decide)], fun j _ => by rw [sfg_r (by decide), qud_nk (by decide)]⟩, fun f hf => by rw [sfg_r (by omega), qud_row (by omega)]⟩
theorem skh_r (h31 : f ≠ 31) (h32 : f ≠ 32) : skh S f = S f := by
  unfold skh
  exact itk_i (F := fun v S => itk (fun d S => shu S v d) 4 S) (P := fun _ s => s f = S f) (S := S) rfl _ (fun x s _ _ hs => itk_i (F := fun d S => shu S x d) (P := fun _ s => s f = S f) (S := s) hs 4 (fun y t _ _ ht => by rw [shu_r h31 h32]; exact ht))
theorem skm_r (h24 : f ≠ 24) (h26 : f ≠ 26) (h27 : f ≠ 27) (h28 : f ≠ 28) : skm S f = S f := by
  unfold skm
  split
  · rfl
  · exact itk_i (F := fun r S => smk S r) (P := fun _ s => s f = S f) (S := S) rfl _ (fun x s _ _ hs => by rw [smk_r h24 h26 h27 h28]; exact hs)
theorem skw_r (h30 : f ≠ 30) : skw S f = S f := by
  unfold skw
  exact itk_i (F := fun r S => sfw S r) (P := fun _ s => s f = S f) (S := S) rfl _ (fun x s _ _ hs => by rw [sfw_r h30]; exact hs)
theorem rst_r (h0 : f ≠ 0) (h22 : f ≠ 22) (h24 : f ≠ 24) (h26 : f ≠ 26) (h27 : f ≠ 27) (h28 : f ≠ 28) (h30 : f ≠ 30) (h31 : f ≠ 31) (h32 : f ≠ 32) (h33 : f ≠ 33) : rst T f = T f := by
  unfold rst skc xT
  rw [qud_row h0, skw_r h30, skm_r h24 h26 h27 h28, skh_r h31 h32, sfg_r h33, qud_row h22]
theorem rst_0 (hj : n ≠ 10) : rst T 0 n = T 0 n := by
  unfold rst skc xT
  rw [qud_ni hj, skw_r (by decide), skm_r (by decide) (by decide) (by decide) (by decide), skh_r (by decide) (by decide), sfg_r (by decide), qud_nk (by decide)]
theorem QE.rs : QE T (rst T) := ⟨⟨rst_r (by decide) (by decide) (by decide) (by decide) (by decide) (by decide) (by decide) (by decide) (by decide) (by decide), fun j hj => rst_0 (by omega)⟩, fun f hf => rst_r (by omega) (by omega) (by omega) (by omega) (by omega) (by omega) (by omega) (by omega) (by omega) (by omega)⟩
/-! delivering nothing -/
theorem sdl_514 : sdl S v k 5 14 = if sin S v k = true then w32 (S 5 14 + 1) else S 5 14 := by
  unfold sdl
  split
  · rw [sdv_514, sdr_f (f := 5) (by decide) (by decide)]
  · rfl
theorem sdl_id (h : sin S v k = false) : sdl S v k = S := by
  unfold sdl
  rw [h, if_neg (by decide)]
theorem skd_n (I : IV X) (Q : XQ X) (h : skd X 5 14 = X 5 14) : nS X ∧ skd X = X := by
  have hN := gN I.1.1
  have := itk_i (F := fun v S => itk (fun k S => sdl S v (k + 1)) 8 S) (P := fun x s => ((IV s ∧ XQ s) ∧ s 1 = X 1) ∧ ((s = X ∧ ∀ v k, 0 ≤ v → 0 ≤ k → k < 8 → (v < x ∨ (v = x ∧ k < 0)) → sin X v (k + 1) = false) ∨ X 5 14 < s 5 14)) (S := X) ⟨⟨⟨I, Q⟩, rfl⟩, Or.inl ⟨rfl, fun v k a b c e => by omega⟩⟩ (X 1 3 * X 1 4).toNat (fun x s x0 x1 hs => by
    have h8 := itk_i (F := fun k S => sdl S x (k + 1)) (P := fun y s => ((IV s ∧ XQ s) ∧ s 1 = X 1) ∧ ((s = X ∧ ∀ v k, 0 ≤ v → 0 ≤ k → k < 8 → (v < x ∨ (v = x ∧ k < y)) → sin X v (k + 1) = false) ∨ X 5 14 < s 5 14)) (S := s) hs 8 (fun y t y0 y1 ht => by
      obtain ⟨⟨⟨It, Qt⟩, e1⟩, hc⟩ := ht
      have ht := tot_in It
      have hC := It.1.2.2.2.2.2.2.1
      have hv : x < t 1 3 * t 1 4 := by rw [e1]; omega
      refine ⟨⟨⟨It.dl x0 hv (by omega) (by omega), Qt.dl It x0 hv (by omega) (by omega)⟩, by rw [sdl_r (by decide) (by decide) (by decide) (by decide) (by decide) (by decide) (by decide)]; exact e1⟩, ?_⟩
      cases hz : sin t x (y + 1) with
      | true =>
        right
        unfold XQ at Qt
        rw [sdl_514, if_pos hz, w32_ok (by omega) (by omega)]
        rcases hc with z | z
        · rw [z.1]; omega
        · omega
      | false =>
        rw [sdl_id hz]
        rcases hc with z | z
        · refine Or.inl ⟨z.1, fun v k a b c e => ?_⟩
          by_cases q : v = x ∧ k = y
          · rw [q.1, q.2, ← z.1]; exact hz
          · exact z.2 v k a b c (by omega)
        · exact Or.inr z)
    refine ⟨h8.1, ?_⟩
    rcases h8.2 with z | z
    · exact Or.inl ⟨z.1, fun v k a b c e => z.2 v k a b c (by omega)⟩
    · exact Or.inr z)
  rcases this.2 with z | z
  · exact ⟨fun v k a b c e => z.2 v k a c e (by omega), z.1⟩
  · unfold skd at h
    omega
theorem skd_i (h : nS X) : skd X = X := by
  unfold skd
  exact itk_i (F := fun v S => itk (fun k S => sdl S v (k + 1)) 8 S) (P := fun _ s => s = X) (S := X) rfl _ (fun x s x0 x1 hs => itk_i (F := fun k S => sdl S x (k + 1)) (P := fun _ s => s = X) (S := s) hs 8 (fun y t y0 y1 ht => by
    rw [ht]
    exact sdl_id (h x y x0 (by omega) y0 (by omega))))
/-! going nowhere -/
theorem sgc_22 : sgc S v d 22 1 = if sch S v d = -1 then S 22 1 else S 22 1 + 1 := by
  unfold sgc
  split
  · rfl
  · rw [sgo_22]
theorem sgc_id (h : sch S v d = -1) : sgc S v d = S := by
  unfold sgc
  rw [if_pos h]
theorem kv_on {W H : Int} (g : gIn W H) (v0 : 0 ≤ v) (v1 : v < W * H) : ∃ i, 0 ≤ i ∧ i < W * H ∧ (c % (W * H) + i) % (W * H) = v := by
  obtain ⟨⟨a, b⟩, e, f⟩ := g
  rcases (by omega : W = 2 ∨ W = 3 ∨ W = 4) with rfl | rfl | rfl <;> rcases (by omega : H = 2 ∨ H = 3 ∨ H = 4) with rfl | rfl | rfl
  · exact ⟨(v - c) % 4, by omega, by omega, by omega⟩
  · exact ⟨(v - c) % 6, by omega, by omega, by omega⟩
  · exact ⟨(v - c) % 8, by omega, by omega, by omega⟩
  · exact ⟨(v - c) % 6, by omega, by omega, by omega⟩
  · exact ⟨(v - c) % 9, by omega, by omega, by omega⟩
  · exact ⟨(v - c) % 12, by omega, by omega, by omega⟩
  · exact ⟨(v - c) % 8, by omega, by omega, by omega⟩
  · exact ⟨(v - c) % 12, by omega, by omega, by omega⟩
  · exact ⟨(v - c) % 16, by omega, by omega, by omega⟩
theorem skg_n (g : gIn (Y 1 3) (Y 1 4)) (h : skg Y 22 1 = Y 22 1) : nG Y ∧ skg Y = Y := by
  have hN := gN g
  have := itk_i (F := fun i S => itk (fun d S => sgc S ((S 0 10 % (S 1 3 * S 1 4) + i) % (S 1 3 * S 1 4)) d) 4 S) (P := fun x s => (s = Y ∧ ∀ i d, 0 ≤ i → 0 ≤ d → d < 4 → (i < x ∨ (i = x ∧ d < 0)) → sch Y ((Y 0 10 % (Y 1 3 * Y 1 4) + i) % (Y 1 3 * Y 1 4)) d = -1) ∨ Y 22 1 < s 22 1) (S := Y) (Or.inl ⟨rfl, fun i d a b c e => by omega⟩) (Y 1 3 * Y 1 4).toNat (fun x s x0 x1 hs => by
    have h4 := itk_i (F := fun d S => sgc S ((S 0 10 % (S 1 3 * S 1 4) + x) % (S 1 3 * S 1 4)) d) (P := fun y s => (s = Y ∧ ∀ i d, 0 ≤ i → 0 ≤ d → d < 4 → (i < x ∨ (i = x ∧ d < y)) → sch Y ((Y 0 10 % (Y 1 3 * Y 1 4) + i) % (Y 1 3 * Y 1 4)) d = -1) ∨ Y 22 1 < s 22 1) (S := s) hs 4 (fun y t y0 y1 hc => by
      by_cases hz : sch t ((t 0 10 % (t 1 3 * t 1 4) + x) % (t 1 3 * t 1 4)) y = -1
      · rw [sgc_id hz]
        rcases hc with z | z
        · refine Or.inl ⟨z.1, fun i d a b c e => ?_⟩
          by_cases q : i = x ∧ d = y
          · rw [q.1, q.2, ← z.1]; exact hz
          · exact z.2 i d a b c (by omega)
        · exact Or.inr z
      · right
        rw [sgc_22, if_neg hz]
        rcases hc with z | z
        · rw [z.1]; omega
        · omega)
    rcases h4 with z | z
    · exact Or.inl ⟨z.1, fun i d a b c e => z.2 i d a b c (by omega)⟩
    · exact Or.inr z)
  rcases this with z | z
  · refine ⟨fun v d a b c e => ?_, z.1⟩
    obtain ⟨i, i0, i1, hi⟩ := kv_on (c := Y 0 10) g a b
    have := z.2 i d i0 c e (by omega)
    rw [hi] at this
    exact this
  · unfold skg at h
    omega
theorem skg_i (g : gIn (Y 1 3) (Y 1 4)) (h : nG Y) : skg Y = Y := by
  have hN := gN g
  unfold skg
  exact itk_i (F := fun i S => itk (fun d S => sgc S ((S 0 10 % (S 1 3 * S 1 4) + i) % (S 1 3 * S 1 4)) d) 4 S) (P := fun _ s => s = Y) (S := Y) rfl _ (fun x s x0 x1 hs => itk_i (F := fun d S => sgc S ((S 0 10 % (S 1 3 * S 1 4) + x) % (S 1 3 * S 1 4)) d) (P := fun _ s => s = Y) (S := s) hs 4 (fun y t y0 y1 ht => by
    rw [ht]
    exact sgc_id (h _ _ (Int.emod_nonneg _ (by omega)) (Int.emod_lt_of_pos _ (by omega)) y0 (by omega))))
theorem xT_1 : xT T 1 = T 1 := QE.xt.1.1
theorem xT_514 : xT T 5 14 = T 5 14 := by rw [QE.xt.2 5 (by decide)]
theorem xT_22 : xT T 22 1 = 0 := by
  unfold xT
  rw [sfg_r (by decide), qud_s]
theorem IV.xt (I : IV T) : IV (xT T) := (I.m0 (by omega) (by omega)).fg
theorem XQ.xt (X : XQ T) : XQ (xT T) := (X.qq (by decide)).fg
theorem stk_22 : stk T 22 1 = skg (skd (xT T)) 22 1 := by
  unfold stk skc
  rw [qud_nk (by decide), skw_r (by decide), skm_r (by decide) (by decide) (by decide) (by decide), skh_r (by decide) (by decide)]
  rfl
theorem idl_n (I : IV T) (Q : XQ T) (h : idl T) : (nS (xT T) ∧ nG (xT T)) ∧ stk T = rst T := by
  have h1 := skd_n I.xt Q.xt (by rw [h.1, xT_514])
  have h2 := h.2
  rw [stk_22, h1.2] at h2
  have h3 := skg_n (Y := xT T) I.xt.1.1 (by rw [h2, xT_22])
  refine ⟨⟨h1.1, h3.1⟩, ?_⟩
  have e : stk T = skc (skw (skm (skh (skg (skd (xT T)))))) := rfl
  rw [e, h1.2, h3.2]
  rfl
theorem idl_i (g : gIn (T 1 3) (T 1 4)) (h1 : nS (xT T)) (h2 : nG (xT T)) : idl T ∧ stk T = rst T := by
  have hg : gIn (xT T 1 3) (xT T 1 4) := by rw [xT_1]; exact g
  have e1 := skd_i h1
  have e2 := skg_i hg h2
  refine ⟨⟨by rw [e1, xT_514], by rw [stk_22, e1, e2, xT_22]⟩, ?_⟩
  have e : stk T = skc (skw (skm (skh (skg (skd (xT T)))))) := rfl
  rw [e, e1, e2]
  rfl
/-! who is chosen -/
theorem schL_ne : ∀ (n : Nat) (c b k : Int), 0 ≤ k → c ≠ -1 → schL S v d n c b k ≠ -1 := by
  intro n
  induction n with
  | zero => intro c b k _ h; rw [schL]; exact h
  | succ n ih =>
    intro c b k k0 h
    rw [schL]
    split
    · exact ih c b (k + 1) (by omega) h
    · split
      · omega
      · split
        · exact ih k _ (k + 1) (by omega) (by omega)
        · exact ih c b (k + 1) (by omega) h
theorem schL_n : ∀ (n : Nat) (b k : Int), 0 ≤ k → schL S v d n (-1) b k = -1 → (b = -1) → ∀ j, k ≤ j → j < k + n → skip S v d j := by
  intro n
  induction n with
  | zero => intro b k _ _ _ j a c; omega
  | succ n ih =>
    intro b k k0 h hb j a c
    rw [schL] at h
    by_cases e : sfst S (v * 9 + k) = -1 ∨ S 17 (sfst S (v * 9 + k)) = S 0 10 ∨ scg S v k d = false
    · rw [if_pos e] at h
      by_cases q : j = k
      · rw [q]; exact e
      · exact ih b (k + 1) (by omega) h hb j (by omega) (by omega)
    · rw [if_neg e] at h
      exfalso
      split at h
      · omega
      · rw [if_pos (Or.inl hb)] at h
        exact schL_ne n _ _ _ (by omega) (by omega) h
theorem schL_i : ∀ (n : Nat) (c b k : Int), (∀ j, k ≤ j → j < k + n → skip S v d j) → schL S v d n c b k = c := by
  intro n
  induction n with
  | zero => intro c b k _; rfl
  | succ n ih =>
    intro c b k h
    have h0 := h k (Int.le_refl _) (by omega)
    unfold skip at h0
    rw [schL, if_pos h0]
    exact ih c b (k + 1) (fun j a e => h j (by omega) (by omega))
/-! hunger and marks -/
theorem shu_31 : shu S v d 31 n = if n = v * 4 + d then shv S v d else S 31 n := by
  unfold shu
  rw [qud_nk (by decide), qud_if]
theorem skh_31 (g : gIn (X 1 3) (X 1 4)) (hX : ∀ i, 0 ≤ i → i < 64 → 0 ≤ X 31 i) (z : ∀ i, 0 ≤ i → i < 64 → X 33 i = 0) (v0 : 0 ≤ v) (v1 : v < X 1 3 * X 1 4) (d0 : 0 ≤ d) (d1 : d < 4) : 0 < skh X 31 (v * 4 + d) ↔ swi X v d = true := by
  have hN := gN g
  have := itk_i (F := fun v S => itk (fun d S => shu S v d) 4 S) (P := fun x s => ((∀ f : Nat, f ≠ 31 → f ≠ 32 → s f = X f) ∧ ∀ i, 0 ≤ i → i < 64 → 0 ≤ s 31 i) ∧ ∀ v d, 0 ≤ v → 0 ≤ d → d < 4 → (v < x ∨ (v = x ∧ d < 0)) → (0 < s 31 (v * 4 + d) ↔ swi X v d = true)) (S := X) ⟨⟨fun _ _ _ => rfl, hX⟩, fun v d a b c e => by omega⟩ (X 1 3 * X 1 4).toNat (fun x s x0 x1 hs => by
    have h4 := itk_i (F := fun d S => shu S x d) (P := fun y s => ((∀ f : Nat, f ≠ 31 → f ≠ 32 → s f = X f) ∧ ∀ i, 0 ≤ i → i < 64 → 0 ≤ s 31 i) ∧ ∀ v d, 0 ≤ v → 0 ≤ d → d < 4 → (v < x ∨ (v = x ∧ d < y)) → (0 < s 31 (v * 4 + d) ↔ swi X v d = true)) (S := s) hs 4 (fun y t y0 y1 ht => by
      obtain ⟨⟨hr, hp⟩, hc⟩ := ht
      have qe : QE X t := ⟨⟨hr 1 (by decide) (by decide), fun j _ => by rw [hr 0 (by decide) (by decide)]⟩, fun f hf => hr f (by omega) (by omega)⟩
      have h33 : t 33 (x * 4 + y) = 0 := by rw [hr 33 (by decide) (by decide)]; exact z _ (by omega) (by omega)
      have h31 := hp (x * 4 + y) (by omega) (by omega)
      have hv : (0 ≤ shv t x y) ∧ (0 < shv t x y ↔ swi X x y = true) := by
        unfold shv
        rw [qe.xwi]
        by_cases e : swi X x y = true
        · rw [if_pos ⟨e, h33⟩]
          refine ⟨by split <;> omega, fun _ => e, fun _ => by split <;> omega⟩
        · rw [if_neg (fun q => e q.1)]
          exact ⟨Int.le_refl _, fun q => absurd q (by decide), fun q => absurd q e⟩
      refine ⟨⟨fun f a b => by rw [shu_r a b]; exact hr f a b, fun i a b => ?_⟩, fun v d a b c e => ?_⟩
      · rw [shu_31]
        split
        · exact hv.1
        · exact hp i a b
      · rw [shu_31]
        by_cases q : v * 4 + d = x * 4 + y
        · rw [if_pos q, show v = x by omega, show d = y by omega]
          exact hv.2
        · rw [if_neg q]
          exact hc v d a b c (by omega))
    exact ⟨h4.1, fun v d a b c e => h4.2 v d a b c (by omega)⟩)
  exact this.2 v d v0 d0 d1 (by omega)
theorem shg_ge (h : shg S r ≠ -1) : S 0 9 ≤ S 31 (shg S r * 4 + gd (S 1 3) (S 1 4) r) := by
  have := fli_i (g := shgS S (gd (S 1 3) (S 1 4) r)) (h := gq (S 1 3) (S 1 4) r) (P := fun _ b => b = -1 ∨ S 0 9 ≤ S 31 (b * 4 + gd (S 1 3) (S 1 4) r)) (s := -1) (Or.inl rfl) (gl (S 1 3) (S 1 4) r).toNat (fun x t _ _ ht => by
    unfold shgS
    split
    · exact ht
    · split
      · exact Or.inr (by omega)
      · exact ht)
  unfold shg at h ⊢
  exact this.resolve_left h
theorem smk_n (hn : n ≠ r) : smk S r 26 n = S 26 n ∧ smk S r 28 n = S 28 n := by
  unfold smk sms sme smc
  repeat' split
  all_goals (constructor <;> simp (disch := first | decide | assumption) only [qud_nk, qud_ni])
theorem sms_26 (e : S 26 r = -1) : sms S r 26 r = -1 ∨ (0 < S 0 9 → 0 < S 31 (sms S r 26 r * 4 + gd (S 1 3) (S 1 4) r)) := by
  unfold sms
  by_cases g : shg S r = -1
  · rw [if_pos g]; exact Or.inl e
  · have := shg_ge g
    rw [if_neg g, qud_nk (by decide), qud_nk (by decide), qud_s]
    exact Or.inr (fun z => by omega)
theorem smk_26s : smk S r 26 r = -1 ∨ (0 < S 0 9 → 0 < S 31 (smk S r 26 r * 4 + gd (S 1 3) (S 1 4) r)) := by
  unfold smk
  by_cases e : S 26 r = -1
  · rw [if_pos e]; exact sms_26 e
  · rw [if_neg e]
    by_cases h : S 31 (S 26 r * 4 + gd (S 1 3) (S 1 4) r) ≤ 0
    · rw [if_pos h]
      have e26 : sme S r 26 r = -1 := by
        unfold sme
        rw [qud_nk (by decide), qud_nk (by decide), qud_s]
      have := sms_26 (S := sme S r) e26
      rw [sme_r (f := 0) (by decide) (by decide) (by decide), sme_r (f := 1) (by decide) (by decide) (by decide), sme_r (f := 31) (by decide) (by decide) (by decide)] at this
      exact this
    · rw [if_neg h]
      have e26 : ∀ m, smc S r m 26 r = S 26 r := fun m => by
        unfold smc
        split
        · rw [qud_nk (by decide)]
        · rw [qud_nk (by decide), qud_nk (by decide)]
      rw [e26]
      exact Or.inr (fun _ => by omega)
theorem smk_28s (h : S 26 r = -1 ∨ 0 < S 31 (S 26 r * 4 + gd (S 1 3) (S 1 4) r)) : smk S r 28 r = S 28 r ∨ ∃ b, smk S r 28 r = jor (S 28 r) b := by
  unfold smk
  by_cases e : S 26 r = -1
  · rw [if_pos e]
    unfold sms
    split
    · exact Or.inl rfl
    · rw [qud_nk (by decide), qud_nk (by decide), qud_nk (by decide)]; exact Or.inl rfl
  · have h2 := h.resolve_left e
    rw [if_neg e, if_neg (by omega)]
    unfold smc
    split
    · rw [qud_nk (by decide)]; exact Or.inl rfl
    · rw [qud_s]; exact Or.inr ⟨_, rfl⟩
theorem skm_mk (h9 : 0 < H 0 9) (r0 : 0 ≤ r) (r1 : r < 2 * (H 1 3 + H 1 4)) : skm H 26 r = -1 ∨ 0 < H 31 (skm H 26 r * 4 + gd (H 1 3) (H 1 4) r) := by
  have := itk_i (F := fun r S => smk S r) (P := fun x s => (∀ f : Nat, f ≠ 24 → f ≠ 26 → f ≠ 27 → f ≠ 28 → s f = H f) ∧ ∀ r, 0 ≤ r → r < x → s 26 r = -1 ∨ 0 < H 31 (s 26 r * 4 + gd (H 1 3) (H 1 4) r)) (S := H) ⟨fun _ _ _ _ _ => rfl, fun r a b => by omega⟩ (2 * (H 1 3 + H 1 4)).toNat (fun x s x0 x1 hs => by
    obtain ⟨hr, hc⟩ := hs
    refine ⟨fun f a b c d => by rw [smk_r a b c d]; exact hr f a b c d, fun r a b => ?_⟩
    by_cases q : r = x
    · rw [q]
      have := smk_26s (S := s) (r := x)
      rw [hr 0 (by decide) (by decide) (by decide) (by decide), hr 1 (by decide) (by decide) (by decide) (by decide), hr 31 (by decide) (by decide) (by decide) (by decide)] at this
      rcases this with z | z
      · exact Or.inl z
      · exact Or.inr (z h9)
    · rw [(smk_n q).1]
      exact hc r a (by omega))
  unfold skm
  rw [if_neg (by omega)]
  exact this.2 r r0 (by omega)
theorem skm_bar (h9 : 0 < H 0 9) (hm : ∀ r, 0 ≤ r → r < 2 * (H 1 3 + H 1 4) → H 26 r = -1 ∨ 0 < H 31 (H 26 r * 4 + gd (H 1 3) (H 1 4) r)) (r0 : 0 ≤ r) (r1 : r < 2 * (H 1 3 + H 1 4)) (v0 : 0 ≤ v) (v1 : v < 16) (hb : jand (jshr (H 28 r) v) 1 = 1) : jand (jshr (skm H 28 r) v) 1 = 1 := by
  have := itk_i (F := fun r S => smk S r) (P := fun x s => (∀ f : Nat, f ≠ 24 → f ≠ 26 → f ≠ 27 → f ≠ 28 → s f = H f) ∧ (∀ r, x ≤ r → s 26 r = H 26 r ∧ s 28 r = H 28 r) ∧ ∀ r, 0 ≤ r → r < x → jand (jshr (H 28 r) v) 1 = 1 → jand (jshr (s 28 r) v) 1 = 1) (S := H) ⟨fun _ _ _ _ _ => rfl, fun _ _ => ⟨rfl, rfl⟩, fun r a b => by omega⟩ (2 * (H 1 3 + H 1 4)).toNat (fun x s x0 x1 hs => by
    obtain ⟨hr, hn, hc⟩ := hs
    refine ⟨fun f a b c d => by rw [smk_r a b c d]; exact hr f a b c d, fun r a => ?_, fun r a b hz => ?_⟩
    · rw [(smk_n (show r ≠ x by omega)).1, (smk_n (show r ≠ x by omega)).2]
      exact hn r (by omega)
    · by_cases q : r = x
      · rw [q] at hz ⊢
        have hx := hn x (Int.le_refl _)
        have hh := hm x x0 (by omega)
        have := smk_28s (S := s) (r := x) (by
          rw [hr 1 (by decide) (by decide) (by decide) (by decide), hr 31 (by decide) (by decide) (by decide) (by decide), hx.1]
          exact hh)
        rw [hx.2] at this
        rcases this with z | ⟨y, z⟩
        · rw [z]; exact hz
        · rw [z]; exact jb_or v0 v1 hz
      · rw [(smk_n q).2]
        exact hc r a (by omega) hz)
  unfold skm
  rw [if_neg (by omega)]
  exact this.2.2 r r0 (by omega) hb
theorem xT_33 (n0 : 0 ≤ n) (n1 : n < 64) : xT T 33 n = 0 := if_pos ⟨rfl, n0, n1⟩
theorem rst_26 : rst T 26 = skm (skh (xT T)) 26 := by
  unfold rst skc
  rw [qud_row (by decide), skw_r (by decide)]
theorem rst_28 : rst T 28 = skm (skh (xT T)) 28 := by
  unfold rst skc
  rw [qud_row (by decide), skw_r (by decide)]
theorem hu_x (I : IV T) (v0 : 0 ≤ v) (v1 : v < T 1 3 * T 1 4) (d0 : 0 ≤ d) (d1 : d < 4) : 0 < skh (xT T) 31 (v * 4 + d) ↔ swi T v d = true := by
  have := skh_31 (X := xT T) I.xt.1.1 (fun i a b => (I.xt.2.2.2.1 i a b).1.1) (fun i a b => xT_33 a b) v0 (by rw [xT_1]; exact v1) d0 d1
  rw [QE.xt.xwi] at this
  exact this
theorem rs_mk (I : IV T) (IU : IV (rst T)) : MKs (rst T) := by
  have qe : QE T (rst T) := QE.rs
  have e1 : skh (xT T) 1 = T 1 := by rw [skh_r (by decide) (by decide), xT_1]
  have e0 : skh (xT T) 0 9 = T 0 9 := by rw [skh_r (by decide) (by decide), QE.xt.1.2 9 (by decide)]
  unfold MKs
  rw [qe.1.2 9 (by decide), qe.1.1]
  by_cases h9 : T 0 9 ≤ 0
  · exact Or.inl h9
  · refine Or.inr (fun r r0 r1 => ?_)
    have := skm_mk (H := skh (xT T)) (r := r) (by rw [e0]; omega) r0 (by rw [e1]; exact r1)
    rw [← rst_26, e1] at this
    have hR := IU.2.2.1 r r0 (by have := g16r I.1.1; omega)
    rw [qe.1.1] at hR
    rcases this with z | z
    · exact Or.inl z
    · by_cases q : rst T 26 r = -1
      · exact Or.inl q
      · have ho := ((hR.1 r1).2.resolve_left q).1
        have hd := gd_in (W := T 1 3) (H := T 1 4) (r := r)
        rw [qe.xwi]
        exact Or.inr ((hu_x I ho.1 ho.2 hd.1 hd.2).mp z)
theorem rs_bar (I : IV T) (M : MKs T) (v0 : 0 ≤ v) (v1 : v < T 1 3 * T 1 4) (d0 : 0 ≤ d) (d1 : d < 4) (h : sbr T v d = true) : sbr (rst T) v d = true := by
  have hN := gN I.1.1
  have qe : QE T (rst T) := QE.rs
  have hr := gr_in I.1.1 v0 v1 d0 d1
  have e1 : skh (xT T) 1 = T 1 := by rw [skh_r (by decide) (by decide), xT_1]
  have e0 : skh (xT T) 0 9 = T 0 9 := by rw [skh_r (by decide) (by decide), QE.xt.1.2 9 (by decide)]
  have ex : ∀ f : Nat, f = 26 ∨ f = 28 → skh (xT T) f = T f := fun f hf => by
    unfold xT
    rw [skh_r (by omega) (by omega), sfg_r (by omega), qud_row (by omega)]
  unfold sbr at h ⊢
  rw [decide_eq_true_eq] at h ⊢
  rw [qe.1.1, rst_28]
  by_cases h9 : T 0 9 ≤ 0
  · have : skm (skh (xT T)) = skh (xT T) := by
      unfold skm
      rw [if_pos (by rw [e0]; exact h9)]
    rw [this, ex 28 (Or.inr rfl)]
    exact h
  · refine skm_bar (H := skh (xT T)) (by rw [e0]; omega) (fun r r0 r1 => ?_) hr.1 (by rw [e1]; exact hr.2) v0 (by omega) (by rw [ex 28 (Or.inr rfl)]; exact h)
    rw [e1] at r1 ⊢
    rw [ex 26 (Or.inl rfl)]
    have hR := I.2.2.1 r r0 (by have := g16r I.1.1; omega)
    rcases M with z | z
    · omega
    · rcases z r r0 r1 with y | y
      · exact Or.inl y
      · by_cases q : T 26 r = -1
        · exact Or.inl q
        · have ho := ((hR.1 r1).2.resolve_left q).1
          have hd := gd_in (W := T 1 3) (H := T 1 4) (r := r)
          exact Or.inr ((hu_x I ho.1 ho.2 hd.1 hd.2).mpr y)
theorem rs_pt (I : IV T) : PTs (rst T) := by
  intro p p0 p1
  rw [QE.rs.2 5 (by decide)] at p1
  have h := (I.2.1.1 p p0 p1).2.2.2.2.2.2
  have e10 : rst T 0 10 = T 0 10 + 1 := by
    unfold rst skc xT
    rw [qud_s, skw_r (by decide), skm_r (by decide) (by decide) (by decide) (by decide), skh_r (by decide) (by decide), sfg_r (by decide), qud_nk (by decide)]
  rw [QE.rs.2 17 (by decide), e10]
  omega
/-! once nothing has gone in two ticks, nothing goes -/
def JI2 (S U : qMem) : Prop := QE S U ∧ (∀ v d, 0 ≤ v → v < S 1 3 * S 1 4 → 0 ≤ d → d < 4 → sbr S v d = true → sbr U v d = true) ∧ MKs U
theorem on_idl (I : IV S) (IU : IV U) (P : PTs S) (h1 : nS (xT S)) (h2 : nG (xT S)) (J : JI2 S U) : idl U ∧ stk U = rst U := by
  obtain ⟨qe, hb, -⟩ := J
  have q1 : QE (xT S) (xT U) := (QE.xt.sy.tr qe).tr QE.xt
  refine idl_i IU.1.1 (fun v k a b c e => ?_) (fun v d a b c e => ?_)
  · rw [xT_1, qe.1.1] at b
    rw [q1.xin]
    exact h1 v k a (by rw [xT_1]; exact b) c e
  · rw [xT_1, qe.1.1] at b
    have hs := h2 v d a (by rw [xT_1]; exact b) c e
    unfold sch at hs ⊢
    refine schL_i 9 (-1) (-1) 0 (fun j j0 j1 => ?_)
    rcases schL_n 9 (-1) 0 (Int.le_refl _) hs rfl j j0 j1 with z | z | z
    · exact Or.inl (by rw [q1.f1]; exact z)
    · by_cases q : sfst (xT S) (v * 9 + j) = -1
      · exact Or.inl (by rw [q1.f1]; exact q)
      · exfalso
        have hN := gN I.1.1
        rw [QE.xt.f1] at z q
        have hp := sfst_in I.w.2.2.2 (show 0 ≤ v * 9 + j by omega) (by omega) q
        have := P _ hp.1 hp.2.1
        rw [QE.xt.2 17 (by decide)] at z
        have e10 : xT S 0 10 = S 0 10 := by
          unfold xT
          rw [sfg_r (by decide), qud_nk (by decide)]
        omega
    · refine Or.inr (Or.inr ?_)
      have hbx : ∀ T : qMem, sbr (xT T) v d = sbr T v d := fun T => by
        unfold sbr
        rw [xT_1]
        unfold xT
        rw [sfg_r (by decide), qud_nk (by decide)]
      unfold scg at z ⊢
      rw [q1.xad, q1.xel, q1.xcn, hbx]
      rw [hbx] at z
      have hm := hb v d a b c e
      revert z hm
      cases sad (xT S) v j d <;> cases sel (xT S) v j d <;> cases scn (xT S) v j d <;> cases sbr S v d <;> cases sbr U v d <;> simp
theorem on_st (I : IV S) (IU : IV U) (IV' : IV (stk U)) (P : PTs S) (h1 : nS (xT S)) (h2 : nG (xT S)) (J : JI2 S U) : JI2 S (stk U) := by
  obtain ⟨h3, h4⟩ := on_idl I IU P h1 h2 J
  rw [h4] at IV' ⊢
  obtain ⟨qe, hb, hm⟩ := J
  refine ⟨qe.tr QE.rs, fun v d a b c e z => ?_, rs_mk IU IV'⟩
  exact rs_bar IU hm a (by rw [qe.1.1]; exact b) c e (hb v d a b c e z)
/-- two idle ticks -/
theorem on_2 (I : IV T) (Q : XQ T) (h : idl T) (I1 : IV (stk T)) (Q1 : XQ (stk T)) (h1 : idl (stk T)) (I2 : IV (stk (stk T))) : (PTs (stk T) ∧ nS (xT (stk T)) ∧ nG (xT (stk T))) ∧ JI2 (stk T) (stk (stk T)) := by
  obtain ⟨-, e⟩ := idl_n I Q h
  obtain ⟨⟨a1, a2⟩, e2⟩ := idl_n I1 Q1 h1
  have hm : MKs (stk T) := by
    rw [e] at I1 ⊢
    exact rs_mk I I1
  have hp : PTs (stk T) := by rw [e]; exact rs_pt I
  refine ⟨⟨hp, a1, a2⟩, ?_⟩
  rw [e2] at I2 ⊢
  exact ⟨QE.rs, fun v d a b c f z => rs_bar I1 hm a b c f z, rs_mk I1 I2⟩
end ID
