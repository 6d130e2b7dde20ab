/-! one ring alone (the reference): the longest wait -/
def FAw (w w' : qMem) : Prop := (∀ k : Nat, k ≠ 88 → (k < 95 ∨ 101 < k) → w' k = w k) ∧ ∀ j, j ≠ 10 → j ≠ 11 → j ≠ 12 → j ≠ 13 → j ≠ 14 → j ≠ 16 → j ≠ 19 → j ≠ 24 → j ≠ 25 → w' 88 j = w 88 j
/-- no wait is longer -/
def mWb (B : Int) (w : qMem) : Prop := ∀ s, 0 ≤ s → s < 10240 → 0 ≤ w 99 s ∧ w 99 s ≤ B
def mWp (n g K N B : Int) (w : qMem) : Prop := ∀ s, 0 ≤ s → s < 10240 → (0 ≤ w 99 s ∧ w 99 s ≤ B + 24) ∧ (s < N → w 99 s ≤ B + pot g K n s)
def mV (n e g K N B : Int) (w0 w : qMem) : Prop := (LM n e g K w ∧ mF N w ∧ FAw w0 w) ∧ mWp n g K N B w
def waS (w : qMem) : Int := smN (w 99) 10240
section MD
variable {w w' w0 w2 : qMem} {n e g K N k x y l s v b p c B a : Int} {i j : Nat} {h : Int → Int}
theorem FAw.al (hf : FAl w w') : FAw w w' := ⟨fun k a b => hf.1 k a (by omega), hf.2⟩
theorem FAw.rfl' : FAw w w := FAw.al FAl.rfl'
theorem FAw.tr (h : FAw w w') (h2 : FAw w' w2) : FAw w w2 := ⟨fun k a b => (h2.1 k a b).trans (h.1 k a b), fun j a b c d e f g h' i => (h2.2 j a b c d e f g h' i).trans (h.2 j a b c d e f g h' i)⟩
theorem FAw.wr : FAw w (qud w 99 x v) := ⟨fun k a b => qud_row (by omega), fun j _ _ _ _ _ _ _ _ _ => qud_nk (by omega)⟩
theorem pot_in (hk : nek n e g K N) (s0 : 0 ≤ s) : 0 ≤ pot g K n s ∧ pot g K n s ≤ 24 := by
  have hb := hk.b
  have key : ∀ j : Nat, 0 ≤ poS g (fun i => dwk K i.toNat s % K) j ∧ poS g (fun i => dwk K i.toNat s % K) j ≤ 6 * (j : Int) := by
    intro j
    induction j with
    | zero => exact ⟨Int.le_refl _, Int.le_refl _⟩
    | succ j ih =>
      have hm : 0 ≤ dwk K (j : Int).toNat s % K ∧ dwk K (j : Int).toNat s % K < K := ⟨Int.emod_nonneg _ (by omega), Int.emod_lt_of_pos _ (by omega)⟩
      have t : 0 ≤ pt g (dwk K (j : Int).toNat s % K) ∧ pt g (dwk K (j : Int).toNat s % K) ≤ 6 := (qtb_of hk hm.1 hm.2).1.2
      show 0 ≤ poS g (fun i => dwk K i.toNat s % K) j + pt g (dwk K (j : Int).toNat s % K) ∧ poS g (fun i => dwk K i.toNat s % K) j + pt g (dwk K (j : Int).toNat s % K) ≤ 6 * ((j + 1 : Nat) : Int)
      omega
  have := key n.toNat
  unfold pot
  omega
theorem mV.af (h : mV n e g K N B w0 w) (hf : FAf w w') : mV n e g K N B w0 w' := by
  refine ⟨⟨h.1.1.af hf, h.1.2.1.af hf, h.1.2.2.tr (FAw.al (FAl.sr (FSr.af hf)))⟩, ?_⟩
  unfold mWp
  rw [hf.1 99 (by decide) (by decide) (by decide)]
  exact h.2
theorem mV.wr (h : mV n e g K N B w0 w) (hv : 0 ≤ v ∧ v ≤ B + 24) (hp : x < N → v ≤ B + pot g K n x) : mV n e g K N B w0 (qud w 99 x v) := by
  have e : ∀ k : Nat, k ≠ 99 → qud w 99 x v k = w k := fun k hk => qud_row hk
  refine ⟨⟨h.1.1.co (fun j _ _ _ _ => by rw [e 88 (by decide)]), h.1.2.1.co (by rw [e 88 (by decide)]) (e 96 (by decide)) (e 97 (by decide)), h.1.2.2.tr FAw.wr⟩, fun s s0 s1 => ?_⟩
  rw [qud_if]
  split
  · rename_i z
    rw [z]
    exact ⟨hv, hp⟩
  · exact h.2 s s0 s1
theorem mV.wb (h : mV n e g K N B w0 w) : mWb (B + 24) w := fun s s0 s1 => (h.2 s s0 s1).1
theorem waS_set (s0 : 0 ≤ s) (s1 : s < 10240) : waS (qud w 99 s v) = waS w - w 99 s + v := by
  have hs : ((s.toNat : Nat) : Int) = s := by omega
  have u := smN_u (f := w 99) (f' := qud w 99 s v 99) (i := s.toNat) (v := v) 10240 (by omega) (fun k => by rw [hs]; exact qud_if)
  rw [hs] at u
  exact u
theorem waS_co (h : w' 99 = w 99) : waS w' = waS w := by
  unfold waS
  rw [h]
theorem waS_in (h : mWb B w) (hB : B ≤ 20000) : 0 ≤ waS w ∧ waS w ≤ 204800000 := by
  have := smN_in (f := w 99) (a := 0) (b := 20000) 10240 (fun i hi => by
    have := h i (by omega) (by omega)
    omega)
  unfold waS
  omega
theorem i_wa1 {a b c d y v : Int} (h1 : a = b - y + v) (h2 : b = c) (h3 : y ≤ v) (h4 : d ≤ c) : d ≤ a := by omega
theorem i_wa2 {a b c d y v : Int} (h1 : a = b - y + v) (h2 : b = c) (h3 : y ≤ v) (h4 : d ≤ c) (h5 : v ≠ y ∨ d < c) : d < a := by omega
theorem me_wait40 {r32 : Int → Int → qMem → Option (Int × qMem)} {P : Int × qMem → Prop} (hk : nek n e g K N) (hB : 0 ≤ B ∧ B ≤ 19000) (h : mV n e g K N B w0 w) (K2 : ∀ a b w', mV n e g K N B w0 w' → (b = 0 ∨ waS w < waS w') → kT (r32 a b w') P) : kT (f_M_longestWait_40 r32 qFU x 0 0 w) P := by
  have hb := hk.b
  have main : ∀ (m : Nat) (a b y : Int) (u : qMem), 0 ≤ y → y ≤ 10240 → 10240 - y < m → mV n e g K N B w0 u → waS w ≤ waS u → (b = 0 ∨ waS w < waS u) → kT (f_M_longestWait_40 r32 m a b y u) P := by
    intro m
    induction m with
    | zero => intro a b y u _ _ _ _ _ _; omega
    | succ m ih =>
      intro a b y u y0 y1 hm hu hg hbz
      have hle := hu.1.2.1.le
      rw [f_M_longestWait_40]
      refine kT_if (fun cy => ?_) (fun _ => K2 a b u hu hbz)
      have ho := (hu.1.2.1.2.1 y y0 cy).1
      rw [qld_ok y0 (by omega), qld_ok ho.1 (by omega), w32_ok (z := y + 1) (by omega) (by omega)]
      generalize hse : u 97 y = s at ho
      refine kT_if (fun _ => ih _ _ (y + 1) u (by omega) (by omega) (by omega) hu hg hbz) (fun _ => ?_)
      refine kT_bind (me_after hk hu.1.1 ho.1 ho.2) (fun w1 h1 => ?_)
      have hA24 : (0 ≤ w1 88 25 ∧ w1 88 25 ≤ w1 88 24) ∧ w1 88 24 ≤ 24 := h1.2.1
      have h2 := hu.af h1.1.2.2
      have e99 : w1 99 = u 99 := h1.1.2.2.1 99 (by decide) (by decide) (by decide)
      have eg := waS_co e99
      rw [qld_ok ho.1 (by omega)]
      have hws := h2.2 s ho.1 (by omega)
      have hps := pot_in (s := s) hk ho.1
      refine kC_loop (σ := Int) (N := w1 88 25) (L := fun m' z x5 u => f_M_longestWait_87 r32 (f_M_longestWait_40 r32 m) m' a b y s x5 z u) (J := fun x5 u => u = w1 ∧ w1 99 s ≤ x5 ∧ x5 ≤ B + pot g K n s) (fun m' z x5 u' z0 z1 hJ ih' => ?_) (fun m' x5 u' hJ => ?_) (by omega) (by omega) (w1 99 s) ⟨rfl, Int.le_refl _, hws.2 ho.2⟩
      · obtain ⟨rfl, hx0, hx1⟩ := hJ
        have hi := h1.2.2 z z0 (by omega)
        have hlt := hi.2 z1
        have hwi := h2.2 _ hi.1.1 (by omega)
        have hwp := hwi.2 hi.1.2
        rw [f_M_longestWait_87, if_pos z1, qld_ok z0 (by omega), qld_ok hi.1.1 (by omega), w32_ok (z := z + 1) (by omega) (by omega), w32_ok (z := 1 + u' 99 (u' 101 z)) (by omega) (by omega)]
        refine ih' _ _ ⟨rfl, ?_, ?_⟩
        · split <;> omega
        · split <;> omega
      · obtain ⟨rfl, hx0, hx1⟩ := hJ
        rw [f_M_longestWait_87, if_neg (by omega)]
        have es := waS_set (w := u') (v := x5) ho.1 (show s < 10240 by omega)
        have h144 : ∀ z, (z = 0 ∨ x5 ≠ u' 99 s ∨ waS w < waS u) → kT (f_M_longestWait_144 r32 (f_M_longestWait_40 r32 m) z a y s x5 u') P := by
          intro z hz
          unfold f_M_longestWait_144
          rw [qst_ok ho.1 (by omega), w32_ok (z := y + 1) (by omega) (by omega)]
          refine ih _ _ (y + 1) _ (by omega) (by omega) (by omega) (h2.wr (by omega) (fun _ => hx1)) (i_wa1 es eg hx0 hg) ?_
          rcases hz with z | z
          · exact Or.inl z
          · exact Or.inr (i_wa2 es eg hx0 hg z)
        unfold f_M_longestWait_123
        refine kT_if (fun _ => ?_) (fun cb => h144 1 (Or.inr (Or.inr (hbz.resolve_left cb))))
        rw [qld_ok ho.1 (by omega)]
        exact kT_if (fun _ => h144 0 (Or.inl rfl)) (fun cx => h144 1 (Or.inr (Or.inl cx)))
  exact main qFU x 0 0 w (by decide) (by decide) (qFU_gt (by decide)) h (Int.le_refl _) (Or.inl rfl)
theorem me_wait (hk : nek n e g K N) (hB : 0 ≤ B ∧ B ≤ 19000) (h : mG n e g K N w0 w) (hw : mWb B w) : kT (f_M_longestWait w) (fun r => FAw w0 r.2 ∧ mWb (B + 24) r.2) := by
  have hb := hk.b
  have h32 : ∀ (m : Nat) (a b : Int) (u : qMem), 204800000 - waS u + 2 ≤ m → mV n e g K N B w0 u → kT (f_M_longestWait_32 m a b u) (fun r => FAw w0 r.2 ∧ mWb (B + 24) r.2) := by
    intro m
    induction m with
    | zero =>
      intro a b u hm hu
      have := waS_in hu.wb (by omega)
      omega
    | succ m ih =>
      intro a b u hm hu
      have hgi := waS_in hu.wb (by omega)
      rw [f_M_longestWait_32]
      refine kT_if (fun _ => kT_some ⟨hu.1.2.2, hu.wb⟩) (fun _ => ?_)
      refine me_wait40 hk hB hu (fun a' b' w' h' hbz => ?_)
      rcases hbz with z | z
      · cases m with
        | zero => omega
        | succ m =>
          rw [f_M_longestWait_32, if_pos z]
          exact kT_some ⟨h'.1.2.2, h'.wb⟩
      · exact ih a' b' w' (by omega) h'
  have main : ∀ (m : Nat) (y : Int) (u : qMem), 0 ≤ y → y ≤ 10240 → 10240 - y < m → mV n e g K N B w0 u → kT (f_M_longestWait_2 m y u) (fun r => FAw w0 r.2 ∧ mWb (B + 24) r.2) := by
    intro m
    induction m with
    | zero => intro y u _ _ _ _; omega
    | succ m ih =>
      intro y u y0 y1 hm hu
      have hle := hu.1.2.1.le
      rw [f_M_longestWait_2]
      refine kT_if (fun cy => ?_) (fun _ => ?_)
      · have ho := (hu.1.2.1.2.1 y y0 cy).1
        have hp := pot_in (s := u 97 y) hk ho.1
        rw [qld_ok y0 (by omega), qst_ok ho.1 (by omega), w32_ok (z := y + 1) (by omega) (by omega)]
        exact ih (y + 1) _ (by omega) (by omega) (by omega) (hu.wr (by omega) (fun _ => by omega))
      · unfold f_M_longestWait_28
        have hgi := waS_in hu.wb (by omega)
        exact h32 qFU 0 1 u (by have : 204800000 - waS u + 1 < qFU := qFU_gt (by omega); omega) hu
  unfold f_M_longestWait
  refine main qFU 0 w (by decide) (by decide) (qFU_gt (by decide)) ⟨⟨h.1, h.2.1, FAw.al h.2.2⟩, fun s s0 s1 => ?_⟩
  have a := hw s s0 s1
  refine ⟨by omega, fun _ => ?_⟩
  have := pot_in (s := s) hk s0
  omega
end MD
