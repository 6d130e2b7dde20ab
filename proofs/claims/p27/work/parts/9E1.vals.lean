/-! what is counted: the same number on both sides -/
def cV (f : Int → Int) (x : Int) : Int := smN f x.toNat
def foN1 (F : Int → Int → Int) (s0 : Int) : Nat → Int
  | 0 => s0
  | n + 1 => F n (foN1 F s0 n)
def fV (F : Int → Int → Int) (s0 x : Int) : Int := foN1 F s0 x.toNat
/-- of a packet: how late it came -/
def dlt (S : qMem) (p : Int) : Int := w32 (S 13 p - S 8 p)
def aLate (S : qMem) (a b : Int) : Int := cV (fun p => if S 9 p = 3 ∧ a ≤ dlt S p ∧ dlt S p ≤ b then 1 else 0) (S 5 13)
def aDoor (S : qMem) (v : Int) : Int := fV (fun p s => if S 6 p = v ∧ S 16 p ≠ -1 then (if s < w32 (S 16 p - S 8 p) then w32 (S 16 p - S 8 p) else s) else s) 0 (S 5 13)
def aNod (S : qMem) (v x : Int) : Int := if 0 ≤ v ∧ v < S 1 3 * S 1 4 then (if x = 0 then S 20 (v * 9) else if x = 1 then cV (fun k => S 20 (v * 9 + k)) 9 else if x = 2 then cV (fun p => if S 6 p = v then 1 else 0) (S 5 13) else if x = 3 then cV (fun p => if S 7 p = v ∧ S 9 p = 3 then 1 else 0) (S 5 13) else if x = 4 then S 32 v else if x = 5 then aDoor S v else -1) else -1
section VL
variable {w w' S T : qMem} {v t n x p a b l N y : Int} {f : Int → Int} {F : Int → Int → Int}
theorem cV_0 : cV f 0 = 0 := rfl
theorem cV_s (x0 : 0 ≤ x) : cV f (x + 1) = cV f x + f x := by
  unfold cV
  rw [show (x + 1).toNat = x.toNat + 1 by omega]
  show smN f x.toNat + f (x.toNat : Int) = _
  rw [show ((x.toNat : Nat) : Int) = x by omega]
theorem cV_in (x0 : 0 ≤ x) (h : ∀ k, 0 ≤ f k ∧ f k ≤ 1) : 0 ≤ cV f x ∧ cV f x ≤ x := by
  have := smN_in (f := f) (a := 0) (b := 1) x.toNat (fun i _ => h i)
  unfold cV
  omega
theorem fV_0 : fV F l 0 = l := rfl
theorem fV_s (x0 : 0 ≤ x) : fV F l (x + 1) = F x (fV F l x) := by
  unfold fV
  rw [show (x + 1).toNat = x.toNat + 1 by omega]
  show F (x.toNat : Int) _ = _
  rw [show ((x.toNat : Nat) : Int) = x by omega]
/-- a loop that reads, its state known at each number -/
theorem vL {σ : Type} {V : Int → σ} {L : Nat → Int → σ → Option (Int × qMem)} {R : Option (Int × qMem)} (hs : ∀ m x, 0 ≤ x → x < N → L (m + 1) x (V x) = L m (x + 1) (V (x + 1))) (he : ∀ m, L (m + 1) N (V N) = R) (n0 : 0 ≤ N) (n1 : N < 1000000000) {s : σ} (h0 : s = V 0) : L qFU 0 s = R := by
  have key : ∀ (m : Nat) (x : Int), 0 ≤ x → x ≤ N → N - x < m → L m x (V x) = R := by
    intro m
    induction m with
    | zero => intro x _ _ _; omega
    | succ m ih =>
      intro x x0 x1 hm
      by_cases e : x < N
      · rw [hs m x x0 e]
        exact ih (x + 1) (by omega) (by omega) (by omega)
      · have : x = N := by omega
        subst this
        exact he m
  rw [h0]
  exact key qFU 0 (by omega) n0 (qFU_gt (by omega))
theorem if_01 {c : Prop} [Decidable c] : 0 ≤ (if c then (1 : Int) else 0) ∧ (if c then (1 : Int) else 0) ≤ 1 := by
  split <;> omega
theorem x_lateV (hx : NX 2 w S) (I : IV S) : f_P_lateWithin 7 a b w = some (aLate S a b, w) := by
  have hc := I.1.2.2.2.2.2.2.1
  unfold f_P_lateWithin aLate
  refine vL (V := fun x => cV (fun p => if S 9 p = 3 ∧ a ≤ dlt S p ∧ dlt S p ≤ b then 1 else 0) x) (N := S 5 13) (L := fun m x s => f_P_lateWithin_5 7 m a b s x w) (fun m x x0 x1 => ?_) (fun m => ?_) hc.1 (by omega) rfl
  · have hin := cV_in (f := fun p => if S 9 p = 3 ∧ a ≤ dlt S p ∧ dlt S p ≤ b then 1 else 0) x0 (fun _ => if_01)
    rw [cV_s x0]
    rw [f_P_lateWithin_5, xp_c hx, if_pos x1, qbd (xp_del hx I x0 x1)]
    dsimp only
    rw [bi_if, w32_ok (z := x + 1) (by omega) (by omega)]
    by_cases e : S 9 x = 3
    · rw [if_pos e, qbd (xp_late hx I x0 x1)]
      dsimp only
      by_cases e2 : w32 (S 13 x - S 8 x) < a
      · rw [if_pos e2, if_neg (fun z => by have := z.2.1; unfold dlt at this; omega), Int.add_zero]
      · rw [if_neg e2, qbd (xp_late hx I x0 x1)]
        dsimp only
        by_cases e3 : w32 (S 13 x - S 8 x) ≤ b
        · rw [if_pos e3, if_pos (show S 9 x = 3 ∧ a ≤ dlt S x ∧ dlt S x ≤ b from ⟨e, by unfold dlt; omega, e3⟩), w32_ok (by omega) (by omega)]
        · rw [if_neg e3, if_neg (fun z => e3 z.2.2), Int.add_zero]
    · rw [if_neg e, if_neg (fun z => e z.1), Int.add_zero]
  · rw [f_P_lateWithin_5, xp_c hx, if_neg (by omega)]
theorem pk_d (I : IV S) (p0 : 0 ≤ p) (p1 : p < S 5 13) : S 9 p = 3 ↔ S 13 p ≠ -1 := (I.2.1.1 p p0 p1).2.2.2.1
theorem m_lateV (hR : RM w S) (I : IV S) : f_M_late a b w = some (aLate S a b, w) := by
  have hc := I.1.2.2.2.2.2.2.1
  unfold f_M_late aLate
  refine vL (V := fun x => cV (fun p => if S 9 p = 3 ∧ a ≤ dlt S p ∧ dlt S p ≤ b then 1 else 0) x) (N := S 5 13) (L := fun m x s => f_M_late_5 m a b s x w) (fun m x x0 x1 => ?_) (fun m => ?_) hc.1 (by omega) rfl
  · have hin := cV_in (f := fun p => if S 9 p = 3 ∧ a ≤ dlt S p ∧ dlt S p ≤ b then 1 else 0) x0 (fun _ => if_01)
    have hd := pk_d I x0 x1
    have h49 : ∀ y, y = 0 ∨ y = 1 → f_M_late_49 (f_M_late_5 m) (cV (fun p => if S 9 p = 3 ∧ a ≤ dlt S p ∧ dlt S p ≤ b then 1 else 0) x) y a b x w = f_M_late_5 m a b (cV (fun p => if S 9 p = 3 ∧ a ≤ dlt S p ∧ dlt S p ≤ b then 1 else 0) x + y) (x + 1) w := by
      intro y hy
      unfold f_M_late_49
      rw [w32_ok (z := x + 1) (by omega) (by omega), w32_ok (by omega) (by omega)]
    rw [cV_s x0]
    rw [f_M_late_5, qld_ok (by decide) (by decide), rm_5_13 hR, if_pos x1, qbd (mp_of hR I x0 x1 (f := 13) (by decide) (by decide) (by decide))]
    dsimp only
    by_cases e : S 13 x = -1
    · rw [if_pos e, h49 0 (Or.inl rfl), if_neg (fun z => hd.mp z.1 e)]
    · have e9 := hd.mpr e
      rw [if_neg e, qbd (ms_lateOf hR I x0 x1)]
      dsimp only
      rw [if_neg e, qbd m_isIn]
      dsimp only
      rw [bi_if]
      by_cases e2 : a ≤ w32 (S 13 x - S 8 x) ∧ w32 (S 13 x - S 8 x) ≤ b
      · rw [if_pos e2, h49 1 (Or.inr rfl), if_pos (show S 9 x = 3 ∧ a ≤ dlt S x ∧ dlt S x ≤ b from ⟨e9, e2⟩)]
      · rw [if_neg e2, h49 0 (Or.inl rfl), if_neg (fun z => e2 z.2)]
  · rw [f_M_late_5, qld_ok (by decide) (by decide), rm_5_13 hR, if_neg (by omega)]
theorem x_late (hx : NX 2 w S) (I : IV S) : f_X_late a b w = some (aLate S a b, w) := by
  unfold f_X_late
  rw [qbd (x_lateV hx I)]
/-- of a node -/
theorem x_sentV (hx : NX 2 w S) (I : IV S) : f_P_sentFrom 7 v w = some (cV (fun p => if S 6 p = v then 1 else 0) (S 5 13), w) := by
  have hc := I.1.2.2.2.2.2.2.1
  unfold f_P_sentFrom
  refine vL (V := fun x => cV (fun p => if S 6 p = v then 1 else 0) x) (N := S 5 13) (L := fun m x s => f_P_sentFrom_4 7 m v s x w) (fun m x x0 x1 => ?_) (fun m => ?_) hc.1 (by omega) rfl
  · have hin := cV_in (f := fun p => if S 6 p = v then 1 else 0) x0 (fun _ => if_01)
    rw [cV_s x0]
    rw [f_P_sentFrom_4, xp_c hx, if_pos x1, qld_ok x0 (by omega), show w (7 + 1) x = S 6 x from rx_6 hx.1 x0 x1 hc.2, w32_ok (z := x + 1) (by omega) (by omega)]
    by_cases e : S 6 x = v
    · rw [if_pos e, if_pos e, w32_ok (by omega) (by omega)]
    · rw [if_neg e, if_neg e, Int.add_zero]
  · rw [f_P_sentFrom_4, xp_c hx, if_neg (by omega)]
theorem x_delV (hx : NX 2 w S) (I : IV S) : f_P_deliveredTo 7 v w = some (cV (fun p => if S 7 p = v ∧ S 9 p = 3 then 1 else 0) (S 5 13), w) := by
  have hc := I.1.2.2.2.2.2.2.1
  unfold f_P_deliveredTo
  refine vL (V := fun x => cV (fun p => if S 7 p = v ∧ S 9 p = 3 then 1 else 0) x) (N := S 5 13) (L := fun m x s => f_P_deliveredTo_4 7 m v s x w) (fun m x x0 x1 => ?_) (fun m => ?_) hc.1 (by omega) rfl
  · have hin := cV_in (f := fun p => if S 7 p = v ∧ S 9 p = 3 then 1 else 0) x0 (fun _ => if_01)
    rw [cV_s x0]
    rw [f_P_deliveredTo_4, xp_c hx, if_pos x1, qld_ok x0 (by omega), show w (7 + 2) x = S 7 x from rx_7 hx.1 x0 x1 hc.2, w32_ok (z := x + 1) (by omega) (by omega)]
    by_cases e : S 7 x = v
    · rw [if_pos e, qbd (xp_del hx I x0 x1)]
      dsimp only
      rw [bi_if]
      by_cases e2 : S 9 x = 3
      · rw [if_pos e2, if_pos ⟨e, e2⟩, w32_ok (by omega) (by omega)]
      · rw [if_neg e2, if_neg (fun z => e2 z.2), Int.add_zero]
    · rw [if_neg e, if_neg (fun z => e z.1), Int.add_zero]
  · rw [f_P_deliveredTo_4, xp_c hx, if_neg (by omega)]
theorem x_doorV (hx : NX 2 w S) (I : IV S) : f_P_longestAtDoor 7 v w = some (aDoor S v, w) := by
  have hc := I.1.2.2.2.2.2.2.1
  unfold f_P_longestAtDoor aDoor
  refine vL (V := fun x => fV (fun p s => if S 6 p = v ∧ S 16 p ≠ -1 then (if s < w32 (S 16 p - S 8 p) then w32 (S 16 p - S 8 p) else s) else s) 0 x) (N := S 5 13) (L := fun m x s => f_P_longestAtDoor_4 7 m v s x w) (fun m x x0 x1 => ?_) (fun m => ?_) hc.1 (by omega) rfl
  · rw [fV_s x0]
    rw [f_P_longestAtDoor_4, xp_c hx, if_pos x1, qld_ok x0 (by omega), qld_ok x0 (by omega), qld_ok x0 (by omega), qld_ok x0 (by omega), show w (7 + 1) x = S 6 x from rx_6 hx.1 x0 x1 hc.2, show w (7 + 11) x = S 16 x from rx_16 hx.1 x0 x1 hc.2, show w (7 + 3) x = S 8 x from rx_8 hx.1 x0 x1 hc.2, w32_ok (z := x + 1) (by omega) (by omega)]
    by_cases e : S 6 x = v
    · rw [if_pos e]
      by_cases e2 : S 16 x = -1
      · rw [if_pos e2, if_neg (fun z => z.2 e2)]
      · rw [if_neg e2, if_pos (show S 6 x = v ∧ S 16 x ≠ -1 from ⟨e, e2⟩)]
    · rw [if_neg e, if_neg (fun z => e z.1)]
  · rw [f_P_longestAtDoor_4, xp_c hx, if_neg (by omega)]
theorem x_heldV (hx : NX 2 w S) (I : IV S) (q0 : 0 ≤ a) (q1 : a + b ≤ 144) (b0 : 0 ≤ b) (b9 : b ≤ 9) : f_Q_heldFrom 21 a b w = some (cV (fun k => S 20 (a + k)) b, w) := by
  have hq : ∀ k, 0 ≤ k → k < b → 0 ≤ S 20 (a + k) ∧ S 20 (a + k) ≤ 6 := fun k k0 k1 => (I.w.2.2.2 (a + k) (by omega) (by omega)).1
  have hin : ∀ x, 0 ≤ x → x ≤ b → 0 ≤ cV (fun k => S 20 (a + k)) x ∧ cV (fun k => S 20 (a + k)) x ≤ 6 * x := fun x x0 x1 => by
    have := smN_in (f := fun k => S 20 (a + k)) (a := 0) (b := 6) x.toNat (fun i hi => hq i (by omega) (by omega))
    unfold cV
    omega
  unfold f_Q_heldFrom
  refine vL (V := fun x => cV (fun k => S 20 (a + k)) x) (N := b) (L := fun m x s => f_Q_heldFrom_5 21 m a b s x w) (fun m x x0 x1 => ?_) (fun m => ?_) b0 (by omega) rfl
  · have h1 := hin x x0 (by omega)
    have h2 := hq x x0 x1
    rw [cV_s x0]
    rw [f_Q_heldFrom_5, if_pos x1, w32_ok (z := a + x) (by omega) (by omega), qld_ok (by omega) (by omega), w32_ok (z := x + 1) (by omega) (by omega), show w (21 + 1) (a + x) = S 20 (a + x) from rx_20 (o := 2) hx.1 (by omega) (by omega), w32_ok (by omega) (by omega)]
  · rw [f_Q_heldFrom_5, if_neg (by omega)]
theorem x_node (hx : NX 2 w S) (I : IV S) : f_X_node v x w = some (aNod S v x, w) := by
  have hN := gN I.1.1
  unfold f_X_node aNod
  rw [qbd (g_hasNode (o := 3) hx.2)]
  dsimp only
  rw [bi_if]
  by_cases c : 0 ≤ v ∧ v < S 1 3 * S 1 4
  · rw [if_pos c, if_pos c, w32_ok (z := v * 9) (by omega) (by omega)]
    by_cases c0 : x = 0
    · rw [if_pos c0, if_pos c0, qld_ok (by omega) (by omega), show w 22 (v * 9) = S 20 (v * 9) from rx_20 (o := 2) hx.1 (by omega) (by omega)]
    · rw [if_neg c0, if_neg c0]
      by_cases c1 : x = 1
      · rw [if_pos c1, if_pos c1, qbd (x_heldV hx I (by omega) (by omega) (by decide) (by decide))]
      · rw [if_neg c1, if_neg c1]
        by_cases c2 : x = 2
        · rw [if_pos c2, if_pos c2, qbd (x_sentV hx I)]
        · rw [if_neg c2, if_neg c2]
          by_cases c3 : x = 3
          · rw [if_pos c3, if_pos c3, qbd (x_delV hx I)]
          · rw [if_neg c3, if_neg c3]
            by_cases c4 : x = 4
            · rw [if_pos c4, if_pos c4, qld_ok c.1 (by omega), show w 34 v = S 32 v from rx_32 (o := 2) hx.1 c.1 (by omega)]
            · rw [if_neg c4, if_neg c4]
              by_cases c5 : x = 5
              · rw [if_pos c5, if_pos c5, qbd (x_doorV hx I)]
              · rw [if_neg c5, if_neg c5]
  · rw [if_neg c, if_neg c]
theorem m_inQV (hR : RM w S) (I : IV S) (v0 : 0 ≤ v) (v1 : v < 16) : f_M_inQueues v w = some (cV (fun k => S 20 (v * 9 + k)) 9, w) := by
  have hq : ∀ k, 0 ≤ k → k < 9 → 0 ≤ S 20 (v * 9 + k) ∧ S 20 (v * 9 + k) ≤ 6 := fun k k0 k1 => (I.w.2.2.2 (v * 9 + k) (by omega) (by omega)).1
  have hin : ∀ x, 0 ≤ x → x ≤ 9 → 0 ≤ cV (fun k => S 20 (v * 9 + k)) x ∧ cV (fun k => S 20 (v * 9 + k)) x ≤ 6 * x := fun x x0 x1 => by
    have := smN_in (f := fun k => S 20 (v * 9 + k)) (a := 0) (b := 6) x.toNat (fun i hi => hq i (by omega) (by omega))
    unfold cV
    omega
  unfold f_M_inQueues
  refine vL (V := fun x => cV (fun k => S 20 (v * 9 + k)) x) (N := 9) (L := fun m x s => f_M_inQueues_4 m v s x w) (fun m x x0 x1 => ?_) (fun m => ?_) (by decide) (by decide) rfl
  · have h1 := hin x x0 (by omega)
    have h2 := hq x x0 x1
    rw [cV_s x0]
    rw [f_M_inQueues_4, if_pos x1, qbd (m_many hR v0 v1 x0 x1)]
    dsimp only
    rw [w32_ok (z := x + 1) (by omega) (by omega), w32_ok (by omega) (by omega)]
  · rw [f_M_inQueues_4, if_neg (by decide)]
theorem m_byV0 (hR : RM w S) (I : IV S) : f_M_packetsBy v 0 w = some (cV (fun p => if S 6 p = v then 1 else 0) (S 5 13), w) := by
  have hc := I.1.2.2.2.2.2.2.1
  unfold f_M_packetsBy
  refine vL (V := fun x => cV (fun p => if S 6 p = v then 1 else 0) x) (N := S 5 13) (L := fun m x s => f_M_packetsBy_5 m v 0 s x w) (fun m x x0 x1 => ?_) (fun m => ?_) hc.1 (by omega) rfl
  · have hin := cV_in (f := fun p => if S 6 p = v then 1 else 0) x0 (fun _ => if_01)
    have h69 : ∀ y, y = 0 ∨ y = 1 → f_M_packetsBy_69 (f_M_packetsBy_5 m) (cV (fun p => if S 6 p = v then 1 else 0) x) y v 0 x w = f_M_packetsBy_5 m v 0 (cV (fun p => if S 6 p = v then 1 else 0) x + y) (x + 1) w := by
      intro y hy
      unfold f_M_packetsBy_69
      rw [w32_ok (z := x + 1) (by omega) (by omega), w32_ok (by omega) (by omega)]
    rw [cV_s x0]
    rw [f_M_packetsBy_5, qld_ok (by decide) (by decide), rm_5_13 hR, if_pos x1, if_pos rfl, qbd (mp_of hR I x0 x1 (f := 6) (by decide) (by decide) (by decide))]
    dsimp only
    by_cases e : S 6 x = v
    · rw [if_pos e, h69 1 (Or.inr rfl), if_pos e]
    · rw [if_neg e, h69 0 (Or.inl rfl), if_neg e]
  · rw [f_M_packetsBy_5, qld_ok (by decide) (by decide), rm_5_13 hR, if_neg (by omega)]
theorem m_byV1 (hR : RM w S) (I : IV S) : f_M_packetsBy v 1 w = some (cV (fun p => if S 7 p = v ∧ S 9 p = 3 then 1 else 0) (S 5 13), w) := by
  have hc := I.1.2.2.2.2.2.2.1
  unfold f_M_packetsBy
  refine vL (V := fun x => cV (fun p => if S 7 p = v ∧ S 9 p = 3 then 1 else 0) x) (N := S 5 13) (L := fun m x s => f_M_packetsBy_5 m v 1 s x w) (fun m x x0 x1 => ?_) (fun m => ?_) hc.1 (by omega) rfl
  · have hin := cV_in (f := fun p => if S 7 p = v ∧ S 9 p = 3 then 1 else 0) x0 (fun _ => if_01)
    have hd := pk_d I x0 x1
    have h69 : ∀ y, y = 0 ∨ y = 1 → f_M_packetsBy_69 (f_M_packetsBy_5 m) (cV (fun p => if S 7 p = v ∧ S 9 p = 3 then 1 else 0) x) y v 1 x w = f_M_packetsBy_5 m v 1 (cV (fun p => if S 7 p = v ∧ S 9 p = 3 then 1 else 0) x + y) (x + 1) w := by
      intro y hy
      unfold f_M_packetsBy_69
      rw [w32_ok (z := x + 1) (by omega) (by omega), w32_ok (by omega) (by omega)]
    rw [cV_s x0]
    rw [f_M_packetsBy_5, qld_ok (by decide) (by decide), rm_5_13 hR, if_pos x1, if_neg (by decide), qbd (mp_of hR I x0 x1 (f := 7) (by decide) (by decide) (by decide))]
    dsimp only
    by_cases e : S 7 x = v
    · rw [if_pos e, qbd (mp_of hR I x0 x1 (f := 13) (by decide) (by decide) (by decide))]
      dsimp only
      by_cases e2 : S 13 x = -1
      · rw [if_pos e2, h69 0 (Or.inl rfl), if_neg (fun z => hd.mp z.2 e2)]
      · rw [if_neg e2, h69 1 (Or.inr rfl), if_pos ⟨e, hd.mpr e2⟩]
    · rw [if_neg e, h69 0 (Or.inl rfl), if_neg (fun z => e z.1)]
  · rw [f_M_packetsBy_5, qld_ok (by decide) (by decide), rm_5_13 hR, if_neg (by omega)]
theorem m_doorV (hR : RM w S) (I : IV S) : f_M_longestInDoor v w = some (aDoor S v, w) := by
  have hc := I.1.2.2.2.2.2.2.1
  unfold f_M_longestInDoor aDoor
  refine vL (V := fun x => fV (fun p s => if S 6 p = v ∧ S 16 p ≠ -1 then (if s < w32 (S 16 p - S 8 p) then w32 (S 16 p - S 8 p) else s) else s) 0 x) (N := S 5 13) (L := fun m x s => f_M_longestInDoor_4 m v s x w) (fun m x x0 x1 => ?_) (fun m => ?_) hc.1 (by omega) rfl
  · have h67 : ∀ s, f_M_longestInDoor_67 (f_M_longestInDoor_4 m) s v x w = f_M_longestInDoor_4 m v s (x + 1) w := by
      intro s
      unfold f_M_longestInDoor_67
      rw [w32_ok (z := x + 1) (by omega) (by omega)]
    rw [fV_s x0]
    rw [f_M_longestInDoor_4, qld_ok (by decide) (by decide), rm_5_13 hR, if_pos x1, w32_ok (z := x + 1) (by omega) (by omega), qbd (mp_of hR I x0 x1 (f := 6) (by decide) (by decide) (by decide))]
    dsimp only
    by_cases e : S 6 x = v
    · rw [if_pos e, qbd (mp_of hR I x0 x1 (f := 16) (by decide) (by decide) (by decide))]
      dsimp only
      by_cases e2 : S 16 x = -1
      · rw [if_pos e2, if_neg (fun z => z.2 e2)]
      · rw [if_neg e2, if_pos (show S 6 x = v ∧ S 16 x ≠ -1 from ⟨e, e2⟩), qbd (mp_of hR I x0 x1 (f := 16) (by decide) (by decide) (by decide))]
        dsimp only
        rw [qbd (mp_of hR I x0 x1 (f := 8) (by decide) (by decide) (by decide))]
        dsimp only
        generalize fV (fun p s => if S 6 p = v ∧ S 16 p ≠ -1 then (if s < w32 (S 16 p - S 8 p) then w32 (S 16 p - S 8 p) else s) else s) 0 x = s
        by_cases e3 : w32 (S 16 x - S 8 x) ≤ s
        · rw [if_pos e3, h67, if_neg (by omega)]
        · rw [if_neg e3, h67, if_pos (by omega)]
    · rw [if_neg e, if_neg (fun z => e z.1)]
  · rw [f_M_longestInDoor_4, qld_ok (by decide) (by decide), rm_5_13 hR, if_neg (by omega)]
theorem m_node (hR : RM w S) (I : IV S) : f_M_node v x w = some (aNod S v x, w) := by
  have hN := gN I.1.1
  unfold f_M_node aNod
  rw [qbd (mg_isNode hR.wh I.1.1)]
  dsimp only
  rw [bi_if]
  by_cases c : 0 ≤ v ∧ v < S 1 3 * S 1 4
  · rw [if_pos c, if_pos c]
    by_cases c0 : x = 0
    · rw [if_pos c0, if_pos c0, qbd (m_many hR c.1 (by omega) (by decide) (by decide)), Int.add_zero]
    · rw [if_neg c0, if_neg c0]
      by_cases c1 : x = 1
      · rw [if_pos c1, if_pos c1, qbd (m_inQV hR I c.1 (by omega))]
      · rw [if_neg c1, if_neg c1]
        by_cases c2 : x = 2
        · rw [if_pos c2, if_pos c2, qbd (m_byV0 hR I)]
        · rw [if_neg c2, if_neg c2]
          by_cases c3 : x = 3
          · rw [if_pos c3, if_pos c3, qbd (m_byV1 hR I)]
          · rw [if_neg c3, if_neg c3]
            by_cases c4 : x = 4
            · rw [if_pos c4, if_pos c4, w32_ok (by omega) (by omega), qld_ok (by omega) (by omega), rm_32 hR c.1 (by omega) rfl]
            · rw [if_neg c4, if_neg c4]
              by_cases c5 : x = 5
              · rw [if_pos c5, if_pos c5, qbd (m_doorV hR I)]
              · rw [if_neg c5, if_neg c5]
  · rw [if_neg c, if_neg c]
end VL
