/-! one ring alone (the reference): numbers of queues -/
def lqS (g : Int) : Nat → Int → Int → Int → Int
  | 0, x2, _, _ => x2
  | n + 1, x2, x3, x4 => if x4 < x3 then x2 else lqS g n (x2 + 1) (x3 * g) (x4 - x3)
def lq (g k : Int) : Int := lqS g 20 0 1 k
section ME
variable {w : qMem} {g k : Int}
theorem me_long (hg : w 88 13 = g) (g0 : 1 ≤ g ∧ g ≤ 3) (k0 : 0 ≤ k) (k1 : k < 16) : f_M_longQueue k w = some (lq g k, w) := by
  have key : ∀ (j m : Nat) (x2 x3 x4 : Int), 0 ≤ x4 → x4 < j → x4 < m → x4 < 16 → 1 ≤ x3 → x3 ≤ 48 → 0 ≤ x2 → x2 + x4 ≤ 16 → f_M_longQueue_7 m x2 x3 x4 w = some (lqS g j x2 x3 x4, w) := by
    intro j
    induction j with
    | zero => intro m x2 x3 x4 _ _ _ _ _ _ _ _; omega
    | succ j ih =>
      intro m x2 x3 x4 a b c d e f p q
      cases m with
      | zero => omega
      | succ m =>
        rw [f_M_longQueue_7, lqS, hg]
        by_cases z : x4 < x3
        · rw [if_pos z, if_pos z]
        · have h3 : 1 ≤ x3 * g ∧ x3 * g ≤ 48 := by
            rcases (by omega : g = 1 ∨ g = 2 ∨ g = 3) with rfl | rfl | rfl <;> omega
          rw [if_neg z, if_neg z, w32_ok (z := x2 + 1) (by omega) (by omega), w32_ok (z := x3 * g) (by omega) (by omega), w32_ok (z := x4 - x3) (by omega) (by omega)]
          exact ih m _ _ _ (by omega) (by omega) (by omega) (by omega) h3.1 h3.2 (by omega) (by omega)
  unfold f_M_longQueue lq
  exact key 20 qFU 0 1 k k0 (by omega) (qFU_gt (by omega)) k1 (by omega) (by omega) (by omega) (by omega)
end ME
