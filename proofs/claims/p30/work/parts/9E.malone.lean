/-! one ring alone, the reference: it answers -/
section MX
variable {w w' w0 w2 : qMem} {n e g K N k x y l s v b p c B a r : Int}
theorem nek_of (h : ne_ok n e) : ∃ K N, nek n e (n - 1) K N ∧ fk (n - 1) (e + 1).toNat = K := by
  unfold ne_ok at h
  rcases (show (n = 2 ∧ e = 1) ∨ (n = 2 ∧ e = 2) ∨ (n = 2 ∧ e = 3) ∨ (n = 3 ∧ e = 1) ∨ (n = 3 ∧ e = 2) ∨ (n = 3 ∧ e = 3) ∨ (n = 4 ∧ e = 1) by omega) with h | h | h | h | h | h | h <;> obtain ⟨rfl, rfl⟩ := h
  · exact ⟨2, 8, by unfold nek; omega, by decide⟩
  · exact ⟨3, 18, by unfold nek; omega, by decide⟩
  · exact ⟨4, 32, by unfold nek; omega, by decide⟩
  · exact ⟨3, 81, by unfold nek; omega, by decide⟩
  · exact ⟨7, 1029, by unfold nek; omega, by decide⟩
  · exact ⟨15, 10125, by unfold nek; omega, by decide⟩
  · exact ⟨4, 1024, by unfold nek; omega, by decide⟩
theorem mWb.co (h : mWb B w) (e : w' 99 = w 99) : mWb (B + 24) w' := fun s s0 s1 => by
  have := h s s0 s1
  rw [e]
  omega
theorem m_alone33 (h : ne_ok n e) (hB : 0 ≤ B ∧ B ≤ 19000) (hw : mWb B w) : kT (f_M_alone_33 1 n e r x w) (fun q => FAw w q.2 ∧ mWb (B + 24) q.2) := by
  have hno : kT (some ((-1 : Int), w)) (fun q => FAw w q.2 ∧ mWb (B + 24) q.2) := kT_some ⟨FAw.rfl', hw.co rfl⟩
  obtain ⟨K, N, hk, eK⟩ := nek_of h
  have hb := hk.b
  unfold f_M_alone_33
  rw [if_neg (by decide)]
  refine kT_eq m_isIn ?_
  dsimp only
  rw [bi_if]
  refine kT_if (fun _ => ?_) (fun _ => hno)
  refine kT_eq m_isIn ?_
  dsimp only
  rw [bi_if]
  refine kT_if (fun _ => ?_) (fun _ => hno)
  rw [qlt_ok, qlt_ok, qlt_ok, qlt_ok, w32_ok (z := n - 1) (by omega) (by omega), w32_ok (z := e + 1) (by omega) (by omega)]
  refine kT_eq (me_first (g := n - 1) qud_s hb.2.2.1 (by omega) (by omega)) ?_
  dsimp only
  rw [qlt_ok, eK]
  have f5 : FAl w (qud (qud (qud (qud (qud w 88 10 n) 88 11 e) 88 12 r) 88 13 (n - 1)) 88 14 K) := ((((FAl.w88 (by decide)).tr (FAl.w88 (by decide))).tr (FAl.w88 (by decide))).tr (FAl.w88 (by decide))).tr (FAl.w88 (by decide))
  have m5 : LM n e (n - 1) K (qud (qud (qud (qud (qud w 88 10 n) 88 11 e) 88 12 r) 88 13 (n - 1)) 88 14 K) := by
    refine ⟨⟨?_, ?_⟩, ?_, qud_s⟩
    · rw [qud_ni (by decide), qud_ni (by decide), qud_ni (by decide), qud_ni (by decide), qud_s]
    · rw [qud_ni (by decide), qud_ni (by decide), qud_ni (by decide), qud_s]
    · rw [qud_ni (by decide), qud_s]
  refine kT_bind (me_searches hk m5) (fun w1 h1 => ?_)
  have hG : mG n e (n - 1) K N w w1 := ⟨m5.sr h1.2, h1.1, f5.tr (FAl.sr h1.2)⟩
  have e99 : w1 99 = w 99 := hG.2.2.1 99 (by decide) (by decide)
  have hw1 : mWb B w1 := by
    unfold mWb
    rw [e99]
    exact hw
  have wk : ∀ r : Int × qMem, FAl w r.2 → FAw w r.2 ∧ mWb (B + 24) r.2 := fun r hr => ⟨FAw.al hr, hw.co (hr.1 99 (by decide) (by decide))⟩
  have h176 : kT (f_M_alone_176 x w1) (fun q => FAw w q.2 ∧ mWb (B + 24) q.2) := by
    unfold f_M_alone_176
    exact kT_bind (me_count hk hG) (fun r hr => kT_some (wk r hr))
  refine kT_if (fun _ => kT_some (wk (_, w1) hG.2.2)) (fun _ => ?_)
  refine kT_if (fun _ => h176) (fun _ => ?_)
  refine kT_if (fun _ => h176) (fun _ => ?_)
  refine kT_if (fun _ => kT_bind (me_soonest hk hG) (fun r hr => kT_some (wk r hr))) (fun _ => ?_)
  refine kT_if (fun _ => h176) (fun _ => ?_)
  refine kT_if (fun _ => h176) (fun _ => ?_)
  refine kT_if (fun _ => kT_bind (me_starving hk hG) (fun r hr => kT_if (fun _ => kT_some (wk r hr)) (fun _ => kT_some (wk r hr)))) (fun _ => ?_)
  refine kT_if (fun _ => kT_bind (me_wait hk hB hG hw1) (fun r hr => kT_some hr)) (fun _ => h176)
theorem m_alone (hB : 0 ≤ B ∧ B ≤ 19000) (hw : mWb B w) : kT (f_M_alone n e r x w) (fun q => FAw w q.2 ∧ mWb (B + 24) q.2) := by
  have hno : kT (f_M_alone_33 0 n e r x w) (fun q => FAw w q.2 ∧ mWb (B + 24) q.2) := by
    unfold f_M_alone_33
    rw [if_pos rfl]
    exact kT_some ⟨FAw.rfl', hw.co rfl⟩
  have h18 : kT (f_M_alone_18 n e r x w) (fun q => FAw w q.2 ∧ mWb (B + 24) q.2) := by
    unfold f_M_alone_18
    exact kT_if (fun a => kT_if (fun b => m_alone33 (Or.inr (Or.inr ⟨a, b⟩)) hB hw) (fun _ => hno)) (fun _ => hno)
  unfold f_M_alone
  refine kT_eq m_isIn ?_
  dsimp only
  rw [bi_if]
  refine kT_if (fun a => ?_) (fun _ => h18)
  refine kT_eq m_isIn ?_
  dsimp only
  rw [bi_if]
  refine kT_if (fun b => ?_) (fun _ => h18)
  refine m_alone33 ?_ hB hw
  unfold ne_ok
  omega
end MX
