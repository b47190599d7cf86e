/-! lines of the other side -/
section ML
variable {x : pb_E} {σ σ' : pb_H} {T : gT} {E E' : gE} {w : gW} {ν : pb_H} {b s t : Int} {Q : pb_P}
theorem rm_line (h : RM σ T E w ν) (e : ∀ f p i, ¬ (f = 0 ∧ 192 ≤ p ∧ p ≤ 196) → σ' f p i = σ f p i) (hl : rm_L σ' E'.1) (e6 : ∀ k t, 6 ≤ k → E'.1 k t = E.1 k t) (e2 : E'.2 = E.2) : RM σ' T E' w ν := by
  obtain ⟨h1, h2, h3, h4, h5, h6, h7, h8, h9⟩ := h
  refine ⟨h1.cg (fun f i q1 q2 => e _ _ _ (by omega)), h2.cg (fun p' i q1 q2 => e _ _ _ (by omega)), h3.cg (fun p' i q1 q2 => e _ _ _ (by omega)), by rw [e2]; exact h4.cg (fun p' i q1 q2 => e _ _ _ (by omega)), hl, fun b q1 q2 => ?_, ⟨?_, ?_⟩, by rw [e2]; exact h8.cg (fun p' i q1 q2 => e _ _ _ (by omega)), fun f' p' i' hk' => ?_⟩
  · rw [e6 6 b (by decide), e6 7 b (by decide), e _ _ _ (by omega), e _ _ _ (by omega)]
    exact h6 b q1 q2
  · rw [e6 8 0 (by decide), e _ _ _ (by omega)]
    exact h7.1
  · rw [e6 9 0 (by decide), e _ _ _ (by omega)]
    exact h7.2
  · rw [e _ _ _ (fun y => hk' (by unfold k_K; omega))]
    exact h9 f' p' i' hk'
/-- a number of a line (given, bits, replies) is set -/
theorem rm_upL (h : RM σ T E w ν) (p : Int) (k : Nat) (hk : (k = 0 ∧ p = 192) ∨ (k = 1 ∧ p = 193) ∨ (k = 2 ∧ p = 194) ∨ (k = 5 ∧ p = 196)) {v : Int} : RM (pb_up σ 0 p t v) T (ge_set E k t v) w ν := by
  refine rm_line h (fun f p' i hn => pb_up_k (by omega)) (fun t' q1 q2 => ?_) (fun k' t' hk' => ge_set_n (by omega)) rfl
  obtain ⟨a1, a2, a3, a4, a5⟩ := h.2.2.2.2.1 t' q1 q2
  rw [ge_set_n (k' := 3) (by omega), ge_set_n (k' := 4) (by omega)]
  by_cases z : t' = t
  · subst z
    rcases hk with ⟨rfl, rfl⟩ | ⟨rfl, rfl⟩ | ⟨rfl, rfl⟩ | ⟨rfl, rfl⟩
    · rw [show (ge_set E 0 t' v).1 0 t' = v from g_up_s _ _ _ _, ge_set_n (by decide), ge_set_n (by decide), ge_set_n (by decide), pb_up_same, pb_up_p (by decide), pb_up_p (by decide), pb_up_p (by decide), pb_up_p (by decide)]
      exact ⟨rfl, a2, a3, a4, a5⟩
    · rw [show (ge_set E 1 t' v).1 1 t' = v from g_up_s _ _ _ _, ge_set_n (by decide), ge_set_n (by decide), ge_set_n (by decide), pb_up_same, pb_up_p (by decide), pb_up_p (by decide), pb_up_p (by decide), pb_up_p (by decide)]
      exact ⟨a1, rfl, a3, a4, a5⟩
    · rw [show (ge_set E 2 t' v).1 2 t' = v from g_up_s _ _ _ _, ge_set_n (by decide), ge_set_n (by decide), ge_set_n (by decide), pb_up_same, pb_up_p (by decide), pb_up_p (by decide), pb_up_p (by decide), pb_up_p (by decide)]
      exact ⟨a1, a2, rfl, a4, a5⟩
    · rw [show (ge_set E 5 t' v).1 5 t' = v from g_up_s _ _ _ _, ge_set_n (by decide), ge_set_n (by decide), ge_set_n (by decide), pb_up_same, pb_up_p (by decide), pb_up_p (by decide), pb_up_p (by decide), pb_up_p (by decide)]
      exact ⟨a1, a2, a3, a4, rfl⟩
  · have hn : ∀ k', (ge_set E k t v).1 k' t' = E.1 k' t' := fun k' => g_up_n (fun y => z y.2)
    rw [hn, hn, hn, hn, pb_up_i z, pb_up_i z, pb_up_i z, pb_up_i z, pb_up_i z]
    exact ⟨a1, a2, a3, a4, a5⟩
end ML
