/-! lines of the other side -/
section ML
variable {x : pb_E} {σ σ' : pb_H} {T : gT} {E E' : gE} {w : Nat → Int} {ν : pb_H} {b s t : Int} {Q : pb_P}
theorem rm_line (h : RM σ T E w ν) (e : ∀ f p i, ¬ (f = 0 ∧ 192 ≤ p ∧ p ≤ 196) → σ' f p i = σ f p i) (hl : rm_L σ' E'.1) (e6 : ∀ k t, 6 ≤ k → E'.1 k t = E.1 k t) (e2 : E'.2 = E.2) : RM σ' T E' w ν := by
  obtain ⟨h1, h2, h3, h4, h5, h6, h7, h8, h9⟩ := h
  refine ⟨h1.cg (fun f i q1 q2 => e _ _ _ (by omega)), h2.cg (fun p' i q1 q2 => e _ _ _ (by omega)), h3.cg (fun p' i q1 q2 => e _ _ _ (by omega)), by rw [e2]; exact h4.cg (fun p' i q1 q2 => e _ _ _ (by omega)), hl, fun b q1 q2 => ?_, ⟨?_, ?_⟩, by rw [e2]; exact h8.cg (fun p' i q1 q2 => e _ _ _ (by omega)), fun f' p' i' hk' => ?_⟩
  · rw [e6 6 b (by decide), e6 7 b (by decide), e _ _ _ (by omega), e _ _ _ (by omega)]
    exact h6 b q1 q2
  · rw [e6 8 0 (by decide), e _ _ _ (by omega)]
    exact h7.1
  · rw [e6 9 0 (by decide), e _ _ _ (by omega)]
    exact h7.2
  · rw [e _ _ _ (fun y => hk' (by unfold k_K; omega))]
    exact h9 f' p' i' hk'
end ML
