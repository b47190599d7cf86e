section MAU
variable {x : pb_E} {σ σ' : pb_H} {T : gT} {E E' : gE} {w : gW} {ν : pb_H} {b s t : Int} {Q : pb_P}
/-- an audit's clock is set -/
theorem rm_195 (h : RM σ T E w ν) {v : Int} (e : ∀ k t', ¬ ((k = 3 ∨ k = 4) ∧ t' = t) → E'.1 k t' = E.1 k t') (hv : v = if E'.1 3 t = 0 then 0 else E'.1 4 t) (e2 : E'.2 = E.2) : RM (pb_up σ 0 195 t v) T E' w ν := by
  refine rm_line h (fun f p' i hn => pb_up_k (by omega)) (fun t' q1 q2 => ?_) (fun k' t' hk' => e _ _ (by omega)) e2
  obtain ⟨a1, a2, a3, a4, a5⟩ := h.2.2.2.2.1 t' q1 q2
  rw [e 0 t' (by omega), e 1 t' (by omega), e 2 t' (by omega), e 5 t' (by omega), pb_up_p (p' := 192) (by decide), pb_up_p (p' := 193) (by decide), pb_up_p (p' := 194) (by decide), pb_up_p (p' := 196) (by decide)]
  by_cases z : t' = t
  · subst z
    rw [pb_up_same]
    exact ⟨a1, a2, a3, hv, a5⟩
  · rw [e 3 t' (by omega), e 4 t' (by omega), pb_up_i z]
    exact ⟨a1, a2, a3, a4, a5⟩
theorem rm_aud (h : RM σ T E w ν) {v : Int} : RM (pb_up σ 0 195 t v) T (ge_set (ge_set E 3 t 1) 4 t v) w ν := by
  refine rm_195 h (fun k t' hn => ?_) ?_ rfl
  · show g_up (g_up E.1 3 t 1) 4 t v k t' = _
    rw [g_up_n (by omega), g_up_n (by omega)]
  · rw [ge_set_n (k' := 3) (by decide), show (ge_set E 3 t 1).1 3 t = 1 from g_up_s _ _ _ _, if_neg (by decide)]
    exact (g_up_s _ _ _ _).symm
theorem rm_aud0 (h : RM σ T E w ν) : RM (pb_up σ 0 195 t 0) T (ge_set E 3 t 0) w ν := by
  refine rm_195 h (fun k t' hn => ?_) ?_ rfl
  · show g_up E.1 3 t 0 k t' = _
    rw [g_up_n (by omega)]
  · rw [show (ge_set E 3 t 0).1 3 t = 0 from g_up_s _ _ _ _, if_pos rfl]
theorem rm_audN (h : RM σ T E w ν) (h3 : E.1 3 t = 0) : RM (pb_up σ 0 195 t 0) T E w ν := rm_195 h (fun _ _ _ => rfl) (by rw [if_pos h3]) rfl
end MAU
