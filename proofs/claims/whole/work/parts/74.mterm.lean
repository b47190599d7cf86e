/-! terminals of the other side -/
section MT
variable {x : pb_E} {σ σ' : pb_H} {T T' : gT} {E : gE} {w : gW} {ν : pb_H} {b s t : Int} {Q : pb_P}
/-- another ghost that differs where nothing is plugged alone -/
theorem rm_gh (h : RM σ T E w ν) (e : ∀ k t, 1 ≤ k → k < 16 → (¬ T.1 1 t = 0 ∨ g_mu k) → T'.1 k t = T.1 k t) (e2 : T'.2 = T.2) : RM σ T' E w ν := by
  obtain ⟨h1, h2, h3, h4⟩ := h
  refine ⟨h1, fun k t q1 q2 q3 q4 q5 => ?_, by rw [e2]; exact h3, h4⟩
  have e1 : T'.1 1 t = T.1 1 t := e 1 t (by omega) (by omega) (Or.inr (by unfold g_mu; decide))
  rw [e1] at q5
  rw [e k t q1 q2 q5]
  exact h2 k t q1 q2 q3 q4 q5
theorem rm_clrU (h : RM σ T E w ν) : RM (pb_up σ 0 181 t 0) (gt_row T t []) E w ν :=
  rm_rowU h (fun f p i hn => pb_up_k (by omega)) (fun t' z => pb_up_i z) (fun p i q1 q2 q3 => pb_up_p (by omega)) (by decide) (by rw [pb_up_same]; rfl) (fun i f hi => absurd hi (by simp))
/-- a plug is pulled -/
theorem rm_off (h : RM σ T E w ν) : RM (pb_up σ 0 166 t 0) (gt_set T 1 t 0) E w ν := by
  obtain ⟨h1, h2, h3, h4, h5, h6, h7, h8, h9⟩ := h
  refine ⟨h1.cg (fun f i q1 q2 => pb_up_f (by omega)), fun k' t' q1 q2 q3 q4 q5 => ?_, h3.cg (fun p' i q1 q2 => pb_up_p (by omega)), h4.cg (fun p' i q1 q2 => pb_up_p (by omega)), h5.cg (fun p' i q1 q2 => pb_up_p (by omega)), h6.cg (fun p' i q1 q2 => pb_up_p (by omega)), h7.cg (fun f q => pb_up_f (by omega)), h8.cg (fun p' i q1 q2 => pb_up_p (by omega)), fun f' p' i' hk' => ?_⟩
  · by_cases z : k' = 1 ∧ t' = t
    · obtain ⟨rfl, rfl⟩ := z
      rw [show (gt_set T 1 t' 0).1 1 t' = 0 from g_up_s _ _ _ _]
      exact pb_up_same _ _ _ _ _
    · rw [show (gt_set T 1 t 0).1 k' t' = T.1 k' t' from g_up_n z]
      have q6 : ¬ T.1 1 t' = 0 ∨ g_mu k' := by
        by_cases zt : t' = t
        · subst zt
          rw [show (gt_set T 1 t' 0).1 1 t' = 0 from g_up_s _ _ _ _] at q5
          exact Or.inr (q5.resolve_left (fun y => y rfl))
        · rw [show (gt_set T 1 t 0).1 1 t' = T.1 1 t' from g_up_n (fun y => zt y.2)] at q5
          exact q5
      by_cases z2 : k' = 1
      · subst z2
        rw [show g_ma 1 = 166 from rfl, pb_up_i (by omega)]
        exact h2 1 t' q1 q2 q3 q4 q6
      · have hne : g_ma k' ≠ 166 := fun y => z2 (g_ma_inj (k' := 1) ⟨q1, q2⟩ ⟨by decide, by decide⟩ y)
        rw [pb_up_p hne]
        exact h2 k' t' q1 q2 q3 q4 q6
  · rw [pb_up_k (fun y => hk' (by unfold k_K; omega))]
    exact h9 f' p' i' hk'
theorem c_M_unplug (h : RM σ T E w ν) (h1 : g_at T b s → ∀ σ', RM σ' (gt_pullOut T (4 * b + s)) E w ν → Q (.inl 1) σ') (h0 : ¬ g_at T b s → Q (.inl 0) σ) : pb_MJ x i_M_unplug [.inr 165, .inl b, .inl s] 213 σ Q := by
  refine pb_m_M_unplug ?_
  simp only [pb_b_M_unplug_0, pb_b_M_unplug_13, pb_iconst, pb_null, pb_iload, pb_aload, pb_istore, pb_astore, pb_iinc, pb_bin, pb_bin0, pb_dup, pb_pop, pb_dup2, pb_if, pb_icmp, pb_ifnull, pb_getI, pb_getR, pb_putI, pb_putZ, pb_putR, pb_alen, pb_ald, pb_aldR, pb_ast, pb_astZ, pb_astR, pb_vret, pb_iret, pb_zret, pb_aret, pb_cv, pb_cr, pb_sr, pb_switch, pb_sw, pb_nth, pb_set, pb_tk, pb_add, pb_sub, List.length_cons, List.length_nil, true_or, or_true, true_and, and_true, and_self, pb_up_same, pb_up_f, ne_eq, Nat.reduceEqDiff, not_false_eq_true, Nat.reduceAdd, Nat.reduceLeDiff, Nat.zero_le, is_M]
  refine c_M_at h (fun hc => ?_) (fun hc => ?_)
  · obtain ⟨⟨hb, hs⟩, hp⟩ := id hc
    have h2 := rm_clrU (t := 4 * b + s) (rm_off (t := 4 * b + s) h)
    try simp only [pb_iconst, pb_null, pb_iload, pb_aload, pb_istore, pb_astore, pb_iinc, pb_bin, pb_bin0, pb_dup, pb_pop, pb_dup2, pb_if, pb_icmp, pb_ifnull, pb_getI, pb_getR, pb_putI, pb_putZ, pb_putR, pb_alen, pb_ald, pb_aldR, pb_ast, pb_astZ, pb_astR, pb_vret, pb_iret, pb_zret, pb_aret, pb_cv, pb_cr, pb_sr, pb_switch, pb_sw, pb_nth, pb_set, pb_tk, pb_add, pb_sub, List.length_cons, List.length_nil, true_or, or_true, true_and, and_true, and_self, pb_up_same, pb_up_f, ne_eq, Nat.reduceEqDiff, not_false_eq_true, Nat.reduceAdd, Nat.reduceLeDiff, Nat.zero_le, is_M, mf_there h.1, mk_there, ml_there, mf_length h.1, mk_length, ml_length]
    refine ⟨fun _ => ⟨by omega, by omega, h1 hc _ (rm_gh h2 (fun k t q1 q2 q3 => ?_) rfl)⟩, fun z => absurd z (by omega)⟩
    have hne : ¬ ((k = 4 ∨ k = 7 ∨ k = 9) ∧ t = 4 * b + s) := by
      rintro ⟨z1, rfl⟩
      rcases q3 with q | q
      · exact q (g_up_s _ _ _ _)
      · unfold g_mu at q
        omega
    show g_up (g_up (g_up (g_up T.1 1 (4 * b + s) 0) 4 (4 * b + s) 0) 7 (4 * b + s) 0) 9 (4 * b + s) (-1) k t = g_up T.1 1 (4 * b + s) 0 k t
    rw [g_up_n (by omega), g_up_n (by omega), g_up_n (by omega)]
  · try simp only [pb_iconst, pb_null, pb_iload, pb_aload, pb_istore, pb_astore, pb_iinc, pb_bin, pb_bin0, pb_dup, pb_pop, pb_dup2, pb_if, pb_icmp, pb_ifnull, pb_getI, pb_getR, pb_putI, pb_putZ, pb_putR, pb_alen, pb_ald, pb_aldR, pb_ast, pb_astZ, pb_astR, pb_vret, pb_iret, pb_zret, pb_aret, pb_cv, pb_cr, pb_sr, pb_switch, pb_sw, pb_nth, pb_set, pb_tk, pb_add, pb_sub, List.length_cons, List.length_nil, true_or, or_true, true_and, and_true, and_self, pb_up_same, pb_up_f, ne_eq, Nat.reduceEqDiff, not_false_eq_true, Nat.reduceAdd, Nat.reduceLeDiff, Nat.zero_le]
    exact ⟨fun z => by simp at z, fun _ => h0 hc⟩
end MT
