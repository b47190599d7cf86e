section MN
variable {x : pb_E} {σ σ' : pb_H} {T T' : gT} {E : gE} {w : gW} {ν : pb_H} {b s t : Int} {Q : pb_P}
def gt_nothing (T : gT) (t : Int) : gT := gt_put (gt_set (gt_row (gt_set (gt_set T 7 t 0) 9 t (-1)) t []) 6 t 8) t (7, 0, 0, T.1 5 t, 0)
theorem c_M_nothing (h : RM σ T E w ν) (ht : 0 ≤ t ∧ t < 8) (hQ : ∀ σ', RM σ' (gt_nothing T t) E w ν → Q (.inl 0) σ') : pb_MJ x i_M_nothing [.inr 165, .inl t] 213 σ Q := by
  refine pb_m_M_nothing ?_
  have a5 := m_T h 168 5 rfl ⟨by decide, by decide⟩ ht (Or.inr (by unfold g_mu; decide))
  simp only [pb_b_M_nothing_0, pb_iconst, pb_null, pb_iload, pb_aload, pb_istore, pb_astore, pb_iinc, pb_bin, pb_bin0, pb_dup, pb_pop, pb_dup2, pb_if, pb_icmp, pb_ifnull, pb_getI, pb_getR, pb_putI, pb_putZ, pb_putR, pb_alen, pb_ald, pb_aldR, pb_ast, pb_astZ, pb_astR, pb_vret, pb_iret, pb_zret, pb_aret, pb_cv, pb_cr, pb_sr, pb_switch, pb_sw, pb_nth, pb_set, pb_tk, pb_add, pb_sub, List.length_cons, List.length_nil, true_or, or_true, true_and, and_true, and_self, pb_up_same, pb_up_f, ne_eq, Nat.reduceEqDiff, not_false_eq_true, Nat.reduceAdd, Nat.reduceLeDiff, Nat.zero_le, is_M, mf_state h.1, mk_state, ml_state, mf_channel h.1, mk_channel, ml_channel, mf_length h.1, mk_length, ml_length, mf_patience h.1, mk_patience, ml_patience, mf_draw h.1, mk_draw, ml_draw, a5, pb_up_p, Int.reduceEq]
  refine ⟨ht, ht, ht, ht, ht, ?_⟩
  exact c_M_up (rm_upT (rm_clrU (rm_upT (rm_upT h 170 7 rfl ⟨by decide, by decide⟩) 172 9 rfl ⟨by decide, by decide⟩)) 177 6 rfl ⟨by decide, by decide⟩) ht hQ
theorem gt_nothing_over (d : Int) : gt_nothing (gt_set (gt_set T 4 t 0) 5 t d) t = gt_over T t d := by
  refine Prod.ext (funext fun k => funext fun t' => ?_) ?_
  · show g_up (g_up (g_up (g_up (g_up T.1 4 t 0) 5 t d) 7 t 0) 9 t (-1)) 6 t 8 k t' = g_up (g_up (g_up (g_up (g_up T.1 4 t 0) 7 t 0) 9 t (-1)) 5 t d) 6 t 8 k t'
    unfold g_up
    by_cases z : t' = t
    · subst z
      by_cases k4 : k = 4
      · subst k4; simp
      · by_cases k5 : k = 5
        · subst k5; simp
        · by_cases k6 : k = 6
          · subst k6; simp
          · simp [k4, k5, k6]
    · simp [z]
  · show u_up (u_up T.2 t []) t (s_put 8 (u_up T.2 t [] t) (7, 0, 0, g_up (g_up T.1 4 t 0) 5 t d 5 t, 0)) = u_up (u_up T.2 t []) t (s_put 8 (u_up T.2 t [] t) (7, 0, 0, d, 0))
    rw [g_up_s]
theorem c_M_lose (h : RM σ T E w ν) (ht : 0 ≤ t ∧ t < 8) (hQ : ∀ σ', RM σ' (gt_next T t) E w ν → Q (.inl 0) σ') : pb_MJ x i_M_lose [.inr 165, .inl t] 213 σ Q := by
  refine pb_m_M_lose ?_
  have a5 := m_T h 168 5 rfl ⟨by decide, by decide⟩ ht (Or.inr (by unfold g_mu; decide))
  simp only [pb_b_M_lose_0, pb_iconst, pb_null, pb_iload, pb_aload, pb_istore, pb_astore, pb_iinc, pb_bin, pb_bin0, pb_dup, pb_pop, pb_dup2, pb_if, pb_icmp, pb_ifnull, pb_getI, pb_getR, pb_putI, pb_putZ, pb_putR, pb_alen, pb_ald, pb_aldR, pb_ast, pb_astZ, pb_astR, pb_vret, pb_iret, pb_zret, pb_aret, pb_cv, pb_cr, pb_sr, pb_switch, pb_sw, pb_nth, pb_set, pb_tk, pb_add, pb_sub, List.length_cons, List.length_nil, true_or, or_true, true_and, and_true, and_self, pb_up_same, pb_up_f, ne_eq, Nat.reduceEqDiff, not_false_eq_true, Nat.reduceAdd, Nat.reduceLeDiff, Nat.zero_le, is_M, mf_address h.1, mk_address, ml_address, mf_draw h.1, mk_draw, ml_draw, a5, pb_up_p, Int.reduceEq]
  unfold gt_next at hQ
  rw [← gt_nothing_over] at hQ
  refine ⟨ht, ht, ht, ?_⟩
  exact c_M_nothing (rm_upT (rm_upT h 167 4 rfl ⟨by decide, by decide⟩) 168 5 rfl ⟨by decide, by decide⟩) ht hQ
end MN
