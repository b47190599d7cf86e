/-! rows of the other side -/
section MR
variable {x : pb_E} {σ : pb_H} {T : gT} {E : gE} {w : gW} {ν : pb_H} {b s : Int} {Q : pb_P}
theorem c_M_isBus (h1 : 0 ≤ b ∧ b < 2 → Q (.inl 1) σ) (h0 : ¬ (0 ≤ b ∧ b < 2) → Q (.inl 0) σ) : pb_MJ x i_M_isBus [.inl b] 213 σ Q := by
  refine pb_m_M_isBus ?_
  simp only [pb_b_M_isBus_0, pb_b_M_isBus_9, pb_b_M_isBus_13, pb_b_M_isBus_14, pb_iconst, pb_null, pb_iload, pb_aload, pb_istore, pb_astore, pb_iinc, pb_bin, pb_bin0, pb_dup, pb_pop, pb_dup2, pb_if, pb_icmp, pb_ifnull, pb_getI, pb_getR, pb_putI, pb_putZ, pb_putR, pb_alen, pb_ald, pb_aldR, pb_ast, pb_astZ, pb_astR, pb_vret, pb_iret, pb_zret, pb_aret, pb_cv, pb_cr, pb_sr, pb_switch, pb_sw, pb_nth, pb_set, pb_tk, pb_add, pb_sub, List.length_cons, List.length_nil, true_or, or_true, true_and, and_true, and_self, pb_up_same, pb_up_f, ne_eq, Nat.reduceEqDiff, not_false_eq_true, Nat.reduceAdd, Nat.reduceLeDiff, Nat.zero_le]
  exact ⟨fun z => h1 (by omega), fun z => ⟨fun z2 => h0 (by omega), fun z2 => h1 (by omega)⟩⟩
theorem c_M_at (h : RM σ T E w ν) (h1 : g_at T b s → Q (.inl (4 * b + s)) σ) (h0 : ¬ g_at T b s → Q (.inl (-1)) σ) : pb_MJ x i_M_at [.inr 165, .inl b, .inl s] 213 σ Q := by
  refine pb_m_M_at ?_
  simp only [pb_b_M_at_0, pb_b_M_at_37, pb_b_M_at_38, pb_iconst, pb_null, pb_iload, pb_aload, pb_istore, pb_astore, pb_iinc, pb_bin, pb_bin0, pb_dup, pb_pop, pb_dup2, pb_if, pb_icmp, pb_ifnull, pb_getI, pb_getR, pb_putI, pb_putZ, pb_putR, pb_alen, pb_ald, pb_aldR, pb_ast, pb_astZ, pb_astR, pb_vret, pb_iret, pb_zret, pb_aret, pb_cv, pb_cr, pb_sr, pb_switch, pb_sw, pb_nth, pb_set, pb_tk, pb_add, pb_sub, List.length_cons, List.length_nil, true_or, or_true, true_and, and_true, and_self, pb_up_same, pb_up_f, ne_eq, Nat.reduceEqDiff, not_false_eq_true, Nat.reduceAdd, Nat.reduceLeDiff, Nat.zero_le]
  refine c_M_isBus (fun hb => ?_) (fun hb => ?_)
  · have e1 : pb_mul 4 b = 4 * b := by unfold pb_mul; exact pb_w_id (by unfold pb_R; omega)
    try simp only [pb_iconst, pb_null, pb_iload, pb_aload, pb_istore, pb_astore, pb_iinc, pb_bin, pb_bin0, pb_dup, pb_pop, pb_dup2, pb_if, pb_icmp, pb_ifnull, pb_getI, pb_getR, pb_putI, pb_putZ, pb_putR, pb_alen, pb_ald, pb_aldR, pb_ast, pb_astZ, pb_astR, pb_vret, pb_iret, pb_zret, pb_aret, pb_cv, pb_cr, pb_sr, pb_switch, pb_sw, pb_nth, pb_set, pb_tk, pb_add, pb_sub, List.length_cons, List.length_nil, true_or, or_true, true_and, and_true, and_self, pb_up_same, pb_up_f, ne_eq, Nat.reduceEqDiff, not_false_eq_true, Nat.reduceAdd, Nat.reduceLeDiff, Nat.zero_le, is_M, mf_there h.1, mk_there, ml_there, e1]
    refine ⟨fun z => by simp at z, fun _ => ⟨fun z => h0 (fun y => absurd y.1.2.1 (by omega)), fun z => ⟨fun z2 => h0 (fun y => absurd y.1.2.2 (by omega)), fun z2 => ?_⟩⟩⟩
    have e2 : pb_w (4 * b + s) = 4 * b + s := pb_w_id (by unfold pb_R; omega)
    rw [e2, m_T h 166 1 rfl ⟨by decide, by decide⟩ ⟨by omega, by omega⟩ (Or.inr (by unfold g_mu; decide))]
    exact ⟨by omega, fun z3 => h0 (fun y => y.2 z3), fun z3 => h1 ⟨⟨hb, by omega⟩, z3⟩⟩
  · try simp only [pb_iconst, pb_null, pb_iload, pb_aload, pb_istore, pb_astore, pb_iinc, pb_bin, pb_bin0, pb_dup, pb_pop, pb_dup2, pb_if, pb_icmp, pb_ifnull, pb_getI, pb_getR, pb_putI, pb_putZ, pb_putR, pb_alen, pb_ald, pb_aldR, pb_ast, pb_astZ, pb_astR, pb_vret, pb_iret, pb_zret, pb_aret, pb_cv, pb_cr, pb_sr, pb_switch, pb_sw, pb_nth, pb_set, pb_tk, pb_add, pb_sub, List.length_cons, List.length_nil, true_or, or_true, true_and, and_true, and_self, pb_up_same, pb_up_f, ne_eq, Nat.reduceEqDiff, not_false_eq_true, Nat.reduceAdd, Nat.reduceLeDiff, Nat.zero_le]
    exact ⟨fun _ => h0 (fun y => hb y.1.1), fun z => by simp at z⟩
end MR
