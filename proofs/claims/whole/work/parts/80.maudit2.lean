section MAV
variable {x : pb_E} {σ σ' : pb_H} {T : gT} {E E' : gE} {w : gW} {ν : pb_H} {b s t : Int} {Q : pb_P}
theorem c_M_audit {a : Int} (h : RM σ T E w ν) (ha : pb_R a) (hA : ∀ t, 0 ≤ t → t < 8 → ¬ E.1 3 t = 0 → 0 < E.1 4 t) (h1 : g_aud E b a → ∀ σ', RM σ' T (ge_check E b a) w ν → Q (.inl 1) σ') (h0 : ¬ g_aud E b a → Q (.inl 0) σ) : pb_MJ x i_M_audit [.inr 165, .inl b, .inl a] 213 σ Q := by
  refine pb_m_M_audit ?_
  simp only [pb_b_M_audit_0, pb_b_M_audit_51, pb_iconst, pb_null, pb_iload, pb_aload, pb_istore, pb_astore, pb_iinc, pb_bin, pb_bin0, pb_dup, pb_pop, pb_dup2, pb_if, pb_icmp, pb_ifnull, pb_getI, pb_getR, pb_putI, pb_putZ, pb_putR, pb_alen, pb_ald, pb_aldR, pb_ast, pb_astZ, pb_astR, pb_vret, pb_iret, pb_zret, pb_aret, pb_cv, pb_cr, pb_sr, pb_switch, pb_sw, pb_nth, pb_set, pb_tk, pb_add, pb_sub, List.length_cons, List.length_nil, true_or, or_true, true_and, and_true, and_self, pb_up_same, pb_up_f, ne_eq, Nat.reduceEqDiff, not_false_eq_true, Nat.reduceAdd, Nat.reduceLeDiff, Nat.zero_le]
  refine c_M_isBus (fun hb => ?_) (fun hb => ?_)
  · have e0 : pb_mul 4 b = 4 * b := by unfold pb_mul; exact pb_w_id (by unfold pb_R; omega)
    try simp only [pb_iconst, pb_null, pb_iload, pb_aload, pb_istore, pb_astore, pb_iinc, pb_bin, pb_bin0, pb_dup, pb_pop, pb_dup2, pb_if, pb_icmp, pb_ifnull, pb_getI, pb_getR, pb_putI, pb_putZ, pb_putR, pb_alen, pb_ald, pb_aldR, pb_ast, pb_astZ, pb_astR, pb_vret, pb_iret, pb_zret, pb_aret, pb_cv, pb_cr, pb_sr, pb_switch, pb_sw, pb_nth, pb_set, pb_tk, pb_add, pb_sub, List.length_cons, List.length_nil, true_or, or_true, true_and, and_true, and_self, pb_up_same, pb_up_f, ne_eq, Nat.reduceEqDiff, not_false_eq_true, Nat.reduceAdd, Nat.reduceLeDiff, Nat.zero_le, is_M, mf_given h.1, mk_given, ml_given, mf_auditClock h.1, mk_auditClock, ml_auditClock, e0]
    refine ⟨fun z => by simp at z, fun _ => ⟨fun z => h0 (fun y => absurd y.2.1.1 (by omega)), fun z => ⟨fun z2 => h0 (fun y => absurd y.2.1.2 (by omega)), fun z2 => ?_⟩⟩⟩
    have e1 : pb_w (4 * b + a) = 4 * b + a := pb_w_id (by unfold pb_R; omega)
    have e2 : pb_w (4 * b + a - 64) = 4 * b + (a - 64) := by rw [pb_w_id (by unfold pb_R; omega)]; omega
    have ht : 0 ≤ 4 * b + (a - 64) ∧ 4 * b + (a - 64) < 8 := by omega
    obtain ⟨a1, a2, a3, a4, a5⟩ := h.2.2.2.2.1 _ ht.1 ht.2
    have hA := hA _ ht.1 ht.2
    rw [e1, e2, a1, a4]
    refine ⟨ht, fun z3 => h0 (fun y => y.2.2.1 z3), fun z3 => ⟨ht, fun z4 => ?_, fun z4 => h0 (fun y => ?_)⟩⟩
    · have h3 : E.1 3 (4 * b + (a - 64)) = 0 := by
        by_cases q : E.1 3 (4 * b + (a - 64)) = 0
        · exact q
        · rw [if_neg q] at z4
          have := hA q
          omega
      simp only [pb_b_M_audit_53, pb_iconst, pb_null, pb_iload, pb_aload, pb_istore, pb_astore, pb_iinc, pb_bin, pb_bin0, pb_dup, pb_pop, pb_dup2, pb_if, pb_icmp, pb_ifnull, pb_getI, pb_getR, pb_putI, pb_putZ, pb_putR, pb_alen, pb_ald, pb_aldR, pb_ast, pb_astZ, pb_astR, pb_vret, pb_iret, pb_zret, pb_aret, pb_cv, pb_cr, pb_sr, pb_switch, pb_sw, pb_nth, pb_set, pb_tk, pb_add, pb_sub, List.length_cons, List.length_nil, true_or, or_true, true_and, and_true, and_self, pb_up_same, pb_up_f, ne_eq, Nat.reduceEqDiff, not_false_eq_true, Nat.reduceAdd, Nat.reduceLeDiff, Nat.zero_le, is_M]
      refine c_M_down h hb (fun σ1 g1 => ?_)
      try simp only [pb_iconst, pb_null, pb_iload, pb_aload, pb_istore, pb_astore, pb_iinc, pb_bin, pb_bin0, pb_dup, pb_pop, pb_dup2, pb_if, pb_icmp, pb_ifnull, pb_getI, pb_getR, pb_putI, pb_putZ, pb_putR, pb_alen, pb_ald, pb_aldR, pb_ast, pb_astZ, pb_astR, pb_vret, pb_iret, pb_zret, pb_aret, pb_cv, pb_cr, pb_sr, pb_switch, pb_sw, pb_nth, pb_set, pb_tk, pb_add, pb_sub, List.length_cons, List.length_nil, true_or, or_true, true_and, and_true, and_self, pb_up_same, pb_up_f, ne_eq, Nat.reduceEqDiff, not_false_eq_true, Nat.reduceAdd, Nat.reduceLeDiff, Nat.zero_le, is_M, mf_auditClock g1.1, mk_auditClock, ml_auditClock, mf_auditCount g1.1, mk_auditCount, ml_auditCount, e0, e1, e2]
      refine ⟨ht, ht, ?_⟩
      exact h1 ⟨hb, by omega, z3, h3⟩ _ (rm_upL (rm_aud g1) 196 5 (by omega))
    · rw [if_pos y.2.2.2] at z4
      exact z4 (by omega)
  · try simp only [pb_iconst, pb_null, pb_iload, pb_aload, pb_istore, pb_astore, pb_iinc, pb_bin, pb_bin0, pb_dup, pb_pop, pb_dup2, pb_if, pb_icmp, pb_ifnull, pb_getI, pb_getR, pb_putI, pb_putZ, pb_putR, pb_alen, pb_ald, pb_aldR, pb_ast, pb_astZ, pb_astR, pb_vret, pb_iret, pb_zret, pb_aret, pb_cv, pb_cr, pb_sr, pb_switch, pb_sw, pb_nth, pb_set, pb_tk, pb_add, pb_sub, List.length_cons, List.length_nil, true_or, or_true, true_and, and_true, and_self, pb_up_same, pb_up_f, ne_eq, Nat.reduceEqDiff, not_false_eq_true, Nat.reduceAdd, Nat.reduceLeDiff, Nat.zero_le]
    exact ⟨fun _ => h0 (fun y => hb y.1), fun z => by simp at z⟩
end MAV
