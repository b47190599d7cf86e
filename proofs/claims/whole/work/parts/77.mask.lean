section MA
variable {x : pb_E} {σ σ' : pb_H} {T : gT} {E : gE} {w : gW} {ν : pb_H} {b s t : Int} {Q : pb_P}
theorem c_M_state (h : RM σ T E w ν) (h1 : g_at T b s → Q (.inl (T.1 7 (4 * b + s))) σ) (h0 : ¬ g_at T b s → Q (.inl (-1)) σ) : pb_MJ x i_M_state [.inr 165, .inl b, .inl s] 213 σ Q := by
  refine pb_m_M_state ?_
  simp only [pb_b_M_state_0, pb_b_M_state_15, pb_b_M_state_21, pb_iconst, pb_null, pb_iload, pb_aload, pb_istore, pb_astore, pb_iinc, pb_bin, pb_bin0, pb_dup, pb_pop, pb_dup2, pb_if, pb_icmp, pb_ifnull, pb_getI, pb_getR, pb_putI, pb_putZ, pb_putR, pb_alen, pb_ald, pb_aldR, pb_ast, pb_astZ, pb_astR, pb_vret, pb_iret, pb_zret, pb_aret, pb_cv, pb_cr, pb_sr, pb_switch, pb_sw, pb_nth, pb_set, pb_tk, pb_add, pb_sub, List.length_cons, List.length_nil, true_or, or_true, true_and, and_true, and_self, pb_up_same, pb_up_f, ne_eq, Nat.reduceEqDiff, not_false_eq_true, Nat.reduceAdd, Nat.reduceLeDiff, Nat.zero_le, is_M]
  refine c_M_at h (fun hc => ?_) (fun hc => ?_)
  · obtain ⟨⟨hb, hs⟩, hp⟩ := id hc
    have ht : 0 ≤ 4 * b + s ∧ 4 * b + s < 8 := by omega
    have a := m_T h 170 7 rfl ⟨by decide, by decide⟩ ht (Or.inl hp)
    try simp only [pb_iconst, pb_null, pb_iload, pb_aload, pb_istore, pb_astore, pb_iinc, pb_bin, pb_bin0, pb_dup, pb_pop, pb_dup2, pb_if, pb_icmp, pb_ifnull, pb_getI, pb_getR, pb_putI, pb_putZ, pb_putR, pb_alen, pb_ald, pb_aldR, pb_ast, pb_astZ, pb_astR, pb_vret, pb_iret, pb_zret, pb_aret, pb_cv, pb_cr, pb_sr, pb_switch, pb_sw, pb_nth, pb_set, pb_tk, pb_add, pb_sub, List.length_cons, List.length_nil, true_or, or_true, true_and, and_true, and_self, pb_up_same, pb_up_f, ne_eq, Nat.reduceEqDiff, not_false_eq_true, Nat.reduceAdd, Nat.reduceLeDiff, Nat.zero_le, is_M, mf_state h.1, mk_state, ml_state, a]
    first | exact ⟨fun _ => ⟨ht, h1 hc⟩, fun z => absurd z (by omega)⟩ | exact ⟨fun z => absurd z (by omega), fun _ => ⟨ht, h1 hc⟩⟩
  · try simp only [pb_iconst, pb_null, pb_iload, pb_aload, pb_istore, pb_astore, pb_iinc, pb_bin, pb_bin0, pb_dup, pb_pop, pb_dup2, pb_if, pb_icmp, pb_ifnull, pb_getI, pb_getR, pb_putI, pb_putZ, pb_putR, pb_alen, pb_ald, pb_aldR, pb_ast, pb_astZ, pb_astR, pb_vret, pb_iret, pb_zret, pb_aret, pb_cv, pb_cr, pb_sr, pb_switch, pb_sw, pb_nth, pb_set, pb_tk, pb_add, pb_sub, List.length_cons, List.length_nil, true_or, or_true, true_and, and_true, and_self, pb_up_same, pb_up_f, ne_eq, Nat.reduceEqDiff, not_false_eq_true, Nat.reduceAdd, Nat.reduceLeDiff, Nat.zero_le]
    first | exact ⟨fun z => by simp at z, fun _ => h0 hc⟩ | exact ⟨fun _ => h0 hc, fun z => by simp at z⟩
theorem c_M_channel (h : RM σ T E w ν) (h1 : g_at T b s → Q (.inl (T.1 9 (4 * b + s))) σ) (h0 : ¬ g_at T b s → Q (.inl (-1)) σ) : pb_MJ x i_M_channel [.inr 165, .inl b, .inl s] 213 σ Q := by
  refine pb_m_M_channel ?_
  simp only [pb_b_M_channel_0, pb_b_M_channel_15, pb_b_M_channel_21, pb_iconst, pb_null, pb_iload, pb_aload, pb_istore, pb_astore, pb_iinc, pb_bin, pb_bin0, pb_dup, pb_pop, pb_dup2, pb_if, pb_icmp, pb_ifnull, pb_getI, pb_getR, pb_putI, pb_putZ, pb_putR, pb_alen, pb_ald, pb_aldR, pb_ast, pb_astZ, pb_astR, pb_vret, pb_iret, pb_zret, pb_aret, pb_cv, pb_cr, pb_sr, pb_switch, pb_sw, pb_nth, pb_set, pb_tk, pb_add, pb_sub, List.length_cons, List.length_nil, true_or, or_true, true_and, and_true, and_self, pb_up_same, pb_up_f, ne_eq, Nat.reduceEqDiff, not_false_eq_true, Nat.reduceAdd, Nat.reduceLeDiff, Nat.zero_le, is_M]
  refine c_M_at h (fun hc => ?_) (fun hc => ?_)
  · obtain ⟨⟨hb, hs⟩, hp⟩ := id hc
    have ht : 0 ≤ 4 * b + s ∧ 4 * b + s < 8 := by omega
    have a := m_T h 172 9 rfl ⟨by decide, by decide⟩ ht (Or.inl hp)
    try simp only [pb_iconst, pb_null, pb_iload, pb_aload, pb_istore, pb_astore, pb_iinc, pb_bin, pb_bin0, pb_dup, pb_pop, pb_dup2, pb_if, pb_icmp, pb_ifnull, pb_getI, pb_getR, pb_putI, pb_putZ, pb_putR, pb_alen, pb_ald, pb_aldR, pb_ast, pb_astZ, pb_astR, pb_vret, pb_iret, pb_zret, pb_aret, pb_cv, pb_cr, pb_sr, pb_switch, pb_sw, pb_nth, pb_set, pb_tk, pb_add, pb_sub, List.length_cons, List.length_nil, true_or, or_true, true_and, and_true, and_self, pb_up_same, pb_up_f, ne_eq, Nat.reduceEqDiff, not_false_eq_true, Nat.reduceAdd, Nat.reduceLeDiff, Nat.zero_le, is_M, mf_channel h.1, mk_channel, ml_channel, a]
    first | exact ⟨fun _ => ⟨ht, h1 hc⟩, fun z => absurd z (by omega)⟩ | exact ⟨fun z => absurd z (by omega), fun _ => ⟨ht, h1 hc⟩⟩
  · try simp only [pb_iconst, pb_null, pb_iload, pb_aload, pb_istore, pb_astore, pb_iinc, pb_bin, pb_bin0, pb_dup, pb_pop, pb_dup2, pb_if, pb_icmp, pb_ifnull, pb_getI, pb_getR, pb_putI, pb_putZ, pb_putR, pb_alen, pb_ald, pb_aldR, pb_ast, pb_astZ, pb_astR, pb_vret, pb_iret, pb_zret, pb_aret, pb_cv, pb_cr, pb_sr, pb_switch, pb_sw, pb_nth, pb_set, pb_tk, pb_add, pb_sub, List.length_cons, List.length_nil, true_or, or_true, true_and, and_true, and_self, pb_up_same, pb_up_f, ne_eq, Nat.reduceEqDiff, not_false_eq_true, Nat.reduceAdd, Nat.reduceLeDiff, Nat.zero_le]
    first | exact ⟨fun z => by simp at z, fun _ => h0 hc⟩ | exact ⟨fun _ => h0 hc, fun z => by simp at z⟩
theorem c_M_cause (h : RM σ T E w ν) (h1 : g_at T b s → Q (.inl (T.1 10 (4 * b + s))) σ) (h0 : ¬ g_at T b s → Q (.inl (-1)) σ) : pb_MJ x i_M_cause [.inr 165, .inl b, .inl s] 213 σ Q := by
  refine pb_m_M_cause ?_
  simp only [pb_b_M_cause_0, pb_b_M_cause_15, pb_b_M_cause_21, pb_iconst, pb_null, pb_iload, pb_aload, pb_istore, pb_astore, pb_iinc, pb_bin, pb_bin0, pb_dup, pb_pop, pb_dup2, pb_if, pb_icmp, pb_ifnull, pb_getI, pb_getR, pb_putI, pb_putZ, pb_putR, pb_alen, pb_ald, pb_aldR, pb_ast, pb_astZ, pb_astR, pb_vret, pb_iret, pb_zret, pb_aret, pb_cv, pb_cr, pb_sr, pb_switch, pb_sw, pb_nth, pb_set, pb_tk, pb_add, pb_sub, List.length_cons, List.length_nil, true_or, or_true, true_and, and_true, and_self, pb_up_same, pb_up_f, ne_eq, Nat.reduceEqDiff, not_false_eq_true, Nat.reduceAdd, Nat.reduceLeDiff, Nat.zero_le, is_M]
  refine c_M_at h (fun hc => ?_) (fun hc => ?_)
  · obtain ⟨⟨hb, hs⟩, hp⟩ := id hc
    have ht : 0 ≤ 4 * b + s ∧ 4 * b + s < 8 := by omega
    have a := m_T h 175 10 rfl ⟨by decide, by decide⟩ ht (Or.inl hp)
    try simp only [pb_iconst, pb_null, pb_iload, pb_aload, pb_istore, pb_astore, pb_iinc, pb_bin, pb_bin0, pb_dup, pb_pop, pb_dup2, pb_if, pb_icmp, pb_ifnull, pb_getI, pb_getR, pb_putI, pb_putZ, pb_putR, pb_alen, pb_ald, pb_aldR, pb_ast, pb_astZ, pb_astR, pb_vret, pb_iret, pb_zret, pb_aret, pb_cv, pb_cr, pb_sr, pb_switch, pb_sw, pb_nth, pb_set, pb_tk, pb_add, pb_sub, List.length_cons, List.length_nil, true_or, or_true, true_and, and_true, and_self, pb_up_same, pb_up_f, ne_eq, Nat.reduceEqDiff, not_false_eq_true, Nat.reduceAdd, Nat.reduceLeDiff, Nat.zero_le, is_M, mf_kept h.1, mk_kept, ml_kept, a]
    first | exact ⟨fun _ => ⟨ht, h1 hc⟩, fun z => absurd z (by omega)⟩ | exact ⟨fun z => absurd z (by omega), fun _ => ⟨ht, h1 hc⟩⟩
  · try simp only [pb_iconst, pb_null, pb_iload, pb_aload, pb_istore, pb_astore, pb_iinc, pb_bin, pb_bin0, pb_dup, pb_pop, pb_dup2, pb_if, pb_icmp, pb_ifnull, pb_getI, pb_getR, pb_putI, pb_putZ, pb_putR, pb_alen, pb_ald, pb_aldR, pb_ast, pb_astZ, pb_astR, pb_vret, pb_iret, pb_zret, pb_aret, pb_cv, pb_cr, pb_sr, pb_switch, pb_sw, pb_nth, pb_set, pb_tk, pb_add, pb_sub, List.length_cons, List.length_nil, true_or, or_true, true_and, and_true, and_self, pb_up_same, pb_up_f, ne_eq, Nat.reduceEqDiff, not_false_eq_true, Nat.reduceAdd, Nat.reduceLeDiff, Nat.zero_le]
    first | exact ⟨fun z => by simp at z, fun _ => h0 hc⟩ | exact ⟨fun _ => h0 hc, fun z => by simp at z⟩
theorem c_M_ear (h : RM σ T E w ν) (h1 : g_at T b s → Q (.inl (T.1 12 (4 * b + s))) σ) (h0 : ¬ g_at T b s → Q (.inl (-1)) σ) : pb_MJ x i_M_ear [.inr 165, .inl b, .inl s] 213 σ Q := by
  refine pb_m_M_ear ?_
  simp only [pb_b_M_ear_0, pb_b_M_ear_15, pb_b_M_ear_21, pb_iconst, pb_null, pb_iload, pb_aload, pb_istore, pb_astore, pb_iinc, pb_bin, pb_bin0, pb_dup, pb_pop, pb_dup2, pb_if, pb_icmp, pb_ifnull, pb_getI, pb_getR, pb_putI, pb_putZ, pb_putR, pb_alen, pb_ald, pb_aldR, pb_ast, pb_astZ, pb_astR, pb_vret, pb_iret, pb_zret, pb_aret, pb_cv, pb_cr, pb_sr, pb_switch, pb_sw, pb_nth, pb_set, pb_tk, pb_add, pb_sub, List.length_cons, List.length_nil, true_or, or_true, true_and, and_true, and_self, pb_up_same, pb_up_f, ne_eq, Nat.reduceEqDiff, not_false_eq_true, Nat.reduceAdd, Nat.reduceLeDiff, Nat.zero_le, is_M]
  refine c_M_at h (fun hc => ?_) (fun hc => ?_)
  · obtain ⟨⟨hb, hs⟩, hp⟩ := id hc
    have ht : 0 ≤ 4 * b + s ∧ 4 * b + s < 8 := by omega
    have a := m_T h 174 12 rfl ⟨by decide, by decide⟩ ht (Or.inl hp)
    try simp only [pb_iconst, pb_null, pb_iload, pb_aload, pb_istore, pb_astore, pb_iinc, pb_bin, pb_bin0, pb_dup, pb_pop, pb_dup2, pb_if, pb_icmp, pb_ifnull, pb_getI, pb_getR, pb_putI, pb_putZ, pb_putR, pb_alen, pb_ald, pb_aldR, pb_ast, pb_astZ, pb_astR, pb_vret, pb_iret, pb_zret, pb_aret, pb_cv, pb_cr, pb_sr, pb_switch, pb_sw, pb_nth, pb_set, pb_tk, pb_add, pb_sub, List.length_cons, List.length_nil, true_or, or_true, true_and, and_true, and_self, pb_up_same, pb_up_f, ne_eq, Nat.reduceEqDiff, not_false_eq_true, Nat.reduceAdd, Nat.reduceLeDiff, Nat.zero_le, is_M, mf_ear h.1, mk_ear, ml_ear, a]
    first | exact ⟨fun _ => ⟨ht, h1 hc⟩, fun z => absurd z (by omega)⟩ | exact ⟨fun z => absurd z (by omega), fun _ => ⟨ht, h1 hc⟩⟩
  · try simp only [pb_iconst, pb_null, pb_iload, pb_aload, pb_istore, pb_astore, pb_iinc, pb_bin, pb_bin0, pb_dup, pb_pop, pb_dup2, pb_if, pb_icmp, pb_ifnull, pb_getI, pb_getR, pb_putI, pb_putZ, pb_putR, pb_alen, pb_ald, pb_aldR, pb_ast, pb_astZ, pb_astR, pb_vret, pb_iret, pb_zret, pb_aret, pb_cv, pb_cr, pb_sr, pb_switch, pb_sw, pb_nth, pb_set, pb_tk, pb_add, pb_sub, List.length_cons, List.length_nil, true_or, or_true, true_and, and_true, and_self, pb_up_same, pb_up_f, ne_eq, Nat.reduceEqDiff, not_false_eq_true, Nat.reduceAdd, Nat.reduceLeDiff, Nat.zero_le]
    first | exact ⟨fun z => by simp at z, fun _ => h0 hc⟩ | exact ⟨fun _ => h0 hc, fun z => by simp at z⟩
theorem c_M_reference (h : RM σ T E w ν) (h1 : g_at T b s ∧ ¬ T.1 7 (4 * b + s) = 0 → Q (.inl (T.1 8 (4 * b + s))) σ) (h0 : ¬ (g_at T b s ∧ ¬ T.1 7 (4 * b + s) = 0) → Q (.inl (-1)) σ) : pb_MJ x i_M_reference [.inr 165, .inl b, .inl s] 213 σ Q := by
  refine pb_m_M_reference ?_
  simp only [pb_b_M_reference_0, pb_b_M_reference_20, pb_b_M_reference_24, pb_b_M_reference_30, pb_iconst, pb_null, pb_iload, pb_aload, pb_istore, pb_astore, pb_iinc, pb_bin, pb_bin0, pb_dup, pb_pop, pb_dup2, pb_if, pb_icmp, pb_ifnull, pb_getI, pb_getR, pb_putI, pb_putZ, pb_putR, pb_alen, pb_ald, pb_aldR, pb_ast, pb_astZ, pb_astR, pb_vret, pb_iret, pb_zret, pb_aret, pb_cv, pb_cr, pb_sr, pb_switch, pb_sw, pb_nth, pb_set, pb_tk, pb_add, pb_sub, List.length_cons, List.length_nil, true_or, or_true, true_and, and_true, and_self, pb_up_same, pb_up_f, ne_eq, Nat.reduceEqDiff, not_false_eq_true, Nat.reduceAdd, Nat.reduceLeDiff, Nat.zero_le, is_M]
  refine c_M_at h (fun hc => ?_) (fun hc => ?_)
  · obtain ⟨⟨hb, hs⟩, hp⟩ := id hc
    have ht : 0 ≤ 4 * b + s ∧ 4 * b + s < 8 := by omega
    have a7 := m_T h 170 7 rfl ⟨by decide, by decide⟩ ht (Or.inl hp)
    have a8 := m_T h 171 8 rfl ⟨by decide, by decide⟩ ht (Or.inl hp)
    try simp only [pb_iconst, pb_null, pb_iload, pb_aload, pb_istore, pb_astore, pb_iinc, pb_bin, pb_bin0, pb_dup, pb_pop, pb_dup2, pb_if, pb_icmp, pb_ifnull, pb_getI, pb_getR, pb_putI, pb_putZ, pb_putR, pb_alen, pb_ald, pb_aldR, pb_ast, pb_astZ, pb_astR, pb_vret, pb_iret, pb_zret, pb_aret, pb_cv, pb_cr, pb_sr, pb_switch, pb_sw, pb_nth, pb_set, pb_tk, pb_add, pb_sub, List.length_cons, List.length_nil, true_or, or_true, true_and, and_true, and_self, pb_up_same, pb_up_f, ne_eq, Nat.reduceEqDiff, not_false_eq_true, Nat.reduceAdd, Nat.reduceLeDiff, Nat.zero_le, is_M, mf_state h.1, mk_state, ml_state, mf_own h.1, mk_own, ml_own, a7, a8]
    exact ⟨fun z => absurd z (by omega), fun _ => ⟨ht, fun z => ⟨ht, h1 ⟨hc, z⟩⟩, fun z => h0 (fun y => z y.2)⟩⟩
  · try simp only [pb_iconst, pb_null, pb_iload, pb_aload, pb_istore, pb_astore, pb_iinc, pb_bin, pb_bin0, pb_dup, pb_pop, pb_dup2, pb_if, pb_icmp, pb_ifnull, pb_getI, pb_getR, pb_putI, pb_putZ, pb_putR, pb_alen, pb_ald, pb_aldR, pb_ast, pb_astZ, pb_astR, pb_vret, pb_iret, pb_zret, pb_aret, pb_cv, pb_cr, pb_sr, pb_switch, pb_sw, pb_nth, pb_set, pb_tk, pb_add, pb_sub, List.length_cons, List.length_nil, true_or, or_true, true_and, and_true, and_self, pb_up_same, pb_up_f, ne_eq, Nat.reduceEqDiff, not_false_eq_true, Nat.reduceAdd, Nat.reduceLeDiff, Nat.zero_le]
    exact ⟨fun _ => h0 (fun y => hc y.1), fun z => by simp at z⟩
theorem c_M_address (h : RM σ T E w ν) (h1 : g_at T b s → Q (.inl (g_addr T (4 * b + s))) σ) (h0 : ¬ g_at T b s → Q (.inl (-1)) σ) : pb_MJ x i_M_address [.inr 165, .inl b, .inl s] 213 σ Q := by
  refine pb_m_M_address ?_
  simp only [pb_b_M_address_0, pb_b_M_address_15, pb_b_M_address_47, pb_b_M_address_48, pb_b_M_address_49, pb_iconst, pb_null, pb_iload, pb_aload, pb_istore, pb_astore, pb_iinc, pb_bin, pb_bin0, pb_dup, pb_pop, pb_dup2, pb_if, pb_icmp, pb_ifnull, pb_getI, pb_getR, pb_putI, pb_putZ, pb_putR, pb_alen, pb_ald, pb_aldR, pb_ast, pb_astZ, pb_astR, pb_vret, pb_iret, pb_zret, pb_aret, pb_cv, pb_cr, pb_sr, pb_switch, pb_sw, pb_nth, pb_set, pb_tk, pb_add, pb_sub, List.length_cons, List.length_nil, true_or, or_true, true_and, and_true, and_self, pb_up_same, pb_up_f, ne_eq, Nat.reduceEqDiff, not_false_eq_true, Nat.reduceAdd, Nat.reduceLeDiff, Nat.zero_le, is_M]
  refine c_M_at h (fun hc => ?_) (fun hc => ?_)
  · obtain ⟨⟨hb, hs⟩, hp⟩ := id hc
    have ht : 0 ≤ 4 * b + s ∧ 4 * b + s < 8 := by omega
    have a4 := m_T h 167 4 rfl ⟨by decide, by decide⟩ ht (Or.inl hp)
    have a5 := m_T h 168 5 rfl ⟨by decide, by decide⟩ ht (Or.inl hp)
    have a2 := m_T h 169 2 rfl ⟨by decide, by decide⟩ ht (Or.inl hp)
    have h2 := h1 hc
    unfold g_addr at h2
    try simp only [pb_iconst, pb_null, pb_iload, pb_aload, pb_istore, pb_astore, pb_iinc, pb_bin, pb_bin0, pb_dup, pb_pop, pb_dup2, pb_if, pb_icmp, pb_ifnull, pb_getI, pb_getR, pb_putI, pb_putZ, pb_putR, pb_alen, pb_ald, pb_aldR, pb_ast, pb_astZ, pb_astR, pb_vret, pb_iret, pb_zret, pb_aret, pb_cv, pb_cr, pb_sr, pb_switch, pb_sw, pb_nth, pb_set, pb_tk, pb_add, pb_sub, List.length_cons, List.length_nil, true_or, or_true, true_and, and_true, and_self, pb_up_same, pb_up_f, ne_eq, Nat.reduceEqDiff, not_false_eq_true, Nat.reduceAdd, Nat.reduceLeDiff, Nat.zero_le, is_M, mf_address h.1, mk_address, ml_address, mf_draw h.1, mk_draw, ml_draw, mf_mild h.1, mk_mild, ml_mild, a4, a5, a2]
    refine ⟨fun _ => ⟨ht, ht, ht, fun z => ?_, fun z => ?_⟩, fun z => absurd z (by omega)⟩
    · rw [if_pos z] at h2
      exact h2
    · rw [if_neg z] at h2
      exact h2
  · try simp only [pb_iconst, pb_null, pb_iload, pb_aload, pb_istore, pb_astore, pb_iinc, pb_bin, pb_bin0, pb_dup, pb_pop, pb_dup2, pb_if, pb_icmp, pb_ifnull, pb_getI, pb_getR, pb_putI, pb_putZ, pb_putR, pb_alen, pb_ald, pb_aldR, pb_ast, pb_astZ, pb_astR, pb_vret, pb_iret, pb_zret, pb_aret, pb_cv, pb_cr, pb_sr, pb_switch, pb_sw, pb_nth, pb_set, pb_tk, pb_add, pb_sub, List.length_cons, List.length_nil, true_or, or_true, true_and, and_true, and_self, pb_up_same, pb_up_f, ne_eq, Nat.reduceEqDiff, not_false_eq_true, Nat.reduceAdd, Nat.reduceLeDiff, Nat.zero_le]
    exact ⟨fun z => by simp at z, fun _ => h0 hc⟩
theorem c_M_time (h : RM σ T E w ν) (hQ : Q (.inl (E.1 9 0)) σ) : pb_MJ x i_M_time [.inr 165] 213 σ Q := by
  refine pb_m_M_time ?_
  simp only [pb_b_M_time_0, pb_iconst, pb_null, pb_iload, pb_aload, pb_istore, pb_astore, pb_iinc, pb_bin, pb_bin0, pb_dup, pb_pop, pb_dup2, pb_if, pb_icmp, pb_ifnull, pb_getI, pb_getR, pb_putI, pb_putZ, pb_putR, pb_alen, pb_ald, pb_aldR, pb_ast, pb_astZ, pb_astR, pb_vret, pb_iret, pb_zret, pb_aret, pb_cv, pb_cr, pb_sr, pb_switch, pb_sw, pb_nth, pb_set, pb_tk, pb_add, pb_sub, List.length_cons, List.length_nil, true_or, or_true, true_and, and_true, and_self, pb_up_same, pb_up_f, ne_eq, Nat.reduceEqDiff, not_false_eq_true, Nat.reduceAdd, Nat.reduceLeDiff, Nat.zero_le, is_M, h.2.2.2.2.2.2.1.2]
  exact hQ
/-- a spoiling is set -/
theorem rm_upB (h : RM σ T E w ν) (p : Int) (k : Nat) (hp : p = 191 + k) (hk : k = 6 ∨ k = 7) {t v : Int} : RM (pb_up σ 0 p t v) T (ge_set E k t v) w ν := by
  obtain ⟨h1, h2, h3, h4, h5, h6, h7, h8, h9⟩ := h
  refine ⟨h1.cg (fun f i q1 q2 => pb_up_f (by omega)), h2.cg (fun p' i q1 q2 => pb_up_p (by omega)), h3.cg (fun p' i q1 q2 => pb_up_p (by omega)), h4.cg (fun p' i q1 q2 => pb_up_p (by omega)), ?_, fun t' q1 q2 => ?_, ?_, h8.cg (fun p' i q1 q2 => pb_up_p (by omega)), fun f' p' i' hk' => ?_⟩
  · intro t' q1 q2
    rw [ge_set_n (by omega), ge_set_n (by omega), ge_set_n (by omega), ge_set_n (by omega), ge_set_n (by omega), ge_set_n (by omega), pb_up_p (by omega), pb_up_p (by omega), pb_up_p (by omega), pb_up_p (by omega), pb_up_p (by omega)]
    exact h5 t' q1 q2
  · obtain ⟨a1, a2⟩ := h6 t' q1 q2
    by_cases z : t' = t
    · subst z
      rcases hk with rfl | rfl
      · rw [show (ge_set E 6 t' v).1 6 t' = v from g_up_s _ _ _ _, ge_set_n (by decide), hp, show (191 + ((6 : Nat) : Int)) = 197 from rfl, pb_up_same, pb_up_p (by decide)]
        exact ⟨rfl, a2⟩
      · rw [show (ge_set E 7 t' v).1 7 t' = v from g_up_s _ _ _ _, ge_set_n (by decide), hp, show (191 + ((7 : Nat) : Int)) = 198 from rfl, pb_up_same, pb_up_p (by decide)]
        exact ⟨a1, rfl⟩
    · rw [pb_up_i z, pb_up_i z, show (ge_set E k t v).1 6 t' = E.1 6 t' from g_up_n (fun y => z y.2), show (ge_set E k t v).1 7 t' = E.1 7 t' from g_up_n (fun y => z y.2)]
      exact ⟨a1, a2⟩
  · refine ⟨?_, ?_⟩
    · rw [pb_up_f (by decide), ge_set_n (by omega)]
      exact h7.1
    · rw [pb_up_f (by decide), ge_set_n (by omega)]
      exact h7.2
  · rw [pb_up_k (fun y => hk' (by unfold k_K; omega))]
    exact h9 f' p' i' hk'
theorem c_M_spoil {u d : Int} (h : RM σ T E w ν) (h1 : (0 ≤ b ∧ b < 2) ∧ (0 ≤ d ∧ d ≤ 2) → ∀ σ', RM σ' T (if u = 0 then ge_set E 7 b d else ge_set E 6 b d) w ν → Q (.inl 1) σ') (h0 : ¬ ((0 ≤ b ∧ b < 2) ∧ (0 ≤ d ∧ d ≤ 2)) → Q (.inl 0) σ) : pb_MJ x i_M_spoil [.inr 165, .inl b, .inl u, .inl d] 213 σ Q := by
  refine pb_m_M_spoil ?_
  simp only [pb_b_M_spoil_0, pb_b_M_spoil_16, pb_iconst, pb_null, pb_iload, pb_aload, pb_istore, pb_astore, pb_iinc, pb_bin, pb_bin0, pb_dup, pb_pop, pb_dup2, pb_if, pb_icmp, pb_ifnull, pb_getI, pb_getR, pb_putI, pb_putZ, pb_putR, pb_alen, pb_ald, pb_aldR, pb_ast, pb_astZ, pb_astR, pb_vret, pb_iret, pb_zret, pb_aret, pb_cv, pb_cr, pb_sr, pb_switch, pb_sw, pb_nth, pb_set, pb_tk, pb_add, pb_sub, List.length_cons, List.length_nil, true_or, or_true, true_and, and_true, and_self, pb_up_same, pb_up_f, ne_eq, Nat.reduceEqDiff, not_false_eq_true, Nat.reduceAdd, Nat.reduceLeDiff, Nat.zero_le]
  refine c_M_isBus (fun hb => ?_) (fun hb => ?_)
  · try simp only [pb_b_M_spoil_18, pb_b_M_spoil_32, pb_b_M_spoil_39, pb_iconst, pb_null, pb_iload, pb_aload, pb_istore, pb_astore, pb_iinc, pb_bin, pb_bin0, pb_dup, pb_pop, pb_dup2, pb_if, pb_icmp, pb_ifnull, pb_getI, pb_getR, pb_putI, pb_putZ, pb_putR, pb_alen, pb_ald, pb_aldR, pb_ast, pb_astZ, pb_astR, pb_vret, pb_iret, pb_zret, pb_aret, pb_cv, pb_cr, pb_sr, pb_switch, pb_sw, pb_nth, pb_set, pb_tk, pb_add, pb_sub, List.length_cons, List.length_nil, true_or, or_true, true_and, and_true, and_self, pb_up_same, pb_up_f, ne_eq, Nat.reduceEqDiff, not_false_eq_true, Nat.reduceAdd, Nat.reduceLeDiff, Nat.zero_le, is_M, mf_spoilUp h.1, mk_spoilUp, ml_spoilUp, mf_spoilDown h.1, mk_spoilDown, ml_spoilDown]
    refine ⟨fun z => by simp at z, fun _ => ⟨fun z => h0 (fun y => absurd y.2.1 (by omega)), fun z => ⟨fun z2 => ⟨fun z3 => ⟨hb, ?_⟩, fun z3 => ⟨hb, ?_⟩⟩, fun z2 => h0 (fun y => z2 y.2.2)⟩⟩⟩
    · have h2 := h1 ⟨hb, by omega, z2⟩
      rw [if_pos z3] at h2
      exact h2 _ (rm_upB h 198 7 rfl (Or.inr rfl))
    · have h2 := h1 ⟨hb, by omega, z2⟩
      rw [if_neg z3] at h2
      exact h2 _ (rm_upB h 197 6 rfl (Or.inl rfl))
  · try simp only [pb_iconst, pb_null, pb_iload, pb_aload, pb_istore, pb_astore, pb_iinc, pb_bin, pb_bin0, pb_dup, pb_pop, pb_dup2, pb_if, pb_icmp, pb_ifnull, pb_getI, pb_getR, pb_putI, pb_putZ, pb_putR, pb_alen, pb_ald, pb_aldR, pb_ast, pb_astZ, pb_astR, pb_vret, pb_iret, pb_zret, pb_aret, pb_cv, pb_cr, pb_sr, pb_switch, pb_sw, pb_nth, pb_set, pb_tk, pb_add, pb_sub, List.length_cons, List.length_nil, true_or, or_true, true_and, and_true, and_self, pb_up_same, pb_up_f, ne_eq, Nat.reduceEqDiff, not_false_eq_true, Nat.reduceAdd, Nat.reduceLeDiff, Nat.zero_le]
    exact ⟨fun _ => h0 (fun y => hb y.1), fun z => by simp at z⟩
end MA
