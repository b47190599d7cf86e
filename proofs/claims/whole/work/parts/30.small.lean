/-! small methods, exactly -/
theorem pb_up_same (σ : pb_H) (f : Nat) (p i v : Int) : pb_up σ f p i v f p i = v := by simp [pb_up]
theorem pb_up_f {σ : pb_H} {f f' : Nat} {p p' i i' v : Int} (h : f' ≠ f) : pb_up σ f p i v f' p' i' = σ f' p' i' := by simp [pb_up, h]
theorem pb_up_p {σ : pb_H} {f f' : Nat} {p p' i i' v : Int} (h : p' ≠ p) : pb_up σ f p i v f' p' i' = σ f' p' i' := by simp [pb_up, h]
theorem pb_up_i {σ : pb_H} {f f' : Nat} {p p' i i' v : Int} (h : i' ≠ i) : pb_up σ f p i v f' p' i' = σ f' p' i' := by simp [pb_up, h]
theorem c_J_compare {x : pb_E} {n : Nat} {σ : pb_H} {Q : pb_P} {a b : Int} (hQ : Q (.inl (if a < b then -1 else if a = b then 0 else 1)) σ) : pb_MJ x i_J_compare [.inl a, .inl b] n σ Q := by
  refine pb_m_J_compare ?_
  simp only [pb_b_J_compare_0, pb_b_J_compare_9, pb_b_J_compare_18, pb_b_J_compare_19, pb_iconst, pb_null, pb_iload, pb_aload, pb_istore, pb_astore, pb_iinc, pb_bin, pb_bin0, pb_dup, pb_pop, pb_dup2, pb_if, pb_icmp, pb_ifnull, pb_getI, pb_getR, pb_putI, pb_putZ, pb_putR, pb_alen, pb_ald, pb_aldR, pb_ast, pb_astZ, pb_astR, pb_vret, pb_iret, pb_zret, pb_aret, pb_cv, pb_cr, pb_sr, pb_switch, pb_sw, pb_nth, pb_set, pb_tk, pb_add, pb_sub, List.length_cons, List.length_nil, true_or, or_true, true_and, and_true, and_self, pb_up_same, pb_up_f, ne_eq, Nat.reduceEqDiff, not_false_eq_true, Nat.reduceAdd, Nat.reduceLeDiff, Nat.zero_le]
  refine ⟨fun h => ⟨fun h2 => ?_, fun h2 => ?_⟩, fun h => ?_⟩
  · rwa [if_neg (by omega), if_neg (by omega)] at hQ
  · rwa [if_neg (by omega), if_pos (by omega)] at hQ
  · rwa [if_pos (by omega)] at hQ
theorem c_F_isNumbered {x : pb_E} {n : Nat} {σ : pb_H} {Q : pb_P} {q : Int} (hq : pb_is 3 n q) (hQ : Q (.inl (if σ 301 q 0 ≤ 6 then 1 else 0)) σ) : pb_MJ x i_F_isNumbered [.inr q] n σ Q := by
  refine pb_m_F_isNumbered ?_
  simp only [pb_b_F_isNumbered_0, pb_b_F_isNumbered_13, pb_b_F_isNumbered_14, pb_iconst, pb_null, pb_iload, pb_aload, pb_istore, pb_astore, pb_iinc, pb_bin, pb_bin0, pb_dup, pb_pop, pb_dup2, pb_if, pb_icmp, pb_ifnull, pb_getI, pb_getR, pb_putI, pb_putZ, pb_putR, pb_alen, pb_ald, pb_aldR, pb_ast, pb_astZ, pb_astR, pb_vret, pb_iret, pb_zret, pb_aret, pb_cv, pb_cr, pb_sr, pb_switch, pb_sw, pb_nth, pb_set, pb_tk, pb_add, pb_sub, List.length_cons, List.length_nil, true_or, or_true, true_and, and_true, and_self, pb_up_same, pb_up_f, ne_eq, Nat.reduceEqDiff, not_false_eq_true, Nat.reduceAdd, Nat.reduceLeDiff, Nat.zero_le, hq]
  refine ⟨fun h => ?_, fun h => ?_⟩
  · rwa [if_neg (by omega)] at hQ
  · rwa [if_pos (by omega)] at hQ
theorem c_F_failsForGood {x : pb_E} {n : Nat} {σ : pb_H} {Q : pb_P} {q : Int} (hq : pb_is 3 n q) (hQ : Q (.inl (if 3 ≤ pb_w (σ 305 q 0 + 1) then 1 else 0)) (pb_up σ 305 q 0 (pb_w (σ 305 q 0 + 1)))) : pb_MJ x i_F_failsForGood [.inr q] n σ Q := by
  refine pb_m_F_failsForGood ?_
  simp only [pb_b_F_failsForGood_0, pb_b_F_failsForGood_22, pb_b_F_failsForGood_23, pb_iconst, pb_null, pb_iload, pb_aload, pb_istore, pb_astore, pb_iinc, pb_bin, pb_bin0, pb_dup, pb_pop, pb_dup2, pb_if, pb_icmp, pb_ifnull, pb_getI, pb_getR, pb_putI, pb_putZ, pb_putR, pb_alen, pb_ald, pb_aldR, pb_ast, pb_astZ, pb_astR, pb_vret, pb_iret, pb_zret, pb_aret, pb_cv, pb_cr, pb_sr, pb_switch, pb_sw, pb_nth, pb_set, pb_tk, pb_add, pb_sub, List.length_cons, List.length_nil, true_or, or_true, true_and, and_true, and_self, pb_up_same, pb_up_f, ne_eq, Nat.reduceEqDiff, not_false_eq_true, Nat.reduceAdd, Nat.reduceLeDiff, Nat.zero_le, hq, pb_up_same]
  refine ⟨fun h => ?_, fun h => ?_⟩
  · rwa [if_neg (by omega)] at hQ
  · rwa [if_pos (by omega)] at hQ
theorem c_R_first {x : pb_E} {n : Nat} {σ : pb_H} {Q : pb_P} {r : Int} (hr : pb_is 2 n r) (ha : pb_is 106 n (σ 201 r 0)) (hl : 0 < pb_ln (σ 201 r 0)) (hQ : Q (.inr (σ 0 (σ 201 r 0) 0)) σ) : pb_MJ x i_R_first [.inr r] n σ Q := by
  refine pb_m_R_first ?_
  simp only [pb_b_R_first_0, pb_iconst, pb_null, pb_iload, pb_aload, pb_istore, pb_astore, pb_iinc, pb_bin, pb_bin0, pb_dup, pb_pop, pb_dup2, pb_if, pb_icmp, pb_ifnull, pb_getI, pb_getR, pb_putI, pb_putZ, pb_putR, pb_alen, pb_ald, pb_aldR, pb_ast, pb_astZ, pb_astR, pb_vret, pb_iret, pb_zret, pb_aret, pb_cv, pb_cr, pb_sr, pb_switch, pb_sw, pb_nth, pb_set, pb_tk, pb_add, pb_sub, List.length_cons, List.length_nil, true_or, or_true, true_and, and_true, and_self, pb_up_same, pb_up_f, ne_eq, Nat.reduceEqDiff, not_false_eq_true, Nat.reduceAdd, Nat.reduceLeDiff, Nat.zero_le, hr, ha]
  exact ⟨⟨by omega, hl⟩, hQ⟩
theorem c_R_removeAll {x : pb_E} {n : Nat} {σ : pb_H} {Q : pb_P} {r : Int} (hr : pb_is 2 n r) (hQ : Q (.inl 0) (pb_up σ 202 r 0 0)) : pb_MJ x i_R_removeAll [.inr r] n σ Q := by
  refine pb_m_R_removeAll ?_
  simp only [pb_b_R_removeAll_0, pb_iconst, pb_null, pb_iload, pb_aload, pb_istore, pb_astore, pb_iinc, pb_bin, pb_bin0, pb_dup, pb_pop, pb_dup2, pb_if, pb_icmp, pb_ifnull, pb_getI, pb_getR, pb_putI, pb_putZ, pb_putR, pb_alen, pb_ald, pb_aldR, pb_ast, pb_astZ, pb_astR, pb_vret, pb_iret, pb_zret, pb_aret, pb_cv, pb_cr, pb_sr, pb_switch, pb_sw, pb_nth, pb_set, pb_tk, pb_add, pb_sub, List.length_cons, List.length_nil, true_or, or_true, true_and, and_true, and_self, pb_up_same, pb_up_f, ne_eq, Nat.reduceEqDiff, not_false_eq_true, Nat.reduceAdd, Nat.reduceLeDiff, Nat.zero_le, hr]
  exact hQ
