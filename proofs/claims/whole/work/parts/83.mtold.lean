/-! what a terminal of the other side does -/
theorem cmpI_0 {a b : Int} : cmpI a b = 0 ↔ a = b := by
  unfold cmpI
  by_cases z : a < b
  · rw [if_pos z]; omega
  · rw [if_neg z]
    by_cases z2 : a = b
    · rw [if_pos z2]; omega
    · rw [if_neg z2]; omega
section MO
variable {x : pb_E} {σ σ' : pb_H} {T : gT} {E E' : gE} {w : gW} {ν : pb_H} {b s t u : Int} {Q : pb_P}
theorem c_M_order {p q : Int} (hQ : Q (.inl (cmpI p q)) σ) : pb_MJ x i_M_order [.inl p, .inl q] 213 σ Q := by
  refine pb_m_M_order ?_
  simp only [pb_b_M_order_0, pb_b_M_order_9, pb_b_M_order_18, pb_b_M_order_19, pb_iconst, pb_null, pb_iload, pb_aload, pb_istore, pb_astore, pb_iinc, pb_bin, pb_bin0, pb_dup, pb_pop, pb_dup2, pb_if, pb_icmp, pb_ifnull, pb_getI, pb_getR, pb_putI, pb_putZ, pb_putR, pb_alen, pb_ald, pb_aldR, pb_ast, pb_astZ, pb_astR, pb_vret, pb_iret, pb_zret, pb_aret, pb_cv, pb_cr, pb_sr, pb_switch, pb_sw, pb_nth, pb_set, pb_tk, pb_add, pb_sub, List.length_cons, List.length_nil, true_or, or_true, true_and, and_true, and_self, pb_up_same, pb_up_f, ne_eq, Nat.reduceEqDiff, not_false_eq_true, Nat.reduceAdd, Nat.reduceLeDiff, Nat.zero_le]
  unfold cmpI at hQ
  refine ⟨fun z => ⟨fun z2 => ?_, fun z2 => ?_⟩, fun z => ?_⟩
  · rw [if_neg (by omega), if_pos (by omega)] at hQ
    exact hQ
  · rw [if_neg (by omega), if_neg (by omega)] at hQ
    exact hQ
  · rw [if_pos (by omega)] at hQ
    exact hQ
theorem c_M_compared {f f' : gF} {l l' : List gF} (h : RM σ T E w ν) (ht : 0 ≤ t ∧ t < 8) (hu : 0 ≤ u ∧ u < 8) (pt : ¬ T.1 1 t = 0) (pu : ¬ T.1 1 u = 0) (lt : T.2 t = f :: l) (lu : T.2 u = f' :: l') (at1 : f.2.1 = if f.1 = 7 then 0 else T.1 4 t) (au : f'.2.1 = if f'.1 = 7 then 0 else T.1 4 u) (hQ : Q (.inl (cmpF f (T.1 14 t) f' (T.1 14 u))) σ) : pb_MJ x i_M_compared [.inr 165, .inl t, .inl u] 213 σ Q := by
  have e1 : pb_mul 8 t = 8 * t := by unfold pb_mul; exact pb_w_id (by unfold pb_R; omega)
  have e2 : pb_mul 8 u = 8 * u := by unfold pb_mul; exact pb_w_id (by unfold pb_R; omega)
  have ft := (h.2.2.1 t ht.1 ht.2).2.2 0 f (by rw [lt]; rfl)
  have fu := (h.2.2.1 u hu.1 hu.2).2.2 0 f' (by rw [lu]; rfl)
  rw [show 8 * t + ((0 : Nat) : Int) = 8 * t by omega] at ft
  rw [show 8 * u + ((0 : Nat) : Int) = 8 * u by omega] at fu
  have a4 := m_T h 167 4 rfl ⟨by decide, by decide⟩ ht (Or.inl pt)
  have a14 := m_T h 178 14 rfl ⟨by decide, by decide⟩ ht (Or.inl pt)
  have b4 := m_T h 167 4 rfl ⟨by decide, by decide⟩ hu (Or.inl pu)
  have b14 := m_T h 178 14 rfl ⟨by decide, by decide⟩ hu (Or.inl pu)
  have k1 : 0 ≤ 8 * t ∧ 8 * t < 64 := by omega
  have k2 : 0 ≤ 8 * u ∧ 8 * u < 64 := by omega
  have hr : cmpF f (T.1 14 t) f' (T.1 14 u) = if f.1 ≤ 6 then (if f'.1 ≤ 6 then (if cmpI f.2.1 f'.2.1 = 0 then (if cmpI (T.1 14 t) (T.1 14 u) = 0 then (if cmpI f.1 f'.1 = 0 then (if cmpI f.2.2.1 f'.2.2.1 = 0 then cmpI f.2.2.2.1 f'.2.2.2.1 else cmpI f.2.2.1 f'.2.2.1) else cmpI f.1 f'.1) else cmpI (T.1 14 t) (T.1 14 u)) else cmpI f.2.1 f'.2.1) else -1) else (if f'.1 ≤ 6 then 1 else (if cmpI f.1 f'.1 = 0 then (if cmpI f.2.1 f'.2.1 = 0 then cmpI f.2.2.2.1 f'.2.2.2.1 else cmpI f.2.1 f'.2.1) else cmpI f.1 f'.1)) := by
    unfold cmpF cmpN cmpL
    simp only [cmpI_0]
  rw [hr] at hQ
  refine pb_m_M_compared ?_
  have hL : f.1 ≤ 6 → f'.1 ≤ 6 → Q (.inl (if cmpI (T.1 4 t) (T.1 4 u) = 0 then (if cmpI (T.1 14 t) (T.1 14 u) = 0 then (if cmpI f.1 f'.1 = 0 then (if cmpI f.2.2.1 f'.2.2.1 = 0 then cmpI f.2.2.2.1 f'.2.2.2.1 else cmpI f.2.2.1 f'.2.2.1) else cmpI f.1 f'.1) else cmpI (T.1 14 t) (T.1 14 u)) else cmpI (T.1 4 t) (T.1 4 u))) σ := by
    intro z1 z2
    rw [if_neg (by omega)] at at1 au
    rw [if_pos z1, if_pos z2, at1, au] at hQ
    exact hQ
  have hG : ¬ f.1 ≤ 6 → ¬ f'.1 ≤ 6 → ∀ p q, p = f.2.1 → q = f'.2.1 → Q (.inl (if cmpI f.1 f'.1 = 0 then (if cmpI p q = 0 then cmpI f.2.2.2.1 f'.2.2.2.1 else cmpI p q) else cmpI f.1 f'.1)) σ := by
    intro z1 z2 p q e3 e4
    subst e3 e4
    rw [if_neg z1, if_neg z2] at hQ
    exact hQ
  by_cases z1 : f.1 ≤ 6
  · by_cases z2 : f'.1 ≤ 6
    · have hq := hL z1 z2
      have n1 : f.1 < 7 := by omega
      have n2 : f'.1 < 7 := by omega
      have n3 : ¬ f.1 = 7 := by omega
      have n4 : ¬ f'.1 = 7 := by omega
      simp only [pb_b_M_compared_0, pb_b_M_compared_26, pb_b_M_compared_27, pb_b_M_compared_47, pb_b_M_compared_48, pb_b_M_compared_60, pb_b_M_compared_61, pb_b_M_compared_62, pb_b_M_compared_77, pb_b_M_compared_83, pb_b_M_compared_99, pb_b_M_compared_105, pb_b_M_compared_161, pb_b_M_compared_171, pb_b_M_compared_173, pb_b_M_compared_174, pb_b_M_compared_219, pb_b_M_compared_229, pb_b_M_compared_239, pb_b_M_compared_249, pb_b_M_compared_251, pb_iconst, pb_null, pb_iload, pb_aload, pb_istore, pb_astore, pb_iinc, pb_bin, pb_bin0, pb_dup, pb_pop, pb_dup2, pb_if, pb_icmp, pb_ifnull, pb_getI, pb_getR, pb_putI, pb_putZ, pb_putR, pb_alen, pb_ald, pb_aldR, pb_ast, pb_astZ, pb_astR, pb_vret, pb_iret, pb_zret, pb_aret, pb_cv, pb_cr, pb_sr, pb_switch, pb_sw, pb_nth, pb_set, pb_tk, pb_add, pb_sub, List.length_cons, List.length_nil, true_or, or_true, true_and, and_true, and_self, pb_up_same, pb_up_f, ne_eq, Nat.reduceEqDiff, not_false_eq_true, Nat.reduceAdd, Nat.reduceLeDiff, Nat.zero_le, is_M, mf_kind h.1, mk_kind, ml_kind, mf_address h.1, mk_address, ml_address, mf_value h.1, mk_value, ml_value, mf_reference h.1, mk_reference, ml_reference, mf_sends h.1, mk_sends, ml_sends, e1, e2, ft.1, ft.2.1, ft.2.2.1, fu.1, fu.2.1, fu.2.2.1, a4, a14, b4, b14, n1, n2, n3, n4, ht, hu, k1, k2, not_true_eq_false, not_false_eq_true, false_imp_iff, true_imp_iff]
      refine c_M_order ?_
      try simp only [pb_iconst, pb_null, pb_iload, pb_aload, pb_istore, pb_astore, pb_iinc, pb_bin, pb_bin0, pb_dup, pb_pop, pb_dup2, pb_if, pb_icmp, pb_ifnull, pb_getI, pb_getR, pb_putI, pb_putZ, pb_putR, pb_alen, pb_ald, pb_aldR, pb_ast, pb_astZ, pb_astR, pb_vret, pb_iret, pb_zret, pb_aret, pb_cv, pb_cr, pb_sr, pb_switch, pb_sw, pb_nth, pb_set, pb_tk, pb_add, pb_sub, List.length_cons, List.length_nil, true_or, or_true, true_and, and_true, and_self, pb_up_same, pb_up_f, ne_eq, Nat.reduceEqDiff, not_false_eq_true, Nat.reduceAdd, Nat.reduceLeDiff, Nat.zero_le, is_M, mf_kind h.1, mk_kind, ml_kind, mf_address h.1, mk_address, ml_address, mf_value h.1, mk_value, ml_value, mf_reference h.1, mk_reference, ml_reference, mf_sends h.1, mk_sends, ml_sends, ft.1, ft.2.1, ft.2.2.1, fu.1, fu.2.1, fu.2.2.1, a4, a14, b4, b14, ht, hu, k1, k2]
      refine c_M_order ?_
      try simp only [pb_iconst, pb_null, pb_iload, pb_aload, pb_istore, pb_astore, pb_iinc, pb_bin, pb_bin0, pb_dup, pb_pop, pb_dup2, pb_if, pb_icmp, pb_ifnull, pb_getI, pb_getR, pb_putI, pb_putZ, pb_putR, pb_alen, pb_ald, pb_aldR, pb_ast, pb_astZ, pb_astR, pb_vret, pb_iret, pb_zret, pb_aret, pb_cv, pb_cr, pb_sr, pb_switch, pb_sw, pb_nth, pb_set, pb_tk, pb_add, pb_sub, List.length_cons, List.length_nil, true_or, or_true, true_and, and_true, and_self, pb_up_same, pb_up_f, ne_eq, Nat.reduceEqDiff, not_false_eq_true, Nat.reduceAdd, Nat.reduceLeDiff, Nat.zero_le, is_M, mf_kind h.1, mk_kind, ml_kind, mf_address h.1, mk_address, ml_address, mf_value h.1, mk_value, ml_value, mf_reference h.1, mk_reference, ml_reference, mf_sends h.1, mk_sends, ml_sends, ft.1, ft.2.1, ft.2.2.1, fu.1, fu.2.1, fu.2.2.1, a4, a14, b4, b14, ht, hu, k1, k2]
      refine c_M_order ?_
      try simp only [pb_iconst, pb_null, pb_iload, pb_aload, pb_istore, pb_astore, pb_iinc, pb_bin, pb_bin0, pb_dup, pb_pop, pb_dup2, pb_if, pb_icmp, pb_ifnull, pb_getI, pb_getR, pb_putI, pb_putZ, pb_putR, pb_alen, pb_ald, pb_aldR, pb_ast, pb_astZ, pb_astR, pb_vret, pb_iret, pb_zret, pb_aret, pb_cv, pb_cr, pb_sr, pb_switch, pb_sw, pb_nth, pb_set, pb_tk, pb_add, pb_sub, List.length_cons, List.length_nil, true_or, or_true, true_and, and_true, and_self, pb_up_same, pb_up_f, ne_eq, Nat.reduceEqDiff, not_false_eq_true, Nat.reduceAdd, Nat.reduceLeDiff, Nat.zero_le, is_M, mf_kind h.1, mk_kind, ml_kind, mf_address h.1, mk_address, ml_address, mf_value h.1, mk_value, ml_value, mf_reference h.1, mk_reference, ml_reference, mf_sends h.1, mk_sends, ml_sends, ft.1, ft.2.1, ft.2.2.1, fu.1, fu.2.1, fu.2.2.1, a4, a14, b4, b14, ht, hu, k1, k2, not_true_eq_false, not_false_eq_true, true_imp_iff, false_imp_iff]
      refine c_M_order ?_
      try simp only [pb_iconst, pb_null, pb_iload, pb_aload, pb_istore, pb_astore, pb_iinc, pb_bin, pb_bin0, pb_dup, pb_pop, pb_dup2, pb_if, pb_icmp, pb_ifnull, pb_getI, pb_getR, pb_putI, pb_putZ, pb_putR, pb_alen, pb_ald, pb_aldR, pb_ast, pb_astZ, pb_astR, pb_vret, pb_iret, pb_zret, pb_aret, pb_cv, pb_cr, pb_sr, pb_switch, pb_sw, pb_nth, pb_set, pb_tk, pb_add, pb_sub, List.length_cons, List.length_nil, true_or, or_true, true_and, and_true, and_self, pb_up_same, pb_up_f, ne_eq, Nat.reduceEqDiff, not_false_eq_true, Nat.reduceAdd, Nat.reduceLeDiff, Nat.zero_le, is_M, mf_kind h.1, mk_kind, ml_kind, mf_address h.1, mk_address, ml_address, mf_value h.1, mk_value, ml_value, mf_reference h.1, mk_reference, ml_reference, mf_sends h.1, mk_sends, ml_sends, ft.1, ft.2.1, ft.2.2.1, fu.1, fu.2.1, fu.2.2.1, a4, a14, b4, b14, ht, hu, k1, k2]
      refine c_M_order ?_
      try simp only [pb_iconst, pb_null, pb_iload, pb_aload, pb_istore, pb_astore, pb_iinc, pb_bin, pb_bin0, pb_dup, pb_pop, pb_dup2, pb_if, pb_icmp, pb_ifnull, pb_getI, pb_getR, pb_putI, pb_putZ, pb_putR, pb_alen, pb_ald, pb_aldR, pb_ast, pb_astZ, pb_astR, pb_vret, pb_iret, pb_zret, pb_aret, pb_cv, pb_cr, pb_sr, pb_switch, pb_sw, pb_nth, pb_set, pb_tk, pb_add, pb_sub, List.length_cons, List.length_nil, true_or, or_true, true_and, and_true, and_self, pb_up_same, pb_up_f, ne_eq, Nat.reduceEqDiff, not_false_eq_true, Nat.reduceAdd, Nat.reduceLeDiff, Nat.zero_le]
      refine ⟨fun y1 => ⟨fun y2 => ⟨fun y3 => ⟨fun y4 => ?_, fun y4 => ?_⟩, fun y3 => ?_⟩, fun y2 => ?_⟩, fun y1 => ?_⟩
      · rw [if_pos y1, if_pos y2, if_pos y3, if_pos y4] at hq
        exact hq
      · rw [if_pos y1, if_pos y2, if_pos y3, if_neg y4] at hq
        exact hq
      · rw [if_pos y1, if_pos y2, if_neg y3] at hq
        exact hq
      · rw [if_pos y1, if_neg y2] at hq
        exact hq
      · rw [if_neg y1] at hq
        exact hq
    · have n1 : f.1 < 7 := by omega
      have n2 : ¬ f'.1 < 7 := by omega
      rw [if_pos z1, if_neg z2] at hQ
      simp only [pb_b_M_compared_0, pb_b_M_compared_26, pb_b_M_compared_27, pb_b_M_compared_47, pb_b_M_compared_48, pb_b_M_compared_60, pb_b_M_compared_61, pb_b_M_compared_62, pb_b_M_compared_77, pb_b_M_compared_83, pb_b_M_compared_99, pb_b_M_compared_105, pb_b_M_compared_161, pb_b_M_compared_171, pb_b_M_compared_173, pb_b_M_compared_174, pb_b_M_compared_219, pb_b_M_compared_229, pb_b_M_compared_239, pb_b_M_compared_249, pb_b_M_compared_251, pb_iconst, pb_null, pb_iload, pb_aload, pb_istore, pb_astore, pb_iinc, pb_bin, pb_bin0, pb_dup, pb_pop, pb_dup2, pb_if, pb_icmp, pb_ifnull, pb_getI, pb_getR, pb_putI, pb_putZ, pb_putR, pb_alen, pb_ald, pb_aldR, pb_ast, pb_astZ, pb_astR, pb_vret, pb_iret, pb_zret, pb_aret, pb_cv, pb_cr, pb_sr, pb_switch, pb_sw, pb_nth, pb_set, pb_tk, pb_add, pb_sub, List.length_cons, List.length_nil, true_or, or_true, true_and, and_true, and_self, pb_up_same, pb_up_f, ne_eq, Nat.reduceEqDiff, not_false_eq_true, Nat.reduceAdd, Nat.reduceLeDiff, Nat.zero_le, is_M, mf_kind h.1, mk_kind, ml_kind, mf_address h.1, mk_address, ml_address, mf_value h.1, mk_value, ml_value, mf_reference h.1, mk_reference, ml_reference, mf_sends h.1, mk_sends, ml_sends, e1, e2, ft.1, fu.1, n1, n2, ht, hu, k1, k2, not_true_eq_false, not_false_eq_true, true_imp_iff, false_imp_iff]
      exact ⟨fun z => absurd z (by decide), fun _ => hQ⟩
  · by_cases z2 : f'.1 ≤ 6
    · have n1 : ¬ f.1 < 7 := by omega
      have n2 : f'.1 < 7 := by omega
      rw [if_neg z1, if_pos z2] at hQ
      simp only [pb_b_M_compared_0, pb_b_M_compared_26, pb_b_M_compared_27, pb_b_M_compared_47, pb_b_M_compared_48, pb_b_M_compared_60, pb_b_M_compared_61, pb_b_M_compared_62, pb_b_M_compared_77, pb_b_M_compared_83, pb_b_M_compared_99, pb_b_M_compared_105, pb_b_M_compared_161, pb_b_M_compared_171, pb_b_M_compared_173, pb_b_M_compared_174, pb_b_M_compared_219, pb_b_M_compared_229, pb_b_M_compared_239, pb_b_M_compared_249, pb_b_M_compared_251, pb_iconst, pb_null, pb_iload, pb_aload, pb_istore, pb_astore, pb_iinc, pb_bin, pb_bin0, pb_dup, pb_pop, pb_dup2, pb_if, pb_icmp, pb_ifnull, pb_getI, pb_getR, pb_putI, pb_putZ, pb_putR, pb_alen, pb_ald, pb_aldR, pb_ast, pb_astZ, pb_astR, pb_vret, pb_iret, pb_zret, pb_aret, pb_cv, pb_cr, pb_sr, pb_switch, pb_sw, pb_nth, pb_set, pb_tk, pb_add, pb_sub, List.length_cons, List.length_nil, true_or, or_true, true_and, and_true, and_self, pb_up_same, pb_up_f, ne_eq, Nat.reduceEqDiff, not_false_eq_true, Nat.reduceAdd, Nat.reduceLeDiff, Nat.zero_le, is_M, mf_kind h.1, mk_kind, ml_kind, mf_address h.1, mk_address, ml_address, mf_value h.1, mk_value, ml_value, mf_reference h.1, mk_reference, ml_reference, mf_sends h.1, mk_sends, ml_sends, e1, e2, ft.1, fu.1, n1, n2, ht, hu, k1, k2, not_true_eq_false, not_false_eq_true, true_imp_iff, false_imp_iff]
      exact ⟨fun z => absurd z (by decide), fun _ => ⟨fun z => absurd z (by decide), fun _ => hQ⟩⟩
    · have n1 : ¬ f.1 < 7 := by omega
      have n2 : ¬ f'.1 < 7 := by omega
      have hq := hG z1 z2
      simp only [pb_b_M_compared_0, pb_b_M_compared_26, pb_b_M_compared_27, pb_b_M_compared_47, pb_b_M_compared_48, pb_b_M_compared_60, pb_b_M_compared_61, pb_b_M_compared_62, pb_b_M_compared_77, pb_b_M_compared_83, pb_b_M_compared_99, pb_b_M_compared_105, pb_b_M_compared_161, pb_b_M_compared_171, pb_b_M_compared_173, pb_b_M_compared_174, pb_b_M_compared_219, pb_b_M_compared_229, pb_b_M_compared_239, pb_b_M_compared_249, pb_b_M_compared_251, pb_iconst, pb_null, pb_iload, pb_aload, pb_istore, pb_astore, pb_iinc, pb_bin, pb_bin0, pb_dup, pb_pop, pb_dup2, pb_if, pb_icmp, pb_ifnull, pb_getI, pb_getR, pb_putI, pb_putZ, pb_putR, pb_alen, pb_ald, pb_aldR, pb_ast, pb_astZ, pb_astR, pb_vret, pb_iret, pb_zret, pb_aret, pb_cv, pb_cr, pb_sr, pb_switch, pb_sw, pb_nth, pb_set, pb_tk, pb_add, pb_sub, List.length_cons, List.length_nil, true_or, or_true, true_and, and_true, and_self, pb_up_same, pb_up_f, ne_eq, Nat.reduceEqDiff, not_false_eq_true, Nat.reduceAdd, Nat.reduceLeDiff, Nat.zero_le, is_M, mf_kind h.1, mk_kind, ml_kind, mf_address h.1, mk_address, ml_address, mf_value h.1, mk_value, ml_value, mf_reference h.1, mk_reference, ml_reference, mf_sends h.1, mk_sends, ml_sends, e1, e2, ft.1, fu.1, a4, b4, n1, n2, ht, hu, k1, k2, not_true_eq_false, not_false_eq_true, true_imp_iff, false_imp_iff]
      refine ⟨fun y1 => ⟨fun y2 => ?_, fun y2 => ?_⟩, fun y1 => ⟨fun y2 => ?_, fun y2 => ?_⟩⟩
      all_goals first
        | have hq' := hq (T.1 4 t) (T.1 4 u) (by rw [at1, if_neg y1]) (by rw [au, if_neg y2])
        | have hq' := hq (T.1 4 t) 0 (by rw [at1, if_neg y1]) (by rw [au, if_pos (Decidable.not_not.mp y2)])
        | have hq' := hq 0 (T.1 4 u) (by rw [at1, if_pos (Decidable.not_not.mp y1)]) (by rw [au, if_neg y2])
        | have hq' := hq 0 0 (by rw [at1, if_pos (Decidable.not_not.mp y1)]) (by rw [au, if_pos (Decidable.not_not.mp y2)])
      all_goals refine c_M_order ?_
      all_goals try simp only [pb_iconst, pb_null, pb_iload, pb_aload, pb_istore, pb_astore, pb_iinc, pb_bin, pb_bin0, pb_dup, pb_pop, pb_dup2, pb_if, pb_icmp, pb_ifnull, pb_getI, pb_getR, pb_putI, pb_putZ, pb_putR, pb_alen, pb_ald, pb_aldR, pb_ast, pb_astZ, pb_astR, pb_vret, pb_iret, pb_zret, pb_aret, pb_cv, pb_cr, pb_sr, pb_switch, pb_sw, pb_nth, pb_set, pb_tk, pb_add, pb_sub, List.length_cons, List.length_nil, true_or, or_true, true_and, and_true, and_self, pb_up_same, pb_up_f, ne_eq, Nat.reduceEqDiff, not_false_eq_true, Nat.reduceAdd, Nat.reduceLeDiff, Nat.zero_le, is_M, mf_kind h.1, mk_kind, ml_kind, mf_address h.1, mk_address, ml_address, mf_value h.1, mk_value, ml_value, mf_reference h.1, mk_reference, ml_reference, mf_sends h.1, mk_sends, ml_sends, ft.1, ft.2.1, ft.2.2.1, fu.1, fu.2.1, fu.2.2.1, a4, a14, b4, b14, ht, hu, k1, k2]
      all_goals refine c_M_order ?_
      all_goals try simp only [pb_iconst, pb_null, pb_iload, pb_aload, pb_istore, pb_astore, pb_iinc, pb_bin, pb_bin0, pb_dup, pb_pop, pb_dup2, pb_if, pb_icmp, pb_ifnull, pb_getI, pb_getR, pb_putI, pb_putZ, pb_putR, pb_alen, pb_ald, pb_aldR, pb_ast, pb_astZ, pb_astR, pb_vret, pb_iret, pb_zret, pb_aret, pb_cv, pb_cr, pb_sr, pb_switch, pb_sw, pb_nth, pb_set, pb_tk, pb_add, pb_sub, List.length_cons, List.length_nil, true_or, or_true, true_and, and_true, and_self, pb_up_same, pb_up_f, ne_eq, Nat.reduceEqDiff, not_false_eq_true, Nat.reduceAdd, Nat.reduceLeDiff, Nat.zero_le, is_M, mf_kind h.1, mk_kind, ml_kind, mf_address h.1, mk_address, ml_address, mf_value h.1, mk_value, ml_value, mf_reference h.1, mk_reference, ml_reference, mf_sends h.1, mk_sends, ml_sends, ft.1, ft.2.1, ft.2.2.1, fu.1, fu.2.1, fu.2.2.1, a4, a14, b4, b14, ht, hu, k1, k2]
      all_goals refine c_M_order ?_
      all_goals try simp only [pb_iconst, pb_null, pb_iload, pb_aload, pb_istore, pb_astore, pb_iinc, pb_bin, pb_bin0, pb_dup, pb_pop, pb_dup2, pb_if, pb_icmp, pb_ifnull, pb_getI, pb_getR, pb_putI, pb_putZ, pb_putR, pb_alen, pb_ald, pb_aldR, pb_ast, pb_astZ, pb_astR, pb_vret, pb_iret, pb_zret, pb_aret, pb_cv, pb_cr, pb_sr, pb_switch, pb_sw, pb_nth, pb_set, pb_tk, pb_add, pb_sub, List.length_cons, List.length_nil, true_or, or_true, true_and, and_true, and_self, pb_up_same, pb_up_f, ne_eq, Nat.reduceEqDiff, not_false_eq_true, Nat.reduceAdd, Nat.reduceLeDiff, Nat.zero_le]
      all_goals refine ⟨fun z => absurd z (by decide), fun _ => ⟨fun y3 => ⟨fun y4 => ?_, fun y4 => ?_⟩, fun y3 => ?_⟩⟩
      all_goals first | (rw [if_pos y3, if_pos y4] at hq'; exact hq') | (rw [if_pos y3, if_neg y4] at hq'; exact hq') | (rw [if_neg y3] at hq'; exact hq')
/-- a frame that went up leaves, or failed once more -/
theorem c_M_left {f : gF} {l : List gF} {a : Int} (h : RM σ T E w ν) (ht : 0 ≤ t ∧ t < 8) (pt : ¬ T.1 1 t = 0) (lt : T.2 t = f :: l) (hf : 0 ≤ f.2.2.2.2 ∧ f.2.2.2.2 < 3) (hQ : ∀ σ', RM σ' (gt_settle T t a) E w ν → Q (.inl 0) σ') : pb_MJ x i_M_left [.inr 165, .inl t, .inl f.1, .inl (if f.1 ≤ 6 ∧ a = 0 then 0 else 1)] 213 σ Q := by
  have e1 : pb_mul 8 t = 8 * t := by unfold pb_mul; exact pb_w_id (by unfold pb_R; omega)
  have k1 : 0 ≤ 8 * t ∧ 8 * t < 64 := by omega
  have ft := (h.2.2.1 t ht.1 ht.2).2.2 0 f (by rw [lt]; rfl)
  rw [show 8 * t + ((0 : Nat) : Int) = 8 * t by omega] at ft
  have a14 := m_T h 178 14 rfl ⟨by decide, by decide⟩ ht (Or.inl pt)
  have ef : pb_w (f.2.2.2.2 + 1) = f.2.2.2.2 + 1 := pb_w_id (by unfold pb_R; omega)
  unfold gt_settle at hQ
  rw [lt] at hQ
  dsimp only at hQ
  rw [ef] at hQ
  have h0 : (0 : Nat) < (T.2 t).length := by rw [lt]; simp
  have el : (T.2 t).eraseIdx 0 = l := by rw [lt]; rfl
  refine pb_m_M_left ?_
  by_cases z : f.1 ≤ 6 ∧ a = 0
  · rw [if_pos z]
    rw [if_pos z.1, if_pos z.2] at hQ
    simp only [pb_b_M_left_0, pb_b_M_left_26, pb_b_M_left_32, pb_b_M_left_40, pb_b_M_left_71, pb_iconst, pb_null, pb_iload, pb_aload, pb_istore, pb_astore, pb_iinc, pb_bin, pb_bin0, pb_dup, pb_pop, pb_dup2, pb_if, pb_icmp, pb_ifnull, pb_getI, pb_getR, pb_putI, pb_putZ, pb_putR, pb_alen, pb_ald, pb_aldR, pb_ast, pb_astZ, pb_astR, pb_vret, pb_iret, pb_zret, pb_aret, pb_cv, pb_cr, pb_sr, pb_switch, pb_sw, pb_nth, pb_set, pb_tk, pb_add, pb_sub, List.length_cons, List.length_nil, true_or, or_true, true_and, and_true, and_self, pb_up_same, pb_up_f, ne_eq, Nat.reduceEqDiff, not_false_eq_true, Nat.reduceAdd, Nat.reduceLeDiff, Nat.zero_le, is_M, mf_failed h.1, mk_failed, ml_failed, mf_sends h.1, mk_sends, ml_sends, e1, ft.2.2.2, ef, pb_up_p, Int.reduceEq]
    have h1 : RM (pb_up σ 0 185 (8 * t) (f.2.2.2.2 + 1)) (gt_row T t ((f.1, f.2.1, f.2.2.1, f.2.2.2.1, f.2.2.2.2 + 1) :: l)) E w ν := by
      obtain ⟨l1, l2, l3⟩ := h.2.2.1 t ht.1 ht.2
      rw [lt] at l1 l2 l3
      refine rm_rowU h (fun f' p i hn => pb_up_k (by omega)) (fun t' z => pb_up_p (by omega)) (fun p i q1 q2 q3 => ?_) (by simpa using l2) (by rw [pb_up_p (by omega), l1]; rfl) (fun i g hi => ?_)
      · unfold pb_up
        rw [if_neg (by omega)]
      · cases i with
        | zero =>
          obtain rfl : (f.1, f.2.1, f.2.2.1, f.2.2.2.1, f.2.2.2.2 + 1) = g := by simpa using hi
          rw [show 8 * t + ((0 : Nat) : Int) = 8 * t by omega, pb_up_p (by omega), pb_up_p (by omega), pb_up_p (by omega), pb_up_same]
          exact ⟨ft.1, ft.2.1, ft.2.2.1, rfl⟩
        | succ i =>
          have l4 := l3 (i + 1) g (by simpa using hi)
          rw [pb_up_p (by omega), pb_up_p (by omega), pb_up_p (by omega), pb_up_i (by omega)]
          exact l4
    refine ⟨fun _ => ⟨k1, k1, k1, fun z2 => ?_, fun z2 => ?_⟩, fun z2 => absurd trivial z2⟩
    · rw [if_neg (by omega)] at hQ
      exact hQ _ h1
    · rw [if_pos (by omega)] at hQ
      refine c_M_lose h1 ht (fun σ1 h2 => ?_)
      try simp only [pb_iconst, pb_null, pb_iload, pb_aload, pb_istore, pb_astore, pb_iinc, pb_bin, pb_bin0, pb_dup, pb_pop, pb_dup2, pb_if, pb_icmp, pb_ifnull, pb_getI, pb_getR, pb_putI, pb_putZ, pb_putR, pb_alen, pb_ald, pb_aldR, pb_ast, pb_astZ, pb_astR, pb_vret, pb_iret, pb_zret, pb_aret, pb_cv, pb_cr, pb_sr, pb_switch, pb_sw, pb_nth, pb_set, pb_tk, pb_add, pb_sub, List.length_cons, List.length_nil, true_or, or_true, true_and, and_true, and_self, pb_up_same, pb_up_f, ne_eq, Nat.reduceEqDiff, not_false_eq_true, Nat.reduceAdd, Nat.reduceLeDiff, Nat.zero_le]
      exact hQ _ h2
  · rw [if_neg z]
    simp only [pb_b_M_left_0, pb_b_M_left_26, pb_b_M_left_32, pb_b_M_left_40, pb_b_M_left_71, pb_iconst, pb_null, pb_iload, pb_aload, pb_istore, pb_astore, pb_iinc, pb_bin, pb_bin0, pb_dup, pb_pop, pb_dup2, pb_if, pb_icmp, pb_ifnull, pb_getI, pb_getR, pb_putI, pb_putZ, pb_putR, pb_alen, pb_ald, pb_aldR, pb_ast, pb_astZ, pb_astR, pb_vret, pb_iret, pb_zret, pb_aret, pb_cv, pb_cr, pb_sr, pb_switch, pb_sw, pb_nth, pb_set, pb_tk, pb_add, pb_sub, List.length_cons, List.length_nil, true_or, or_true, true_and, and_true, and_self, pb_up_same, pb_up_f, ne_eq, Nat.reduceEqDiff, not_false_eq_true, Nat.reduceAdd, Nat.reduceLeDiff, Nat.zero_le, is_M, mf_failed h.1, mk_failed, ml_failed, mf_sends h.1, mk_sends, ml_sends, a14]
    refine ⟨fun z2 => absurd z2 (by decide), fun _ => ⟨fun z2 => ?_, fun z2 => ?_⟩⟩
    · rw [if_neg (by omega)] at hQ
      have h1 := rm_upT (t := t) (v := T.1 14 t) h 178 14 rfl ⟨by decide, by decide⟩
      have h2 : RM (pb_up σ 0 178 t (T.1 14 t)) T E w ν := rm_gh h1 (fun k t' q1 q2 q3 => by
        show T.1 k t' = g_up T.1 14 t (T.1 14 t) k t'
        unfold g_up
        split
        · rename_i z3; rw [z3.1, z3.2]
        · rfl) rfl
      refine ⟨ht, ht, c_M_upGone (k := 0) h2 ht h0 (fun σ1 h3 => ?_)⟩
      try simp only [pb_iconst, pb_null, pb_iload, pb_aload, pb_istore, pb_astore, pb_iinc, pb_bin, pb_bin0, pb_dup, pb_pop, pb_dup2, pb_if, pb_icmp, pb_ifnull, pb_getI, pb_getR, pb_putI, pb_putZ, pb_putR, pb_alen, pb_ald, pb_aldR, pb_ast, pb_astZ, pb_astR, pb_vret, pb_iret, pb_zret, pb_aret, pb_cv, pb_cr, pb_sr, pb_switch, pb_sw, pb_nth, pb_set, pb_tk, pb_add, pb_sub, List.length_cons, List.length_nil, true_or, or_true, true_and, and_true, and_self, pb_up_same, pb_up_f, ne_eq, Nat.reduceEqDiff, not_false_eq_true, Nat.reduceAdd, Nat.reduceLeDiff, Nat.zero_le]
      rw [el] at h3
      exact hQ _ h3
    · have z3 : ¬ a = 0 := fun y => z ⟨by omega, y⟩
      rw [if_pos (by omega), if_neg z3] at hQ
      have h1 := rm_upT (t := t) (v := pb_w (1 - T.1 14 t)) h 178 14 rfl ⟨by decide, by decide⟩
      refine ⟨ht, ht, c_M_upGone (k := 0) h1 ht h0 (fun σ1 h3 => ?_)⟩
      try simp only [pb_iconst, pb_null, pb_iload, pb_aload, pb_istore, pb_astore, pb_iinc, pb_bin, pb_bin0, pb_dup, pb_pop, pb_dup2, pb_if, pb_icmp, pb_ifnull, pb_getI, pb_getR, pb_putI, pb_putZ, pb_putR, pb_alen, pb_ald, pb_aldR, pb_ast, pb_astZ, pb_astR, pb_vret, pb_iret, pb_zret, pb_aret, pb_cv, pb_cr, pb_sr, pb_switch, pb_sw, pb_nth, pb_set, pb_tk, pb_add, pb_sub, List.length_cons, List.length_nil, true_or, or_true, true_and, and_true, and_self, pb_up_same, pb_up_f, ne_eq, Nat.reduceEqDiff, not_false_eq_true, Nat.reduceAdd, Nat.reduceLeDiff, Nat.zero_le]
      have e3 : ((gt_set T 14 t (pb_w (1 - T.1 14 t))).2 t).eraseIdx 0 = l := el
      rw [e3] at h3
      exact hQ _ h3
theorem c_M_hears {f : gF} (h : RM σ T E w ν) (ht : 0 ≤ t ∧ t < 8) (pt : ¬ T.1 1 t = 0) (hQ : ∀ σ', RM σ' (gt_hear T t f) E w ν → Q (.inl 0) σ') : pb_MJ x i_M_hears [.inr 165, .inl t, .inl f.1, .inl f.2.1, .inl f.2.2.1, .inl f.2.2.2.1] 213 σ Q := by
  have a4 := m_T h 167 4 rfl ⟨by decide, by decide⟩ ht (Or.inl pt)
  have a5 := m_T h 168 5 rfl ⟨by decide, by decide⟩ ht (Or.inl pt)
  have a7 := m_T h 170 7 rfl ⟨by decide, by decide⟩ ht (Or.inl pt)
  unfold gt_hear at hQ
  refine pb_m_M_hears ?_
  by_cases k9 : f.1 = 9
  · rw [if_pos k9] at hQ
    have n1 : ¬ f.1 = 10 := by omega
    have n2 : ¬ f.1 = 11 := by omega
    have n3 : ¬ f.1 = 12 := by omega
    simp only [pb_b_M_hears_0, pb_b_M_hears_50, pb_b_M_hears_74, pb_b_M_hears_107, pb_b_M_hears_155, pb_iconst, pb_null, pb_iload, pb_aload, pb_istore, pb_astore, pb_iinc, pb_bin, pb_bin0, pb_dup, pb_pop, pb_dup2, pb_if, pb_icmp, pb_ifnull, pb_getI, pb_getR, pb_putI, pb_putZ, pb_putR, pb_alen, pb_ald, pb_aldR, pb_ast, pb_astZ, pb_astR, pb_vret, pb_iret, pb_zret, pb_aret, pb_cv, pb_cr, pb_sr, pb_switch, pb_sw, pb_nth, pb_set, pb_tk, pb_add, pb_sub, List.length_cons, List.length_nil, true_or, or_true, true_and, and_true, and_self, pb_up_same, pb_up_f, ne_eq, Nat.reduceEqDiff, not_false_eq_true, Nat.reduceAdd, Nat.reduceLeDiff, Nat.zero_le, is_M, mf_address h.1, mk_address, ml_address, mf_draw h.1, mk_draw, ml_draw, mf_state h.1, mk_state, ml_state, mf_own h.1, mk_own, ml_own, mf_sends h.1, mk_sends, ml_sends, mf_takes h.1, mk_takes, ml_takes, a4, a5, n1, n2, n3, k9, not_true_eq_false, false_imp_iff, true_imp_iff, ht, pb_up_p, Int.reduceEq]
    refine ⟨fun z => ?_, fun z => ⟨fun z2 => ?_, fun z2 => ?_⟩⟩
    · rw [if_neg (fun y => z y.1)] at hQ
      exact hQ _ h
    · rw [if_neg (fun y => z2 y.2)] at hQ
      exact hQ _ h
    · rw [if_pos ⟨Decidable.not_not.mp z, Decidable.not_not.mp z2⟩] at hQ
      exact hQ _ (rm_upT (rm_upT (rm_upT h 167 4 rfl ⟨by decide, by decide⟩) 178 14 rfl ⟨by decide, by decide⟩) 179 15 rfl ⟨by decide, by decide⟩)
  · rw [if_neg k9] at hQ
    by_cases k10 : f.1 = 10
    · rw [if_pos k10] at hQ
      have n2 : ¬ f.1 = 11 := by omega
      have n3 : ¬ f.1 = 12 := by omega
      simp only [pb_b_M_hears_0, pb_b_M_hears_50, pb_b_M_hears_74, pb_b_M_hears_107, pb_b_M_hears_155, pb_iconst, pb_null, pb_iload, pb_aload, pb_istore, pb_astore, pb_iinc, pb_bin, pb_bin0, pb_dup, pb_pop, pb_dup2, pb_if, pb_icmp, pb_ifnull, pb_getI, pb_getR, pb_putI, pb_putZ, pb_putR, pb_alen, pb_ald, pb_aldR, pb_ast, pb_astZ, pb_astR, pb_vret, pb_iret, pb_zret, pb_aret, pb_cv, pb_cr, pb_sr, pb_switch, pb_sw, pb_nth, pb_set, pb_tk, pb_add, pb_sub, List.length_cons, List.length_nil, true_or, or_true, true_and, and_true, and_self, pb_up_same, pb_up_f, ne_eq, Nat.reduceEqDiff, not_false_eq_true, Nat.reduceAdd, Nat.reduceLeDiff, Nat.zero_le, is_M, mf_address h.1, mk_address, ml_address, mf_draw h.1, mk_draw, ml_draw, mf_state h.1, mk_state, ml_state, mf_own h.1, mk_own, ml_own, mf_sends h.1, mk_sends, ml_sends, mf_takes h.1, mk_takes, ml_takes, a4, a5, n2, n3, k9, k10, not_true_eq_false, false_imp_iff, true_imp_iff, ht, Int.reduceEq]
      refine ⟨fun z => ?_, fun z => ?_⟩
      · rw [if_neg z] at hQ
        exact hQ _ h
      · rw [if_pos (Decidable.not_not.mp z)] at hQ
        refine c_M_lose h ht (fun σ1 h1 => ?_)
        try simp only [pb_iconst, pb_null, pb_iload, pb_aload, pb_istore, pb_astore, pb_iinc, pb_bin, pb_bin0, pb_dup, pb_pop, pb_dup2, pb_if, pb_icmp, pb_ifnull, pb_getI, pb_getR, pb_putI, pb_putZ, pb_putR, pb_alen, pb_ald, pb_aldR, pb_ast, pb_astZ, pb_astR, pb_vret, pb_iret, pb_zret, pb_aret, pb_cv, pb_cr, pb_sr, pb_switch, pb_sw, pb_nth, pb_set, pb_tk, pb_add, pb_sub, List.length_cons, List.length_nil, true_or, or_true, true_and, and_true, and_self, pb_up_same, pb_up_f, ne_eq, Nat.reduceEqDiff, not_false_eq_true, Nat.reduceAdd, Nat.reduceLeDiff, Nat.zero_le]
        exact hQ _ h1
    · rw [if_neg k10] at hQ
      by_cases k11 : f.1 = 11
      · rw [if_pos k11] at hQ
        have n3 : ¬ f.1 = 12 := by omega
        simp only [pb_b_M_hears_0, pb_b_M_hears_50, pb_b_M_hears_74, pb_b_M_hears_107, pb_b_M_hears_155, pb_iconst, pb_null, pb_iload, pb_aload, pb_istore, pb_astore, pb_iinc, pb_bin, pb_bin0, pb_dup, pb_pop, pb_dup2, pb_if, pb_icmp, pb_ifnull, pb_getI, pb_getR, pb_putI, pb_putZ, pb_putR, pb_alen, pb_ald, pb_aldR, pb_ast, pb_astZ, pb_astR, pb_vret, pb_iret, pb_zret, pb_aret, pb_cv, pb_cr, pb_sr, pb_switch, pb_sw, pb_nth, pb_set, pb_tk, pb_add, pb_sub, List.length_cons, List.length_nil, true_or, or_true, true_and, and_true, and_self, pb_up_same, pb_up_f, ne_eq, Nat.reduceEqDiff, not_false_eq_true, Nat.reduceAdd, Nat.reduceLeDiff, Nat.zero_le, is_M, mf_address h.1, mk_address, ml_address, mf_draw h.1, mk_draw, ml_draw, mf_state h.1, mk_state, ml_state, mf_own h.1, mk_own, ml_own, mf_sends h.1, mk_sends, ml_sends, mf_takes h.1, mk_takes, ml_takes, a4, a5, n3, k9, k10, k11, not_true_eq_false, false_imp_iff, true_imp_iff, ht, Int.reduceEq]
        refine ⟨fun z => ?_, fun z => ?_⟩
        · rw [if_neg z] at hQ
          exact hQ _ h
        · rw [if_pos (Decidable.not_not.mp z)] at hQ
          refine c_M_up (a := T.1 4 t) h ht (fun σ1 h1 => ?_)
          try simp only [pb_iconst, pb_null, pb_iload, pb_aload, pb_istore, pb_astore, pb_iinc, pb_bin, pb_bin0, pb_dup, pb_pop, pb_dup2, pb_if, pb_icmp, pb_ifnull, pb_getI, pb_getR, pb_putI, pb_putZ, pb_putR, pb_alen, pb_ald, pb_aldR, pb_ast, pb_astZ, pb_astR, pb_vret, pb_iret, pb_zret, pb_aret, pb_cv, pb_cr, pb_sr, pb_switch, pb_sw, pb_nth, pb_set, pb_tk, pb_add, pb_sub, List.length_cons, List.length_nil, true_or, or_true, true_and, and_true, and_self, pb_up_same, pb_up_f, ne_eq, Nat.reduceEqDiff, not_false_eq_true, Nat.reduceAdd, Nat.reduceLeDiff, Nat.zero_le]
          exact hQ _ h1
      · rw [if_neg k11] at hQ
        by_cases k12 : f.1 = 12
        · rw [if_pos k12] at hQ
          simp only [pb_b_M_hears_0, pb_b_M_hears_50, pb_b_M_hears_74, pb_b_M_hears_107, pb_b_M_hears_155, pb_iconst, pb_null, pb_iload, pb_aload, pb_istore, pb_astore, pb_iinc, pb_bin, pb_bin0, pb_dup, pb_pop, pb_dup2, pb_if, pb_icmp, pb_ifnull, pb_getI, pb_getR, pb_putI, pb_putZ, pb_putR, pb_alen, pb_ald, pb_aldR, pb_ast, pb_astZ, pb_astR, pb_vret, pb_iret, pb_zret, pb_aret, pb_cv, pb_cr, pb_sr, pb_switch, pb_sw, pb_nth, pb_set, pb_tk, pb_add, pb_sub, List.length_cons, List.length_nil, true_or, or_true, true_and, and_true, and_self, pb_up_same, pb_up_f, ne_eq, Nat.reduceEqDiff, not_false_eq_true, Nat.reduceAdd, Nat.reduceLeDiff, Nat.zero_le, is_M, mf_address h.1, mk_address, ml_address, mf_draw h.1, mk_draw, ml_draw, mf_state h.1, mk_state, ml_state, mf_own h.1, mk_own, ml_own, mf_sends h.1, mk_sends, ml_sends, mf_takes h.1, mk_takes, ml_takes, a4, a5, a7, k9, k10, k11, k12, not_true_eq_false, false_imp_iff, true_imp_iff, ht, pb_up_p, Int.reduceEq]
          refine ⟨fun z => ?_, fun z => ⟨fun z2 => ?_, fun z2 => ?_⟩⟩
          · rw [if_neg (fun y => y.1 z)] at hQ
            exact hQ _ h
          · rw [if_neg (fun y => z2 y.2)] at hQ
            exact hQ _ h
          · rw [if_pos ⟨z, Decidable.not_not.mp z2⟩] at hQ
            refine c_M_up (rm_upT (rm_upT h 170 7 rfl ⟨by decide, by decide⟩) 171 8 rfl ⟨by decide, by decide⟩) ht (a := T.1 4 t) (fun σ1 h1 => ?_)
            try simp only [pb_iconst, pb_null, pb_iload, pb_aload, pb_istore, pb_astore, pb_iinc, pb_bin, pb_bin0, pb_dup, pb_pop, pb_dup2, pb_if, pb_icmp, pb_ifnull, pb_getI, pb_getR, pb_putI, pb_putZ, pb_putR, pb_alen, pb_ald, pb_aldR, pb_ast, pb_astZ, pb_astR, pb_vret, pb_iret, pb_zret, pb_aret, pb_cv, pb_cr, pb_sr, pb_switch, pb_sw, pb_nth, pb_set, pb_tk, pb_add, pb_sub, List.length_cons, List.length_nil, true_or, or_true, true_and, and_true, and_self, pb_up_same, pb_up_f, ne_eq, Nat.reduceEqDiff, not_false_eq_true, Nat.reduceAdd, Nat.reduceLeDiff, Nat.zero_le]
            exact hQ _ h1
        · rw [if_neg k12] at hQ
          simp only [pb_b_M_hears_0, pb_b_M_hears_50, pb_b_M_hears_74, pb_b_M_hears_107, pb_b_M_hears_155, pb_iconst, pb_null, pb_iload, pb_aload, pb_istore, pb_astore, pb_iinc, pb_bin, pb_bin0, pb_dup, pb_pop, pb_dup2, pb_if, pb_icmp, pb_ifnull, pb_getI, pb_getR, pb_putI, pb_putZ, pb_putR, pb_alen, pb_ald, pb_aldR, pb_ast, pb_astZ, pb_astR, pb_vret, pb_iret, pb_zret, pb_aret, pb_cv, pb_cr, pb_sr, pb_switch, pb_sw, pb_nth, pb_set, pb_tk, pb_add, pb_sub, List.length_cons, List.length_nil, true_or, or_true, true_and, and_true, and_self, pb_up_same, pb_up_f, ne_eq, Nat.reduceEqDiff, not_false_eq_true, Nat.reduceAdd, Nat.reduceLeDiff, Nat.zero_le, k9, k10, k11, k12, not_true_eq_false, false_imp_iff, true_imp_iff, Int.reduceEq]
          exact hQ _ h
end MO
