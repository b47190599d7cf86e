theorem gt_set_k {T : gT} {k k' : Nat} {t t' v : Int} (h : k' ≠ k) : (gt_set T k t v).1 k' t' = T.1 k' t' := g_up_n (fun z => h z.1)
section MTD
variable {x : pb_E} {σ σ' : pb_H} {T : gT} {E E' : gE} {w : gW} {ν : pb_H} {b s t u : Int} {Q : pb_P}
def gt_told (T : gT) (t : Int) (f : gF) : gT := if f.1 = 5 then (if ¬ T.1 7 t = 0 ∧ T.1 8 t = f.2.2.1 then gt_set (gt_null (gt_put T t (6, T.1 4 t, f.2.2.1, 0, 0)) t) 10 t f.2.2.2.1 else gt_put T t (6, T.1 4 t, f.2.2.1, 0, 0)) else (if ¬ T.1 7 t = 0 ∧ T.1 8 t = f.2.2.1 then gt_follow T t f else T)
theorem gt_receive_told {f : gF} {d : Int} : gt_receive T t f d = if T.1 15 t = d then gt_told (gt_set T 15 t (pb_w (1 - d))) t f else T := by
  unfold gt_receive gt_told
  have e1 : (gt_set T 15 t (pb_w (1 - d))).1 7 t = T.1 7 t := gt_set_k (by decide)
  have e2 : (gt_set T 15 t (pb_w (1 - d))).1 8 t = T.1 8 t := gt_set_k (by decide)
  have e3 : (gt_set T 15 t (pb_w (1 - d))).1 4 t = T.1 4 t := gt_set_k (by decide)
  rw [e1, e2, e3]
theorem gt_self {k : Nat} : ∀ k' t', T.1 k' t' = (gt_set T k t (T.1 k t)).1 k' t' := by
  intro k' t'
  show T.1 k' t' = g_up T.1 k t (T.1 k t) k' t'
  unfold g_up
  split
  · rename_i z; rw [z.1, z.2]
  · rfl
theorem c_M_told {f : gF} (h : RM σ T E w ν) (ht : 0 ≤ t ∧ t < 8) (pt : ¬ T.1 1 t = 0) (hQ : ∀ σ', RM σ' (gt_told T t f) E w ν → Q (.inl 0) σ') : pb_MJ x i_M_told [.inr 165, .inl t, .inl f.1, .inl f.2.2.1, .inl f.2.2.2.1] 213 σ Q := by
  have a7 := m_T h 170 7 rfl ⟨by decide, by decide⟩ ht (Or.inl pt)
  have a8 := m_T h 171 8 rfl ⟨by decide, by decide⟩ ht (Or.inl pt)
  have a10 := m_T h 175 10 rfl ⟨by decide, by decide⟩ ht (Or.inl pt)
  unfold gt_told at hQ
  refine pb_m_M_told ?_
  by_cases k5 : f.1 = 5
  · rw [if_pos k5] at hQ
    have n1 : ¬ f.1 = 1 := by omega
    by_cases hm : ¬ T.1 7 t = 0 ∧ T.1 8 t = f.2.2.1
    · rw [if_pos hm] at hQ
      simp only [pb_b_M_told_0, pb_b_M_told_23, pb_b_M_told_24, pb_iconst, pb_null, pb_iload, pb_aload, pb_istore, pb_astore, pb_iinc, pb_bin, pb_bin0, pb_dup, pb_pop, pb_dup2, pb_if, pb_icmp, pb_ifnull, pb_getI, pb_getR, pb_putI, pb_putZ, pb_putR, pb_alen, pb_ald, pb_aldR, pb_ast, pb_astZ, pb_astR, pb_vret, pb_iret, pb_zret, pb_aret, pb_cv, pb_cr, pb_sr, pb_switch, pb_sw, pb_nth, pb_set, pb_tk, pb_add, pb_sub, List.length_cons, List.length_nil, true_or, or_true, true_and, and_true, and_self, pb_up_same, pb_up_f, ne_eq, Nat.reduceEqDiff, not_false_eq_true, Nat.reduceAdd, Nat.reduceLeDiff, Nat.zero_le, is_M, mf_state h.1, mk_state, ml_state, mf_own h.1, mk_own, ml_own, mf_channel h.1, mk_channel, ml_channel, mf_kept h.1, mk_kept, ml_kept, a7, a8, hm.1, hm.2, k5, ht, not_true_eq_false, not_false_eq_true, false_imp_iff, true_imp_iff, Int.reduceEq]
      refine c_M_up (a := T.1 4 t) h ht (fun σ1 h1 => ?_)
      try simp only [pb_b_M_told_48, pb_b_M_told_54, pb_b_M_told_72, pb_b_M_told_107, pb_b_M_told_108, pb_b_M_told_119, pb_b_M_told_155, pb_b_M_told_173, pb_b_M_told_198, pb_iconst, pb_null, pb_iload, pb_aload, pb_istore, pb_astore, pb_iinc, pb_bin, pb_bin0, pb_dup, pb_pop, pb_dup2, pb_if, pb_icmp, pb_ifnull, pb_getI, pb_getR, pb_putI, pb_putZ, pb_putR, pb_alen, pb_ald, pb_aldR, pb_ast, pb_astZ, pb_astR, pb_vret, pb_iret, pb_zret, pb_aret, pb_cv, pb_cr, pb_sr, pb_switch, pb_sw, pb_nth, pb_set, pb_tk, pb_add, pb_sub, List.length_cons, List.length_nil, true_or, or_true, true_and, and_true, and_self, pb_up_same, pb_up_f, ne_eq, Nat.reduceEqDiff, not_false_eq_true, Nat.reduceAdd, Nat.reduceLeDiff, Nat.zero_le, is_M, mf_state h1.1, mk_state, ml_state, mf_own h1.1, mk_own, ml_own, mf_channel h1.1, mk_channel, ml_channel, mf_kept h1.1, mk_kept, ml_kept, ht, not_true_eq_false, not_false_eq_true, false_imp_iff, true_imp_iff, Int.reduceEq]
      exact hQ _ (rm_upT (rm_upT (rm_upT h1 170 7 rfl ⟨by decide, by decide⟩) 172 9 rfl ⟨by decide, by decide⟩) 175 10 rfl ⟨by decide, by decide⟩)
    · rw [if_neg hm] at hQ
      simp only [pb_b_M_told_0, pb_iconst, pb_null, pb_iload, pb_aload, pb_istore, pb_astore, pb_iinc, pb_bin, pb_bin0, pb_dup, pb_pop, pb_dup2, pb_if, pb_icmp, pb_ifnull, pb_getI, pb_getR, pb_putI, pb_putZ, pb_putR, pb_alen, pb_ald, pb_aldR, pb_ast, pb_astZ, pb_astR, pb_vret, pb_iret, pb_zret, pb_aret, pb_cv, pb_cr, pb_sr, pb_switch, pb_sw, pb_nth, pb_set, pb_tk, pb_add, pb_sub, List.length_cons, List.length_nil, true_or, or_true, true_and, and_true, and_self, pb_up_same, pb_up_f, ne_eq, Nat.reduceEqDiff, not_false_eq_true, Nat.reduceAdd, Nat.reduceLeDiff, Nat.zero_le, is_M, mf_state h.1, mk_state, ml_state, mf_own h.1, mk_own, ml_own, mf_channel h.1, mk_channel, ml_channel, mf_kept h.1, mk_kept, ml_kept, a7, a8, ht]
      refine ⟨fun z => ?_, fun z => ⟨fun z2 => ?_, fun z2 => absurd ⟨z, Decidable.not_not.mp z2⟩ hm⟩⟩
      all_goals simp only [pb_b_M_told_23, pb_b_M_told_24, pb_iconst, pb_null, pb_iload, pb_aload, pb_istore, pb_astore, pb_iinc, pb_bin, pb_bin0, pb_dup, pb_pop, pb_dup2, pb_if, pb_icmp, pb_ifnull, pb_getI, pb_getR, pb_putI, pb_putZ, pb_putR, pb_alen, pb_ald, pb_aldR, pb_ast, pb_astZ, pb_astR, pb_vret, pb_iret, pb_zret, pb_aret, pb_cv, pb_cr, pb_sr, pb_switch, pb_sw, pb_nth, pb_set, pb_tk, pb_add, pb_sub, List.length_cons, List.length_nil, true_or, or_true, true_and, and_true, and_self, pb_up_same, pb_up_f, ne_eq, Nat.reduceEqDiff, not_false_eq_true, Nat.reduceAdd, Nat.reduceLeDiff, Nat.zero_le, is_M, mf_state h.1, mk_state, ml_state, mf_own h.1, mk_own, ml_own, mf_channel h.1, mk_channel, ml_channel, mf_kept h.1, mk_kept, ml_kept, a7, a8, k5, ht, not_true_eq_false, not_false_eq_true, false_imp_iff, true_imp_iff, Int.reduceEq]
      all_goals refine c_M_up (a := T.1 4 t) h ht (fun σ1 h1 => ?_)
      all_goals simp only [pb_b_M_told_48, pb_iconst, pb_null, pb_iload, pb_aload, pb_istore, pb_astore, pb_iinc, pb_bin, pb_bin0, pb_dup, pb_pop, pb_dup2, pb_if, pb_icmp, pb_ifnull, pb_getI, pb_getR, pb_putI, pb_putZ, pb_putR, pb_alen, pb_ald, pb_aldR, pb_ast, pb_astZ, pb_astR, pb_vret, pb_iret, pb_zret, pb_aret, pb_cv, pb_cr, pb_sr, pb_switch, pb_sw, pb_nth, pb_set, pb_tk, pb_add, pb_sub, List.length_cons, List.length_nil, true_or, or_true, true_and, and_true, and_self, pb_up_same, pb_up_f, ne_eq, Nat.reduceEqDiff, not_false_eq_true, Nat.reduceAdd, Nat.reduceLeDiff, Nat.zero_le, not_true_eq_false, not_false_eq_true, false_imp_iff, true_imp_iff, Int.reduceEq]
      all_goals exact hQ _ h1
  · rw [if_neg k5] at hQ
    by_cases hm : ¬ T.1 7 t = 0 ∧ T.1 8 t = f.2.2.1
    · rw [if_pos hm] at hQ
      unfold gt_follow at hQ
      simp only [pb_b_M_told_0, pb_b_M_told_23, pb_b_M_told_24, pb_b_M_told_48, pb_iconst, pb_null, pb_iload, pb_aload, pb_istore, pb_astore, pb_iinc, pb_bin, pb_bin0, pb_dup, pb_pop, pb_dup2, pb_if, pb_icmp, pb_ifnull, pb_getI, pb_getR, pb_putI, pb_putZ, pb_putR, pb_alen, pb_ald, pb_aldR, pb_ast, pb_astZ, pb_astR, pb_vret, pb_iret, pb_zret, pb_aret, pb_cv, pb_cr, pb_sr, pb_switch, pb_sw, pb_nth, pb_set, pb_tk, pb_add, pb_sub, List.length_cons, List.length_nil, true_or, or_true, true_and, and_true, and_self, pb_up_same, pb_up_f, ne_eq, Nat.reduceEqDiff, not_false_eq_true, Nat.reduceAdd, Nat.reduceLeDiff, Nat.zero_le, is_M, mf_state h.1, mk_state, ml_state, mf_own h.1, mk_own, ml_own, mf_channel h.1, mk_channel, ml_channel, mf_kept h.1, mk_kept, ml_kept, a7, a8, hm.1, hm.2, k5, ht, not_true_eq_false, not_false_eq_true, false_imp_iff, true_imp_iff, Int.reduceEq]
      by_cases k6 : f.1 = 6
      · simp only [k6, Int.reduceEq, false_and, if_false, true_and] at hQ
        simp only [pb_b_M_told_54, pb_b_M_told_72, pb_b_M_told_101, pb_b_M_told_107, pb_b_M_told_108, pb_b_M_told_119, pb_b_M_told_155, pb_b_M_told_173, pb_b_M_told_198, pb_iconst, pb_null, pb_iload, pb_aload, pb_istore, pb_astore, pb_iinc, pb_bin, pb_bin0, pb_dup, pb_pop, pb_dup2, pb_if, pb_icmp, pb_ifnull, pb_getI, pb_getR, pb_putI, pb_putZ, pb_putR, pb_alen, pb_ald, pb_aldR, pb_ast, pb_astZ, pb_astR, pb_vret, pb_iret, pb_zret, pb_aret, pb_cv, pb_cr, pb_sr, pb_switch, pb_sw, pb_nth, pb_set, pb_tk, pb_add, pb_sub, List.length_cons, List.length_nil, true_or, or_true, true_and, and_true, and_self, pb_up_same, pb_up_f, ne_eq, Nat.reduceEqDiff, not_false_eq_true, Nat.reduceAdd, Nat.reduceLeDiff, Nat.zero_le, is_M, mf_state h.1, mk_state, ml_state, mf_own h.1, mk_own, ml_own, mf_channel h.1, mk_channel, ml_channel, mf_kept h.1, mk_kept, ml_kept, k5, k6, a10, ht, pb_up_p, not_true_eq_false, not_false_eq_true, false_imp_iff, true_imp_iff, Int.reduceEq]
        refine ⟨fun z => ?_, fun z => ?_⟩
        · rw [if_neg z] at hQ
          exact hQ _ h
        · rw [if_pos (Decidable.not_not.mp z)] at hQ
          have h1 := rm_upT (t := t) (v := T.1 10 t) (rm_upT (t := t) (v := -1) (rm_upT (t := t) (v := 0) h 170 7 rfl ⟨by decide, by decide⟩) 172 9 rfl ⟨by decide, by decide⟩) 175 10 rfl ⟨by decide, by decide⟩
          refine hQ _ (rm_gh h1 (fun k t' _ _ _ => ?_) rfl)
          have e := gt_self (T := gt_null T t) (t := t) (k := 10) k t'
          rw [show (gt_null T t).1 10 t = T.1 10 t by simp [gt_null, gt_set, g_up]] at e
          exact e
      · by_cases k1 : f.1 = 1
        · simp only [k1, Int.reduceEq, false_and, if_false, true_and] at hQ
          simp only [pb_b_M_told_54, pb_b_M_told_108, pb_b_M_told_119, pb_b_M_told_130, pb_b_M_told_144, pb_b_M_told_146, pb_b_M_told_155, pb_b_M_told_173, pb_b_M_told_198, pb_iconst, pb_null, pb_iload, pb_aload, pb_istore, pb_astore, pb_iinc, pb_bin, pb_bin0, pb_dup, pb_pop, pb_dup2, pb_if, pb_icmp, pb_ifnull, pb_getI, pb_getR, pb_putI, pb_putZ, pb_putR, pb_alen, pb_ald, pb_aldR, pb_ast, pb_astZ, pb_astR, pb_vret, pb_iret, pb_zret, pb_aret, pb_cv, pb_cr, pb_sr, pb_switch, pb_sw, pb_nth, pb_set, pb_tk, pb_add, pb_sub, List.length_cons, List.length_nil, true_or, or_true, true_and, and_true, and_self, pb_up_same, pb_up_f, ne_eq, Nat.reduceEqDiff, not_false_eq_true, Nat.reduceAdd, Nat.reduceLeDiff, Nat.zero_le, is_M, mf_state h.1, mk_state, ml_state, mf_own h.1, mk_own, ml_own, mf_channel h.1, mk_channel, ml_channel, mf_kept h.1, mk_kept, ml_kept, k1, ht, pb_up_p, not_true_eq_false, not_false_eq_true, false_imp_iff, true_imp_iff, Int.reduceEq]
          refine ⟨fun z => ?_, fun z => ?_⟩
          · rw [if_pos z] at hQ
            exact hQ _ (rm_upT (rm_upT h 170 7 rfl ⟨by decide, by decide⟩) 172 9 rfl ⟨by decide, by decide⟩)
          · rw [if_neg z] at hQ
            exact hQ _ h
        · by_cases k4 : f.1 = 4
          · simp only [k4, Int.reduceEq, false_and, if_false, true_and] at hQ
            simp only [pb_b_M_told_54, pb_b_M_told_108, pb_b_M_told_119, pb_b_M_told_130, pb_b_M_told_144, pb_b_M_told_146, pb_b_M_told_155, pb_b_M_told_173, pb_b_M_told_198, pb_iconst, pb_null, pb_iload, pb_aload, pb_istore, pb_astore, pb_iinc, pb_bin, pb_bin0, pb_dup, pb_pop, pb_dup2, pb_if, pb_icmp, pb_ifnull, pb_getI, pb_getR, pb_putI, pb_putZ, pb_putR, pb_alen, pb_ald, pb_aldR, pb_ast, pb_astZ, pb_astR, pb_vret, pb_iret, pb_zret, pb_aret, pb_cv, pb_cr, pb_sr, pb_switch, pb_sw, pb_nth, pb_set, pb_tk, pb_add, pb_sub, List.length_cons, List.length_nil, true_or, or_true, true_and, and_true, and_self, pb_up_same, pb_up_f, ne_eq, Nat.reduceEqDiff, not_false_eq_true, Nat.reduceAdd, Nat.reduceLeDiff, Nat.zero_le, is_M, mf_state h.1, mk_state, ml_state, mf_own h.1, mk_own, ml_own, mf_channel h.1, mk_channel, ml_channel, mf_kept h.1, mk_kept, ml_kept, k4, ht, pb_up_p, not_true_eq_false, not_false_eq_true, false_imp_iff, true_imp_iff, Int.reduceEq]
            refine ⟨fun z => ?_, fun z => ?_⟩
            · rw [if_neg z] at hQ
              exact hQ _ h
            · rw [if_pos (Decidable.not_not.mp z)] at hQ
              exact hQ _ (rm_upT (rm_upT h 170 7 rfl ⟨by decide, by decide⟩) 172 9 rfl ⟨by decide, by decide⟩)
          · by_cases k2 : f.1 = 2
            · simp only [k2, Int.reduceEq, false_and, if_false, true_and] at hQ
              simp only [pb_b_M_told_54, pb_b_M_told_108, pb_b_M_told_119, pb_b_M_told_155, pb_b_M_told_173, pb_b_M_told_190, pb_b_M_told_198, pb_iconst, pb_null, pb_iload, pb_aload, pb_istore, pb_astore, pb_iinc, pb_bin, pb_bin0, pb_dup, pb_pop, pb_dup2, pb_if, pb_icmp, pb_ifnull, pb_getI, pb_getR, pb_putI, pb_putZ, pb_putR, pb_alen, pb_ald, pb_aldR, pb_ast, pb_astZ, pb_astR, pb_vret, pb_iret, pb_zret, pb_aret, pb_cv, pb_cr, pb_sr, pb_switch, pb_sw, pb_nth, pb_set, pb_tk, pb_add, pb_sub, List.length_cons, List.length_nil, true_or, or_true, true_and, and_true, and_self, pb_up_same, pb_up_f, ne_eq, Nat.reduceEqDiff, not_false_eq_true, Nat.reduceAdd, Nat.reduceLeDiff, Nat.zero_le, is_M, mf_state h.1, mk_state, ml_state, mf_own h.1, mk_own, ml_own, mf_channel h.1, mk_channel, ml_channel, mf_kept h.1, mk_kept, ml_kept, k2, ht, pb_up_p, not_true_eq_false, not_false_eq_true, false_imp_iff, true_imp_iff, Int.reduceEq]
              refine ⟨fun z => ?_, fun z => ?_⟩
              · rw [if_neg z] at hQ
                exact hQ _ h
              · rw [if_pos (Decidable.not_not.mp z)] at hQ
                exact hQ _ (rm_upT h 170 7 rfl ⟨by decide, by decide⟩)
            · by_cases k3 : f.1 = 3
              · simp only [k3, Int.reduceEq, false_and, if_false, true_and] at hQ
                simp only [pb_b_M_told_54, pb_b_M_told_108, pb_b_M_told_119, pb_b_M_told_155, pb_b_M_told_173, pb_b_M_told_190, pb_b_M_told_198, pb_iconst, pb_null, pb_iload, pb_aload, pb_istore, pb_astore, pb_iinc, pb_bin, pb_bin0, pb_dup, pb_pop, pb_dup2, pb_if, pb_icmp, pb_ifnull, pb_getI, pb_getR, pb_putI, pb_putZ, pb_putR, pb_alen, pb_ald, pb_aldR, pb_ast, pb_astZ, pb_astR, pb_vret, pb_iret, pb_zret, pb_aret, pb_cv, pb_cr, pb_sr, pb_switch, pb_sw, pb_nth, pb_set, pb_tk, pb_add, pb_sub, List.length_cons, List.length_nil, true_or, or_true, true_and, and_true, and_self, pb_up_same, pb_up_f, ne_eq, Nat.reduceEqDiff, not_false_eq_true, Nat.reduceAdd, Nat.reduceLeDiff, Nat.zero_le, is_M, mf_state h.1, mk_state, ml_state, mf_own h.1, mk_own, ml_own, mf_channel h.1, mk_channel, ml_channel, mf_kept h.1, mk_kept, ml_kept, k3, ht, pb_up_p, not_true_eq_false, not_false_eq_true, false_imp_iff, true_imp_iff, Int.reduceEq]
                refine ⟨fun z => ?_, fun z => ⟨fun z2 => ?_, fun z2 => ?_⟩⟩
                · rw [if_pos (Or.inl z)] at hQ
                  exact hQ _ (rm_upT h 170 7 rfl ⟨by decide, by decide⟩)
                · rw [if_neg (by omega)] at hQ
                  exact hQ _ h
                · rw [if_pos (Or.inr (Decidable.not_not.mp z2))] at hQ
                  exact hQ _ (rm_upT h 170 7 rfl ⟨by decide, by decide⟩)
              · simp only [k1, k2, k3, k4, k6, false_and, if_false] at hQ
                simp only [pb_b_M_told_54, pb_b_M_told_108, pb_b_M_told_119, pb_b_M_told_155, pb_b_M_told_173, pb_b_M_told_190, pb_b_M_told_198, pb_iconst, pb_null, pb_iload, pb_aload, pb_istore, pb_astore, pb_iinc, pb_bin, pb_bin0, pb_dup, pb_pop, pb_dup2, pb_if, pb_icmp, pb_ifnull, pb_getI, pb_getR, pb_putI, pb_putZ, pb_putR, pb_alen, pb_ald, pb_aldR, pb_ast, pb_astZ, pb_astR, pb_vret, pb_iret, pb_zret, pb_aret, pb_cv, pb_cr, pb_sr, pb_switch, pb_sw, pb_nth, pb_set, pb_tk, pb_add, pb_sub, List.length_cons, List.length_nil, true_or, or_true, true_and, and_true, and_self, pb_up_same, pb_up_f, ne_eq, Nat.reduceEqDiff, not_false_eq_true, Nat.reduceAdd, Nat.reduceLeDiff, Nat.zero_le, k1, k2, k3, k4, k5, k6, not_true_eq_false, not_false_eq_true, false_imp_iff, true_imp_iff, Int.reduceEq]
                exact hQ _ h
    · rw [if_neg hm] at hQ
      simp only [pb_b_M_told_0, pb_iconst, pb_null, pb_iload, pb_aload, pb_istore, pb_astore, pb_iinc, pb_bin, pb_bin0, pb_dup, pb_pop, pb_dup2, pb_if, pb_icmp, pb_ifnull, pb_getI, pb_getR, pb_putI, pb_putZ, pb_putR, pb_alen, pb_ald, pb_aldR, pb_ast, pb_astZ, pb_astR, pb_vret, pb_iret, pb_zret, pb_aret, pb_cv, pb_cr, pb_sr, pb_switch, pb_sw, pb_nth, pb_set, pb_tk, pb_add, pb_sub, List.length_cons, List.length_nil, true_or, or_true, true_and, and_true, and_self, pb_up_same, pb_up_f, ne_eq, Nat.reduceEqDiff, not_false_eq_true, Nat.reduceAdd, Nat.reduceLeDiff, Nat.zero_le, is_M, mf_state h.1, mk_state, ml_state, mf_own h.1, mk_own, ml_own, mf_channel h.1, mk_channel, ml_channel, mf_kept h.1, mk_kept, ml_kept, a7, a8, ht]
      refine ⟨fun z => ?_, fun z => ⟨fun z2 => ?_, fun z2 => absurd ⟨z, Decidable.not_not.mp z2⟩ hm⟩⟩
      all_goals simp only [pb_b_M_told_23, pb_b_M_told_24, pb_b_M_told_48, pb_iconst, pb_null, pb_iload, pb_aload, pb_istore, pb_astore, pb_iinc, pb_bin, pb_bin0, pb_dup, pb_pop, pb_dup2, pb_if, pb_icmp, pb_ifnull, pb_getI, pb_getR, pb_putI, pb_putZ, pb_putR, pb_alen, pb_ald, pb_aldR, pb_ast, pb_astZ, pb_astR, pb_vret, pb_iret, pb_zret, pb_aret, pb_cv, pb_cr, pb_sr, pb_switch, pb_sw, pb_nth, pb_set, pb_tk, pb_add, pb_sub, List.length_cons, List.length_nil, true_or, or_true, true_and, and_true, and_self, pb_up_same, pb_up_f, ne_eq, Nat.reduceEqDiff, not_false_eq_true, Nat.reduceAdd, Nat.reduceLeDiff, Nat.zero_le, is_M, mf_state h.1, mk_state, ml_state, mf_own h.1, mk_own, ml_own, mf_channel h.1, mk_channel, ml_channel, mf_kept h.1, mk_kept, ml_kept, a7, a8, k5, ht, not_true_eq_false, not_false_eq_true, false_imp_iff, true_imp_iff, Int.reduceEq]
      all_goals exact hQ _ h
end MTD
