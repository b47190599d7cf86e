/-! terminals that get a frame of the exchange's row -/
def gt_follow (T : gT) (t : Int) (f : gF) : gT :=
  if f.1 = 1 ∧ T.1 7 t = 1 then gt_set (gt_set T 7 t 2) 9 t f.2.2.2.1 else if f.1 = 2 ∧ T.1 7 t = 2 then gt_set T 7 t 3 else if f.1 = 3 ∧ (T.1 7 t = 2 ∨ T.1 7 t = 3) then gt_set T 7 t 6 else if f.1 = 4 ∧ T.1 7 t = 5 then gt_set (gt_set T 7 t 6) 9 t f.2.2.2.1 else if f.1 = 6 ∧ T.1 7 t = 7 then gt_null T t else T
def gt_receive (T : gT) (t : Int) (f : gF) (d : Int) : gT :=
  if T.1 15 t = d then (if f.1 = 5 then (if ¬ T.1 7 t = 0 ∧ T.1 8 t = f.2.2.1 then gt_set (gt_null (gt_put (gt_set T 15 t (pb_w (1 - d))) t (6, T.1 4 t, f.2.2.1, 0, 0)) t) 10 t f.2.2.2.1 else gt_put (gt_set T 15 t (pb_w (1 - d))) t (6, T.1 4 t, f.2.2.1, 0, 0)) else (if ¬ T.1 7 t = 0 ∧ T.1 8 t = f.2.2.1 then gt_follow (gt_set T 15 t (pb_w (1 - d))) t f else gt_set T 15 t (pb_w (1 - d)))) else T
def gt_hear (T : gT) (t : Int) (f : gF) : gT :=
  if f.1 = 9 then (if T.1 4 t = 0 ∧ T.1 5 t = f.2.2.2.1 then gt_set (gt_set (gt_set T 4 t f.2.1) 14 t 0) 15 t 0 else T) else if f.1 = 10 then (if T.1 4 t = f.2.1 then gt_next T t else T) else if f.1 = 11 then (if T.1 4 t = f.2.1 then gt_put T t (8, T.1 4 t, 0, T.1 5 t, 0) else T) else if f.1 = 12 then (if ¬ T.1 4 t = 0 ∧ T.1 7 t = 0 then gt_put (gt_set (gt_set T 7 t 4) 8 t f.2.2.1) t (2, T.1 4 t, f.2.2.1, 0, 0) else T) else T
section TO
variable {x : pb_E} {σ : pb_H} {T : gT} {μ : pb_H} {b s : Int} {Q : pb_P} {n : Nat}
theorem q_F {q : Int} {f : gF} (h : RT σ T μ) (hd : (6 ≤ q ∧ q ≤ 31) ∨ (83 ≤ q ∧ q ≤ 108)) (hf : g_fr μ q = f) : σ 301 q 0 = f.1 ∧ σ 302 q 0 = f.2.1 ∧ σ 303 q 0 = f.2.2.1 ∧ σ 304 q 0 = f.2.2.2.1 := by
  obtain ⟨g1, g2, g3, g4, -⟩ := g_fr1 hf
  refine ⟨?_, ?_, ?_, ?_⟩
  · rw [h.2.2.2 301 q 0 (by unfold k_T k_U; omega)]; exact g1
  · rw [h.2.2.2 302 q 0 (by unfold k_T k_U; omega)]; exact g2
  · rw [h.2.2.2 303 q 0 (by unfold k_T k_U; omega)]; exact g3
  · rw [h.2.2.2 304 q 0 (by unfold k_T k_U; omega)]; exact g4
set_option maxHeartbeats 1000000 in
theorem c_T_follow {q : Int} {f : gF} (h : RT σ T μ) (hb : 0 ≤ b ∧ b < 2) (hs : 0 ≤ s ∧ s < 4) (hq : pb_is 3 213 q) (hd : (6 ≤ q ∧ q ≤ 31) ∨ (83 ≤ q ∧ q ≤ 108)) (hf : g_fr μ q = f) (hQ : ∀ σ', RT σ' (gt_follow T (4 * b + s) f) μ → Q (.inl 0) σ') : pb_MJ x i_T_follow [.inr (32 + 77 * b + 11 * s), .inr q] 213 σ Q := by
  refine pb_m_T_follow ?_
  obtain ⟨f1, f2, f3, f4⟩ := q_F h hd hf
  have hst := q_T h hb hs 408 7 rfl ⟨by decide, by decide⟩
  unfold gt_follow at hQ
  simp only [pb_b_T_follow_0, pb_iconst, pb_null, pb_iload, pb_aload, pb_istore, pb_astore, pb_iinc, pb_bin, pb_bin0, pb_dup, pb_pop, pb_dup2, pb_if, pb_icmp, pb_ifnull, pb_getI, pb_getR, pb_putI, pb_putZ, pb_putR, pb_alen, pb_ald, pb_aldR, pb_ast, pb_astZ, pb_astR, pb_vret, pb_iret, pb_zret, pb_aret, pb_cv, pb_cr, pb_sr, pb_switch, pb_sw, pb_nth, pb_set, pb_tk, pb_add, pb_sub, List.length_cons, List.length_nil, true_or, or_true, true_and, and_true, and_self, pb_up_same, pb_up_f, ne_eq, Nat.reduceEqDiff, not_false_eq_true, Nat.reduceAdd, Nat.reduceLeDiff, Nat.zero_le, is_T hb hs, hq, f1, f4, hst]
  have k2 : ¬ (f.1 = 1 ∧ T.1 7 (4 * b + s) = 1) → pb_b_T_follow_32 x 213 Q [some (.inr (32 + 77 * b + 11 * s)), some (.inr q)] [] 213 σ := by
    intro n1
    have k6 : ¬ (f.1 = 2 ∧ T.1 7 (4 * b + s) = 2) → pb_b_T_follow_56 x 213 Q [some (.inr (32 + 77 * b + 11 * s)), some (.inr q)] [] 213 σ := by
      intro n2
      have k8 : ¬ (f.1 = 3 ∧ (T.1 7 (4 * b + s) = 2 ∨ T.1 7 (4 * b + s) = 3)) → pb_b_T_follow_89 x 213 Q [some (.inr (32 + 77 * b + 11 * s)), some (.inr q)] [] 213 σ := by
        intro n3
        have k9 : ¬ (f.1 = 4 ∧ T.1 7 (4 * b + s) = 5) → pb_b_T_follow_122 x 213 Q [some (.inr (32 + 77 * b + 11 * s)), some (.inr q)] [] 213 σ := by
          intro n4
          simp only [pb_b_T_follow_122, pb_b_T_follow_144, pb_iconst, pb_null, pb_iload, pb_aload, pb_istore, pb_astore, pb_iinc, pb_bin, pb_bin0, pb_dup, pb_pop, pb_dup2, pb_if, pb_icmp, pb_ifnull, pb_getI, pb_getR, pb_putI, pb_putZ, pb_putR, pb_alen, pb_ald, pb_aldR, pb_ast, pb_astZ, pb_astR, pb_vret, pb_iret, pb_zret, pb_aret, pb_cv, pb_cr, pb_sr, pb_switch, pb_sw, pb_nth, pb_set, pb_tk, pb_add, pb_sub, List.length_cons, List.length_nil, true_or, or_true, true_and, and_true, and_self, pb_up_same, pb_up_f, ne_eq, Nat.reduceEqDiff, not_false_eq_true, Nat.reduceAdd, Nat.reduceLeDiff, Nat.zero_le, is_T hb hs, hq, f1, f4, hst]
          refine ⟨fun a1 => ?_, fun a1 => ⟨fun a2 => ?_, fun a2 => ?_⟩⟩
          · repeat (first | rw [if_pos (by omega)] at hQ | rw [if_neg (by omega)] at hQ)
            exact hQ _ h
          · repeat (first | rw [if_pos (by omega)] at hQ | rw [if_neg (by omega)] at hQ)
            exact hQ _ h
          · repeat (first | rw [if_pos (by omega)] at hQ | rw [if_neg (by omega)] at hQ)
            exact c_T_becomeNull h hb hs hQ
        simp only [pb_b_T_follow_89, pb_b_T_follow_144, pb_iconst, pb_null, pb_iload, pb_aload, pb_istore, pb_astore, pb_iinc, pb_bin, pb_bin0, pb_dup, pb_pop, pb_dup2, pb_if, pb_icmp, pb_ifnull, pb_getI, pb_getR, pb_putI, pb_putZ, pb_putR, pb_alen, pb_ald, pb_aldR, pb_ast, pb_astZ, pb_astR, pb_vret, pb_iret, pb_zret, pb_aret, pb_cv, pb_cr, pb_sr, pb_switch, pb_sw, pb_nth, pb_set, pb_tk, pb_add, pb_sub, List.length_cons, List.length_nil, true_or, or_true, true_and, and_true, and_self, pb_up_same, pb_up_f, ne_eq, Nat.reduceEqDiff, not_false_eq_true, Nat.reduceAdd, Nat.reduceLeDiff, Nat.zero_le, is_T hb hs, hq, f1, f4, hst]
        refine ⟨fun a1 => k9 (by omega), fun a1 => ⟨fun a2 => k9 (by omega), fun a2 => ?_⟩⟩
        repeat (first | rw [if_pos (by omega)] at hQ | rw [if_neg (by omega)] at hQ)
        exact hQ _ (r_T (r_T h hb hs 408 7 rfl ⟨by decide, by decide⟩ 6) hb hs 410 9 rfl ⟨by decide, by decide⟩ _)
      simp only [pb_b_T_follow_56, pb_b_T_follow_80, pb_b_T_follow_144, pb_iconst, pb_null, pb_iload, pb_aload, pb_istore, pb_astore, pb_iinc, pb_bin, pb_bin0, pb_dup, pb_pop, pb_dup2, pb_if, pb_icmp, pb_ifnull, pb_getI, pb_getR, pb_putI, pb_putZ, pb_putR, pb_alen, pb_ald, pb_aldR, pb_ast, pb_astZ, pb_astR, pb_vret, pb_iret, pb_zret, pb_aret, pb_cv, pb_cr, pb_sr, pb_switch, pb_sw, pb_nth, pb_set, pb_tk, pb_add, pb_sub, List.length_cons, List.length_nil, true_or, or_true, true_and, and_true, and_self, pb_up_same, pb_up_f, ne_eq, Nat.reduceEqDiff, not_false_eq_true, Nat.reduceAdd, Nat.reduceLeDiff, Nat.zero_le, is_T hb hs, hq, f1, f4, hst]
      refine ⟨fun a1 => k8 (by omega), fun a1 => ⟨fun a2 => ?_, fun a2 => ⟨fun a3 => k8 (by omega), fun a3 => ?_⟩⟩⟩
      · repeat (first | rw [if_pos (by omega)] at hQ | rw [if_neg (by omega)] at hQ)
        exact hQ _ (r_T h hb hs 408 7 rfl ⟨by decide, by decide⟩ 6)
      · repeat (first | rw [if_pos (by omega)] at hQ | rw [if_neg (by omega)] at hQ)
        exact hQ _ (r_T h hb hs 408 7 rfl ⟨by decide, by decide⟩ 6)
    simp only [pb_b_T_follow_32, pb_b_T_follow_144, pb_iconst, pb_null, pb_iload, pb_aload, pb_istore, pb_astore, pb_iinc, pb_bin, pb_bin0, pb_dup, pb_pop, pb_dup2, pb_if, pb_icmp, pb_ifnull, pb_getI, pb_getR, pb_putI, pb_putZ, pb_putR, pb_alen, pb_ald, pb_aldR, pb_ast, pb_astZ, pb_astR, pb_vret, pb_iret, pb_zret, pb_aret, pb_cv, pb_cr, pb_sr, pb_switch, pb_sw, pb_nth, pb_set, pb_tk, pb_add, pb_sub, List.length_cons, List.length_nil, true_or, or_true, true_and, and_true, and_self, pb_up_same, pb_up_f, ne_eq, Nat.reduceEqDiff, not_false_eq_true, Nat.reduceAdd, Nat.reduceLeDiff, Nat.zero_le, is_T hb hs, hq, f1, f4, hst]
    refine ⟨fun a1 => k6 (by omega), fun a1 => ⟨fun a2 => k6 (by omega), fun a2 => ?_⟩⟩
    repeat (first | rw [if_pos (by omega)] at hQ | rw [if_neg (by omega)] at hQ)
    exact hQ _ (r_T h hb hs 408 7 rfl ⟨by decide, by decide⟩ 3)
  refine ⟨fun a1 => k2 (by omega), fun a1 => ⟨fun a2 => k2 (by omega), fun a2 => ?_⟩⟩
  repeat (first | rw [if_pos (by omega)] at hQ | rw [if_neg (by omega)] at hQ)
  simp only [pb_b_T_follow_144, pb_iconst, pb_null, pb_iload, pb_aload, pb_istore, pb_astore, pb_iinc, pb_bin, pb_bin0, pb_dup, pb_pop, pb_dup2, pb_if, pb_icmp, pb_ifnull, pb_getI, pb_getR, pb_putI, pb_putZ, pb_putR, pb_alen, pb_ald, pb_aldR, pb_ast, pb_astZ, pb_astR, pb_vret, pb_iret, pb_zret, pb_aret, pb_cv, pb_cr, pb_sr, pb_switch, pb_sw, pb_nth, pb_set, pb_tk, pb_add, pb_sub, List.length_cons, List.length_nil, true_or, or_true, true_and, and_true, and_self, pb_up_same, pb_up_f, ne_eq, Nat.reduceEqDiff, not_false_eq_true, Nat.reduceAdd, Nat.reduceLeDiff, Nat.zero_le]
  exact hQ _ (r_T (r_T h hb hs 408 7 rfl ⟨by decide, by decide⟩ 2) hb hs 410 9 rfl ⟨by decide, by decide⟩ _)
set_option maxHeartbeats 1000000 in
theorem c_T_receive {q d : Int} {f : gF} (h : RT σ T μ) (hb : 0 ≤ b ∧ b < 2) (hs : 0 ≤ s ∧ s < 4) (hq : pb_is 3 213 q) (hd : (6 ≤ q ∧ q ≤ 31) ∨ (83 ≤ q ∧ q ≤ 108)) (hf : g_fr μ q = f) (hQ : ∀ σ', RT σ' (gt_receive T (4 * b + s) f d) μ → Q (.inl 0) σ') : pb_MJ x i_T_receive [.inr (32 + 77 * b + 11 * s), .inr q, .inl d] 213 σ Q := by
  refine pb_m_T_receive ?_
  obtain ⟨f1, f2, f3, f4⟩ := q_F h hd hf
  have h1 := r_T h hb hs 416 15 rfl ⟨by decide, by decide⟩ (pb_w (1 - d))
  obtain ⟨g1, g2, g3, g4⟩ := q_F h1 hd hf
  unfold gt_receive at hQ
  have key : ∀ o : Int, (o = 1 ∧ (¬ T.1 7 (4 * b + s) = 0 ∧ T.1 8 (4 * b + s) = f.2.2.1)) ∨ (o = 0 ∧ ¬ (¬ T.1 7 (4 * b + s) = 0 ∧ T.1 8 (4 * b + s) = f.2.2.1)) → T.1 15 (4 * b + s) = d → pb_b_T_receive_39 x 213 Q [some (.inr (32 + 77 * b + 11 * s)), some (.inr q), some (.inl d), none] [.inl o] 213 (pb_up σ 416 (32 + 77 * b + 11 * s) 0 (pb_w (1 - d))) := by
    intro o ho a0
    simp only [pb_b_T_receive_39, pb_b_T_receive_85, pb_b_T_receive_94, pb_iconst, pb_null, pb_iload, pb_aload, pb_istore, pb_astore, pb_iinc, pb_bin, pb_bin0, pb_dup, pb_pop, pb_dup2, pb_if, pb_icmp, pb_ifnull, pb_getI, pb_getR, pb_putI, pb_putZ, pb_putR, pb_alen, pb_ald, pb_aldR, pb_ast, pb_astZ, pb_astR, pb_vret, pb_iret, pb_zret, pb_aret, pb_cv, pb_cr, pb_sr, pb_switch, pb_sw, pb_nth, pb_set, pb_tk, pb_add, pb_sub, List.length_cons, List.length_nil, true_or, or_true, true_and, and_true, and_self, pb_up_same, pb_up_f, ne_eq, Nat.reduceEqDiff, not_false_eq_true, Nat.reduceAdd, Nat.reduceLeDiff, Nat.zero_le, is_T hb hs, hq, f1, f2, f3, f4, q_row h.1 hb hs, (rwU hb hs).1, q_T h hb hs 402 1 rfl ⟨by decide, by decide⟩, q_T h hb hs 403 2 rfl ⟨by decide, by decide⟩, q_T h hb hs 404 3 rfl ⟨by decide, by decide⟩, q_T h hb hs 405 4 rfl ⟨by decide, by decide⟩, q_T h hb hs 406 5 rfl ⟨by decide, by decide⟩, q_T h hb hs 407 6 rfl ⟨by decide, by decide⟩, q_T h hb hs 408 7 rfl ⟨by decide, by decide⟩, q_T h hb hs 409 8 rfl ⟨by decide, by decide⟩, q_T h hb hs 410 9 rfl ⟨by decide, by decide⟩, q_T h hb hs 411 10 rfl ⟨by decide, by decide⟩, q_T h hb hs 412 11 rfl ⟨by decide, by decide⟩, q_T h hb hs 413 12 rfl ⟨by decide, by decide⟩, q_T h hb hs 414 13 rfl ⟨by decide, by decide⟩, q_T h hb hs 415 14 rfl ⟨by decide, by decide⟩, q_T h hb hs 416 15 rfl ⟨by decide, by decide⟩]
    refine ⟨fun a1 => ⟨fun a2 => ?_, fun a2 => ?_⟩, fun a1 => ?_⟩
    · repeat (first | rw [if_pos (by omega)] at hQ | rw [if_neg (by omega)] at hQ)
      exact hQ _ h1
    · repeat (first | rw [if_pos (by omega)] at hQ | rw [if_neg (by omega)] at hQ)
      exact c_T_follow h1 hb hs hq hd hf hQ
    · refine c_putU h1 hb hs (fun σ2 h2 => ?_)
      refine ⟨fun a2 => ?_, fun a2 => ?_⟩
      · repeat (first | rw [if_pos (by omega)] at hQ | rw [if_neg (by omega)] at hQ)
        exact hQ _ h2
      · repeat (first | rw [if_pos (by omega)] at hQ | rw [if_neg (by omega)] at hQ)
        refine c_T_becomeNull h2 hb hs (fun σ3 h3 => ?_)
        rw [(q_F h3 hd hf).2.2.2]
        exact hQ _ (r_T h3 hb hs 411 10 rfl ⟨by decide, by decide⟩ _)
  simp only [pb_b_T_receive_0, pb_b_T_receive_9, pb_b_T_receive_38, pb_iconst, pb_null, pb_iload, pb_aload, pb_istore, pb_astore, pb_iinc, pb_bin, pb_bin0, pb_dup, pb_pop, pb_dup2, pb_if, pb_icmp, pb_ifnull, pb_getI, pb_getR, pb_putI, pb_putZ, pb_putR, pb_alen, pb_ald, pb_aldR, pb_ast, pb_astZ, pb_astR, pb_vret, pb_iret, pb_zret, pb_aret, pb_cv, pb_cr, pb_sr, pb_switch, pb_sw, pb_nth, pb_set, pb_tk, pb_add, pb_sub, List.length_cons, List.length_nil, true_or, or_true, true_and, and_true, and_self, pb_up_same, pb_up_f, ne_eq, Nat.reduceEqDiff, not_false_eq_true, Nat.reduceAdd, Nat.reduceLeDiff, Nat.zero_le, is_T hb hs, hq, f1, f2, f3, f4, q_T h hb hs 402 1 rfl ⟨by decide, by decide⟩, q_T h hb hs 403 2 rfl ⟨by decide, by decide⟩, q_T h hb hs 404 3 rfl ⟨by decide, by decide⟩, q_T h hb hs 405 4 rfl ⟨by decide, by decide⟩, q_T h hb hs 406 5 rfl ⟨by decide, by decide⟩, q_T h hb hs 407 6 rfl ⟨by decide, by decide⟩, q_T h hb hs 408 7 rfl ⟨by decide, by decide⟩, q_T h hb hs 409 8 rfl ⟨by decide, by decide⟩, q_T h hb hs 410 9 rfl ⟨by decide, by decide⟩, q_T h hb hs 411 10 rfl ⟨by decide, by decide⟩, q_T h hb hs 412 11 rfl ⟨by decide, by decide⟩, q_T h hb hs 413 12 rfl ⟨by decide, by decide⟩, q_T h hb hs 414 13 rfl ⟨by decide, by decide⟩, q_T h hb hs 415 14 rfl ⟨by decide, by decide⟩, q_T h hb hs 416 15 rfl ⟨by decide, by decide⟩]
  refine ⟨fun a0 => ⟨fun a1 => key 0 (by omega) a0, fun a1 => ⟨fun a2 => key 0 (by omega) a0, fun a2 => key 1 (by omega) a0⟩⟩, fun a0 => ?_⟩
  repeat (first | rw [if_pos (by omega)] at hQ | rw [if_neg (by omega)] at hQ)
  exact hQ _ h
set_option maxHeartbeats 1000000 in
theorem c_T_hear {q : Int} {f : gF} (h : RT σ T μ) (hb : 0 ≤ b ∧ b < 2) (hs : 0 ≤ s ∧ s < 4) (hq : pb_is 3 213 q) (hd : (6 ≤ q ∧ q ≤ 31) ∨ (83 ≤ q ∧ q ≤ 108)) (hf : g_fr μ q = f) (hQ : ∀ σ', RT σ' (gt_hear T (4 * b + s) f) μ → Q (.inl 0) σ') : pb_MJ x i_T_hear [.inr (32 + 77 * b + 11 * s), .inr q] 213 σ Q := by
  refine pb_m_T_hear ?_
  obtain ⟨f1, f2, f3, f4⟩ := q_F h hd hf
  unfold gt_hear at hQ
  simp only [pb_b_T_hear_0, pb_b_T_hear_36, pb_b_T_hear_75, pb_b_T_hear_93, pb_b_T_hear_125, pb_b_T_hear_172, pb_iconst, pb_null, pb_iload, pb_aload, pb_istore, pb_astore, pb_iinc, pb_bin, pb_bin0, pb_dup, pb_pop, pb_dup2, pb_if, pb_icmp, pb_ifnull, pb_getI, pb_getR, pb_putI, pb_putZ, pb_putR, pb_alen, pb_ald, pb_aldR, pb_ast, pb_astZ, pb_astR, pb_vret, pb_iret, pb_zret, pb_aret, pb_cv, pb_cr, pb_sr, pb_switch, pb_sw, pb_nth, pb_set, pb_tk, pb_add, pb_sub, List.length_cons, List.length_nil, true_or, or_true, true_and, and_true, and_self, pb_up_same, pb_up_f, ne_eq, Nat.reduceEqDiff, not_false_eq_true, Nat.reduceAdd, Nat.reduceLeDiff, Nat.zero_le, is_T hb hs, hq, f1, f2, f3, f4, q_row h.1 hb hs, (rwU hb hs).1, q_T h hb hs 402 1 rfl ⟨by decide, by decide⟩, q_T h hb hs 403 2 rfl ⟨by decide, by decide⟩, q_T h hb hs 404 3 rfl ⟨by decide, by decide⟩, q_T h hb hs 405 4 rfl ⟨by decide, by decide⟩, q_T h hb hs 406 5 rfl ⟨by decide, by decide⟩, q_T h hb hs 407 6 rfl ⟨by decide, by decide⟩, q_T h hb hs 408 7 rfl ⟨by decide, by decide⟩, q_T h hb hs 409 8 rfl ⟨by decide, by decide⟩, q_T h hb hs 410 9 rfl ⟨by decide, by decide⟩, q_T h hb hs 411 10 rfl ⟨by decide, by decide⟩, q_T h hb hs 412 11 rfl ⟨by decide, by decide⟩, q_T h hb hs 413 12 rfl ⟨by decide, by decide⟩, q_T h hb hs 414 13 rfl ⟨by decide, by decide⟩, q_T h hb hs 415 14 rfl ⟨by decide, by decide⟩, q_T h hb hs 416 15 rfl ⟨by decide, by decide⟩]
  refine ⟨fun a1 => ⟨fun a2 => ?_, fun a2 => ⟨fun a3 => ?_, fun a3 => ?_⟩⟩, fun a1 => ⟨fun a2 => ⟨fun a3 => ?_, fun a3 => ?_⟩, fun a2 => ⟨fun a3 => ⟨fun a4 => ?_, fun a4 => ?_⟩, fun a3 => ⟨fun a4 => ⟨fun a5 => ?_, fun a5 => ⟨fun a6 => ?_, fun a6 => ?_⟩⟩, fun a4 => ?_⟩⟩⟩⟩
  · repeat (first | rw [if_pos (by omega)] at hQ | rw [if_neg (by omega)] at hQ)
    exact hQ _ h
  · repeat (first | rw [if_pos (by omega)] at hQ | rw [if_neg (by omega)] at hQ)
    exact hQ _ h
  · repeat (first | rw [if_pos (by omega)] at hQ | rw [if_neg (by omega)] at hQ)
    exact hQ _ (r_T (r_T (r_T h hb hs 405 4 rfl ⟨by decide, by decide⟩ _) hb hs 415 14 rfl ⟨by decide, by decide⟩ 0) hb hs 416 15 rfl ⟨by decide, by decide⟩ 0)
  · repeat (first | rw [if_pos (by omega)] at hQ | rw [if_neg (by omega)] at hQ)
    exact hQ _ h
  · repeat (first | rw [if_pos (by omega)] at hQ | rw [if_neg (by omega)] at hQ)
    exact c_T_startOverWithNextDraw h hb hs hQ
  · repeat (first | rw [if_pos (by omega)] at hQ | rw [if_neg (by omega)] at hQ)
    exact hQ _ h
  · repeat (first | rw [if_pos (by omega)] at hQ | rw [if_neg (by omega)] at hQ)
    exact c_putU h hb hs hQ
  · repeat (first | rw [if_pos (by omega)] at hQ | rw [if_neg (by omega)] at hQ)
    exact hQ _ h
  · repeat (first | rw [if_pos (by omega)] at hQ | rw [if_neg (by omega)] at hQ)
    exact hQ _ h
  · repeat (first | rw [if_pos (by omega)] at hQ | rw [if_neg (by omega)] at hQ)
    exact c_putU (r_T (r_T h hb hs 408 7 rfl ⟨by decide, by decide⟩ 4) hb hs 409 8 rfl ⟨by decide, by decide⟩ _) hb hs hQ
  · repeat (first | rw [if_pos (by omega)] at hQ | rw [if_neg (by omega)] at hQ)
    exact hQ _ h
end TO
