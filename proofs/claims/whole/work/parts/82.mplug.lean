/-! a terminal is plugged in -/
section MPL
variable {x : pb_E} {σ σ' : pb_H} {T : gT} {E E' : gE} {w : gW} {ν : pb_H} {b s t : Int} {Q : pb_P}
theorem rm_on (h : RM σ T E w ν) (hn : T.1 1 t = 0) (ht : 0 ≤ t ∧ t < 8) : ∃ T' : gT, RM (pb_up σ 0 166 t 1) T' E w ν ∧ T'.2 = T.2 ∧ T'.1 1 t = 1 ∧ ∀ k t', ¬ (t' = t ∧ (k = 1 ∨ k = 4 ∨ k = 7 ∨ k = 9 ∨ k = 11 ∨ k = 12)) → T'.1 k t' = T.1 k t' := by
  refine ⟨(fun k t' => if t' = t ∧ k = 1 then 1 else if t' = t ∧ (k = 4 ∨ k = 7 ∨ k = 9 ∨ k = 11 ∨ k = 12) then σ 0 (g_ma k) t else T.1 k t', T.2), ?_, rfl, if_pos ⟨rfl, rfl⟩, fun k t' hk => by
    show (if t' = t ∧ k = 1 then 1 else if t' = t ∧ (k = 4 ∨ k = 7 ∨ k = 9 ∨ k = 11 ∨ k = 12) then σ 0 (g_ma k) t else T.1 k t') = T.1 k t'
    rw [if_neg (by omega), if_neg (by omega)]⟩
  obtain ⟨h1, h2, h3, h4, h5, h6, h7, h8, h9⟩ := h
  refine ⟨h1.cg (fun f i q1 q2 => pb_up_f (by omega)), fun k' t' q1 q2 q3 q4 q5 => ?_, h3.cg (fun p' i q1 q2 => pb_up_p (by omega)), h4.cg (fun p' i q1 q2 => pb_up_p (by omega)), h5.cg (fun p' i q1 q2 => pb_up_p (by omega)), h6.cg (fun p' i q1 q2 => pb_up_p (by omega)), h7.cg (fun f q => pb_up_f (by omega)), h8.cg (fun p' i q1 q2 => pb_up_p (by omega)), fun f' p' i' hk' => ?_⟩
  · show _ = (if t' = t ∧ k' = 1 then 1 else if t' = t ∧ (k' = 4 ∨ k' = 7 ∨ k' = 9 ∨ k' = 11 ∨ k' = 12) then σ 0 (g_ma k') t else T.1 k' t')
    by_cases z1 : k' = 1
    · subst z1
      by_cases zt : t' = t
      · subst zt
        rw [if_pos ⟨rfl, rfl⟩, show g_ma 1 = 166 from rfl]
        exact pb_up_same _ _ _ _ _
      · rw [if_neg (by omega), if_neg (by omega), show g_ma 1 = 166 from rfl, pb_up_i (by omega)]
        exact h2 1 t' q1 q2 q3 q4 (Or.inr (by unfold g_mu; decide))
    · have hne : g_ma k' ≠ 166 := fun y => z1 (g_ma_inj (k' := 1) ⟨q1, q2⟩ ⟨by decide, by decide⟩ y)
      rw [if_neg (fun y => z1 y.2), pb_up_p hne]
      by_cases z2 : t' = t ∧ (k' = 4 ∨ k' = 7 ∨ k' = 9 ∨ k' = 11 ∨ k' = 12)
      · rw [if_pos z2, z2.1]
      · rw [if_neg z2]
        refine h2 k' t' q1 q2 q3 q4 ?_
        by_cases zt : t' = t
        · exact Or.inr (by unfold g_mu; omega)
        · rcases q5 with q5 | q5
          · have e1 : (if t' = t ∧ 1 = 1 then 1 else if t' = t ∧ (1 = 4 ∨ 1 = 7 ∨ 1 = 9 ∨ 1 = 11 ∨ 1 = 12) then σ 0 (g_ma 1) t else T.1 1 t') = T.1 1 t' := by rw [if_neg (fun y => zt y.1), if_neg (fun y => zt y.1)]
            exact Or.inl (fun y => q5 (e1.trans y))
          · exact Or.inr q5
  · rw [pb_up_k (fun y => hk' (by unfold k_K; omega))]
    exact h9 f' p' i' hk'
theorem c_M_plug {d : Int} (h : RM σ T E w ν) (h1 : g_sock b s ∧ T.1 1 (4 * b + s) = 0 ∧ (0 ≤ d ∧ d ≤ 15) → ∀ σ', RM σ' (gt_plugIn T (4 * b + s) d) E w ν → Q (.inl 1) σ') (h0 : ¬ (g_sock b s ∧ T.1 1 (4 * b + s) = 0 ∧ (0 ≤ d ∧ d ≤ 15)) → Q (.inl 0) σ) : pb_MJ x i_M_plug [.inr 165, .inl b, .inl s, .inl d] 213 σ Q := by
  refine pb_m_M_plug ?_
  simp only [pb_b_M_plug_0, pb_b_M_plug_39, pb_iconst, pb_null, pb_iload, pb_aload, pb_istore, pb_astore, pb_iinc, pb_bin, pb_bin0, pb_dup, pb_pop, pb_dup2, pb_if, pb_icmp, pb_ifnull, pb_getI, pb_getR, pb_putI, pb_putZ, pb_putR, pb_alen, pb_ald, pb_aldR, pb_ast, pb_astZ, pb_astR, pb_vret, pb_iret, pb_zret, pb_aret, pb_cv, pb_cr, pb_sr, pb_switch, pb_sw, pb_nth, pb_set, pb_tk, pb_add, pb_sub, List.length_cons, List.length_nil, true_or, or_true, true_and, and_true, and_self, pb_up_same, pb_up_f, ne_eq, Nat.reduceEqDiff, not_false_eq_true, Nat.reduceAdd, Nat.reduceLeDiff, Nat.zero_le]
  refine c_M_isBus (fun hb => ?_) (fun hb => ?_)
  · have e1 : pb_mul 4 b = 4 * b := by unfold pb_mul; exact pb_w_id (by unfold pb_R; omega)
    try simp only [pb_b_M_plug_41, pb_iconst, pb_null, pb_iload, pb_aload, pb_istore, pb_astore, pb_iinc, pb_bin, pb_bin0, pb_dup, pb_pop, pb_dup2, pb_if, pb_icmp, pb_ifnull, pb_getI, pb_getR, pb_putI, pb_putZ, pb_putR, pb_alen, pb_ald, pb_aldR, pb_ast, pb_astZ, pb_astR, pb_vret, pb_iret, pb_zret, pb_aret, pb_cv, pb_cr, pb_sr, pb_switch, pb_sw, pb_nth, pb_set, pb_tk, pb_add, pb_sub, List.length_cons, List.length_nil, true_or, or_true, true_and, and_true, and_self, pb_up_same, pb_up_f, ne_eq, Nat.reduceEqDiff, not_false_eq_true, Nat.reduceAdd, Nat.reduceLeDiff, Nat.zero_le, is_M, mf_there h.1, mk_there, ml_there, mf_mild h.1, mk_mild, ml_mild, mf_address h.1, mk_address, ml_address, mf_draw h.1, mk_draw, ml_draw, mf_mouth h.1, mk_mouth, ml_mouth, mf_ear h.1, mk_ear, ml_ear, mf_kept h.1, mk_kept, ml_kept, mf_dials h.1, mk_dials, ml_dials, e1, pb_up_p, Int.reduceEq]
    refine ⟨fun z => by simp at z, fun _ => ⟨fun z => h0 (fun y => absurd y.1.2.1 (by omega)), fun z => ⟨fun z2 => h0 (fun y => absurd y.1.2.2 (by omega)), fun z2 => ?_⟩⟩⟩
    have e2 : pb_w (4 * b + s) = 4 * b + s := pb_w_id (by unfold pb_R; omega)
    have ht : 0 ≤ 4 * b + s ∧ 4 * b + s < 8 := by omega
    rw [e2, m_T h 166 1 rfl ⟨by decide, by decide⟩ ⟨by omega, by omega⟩ (Or.inr (by unfold g_mu; decide))]
    refine ⟨ht, fun z3 => h0 (fun y => z3 y.2.1), fun z3 => ⟨fun z4 => h0 (fun y => absurd y.2.2.1 (by omega)), fun z4 => ⟨fun z5 => ?_, fun z5 => h0 (fun y => absurd y.2.2.2 (by omega))⟩⟩⟩
    have z6 : T.1 1 (4 * b + s) = 0 := Decidable.not_not.mp z3
    obtain ⟨T', g1, g2, g3, g4⟩ := rm_on (t := 4 * b + s) h z6 ht
    refine ⟨ht, ht, ht, ht, ht, ht, ht, ht, ?_⟩
    refine c_M_nothing (rm_upT (rm_upT (rm_upT (rm_upT (rm_upT (rm_upT (rm_upT g1 169 2 rfl ⟨by decide, by decide⟩) 167 4 rfl ⟨by decide, by decide⟩) 168 5 rfl ⟨by decide, by decide⟩) 173 11 rfl ⟨by decide, by decide⟩) 174 12 rfl ⟨by decide, by decide⟩) 175 10 rfl ⟨by decide, by decide⟩) 176 13 rfl ⟨by decide, by decide⟩) ht (fun σ1 h5 => ?_)
    try simp only [pb_iconst, pb_null, pb_iload, pb_aload, pb_istore, pb_astore, pb_iinc, pb_bin, pb_bin0, pb_dup, pb_pop, pb_dup2, pb_if, pb_icmp, pb_ifnull, pb_getI, pb_getR, pb_putI, pb_putZ, pb_putR, pb_alen, pb_ald, pb_aldR, pb_ast, pb_astZ, pb_astR, pb_vret, pb_iret, pb_zret, pb_aret, pb_cv, pb_cr, pb_sr, pb_switch, pb_sw, pb_nth, pb_set, pb_tk, pb_add, pb_sub, List.length_cons, List.length_nil, true_or, or_true, true_and, and_true, and_self, pb_up_same, pb_up_f, ne_eq, Nat.reduceEqDiff, not_false_eq_true, Nat.reduceAdd, Nat.reduceLeDiff, Nat.zero_le]
    refine h1 ⟨⟨hb, by omega⟩, z6, by omega⟩ _ (rm_gh h5 (fun k t' q1 q2 _ => ?_) ?_)
    · show g_up (g_up (g_up (g_up (g_up (g_up (g_up (g_up (g_up (g_up (g_up T.1 1 (4 * b + s) 1) 2 (4 * b + s) 0) 10 (4 * b + s) 0) 11 (4 * b + s) 255) 12 (4 * b + s) (-1)) 13 (4 * b + s) 0) 4 (4 * b + s) 0) 7 (4 * b + s) 0) 9 (4 * b + s) (-1)) 5 (4 * b + s) d) 6 (4 * b + s) 8 k t' = g_up (g_up (g_up (g_up (g_up (g_up (g_up (g_up (g_up (g_up T'.1 2 (4 * b + s) 0) 4 (4 * b + s) 0) 5 (4 * b + s) d) 11 (4 * b + s) 255) 12 (4 * b + s) (-1)) 10 (4 * b + s) 0) 13 (4 * b + s) 0) 7 (4 * b + s) 0) 9 (4 * b + s) (-1)) 6 (4 * b + s) 8 k t'
      by_cases zt : t' = 4 * b + s
      · subst zt
        have hk : k = 1 ∨ k = 2 ∨ k = 3 ∨ k = 4 ∨ k = 5 ∨ k = 6 ∨ k = 7 ∨ k = 8 ∨ k = 9 ∨ k = 10 ∨ k = 11 ∨ k = 12 ∨ k = 13 ∨ k = 14 ∨ k = 15 := by omega
        rcases hk with rfl | rfl | rfl | rfl | rfl | rfl | rfl | rfl | rfl | rfl | rfl | rfl | rfl | rfl | rfl <;> simp [g_up, g3, g4]
      · simp [g_up, zt, g4]
    · show u_up (u_up T.2 (4 * b + s) []) (4 * b + s) (s_put 8 (u_up T.2 (4 * b + s) [] (4 * b + s)) (7, 0, 0, d, 0)) = u_up (u_up T'.2 (4 * b + s) []) (4 * b + s) (s_put 8 (u_up T'.2 (4 * b + s) [] (4 * b + s)) (7, 0, 0, _, 0))
      rw [g2, show (gt_set (gt_set (gt_set (gt_set (gt_set (gt_set (gt_set T' 2 (4 * b + s) 0) 4 (4 * b + s) 0) 5 (4 * b + s) d) 11 (4 * b + s) 255) 12 (4 * b + s) (-1)) 10 (4 * b + s) 0) 13 (4 * b + s) 0).1 5 (4 * b + s) = d by simp [gt_set, g_up]]
  · try simp only [pb_iconst, pb_null, pb_iload, pb_aload, pb_istore, pb_astore, pb_iinc, pb_bin, pb_bin0, pb_dup, pb_pop, pb_dup2, pb_if, pb_icmp, pb_ifnull, pb_getI, pb_getR, pb_putI, pb_putZ, pb_putR, pb_alen, pb_ald, pb_aldR, pb_ast, pb_astZ, pb_astR, pb_vret, pb_iret, pb_zret, pb_aret, pb_cv, pb_cr, pb_sr, pb_switch, pb_sw, pb_nth, pb_set, pb_tk, pb_add, pb_sub, List.length_cons, List.length_nil, true_or, or_true, true_and, and_true, and_self, pb_up_same, pb_up_f, ne_eq, Nat.reduceEqDiff, not_false_eq_true, Nat.reduceAdd, Nat.reduceLeDiff, Nat.zero_le]
    exact ⟨fun _ => h0 (fun y => hb y.1.1), fun z => by simp at z⟩
end MPL
