/-! clocks -/
def ge_audit (E : gE) (b : Int) (j : Int) : gE :=
  if E.1 3 (4 * b + j) = 0 then E else if ¬ pb_w (E.1 4 (4 * b + j) - 1) ≤ 0 then ge_set E 4 (4 * b + j) (pb_w (E.1 4 (4 * b + j) - 1)) else if E.1 5 (4 * b + j) ≤ 1 then (if E.1 5 (4 * b + j) = 1 then ge_set (ge_set E 4 (4 * b + j) (pb_w (E.1 4 (4 * b + j) - 1))) 3 (4 * b + j) 0 else ge_drop (ge_set (ge_set E 4 (4 * b + j) (pb_w (E.1 4 (4 * b + j) - 1))) 3 (4 * b + j) 0) b (64 + j)) else ge_drop (ge_put (ge_set (ge_set E 4 (4 * b + j) (pb_w (E.1 4 (4 * b + j) - 1))) 3 (4 * b + j) 0) b (10, 64 + j, 0, 0, 0)) b (64 + j)
def ge_cclock (E : gE) (i : Nat) : gE := match E.2.2[i]? with
  | none => E
  | some f => if f 2 = 1 ∨ f 2 = 2 then (if ¬ pb_w (f 3 - 1) ≤ 0 then ge_cset E i (c_up f 3 (pb_w (f 3 - 1))) else if f 2 = 2 then ge_end (ge_cset E i (c_up f 3 (pb_w (f 3 - 1)))) i 9 else if ¬ f 4 = 0 then ge_end (ge_cset E i (c_up f 3 (pb_w (f 3 - 1)))) i 8 else ge_put (ge_cset (ge_cset (ge_cset E i (c_up f 3 (pb_w (f 3 - 1)))) i (c_up (c_up f 3 (pb_w (f 3 - 1))) 4 1)) i (c_up (c_up (c_up f 3 (pb_w (f 3 - 1))) 4 1) 3 10)) (f 10) (12, 0, pb_mul 2 (f 1), f 11, 0)) else E
theorem ge_set_n {E : gE} {k k' : Nat} {t t' v : Int} (h : k' ≠ k) : (ge_set E k t v).1 k' t' = E.1 k' t' := g_up_n (fun z => h z.1)
section CK
variable {x : pb_E} {σ : pb_H} {T : gT} {E : gE} {ρ : Int → Int} {μ : pb_H} {b s : Int} {Q : pb_P} {n : Nat}
set_option maxHeartbeats 1000000 in
theorem c_P_runAuditClock {j : Int} (h : RE σ E ρ μ) (hb : 0 ≤ b ∧ b < 2) (hj : 0 ≤ j ∧ j < 4) (hw : g_cws E.2.2) (hQ : ∀ σ' ρ', RE σ' (ge_audit E b j) ρ' μ → Q (.inl 0) σ') : pb_MJ x i_P_runAuditClock [.inr 0, .inl b, .inl (64 + j)] 213 σ Q := by
  refine pb_m_P_runAuditClock ?_
  have ha : pb_R (64 + j) := by unfold pb_R; omega
  unfold ge_audit at hQ
  simp only [pb_b_P_runAuditClock_0, pb_b_P_runAuditClock_22, pb_iconst, pb_null, pb_iload, pb_aload, pb_istore, pb_astore, pb_iinc, pb_bin, pb_bin0, pb_dup, pb_pop, pb_dup2, pb_if, pb_icmp, pb_ifnull, pb_getI, pb_getR, pb_putI, pb_putZ, pb_putR, pb_alen, pb_ald, pb_aldR, pb_ast, pb_astZ, pb_astR, pb_vret, pb_iret, pb_zret, pb_aret, pb_cv, pb_cr, pb_sr, pb_switch, pb_sw, pb_nth, pb_set, pb_tk, pb_add, pb_sub, List.length_cons, List.length_nil, true_or, or_true, true_and, and_true, and_self, pb_up_same, pb_up_f, ne_eq, Nat.reduceEqDiff, not_false_eq_true, Nat.reduceAdd, Nat.reduceLeDiff, Nat.zero_le, is_P.1, is_P.2.1, is_P.2.2.1, is_P.2.2.2.1, is_P.2.2.2.2, (p_P h).1, (p_P h).2.1, (p_P h).2.2.1, (p_P h).2.2.2.1, (p_P h).2.2.2.2, p_ref h, (q_bus h.1 hb).1, (q_bus h.1 hb).2.1, (q_bus h.1 hb).2.2.1, (q_bus h.1 hb).2.2.2, (is_B hb).1, (is_B hb).2.1, (is_B hb).2.2.1, (is_B hb).2.2.2.1, (is_B hb).2.2.2.2, (rwD hb).1]
  refine ⟨hb, c_B_lineOf h.1 hb ha (fun j' j1 j2 j3 => ?_) (fun j0 => absurd (by omega) j0)⟩
  obtain rfl : j' = j := by omega
  try simp only [pb_iconst, pb_null, pb_iload, pb_aload, pb_istore, pb_astore, pb_iinc, pb_bin, pb_bin0, pb_dup, pb_pop, pb_dup2, pb_if, pb_icmp, pb_ifnull, pb_getI, pb_getR, pb_putI, pb_putZ, pb_putR, pb_alen, pb_ald, pb_aldR, pb_ast, pb_astZ, pb_astR, pb_vret, pb_iret, pb_zret, pb_aret, pb_cv, pb_cr, pb_sr, pb_switch, pb_sw, pb_nth, pb_set, pb_tk, pb_add, pb_sub, List.length_cons, List.length_nil, true_or, or_true, true_and, and_true, and_self, pb_up_same, pb_up_f, ne_eq, Nat.reduceEqDiff, not_false_eq_true, Nat.reduceAdd, Nat.reduceLeDiff, Nat.zero_le, is_L hb hj, p_L h hb hj 504 3 rfl (by decide)]
  refine ⟨fun z => absurd z (by omega), fun _ => ⟨fun z => ?_, fun z => ?_⟩⟩
  · rw [if_neg z] at hQ
    simp only [pb_b_P_runAuditClock_23, pb_iconst, pb_null, pb_iload, pb_aload, pb_istore, pb_astore, pb_iinc, pb_bin, pb_bin0, pb_dup, pb_pop, pb_dup2, pb_if, pb_icmp, pb_ifnull, pb_getI, pb_getR, pb_putI, pb_putZ, pb_putR, pb_alen, pb_ald, pb_aldR, pb_ast, pb_astZ, pb_astR, pb_vret, pb_iret, pb_zret, pb_aret, pb_cv, pb_cr, pb_sr, pb_switch, pb_sw, pb_nth, pb_set, pb_tk, pb_add, pb_sub, List.length_cons, List.length_nil, true_or, or_true, true_and, and_true, and_self, pb_up_same, pb_up_f, ne_eq, Nat.reduceEqDiff, not_false_eq_true, Nat.reduceAdd, Nat.reduceLeDiff, Nat.zero_le, is_L hb hj, p_L h hb hj 505 4 rfl (by decide)]
    have h1 := r_L h hb hj 505 4 rfl (by decide) (pb_w (E.1 4 (4 * b + j') - 1))
    refine ⟨fun z2 => ?_, fun z2 => ?_⟩
    · rw [if_neg (fun y => y z2)] at hQ
      have h2 := r_L h1 hb hj 504 3 rfl (by decide) 0
      have e5 := p_L h2 hb hj 506 5 rfl (by decide)
      rw [ge_set_n (by decide), ge_set_n (by decide)] at e5
      have e5' := e5
      simp only [pb_up_f, ne_eq, Nat.reduceEqDiff, not_false_eq_true] at e5'
      simp only [pb_b_P_runAuditClock_41, pb_iconst, pb_null, pb_iload, pb_aload, pb_istore, pb_astore, pb_iinc, pb_bin, pb_bin0, pb_dup, pb_pop, pb_dup2, pb_if, pb_icmp, pb_ifnull, pb_getI, pb_getR, pb_putI, pb_putZ, pb_putR, pb_alen, pb_ald, pb_aldR, pb_ast, pb_astZ, pb_astR, pb_vret, pb_iret, pb_zret, pb_aret, pb_cv, pb_cr, pb_sr, pb_switch, pb_sw, pb_nth, pb_set, pb_tk, pb_add, pb_sub, List.length_cons, List.length_nil, true_or, or_true, true_and, and_true, and_self, pb_up_same, pb_up_f, ne_eq, Nat.reduceEqDiff, not_false_eq_true, Nat.reduceAdd, Nat.reduceLeDiff, Nat.zero_le, is_L hb hj, e5', is_P.1, is_P.2.1, is_P.2.2.1, is_P.2.2.2.1, is_P.2.2.2.2, (p_P h).1, (p_P h).2.1, (p_P h).2.2.1, (p_P h).2.2.2.1, (p_P h).2.2.2.2, p_ref h, (q_bus h.1 hb).1, (q_bus h.1 hb).2.1, (q_bus h.1 hb).2.2.1, (q_bus h.1 hb).2.2.2, (is_B hb).1, (is_B hb).2.1, (is_B hb).2.2.1, (is_B hb).2.2.2.1, (is_B hb).2.2.2.2, (rwD hb).1]
      have hw2 : g_cws (ge_set (ge_set E 4 (4 * b + j') (pb_w (E.1 4 (4 * b + j') - 1))) 3 (4 * b + j') 0).2.2 := hw
      refine ⟨fun z3 => ?_, fun z3 => ?_⟩
      · rw [if_pos z3] at hQ
        simp only [pb_b_P_runAuditClock_71, pb_b_P_runAuditClock_85, pb_iconst, pb_null, pb_iload, pb_aload, pb_istore, pb_astore, pb_iinc, pb_bin, pb_bin0, pb_dup, pb_pop, pb_dup2, pb_if, pb_icmp, pb_ifnull, pb_getI, pb_getR, pb_putI, pb_putZ, pb_putR, pb_alen, pb_ald, pb_aldR, pb_ast, pb_astZ, pb_astR, pb_vret, pb_iret, pb_zret, pb_aret, pb_cv, pb_cr, pb_sr, pb_switch, pb_sw, pb_nth, pb_set, pb_tk, pb_add, pb_sub, List.length_cons, List.length_nil, true_or, or_true, true_and, and_true, and_self, pb_up_same, pb_up_f, ne_eq, Nat.reduceEqDiff, not_false_eq_true, Nat.reduceAdd, Nat.reduceLeDiff, Nat.zero_le, is_L hb hj, e5', is_P.1, is_P.2.1, is_P.2.2.1, is_P.2.2.2.1, is_P.2.2.2.2, (p_P h).1, (p_P h).2.1, (p_P h).2.2.1, (p_P h).2.2.2.1, (p_P h).2.2.2.2, p_ref h, (q_bus h.1 hb).1, (q_bus h.1 hb).2.1, (q_bus h.1 hb).2.2.1, (q_bus h.1 hb).2.2.2, (is_B hb).1, (is_B hb).2.1, (is_B hb).2.2.1, (is_B hb).2.2.2.1, (is_B hb).2.2.2.2, (rwD hb).1]
        refine ⟨fun z4 => ?_, fun z4 => ?_⟩
        · rw [if_pos z4] at hQ
          exact hQ _ _ h2
        · rw [if_neg z4] at hQ
          exact c_P_dropAddress h2 hb ha hw2 hQ
      · rw [if_neg z3] at hQ
        refine ⟨hb, c_putD h2 hb (fun σ4 h4 => ?_)⟩
        have e6 := p_L h4 hb hj 506 5 rfl (by decide)
        change _ = (ge_set (ge_set E 4 (4 * b + j') (pb_w (E.1 4 (4 * b + j') - 1))) 3 (4 * b + j') 0).1 5 (4 * b + j') at e6
        rw [ge_set_n (by decide), ge_set_n (by decide)] at e6
        simp only [pb_b_P_runAuditClock_71, pb_b_P_runAuditClock_85, pb_iconst, pb_null, pb_iload, pb_aload, pb_istore, pb_astore, pb_iinc, pb_bin, pb_bin0, pb_dup, pb_pop, pb_dup2, pb_if, pb_icmp, pb_ifnull, pb_getI, pb_getR, pb_putI, pb_putZ, pb_putR, pb_alen, pb_ald, pb_aldR, pb_ast, pb_astZ, pb_astR, pb_vret, pb_iret, pb_zret, pb_aret, pb_cv, pb_cr, pb_sr, pb_switch, pb_sw, pb_nth, pb_set, pb_tk, pb_add, pb_sub, List.length_cons, List.length_nil, true_or, or_true, true_and, and_true, and_self, pb_up_same, pb_up_f, ne_eq, Nat.reduceEqDiff, not_false_eq_true, Nat.reduceAdd, Nat.reduceLeDiff, Nat.zero_le, is_L hb hj, e6, is_P.1, is_P.2.1, is_P.2.2.1, is_P.2.2.2.1, is_P.2.2.2.2, (p_P h4).1, (p_P h4).2.1, (p_P h4).2.2.1, (p_P h4).2.2.2.1, (p_P h4).2.2.2.2, p_ref h4, (q_bus h4.1 hb).1, (q_bus h4.1 hb).2.1, (q_bus h4.1 hb).2.2.1, (q_bus h4.1 hb).2.2.2, (is_B hb).1, (is_B hb).2.1, (is_B hb).2.2.1, (is_B hb).2.2.2.1, (is_B hb).2.2.2.2, (rwD hb).1]
        refine ⟨fun z4 => absurd z4 (by omega), fun _ => ?_⟩
        exact c_P_dropAddress h4 hb ha hw2 hQ
    · rw [if_pos z2] at hQ
      exact hQ _ _ h1
  · rw [if_pos (Decidable.not_not.mp z)] at hQ
    exact hQ _ _ h
set_option maxHeartbeats 1000000 in
theorem c_P_runCallClock {i : Nat} {f : gC} (h : RE σ E ρ μ) (hf : E.2.2[i]? = some f) (hw : g_cw f) (hQ : ∀ σ', RE σ' (ge_cclock E i) ρ μ → Q (.inl 0) σ') : pb_MJ x i_P_runCallClock [.inr 0, .inr (ρ i)] 213 σ Q := by
  refine pb_m_P_runCallClock ?_
  have hc := p_call h hf
  unfold ge_cclock at hQ
  rw [hf] at hQ
  dsimp only at hQ
  simp only [pb_b_P_runCallClock_0, pb_iconst, pb_null, pb_iload, pb_aload, pb_istore, pb_astore, pb_iinc, pb_bin, pb_bin0, pb_dup, pb_pop, pb_dup2, pb_if, pb_icmp, pb_ifnull, pb_getI, pb_getR, pb_putI, pb_putZ, pb_putR, pb_alen, pb_ald, pb_aldR, pb_ast, pb_astZ, pb_astR, pb_vret, pb_iret, pb_zret, pb_aret, pb_cv, pb_cr, pb_sr, pb_switch, pb_sw, pb_nth, pb_set, pb_tk, pb_add, pb_sub, List.length_cons, List.length_nil, true_or, or_true, true_and, and_true, and_self, pb_up_same, pb_up_f, ne_eq, Nat.reduceEqDiff, not_false_eq_true, Nat.reduceAdd, Nat.reduceLeDiff, Nat.zero_le, hc.1]
  refine c_C_isUnanswered hc (fun k1 => ?_) (fun k1 => ?_)
  · have k1 : f 2 = 1 ∨ f 2 = 2 := k1
    rw [if_pos k1] at hQ
    try simp only [pb_b_P_runCallClock_8, pb_iconst, pb_null, pb_iload, pb_aload, pb_istore, pb_astore, pb_iinc, pb_bin, pb_bin0, pb_dup, pb_pop, pb_dup2, pb_if, pb_icmp, pb_ifnull, pb_getI, pb_getR, pb_putI, pb_putZ, pb_putR, pb_alen, pb_ald, pb_aldR, pb_ast, pb_astZ, pb_astR, pb_vret, pb_iret, pb_zret, pb_aret, pb_cv, pb_cr, pb_sr, pb_switch, pb_sw, pb_nth, pb_set, pb_tk, pb_add, pb_sub, List.length_cons, List.length_nil, true_or, or_true, true_and, and_true, and_self, pb_up_same, pb_up_f, ne_eq, Nat.reduceEqDiff, not_false_eq_true, Nat.reduceAdd, Nat.reduceLeDiff, Nat.zero_le, hc.1, q_C hc 602 1 rfl ⟨by decide, by decide⟩, q_C hc 603 2 rfl ⟨by decide, by decide⟩, q_C hc 604 3 rfl ⟨by decide, by decide⟩, q_C hc 605 4 rfl ⟨by decide, by decide⟩, q_C hc 606 5 rfl ⟨by decide, by decide⟩, q_C hc 607 6 rfl ⟨by decide, by decide⟩, q_C hc 608 7 rfl ⟨by decide, by decide⟩, q_C hc 609 8 rfl ⟨by decide, by decide⟩, q_C hc 610 9 rfl ⟨by decide, by decide⟩, q_C hc 611 10 rfl ⟨by decide, by decide⟩, q_C hc 612 11 rfl ⟨by decide, by decide⟩, q_C hc 613 12 rfl ⟨by decide, by decide⟩]
    refine ⟨fun _ => ⟨fun z => ?_, fun z => ?_⟩, fun z => by simp at z⟩
    · rw [if_neg (fun y => y z)] at hQ
      have h1 := r_C h hf 604 3 rfl ⟨by decide, by decide⟩ (pb_w (f 3 - 1))
      have hf1 : (ge_cset E i (c_up f 3 (pb_w (f 3 - 1)))).2.2[i]? = some (c_up f 3 (pb_w (f 3 - 1))) := g_cset_at hf
      have hc1 := p_call h1 hf1
      have hw1 : g_cw (c_up f 3 (pb_w (f 3 - 1))) := hw
      simp only [pb_b_P_runCallClock_26, pb_b_P_runCallClock_44, pb_b_P_runCallClock_98, pb_iconst, pb_null, pb_iload, pb_aload, pb_istore, pb_astore, pb_iinc, pb_bin, pb_bin0, pb_dup, pb_pop, pb_dup2, pb_if, pb_icmp, pb_ifnull, pb_getI, pb_getR, pb_putI, pb_putZ, pb_putR, pb_alen, pb_ald, pb_aldR, pb_ast, pb_astZ, pb_astR, pb_vret, pb_iret, pb_zret, pb_aret, pb_cv, pb_cr, pb_sr, pb_switch, pb_sw, pb_nth, pb_set, pb_tk, pb_add, pb_sub, List.length_cons, List.length_nil, true_or, or_true, true_and, and_true, and_self, pb_up_same, pb_up_f, ne_eq, Nat.reduceEqDiff, not_false_eq_true, Nat.reduceAdd, Nat.reduceLeDiff, Nat.zero_le, is_P.1, hc1.1, hc.1, q_C hc 602 1 rfl ⟨by decide, by decide⟩, q_C hc 603 2 rfl ⟨by decide, by decide⟩, q_C hc 604 3 rfl ⟨by decide, by decide⟩, q_C hc 605 4 rfl ⟨by decide, by decide⟩, q_C hc 606 5 rfl ⟨by decide, by decide⟩, q_C hc 607 6 rfl ⟨by decide, by decide⟩, q_C hc 608 7 rfl ⟨by decide, by decide⟩, q_C hc 609 8 rfl ⟨by decide, by decide⟩, q_C hc 610 9 rfl ⟨by decide, by decide⟩, q_C hc 611 10 rfl ⟨by decide, by decide⟩, q_C hc 612 11 rfl ⟨by decide, by decide⟩, q_C hc 613 12 rfl ⟨by decide, by decide⟩]
      refine ⟨fun y => ?_, fun y => ?_⟩
      · rw [if_neg y] at hQ
        refine ⟨fun y2 => ?_, fun y2 => ?_⟩
        · rw [if_neg (fun w => w y2)] at hQ
          have h2 := r_C h1 hf1 605 4 rfl ⟨by decide, by decide⟩ 1
          have hf2 := g_cset_at (g := c_up (c_up f 3 (pb_w (f 3 - 1))) 4 1) hf1
          have h3 := r_C h2 hf2 604 3 rfl ⟨by decide, by decide⟩ 10
          have hf3 := g_cset_at (g := c_up (c_up (c_up f 3 (pb_w (f 3 - 1))) 4 1) 3 10) hf2
          have hc3 := p_call h3 hf3
          have hb9 : 0 ≤ f 10 ∧ f 10 < 2 := hw.2.1
          simp only [pb_b_P_runCallClock_61, pb_b_P_runCallClock_98, pb_iconst, pb_null, pb_iload, pb_aload, pb_istore, pb_astore, pb_iinc, pb_bin, pb_bin0, pb_dup, pb_pop, pb_dup2, pb_if, pb_icmp, pb_ifnull, pb_getI, pb_getR, pb_putI, pb_putZ, pb_putR, pb_alen, pb_ald, pb_aldR, pb_ast, pb_astZ, pb_astR, pb_vret, pb_iret, pb_zret, pb_aret, pb_cv, pb_cr, pb_sr, pb_switch, pb_sw, pb_nth, pb_set, pb_tk, pb_add, pb_sub, List.length_cons, List.length_nil, true_or, or_true, true_and, and_true, and_self, pb_up_same, pb_up_f, ne_eq, Nat.reduceEqDiff, not_false_eq_true, Nat.reduceAdd, Nat.reduceLeDiff, Nat.zero_le, is_P.1, is_P.2.1, is_P.2.2.1, is_P.2.2.2.1, is_P.2.2.2.2, (p_P h).1, (p_P h).2.1, (p_P h).2.2.1, (p_P h).2.2.2.1, (p_P h).2.2.2.2, p_ref h, (q_bus h.1 hb9).1, (q_bus h.1 hb9).2.1, (q_bus h.1 hb9).2.2.1, (q_bus h.1 hb9).2.2.2, (is_B hb9).1, (is_B hb9).2.1, (is_B hb9).2.2.1, (is_B hb9).2.2.2.1, (is_B hb9).2.2.2.2, (rwD hb9).1, hc3.1, q_C hc 602 1 rfl ⟨by decide, by decide⟩, q_C hc 603 2 rfl ⟨by decide, by decide⟩, q_C hc 604 3 rfl ⟨by decide, by decide⟩, q_C hc 605 4 rfl ⟨by decide, by decide⟩, q_C hc 606 5 rfl ⟨by decide, by decide⟩, q_C hc 607 6 rfl ⟨by decide, by decide⟩, q_C hc 608 7 rfl ⟨by decide, by decide⟩, q_C hc 609 8 rfl ⟨by decide, by decide⟩, q_C hc 610 9 rfl ⟨by decide, by decide⟩, q_C hc 611 10 rfl ⟨by decide, by decide⟩, q_C hc 612 11 rfl ⟨by decide, by decide⟩, q_C hc 613 12 rfl ⟨by decide, by decide⟩]
          refine ⟨hb9, c_C_calledReference hc3 ?_⟩
          have e11 : _ = f 11 := q_C hc3 612 11 rfl ⟨by decide, by decide⟩
          try simp only [pb_iconst, pb_null, pb_iload, pb_aload, pb_istore, pb_astore, pb_iinc, pb_bin, pb_bin0, pb_dup, pb_pop, pb_dup2, pb_if, pb_icmp, pb_ifnull, pb_getI, pb_getR, pb_putI, pb_putZ, pb_putR, pb_alen, pb_ald, pb_aldR, pb_ast, pb_astZ, pb_astR, pb_vret, pb_iret, pb_zret, pb_aret, pb_cv, pb_cr, pb_sr, pb_switch, pb_sw, pb_nth, pb_set, pb_tk, pb_add, pb_sub, List.length_cons, List.length_nil, true_or, or_true, true_and, and_true, and_self, pb_up_same, pb_up_f, ne_eq, Nat.reduceEqDiff, not_false_eq_true, Nat.reduceAdd, Nat.reduceLeDiff, Nat.zero_le, hc3.1, (q_bus h.1 hb9).1, (q_bus h.1 hb9).2.1, (q_bus h.1 hb9).2.2.1, (q_bus h.1 hb9).2.2.2, (is_B hb9).1, (is_B hb9).2.1, (is_B hb9).2.2.1, (is_B hb9).2.2.2.1, (is_B hb9).2.2.2.2, (rwD hb9).1, q_C hc 602 1 rfl ⟨by decide, by decide⟩, q_C hc 603 2 rfl ⟨by decide, by decide⟩, q_C hc 604 3 rfl ⟨by decide, by decide⟩, q_C hc 605 4 rfl ⟨by decide, by decide⟩, q_C hc 606 5 rfl ⟨by decide, by decide⟩, q_C hc 607 6 rfl ⟨by decide, by decide⟩, q_C hc 608 7 rfl ⟨by decide, by decide⟩, q_C hc 609 8 rfl ⟨by decide, by decide⟩, q_C hc 610 9 rfl ⟨by decide, by decide⟩, q_C hc 611 10 rfl ⟨by decide, by decide⟩, q_C hc 612 11 rfl ⟨by decide, by decide⟩, q_C hc 613 12 rfl ⟨by decide, by decide⟩]
          exact c_putD h3 hb9 hQ
        · rw [if_pos y2] at hQ
          exact c_P_endCall h1 hf1 hw1 hQ
      · rw [if_pos (Decidable.not_not.mp y)] at hQ
        exact c_P_endCall h1 hf1 hw1 hQ
    · rw [if_pos z] at hQ
      exact hQ _ (r_C h hf 604 3 rfl ⟨by decide, by decide⟩ _)
  · have k1 : ¬ (f 2 = 1 ∨ f 2 = 2) := k1
    rw [if_neg k1] at hQ
    try simp only [pb_iconst, pb_null, pb_iload, pb_aload, pb_istore, pb_astore, pb_iinc, pb_bin, pb_bin0, pb_dup, pb_pop, pb_dup2, pb_if, pb_icmp, pb_ifnull, pb_getI, pb_getR, pb_putI, pb_putZ, pb_putR, pb_alen, pb_ald, pb_aldR, pb_ast, pb_astZ, pb_astR, pb_vret, pb_iret, pb_zret, pb_aret, pb_cv, pb_cr, pb_sr, pb_switch, pb_sw, pb_nth, pb_set, pb_tk, pb_add, pb_sub, List.length_cons, List.length_nil, true_or, or_true, true_and, and_true, and_self, pb_up_same, pb_up_f, ne_eq, Nat.reduceEqDiff, not_false_eq_true, Nat.reduceAdd, Nat.reduceLeDiff, Nat.zero_le]
    exact ⟨fun z => by simp at z, fun _ => hQ _ h⟩
end CK
