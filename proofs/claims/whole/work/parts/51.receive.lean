/-! a frame has come up -/
def ge_recvd (E : gE) (b : Int) (fr : gF) : gE :=
  if fr.1 = 0 then ge_setup E b fr else if fr.1 = 2 then ge_alert E b fr else if fr.1 = 3 then ge_connect E b fr else if fr.1 = 5 then ge_leave (ge_put E b (6, fr.2.1, fr.2.2.1, 0, 0)) b fr.2.1 fr.2.2.1 1 else if fr.1 = 6 then ge_leave E b fr.2.1 fr.2.2.1 0 else E
def ge_receive (E : gE) (b : Int) (fr : gF) (bit : Int) : gE :=
  if fr.1 = 7 then ge_give E b fr.2.2.2.1 else if ¬ (64 ≤ fr.2.1 ∧ fr.2.1 < 68) then E else if fr.1 = 8 then ge_set E 5 (4 * b + (fr.2.1 - 64)) (pb_w (E.1 5 (4 * b + (fr.2.1 - 64)) + 1)) else if E.1 2 (4 * b + (fr.2.1 - 64)) = bit then ge_recvd (ge_set E 2 (4 * b + (fr.2.1 - 64)) (pb_w (1 - bit))) b fr else E
section RCV
variable {x : pb_E} {σ : pb_H} {E : gE} {ρ : Int → Int} {μ : pb_H} {b s : Int} {Q : pb_P} {n : Nat}
theorem p_rho (h : RE σ E ρ μ) : ∀ i, 0 ≤ i → i < 4 → 0 ≤ ρ i := by
  intro i q1 q2
  obtain ⟨j0, c1, c2, c3⟩ := h.2.2.2.2.2.1.2.1 i q1 q2
  rw [p_ref h] at c3
  omega
set_option maxHeartbeats 1000000 in
theorem c_P_receiveUp {q bit : Int} {fr : gF} (h : RE σ E ρ μ) (hb : 0 ≤ b ∧ b < 2) (hw : g_cws E.2.2) (hq : pb_is 3 213 q) (hd : (32 ≤ q ∧ q ≤ 75) ∨ (109 ≤ q ∧ q ≤ 152)) (hf : g_fr μ q = fr) (ha : pb_R fr.2.1) (hQ : ∀ σ' ρ', RE σ' (ge_receive E b fr bit) ρ' μ → Q (.inl 0) σ') : pb_MJ x i_P_receiveUp [.inr 0, .inl b, .inr q, .inl bit] 213 σ Q := by
  refine pb_m_P_receiveUp ?_
  obtain ⟨f1, f2, f3, f4⟩ := p_F h hd hf
  unfold ge_receive at hQ
  simp only [pb_b_P_receiveUp_0, pb_b_P_receiveUp_23, pb_iconst, pb_null, pb_iload, pb_aload, pb_istore, pb_astore, pb_iinc, pb_bin, pb_bin0, pb_dup, pb_pop, pb_dup2, pb_if, pb_icmp, pb_ifnull, pb_getI, pb_getR, pb_putI, pb_putZ, pb_putR, pb_alen, pb_ald, pb_aldR, pb_ast, pb_astZ, pb_astR, pb_vret, pb_iret, pb_zret, pb_aret, pb_cv, pb_cr, pb_sr, pb_switch, pb_sw, pb_nth, pb_set, pb_tk, pb_add, pb_sub, List.length_cons, List.length_nil, true_or, or_true, true_and, and_true, and_self, pb_up_same, pb_up_f, ne_eq, Nat.reduceEqDiff, not_false_eq_true, Nat.reduceAdd, Nat.reduceLeDiff, Nat.zero_le, is_P.1, is_P.2.1, is_P.2.2.1, is_P.2.2.2.1, is_P.2.2.2.2, (p_P h).1, (p_P h).2.1, (p_P h).2.2.1, (p_P h).2.2.2.1, (p_P h).2.2.2.2, p_ref h, (q_bus h.1 hb).1, (q_bus h.1 hb).2.1, (q_bus h.1 hb).2.2.1, (q_bus h.1 hb).2.2.2, (is_B hb).1, (is_B hb).2.1, (is_B hb).2.2.1, (is_B hb).2.2.2.1, (is_B hb).2.2.2.2, (rwD hb).1, hq, f1, f2, f4]
  refine ⟨fun z => ?_, fun z => ?_⟩
  · rw [if_neg z] at hQ
    refine ⟨hb, c_B_lineOf h.1 hb ha (fun j j1 j2 j3 => ?_) (fun j0 => ?_)⟩
    · rw [if_neg (by omega), show fr.2.1 - 64 = j by omega] at hQ
      try simp only [pb_b_P_receiveUp_44, pb_b_P_receiveUp_65, pb_iconst, pb_null, pb_iload, pb_aload, pb_istore, pb_astore, pb_iinc, pb_bin, pb_bin0, pb_dup, pb_pop, pb_dup2, pb_if, pb_icmp, pb_ifnull, pb_getI, pb_getR, pb_putI, pb_putZ, pb_putR, pb_alen, pb_ald, pb_aldR, pb_ast, pb_astZ, pb_astR, pb_vret, pb_iret, pb_zret, pb_aret, pb_cv, pb_cr, pb_sr, pb_switch, pb_sw, pb_nth, pb_set, pb_tk, pb_add, pb_sub, List.length_cons, List.length_nil, true_or, or_true, true_and, and_true, and_self, pb_up_same, pb_up_f, ne_eq, Nat.reduceEqDiff, not_false_eq_true, Nat.reduceAdd, Nat.reduceLeDiff, Nat.zero_le, is_L hb ⟨j1, j2⟩, hq, f1]
      refine ⟨fun z => absurd z (by omega), fun _ => ⟨fun z2 => ?_, fun z2 => ?_⟩⟩
      · rw [if_neg z2] at hQ
        try simp only [p_L h hb ⟨j1, j2⟩ 503 2 rfl (by decide)]
        refine ⟨fun z3 => ?_, fun z3 => ?_⟩
        · rw [if_pos z3] at hQ
          have h2 := r_L h hb ⟨j1, j2⟩ 503 2 rfl (by decide) (pb_w (1 - bit))
          have hw2 : g_cws (ge_set E 2 (4 * b + j) (pb_w (1 - bit))).2.2 := hw
          simp only [pb_b_P_receiveUp_75, pb_iconst, pb_null, pb_iload, pb_aload, pb_istore, pb_astore, pb_iinc, pb_bin, pb_bin0, pb_dup, pb_pop, pb_dup2, pb_if, pb_icmp, pb_ifnull, pb_getI, pb_getR, pb_putI, pb_putZ, pb_putR, pb_alen, pb_ald, pb_aldR, pb_ast, pb_astZ, pb_astR, pb_vret, pb_iret, pb_zret, pb_aret, pb_cv, pb_cr, pb_sr, pb_switch, pb_sw, pb_nth, pb_set, pb_tk, pb_add, pb_sub, List.length_cons, List.length_nil, true_or, or_true, true_and, and_true, and_self, pb_up_same, pb_up_f, ne_eq, Nat.reduceEqDiff, not_false_eq_true, Nat.reduceAdd, Nat.reduceLeDiff, Nat.zero_le, is_L hb ⟨j1, j2⟩, hq]
          generalize hσ2 : pb_up σ 503 (76 + 77 * b + j) 0 (pb_w (1 - bit)) = σ2 at h2 ⊢
          generalize ge_set E 2 (4 * b + j) (pb_w (1 - bit)) = E2 at hQ h2 hw2
          obtain ⟨u1, u2, u3, u4⟩ := p_F h2 hd hf
          unfold ge_recvd at hQ
          simp only [pb_b_P_receiveUp_128, pb_b_P_receiveUp_137, pb_b_P_receiveUp_146, pb_b_P_receiveUp_155, pb_b_P_receiveUp_187, pb_b_P_receiveUp_196, pb_iconst, pb_null, pb_iload, pb_aload, pb_istore, pb_astore, pb_iinc, pb_bin, pb_bin0, pb_dup, pb_pop, pb_dup2, pb_if, pb_icmp, pb_ifnull, pb_getI, pb_getR, pb_putI, pb_putZ, pb_putR, pb_alen, pb_ald, pb_aldR, pb_ast, pb_astZ, pb_astR, pb_vret, pb_iret, pb_zret, pb_aret, pb_cv, pb_cr, pb_sr, pb_switch, pb_sw, pb_nth, pb_set, pb_tk, pb_add, pb_sub, List.length_cons, List.length_nil, true_or, or_true, true_and, and_true, and_self, pb_up_same, pb_up_f, ne_eq, Nat.reduceEqDiff, not_false_eq_true, Nat.reduceAdd, Nat.reduceLeDiff, Nat.zero_le, is_P.1, is_P.2.1, is_P.2.2.1, is_P.2.2.2.1, is_P.2.2.2.2, (p_P h2).1, (p_P h2).2.1, (p_P h2).2.2.1, (p_P h2).2.2.2.1, (p_P h2).2.2.2.2, p_ref h2, (q_bus h2.1 hb).1, (q_bus h2.1 hb).2.1, (q_bus h2.1 hb).2.2.1, (q_bus h2.1 hb).2.2.2, (is_B hb).1, (is_B hb).2.1, (is_B hb).2.2.1, (is_B hb).2.2.2.1, (is_B hb).2.2.2.2, (rwD hb).1, hq, f1, u1, u2, u3]
          refine ⟨fun y => ?_, fun y0 => ⟨fun y => ?_, fun y1 => ⟨fun y => ?_, fun y2 => ⟨fun y => ?_, fun y3 => ⟨fun y => ?_, fun y4 => ⟨fun y => ?_, fun y5 => ⟨fun y => ?_, fun y6 => ?_⟩⟩⟩⟩⟩⟩⟩
          · rw [if_pos y] at hQ
            exact c_P_onSetup h2 hb hw2 hq hd hf (fun σ' h' => hQ _ _ h')
          · repeat (first | rw [if_pos (by omega)] at hQ | rw [if_neg (by omega)] at hQ)
            exact hQ _ _ h2
          · repeat (first | rw [if_pos (by omega)] at hQ | rw [if_neg (by omega)] at hQ)
            exact c_P_onAlert h2 hb (p_rho h2) hw2 hq hd hf ha (fun σ' h' => hQ _ _ h')
          · repeat (first | rw [if_pos (by omega)] at hQ | rw [if_neg (by omega)] at hQ)
            exact c_P_onConnect h2 hb (p_rho h2) hw2 hq hd hf ha (fun σ' h' => hQ _ _ h')
          · repeat (first | rw [if_pos (by omega)] at hQ | rw [if_neg (by omega)] at hQ)
            exact hQ _ _ h2
          · repeat (first | rw [if_pos (by omega)] at hQ | rw [if_neg (by omega)] at hQ)
            refine ⟨hb, c_putD h2 hb (fun σ3 h3 => ?_)⟩
            try simp only [pb_iconst, pb_null, pb_iload, pb_aload, pb_istore, pb_astore, pb_iinc, pb_bin, pb_bin0, pb_dup, pb_pop, pb_dup2, pb_if, pb_icmp, pb_ifnull, pb_getI, pb_getR, pb_putI, pb_putZ, pb_putR, pb_alen, pb_ald, pb_aldR, pb_ast, pb_astZ, pb_astR, pb_vret, pb_iret, pb_zret, pb_aret, pb_cv, pb_cr, pb_sr, pb_switch, pb_sw, pb_nth, pb_set, pb_tk, pb_add, pb_sub, List.length_cons, List.length_nil, true_or, or_true, true_and, and_true, and_self, pb_up_same, pb_up_f, ne_eq, Nat.reduceEqDiff, not_false_eq_true, Nat.reduceAdd, Nat.reduceLeDiff, Nat.zero_le, is_P.1, is_P.2.1, is_P.2.2.1, is_P.2.2.2.1, is_P.2.2.2.2, (p_P h3).1, (p_P h3).2.1, (p_P h3).2.2.1, (p_P h3).2.2.2.1, (p_P h3).2.2.2.2, p_ref h3, hq]
            refine c_P_leaveLeg h3 hw2 hq hd hf ha (fun σ' ρ' h' => hQ _ ρ' ?_)
            rw [if_pos y] at h'
            exact h'
          · repeat (first | rw [if_pos (by omega)] at hQ | rw [if_neg (by omega)] at hQ)
            refine c_P_leaveLeg h2 hw2 hq hd hf ha (fun σ' ρ' h' => hQ _ ρ' ?_)
            rw [if_neg (by omega)] at h'
            exact h'
          · repeat (first | rw [if_pos (by omega)] at hQ | rw [if_neg (by omega)] at hQ)
            exact hQ _ _ h2
        · rw [if_neg z3] at hQ
          exact hQ _ _ h
      · rw [if_pos (Decidable.not_not.mp z2)] at hQ
        try simp only [p_L h hb ⟨j1, j2⟩ 506 5 rfl (by decide)]
        exact hQ _ _ (r_L h hb ⟨j1, j2⟩ 506 5 rfl (by decide) _)
    · rw [if_pos j0] at hQ
      try simp only [pb_iconst, pb_null, pb_iload, pb_aload, pb_istore, pb_astore, pb_iinc, pb_bin, pb_bin0, pb_dup, pb_pop, pb_dup2, pb_if, pb_icmp, pb_ifnull, pb_getI, pb_getR, pb_putI, pb_putZ, pb_putR, pb_alen, pb_ald, pb_aldR, pb_ast, pb_astZ, pb_astR, pb_vret, pb_iret, pb_zret, pb_aret, pb_cv, pb_cr, pb_sr, pb_switch, pb_sw, pb_nth, pb_set, pb_tk, pb_add, pb_sub, List.length_cons, List.length_nil, true_or, or_true, true_and, and_true, and_self, pb_up_same, pb_up_f, ne_eq, Nat.reduceEqDiff, not_false_eq_true, Nat.reduceAdd, Nat.reduceLeDiff, Nat.zero_le]
      exact ⟨fun _ => hQ _ _ h, fun z => by simp at z⟩
  · rw [if_pos (Decidable.not_not.mp z)] at hQ
    exact ⟨hb, c_B_giveAddress h hb (fun σ' h' => hQ _ _ h')⟩
end RCV
