/-! an address is dropped -/
section DR
variable {x : pb_E} {σ : pb_H} {E : gE} {ρ : Int → Int} {μ : pb_H} {b s : Int} {Q : pb_P} {n : Nat}
theorem g_get {c : List gC} {k : Nat} (h : k < c.length) : ∃ f, c[k]? = some f := ⟨c[k], List.getElem?_eq_getElem h⟩
set_option maxHeartbeats 1000000 in
theorem l_P_dropAddress {a j : Int} (hb : 0 ≤ b ∧ b < 2) (ha : pb_R a) (hw : g_cws E.2.2) (hQ : ∀ σ' ρ', RE σ' (ge_row (ge_forget (ge_dropK b a E E.2.2.length)) b (((ge_dropK b a E E.2.2.length).2.1 b).filter (g_keep a))) ρ' μ → Q (.inl 0) σ') : ∀ (d k : Nat), k + d = E.2.2.length → ∀ (σ : pb_H) (o : Option pb_V), RE σ (ge_dropK b a E k) ρ μ → pb_WJ x i_P_dropAddress 213 Q 29 [some (.inr 0), some (.inl b), some (.inl a), some (.inr j), some (.inl k), o] [] 213 σ := by
  intro d
  induction d with
  | zero =>
    intro k hk σ o h
    have hlen := p_len h
    have hpk := g_pk_dropK b a E hw k
    rw [hpk.1] at hlen
    obtain rfl : k = E.2.2.length := by omega
    refine pb_s_P_dropAddress_29 x 213 Q _ _ _ _ ?_
    simp only [pb_b_P_dropAddress_29, pb_b_P_dropAddress_110, pb_iconst, pb_null, pb_iload, pb_aload, pb_istore, pb_astore, pb_iinc, pb_bin, pb_bin0, pb_dup, pb_pop, pb_dup2, pb_if, pb_icmp, pb_ifnull, pb_getI, pb_getR, pb_putI, pb_putZ, pb_putR, pb_alen, pb_ald, pb_aldR, pb_ast, pb_astZ, pb_astR, pb_vret, pb_iret, pb_zret, pb_aret, pb_cv, pb_cr, pb_sr, pb_switch, pb_sw, pb_nth, pb_set, pb_tk, pb_add, pb_sub, List.length_cons, List.length_nil, true_or, or_true, true_and, and_true, and_self, pb_up_same, pb_up_f, ne_eq, Nat.reduceEqDiff, not_false_eq_true, Nat.reduceAdd, Nat.reduceLeDiff, Nat.zero_le, is_P.1, is_P.2.1, is_P.2.2.1, is_P.2.2.2.1, is_P.2.2.2.2, (p_P h).1, (p_P h).2.1, (p_P h).2.2.1, (p_P h).2.2.2.1, (p_P h).2.2.2.2, p_ref h, hpk.1]
    refine ⟨fun _ => c_P_forget h (fun σ1 ρ1 h1 => ?_), fun z => absurd z (by omega)⟩
    simp only [is_P.1, is_P.2.1, is_P.2.2.1, is_P.2.2.2.1, is_P.2.2.2.2, (p_P h1).1, (p_P h1).2.1, (p_P h1).2.2.1, (p_P h1).2.2.2.1, (p_P h1).2.2.2.2, p_ref h1, (q_bus h1.1 hb).1, (q_bus h1.1 hb).2.1, (q_bus h1.1 hb).2.2.1, (q_bus h1.1 hb).2.2.2, (is_B hb).1, (is_B hb).2.1, (is_B hb).2.2.1, (is_B hb).2.2.2.1, (is_B hb).2.2.2.2, (rwD hb).1, true_and]
    exact ⟨hb, c_R_removeNumbered (rwD hb) (p_rowD h1 hb) (fun σ2 g1 g2 => hQ σ2 ρ1 (re_rowD h1 hb g1 g2))⟩
  | succ d ih =>
    intro k hk σ o h
    have hlen := p_len h
    have hpk := g_pk_dropK b a E hw k
    rw [hpk.1] at hlen
    have hwk := hpk.2 hw
    obtain ⟨f, hf⟩ := g_get (c := (ge_dropK b a E k).2.2) (k := k) (by rw [hpk.1]; omega)
    have hc := p_call h hf
    have e : pb_w ((k : Int) + 1) = ((k + 1 : Nat) : Int) := by rw [pb_w_id (by unfold pb_R; omega)]; omega
    have hB : ∀ (E1 : gE) (σ1 : pb_H), RE σ1 E1 ρ μ → g_cws E1.2.2 → k < E1.2.2.length → ge_dropK b a E (k + 1) = ge_dropB b a E1 k → pb_b_P_dropAddress_79 x 213 Q [some (.inr 0), some (.inl b), some (.inl a), some (.inr j), some (.inl k), some (.inr (ρ k))] [] 213 σ1 := by
      intro E1 σ1 h1 hw1 hk1 he
      obtain ⟨g, hg⟩ := g_get hk1
      have hc1 := p_call h1 hg
      have ea : ge_dropB b a E1 k = if g 10 = b ∧ ¬ g_leg g a = 0 then ge_calledGone E1 k a else E1 := by
        unfold ge_dropB
        rw [hg]
      simp only [pb_b_P_dropAddress_79, pb_b_P_dropAddress_104, pb_iconst, pb_null, pb_iload, pb_aload, pb_istore, pb_astore, pb_iinc, pb_bin, pb_bin0, pb_dup, pb_pop, pb_dup2, pb_if, pb_icmp, pb_ifnull, pb_getI, pb_getR, pb_putI, pb_putZ, pb_putR, pb_alen, pb_ald, pb_aldR, pb_ast, pb_astZ, pb_astR, pb_vret, pb_iret, pb_zret, pb_aret, pb_cv, pb_cr, pb_sr, pb_switch, pb_sw, pb_nth, pb_set, pb_tk, pb_add, pb_sub, List.length_cons, List.length_nil, true_or, or_true, true_and, and_true, and_self, pb_up_same, pb_up_f, ne_eq, Nat.reduceEqDiff, not_false_eq_true, Nat.reduceAdd, Nat.reduceLeDiff, Nat.zero_le, hc1.1, q_C hc1 602 1 rfl ⟨by decide, by decide⟩, q_C hc1 603 2 rfl ⟨by decide, by decide⟩, q_C hc1 604 3 rfl ⟨by decide, by decide⟩, q_C hc1 605 4 rfl ⟨by decide, by decide⟩, q_C hc1 606 5 rfl ⟨by decide, by decide⟩, q_C hc1 607 6 rfl ⟨by decide, by decide⟩, q_C hc1 608 7 rfl ⟨by decide, by decide⟩, q_C hc1 609 8 rfl ⟨by decide, by decide⟩, q_C hc1 610 9 rfl ⟨by decide, by decide⟩, q_C hc1 611 10 rfl ⟨by decide, by decide⟩, q_C hc1 612 11 rfl ⟨by decide, by decide⟩, q_C hc1 613 12 rfl ⟨by decide, by decide⟩, e, is_P.1]
      refine ⟨fun z => ih (k + 1) (by omega) σ1 _ (by rw [he, ea, if_neg (by omega)]; exact h1), fun z => c_C_legOf hc1 ha ?_⟩
      try simp only [pb_iconst, pb_null, pb_iload, pb_aload, pb_istore, pb_astore, pb_iinc, pb_bin, pb_bin0, pb_dup, pb_pop, pb_dup2, pb_if, pb_icmp, pb_ifnull, pb_getI, pb_getR, pb_putI, pb_putZ, pb_putR, pb_alen, pb_ald, pb_aldR, pb_ast, pb_astZ, pb_astR, pb_vret, pb_iret, pb_zret, pb_aret, pb_cv, pb_cr, pb_sr, pb_switch, pb_sw, pb_nth, pb_set, pb_tk, pb_add, pb_sub, List.length_cons, List.length_nil, true_or, or_true, true_and, and_true, and_self, pb_up_same, pb_up_f, ne_eq, Nat.reduceEqDiff, not_false_eq_true, Nat.reduceAdd, Nat.reduceLeDiff, Nat.zero_le, hc1.1, e, is_P.1]
      refine ⟨fun z2 => ih (k + 1) (by omega) σ1 _ (by rw [he, ea, if_neg (by omega)]; exact h1), fun z2 => c_P_calledGone h1 hg (hw1 k g hg) ha (fun σ2 h2 => ?_)⟩
      exact ih (k + 1) (by omega) σ2 _ (by rw [he, ea, if_pos (by omega)]; exact h2)
    have ed : ge_dropK b a E (k + 1) = if ¬ f 9 = 0 ∧ f 5 = b ∧ f 6 = a then ge_dropB b a (ge_callerGone (ge_dropK b a E k) k) k else ge_dropB b a (ge_dropK b a E k) k := by
      show ge_drop1 b a (ge_dropK b a E k) k = _
      unfold ge_drop1
      rw [hf]
    have no : ¬ (¬ f 9 = 0 ∧ f 5 = b ∧ f 6 = a) → pb_b_P_dropAddress_79 x 213 Q [some (.inr 0), some (.inl b), some (.inl a), some (.inr j), some (.inl k), some (.inr (ρ k))] [] 213 σ := fun hn => hB _ σ h hwk (by rw [hpk.1]; omega) (by rw [ed, if_neg hn])
    refine pb_s_P_dropAddress_29 x 213 Q _ _ _ _ ?_
    simp only [pb_b_P_dropAddress_29, pb_iconst, pb_null, pb_iload, pb_aload, pb_istore, pb_astore, pb_iinc, pb_bin, pb_bin0, pb_dup, pb_pop, pb_dup2, pb_if, pb_icmp, pb_ifnull, pb_getI, pb_getR, pb_putI, pb_putZ, pb_putR, pb_alen, pb_ald, pb_aldR, pb_ast, pb_astZ, pb_astR, pb_vret, pb_iret, pb_zret, pb_aret, pb_cv, pb_cr, pb_sr, pb_switch, pb_sw, pb_nth, pb_set, pb_tk, pb_add, pb_sub, List.length_cons, List.length_nil, true_or, or_true, true_and, and_true, and_self, pb_up_same, pb_up_f, ne_eq, Nat.reduceEqDiff, not_false_eq_true, Nat.reduceAdd, Nat.reduceLeDiff, Nat.zero_le, is_P.1, is_P.2.1, is_P.2.2.1, is_P.2.2.2.1, is_P.2.2.2.2, (p_P h).1, (p_P h).2.1, (p_P h).2.2.1, (p_P h).2.2.2.1, (p_P h).2.2.2.2, p_ref h, hpk.1, hc.1, q_C hc 602 1 rfl ⟨by decide, by decide⟩, q_C hc 603 2 rfl ⟨by decide, by decide⟩, q_C hc 604 3 rfl ⟨by decide, by decide⟩, q_C hc 605 4 rfl ⟨by decide, by decide⟩, q_C hc 606 5 rfl ⟨by decide, by decide⟩, q_C hc 607 6 rfl ⟨by decide, by decide⟩, q_C hc 608 7 rfl ⟨by decide, by decide⟩, q_C hc 609 8 rfl ⟨by decide, by decide⟩, q_C hc 610 9 rfl ⟨by decide, by decide⟩, q_C hc 611 10 rfl ⟨by decide, by decide⟩, q_C hc 612 11 rfl ⟨by decide, by decide⟩, q_C hc 613 12 rfl ⟨by decide, by decide⟩]
    refine ⟨fun z => absurd z (by omega), fun _ => ⟨⟨by omega, by omega⟩, fun z => no (by omega), fun z => ⟨fun z2 => no (by omega), fun z2 => ⟨fun z3 => no (by omega), fun z3 => ?_⟩⟩⟩⟩
    refine c_P_callerGone h hf (hwk k f hf) (fun σ1 h1 => ?_)
    have hpk2 := g_pk_callerGone (ge_dropK b a E k) k hwk
    exact hB _ σ1 h1 (hpk2.2 hwk) (by rw [hpk2.1, hpk.1]; omega) (by rw [ed, if_pos (by omega)])
theorem c_P_dropAddress {a : Int} (h : RE σ E ρ μ) (hb : 0 ≤ b ∧ b < 2) (ha : pb_R a) (hw : g_cws E.2.2) (hQ : ∀ σ' ρ', RE σ' (ge_drop E b a) ρ' μ → Q (.inl 0) σ') : pb_MJ x i_P_dropAddress [.inr 0, .inl b, .inl a] 213 σ Q := by
  refine pb_m_P_dropAddress ?_
  unfold ge_drop at hQ
  simp only [pb_b_P_dropAddress_0, pb_b_P_dropAddress_16, pb_iconst, pb_null, pb_iload, pb_aload, pb_istore, pb_astore, pb_iinc, pb_bin, pb_bin0, pb_dup, pb_pop, pb_dup2, pb_if, pb_icmp, pb_ifnull, pb_getI, pb_getR, pb_putI, pb_putZ, pb_putR, pb_alen, pb_ald, pb_aldR, pb_ast, pb_astZ, pb_astR, pb_vret, pb_iret, pb_zret, pb_aret, pb_cv, pb_cr, pb_sr, pb_switch, pb_sw, pb_nth, pb_set, pb_tk, pb_add, pb_sub, List.length_cons, List.length_nil, true_or, or_true, true_and, and_true, and_self, pb_up_same, pb_up_f, ne_eq, Nat.reduceEqDiff, not_false_eq_true, Nat.reduceAdd, Nat.reduceLeDiff, Nat.zero_le, is_P.1, is_P.2.1, is_P.2.2.1, is_P.2.2.2.1, is_P.2.2.2.2, (p_P h).1, (p_P h).2.1, (p_P h).2.2.1, (p_P h).2.2.2.1, (p_P h).2.2.2.2, p_ref h, (q_bus h.1 hb).1, (q_bus h.1 hb).2.1, (q_bus h.1 hb).2.2.1, (q_bus h.1 hb).2.2.2, (is_B hb).1, (is_B hb).2.1, (is_B hb).2.2.1, (is_B hb).2.2.2.1, (is_B hb).2.2.2.2, (rwD hb).1]
  refine ⟨hb, c_B_lineOf h.1 hb ha (fun j j1 j2 j3 => ?_) (fun j0 => ?_)⟩
  · rw [if_pos (by omega), show a - 64 = j by omega] at hQ
    try simp only [pb_iconst, pb_null, pb_iload, pb_aload, pb_istore, pb_astore, pb_iinc, pb_bin, pb_bin0, pb_dup, pb_pop, pb_dup2, pb_if, pb_icmp, pb_ifnull, pb_getI, pb_getR, pb_putI, pb_putZ, pb_putR, pb_alen, pb_ald, pb_aldR, pb_ast, pb_astZ, pb_astR, pb_vret, pb_iret, pb_zret, pb_aret, pb_cv, pb_cr, pb_sr, pb_switch, pb_sw, pb_nth, pb_set, pb_tk, pb_add, pb_sub, List.length_cons, List.length_nil, true_or, or_true, true_and, and_true, and_self, pb_up_same, pb_up_f, ne_eq, Nat.reduceEqDiff, not_false_eq_true, Nat.reduceAdd, Nat.reduceLeDiff, Nat.zero_le, is_L hb ⟨j1, j2⟩]
    refine ⟨fun z => absurd z (by omega), fun _ => ?_⟩
    have h1 := r_L (r_L h hb ⟨j1, j2⟩ 501 0 rfl (by decide) 0) hb ⟨j1, j2⟩ 504 3 rfl (by decide) 0
    exact l_P_dropAddress (E := ge_set (ge_set E 0 (4 * b + j) 0) 3 (4 * b + j) 0) hb ha hw hQ E.2.2.length 0 (by show 0 + E.2.2.length = E.2.2.length; omega) _ none h1
  · rw [if_neg j0] at hQ
    try simp only [pb_iconst, pb_null, pb_iload, pb_aload, pb_istore, pb_astore, pb_iinc, pb_bin, pb_bin0, pb_dup, pb_pop, pb_dup2, pb_if, pb_icmp, pb_ifnull, pb_getI, pb_getR, pb_putI, pb_putZ, pb_putR, pb_alen, pb_ald, pb_aldR, pb_ast, pb_astZ, pb_astR, pb_vret, pb_iret, pb_zret, pb_aret, pb_cv, pb_cr, pb_sr, pb_switch, pb_sw, pb_nth, pb_set, pb_tk, pb_add, pb_sub, List.length_cons, List.length_nil, true_or, or_true, true_and, and_true, and_self, pb_up_same, pb_up_f, ne_eq, Nat.reduceEqDiff, not_false_eq_true, Nat.reduceAdd, Nat.reduceLeDiff, Nat.zero_le]
    exact ⟨fun _ => hQ _ _ h, fun z => by simp at z⟩
end DR
