/-! speech -/
def g_goesK (T : gT) (c : List gC) (b ch : Int) : Nat → Nat → Int
  | 0, _ => 255
  | d + 1, k => match c[k]? with
    | none => 255
    | some f => if f 2 = 3 ∧ f 9 = 1 then (if f 5 = b ∧ f 8 = ch then g_comes T (f 10) (f 11) 4 else if f 10 = b ∧ f 11 = ch then g_comes T (f 5) (f 8) 4 else g_goesK T c b ch d (k + 1)) else g_goesK T c b ch d (k + 1)
def g_goes (T : gT) (c : List gC) (b ch : Int) : Int := g_goesK T c b ch c.length 0
def g_carry (c : List gC) (b : Int) (T : gT) (t : Int) : gT := gt_set T 12 t (if T.1 7 t = 6 then g_goes T c b (T.1 9 t) else -1)
def gt_speech (T : gT) (c : List gC) : gT := g_it (g_carry c 1) 1 (g_it (g_carry c 0) 0 T 4) 4
section SP
variable {x : pb_E} {σ : pb_H} {T : gT} {E : gE} {ρ : Int → Int} {μ : pb_H} {b s : Int} {Q : pb_P} {n : Nat}
theorem l_P_goesDown {ch : Int} (h0 : RC σ T E μ) (hw : g_cws E.2.2) (hQ : Q (.inl (g_goes T E.2.2 b ch)) σ) : ∀ (d k : Nat), k + d = E.2.2.length → g_goes T E.2.2 b ch = g_goesK T E.2.2 b ch d k → ∀ (o : Option pb_V), pb_WJ x i_P_goesDown 213 Q 2 [some (.inr 0), some (.inl b), some (.inl ch), some (.inl k), o] [] 213 σ := by
  intro d
  obtain ⟨ρ, h⟩ : ∃ ρ, RE σ E ρ σ := ⟨_, h0.re⟩
  have hlen := p_len h
  induction d with
  | zero =>
    intro k hk he o
    obtain rfl : k = E.2.2.length := by omega
    refine pb_s_P_goesDown_2 x 213 Q _ _ _ _ ?_
    simp only [pb_b_P_goesDown_2, pb_b_P_goesDown_119, pb_iconst, pb_null, pb_iload, pb_aload, pb_istore, pb_astore, pb_iinc, pb_bin, pb_bin0, pb_dup, pb_pop, pb_dup2, pb_if, pb_icmp, pb_ifnull, pb_getI, pb_getR, pb_putI, pb_putZ, pb_putR, pb_alen, pb_ald, pb_aldR, pb_ast, pb_astZ, pb_astR, pb_vret, pb_iret, pb_zret, pb_aret, pb_cv, pb_cr, pb_sr, pb_switch, pb_sw, pb_nth, pb_set, pb_tk, pb_add, pb_sub, List.length_cons, List.length_nil, true_or, or_true, true_and, and_true, and_self, pb_up_same, pb_up_f, ne_eq, Nat.reduceEqDiff, not_false_eq_true, Nat.reduceAdd, Nat.reduceLeDiff, Nat.zero_le, is_P.1, is_P.2.1, is_P.2.2.1, is_P.2.2.2.1, is_P.2.2.2.2, (p_P h).1, (p_P h).2.1, (p_P h).2.2.1, (p_P h).2.2.2.1, (p_P h).2.2.2.2, p_ref h]
    refine ⟨fun _ => ?_, fun z => absurd z (by omega)⟩
    rw [he] at hQ
    exact hQ
  | succ d ih =>
    intro k hk he o
    obtain ⟨f, hf⟩ := g_get (c := E.2.2) (k := k) (by omega)
    have hc := p_call h hf
    obtain ⟨w1, w2, w3⟩ := hw k f hf
    have e : pb_w ((k : Int) + 1) = ((k + 1 : Nat) : Int) := by rw [pb_w_id (by unfold pb_R; omega)]; omega
    unfold g_goesK at he
    rw [hf] at he
    dsimp only at he
    refine pb_s_P_goesDown_2 x 213 Q _ _ _ _ ?_
    simp only [pb_b_P_goesDown_2, pb_b_P_goesDown_39, pb_b_P_goesDown_113, pb_iconst, pb_null, pb_iload, pb_aload, pb_istore, pb_astore, pb_iinc, pb_bin, pb_bin0, pb_dup, pb_pop, pb_dup2, pb_if, pb_icmp, pb_ifnull, pb_getI, pb_getR, pb_putI, pb_putZ, pb_putR, pb_alen, pb_ald, pb_aldR, pb_ast, pb_astZ, pb_astR, pb_vret, pb_iret, pb_zret, pb_aret, pb_cv, pb_cr, pb_sr, pb_switch, pb_sw, pb_nth, pb_set, pb_tk, pb_add, pb_sub, List.length_cons, List.length_nil, true_or, or_true, true_and, and_true, and_self, pb_up_same, pb_up_f, ne_eq, Nat.reduceEqDiff, not_false_eq_true, Nat.reduceAdd, Nat.reduceLeDiff, Nat.zero_le, is_P.1, is_P.2.1, is_P.2.2.1, is_P.2.2.2.1, is_P.2.2.2.2, (p_P h).1, (p_P h).2.1, (p_P h).2.2.1, (p_P h).2.2.2.1, (p_P h).2.2.2.2, p_ref h, hc.1, q_C hc 602 1 rfl ⟨by decide, by decide⟩, q_C hc 603 2 rfl ⟨by decide, by decide⟩, q_C hc 604 3 rfl ⟨by decide, by decide⟩, q_C hc 605 4 rfl ⟨by decide, by decide⟩, q_C hc 606 5 rfl ⟨by decide, by decide⟩, q_C hc 607 6 rfl ⟨by decide, by decide⟩, q_C hc 608 7 rfl ⟨by decide, by decide⟩, q_C hc 609 8 rfl ⟨by decide, by decide⟩, q_C hc 610 9 rfl ⟨by decide, by decide⟩, q_C hc 611 10 rfl ⟨by decide, by decide⟩, q_C hc 612 11 rfl ⟨by decide, by decide⟩, q_C hc 613 12 rfl ⟨by decide, by decide⟩, e, (q_bus h.1 w1).1, (q_bus h.1 w1).2.1, (q_bus h.1 w1).2.2.1, (q_bus h.1 w1).2.2.2, (is_B w1).1, (is_B w1).2.1, (is_B w1).2.2.1, (is_B w1).2.2.2.1, (is_B w1).2.2.2.2, (rwD w1).1, (q_bus h.1 w2).1, (q_bus h.1 w2).2.1, (q_bus h.1 w2).2.2.1, (q_bus h.1 w2).2.2.2, (is_B w2).1, (is_B w2).2.1, (is_B w2).2.2.1, (is_B w2).2.2.2.1, (is_B w2).2.2.2.2, (rwD w2).1]
    have no : ¬ (f 2 = 3 ∧ f 9 = 1) → ∀ o, pb_WJ x i_P_goesDown 213 Q 2 [some (.inr 0), some (.inl b), some (.inl ch), some (.inl ((k + 1 : Nat) : Int)), o] [] 213 σ := fun z o => ih (k + 1) (by omega) (by rw [he, if_neg z]) o
    refine ⟨fun z => absurd z (by omega), fun _ => ⟨⟨by omega, by omega⟩, fun z => no (fun y => z y.1) _, fun z => ⟨fun z2 => ?_, fun z2 => no (fun y => z2 y.2) _⟩⟩⟩
    rw [if_pos ⟨Decidable.not_not.mp z, z2⟩] at he
    have no2 : ¬ (f 5 = b ∧ f 8 = ch) → pb_b_P_goesDown_76 x 213 Q [some (.inr 0), some (.inl b), some (.inl ch), some (.inl k), some (.inr (ρ k))] [] 213 σ := by
      intro y
      rw [if_neg y] at he
      simp only [pb_b_P_goesDown_76, pb_b_P_goesDown_113, pb_iconst, pb_null, pb_iload, pb_aload, pb_istore, pb_astore, pb_iinc, pb_bin, pb_bin0, pb_dup, pb_pop, pb_dup2, pb_if, pb_icmp, pb_ifnull, pb_getI, pb_getR, pb_putI, pb_putZ, pb_putR, pb_alen, pb_ald, pb_aldR, pb_ast, pb_astZ, pb_astR, pb_vret, pb_iret, pb_zret, pb_aret, pb_cv, pb_cr, pb_sr, pb_switch, pb_sw, pb_nth, pb_set, pb_tk, pb_add, pb_sub, List.length_cons, List.length_nil, true_or, or_true, true_and, and_true, and_self, pb_up_same, pb_up_f, ne_eq, Nat.reduceEqDiff, not_false_eq_true, Nat.reduceAdd, Nat.reduceLeDiff, Nat.zero_le, is_P.1, is_P.2.1, is_P.2.2.1, is_P.2.2.2.1, is_P.2.2.2.2, (p_P h).1, (p_P h).2.1, (p_P h).2.2.1, (p_P h).2.2.2.1, (p_P h).2.2.2.2, p_ref h, hc.1, q_C hc 602 1 rfl ⟨by decide, by decide⟩, q_C hc 603 2 rfl ⟨by decide, by decide⟩, q_C hc 604 3 rfl ⟨by decide, by decide⟩, q_C hc 605 4 rfl ⟨by decide, by decide⟩, q_C hc 606 5 rfl ⟨by decide, by decide⟩, q_C hc 607 6 rfl ⟨by decide, by decide⟩, q_C hc 608 7 rfl ⟨by decide, by decide⟩, q_C hc 609 8 rfl ⟨by decide, by decide⟩, q_C hc 610 9 rfl ⟨by decide, by decide⟩, q_C hc 611 10 rfl ⟨by decide, by decide⟩, q_C hc 612 11 rfl ⟨by decide, by decide⟩, q_C hc 613 12 rfl ⟨by decide, by decide⟩, e, (q_bus h.1 w1).1, (q_bus h.1 w1).2.1, (q_bus h.1 w1).2.2.1, (q_bus h.1 w1).2.2.2, (is_B w1).1, (is_B w1).2.1, (is_B w1).2.2.1, (is_B w1).2.2.2.1, (is_B w1).2.2.2.2, (rwD w1).1, (q_bus h.1 w2).1, (q_bus h.1 w2).2.1, (q_bus h.1 w2).2.2.1, (q_bus h.1 w2).2.2.2, (is_B w2).1, (is_B w2).2.1, (is_B w2).2.2.1, (is_B w2).2.2.2.1, (is_B w2).2.2.2.2, (rwD w2).1]
      refine ⟨fun y2 => ih (k + 1) (by omega) (by rw [he, if_neg (fun w => y2 w.1)]) _, fun y2 => ⟨fun y3 => ih (k + 1) (by omega) (by rw [he, if_neg (fun w => y3 w.2)]) _, fun y3 => ⟨w1, c_B_comesUp h0.rt w1 ?_⟩⟩⟩
      rw [he, if_pos ⟨Decidable.not_not.mp y2, Decidable.not_not.mp y3⟩] at hQ
      exact hQ
    refine ⟨fun y => no2 (fun w => y w.1), fun y => ⟨fun y2 => no2 (fun w => y2 w.2), fun y2 => ⟨w2, c_B_comesUp h0.rt w2 ?_⟩⟩⟩
    rw [he, if_pos ⟨Decidable.not_not.mp y, Decidable.not_not.mp y2⟩] at hQ
    exact hQ
theorem c_P_goesDown {ch : Int} (h : RC σ T E μ) (hw : g_cws E.2.2) (hQ : Q (.inl (g_goes T E.2.2 b ch)) σ) : pb_MJ x i_P_goesDown [.inr 0, .inl b, .inl ch] 213 σ Q := by
  refine pb_m_P_goesDown ?_
  simp only [pb_b_P_goesDown_0, pb_iconst, pb_null, pb_iload, pb_aload, pb_istore, pb_astore, pb_iinc, pb_bin, pb_bin0, pb_dup, pb_pop, pb_dup2, pb_if, pb_icmp, pb_ifnull, pb_getI, pb_getR, pb_putI, pb_putZ, pb_putR, pb_alen, pb_ald, pb_aldR, pb_ast, pb_astZ, pb_astR, pb_vret, pb_iret, pb_zret, pb_aret, pb_cv, pb_cr, pb_sr, pb_switch, pb_sw, pb_nth, pb_set, pb_tk, pb_add, pb_sub, List.length_cons, List.length_nil, true_or, or_true, true_and, and_true, and_self, pb_up_same, pb_up_f, ne_eq, Nat.reduceEqDiff, not_false_eq_true, Nat.reduceAdd, Nat.reduceLeDiff, Nat.zero_le]
  exact l_P_goesDown h hw hQ _ 0 (Nat.zero_add _) rfl _
theorem l_cs23 (hb : 0 ≤ b ∧ b < 2) (hw : g_cws E.2.2) (hN : ∀ σ' o2 o3 o4 o5, RC σ' (g_it (g_carry E.2.2 b) b T 4) E μ → pb_WJ x i_P_carrySpeech 213 Q 2 [some (.inr 0), some (.inl (b + 1)), o2, o3, o4, o5] [] 213 σ') : ∀ (d k : Nat), k + d = 4 → ∀ (σ : pb_H) (o5 : Option pb_V), RC σ (g_it (g_carry E.2.2 b) b T k) E μ → pb_WJ x i_P_carrySpeech 213 Q 23 [some (.inr 0), some (.inl b), some (.inr (4 + 77 * b)), some (.inl 4), some (.inl k), o5] [] 213 σ := by
  intro d
  have eb : pb_w (b + 1) = b + 1 := pb_w_id (by unfold pb_R; omega)
  obtain ⟨b1, b2, b3, b4, b5⟩ := is_B hb
  induction d with
  | zero =>
    intro k hk σ o5 h
    obtain rfl : k = 4 := by omega
    refine pb_s_P_carrySpeech_23 x 213 Q _ _ _ _ ?_
    simp only [pb_b_P_carrySpeech_23, pb_b_P_carrySpeech_70, pb_iconst, pb_null, pb_iload, pb_aload, pb_istore, pb_astore, pb_iinc, pb_bin, pb_bin0, pb_dup, pb_pop, pb_dup2, pb_if, pb_icmp, pb_ifnull, pb_getI, pb_getR, pb_putI, pb_putZ, pb_putR, pb_alen, pb_ald, pb_aldR, pb_ast, pb_astZ, pb_astR, pb_vret, pb_iret, pb_zret, pb_aret, pb_cv, pb_cr, pb_sr, pb_switch, pb_sw, pb_nth, pb_set, pb_tk, pb_add, pb_sub, List.length_cons, List.length_nil, true_or, or_true, true_and, and_true, and_self, pb_up_same, pb_up_f, ne_eq, Nat.reduceEqDiff, not_false_eq_true, Nat.reduceAdd, Nat.reduceLeDiff, Nat.zero_le, eb]
    exact ⟨fun _ => hN _ _ _ _ _ h, fun z => absurd z (by omega)⟩
  | succ d ih =>
    intro k hk σ o5 h
    have hs : 0 ≤ (k : Int) ∧ (k : Int) < 4 := ⟨by omega, by omega⟩
    have e : pb_w ((k : Int) + 1) = ((k + 1 : Nat) : Int) := by rw [pb_w_id (by unfold pb_R; omega)]; omega
    have hrt := h.rt
    have st : ∀ v, v = (if (g_it (g_carry E.2.2 b) b T k).1 7 (4 * b + k) = 6 then g_goes (g_it (g_carry E.2.2 b) b T k) E.2.2 b ((g_it (g_carry E.2.2 b) b T k).1 9 (4 * b + k)) else -1) → ∀ o, pb_WJ x i_P_carrySpeech 213 Q 23 [some (.inr 0), some (.inl b), some (.inr (4 + 77 * b)), some (.inl 4), some (.inl ((k + 1 : Nat) : Int)), o] [] 213 (pb_up σ 413 (32 + 77 * b + 11 * k) 0 v) := by
      intro v hv o
      subst hv
      exact ih (k + 1) (by omega) _ o (h.of (r_T hrt hb hs 413 12 rfl ⟨by decide, by decide⟩ _))
    refine pb_s_P_carrySpeech_23 x 213 Q _ _ _ _ ?_
    simp only [pb_b_P_carrySpeech_23, pb_b_P_carrySpeech_60, pb_b_P_carrySpeech_61, pb_iconst, pb_null, pb_iload, pb_aload, pb_istore, pb_astore, pb_iinc, pb_bin, pb_bin0, pb_dup, pb_pop, pb_dup2, pb_if, pb_icmp, pb_ifnull, pb_getI, pb_getR, pb_putI, pb_putZ, pb_putR, pb_alen, pb_ald, pb_aldR, pb_ast, pb_astZ, pb_astR, pb_vret, pb_iret, pb_zret, pb_aret, pb_cv, pb_cr, pb_sr, pb_switch, pb_sw, pb_nth, pb_set, pb_tk, pb_add, pb_sub, List.length_cons, List.length_nil, true_or, or_true, true_and, and_true, and_self, pb_up_same, pb_up_f, ne_eq, Nat.reduceEqDiff, not_false_eq_true, Nat.reduceAdd, Nat.reduceLeDiff, Nat.zero_le, b1, b2, b4, q_term h.1 hb hs, is_T hb hs, e, is_P.1, q_T hrt hb hs 402 1 rfl ⟨by decide, by decide⟩, q_T hrt hb hs 403 2 rfl ⟨by decide, by decide⟩, q_T hrt hb hs 404 3 rfl ⟨by decide, by decide⟩, q_T hrt hb hs 405 4 rfl ⟨by decide, by decide⟩, q_T hrt hb hs 406 5 rfl ⟨by decide, by decide⟩, q_T hrt hb hs 407 6 rfl ⟨by decide, by decide⟩, q_T hrt hb hs 408 7 rfl ⟨by decide, by decide⟩, q_T hrt hb hs 409 8 rfl ⟨by decide, by decide⟩, q_T hrt hb hs 410 9 rfl ⟨by decide, by decide⟩, q_T hrt hb hs 411 10 rfl ⟨by decide, by decide⟩, q_T hrt hb hs 412 11 rfl ⟨by decide, by decide⟩, q_T hrt hb hs 413 12 rfl ⟨by decide, by decide⟩, q_T hrt hb hs 414 13 rfl ⟨by decide, by decide⟩, q_T hrt hb hs 415 14 rfl ⟨by decide, by decide⟩, q_T hrt hb hs 416 15 rfl ⟨by decide, by decide⟩]
    refine ⟨fun z => absurd z (by omega), fun _ => ⟨hs, fun z => ?_, fun z => ?_⟩⟩
    · exact st _ (by rw [if_neg z]) _
    · refine c_P_goesDown h hw ?_
      try simp only [pb_iconst, pb_null, pb_iload, pb_aload, pb_istore, pb_astore, pb_iinc, pb_bin, pb_bin0, pb_dup, pb_pop, pb_dup2, pb_if, pb_icmp, pb_ifnull, pb_getI, pb_getR, pb_putI, pb_putZ, pb_putR, pb_alen, pb_ald, pb_aldR, pb_ast, pb_astZ, pb_astR, pb_vret, pb_iret, pb_zret, pb_aret, pb_cv, pb_cr, pb_sr, pb_switch, pb_sw, pb_nth, pb_set, pb_tk, pb_add, pb_sub, List.length_cons, List.length_nil, true_or, or_true, true_and, and_true, and_self, pb_up_same, pb_up_f, ne_eq, Nat.reduceEqDiff, not_false_eq_true, Nat.reduceAdd, Nat.reduceLeDiff, Nat.zero_le, is_T hb hs, e]
      exact st _ (by rw [if_pos (Decidable.not_not.mp z)]) _
theorem l_cs2 {o2 o3 o4 o5 : Option pb_V} (h : RC σ T E μ) (hb : 0 ≤ b ∧ b < 2) (hw : g_cws E.2.2) (hN : ∀ σ' o2 o3 o4 o5, RC σ' (g_it (g_carry E.2.2 b) b T 4) E μ → pb_WJ x i_P_carrySpeech 213 Q 2 [some (.inr 0), some (.inl (b + 1)), o2, o3, o4, o5] [] 213 σ') : pb_WJ x i_P_carrySpeech 213 Q 2 [some (.inr 0), some (.inl b), o2, o3, o4, o5] [] 213 σ := by
  refine pb_s_P_carrySpeech_2 x 213 Q _ _ _ _ ?_
  have hre := h.re
  simp only [pb_b_P_carrySpeech_2, pb_iconst, pb_null, pb_iload, pb_aload, pb_istore, pb_astore, pb_iinc, pb_bin, pb_bin0, pb_dup, pb_pop, pb_dup2, pb_if, pb_icmp, pb_ifnull, pb_getI, pb_getR, pb_putI, pb_putZ, pb_putR, pb_alen, pb_ald, pb_aldR, pb_ast, pb_astZ, pb_astR, pb_vret, pb_iret, pb_zret, pb_aret, pb_cv, pb_cr, pb_sr, pb_switch, pb_sw, pb_nth, pb_set, pb_tk, pb_add, pb_sub, List.length_cons, List.length_nil, true_or, or_true, true_and, and_true, and_self, pb_up_same, pb_up_f, ne_eq, Nat.reduceEqDiff, not_false_eq_true, Nat.reduceAdd, Nat.reduceLeDiff, Nat.zero_le, is_P.1, is_P.2.1, is_P.2.2.1, is_P.2.2.2.1, is_P.2.2.2.2, (p_P hre).1, (p_P hre).2.1, (p_P hre).2.2.1, (p_P hre).2.2.2.1, (p_P hre).2.2.2.2, p_ref hre, (q_bus hre.1 hb).1, (q_bus hre.1 hb).2.1, (q_bus hre.1 hb).2.2.1, (q_bus hre.1 hb).2.2.2, (is_B hb).1, (is_B hb).2.1, (is_B hb).2.2.1, (is_B hb).2.2.2.1, (is_B hb).2.2.2.2, (rwD hb).1]
  exact ⟨fun z => absurd z (by omega), fun _ => ⟨hb, l_cs23 hb hw hN 4 0 rfl σ _ h⟩⟩
theorem c_P_carrySpeech (h : RC σ T E μ) (hw : g_cws E.2.2) (hQ : ∀ σ', RC σ' (gt_speech T E.2.2) E μ → Q (.inl 0) σ') : pb_MJ x i_P_carrySpeech [.inr 0] 213 σ Q := by
  refine pb_m_P_carrySpeech ?_
  simp only [pb_b_P_carrySpeech_0, pb_iconst, pb_null, pb_iload, pb_aload, pb_istore, pb_astore, pb_iinc, pb_bin, pb_bin0, pb_dup, pb_pop, pb_dup2, pb_if, pb_icmp, pb_ifnull, pb_getI, pb_getR, pb_putI, pb_putZ, pb_putR, pb_alen, pb_ald, pb_aldR, pb_ast, pb_astZ, pb_astR, pb_vret, pb_iret, pb_zret, pb_aret, pb_cv, pb_cr, pb_sr, pb_switch, pb_sw, pb_nth, pb_set, pb_tk, pb_add, pb_sub, List.length_cons, List.length_nil, true_or, or_true, true_and, and_true, and_self, pb_up_same, pb_up_f, ne_eq, Nat.reduceEqDiff, not_false_eq_true, Nat.reduceAdd, Nat.reduceLeDiff, Nat.zero_le]
  refine l_cs2 (b := 0) h (by omega) hw (fun σ1 _ _ _ _ h1 => l_cs2 (b := 0 + 1) h1 (by omega) hw (fun σ2 _ _ _ _ h2 => ?_))
  refine pb_s_P_carrySpeech_2 x 213 Q _ _ _ _ ?_
  simp only [pb_b_P_carrySpeech_2, pb_b_P_carrySpeech_76, pb_iconst, pb_null, pb_iload, pb_aload, pb_istore, pb_astore, pb_iinc, pb_bin, pb_bin0, pb_dup, pb_pop, pb_dup2, pb_if, pb_icmp, pb_ifnull, pb_getI, pb_getR, pb_putI, pb_putZ, pb_putR, pb_alen, pb_ald, pb_aldR, pb_ast, pb_astZ, pb_astR, pb_vret, pb_iret, pb_zret, pb_aret, pb_cv, pb_cr, pb_sr, pb_switch, pb_sw, pb_nth, pb_set, pb_tk, pb_add, pb_sub, List.length_cons, List.length_nil, true_or, or_true, true_and, and_true, and_self, pb_up_same, pb_up_f, ne_eq, Nat.reduceEqDiff, not_false_eq_true, Nat.reduceAdd, Nat.reduceLeDiff, Nat.zero_le]
  exact ⟨fun _ => hQ _ h2, fun z => absurd z (by omega)⟩
end SP
