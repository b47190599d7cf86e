/-! a call ends; a leg is gone -/
def ge_end1 (i : Nat) (v : Int) (E : gE) (k : Nat) : gE := match E.2.2[i]? with
  | none => E
  | some f => if f (20 + k) = 2 ∨ f (20 + k) = 3 then ge_put (ge_cset E i (c_up f (20 + k) 4)) (f 10) (5, 64 + k, pb_mul 2 (f 1), v, 0) else E
def ge_endK (i : Nat) (v : Int) (E : gE) : Nat → gE
  | 0 => E
  | k + 1 => ge_end1 i v (ge_endK i v E k) k
def ge_end (E : gE) (i : Nat) (v : Int) : gE := match E.2.2[i]? with
  | none => E
  | some f => if f 2 = 4 then E else if f 9 = 1 then ge_endK i v (ge_put (ge_cset (ge_cset E i (c_up f 2 4)) i (c_up (c_up f 2 4) 9 4)) (f 5) (5, f 6, f 7, v, 0)) 4 else ge_endK i v (ge_cset E i (c_up f 2 4)) 4
def ge_callerGone (E : gE) (i : Nat) : gE := match E.2.2[i]? with
  | none => E
  | some f => ge_end (ge_cset E i (c_up f 9 0)) i 6
def ge_calledGone (E : gE) (i : Nat) (a : Int) : gE := match E.2.2[i]? with
  | none => E
  | some f => if g_leg f a = 3 then ge_end (ge_cset E i (g_setLeg f a 0)) i 6 else if g_leg f a = 2 ∧ f 2 = 2 ∧ g_ring (g_setLeg f a 0) 4 = false then ge_end (ge_cset E i (g_setLeg f a 0)) i 7 else ge_cset E i (g_setLeg f a 0)
theorem g_cset_at {E : gE} {i : Nat} {f g : gC} (h : E.2.2[i]? = some f) : (ge_cset E i g).2.2[i]? = some g := by
  unfold ge_cset ge_calls
  exact List.getElem?_set_self (List.getElem?_eq_some_iff.mp h).1
theorem g_leg_at {f : gC} {k : Nat} (h : k < 4) : g_leg f (64 + k) = f (20 + k) := by
  unfold g_leg
  rw [if_pos (by omega), show ((64 + (k : Int)) - 64).toNat = k by omega]
theorem g_setLeg_at {f : gC} {k : Nat} {v : Int} (h : k < 4) : g_setLeg f (64 + k) v = c_up f (20 + k) v := by
  unfold g_setLeg
  rw [if_pos (by omega), show ((64 + (k : Int)) - 64).toNat = k by omega]
theorem g_setLeg_lo {f : gC} {a v : Int} {t : Nat} (h : t < 20) : g_setLeg f a v t = f t := by
  unfold g_setLeg
  split
  · simp only [c_up]
    rw [if_neg (by omega)]
  · rfl
section EN
variable {x : pb_E} {σ : pb_H} {E : gE} {ρ : Int → Int} {μ : pb_H} {b s : Int} {Q : pb_P} {n : Nat}
theorem l_P_endCall {i : Nat} {v : Int} {f0 : gC} (hcb : 0 ≤ f0 10 ∧ f0 10 < 2) (hQ : ∀ σ', RE σ' (ge_endK i v E 4) ρ μ → Q (.inl 0) σ') : ∀ (d k : Nat), k + d = 4 → ∀ (σ : pb_H) (o : Option pb_V) (f : gC), RE σ (ge_endK i v E k) ρ μ → (ge_endK i v E k).2.2[i]? = some f → (∀ t, t < 20 → f t = f0 t) → pb_WJ x i_P_endCall 213 Q 55 [some (.inr 0), some (.inr (ρ i)), some (.inl v), some (.inl (64 + k)), o] [] 213 σ := by
  intro d
  induction d with
  | zero =>
    intro k hk σ o f h hf ht
    obtain rfl : k = 4 := by omega
    refine pb_s_P_endCall_55 x 213 Q _ _ _ _ ?_
    simp only [pb_b_P_endCall_0, pb_b_P_endCall_9, pb_b_P_endCall_52, pb_b_P_endCall_55, pb_b_P_endCall_80, pb_b_P_endCall_108, pb_b_P_endCall_114, pb_iconst, pb_null, pb_iload, pb_aload, pb_istore, pb_astore, pb_iinc, pb_bin, pb_bin0, pb_dup, pb_pop, pb_dup2, pb_if, pb_icmp, pb_ifnull, pb_getI, pb_getR, pb_putI, pb_putZ, pb_putR, pb_alen, pb_ald, pb_aldR, pb_ast, pb_astZ, pb_astR, pb_vret, pb_iret, pb_zret, pb_aret, pb_cv, pb_cr, pb_sr, pb_switch, pb_sw, pb_nth, pb_set, pb_tk, pb_add, pb_sub, List.length_cons, List.length_nil, true_or, or_true, true_and, and_true, and_self, pb_up_same, pb_up_f, ne_eq, Nat.reduceEqDiff, not_false_eq_true, Nat.reduceAdd, Nat.reduceLeDiff, Nat.zero_le]
    exact ⟨fun _ => hQ _ h, fun z => absurd z (by omega)⟩
  | succ d ih =>
    intro k hk σ o f h hf ht
    have hc := p_call h hf
    have hcq : 0 ≤ f 10 ∧ f 10 < 2 := by rw [ht 10 (by decide)]; exact hcb
    have e : pb_w (64 + (k : Int) + 1) = 64 + ((k + 1 : Nat) : Int) := by rw [pb_w_id (by unfold pb_R; omega)]; omega
    have ea : ge_endK i v E (k + 1) = if f (20 + k) = 2 ∨ f (20 + k) = 3 then ge_put (ge_cset (ge_endK i v E k) i (c_up f (20 + k) 4)) (f 10) (5, 64 + k, pb_mul 2 (f 1), v, 0) else ge_endK i v E k := by
      show ge_end1 i v (ge_endK i v E k) k = _
      unfold ge_end1
      rw [hf]
    have go : (f (20 + k) = 2 ∨ f (20 + k) = 3) → ∀ o : Option pb_V, pb_b_P_endCall_80 x 213 Q [some (.inr 0), some (.inr (ρ i)), some (.inl v), some (.inl (64 + k)), o] [] 213 σ := by
      intro hl o
      simp only [pb_b_P_endCall_80, pb_b_P_endCall_108, pb_iconst, pb_null, pb_iload, pb_aload, pb_istore, pb_astore, pb_iinc, pb_bin, pb_bin0, pb_dup, pb_pop, pb_dup2, pb_if, pb_icmp, pb_ifnull, pb_getI, pb_getR, pb_putI, pb_putZ, pb_putR, pb_alen, pb_ald, pb_aldR, pb_ast, pb_astZ, pb_astR, pb_vret, pb_iret, pb_zret, pb_aret, pb_cv, pb_cr, pb_sr, pb_switch, pb_sw, pb_nth, pb_set, pb_tk, pb_add, pb_sub, List.length_cons, List.length_nil, true_or, or_true, true_and, and_true, and_self, pb_up_same, pb_up_f, ne_eq, Nat.reduceEqDiff, not_false_eq_true, Nat.reduceAdd, Nat.reduceLeDiff, Nat.zero_le, hc.1]
      refine c_C_setLeg h hf (by unfold pb_R; omega) (fun σ1 h1 => ?_)
      rw [g_setLeg_at (by omega)] at h1
      have hf1 := g_cset_at (g := c_up f (20 + k) 4) hf
      have hc1 := p_call h1 hf1
      have e10 : c_up f (20 + k) 4 10 = f 10 := by simp only [c_up]; rw [if_neg (by omega)]
      have e1 : c_up f (20 + k) 4 1 = f 1 := by simp only [c_up]; rw [if_neg (by omega)]
      simp only [is_P.1, is_P.2.1, is_P.2.2.1, is_P.2.2.2.1, is_P.2.2.2.2, (p_P h1).1, (p_P h1).2.1, (p_P h1).2.2.1, (p_P h1).2.2.2.1, (p_P h1).2.2.2.2, p_ref h1, hc1.1, q_C hc1 602 1 rfl ⟨by decide, by decide⟩, q_C hc1 603 2 rfl ⟨by decide, by decide⟩, q_C hc1 604 3 rfl ⟨by decide, by decide⟩, q_C hc1 605 4 rfl ⟨by decide, by decide⟩, q_C hc1 606 5 rfl ⟨by decide, by decide⟩, q_C hc1 607 6 rfl ⟨by decide, by decide⟩, q_C hc1 608 7 rfl ⟨by decide, by decide⟩, q_C hc1 609 8 rfl ⟨by decide, by decide⟩, q_C hc1 610 9 rfl ⟨by decide, by decide⟩, q_C hc1 611 10 rfl ⟨by decide, by decide⟩, q_C hc1 612 11 rfl ⟨by decide, by decide⟩, q_C hc1 613 12 rfl ⟨by decide, by decide⟩, e10, (q_bus h1.1 hcq).1, (q_bus h1.1 hcq).2.1, (q_bus h1.1 hcq).2.2.1, (q_bus h1.1 hcq).2.2.2, (is_B hcq).1, (is_B hcq).2.1, (is_B hcq).2.2.1, (is_B hcq).2.2.2.1, (is_B hcq).2.2.2.2, (rwD hcq).1, true_and]
      refine ⟨hcq, c_C_calledReference hc1 ?_⟩
      try simp only [pb_iconst, pb_null, pb_iload, pb_aload, pb_istore, pb_astore, pb_iinc, pb_bin, pb_bin0, pb_dup, pb_pop, pb_dup2, pb_if, pb_icmp, pb_ifnull, pb_getI, pb_getR, pb_putI, pb_putZ, pb_putR, pb_alen, pb_ald, pb_aldR, pb_ast, pb_astZ, pb_astR, pb_vret, pb_iret, pb_zret, pb_aret, pb_cv, pb_cr, pb_sr, pb_switch, pb_sw, pb_nth, pb_set, pb_tk, pb_add, pb_sub, List.length_cons, List.length_nil, true_or, or_true, true_and, and_true, and_self, pb_up_same, pb_up_f, ne_eq, Nat.reduceEqDiff, not_false_eq_true, Nat.reduceAdd, Nat.reduceLeDiff, Nat.zero_le, e1, (q_bus h1.1 hcq).1, (q_bus h1.1 hcq).2.1, (q_bus h1.1 hcq).2.2.1, (q_bus h1.1 hcq).2.2.2, (is_B hcq).1, (is_B hcq).2.1, (is_B hcq).2.2.1, (is_B hcq).2.2.2.1, (is_B hcq).2.2.2.2, (rwD hcq).1]
      refine c_putD h1 hcq (fun σ2 h2 => ?_)
      try simp only [pb_iconst, pb_null, pb_iload, pb_aload, pb_istore, pb_astore, pb_iinc, pb_bin, pb_bin0, pb_dup, pb_pop, pb_dup2, pb_if, pb_icmp, pb_ifnull, pb_getI, pb_getR, pb_putI, pb_putZ, pb_putR, pb_alen, pb_ald, pb_aldR, pb_ast, pb_astZ, pb_astR, pb_vret, pb_iret, pb_zret, pb_aret, pb_cv, pb_cr, pb_sr, pb_switch, pb_sw, pb_nth, pb_set, pb_tk, pb_add, pb_sub, List.length_cons, List.length_nil, true_or, or_true, true_and, and_true, and_self, pb_up_same, pb_up_f, ne_eq, Nat.reduceEqDiff, not_false_eq_true, Nat.reduceAdd, Nat.reduceLeDiff, Nat.zero_le, e]
      have h3 := ih (k + 1) (by omega) σ2 o (c_up f (20 + k) 4) (by rw [ea, if_pos hl]; exact h2) (by rw [ea, if_pos hl]; exact hf1) (fun t q => by simp only [c_up]; rw [if_neg (by omega)]; exact ht t q)
      exact h3
    have no : ¬ (f (20 + k) = 2 ∨ f (20 + k) = 3) → ∀ o : Option pb_V, pb_b_P_endCall_108 x 213 Q [some (.inr 0), some (.inr (ρ i)), some (.inl v), some (.inl (64 + k)), o] [] 213 σ := by
      intro hl o
      simp only [pb_b_P_endCall_108, pb_iconst, pb_null, pb_iload, pb_aload, pb_istore, pb_astore, pb_iinc, pb_bin, pb_bin0, pb_dup, pb_pop, pb_dup2, pb_if, pb_icmp, pb_ifnull, pb_getI, pb_getR, pb_putI, pb_putZ, pb_putR, pb_alen, pb_ald, pb_aldR, pb_ast, pb_astZ, pb_astR, pb_vret, pb_iret, pb_zret, pb_aret, pb_cv, pb_cr, pb_sr, pb_switch, pb_sw, pb_nth, pb_set, pb_tk, pb_add, pb_sub, List.length_cons, List.length_nil, true_or, or_true, true_and, and_true, and_self, pb_up_same, pb_up_f, ne_eq, Nat.reduceEqDiff, not_false_eq_true, Nat.reduceAdd, Nat.reduceLeDiff, Nat.zero_le, e]
      exact ih (k + 1) (by omega) σ o f (by rw [ea, if_neg hl]; exact h) (by rw [ea, if_neg hl]; exact hf) ht
    refine pb_s_P_endCall_55 x 213 Q _ _ _ _ ?_
    simp only [pb_b_P_endCall_55, pb_iconst, pb_null, pb_iload, pb_aload, pb_istore, pb_astore, pb_iinc, pb_bin, pb_bin0, pb_dup, pb_pop, pb_dup2, pb_if, pb_icmp, pb_ifnull, pb_getI, pb_getR, pb_putI, pb_putZ, pb_putR, pb_alen, pb_ald, pb_aldR, pb_ast, pb_astZ, pb_astR, pb_vret, pb_iret, pb_zret, pb_aret, pb_cv, pb_cr, pb_sr, pb_switch, pb_sw, pb_nth, pb_set, pb_tk, pb_add, pb_sub, List.length_cons, List.length_nil, true_or, or_true, true_and, and_true, and_self, pb_up_same, pb_up_f, ne_eq, Nat.reduceEqDiff, not_false_eq_true, Nat.reduceAdd, Nat.reduceLeDiff, Nat.zero_le, hc.1]
    refine ⟨fun z => absurd z (by omega), fun _ => c_C_legOf hc (by unfold pb_R; omega) ?_⟩
    rw [g_leg_at (by omega)]
    try simp only [pb_iconst, pb_null, pb_iload, pb_aload, pb_istore, pb_astore, pb_iinc, pb_bin, pb_bin0, pb_dup, pb_pop, pb_dup2, pb_if, pb_icmp, pb_ifnull, pb_getI, pb_getR, pb_putI, pb_putZ, pb_putR, pb_alen, pb_ald, pb_aldR, pb_ast, pb_astZ, pb_astR, pb_vret, pb_iret, pb_zret, pb_aret, pb_cv, pb_cr, pb_sr, pb_switch, pb_sw, pb_nth, pb_set, pb_tk, pb_add, pb_sub, List.length_cons, List.length_nil, true_or, or_true, true_and, and_true, and_self, pb_up_same, pb_up_f, ne_eq, Nat.reduceEqDiff, not_false_eq_true, Nat.reduceAdd, Nat.reduceLeDiff, Nat.zero_le]
    exact ⟨fun z => go (Or.inl z) _, fun z => ⟨fun z2 => no (by omega) _, fun z2 => go (by omega) _⟩⟩
set_option maxHeartbeats 1000000 in
theorem c_P_endCall {i : Nat} {v : Int} {f : gC} (h : RE σ E ρ μ) (hf : E.2.2[i]? = some f) (hw : g_cw f) (hQ : ∀ σ', RE σ' (ge_end E i v) ρ μ → Q (.inl 0) σ') : pb_MJ x i_P_endCall [.inr 0, .inr (ρ i), .inl v] 213 σ Q := by
  refine pb_m_P_endCall ?_
  have hc := p_call h hf
  unfold ge_end at hQ
  rw [hf] at hQ
  dsimp only at hQ
  simp only [pb_b_P_endCall_0, pb_b_P_endCall_9, pb_b_P_endCall_52, pb_iconst, pb_null, pb_iload, pb_aload, pb_istore, pb_astore, pb_iinc, pb_bin, pb_bin0, pb_dup, pb_pop, pb_dup2, pb_if, pb_icmp, pb_ifnull, pb_getI, pb_getR, pb_putI, pb_putZ, pb_putR, pb_alen, pb_ald, pb_aldR, pb_ast, pb_astZ, pb_astR, pb_vret, pb_iret, pb_zret, pb_aret, pb_cv, pb_cr, pb_sr, pb_switch, pb_sw, pb_nth, pb_set, pb_tk, pb_add, pb_sub, List.length_cons, List.length_nil, true_or, or_true, true_and, and_true, and_self, pb_up_same, pb_up_f, ne_eq, Nat.reduceEqDiff, not_false_eq_true, Nat.reduceAdd, Nat.reduceLeDiff, Nat.zero_le, hc.1, q_C hc 602 1 rfl ⟨by decide, by decide⟩, q_C hc 603 2 rfl ⟨by decide, by decide⟩, q_C hc 604 3 rfl ⟨by decide, by decide⟩, q_C hc 605 4 rfl ⟨by decide, by decide⟩, q_C hc 606 5 rfl ⟨by decide, by decide⟩, q_C hc 607 6 rfl ⟨by decide, by decide⟩, q_C hc 608 7 rfl ⟨by decide, by decide⟩, q_C hc 609 8 rfl ⟨by decide, by decide⟩, q_C hc 610 9 rfl ⟨by decide, by decide⟩, q_C hc 611 10 rfl ⟨by decide, by decide⟩, q_C hc 612 11 rfl ⟨by decide, by decide⟩, q_C hc 613 12 rfl ⟨by decide, by decide⟩]
  refine ⟨fun z => ?_, fun z => ?_⟩
  · rw [if_neg z] at hQ
    have h1 := r_C h hf 603 2 rfl ⟨by decide, by decide⟩ 4
    have hf1 := g_cset_at (g := c_up f 2 4) hf
    refine ⟨fun z2 => ?_, fun z2 => ?_⟩
    · rw [if_neg z2] at hQ
      exact l_P_endCall (f0 := c_up f 2 4) hw.2.1 hQ 4 0 rfl _ none (c_up f 2 4) h1 hf1 (fun _ _ => rfl)
    · rw [if_pos (Decidable.not_not.mp z2)] at hQ
      have h2 := r_C h1 hf1 610 9 rfl ⟨by decide, by decide⟩ 4
      have hf2 := g_cset_at (g := c_up (c_up f 2 4) 9 4) hf1
      have hb5 : 0 ≤ f 5 ∧ f 5 < 2 := hw.1
      simp only [is_P.1, is_P.2.1, is_P.2.2.1, is_P.2.2.2.1, is_P.2.2.2.2, (p_P h).1, (p_P h).2.1, (p_P h).2.2.1, (p_P h).2.2.2.1, (p_P h).2.2.2.2, p_ref h, (q_bus h.1 hb5).1, (q_bus h.1 hb5).2.1, (q_bus h.1 hb5).2.2.1, (q_bus h.1 hb5).2.2.2, (is_B hb5).1, (is_B hb5).2.1, (is_B hb5).2.2.1, (is_B hb5).2.2.2.1, (is_B hb5).2.2.2.2, (rwD hb5).1, true_and]
      refine ⟨hb5, c_putD h2 hb5 (fun σ3 h3 => ?_)⟩
      exact l_P_endCall (f0 := c_up (c_up f 2 4) 9 4) hw.2.1 hQ 4 0 rfl _ none (c_up (c_up f 2 4) 9 4) h3 hf2 (fun _ _ => rfl)
  · rw [if_pos (Decidable.not_not.mp z)] at hQ
    exact hQ _ h
theorem c_P_callerGone {i : Nat} {f : gC} (h : RE σ E ρ μ) (hf : E.2.2[i]? = some f) (hw : g_cw f) (hQ : ∀ σ', RE σ' (ge_callerGone E i) ρ μ → Q (.inl 0) σ') : pb_MJ x i_P_callerGone [.inr 0, .inr (ρ i)] 213 σ Q := by
  refine pb_m_P_callerGone ?_
  have hc := p_call h hf
  unfold ge_callerGone at hQ
  rw [hf] at hQ
  dsimp only at hQ
  simp only [pb_b_P_callerGone_0, pb_iconst, pb_null, pb_iload, pb_aload, pb_istore, pb_astore, pb_iinc, pb_bin, pb_bin0, pb_dup, pb_pop, pb_dup2, pb_if, pb_icmp, pb_ifnull, pb_getI, pb_getR, pb_putI, pb_putZ, pb_putR, pb_alen, pb_ald, pb_aldR, pb_ast, pb_astZ, pb_astR, pb_vret, pb_iret, pb_zret, pb_aret, pb_cv, pb_cr, pb_sr, pb_switch, pb_sw, pb_nth, pb_set, pb_tk, pb_add, pb_sub, List.length_cons, List.length_nil, true_or, or_true, true_and, and_true, and_self, pb_up_same, pb_up_f, ne_eq, Nat.reduceEqDiff, not_false_eq_true, Nat.reduceAdd, Nat.reduceLeDiff, Nat.zero_le, hc.1, is_P.1]
  exact c_P_endCall (r_C h hf 610 9 rfl ⟨by decide, by decide⟩ 0) (g_cset_at hf) hw hQ
set_option maxHeartbeats 1000000 in
theorem c_P_calledGone {i : Nat} {a : Int} {f : gC} (h : RE σ E ρ μ) (hf : E.2.2[i]? = some f) (hw : g_cw f) (ha : pb_R a) (hQ : ∀ σ', RE σ' (ge_calledGone E i a) ρ μ → Q (.inl 0) σ') : pb_MJ x i_P_calledGone [.inr 0, .inr (ρ i), .inl a] 213 σ Q := by
  refine pb_m_P_calledGone ?_
  have hc := p_call h hf
  unfold ge_calledGone at hQ
  rw [hf] at hQ
  dsimp only at hQ
  simp only [pb_b_P_calledGone_0, pb_b_P_calledGone_27, pb_b_P_calledGone_54, pb_iconst, pb_null, pb_iload, pb_aload, pb_istore, pb_astore, pb_iinc, pb_bin, pb_bin0, pb_dup, pb_pop, pb_dup2, pb_if, pb_icmp, pb_ifnull, pb_getI, pb_getR, pb_putI, pb_putZ, pb_putR, pb_alen, pb_ald, pb_aldR, pb_ast, pb_astZ, pb_astR, pb_vret, pb_iret, pb_zret, pb_aret, pb_cv, pb_cr, pb_sr, pb_switch, pb_sw, pb_nth, pb_set, pb_tk, pb_add, pb_sub, List.length_cons, List.length_nil, true_or, or_true, true_and, and_true, and_self, pb_up_same, pb_up_f, ne_eq, Nat.reduceEqDiff, not_false_eq_true, Nat.reduceAdd, Nat.reduceLeDiff, Nat.zero_le, hc.1]
  refine c_C_legOf hc ha ?_
  try simp only [pb_iconst, pb_null, pb_iload, pb_aload, pb_istore, pb_astore, pb_iinc, pb_bin, pb_bin0, pb_dup, pb_pop, pb_dup2, pb_if, pb_icmp, pb_ifnull, pb_getI, pb_getR, pb_putI, pb_putZ, pb_putR, pb_alen, pb_ald, pb_aldR, pb_ast, pb_astZ, pb_astR, pb_vret, pb_iret, pb_zret, pb_aret, pb_cv, pb_cr, pb_sr, pb_switch, pb_sw, pb_nth, pb_set, pb_tk, pb_add, pb_sub, List.length_cons, List.length_nil, true_or, or_true, true_and, and_true, and_self, pb_up_same, pb_up_f, ne_eq, Nat.reduceEqDiff, not_false_eq_true, Nat.reduceAdd, Nat.reduceLeDiff, Nat.zero_le, hc.1]
  refine c_C_setLeg h hf ha (fun σ1 h1 => ?_)
  have hf1 := g_cset_at (g := g_setLeg f a 0) hf
  have hc1 := p_call h1 hf1
  have hw1 : g_cw (g_setLeg f a 0) := by
    unfold g_cw
    rw [g_setLeg_lo (by decide), g_setLeg_lo (by decide), g_setLeg_lo (by decide)]
    exact hw
  have e2 : g_setLeg f a 0 2 = f 2 := g_setLeg_lo (by decide)
  try simp only [pb_iconst, pb_null, pb_iload, pb_aload, pb_istore, pb_astore, pb_iinc, pb_bin, pb_bin0, pb_dup, pb_pop, pb_dup2, pb_if, pb_icmp, pb_ifnull, pb_getI, pb_getR, pb_putI, pb_putZ, pb_putR, pb_alen, pb_ald, pb_aldR, pb_ast, pb_astZ, pb_astR, pb_vret, pb_iret, pb_zret, pb_aret, pb_cv, pb_cr, pb_sr, pb_switch, pb_sw, pb_nth, pb_set, pb_tk, pb_add, pb_sub, List.length_cons, List.length_nil, true_or, or_true, true_and, and_true, and_self, pb_up_same, pb_up_f, ne_eq, Nat.reduceEqDiff, not_false_eq_true, Nat.reduceAdd, Nat.reduceLeDiff, Nat.zero_le, hc1.1, q_C hc1 602 1 rfl ⟨by decide, by decide⟩, q_C hc1 603 2 rfl ⟨by decide, by decide⟩, q_C hc1 604 3 rfl ⟨by decide, by decide⟩, q_C hc1 605 4 rfl ⟨by decide, by decide⟩, q_C hc1 606 5 rfl ⟨by decide, by decide⟩, q_C hc1 607 6 rfl ⟨by decide, by decide⟩, q_C hc1 608 7 rfl ⟨by decide, by decide⟩, q_C hc1 609 8 rfl ⟨by decide, by decide⟩, q_C hc1 610 9 rfl ⟨by decide, by decide⟩, q_C hc1 611 10 rfl ⟨by decide, by decide⟩, q_C hc1 612 11 rfl ⟨by decide, by decide⟩, q_C hc1 613 12 rfl ⟨by decide, by decide⟩, e2, is_P.1]
  refine ⟨fun z => ⟨fun z2 => ?_, fun z2 => ⟨fun z3 => ?_, fun z3 => c_C_isRinging hc1 (fun ho => ?_) (fun ho => ?_)⟩⟩, fun z => ?_⟩
  · rw [if_neg z, if_neg (fun q => z2 q.1)] at hQ
    exact hQ _ h1
  · rw [if_neg z, if_neg (fun q => z3 q.2.1)] at hQ
    exact hQ _ h1
  · rw [if_neg z, if_neg (fun q => by rw [ho] at q; exact absurd q.2.2 (by decide))] at hQ
    try simp only [pb_iconst, pb_null, pb_iload, pb_aload, pb_istore, pb_astore, pb_iinc, pb_bin, pb_bin0, pb_dup, pb_pop, pb_dup2, pb_if, pb_icmp, pb_ifnull, pb_getI, pb_getR, pb_putI, pb_putZ, pb_putR, pb_alen, pb_ald, pb_aldR, pb_ast, pb_astZ, pb_astR, pb_vret, pb_iret, pb_zret, pb_aret, pb_cv, pb_cr, pb_sr, pb_switch, pb_sw, pb_nth, pb_set, pb_tk, pb_add, pb_sub, List.length_cons, List.length_nil, true_or, or_true, true_and, and_true, and_self, pb_up_same, pb_up_f, ne_eq, Nat.reduceEqDiff, not_false_eq_true, Nat.reduceAdd, Nat.reduceLeDiff, Nat.zero_le]
    exact ⟨fun _ => hQ _ h1, fun q => by simp at q⟩
  · rw [if_neg z, if_pos ⟨Decidable.not_not.mp z2, Decidable.not_not.mp z3, ho⟩] at hQ
    try simp only [pb_iconst, pb_null, pb_iload, pb_aload, pb_istore, pb_astore, pb_iinc, pb_bin, pb_bin0, pb_dup, pb_pop, pb_dup2, pb_if, pb_icmp, pb_ifnull, pb_getI, pb_getR, pb_putI, pb_putZ, pb_putR, pb_alen, pb_ald, pb_aldR, pb_ast, pb_astZ, pb_astR, pb_vret, pb_iret, pb_zret, pb_aret, pb_cv, pb_cr, pb_sr, pb_switch, pb_sw, pb_nth, pb_set, pb_tk, pb_add, pb_sub, List.length_cons, List.length_nil, true_or, or_true, true_and, and_true, and_self, pb_up_same, pb_up_f, ne_eq, Nat.reduceEqDiff, not_false_eq_true, Nat.reduceAdd, Nat.reduceLeDiff, Nat.zero_le, hc1.1, is_P.1]
    exact ⟨fun q => by simp at q, fun _ => c_P_endCall h1 hf1 hw1 hQ⟩
  · rw [if_pos (Decidable.not_not.mp z)] at hQ
    exact c_P_endCall h1 hf1 hw1 hQ
end EN
