/-! what frames do at the exchange -/
def ge_alert (E : gE) (b : Int) (fr : gF) : gE :=
  if g_ans E.2.2 b fr.2.2.1 = -1 then ge_put E b (5, fr.2.1, fr.2.2.1, 5, 0) else match E.2.2[(g_ans E.2.2 b fr.2.2.1).toNat]? with
  | none => E
  | some f => if g_leg f fr.2.1 = 0 then (if f 2 = 1 then ge_put (ge_cset (ge_cset (ge_cset E (g_ans E.2.2 b fr.2.2.1).toNat (g_setLeg f fr.2.1 2)) (g_ans E.2.2 b fr.2.2.1).toNat (c_up (g_setLeg f fr.2.1 2) 2 2)) (g_ans E.2.2 b fr.2.2.1).toNat (c_up (c_up (g_setLeg f fr.2.1 2) 2 2) 3 40)) (f 5) (2, f 6, f 7, 0, 0) else ge_cset E (g_ans E.2.2 b fr.2.2.1).toNat (g_setLeg f fr.2.1 2)) else E
def ge_conn1 (b r : Int) (i : Nat) (E : gE) (k : Nat) : gE := match E.2.2[i]? with
  | none => E
  | some f => if f (20 + k) = 2 then ge_put (ge_cset E i (c_up f (20 + k) 4)) b (5, 64 + k, r, 5, 0) else E
def ge_connK (b r : Int) (i : Nat) (E : gE) : Nat → gE
  | 0 => E
  | k + 1 => ge_conn1 b r i (ge_connK b r i E k) k
def ge_connect (E : gE) (b : Int) (fr : gF) : gE :=
  if g_ans E.2.2 b fr.2.2.1 = -1 then (if g_has E.2.2 b fr.2.1 fr.2.2.1 = true then E else ge_put E b (5, fr.2.1, fr.2.2.1, 5, 0)) else match E.2.2[(g_ans E.2.2 b fr.2.2.1).toNat]? with
  | none => E
  | some f => ge_connK b fr.2.2.1 (g_ans E.2.2 b fr.2.2.1).toNat (ge_put (ge_put (ge_cset (ge_cset (ge_cset E (g_ans E.2.2 b fr.2.2.1).toNat (g_setLeg f fr.2.1 3)) (g_ans E.2.2 b fr.2.2.1).toNat (c_up (g_setLeg f fr.2.1 3) 12 fr.2.1)) (g_ans E.2.2 b fr.2.2.1).toNat (c_up (c_up (g_setLeg f fr.2.1 3) 12 fr.2.1) 2 3)) b (4, fr.2.1, fr.2.2.1, f 11, 0)) (f 5) (3, f 6, f 7, 0, 0)) 4
theorem g_ansK_ok (c : List gC) (b r : Int) : ∀ (d k : Nat), g_ansK c b r d k = -1 ∨ (0 ≤ g_ansK c b r d k ∧ (g_ansK c b r d k).toNat < c.length)
  | 0, _ => Or.inl rfl
  | d + 1, k => by
    unfold g_ansK
    split
    · exact Or.inl rfl
    · rename_i f hf
      have hl := (List.getElem?_eq_some_iff.mp hf).1
      split
      · split
        · exact Or.inr ⟨by omega, by omega⟩
        · exact Or.inl rfl
      · exact g_ansK_ok c b r d (k + 1)
section ON
variable {x : pb_E} {σ : pb_H} {E : gE} {ρ : Int → Int} {μ : pb_H} {b s : Int} {Q : pb_P} {n : Nat}
set_option maxHeartbeats 1000000 in
theorem c_P_onAlert {q : Int} {fr : gF} (h : RE σ E ρ μ) (hb : 0 ≤ b ∧ b < 2) (hρ : ∀ i, 0 ≤ i → i < 4 → 0 ≤ ρ i) (hw : g_cws E.2.2) (hq : pb_is 3 213 q) (hd : (32 ≤ q ∧ q ≤ 75) ∨ (109 ≤ q ∧ q ≤ 152)) (hf : g_fr μ q = fr) (ha : pb_R fr.2.1) (hQ : ∀ σ', RE σ' (ge_alert E b fr) ρ μ → Q (.inl 0) σ') : pb_MJ x i_P_onAlert [.inr 0, .inl b, .inr q] 213 σ Q := by
  refine pb_m_P_onAlert ?_
  obtain ⟨f1, f2, f3, f4⟩ := p_F h hd hf
  have hlen := p_len h
  unfold ge_alert at hQ
  simp only [pb_b_P_onAlert_0, pb_b_P_onAlert_22, pb_b_P_onAlert_34, pb_b_P_onAlert_87, pb_iconst, pb_null, pb_iload, pb_aload, pb_istore, pb_astore, pb_iinc, pb_bin, pb_bin0, pb_dup, pb_pop, pb_dup2, pb_if, pb_icmp, pb_ifnull, pb_getI, pb_getR, pb_putI, pb_putZ, pb_putR, pb_alen, pb_ald, pb_aldR, pb_ast, pb_astZ, pb_astR, pb_vret, pb_iret, pb_zret, pb_aret, pb_cv, pb_cr, pb_sr, pb_switch, pb_sw, pb_nth, pb_set, pb_tk, pb_add, pb_sub, List.length_cons, List.length_nil, true_or, or_true, true_and, and_true, and_self, pb_up_same, pb_up_f, ne_eq, Nat.reduceEqDiff, not_false_eq_true, Nat.reduceAdd, Nat.reduceLeDiff, Nat.zero_le, is_P.1, hq, f3]
  refine c_P_answerableCall h ?_
  rcases g_ansK_ok E.2.2 b fr.2.2.1 E.2.2.length 0 with hn | ⟨n1, n2⟩
  · have hn : g_ans E.2.2 b fr.2.2.1 = -1 := hn
    rw [if_pos hn] at hQ ⊢
    try simp only [pb_iconst, pb_null, pb_iload, pb_aload, pb_istore, pb_astore, pb_iinc, pb_bin, pb_bin0, pb_dup, pb_pop, pb_dup2, pb_if, pb_icmp, pb_ifnull, pb_getI, pb_getR, pb_putI, pb_putZ, pb_putR, pb_alen, pb_ald, pb_aldR, pb_ast, pb_astZ, pb_astR, pb_vret, pb_iret, pb_zret, pb_aret, pb_cv, pb_cr, pb_sr, pb_switch, pb_sw, pb_nth, pb_set, pb_tk, pb_add, pb_sub, List.length_cons, List.length_nil, true_or, or_true, true_and, and_true, and_self, pb_up_same, pb_up_f, ne_eq, Nat.reduceEqDiff, not_false_eq_true, Nat.reduceAdd, Nat.reduceLeDiff, Nat.zero_le, is_P.1, hq]
    exact ⟨fun _ => c_P_refuse h hb hq f2 f3 hQ, fun z => by simp at z⟩
  · have n1 : 0 ≤ g_ans E.2.2 b fr.2.2.1 := n1
    have n2 : (g_ans E.2.2 b fr.2.2.1).toNat < E.2.2.length := n2
    rw [if_neg (by omega)] at hQ ⊢
    obtain ⟨f, hf9⟩ := g_get n2
    rw [hf9] at hQ
    dsimp only at hQ
    generalize hi : (g_ans E.2.2 b fr.2.2.1).toNat = i at hQ hf9 n2
    rw [show g_ans E.2.2 b fr.2.2.1 = (i : Int) by omega]
    have hc := p_call h hf9
    have hr9 := hρ i (by omega) (by omega)
    try simp only [pb_iconst, pb_null, pb_iload, pb_aload, pb_istore, pb_astore, pb_iinc, pb_bin, pb_bin0, pb_dup, pb_pop, pb_dup2, pb_if, pb_icmp, pb_ifnull, pb_getI, pb_getR, pb_putI, pb_putZ, pb_putR, pb_alen, pb_ald, pb_aldR, pb_ast, pb_astZ, pb_astR, pb_vret, pb_iret, pb_zret, pb_aret, pb_cv, pb_cr, pb_sr, pb_switch, pb_sw, pb_nth, pb_set, pb_tk, pb_add, pb_sub, List.length_cons, List.length_nil, true_or, or_true, true_and, and_true, and_self, pb_up_same, pb_up_f, ne_eq, Nat.reduceEqDiff, not_false_eq_true, Nat.reduceAdd, Nat.reduceLeDiff, Nat.zero_le, is_P.1, hq, hc.1, f2]
    refine ⟨fun z => absurd z (by omega), fun _ => c_C_legOf hc ha ?_⟩
    try simp only [pb_iconst, pb_null, pb_iload, pb_aload, pb_istore, pb_astore, pb_iinc, pb_bin, pb_bin0, pb_dup, pb_pop, pb_dup2, pb_if, pb_icmp, pb_ifnull, pb_getI, pb_getR, pb_putI, pb_putZ, pb_putR, pb_alen, pb_ald, pb_aldR, pb_ast, pb_astZ, pb_astR, pb_vret, pb_iret, pb_zret, pb_aret, pb_cv, pb_cr, pb_sr, pb_switch, pb_sw, pb_nth, pb_set, pb_tk, pb_add, pb_sub, List.length_cons, List.length_nil, true_or, or_true, true_and, and_true, and_self, pb_up_same, pb_up_f, ne_eq, Nat.reduceEqDiff, not_false_eq_true, Nat.reduceAdd, Nat.reduceLeDiff, Nat.zero_le, is_P.1, hq, hc.1, f2]
    refine ⟨fun z => ?_, fun z => ?_⟩
    · rw [if_pos z] at hQ
      refine c_C_setLeg h hf9 ha (fun σ1 h1 => ?_)
      have hg1 := g_cset_at (g := g_setLeg f fr.2.1 2) hf9
      have hc1 := p_call h1 hg1
      have e2 : g_setLeg f fr.2.1 2 2 = f 2 := g_setLeg_lo (by decide)
      have e5 : g_setLeg f fr.2.1 2 5 = f 5 := g_setLeg_lo (by decide)
      have e6 : g_setLeg f fr.2.1 2 6 = f 6 := g_setLeg_lo (by decide)
      have e7 : g_setLeg f fr.2.1 2 7 = f 7 := g_setLeg_lo (by decide)
      have hb5 : 0 ≤ f 5 ∧ f 5 < 2 := (hw i f hf9).1
      try simp only [pb_iconst, pb_null, pb_iload, pb_aload, pb_istore, pb_astore, pb_iinc, pb_bin, pb_bin0, pb_dup, pb_pop, pb_dup2, pb_if, pb_icmp, pb_ifnull, pb_getI, pb_getR, pb_putI, pb_putZ, pb_putR, pb_alen, pb_ald, pb_aldR, pb_ast, pb_astZ, pb_astR, pb_vret, pb_iret, pb_zret, pb_aret, pb_cv, pb_cr, pb_sr, pb_switch, pb_sw, pb_nth, pb_set, pb_tk, pb_add, pb_sub, List.length_cons, List.length_nil, true_or, or_true, true_and, and_true, and_self, pb_up_same, pb_up_f, ne_eq, Nat.reduceEqDiff, not_false_eq_true, Nat.reduceAdd, Nat.reduceLeDiff, Nat.zero_le, hc1.1, q_C hc1 602 1 rfl ⟨by decide, by decide⟩, q_C hc1 603 2 rfl ⟨by decide, by decide⟩, q_C hc1 604 3 rfl ⟨by decide, by decide⟩, q_C hc1 605 4 rfl ⟨by decide, by decide⟩, q_C hc1 606 5 rfl ⟨by decide, by decide⟩, q_C hc1 607 6 rfl ⟨by decide, by decide⟩, q_C hc1 608 7 rfl ⟨by decide, by decide⟩, q_C hc1 609 8 rfl ⟨by decide, by decide⟩, q_C hc1 610 9 rfl ⟨by decide, by decide⟩, q_C hc1 611 10 rfl ⟨by decide, by decide⟩, q_C hc1 612 11 rfl ⟨by decide, by decide⟩, q_C hc1 613 12 rfl ⟨by decide, by decide⟩, e2, e5, e6, e7, is_P.1, is_P.2.1, is_P.2.2.1, is_P.2.2.2.1, is_P.2.2.2.2, (p_P h1).1, (p_P h1).2.1, (p_P h1).2.2.1, (p_P h1).2.2.2.1, (p_P h1).2.2.2.2, p_ref h1, (q_bus h1.1 hb5).1, (q_bus h1.1 hb5).2.1, (q_bus h1.1 hb5).2.2.1, (q_bus h1.1 hb5).2.2.2, (is_B hb5).1, (is_B hb5).2.1, (is_B hb5).2.2.1, (is_B hb5).2.2.2.1, (is_B hb5).2.2.2.2, (rwD hb5).1]
      refine ⟨fun z2 => ?_, fun z2 => ⟨hb5, ?_⟩⟩
      · rw [if_neg z2] at hQ
        exact hQ _ h1
      · rw [if_pos (Decidable.not_not.mp z2)] at hQ
        have h2 := r_C h1 hg1 603 2 rfl ⟨by decide, by decide⟩ 2
        have hg2 := g_cset_at (g := c_up (g_setLeg f fr.2.1 2) 2 2) hg1
        have h3 := r_C h2 hg2 604 3 rfl ⟨by decide, by decide⟩ 40
        exact c_putD h3 hb5 hQ
    · rw [if_neg z] at hQ
      exact hQ _ h
set_option maxHeartbeats 1000000 in
theorem l_P_onConnect {q : Int} {fr : gF} {i : Nat} (hb : 0 ≤ b ∧ b < 2) (hq : pb_is 3 213 q) (hd : (32 ≤ q ∧ q ≤ 75) ∨ (109 ≤ q ∧ q ≤ 152)) (hfr : g_fr μ q = fr) (hQ : ∀ σ', RE σ' (ge_connK b fr.2.2.1 i E 4) ρ μ → Q (.inl 0) σ') : ∀ (d k : Nat), k + d = 4 → ∀ (σ : pb_H) (f : gC), RE σ (ge_connK b fr.2.2.1 i E k) ρ μ → (ge_connK b fr.2.2.1 i E k).2.2[i]? = some f → pb_WJ x i_P_onConnect 213 Q 107 [some (.inr 0), some (.inl b), some (.inr q), some (.inr (ρ i)), some (.inl (64 + k))] [] 213 σ := by
  intro d
  induction d with
  | zero =>
    intro k hk σ f h hf
    obtain rfl : k = 4 := by omega
    refine pb_s_P_onConnect_107 x 213 Q _ _ _ _ ?_
    simp only [pb_b_P_onConnect_107, pb_b_P_onConnect_157, pb_iconst, pb_null, pb_iload, pb_aload, pb_istore, pb_astore, pb_iinc, pb_bin, pb_bin0, pb_dup, pb_pop, pb_dup2, pb_if, pb_icmp, pb_ifnull, pb_getI, pb_getR, pb_putI, pb_putZ, pb_putR, pb_alen, pb_ald, pb_aldR, pb_ast, pb_astZ, pb_astR, pb_vret, pb_iret, pb_zret, pb_aret, pb_cv, pb_cr, pb_sr, pb_switch, pb_sw, pb_nth, pb_set, pb_tk, pb_add, pb_sub, List.length_cons, List.length_nil, true_or, or_true, true_and, and_true, and_self, pb_up_same, pb_up_f, ne_eq, Nat.reduceEqDiff, not_false_eq_true, Nat.reduceAdd, Nat.reduceLeDiff, Nat.zero_le]
    exact ⟨fun _ => hQ _ h, fun z => absurd z (by omega)⟩
  | succ d ih =>
    intro k hk σ f h hf
    have hc := p_call h hf
    have e : pb_w (64 + (k : Int) + 1) = 64 + ((k + 1 : Nat) : Int) := by rw [pb_w_id (by unfold pb_R; omega)]; omega
    have ea : ge_connK b fr.2.2.1 i E (k + 1) = if f (20 + k) = 2 then ge_put (ge_cset (ge_connK b fr.2.2.1 i E k) i (c_up f (20 + k) 4)) b (5, 64 + k, fr.2.2.1, 5, 0) else ge_connK b fr.2.2.1 i E k := by
      show ge_conn1 b fr.2.2.1 i (ge_connK b fr.2.2.1 i E k) k = _
      unfold ge_conn1
      rw [hf]
    refine pb_s_P_onConnect_107 x 213 Q _ _ _ _ ?_
    simp only [pb_b_P_onConnect_107, pb_b_P_onConnect_151, pb_iconst, pb_null, pb_iload, pb_aload, pb_istore, pb_astore, pb_iinc, pb_bin, pb_bin0, pb_dup, pb_pop, pb_dup2, pb_if, pb_icmp, pb_ifnull, pb_getI, pb_getR, pb_putI, pb_putZ, pb_putR, pb_alen, pb_ald, pb_aldR, pb_ast, pb_astZ, pb_astR, pb_vret, pb_iret, pb_zret, pb_aret, pb_cv, pb_cr, pb_sr, pb_switch, pb_sw, pb_nth, pb_set, pb_tk, pb_add, pb_sub, List.length_cons, List.length_nil, true_or, or_true, true_and, and_true, and_self, pb_up_same, pb_up_f, ne_eq, Nat.reduceEqDiff, not_false_eq_true, Nat.reduceAdd, Nat.reduceLeDiff, Nat.zero_le, hc.1]
    refine ⟨fun z => absurd z (by omega), fun _ => c_C_legOf hc (by unfold pb_R; omega) ?_⟩
    rw [g_leg_at (by omega)]
    try simp only [pb_iconst, pb_null, pb_iload, pb_aload, pb_istore, pb_astore, pb_iinc, pb_bin, pb_bin0, pb_dup, pb_pop, pb_dup2, pb_if, pb_icmp, pb_ifnull, pb_getI, pb_getR, pb_putI, pb_putZ, pb_putR, pb_alen, pb_ald, pb_aldR, pb_ast, pb_astZ, pb_astR, pb_vret, pb_iret, pb_zret, pb_aret, pb_cv, pb_cr, pb_sr, pb_switch, pb_sw, pb_nth, pb_set, pb_tk, pb_add, pb_sub, List.length_cons, List.length_nil, true_or, or_true, true_and, and_true, and_self, pb_up_same, pb_up_f, ne_eq, Nat.reduceEqDiff, not_false_eq_true, Nat.reduceAdd, Nat.reduceLeDiff, Nat.zero_le, hc.1, e]
    refine ⟨fun z => ?_, fun z => ?_⟩
    · exact ih (k + 1) (by omega) σ f (by rw [ea, if_neg z]; exact h) (by rw [ea, if_neg z]; exact hf)
    · have hl : f (20 + k) = 2 := Decidable.not_not.mp z
      refine c_C_setLeg h hf (by unfold pb_R; omega) (fun σ1 h1 => ?_)
      rw [g_setLeg_at (by omega)] at h1
      have hf1 := g_cset_at (g := c_up f (20 + k) 4) hf
      try simp only [pb_iconst, pb_null, pb_iload, pb_aload, pb_istore, pb_astore, pb_iinc, pb_bin, pb_bin0, pb_dup, pb_pop, pb_dup2, pb_if, pb_icmp, pb_ifnull, pb_getI, pb_getR, pb_putI, pb_putZ, pb_putR, pb_alen, pb_ald, pb_aldR, pb_ast, pb_astZ, pb_astR, pb_vret, pb_iret, pb_zret, pb_aret, pb_cv, pb_cr, pb_sr, pb_switch, pb_sw, pb_nth, pb_set, pb_tk, pb_add, pb_sub, List.length_cons, List.length_nil, true_or, or_true, true_and, and_true, and_self, pb_up_same, pb_up_f, ne_eq, Nat.reduceEqDiff, not_false_eq_true, Nat.reduceAdd, Nat.reduceLeDiff, Nat.zero_le, is_P.1, is_P.2.1, is_P.2.2.1, is_P.2.2.2.1, is_P.2.2.2.2, (p_P h1).1, (p_P h1).2.1, (p_P h1).2.2.1, (p_P h1).2.2.2.1, (p_P h1).2.2.2.2, p_ref h1, (q_bus h1.1 hb).1, (q_bus h1.1 hb).2.1, (q_bus h1.1 hb).2.2.1, (q_bus h1.1 hb).2.2.2, (is_B hb).1, (is_B hb).2.1, (is_B hb).2.2.1, (is_B hb).2.2.2.1, (is_B hb).2.2.2.2, (rwD hb).1, hq, (p_F h1 hd hfr).2.2.1]
      refine ⟨hb, c_putD h1 hb (fun σ2 h2 => ?_)⟩
      try simp only [pb_iconst, pb_null, pb_iload, pb_aload, pb_istore, pb_astore, pb_iinc, pb_bin, pb_bin0, pb_dup, pb_pop, pb_dup2, pb_if, pb_icmp, pb_ifnull, pb_getI, pb_getR, pb_putI, pb_putZ, pb_putR, pb_alen, pb_ald, pb_aldR, pb_ast, pb_astZ, pb_astR, pb_vret, pb_iret, pb_zret, pb_aret, pb_cv, pb_cr, pb_sr, pb_switch, pb_sw, pb_nth, pb_set, pb_tk, pb_add, pb_sub, List.length_cons, List.length_nil, true_or, or_true, true_and, and_true, and_self, pb_up_same, pb_up_f, ne_eq, Nat.reduceEqDiff, not_false_eq_true, Nat.reduceAdd, Nat.reduceLeDiff, Nat.zero_le, e]
      exact ih (k + 1) (by omega) σ2 (c_up f (20 + k) 4) (by rw [ea, if_pos hl]; exact h2) (by rw [ea, if_pos hl]; exact hf1)
set_option maxHeartbeats 2000000 in
theorem c_P_onConnect {q : Int} {fr : gF} (h : RE σ E ρ μ) (hb : 0 ≤ b ∧ b < 2) (hρ : ∀ i, 0 ≤ i → i < 4 → 0 ≤ ρ i) (hw : g_cws E.2.2) (hq : pb_is 3 213 q) (hd : (32 ≤ q ∧ q ≤ 75) ∨ (109 ≤ q ∧ q ≤ 152)) (hf : g_fr μ q = fr) (ha : pb_R fr.2.1) (hQ : ∀ σ', RE σ' (ge_connect E b fr) ρ μ → Q (.inl 0) σ') : pb_MJ x i_P_onConnect [.inr 0, .inl b, .inr q] 213 σ Q := by
  refine pb_m_P_onConnect ?_
  obtain ⟨f1, f2, f3, f4⟩ := p_F h hd hf
  have hlen := p_len h
  unfold ge_connect at hQ
  simp only [pb_b_P_onConnect_0, pb_b_P_onConnect_30, pb_iconst, pb_null, pb_iload, pb_aload, pb_istore, pb_astore, pb_iinc, pb_bin, pb_bin0, pb_dup, pb_pop, pb_dup2, pb_if, pb_icmp, pb_ifnull, pb_getI, pb_getR, pb_putI, pb_putZ, pb_putR, pb_alen, pb_ald, pb_aldR, pb_ast, pb_astZ, pb_astR, pb_vret, pb_iret, pb_zret, pb_aret, pb_cv, pb_cr, pb_sr, pb_switch, pb_sw, pb_nth, pb_set, pb_tk, pb_add, pb_sub, List.length_cons, List.length_nil, true_or, or_true, true_and, and_true, and_self, pb_up_same, pb_up_f, ne_eq, Nat.reduceEqDiff, not_false_eq_true, Nat.reduceAdd, Nat.reduceLeDiff, Nat.zero_le, is_P.1, hq, f3]
  refine c_P_answerableCall h ?_
  rcases g_ansK_ok E.2.2 b fr.2.2.1 E.2.2.length 0 with hn | ⟨n1, n2⟩
  · have hn : g_ans E.2.2 b fr.2.2.1 = -1 := hn
    rw [if_pos hn] at hQ ⊢
    try simp only [pb_iconst, pb_null, pb_iload, pb_aload, pb_istore, pb_astore, pb_iinc, pb_bin, pb_bin0, pb_dup, pb_pop, pb_dup2, pb_if, pb_icmp, pb_ifnull, pb_getI, pb_getR, pb_putI, pb_putZ, pb_putR, pb_alen, pb_ald, pb_aldR, pb_ast, pb_astZ, pb_astR, pb_vret, pb_iret, pb_zret, pb_aret, pb_cv, pb_cr, pb_sr, pb_switch, pb_sw, pb_nth, pb_set, pb_tk, pb_add, pb_sub, List.length_cons, List.length_nil, true_or, or_true, true_and, and_true, and_self, pb_up_same, pb_up_f, ne_eq, Nat.reduceEqDiff, not_false_eq_true, Nat.reduceAdd, Nat.reduceLeDiff, Nat.zero_le, is_P.1, hq]
    refine ⟨fun _ => c_P_hasLeg h hq f2 f3 ha (fun ho => ?_) (fun ho => ?_), fun z => by simp at z⟩
    · rw [if_pos ho] at hQ
      try simp only [pb_iconst, pb_null, pb_iload, pb_aload, pb_istore, pb_astore, pb_iinc, pb_bin, pb_bin0, pb_dup, pb_pop, pb_dup2, pb_if, pb_icmp, pb_ifnull, pb_getI, pb_getR, pb_putI, pb_putZ, pb_putR, pb_alen, pb_ald, pb_aldR, pb_ast, pb_astZ, pb_astR, pb_vret, pb_iret, pb_zret, pb_aret, pb_cv, pb_cr, pb_sr, pb_switch, pb_sw, pb_nth, pb_set, pb_tk, pb_add, pb_sub, List.length_cons, List.length_nil, true_or, or_true, true_and, and_true, and_self, pb_up_same, pb_up_f, ne_eq, Nat.reduceEqDiff, not_false_eq_true, Nat.reduceAdd, Nat.reduceLeDiff, Nat.zero_le]
      exact ⟨fun _ => hQ _ h, fun z => by simp at z⟩
    · rw [if_neg (by rw [ho]; decide)] at hQ
      try simp only [pb_iconst, pb_null, pb_iload, pb_aload, pb_istore, pb_astore, pb_iinc, pb_bin, pb_bin0, pb_dup, pb_pop, pb_dup2, pb_if, pb_icmp, pb_ifnull, pb_getI, pb_getR, pb_putI, pb_putZ, pb_putR, pb_alen, pb_ald, pb_aldR, pb_ast, pb_astZ, pb_astR, pb_vret, pb_iret, pb_zret, pb_aret, pb_cv, pb_cr, pb_sr, pb_switch, pb_sw, pb_nth, pb_set, pb_tk, pb_add, pb_sub, List.length_cons, List.length_nil, true_or, or_true, true_and, and_true, and_self, pb_up_same, pb_up_f, ne_eq, Nat.reduceEqDiff, not_false_eq_true, Nat.reduceAdd, Nat.reduceLeDiff, Nat.zero_le, is_P.1, hq]
      exact ⟨fun z => by simp at z, fun _ => c_P_refuse h hb hq f2 f3 hQ⟩
  · have n1 : 0 ≤ g_ans E.2.2 b fr.2.2.1 := n1
    have n2 : (g_ans E.2.2 b fr.2.2.1).toNat < E.2.2.length := n2
    rw [if_neg (by omega)] at hQ ⊢
    obtain ⟨f, hf9⟩ := g_get n2
    rw [hf9] at hQ
    dsimp only at hQ
    generalize hi : (g_ans E.2.2 b fr.2.2.1).toNat = i at hQ hf9 n2
    rw [show g_ans E.2.2 b fr.2.2.1 = (i : Int) by omega]
    have hc := p_call h hf9
    have hr9 := hρ i (by omega) (by omega)
    simp only [pb_b_P_onConnect_31, pb_iconst, pb_null, pb_iload, pb_aload, pb_istore, pb_astore, pb_iinc, pb_bin, pb_bin0, pb_dup, pb_pop, pb_dup2, pb_if, pb_icmp, pb_ifnull, pb_getI, pb_getR, pb_putI, pb_putZ, pb_putR, pb_alen, pb_ald, pb_aldR, pb_ast, pb_astZ, pb_astR, pb_vret, pb_iret, pb_zret, pb_aret, pb_cv, pb_cr, pb_sr, pb_switch, pb_sw, pb_nth, pb_set, pb_tk, pb_add, pb_sub, List.length_cons, List.length_nil, true_or, or_true, true_and, and_true, and_self, pb_up_same, pb_up_f, ne_eq, Nat.reduceEqDiff, not_false_eq_true, Nat.reduceAdd, Nat.reduceLeDiff, Nat.zero_le, is_P.1, hq, hc.1, f2]
    refine ⟨fun z => absurd z (by omega), fun _ => c_C_setLeg h hf9 ha (fun σ1 h1 => ?_)⟩
    have hg1 := g_cset_at (g := g_setLeg f fr.2.1 3) hf9
    have hc1 := p_call h1 hg1
    obtain ⟨u1, u2, u3, u4⟩ := p_F h1 hd hf
    have e5 : g_setLeg f fr.2.1 3 5 = f 5 := g_setLeg_lo (by decide)
    have e6 : g_setLeg f fr.2.1 3 6 = f 6 := g_setLeg_lo (by decide)
    have e7 : g_setLeg f fr.2.1 3 7 = f 7 := g_setLeg_lo (by decide)
    have e11 : g_setLeg f fr.2.1 3 11 = f 11 := g_setLeg_lo (by decide)
    have hb5 : 0 ≤ f 5 ∧ f 5 < 2 := (hw i f hf9).1
    have h2 := r_C h1 hg1 613 12 rfl ⟨by decide, by decide⟩ fr.2.1
    have hg2 := g_cset_at (g := c_up (g_setLeg f fr.2.1 3) 12 fr.2.1) hg1
    have h3 := r_C h2 hg2 603 2 rfl ⟨by decide, by decide⟩ 3
    have hg3 := g_cset_at (g := c_up (c_up (g_setLeg f fr.2.1 3) 12 fr.2.1) 2 3) hg2
    try simp only [pb_iconst, pb_null, pb_iload, pb_aload, pb_istore, pb_astore, pb_iinc, pb_bin, pb_bin0, pb_dup, pb_pop, pb_dup2, pb_if, pb_icmp, pb_ifnull, pb_getI, pb_getR, pb_putI, pb_putZ, pb_putR, pb_alen, pb_ald, pb_aldR, pb_ast, pb_astZ, pb_astR, pb_vret, pb_iret, pb_zret, pb_aret, pb_cv, pb_cr, pb_sr, pb_switch, pb_sw, pb_nth, pb_set, pb_tk, pb_add, pb_sub, List.length_cons, List.length_nil, true_or, or_true, true_and, and_true, and_self, pb_up_same, pb_up_f, ne_eq, Nat.reduceEqDiff, not_false_eq_true, Nat.reduceAdd, Nat.reduceLeDiff, Nat.zero_le, hc1.1, q_C hc1 602 1 rfl ⟨by decide, by decide⟩, q_C hc1 603 2 rfl ⟨by decide, by decide⟩, q_C hc1 604 3 rfl ⟨by decide, by decide⟩, q_C hc1 605 4 rfl ⟨by decide, by decide⟩, q_C hc1 606 5 rfl ⟨by decide, by decide⟩, q_C hc1 607 6 rfl ⟨by decide, by decide⟩, q_C hc1 608 7 rfl ⟨by decide, by decide⟩, q_C hc1 609 8 rfl ⟨by decide, by decide⟩, q_C hc1 610 9 rfl ⟨by decide, by decide⟩, q_C hc1 611 10 rfl ⟨by decide, by decide⟩, q_C hc1 612 11 rfl ⟨by decide, by decide⟩, q_C hc1 613 12 rfl ⟨by decide, by decide⟩, hq, u2, u3, e5, e6, e7, e11, is_P.1, is_P.2.1, is_P.2.2.1, is_P.2.2.2.1, is_P.2.2.2.2, (p_P h1).1, (p_P h1).2.1, (p_P h1).2.2.1, (p_P h1).2.2.2.1, (p_P h1).2.2.2.2, p_ref h1, (q_bus h1.1 hb).1, (q_bus h1.1 hb).2.1, (q_bus h1.1 hb).2.2.1, (q_bus h1.1 hb).2.2.2, (is_B hb).1, (is_B hb).2.1, (is_B hb).2.2.1, (is_B hb).2.2.2.1, (is_B hb).2.2.2.2, (rwD hb).1]
    refine ⟨hb, c_putD h3 hb (fun σ4 h4 => ?_)⟩
    have hc4 := p_call h4 hg3
    have k5 : c_up (c_up (g_setLeg f fr.2.1 3) 12 fr.2.1) 2 3 5 = f 5 := e5
    have k6 : c_up (c_up (g_setLeg f fr.2.1 3) 12 fr.2.1) 2 3 6 = f 6 := e6
    have k7 : c_up (c_up (g_setLeg f fr.2.1 3) 12 fr.2.1) 2 3 7 = f 7 := e7
    try simp only [pb_iconst, pb_null, pb_iload, pb_aload, pb_istore, pb_astore, pb_iinc, pb_bin, pb_bin0, pb_dup, pb_pop, pb_dup2, pb_if, pb_icmp, pb_ifnull, pb_getI, pb_getR, pb_putI, pb_putZ, pb_putR, pb_alen, pb_ald, pb_aldR, pb_ast, pb_astZ, pb_astR, pb_vret, pb_iret, pb_zret, pb_aret, pb_cv, pb_cr, pb_sr, pb_switch, pb_sw, pb_nth, pb_set, pb_tk, pb_add, pb_sub, List.length_cons, List.length_nil, true_or, or_true, true_and, and_true, and_self, pb_up_same, pb_up_f, ne_eq, Nat.reduceEqDiff, not_false_eq_true, Nat.reduceAdd, Nat.reduceLeDiff, Nat.zero_le, hc4.1, q_C hc4 602 1 rfl ⟨by decide, by decide⟩, q_C hc4 603 2 rfl ⟨by decide, by decide⟩, q_C hc4 604 3 rfl ⟨by decide, by decide⟩, q_C hc4 605 4 rfl ⟨by decide, by decide⟩, q_C hc4 606 5 rfl ⟨by decide, by decide⟩, q_C hc4 607 6 rfl ⟨by decide, by decide⟩, q_C hc4 608 7 rfl ⟨by decide, by decide⟩, q_C hc4 609 8 rfl ⟨by decide, by decide⟩, q_C hc4 610 9 rfl ⟨by decide, by decide⟩, q_C hc4 611 10 rfl ⟨by decide, by decide⟩, q_C hc4 612 11 rfl ⟨by decide, by decide⟩, q_C hc4 613 12 rfl ⟨by decide, by decide⟩, k5, k6, k7, is_P.1, is_P.2.1, is_P.2.2.1, is_P.2.2.2.1, is_P.2.2.2.2, (p_P h4).1, (p_P h4).2.1, (p_P h4).2.2.1, (p_P h4).2.2.2.1, (p_P h4).2.2.2.2, p_ref h4, (q_bus h4.1 hb5).1, (q_bus h4.1 hb5).2.1, (q_bus h4.1 hb5).2.2.1, (q_bus h4.1 hb5).2.2.2, (is_B hb5).1, (is_B hb5).2.1, (is_B hb5).2.2.1, (is_B hb5).2.2.2.1, (is_B hb5).2.2.2.2, (rwD hb5).1]
    refine ⟨hb5, c_putD h4 hb5 (fun σ5 h5 => ?_)⟩
    exact l_P_onConnect hb hq hd hf hQ 4 0 rfl σ5 _ h5 hg3
end ON
