/-! the exchange looks among its calls -/
def g_ansK (c : List gC) (b r : Int) : Nat → Nat → Int
  | 0, _ => -1
  | d + 1, k => match c[k]? with
    | none => -1
    | some f => if pb_mul 2 (f 1) = r then (if f 10 = b ∧ (f 2 = 1 ∨ f 2 = 2) then k else -1) else g_ansK c b r d (k + 1)
def g_ans (c : List gC) (b r : Int) : Int := g_ansK c b r c.length 0
def g_hb (f : gC) (b c : Int) : Bool := (decide (¬ f 9 = 0) && (decide (f 5 = b) && decide (f 8 = c))) || (decide (f 10 = b) && (decide (f 11 = c) && ((decide (f 2 = 1) || decide (f 2 = 2)) || decide (¬ g_leg f (f 12) = 0))))
theorem g_hb_iff {f : gC} {b c : Int} : g_holds f b c ↔ g_hb f b c = true := by
  unfold g_holds g_hb g_open
  simp only [Bool.or_eq_true, Bool.and_eq_true, decide_eq_true_eq]
def g_holdK (c : List gC) (b ch : Int) : Nat → Nat → Int
  | 0, _ => 0
  | d + 1, k => match c[k]? with
    | none => 0
    | some f => if g_hb f b ch = true then f 1 else g_holdK c b ch d (k + 1)
def g_hold (c : List gC) (b ch : Int) : Int := g_holdK c b ch c.length 0
def g_freeCh (c : List gC) (b be : Int) : Int := if ¬ 0 = be ∧ g_hold c b 0 = 0 then 0 else if ¬ 1 = be ∧ g_hold c b 1 = 0 then 1 else -1
def g_lb (f : gC) (b a r : Int) : Bool := (decide (¬ f 9 = 0) && (decide (f 5 = b) && (decide (f 6 = a) && decide (f 7 = r)))) || (decide (f 10 = b) && (decide (pb_mul 2 (f 1) = r) && decide (¬ g_leg f a = 0)))
theorem g_lb_iff {f : gC} {b a r : Int} : g_isCaller f b a r ∨ g_isCalled f b a r ↔ g_lb f b a r = true := by
  unfold g_isCaller g_isCalled g_lb
  simp only [Bool.or_eq_true, Bool.and_eq_true, decide_eq_true_eq]
def g_hasK (c : List gC) (b a r : Int) : Nat → Nat → Bool
  | 0, _ => false
  | d + 1, k => match c[k]? with
    | none => false
    | some f => if g_lb f b a r = true then true else g_hasK c b a r d (k + 1)
def g_has (c : List gC) (b a r : Int) : Bool := g_hasK c b a r c.length 0
/-- numbers of a call that are in their ranges -/
def g_cw (f : gC) : Prop := (0 ≤ f 5 ∧ f 5 < 2) ∧ (0 ≤ f 10 ∧ f 10 < 2) ∧ pb_R (f 12)
def g_cws (c : List gC) : Prop := ∀ (i : Nat) (f : gC), c[i]? = some f → g_cw f
section EX
variable {x : pb_E} {σ : pb_H} {E : gE} {ρ : Int → Int} {μ : pb_H} {b s : Int} {Q : pb_P} {n : Nat}
theorem g_nth {c : List gC} {k d : Nat} (h : k + (d + 1) = c.length) : ∃ f, c[k]? = some f := ⟨c[k]'(by omega), List.getElem?_eq_getElem (by omega)⟩
theorem c_P_isBus {b : Int} (h1 : 0 ≤ b ∧ b < 2 → Q (.inl 1) σ) (h0 : ¬ (0 ≤ b ∧ b < 2) → Q (.inl 0) σ) : pb_MJ x i_P_isBus [.inl b] 213 σ Q := by
  refine pb_m_P_isBus ?_
  simp only [pb_b_P_isBus_0, pb_b_P_isBus_13, pb_b_P_isBus_14, pb_iconst, pb_null, pb_iload, pb_aload, pb_istore, pb_astore, pb_iinc, pb_bin, pb_bin0, pb_dup, pb_pop, pb_dup2, pb_if, pb_icmp, pb_ifnull, pb_getI, pb_getR, pb_putI, pb_putZ, pb_putR, pb_alen, pb_ald, pb_aldR, pb_ast, pb_astZ, pb_astR, pb_vret, pb_iret, pb_zret, pb_aret, pb_cv, pb_cr, pb_sr, pb_switch, pb_sw, pb_nth, pb_set, pb_tk, pb_add, pb_sub, List.length_cons, List.length_nil, true_or, or_true, true_and, and_true, and_self, pb_up_same, pb_up_f, ne_eq, Nat.reduceEqDiff, not_false_eq_true, Nat.reduceAdd, Nat.reduceLeDiff, Nat.zero_le]
  exact ⟨fun z => h0 (by omega), fun z => ⟨fun z2 => h0 (by omega), fun z2 => h1 (by omega)⟩⟩
theorem c_P_isSocket {b s : Int} (h1 : (0 ≤ b ∧ b < 2) ∧ (0 ≤ s ∧ s < 4) → Q (.inl 1) σ) (h0 : ¬ ((0 ≤ b ∧ b < 2) ∧ (0 ≤ s ∧ s < 4)) → Q (.inl 0) σ) : pb_MJ x i_P_isSocket [.inl b, .inl s] 213 σ Q := by
  refine pb_m_P_isSocket ?_
  simp only [pb_b_P_isSocket_0, pb_b_P_isSocket_20, pb_b_P_isSocket_21, pb_iconst, pb_null, pb_iload, pb_aload, pb_istore, pb_astore, pb_iinc, pb_bin, pb_bin0, pb_dup, pb_pop, pb_dup2, pb_if, pb_icmp, pb_ifnull, pb_getI, pb_getR, pb_putI, pb_putZ, pb_putR, pb_alen, pb_ald, pb_aldR, pb_ast, pb_astZ, pb_astR, pb_vret, pb_iret, pb_zret, pb_aret, pb_cv, pb_cr, pb_sr, pb_switch, pb_sw, pb_nth, pb_set, pb_tk, pb_add, pb_sub, List.length_cons, List.length_nil, true_or, or_true, true_and, and_true, and_self, pb_up_same, pb_up_f, ne_eq, Nat.reduceEqDiff, not_false_eq_true, Nat.reduceAdd, Nat.reduceLeDiff, Nat.zero_le]
  refine c_P_isBus (fun hb => ?_) (fun hb => ?_)
  · try simp only [pb_iconst, pb_null, pb_iload, pb_aload, pb_istore, pb_astore, pb_iinc, pb_bin, pb_bin0, pb_dup, pb_pop, pb_dup2, pb_if, pb_icmp, pb_ifnull, pb_getI, pb_getR, pb_putI, pb_putZ, pb_putR, pb_alen, pb_ald, pb_aldR, pb_ast, pb_astZ, pb_astR, pb_vret, pb_iret, pb_zret, pb_aret, pb_cv, pb_cr, pb_sr, pb_switch, pb_sw, pb_nth, pb_set, pb_tk, pb_add, pb_sub, List.length_cons, List.length_nil, true_or, or_true, true_and, and_true, and_self, pb_up_same, pb_up_f, ne_eq, Nat.reduceEqDiff, not_false_eq_true, Nat.reduceAdd, Nat.reduceLeDiff, Nat.zero_le]
    exact ⟨fun z => by simp at z, fun _ => ⟨fun z => h0 (by omega), fun z => ⟨fun z2 => h0 (by omega), fun z2 => h1 (by omega)⟩⟩⟩
  · try simp only [pb_iconst, pb_null, pb_iload, pb_aload, pb_istore, pb_astore, pb_iinc, pb_bin, pb_bin0, pb_dup, pb_pop, pb_dup2, pb_if, pb_icmp, pb_ifnull, pb_getI, pb_getR, pb_putI, pb_putZ, pb_putR, pb_alen, pb_ald, pb_aldR, pb_ast, pb_astZ, pb_astR, pb_vret, pb_iret, pb_zret, pb_aret, pb_cv, pb_cr, pb_sr, pb_switch, pb_sw, pb_nth, pb_set, pb_tk, pb_add, pb_sub, List.length_cons, List.length_nil, true_or, or_true, true_and, and_true, and_self, pb_up_same, pb_up_f, ne_eq, Nat.reduceEqDiff, not_false_eq_true, Nat.reduceAdd, Nat.reduceLeDiff, Nat.zero_le]
    exact ⟨fun _ => h0 (by omega), fun z => by simp at z⟩
theorem c_P_refuse {q a r v : Int} (h : RE σ E ρ μ) (hb : 0 ≤ b ∧ b < 2) (hq : pb_is 3 213 q) (e2 : σ 302 q 0 = a) (e3 : σ 303 q 0 = r) (hQ : ∀ σ', RE σ' (ge_put E b (5, a, r, v, 0)) ρ μ → Q (.inl 0) σ') : pb_MJ x i_P_refuse [.inr 0, .inl b, .inr q, .inl v] 213 σ Q := by
  refine pb_m_P_refuse ?_
  simp only [pb_b_P_refuse_0, pb_iconst, pb_null, pb_iload, pb_aload, pb_istore, pb_astore, pb_iinc, pb_bin, pb_bin0, pb_dup, pb_pop, pb_dup2, pb_if, pb_icmp, pb_ifnull, pb_getI, pb_getR, pb_putI, pb_putZ, pb_putR, pb_alen, pb_ald, pb_aldR, pb_ast, pb_astZ, pb_astR, pb_vret, pb_iret, pb_zret, pb_aret, pb_cv, pb_cr, pb_sr, pb_switch, pb_sw, pb_nth, pb_set, pb_tk, pb_add, pb_sub, List.length_cons, List.length_nil, true_or, or_true, true_and, and_true, and_self, pb_up_same, pb_up_f, ne_eq, Nat.reduceEqDiff, not_false_eq_true, Nat.reduceAdd, Nat.reduceLeDiff, Nat.zero_le, is_P.1, is_P.2.1, is_P.2.2.1, is_P.2.2.2.1, is_P.2.2.2.2, (p_P h).1, (p_P h).2.1, (p_P h).2.2.1, (p_P h).2.2.2.1, (p_P h).2.2.2.2, p_ref h, (q_bus h.1 hb).1, (q_bus h.1 hb).2.1, (q_bus h.1 hb).2.2.1, (q_bus h.1 hb).2.2.2, (is_B hb).1, (is_B hb).2.1, (is_B hb).2.2.1, (is_B hb).2.2.2.1, (is_B hb).2.2.2.2, (rwD hb).1, hq, e2, e3]
  exact ⟨hb, c_putD h hb hQ⟩
theorem l_P_answerableCall {r : Int} (h : RE σ E ρ μ) (hQ : Q (.inr (if g_ans E.2.2 b r = -1 then -1 else ρ (g_ans E.2.2 b r))) σ) : ∀ (d k : Nat), k + d = E.2.2.length → g_ans E.2.2 b r = g_ansK E.2.2 b r d k → ∀ (o : Option pb_V), pb_WJ x i_P_answerableCall 213 Q 2 [some (.inr 0), some (.inl b), some (.inl r), some (.inl k), o] [] 213 σ := by
  intro d
  have hlen := p_len h
  induction d with
  | zero =>
    intro k hk he o
    refine pb_s_P_answerableCall_2 x 213 Q _ _ _ _ ?_
    rw [he, show g_ansK E.2.2 b r 0 k = -1 from rfl, if_pos rfl] at hQ
    simp only [pb_b_P_answerableCall_0, pb_b_P_answerableCall_2, pb_b_P_answerableCall_49, pb_b_P_answerableCall_50, pb_b_P_answerableCall_51, pb_b_P_answerableCall_57, pb_iconst, pb_null, pb_iload, pb_aload, pb_istore, pb_astore, pb_iinc, pb_bin, pb_bin0, pb_dup, pb_pop, pb_dup2, pb_if, pb_icmp, pb_ifnull, pb_getI, pb_getR, pb_putI, pb_putZ, pb_putR, pb_alen, pb_ald, pb_aldR, pb_ast, pb_astZ, pb_astR, pb_vret, pb_iret, pb_zret, pb_aret, pb_cv, pb_cr, pb_sr, pb_switch, pb_sw, pb_nth, pb_set, pb_tk, pb_add, pb_sub, List.length_cons, List.length_nil, true_or, or_true, true_and, and_true, and_self, pb_up_same, pb_up_f, ne_eq, Nat.reduceEqDiff, not_false_eq_true, Nat.reduceAdd, Nat.reduceLeDiff, Nat.zero_le, is_P.1, is_P.2.1, is_P.2.2.1, is_P.2.2.2.1, is_P.2.2.2.2, (p_P h).1, (p_P h).2.1, (p_P h).2.2.1, (p_P h).2.2.2.1, (p_P h).2.2.2.2, p_ref h]
    exact ⟨fun _ => hQ, fun z => absurd z (by omega)⟩
  | succ d ih =>
    intro k hk he o
    obtain ⟨f, hf⟩ := g_nth hk
    have hc := p_call h hf
    have ea : g_ansK E.2.2 b r (d + 1) k = if pb_mul 2 (f 1) = r then (if f 10 = b ∧ (f 2 = 1 ∨ f 2 = 2) then (k : Int) else -1) else g_ansK E.2.2 b r d (k + 1) := by
      rw [g_ansK, hf]
    refine pb_s_P_answerableCall_2 x 213 Q _ _ _ _ ?_
    have e : pb_w ((k : Int) + 1) = ((k + 1 : Nat) : Int) := by rw [pb_w_id (by unfold pb_R; omega)]; omega
    simp only [pb_b_P_answerableCall_0, pb_b_P_answerableCall_2, pb_b_P_answerableCall_49, pb_b_P_answerableCall_50, pb_b_P_answerableCall_51, pb_b_P_answerableCall_57, pb_iconst, pb_null, pb_iload, pb_aload, pb_istore, pb_astore, pb_iinc, pb_bin, pb_bin0, pb_dup, pb_pop, pb_dup2, pb_if, pb_icmp, pb_ifnull, pb_getI, pb_getR, pb_putI, pb_putZ, pb_putR, pb_alen, pb_ald, pb_aldR, pb_ast, pb_astZ, pb_astR, pb_vret, pb_iret, pb_zret, pb_aret, pb_cv, pb_cr, pb_sr, pb_switch, pb_sw, pb_nth, pb_set, pb_tk, pb_add, pb_sub, List.length_cons, List.length_nil, true_or, or_true, true_and, and_true, and_self, pb_up_same, pb_up_f, ne_eq, Nat.reduceEqDiff, not_false_eq_true, Nat.reduceAdd, Nat.reduceLeDiff, Nat.zero_le, is_P.1, is_P.2.1, is_P.2.2.1, is_P.2.2.2.1, is_P.2.2.2.2, (p_P h).1, (p_P h).2.1, (p_P h).2.2.1, (p_P h).2.2.2.1, (p_P h).2.2.2.2, p_ref h, hc.1]
    refine ⟨fun z => absurd z (by omega), fun _ => ⟨⟨by omega, by omega⟩, c_C_calledReference hc ?_⟩⟩
    try simp only [pb_iconst, pb_null, pb_iload, pb_aload, pb_istore, pb_astore, pb_iinc, pb_bin, pb_bin0, pb_dup, pb_pop, pb_dup2, pb_if, pb_icmp, pb_ifnull, pb_getI, pb_getR, pb_putI, pb_putZ, pb_putR, pb_alen, pb_ald, pb_aldR, pb_ast, pb_astZ, pb_astR, pb_vret, pb_iret, pb_zret, pb_aret, pb_cv, pb_cr, pb_sr, pb_switch, pb_sw, pb_nth, pb_set, pb_tk, pb_add, pb_sub, List.length_cons, List.length_nil, true_or, or_true, true_and, and_true, and_self, pb_up_same, pb_up_f, ne_eq, Nat.reduceEqDiff, not_false_eq_true, Nat.reduceAdd, Nat.reduceLeDiff, Nat.zero_le, hc.1, q_C hc 602 1 rfl ⟨by decide, by decide⟩, q_C hc 603 2 rfl ⟨by decide, by decide⟩, q_C hc 604 3 rfl ⟨by decide, by decide⟩, q_C hc 605 4 rfl ⟨by decide, by decide⟩, q_C hc 606 5 rfl ⟨by decide, by decide⟩, q_C hc 607 6 rfl ⟨by decide, by decide⟩, q_C hc 608 7 rfl ⟨by decide, by decide⟩, q_C hc 609 8 rfl ⟨by decide, by decide⟩, q_C hc 610 9 rfl ⟨by decide, by decide⟩, q_C hc 611 10 rfl ⟨by decide, by decide⟩, q_C hc 612 11 rfl ⟨by decide, by decide⟩, q_C hc 613 12 rfl ⟨by decide, by decide⟩, e]
    refine ⟨fun z => ih (k + 1) (by omega) (by rw [he, ea, if_neg z]) _, fun z => ?_⟩
    have z' : pb_mul 2 (f 1) = r := Decidable.not_not.mp z
    refine ⟨fun z2 => ?_, fun z2 => c_C_isUnanswered hc (fun ho => ?_) (fun ho => ?_)⟩
    · have ev : g_ans E.2.2 b r = -1 := by rw [he, ea, if_pos z', if_neg (fun q => z2 q.1)]
      rw [ev, if_pos rfl] at hQ
      exact hQ
    · have ev : g_ans E.2.2 b r = k := by rw [he, ea, if_pos z', if_pos ⟨Decidable.not_not.mp z2, ho⟩]
      rw [ev, if_neg (by omega)] at hQ
      try simp only [pb_iconst, pb_null, pb_iload, pb_aload, pb_istore, pb_astore, pb_iinc, pb_bin, pb_bin0, pb_dup, pb_pop, pb_dup2, pb_if, pb_icmp, pb_ifnull, pb_getI, pb_getR, pb_putI, pb_putZ, pb_putR, pb_alen, pb_ald, pb_aldR, pb_ast, pb_astZ, pb_astR, pb_vret, pb_iret, pb_zret, pb_aret, pb_cv, pb_cr, pb_sr, pb_switch, pb_sw, pb_nth, pb_set, pb_tk, pb_add, pb_sub, List.length_cons, List.length_nil, true_or, or_true, true_and, and_true, and_self, pb_up_same, pb_up_f, ne_eq, Nat.reduceEqDiff, not_false_eq_true, Nat.reduceAdd, Nat.reduceLeDiff, Nat.zero_le]
      exact ⟨fun q => by simp at q, fun _ => hQ⟩
    · have ev : g_ans E.2.2 b r = -1 := by rw [he, ea, if_pos z', if_neg (fun q => ho q.2)]
      rw [ev, if_pos rfl] at hQ
      try simp only [pb_iconst, pb_null, pb_iload, pb_aload, pb_istore, pb_astore, pb_iinc, pb_bin, pb_bin0, pb_dup, pb_pop, pb_dup2, pb_if, pb_icmp, pb_ifnull, pb_getI, pb_getR, pb_putI, pb_putZ, pb_putR, pb_alen, pb_ald, pb_aldR, pb_ast, pb_astZ, pb_astR, pb_vret, pb_iret, pb_zret, pb_aret, pb_cv, pb_cr, pb_sr, pb_switch, pb_sw, pb_nth, pb_set, pb_tk, pb_add, pb_sub, List.length_cons, List.length_nil, true_or, or_true, true_and, and_true, and_self, pb_up_same, pb_up_f, ne_eq, Nat.reduceEqDiff, not_false_eq_true, Nat.reduceAdd, Nat.reduceLeDiff, Nat.zero_le]
      exact ⟨fun _ => hQ, fun q => by simp at q⟩
theorem c_P_answerableCall {r : Int} (h : RE σ E ρ μ) (hQ : Q (.inr (if g_ans E.2.2 b r = -1 then -1 else ρ (g_ans E.2.2 b r))) σ) : pb_MJ x i_P_answerableCall [.inr 0, .inl b, .inl r] 213 σ Q := by
  refine pb_m_P_answerableCall ?_
  simp only [pb_b_P_answerableCall_0, pb_b_P_answerableCall_2, pb_b_P_answerableCall_49, pb_b_P_answerableCall_50, pb_b_P_answerableCall_51, pb_b_P_answerableCall_57, pb_iconst, pb_null, pb_iload, pb_aload, pb_istore, pb_astore, pb_iinc, pb_bin, pb_bin0, pb_dup, pb_pop, pb_dup2, pb_if, pb_icmp, pb_ifnull, pb_getI, pb_getR, pb_putI, pb_putZ, pb_putR, pb_alen, pb_ald, pb_aldR, pb_ast, pb_astZ, pb_astR, pb_vret, pb_iret, pb_zret, pb_aret, pb_cv, pb_cr, pb_sr, pb_switch, pb_sw, pb_nth, pb_set, pb_tk, pb_add, pb_sub, List.length_cons, List.length_nil, true_or, or_true, true_and, and_true, and_self, pb_up_same, pb_up_f, ne_eq, Nat.reduceEqDiff, not_false_eq_true, Nat.reduceAdd, Nat.reduceLeDiff, Nat.zero_le]
  exact l_P_answerableCall h hQ E.2.2.length 0 (by omega) rfl none
theorem l_P_numberHolding {ch : Int} (h : RE σ E ρ μ) (hw : g_cws E.2.2) (hQ : Q (.inl (g_hold E.2.2 b ch)) σ) : ∀ (d k : Nat), k + d = E.2.2.length → g_hold E.2.2 b ch = g_holdK E.2.2 b ch d k → pb_WJ x i_P_numberHolding 213 Q 2 [some (.inr 0), some (.inl b), some (.inl ch), some (.inl k)] [] 213 σ := by
  intro d
  have hlen := p_len h
  induction d with
  | zero =>
    intro k hk he
    refine pb_s_P_numberHolding_2 x 213 Q _ _ _ _ ?_
    rw [he, show g_holdK E.2.2 b ch 0 k = 0 from rfl] at hQ
    simp only [pb_b_P_numberHolding_0, pb_b_P_numberHolding_2, pb_b_P_numberHolding_34, pb_b_P_numberHolding_40, pb_iconst, pb_null, pb_iload, pb_aload, pb_istore, pb_astore, pb_iinc, pb_bin, pb_bin0, pb_dup, pb_pop, pb_dup2, pb_if, pb_icmp, pb_ifnull, pb_getI, pb_getR, pb_putI, pb_putZ, pb_putR, pb_alen, pb_ald, pb_aldR, pb_ast, pb_astZ, pb_astR, pb_vret, pb_iret, pb_zret, pb_aret, pb_cv, pb_cr, pb_sr, pb_switch, pb_sw, pb_nth, pb_set, pb_tk, pb_add, pb_sub, List.length_cons, List.length_nil, true_or, or_true, true_and, and_true, and_self, pb_up_same, pb_up_f, ne_eq, Nat.reduceEqDiff, not_false_eq_true, Nat.reduceAdd, Nat.reduceLeDiff, Nat.zero_le, is_P.1, is_P.2.1, is_P.2.2.1, is_P.2.2.2.1, is_P.2.2.2.2, (p_P h).1, (p_P h).2.1, (p_P h).2.2.1, (p_P h).2.2.2.1, (p_P h).2.2.2.2, p_ref h]
    exact ⟨fun _ => hQ, fun z => absurd z (by omega)⟩
  | succ d ih =>
    intro k hk he
    obtain ⟨f, hf⟩ := g_nth hk
    have hc := p_call h hf
    have ea : g_holdK E.2.2 b ch (d + 1) k = if g_hb f b ch = true then f 1 else g_holdK E.2.2 b ch d (k + 1) := by
      rw [g_holdK, hf]
    refine pb_s_P_numberHolding_2 x 213 Q _ _ _ _ ?_
    have e : pb_w ((k : Int) + 1) = ((k + 1 : Nat) : Int) := by rw [pb_w_id (by unfold pb_R; omega)]; omega
    simp only [pb_b_P_numberHolding_0, pb_b_P_numberHolding_2, pb_b_P_numberHolding_34, pb_b_P_numberHolding_40, pb_iconst, pb_null, pb_iload, pb_aload, pb_istore, pb_astore, pb_iinc, pb_bin, pb_bin0, pb_dup, pb_pop, pb_dup2, pb_if, pb_icmp, pb_ifnull, pb_getI, pb_getR, pb_putI, pb_putZ, pb_putR, pb_alen, pb_ald, pb_aldR, pb_ast, pb_astZ, pb_astR, pb_vret, pb_iret, pb_zret, pb_aret, pb_cv, pb_cr, pb_sr, pb_switch, pb_sw, pb_nth, pb_set, pb_tk, pb_add, pb_sub, List.length_cons, List.length_nil, true_or, or_true, true_and, and_true, and_self, pb_up_same, pb_up_f, ne_eq, Nat.reduceEqDiff, not_false_eq_true, Nat.reduceAdd, Nat.reduceLeDiff, Nat.zero_le, is_P.1, is_P.2.1, is_P.2.2.1, is_P.2.2.2.1, is_P.2.2.2.2, (p_P h).1, (p_P h).2.1, (p_P h).2.2.1, (p_P h).2.2.2.1, (p_P h).2.2.2.2, p_ref h, hc.1, q_C hc 602 1 rfl ⟨by decide, by decide⟩, q_C hc 603 2 rfl ⟨by decide, by decide⟩, q_C hc 604 3 rfl ⟨by decide, by decide⟩, q_C hc 605 4 rfl ⟨by decide, by decide⟩, q_C hc 606 5 rfl ⟨by decide, by decide⟩, q_C hc 607 6 rfl ⟨by decide, by decide⟩, q_C hc 608 7 rfl ⟨by decide, by decide⟩, q_C hc 609 8 rfl ⟨by decide, by decide⟩, q_C hc 610 9 rfl ⟨by decide, by decide⟩, q_C hc 611 10 rfl ⟨by decide, by decide⟩, q_C hc 612 11 rfl ⟨by decide, by decide⟩, q_C hc 613 12 rfl ⟨by decide, by decide⟩, e]
    refine ⟨fun z => absurd z (by omega), fun _ => ⟨⟨by omega, by omega⟩, c_C_holds hc (hw k f hf).2.2 (fun ho => ?_) (fun ho => ?_)⟩⟩
    · rw [he, ea, if_pos (g_hb_iff.mp ho)] at hQ
      try simp only [pb_iconst, pb_null, pb_iload, pb_aload, pb_istore, pb_astore, pb_iinc, pb_bin, pb_bin0, pb_dup, pb_pop, pb_dup2, pb_if, pb_icmp, pb_ifnull, pb_getI, pb_getR, pb_putI, pb_putZ, pb_putR, pb_alen, pb_ald, pb_aldR, pb_ast, pb_astZ, pb_astR, pb_vret, pb_iret, pb_zret, pb_aret, pb_cv, pb_cr, pb_sr, pb_switch, pb_sw, pb_nth, pb_set, pb_tk, pb_add, pb_sub, List.length_cons, List.length_nil, true_or, or_true, true_and, and_true, and_self, pb_up_same, pb_up_f, ne_eq, Nat.reduceEqDiff, not_false_eq_true, Nat.reduceAdd, Nat.reduceLeDiff, Nat.zero_le, is_P.1, is_P.2.1, is_P.2.2.1, is_P.2.2.2.1, is_P.2.2.2.2, (p_P h).1, (p_P h).2.1, (p_P h).2.2.1, (p_P h).2.2.2.1, (p_P h).2.2.2.2, p_ref h, hc.1, q_C hc 602 1 rfl ⟨by decide, by decide⟩, q_C hc 603 2 rfl ⟨by decide, by decide⟩, q_C hc 604 3 rfl ⟨by decide, by decide⟩, q_C hc 605 4 rfl ⟨by decide, by decide⟩, q_C hc 606 5 rfl ⟨by decide, by decide⟩, q_C hc 607 6 rfl ⟨by decide, by decide⟩, q_C hc 608 7 rfl ⟨by decide, by decide⟩, q_C hc 609 8 rfl ⟨by decide, by decide⟩, q_C hc 610 9 rfl ⟨by decide, by decide⟩, q_C hc 611 10 rfl ⟨by decide, by decide⟩, q_C hc 612 11 rfl ⟨by decide, by decide⟩, q_C hc 613 12 rfl ⟨by decide, by decide⟩]
      exact ⟨fun q => by simp at q, fun _ => ⟨⟨by omega, by omega⟩, hQ⟩⟩
    · try simp only [pb_iconst, pb_null, pb_iload, pb_aload, pb_istore, pb_astore, pb_iinc, pb_bin, pb_bin0, pb_dup, pb_pop, pb_dup2, pb_if, pb_icmp, pb_ifnull, pb_getI, pb_getR, pb_putI, pb_putZ, pb_putR, pb_alen, pb_ald, pb_aldR, pb_ast, pb_astZ, pb_astR, pb_vret, pb_iret, pb_zret, pb_aret, pb_cv, pb_cr, pb_sr, pb_switch, pb_sw, pb_nth, pb_set, pb_tk, pb_add, pb_sub, List.length_cons, List.length_nil, true_or, or_true, true_and, and_true, and_self, pb_up_same, pb_up_f, ne_eq, Nat.reduceEqDiff, not_false_eq_true, Nat.reduceAdd, Nat.reduceLeDiff, Nat.zero_le, e]
      exact ⟨fun _ => ih (k + 1) (by omega) (by rw [he, ea, if_neg (fun q => ho (g_hb_iff.mpr q))]), fun q => by simp at q⟩
theorem c_P_numberHolding {ch : Int} (h : RE σ E ρ μ) (hw : g_cws E.2.2) (hQ : Q (.inl (g_hold E.2.2 b ch)) σ) : pb_MJ x i_P_numberHolding [.inr 0, .inl b, .inl ch] 213 σ Q := by
  refine pb_m_P_numberHolding ?_
  simp only [pb_b_P_numberHolding_0, pb_b_P_numberHolding_2, pb_b_P_numberHolding_34, pb_b_P_numberHolding_40, pb_iconst, pb_null, pb_iload, pb_aload, pb_istore, pb_astore, pb_iinc, pb_bin, pb_bin0, pb_dup, pb_pop, pb_dup2, pb_if, pb_icmp, pb_ifnull, pb_getI, pb_getR, pb_putI, pb_putZ, pb_putR, pb_alen, pb_ald, pb_aldR, pb_ast, pb_astZ, pb_astR, pb_vret, pb_iret, pb_zret, pb_aret, pb_cv, pb_cr, pb_sr, pb_switch, pb_sw, pb_nth, pb_set, pb_tk, pb_add, pb_sub, List.length_cons, List.length_nil, true_or, or_true, true_and, and_true, and_self, pb_up_same, pb_up_f, ne_eq, Nat.reduceEqDiff, not_false_eq_true, Nat.reduceAdd, Nat.reduceLeDiff, Nat.zero_le]
  exact l_P_numberHolding h hw hQ E.2.2.length 0 (by omega) rfl
theorem c_P_freeChannel {be : Int} (h : RE σ E ρ μ) (hw : g_cws E.2.2) (hQ : Q (.inl (g_freeCh E.2.2 b be)) σ) : pb_MJ x i_P_freeChannel [.inr 0, .inl b, .inl be] 213 σ Q := by
  refine pb_m_P_freeChannel ?_
  unfold g_freeCh at hQ
  have k2 : ¬ (¬ 0 = be ∧ g_hold E.2.2 b 0 = 0) → ¬ (¬ 1 = be ∧ g_hold E.2.2 b 1 = 0) → pb_WJ x i_P_freeChannel 213 Q 2 [some (.inr 0), some (.inl b), some (.inl be), some (.inl 2)] [] 213 σ := by
    intro n0 n1
    refine pb_s_P_freeChannel_2 x 213 Q _ _ _ _ ?_
    rw [if_neg n0, if_neg n1] at hQ
    simp only [pb_b_P_freeChannel_0, pb_b_P_freeChannel_2, pb_b_P_freeChannel_23, pb_b_P_freeChannel_29, pb_iconst, pb_null, pb_iload, pb_aload, pb_istore, pb_astore, pb_iinc, pb_bin, pb_bin0, pb_dup, pb_pop, pb_dup2, pb_if, pb_icmp, pb_ifnull, pb_getI, pb_getR, pb_putI, pb_putZ, pb_putR, pb_alen, pb_ald, pb_aldR, pb_ast, pb_astZ, pb_astR, pb_vret, pb_iret, pb_zret, pb_aret, pb_cv, pb_cr, pb_sr, pb_switch, pb_sw, pb_nth, pb_set, pb_tk, pb_add, pb_sub, List.length_cons, List.length_nil, true_or, or_true, true_and, and_true, and_self, pb_up_same, pb_up_f, ne_eq, Nat.reduceEqDiff, not_false_eq_true, Nat.reduceAdd, Nat.reduceLeDiff, Nat.zero_le]
    exact ⟨fun _ => hQ, fun z => by simp at z⟩
  have k1 : ¬ (¬ 0 = be ∧ g_hold E.2.2 b 0 = 0) → pb_WJ x i_P_freeChannel 213 Q 2 [some (.inr 0), some (.inl b), some (.inl be), some (.inl 1)] [] 213 σ := by
    intro n0
    refine pb_s_P_freeChannel_2 x 213 Q _ _ _ _ ?_
    simp only [pb_b_P_freeChannel_0, pb_b_P_freeChannel_2, pb_b_P_freeChannel_23, pb_b_P_freeChannel_29, pb_iconst, pb_null, pb_iload, pb_aload, pb_istore, pb_astore, pb_iinc, pb_bin, pb_bin0, pb_dup, pb_pop, pb_dup2, pb_if, pb_icmp, pb_ifnull, pb_getI, pb_getR, pb_putI, pb_putZ, pb_putR, pb_alen, pb_ald, pb_aldR, pb_ast, pb_astZ, pb_astR, pb_vret, pb_iret, pb_zret, pb_aret, pb_cv, pb_cr, pb_sr, pb_switch, pb_sw, pb_nth, pb_set, pb_tk, pb_add, pb_sub, List.length_cons, List.length_nil, true_or, or_true, true_and, and_true, and_self, pb_up_same, pb_up_f, ne_eq, Nat.reduceEqDiff, not_false_eq_true, Nat.reduceAdd, Nat.reduceLeDiff, Nat.zero_le, is_P.1, show pb_w ((1 : Int) + 1) = 2 by decide]
    refine ⟨fun z => by simp at z, fun _ => ⟨fun z => k2 n0 (by omega), fun z => c_P_numberHolding h hw ?_⟩⟩
    try simp only [pb_iconst, pb_null, pb_iload, pb_aload, pb_istore, pb_astore, pb_iinc, pb_bin, pb_bin0, pb_dup, pb_pop, pb_dup2, pb_if, pb_icmp, pb_ifnull, pb_getI, pb_getR, pb_putI, pb_putZ, pb_putR, pb_alen, pb_ald, pb_aldR, pb_ast, pb_astZ, pb_astR, pb_vret, pb_iret, pb_zret, pb_aret, pb_cv, pb_cr, pb_sr, pb_switch, pb_sw, pb_nth, pb_set, pb_tk, pb_add, pb_sub, List.length_cons, List.length_nil, true_or, or_true, true_and, and_true, and_self, pb_up_same, pb_up_f, ne_eq, Nat.reduceEqDiff, not_false_eq_true, Nat.reduceAdd, Nat.reduceLeDiff, Nat.zero_le, show pb_w ((1 : Int) + 1) = 2 by decide]
    refine ⟨fun z2 => k2 n0 (by omega), fun z2 => ?_⟩
    rw [if_neg n0, if_pos (by omega)] at hQ
    exact hQ
  simp only [pb_b_P_freeChannel_0, pb_iconst, pb_null, pb_iload, pb_aload, pb_istore, pb_astore, pb_iinc, pb_bin, pb_bin0, pb_dup, pb_pop, pb_dup2, pb_if, pb_icmp, pb_ifnull, pb_getI, pb_getR, pb_putI, pb_putZ, pb_putR, pb_alen, pb_ald, pb_aldR, pb_ast, pb_astZ, pb_astR, pb_vret, pb_iret, pb_zret, pb_aret, pb_cv, pb_cr, pb_sr, pb_switch, pb_sw, pb_nth, pb_set, pb_tk, pb_add, pb_sub, List.length_cons, List.length_nil, true_or, or_true, true_and, and_true, and_self, pb_up_same, pb_up_f, ne_eq, Nat.reduceEqDiff, not_false_eq_true, Nat.reduceAdd, Nat.reduceLeDiff, Nat.zero_le]
  refine pb_s_P_freeChannel_2 x 213 Q _ _ _ _ ?_
  simp only [pb_b_P_freeChannel_0, pb_b_P_freeChannel_2, pb_b_P_freeChannel_23, pb_b_P_freeChannel_29, pb_iconst, pb_null, pb_iload, pb_aload, pb_istore, pb_astore, pb_iinc, pb_bin, pb_bin0, pb_dup, pb_pop, pb_dup2, pb_if, pb_icmp, pb_ifnull, pb_getI, pb_getR, pb_putI, pb_putZ, pb_putR, pb_alen, pb_ald, pb_aldR, pb_ast, pb_astZ, pb_astR, pb_vret, pb_iret, pb_zret, pb_aret, pb_cv, pb_cr, pb_sr, pb_switch, pb_sw, pb_nth, pb_set, pb_tk, pb_add, pb_sub, List.length_cons, List.length_nil, true_or, or_true, true_and, and_true, and_self, pb_up_same, pb_up_f, ne_eq, Nat.reduceEqDiff, not_false_eq_true, Nat.reduceAdd, Nat.reduceLeDiff, Nat.zero_le, is_P.1, show pb_w ((0 : Int) + 1) = 1 by decide]
  refine ⟨fun z => by simp at z, fun _ => ⟨fun z => k1 (by omega), fun z => c_P_numberHolding h hw ?_⟩⟩
  try simp only [pb_iconst, pb_null, pb_iload, pb_aload, pb_istore, pb_astore, pb_iinc, pb_bin, pb_bin0, pb_dup, pb_pop, pb_dup2, pb_if, pb_icmp, pb_ifnull, pb_getI, pb_getR, pb_putI, pb_putZ, pb_putR, pb_alen, pb_ald, pb_aldR, pb_ast, pb_astZ, pb_astR, pb_vret, pb_iret, pb_zret, pb_aret, pb_cv, pb_cr, pb_sr, pb_switch, pb_sw, pb_nth, pb_set, pb_tk, pb_add, pb_sub, List.length_cons, List.length_nil, true_or, or_true, true_and, and_true, and_self, pb_up_same, pb_up_f, ne_eq, Nat.reduceEqDiff, not_false_eq_true, Nat.reduceAdd, Nat.reduceLeDiff, Nat.zero_le, show pb_w ((0 : Int) + 1) = 1 by decide]
  refine ⟨fun z2 => k1 (by omega), fun z2 => ?_⟩
  rw [if_pos (by omega)] at hQ
  exact hQ
theorem l_P_hasLeg {q a r : Int} (h : RE σ E ρ μ) (hq : pb_is 3 213 q) (e2 : σ 302 q 0 = a) (e3 : σ 303 q 0 = r) (ha : pb_R a) (h1 : g_has E.2.2 b a r = true → Q (.inl 1) σ) (h0 : g_has E.2.2 b a r = false → Q (.inl 0) σ) : ∀ (d k : Nat), k + d = E.2.2.length → g_has E.2.2 b a r = g_hasK E.2.2 b a r d k → pb_WJ x i_P_hasLeg 213 Q 2 [some (.inr 0), some (.inl b), some (.inr q), some (.inl k)] [] 213 σ := by
  intro d
  have hlen := p_len h
  induction d with
  | zero =>
    intro k hk he
    refine pb_s_P_hasLeg_2 x 213 Q _ _ _ _ ?_
    simp only [pb_b_P_hasLeg_0, pb_b_P_hasLeg_2, pb_b_P_hasLeg_38, pb_b_P_hasLeg_40, pb_b_P_hasLeg_46, pb_iconst, pb_null, pb_iload, pb_aload, pb_istore, pb_astore, pb_iinc, pb_bin, pb_bin0, pb_dup, pb_pop, pb_dup2, pb_if, pb_icmp, pb_ifnull, pb_getI, pb_getR, pb_putI, pb_putZ, pb_putR, pb_alen, pb_ald, pb_aldR, pb_ast, pb_astZ, pb_astR, pb_vret, pb_iret, pb_zret, pb_aret, pb_cv, pb_cr, pb_sr, pb_switch, pb_sw, pb_nth, pb_set, pb_tk, pb_add, pb_sub, List.length_cons, List.length_nil, true_or, or_true, true_and, and_true, and_self, pb_up_same, pb_up_f, ne_eq, Nat.reduceEqDiff, not_false_eq_true, Nat.reduceAdd, Nat.reduceLeDiff, Nat.zero_le, is_P.1, is_P.2.1, is_P.2.2.1, is_P.2.2.2.1, is_P.2.2.2.2, (p_P h).1, (p_P h).2.1, (p_P h).2.2.1, (p_P h).2.2.2.1, (p_P h).2.2.2.2, p_ref h]
    exact ⟨fun _ => h0 (he.trans rfl), fun z => absurd z (by omega)⟩
  | succ d ih =>
    intro k hk he
    obtain ⟨f, hf⟩ := g_nth hk
    have hc := p_call h hf
    have ea : g_hasK E.2.2 b a r (d + 1) k = if g_lb f b a r = true then true else g_hasK E.2.2 b a r d (k + 1) := by
      rw [g_hasK, hf]
    refine pb_s_P_hasLeg_2 x 213 Q _ _ _ _ ?_
    have e : pb_w ((k : Int) + 1) = ((k + 1 : Nat) : Int) := by rw [pb_w_id (by unfold pb_R; omega)]; omega
    simp only [pb_b_P_hasLeg_0, pb_b_P_hasLeg_2, pb_b_P_hasLeg_38, pb_b_P_hasLeg_40, pb_b_P_hasLeg_46, pb_iconst, pb_null, pb_iload, pb_aload, pb_istore, pb_astore, pb_iinc, pb_bin, pb_bin0, pb_dup, pb_pop, pb_dup2, pb_if, pb_icmp, pb_ifnull, pb_getI, pb_getR, pb_putI, pb_putZ, pb_putR, pb_alen, pb_ald, pb_aldR, pb_ast, pb_astZ, pb_astR, pb_vret, pb_iret, pb_zret, pb_aret, pb_cv, pb_cr, pb_sr, pb_switch, pb_sw, pb_nth, pb_set, pb_tk, pb_add, pb_sub, List.length_cons, List.length_nil, true_or, or_true, true_and, and_true, and_self, pb_up_same, pb_up_f, ne_eq, Nat.reduceEqDiff, not_false_eq_true, Nat.reduceAdd, Nat.reduceLeDiff, Nat.zero_le, is_P.1, is_P.2.1, is_P.2.2.1, is_P.2.2.2.1, is_P.2.2.2.2, (p_P h).1, (p_P h).2.1, (p_P h).2.2.1, (p_P h).2.2.2.1, (p_P h).2.2.2.2, p_ref h, hc.1, e]
    refine ⟨fun z => absurd z (by omega), fun _ => ⟨⟨by omega, by omega⟩, c_C_isCaller hc hq e2 e3 (fun ho => ?_) (fun ho => ?_)⟩⟩
    · try simp only [pb_iconst, pb_null, pb_iload, pb_aload, pb_istore, pb_astore, pb_iinc, pb_bin, pb_bin0, pb_dup, pb_pop, pb_dup2, pb_if, pb_icmp, pb_ifnull, pb_getI, pb_getR, pb_putI, pb_putZ, pb_putR, pb_alen, pb_ald, pb_aldR, pb_ast, pb_astZ, pb_astR, pb_vret, pb_iret, pb_zret, pb_aret, pb_cv, pb_cr, pb_sr, pb_switch, pb_sw, pb_nth, pb_set, pb_tk, pb_add, pb_sub, List.length_cons, List.length_nil, true_or, or_true, true_and, and_true, and_self, pb_up_same, pb_up_f, ne_eq, Nat.reduceEqDiff, not_false_eq_true, Nat.reduceAdd, Nat.reduceLeDiff, Nat.zero_le]
      exact ⟨fun _ => h1 (by rw [he, ea, if_pos (g_lb_iff.mp (Or.inl ho))]), fun q => by simp at q⟩
    · try simp only [pb_iconst, pb_null, pb_iload, pb_aload, pb_istore, pb_astore, pb_iinc, pb_bin, pb_bin0, pb_dup, pb_pop, pb_dup2, pb_if, pb_icmp, pb_ifnull, pb_getI, pb_getR, pb_putI, pb_putZ, pb_putR, pb_alen, pb_ald, pb_aldR, pb_ast, pb_astZ, pb_astR, pb_vret, pb_iret, pb_zret, pb_aret, pb_cv, pb_cr, pb_sr, pb_switch, pb_sw, pb_nth, pb_set, pb_tk, pb_add, pb_sub, List.length_cons, List.length_nil, true_or, or_true, true_and, and_true, and_self, pb_up_same, pb_up_f, ne_eq, Nat.reduceEqDiff, not_false_eq_true, Nat.reduceAdd, Nat.reduceLeDiff, Nat.zero_le, is_P.1, is_P.2.1, is_P.2.2.1, is_P.2.2.2.1, is_P.2.2.2.2, (p_P h).1, (p_P h).2.1, (p_P h).2.2.1, (p_P h).2.2.2.1, (p_P h).2.2.2.2, p_ref h, hc.1, e]
      refine ⟨fun q => by simp at q, fun _ => ⟨⟨by omega, by omega⟩, c_C_isCalled hc hq e2 e3 ha (fun ho2 => ?_) (fun ho2 => ?_)⟩⟩
      · try simp only [pb_iconst, pb_null, pb_iload, pb_aload, pb_istore, pb_astore, pb_iinc, pb_bin, pb_bin0, pb_dup, pb_pop, pb_dup2, pb_if, pb_icmp, pb_ifnull, pb_getI, pb_getR, pb_putI, pb_putZ, pb_putR, pb_alen, pb_ald, pb_aldR, pb_ast, pb_astZ, pb_astR, pb_vret, pb_iret, pb_zret, pb_aret, pb_cv, pb_cr, pb_sr, pb_switch, pb_sw, pb_nth, pb_set, pb_tk, pb_add, pb_sub, List.length_cons, List.length_nil, true_or, or_true, true_and, and_true, and_self, pb_up_same, pb_up_f, ne_eq, Nat.reduceEqDiff, not_false_eq_true, Nat.reduceAdd, Nat.reduceLeDiff, Nat.zero_le]
        exact ⟨fun q => by simp at q, fun _ => h1 (by rw [he, ea, if_pos (g_lb_iff.mp (Or.inr ho2))])⟩
      · try simp only [pb_iconst, pb_null, pb_iload, pb_aload, pb_istore, pb_astore, pb_iinc, pb_bin, pb_bin0, pb_dup, pb_pop, pb_dup2, pb_if, pb_icmp, pb_ifnull, pb_getI, pb_getR, pb_putI, pb_putZ, pb_putR, pb_alen, pb_ald, pb_aldR, pb_ast, pb_astZ, pb_astR, pb_vret, pb_iret, pb_zret, pb_aret, pb_cv, pb_cr, pb_sr, pb_switch, pb_sw, pb_nth, pb_set, pb_tk, pb_add, pb_sub, List.length_cons, List.length_nil, true_or, or_true, true_and, and_true, and_self, pb_up_same, pb_up_f, ne_eq, Nat.reduceEqDiff, not_false_eq_true, Nat.reduceAdd, Nat.reduceLeDiff, Nat.zero_le, e]
        refine ⟨fun _ => ih (k + 1) (by omega) ?_, fun q => by simp at q⟩
        rw [he, ea, if_neg]
        intro q
        rcases g_lb_iff.mpr q with q | q
        · exact ho q
        · exact ho2 q
theorem c_P_hasLeg {q a r : Int} (h : RE σ E ρ μ) (hq : pb_is 3 213 q) (e2 : σ 302 q 0 = a) (e3 : σ 303 q 0 = r) (ha : pb_R a) (h1 : g_has E.2.2 b a r = true → Q (.inl 1) σ) (h0 : g_has E.2.2 b a r = false → Q (.inl 0) σ) : pb_MJ x i_P_hasLeg [.inr 0, .inl b, .inr q] 213 σ Q := by
  refine pb_m_P_hasLeg ?_
  simp only [pb_b_P_hasLeg_0, pb_b_P_hasLeg_2, pb_b_P_hasLeg_38, pb_b_P_hasLeg_40, pb_b_P_hasLeg_46, pb_iconst, pb_null, pb_iload, pb_aload, pb_istore, pb_astore, pb_iinc, pb_bin, pb_bin0, pb_dup, pb_pop, pb_dup2, pb_if, pb_icmp, pb_ifnull, pb_getI, pb_getR, pb_putI, pb_putZ, pb_putR, pb_alen, pb_ald, pb_aldR, pb_ast, pb_astZ, pb_astR, pb_vret, pb_iret, pb_zret, pb_aret, pb_cv, pb_cr, pb_sr, pb_switch, pb_sw, pb_nth, pb_set, pb_tk, pb_add, pb_sub, List.length_cons, List.length_nil, true_or, or_true, true_and, and_true, and_self, pb_up_same, pb_up_f, ne_eq, Nat.reduceEqDiff, not_false_eq_true, Nat.reduceAdd, Nat.reduceLeDiff, Nat.zero_le]
  exact l_P_hasLeg h hq e2 e3 ha h1 h0 E.2.2.length 0 (by omega) rfl
end EX
