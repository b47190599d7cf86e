section MGV
variable {x : pb_E} {σ σ' : pb_H} {T : gT} {E E' : gE} {w : gW} {ν : pb_H} {b s t : Int} {Q : pb_P}
theorem l_M_requested {v : Int} (h : RM σ T E w ν) (hb : 0 ≤ b ∧ b < 2) (hA : ∀ t, 0 ≤ t → t < 8 → E.1 0 t = 0 → E.1 3 t = 0) (hQ : ∀ σ', RM σ' T (ge_give E b v) w ν → Q (.inl 0) σ') : ∀ (d k : Nat), k + d = 4 → ge_give E b v = ge_giveK E b v d k → ∀ (o : Option pb_V), pb_WJ x i_M_requested 213 Q 2 [some (.inr 165), some (.inl b), some (.inl v), some (.inl k), o] [] 213 σ := by
  intro d
  have e0 : pb_mul 4 b = 4 * b := by unfold pb_mul; exact pb_w_id (by unfold pb_R; omega)
  induction d with
  | zero =>
    intro k hk he o
    refine pb_s_M_requested_2 x 213 Q _ _ _ _ ?_
    simp only [pb_b_M_requested_2, pb_b_M_requested_76, pb_iconst, pb_null, pb_iload, pb_aload, pb_istore, pb_astore, pb_iinc, pb_bin, pb_bin0, pb_dup, pb_pop, pb_dup2, pb_if, pb_icmp, pb_ifnull, pb_getI, pb_getR, pb_putI, pb_putZ, pb_putR, pb_alen, pb_ald, pb_aldR, pb_ast, pb_astZ, pb_astR, pb_vret, pb_iret, pb_zret, pb_aret, pb_cv, pb_cr, pb_sr, pb_switch, pb_sw, pb_nth, pb_set, pb_tk, pb_add, pb_sub, List.length_cons, List.length_nil, true_or, or_true, true_and, and_true, and_self, pb_up_same, pb_up_f, ne_eq, Nat.reduceEqDiff, not_false_eq_true, Nat.reduceAdd, Nat.reduceLeDiff, Nat.zero_le]
    exact ⟨fun _ => hQ _ (by rw [he]; exact h), fun z => absurd z (by omega)⟩
  | succ d ih =>
    intro k hk he o
    have ht : 0 ≤ 4 * b + (k : Int) ∧ 4 * b + (k : Int) < 8 := by omega
    have e : pb_w ((k : Int) + 1) = ((k + 1 : Nat) : Int) := by rw [pb_w_id (by unfold pb_R; omega)]; omega
    have e1 : pb_w (4 * b + (k : Int)) = 4 * b + k := pb_w_id (by unfold pb_R; omega)
    have e2 : pb_w (64 + (k : Int)) = 64 + k := pb_w_id (by unfold pb_R; omega)
    obtain ⟨a1, a2, a3, a4, a5⟩ := h.2.2.2.2.1 _ ht.1 ht.2
    refine pb_s_M_requested_2 x 213 Q _ _ _ _ ?_
    simp only [pb_b_M_requested_2, pb_b_M_requested_70, pb_iconst, pb_null, pb_iload, pb_aload, pb_istore, pb_astore, pb_iinc, pb_bin, pb_bin0, pb_dup, pb_pop, pb_dup2, pb_if, pb_icmp, pb_ifnull, pb_getI, pb_getR, pb_putI, pb_putZ, pb_putR, pb_alen, pb_ald, pb_aldR, pb_ast, pb_astZ, pb_astR, pb_vret, pb_iret, pb_zret, pb_aret, pb_cv, pb_cr, pb_sr, pb_switch, pb_sw, pb_nth, pb_set, pb_tk, pb_add, pb_sub, List.length_cons, List.length_nil, true_or, or_true, true_and, and_true, and_self, pb_up_same, pb_up_f, ne_eq, Nat.reduceEqDiff, not_false_eq_true, Nat.reduceAdd, Nat.reduceLeDiff, Nat.zero_le, is_M, mf_given h.1, mk_given, ml_given, mf_exchangeSends h.1, mk_exchangeSends, ml_exchangeSends, mf_exchangeTakes h.1, mk_exchangeTakes, ml_exchangeTakes, mf_auditClock h.1, mk_auditClock, ml_auditClock, e0, e1, e2, e, a1]
    refine ⟨fun z => absurd z (by omega), fun _ => ⟨ht, fun z => ?_, fun z => ?_⟩⟩
    · refine ih (k + 1) (by omega) ?_ _
      rw [he]
      exact if_neg z
    · have z0 : E.1 0 (4 * b + k) = 0 := Decidable.not_not.mp z
      have h1 := rm_upL (t := 4 * b + (k : Int)) (rm_upL (t := 4 * b + (k : Int)) (rm_upL (t := 4 * b + (k : Int)) h 192 0 (by omega) (v := 1)) 193 1 (by omega) (v := 0)) 194 2 (by omega) (v := 0)
      have h2 := rm_audN (t := 4 * b + (k : Int)) h1 (by rw [ge_set_n (by decide), ge_set_n (by decide), ge_set_n (by decide)]; exact hA _ ht.1 ht.2 z0)
      refine ⟨ht, ht, ht, ht, c_M_down h2 hb (fun σ' h5 => hQ _ ?_)⟩
      rw [he, show ge_giveK E b v (d + 1) k = ge_giveAt E b v k from if_pos z0]
      exact h5
theorem c_M_requested {v : Int} (h : RM σ T E w ν) (hb : 0 ≤ b ∧ b < 2) (hA : ∀ t, 0 ≤ t → t < 8 → E.1 0 t = 0 → E.1 3 t = 0) (hQ : ∀ σ', RM σ' T (ge_give E b v) w ν → Q (.inl 0) σ') : pb_MJ x i_M_requested [.inr 165, .inl b, .inl v] 213 σ Q := by
  refine pb_m_M_requested ?_
  simp only [pb_b_M_requested_0, pb_iconst, pb_null, pb_iload, pb_aload, pb_istore, pb_astore, pb_iinc, pb_bin, pb_bin0, pb_dup, pb_pop, pb_dup2, pb_if, pb_icmp, pb_ifnull, pb_getI, pb_getR, pb_putI, pb_putZ, pb_putR, pb_alen, pb_ald, pb_aldR, pb_ast, pb_astZ, pb_astR, pb_vret, pb_iret, pb_zret, pb_aret, pb_cv, pb_cr, pb_sr, pb_switch, pb_sw, pb_nth, pb_set, pb_tk, pb_add, pb_sub, List.length_cons, List.length_nil, true_or, or_true, true_and, and_true, and_self, pb_up_same, pb_up_f, ne_eq, Nat.reduceEqDiff, not_false_eq_true, Nat.reduceAdd, Nat.reduceLeDiff, Nat.zero_le]
  exact l_M_requested h hb hA hQ 4 0 rfl rfl none
theorem pb_or0 {y : Int} (h : pb_R y) : pb_or y 0 = y := by
  unfold pb_or
  rw [show Int32.ofInt 0 = 0 from rfl, Int32.or_zero]
  exact pb_w_id h
theorem l_M_given (h : RM σ T E w ν) (hb : 0 ≤ b ∧ b < 2) (hQ : Q (.inl (g_givenK E b 4)) σ) : ∀ (d k : Nat), k + d = 4 → pb_R (g_givenK E b k) → pb_WJ x i_M_given 213 Q 13 [some (.inr 165), some (.inl b), some (.inl (g_givenK E b k)), some (.inl k)] [] 213 σ := by
  intro d
  have e0 : pb_mul 4 b = 4 * b := by unfold pb_mul; exact pb_w_id (by unfold pb_R; omega)
  induction d with
  | zero =>
    intro k hk hr
    obtain rfl : k = 4 := by omega
    refine pb_s_M_given_13 x 213 Q _ _ _ _ ?_
    simp only [pb_b_M_given_13, pb_b_M_given_47, pb_iconst, pb_null, pb_iload, pb_aload, pb_istore, pb_astore, pb_iinc, pb_bin, pb_bin0, pb_dup, pb_pop, pb_dup2, pb_if, pb_icmp, pb_ifnull, pb_getI, pb_getR, pb_putI, pb_putZ, pb_putR, pb_alen, pb_ald, pb_aldR, pb_ast, pb_astZ, pb_astR, pb_vret, pb_iret, pb_zret, pb_aret, pb_cv, pb_cr, pb_sr, pb_switch, pb_sw, pb_nth, pb_set, pb_tk, pb_add, pb_sub, List.length_cons, List.length_nil, true_or, or_true, true_and, and_true, and_self, pb_up_same, pb_up_f, ne_eq, Nat.reduceEqDiff, not_false_eq_true, Nat.reduceAdd, Nat.reduceLeDiff, Nat.zero_le]
    exact ⟨fun _ => hQ, fun z => absurd z (by omega)⟩
  | succ d ih =>
    intro k hk hr
    have ht : 0 ≤ 4 * b + (k : Int) ∧ 4 * b + (k : Int) < 8 := by omega
    have e : pb_w ((k : Int) + 1) = ((k + 1 : Nat) : Int) := by rw [pb_w_id (by unfold pb_R; omega)]; omega
    have e1 : pb_w (4 * b + (k : Int)) = 4 * b + k := pb_w_id (by unfold pb_R; omega)
    obtain ⟨a1, a2, a3, a4, a5⟩ := h.2.2.2.2.1 _ ht.1 ht.2
    refine pb_s_M_given_13 x 213 Q _ _ _ _ ?_
    simp only [pb_b_M_given_13, pb_b_M_given_38, pb_b_M_given_39, pb_iconst, pb_null, pb_iload, pb_aload, pb_istore, pb_astore, pb_iinc, pb_bin, pb_bin0, pb_dup, pb_pop, pb_dup2, pb_if, pb_icmp, pb_ifnull, pb_getI, pb_getR, pb_putI, pb_putZ, pb_putR, pb_alen, pb_ald, pb_aldR, pb_ast, pb_astZ, pb_astR, pb_vret, pb_iret, pb_zret, pb_aret, pb_cv, pb_cr, pb_sr, pb_switch, pb_sw, pb_nth, pb_set, pb_tk, pb_add, pb_sub, List.length_cons, List.length_nil, true_or, or_true, true_and, and_true, and_self, pb_up_same, pb_up_f, ne_eq, Nat.reduceEqDiff, not_false_eq_true, Nat.reduceAdd, Nat.reduceLeDiff, Nat.zero_le, is_M, mf_given h.1, mk_given, ml_given, e0, e1, e, a1]
    have ih2 := ih (k + 1) (by omega)
    unfold g_givenK at ih2
    refine ⟨fun z => absurd z (by omega), fun _ => ⟨ht, fun z => ?_, fun z => ?_⟩⟩
    · rw [if_pos z] at ih2
      rw [pb_or0 hr]
      exact ih2 hr
    · rw [if_neg z] at ih2
      exact ih2 (pb_tR _)
theorem c_M_given (h : RM σ T E w ν) (h1 : 0 ≤ b ∧ b < 2 → Q (.inl (g_givenK E b 4)) σ) (h0 : ¬ (0 ≤ b ∧ b < 2) → Q (.inl (-1)) σ) : pb_MJ x i_M_given [.inr 165, .inl b] 213 σ Q := by
  refine pb_m_M_given ?_
  simp only [pb_b_M_given_0, pb_iconst, pb_null, pb_iload, pb_aload, pb_istore, pb_astore, pb_iinc, pb_bin, pb_bin0, pb_dup, pb_pop, pb_dup2, pb_if, pb_icmp, pb_ifnull, pb_getI, pb_getR, pb_putI, pb_putZ, pb_putR, pb_alen, pb_ald, pb_aldR, pb_ast, pb_astZ, pb_astR, pb_vret, pb_iret, pb_zret, pb_aret, pb_cv, pb_cr, pb_sr, pb_switch, pb_sw, pb_nth, pb_set, pb_tk, pb_add, pb_sub, List.length_cons, List.length_nil, true_or, or_true, true_and, and_true, and_self, pb_up_same, pb_up_f, ne_eq, Nat.reduceEqDiff, not_false_eq_true, Nat.reduceAdd, Nat.reduceLeDiff, Nat.zero_le]
  refine c_M_isBus (fun hb => ?_) (fun hb => ?_)
  · try simp only [pb_b_M_given_9, pb_iconst, pb_null, pb_iload, pb_aload, pb_istore, pb_astore, pb_iinc, pb_bin, pb_bin0, pb_dup, pb_pop, pb_dup2, pb_if, pb_icmp, pb_ifnull, pb_getI, pb_getR, pb_putI, pb_putZ, pb_putR, pb_alen, pb_ald, pb_aldR, pb_ast, pb_astZ, pb_astR, pb_vret, pb_iret, pb_zret, pb_aret, pb_cv, pb_cr, pb_sr, pb_switch, pb_sw, pb_nth, pb_set, pb_tk, pb_add, pb_sub, List.length_cons, List.length_nil, true_or, or_true, true_and, and_true, and_self, pb_up_same, pb_up_f, ne_eq, Nat.reduceEqDiff, not_false_eq_true, Nat.reduceAdd, Nat.reduceLeDiff, Nat.zero_le]
    exact ⟨fun _ => l_M_given h hb (h1 hb) 4 0 rfl pb_R0, fun z => by simp at z⟩
  · try simp only [pb_iconst, pb_null, pb_iload, pb_aload, pb_istore, pb_astore, pb_iinc, pb_bin, pb_bin0, pb_dup, pb_pop, pb_dup2, pb_if, pb_icmp, pb_ifnull, pb_getI, pb_getR, pb_putI, pb_putZ, pb_putR, pb_alen, pb_ald, pb_aldR, pb_ast, pb_astZ, pb_astR, pb_vret, pb_iret, pb_zret, pb_aret, pb_cv, pb_cr, pb_sr, pb_switch, pb_sw, pb_nth, pb_set, pb_tk, pb_add, pb_sub, List.length_cons, List.length_nil, true_or, or_true, true_and, and_true, and_self, pb_up_same, pb_up_f, ne_eq, Nat.reduceEqDiff, not_false_eq_true, Nat.reduceAdd, Nat.reduceLeDiff, Nat.zero_le]
    exact ⟨fun z => by simp at z, fun _ => h0 hb⟩
theorem l_M_waiting {u : Int} (h : RM σ T E w ν) (hb : 0 ≤ b ∧ b < 2) (hQ : Q (.inl (if u = 0 then ((E.2.1 b).length : Int) else g_count T b)) σ) : ∀ (d k : Nat), k + d = 4 → pb_WJ x i_M_waiting 213 Q 16 [some (.inr 165), some (.inl b), some (.inl u), some (.inl ((List.range k).foldl (fun a i => pb_w (a + (T.2 (4 * b + ((0 + i : Nat) : Int))).length)) 0)), some (.inl (4 * b + k))] [] 213 σ := by
  intro d
  have e0 : pb_mul 4 b = 4 * b := by unfold pb_mul; exact pb_w_id (by unfold pb_R; omega)
  have e1 : pb_w (4 * b + 4) = 4 * b + 4 := pb_w_id (by unfold pb_R; omega)
  induction d with
  | zero =>
    intro k hk
    obtain rfl : k = 4 := by omega
    refine pb_s_M_waiting_16 x 213 Q _ _ _ _ ?_
    have a1 := (h.2.2.2.1 b hb.1 hb.2).1
    simp only [pb_b_M_waiting_16, pb_b_M_waiting_42, pb_b_M_waiting_50, pb_b_M_waiting_56, pb_iconst, pb_null, pb_iload, pb_aload, pb_istore, pb_astore, pb_iinc, pb_bin, pb_bin0, pb_dup, pb_pop, pb_dup2, pb_if, pb_icmp, pb_ifnull, pb_getI, pb_getR, pb_putI, pb_putZ, pb_putR, pb_alen, pb_ald, pb_aldR, pb_ast, pb_astZ, pb_astR, pb_vret, pb_iret, pb_zret, pb_aret, pb_cv, pb_cr, pb_sr, pb_switch, pb_sw, pb_nth, pb_set, pb_tk, pb_add, pb_sub, List.length_cons, List.length_nil, true_or, or_true, true_and, and_true, and_self, pb_up_same, pb_up_f, ne_eq, Nat.reduceEqDiff, not_false_eq_true, Nat.reduceAdd, Nat.reduceLeDiff, Nat.zero_le, is_M, mf_rows h.1, mk_rows, ml_rows, e0, e1, a1]
    refine ⟨fun _ => ⟨fun z => ?_, fun z => ?_⟩, fun z => absurd z (by omega)⟩
    · rw [if_pos z] at hQ
      exact ⟨hb, hQ⟩
    · rw [if_neg z] at hQ
      exact hQ
  | succ d ih =>
    intro k hk
    have ht : 0 ≤ 4 * b + (k : Int) ∧ 4 * b + (k : Int) < 8 := by omega
    have e : pb_w (4 * b + (k : Int) + 1) = 4 * b + ((k + 1 : Nat) : Int) := by rw [pb_w_id (by unfold pb_R; omega)]; omega
    have a1 := (h.2.2.1 _ ht.1 ht.2).1
    refine pb_s_M_waiting_16 x 213 Q _ _ _ _ ?_
    simp only [pb_b_M_waiting_16, pb_iconst, pb_null, pb_iload, pb_aload, pb_istore, pb_astore, pb_iinc, pb_bin, pb_bin0, pb_dup, pb_pop, pb_dup2, pb_if, pb_icmp, pb_ifnull, pb_getI, pb_getR, pb_putI, pb_putZ, pb_putR, pb_alen, pb_ald, pb_aldR, pb_ast, pb_astZ, pb_astR, pb_vret, pb_iret, pb_zret, pb_aret, pb_cv, pb_cr, pb_sr, pb_switch, pb_sw, pb_nth, pb_set, pb_tk, pb_add, pb_sub, List.length_cons, List.length_nil, true_or, or_true, true_and, and_true, and_self, pb_up_same, pb_up_f, ne_eq, Nat.reduceEqDiff, not_false_eq_true, Nat.reduceAdd, Nat.reduceLeDiff, Nat.zero_le, is_M, mf_length h.1, mk_length, ml_length, e0, e1, e, a1]
    refine ⟨fun z => absurd z (by omega), fun _ => ⟨ht, ?_⟩⟩
    have ih2 := ih (k + 1) (by omega)
    rw [List.range_succ, List.foldl_append, List.foldl_cons, List.foldl_nil, show ((0 + k : Nat) : Int) = (k : Int) by omega] at ih2
    exact ih2
theorem c_M_waiting {u : Int} (h : RM σ T E w ν) (h1 : 0 ≤ b ∧ b < 2 → Q (.inl (if u = 0 then ((E.2.1 b).length : Int) else g_count T b)) σ) (h0 : ¬ (0 ≤ b ∧ b < 2) → Q (.inl (-1)) σ) : pb_MJ x i_M_waiting [.inr 165, .inl b, .inl u] 213 σ Q := by
  refine pb_m_M_waiting ?_
  simp only [pb_b_M_waiting_0, pb_iconst, pb_null, pb_iload, pb_aload, pb_istore, pb_astore, pb_iinc, pb_bin, pb_bin0, pb_dup, pb_pop, pb_dup2, pb_if, pb_icmp, pb_ifnull, pb_getI, pb_getR, pb_putI, pb_putZ, pb_putR, pb_alen, pb_ald, pb_aldR, pb_ast, pb_astZ, pb_astR, pb_vret, pb_iret, pb_zret, pb_aret, pb_cv, pb_cr, pb_sr, pb_switch, pb_sw, pb_nth, pb_set, pb_tk, pb_add, pb_sub, List.length_cons, List.length_nil, true_or, or_true, true_and, and_true, and_self, pb_up_same, pb_up_f, ne_eq, Nat.reduceEqDiff, not_false_eq_true, Nat.reduceAdd, Nat.reduceLeDiff, Nat.zero_le]
  refine c_M_isBus (fun hb => ?_) (fun hb => ?_)
  · have e0 : pb_mul 4 b = 4 * b := by unfold pb_mul; exact pb_w_id (by unfold pb_R; omega)
    try simp only [pb_b_M_waiting_9, pb_iconst, pb_null, pb_iload, pb_aload, pb_istore, pb_astore, pb_iinc, pb_bin, pb_bin0, pb_dup, pb_pop, pb_dup2, pb_if, pb_icmp, pb_ifnull, pb_getI, pb_getR, pb_putI, pb_putZ, pb_putR, pb_alen, pb_ald, pb_aldR, pb_ast, pb_astZ, pb_astR, pb_vret, pb_iret, pb_zret, pb_aret, pb_cv, pb_cr, pb_sr, pb_switch, pb_sw, pb_nth, pb_set, pb_tk, pb_add, pb_sub, List.length_cons, List.length_nil, true_or, or_true, true_and, and_true, and_self, pb_up_same, pb_up_f, ne_eq, Nat.reduceEqDiff, not_false_eq_true, Nat.reduceAdd, Nat.reduceLeDiff, Nat.zero_le, e0]
    have := l_M_waiting (x := x) h hb (h1 hb) 4 0 rfl
    rw [show 4 * b + ((0 : Nat) : Int) = 4 * b by omega] at this
    exact ⟨fun _ => this, fun z => by simp at z⟩
  · try simp only [pb_iconst, pb_null, pb_iload, pb_aload, pb_istore, pb_astore, pb_iinc, pb_bin, pb_bin0, pb_dup, pb_pop, pb_dup2, pb_if, pb_icmp, pb_ifnull, pb_getI, pb_getR, pb_putI, pb_putZ, pb_putR, pb_alen, pb_ald, pb_aldR, pb_ast, pb_astZ, pb_astR, pb_vret, pb_iret, pb_zret, pb_aret, pb_cv, pb_cr, pb_sr, pb_switch, pb_sw, pb_nth, pb_set, pb_tk, pb_add, pb_sub, List.length_cons, List.length_nil, true_or, or_true, true_and, and_true, and_self, pb_up_same, pb_up_f, ne_eq, Nat.reduceEqDiff, not_false_eq_true, Nat.reduceAdd, Nat.reduceLeDiff, Nat.zero_le]
    exact ⟨fun z => by simp at z, fun _ => h0 hb⟩
end MGV
