/-! the public methods of the exchange -/
def g_givenK (E : gE) (b : Int) : Nat → Int
  | 0 => 0
  | k + 1 => if E.1 0 (4 * b + k) = 0 then g_givenK E b k else pb_or (g_givenK E b k) (pb_shl 1 k)
def g_phaseK (c : List gC) (num : Int) : Nat → Nat → Int
  | 0, _ => 0
  | d + 1, k => match c[k]? with
    | none => 0
    | some f => if f 1 = num then f 2 else g_phaseK c num d (k + 1)
def g_phase (c : List gC) (num : Int) : Int := g_phaseK c num c.length 0
section PV
variable {x : pb_E} {σ : pb_H} {T : gT} {E : gE} {ρ : Int → Int} {μ : pb_H} {b s : Int} {Q : pb_P} {n : Nat}
theorem c_P_spoil {u d : Int} (h : RC σ T E μ) (h1 : (0 ≤ b ∧ b < 2) ∧ (0 ≤ d ∧ d ≤ 2) → ∀ σ', RC σ' T (if u = 0 then ge_set E 7 b d else ge_set E 6 b d) μ → Q (.inl 1) σ') (h0 : ¬ ((0 ≤ b ∧ b < 2) ∧ (0 ≤ d ∧ d ≤ 2)) → Q (.inl 0) σ) : pb_MJ x i_P_spoil [.inr 0, .inl b, .inl u, .inl d] 213 σ Q := by
  refine pb_m_P_spoil ?_
  simp only [pb_b_P_spoil_0, pb_b_P_spoil_16, pb_iconst, pb_null, pb_iload, pb_aload, pb_istore, pb_astore, pb_iinc, pb_bin, pb_bin0, pb_dup, pb_pop, pb_dup2, pb_if, pb_icmp, pb_ifnull, pb_getI, pb_getR, pb_putI, pb_putZ, pb_putR, pb_alen, pb_ald, pb_aldR, pb_ast, pb_astZ, pb_astR, pb_vret, pb_iret, pb_zret, pb_aret, pb_cv, pb_cr, pb_sr, pb_switch, pb_sw, pb_nth, pb_set, pb_tk, pb_add, pb_sub, List.length_cons, List.length_nil, true_or, or_true, true_and, and_true, and_self, pb_up_same, pb_up_f, ne_eq, Nat.reduceEqDiff, not_false_eq_true, Nat.reduceAdd, Nat.reduceLeDiff, Nat.zero_le]
  refine c_P_isBus (fun hb => ?_) (fun hb => ?_)
  · have hre := h.re
    try simp only [pb_b_P_spoil_18, pb_b_P_spoil_35, pb_b_P_spoil_45, pb_iconst, pb_null, pb_iload, pb_aload, pb_istore, pb_astore, pb_iinc, pb_bin, pb_bin0, pb_dup, pb_pop, pb_dup2, pb_if, pb_icmp, pb_ifnull, pb_getI, pb_getR, pb_putI, pb_putZ, pb_putR, pb_alen, pb_ald, pb_aldR, pb_ast, pb_astZ, pb_astR, pb_vret, pb_iret, pb_zret, pb_aret, pb_cv, pb_cr, pb_sr, pb_switch, pb_sw, pb_nth, pb_set, pb_tk, pb_add, pb_sub, List.length_cons, List.length_nil, true_or, or_true, true_and, and_true, and_self, pb_up_same, pb_up_f, ne_eq, Nat.reduceEqDiff, not_false_eq_true, Nat.reduceAdd, Nat.reduceLeDiff, Nat.zero_le, is_P.1, is_P.2.1, is_P.2.2.1, is_P.2.2.2.1, is_P.2.2.2.2, (p_P hre).1, (p_P hre).2.1, (p_P hre).2.2.1, (p_P hre).2.2.2.1, (p_P hre).2.2.2.2, p_ref hre, (q_bus hre.1 hb).1, (q_bus hre.1 hb).2.1, (q_bus hre.1 hb).2.2.1, (q_bus hre.1 hb).2.2.2, (is_B hb).1, (is_B hb).2.1, (is_B hb).2.2.1, (is_B hb).2.2.2.1, (is_B hb).2.2.2.2, (rwD hb).1]
    refine ⟨fun z => by simp at z, fun _ => ⟨fun z => h0 (fun y => absurd y.2.1 (by omega)), fun z => ⟨fun z2 => ⟨fun z3 => ⟨hb, ?_⟩, fun z3 => ⟨hb, ?_⟩⟩, fun z2 => h0 (fun y => z2 y.2.2)⟩⟩⟩
    · have h2 := h1 ⟨hb, by omega, z2⟩
      rw [if_pos z3] at h2
      exact h2 _ (h.ofE (r_B hre hb 105 1 rfl (by decide) d))
    · have h2 := h1 ⟨hb, by omega, z2⟩
      rw [if_neg z3] at h2
      exact h2 _ (h.ofE (r_B hre hb 104 0 rfl (by decide) d))
  · try simp only [pb_iconst, pb_null, pb_iload, pb_aload, pb_istore, pb_astore, pb_iinc, pb_bin, pb_bin0, pb_dup, pb_pop, pb_dup2, pb_if, pb_icmp, pb_ifnull, pb_getI, pb_getR, pb_putI, pb_putZ, pb_putR, pb_alen, pb_ald, pb_aldR, pb_ast, pb_astZ, pb_astR, pb_vret, pb_iret, pb_zret, pb_aret, pb_cv, pb_cr, pb_sr, pb_switch, pb_sw, pb_nth, pb_set, pb_tk, pb_add, pb_sub, List.length_cons, List.length_nil, true_or, or_true, true_and, and_true, and_self, pb_up_same, pb_up_f, ne_eq, Nat.reduceEqDiff, not_false_eq_true, Nat.reduceAdd, Nat.reduceLeDiff, Nat.zero_le]
    exact ⟨fun _ => h0 (fun y => hb y.1), fun z => by simp at z⟩
def g_aud (E : gE) (b a : Int) : Prop := (0 ≤ b ∧ b < 2) ∧ (64 ≤ a ∧ a < 68) ∧ ¬ E.1 0 (4 * b + (a - 64)) = 0 ∧ E.1 3 (4 * b + (a - 64)) = 0
def ge_check (E : gE) (b a : Int) : gE := ge_put (ge_set (ge_set (ge_set E 3 (4 * b + (a - 64)) 1) 4 (4 * b + (a - 64)) 8) 5 (4 * b + (a - 64)) 0) b (11, a, 0, 0, 0)
theorem c_P_audit {a : Int} (ha : pb_R a) (h : RC σ T E μ) (h1 : g_aud E b a → ∀ σ', RC σ' T (ge_check E b a) μ → Q (.inl 1) σ') (h0 : ¬ g_aud E b a → Q (.inl 0) σ) : pb_MJ x i_P_audit [.inr 0, .inl b, .inl a] 213 σ Q := by
  refine pb_m_P_audit ?_
  simp only [pb_b_P_audit_0, pb_b_P_audit_20, pb_iconst, pb_null, pb_iload, pb_aload, pb_istore, pb_astore, pb_iinc, pb_bin, pb_bin0, pb_dup, pb_pop, pb_dup2, pb_if, pb_icmp, pb_ifnull, pb_getI, pb_getR, pb_putI, pb_putZ, pb_putR, pb_alen, pb_ald, pb_aldR, pb_ast, pb_astZ, pb_astR, pb_vret, pb_iret, pb_zret, pb_aret, pb_cv, pb_cr, pb_sr, pb_switch, pb_sw, pb_nth, pb_set, pb_tk, pb_add, pb_sub, List.length_cons, List.length_nil, true_or, or_true, true_and, and_true, and_self, pb_up_same, pb_up_f, ne_eq, Nat.reduceEqDiff, not_false_eq_true, Nat.reduceAdd, Nat.reduceLeDiff, Nat.zero_le]
  refine c_P_isBus (fun hb => ?_) (fun hb => ?_)
  · have hre := h.re
    try simp only [pb_b_P_audit_21, pb_b_P_audit_40, pb_iconst, pb_null, pb_iload, pb_aload, pb_istore, pb_astore, pb_iinc, pb_bin, pb_bin0, pb_dup, pb_pop, pb_dup2, pb_if, pb_icmp, pb_ifnull, pb_getI, pb_getR, pb_putI, pb_putZ, pb_putR, pb_alen, pb_ald, pb_aldR, pb_ast, pb_astZ, pb_astR, pb_vret, pb_iret, pb_zret, pb_aret, pb_cv, pb_cr, pb_sr, pb_switch, pb_sw, pb_nth, pb_set, pb_tk, pb_add, pb_sub, List.length_cons, List.length_nil, true_or, or_true, true_and, and_true, and_self, pb_up_same, pb_up_f, ne_eq, Nat.reduceEqDiff, not_false_eq_true, Nat.reduceAdd, Nat.reduceLeDiff, Nat.zero_le, is_P.1, is_P.2.1, is_P.2.2.1, is_P.2.2.2.1, is_P.2.2.2.2, (p_P hre).1, (p_P hre).2.1, (p_P hre).2.2.1, (p_P hre).2.2.2.1, (p_P hre).2.2.2.2, p_ref hre, (q_bus hre.1 hb).1, (q_bus hre.1 hb).2.1, (q_bus hre.1 hb).2.2.1, (q_bus hre.1 hb).2.2.2, (is_B hb).1, (is_B hb).2.1, (is_B hb).2.2.1, (is_B hb).2.2.2.1, (is_B hb).2.2.2.2, (rwD hb).1]
    refine ⟨fun z => by simp at z, fun _ => ⟨hb, c_B_lineOf h.1 hb ha (fun j j1 j2 j3 => ?_) (fun j0 => ?_)⟩⟩
    · have ej : a - 64 = j := by omega
      unfold g_aud at h0 h1
      unfold ge_check at h1
      rw [ej] at h0 h1
      try simp only [pb_iconst, pb_null, pb_iload, pb_aload, pb_istore, pb_astore, pb_iinc, pb_bin, pb_bin0, pb_dup, pb_pop, pb_dup2, pb_if, pb_icmp, pb_ifnull, pb_getI, pb_getR, pb_putI, pb_putZ, pb_putR, pb_alen, pb_ald, pb_aldR, pb_ast, pb_astZ, pb_astR, pb_vret, pb_iret, pb_zret, pb_aret, pb_cv, pb_cr, pb_sr, pb_switch, pb_sw, pb_nth, pb_set, pb_tk, pb_add, pb_sub, List.length_cons, List.length_nil, true_or, or_true, true_and, and_true, and_self, pb_up_same, pb_up_f, ne_eq, Nat.reduceEqDiff, not_false_eq_true, Nat.reduceAdd, Nat.reduceLeDiff, Nat.zero_le, is_L hb ⟨j1, j2⟩, p_L hre hb ⟨j1, j2⟩ 501 0 rfl (by decide), p_L hre hb ⟨j1, j2⟩ 504 3 rfl (by decide)]
      refine ⟨fun z => absurd z (by omega), fun _ => ⟨fun z => h0 (fun y => y.2.2.1 z), fun z => ⟨fun z2 => ?_, fun z2 => h0 (fun y => z2 y.2.2.2)⟩⟩⟩
      have h2 := h1 ⟨hb, by omega, z, z2⟩
      simp only [pb_b_P_audit_42, pb_iconst, pb_null, pb_iload, pb_aload, pb_istore, pb_astore, pb_iinc, pb_bin, pb_bin0, pb_dup, pb_pop, pb_dup2, pb_if, pb_icmp, pb_ifnull, pb_getI, pb_getR, pb_putI, pb_putZ, pb_putR, pb_alen, pb_ald, pb_aldR, pb_ast, pb_astZ, pb_astR, pb_vret, pb_iret, pb_zret, pb_aret, pb_cv, pb_cr, pb_sr, pb_switch, pb_sw, pb_nth, pb_set, pb_tk, pb_add, pb_sub, List.length_cons, List.length_nil, true_or, or_true, true_and, and_true, and_self, pb_up_same, pb_up_f, ne_eq, Nat.reduceEqDiff, not_false_eq_true, Nat.reduceAdd, Nat.reduceLeDiff, Nat.zero_le, is_L hb ⟨j1, j2⟩, is_P.1, is_P.2.1, is_P.2.2.1, is_P.2.2.2.1, is_P.2.2.2.2, (p_P hre).1, (p_P hre).2.1, (p_P hre).2.2.1, (p_P hre).2.2.2.1, (p_P hre).2.2.2.2, p_ref hre, (q_bus hre.1 hb).1, (q_bus hre.1 hb).2.1, (q_bus hre.1 hb).2.2.1, (q_bus hre.1 hb).2.2.2, (is_B hb).1, (is_B hb).2.1, (is_B hb).2.2.1, (is_B hb).2.2.2.1, (is_B hb).2.2.2.2, (rwD hb).1]
      refine ⟨hb, ?_⟩
      exact c_putD (r_L (r_L (r_L hre hb ⟨j1, j2⟩ 504 3 rfl (by decide) 1) hb ⟨j1, j2⟩ 505 4 rfl (by decide) 8) hb ⟨j1, j2⟩ 506 5 rfl (by decide) 0) hb (fun σ1 g1 => h2 _ (h.ofE g1))
    · try simp only [pb_iconst, pb_null, pb_iload, pb_aload, pb_istore, pb_astore, pb_iinc, pb_bin, pb_bin0, pb_dup, pb_pop, pb_dup2, pb_if, pb_icmp, pb_ifnull, pb_getI, pb_getR, pb_putI, pb_putZ, pb_putR, pb_alen, pb_ald, pb_aldR, pb_ast, pb_astZ, pb_astR, pb_vret, pb_iret, pb_zret, pb_aret, pb_cv, pb_cr, pb_sr, pb_switch, pb_sw, pb_nth, pb_set, pb_tk, pb_add, pb_sub, List.length_cons, List.length_nil, true_or, or_true, true_and, and_true, and_self, pb_up_same, pb_up_f, ne_eq, Nat.reduceEqDiff, not_false_eq_true, Nat.reduceAdd, Nat.reduceLeDiff, Nat.zero_le]
      exact ⟨fun _ => h0 (fun y => j0 y.2.1), fun z => by simp at z⟩
  · try simp only [pb_b_P_audit_21, pb_b_P_audit_40, pb_iconst, pb_null, pb_iload, pb_aload, pb_istore, pb_astore, pb_iinc, pb_bin, pb_bin0, pb_dup, pb_pop, pb_dup2, pb_if, pb_icmp, pb_ifnull, pb_getI, pb_getR, pb_putI, pb_putZ, pb_putR, pb_alen, pb_ald, pb_aldR, pb_ast, pb_astZ, pb_astR, pb_vret, pb_iret, pb_zret, pb_aret, pb_cv, pb_cr, pb_sr, pb_switch, pb_sw, pb_nth, pb_set, pb_tk, pb_add, pb_sub, List.length_cons, List.length_nil, true_or, or_true, true_and, and_true, and_self, pb_up_same, pb_up_f, ne_eq, Nat.reduceEqDiff, not_false_eq_true, Nat.reduceAdd, Nat.reduceLeDiff, Nat.zero_le]
    exact ⟨fun _ => ⟨fun _ => h0 (fun y => hb y.1), fun z => by simp at z⟩, fun z => by simp at z⟩
theorem c_P_time (h : RC σ T E μ) (hQ : Q (.inl (E.1 9 0)) σ) : pb_MJ x i_P_time [.inr 0] 213 σ Q := by
  refine pb_m_P_time ?_
  have hre := h.re
  simp only [pb_b_P_time_0, pb_iconst, pb_null, pb_iload, pb_aload, pb_istore, pb_astore, pb_iinc, pb_bin, pb_bin0, pb_dup, pb_pop, pb_dup2, pb_if, pb_icmp, pb_ifnull, pb_getI, pb_getR, pb_putI, pb_putZ, pb_putR, pb_alen, pb_ald, pb_aldR, pb_ast, pb_astZ, pb_astR, pb_vret, pb_iret, pb_zret, pb_aret, pb_cv, pb_cr, pb_sr, pb_switch, pb_sw, pb_nth, pb_set, pb_tk, pb_add, pb_sub, List.length_cons, List.length_nil, true_or, or_true, true_and, and_true, and_self, pb_up_same, pb_up_f, ne_eq, Nat.reduceEqDiff, not_false_eq_true, Nat.reduceAdd, Nat.reduceLeDiff, Nat.zero_le, is_P.1, is_P.2.1, is_P.2.2.1, is_P.2.2.2.1, is_P.2.2.2.2, (p_P hre).1, (p_P hre).2.1, (p_P hre).2.2.1, (p_P hre).2.2.2.1, (p_P hre).2.2.2.2, p_ref hre]
  exact hQ
theorem c_P_waiting {u : Int} (h : RC σ T E μ) (h1 : 0 ≤ b ∧ b < 2 → Q (.inl (if u = 0 then ((E.2.1 b).length : Int) else g_count T b)) σ) (h0 : ¬ (0 ≤ b ∧ b < 2) → Q (.inl (-1)) σ) : pb_MJ x i_P_waiting [.inr 0, .inl b, .inl u] 213 σ Q := by
  refine pb_m_P_waiting ?_
  simp only [pb_b_P_waiting_0, pb_iconst, pb_null, pb_iload, pb_aload, pb_istore, pb_astore, pb_iinc, pb_bin, pb_bin0, pb_dup, pb_pop, pb_dup2, pb_if, pb_icmp, pb_ifnull, pb_getI, pb_getR, pb_putI, pb_putZ, pb_putR, pb_alen, pb_ald, pb_aldR, pb_ast, pb_astZ, pb_astR, pb_vret, pb_iret, pb_zret, pb_aret, pb_cv, pb_cr, pb_sr, pb_switch, pb_sw, pb_nth, pb_set, pb_tk, pb_add, pb_sub, List.length_cons, List.length_nil, true_or, or_true, true_and, and_true, and_self, pb_up_same, pb_up_f, ne_eq, Nat.reduceEqDiff, not_false_eq_true, Nat.reduceAdd, Nat.reduceLeDiff, Nat.zero_le]
  refine c_P_isBus (fun hb => ?_) (fun hb => ?_)
  · have hre := h.re
    have hr := p_rowD hre hb
    have h2 := h1 hb
    try simp only [pb_b_P_waiting_9, pb_b_P_waiting_25, pb_b_P_waiting_37, pb_iconst, pb_null, pb_iload, pb_aload, pb_istore, pb_astore, pb_iinc, pb_bin, pb_bin0, pb_dup, pb_pop, pb_dup2, pb_if, pb_icmp, pb_ifnull, pb_getI, pb_getR, pb_putI, pb_putZ, pb_putR, pb_alen, pb_ald, pb_aldR, pb_ast, pb_astZ, pb_astR, pb_vret, pb_iret, pb_zret, pb_aret, pb_cv, pb_cr, pb_sr, pb_switch, pb_sw, pb_nth, pb_set, pb_tk, pb_add, pb_sub, List.length_cons, List.length_nil, true_or, or_true, true_and, and_true, and_self, pb_up_same, pb_up_f, ne_eq, Nat.reduceEqDiff, not_false_eq_true, Nat.reduceAdd, Nat.reduceLeDiff, Nat.zero_le, is_P.1, is_P.2.1, is_P.2.2.1, is_P.2.2.2.1, is_P.2.2.2.2, (p_P hre).1, (p_P hre).2.1, (p_P hre).2.2.1, (p_P hre).2.2.2.1, (p_P hre).2.2.2.2, p_ref hre, (q_bus hre.1 hb).1, (q_bus hre.1 hb).2.1, (q_bus hre.1 hb).2.2.1, (q_bus hre.1 hb).2.2.2, (is_B hb).1, (is_B hb).2.1, (is_B hb).2.2.1, (is_B hb).2.2.2.1, (is_B hb).2.2.2.2, (rwD hb).1, hr.2.1]
    refine ⟨fun _ => ⟨fun z => ⟨hb, ?_⟩, fun z => ⟨hb, ?_⟩⟩, fun z => by simp at z⟩
    · rw [if_pos z] at h2
      exact h2
    · rw [if_neg z] at h2
      exact c_B_countTerminalFrames h.rt hb h2
  · try simp only [pb_iconst, pb_null, pb_iload, pb_aload, pb_istore, pb_astore, pb_iinc, pb_bin, pb_bin0, pb_dup, pb_pop, pb_dup2, pb_if, pb_icmp, pb_ifnull, pb_getI, pb_getR, pb_putI, pb_putZ, pb_putR, pb_alen, pb_ald, pb_aldR, pb_ast, pb_astZ, pb_astR, pb_vret, pb_iret, pb_zret, pb_aret, pb_cv, pb_cr, pb_sr, pb_switch, pb_sw, pb_nth, pb_set, pb_tk, pb_add, pb_sub, List.length_cons, List.length_nil, true_or, or_true, true_and, and_true, and_self, pb_up_same, pb_up_f, ne_eq, Nat.reduceEqDiff, not_false_eq_true, Nat.reduceAdd, Nat.reduceLeDiff, Nat.zero_le]
    exact ⟨fun z => by simp at z, fun _ => h0 hb⟩
theorem l_P_given (h : RC σ T E μ) (hb : 0 ≤ b ∧ b < 2) (hQ : Q (.inl (g_givenK E b 4)) σ) : ∀ (d k : Nat), k + d = 4 → pb_WJ x i_P_given 213 Q 13 [some (.inr 0), some (.inl b), some (.inl (g_givenK E b k)), some (.inl k)] [] 213 σ := by
  intro d
  have hre := h.re
  induction d with
  | zero =>
    intro k hk
    obtain rfl : k = 4 := by omega
    refine pb_s_P_given_13 x 213 Q _ _ _ _ ?_
    simp only [pb_b_P_given_13, pb_b_P_given_47, pb_iconst, pb_null, pb_iload, pb_aload, pb_istore, pb_astore, pb_iinc, pb_bin, pb_bin0, pb_dup, pb_pop, pb_dup2, pb_if, pb_icmp, pb_ifnull, pb_getI, pb_getR, pb_putI, pb_putZ, pb_putR, pb_alen, pb_ald, pb_aldR, pb_ast, pb_astZ, pb_astR, pb_vret, pb_iret, pb_zret, pb_aret, pb_cv, pb_cr, pb_sr, pb_switch, pb_sw, pb_nth, pb_set, pb_tk, pb_add, pb_sub, List.length_cons, List.length_nil, true_or, or_true, true_and, and_true, and_self, pb_up_same, pb_up_f, ne_eq, Nat.reduceEqDiff, not_false_eq_true, Nat.reduceAdd, Nat.reduceLeDiff, Nat.zero_le]
    exact ⟨fun _ => hQ, fun z => absurd z (by omega)⟩
  | succ d ih =>
    intro k hk
    have hs : 0 ≤ (k : Int) ∧ (k : Int) < 4 := ⟨by omega, by omega⟩
    have e : pb_w ((k : Int) + 1) = ((k + 1 : Nat) : Int) := by rw [pb_w_id (by unfold pb_R; omega)]; omega
    refine pb_s_P_given_13 x 213 Q _ _ _ _ ?_
    simp only [pb_b_P_given_13, pb_b_P_given_41, pb_iconst, pb_null, pb_iload, pb_aload, pb_istore, pb_astore, pb_iinc, pb_bin, pb_bin0, pb_dup, pb_pop, pb_dup2, pb_if, pb_icmp, pb_ifnull, pb_getI, pb_getR, pb_putI, pb_putZ, pb_putR, pb_alen, pb_ald, pb_aldR, pb_ast, pb_astZ, pb_astR, pb_vret, pb_iret, pb_zret, pb_aret, pb_cv, pb_cr, pb_sr, pb_switch, pb_sw, pb_nth, pb_set, pb_tk, pb_add, pb_sub, List.length_cons, List.length_nil, true_or, or_true, true_and, and_true, and_self, pb_up_same, pb_up_f, ne_eq, Nat.reduceEqDiff, not_false_eq_true, Nat.reduceAdd, Nat.reduceLeDiff, Nat.zero_le, is_P.1, is_P.2.1, is_P.2.2.1, is_P.2.2.2.1, is_P.2.2.2.2, (p_P hre).1, (p_P hre).2.1, (p_P hre).2.2.1, (p_P hre).2.2.2.1, (p_P hre).2.2.2.2, p_ref hre, (q_bus hre.1 hb).1, (q_bus hre.1 hb).2.1, (q_bus hre.1 hb).2.2.1, (q_bus hre.1 hb).2.2.2, (is_B hb).1, (is_B hb).2.1, (is_B hb).2.2.1, (is_B hb).2.2.2.1, (is_B hb).2.2.2.2, (rwD hb).1, q_line h.1 hb hs, is_L hb hs, p_L hre hb hs 501 0 rfl (by decide), e]
    have ih2 := ih (k + 1) (by omega)
    unfold g_givenK at ih2
    refine ⟨fun z => absurd z (by omega), fun _ => ⟨hb, hs, fun z => ?_, fun z => ?_⟩⟩
    · rw [if_pos z] at ih2
      exact ih2
    · rw [if_neg z] at ih2
      exact ih2
theorem c_P_given (h : RC σ T E μ) (h1 : 0 ≤ b ∧ b < 2 → Q (.inl (g_givenK E b 4)) σ) (h0 : ¬ (0 ≤ b ∧ b < 2) → Q (.inl (-1)) σ) : pb_MJ x i_P_given [.inr 0, .inl b] 213 σ Q := by
  refine pb_m_P_given ?_
  simp only [pb_b_P_given_0, pb_iconst, pb_null, pb_iload, pb_aload, pb_istore, pb_astore, pb_iinc, pb_bin, pb_bin0, pb_dup, pb_pop, pb_dup2, pb_if, pb_icmp, pb_ifnull, pb_getI, pb_getR, pb_putI, pb_putZ, pb_putR, pb_alen, pb_ald, pb_aldR, pb_ast, pb_astZ, pb_astR, pb_vret, pb_iret, pb_zret, pb_aret, pb_cv, pb_cr, pb_sr, pb_switch, pb_sw, pb_nth, pb_set, pb_tk, pb_add, pb_sub, List.length_cons, List.length_nil, true_or, or_true, true_and, and_true, and_self, pb_up_same, pb_up_f, ne_eq, Nat.reduceEqDiff, not_false_eq_true, Nat.reduceAdd, Nat.reduceLeDiff, Nat.zero_le]
  refine c_P_isBus (fun hb => ?_) (fun hb => ?_)
  · try simp only [pb_b_P_given_9, pb_iconst, pb_null, pb_iload, pb_aload, pb_istore, pb_astore, pb_iinc, pb_bin, pb_bin0, pb_dup, pb_pop, pb_dup2, pb_if, pb_icmp, pb_ifnull, pb_getI, pb_getR, pb_putI, pb_putZ, pb_putR, pb_alen, pb_ald, pb_aldR, pb_ast, pb_astZ, pb_astR, pb_vret, pb_iret, pb_zret, pb_aret, pb_cv, pb_cr, pb_sr, pb_switch, pb_sw, pb_nth, pb_set, pb_tk, pb_add, pb_sub, List.length_cons, List.length_nil, true_or, or_true, true_and, and_true, and_self, pb_up_same, pb_up_f, ne_eq, Nat.reduceEqDiff, not_false_eq_true, Nat.reduceAdd, Nat.reduceLeDiff, Nat.zero_le]
    exact ⟨fun _ => l_P_given h hb (h1 hb) 4 0 rfl, fun z => by simp at z⟩
  · try simp only [pb_iconst, pb_null, pb_iload, pb_aload, pb_istore, pb_astore, pb_iinc, pb_bin, pb_bin0, pb_dup, pb_pop, pb_dup2, pb_if, pb_icmp, pb_ifnull, pb_getI, pb_getR, pb_putI, pb_putZ, pb_putR, pb_alen, pb_ald, pb_aldR, pb_ast, pb_astZ, pb_astR, pb_vret, pb_iret, pb_zret, pb_aret, pb_cv, pb_cr, pb_sr, pb_switch, pb_sw, pb_nth, pb_set, pb_tk, pb_add, pb_sub, List.length_cons, List.length_nil, true_or, or_true, true_and, and_true, and_self, pb_up_same, pb_up_f, ne_eq, Nat.reduceEqDiff, not_false_eq_true, Nat.reduceAdd, Nat.reduceLeDiff, Nat.zero_le]
    exact ⟨fun z => by simp at z, fun _ => h0 hb⟩
theorem c_P_holder {c : Int} (h : RC σ T E μ) (hw : g_cws E.2.2) (h1 : (0 ≤ b ∧ b < 2) ∧ (0 ≤ c ∧ c < 2) → Q (.inl (g_hold E.2.2 b c)) σ) (h0 : ¬ ((0 ≤ b ∧ b < 2) ∧ (0 ≤ c ∧ c < 2)) → Q (.inl (-1)) σ) : pb_MJ x i_P_holder [.inr 0, .inl b, .inl c] 213 σ Q := by
  refine pb_m_P_holder ?_
  simp only [pb_b_P_holder_0, pb_b_P_holder_16, pb_iconst, pb_null, pb_iload, pb_aload, pb_istore, pb_astore, pb_iinc, pb_bin, pb_bin0, pb_dup, pb_pop, pb_dup2, pb_if, pb_icmp, pb_ifnull, pb_getI, pb_getR, pb_putI, pb_putZ, pb_putR, pb_alen, pb_ald, pb_aldR, pb_ast, pb_astZ, pb_astR, pb_vret, pb_iret, pb_zret, pb_aret, pb_cv, pb_cr, pb_sr, pb_switch, pb_sw, pb_nth, pb_set, pb_tk, pb_add, pb_sub, List.length_cons, List.length_nil, true_or, or_true, true_and, and_true, and_self, pb_up_same, pb_up_f, ne_eq, Nat.reduceEqDiff, not_false_eq_true, Nat.reduceAdd, Nat.reduceLeDiff, Nat.zero_le]
  refine c_P_isBus (fun hb => ?_) (fun hb => ?_)
  · try simp only [pb_b_P_holder_18, pb_iconst, pb_null, pb_iload, pb_aload, pb_istore, pb_astore, pb_iinc, pb_bin, pb_bin0, pb_dup, pb_pop, pb_dup2, pb_if, pb_icmp, pb_ifnull, pb_getI, pb_getR, pb_putI, pb_putZ, pb_putR, pb_alen, pb_ald, pb_aldR, pb_ast, pb_astZ, pb_astR, pb_vret, pb_iret, pb_zret, pb_aret, pb_cv, pb_cr, pb_sr, pb_switch, pb_sw, pb_nth, pb_set, pb_tk, pb_add, pb_sub, List.length_cons, List.length_nil, true_or, or_true, true_and, and_true, and_self, pb_up_same, pb_up_f, ne_eq, Nat.reduceEqDiff, not_false_eq_true, Nat.reduceAdd, Nat.reduceLeDiff, Nat.zero_le, is_P.1]
    refine ⟨fun z => by simp at z, fun _ => ⟨fun z => h0 (fun y => absurd y.2.1 (by omega)), fun z => ⟨fun z2 => ?_, fun z2 => h0 (fun y => z2 y.2.2)⟩⟩⟩
    exact c_P_numberHolding h.re hw (h1 ⟨hb, by omega, z2⟩)
  · try simp only [pb_iconst, pb_null, pb_iload, pb_aload, pb_istore, pb_astore, pb_iinc, pb_bin, pb_bin0, pb_dup, pb_pop, pb_dup2, pb_if, pb_icmp, pb_ifnull, pb_getI, pb_getR, pb_putI, pb_putZ, pb_putR, pb_alen, pb_ald, pb_aldR, pb_ast, pb_astZ, pb_astR, pb_vret, pb_iret, pb_zret, pb_aret, pb_cv, pb_cr, pb_sr, pb_switch, pb_sw, pb_nth, pb_set, pb_tk, pb_add, pb_sub, List.length_cons, List.length_nil, true_or, or_true, true_and, and_true, and_self, pb_up_same, pb_up_f, ne_eq, Nat.reduceEqDiff, not_false_eq_true, Nat.reduceAdd, Nat.reduceLeDiff, Nat.zero_le]
    exact ⟨fun _ => h0 (fun y => hb y.1), fun z => by simp at z⟩
theorem l_P_phase {num : Int} (h0 : RC σ T E μ) (hQ : Q (.inl (g_phase E.2.2 num)) σ) : ∀ (d k : Nat), k + d = E.2.2.length → g_phase E.2.2 num = g_phaseK E.2.2 num d k → pb_WJ x i_P_phase 213 Q 2 [some (.inr 0), some (.inl num), some (.inl k)] [] 213 σ := by
  intro d
  obtain ⟨ρ, h⟩ : ∃ ρ, RE σ E ρ σ := ⟨_, h0.re⟩
  have hlen := p_len h
  induction d with
  | zero =>
    intro k hk he
    obtain rfl : k = E.2.2.length := by omega
    refine pb_s_P_phase_2 x 213 Q _ _ _ _ ?_
    simp only [pb_b_P_phase_2, pb_b_P_phase_39, pb_iconst, pb_null, pb_iload, pb_aload, pb_istore, pb_astore, pb_iinc, pb_bin, pb_bin0, pb_dup, pb_pop, pb_dup2, pb_if, pb_icmp, pb_ifnull, pb_getI, pb_getR, pb_putI, pb_putZ, pb_putR, pb_alen, pb_ald, pb_aldR, pb_ast, pb_astZ, pb_astR, pb_vret, pb_iret, pb_zret, pb_aret, pb_cv, pb_cr, pb_sr, pb_switch, pb_sw, pb_nth, pb_set, pb_tk, pb_add, pb_sub, List.length_cons, List.length_nil, true_or, or_true, true_and, and_true, and_self, pb_up_same, pb_up_f, ne_eq, Nat.reduceEqDiff, not_false_eq_true, Nat.reduceAdd, Nat.reduceLeDiff, Nat.zero_le, is_P.1, is_P.2.1, is_P.2.2.1, is_P.2.2.2.1, is_P.2.2.2.2, (p_P h).1, (p_P h).2.1, (p_P h).2.2.1, (p_P h).2.2.2.1, (p_P h).2.2.2.2, p_ref h]
    refine ⟨fun _ => ?_, fun z => absurd z (by omega)⟩
    rw [he] at hQ
    exact hQ
  | succ d ih =>
    intro k hk he
    obtain ⟨f, hf⟩ := g_get (c := E.2.2) (k := k) (by omega)
    have hc := p_call h hf
    have e : pb_w ((k : Int) + 1) = ((k + 1 : Nat) : Int) := by rw [pb_w_id (by unfold pb_R; omega)]; omega
    unfold g_phaseK at he
    rw [hf] at he
    dsimp only at he
    refine pb_s_P_phase_2 x 213 Q _ _ _ _ ?_
    simp only [pb_b_P_phase_2, pb_b_P_phase_33, pb_iconst, pb_null, pb_iload, pb_aload, pb_istore, pb_astore, pb_iinc, pb_bin, pb_bin0, pb_dup, pb_pop, pb_dup2, pb_if, pb_icmp, pb_ifnull, pb_getI, pb_getR, pb_putI, pb_putZ, pb_putR, pb_alen, pb_ald, pb_aldR, pb_ast, pb_astZ, pb_astR, pb_vret, pb_iret, pb_zret, pb_aret, pb_cv, pb_cr, pb_sr, pb_switch, pb_sw, pb_nth, pb_set, pb_tk, pb_add, pb_sub, List.length_cons, List.length_nil, true_or, or_true, true_and, and_true, and_self, pb_up_same, pb_up_f, ne_eq, Nat.reduceEqDiff, not_false_eq_true, Nat.reduceAdd, Nat.reduceLeDiff, Nat.zero_le, is_P.1, is_P.2.1, is_P.2.2.1, is_P.2.2.2.1, is_P.2.2.2.2, (p_P h).1, (p_P h).2.1, (p_P h).2.2.1, (p_P h).2.2.2.1, (p_P h).2.2.2.2, p_ref h, hc.1, q_C hc 602 1 rfl ⟨by decide, by decide⟩, q_C hc 603 2 rfl ⟨by decide, by decide⟩, q_C hc 604 3 rfl ⟨by decide, by decide⟩, q_C hc 605 4 rfl ⟨by decide, by decide⟩, q_C hc 606 5 rfl ⟨by decide, by decide⟩, q_C hc 607 6 rfl ⟨by decide, by decide⟩, q_C hc 608 7 rfl ⟨by decide, by decide⟩, q_C hc 609 8 rfl ⟨by decide, by decide⟩, q_C hc 610 9 rfl ⟨by decide, by decide⟩, q_C hc 611 10 rfl ⟨by decide, by decide⟩, q_C hc 612 11 rfl ⟨by decide, by decide⟩, q_C hc 613 12 rfl ⟨by decide, by decide⟩, e]
    refine ⟨fun z => absurd z (by omega), fun _ => ⟨⟨by omega, by omega⟩, fun z => ih (k + 1) (by omega) (by rw [he, if_neg z]), fun z => ⟨⟨by omega, by omega⟩, ?_⟩⟩⟩
    rw [he, if_pos (Decidable.not_not.mp z)] at hQ
    exact hQ
theorem c_P_phase {num : Int} (h : RC σ T E μ) (hQ : Q (.inl (g_phase E.2.2 num)) σ) : pb_MJ x i_P_phase [.inr 0, .inl num] 213 σ Q := by
  refine pb_m_P_phase ?_
  simp only [pb_b_P_phase_0, pb_iconst, pb_null, pb_iload, pb_aload, pb_istore, pb_astore, pb_iinc, pb_bin, pb_bin0, pb_dup, pb_pop, pb_dup2, pb_if, pb_icmp, pb_ifnull, pb_getI, pb_getR, pb_putI, pb_putZ, pb_putR, pb_alen, pb_ald, pb_aldR, pb_ast, pb_astZ, pb_astR, pb_vret, pb_iret, pb_zret, pb_aret, pb_cv, pb_cr, pb_sr, pb_switch, pb_sw, pb_nth, pb_set, pb_tk, pb_add, pb_sub, List.length_cons, List.length_nil, true_or, or_true, true_and, and_true, and_self, pb_up_same, pb_up_f, ne_eq, Nat.reduceEqDiff, not_false_eq_true, Nat.reduceAdd, Nat.reduceLeDiff, Nat.zero_le]
  exact l_P_phase h hQ _ 0 (Nat.zero_add _) rfl
end PV
