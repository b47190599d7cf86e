/-! an address is dropped -/
section MDR
variable {x : pb_E} {σ σ' : pb_H} {T : gT} {E : gE} {w : gW} {ν : pb_H} {b a s t u : Int} {Q : pb_P} {i : Nat} {f f' g : gC} {n ch : Int} {v : Int → Int}
theorem c_M_isCaller (h : RM σ T E w ν) (hs : 0 ≤ s ∧ s < 4) (h1 : 0 < σ 0 199 s ∧ ¬ σ 0 200 s = 0 ∧ σ 0 201 s = b ∧ σ 0 202 s = a → Q (.inl 1) σ) (h0 : ¬ (0 < σ 0 199 s ∧ ¬ σ 0 200 s = 0 ∧ σ 0 201 s = b ∧ σ 0 202 s = a) → Q (.inl 0) σ) : pb_MJ x i_M_isCaller [.inr 165, .inl s, .inl b, .inl a] 213 σ Q := by
  refine pb_m_M_isCaller ?_
  simp only [pb_b_M_isCaller_0, pb_b_M_isCaller_42, pb_b_M_isCaller_43, pb_iconst, pb_null, pb_iload, pb_aload, pb_istore, pb_astore, pb_iinc, pb_bin, pb_bin0, pb_dup, pb_pop, pb_dup2, pb_if, pb_icmp, pb_ifnull, pb_getI, pb_getR, pb_putI, pb_putZ, pb_putR, pb_alen, pb_ald, pb_aldR, pb_ast, pb_astZ, pb_astR, pb_vret, pb_iret, pb_zret, pb_aret, pb_cv, pb_cr, pb_sr, pb_switch, pb_sw, pb_nth, pb_set, pb_tk, pb_add, pb_sub, List.length_cons, List.length_nil, true_or, or_true, true_and, and_true, and_self, pb_up_same, pb_up_f, ne_eq, Nat.reduceEqDiff, not_false_eq_true, Nat.reduceAdd, Nat.reduceLeDiff, Nat.zero_le, is_M, mf_number h.1, mk_number, ml_number, mf_caller h.1, mk_caller, ml_caller, mf_callerBus h.1, mk_callerBus, ml_callerBus, mf_callerAddress h.1, mk_callerAddress, ml_callerAddress, hs]
  exact ⟨fun z => h0 (by omega), fun z => ⟨fun z2 => h0 (fun y => y.2.1 z2), fun z2 => ⟨fun z3 => h0 (fun y => z3 y.2.2.1), fun z3 => ⟨fun z4 => h0 (fun y => z4 y.2.2.2), fun z4 => h1 ⟨by omega, z2, by omega, by omega⟩⟩⟩⟩⟩
theorem c_M_isCalled (h : RM σ T E w ν) (hs : 0 ≤ s ∧ s < 4) (h64 : 64 ≤ a ∧ a < 68) (h1 : 0 < σ 0 199 s ∧ σ 0 205 s = b ∧ ¬ σ 0 211 (4 * s + (a - 64)) = 0 → Q (.inl 1) σ) (h0 : ¬ (0 < σ 0 199 s ∧ σ 0 205 s = b ∧ ¬ σ 0 211 (4 * s + (a - 64)) = 0) → Q (.inl 0) σ) : pb_MJ x i_M_isCalled [.inr 165, .inl s, .inl b, .inl a] 213 σ Q := by
  have e1 : pb_mul 4 s = 4 * s := by unfold pb_mul; exact pb_w_id (by unfold pb_R; omega)
  have e2 : pb_w (4 * s + a) = 4 * s + a := pb_w_id (by unfold pb_R; omega)
  have e3 : pb_w (4 * s + a - 64) = 4 * s + (a - 64) := by rw [pb_w_id (by unfold pb_R; omega)]; omega
  have hx : 0 ≤ 4 * s + (a - 64) ∧ 4 * s + (a - 64) < 16 := by omega
  refine pb_m_M_isCalled ?_
  simp only [pb_b_M_isCalled_0, pb_b_M_isCalled_39, pb_b_M_isCalled_40, pb_iconst, pb_null, pb_iload, pb_aload, pb_istore, pb_astore, pb_iinc, pb_bin, pb_bin0, pb_dup, pb_pop, pb_dup2, pb_if, pb_icmp, pb_ifnull, pb_getI, pb_getR, pb_putI, pb_putZ, pb_putR, pb_alen, pb_ald, pb_aldR, pb_ast, pb_astZ, pb_astR, pb_vret, pb_iret, pb_zret, pb_aret, pb_cv, pb_cr, pb_sr, pb_switch, pb_sw, pb_nth, pb_set, pb_tk, pb_add, pb_sub, List.length_cons, List.length_nil, true_or, or_true, true_and, and_true, and_self, pb_up_same, pb_up_f, ne_eq, Nat.reduceEqDiff, not_false_eq_true, Nat.reduceAdd, Nat.reduceLeDiff, Nat.zero_le, is_M, mf_number h.1, mk_number, ml_number, mf_calledBus h.1, mk_calledBus, ml_calledBus, mf_leg h.1, mk_leg, ml_leg, hs, e1, e2, e3, hx]
  exact ⟨fun z => h0 (by omega), fun z => ⟨fun z2 => h0 (fun y => z2 y.2.1), fun z2 => ⟨fun z3 => h0 (fun y => y.2.2 z3), fun z3 => h1 ⟨by omega, by omega, z3⟩⟩⟩⟩
/-- of a call that keeps its slot -/
theorem m_caller (h1 : rm_1 σ s f) (hn : 0 < f 1) : (0 < σ 0 199 s ∧ ¬ σ 0 200 s = 0 ∧ σ 0 201 s = b ∧ σ 0 202 s = a) ↔ (¬ f 9 = 0 ∧ f 5 = b ∧ f 6 = a) := by
  rw [h1.1, h1.2.1, h1.2.2.1, h1.2.2.2.1]
  have e : ¬ g_cc (f 9) = 0 ↔ ¬ f 9 = 0 := not_congr g_cc_0
  rw [e]
  exact ⟨fun y => y.2, fun y => ⟨hn, y⟩⟩
theorem m_leg (h1 : rm_1 σ s f) (h64 : 64 ≤ a ∧ a < 68) : σ 0 211 (4 * s + (a - 64)) = g_lc (g_leg f a) := by
  unfold g_leg
  rw [if_pos h64]
  have e : a - 64 = ((a - 64).toNat : Int) := by omega
  have := h1.2.2.2.2.2.2.2.2.2.2.2.2 (a - 64).toNat (by omega)
  rw [← e] at this
  exact this
theorem m_called (h1 : rm_1 σ s f) (hn : 0 < f 1) (h64 : 64 ≤ a ∧ a < 68) : (0 < σ 0 199 s ∧ σ 0 205 s = b ∧ ¬ σ 0 211 (4 * s + (a - 64)) = 0) ↔ (f 10 = b ∧ ¬ g_leg f a = 0) := by
  rw [m_leg h1 h64, h1.1, h1.2.2.2.2.2.2.1]
  have e : ¬ g_lc (g_leg f a) = 0 ↔ ¬ g_leg f a = 0 := not_congr g_lc_0
  rw [e]
  exact ⟨fun y => y.2, fun y => ⟨hn, y⟩⟩
theorem rm_forget (h : RM σ T E (v, fun _ => False) ν) : RM σ T (ge_forget E) (v, fun _ => False) ν := by
  obtain ⟨m1, m2, m3, m4, m5, m6, m7, ⟨c1, c2, c3, c4⟩, m9⟩ := h
  have hm : ∀ f, f ∈ E.2.2.filter g_alive → f ∈ E.2.2 := fun f hf => (List.mem_filter.mp hf).1
  refine ⟨m1, m2, m3, m4, m5, m6, m7, ⟨fun f hf hh => c1 f (hm f hf) hh, fun f hf g hg h1 h2 q => c2 f (hm f hf) g (hm g hg) h1 h2 q, fun s q1 q2 q3 => c3 s q1 q2 (fun f hf hh => ?_), c4⟩, m9⟩
  rcases hh with hh | hh
  · exact q3 f (List.mem_filter.mpr ⟨hf, hh⟩) (Or.inl hh)
  · exact absurd hh id
/-- the frames to a dropped address go -/
theorem l_M_drop2 {l : List gF} {nn : Int} (hb : 0 ≤ b ∧ b < 2) (hl : l.length ≤ 24) (hQ : ∀ σ', RM σ' T (ge_row E b (l.filter (g_keep a))) w ν → Q (.inl 0) σ') : ∀ (q : Nat), q ≤ l.length → ∀ (σ : pb_H), RM σ T (ge_row E b (l.take q ++ (l.drop q).filter (g_keep a))) w ν → pb_WJ x i_M_drop 213 Q 109 [some (.inr 165), some (.inl b), some (.inl a), some (.inl nn), some (.inl ((q : Int) - 1))] [] 213 σ := by
  intro q
  induction q with
  | zero =>
    intro _ σ h
    refine pb_s_M_drop_109 x 213 Q _ _ _ _ ?_
    simp only [pb_b_M_drop_109, pb_b_M_drop_160, pb_iconst, pb_null, pb_iload, pb_aload, pb_istore, pb_astore, pb_iinc, pb_bin, pb_bin0, pb_dup, pb_pop, pb_dup2, pb_if, pb_icmp, pb_ifnull, pb_getI, pb_getR, pb_putI, pb_putZ, pb_putR, pb_alen, pb_ald, pb_aldR, pb_ast, pb_astZ, pb_astR, pb_vret, pb_iret, pb_zret, pb_aret, pb_cv, pb_cr, pb_sr, pb_switch, pb_sw, pb_nth, pb_set, pb_tk, pb_add, pb_sub, List.length_cons, List.length_nil, true_or, or_true, true_and, and_true, and_self, pb_up_same, pb_up_f, ne_eq, Nat.reduceEqDiff, not_false_eq_true, Nat.reduceAdd, Nat.reduceLeDiff, Nat.zero_le]
    refine ⟨fun _ => hQ _ h, fun z => absurd z (by omega)⟩
  | succ q ih =>
    intro hq σ h
    have hx : ((q + 1 : Nat) : Int) - 1 = q := by omega
    rw [hx]
    have hg : l[q]? = some l[q] := List.getElem?_eq_getElem (by omega)
    have hrow : (ge_row E b (l.take (q + 1) ++ (l.drop (q + 1)).filter (g_keep a))).2.1 b = l.take (q + 1) ++ (l.drop (q + 1)).filter (g_keep a) := u_up_s _ _ _
    have ht : (l.take (q + 1)).length = q + 1 := by rw [List.length_take]; omega
    have hat : (l.take (q + 1) ++ (l.drop (q + 1)).filter (g_keep a))[q]? = some l[q] := by
      rw [List.getElem?_append_left (by omega), List.getElem?_take, if_pos (by omega), hg]
    obtain ⟨l1, l2, l3⟩ := h.2.2.2.1 b hb.1 hb.2
    rw [hrow] at l1 l2 l3
    have r := l3 q _ hat
    have e0 : pb_mul 24 b = 24 * b := by unfold pb_mul; exact pb_w_id (by unfold pb_R; omega)
    have e1 : pb_w (24 * b + (q : Int)) = 24 * b + q := pb_w_id (by unfold pb_R; omega)
    have e2 : pb_w ((q : Int) + -1) = (q : Int) - 1 := by rw [pb_w_id (by unfold pb_R; omega)]; omega
    have hi : 0 ≤ 24 * b + (q : Int) ∧ 24 * b + (q : Int) < 48 := by omega
    have hd : l.drop q = l[q] :: l.drop (q + 1) := List.drop_eq_getElem_cons (by omega)
    have htk : l.take (q + 1) = l.take q ++ [l[q]] := by rw [List.take_succ, hg]; rfl
    have keep : g_keep a l[q] = true → pb_WJ x i_M_drop 213 Q 109 [some (.inr 165), some (.inl b), some (.inl a), some (.inl nn), some (.inl ((q : Int) - 1))] [] 213 σ := by
      intro y
      refine ih (by omega) σ ?_
      rw [hd, List.filter_cons_of_pos y]
      rw [htk, List.append_assoc] at h
      exact h
    refine pb_s_M_drop_109 x 213 Q _ _ _ _ ?_
    simp only [pb_b_M_drop_109, pb_b_M_drop_154, pb_iconst, pb_null, pb_iload, pb_aload, pb_istore, pb_astore, pb_iinc, pb_bin, pb_bin0, pb_dup, pb_pop, pb_dup2, pb_if, pb_icmp, pb_ifnull, pb_getI, pb_getR, pb_putI, pb_putZ, pb_putR, pb_alen, pb_ald, pb_aldR, pb_ast, pb_astZ, pb_astR, pb_vret, pb_iret, pb_zret, pb_aret, pb_cv, pb_cr, pb_sr, pb_switch, pb_sw, pb_nth, pb_set, pb_tk, pb_add, pb_sub, List.length_cons, List.length_nil, true_or, or_true, true_and, and_true, and_self, pb_up_same, pb_up_f, ne_eq, Nat.reduceEqDiff, not_false_eq_true, Nat.reduceAdd, Nat.reduceLeDiff, Nat.zero_le, is_M, mf_downKind h.1, mk_downKind, ml_downKind, mf_downTo h.1, mk_downTo, ml_downTo, e0, e1, e2, hi, r.1, r.2.1]
    refine ⟨fun z => absurd z (by omega), fun _ => ⟨fun z => keep (by unfold g_keep; rw [decide_eq_true (show ¬ l[q].1 ≤ 6 by omega)]; rfl), fun z => ⟨fun z2 => keep (by unfold g_keep; rw [decide_eq_true (show ¬ l[q].2.1 = a from z2), Bool.or_true]), fun z2 => ?_⟩⟩⟩
    refine c_M_downGone (k := q) h hb (by rw [hrow, List.length_append, ht]; omega) (fun σ1 h1 => ?_)
    try simp only [pb_iconst, pb_null, pb_iload, pb_aload, pb_istore, pb_astore, pb_iinc, pb_bin, pb_bin0, pb_dup, pb_pop, pb_dup2, pb_if, pb_icmp, pb_ifnull, pb_getI, pb_getR, pb_putI, pb_putZ, pb_putR, pb_alen, pb_ald, pb_aldR, pb_ast, pb_astZ, pb_astR, pb_vret, pb_iret, pb_zret, pb_aret, pb_cv, pb_cr, pb_sr, pb_switch, pb_sw, pb_nth, pb_set, pb_tk, pb_add, pb_sub, List.length_cons, List.length_nil, true_or, or_true, true_and, and_true, and_self, pb_up_same, pb_up_f, ne_eq, Nat.reduceEqDiff, not_false_eq_true, Nat.reduceAdd, Nat.reduceLeDiff, Nat.zero_le, e2]
    refine ih (by omega) σ1 ?_
    have e3 : ((ge_row E b (l.take (q + 1) ++ (l.drop (q + 1)).filter (g_keep a))).2.1 b).eraseIdx q = l.take q ++ (l.drop q).filter (g_keep a) := by
      rw [hrow, hd, List.filter_cons_of_neg (by unfold g_keep; rw [decide_eq_false (show ¬ ¬ l[q].1 ≤ 6 by omega), decide_eq_false z2]; decide), htk, List.append_assoc, List.eraseIdx_append_of_length_le (by rw [List.length_take]; omega)]
      rw [List.length_take, show q - min q l.length = 0 by omega]
      rfl
    rw [e3] at h1
    have e4 : ∀ l1 l2 : List gF, ge_row (ge_row E b l1) b l2 = ge_row E b l2 := by
      intro l1 l2
      unfold ge_row
      congr 2
      funext t'
      unfold u_up
      dsimp only
      split <;> rfl
    rw [e4] at h1
    exact h1
end MDR
