/-! clocks of the other side -/
section MCL
variable {x : pb_E} {σ σ' : pb_H} {T : gT} {E : gE} {w : gW} {ν : pb_H} {b a s t u r : Int} {Q : pb_P} {i : Nat} {n : Int} {v : Int → Int} {m : Nat} {f : gC}
theorem l_M_retry {l : List gF} {d : Int} (ht : 0 ≤ t ∧ t < 8) (hl : l.length ≤ 8) (h7 : ∀ f ∈ l, f.1 = 7) (hd : T.1 5 t = d) (hQ : ∀ σ', RM σ' (gt_set (gt_put (gt_row T t []) t (7, 0, 0, d, 0)) 6 t 8) E w ν → Q (.inl 0) σ') : ∀ (q : Nat), q ≤ l.length → ∀ (σ : pb_H), RM σ (gt_row T t (l.take q)) E w ν → pb_WJ x i_M_retry 213 Q 26 [some (.inr 165), some (.inl t), some (.inl ((q : Int) - 1))] [] 213 σ := by
  intro q
  induction q with
  | zero =>
    intro _ σ h
    have a5 := m_T h 168 5 rfl ⟨by decide, by decide⟩ ht (Or.inr (by unfold g_mu; decide))
    rw [show (gt_row T t (l.take 0)).1 5 t = d from hd] at a5
    refine pb_s_M_retry_26 x 213 Q _ _ _ _ ?_
    simp only [pb_b_M_retry_26, pb_b_M_retry_58, pb_iconst, pb_null, pb_iload, pb_aload, pb_istore, pb_astore, pb_iinc, pb_bin, pb_bin0, pb_dup, pb_pop, pb_dup2, pb_if, pb_icmp, pb_ifnull, pb_getI, pb_getR, pb_putI, pb_putZ, pb_putR, pb_alen, pb_ald, pb_aldR, pb_ast, pb_astZ, pb_astR, pb_vret, pb_iret, pb_zret, pb_aret, pb_cv, pb_cr, pb_sr, pb_switch, pb_sw, pb_nth, pb_set, pb_tk, pb_add, pb_sub, List.length_cons, List.length_nil, true_or, or_true, true_and, and_true, and_self, pb_up_same, pb_up_f, ne_eq, Nat.reduceEqDiff, not_false_eq_true, Nat.reduceAdd, Nat.reduceLeDiff, Nat.zero_le, is_M, mf_draw h.1, mk_draw, ml_draw, ht, a5]
    refine ⟨fun _ => ?_, fun z => absurd z (by omega)⟩
    refine c_M_up (a := 0) h ht (fun σ1 h1 => ?_)
    try simp only [pb_iconst, pb_null, pb_iload, pb_aload, pb_istore, pb_astore, pb_iinc, pb_bin, pb_bin0, pb_dup, pb_pop, pb_dup2, pb_if, pb_icmp, pb_ifnull, pb_getI, pb_getR, pb_putI, pb_putZ, pb_putR, pb_alen, pb_ald, pb_aldR, pb_ast, pb_astZ, pb_astR, pb_vret, pb_iret, pb_zret, pb_aret, pb_cv, pb_cr, pb_sr, pb_switch, pb_sw, pb_nth, pb_set, pb_tk, pb_add, pb_sub, List.length_cons, List.length_nil, true_or, or_true, true_and, and_true, and_self, pb_up_same, pb_up_f, ne_eq, Nat.reduceEqDiff, not_false_eq_true, Nat.reduceAdd, Nat.reduceLeDiff, Nat.zero_le, is_M, mf_patience h1.1, mk_patience, ml_patience, ht]
    exact hQ _ (rm_upT h1 177 6 rfl ⟨by decide, by decide⟩)
  | succ q ih =>
    intro hq σ h
    rw [show ((q + 1 : Nat) : Int) - 1 = q by omega]
    have hg : l[q]? = some l[q] := List.getElem?_eq_getElem (by omega)
    have hrow : (gt_row T t (l.take (q + 1))).2 t = l.take (q + 1) := u_up_s _ _ _
    have htl : (l.take (q + 1)).length = q + 1 := by rw [List.length_take]; omega
    have hat : (l.take (q + 1))[q]? = some l[q] := by
      rw [List.getElem?_take, if_pos (by omega), hg]
    obtain ⟨l1, l2, l3⟩ := h.2.2.1 t ht.1 ht.2
    rw [hrow] at l1 l2 l3
    have rr := l3 q _ hat
    have k7 : l[q].1 = 7 := h7 _ (List.getElem_mem _)
    have e0 : pb_mul 8 t = 8 * t := by unfold pb_mul; exact pb_w_id (by unfold pb_R; omega)
    have e1 : pb_w (8 * t + (q : Int)) = 8 * t + q := pb_w_id (by unfold pb_R; omega)
    have e2 : pb_w ((q : Int) + -1) = (q : Int) - 1 := by rw [pb_w_id (by unfold pb_R; omega)]; omega
    have hi : 0 ≤ 8 * t + (q : Int) ∧ 8 * t + (q : Int) < 64 := by omega
    refine pb_s_M_retry_26 x 213 Q _ _ _ _ ?_
    simp only [pb_b_M_retry_26, pb_b_M_retry_52, pb_iconst, pb_null, pb_iload, pb_aload, pb_istore, pb_astore, pb_iinc, pb_bin, pb_bin0, pb_dup, pb_pop, pb_dup2, pb_if, pb_icmp, pb_ifnull, pb_getI, pb_getR, pb_putI, pb_putZ, pb_putR, pb_alen, pb_ald, pb_aldR, pb_ast, pb_astZ, pb_astR, pb_vret, pb_iret, pb_zret, pb_aret, pb_cv, pb_cr, pb_sr, pb_switch, pb_sw, pb_nth, pb_set, pb_tk, pb_add, pb_sub, List.length_cons, List.length_nil, true_or, or_true, true_and, and_true, and_self, pb_up_same, pb_up_f, ne_eq, Nat.reduceEqDiff, not_false_eq_true, Nat.reduceAdd, Nat.reduceLeDiff, Nat.zero_le, is_M, mf_kind h.1, mk_kind, ml_kind, e0, e1, e2, hi, rr.1, k7]
    refine ⟨fun z => absurd z (by omega), fun _ => ⟨fun z => absurd trivial z, fun _ => ?_⟩⟩
    refine c_M_upGone (k := q) h ht (by rw [hrow, htl]; omega) (fun σ1 h1 => ?_)
    try simp only [pb_iconst, pb_null, pb_iload, pb_aload, pb_istore, pb_astore, pb_iinc, pb_bin, pb_bin0, pb_dup, pb_pop, pb_dup2, pb_if, pb_icmp, pb_ifnull, pb_getI, pb_getR, pb_putI, pb_putZ, pb_putR, pb_alen, pb_ald, pb_aldR, pb_ast, pb_astZ, pb_astR, pb_vret, pb_iret, pb_zret, pb_aret, pb_cv, pb_cr, pb_sr, pb_switch, pb_sw, pb_nth, pb_set, pb_tk, pb_add, pb_sub, List.length_cons, List.length_nil, true_or, or_true, true_and, and_true, and_self, pb_up_same, pb_up_f, ne_eq, Nat.reduceEqDiff, not_false_eq_true, Nat.reduceAdd, Nat.reduceLeDiff, Nat.zero_le, e2]
    refine ih (by omega) σ1 ?_
    have e3 : ((gt_row T t (l.take (q + 1))).2 t).eraseIdx q = l.take q := by
      rw [hrow, List.take_succ, hg]
      show (l.take q ++ [l[q]]).eraseIdx q = _
      rw [List.eraseIdx_append_of_length_le (by rw [List.length_take]; omega), List.length_take, show q - min q l.length = 0 by omega]
      show l.take q ++ [] = _
      rw [List.append_nil]
    rw [e3] at h1
    have e4 : ∀ l1 l2 : List gF, gt_row (gt_row T t l1) t l2 = gt_row T t l2 := by
      intro l1 l2
      unfold gt_row
      refine Prod.ext rfl (funext fun t' => ?_)
      show u_up (u_up T.2 t l1) t l2 t' = u_up T.2 t l2 t'
      unfold u_up
      split <;> rfl
    rw [e4] at h1
    exact h1
theorem c_M_retry (h : RM σ T E w ν) (ht : 0 ≤ t ∧ t < 8) (h4 : T.1 4 t = 0) (h7 : T.1 7 t = 0) (h9 : T.1 9 t = -1) (hr : ∀ f ∈ T.2 t, f.1 = 7) (hQ : ∀ σ', RM σ' (gt_next T t) E w ν → Q (.inl 0) σ') : pb_MJ x i_M_retry [.inr 165, .inl t] 213 σ Q := by
  have a5 := m_T h 168 5 rfl ⟨by decide, by decide⟩ ht (Or.inr (by unfold g_mu; decide))
  obtain ⟨l1, l2, l3⟩ := h.2.2.1 t ht.1 ht.2
  have e2 : pb_w (((T.2 t).length : Int) - 1) = ((T.2 t).length : Int) - 1 := pb_w_id (by unfold pb_R; omega)
  have h1 := rm_upT (t := t) (v := pb_rem (pb_w (T.1 5 t + 1)) 16) h 168 5 rfl ⟨by decide, by decide⟩
  refine pb_m_M_retry ?_
  simp only [pb_b_M_retry_0, pb_iconst, pb_null, pb_iload, pb_aload, pb_istore, pb_astore, pb_iinc, pb_bin, pb_bin0, pb_dup, pb_pop, pb_dup2, pb_if, pb_icmp, pb_ifnull, pb_getI, pb_getR, pb_putI, pb_putZ, pb_putR, pb_alen, pb_ald, pb_aldR, pb_ast, pb_astZ, pb_astR, pb_vret, pb_iret, pb_zret, pb_aret, pb_cv, pb_cr, pb_sr, pb_switch, pb_sw, pb_nth, pb_set, pb_tk, pb_add, pb_sub, List.length_cons, List.length_nil, true_or, or_true, true_and, and_true, and_self, pb_up_same, pb_up_f, ne_eq, Nat.reduceEqDiff, not_false_eq_true, Nat.reduceAdd, Nat.reduceLeDiff, Nat.zero_le, is_M, mf_draw h.1, mk_draw, ml_draw, mf_length h.1, mk_length, ml_length, ht, a5, l1, e2, pb_up_p, Int.reduceEq]
  refine l_M_retry (E := E) (w := w) (ν := ν) (T := gt_set T 5 t (pb_rem (pb_w (T.1 5 t + 1)) 16)) (l := T.2 t) (d := pb_rem (pb_w (T.1 5 t + 1)) 16) ht l2 hr (g_up_s _ _ _ _) (fun σ' h2 => hQ _ ?_) (T.2 t).length (Nat.le_refl _) _ ?_
  · refine rm_ag h2 (fun t' => ?_)
    by_cases z : t' = t
    · subst z
      obtain ⟨e4, e7, e9, e6, er, ek⟩ := gt_over_at (T := T) (t := t') (d := pb_rem (pb_w (T.1 5 t' + 1)) 16)
      refine ⟨fun k => ?_, ?_⟩
      · show _ = (gt_over T t' (pb_rem (pb_w (T.1 5 t' + 1)) 16)).1 k t'
        by_cases z4 : k = 4
        · subst z4
          rw [e4, gt_set_k (by decide)]
          show (gt_set T 5 t' (pb_rem (pb_w (T.1 5 t' + 1)) 16)).1 4 t' = 0
          rw [gt_set_k (by decide)]
          exact h4
        · by_cases z7 : k = 7
          · subst z7
            rw [e7, gt_set_k (by decide)]
            show (gt_set T 5 t' (pb_rem (pb_w (T.1 5 t' + 1)) 16)).1 7 t' = 0
            rw [gt_set_k (by decide)]
            exact h7
          · by_cases z9 : k = 9
            · subst z9
              rw [e9, gt_set_k (by decide)]
              show (gt_set T 5 t' (pb_rem (pb_w (T.1 5 t' + 1)) 16)).1 9 t' = -1
              rw [gt_set_k (by decide)]
              exact h9
            · by_cases z6 : k = 6
              · subst z6
                rw [e6]
                exact g_up_s _ _ _ _
              · rw [gt_set_k z6]
                by_cases z5 : k = 5
                · subst z5
                  show (gt_set T 5 t' (pb_rem (pb_w (T.1 5 t' + 1)) 16)).1 5 t' = (gt_over T t' (pb_rem (pb_w (T.1 5 t' + 1)) 16)).1 5 t'
                  rw [show (gt_set T 5 t' (pb_rem (pb_w (T.1 5 t' + 1)) 16)).1 5 t' = pb_rem (pb_w (T.1 5 t' + 1)) 16 from g_up_s _ _ _ _]
                  simp [gt_over, gt_null, gt_put, gt_row, gt_set, g_up]
                · rw [ek k z4 z5 z6 z7 z9]
                  exact gt_set_k z5
      · show _ = (gt_over T t' (pb_rem (pb_w (T.1 5 t' + 1)) 16)).2 t'
        rw [er]
        simp [gt_put, gt_row, gt_set, u_up, s_put]
    · exact ((g_off_set 6 t' z).tr ((g_off_put t' z).tr ((g_off_row t' z).tr (g_off_set 5 t' z)))).tr (g_ag.sy ⟨(gt_next_l z).1, (gt_next_l z).2⟩)
  · rw [List.take_length]
    have e : gt_row (gt_set T 5 t (pb_rem (pb_w (T.1 5 t + 1)) 16)) t (T.2 t) = gt_set T 5 t (pb_rem (pb_w (T.1 5 t + 1)) 16) := by
      unfold gt_row
      refine Prod.ext rfl (funext fun t' => ?_)
      show u_up T.2 t (T.2 t) t' = T.2 t'
      unfold u_up
      split
      · rename_i z; rw [z]
      · rfl
    rw [e]
    exact h1
def ge_aud2 (E : gE) (b a r : Int) : gE := if r ≤ 1 then (if r = 1 then E else ge_drop E b a) else ge_drop (ge_put E b (10, a, 0, 0, 0)) b a
theorem c_M_audited (h : RM σ T E (v, fun _ => False) ν) (hb : 0 ≤ b ∧ b < 2) (h64 : 64 ≤ a ∧ a < 68) (hN : g_num E.2.2) (hw : g_cws E.2.2) (hQ : ∀ σ', RM σ' T (ge_aud2 E b a r) (v, fun _ => False) ν → Q (.inl 0) σ') : pb_MJ x i_M_audited [.inr 165, .inl b, .inl a, .inl r] 213 σ Q := by
  unfold ge_aud2 at hQ
  refine pb_m_M_audited ?_
  simp only [pb_b_M_audited_0, pb_b_M_audited_15, pb_b_M_audited_26, pb_iconst, pb_null, pb_iload, pb_aload, pb_istore, pb_astore, pb_iinc, pb_bin, pb_bin0, pb_dup, pb_pop, pb_dup2, pb_if, pb_icmp, pb_ifnull, pb_getI, pb_getR, pb_putI, pb_putZ, pb_putR, pb_alen, pb_ald, pb_aldR, pb_ast, pb_astZ, pb_astR, pb_vret, pb_iret, pb_zret, pb_aret, pb_cv, pb_cr, pb_sr, pb_switch, pb_sw, pb_nth, pb_set, pb_tk, pb_add, pb_sub, List.length_cons, List.length_nil, true_or, or_true, true_and, and_true, and_self, pb_up_same, pb_up_f, ne_eq, Nat.reduceEqDiff, not_false_eq_true, Nat.reduceAdd, Nat.reduceLeDiff, Nat.zero_le, is_M]
  refine ⟨fun z => ⟨fun z2 => ?_, fun z2 => ?_⟩, fun z => ?_⟩
  · rw [if_pos z, if_pos z2] at hQ
    exact hQ _ h
  · rw [if_pos z, if_neg z2] at hQ
    exact c_M_drop h hb h64 hN hw hQ
  · rw [if_neg z] at hQ
    refine c_M_down h hb (fun σ1 h1 => ?_)
    try simp only [pb_iconst, pb_null, pb_iload, pb_aload, pb_istore, pb_astore, pb_iinc, pb_bin, pb_bin0, pb_dup, pb_pop, pb_dup2, pb_if, pb_icmp, pb_ifnull, pb_getI, pb_getR, pb_putI, pb_putZ, pb_putR, pb_alen, pb_ald, pb_aldR, pb_ast, pb_astZ, pb_astR, pb_vret, pb_iret, pb_zret, pb_aret, pb_cv, pb_cr, pb_sr, pb_switch, pb_sw, pb_nth, pb_set, pb_tk, pb_add, pb_sub, List.length_cons, List.length_nil, true_or, or_true, true_and, and_true, and_self, pb_up_same, pb_up_f, ne_eq, Nat.reduceEqDiff, not_false_eq_true, Nat.reduceAdd, Nat.reduceLeDiff, Nat.zero_le, is_M]
    exact ⟨fun z2 => absurd z2 (by omega), fun _ => c_M_drop h1 hb h64 hN hw hQ⟩
def ge_late (E : gE) (i : Nat) (f : gC) : gE := if f 2 = 2 then ge_end E i 9 else if ¬ f 4 = 0 then ge_end E i 8 else ge_put (ge_cset (ge_cset E i (c_up f 4 1)) i (c_up (c_up f 4 1) 3 10)) (f 10) (12, 0, pb_mul 2 (f 1), f 11, 0)
theorem c_M_late (h : RM σ T E w ν) (hN : g_num E.2.2) (hi : E.2.2[i]? = some f) (hh : w.2 (f 1)) (h5 : 0 ≤ f 5 ∧ f 5 < 2) (h10 : 0 ≤ f 10 ∧ f 10 < 2) (hQ : ∀ σ', RM σ' T (ge_late E i f) w ν → Q (.inl 0) σ') : pb_MJ x i_M_late [.inr 165, .inl (w.1 (f 1))] 213 σ Q := by
  have r1 := r_1 h hi (Or.inr hh)
  have hs := r1.1
  have ap := r1.2.2.2.2.2.2.2.2.2.1
  have ag := r1.2.2.2.2.2.2.2.2.2.2.2.1
  unfold ge_late at hQ
  have h2 := rm_upAg (v := 1) (u := 1) h hN hi hh rfl
  have hN2 : g_num (ge_cset E i (c_up f 4 1)).2.2 := hN.set hi rfl
  have h3 := rm_upCk (i := i) (f := c_up f 4 1) (v := 10) (u := 10) h2 hN2 (cs_at hi) hh rfl
  refine pb_m_M_late ?_
  simp only [pb_b_M_late_0, pb_b_M_late_19, pb_b_M_late_36, pb_b_M_late_38, pb_b_M_late_42, pb_iconst, pb_null, pb_iload, pb_aload, pb_istore, pb_astore, pb_iinc, pb_bin, pb_bin0, pb_dup, pb_pop, pb_dup2, pb_if, pb_icmp, pb_ifnull, pb_getI, pb_getR, pb_putI, pb_putZ, pb_putR, pb_alen, pb_ald, pb_aldR, pb_ast, pb_astZ, pb_astR, pb_vret, pb_iret, pb_zret, pb_aret, pb_cv, pb_cr, pb_sr, pb_switch, pb_sw, pb_nth, pb_set, pb_tk, pb_add, pb_sub, List.length_cons, List.length_nil, true_or, or_true, true_and, and_true, and_self, pb_up_same, pb_up_f, ne_eq, Nat.reduceEqDiff, not_false_eq_true, Nat.reduceAdd, Nat.reduceLeDiff, Nat.zero_le, is_M, mf_phase h.1, mk_phase, ml_phase, mf_again h.1, mk_again, ml_again, mf_clock h.1, mk_clock, ml_clock, mf_calledBus h.1, mk_calledBus, ml_calledBus, mf_number h.1, mk_number, ml_number, mf_calledChannel h.1, mk_calledChannel, ml_calledChannel, hs, ap, ag, r1.2.1, r1.2.2.2.2.2.2.2.1, r1.2.2.2.2.2.2.2.2.1, pb_up_p, Int.reduceEq]
  refine ⟨fun z => ⟨fun z2 => absurd z z2, fun _ => ?_⟩, fun z => ⟨fun z2 => ?_, fun z2 => ⟨fun _ => ?_, fun z3 => absurd (Decidable.not_not.mp z3) z⟩⟩⟩
  · rw [if_pos z] at hQ
    exact c_M_ends h hN hi hh h5 h10 hQ
  · rw [if_neg z, if_neg (fun y => y z2)] at hQ
    exact c_M_down h3 h10 hQ
  · rw [if_neg z, if_pos z2] at hQ
    exact c_M_ends h hN hi hh h5 h10 hQ
end MCL
