/-! a row of a terminal becomes another -/
section MS
variable {x : pb_E} {σ σ' : pb_H} {T : gT} {E : gE} {w : gW} {ν : pb_H} {b s t : Int} {Q : pb_P}
theorem rm_rowU {l : List gF} (h : RM σ T E w ν) (e : ∀ f p i, ¬ (f = 0 ∧ 181 ≤ p ∧ p ≤ 185) → σ' f p i = σ f p i) (e1 : ∀ t', t' ≠ t → σ' 0 181 t' = σ 0 181 t') (e2 : ∀ p i, 182 ≤ p → p ≤ 185 → ¬ (8 * t ≤ i ∧ i < 8 * t + 8) → σ' 0 p i = σ 0 p i) (hl : l.length ≤ 8) (h1 : σ' 0 181 t = l.length) (h2 : ∀ (i : Nat) (f : gF), l[i]? = some f → σ' 0 182 (8 * t + i) = f.1 ∧ σ' 0 183 (8 * t + i) = f.2.2.1 ∧ σ' 0 184 (8 * t + i) = f.2.2.2.1 ∧ σ' 0 185 (8 * t + i) = f.2.2.2.2) : RM σ' (gt_row T t l) E w ν := by
  obtain ⟨m1, m2, m3, m4, m5, m6, m7, m8, m9⟩ := h
  refine ⟨m1.cg (fun f i q1 q2 => e _ _ _ (by omega)), m2.cg (fun p i q1 q2 => e _ _ _ (by omega)), fun t' q1 q2 => ?_, m4.cg (fun p i q1 q2 => e _ _ _ (by omega)), m5.cg (fun p i q1 q2 => e _ _ _ (by omega)), m6.cg (fun p i q1 q2 => e _ _ _ (by omega)), m7.cg (fun f q => e _ _ _ (by omega)), m8.cg (fun p i q1 q2 => e _ _ _ (by omega)), fun f p i hk => ?_⟩
  · by_cases z : t' = t
    · subst z
      rw [show (gt_row T t' l).2 t' = l from by show u_up T.2 t' l t' = l; simp [u_up]]
      exact ⟨h1, hl, h2⟩
    · rw [show (gt_row T t l).2 t' = T.2 t' from by show u_up T.2 t l t' = T.2 t'; simp [u_up, z]]
      obtain ⟨a1, a2, a3⟩ := m3 t' q1 q2
      refine ⟨by rw [e1 t' z]; exact a1, a2, fun i f hi => ?_⟩
      have := (List.getElem?_eq_some_iff.mp hi).1
      rw [e2 _ _ (by omega) (by omega) (by omega), e2 _ _ (by omega) (by omega) (by omega), e2 _ _ (by omega) (by omega) (by omega), e2 _ _ (by omega) (by omega) (by omega)]
      exact a3 i f hi
  · rw [e _ _ _ (fun y => hk (by unfold k_K; omega))]
    exact m9 f p i hk
theorem c_M_up {k a r v : Int} (h : RM σ T E w ν) (ht : 0 ≤ t ∧ t < 8) (hQ : ∀ σ', RM σ' (gt_put T t (k, a, r, v, 0)) E w ν → Q (.inl 0) σ') : pb_MJ x i_M_up [.inr 165, .inl t, .inl k, .inl r, .inl v] 213 σ Q := by
  refine pb_m_M_up ?_
  obtain ⟨l1, l2, l3⟩ := h.2.2.1 t ht.1 ht.2
  simp only [pb_b_M_up_0, pb_iconst, pb_null, pb_iload, pb_aload, pb_istore, pb_astore, pb_iinc, pb_bin, pb_bin0, pb_dup, pb_pop, pb_dup2, pb_if, pb_icmp, pb_ifnull, pb_getI, pb_getR, pb_putI, pb_putZ, pb_putR, pb_alen, pb_ald, pb_aldR, pb_ast, pb_astZ, pb_astR, pb_vret, pb_iret, pb_zret, pb_aret, pb_cv, pb_cr, pb_sr, pb_switch, pb_sw, pb_nth, pb_set, pb_tk, pb_add, pb_sub, List.length_cons, List.length_nil, true_or, or_true, true_and, and_true, and_self, pb_up_same, pb_up_f, ne_eq, Nat.reduceEqDiff, not_false_eq_true, Nat.reduceAdd, Nat.reduceLeDiff, Nat.zero_le, is_M, mf_length h.1, mk_length, ml_length, l1]
  refine ⟨by omega, fun z => ?_, fun z => hQ _ ?_⟩
  · have e0 : pb_mul 8 t = 8 * t := by unfold pb_mul; exact pb_w_id (by unfold pb_R; omega)
    have e1 : pb_w (8 * t + (T.2 t).length) = 8 * t + (T.2 t).length := pb_w_id (by unfold pb_R; omega)
    have e2 : pb_w (((T.2 t).length : Int) + 1) = (T.2 t).length + 1 := pb_w_id (by unfold pb_R; omega)
    simp only [pb_b_M_up_12, pb_iconst, pb_null, pb_iload, pb_aload, pb_istore, pb_astore, pb_iinc, pb_bin, pb_bin0, pb_dup, pb_pop, pb_dup2, pb_if, pb_icmp, pb_ifnull, pb_getI, pb_getR, pb_putI, pb_putZ, pb_putR, pb_alen, pb_ald, pb_aldR, pb_ast, pb_astZ, pb_astR, pb_vret, pb_iret, pb_zret, pb_aret, pb_cv, pb_cr, pb_sr, pb_switch, pb_sw, pb_nth, pb_set, pb_tk, pb_add, pb_sub, List.length_cons, List.length_nil, true_or, or_true, true_and, and_true, and_self, pb_up_same, pb_up_f, ne_eq, Nat.reduceEqDiff, not_false_eq_true, Nat.reduceAdd, Nat.reduceLeDiff, Nat.zero_le, is_M, mf_length h.1, mk_length, ml_length, mf_kind h.1, mk_kind, ml_kind, mf_reference h.1, mk_reference, ml_reference, mf_value h.1, mk_value, ml_value, mf_failed h.1, mk_failed, ml_failed, l1, e0, e1, e2, pb_up_p, Int.reduceEq]
    refine ⟨by omega, by omega, by omega, by omega, by omega, by omega, by omega, hQ _ ?_⟩
    unfold gt_put s_put
    rw [if_neg z]
    refine rm_rowU h (fun f p i hn => ?_) (fun t' z' => ?_) (fun p i q1 q2 q3 => ?_) (by rw [List.length_append]; simp; omega) ?_ (fun i f hi => ?_)
    · rw [pb_up_k (by omega), pb_up_k (by omega), pb_up_k (by omega), pb_up_k (by omega), pb_up_k (by omega)]
    · rw [pb_up_i z', pb_up_p (by decide), pb_up_p (by decide), pb_up_p (by decide), pb_up_p (by decide)]
    · rw [pb_up_p (by omega), pb_up_i (by omega), pb_up_i (by omega), pb_up_i (by omega), pb_up_i (by omega)]
    · rw [pb_up_same, List.length_append]
      simp
    · rcases g_appA hi with ⟨i1, i2⟩ | ⟨rfl, rfl⟩
      · have hi2 : ∀ {p : Int} {v' : Int} {τ : pb_H}, pb_up τ 0 p (8 * t + (T.2 t).length) v' 0 p (8 * t + i) = τ 0 p (8 * t + i) := fun {p v' τ} => pb_up_i (by omega)
        simp only [pb_up_p, ne_eq, Int.reduceEq, not_false_eq_true, hi2]
        exact l3 i f i2
      · simp only [pb_up_p, pb_up_same, ne_eq, Int.reduceEq, not_false_eq_true, and_self]
  · unfold gt_put s_put
    rw [if_pos (Decidable.not_not.mp z)]
    refine rm_rowU h (fun f p i hn => rfl) (fun t' z' => rfl) (fun p i q1 q2 q3 => rfl) l2 l1 l3
end MS
