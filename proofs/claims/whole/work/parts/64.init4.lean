section IB2
variable {x : pb_E} {σ : pb_H} {Q : pb_P}
set_option maxHeartbeats 1000000 in
theorem l_B_init45 {p : Nat} (hk : g_bk p) (hp : p + 77 ≤ 213) {σ0 : pb_H} (hQ : ∀ σ', g_bf σ' p → g_bt σ' p 4 → g_bl σ' p 4 → g_new σ0 σ' p (p + 77) → Q (.inl 0) σ') : ∀ (d k : Nat), k + d = 4 → ∀ σ, g_bf σ p → g_bt σ p k → g_new σ0 σ p (p + 77) → pb_WJ x i_B_init (p + 1) Q 45 [some (.inr p), some (.inl k)] [] (p + 29 + 11 * k) σ := by
  intro d
  obtain ⟨r1, r2, r3, r4, r5, r6, r7, r8⟩ := id hk
  induction d with
  | zero =>
    intro k hk σ hf ht hn
    obtain rfl : k = 4 := by omega
    refine pb_s_B_init_45 x (p + 1) Q _ _ _ _ ?_
    simp only [pb_b_B_init_45, pb_b_B_init_69, pb_iconst, pb_null, pb_iload, pb_aload, pb_istore, pb_astore, pb_iinc, pb_bin, pb_bin0, pb_dup, pb_pop, pb_dup2, pb_if, pb_icmp, pb_ifnull, pb_getI, pb_getR, pb_putI, pb_putZ, pb_putR, pb_alen, pb_ald, pb_aldR, pb_ast, pb_astZ, pb_astR, pb_vret, pb_iret, pb_zret, pb_aret, pb_cv, pb_cr, pb_sr, pb_switch, pb_sw, pb_nth, pb_set, pb_tk, pb_add, pb_sub, List.length_cons, List.length_nil, true_or, or_true, true_and, and_true, and_self, pb_up_same, pb_up_f, ne_eq, Nat.reduceEqDiff, not_false_eq_true, Nat.reduceAdd, Nat.reduceLeDiff, Nat.zero_le]
    refine ⟨fun _ => ?_, fun z => absurd z (by omega)⟩
    exact l_B_init71 ⟨r1, r2, r3, r4, r5, r6, r7, r8⟩ hp hQ 4 0 rfl _ hf ht (fun s q1 q2 => absurd q2 (by omega)) hn
  | succ d ih =>
    intro k hk σ hf ht hn
    have e : pb_w ((k : Int) + 1) = ((k + 1 : Nat) : Int) := by rw [pb_w_id (by unfold pb_R; omega)]; omega
    have r7k := r7 k (by omega)
    have i1 : pb_is 1 (p + 29 + 11 * k) p := ⟨by omega, by omega, r1⟩
    have i2 : pb_is 104 (p + 29 + 11 * k + 1 + 10) ((p : Int) + 1) := ⟨by omega, by omega, r2⟩
    have i3 : pb_is 4 (p + 29 + 11 * k + 1 + 10) ((p + 29 + 11 * k : Nat) : Int) := ⟨by omega, by omega, r7k.1⟩
    have l2 : pb_ln ((p : Int) + 1) = 4 := r3
    refine pb_s_B_init_45 x (p + 1) Q _ _ _ _ ?_
    simp only [pb_b_B_init_45, pb_new, pb_ci, pb_iconst, pb_null, pb_iload, pb_aload, pb_istore, pb_astore, pb_iinc, pb_bin, pb_bin0, pb_dup, pb_pop, pb_dup2, pb_if, pb_icmp, pb_ifnull, pb_getI, pb_getR, pb_putI, pb_putZ, pb_putR, pb_alen, pb_ald, pb_aldR, pb_ast, pb_astZ, pb_astR, pb_vret, pb_iret, pb_zret, pb_aret, pb_cv, pb_cr, pb_sr, pb_switch, pb_sw, pb_nth, pb_set, pb_tk, pb_add, pb_sub, List.length_cons, List.length_nil, true_or, or_true, true_and, and_true, and_self, pb_up_same, pb_up_f, ne_eq, Nat.reduceEqDiff, not_false_eq_true, Nat.reduceAdd, Nat.reduceLeDiff, Nat.zero_le, i1, hf.1, r7k.1, e, i2, i3, l2]
    refine ⟨fun z => absurd z (by omega), fun _ => ⟨by omega, by omega, ⟨by omega, by omega⟩, by omega, by omega, c_T_init r7k.1 r7k.2 (by omega) (fun σ1 g1 g2 => ⟨⟨by omega, by omega⟩, ?_⟩)⟩⟩
    have hn1 : g_new σ σ1 (p + 29 + 11 * k) (p + 29 + 11 * k + 11) := ((g_new.rf σ (p + 29 + 11 * k) (p + 29 + 11 * k + 11)).clr (r := ((p + 29 + 11 * k : Nat) : Int)) (d := pb_df) (by omega)).tr g2 (by omega) (by omega)
    have hlast : pb_WJ x i_B_init (p + 1) Q 45 [some (.inr p), some (.inl ((k + 1 : Nat) : Int))] [] (p + 29 + 11 * (k + 1)) (pb_up σ1 0 ((p : Int) + 1) k ((p + 29 + 11 * k : Nat) : Int)) := by
      refine ih (k + 1) (by omega) _ ((hf.cg hn1 (by omega)).up (by omega)) (fun s q1 q2 => ?_) ((hn.tr hn1 (by omega) (by omega)).up (by omega))
      by_cases z : s = k
      · subst z
        refine ⟨by rw [pb_up_same]; omega, ?_⟩
        have g3 : g_tm σ1 ((p : Int) + 29 + 11 * k) := by
          rw [show (p : Int) + 29 + 11 * k = ((p + 29 + 11 * k : Nat) : Int) by omega]
          exact g1
        exact g3.up (by omega)
      · obtain ⟨a1, a2⟩ := ht s q1 (by omega)
        refine ⟨?_, (a2.cg hn1 (by omega)).up (by omega)⟩
        rw [pb_up_i z, hn1 _ _ _ (by omega)]
        exact a1
    rw [show p + 29 + 11 * (k + 1) = p + 29 + 11 * k + 1 + 10 by omega] at hlast
    exact hlast
set_option maxHeartbeats 1000000 in
theorem c_B_init {p : Nat} (hk : g_bk p) (hp : p + 77 ≤ 213) (hQ : ∀ σ', g_bf σ' p → g_bt σ' p 4 → g_bl σ' p 4 → g_new σ σ' p (p + 77) → Q (.inl 0) σ') : pb_MJ x i_B_init [.inr p] (p + 1) σ Q := by
  refine pb_m_B_init ?_
  obtain ⟨r1, r2, r3, r4, r5, r6, r7, r8⟩ := id hk
  have i1 : pb_is 1 (p + 1 + 1) (p : Int) := ⟨by omega, by omega, r1⟩
  have i2 : pb_is 1 (p + 1 + 1 + 1) (p : Int) := ⟨by omega, by omega, r1⟩
  have k3 : pb_kd ((p + 1 + 1 + 1 : Nat) : Int) = 2 := r6.1.2.2
  simp only [pb_b_B_init_0, pb_obj, pb_new, pb_newa, pb_ci, pb_iconst, pb_null, pb_iload, pb_aload, pb_istore, pb_astore, pb_iinc, pb_bin, pb_bin0, pb_dup, pb_pop, pb_dup2, pb_if, pb_icmp, pb_ifnull, pb_getI, pb_getR, pb_putI, pb_putZ, pb_putR, pb_alen, pb_ald, pb_aldR, pb_ast, pb_astZ, pb_astR, pb_vret, pb_iret, pb_zret, pb_aret, pb_cv, pb_cr, pb_sr, pb_switch, pb_sw, pb_nth, pb_set, pb_tk, pb_add, pb_sub, List.length_cons, List.length_nil, true_or, or_true, true_and, and_true, and_self, pb_up_same, pb_up_f, ne_eq, Nat.reduceEqDiff, not_false_eq_true, Nat.reduceAdd, Nat.reduceLeDiff, Nat.zero_le, r2, r3, r4, r5, i1, i2, k3]
  refine ⟨by omega, by omega, by omega, by omega, by omega, by omega, by omega, by omega, by omega, ⟨by omega, by omega⟩, by omega, by omega, c_R_init24 r6 (by omega) (fun σ1 g1 g2 => ?_)⟩
  have i3 : pb_is 1 (p + 1 + 1 + 1 + 1 + 25) (p : Int) := ⟨by omega, by omega, r1⟩
  simp only [pb_iconst, pb_null, pb_iload, pb_aload, pb_istore, pb_astore, pb_iinc, pb_bin, pb_bin0, pb_dup, pb_pop, pb_dup2, pb_if, pb_icmp, pb_ifnull, pb_getI, pb_getR, pb_putI, pb_putZ, pb_putR, pb_alen, pb_ald, pb_aldR, pb_ast, pb_astZ, pb_astR, pb_vret, pb_iret, pb_zret, pb_aret, pb_cv, pb_cr, pb_sr, pb_switch, pb_sw, pb_nth, pb_set, pb_tk, pb_add, pb_sub, List.length_cons, List.length_nil, true_or, or_true, true_and, and_true, and_self, pb_up_same, pb_up_f, ne_eq, Nat.reduceEqDiff, not_false_eq_true, Nat.reduceAdd, Nat.reduceLeDiff, Nat.zero_le, i3]
  have h101 : σ1 101 (p : Int) 0 = p + 1 := by
    rw [g2 _ _ _ (by omega), pb_clr_n (by omega), pb_up_f (by decide), pb_clr_n (by omega), pb_up_same]
    omega
  have h102 : σ1 102 (p : Int) 0 = p + 2 := by
    rw [g2 _ _ _ (by omega), pb_clr_n (by omega), pb_up_same]
    omega
  have e3 : ((p + 1 + 1 + 1 : Nat) : Int) = (p : Int) + 3 := by omega
  rw [e3] at g1
  refine l_B_init45 hk hp hQ 4 0 rfl _ ⟨?_, ?_, ?_, ?_, ?_, ?_⟩ (fun s q1 q2 => absurd q2 (by omega)) ?_
  · simp only [pb_up_f, pb_up_same, ne_eq, Nat.reduceEqDiff, not_false_eq_true]
    exact h101
  · simp only [pb_up_f, pb_up_same, ne_eq, Nat.reduceEqDiff, not_false_eq_true]
    exact h102
  · simp only [pb_up_f, pb_up_same, ne_eq, Nat.reduceEqDiff, not_false_eq_true]
    exact e3
  · simp only [pb_up_f, pb_up_same, ne_eq, Nat.reduceEqDiff, not_false_eq_true]
  · simp only [pb_up_f, pb_up_same, ne_eq, Nat.reduceEqDiff, not_false_eq_true]
  · refine g1.cg ?_ ?_ (fun i => ?_) (fun f q _ _ _ _ => ?_)
    · simp only [pb_up_f, ne_eq, Nat.reduceEqDiff, not_false_eq_true]
    · simp only [pb_up_f, ne_eq, Nat.reduceEqDiff, not_false_eq_true]
    · rw [pb_up_p (by omega), pb_up_p (by omega), pb_up_p (by omega)]
    · rw [pb_up_p (by omega), pb_up_p (by omega), pb_up_p (by omega)]
  · repeat refine g_new.up ?_ (by omega)
    refine g_new.tr ?_ g2 (by omega) (by omega)
    refine g_new.clr ?_ (by omega)
    refine g_new.up ?_ (by omega)
    refine g_new.clr ?_ (by omega)
    refine g_new.up ?_ (by omega)
    exact (g_new.rf σ _ _).clr (by omega)
end IB2
