/-! constructors of terminals, lines, calls -/
def g_t0 (k : Nat) : Int := if k = 9 then -1 else if k = 11 then 255 else if k = 12 then -1 else 0
def g_tm (σ : pb_H) (p : Int) : Prop := σ 401 p 0 = p + 1 ∧ (∀ k, 1 ≤ k → k < 16 → σ (401 + k) p 0 = g_t0 k) ∧ g_row σ (p + 1) 8 []
theorem g_tm.cg {σ σ' : pb_H} {p a b : Int} (h : g_tm σ p) (hn : g_new σ σ' a b) (hd : b ≤ p ∨ p + 11 ≤ a) : g_tm σ' p := by
  obtain ⟨h1, h2, h3⟩ := h
  refine ⟨by rw [hn _ _ _ (by omega)]; exact h1, fun k q1 q2 => by rw [hn _ _ _ (by omega)]; exact h2 k q1 q2, ?_⟩
  exact h3.cg (hn _ _ _ (by omega)) (hn _ _ _ (by omega)) (fun i => hn _ _ _ (by omega)) (fun f q _ _ _ _ => hn _ _ _ (by omega))
section IM
variable {x : pb_E} {σ : pb_H} {Q : pb_P}
set_option maxHeartbeats 1000000 in
theorem c_T_init {p : Nat} (hk : pb_kd (p : Int) = 4) (hr : g_rw ((p + 1 : Nat) : Int) 8) (hp : p + 11 ≤ 213) (hQ : ∀ σ', g_tm σ' p → g_new σ σ' p (p + 11) → Q (.inl 0) σ') : pb_MJ x i_T_init [.inr p] (p + 1) σ Q := by
  refine pb_m_T_init ?_
  have k2 : pb_kd ((p + 1 : Nat) : Int) = 2 := hr.1.2.2
  simp only [pb_b_T_init_0, pb_obj, pb_new, pb_ci, pb_iconst, pb_null, pb_iload, pb_aload, pb_istore, pb_astore, pb_iinc, pb_bin, pb_bin0, pb_dup, pb_pop, pb_dup2, pb_if, pb_icmp, pb_ifnull, pb_getI, pb_getR, pb_putI, pb_putZ, pb_putR, pb_alen, pb_ald, pb_aldR, pb_ast, pb_astZ, pb_astR, pb_vret, pb_iret, pb_zret, pb_aret, pb_cv, pb_cr, pb_sr, pb_switch, pb_sw, pb_nth, pb_set, pb_tk, pb_add, pb_sub, List.length_cons, List.length_nil, true_or, or_true, true_and, and_true, and_self, pb_up_same, pb_up_f, ne_eq, Nat.reduceEqDiff, not_false_eq_true, Nat.reduceAdd, Nat.reduceLeDiff, Nat.zero_le, k2]
  refine ⟨by omega, by omega, by omega, by omega, by omega, by omega, c_R_init8 hr (by omega) (fun σ1 g1 g2 => ?_)⟩
  have i1 : pb_is 4 (p + 1 + 1 + 9) (p : Int) := ⟨by omega, by omega, hk⟩
  simp only [pb_vretN, pb_iconst, pb_null, pb_iload, pb_aload, pb_istore, pb_astore, pb_iinc, pb_bin, pb_bin0, pb_dup, pb_pop, pb_dup2, pb_if, pb_icmp, pb_ifnull, pb_getI, pb_getR, pb_putI, pb_putZ, pb_putR, pb_alen, pb_ald, pb_aldR, pb_ast, pb_astZ, pb_astR, pb_vret, pb_iret, pb_zret, pb_aret, pb_cv, pb_cr, pb_sr, pb_switch, pb_sw, pb_nth, pb_set, pb_tk, pb_add, pb_sub, List.length_cons, List.length_nil, true_or, or_true, true_and, and_true, and_self, pb_up_same, pb_up_f, ne_eq, Nat.reduceEqDiff, not_false_eq_true, Nat.reduceAdd, Nat.reduceLeDiff, Nat.zero_le, i1]
  refine hQ _ ⟨?_, ?_, ?_⟩ ?_
  · simp only [pb_up_f, pb_up_same, ne_eq, Nat.reduceEqDiff, not_false_eq_true]
    omega
  · intro k q1 q2
    have hk : k = 1 ∨ k = 2 ∨ k = 3 ∨ k = 4 ∨ k = 5 ∨ k = 6 ∨ k = 7 ∨ k = 8 ∨ k = 9 ∨ k = 10 ∨ k = 11 ∨ k = 12 ∨ k = 13 ∨ k = 14 ∨ k = 15 := by omega
    rcases hk with rfl | rfl | rfl | rfl | rfl | rfl | rfl | rfl | rfl | rfl | rfl | rfl | rfl | rfl | rfl <;> simp only [pb_up_f, pb_up_same, ne_eq, Nat.reduceEqDiff, Nat.reduceAdd, not_false_eq_true] <;> rfl
  · have e : (((p + 1 : Nat) : Int)) = (p : Int) + 1 := by omega
    rw [e] at g1
    refine g1.cg ?_ ?_ (fun i => ?_) (fun f q _ _ _ _ => ?_)
    · simp only [pb_up_f, ne_eq, Nat.reduceEqDiff, not_false_eq_true]
    · simp only [pb_up_f, ne_eq, Nat.reduceEqDiff, not_false_eq_true]
    · rw [pb_up_p (by omega), pb_up_p (by omega), pb_up_p (by omega), pb_up_p (by omega), pb_up_p (by omega), pb_up_p (by omega), pb_up_p (by omega), pb_up_p (by omega), pb_up_p (by omega), pb_up_p (by omega), pb_up_p (by omega), pb_up_p (by omega), pb_up_p (by omega), pb_up_p (by omega), pb_up_p (by omega), pb_up_p (by omega)]
    · rw [pb_up_p (by omega), pb_up_p (by omega), pb_up_p (by omega), pb_up_p (by omega), pb_up_p (by omega), pb_up_p (by omega), pb_up_p (by omega), pb_up_p (by omega), pb_up_p (by omega), pb_up_p (by omega), pb_up_p (by omega), pb_up_p (by omega), pb_up_p (by omega), pb_up_p (by omega), pb_up_p (by omega), pb_up_p (by omega)]
  · have h0 : g_new σ σ1 p (p + 11) := ((g_new.rf σ p (p + 11)).clr (r := ((p + 1 : Nat) : Int)) (d := pb_df) (by omega)).tr g2 (by omega) (by omega)
    repeat refine g_new.up ?_ (by omega)
    exact h0
def g_lm (σ : pb_H) (p : Int) : Prop := ∀ k, k < 6 → σ (501 + k) p 0 = 0
theorem c_L_init {p : Nat} (hk : pb_kd (p : Int) = 5) (hQ : ∀ σ', g_lm σ' p → g_new σ σ' p (p + 1) → Q (.inl 0) σ') : pb_MJ x i_L_init [.inr p] (p + 1) σ Q := by
  refine pb_m_L_init ?_
  have i1 : pb_is 5 (p + 1) (p : Int) := ⟨by omega, by omega, hk⟩
  simp only [pb_b_L_init_0, pb_obj, pb_iconst, pb_null, pb_iload, pb_aload, pb_istore, pb_astore, pb_iinc, pb_bin, pb_bin0, pb_dup, pb_pop, pb_dup2, pb_if, pb_icmp, pb_ifnull, pb_getI, pb_getR, pb_putI, pb_putZ, pb_putR, pb_alen, pb_ald, pb_aldR, pb_ast, pb_astZ, pb_astR, pb_vret, pb_iret, pb_zret, pb_aret, pb_cv, pb_cr, pb_sr, pb_switch, pb_sw, pb_nth, pb_set, pb_tk, pb_add, pb_sub, List.length_cons, List.length_nil, true_or, or_true, true_and, and_true, and_self, pb_up_same, pb_up_f, ne_eq, Nat.reduceEqDiff, not_false_eq_true, Nat.reduceAdd, Nat.reduceLeDiff, Nat.zero_le, i1]
  refine ⟨by omega, hQ _ ?_ ?_⟩
  · intro k q
    have hk : k = 0 ∨ k = 1 ∨ k = 2 ∨ k = 3 ∨ k = 4 ∨ k = 5 := by omega
    rcases hk with rfl | rfl | rfl | rfl | rfl | rfl <;> simp only [pb_up_f, pb_up_same, ne_eq, Nat.reduceEqDiff, Nat.reduceAdd, not_false_eq_true]
  · repeat refine g_new.up ?_ (by omega)
    exact g_new.rf σ _ _
theorem c_C_init {p : Nat} (hk : pb_kd (p : Int) = 6) (hk2 : pb_kd ((p + 1 : Nat) : Int) = 100) (hl : pb_ln ((p + 1 : Nat) : Int) = 4) (hp : p + 2 ≤ 213) (hQ : ∀ σ', σ' 601 (p : Int) 0 = (p : Int) + 1 → g_new σ σ' p (p + 2) → Q (.inl 0) σ') : pb_MJ x i_C_init [.inr p] (p + 1) σ Q := by
  refine pb_m_C_init ?_
  have i1 : pb_is 6 (p + 1 + 1) (p : Int) := ⟨by omega, by omega, hk⟩
  simp only [pb_b_C_init_0, pb_obj, pb_newa, pb_vretN, pb_iconst, pb_null, pb_iload, pb_aload, pb_istore, pb_astore, pb_iinc, pb_bin, pb_bin0, pb_dup, pb_pop, pb_dup2, pb_if, pb_icmp, pb_ifnull, pb_getI, pb_getR, pb_putI, pb_putZ, pb_putR, pb_alen, pb_ald, pb_aldR, pb_ast, pb_astZ, pb_astR, pb_vret, pb_iret, pb_zret, pb_aret, pb_cv, pb_cr, pb_sr, pb_switch, pb_sw, pb_nth, pb_set, pb_tk, pb_add, pb_sub, List.length_cons, List.length_nil, true_or, or_true, true_and, and_true, and_self, pb_up_same, pb_up_f, ne_eq, Nat.reduceEqDiff, not_false_eq_true, Nat.reduceAdd, Nat.reduceLeDiff, Nat.zero_le, hk2, hl, i1]
  refine ⟨by omega, by omega, by omega, by omega, hQ _ ?_ ?_⟩
  · simp only [pb_up_f, pb_up_same, ne_eq, Nat.reduceEqDiff, not_false_eq_true]
    omega
  · repeat refine g_new.up ?_ (by omega)
    exact (g_new.rf σ _ _).clr (by omega)
end IM
