/-! constructors -/
/-- only the cells from p on and below q are others -/
def g_new (σ σ' : pb_H) (p q : Int) : Prop := ∀ f r i, ¬ (p ≤ r ∧ r < q) → σ' f r i = σ f r i
theorem g_new.up {σ σ' : pb_H} {p q : Int} (h : g_new σ σ' p q) {f : Nat} {r i v : Int} (hr : p ≤ r ∧ r < q) : g_new σ (pb_up σ' f r i v) p q := by
  intro f' r' i' hn
  rw [pb_up_k (by omega)]
  exact h f' r' i' hn
theorem g_new.clr {σ σ' : pb_H} {p q r : Int} {d : Nat → Int} (h : g_new σ σ' p q) (hr : p ≤ r ∧ r < q) : g_new σ (pb_clr σ' r d) p q := by
  intro f' r' i' hn
  unfold pb_clr
  rw [if_neg (by omega)]
  exact h f' r' i' hn
theorem g_new.rf (σ : pb_H) (p q : Int) : g_new σ σ p q := fun _ _ _ _ => rfl
theorem g_new.tr {σ σ' σ'' : pb_H} {p q p' q' : Int} (h : g_new σ σ' p q) (h' : g_new σ' σ'' p' q') (hp : p ≤ p') (hq : q' ≤ q) : g_new σ σ'' p q := fun f r i hn => (h' f r i (by omega)).trans (h f r i hn)
theorem g_new.wide {σ σ' : pb_H} {p q p' q' : Int} (h : g_new σ σ' p q) (hp : p' ≤ p) (hq : q ≤ q') : g_new σ σ' p' q' := fun f r i hn => h f r i (by omega)
theorem pb_clr_n {σ : pb_H} {n : Int} {d : Nat → Int} {f : Nat} {r i : Int} (h : r ≠ n) : pb_clr σ n d f r i = σ f r i := if_neg h
section IN
variable {x : pb_E} {σ : pb_H} {Q : pb_P}
theorem c_F_init {p : Int} {n : Nat} (hp : 0 ≤ p) (hQ : Q (.inl 0) σ) : pb_MJ x i_F_init [.inr p] n σ Q := by
  refine pb_m_F_init ?_
  simp only [pb_b_F_init_0, pb_obj, pb_iconst, pb_null, pb_iload, pb_aload, pb_istore, pb_astore, pb_iinc, pb_bin, pb_bin0, pb_dup, pb_pop, pb_dup2, pb_if, pb_icmp, pb_ifnull, pb_getI, pb_getR, pb_putI, pb_putZ, pb_putR, pb_alen, pb_ald, pb_aldR, pb_ast, pb_astZ, pb_astR, pb_vret, pb_iret, pb_zret, pb_aret, pb_cv, pb_cr, pb_sr, pb_switch, pb_sw, pb_nth, pb_set, pb_tk, pb_add, pb_sub, List.length_cons, List.length_nil, true_or, or_true, true_and, and_true, and_self, pb_up_same, pb_up_f, ne_eq, Nat.reduceEqDiff, not_false_eq_true, Nat.reduceAdd, Nat.reduceLeDiff, Nat.zero_le]
  exact ⟨by omega, hQ⟩
/-- a row in the making: k frames are there -/
def g_mk (σ : pb_H) (p cap : Int) (k : Nat) : Prop := σ 201 p 0 = p + 1 ∧ σ 202 p 0 = 0 ∧ ∀ i : Int, 0 ≤ i → i < k → σ 0 (p + 1) i = p + 2 + i
theorem g_mk.row {p cap : Int} {k : Nat} (h : g_mk σ p cap k) (hk : cap = k) : g_row σ p cap [] := by
  obtain ⟨h1, h2, h3⟩ := h
  refine ⟨h1, h2, by simp; omega, fun i q1 q2 => ?_, fun i j q1 q2 q3 q4 q5 => ?_, fun i f hi => by simp at hi⟩
  · rw [h3 i q1 (by omega)]
    omega
  · rw [h3 i q1 (by omega), h3 j q3 (by omega)] at q5
    omega
theorem l_R_init8 {p : Nat} (hr : g_rw p 8) (hp : p + 10 ≤ 213) {σ0 : pb_H} (hQ : ∀ σ', g_row σ' p 8 [] → g_new σ0 σ' p (p + 10) → Q (.inl 0) σ') : ∀ (d k : Nat), k + d = 8 → ∀ σ, g_mk σ p 8 k → g_new σ0 σ p (p + 10) → pb_WJ x i_R_init8 (p + 1) Q 19 [some (.inr p), some (.inl 8), some (.inl k)] [] (p + 2 + k) σ := by
  intro d
  obtain ⟨r1, r2, r3, r4, r5, r6⟩ := hr
  induction d with
  | zero =>
    intro k hk σ hm hn
    obtain rfl : k = 8 := by omega
    refine pb_s_R_init8_19 x (p + 1) Q _ _ _ _ ?_
    simp only [pb_b_R_init8_19, pb_b_R_init8_43, pb_vretN, pb_iconst, pb_null, pb_iload, pb_aload, pb_istore, pb_astore, pb_iinc, pb_bin, pb_bin0, pb_dup, pb_pop, pb_dup2, pb_if, pb_icmp, pb_ifnull, pb_getI, pb_getR, pb_putI, pb_putZ, pb_putR, pb_alen, pb_ald, pb_aldR, pb_ast, pb_astZ, pb_astR, pb_vret, pb_iret, pb_zret, pb_aret, pb_cv, pb_cr, pb_sr, pb_switch, pb_sw, pb_nth, pb_set, pb_tk, pb_add, pb_sub, List.length_cons, List.length_nil, true_or, or_true, true_and, and_true, and_self, pb_up_same, pb_up_f, ne_eq, Nat.reduceEqDiff, not_false_eq_true, Nat.reduceAdd, Nat.reduceLeDiff, Nat.zero_le]
    exact ⟨fun _ => hQ _ (hm.row rfl) hn, fun z => absurd z (by omega)⟩
  | succ d ih =>
    intro k hk σ hm hn
    have e : pb_w ((k : Int) + 1) = ((k + 1 : Nat) : Int) := by rw [pb_w_id (by unfold pb_R; omega)]; omega
    obtain ⟨h1, h2, h3⟩ := id hm
    have i1 : pb_is 2 (p + 2 + k) p := ⟨by omega, by omega, r1.2.2⟩
    have i2 : pb_is 106 (p + 2 + k + 1) ((p : Int) + 1) := ⟨by omega, by omega, r2.2.2⟩
    have i3 : pb_is 3 (p + 2 + k + 1) ((p + 2 + k : Nat) : Int) := ⟨by omega, by omega, (r6 ((p + 2 + k : Nat) : Int) (by omega) (by omega)).2.2⟩
    refine pb_s_R_init8_19 x (p + 1) Q _ _ _ _ ?_
    simp only [pb_b_R_init8_19, pb_new, pb_ci, pb_iconst, pb_null, pb_iload, pb_aload, pb_istore, pb_astore, pb_iinc, pb_bin, pb_bin0, pb_dup, pb_pop, pb_dup2, pb_if, pb_icmp, pb_ifnull, pb_getI, pb_getR, pb_putI, pb_putZ, pb_putR, pb_alen, pb_ald, pb_aldR, pb_ast, pb_astZ, pb_astR, pb_vret, pb_iret, pb_zret, pb_aret, pb_cv, pb_cr, pb_sr, pb_switch, pb_sw, pb_nth, pb_set, pb_tk, pb_add, pb_sub, List.length_cons, List.length_nil, true_or, or_true, true_and, and_true, and_self, pb_up_same, pb_up_f, ne_eq, Nat.reduceEqDiff, not_false_eq_true, Nat.reduceAdd, Nat.reduceLeDiff, Nat.zero_le, i1, h1, i3.2.2, e]
    refine ⟨fun z => absurd z (by omega), fun _ => ⟨by omega, by omega, ⟨by omega, by omega⟩, by omega, by omega, c_F_init (by omega) ⟨i2, ⟨by omega, by omega⟩, i3, ?_⟩⟩⟩
    refine ih (k + 1) (by omega) _ ⟨?_, ?_, fun i q1 q2 => ?_⟩ ?_
    · rw [pb_up_f (by decide), pb_clr_n (by omega)]
      exact h1
    · rw [pb_up_f (by decide), pb_clr_n (by omega)]
      exact h2
    · by_cases z : i = k
      · subst z
        rw [pb_up_same]
        omega
      · rw [pb_up_i z, pb_clr_n (by omega)]
        exact h3 i q1 (by omega)
    · exact (hn.clr (by omega)).up (by omega)
theorem c_R_init8 {p : Nat} (hr : g_rw p 8) (hp : p + 10 ≤ 213) (hQ : ∀ σ', g_row σ' p 8 [] → g_new σ σ' p (p + 10) → Q (.inl 0) σ') : pb_MJ x i_R_init8 [.inr p, .inl 8] (p + 1) σ Q := by
  refine pb_m_R_init8 ?_
  have i1 : pb_is 2 (p + 1) (p : Int) := ⟨by omega, by omega, hr.1.2.2⟩
  have i2 : pb_is 2 (p + 1 + 1) (p : Int) := ⟨by omega, by omega, hr.1.2.2⟩
  have k2 : pb_kd ((p + 1 : Nat) : Int) = 106 := hr.2.1.2.2
  have k3 : pb_ln ((p + 1 : Nat) : Int) = 8 := hr.2.2.1
  simp only [pb_b_R_init8_0, pb_obj, pb_newa, pb_iconst, pb_null, pb_iload, pb_aload, pb_istore, pb_astore, pb_iinc, pb_bin, pb_bin0, pb_dup, pb_pop, pb_dup2, pb_if, pb_icmp, pb_ifnull, pb_getI, pb_getR, pb_putI, pb_putZ, pb_putR, pb_alen, pb_ald, pb_aldR, pb_ast, pb_astZ, pb_astR, pb_vret, pb_iret, pb_zret, pb_aret, pb_cv, pb_cr, pb_sr, pb_switch, pb_sw, pb_nth, pb_set, pb_tk, pb_add, pb_sub, List.length_cons, List.length_nil, true_or, or_true, true_and, and_true, and_self, pb_up_same, pb_up_f, ne_eq, Nat.reduceEqDiff, not_false_eq_true, Nat.reduceAdd, Nat.reduceLeDiff, Nat.zero_le, i1, i2, k2, k3]
  refine ⟨by omega, by omega, by omega, by omega, ?_⟩
  refine l_R_init8 hr hp hQ 8 0 rfl _ ⟨?_, ?_, fun i q1 q2 => absurd q2 (by omega)⟩ ?_
  · rw [pb_up_same]
    omega
  · rw [pb_up_f (by decide), pb_clr_n (by omega), pb_up_same]
  · exact ((((g_new.rf σ p (p + 10)).up (by omega)).clr (by omega)).up (by omega))
theorem l_R_init24 {p : Nat} (hr : g_rw p 24) (hp : p + 26 ≤ 213) {σ0 : pb_H} (hQ : ∀ σ', g_row σ' p 24 [] → g_new σ0 σ' p (p + 26) → Q (.inl 0) σ') : ∀ (d k : Nat), k + d = 24 → ∀ σ, g_mk σ p 24 k → g_new σ0 σ p (p + 26) → pb_WJ x i_R_init24 (p + 1) Q 19 [some (.inr p), some (.inl 24), some (.inl k)] [] (p + 2 + k) σ := by
  intro d
  obtain ⟨r1, r2, r3, r4, r5, r6⟩ := hr
  induction d with
  | zero =>
    intro k hk σ hm hn
    obtain rfl : k = 24 := by omega
    refine pb_s_R_init24_19 x (p + 1) Q _ _ _ _ ?_
    simp only [pb_b_R_init24_19, pb_b_R_init24_43, pb_vretN, pb_iconst, pb_null, pb_iload, pb_aload, pb_istore, pb_astore, pb_iinc, pb_bin, pb_bin0, pb_dup, pb_pop, pb_dup2, pb_if, pb_icmp, pb_ifnull, pb_getI, pb_getR, pb_putI, pb_putZ, pb_putR, pb_alen, pb_ald, pb_aldR, pb_ast, pb_astZ, pb_astR, pb_vret, pb_iret, pb_zret, pb_aret, pb_cv, pb_cr, pb_sr, pb_switch, pb_sw, pb_nth, pb_set, pb_tk, pb_add, pb_sub, List.length_cons, List.length_nil, true_or, or_true, true_and, and_true, and_self, pb_up_same, pb_up_f, ne_eq, Nat.reduceEqDiff, not_false_eq_true, Nat.reduceAdd, Nat.reduceLeDiff, Nat.zero_le]
    exact ⟨fun _ => hQ _ (hm.row rfl) hn, fun z => absurd z (by omega)⟩
  | succ d ih =>
    intro k hk σ hm hn
    have e : pb_w ((k : Int) + 1) = ((k + 1 : Nat) : Int) := by rw [pb_w_id (by unfold pb_R; omega)]; omega
    obtain ⟨h1, h2, h3⟩ := id hm
    have i1 : pb_is 2 (p + 2 + k) p := ⟨by omega, by omega, r1.2.2⟩
    have i2 : pb_is 106 (p + 2 + k + 1) ((p : Int) + 1) := ⟨by omega, by omega, r2.2.2⟩
    have i3 : pb_is 3 (p + 2 + k + 1) ((p + 2 + k : Nat) : Int) := ⟨by omega, by omega, (r6 ((p + 2 + k : Nat) : Int) (by omega) (by omega)).2.2⟩
    refine pb_s_R_init24_19 x (p + 1) Q _ _ _ _ ?_
    simp only [pb_b_R_init24_19, pb_new, pb_ci, pb_iconst, pb_null, pb_iload, pb_aload, pb_istore, pb_astore, pb_iinc, pb_bin, pb_bin0, pb_dup, pb_pop, pb_dup2, pb_if, pb_icmp, pb_ifnull, pb_getI, pb_getR, pb_putI, pb_putZ, pb_putR, pb_alen, pb_ald, pb_aldR, pb_ast, pb_astZ, pb_astR, pb_vret, pb_iret, pb_zret, pb_aret, pb_cv, pb_cr, pb_sr, pb_switch, pb_sw, pb_nth, pb_set, pb_tk, pb_add, pb_sub, List.length_cons, List.length_nil, true_or, or_true, true_and, and_true, and_self, pb_up_same, pb_up_f, ne_eq, Nat.reduceEqDiff, not_false_eq_true, Nat.reduceAdd, Nat.reduceLeDiff, Nat.zero_le, i1, h1, i3.2.2, e]
    refine ⟨fun z => absurd z (by omega), fun _ => ⟨by omega, by omega, ⟨by omega, by omega⟩, by omega, by omega, c_F_init (by omega) ⟨i2, ⟨by omega, by omega⟩, i3, ?_⟩⟩⟩
    refine ih (k + 1) (by omega) _ ⟨?_, ?_, fun i q1 q2 => ?_⟩ ?_
    · rw [pb_up_f (by decide), pb_clr_n (by omega)]
      exact h1
    · rw [pb_up_f (by decide), pb_clr_n (by omega)]
      exact h2
    · by_cases z : i = k
      · subst z
        rw [pb_up_same]
        omega
      · rw [pb_up_i z, pb_clr_n (by omega)]
        exact h3 i q1 (by omega)
    · exact (hn.clr (by omega)).up (by omega)
theorem c_R_init24 {p : Nat} (hr : g_rw p 24) (hp : p + 26 ≤ 213) (hQ : ∀ σ', g_row σ' p 24 [] → g_new σ σ' p (p + 26) → Q (.inl 0) σ') : pb_MJ x i_R_init24 [.inr p, .inl 24] (p + 1) σ Q := by
  refine pb_m_R_init24 ?_
  have i1 : pb_is 2 (p + 1) (p : Int) := ⟨by omega, by omega, hr.1.2.2⟩
  have i2 : pb_is 2 (p + 1 + 1) (p : Int) := ⟨by omega, by omega, hr.1.2.2⟩
  have k2 : pb_kd ((p + 1 : Nat) : Int) = 106 := hr.2.1.2.2
  have k3 : pb_ln ((p + 1 : Nat) : Int) = 24 := hr.2.2.1
  simp only [pb_b_R_init24_0, pb_obj, pb_newa, pb_iconst, pb_null, pb_iload, pb_aload, pb_istore, pb_astore, pb_iinc, pb_bin, pb_bin0, pb_dup, pb_pop, pb_dup2, pb_if, pb_icmp, pb_ifnull, pb_getI, pb_getR, pb_putI, pb_putZ, pb_putR, pb_alen, pb_ald, pb_aldR, pb_ast, pb_astZ, pb_astR, pb_vret, pb_iret, pb_zret, pb_aret, pb_cv, pb_cr, pb_sr, pb_switch, pb_sw, pb_nth, pb_set, pb_tk, pb_add, pb_sub, List.length_cons, List.length_nil, true_or, or_true, true_and, and_true, and_self, pb_up_same, pb_up_f, ne_eq, Nat.reduceEqDiff, not_false_eq_true, Nat.reduceAdd, Nat.reduceLeDiff, Nat.zero_le, i1, i2, k2, k3]
  refine ⟨by omega, by omega, by omega, by omega, ?_⟩
  refine l_R_init24 hr hp hQ 24 0 rfl _ ⟨?_, ?_, fun i q1 q2 => absurd q2 (by omega)⟩ ?_
  · rw [pb_up_same]
    omega
  · rw [pb_up_f (by decide), pb_clr_n (by omega), pb_up_same]
  · exact ((((g_new.rf σ p (p + 26)).up (by omega)).clr (by omega)).up (by omega))
end IN
