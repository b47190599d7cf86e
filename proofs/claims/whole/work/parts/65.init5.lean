/-! the constructor of the class -/
def g_bus (σ : pb_H) (p : Int) : Prop := g_bf σ p ∧ g_bt σ p 4 ∧ g_bl σ p 4
theorem g_bus.cg {σ σ' : pb_H} {p a b : Int} (h : g_bus σ p) (hn : g_new σ σ' a b) (hd : p + 77 ≤ a ∨ b ≤ p) : g_bus σ' p := by
  obtain ⟨h1, h2, h3⟩ := h
  refine ⟨h1.cg hn (by omega), fun s q1 q2 => ?_, fun s q1 q2 => ?_⟩
  · obtain ⟨a1, a2⟩ := h2 s q1 q2
    exact ⟨by rw [hn _ _ _ (by omega)]; exact a1, a2.cg hn (by omega)⟩
  · obtain ⟨a1, a2⟩ := h3 s q1 q2
    exact ⟨by rw [hn _ _ _ (by omega)]; exact a1, a2.cg hn (by omega)⟩
theorem g_bus.up {σ : pb_H} {p r i v : Int} (h : g_bus σ p) (hr : r < p) : g_bus (pb_up σ 0 r i v) p := by
  obtain ⟨h1, h2, h3⟩ := h
  refine ⟨h1.up (by omega), fun s q1 q2 => ?_, fun s q1 q2 => ?_⟩
  · obtain ⟨a1, a2⟩ := h2 s q1 q2
    exact ⟨by rw [pb_up_p (by omega)]; exact a1, a2.up (by omega)⟩
  · obtain ⟨a1, a2⟩ := h3 s q1 q2
    exact ⟨by rw [pb_up_p (by omega)]; exact a1, a2.up⟩
def g_pf (σ : pb_H) : Prop := σ 1 0 0 = 1 ∧ σ 2 0 0 = 2 ∧ σ 3 0 0 = 0 ∧ σ 4 0 0 = 0 ∧ σ 5 0 0 = 0
def g_pb (σ : pb_H) (k : Nat) : Prop := ∀ b : Int, 0 ≤ b → b < k → σ 0 1 b = 3 + 77 * b ∧ g_bus σ (3 + 77 * b)
def g_pc (σ : pb_H) (k : Nat) : Prop := ∀ j : Int, 0 ≤ j → j < k → σ 0 2 j = 157 + 2 * j ∧ σ 601 (157 + 2 * j) 0 = 158 + 2 * j
theorem g_pf.cg {σ σ' : pb_H} {a b : Int} (h : g_pf σ) (hn : g_new σ σ' a b) (ha : 3 ≤ a) : g_pf σ' := by
  obtain ⟨h1, h2, h3, h4, h5⟩ := h
  exact ⟨by rw [hn _ _ _ (by omega)]; exact h1, by rw [hn _ _ _ (by omega)]; exact h2, by rw [hn _ _ _ (by omega)]; exact h3, by rw [hn _ _ _ (by omega)]; exact h4, by rw [hn _ _ _ (by omega)]; exact h5⟩
theorem g_pf.up {σ : pb_H} {r i v : Int} (h : g_pf σ) : g_pf (pb_up σ 0 r i v) := h
def g_E0 : gE := (fun k _ => if k = 6 ∨ k = 7 then 2 else 0, fun _ => [], [])
def g_T0 : gT := (fun k _ => g_t0 k, fun _ => [])
theorem g_start {σ : pb_H} (hf : g_pf σ) (hb : g_pb σ 2) (hc : g_pc σ 4) : RC σ g_T0 g_E0 σ := by
  obtain ⟨f1, f2, f3, f4, f5⟩ := hf
  refine ⟨⟨f1, f2, fun b q1 q2 => ?_⟩, fun b s k q1 q2 q3 q4 q5 q6 => ?_, fun b s q1 q2 q3 q4 => ?_, fun b q1 q2 => ?_, fun b j k q1 q2 q3 q4 q5 => ?_, fun b k q1 q2 q3 => ?_, ⟨f3, f4, f5⟩, ⟨by decide, fun i q1 q2 => ⟨i, q1, q2, (hc i q1 q2).1⟩, fun i j q1 q2 q3 q4 q5 => ?_, fun j q1 q2 => (hc j q1 q2).2, fun i f hi => ?_⟩, fun _ _ _ _ => rfl⟩
  · obtain ⟨a1, ⟨c1, c2, c3, c4, c5, c6⟩, c7, c8⟩ := hb b q1 q2
    refine ⟨a1, by omega, by omega, by omega, fun s q3 q4 => ?_⟩
    obtain ⟨d1, d2, d3, d4⟩ := c7 s q3 q4
    obtain ⟨e1, e2⟩ := c8 s q3 q4
    rw [show (3 + 77 * b + 1 : Int) = 4 + 77 * b by omega] at d1
    rw [show (3 + 77 * b + 2 : Int) = 5 + 77 * b by omega] at e1
    rw [show (3 + 77 * b + 29 + 11 * s : Int) = 32 + 77 * b + 11 * s by omega] at d2
    exact ⟨by omega, by omega, by omega⟩
  · obtain ⟨d1, d2, d3, d4⟩ := (hb b q1 q2).2.2.1 s q3 q4
    rw [show (3 + 77 * b + 29 + 11 * s : Int) = 32 + 77 * b + 11 * s by omega] at d3
    exact d3 k q5 q6
  · obtain ⟨d1, d2, d3, d4⟩ := (hb b q1 q2).2.2.1 s q3 q4
    rw [show (3 + 77 * b + 29 + 11 * s + 1 : Int) = 33 + 77 * b + 11 * s by omega] at d4
    exact d4
  · have d := (hb b q1 q2).2.1.2.2.2.2.2
    rw [show (3 + 77 * b + 3 : Int) = 6 + 77 * b by omega] at d
    exact d
  · have d := ((hb b q1 q2).2.2.2 j q3 q4).2 k q5
    rw [show (3 + 77 * b + 73 + j : Int) = 76 + 77 * b + j by omega] at d
    rw [d]
    show (0 : Int) = if k = 6 ∨ k = 7 then 2 else 0
    rw [if_neg (by omega)]
  · have d := (hb b q1 q2).2.1
    have hk : k = 0 ∨ k = 1 := by omega
    rcases hk with rfl | rfl
    · exact d.2.2.2.1
    · exact d.2.2.2.2.1
  · rw [(hc i q1 q2).1, (hc j q3 q4).1] at q5
    omega
  · exact absurd hi (by show ¬ ([] : List gC)[i]? = some f; simp)
section IP
variable {x : pb_E} {σ : pb_H} {Q : pb_P}
theorem g_bk_ok : ∀ k : Nat, k < 2 → g_bk (3 + 77 * k) := by
  intro k hk
  have h : k = 0 ∨ k = 1 := by omega
  rcases h with rfl | rfl
  · refine ⟨by decide, by decide, by decide, by decide, by decide, rwD (b := 0) (by omega), fun s hs => ?_, fun s hs => ?_⟩
    · have h : s = 0 ∨ s = 1 ∨ s = 2 ∨ s = 3 := by omega
      rcases h with rfl | rfl | rfl | rfl
      · exact ⟨by decide, rwU (b := 0) (s := 0) (by omega) (by omega)⟩
      · exact ⟨by decide, rwU (b := 0) (s := 1) (by omega) (by omega)⟩
      · exact ⟨by decide, rwU (b := 0) (s := 2) (by omega) (by omega)⟩
      · exact ⟨by decide, rwU (b := 0) (s := 3) (by omega) (by omega)⟩
    · have h : s = 0 ∨ s = 1 ∨ s = 2 ∨ s = 3 := by omega
      rcases h with rfl | rfl | rfl | rfl <;> decide
  · refine ⟨by decide, by decide, by decide, by decide, by decide, rwD (b := 1) (by omega), fun s hs => ?_, fun s hs => ?_⟩
    · have h : s = 0 ∨ s = 1 ∨ s = 2 ∨ s = 3 := by omega
      rcases h with rfl | rfl | rfl | rfl
      · exact ⟨by decide, rwU (b := 1) (s := 0) (by omega) (by omega)⟩
      · exact ⟨by decide, rwU (b := 1) (s := 1) (by omega) (by omega)⟩
      · exact ⟨by decide, rwU (b := 1) (s := 2) (by omega) (by omega)⟩
      · exact ⟨by decide, rwU (b := 1) (s := 3) (by omega) (by omega)⟩
    · have h : s = 0 ∨ s = 1 ∨ s = 2 ∨ s = 3 := by omega
      rcases h with rfl | rfl | rfl | rfl <;> decide
theorem g_ck_ok : ∀ k : Nat, k < 4 → pb_kd ((157 + 2 * k : Nat) : Int) = 6 ∧ pb_kd ((157 + 2 * k + 1 : Nat) : Int) = 100 ∧ pb_ln ((157 + 2 * k + 1 : Nat) : Int) = 4 := by
  intro s hs
  have h : s = 0 ∨ s = 1 ∨ s = 2 ∨ s = 3 := by omega
  rcases h with rfl | rfl | rfl | rfl <;> decide
set_option maxHeartbeats 1000000 in
theorem l_P_init63 (hQ : ∀ σ', RC σ' g_T0 g_E0 σ' → Q (.inl 0) σ') : ∀ (d k : Nat), k + d = 4 → ∀ σ, g_pf σ → g_pb σ 2 → g_pc σ k → pb_WJ x i_P_init 1 Q 63 [some (.inr 0), some (.inl k)] [] (157 + 2 * k) σ := by
  intro d
  induction d with
  | zero =>
    intro k hk σ hf hb hc
    obtain rfl : k = 4 := by omega
    refine pb_s_P_init_63 x 1 Q _ _ _ _ ?_
    simp only [pb_b_P_init_63, pb_b_P_init_87, pb_vretN, pb_iconst, pb_null, pb_iload, pb_aload, pb_istore, pb_astore, pb_iinc, pb_bin, pb_bin0, pb_dup, pb_pop, pb_dup2, pb_if, pb_icmp, pb_ifnull, pb_getI, pb_getR, pb_putI, pb_putZ, pb_putR, pb_alen, pb_ald, pb_aldR, pb_ast, pb_astZ, pb_astR, pb_vret, pb_iret, pb_zret, pb_aret, pb_cv, pb_cr, pb_sr, pb_switch, pb_sw, pb_nth, pb_set, pb_tk, pb_add, pb_sub, List.length_cons, List.length_nil, true_or, or_true, true_and, and_true, and_self, pb_up_same, pb_up_f, ne_eq, Nat.reduceEqDiff, not_false_eq_true, Nat.reduceAdd, Nat.reduceLeDiff, Nat.zero_le]
    exact ⟨fun _ => hQ _ (g_start hf hb hc), fun z => absurd z (by omega)⟩
  | succ d ih =>
    intro k hk σ hf hb hc
    have e : pb_w ((k : Int) + 1) = ((k + 1 : Nat) : Int) := by rw [pb_w_id (by unfold pb_R; omega)]; omega
    obtain ⟨k1, k2, k3⟩ := g_ck_ok k (by omega)
    have i1 : pb_is 0 (157 + 2 * k) 0 := ⟨by omega, by omega, by decide⟩
    have i2 : pb_is 103 (157 + 2 * k + 1 + 1) 2 := ⟨by omega, by omega, by decide⟩
    have i3 : pb_is 6 (157 + 2 * k + 1 + 1) ((157 + 2 * k : Nat) : Int) := ⟨by omega, by omega, k1⟩
    have l2 : pb_ln 2 = 4 := by decide
    refine pb_s_P_init_63 x 1 Q _ _ _ _ ?_
    simp only [pb_b_P_init_63, pb_new, pb_ci, pb_iconst, pb_null, pb_iload, pb_aload, pb_istore, pb_astore, pb_iinc, pb_bin, pb_bin0, pb_dup, pb_pop, pb_dup2, pb_if, pb_icmp, pb_ifnull, pb_getI, pb_getR, pb_putI, pb_putZ, pb_putR, pb_alen, pb_ald, pb_aldR, pb_ast, pb_astZ, pb_astR, pb_vret, pb_iret, pb_zret, pb_aret, pb_cv, pb_cr, pb_sr, pb_switch, pb_sw, pb_nth, pb_set, pb_tk, pb_add, pb_sub, List.length_cons, List.length_nil, true_or, or_true, true_and, and_true, and_self, pb_up_same, pb_up_f, ne_eq, Nat.reduceEqDiff, not_false_eq_true, Nat.reduceAdd, Nat.reduceLeDiff, Nat.zero_le, i1, hf.2.1, k1, e, i2, i3, l2]
    refine ⟨fun z => absurd z (by omega), fun _ => ⟨by omega, by omega, ⟨by omega, by omega⟩, by omega, by omega, c_C_init k1 k2 k3 (by omega) (fun σ1 g1 g2 => ⟨⟨by omega, by omega⟩, ?_⟩)⟩⟩
    have hn1 : g_new σ σ1 (157 + 2 * k) (157 + 2 * k + 2) := ((g_new.rf σ (157 + 2 * k) (157 + 2 * k + 2)).clr (r := ((157 + 2 * k : Nat) : Int)) (d := pb_df) (by omega)).tr g2 (by omega) (by omega)
    have hlast : pb_WJ x i_P_init 1 Q 63 [some (.inr 0), some (.inl ((k + 1 : Nat) : Int))] [] (157 + 2 * (k + 1)) (pb_up σ1 0 2 k ((157 + 2 * k : Nat) : Int)) := by
      refine ih (k + 1) (by omega) _ (hf.cg hn1 (by omega)).up (fun b q1 q2 => ?_) (fun s q1 q2 => ?_)
      · obtain ⟨a1, a2⟩ := hb b q1 q2
        refine ⟨?_, (a2.cg hn1 (by omega)).up (by omega)⟩
        rw [pb_up_p (by omega), hn1 _ _ _ (by omega)]
        exact a1
      · by_cases z : s = k
        · subst z
          refine ⟨by rw [pb_up_same]; omega, ?_⟩
          rw [pb_up_f (by decide)]
          rw [show ((157 + 2 * k : Nat) : Int) = 157 + 2 * (k : Int) by omega] at g1
          omega
        · obtain ⟨a1, a2⟩ := hc s q1 (by omega)
          refine ⟨?_, ?_⟩
          · rw [pb_up_i z, hn1 _ _ _ (by omega)]
            exact a1
          · rw [pb_up_f (by decide), hn1 _ _ _ (by omega)]
            exact a2
    rw [show 157 + 2 * (k + 1) = 157 + 2 * k + 1 + 1 by omega] at hlast
    exact hlast
set_option maxHeartbeats 1000000 in
theorem l_P_init37 (hQ : ∀ σ', RC σ' g_T0 g_E0 σ' → Q (.inl 0) σ') : ∀ (d k : Nat), k + d = 2 → ∀ σ, g_pf σ → g_pb σ k → pb_WJ x i_P_init 1 Q 37 [some (.inr 0), some (.inl k)] [] (3 + 77 * k) σ := by
  intro d
  induction d with
  | zero =>
    intro k hk σ hf hb
    obtain rfl : k = 2 := by omega
    refine pb_s_P_init_37 x 1 Q _ _ _ _ ?_
    simp only [pb_b_P_init_37, pb_b_P_init_61, pb_iconst, pb_null, pb_iload, pb_aload, pb_istore, pb_astore, pb_iinc, pb_bin, pb_bin0, pb_dup, pb_pop, pb_dup2, pb_if, pb_icmp, pb_ifnull, pb_getI, pb_getR, pb_putI, pb_putZ, pb_putR, pb_alen, pb_ald, pb_aldR, pb_ast, pb_astZ, pb_astR, pb_vret, pb_iret, pb_zret, pb_aret, pb_cv, pb_cr, pb_sr, pb_switch, pb_sw, pb_nth, pb_set, pb_tk, pb_add, pb_sub, List.length_cons, List.length_nil, true_or, or_true, true_and, and_true, and_self, pb_up_same, pb_up_f, ne_eq, Nat.reduceEqDiff, not_false_eq_true, Nat.reduceAdd, Nat.reduceLeDiff, Nat.zero_le]
    exact ⟨fun _ => l_P_init63 hQ 4 0 rfl _ hf hb (fun s q1 q2 => absurd q2 (by omega)), fun z => absurd z (by omega)⟩
  | succ d ih =>
    intro k hk σ hf hb
    have e : pb_w ((k : Int) + 1) = ((k + 1 : Nat) : Int) := by rw [pb_w_id (by unfold pb_R; omega)]; omega
    have hk9 := g_bk_ok k (by omega)
    have k1 := hk9.1
    have i1 : pb_is 0 (3 + 77 * k) 0 := ⟨by omega, by omega, by decide⟩
    have i2 : pb_is 102 (3 + 77 * k + 1 + 76) 1 := ⟨by omega, by omega, by decide⟩
    have i3 : pb_is 1 (3 + 77 * k + 1 + 76) ((3 + 77 * k : Nat) : Int) := ⟨by omega, by omega, k1⟩
    have l2 : pb_ln 1 = 2 := by decide
    refine pb_s_P_init_37 x 1 Q _ _ _ _ ?_
    simp only [pb_b_P_init_37, pb_new, pb_ci, pb_iconst, pb_null, pb_iload, pb_aload, pb_istore, pb_astore, pb_iinc, pb_bin, pb_bin0, pb_dup, pb_pop, pb_dup2, pb_if, pb_icmp, pb_ifnull, pb_getI, pb_getR, pb_putI, pb_putZ, pb_putR, pb_alen, pb_ald, pb_aldR, pb_ast, pb_astZ, pb_astR, pb_vret, pb_iret, pb_zret, pb_aret, pb_cv, pb_cr, pb_sr, pb_switch, pb_sw, pb_nth, pb_set, pb_tk, pb_add, pb_sub, List.length_cons, List.length_nil, true_or, or_true, true_and, and_true, and_self, pb_up_same, pb_up_f, ne_eq, Nat.reduceEqDiff, not_false_eq_true, Nat.reduceAdd, Nat.reduceLeDiff, Nat.zero_le, i1, hf.1, k1, e, i2, i3, l2]
    refine ⟨fun z => absurd z (by omega), fun _ => ⟨by omega, by omega, ⟨by omega, by omega⟩, by omega, by omega, c_B_init hk9 (by omega) (fun σ1 g1 g2 g3 g4 => ⟨⟨by omega, by omega⟩, ?_⟩)⟩⟩
    have hn1 : g_new σ σ1 (3 + 77 * k) (3 + 77 * k + 77) := ((g_new.rf σ (3 + 77 * k) (3 + 77 * k + 77)).clr (r := ((3 + 77 * k : Nat) : Int)) (d := pb_df) (by omega)).tr g4 (by omega) (by omega)
    have hlast : pb_WJ x i_P_init 1 Q 37 [some (.inr 0), some (.inl ((k + 1 : Nat) : Int))] [] (3 + 77 * (k + 1)) (pb_up σ1 0 1 k ((3 + 77 * k : Nat) : Int)) := by
      refine ih (k + 1) (by omega) _ (hf.cg hn1 (by omega)).up (fun b q1 q2 => ?_)
      by_cases z : b = k
      · subst z
        refine ⟨by rw [pb_up_same]; omega, ?_⟩
        have g5 : g_bus σ1 (3 + 77 * (k : Int)) := by
          rw [show (3 + 77 * (k : Int)) = ((3 + 77 * k : Nat) : Int) by omega]
          exact ⟨g1, g2, g3⟩
        exact g5.up (by omega)
      · obtain ⟨a1, a2⟩ := hb b q1 (by omega)
        refine ⟨?_, (a2.cg hn1 (by omega)).up (by omega)⟩
        rw [pb_up_i z, hn1 _ _ _ (by omega)]
        exact a1
    rw [show 3 + 77 * (k + 1) = 3 + 77 * k + 1 + 76 by omega] at hlast
    exact hlast
theorem c_P_init (hQ : ∀ σ', RC σ' g_T0 g_E0 σ' → Q (.inl 0) σ') : pb_MJ x i_P_init [.inr 0] 1 σ Q := by
  refine pb_m_P_init ?_
  have i1 : pb_is 0 2 0 := ⟨by omega, by omega, by decide⟩
  have i2 : pb_is 0 3 0 := ⟨by omega, by omega, by decide⟩
  have k1 : pb_kd 1 = 102 := by decide
  have k2 : pb_kd 2 = 103 := by decide
  have l1 : pb_ln 1 = 2 := by decide
  have l2 : pb_ln 2 = 4 := by decide
  simp only [pb_b_P_init_0, pb_obj, pb_newa, pb_iconst, pb_null, pb_iload, pb_aload, pb_istore, pb_astore, pb_iinc, pb_bin, pb_bin0, pb_dup, pb_pop, pb_dup2, pb_if, pb_icmp, pb_ifnull, pb_getI, pb_getR, pb_putI, pb_putZ, pb_putR, pb_alen, pb_ald, pb_aldR, pb_ast, pb_astZ, pb_astR, pb_vret, pb_iret, pb_zret, pb_aret, pb_cv, pb_cr, pb_sr, pb_switch, pb_sw, pb_nth, pb_set, pb_tk, pb_add, pb_sub, List.length_cons, List.length_nil, true_or, or_true, true_and, and_true, and_self, pb_up_same, pb_up_f, ne_eq, Nat.reduceEqDiff, not_false_eq_true, Nat.reduceAdd, Nat.reduceLeDiff, Nat.zero_le]
  refine ⟨by omega, k1, l1, by omega, by omega, by omega, i1, k2, l2, by omega, by omega, by omega, i2, i2, i2, i2, ?_⟩
  refine l_P_init37 hQ 2 0 rfl _ ⟨?_, ?_, ?_, ?_, ?_⟩ (fun s q1 q2 => absurd q2 (by omega))
  · simp only [pb_up_f, pb_up_same, ne_eq, Nat.reduceEqDiff, not_false_eq_true]
    rw [pb_clr_n (by decide), pb_up_same]
    rfl
  · simp only [pb_up_f, pb_up_same, ne_eq, Nat.reduceEqDiff, not_false_eq_true]
    rfl
  · simp only [pb_up_f, pb_up_same, ne_eq, Nat.reduceEqDiff, not_false_eq_true]
  · simp only [pb_up_f, pb_up_same, ne_eq, Nat.reduceEqDiff, not_false_eq_true]
  · simp only [pb_up_f, pb_up_same, ne_eq, Nat.reduceEqDiff, not_false_eq_true]
end IP
