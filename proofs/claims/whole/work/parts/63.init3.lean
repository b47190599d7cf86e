/-! the constructor of a bus -/
def g_bf (σ : pb_H) (p : Int) : Prop := σ 101 p 0 = p + 1 ∧ σ 102 p 0 = p + 2 ∧ σ 103 p 0 = p + 3 ∧ σ 104 p 0 = 2 ∧ σ 105 p 0 = 2 ∧ g_row σ (p + 3) 24 []
def g_bt (σ : pb_H) (p : Int) (k : Nat) : Prop := ∀ s : Int, 0 ≤ s → s < k → σ 0 (p + 1) s = p + 29 + 11 * s ∧ g_tm σ (p + 29 + 11 * s)
def g_bl (σ : pb_H) (p : Int) (k : Nat) : Prop := ∀ s : Int, 0 ≤ s → s < k → σ 0 (p + 2) s = p + 73 + s ∧ g_lm σ (p + 73 + s)
theorem g_bf.cg {σ σ' : pb_H} {p a b : Int} (h : g_bf σ p) (hn : g_new σ σ' a b) (hd : p + 29 ≤ a ∨ b ≤ p) : g_bf σ' p := by
  obtain ⟨h1, h2, h3, h4, h5, h6⟩ := h
  refine ⟨by rw [hn _ _ _ (by omega)]; exact h1, by rw [hn _ _ _ (by omega)]; exact h2, by rw [hn _ _ _ (by omega)]; exact h3, by rw [hn _ _ _ (by omega)]; exact h4, by rw [hn _ _ _ (by omega)]; exact h5, ?_⟩
  exact h6.cg (hn _ _ _ (by omega)) (hn _ _ _ (by omega)) (fun i => hn _ _ _ (by omega)) (fun f q _ _ _ _ => hn _ _ _ (by omega))
theorem g_bf.up {σ : pb_H} {p r i v : Int} (h : g_bf σ p) (hr : r ≠ p + 4) : g_bf (pb_up σ 0 r i v) p := by
  obtain ⟨h1, h2, h3, h4, h5, h6⟩ := h
  refine ⟨by rw [pb_up_f (by decide)]; exact h1, by rw [pb_up_f (by decide)]; exact h2, by rw [pb_up_f (by decide)]; exact h3, by rw [pb_up_f (by decide)]; exact h4, by rw [pb_up_f (by decide)]; exact h5, ?_⟩
  exact h6.cg (pb_up_f (by decide)) (pb_up_f (by decide)) (fun i => pb_up_p (by omega)) (fun f q _ _ _ _ => pb_up_f (by omega))
theorem g_tm.up {σ : pb_H} {p r i v : Int} (h : g_tm σ p) (hr : r ≠ p + 2) : g_tm (pb_up σ 0 r i v) p := by
  obtain ⟨h1, h2, h3⟩ := h
  refine ⟨by rw [pb_up_f (by decide)]; exact h1, fun k q1 q2 => by rw [pb_up_f (by omega)]; exact h2 k q1 q2, ?_⟩
  exact h3.cg (pb_up_f (by decide)) (pb_up_f (by decide)) (fun i => pb_up_p (by omega)) (fun f q _ _ _ _ => pb_up_f (by omega))
theorem g_lm.up {σ : pb_H} {p r i v : Int} (h : g_lm σ p) : g_lm (pb_up σ 0 r i v) p := fun k q => by rw [pb_up_f (by omega)]; exact h k q
theorem g_lm.cg {σ σ' : pb_H} {p a b : Int} (h : g_lm σ p) (hn : g_new σ σ' a b) (hd : b ≤ p ∨ p < a) : g_lm σ' p := fun k q => by rw [hn _ _ _ (by omega)]; exact h k q
def g_bk (p : Nat) : Prop := pb_kd (p : Int) = 1 ∧ pb_kd ((p + 1 : Nat) : Int) = 104 ∧ pb_ln ((p + 1 : Nat) : Int) = 4 ∧ pb_kd ((p + 1 + 1 : Nat) : Int) = 105 ∧ pb_ln ((p + 1 + 1 : Nat) : Int) = 4 ∧ g_rw ((p + 1 + 1 + 1 : Nat) : Int) 24 ∧ (∀ s : Nat, s < 4 → pb_kd ((p + 29 + 11 * s : Nat) : Int) = 4 ∧ g_rw ((p + 29 + 11 * s + 1 : Nat) : Int) 8) ∧ ∀ s : Nat, s < 4 → pb_kd ((p + 73 + s : Nat) : Int) = 5
section IB
variable {x : pb_E} {σ : pb_H} {Q : pb_P}
set_option maxHeartbeats 1000000 in
theorem l_B_init71 {p : Nat} (hk : g_bk p) (hp : p + 77 ≤ 213) {σ0 : pb_H} (hQ : ∀ σ', g_bf σ' p → g_bt σ' p 4 → g_bl σ' p 4 → g_new σ0 σ' p (p + 77) → Q (.inl 0) σ') : ∀ (d k : Nat), k + d = 4 → ∀ σ, g_bf σ p → g_bt σ p 4 → g_bl σ p k → g_new σ0 σ p (p + 77) → pb_WJ x i_B_init (p + 1) Q 71 [some (.inr p), some (.inl k)] [] (p + 73 + k) σ := by
  intro d
  obtain ⟨r1, r2, r3, r4, r5, r6, r7, r8⟩ := hk
  induction d with
  | zero =>
    intro k hk σ hf ht hl hn
    obtain rfl : k = 4 := by omega
    refine pb_s_B_init_71 x (p + 1) Q _ _ _ _ ?_
    simp only [pb_b_B_init_71, pb_b_B_init_95, pb_vretN, pb_iconst, pb_null, pb_iload, pb_aload, pb_istore, pb_astore, pb_iinc, pb_bin, pb_bin0, pb_dup, pb_pop, pb_dup2, pb_if, pb_icmp, pb_ifnull, pb_getI, pb_getR, pb_putI, pb_putZ, pb_putR, pb_alen, pb_ald, pb_aldR, pb_ast, pb_astZ, pb_astR, pb_vret, pb_iret, pb_zret, pb_aret, pb_cv, pb_cr, pb_sr, pb_switch, pb_sw, pb_nth, pb_set, pb_tk, pb_add, pb_sub, List.length_cons, List.length_nil, true_or, or_true, true_and, and_true, and_self, pb_up_same, pb_up_f, ne_eq, Nat.reduceEqDiff, not_false_eq_true, Nat.reduceAdd, Nat.reduceLeDiff, Nat.zero_le]
    exact ⟨fun _ => hQ _ hf ht hl hn, fun z => absurd z (by omega)⟩
  | succ d ih =>
    intro k hk σ hf ht hl hn
    have e : pb_w ((k : Int) + 1) = ((k + 1 : Nat) : Int) := by rw [pb_w_id (by unfold pb_R; omega)]; omega
    have r8k := r8 k (by omega)
    have i1 : pb_is 1 (p + 73 + k) p := ⟨by omega, by omega, r1⟩
    have i2 : pb_is 105 (p + 73 + k + 1 + 0) ((p : Int) + 2) := ⟨by omega, by omega, r4⟩
    have i3 : pb_is 5 (p + 73 + k + 1 + 0) ((p + 73 + k : Nat) : Int) := ⟨by omega, by omega, r8k⟩
    have l2 : pb_ln ((p : Int) + 2) = 4 := r5
    refine pb_s_B_init_71 x (p + 1) Q _ _ _ _ ?_
    simp only [pb_b_B_init_71, pb_new, pb_ci, pb_iconst, pb_null, pb_iload, pb_aload, pb_istore, pb_astore, pb_iinc, pb_bin, pb_bin0, pb_dup, pb_pop, pb_dup2, pb_if, pb_icmp, pb_ifnull, pb_getI, pb_getR, pb_putI, pb_putZ, pb_putR, pb_alen, pb_ald, pb_aldR, pb_ast, pb_astZ, pb_astR, pb_vret, pb_iret, pb_zret, pb_aret, pb_cv, pb_cr, pb_sr, pb_switch, pb_sw, pb_nth, pb_set, pb_tk, pb_add, pb_sub, List.length_cons, List.length_nil, true_or, or_true, true_and, and_true, and_self, pb_up_same, pb_up_f, ne_eq, Nat.reduceEqDiff, not_false_eq_true, Nat.reduceAdd, Nat.reduceLeDiff, Nat.zero_le, i1, hf.2.1, r8k, e, i2, i3, l2]
    refine ⟨fun z => absurd z (by omega), fun _ => ⟨by omega, by omega, ⟨by omega, by omega⟩, by omega, by omega, c_L_init r8k (fun σ1 g1 g2 => ⟨⟨by omega, by omega⟩, ?_⟩)⟩⟩
    have hn1 : g_new σ σ1 (p + 73 + k) (p + 73 + k + 1) := ((g_new.rf σ (p + 73 + k) (p + 73 + k + 1)).clr (r := ((p + 73 + k : Nat) : Int)) (d := pb_df) (by omega)).tr g2 (by omega) (by omega)
    refine ih (k + 1) (by omega) _ ((hf.cg hn1 (by omega)).up (by omega)) (fun s q1 q2 => ?_) (fun s q1 q2 => ?_) ((hn.tr hn1 (by omega) (by omega)).up (by omega))
    · obtain ⟨a1, a2⟩ := ht s q1 q2
      refine ⟨?_, (a2.cg hn1 (by omega)).up (by omega)⟩
      rw [pb_up_p (by omega), hn1 _ _ _ (by omega)]
      exact a1
    · by_cases z : s = k
      · subst z
        refine ⟨by rw [pb_up_same]; omega, ?_⟩
        have g3 : g_lm σ1 ((p : Int) + 73 + k) := by
          rw [show (p : Int) + 73 + k = ((p + 73 + k : Nat) : Int) by omega]
          exact g1
        exact g3.up
      · obtain ⟨a1, a2⟩ := hl s q1 (by omega)
        refine ⟨?_, (a2.cg hn1 (by omega)).up⟩
        rw [pb_up_i z, hn1 _ _ _ (by omega)]
        exact a1
end IB
