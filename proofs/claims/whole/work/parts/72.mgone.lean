/-! a frame goes out of a row -/
def g_shift (σ : pb_H) (a c lo p : Int) : pb_H := fun f m i => if f = 0 ∧ (a ≤ m ∧ m ≤ c) ∧ lo ≤ i ∧ i < p then σ 0 m (i + 1) else σ f m i
theorem g_shift_n {σ : pb_H} {a c lo p : Int} {f : Nat} {m i : Int} (h : ¬ (f = 0 ∧ (a ≤ m ∧ m ≤ c) ∧ lo ≤ i ∧ i < p)) : g_shift σ a c lo p f m i = σ f m i := if_neg h
theorem g_shift_s {σ : pb_H} {a c lo p : Int} {m i : Int} (h1 : a ≤ m ∧ m ≤ c) (h2 : lo ≤ i ∧ i < p) : g_shift σ a c lo p 0 m i = σ 0 m (i + 1) := if_pos ⟨rfl, h1, h2⟩
section MG
variable {x : pb_E} {σ σ' : pb_H} {T : gT} {E : gE} {w : gW} {ν : pb_H} {b s t : Int} {Q : pb_P}
theorem g_shift_up4 {lo p : Int} (hp : lo ≤ p) : pb_up (pb_up (pb_up (pb_up (g_shift σ 182 185 lo p) 0 182 p (σ 0 182 (p + 1))) 0 183 p (σ 0 183 (p + 1))) 0 184 p (σ 0 184 (p + 1))) 0 185 p (σ 0 185 (p + 1)) = g_shift σ 182 185 lo (p + 1) := by
  funext f m i
  by_cases z : f = 0 ∧ (182 ≤ m ∧ m ≤ 185) ∧ lo ≤ i ∧ i < p + 1
  · obtain ⟨rfl, z1, z2, z3⟩ := z
    rw [g_shift_s z1 ⟨z2, z3⟩]
    by_cases z4 : i = p
    · subst z4
      have hm : m = 182 ∨ m = 183 ∨ m = 184 ∨ m = 185 := by omega
      rcases hm with rfl | rfl | rfl | rfl <;> simp only [pb_up_p, pb_up_same, ne_eq, Int.reduceEq, not_false_eq_true]
    · rw [pb_up_i z4, pb_up_i z4, pb_up_i z4, pb_up_i z4, g_shift_s z1 ⟨z2, by omega⟩]
  · rw [g_shift_n z]
    unfold pb_up
    rw [if_neg (by omega), if_neg (by omega), if_neg (by omega), if_neg (by omega), g_shift_n (by omega)]
theorem l_M_upGone {k : Int} (h : RM σ T E w ν) (ht : 0 ≤ t ∧ t < 8) (hk : 0 ≤ k ∧ k < (T.2 t).length) (hQ : Q (.inl 0) (pb_up (g_shift σ 182 185 (8 * t + k) (8 * t + (T.2 t).length - 1)) 0 181 t ((T.2 t).length - 1))) : ∀ (d j : Nat), k + j + d = (T.2 t).length - 1 → pb_WJ x i_M_upGone 213 Q 7 [some (.inr 165), some (.inl t), some (.inl k), some (.inl (8 * t + k + j))] [] 213 (g_shift σ 182 185 (8 * t + k) (8 * t + k + j)) := by
  intro d
  obtain ⟨l1, l2, l3⟩ := h.2.2.1 t ht.1 ht.2
  have e0 : pb_mul 8 t = 8 * t := by unfold pb_mul; exact pb_w_id (by unfold pb_R; omega)
  have e1 : pb_w (8 * t + (T.2 t).length) = 8 * t + (T.2 t).length := pb_w_id (by unfold pb_R; omega)
  have e2 : pb_w (((T.2 t).length : Int) - 1) = (T.2 t).length - 1 := pb_w_id (by unfold pb_R; omega)
  have hr : ∀ (q : Int) (f : Nat), f ≠ 0 → ∀ p i, g_shift σ 182 185 (8 * t + k) q f p i = σ f p i := fun q f hf p i => g_shift_n (fun z => hf z.1)
  have hl : ∀ q, g_shift σ 182 185 (8 * t + k) q 0 181 t = (T.2 t).length := fun q => by rw [g_shift_n (by omega)]; exact l1
  induction d with
  | zero =>
    intro j hj
    have e3 : pb_w (8 * t + k + j + 1) = 8 * t + k + j + 1 := pb_w_id (by unfold pb_R; omega)
    refine pb_s_M_upGone_7 x 213 Q _ _ _ _ ?_
    simp only [pb_b_M_upGone_7, pb_b_M_upGone_86, pb_iconst, pb_null, pb_iload, pb_aload, pb_istore, pb_astore, pb_iinc, pb_bin, pb_bin0, pb_dup, pb_pop, pb_dup2, pb_if, pb_icmp, pb_ifnull, pb_getI, pb_getR, pb_putI, pb_putZ, pb_putR, pb_alen, pb_ald, pb_aldR, pb_ast, pb_astZ, pb_astR, pb_vret, pb_iret, pb_zret, pb_aret, pb_cv, pb_cr, pb_sr, pb_switch, pb_sw, pb_nth, pb_set, pb_tk, pb_add, pb_sub, List.length_cons, List.length_nil, true_or, or_true, true_and, and_true, and_self, pb_up_same, pb_up_f, ne_eq, Nat.reduceEqDiff, not_false_eq_true, Nat.reduceAdd, Nat.reduceLeDiff, Nat.zero_le, hr _ _ (show 716 ≠ 0 by decide), hr _ _ (show 717 ≠ 0 by decide), is_M, mf_length h.1, mk_length, ml_length, mf_kind h.1, mk_kind, ml_kind, mf_reference h.1, mk_reference, ml_reference, mf_value h.1, mk_value, ml_value, mf_failed h.1, mk_failed, ml_failed, hl, e0, e1, e2, e3]
    refine ⟨by omega, fun _ => ⟨by omega, ?_⟩, fun z => absurd z (by omega)⟩
    rw [show 8 * t + k + j = 8 * t + (T.2 t).length - 1 by omega]
    exact ⟨ht, hQ⟩
  | succ d ih =>
    intro j hj
    have e3 : pb_w (8 * t + k + j + 1) = 8 * t + k + j + 1 := pb_w_id (by unfold pb_R; omega)
    have hv : ∀ p, g_shift σ 182 185 (8 * t + k) (8 * t + k + j) 0 p (8 * t + k + j + 1) = σ 0 p (8 * t + k + j + 1) := fun p => g_shift_n (by omega)
    refine pb_s_M_upGone_7 x 213 Q _ _ _ _ ?_
    simp only [pb_b_M_upGone_7, pb_iconst, pb_null, pb_iload, pb_aload, pb_istore, pb_astore, pb_iinc, pb_bin, pb_bin0, pb_dup, pb_pop, pb_dup2, pb_if, pb_icmp, pb_ifnull, pb_getI, pb_getR, pb_putI, pb_putZ, pb_putR, pb_alen, pb_ald, pb_aldR, pb_ast, pb_astZ, pb_astR, pb_vret, pb_iret, pb_zret, pb_aret, pb_cv, pb_cr, pb_sr, pb_switch, pb_sw, pb_nth, pb_set, pb_tk, pb_add, pb_sub, List.length_cons, List.length_nil, true_or, or_true, true_and, and_true, and_self, pb_up_same, pb_up_f, ne_eq, Nat.reduceEqDiff, not_false_eq_true, Nat.reduceAdd, Nat.reduceLeDiff, Nat.zero_le, hr _ _ (show 716 ≠ 0 by decide), hr _ _ (show 717 ≠ 0 by decide), hr _ _ (show 718 ≠ 0 by decide), hr _ _ (show 719 ≠ 0 by decide), hr _ _ (show 720 ≠ 0 by decide), is_M, mf_length h.1, mk_length, ml_length, mf_kind h.1, mk_kind, ml_kind, mf_reference h.1, mk_reference, ml_reference, mf_value h.1, mk_value, ml_value, mf_failed h.1, mk_failed, ml_failed, hl, e0, e1, e2, e3, pb_up_p, Int.reduceEq, hv]
    refine ⟨by omega, fun z => absurd z (by omega), fun _ => ⟨by omega, by omega, by omega, by omega, by omega, by omega, by omega, by omega, ?_⟩⟩
    rw [g_shift_up4 (by omega)]
    have := ih (j + 1) (by omega)
    rw [show 8 * t + k + ((j + 1 : Nat) : Int) = 8 * t + k + j + 1 by omega] at this
    exact this
theorem c_M_upGone {k : Nat} (h : RM σ T E w ν) (ht : 0 ≤ t ∧ t < 8) (hk : k < (T.2 t).length) (hQ : ∀ σ', RM σ' (gt_row T t ((T.2 t).eraseIdx k)) E w ν → Q (.inl 0) σ') : pb_MJ x i_M_upGone [.inr 165, .inl t, .inl k] 213 σ Q := by
  refine pb_m_M_upGone ?_
  obtain ⟨l1, l2, l3⟩ := h.2.2.1 t ht.1 ht.2
  have e0 : pb_mul 8 t = 8 * t := by unfold pb_mul; exact pb_w_id (by unfold pb_R; omega)
  have e1 : pb_w (8 * t + (k : Int)) = 8 * t + k := pb_w_id (by unfold pb_R; omega)
  simp only [pb_b_M_upGone_0, pb_iconst, pb_null, pb_iload, pb_aload, pb_istore, pb_astore, pb_iinc, pb_bin, pb_bin0, pb_dup, pb_pop, pb_dup2, pb_if, pb_icmp, pb_ifnull, pb_getI, pb_getR, pb_putI, pb_putZ, pb_putR, pb_alen, pb_ald, pb_aldR, pb_ast, pb_astZ, pb_astR, pb_vret, pb_iret, pb_zret, pb_aret, pb_cv, pb_cr, pb_sr, pb_switch, pb_sw, pb_nth, pb_set, pb_tk, pb_add, pb_sub, List.length_cons, List.length_nil, true_or, or_true, true_and, and_true, and_self, pb_up_same, pb_up_f, ne_eq, Nat.reduceEqDiff, not_false_eq_true, Nat.reduceAdd, Nat.reduceLeDiff, Nat.zero_le, e0, e1]
  have hs : ∀ τ : pb_H, ∀ lo : Int, g_shift τ 182 185 lo lo = τ := by
    intro τ lo
    funext f m i
    exact g_shift_n (by omega)
  have := l_M_upGone (x := x) (Q := Q) (k := k) h ht ⟨by omega, by omega⟩ (hQ _ ?_) ((T.2 t).length - 1 - k) 0 (by omega)
  · rw [show (8 * t + (k : Int) + ((0 : Nat) : Int)) = 8 * t + k by omega, hs] at this
    exact this
  · have hlen : ((T.2 t).eraseIdx k).length = (T.2 t).length - 1 := by rw [List.length_eraseIdx, if_pos hk]
    refine rm_rowU h (fun f p i hn => ?_) (fun t' z' => ?_) (fun p i q1 q2 q3 => ?_) (by omega) (by rw [pb_up_same, hlen]; omega) (fun i f hi => ?_)
    · rw [pb_up_k (by omega), g_shift_n (by omega)]
    · rw [pb_up_i z', g_shift_n (by omega)]
    · rw [pb_up_p (by omega), g_shift_n (by omega)]
    · rw [pb_up_p (by decide), pb_up_p (by decide), pb_up_p (by decide), pb_up_p (by decide)]
      have hi9 := (List.getElem?_eq_some_iff.mp hi).1
      rw [List.getElem?_eraseIdx] at hi
      by_cases z : i < k
      · rw [if_pos z] at hi
        rw [g_shift_n (by omega), g_shift_n (by omega), g_shift_n (by omega), g_shift_n (by omega)]
        exact l3 i f hi
      · rw [if_neg z] at hi
        rw [g_shift_s (by omega) (by omega), g_shift_s (by omega) (by omega), g_shift_s (by omega) (by omega), g_shift_s (by omega) (by omega)]
        have := l3 (i + 1) f hi
        rw [show (8 * t + ((i + 1 : Nat) : Int)) = 8 * t + i + 1 by omega] at this
        exact this
end MG
