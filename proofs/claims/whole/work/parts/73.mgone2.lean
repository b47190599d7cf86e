section MH
variable {x : pb_E} {σ σ' : pb_H} {T : gT} {E : gE} {w : gW} {ν : pb_H} {b s t : Int} {Q : pb_P}
theorem g_shift_up5 {lo p : Int} (hp : lo ≤ p) : pb_up (pb_up (pb_up (pb_up (pb_up (g_shift σ 187 191 lo p) 0 187 p (σ 0 187 (p + 1))) 0 188 p (σ 0 188 (p + 1))) 0 189 p (σ 0 189 (p + 1))) 0 190 p (σ 0 190 (p + 1))) 0 191 p (σ 0 191 (p + 1)) = g_shift σ 187 191 lo (p + 1) := by
  funext f m i
  by_cases z : f = 0 ∧ (187 ≤ m ∧ m ≤ 191) ∧ lo ≤ i ∧ i < p + 1
  · obtain ⟨rfl, z1, z2, z3⟩ := z
    rw [g_shift_s z1 ⟨z2, z3⟩]
    by_cases z4 : i = p
    · subst z4
      have hm : m = 187 ∨ m = 188 ∨ m = 189 ∨ m = 190 ∨ m = 191 := by omega
      rcases hm with rfl | rfl | rfl | rfl | rfl <;> simp only [pb_up_p, pb_up_same, ne_eq, Int.reduceEq, not_false_eq_true]
    · rw [pb_up_i z4, pb_up_i z4, pb_up_i z4, pb_up_i z4, pb_up_i z4, g_shift_s z1 ⟨z2, by omega⟩]
  · rw [g_shift_n z]
    unfold pb_up
    rw [if_neg (by omega), if_neg (by omega), if_neg (by omega), if_neg (by omega), if_neg (by omega), g_shift_n (by omega)]
theorem l_M_downGone {k : Int} (h : RM σ T E w ν) (ht : 0 ≤ t ∧ t < 2) (hk : 0 ≤ k ∧ k < (E.2.1 t).length) (hQ : Q (.inl 0) (pb_up (g_shift σ 187 191 (24 * t + k) (24 * t + (E.2.1 t).length - 1)) 0 186 t ((E.2.1 t).length - 1))) : ∀ (d j : Nat), k + j + d = (E.2.1 t).length - 1 → pb_WJ x i_M_downGone 213 Q 7 [some (.inr 165), some (.inl t), some (.inl k), some (.inl (24 * t + k + j))] [] 213 (g_shift σ 187 191 (24 * t + k) (24 * t + k + j)) := by
  intro d
  obtain ⟨l1, l2, l3⟩ := h.2.2.2.1 t ht.1 ht.2
  have e0 : pb_mul 24 t = 24 * t := by unfold pb_mul; exact pb_w_id (by unfold pb_R; omega)
  have e1 : pb_w (24 * t + (E.2.1 t).length) = 24 * t + (E.2.1 t).length := pb_w_id (by unfold pb_R; omega)
  have e2 : pb_w (((E.2.1 t).length : Int) - 1) = (E.2.1 t).length - 1 := pb_w_id (by unfold pb_R; omega)
  have hr : ∀ (q : Int) (f : Nat), f ≠ 0 → ∀ p i, g_shift σ 187 191 (24 * t + k) q f p i = σ f p i := fun q f hf p i => g_shift_n (fun z => hf z.1)
  have hl : ∀ q, g_shift σ 187 191 (24 * t + k) q 0 186 t = (E.2.1 t).length := fun q => by rw [g_shift_n (by omega)]; exact l1
  induction d with
  | zero =>
    intro j hj
    have e3 : pb_w (24 * t + k + j + 1) = 24 * t + k + j + 1 := pb_w_id (by unfold pb_R; omega)
    refine pb_s_M_downGone_7 x 213 Q _ _ _ _ ?_
    simp only [pb_b_M_downGone_7, pb_b_M_downGone_100, pb_iconst, pb_null, pb_iload, pb_aload, pb_istore, pb_astore, pb_iinc, pb_bin, pb_bin0, pb_dup, pb_pop, pb_dup2, pb_if, pb_icmp, pb_ifnull, pb_getI, pb_getR, pb_putI, pb_putZ, pb_putR, pb_alen, pb_ald, pb_aldR, pb_ast, pb_astZ, pb_astR, pb_vret, pb_iret, pb_zret, pb_aret, pb_cv, pb_cr, pb_sr, pb_switch, pb_sw, pb_nth, pb_set, pb_tk, pb_add, pb_sub, List.length_cons, List.length_nil, true_or, or_true, true_and, and_true, and_self, pb_up_same, pb_up_f, ne_eq, Nat.reduceEqDiff, not_false_eq_true, Nat.reduceAdd, Nat.reduceLeDiff, Nat.zero_le, hr _ _ (show 721 ≠ 0 by decide), hr _ _ (show 722 ≠ 0 by decide), is_M, mf_rows h.1, mk_rows, ml_rows, mf_downKind h.1, mk_downKind, ml_downKind, mf_downTo h.1, mk_downTo, ml_downTo, mf_downReference h.1, mk_downReference, ml_downReference, mf_downValue h.1, mk_downValue, ml_downValue, mf_downFailed h.1, mk_downFailed, ml_downFailed, hl, e0, e1, e2, e3]
    refine ⟨by omega, fun _ => ⟨by omega, ?_⟩, fun z => absurd z (by omega)⟩
    rw [show 24 * t + k + j = 24 * t + (E.2.1 t).length - 1 by omega]
    exact ⟨ht, hQ⟩
  | succ d ih =>
    intro j hj
    have e3 : pb_w (24 * t + k + j + 1) = 24 * t + k + j + 1 := pb_w_id (by unfold pb_R; omega)
    have hv : ∀ p, g_shift σ 187 191 (24 * t + k) (24 * t + k + j) 0 p (24 * t + k + j + 1) = σ 0 p (24 * t + k + j + 1) := fun p => g_shift_n (by omega)
    refine pb_s_M_downGone_7 x 213 Q _ _ _ _ ?_
    simp only [pb_b_M_downGone_7, pb_iconst, pb_null, pb_iload, pb_aload, pb_istore, pb_astore, pb_iinc, pb_bin, pb_bin0, pb_dup, pb_pop, pb_dup2, pb_if, pb_icmp, pb_ifnull, pb_getI, pb_getR, pb_putI, pb_putZ, pb_putR, pb_alen, pb_ald, pb_aldR, pb_ast, pb_astZ, pb_astR, pb_vret, pb_iret, pb_zret, pb_aret, pb_cv, pb_cr, pb_sr, pb_switch, pb_sw, pb_nth, pb_set, pb_tk, pb_add, pb_sub, List.length_cons, List.length_nil, true_or, or_true, true_and, and_true, and_self, pb_up_same, pb_up_f, ne_eq, Nat.reduceEqDiff, not_false_eq_true, Nat.reduceAdd, Nat.reduceLeDiff, Nat.zero_le, hr _ _ (show 721 ≠ 0 by decide), hr _ _ (show 722 ≠ 0 by decide), hr _ _ (show 723 ≠ 0 by decide), hr _ _ (show 724 ≠ 0 by decide), hr _ _ (show 725 ≠ 0 by decide), hr _ _ (show 726 ≠ 0 by decide), is_M, mf_rows h.1, mk_rows, ml_rows, mf_downKind h.1, mk_downKind, ml_downKind, mf_downTo h.1, mk_downTo, ml_downTo, mf_downReference h.1, mk_downReference, ml_downReference, mf_downValue h.1, mk_downValue, ml_downValue, mf_downFailed h.1, mk_downFailed, ml_downFailed, hl, e0, e1, e2, e3, pb_up_p, Int.reduceEq, hv]
    refine ⟨by omega, fun z => absurd z (by omega), fun _ => ⟨by omega, by omega, by omega, by omega, by omega, by omega, by omega, by omega, by omega, by omega, ?_⟩⟩
    rw [g_shift_up5 (by omega)]
    have := ih (j + 1) (by omega)
    rw [show 24 * t + k + ((j + 1 : Nat) : Int) = 24 * t + k + j + 1 by omega] at this
    exact this
theorem c_M_downGone {k : Nat} (h : RM σ T E w ν) (ht : 0 ≤ t ∧ t < 2) (hk : k < (E.2.1 t).length) (hQ : ∀ σ', RM σ' T (ge_row E t ((E.2.1 t).eraseIdx k)) w ν → Q (.inl 0) σ') : pb_MJ x i_M_downGone [.inr 165, .inl t, .inl k] 213 σ Q := by
  refine pb_m_M_downGone ?_
  obtain ⟨l1, l2, l3⟩ := h.2.2.2.1 t ht.1 ht.2
  have e0 : pb_mul 24 t = 24 * t := by unfold pb_mul; exact pb_w_id (by unfold pb_R; omega)
  have e1 : pb_w (24 * t + (k : Int)) = 24 * t + k := pb_w_id (by unfold pb_R; omega)
  simp only [pb_b_M_downGone_0, pb_iconst, pb_null, pb_iload, pb_aload, pb_istore, pb_astore, pb_iinc, pb_bin, pb_bin0, pb_dup, pb_pop, pb_dup2, pb_if, pb_icmp, pb_ifnull, pb_getI, pb_getR, pb_putI, pb_putZ, pb_putR, pb_alen, pb_ald, pb_aldR, pb_ast, pb_astZ, pb_astR, pb_vret, pb_iret, pb_zret, pb_aret, pb_cv, pb_cr, pb_sr, pb_switch, pb_sw, pb_nth, pb_set, pb_tk, pb_add, pb_sub, List.length_cons, List.length_nil, true_or, or_true, true_and, and_true, and_self, pb_up_same, pb_up_f, ne_eq, Nat.reduceEqDiff, not_false_eq_true, Nat.reduceAdd, Nat.reduceLeDiff, Nat.zero_le, e0, e1]
  have hs : ∀ τ : pb_H, ∀ lo : Int, g_shift τ 187 191 lo lo = τ := by
    intro τ lo
    funext f m i
    exact g_shift_n (by omega)
  have := l_M_downGone (x := x) (Q := Q) (k := k) h ht ⟨by omega, by omega⟩ (hQ _ ?_) ((E.2.1 t).length - 1 - k) 0 (by omega)
  · rw [show (24 * t + (k : Int) + ((0 : Nat) : Int)) = 24 * t + k by omega, hs] at this
    exact this
  · have hlen : ((E.2.1 t).eraseIdx k).length = (E.2.1 t).length - 1 := by rw [List.length_eraseIdx, if_pos hk]
    refine rm_rowD h (fun f p i hn => ?_) (fun t' z' => ?_) (fun p i q1 q2 q3 => ?_) (by omega) (by rw [pb_up_same, hlen]; omega) (fun i f hi => ?_)
    · rw [pb_up_k (by omega), g_shift_n (by omega)]
    · rw [pb_up_i z', g_shift_n (by omega)]
    · rw [pb_up_p (by omega), g_shift_n (by omega)]
    · rw [pb_up_p (by decide), pb_up_p (by decide), pb_up_p (by decide), pb_up_p (by decide), pb_up_p (by decide)]
      have hi9 := (List.getElem?_eq_some_iff.mp hi).1
      rw [List.getElem?_eraseIdx] at hi
      by_cases z : i < k
      · rw [if_pos z] at hi
        rw [g_shift_n (by omega), g_shift_n (by omega), g_shift_n (by omega), g_shift_n (by omega), g_shift_n (by omega)]
        exact l3 i f hi
      · rw [if_neg z] at hi
        rw [g_shift_s (by omega) (by omega), g_shift_s (by omega) (by omega), g_shift_s (by omega) (by omega), g_shift_s (by omega) (by omega), g_shift_s (by omega) (by omega)]
        have := l3 (i + 1) f hi
        rw [show (24 * t + ((i + 1 : Nat) : Int)) = 24 * t + i + 1 by omega] at this
        exact this
end MH
