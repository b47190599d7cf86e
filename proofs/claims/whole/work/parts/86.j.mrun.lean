/-! ticks of the other side -/
theorem pb_up_up {σ : pb_H} {f : Nat} {p i y z : Int} : pb_up (pb_up σ f p i y) f p i z = pb_up σ f p i z := by
  funext f' p' i'
  unfold pb_up
  split <;> rfl
section MRN
variable {x : pb_E} {σ σ' : pb_H} {T : gT} {E : gE} {w : gW} {ν : pb_H} {b a s t u r ch : Int} {Q : pb_P} {i : Nat} {n : Int} {v : Int → Int} {m : Nat} {f : gC} {S : gT × gE}
theorem rm_ticks {z : Int} (h : RM σ T E w ν) : RM (pb_up σ 749 165 0 z) T (ge_set E 9 0 z) w ν := by
  obtain ⟨h1, h2, h3, h4, h5, h6, h7, h8, h9⟩ := h
  refine ⟨h1.cg (fun f i q1 q2 => pb_up_f (by omega)), h2.cg (fun p i q1 q2 => pb_up_f (by decide)), h3.cg (fun p i q1 q2 => pb_up_f (by decide)), h4.cg (fun p i q1 q2 => pb_up_f (by decide)), ?_, ?_, ?_, h8.cg (fun p i q1 q2 => pb_up_f (by decide)), fun f p i hk => ?_⟩
  · have m5' : rm_L (pb_up σ 749 165 0 z) E.1 := h5.cg (fun p i q1 q2 => pb_up_f (by decide))
    intro t q1 q2
    have := m5' t q1 q2
    rw [ge_set_n (by decide), ge_set_n (by decide), ge_set_n (by decide), ge_set_n (by decide), ge_set_n (by decide), ge_set_n (by decide)]
    exact this
  · have m6' : rm_B (pb_up σ 749 165 0 z) E.1 := h6.cg (fun p i q1 q2 => pb_up_f (by decide))
    intro t q1 q2
    have := m6' t q1 q2
    rw [ge_set_n (by decide), ge_set_n (by decide)]
    exact this
  · refine ⟨?_, ?_⟩
    · rw [pb_up_f (by decide), ge_set_n (by decide)]
      exact h7.1
    · rw [pb_up_same]
      exact (g_up_s E.1 9 0 z).symm
  · rw [pb_up_k (fun y => hk (by unfold k_K; omega))]
    exact h9 f p i hk
theorem l_M_run27 {N k a : Int} {v : Int → Int} (hb : 0 ≤ b ∧ b < 2) (ha : pb_R a) (h : RM σ S.1 S.2 (v, fun _ => False) (pb_up ν 750 165 0 a)) (hi : Inv (m + 1) S.1 S.2) (hN : ∀ σ' v', RM σ' (g_half S b).1 (g_half S b).2 (v', fun _ => False) (pb_up ν 750 165 0 (g_cnt S b a)) → pb_WJ x i_M_run 213 Q 27 [some (.inr 165), some (.inl N), some (.inl k), some (.inl (b + 1))] [] 213 σ') : pb_WJ x i_M_run 213 Q 27 [some (.inr 165), some (.inl N), some (.inl k), some (.inl b)] [] 213 σ := by
  have eb : pb_w (b + 1) = b + 1 := pb_w_id (by unfold pb_R; omega)
  have e0 : pb_w (a + 0) = a := by rw [Int.add_zero]; exact pb_w_id ha
  refine pb_s_M_run_27 x 213 Q _ _ _ _ ?_
  simp only [pb_b_M_run_27, pb_iconst, pb_null, pb_iload, pb_aload, pb_istore, pb_astore, pb_iinc, pb_bin, pb_bin0, pb_dup, pb_pop, pb_dup2, pb_if, pb_icmp, pb_ifnull, pb_getI, pb_getR, pb_putI, pb_putZ, pb_putR, pb_alen, pb_ald, pb_aldR, pb_ast, pb_astZ, pb_astR, pb_vret, pb_iret, pb_zret, pb_aret, pb_cv, pb_cr, pb_sr, pb_switch, pb_sw, pb_nth, pb_set, pb_tk, pb_add, pb_sub, List.length_cons, List.length_nil, true_or, or_true, true_and, and_true, and_self, pb_up_same, pb_up_f, ne_eq, Nat.reduceEqDiff, not_false_eq_true, Nat.reduceAdd, Nat.reduceLeDiff, Nat.zero_le, is_M]
  refine ⟨fun z => absurd z (by omega), fun _ => ?_⟩
  refine c_M_upStep h hb hi (fun σ1 v1 h1 => ?_)
  try simp only [pb_iconst, pb_null, pb_iload, pb_aload, pb_istore, pb_astore, pb_iinc, pb_bin, pb_bin0, pb_dup, pb_pop, pb_dup2, pb_if, pb_icmp, pb_ifnull, pb_getI, pb_getR, pb_putI, pb_putZ, pb_putR, pb_alen, pb_ald, pb_aldR, pb_ast, pb_astZ, pb_astR, pb_vret, pb_iret, pb_zret, pb_aret, pb_cv, pb_cr, pb_sr, pb_switch, pb_sw, pb_nth, pb_set, pb_tk, pb_add, pb_sub, List.length_cons, List.length_nil, true_or, or_true, true_and, and_true, and_self, pb_up_same, pb_up_f, ne_eq, Nat.reduceEqDiff, not_false_eq_true, Nat.reduceAdd, Nat.reduceLeDiff, Nat.zero_le, is_M]
  have hi2 := inv_inv.2.1 _ _ _ b hb hi
  have en : (if g_upW S.1 b = -1 then pb_up ν 750 165 0 a else pb_up (pb_up ν 750 165 0 a) 750 165 0 (pb_w (pb_up ν 750 165 0 a 750 165 0 + 1))) = pb_up ν 750 165 0 (pb_w (a + (if g_upW S.1 b = -1 then 0 else 1))) := by
    split
    · rw [e0]
    · rw [pb_up_up, pb_up_same]
  rw [en] at h1
  refine c_M_downStep h1 hb hi2 (fun σ2 v2 h2 => ?_)
  try simp only [pb_iconst, pb_null, pb_iload, pb_aload, pb_istore, pb_astore, pb_iinc, pb_bin, pb_bin0, pb_dup, pb_pop, pb_dup2, pb_if, pb_icmp, pb_ifnull, pb_getI, pb_getR, pb_putI, pb_putZ, pb_putR, pb_alen, pb_ald, pb_aldR, pb_ast, pb_astZ, pb_astR, pb_vret, pb_iret, pb_zret, pb_aret, pb_cv, pb_cr, pb_sr, pb_switch, pb_sw, pb_nth, pb_set, pb_tk, pb_add, pb_sub, List.length_cons, List.length_nil, true_or, or_true, true_and, and_true, and_self, pb_up_same, pb_up_f, ne_eq, Nat.reduceEqDiff, not_false_eq_true, Nat.reduceAdd, Nat.reduceLeDiff, Nat.zero_le, eb]
  refine hN σ2 v2 ?_
  generalize ha' : pb_w (a + (if g_upW S.1 b = -1 then 0 else 1)) = a' at h2
  have hR : pb_R a' := by rw [← ha']; exact pb_w_R _
  have e1 : pb_w (a' + 0) = a' := by rw [Int.add_zero]; exact pb_w_id hR
  have en2 : (if (g_upE S.1 S.2 b).2.1 b = [] then pb_up ν 750 165 0 a' else pb_up (pb_up ν 750 165 0 a') 750 165 0 (pb_w (pb_up ν 750 165 0 a' 750 165 0 + 1))) = pb_up ν 750 165 0 (g_cnt S b a) := by
    unfold g_cnt
    rw [ha']
    split
    · rw [e1]
    · rw [pb_up_up, pb_up_same]
  rw [en2] at h2
  exact h2
theorem g_cnt_R (S : gT × gE) (b a : Int) : pb_R (g_cnt S b a) := pb_w_R _
theorem g_runC_R (S : gT × gE) : ∀ k, pb_R (g_runC S k)
  | 0 => pb_R0
  | _ + 1 => g_cnt_R _ _ _
theorem l_M_run20 {N : Nat} (hn : N ≤ 60) (hi : Inv (2 * N) S.1 S.2) (hQ : ∀ σ' v', RM σ' (g_runS S N).1 (g_runS S N).2 (v', fun _ => False) (pb_up ν 750 165 0 (g_runC S N)) → Q (.inl (g_runC S N)) σ') : ∀ (d k : Nat), k + d = N → ∀ (σ : pb_H) (v : Int → Int) (o : Option pb_V), RM σ (g_runS S k).1 (g_runS S k).2 (v, fun _ => False) (pb_up ν 750 165 0 (g_runC S k)) → pb_WJ x i_M_run 213 Q 20 [some (.inr 165), some (.inl N), some (.inl k), o] [] 213 σ := by
  intro d
  induction d with
  | zero =>
    intro k hk σ v o h
    obtain rfl : k = N := by omega
    have hse := r_sent h
    rw [pb_up_same] at hse
    refine pb_s_M_run_20 x 213 Q _ _ _ _ ?_
    simp only [pb_b_M_run_20, pb_b_M_run_72, pb_iconst, pb_null, pb_iload, pb_aload, pb_istore, pb_astore, pb_iinc, pb_bin, pb_bin0, pb_dup, pb_pop, pb_dup2, pb_if, pb_icmp, pb_ifnull, pb_getI, pb_getR, pb_putI, pb_putZ, pb_putR, pb_alen, pb_ald, pb_aldR, pb_ast, pb_astZ, pb_astR, pb_vret, pb_iret, pb_zret, pb_aret, pb_cv, pb_cr, pb_sr, pb_switch, pb_sw, pb_nth, pb_set, pb_tk, pb_add, pb_sub, List.length_cons, List.length_nil, true_or, or_true, true_and, and_true, and_self, pb_up_same, pb_up_f, ne_eq, Nat.reduceEqDiff, not_false_eq_true, Nat.reduceAdd, Nat.reduceLeDiff, Nat.zero_le, is_M, hse]
    exact ⟨fun _ => hQ _ _ h, fun z => absurd z (by omega)⟩
  | succ d ih =>
    intro k hk σ v o h
    have e : pb_w ((k : Int) + 1) = ((k + 1 : Nat) : Int) := by rw [pb_w_id (by unfold pb_R; omega)]; omega
    have hi1 := inv_inv.run (S := S) k (2 * d + 2) (by rw [show 2 * d + 2 + 2 * k = 2 * N by omega]; exact hi)
    have hi2 := inv_inv.half (b := 0) (by omega) hi1
    have hi3 := inv_inv.half (b := 1) (by omega) hi2
    refine pb_s_M_run_20 x 213 Q _ _ _ _ ?_
    simp only [pb_b_M_run_20, pb_iconst, pb_null, pb_iload, pb_aload, pb_istore, pb_astore, pb_iinc, pb_bin, pb_bin0, pb_dup, pb_pop, pb_dup2, pb_if, pb_icmp, pb_ifnull, pb_getI, pb_getR, pb_putI, pb_putZ, pb_putR, pb_alen, pb_ald, pb_aldR, pb_ast, pb_astZ, pb_astR, pb_vret, pb_iret, pb_zret, pb_aret, pb_cv, pb_cr, pb_sr, pb_switch, pb_sw, pb_nth, pb_set, pb_tk, pb_add, pb_sub, List.length_cons, List.length_nil, true_or, or_true, true_and, and_true, and_self, pb_up_same, pb_up_f, ne_eq, Nat.reduceEqDiff, not_false_eq_true, Nat.reduceAdd, Nat.reduceLeDiff, Nat.zero_le]
    refine ⟨fun z => absurd z (by omega), fun _ => ?_⟩
    refine l_M_run27 (b := 0) (by omega) (g_runC_R S k) h hi1 (fun σ1 v1 h1 => l_M_run27 (b := 0 + 1) (by omega) (g_cnt_R _ _ _) h1 hi2 (fun σ2 v2 h2 => ?_))
    refine pb_s_M_run_27 x 213 Q _ _ _ _ ?_
    simp only [pb_b_M_run_27, pb_b_M_run_48, pb_iconst, pb_null, pb_iload, pb_aload, pb_istore, pb_astore, pb_iinc, pb_bin, pb_bin0, pb_dup, pb_pop, pb_dup2, pb_if, pb_icmp, pb_ifnull, pb_getI, pb_getR, pb_putI, pb_putZ, pb_putR, pb_alen, pb_ald, pb_aldR, pb_ast, pb_astZ, pb_astR, pb_vret, pb_iret, pb_zret, pb_aret, pb_cv, pb_cr, pb_sr, pb_switch, pb_sw, pb_nth, pb_set, pb_tk, pb_add, pb_sub, List.length_cons, List.length_nil, true_or, or_true, true_and, and_true, and_self, pb_up_same, pb_up_f, ne_eq, Nat.reduceEqDiff, not_false_eq_true, Nat.reduceAdd, Nat.reduceLeDiff, Nat.zero_le, is_M]
    refine ⟨fun _ => ?_, fun z => absurd (by decide) z⟩
    refine c_M_clocks h2 hi3 (fun σ3 h3 => ?_)
    try simp only [pb_iconst, pb_null, pb_iload, pb_aload, pb_istore, pb_astore, pb_iinc, pb_bin, pb_bin0, pb_dup, pb_pop, pb_dup2, pb_if, pb_icmp, pb_ifnull, pb_getI, pb_getR, pb_putI, pb_putZ, pb_putR, pb_alen, pb_ald, pb_aldR, pb_ast, pb_astZ, pb_astR, pb_vret, pb_iret, pb_zret, pb_aret, pb_cv, pb_cr, pb_sr, pb_switch, pb_sw, pb_nth, pb_set, pb_tk, pb_add, pb_sub, List.length_cons, List.length_nil, true_or, or_true, true_and, and_true, and_self, pb_up_same, pb_up_f, ne_eq, Nat.reduceEqDiff, not_false_eq_true, Nat.reduceAdd, Nat.reduceLeDiff, Nat.zero_le, is_M]
    have hic : Inv (2 * d) (gt_clocks (g_half (g_half (g_runS S k) 0) 1).1) (ge_clocks (g_half (g_half (g_runS S k) 0) 1).2) := hi3.ie.clocks.inv hi3.1.clocks
    refine c_M_speak h3 hic (fun σ4 h4 => ?_)
    have hti := h4.2.2.2.2.2.2.1.2
    try simp only [pb_iconst, pb_null, pb_iload, pb_aload, pb_istore, pb_astore, pb_iinc, pb_bin, pb_bin0, pb_dup, pb_pop, pb_dup2, pb_if, pb_icmp, pb_ifnull, pb_getI, pb_getR, pb_putI, pb_putZ, pb_putR, pb_alen, pb_ald, pb_aldR, pb_ast, pb_astZ, pb_astR, pb_vret, pb_iret, pb_zret, pb_aret, pb_cv, pb_cr, pb_sr, pb_switch, pb_sw, pb_nth, pb_set, pb_tk, pb_add, pb_sub, List.length_cons, List.length_nil, true_or, or_true, true_and, and_true, and_self, pb_up_same, pb_up_f, ne_eq, Nat.reduceEqDiff, not_false_eq_true, Nat.reduceAdd, Nat.reduceLeDiff, Nat.zero_le, is_M, hti, e]
    exact ih (k + 1) (by omega) _ _ _ (rm_ticks h4)
theorem c_M_run {N : Int} (h : RM σ S.1 S.2 (v, fun _ => False) ν) (hi : 1 ≤ N ∧ N ≤ 60 → Inv (2 * N.toNat) S.1 S.2) (h1 : 1 ≤ N ∧ N ≤ 60 → ∀ σ' v', RM σ' (g_runS S N.toNat).1 (g_runS S N.toNat).2 (v', fun _ => False) (pb_up ν 750 165 0 (g_runC S N.toNat)) → Q (.inl (g_runC S N.toNat)) σ') (h0 : ¬ (1 ≤ N ∧ N ≤ 60) → Q (.inl (-1)) σ) : pb_MJ x i_M_run [.inr 165, .inl N] 213 σ Q := by
  refine pb_m_M_run ?_
  simp only [pb_b_M_run_0, pb_b_M_run_11, pb_b_M_run_13, pb_iconst, pb_null, pb_iload, pb_aload, pb_istore, pb_astore, pb_iinc, pb_bin, pb_bin0, pb_dup, pb_pop, pb_dup2, pb_if, pb_icmp, pb_ifnull, pb_getI, pb_getR, pb_putI, pb_putZ, pb_putR, pb_alen, pb_ald, pb_aldR, pb_ast, pb_astZ, pb_astR, pb_vret, pb_iret, pb_zret, pb_aret, pb_cv, pb_cr, pb_sr, pb_switch, pb_sw, pb_nth, pb_set, pb_tk, pb_add, pb_sub, List.length_cons, List.length_nil, true_or, or_true, true_and, and_true, and_self, pb_up_same, pb_up_f, ne_eq, Nat.reduceEqDiff, not_false_eq_true, Nat.reduceAdd, Nat.reduceLeDiff, Nat.zero_le, is_M]
  refine ⟨fun z => h0 (by omega), fun z => ⟨fun z2 => ?_, fun z2 => h0 (by omega)⟩⟩
  have h2 := l_M_run20 (x := x) (Q := Q) (ν := ν) (N := N.toNat) (by omega) (hi ⟨by omega, by omega⟩) (h1 ⟨by omega, by omega⟩) N.toNat 0 (Nat.zero_add _) _ v none (rm_sent (z := 0) h)
  rw [show ((N.toNat : Nat) : Int) = N by omega] at h2
  exact h2
theorem g_phaseK_none {c : List gC} {num : Int} : ∀ (d k : Nat), (∀ (j : Nat) (f : gC), c[j]? = some f → ¬ f 1 = num) → g_phaseK c num d k = 0 := by
  intro d
  induction d with
  | zero => exact fun _ _ => rfl
  | succ d ih =>
    intro k h
    unfold g_phaseK
    cases hc : c[k]? with
    | none => rfl
    | some f =>
      dsimp only
      rw [if_neg (h k f hc)]
      exact ih (k + 1) h
theorem g_phaseK_some {c : List gC} {num : Int} (hi : c[i]? = some f) (hf : f 1 = num) : ∀ (d k : Nat), k ≤ i → i < k + d → (∀ (j : Nat) (g : gC), j < i → c[j]? = some g → ¬ g 1 = num) → g_phaseK c num d k = f 2 := by
  intro d
  induction d with
  | zero => exact fun k q1 q2 _ => absurd q1 (by omega)
  | succ d ih =>
    intro k q1 q2 h
    unfold g_phaseK
    by_cases z : k = i
    · subst z
      rw [hi]
      dsimp only
      rw [if_pos hf]
    · have hl := (List.getElem?_eq_some_iff.mp hi).1
      have hk : c[k]? = some c[k] := List.getElem?_eq_getElem (by omega)
      rw [hk]
      dsimp only
      rw [if_neg (h k _ (by omega) hk)]
      exact ih (k + 1) (by omega) (by omega) h
theorem c_M_phase {num : Int} (h : RM σ T E (v, fun _ => False) ν) (hI : Inv m T E) (hQ : Q (.inl (g_phase E.2.2 num)) σ) : pb_MJ x i_M_phase [.inr 165, .inl num] 213 σ Q := by
  obtain ⟨iT, iD, iL, iC, iA, il, iN⟩ := id hI
  refine pb_m_M_phase ?_
  simp only [pb_b_M_phase_0, pb_iconst, pb_null, pb_iload, pb_aload, pb_istore, pb_astore, pb_iinc, pb_bin, pb_bin0, pb_dup, pb_pop, pb_dup2, pb_if, pb_icmp, pb_ifnull, pb_getI, pb_getR, pb_putI, pb_putZ, pb_putR, pb_alen, pb_ald, pb_aldR, pb_ast, pb_astZ, pb_astR, pb_vret, pb_iret, pb_zret, pb_aret, pb_cv, pb_cr, pb_sr, pb_switch, pb_sw, pb_nth, pb_set, pb_tk, pb_add, pb_sub, List.length_cons, List.length_nil, true_or, or_true, true_and, and_true, and_self, pb_up_same, pb_up_f, ne_eq, Nat.reduceEqDiff, not_false_eq_true, Nat.reduceAdd, Nat.reduceLeDiff, Nat.zero_le, is_M]
  refine c_M_callOf h iC.num (fun i f q1 q2 q3 => ?_) (fun q => ?_)
  · have rr : (0 ≤ v (f 1) ∧ v (f 1) < 4) ∧ rm_1 σ (v (f 1)) f := r_1 h q1 q2
    have e : g_phase E.2.2 num = f 2 := g_phaseK_some q1 q3 _ 0 (Nat.zero_le _) (by have := (List.getElem?_eq_some_iff.mp q1).1; omega) (fun j g y1 y2 y3 => by
      have := iC.num.lt y2 q1 y1
      omega)
    rw [e] at hQ
    have hs := rr.1
    simp only [pb_b_M_phase_14, pb_b_M_phase_20, pb_iconst, pb_null, pb_iload, pb_aload, pb_istore, pb_astore, pb_iinc, pb_bin, pb_bin0, pb_dup, pb_pop, pb_dup2, pb_if, pb_icmp, pb_ifnull, pb_getI, pb_getR, pb_putI, pb_putZ, pb_putR, pb_alen, pb_ald, pb_aldR, pb_ast, pb_astZ, pb_astR, pb_vret, pb_iret, pb_zret, pb_aret, pb_cv, pb_cr, pb_sr, pb_switch, pb_sw, pb_nth, pb_set, pb_tk, pb_add, pb_sub, List.length_cons, List.length_nil, true_or, or_true, true_and, and_true, and_self, pb_up_same, pb_up_f, ne_eq, Nat.reduceEqDiff, not_false_eq_true, Nat.reduceAdd, Nat.reduceLeDiff, Nat.zero_le, is_M, mf_phase h.1, mk_phase, ml_phase, hs, rr.2.2.2.2.2.2.2.2.2.1]
    exact ⟨fun _ => hQ, fun z => absurd trivial z⟩
  · have e : g_phase E.2.2 num = 0 := g_phaseK_none _ _ (fun j f y => q j f y (Or.inl (iA f (List.mem_of_getElem? y))))
    rw [e] at hQ
    simp only [pb_b_M_phase_20, pb_iconst, pb_null, pb_iload, pb_aload, pb_istore, pb_astore, pb_iinc, pb_bin, pb_bin0, pb_dup, pb_pop, pb_dup2, pb_if, pb_icmp, pb_ifnull, pb_getI, pb_getR, pb_putI, pb_putZ, pb_putR, pb_alen, pb_ald, pb_aldR, pb_ast, pb_astZ, pb_astR, pb_vret, pb_iret, pb_zret, pb_aret, pb_cv, pb_cr, pb_sr, pb_switch, pb_sw, pb_nth, pb_set, pb_tk, pb_add, pb_sub, List.length_cons, List.length_nil, true_or, or_true, true_and, and_true, and_self, pb_up_same, pb_up_f, ne_eq, Nat.reduceEqDiff, not_false_eq_true, Nat.reduceAdd, Nat.reduceLeDiff, Nat.zero_le]
    exact ⟨fun z => absurd z (by decide), fun _ => hQ⟩
end MRN
