theorem ge_set_n2 {E : gE} {k k' : Nat} {t t' v : Int} (h : ¬ (k' = k ∧ t' = t)) : (ge_set E k t v).1 k' t' = E.1 k' t' := g_up_n h
section MC3
variable {x : pb_E} {σ σ' : pb_H} {T : gT} {E : gE} {w : gW} {ν : pb_H} {b a s t u r : Int} {Q : pb_P} {i : Nat} {n : Int} {v : Int → Int} {m : Nat} {f : gC}
theorem l_clock2 : g_loc gt_clock := by
  intro T t t' h
  unfold gt_clock
  split
  · exact ⟨fun _ => rfl, rfl⟩
  · split
    · split
      · exact ⟨fun _ => gt_set_l h, rfl⟩
      · exact ⟨fun k => ((gt_next_l h).1 k).trans (gt_set_l h), (gt_next_l h).2⟩
    · exact ⟨fun _ => rfl, rfl⟩
theorem l_M_clocks2 {o2 : Option pb_V} (hb : 0 ≤ b ∧ b < 2) (hI : IT T) (hN : ∀ σ', RM σ' (g_it gt_clock b T 4) E w ν → pb_WJ x i_M_clocks 213 Q 2 [some (.inr 165), some (.inl (4 * b + 4)), o2] [] 213 σ') : ∀ (d k : Nat), k + d = 4 → ∀ σ : pb_H, RM σ (g_it gt_clock b T k) E w ν → pb_WJ x i_M_clocks 213 Q 2 [some (.inr 165), some (.inl (4 * b + k)), o2] [] 213 σ := by
  intro d
  induction d with
  | zero =>
    intro k hk σ h
    obtain rfl : k = 4 := by omega
    exact hN σ h
  | succ d ih =>
    intro k hk σ h
    have ht : 0 ≤ 4 * b + (k : Int) ∧ 4 * b + (k : Int) < 8 := by omega
    have e : pb_w (4 * b + (k : Int) + 1) = 4 * b + ((k + 1 : Nat) : Int) := by rw [pb_w_id (by unfold pb_R; omega)]; omega
    have hoff := g_it_off (T := T) (b := b) l_clock2 (j := k) (t := 4 * b + k) (fun i hi => by omega)
    generalize hX : g_it gt_clock b T k = X at h hoff
    have es : g_it gt_clock b T (k + 1) = if X.1 1 (4 * b + k) = 0 then X else if X.1 4 (4 * b + k) = 0 then (if 0 < pb_w (X.1 6 (4 * b + k) - 1) then gt_set X 6 (4 * b + k) (pb_w (X.1 6 (4 * b + k) - 1)) else gt_next (gt_set X 6 (4 * b + k) (pb_w (X.1 6 (4 * b + k) - 1))) (4 * b + k)) else X := by rw [← hX]; rfl
    have a1 := m_T h 166 1 rfl ⟨by decide, by decide⟩ ht (Or.inr (by unfold g_mu; decide))
    obtain ⟨i1, i2, i3, i4, i5, i6, i8, i9, i10⟩ := hI (4 * b + k)
    dsimp only at i5 i6
    refine pb_s_M_clocks_2 x 213 Q _ _ _ _ ?_
    simp only [pb_b_M_clocks_2, pb_b_M_clocks_50, pb_iconst, pb_null, pb_iload, pb_aload, pb_istore, pb_astore, pb_iinc, pb_bin, pb_bin0, pb_dup, pb_pop, pb_dup2, pb_if, pb_icmp, pb_ifnull, pb_getI, pb_getR, pb_putI, pb_putZ, pb_putR, pb_alen, pb_ald, pb_aldR, pb_ast, pb_astZ, pb_astR, pb_vret, pb_iret, pb_zret, pb_aret, pb_cv, pb_cr, pb_sr, pb_switch, pb_sw, pb_nth, pb_set, pb_tk, pb_add, pb_sub, List.length_cons, List.length_nil, true_or, or_true, true_and, and_true, and_self, pb_up_same, pb_up_f, ne_eq, Nat.reduceEqDiff, not_false_eq_true, Nat.reduceAdd, Nat.reduceLeDiff, Nat.zero_le, is_M, mf_there h.1, mk_there, ml_there, ht, a1, e]
    refine ⟨fun z => absurd z (by omega), fun _ => ⟨fun z => ?_, fun z => ?_⟩⟩
    · rw [if_pos z] at es
      exact ih (k + 1) (by omega) σ (by rw [es]; exact h)
    · rw [if_neg z] at es
      have a4 := m_T h 167 4 rfl ⟨by decide, by decide⟩ ht (Or.inl z)
      have a6 := m_T h 177 6 rfl ⟨by decide, by decide⟩ ht (Or.inl z)
      have hp : ¬ T.1 1 (4 * b + k) = 0 := by rw [← hoff.1 1]; exact z
      have h6 := i6 hp
      rw [← hoff.1 6] at h6
      have ew : pb_w (X.1 6 (4 * b + k) - 1) = X.1 6 (4 * b + k) - 1 := pb_w_id (by unfold pb_R; omega)
      have h1 := rm_upT (t := 4 * b + (k : Int)) (v := X.1 6 (4 * b + k) - 1) h 177 6 rfl ⟨by decide, by decide⟩
      simp only [is_M, mf_address h.1, mk_address, ml_address, mf_patience h.1, mk_patience, ml_patience, ht, a4, a6, ew, true_and, and_true, pb_up_same]
      refine ⟨fun z2 => ?_, fun z2 => ?_⟩
      · rw [if_neg z2] at es
        exact ih (k + 1) (by omega) σ (by rw [es]; exact h)
      · have z3 := Decidable.not_not.mp z2
        rw [if_pos z3, ew] at es
        refine ⟨fun z4 => ?_, fun z4 => ?_⟩
        · rw [if_pos (by omega)] at es
          exact ih (k + 1) (by omega) _ (by rw [es]; exact h1)
        · rw [if_neg (by omega)] at es
          have q := i5 hp (by rw [← hoff.1 4]; exact z3)
          refine c_M_retry h1 ht (by rw [gt_set_k (by decide)]; exact z3) (by rw [gt_set_k (by decide), hoff.1 7]; exact q.1) (by rw [gt_set_k (by decide), hoff.1 9]; exact q.2.1) (fun f hf => q.2.2 f (by rw [← hoff.2]; exact hf)) (fun σ1 h2 => ?_)
          try simp only [pb_iconst, pb_null, pb_iload, pb_aload, pb_istore, pb_astore, pb_iinc, pb_bin, pb_bin0, pb_dup, pb_pop, pb_dup2, pb_if, pb_icmp, pb_ifnull, pb_getI, pb_getR, pb_putI, pb_putZ, pb_putR, pb_alen, pb_ald, pb_aldR, pb_ast, pb_astZ, pb_astR, pb_vret, pb_iret, pb_zret, pb_aret, pb_cv, pb_cr, pb_sr, pb_switch, pb_sw, pb_nth, pb_set, pb_tk, pb_add, pb_sub, List.length_cons, List.length_nil, true_or, or_true, true_and, and_true, and_self, pb_up_same, pb_up_f, ne_eq, Nat.reduceEqDiff, not_false_eq_true, Nat.reduceAdd, Nat.reduceLeDiff, Nat.zero_le, e]
          exact ih (k + 1) (by omega) σ1 (by rw [es]; exact h2)
theorem l_M_clocks58 {o2 : Option pb_V} (hb : 0 ≤ b ∧ b < 2) (hI : IE m E) (hN : ∀ σ', RM σ' T (ge_auditK b E 4) (v, fun _ => False) ν → pb_WJ x i_M_clocks 213 Q 58 [some (.inr 165), some (.inl (4 * b + 4)), o2] [] 213 σ') : ∀ (d k : Nat), k + d = 4 → ∀ σ : pb_H, RM σ T (ge_auditK b E k) (v, fun _ => False) ν → pb_WJ x i_M_clocks 213 Q 58 [some (.inr 165), some (.inl (4 * b + k)), o2] [] 213 σ := by
  intro d
  induction d with
  | zero =>
    intro k hk σ h
    obtain rfl : k = 4 := by omega
    exact hN σ h
  | succ d ih =>
    intro k hk σ h
    have ht : 0 ≤ 4 * b + (k : Int) ∧ 4 * b + (k : Int) < 8 := by omega
    have e : pb_w (4 * b + (k : Int) + 1) = 4 * b + ((k + 1 : Nat) : Int) := by rw [pb_w_id (by unfold pb_R; omega)]; omega
    have ed : pb_div (4 * b + (k : Int)) 4 = b := by
      rw [pb_div_pos (by unfold pb_R; omega) (by omega) (by unfold pb_R; omega) (by omega)]
      omega
    have er : pb_rem (4 * b + (k : Int)) 4 = k := by
      rw [pb_rem_pos (by unfold pb_R; omega) (by omega) (by unfold pb_R; omega) (by omega)]
      omega
    have e64 : pb_w (64 + (k : Int)) = 64 + k := pb_w_id (by unfold pb_R; omega)
    have hIX := hI.auditK (b := b) k (by omega)
    generalize hX : ge_auditK b E k = X at h hIX
    have es : ge_auditK b E (k + 1) = ge_audit X b k := by rw [← hX]; rfl
    unfold ge_audit at es
    obtain ⟨a0, a1, a2, a3, a5⟩ := h.2.2.2.2.1 _ ht.1 ht.2
    have hL := hIX.1.2.1 (4 * b + k)
    refine pb_s_M_clocks_58 x 213 Q _ _ _ _ ?_
    by_cases z3 : X.1 3 (4 * b + k) = 0
    · rw [if_pos z3] at es a3
      simp only [pb_b_M_clocks_58, pb_b_M_clocks_111, pb_iconst, pb_null, pb_iload, pb_aload, pb_istore, pb_astore, pb_iinc, pb_bin, pb_bin0, pb_dup, pb_pop, pb_dup2, pb_if, pb_icmp, pb_ifnull, pb_getI, pb_getR, pb_putI, pb_putZ, pb_putR, pb_alen, pb_ald, pb_aldR, pb_ast, pb_astZ, pb_astR, pb_vret, pb_iret, pb_zret, pb_aret, pb_cv, pb_cr, pb_sr, pb_switch, pb_sw, pb_nth, pb_set, pb_tk, pb_add, pb_sub, List.length_cons, List.length_nil, true_or, or_true, true_and, and_true, and_self, pb_up_same, pb_up_f, ne_eq, Nat.reduceEqDiff, not_false_eq_true, Nat.reduceAdd, Nat.reduceLeDiff, Nat.zero_le, is_M, mf_auditClock h.1, mk_auditClock, ml_auditClock, ht, a3, e]
      refine ⟨fun z => absurd z (by omega), fun _ => ⟨fun _ => ih (k + 1) (by omega) σ (by rw [es]; exact h), fun z => absurd (by decide) z⟩⟩
    · rw [if_neg z3] at es a3
      have h4 := hL.2.1 z3
      have ew : pb_w (X.1 4 (4 * b + k) - 1) = X.1 4 (4 * b + k) - 1 := pb_w_id (by unfold pb_R; omega)
      rw [ew] at es
      simp only [pb_b_M_clocks_58, pb_b_M_clocks_111, pb_iconst, pb_null, pb_iload, pb_aload, pb_istore, pb_astore, pb_iinc, pb_bin, pb_bin0, pb_dup, pb_pop, pb_dup2, pb_if, pb_icmp, pb_ifnull, pb_getI, pb_getR, pb_putI, pb_putZ, pb_putR, pb_alen, pb_ald, pb_aldR, pb_ast, pb_astZ, pb_astR, pb_vret, pb_iret, pb_zret, pb_aret, pb_cv, pb_cr, pb_sr, pb_switch, pb_sw, pb_nth, pb_set, pb_tk, pb_add, pb_sub, List.length_cons, List.length_nil, true_or, or_true, true_and, and_true, and_self, pb_up_same, pb_up_f, ne_eq, Nat.reduceEqDiff, not_false_eq_true, Nat.reduceAdd, Nat.reduceLeDiff, Nat.zero_le, is_M, mf_auditClock h.1, mk_auditClock, ml_auditClock, mf_auditCount h.1, mk_auditCount, ml_auditCount, ht, a3, a5, e, ew, ed, er, e64, pb_up_p, Int.reduceEq]
      refine ⟨fun z => absurd z (by omega), fun _ => ⟨fun z => absurd z (by omega), fun _ => ⟨fun z => ?_, fun z => ?_⟩⟩⟩
      · rw [if_pos (by omega)] at es
        refine ih (k + 1) (by omega) _ ?_
        rw [es]
        refine rm_195 h (fun k' t' hk' => ge_set_n2 (by omega)) ?_ rfl
        rw [if_neg (by rw [ge_set_n (by decide)]; exact z3)]
        exact (g_up_s _ _ _ _).symm
      · rw [if_neg (by omega)] at es
        have z4 : X.1 4 (4 * b + k) - 1 = 0 := Decidable.not_not.mp z
        have h1 : RM (pb_up σ 0 195 (4 * b + k) (X.1 4 (4 * b + k) - 1)) T (ge_set (ge_set X 4 (4 * b + k) (X.1 4 (4 * b + k) - 1)) 3 (4 * b + k) 0) (v, fun _ => False) ν := by
          refine rm_195 h (fun k' t' hk' => (ge_set_n2 (by omega)).trans (ge_set_n2 (by omega))) ?_ rfl
          rw [if_pos (show (ge_set (ge_set X 4 (4 * b + k) (X.1 4 (4 * b + k) - 1)) 3 (4 * b + k) 0).1 3 (4 * b + k) = 0 from g_up_s _ _ _ _)]
          exact z4
        refine c_M_audited h1 hb (by omega) hIX.1.2.2.1.num hIX.1.2.2.1.cws (fun σ1 h2 => ?_)
        try simp only [pb_iconst, pb_null, pb_iload, pb_aload, pb_istore, pb_astore, pb_iinc, pb_bin, pb_bin0, pb_dup, pb_pop, pb_dup2, pb_if, pb_icmp, pb_ifnull, pb_getI, pb_getR, pb_putI, pb_putZ, pb_putR, pb_alen, pb_ald, pb_aldR, pb_ast, pb_astZ, pb_astR, pb_vret, pb_iret, pb_zret, pb_aret, pb_cv, pb_cr, pb_sr, pb_switch, pb_sw, pb_nth, pb_set, pb_tk, pb_add, pb_sub, List.length_cons, List.length_nil, true_or, or_true, true_and, and_true, and_self, pb_up_same, pb_up_f, ne_eq, Nat.reduceEqDiff, not_false_eq_true, Nat.reduceAdd, Nat.reduceLeDiff, Nat.zero_le, e]
        refine ih (k + 1) (by omega) σ1 ?_
        rw [es]
        exact h2
def g_ck (f : gC) : gC := if f 2 = 1 ∨ f 2 = 2 then (if ¬ pb_w (f 3 - 1) ≤ 0 then c_up f 3 (pb_w (f 3 - 1)) else if f 2 = 2 ∨ ¬ f 4 = 0 then g_gE (c_up f 3 (pb_w (f 3 - 1))) else c_up (c_up (c_up f 3 (pb_w (f 3 - 1))) 4 1) 3 10) else f
theorem ge_cclock_stp : g_stp ge_cclock g_ck := by
  refine fun E i => ⟨fun h => ?_, fun f hi => ?_⟩
  · unfold ge_cclock
    rw [h]
  · unfold ge_cclock g_ck
    rw [hi]
    dsimp only
    by_cases z : f 2 = 1 ∨ f 2 = 2
    · rw [if_pos z, if_pos z]
      by_cases z2 : ¬ pb_w (f 3 - 1) ≤ 0
      · rw [if_pos z2, if_pos z2]
        rfl
      · rw [if_neg z2, if_neg z2]
        by_cases z3 : f 2 = 2
        · rw [if_pos z3, if_pos (Or.inl z3), ge_end_c (cs_at hi)]
          show (E.2.2.set i _).set i _ = _
          rw [List.set_set]
        · rw [if_neg z3]
          by_cases z4 : ¬ f 4 = 0
          · rw [if_pos z4, if_pos (Or.inr z4), ge_end_c (cs_at hi)]
            show (E.2.2.set i _).set i _ = _
            rw [List.set_set]
          · rw [if_neg z4, if_neg (fun y => y.elim z3 z4)]
            show ((E.2.2.set i _).set i _).set i _ = _
            rw [List.set_set, List.set_set]
    · rw [if_neg z, if_neg z, g_set_same hi]
theorem g_ck_1 : g_ck f 1 = f 1 := by
  unfold g_ck
  split
  · split
    · rfl
    · split
      · exact (g_gE_k (by decide) (by decide) (by decide)).trans rfl
      · rfl
  · rfl
theorem l_M_clocks168 (hI : IE m E) (hQ : ∀ σ', RM σ' T (ge_cclockK E E.2.2.length) (v, fun _ => False) ν → Q (.inl 0) σ') : ∀ (d p : Nat), p + d = E.2.2.length → ∀ (σ : pb_H) (n : Int) (o2 : Option pb_V), RM σ T (ge_cclockK E p) (v, fun _ => False) ν → 0 ≤ n → (∀ (j : Nat) (f : gC), (ge_cclockK E p).2.2[j]? = some f → (j < p → f 1 ≤ n) ∧ (p ≤ j → n < f 1)) → pb_b_M_clocks_168 x 213 Q [some (.inr 165), some (.inl n), o2] [] 213 σ := by
  have hK := g_itC ge_cclock_stp (E := E) (K := fun p => ge_cclockK E p) rfl (fun _ => rfl)
  intro d
  induction d with
  | zero =>
    intro p hp σ n o2 h hn hj
    obtain rfl : p = E.2.2.length := by omega
    have hIK := hI.cclockK E.2.2.length
    simp only [pb_b_M_clocks_168, pb_iconst, pb_null, pb_iload, pb_aload, pb_istore, pb_astore, pb_iinc, pb_bin, pb_bin0, pb_dup, pb_pop, pb_dup2, pb_if, pb_icmp, pb_ifnull, pb_getI, pb_getR, pb_putI, pb_putZ, pb_putR, pb_alen, pb_ald, pb_aldR, pb_ast, pb_astZ, pb_astR, pb_vret, pb_iret, pb_zret, pb_aret, pb_cv, pb_cr, pb_sr, pb_switch, pb_sw, pb_nth, pb_set, pb_tk, pb_add, pb_sub, List.length_cons, List.length_nil, true_or, or_true, true_and, and_true, and_self, pb_up_same, pb_up_f, ne_eq, Nat.reduceEqDiff, not_false_eq_true, Nat.reduceAdd, Nat.reduceLeDiff, Nat.zero_le, is_M]
    refine c_M_after h hIK.1.2.2.1.num hn (fun i f hi _ hlt _ => ?_) (fun _ => ?_)
    · have hi2 := hK E.2.2.length i
      have hlen : i < E.2.2.length := by
        refine Nat.lt_of_not_le (fun y => ?_)
        have hi3 : (ge_cclockK E E.2.2.length).2.2[i]? = _ := hi2
        rw [if_neg (by omega), List.getElem?_eq_none y] at hi3
        rw [hi] at hi3
        exact absurd hi3 (by simp)
      have := (hj i f hi).1 hlen
      omega
    · simp only [pb_iconst, pb_null, pb_iload, pb_aload, pb_istore, pb_astore, pb_iinc, pb_bin, pb_bin0, pb_dup, pb_pop, pb_dup2, pb_if, pb_icmp, pb_ifnull, pb_getI, pb_getR, pb_putI, pb_putZ, pb_putR, pb_alen, pb_ald, pb_aldR, pb_ast, pb_astZ, pb_astR, pb_vret, pb_iret, pb_zret, pb_aret, pb_cv, pb_cr, pb_sr, pb_switch, pb_sw, pb_nth, pb_set, pb_tk, pb_add, pb_sub, List.length_cons, List.length_nil, true_or, or_true, true_and, and_true, and_self, pb_up_same, pb_up_f, ne_eq, Nat.reduceEqDiff, not_false_eq_true, Nat.reduceAdd, Nat.reduceLeDiff, Nat.zero_le]
      refine pb_s_M_clocks_125 x 213 Q _ _ _ _ ?_
      simp only [pb_b_M_clocks_125, pb_b_M_clocks_177, pb_iconst, pb_null, pb_iload, pb_aload, pb_istore, pb_astore, pb_iinc, pb_bin, pb_bin0, pb_dup, pb_pop, pb_dup2, pb_if, pb_icmp, pb_ifnull, pb_getI, pb_getR, pb_putI, pb_putZ, pb_putR, pb_alen, pb_ald, pb_aldR, pb_ast, pb_astZ, pb_astR, pb_vret, pb_iret, pb_zret, pb_aret, pb_cv, pb_cr, pb_sr, pb_switch, pb_sw, pb_nth, pb_set, pb_tk, pb_add, pb_sub, List.length_cons, List.length_nil, true_or, or_true, true_and, and_true, and_self, pb_up_same, pb_up_f, ne_eq, Nat.reduceEqDiff, not_false_eq_true, Nat.reduceAdd, Nat.reduceLeDiff, Nat.zero_le]
      exact ⟨fun _ => hQ _ h, fun z => absurd (by decide) z⟩
  | succ d ih =>
    intro p hp σ n o2 h hn hj
    have hIK := hI.cclockK p
    have hIK1 := hI.cclockK (p + 1)
    have hN := hIK.1.2.2.1.num
    have hpe : (ge_cclockK E p).2.2[p]? = E.2.2[p]? := by
      have := hK p p
      rw [if_neg (by omega)] at this
      exact this
    have hpl : E.2.2[p]? = some E.2.2[p] := List.getElem?_eq_getElem (by omega)
    rw [hpl] at hpe
    simp only [pb_b_M_clocks_168, pb_iconst, pb_null, pb_iload, pb_aload, pb_istore, pb_astore, pb_iinc, pb_bin, pb_bin0, pb_dup, pb_pop, pb_dup2, pb_if, pb_icmp, pb_ifnull, pb_getI, pb_getR, pb_putI, pb_putZ, pb_putR, pb_alen, pb_ald, pb_aldR, pb_ast, pb_astZ, pb_astR, pb_vret, pb_iret, pb_zret, pb_aret, pb_cv, pb_cr, pb_sr, pb_switch, pb_sw, pb_nth, pb_set, pb_tk, pb_add, pb_sub, List.length_cons, List.length_nil, true_or, or_true, true_and, and_true, and_self, pb_up_same, pb_up_f, ne_eq, Nat.reduceEqDiff, not_false_eq_true, Nat.reduceAdd, Nat.reduceLeDiff, Nat.zero_le, is_M]
    refine c_M_after h hN hn (fun i f hi hh hlt hmin => ?_) (fun hnone => ?_)
    · have hip : p ≤ i := Nat.le_of_not_lt (fun z => by have := (hj i f hi).1 z; omega)
      have hpi := hmin p _ hpe (Or.inl (hIK.2 _ (List.mem_of_getElem? hpe))) ((hj p _ hpe).2 (Nat.le_refl _))
      obtain rfl : i = p := by omega
      have hal : g_alive f = true := hh.resolve_right id
      have hC := hIK.1.2.2.1.1 f (List.mem_of_getElem? hi)
      have r : (0 ≤ v (f 1) ∧ v (f 1) < 4) ∧ rm_1 σ (v (f 1)) f := r_1 h hi (Or.inl hal)
      have hs := r.1
      have ap := r.2.2.2.2.2.2.2.2.2.1
      have es : ge_cclockK E (i + 1) = if f 2 = 1 ∨ f 2 = 2 then (if ¬ pb_w (f 3 - 1) ≤ 0 then ge_cset (ge_cclockK E i) i (c_up f 3 (pb_w (f 3 - 1))) else ge_late (ge_cset (ge_cclockK E i) i (c_up f 3 (pb_w (f 3 - 1)))) i (c_up f 3 (pb_w (f 3 - 1)))) else ge_cclockK E i := by
        show ge_cclock (ge_cclockK E i) i = _
        unfold ge_cclock
        rw [hi]
        rfl
      have hi1 : (ge_cclockK E (i + 1)).2.2[i]? = some (g_ck f) := by
        have q1 := hK (i + 1) i
        rw [if_pos (by omega)] at q1
        have q2 : (ge_cclockK E (i + 1)).2.2[i]? = (E.2.2[i]?).map g_ck := q1
        rw [q2, hpl]
        have : f = E.2.2[i] := by
          rw [hpe] at hi
          exact (Option.some.inj hi).symm
        rw [this]
        rfl
      have nx : ∀ σ' o2, RM σ' T (ge_cclockK E (i + 1)) (v, fun _ => False) ν → pb_b_M_clocks_168 x 213 Q [some (.inr 165), some (.inl (f 1)), o2] [] 213 σ' := by
        intro σ' o2 y
        have hN1 := hIK1.1.2.2.1.num
        refine ih (i + 1) (by omega) σ' (f 1) o2 y (by have := hC.1.1; omega) (fun j g q => ⟨fun q2 => ?_, fun q2 => ?_⟩)
        · by_cases z : j = i
          · subst z
            rw [hi1] at q
            obtain rfl := Option.some.inj q
            rw [g_ck_1]
            exact Int.le_refl _
          · have := hN1.lt q hi1 (by omega)
            rw [g_ck_1] at this
            omega
        · have := hN1.lt hi1 q (by omega)
          rw [g_ck_1] at this
          exact this
      simp only [pb_iconst, pb_null, pb_iload, pb_aload, pb_istore, pb_astore, pb_iinc, pb_bin, pb_bin0, pb_dup, pb_pop, pb_dup2, pb_if, pb_icmp, pb_ifnull, pb_getI, pb_getR, pb_putI, pb_putZ, pb_putR, pb_alen, pb_ald, pb_aldR, pb_ast, pb_astZ, pb_astR, pb_vret, pb_iret, pb_zret, pb_aret, pb_cv, pb_cr, pb_sr, pb_switch, pb_sw, pb_nth, pb_set, pb_tk, pb_add, pb_sub, List.length_cons, List.length_nil, true_or, or_true, true_and, and_true, and_self, pb_up_same, pb_up_f, ne_eq, Nat.reduceEqDiff, not_false_eq_true, Nat.reduceAdd, Nat.reduceLeDiff, Nat.zero_le]
      refine pb_s_M_clocks_125 x 213 Q _ _ _ _ ?_
      simp only [pb_b_M_clocks_125, pb_iconst, pb_null, pb_iload, pb_aload, pb_istore, pb_astore, pb_iinc, pb_bin, pb_bin0, pb_dup, pb_pop, pb_dup2, pb_if, pb_icmp, pb_ifnull, pb_getI, pb_getR, pb_putI, pb_putZ, pb_putR, pb_alen, pb_ald, pb_aldR, pb_ast, pb_astZ, pb_astR, pb_vret, pb_iret, pb_zret, pb_aret, pb_cv, pb_cr, pb_sr, pb_switch, pb_sw, pb_nth, pb_set, pb_tk, pb_add, pb_sub, List.length_cons, List.length_nil, true_or, or_true, true_and, and_true, and_self, pb_up_same, pb_up_f, ne_eq, Nat.reduceEqDiff, not_false_eq_true, Nat.reduceAdd, Nat.reduceLeDiff, Nat.zero_le, is_M, mf_number h.1, mk_number, ml_number, hs, r.2.1]
      refine ⟨fun z => absurd z (by omega), fun _ => ?_⟩
      refine c_M_open h hs (fun y => ?_) (fun y => ?_)
      · rw [ap] at y
        rw [if_pos y] at es
        have h3 := hC.2.2.2.2.2.2.2.2.1 y
        have ew : pb_w (f 3 - 1) = f 3 - 1 := pb_w_id (by unfold pb_R; omega)
        rw [ew] at es
        have hh1 : RM σ T (ge_cclockK E i) (v, fun n => n = f 1) ν := rm_hold h hN hi hal (fun _ y => y)
        have h1 := rm_upCk (v := f 3 - 1) (u := f 3 - 1) hh1 hN hi rfl rfl
        have hN2 : g_num (ge_cset (ge_cclockK E i) i (c_up f 3 (f 3 - 1))).2.2 := hN.set hi rfl
        simp only [pb_iconst, pb_null, pb_iload, pb_aload, pb_istore, pb_astore, pb_iinc, pb_bin, pb_bin0, pb_dup, pb_pop, pb_dup2, pb_if, pb_icmp, pb_ifnull, pb_getI, pb_getR, pb_putI, pb_putZ, pb_putR, pb_alen, pb_ald, pb_aldR, pb_ast, pb_astZ, pb_astR, pb_vret, pb_iret, pb_zret, pb_aret, pb_cv, pb_cr, pb_sr, pb_switch, pb_sw, pb_nth, pb_set, pb_tk, pb_add, pb_sub, List.length_cons, List.length_nil, true_or, or_true, true_and, and_true, and_self, pb_up_same, pb_up_f, ne_eq, Nat.reduceEqDiff, not_false_eq_true, Nat.reduceAdd, Nat.reduceLeDiff, Nat.zero_le, is_M, mf_clock h.1, mk_clock, ml_clock, hs, r.2.2.2.2.2.2.2.2.2.2.1, ew]
        refine ⟨fun z => absurd z (by decide), fun _ => ⟨fun z => ?_, fun z => ?_⟩⟩
        · rw [if_pos (by omega)] at es
          refine nx _ _ ?_
          rw [es]
          exact rm_free h1 hN2 (cs_at hi) rfl (g_ck_alive (by omega) hal)
        · rw [if_neg (by omega)] at es
          refine c_M_late (i := i) (f := c_up f 3 (f 3 - 1)) (w := (v, fun n => n = f 1)) h1 hN2 (cs_at hi) rfl hC.2.1 hC.2.2.1 (fun σ1 h2 => ?_)
          try simp only [pb_iconst, pb_null, pb_iload, pb_aload, pb_istore, pb_astore, pb_iinc, pb_bin, pb_bin0, pb_dup, pb_pop, pb_dup2, pb_if, pb_icmp, pb_ifnull, pb_getI, pb_getR, pb_putI, pb_putZ, pb_putR, pb_alen, pb_ald, pb_aldR, pb_ast, pb_astZ, pb_astR, pb_vret, pb_iret, pb_zret, pb_aret, pb_cv, pb_cr, pb_sr, pb_switch, pb_sw, pb_nth, pb_set, pb_tk, pb_add, pb_sub, List.length_cons, List.length_nil, true_or, or_true, true_and, and_true, and_self, pb_up_same, pb_up_f, ne_eq, Nat.reduceEqDiff, not_false_eq_true, Nat.reduceAdd, Nat.reduceLeDiff, Nat.zero_le]
          refine nx _ _ ?_
          rw [← es] at h2
          exact rm_free h2 hIK1.1.2.2.1.num hi1 g_ck_1 (hIK1.2 _ (List.mem_of_getElem? hi1))
      · rw [ap] at y
        rw [if_neg y] at es
        simp only [pb_iconst, pb_null, pb_iload, pb_aload, pb_istore, pb_astore, pb_iinc, pb_bin, pb_bin0, pb_dup, pb_pop, pb_dup2, pb_if, pb_icmp, pb_ifnull, pb_getI, pb_getR, pb_putI, pb_putZ, pb_putR, pb_alen, pb_ald, pb_aldR, pb_ast, pb_astZ, pb_astR, pb_vret, pb_iret, pb_zret, pb_aret, pb_cv, pb_cr, pb_sr, pb_switch, pb_sw, pb_nth, pb_set, pb_tk, pb_add, pb_sub, List.length_cons, List.length_nil, true_or, or_true, true_and, and_true, and_self, pb_up_same, pb_up_f, ne_eq, Nat.reduceEqDiff, not_false_eq_true, Nat.reduceAdd, Nat.reduceLeDiff, Nat.zero_le]
        exact ⟨fun _ => nx _ _ (by rw [es]; exact h), fun z => absurd trivial z⟩
    · exact absurd ((hj p _ hpe).2 (Nat.le_refl _)) (hnone p _ hpe (Or.inl (hIK.2 _ (List.mem_of_getElem? hpe))))
theorem c_M_clocks (h : RM σ T E (v, fun _ => False) ν) (hI : Inv m T E) (hQ : ∀ σ', RM σ' (gt_clocks T) (ge_clocks E) (v, fun _ => False) ν → Q (.inl 0) σ') : pb_MJ x i_M_clocks [.inr 165] 213 σ Q := by
  refine pb_m_M_clocks ?_
  simp only [pb_b_M_clocks_0, pb_iconst, pb_null, pb_iload, pb_aload, pb_istore, pb_astore, pb_iinc, pb_bin, pb_bin0, pb_dup, pb_pop, pb_dup2, pb_if, pb_icmp, pb_ifnull, pb_getI, pb_getR, pb_putI, pb_putZ, pb_putR, pb_alen, pb_ald, pb_aldR, pb_ast, pb_astZ, pb_astR, pb_vret, pb_iret, pb_zret, pb_aret, pb_cv, pb_cr, pb_sr, pb_switch, pb_sw, pb_nth, pb_set, pb_tk, pb_add, pb_sub, List.length_cons, List.length_nil, true_or, or_true, true_and, and_true, and_self, pb_up_same, pb_up_f, ne_eq, Nat.reduceEqDiff, not_false_eq_true, Nat.reduceAdd, Nat.reduceLeDiff, Nat.zero_le]
  have iT := hI.1
  have iE := hI.ie
  refine l_M_clocks2 (b := 0) (by omega) iT (fun σ1 h1 => ?_) 4 0 rfl σ h
  refine l_M_clocks2 (b := 1) (by omega) (IT.it (fun _ _ y => y.clock) iT 4) (fun σ2 h2 => ?_) 4 0 rfl σ1 h1
  refine pb_s_M_clocks_2 x 213 Q _ _ _ _ ?_
  simp only [pb_b_M_clocks_2, pb_b_M_clocks_56, pb_iconst, pb_null, pb_iload, pb_aload, pb_istore, pb_astore, pb_iinc, pb_bin, pb_bin0, pb_dup, pb_pop, pb_dup2, pb_if, pb_icmp, pb_ifnull, pb_getI, pb_getR, pb_putI, pb_putZ, pb_putR, pb_alen, pb_ald, pb_aldR, pb_ast, pb_astZ, pb_astR, pb_vret, pb_iret, pb_zret, pb_aret, pb_cv, pb_cr, pb_sr, pb_switch, pb_sw, pb_nth, pb_set, pb_tk, pb_add, pb_sub, List.length_cons, List.length_nil, true_or, or_true, true_and, and_true, and_self, pb_up_same, pb_up_f, ne_eq, Nat.reduceEqDiff, not_false_eq_true, Nat.reduceAdd, Nat.reduceLeDiff, Nat.zero_le]
  refine ⟨fun _ => ?_, fun z => absurd (by decide) z⟩
  refine l_M_clocks58 (b := 0) (m := m) (by omega) iE (fun σ3 h3 => ?_) 4 0 rfl σ2 h2
  refine l_M_clocks58 (b := 1) (m := m) (by omega) (iE.auditK 4 (Nat.le_refl _)) (fun σ4 h4 => ?_) 4 0 rfl σ3 h3
  refine pb_s_M_clocks_58 x 213 Q _ _ _ _ ?_
  simp only [pb_b_M_clocks_58, pb_b_M_clocks_117, pb_iconst, pb_null, pb_iload, pb_aload, pb_istore, pb_astore, pb_iinc, pb_bin, pb_bin0, pb_dup, pb_pop, pb_dup2, pb_if, pb_icmp, pb_ifnull, pb_getI, pb_getR, pb_putI, pb_putZ, pb_putR, pb_alen, pb_ald, pb_aldR, pb_ast, pb_astZ, pb_astR, pb_vret, pb_iret, pb_zret, pb_aret, pb_cv, pb_cr, pb_sr, pb_switch, pb_sw, pb_nth, pb_set, pb_tk, pb_add, pb_sub, List.length_cons, List.length_nil, true_or, or_true, true_and, and_true, and_self, pb_up_same, pb_up_f, ne_eq, Nat.reduceEqDiff, not_false_eq_true, Nat.reduceAdd, Nat.reduceLeDiff, Nat.zero_le, is_M]
  refine ⟨fun _ => ?_, fun z => absurd (by decide) z⟩
  have hA := iE.audits
  have := l_M_clocks168 (x := x) (Q := Q) (v := v) (ν := ν) (T := gt_clocks T) hA hQ (ge_audits E).2.2.length 0 (Nat.zero_add _) σ4 0 none h4 (Int.le_refl _) (fun j f hj => ⟨fun z => absurd z (by omega), fun _ => hA.1.2.2.1.num.1 f (List.mem_of_getElem? hj)⟩)
  simp only [pb_b_M_clocks_168, pb_iconst, pb_null, pb_iload, pb_aload, pb_istore, pb_astore, pb_iinc, pb_bin, pb_bin0, pb_dup, pb_pop, pb_dup2, pb_if, pb_icmp, pb_ifnull, pb_getI, pb_getR, pb_putI, pb_putZ, pb_putR, pb_alen, pb_ald, pb_aldR, pb_ast, pb_astZ, pb_astR, pb_vret, pb_iret, pb_zret, pb_aret, pb_cv, pb_cr, pb_sr, pb_switch, pb_sw, pb_nth, pb_set, pb_tk, pb_add, pb_sub, List.length_cons, List.length_nil, true_or, or_true, true_and, and_true, and_self, pb_up_same, pb_up_f, ne_eq, Nat.reduceEqDiff, not_false_eq_true, Nat.reduceAdd, Nat.reduceLeDiff, Nat.zero_le, is_M] at this
  exact this
end MC3
