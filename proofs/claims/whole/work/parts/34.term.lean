/-! terminals -/
def cmpI (a b : Int) : Int := if a < b then -1 else if a = b then 0 else 1
def cmpN (f : gF) (t : Int) (f' : gF) (t' : Int) : Int := if f.2.1 = f'.2.1 then (if t = t' then (if f.1 = f'.1 then (if f.2.2.1 = f'.2.2.1 then cmpI f.2.2.2.1 f'.2.2.2.1 else cmpI f.2.2.1 f'.2.2.1) else cmpI f.1 f'.1) else cmpI t t') else cmpI f.2.1 f'.2.1
def cmpL (f f' : gF) : Int := if f.1 = f'.1 then (if f.2.1 = f'.2.1 then cmpI f.2.2.2.1 f'.2.2.2.1 else cmpI f.2.1 f'.2.1) else cmpI f.1 f'.1
def cmpF (f : gF) (t : Int) (f' : gF) (t' : Int) : Int := if f.1 ≤ 6 then (if f'.1 ≤ 6 then cmpN f t f' t' else -1) else (if f'.1 ≤ 6 then 1 else cmpL f f')
section TM
variable {x : pb_E} {σ : pb_H} {T : gT} {E : gE} {μ : pb_H} {b s : Int} {Q : pb_P} {n : Nat}
theorem c_F_compareNumbered {q q' t t' : Int} (hq : pb_is 3 n q) (hq' : pb_is 3 n q') (hQ : Q (.inl (cmpN (g_fr σ q) t (g_fr σ q') t')) σ) : pb_MJ x i_F_compareNumbered [.inr q, .inl t, .inr q', .inl t'] n σ Q := by
  refine pb_m_F_compareNumbered ?_
  simp only [pb_b_F_compareNumbered_0, pb_b_F_compareNumbered_23, pb_b_F_compareNumbered_34, pb_b_F_compareNumbered_57, pb_b_F_compareNumbered_80, pb_iconst, pb_null, pb_iload, pb_aload, pb_istore, pb_astore, pb_iinc, pb_bin, pb_bin0, pb_dup, pb_pop, pb_dup2, pb_if, pb_icmp, pb_ifnull, pb_getI, pb_getR, pb_putI, pb_putZ, pb_putR, pb_alen, pb_ald, pb_aldR, pb_ast, pb_astZ, pb_astR, pb_vret, pb_iret, pb_zret, pb_aret, pb_cv, pb_cr, pb_sr, pb_switch, pb_sw, pb_nth, pb_set, pb_tk, pb_add, pb_sub, List.length_cons, List.length_nil, true_or, or_true, true_and, and_true, and_self, pb_up_same, pb_up_f, ne_eq, Nat.reduceEqDiff, not_false_eq_true, Nat.reduceAdd, Nat.reduceLeDiff, Nat.zero_le, hq, hq']
  unfold cmpN g_fr at hQ
  dsimp only at hQ
  refine ⟨fun h1 => ⟨fun h2 => ⟨fun h3 => ⟨fun h4 => c_J_compare ?_, fun h4 => c_J_compare ?_⟩, fun h3 => c_J_compare ?_⟩, fun h2 => c_J_compare ?_⟩, fun h1 => c_J_compare ?_⟩
  · rwa [if_pos h1, if_pos h2, if_pos h3, if_pos h4] at hQ
  · rwa [if_pos h1, if_pos h2, if_pos h3, if_neg h4] at hQ
  · rwa [if_pos h1, if_pos h2, if_neg h3] at hQ
  · rwa [if_pos h1, if_neg h2] at hQ
  · rwa [if_neg h1] at hQ
theorem c_F_compareLoose {q q' : Int} (hq : pb_is 3 n q) (hq' : pb_is 3 n q') (hQ : Q (.inl (cmpL (g_fr σ q) (g_fr σ q'))) σ) : pb_MJ x i_F_compareLoose [.inr q, .inr q'] n σ Q := by
  refine pb_m_F_compareLoose ?_
  simp only [pb_b_F_compareLoose_0, pb_b_F_compareLoose_23, pb_b_F_compareLoose_46, pb_iconst, pb_null, pb_iload, pb_aload, pb_istore, pb_astore, pb_iinc, pb_bin, pb_bin0, pb_dup, pb_pop, pb_dup2, pb_if, pb_icmp, pb_ifnull, pb_getI, pb_getR, pb_putI, pb_putZ, pb_putR, pb_alen, pb_ald, pb_aldR, pb_ast, pb_astZ, pb_astR, pb_vret, pb_iret, pb_zret, pb_aret, pb_cv, pb_cr, pb_sr, pb_switch, pb_sw, pb_nth, pb_set, pb_tk, pb_add, pb_sub, List.length_cons, List.length_nil, true_or, or_true, true_and, and_true, and_self, pb_up_same, pb_up_f, ne_eq, Nat.reduceEqDiff, not_false_eq_true, Nat.reduceAdd, Nat.reduceLeDiff, Nat.zero_le, hq, hq']
  unfold cmpL g_fr at hQ
  dsimp only at hQ
  refine ⟨fun h1 => ⟨fun h2 => c_J_compare ?_, fun h2 => c_J_compare ?_⟩, fun h1 => c_J_compare ?_⟩
  · rwa [if_pos h1, if_pos h2] at hQ
  · rwa [if_pos h1, if_neg h2] at hQ
  · rwa [if_neg h1] at hQ
theorem c_T_startOverWithNextDraw (h : RT σ T μ) (hb : 0 ≤ b ∧ b < 2) (hs : 0 ≤ s ∧ s < 4) (hQ : ∀ σ', RT σ' (gt_next T (4 * b + s)) μ → Q (.inl 0) σ') : pb_MJ x i_T_startOverWithNextDraw [.inr (32 + 77 * b + 11 * s)] 213 σ Q := by
  refine pb_m_T_startOverWithNextDraw ?_
  simp only [pb_b_T_startOverWithNextDraw_0, pb_iconst, pb_null, pb_iload, pb_aload, pb_istore, pb_astore, pb_iinc, pb_bin, pb_bin0, pb_dup, pb_pop, pb_dup2, pb_if, pb_icmp, pb_ifnull, pb_getI, pb_getR, pb_putI, pb_putZ, pb_putR, pb_alen, pb_ald, pb_aldR, pb_ast, pb_astZ, pb_astR, pb_vret, pb_iret, pb_zret, pb_aret, pb_cv, pb_cr, pb_sr, pb_switch, pb_sw, pb_nth, pb_set, pb_tk, pb_add, pb_sub, List.length_cons, List.length_nil, true_or, or_true, true_and, and_true, and_self, pb_up_same, pb_up_f, ne_eq, Nat.reduceEqDiff, not_false_eq_true, Nat.reduceAdd, Nat.reduceLeDiff, Nat.zero_le, is_T hb hs, q_T h hb hs 402 1 rfl ⟨by decide, by decide⟩, q_T h hb hs 403 2 rfl ⟨by decide, by decide⟩, q_T h hb hs 404 3 rfl ⟨by decide, by decide⟩, q_T h hb hs 405 4 rfl ⟨by decide, by decide⟩, q_T h hb hs 406 5 rfl ⟨by decide, by decide⟩, q_T h hb hs 407 6 rfl ⟨by decide, by decide⟩, q_T h hb hs 408 7 rfl ⟨by decide, by decide⟩, q_T h hb hs 409 8 rfl ⟨by decide, by decide⟩, q_T h hb hs 410 9 rfl ⟨by decide, by decide⟩, q_T h hb hs 411 10 rfl ⟨by decide, by decide⟩, q_T h hb hs 412 11 rfl ⟨by decide, by decide⟩, q_T h hb hs 413 12 rfl ⟨by decide, by decide⟩, q_T h hb hs 414 13 rfl ⟨by decide, by decide⟩, q_T h hb hs 415 14 rfl ⟨by decide, by decide⟩, q_T h hb hs 416 15 rfl ⟨by decide, by decide⟩]
  refine ⟨by decide, c_T_startOver h hb hs hQ⟩
theorem c_T_plugIn (h : RT σ T μ) (hb : 0 ≤ b ∧ b < 2) (hs : 0 ≤ s ∧ s < 4) {d : Int} (hQ : ∀ σ', RT σ' (gt_plugIn T (4 * b + s) d) μ → Q (.inl 0) σ') : pb_MJ x i_T_plugIn [.inr (32 + 77 * b + 11 * s), .inl d] 213 σ Q := by
  refine pb_m_T_plugIn ?_
  simp only [pb_b_T_plugIn_0, pb_iconst, pb_null, pb_iload, pb_aload, pb_istore, pb_astore, pb_iinc, pb_bin, pb_bin0, pb_dup, pb_pop, pb_dup2, pb_if, pb_icmp, pb_ifnull, pb_getI, pb_getR, pb_putI, pb_putZ, pb_putR, pb_alen, pb_ald, pb_aldR, pb_ast, pb_astZ, pb_astR, pb_vret, pb_iret, pb_zret, pb_aret, pb_cv, pb_cr, pb_sr, pb_switch, pb_sw, pb_nth, pb_set, pb_tk, pb_add, pb_sub, List.length_cons, List.length_nil, true_or, or_true, true_and, and_true, and_self, pb_up_same, pb_up_f, ne_eq, Nat.reduceEqDiff, not_false_eq_true, Nat.reduceAdd, Nat.reduceLeDiff, Nat.zero_le, is_T hb hs]
  have h1 := r_T h hb hs 402 1 rfl ⟨by decide, by decide⟩ 1
  have h2 := r_T h1 hb hs 403 2 rfl ⟨by decide, by decide⟩ 0
  have h3 := r_T h2 hb hs 411 10 rfl ⟨by decide, by decide⟩ 0
  have h4 := r_T h3 hb hs 412 11 rfl ⟨by decide, by decide⟩ 255
  have h5 := r_T h4 hb hs 413 12 rfl ⟨by decide, by decide⟩ (-1)
  have h6 := r_T h5 hb hs 414 13 rfl ⟨by decide, by decide⟩ 0
  exact c_T_startOver h6 hb hs hQ
theorem c_T_pullOut (h : RT σ T μ) (hb : 0 ≤ b ∧ b < 2) (hs : 0 ≤ s ∧ s < 4) (hQ : ∀ σ', RT σ' (gt_pullOut T (4 * b + s)) μ → Q (.inl 0) σ') : pb_MJ x i_T_pullOut [.inr (32 + 77 * b + 11 * s)] 213 σ Q := by
  refine pb_m_T_pullOut ?_
  simp only [pb_b_T_pullOut_0, pb_iconst, pb_null, pb_iload, pb_aload, pb_istore, pb_astore, pb_iinc, pb_bin, pb_bin0, pb_dup, pb_pop, pb_dup2, pb_if, pb_icmp, pb_ifnull, pb_getI, pb_getR, pb_putI, pb_putZ, pb_putR, pb_alen, pb_ald, pb_aldR, pb_ast, pb_astZ, pb_astR, pb_vret, pb_iret, pb_zret, pb_aret, pb_cv, pb_cr, pb_sr, pb_switch, pb_sw, pb_nth, pb_set, pb_tk, pb_add, pb_sub, List.length_cons, List.length_nil, true_or, or_true, true_and, and_true, and_self, pb_up_same, pb_up_f, ne_eq, Nat.reduceEqDiff, not_false_eq_true, Nat.reduceAdd, Nat.reduceLeDiff, Nat.zero_le, is_T hb hs, q_row h.1 hb hs, (rwU hb hs).1]
  refine c_clrU (r_T h hb hs 402 1 rfl ⟨by decide, by decide⟩ 0) hb hs (fun σ1 h1 => ?_)
  exact c_T_becomeNull (r_T h1 hb hs 405 4 rfl ⟨by decide, by decide⟩ 0) hb hs hQ
theorem c_T_startCall (h : RT σ T μ) (hb : 0 ≤ b ∧ b < 2) (hs : 0 ≤ s ∧ s < 4) {d : Int} (hQ : ∀ σ', RT σ' (gt_call T (4 * b + s) d) μ → Q (.inl 0) σ') : pb_MJ x i_T_startCall [.inr (32 + 77 * b + 11 * s), .inl d] 213 σ Q := by
  refine pb_m_T_startCall ?_
  simp only [pb_b_T_startCall_0, pb_iconst, pb_null, pb_iload, pb_aload, pb_istore, pb_astore, pb_iinc, pb_bin, pb_bin0, pb_dup, pb_pop, pb_dup2, pb_if, pb_icmp, pb_ifnull, pb_getI, pb_getR, pb_putI, pb_putZ, pb_putR, pb_alen, pb_ald, pb_aldR, pb_ast, pb_astZ, pb_astR, pb_vret, pb_iret, pb_zret, pb_aret, pb_cv, pb_cr, pb_sr, pb_switch, pb_sw, pb_nth, pb_set, pb_tk, pb_add, pb_sub, List.length_cons, List.length_nil, true_or, or_true, true_and, and_true, and_self, pb_up_same, pb_up_f, ne_eq, Nat.reduceEqDiff, not_false_eq_true, Nat.reduceAdd, Nat.reduceLeDiff, Nat.zero_le, is_T hb hs, q_row h.1 hb hs, (rwU hb hs).1, q_T h hb hs 402 1 rfl ⟨by decide, by decide⟩, q_T h hb hs 403 2 rfl ⟨by decide, by decide⟩, q_T h hb hs 404 3 rfl ⟨by decide, by decide⟩, q_T h hb hs 405 4 rfl ⟨by decide, by decide⟩, q_T h hb hs 406 5 rfl ⟨by decide, by decide⟩, q_T h hb hs 407 6 rfl ⟨by decide, by decide⟩, q_T h hb hs 408 7 rfl ⟨by decide, by decide⟩, q_T h hb hs 409 8 rfl ⟨by decide, by decide⟩, q_T h hb hs 410 9 rfl ⟨by decide, by decide⟩, q_T h hb hs 411 10 rfl ⟨by decide, by decide⟩, q_T h hb hs 412 11 rfl ⟨by decide, by decide⟩, q_T h hb hs 413 12 rfl ⟨by decide, by decide⟩, q_T h hb hs 414 13 rfl ⟨by decide, by decide⟩, q_T h hb hs 415 14 rfl ⟨by decide, by decide⟩, q_T h hb hs 416 15 rfl ⟨by decide, by decide⟩]
  have h1 := r_T h hb hs 408 7 rfl ⟨by decide, by decide⟩ 1
  have h2 := r_T h1 hb hs 409 8 rfl ⟨by decide, by decide⟩ (pb_w (pb_mul 2 (T.1 13 (4 * b + s)) + 1))
  have h3 := r_T h2 hb hs 414 13 rfl ⟨by decide, by decide⟩ (pb_w (T.1 13 (4 * b + s) + 1))
  exact c_putU h3 hb hs hQ
def gt_clock (T : gT) (t : Int) : gT := if T.1 1 t = 0 then T else if T.1 4 t = 0 then (if 0 < pb_w (T.1 6 t - 1) then gt_set T 6 t (pb_w (T.1 6 t - 1)) else gt_next (gt_set T 6 t (pb_w (T.1 6 t - 1))) t) else T
theorem c_T_runClock (h : RT σ T μ) (hb : 0 ≤ b ∧ b < 2) (hs : 0 ≤ s ∧ s < 4) (hQ : ∀ σ', RT σ' (gt_clock T (4 * b + s)) μ → Q (.inl 0) σ') : pb_MJ x i_T_runClock [.inr (32 + 77 * b + 11 * s)] 213 σ Q := by
  refine pb_m_T_runClock ?_
  simp only [pb_b_T_runClock_0, pb_b_T_runClock_14, pb_b_T_runClock_15, pb_b_T_runClock_36, pb_iconst, pb_null, pb_iload, pb_aload, pb_istore, pb_astore, pb_iinc, pb_bin, pb_bin0, pb_dup, pb_pop, pb_dup2, pb_if, pb_icmp, pb_ifnull, pb_getI, pb_getR, pb_putI, pb_putZ, pb_putR, pb_alen, pb_ald, pb_aldR, pb_ast, pb_astZ, pb_astR, pb_vret, pb_iret, pb_zret, pb_aret, pb_cv, pb_cr, pb_sr, pb_switch, pb_sw, pb_nth, pb_set, pb_tk, pb_add, pb_sub, List.length_cons, List.length_nil, true_or, or_true, true_and, and_true, and_self, pb_up_same, pb_up_f, ne_eq, Nat.reduceEqDiff, not_false_eq_true, Nat.reduceAdd, Nat.reduceLeDiff, Nat.zero_le, is_T hb hs, q_T h hb hs 402 1 rfl ⟨by decide, by decide⟩, q_T h hb hs 403 2 rfl ⟨by decide, by decide⟩, q_T h hb hs 404 3 rfl ⟨by decide, by decide⟩, q_T h hb hs 405 4 rfl ⟨by decide, by decide⟩, q_T h hb hs 406 5 rfl ⟨by decide, by decide⟩, q_T h hb hs 407 6 rfl ⟨by decide, by decide⟩, q_T h hb hs 408 7 rfl ⟨by decide, by decide⟩, q_T h hb hs 409 8 rfl ⟨by decide, by decide⟩, q_T h hb hs 410 9 rfl ⟨by decide, by decide⟩, q_T h hb hs 411 10 rfl ⟨by decide, by decide⟩, q_T h hb hs 412 11 rfl ⟨by decide, by decide⟩, q_T h hb hs 413 12 rfl ⟨by decide, by decide⟩, q_T h hb hs 414 13 rfl ⟨by decide, by decide⟩, q_T h hb hs 415 14 rfl ⟨by decide, by decide⟩, q_T h hb hs 416 15 rfl ⟨by decide, by decide⟩]
  unfold gt_clock at hQ
  have h1 := r_T h hb hs 407 6 rfl ⟨by decide, by decide⟩ (pb_w (T.1 6 (4 * b + s) - 1))
  refine ⟨fun a1 => ?_, fun a1 => ⟨fun a2 => ⟨fun a3 => ?_, fun a3 => ?_⟩, fun a2 => ?_⟩⟩
  · rw [if_pos a1] at hQ
    exact hQ _ h
  · rw [if_neg a1, if_pos a2, if_pos a3] at hQ
    exact hQ _ h1
  · rw [if_neg a1, if_pos a2, if_neg a3] at hQ
    exact c_T_startOverWithNextDraw h1 hb hs hQ
  · rw [if_neg a1, if_neg a2] at hQ
    exact hQ _ h
/-- does it contend? -/
def g_con (T : gT) (t m : Int) : Prop := ¬ T.1 1 t = 0 ∧ ¬ T.2 t = [] ∧ T.1 2 t = m
theorem c_T_contends (h : RT σ T μ) (hb : 0 ≤ b ∧ b < 2) (hs : 0 ≤ s ∧ s < 4) {m : Int} (h1 : g_con T (4 * b + s) m → Q (.inl 1) σ) (h0 : ¬ g_con T (4 * b + s) m → Q (.inl 0) σ) : pb_MJ x i_T_contends [.inr (32 + 77 * b + 11 * s), .inl m] 213 σ Q := by
  refine pb_m_T_contends ?_
  have hz := (q_rowU h hb hs).2.1
  simp only [pb_b_T_contends_0, pb_b_T_contends_29, pb_b_T_contends_30, pb_iconst, pb_null, pb_iload, pb_aload, pb_istore, pb_astore, pb_iinc, pb_bin, pb_bin0, pb_dup, pb_pop, pb_dup2, pb_if, pb_icmp, pb_ifnull, pb_getI, pb_getR, pb_putI, pb_putZ, pb_putR, pb_alen, pb_ald, pb_aldR, pb_ast, pb_astZ, pb_astR, pb_vret, pb_iret, pb_zret, pb_aret, pb_cv, pb_cr, pb_sr, pb_switch, pb_sw, pb_nth, pb_set, pb_tk, pb_add, pb_sub, List.length_cons, List.length_nil, true_or, or_true, true_and, and_true, and_self, pb_up_same, pb_up_f, ne_eq, Nat.reduceEqDiff, not_false_eq_true, Nat.reduceAdd, Nat.reduceLeDiff, Nat.zero_le, is_T hb hs, q_row h.1 hb hs, (rwU hb hs).1, q_T h hb hs 402 1 rfl ⟨by decide, by decide⟩, q_T h hb hs 403 2 rfl ⟨by decide, by decide⟩, q_T h hb hs 404 3 rfl ⟨by decide, by decide⟩, q_T h hb hs 405 4 rfl ⟨by decide, by decide⟩, q_T h hb hs 406 5 rfl ⟨by decide, by decide⟩, q_T h hb hs 407 6 rfl ⟨by decide, by decide⟩, q_T h hb hs 408 7 rfl ⟨by decide, by decide⟩, q_T h hb hs 409 8 rfl ⟨by decide, by decide⟩, q_T h hb hs 410 9 rfl ⟨by decide, by decide⟩, q_T h hb hs 411 10 rfl ⟨by decide, by decide⟩, q_T h hb hs 412 11 rfl ⟨by decide, by decide⟩, q_T h hb hs 413 12 rfl ⟨by decide, by decide⟩, q_T h hb hs 414 13 rfl ⟨by decide, by decide⟩, q_T h hb hs 415 14 rfl ⟨by decide, by decide⟩, q_T h hb hs 416 15 rfl ⟨by decide, by decide⟩, hz]
  have hl : T.2 (4 * b + s) = [] ↔ ((T.2 (4 * b + s)).length : Int) ≤ 0 := by
    rw [← List.length_eq_zero_iff]
    omega
  refine ⟨fun a1 => h0 (fun z => z.1 a1), fun a1 => ⟨fun a2 => h0 (fun z => z.2.1 (hl.mpr a2)), fun a2 => ⟨fun a3 => h0 (fun z => a3 z.2.2), fun a3 => h1 ⟨a1, fun z => a2 (hl.mp z), Decidable.not_not.mp a3⟩⟩⟩⟩
end TM
