theorem cs_at {E : gE} {i : Nat} {f g : gC} (hi : E.2.2[i]? = some f) : (ge_cset E i g).2.2[i]? = some g := by
  show (E.2.2.set i g)[i]? = some g
  obtain ⟨a1, a2⟩ := List.getElem?_eq_some_iff.mp hi
  rw [List.getElem?_set, if_pos rfl, if_pos a1]
section MC2
variable {x : pb_E} {σ σ' : pb_H} {T : gT} {E : gE} {w : gW} {ν : pb_H} {b s t u : Int} {Q : pb_P} {i : Nat} {f f' : gC}
theorem r_slot (h : RM σ T E w ν) (hs : 0 ≤ s ∧ s < 4) : (∃ (i : Nat) (f : gC), E.2.2[i]? = some f ∧ g_held w f ∧ w.1 (f 1) = s ∧ rm_1 σ s f) ∨ ((∀ f ∈ E.2.2, g_held w f → w.1 (f 1) ≠ s) ∧ σ 0 199 s = 0) := by
  obtain ⟨c1, c2, c3, c4⟩ := h.2.2.2.2.2.2.2.1
  by_cases z : ∃ f ∈ E.2.2, g_held w f ∧ w.1 (f 1) = s
  · obtain ⟨f, z1, z2, z3⟩ := z
    obtain ⟨i, hi⟩ := List.mem_iff_getElem?.mp z1
    refine Or.inl ⟨i, f, hi, z2, z3, ?_⟩
    rw [← z3]
    exact (c1 f z1 z2).2
  · have z2 : ∀ f ∈ E.2.2, g_held w f → w.1 (f 1) ≠ s := fun f z1 z2 z3 => z ⟨f, z1, z2, z3⟩
    exact Or.inr ⟨z2, c3 s hs.1 hs.2 z2⟩
theorem c_M_open (h : RM σ T E w ν) (hs : 0 ≤ s ∧ s < 4) (h1 : σ 0 207 s = 1 ∨ σ 0 207 s = 2 → Q (.inl 1) σ) (h0 : ¬ (σ 0 207 s = 1 ∨ σ 0 207 s = 2) → Q (.inl 0) σ) : pb_MJ x i_M_open [.inr 165, .inl s] 213 σ Q := by
  refine pb_m_M_open ?_
  simp only [pb_b_M_open_0, pb_b_M_open_20, pb_b_M_open_24, pb_b_M_open_25, pb_iconst, pb_null, pb_iload, pb_aload, pb_istore, pb_astore, pb_iinc, pb_bin, pb_bin0, pb_dup, pb_pop, pb_dup2, pb_if, pb_icmp, pb_ifnull, pb_getI, pb_getR, pb_putI, pb_putZ, pb_putR, pb_alen, pb_ald, pb_aldR, pb_ast, pb_astZ, pb_astR, pb_vret, pb_iret, pb_zret, pb_aret, pb_cv, pb_cr, pb_sr, pb_switch, pb_sw, pb_nth, pb_set, pb_tk, pb_add, pb_sub, List.length_cons, List.length_nil, true_or, or_true, true_and, and_true, and_self, pb_up_same, pb_up_f, ne_eq, Nat.reduceEqDiff, not_false_eq_true, Nat.reduceAdd, Nat.reduceLeDiff, Nat.zero_le, is_M, mf_phase h.1, mk_phase, ml_phase, hs]
  exact ⟨fun z => h1 (Or.inl z), fun z => ⟨fun z2 => h0 (fun y => y.elim z z2), fun z2 => h1 (Or.inr (Decidable.not_not.mp z2))⟩⟩
theorem l_M_callOf {n : Int} (h : RM σ T E w ν) (hN : g_num E.2.2) (h1 : ∀ (i : Nat) (f : gC), E.2.2[i]? = some f → g_held w f → f 1 = n → Q (.inl (w.1 (f 1))) σ) (h0 : (∀ (i : Nat) (f : gC), E.2.2[i]? = some f → g_held w f → ¬ f 1 = n) → Q (.inl (-1)) σ) : ∀ (d k : Nat), k + d = 4 → (∀ (i : Nat) (f : gC), E.2.2[i]? = some f → g_held w f → w.1 (f 1) < k → ¬ f 1 = n) → pb_WJ x i_M_callOf 213 Q 2 [some (.inr 165), some (.inl n), some (.inl k)] [] 213 σ := by
  intro d
  induction d with
  | zero =>
    intro k hk hp
    refine pb_s_M_callOf_2 x 213 Q _ _ _ _ ?_
    simp only [pb_b_M_callOf_2, pb_b_M_callOf_29, pb_iconst, pb_null, pb_iload, pb_aload, pb_istore, pb_astore, pb_iinc, pb_bin, pb_bin0, pb_dup, pb_pop, pb_dup2, pb_if, pb_icmp, pb_ifnull, pb_getI, pb_getR, pb_putI, pb_putZ, pb_putR, pb_alen, pb_ald, pb_aldR, pb_ast, pb_astZ, pb_astR, pb_vret, pb_iret, pb_zret, pb_aret, pb_cv, pb_cr, pb_sr, pb_switch, pb_sw, pb_nth, pb_set, pb_tk, pb_add, pb_sub, List.length_cons, List.length_nil, true_or, or_true, true_and, and_true, and_self, pb_up_same, pb_up_f, ne_eq, Nat.reduceEqDiff, not_false_eq_true, Nat.reduceAdd, Nat.reduceLeDiff, Nat.zero_le]
    refine ⟨fun _ => h0 (fun i f z1 z2 => hp i f z1 z2 ?_), fun z => absurd z (by omega)⟩
    have := (r_1 h z1 z2).1
    omega
  | succ d ih =>
    intro k hk hp
    have e : pb_w ((k : Int) + 1) = ((k + 1 : Nat) : Int) := by rw [pb_w_id (by unfold pb_R; omega)]; omega
    have hs : 0 ≤ (k : Int) ∧ (k : Int) < 4 := by omega
    have hn : (∀ (i : Nat) (f : gC), E.2.2[i]? = some f → g_held w f → w.1 (f 1) = k → ¬ f 1 = n) → pb_WJ x i_M_callOf 213 Q 2 [some (.inr 165), some (.inl n), some (.inl ((k + 1 : Nat) : Int))] [] 213 σ := fun y => ih (k + 1) (by omega) (fun i f z1 z2 z3 => by
      by_cases z4 : w.1 (f 1) = k
      · exact y i f z1 z2 z4
      · exact hp i f z1 z2 (by omega))
    refine pb_s_M_callOf_2 x 213 Q _ _ _ _ ?_
    simp only [pb_b_M_callOf_2, pb_b_M_callOf_23, pb_iconst, pb_null, pb_iload, pb_aload, pb_istore, pb_astore, pb_iinc, pb_bin, pb_bin0, pb_dup, pb_pop, pb_dup2, pb_if, pb_icmp, pb_ifnull, pb_getI, pb_getR, pb_putI, pb_putZ, pb_putR, pb_alen, pb_ald, pb_aldR, pb_ast, pb_astZ, pb_astR, pb_vret, pb_iret, pb_zret, pb_aret, pb_cv, pb_cr, pb_sr, pb_switch, pb_sw, pb_nth, pb_set, pb_tk, pb_add, pb_sub, List.length_cons, List.length_nil, true_or, or_true, true_and, and_true, and_self, pb_up_same, pb_up_f, ne_eq, Nat.reduceEqDiff, not_false_eq_true, Nat.reduceAdd, Nat.reduceLeDiff, Nat.zero_le, is_M, mf_number h.1, mk_number, ml_number, e, hs]
    refine ⟨fun z => absurd z (by omega), fun _ => ⟨fun z => hn (fun i f z1 z2 z3 z4 => ?_), fun z => ⟨fun z2 => hn (fun i f z1 z3 z4 z5 => ?_), fun z2 => ?_⟩⟩⟩
    · have := hN.1 f (List.mem_of_getElem? z1)
      omega
    · have := (r_1 h z1 z3).2.1
      rw [z4] at this
      exact z2 (this.trans z5)
    · have z3 : σ 0 199 k = n := Decidable.not_not.mp z2
      rcases r_slot h hs with ⟨i, f, y1, y2, y3, y4⟩ | ⟨y1, y2⟩
      · have := h1 i f y1 y2 (y4.1.symm.trans z3)
        rw [y3] at this
        exact this
      · omega
theorem c_M_callOf {n : Int} (h : RM σ T E w ν) (hN : g_num E.2.2) (h1 : ∀ (i : Nat) (f : gC), E.2.2[i]? = some f → g_held w f → f 1 = n → Q (.inl (w.1 (f 1))) σ) (h0 : (∀ (i : Nat) (f : gC), E.2.2[i]? = some f → g_held w f → ¬ f 1 = n) → Q (.inl (-1)) σ) : pb_MJ x i_M_callOf [.inr 165, .inl n] 213 σ Q := by
  refine pb_m_M_callOf ?_
  simp only [pb_b_M_callOf_0, pb_iconst, pb_null, pb_iload, pb_aload, pb_istore, pb_astore, pb_iinc, pb_bin, pb_bin0, pb_dup, pb_pop, pb_dup2, pb_if, pb_icmp, pb_ifnull, pb_getI, pb_getR, pb_putI, pb_putZ, pb_putR, pb_alen, pb_ald, pb_aldR, pb_ast, pb_astZ, pb_astR, pb_vret, pb_iret, pb_zret, pb_aret, pb_cv, pb_cr, pb_sr, pb_switch, pb_sw, pb_nth, pb_set, pb_tk, pb_add, pb_sub, List.length_cons, List.length_nil, true_or, or_true, true_and, and_true, and_self, pb_up_same, pb_up_f, ne_eq, Nat.reduceEqDiff, not_false_eq_true, Nat.reduceAdd, Nat.reduceLeDiff, Nat.zero_le]
  refine l_M_callOf h hN h1 h0 4 0 rfl (fun i f z1 z2 z3 => ?_)
  have := (r_1 h z1 z2).1
  omega
theorem l_M_after {n : Int} (h : RM σ T E w ν) (h1 : ∀ s, 0 ≤ s → s < 4 → n < σ 0 199 s → (∀ s', 0 ≤ s' → s' < 4 → n < σ 0 199 s' → σ 0 199 s ≤ σ 0 199 s') → Q (.inl s) σ) (h0 : (∀ s, 0 ≤ s → s < 4 → ¬ n < σ 0 199 s) → Q (.inl (-1)) σ) : ∀ (d k : Nat), k + d = 4 → ∀ B : Int, ((B = -1 ∧ ∀ s : Int, 0 ≤ s → s < k → ¬ n < σ 0 199 s) ∨ ((0 ≤ B ∧ B < k) ∧ n < σ 0 199 B ∧ ∀ s' : Int, 0 ≤ s' → s' < k → n < σ 0 199 s' → σ 0 199 B ≤ σ 0 199 s')) → pb_WJ x i_M_after 213 Q 4 [some (.inr 165), some (.inl n), some (.inl B), some (.inl k)] [] 213 σ := by
  intro d
  induction d with
  | zero =>
    intro k hk B hB
    obtain rfl : k = 4 := by omega
    refine pb_s_M_after_4 x 213 Q _ _ _ _ ?_
    simp only [pb_b_M_after_4, pb_b_M_after_46, pb_iconst, pb_null, pb_iload, pb_aload, pb_istore, pb_astore, pb_iinc, pb_bin, pb_bin0, pb_dup, pb_pop, pb_dup2, pb_if, pb_icmp, pb_ifnull, pb_getI, pb_getR, pb_putI, pb_putZ, pb_putR, pb_alen, pb_ald, pb_aldR, pb_ast, pb_astZ, pb_astR, pb_vret, pb_iret, pb_zret, pb_aret, pb_cv, pb_cr, pb_sr, pb_switch, pb_sw, pb_nth, pb_set, pb_tk, pb_add, pb_sub, List.length_cons, List.length_nil, true_or, or_true, true_and, and_true, and_self, pb_up_same, pb_up_f, ne_eq, Nat.reduceEqDiff, not_false_eq_true, Nat.reduceAdd, Nat.reduceLeDiff, Nat.zero_le]
    refine ⟨fun _ => ?_, fun z => absurd z (by omega)⟩
    rcases hB with ⟨rfl, y⟩ | ⟨y1, y2, y3⟩
    · exact h0 (fun s z1 z2 => y s z1 (by omega))
    · exact h1 B y1.1 (by omega) y2 (fun s' z1 z2 => y3 s' z1 (by omega))
  | succ d ih =>
    intro k hk B hB
    have e : pb_w ((k : Int) + 1) = ((k + 1 : Nat) : Int) := by rw [pb_w_id (by unfold pb_R; omega)]; omega
    have hs : 0 ≤ (k : Int) ∧ (k : Int) < 4 := by omega
    refine pb_s_M_after_4 x 213 Q _ _ _ _ ?_
    simp only [pb_b_M_after_4, pb_b_M_after_38, pb_b_M_after_40, pb_iconst, pb_null, pb_iload, pb_aload, pb_istore, pb_astore, pb_iinc, pb_bin, pb_bin0, pb_dup, pb_pop, pb_dup2, pb_if, pb_icmp, pb_ifnull, pb_getI, pb_getR, pb_putI, pb_putZ, pb_putR, pb_alen, pb_ald, pb_aldR, pb_ast, pb_astZ, pb_astR, pb_vret, pb_iret, pb_zret, pb_aret, pb_cv, pb_cr, pb_sr, pb_switch, pb_sw, pb_nth, pb_set, pb_tk, pb_add, pb_sub, List.length_cons, List.length_nil, true_or, or_true, true_and, and_true, and_self, pb_up_same, pb_up_f, ne_eq, Nat.reduceEqDiff, not_false_eq_true, Nat.reduceAdd, Nat.reduceLeDiff, Nat.zero_le, is_M, mf_number h.1, mk_number, ml_number, e, hs]
    have sp : ∀ s : Int, s < ((k + 1 : Nat) : Int) → s < k ∨ s = k := fun s z => by omega
    refine ⟨fun z => absurd z (by omega), fun _ => ⟨fun z => ih (k + 1) (by omega) B ?_, fun z => ⟨fun z2 => ih (k + 1) (by omega) k ?_, fun z2 => ⟨by rcases hB with y | y <;> omega, fun z3 => ih (k + 1) (by omega) B ?_, fun z3 => ih (k + 1) (by omega) k ?_⟩⟩⟩⟩
    · rcases hB with ⟨y1, y2⟩ | ⟨y1, y2, y3⟩
      · refine Or.inl ⟨y1, fun s q1 q2 => ?_⟩
        rcases sp s q2 with q | rfl
        · exact y2 s q1 q
        · omega
      · refine Or.inr ⟨by omega, y2, fun s q1 q2 q3 => ?_⟩
        rcases sp s q2 with q | rfl
        · exact y3 s q1 q q3
        · omega
    · rcases hB with ⟨y1, y2⟩ | ⟨y1, y2, y3⟩
      · refine Or.inr ⟨by omega, by omega, fun s q1 q2 q3 => ?_⟩
        rcases sp s q2 with q | rfl
        · exact absurd q3 (y2 s q1 q)
        · omega
      · omega
    · rcases hB with ⟨y1, y2⟩ | ⟨y1, y2, y3⟩
      · omega
      · refine Or.inr ⟨by omega, y2, fun s q1 q2 q3 => ?_⟩
        rcases sp s q2 with q | rfl
        · exact y3 s q1 q q3
        · omega
    · rcases hB with ⟨y1, y2⟩ | ⟨y1, y2, y3⟩
      · omega
      · refine Or.inr ⟨by omega, by omega, fun s q1 q2 q3 => ?_⟩
        rcases sp s q2 with q | rfl
        · have := y3 s q1 q q3
          omega
        · omega
/-- the first call from the place p on that lives -/
theorem c_M_after {n : Int} (h : RM σ T E w ν) (hN : g_num E.2.2) (hn : 0 ≤ n) (h1 : ∀ (i : Nat) (f : gC), E.2.2[i]? = some f → g_held w f → n < f 1 → (∀ (j : Nat) (g : gC), E.2.2[j]? = some g → g_held w g → n < g 1 → i ≤ j) → Q (.inl (w.1 (f 1))) σ) (h0 : (∀ (i : Nat) (f : gC), E.2.2[i]? = some f → g_held w f → ¬ n < f 1) → Q (.inl (-1)) σ) : pb_MJ x i_M_after [.inr 165, .inl n] 213 σ Q := by
  refine pb_m_M_after ?_
  simp only [pb_b_M_after_0, pb_iconst, pb_null, pb_iload, pb_aload, pb_istore, pb_astore, pb_iinc, pb_bin, pb_bin0, pb_dup, pb_pop, pb_dup2, pb_if, pb_icmp, pb_ifnull, pb_getI, pb_getR, pb_putI, pb_putZ, pb_putR, pb_alen, pb_ald, pb_aldR, pb_ast, pb_astZ, pb_astR, pb_vret, pb_iret, pb_zret, pb_aret, pb_cv, pb_cr, pb_sr, pb_switch, pb_sw, pb_nth, pb_set, pb_tk, pb_add, pb_sub, List.length_cons, List.length_nil, true_or, or_true, true_and, and_true, and_self, pb_up_same, pb_up_f, ne_eq, Nat.reduceEqDiff, not_false_eq_true, Nat.reduceAdd, Nat.reduceLeDiff, Nat.zero_le]
  refine l_M_after h (fun s q1 q2 q3 q4 => ?_) (fun q => h0 (fun i f z1 z2 z3 => ?_)) 4 0 rfl (-1) (Or.inl ⟨rfl, fun s z1 z2 => by omega⟩)
  · rcases r_slot h ⟨q1, q2⟩ with ⟨i, f, y1, y2, y3, y4⟩ | ⟨y1, y2⟩
    · have := h1 i f y1 y2 (by rw [← y4.1]; exact q3) (fun j g z1 z2 z3 => ?_)
      · rw [y3] at this
        exact this
      · have g1 := r_1 h z1 z2
        have g2 := q4 (w.1 (g 1)) g1.1.1 g1.1.2 (by rw [g1.2.1]; exact z3)
        rw [g1.2.1, y4.1] at g2
        refine Nat.le_of_not_lt (fun z4 => ?_)
        have := hN.lt z1 y1 z4
        omega
    · omega
  · have g1 := r_1 h z1 z2
    exact q (w.1 (f 1)) g1.1.1 g1.1.2 (by rw [g1.2.1]; exact z3)
theorem c_M_leave {k : Nat} {v : Int} (h : RM σ T E w ν) (hN : g_num E.2.2) (hi : E.2.2[i]? = some f) (hh : w.2 (f 1)) (hb : 0 ≤ f 10 ∧ f 10 < 2) (hk : k < 4) (hQ : ∀ σ', RM σ' T (ge_put (ge_cset E i (c_up f (20 + k) 4)) (f 10) (5, 64 + k, pb_mul 2 (f 1), v, 0)) w ν → Q (.inl 0) σ') : pb_MJ x i_M_leave [.inr 165, .inl (w.1 (f 1)), .inl k, .inl v] 213 σ Q := by
  have h1 := r_1 h hi (Or.inr hh)
  have hs := h1.1
  have e1 : pb_mul 4 (w.1 (f 1)) = 4 * w.1 (f 1) := by unfold pb_mul; exact pb_w_id (by unfold pb_R; omega)
  have e2 : pb_w (64 + (k : Int)) = 64 + k := pb_w_id (by unfold pb_R; omega)
  have e3 : pb_w (4 * w.1 (f 1) + (k : Int)) = 4 * w.1 (f 1) + k := pb_w_id (by unfold pb_R; omega)
  refine pb_m_M_leave ?_
  simp only [pb_b_M_leave_0, pb_iconst, pb_null, pb_iload, pb_aload, pb_istore, pb_astore, pb_iinc, pb_bin, pb_bin0, pb_dup, pb_pop, pb_dup2, pb_if, pb_icmp, pb_ifnull, pb_getI, pb_getR, pb_putI, pb_putZ, pb_putR, pb_alen, pb_ald, pb_aldR, pb_ast, pb_astZ, pb_astR, pb_vret, pb_iret, pb_zret, pb_aret, pb_cv, pb_cr, pb_sr, pb_switch, pb_sw, pb_nth, pb_set, pb_tk, pb_add, pb_sub, List.length_cons, List.length_nil, true_or, or_true, true_and, and_true, and_self, pb_up_same, pb_up_f, ne_eq, Nat.reduceEqDiff, not_false_eq_true, Nat.reduceAdd, Nat.reduceLeDiff, Nat.zero_le, is_M, mf_calledBus h.1, mk_calledBus, ml_calledBus, mf_number h.1, mk_number, ml_number, mf_leg h.1, mk_leg, ml_leg, h1.2.1, h1.2.2.2.2.2.2.2.1, hs, e1, e2, e3]
  refine c_M_down h hb (fun σ1 h2 => ?_)
  try simp only [pb_iconst, pb_null, pb_iload, pb_aload, pb_istore, pb_astore, pb_iinc, pb_bin, pb_bin0, pb_dup, pb_pop, pb_dup2, pb_if, pb_icmp, pb_ifnull, pb_getI, pb_getR, pb_putI, pb_putZ, pb_putR, pb_alen, pb_ald, pb_aldR, pb_ast, pb_astZ, pb_astR, pb_vret, pb_iret, pb_zret, pb_aret, pb_cv, pb_cr, pb_sr, pb_switch, pb_sw, pb_nth, pb_set, pb_tk, pb_add, pb_sub, List.length_cons, List.length_nil, true_or, or_true, true_and, and_true, and_self, pb_up_same, pb_up_f, ne_eq, Nat.reduceEqDiff, not_false_eq_true, Nat.reduceAdd, Nat.reduceLeDiff, Nat.zero_le, is_M, mf_calledBus h2.1, mk_calledBus, ml_calledBus, mf_number h2.1, mk_number, ml_number, mf_leg h2.1, mk_leg, ml_leg, e1, e2, e3]
  exact ⟨by omega, hQ _ (rm_upLeg (i := i) (f := f) (u := 4) h2 hN hi hh hk rfl)⟩
end MC2
