/-! a new call -/
def g_newC (num cb ca cr cch b ch : Int) : gC := fun k => if k = 1 then num else if k = 2 then 1 else if k = 3 then 10 else if k = 5 then cb else if k = 6 then ca else if k = 7 then cr else if k = 8 then cch else if k = 9 then 1 else if k = 10 then b else if k = 11 then ch else 0
def g_cch (E : gE) (b : Int) (fr : gF) : Int := if 0 ≤ fr.2.2.2.1 ∧ fr.2.2.2.1 < 2 then g_freeCh E.2.2 fr.2.2.2.1 (if fr.2.2.2.1 = b then g_freeCh E.2.2 b (-1) else -1) else -1
def ge_new (E : gE) (b : Int) (fr : gF) : gE := ge_calls (ge_set E 8 0 (pb_w (E.1 8 0 + 1))) (E.2.2 ++ [g_newC (pb_w (E.1 8 0 + 1)) b fr.2.1 fr.2.2.1 (g_freeCh E.2.2 b (-1)) fr.2.2.2.1 (g_cch E b fr)])
def ge_setup (E : gE) (b : Int) (fr : gF) : gE :=
  if ¬ (0 ≤ fr.2.2.2.1 ∧ fr.2.2.2.1 < 2) then ge_put E b (5, fr.2.1, fr.2.2.1, 1, 0) else if (E.2.2.length : Int) = 4 then ge_put E b (5, fr.2.1, fr.2.2.1, 2, 0) else if g_freeCh E.2.2 b (-1) = -1 then ge_put E b (5, fr.2.1, fr.2.2.1, 3, 0) else if g_cch E b fr = -1 then ge_put E b (5, fr.2.1, fr.2.2.1, 4, 0) else ge_put (ge_put (ge_new E b fr) b (1, fr.2.1, fr.2.2.1, g_freeCh E.2.2 b (-1), 0)) fr.2.2.2.1 (12, 0, pb_mul 2 (pb_w (E.1 8 0 + 1)), g_cch E b fr, 0)
section SU
variable {x : pb_E} {σ : pb_H} {E : gE} {ρ : Int → Int} {μ : pb_H} {b s : Int} {Q : pb_P} {n : Nat}
def g_zl (σ : pb_H) (p : Int) (k : Nat) : pb_H := fun f q i => if f = 0 ∧ q = p + 1 ∧ 0 ≤ i ∧ i < k then 0 else σ f q i
theorem l_C_begin {p num c ch : Int} (h1 : pb_is 6 213 p) (h2 : pb_is 100 213 (p + 1)) (h3 : pb_ln (p + 1) = 4) (h4 : σ 601 p 0 = p + 1) (hQ : Q (.inl 0) (g_zl σ p 4)) : ∀ (d k : Nat), k + d = 4 → pb_WJ x i_C_begin 213 Q 39 [some (.inr p), some (.inl num), some (.inl c), some (.inl ch), some (.inl k)] [] 213 (g_zl σ p k) := by
  intro d
  induction d with
  | zero =>
    intro k hk
    obtain rfl : k = 4 := by omega
    refine pb_s_C_begin_39 x 213 Q _ _ _ _ ?_
    simp only [pb_b_C_begin_39, pb_b_C_begin_59, pb_iconst, pb_null, pb_iload, pb_aload, pb_istore, pb_astore, pb_iinc, pb_bin, pb_bin0, pb_dup, pb_pop, pb_dup2, pb_if, pb_icmp, pb_ifnull, pb_getI, pb_getR, pb_putI, pb_putZ, pb_putR, pb_alen, pb_ald, pb_aldR, pb_ast, pb_astZ, pb_astR, pb_vret, pb_iret, pb_zret, pb_aret, pb_cv, pb_cr, pb_sr, pb_switch, pb_sw, pb_nth, pb_set, pb_tk, pb_add, pb_sub, List.length_cons, List.length_nil, true_or, or_true, true_and, and_true, and_self, pb_up_same, pb_up_f, ne_eq, Nat.reduceEqDiff, not_false_eq_true, Nat.reduceAdd, Nat.reduceLeDiff, Nat.zero_le]
    exact ⟨fun _ => hQ, fun z => absurd z (by omega)⟩
  | succ d ih =>
    intro k hk
    refine pb_s_C_begin_39 x 213 Q _ _ _ _ ?_
    have e : pb_w ((k : Int) + 1) = ((k + 1 : Nat) : Int) := by rw [pb_w_id (by unfold pb_R; omega)]; omega
    have e1 : g_zl σ p k 601 p 0 = p + 1 := by
      unfold g_zl
      rw [if_neg (by omega)]
      exact h4
    have e2 : pb_up (g_zl σ p k) 0 (p + 1) k 0 = g_zl σ p (k + 1) := by
      funext f q i
      unfold pb_up g_zl
      by_cases z : f = 0 ∧ q = p + 1 ∧ i = k
      · rw [if_pos z, if_pos ⟨z.1, z.2.1, by omega, by omega⟩]
      · rw [if_neg z]
        by_cases z2 : f = 0 ∧ q = p + 1 ∧ 0 ≤ i ∧ i < k
        · rw [if_pos z2, if_pos ⟨z2.1, z2.2.1, z2.2.2.1, by omega⟩]
        · rw [if_neg z2, if_neg]
          rintro ⟨q1, q2, q3, q4⟩
          by_cases q5 : i = k
          · exact z ⟨q1, q2, q5⟩
          · exact z2 ⟨q1, q2, q3, by omega⟩
    simp only [pb_b_C_begin_39, pb_iconst, pb_null, pb_iload, pb_aload, pb_istore, pb_astore, pb_iinc, pb_bin, pb_bin0, pb_dup, pb_pop, pb_dup2, pb_if, pb_icmp, pb_ifnull, pb_getI, pb_getR, pb_putI, pb_putZ, pb_putR, pb_alen, pb_ald, pb_aldR, pb_ast, pb_astZ, pb_astR, pb_vret, pb_iret, pb_zret, pb_aret, pb_cv, pb_cr, pb_sr, pb_switch, pb_sw, pb_nth, pb_set, pb_tk, pb_add, pb_sub, List.length_cons, List.length_nil, true_or, or_true, true_and, and_true, and_self, pb_up_same, pb_up_f, ne_eq, Nat.reduceEqDiff, not_false_eq_true, Nat.reduceAdd, Nat.reduceLeDiff, Nat.zero_le, h1, h2, h3, e1, e, e2]
    exact ⟨fun z => absurd z (by omega), fun _ => ⟨⟨by omega, by omega⟩, ih (k + 1) (by omega)⟩⟩
theorem c_C_begin {p num c ch : Int} (h1 : pb_is 6 213 p) (h2 : pb_is 100 213 (p + 1)) (h3 : pb_ln (p + 1) = 4) (h4 : σ 601 p 0 = p + 1) (hQ : Q (.inl 0) (g_zl (pb_up (pb_up (pb_up (pb_up (pb_up (pb_up (pb_up σ 602 p 0 num) 611 p 0 c) 612 p 0 ch) 603 p 0 1) 604 p 0 10) 605 p 0 0) 613 p 0 0) p 4)) : pb_MJ x i_C_begin [.inr p, .inl num, .inl c, .inl ch] 213 σ Q := by
  refine pb_m_C_begin ?_
  simp only [pb_b_C_begin_0, pb_iconst, pb_null, pb_iload, pb_aload, pb_istore, pb_astore, pb_iinc, pb_bin, pb_bin0, pb_dup, pb_pop, pb_dup2, pb_if, pb_icmp, pb_ifnull, pb_getI, pb_getR, pb_putI, pb_putZ, pb_putR, pb_alen, pb_ald, pb_aldR, pb_ast, pb_astZ, pb_astR, pb_vret, pb_iret, pb_zret, pb_aret, pb_cv, pb_cr, pb_sr, pb_switch, pb_sw, pb_nth, pb_set, pb_tk, pb_add, pb_sub, List.length_cons, List.length_nil, true_or, or_true, true_and, and_true, and_self, pb_up_same, pb_up_f, ne_eq, Nat.reduceEqDiff, not_false_eq_true, Nat.reduceAdd, Nat.reduceLeDiff, Nat.zero_le, h1]
  have e0 : ∀ τ : pb_H, g_zl τ p 0 = τ := by
    intro τ
    funext f q i
    unfold g_zl
    rw [if_neg (by omega)]
  have := l_C_begin (x := x) (σ := pb_up (pb_up (pb_up (pb_up (pb_up (pb_up (pb_up σ 602 p 0 num) 611 p 0 c) 612 p 0 ch) 603 p 0 1) 604 p 0 10) 605 p 0 0) 613 p 0 0) (num := num) (c := c) (ch := ch) h1 h2 h3 (by simp only [pb_up_f, ne_eq, Nat.reduceEqDiff, not_false_eq_true]; exact h4) hQ 4 0 rfl
  rw [e0] at this
  exact this
theorem c_C_setCaller {p c a r ch : Int} (h1 : pb_is 6 213 p) (hQ : Q (.inl 0) (pb_up (pb_up (pb_up (pb_up (pb_up σ 606 p 0 c) 607 p 0 a) 608 p 0 r) 609 p 0 ch) 610 p 0 1)) : pb_MJ x i_C_setCaller [.inr p, .inl c, .inl a, .inl r, .inl ch] 213 σ Q := by
  refine pb_m_C_setCaller ?_
  simp only [pb_b_C_setCaller_0, pb_iconst, pb_null, pb_iload, pb_aload, pb_istore, pb_astore, pb_iinc, pb_bin, pb_bin0, pb_dup, pb_pop, pb_dup2, pb_if, pb_icmp, pb_ifnull, pb_getI, pb_getR, pb_putI, pb_putZ, pb_putR, pb_alen, pb_ald, pb_aldR, pb_ast, pb_astZ, pb_astR, pb_vret, pb_iret, pb_zret, pb_aret, pb_cv, pb_cr, pb_sr, pb_switch, pb_sw, pb_nth, pb_set, pb_tk, pb_add, pb_sub, List.length_cons, List.length_nil, true_or, or_true, true_and, and_true, and_self, pb_up_same, pb_up_f, ne_eq, Nat.reduceEqDiff, not_false_eq_true, Nat.reduceAdd, Nat.reduceLeDiff, Nat.zero_le, h1]
  exact hQ
/-- a call behind the others -/
theorem re_new {σ' : pb_H} {f : gC} {v : Int} (h : RE σ E ρ μ) (hl : E.2.2.length < 4) (e : ∀ f' p' j, ¬ (f' = 3 ∧ p' = 0) → ¬ (f' = 4 ∧ p' = 0) → ¬ ((602 ≤ f' ∧ f' ≤ 613) ∧ p' = ρ E.2.2.length) → ¬ (f' = 0 ∧ p' = ρ E.2.2.length + 1) → σ' f' p' j = σ f' p' j) (e3 : σ' 3 0 0 = E.2.2.length + 1) (e4 : σ' 4 0 0 = v) (ek : ∀ k, 1 ≤ k → k < 13 → σ' (601 + k) (ρ E.2.2.length) 0 = f k) (ej : ∀ j : Nat, j < 4 → σ' 0 (ρ E.2.2.length + 1) j = f (20 + j)) : RE σ' (ge_calls (ge_set E 8 0 v) (E.2.2 ++ [f])) ρ μ := by
  obtain ⟨h_fin, h_D, h_L, h_B, h_P, h_C, h_R, h_Y⟩ := h
  obtain ⟨j0, b1, b2, b3⟩ := h_C.2.1 E.2.2.length (by omega) (by omega)
  rw [h_R] at b3
  refine ⟨h_fin.cg (fun f' p' i' hk => e _ _ _ (by unfold k_fin at hk; omega) (by unfold k_fin at hk; omega) (by unfold k_fin at hk; omega) (by unfold k_fin at hk; omega)), h_D.cg (fun f' p' i' hk => e _ _ _ (by unfold k_D at hk; omega) (by unfold k_D at hk; omega) (by unfold k_D at hk; omega) (by unfold k_D at hk; omega)), ?_, ?_, ?_, ?_, h_R.cg (fun f' p' i' hk => e _ _ _ (by unfold k_R at hk; omega) (by unfold k_R at hk; omega) (by unfold k_R at hk; omega) (by unfold k_R at hk; omega)), h_Y.cg (fun f' p' i' hk => e _ _ _ (by unfold k_Y k_D k_L k_B k_P k_C at hk; omega) (by unfold k_Y k_D k_L k_B k_P k_C at hk; omega) (by unfold k_Y k_D k_L k_B k_P k_C at hk; omega) (by unfold k_Y k_D k_L k_B k_P k_C at hk; omega))⟩
  · intro b' j' k' q1 q2 q3 q4 q5
    show _ = g_up E.1 8 0 v k' (4 * b' + j')
    rw [g_up_n (by omega), e _ _ _ (by omega) (by omega) (by omega) (by omega)]
    exact h_L b' j' k' q1 q2 q3 q4 q5
  · intro b' k' q1 q2 q3
    show _ = g_up E.1 8 0 v (6 + k') b'
    rw [g_up_n (by omega), e _ _ _ (by omega) (by omega) (by omega) (by omega)]
    exact h_B b' k' q1 q2 q3
  · show rc_P σ' (g_up E.1 8 0 v) (E.2.2 ++ [f])
    refine ⟨by rw [e3, List.length_append]; simp, by rw [e4, g_up_s], ?_⟩
    rw [g_up_n (by omega), e _ _ _ (by omega) (by omega) (by omega) (by omega)]
    exact h_P.2.2
  · show rc_C σ' (E.2.2 ++ [f])
    obtain ⟨a1, a2, a3, a4, a5⟩ := h_C
    have e2 : ∀ i, σ' 0 2 i = σ 0 2 i := fun i => e _ _ _ (by omega) (by omega) (by omega) (by omega)
    refine ⟨by rw [List.length_append]; simp; omega, fun i q1 q2 => by rw [e2]; exact a2 i q1 q2, fun i j q1 q2 q3 q4 q5 => a3 i j q1 q2 q3 q4 (by rw [e2, e2] at q5; exact q5), fun j q1 q2 => by rw [e _ _ _ (by omega) (by omega) (by omega) (by omega)]; exact a4 j q1 q2, fun i f' hi => ?_⟩
    rw [e2]
    rcases g_appA hi with ⟨i1, i2⟩ | ⟨rfl, rfl⟩
    · obtain ⟨j1, c1, c2, c3⟩ := a2 i (by omega) (by omega)
      have hne : σ 0 2 i ≠ ρ E.2.2.length := by
        intro z
        rw [← h_R] at z
        have := a3 i E.2.2.length (by omega) (by omega) (by omega) (by omega) z
        omega
      refine ⟨fun k q1 q2 => ?_, fun j q1 => ?_⟩
      · rw [e _ _ _ (by omega) (by omega) (by omega) (by omega)]
        exact (a5 i f' i2).1 k q1 q2
      · rw [e _ _ _ (by omega) (by omega) (by omega) (by omega)]
        exact (a5 i f' i2).2 j q1
    · rw [h_R]
      exact ⟨ek, ej⟩
set_option maxHeartbeats 2000000 in
theorem c_P_onSetup {q : Int} {fr : gF} (h : RE σ E ρ μ) (hb : 0 ≤ b ∧ b < 2) (hw : g_cws E.2.2) (hq : pb_is 3 213 q) (hd : (32 ≤ q ∧ q ≤ 75) ∨ (109 ≤ q ∧ q ≤ 152)) (hf : g_fr μ q = fr) (hQ : ∀ σ', RE σ' (ge_setup E b fr) ρ μ → Q (.inl 0) σ') : pb_MJ x i_P_onSetup [.inr 0, .inl b, .inr q] 213 σ Q := by
  refine pb_m_P_onSetup ?_
  obtain ⟨f1, f2, f3, f4⟩ := p_F h hd hf
  have hlen := p_len h
  have hP := p_P h
  unfold ge_setup at hQ
  have rest : ∀ v : Int, v = g_cch E b fr → pb_b_P_onSetup_40 x 213 Q [some (.inr 0), some (.inl b), some (.inr q), some (.inl fr.2.2.2.1), some (.inl (g_freeCh E.2.2 b (-1))), none, none] [.inl v] 213 σ := by
    intro v hv
    subst hv
    simp only [pb_b_P_onSetup_40, pb_b_P_onSetup_59, pb_b_P_onSetup_77, pb_b_P_onSetup_93, pb_b_P_onSetup_213, pb_iconst, pb_null, pb_iload, pb_aload, pb_istore, pb_astore, pb_iinc, pb_bin, pb_bin0, pb_dup, pb_pop, pb_dup2, pb_if, pb_icmp, pb_ifnull, pb_getI, pb_getR, pb_putI, pb_putZ, pb_putR, pb_alen, pb_ald, pb_aldR, pb_ast, pb_astZ, pb_astR, pb_vret, pb_iret, pb_zret, pb_aret, pb_cv, pb_cr, pb_sr, pb_switch, pb_sw, pb_nth, pb_set, pb_tk, pb_add, pb_sub, List.length_cons, List.length_nil, true_or, or_true, true_and, and_true, and_self, pb_up_same, pb_up_f, ne_eq, Nat.reduceEqDiff, not_false_eq_true, Nat.reduceAdd, Nat.reduceLeDiff, Nat.zero_le, is_P.1, hq]
    refine c_P_isBus (fun hc => ?_) (fun hc => ?_)
    · rw [if_neg (fun z => z hc)] at hQ
      try simp only [pb_iconst, pb_null, pb_iload, pb_aload, pb_istore, pb_astore, pb_iinc, pb_bin, pb_bin0, pb_dup, pb_pop, pb_dup2, pb_if, pb_icmp, pb_ifnull, pb_getI, pb_getR, pb_putI, pb_putZ, pb_putR, pb_alen, pb_ald, pb_aldR, pb_ast, pb_astZ, pb_astR, pb_vret, pb_iret, pb_zret, pb_aret, pb_cv, pb_cr, pb_sr, pb_switch, pb_sw, pb_nth, pb_set, pb_tk, pb_add, pb_sub, List.length_cons, List.length_nil, true_or, or_true, true_and, and_true, and_self, pb_up_same, pb_up_f, ne_eq, Nat.reduceEqDiff, not_false_eq_true, Nat.reduceAdd, Nat.reduceLeDiff, Nat.zero_le, is_P.1, hq, hP.2.2.1]
      refine ⟨fun _ => ⟨fun z => ?_, fun z => ?_⟩, fun z => by simp at z⟩
      · rw [if_neg z] at hQ
        refine ⟨fun z2 => ?_, fun z2 => ?_⟩
        · rw [if_neg z2] at hQ
          refine ⟨fun z3 => ?_, fun z3 => ?_⟩
          · rw [if_neg z3] at hQ
            obtain ⟨j0, c1, c2, c3⟩ := h.2.2.2.2.2.1.2.1 E.2.2.length (by omega) (by omega)
            have hp : ρ E.2.2.length = 157 + 2 * j0 := by rw [← p_ref h]; exact c3
            have hi := is_C ⟨c1, c2⟩
            have h601 := h.2.2.2.2.2.1.2.2.2.1 j0 c1 c2
            rw [← hp] at hi h601
            rw [show (158 + 2 * j0 : Int) = ρ E.2.2.length + 1 by omega] at hi h601
            have ew : pb_w ((E.2.2.length : Int) + 1) = E.2.2.length + 1 := pb_w_id (by unfold pb_R; omega)
            simp only [pb_b_P_onSetup_109, pb_b_P_onSetup_213, pb_iconst, pb_null, pb_iload, pb_aload, pb_istore, pb_astore, pb_iinc, pb_bin, pb_bin0, pb_dup, pb_pop, pb_dup2, pb_if, pb_icmp, pb_ifnull, pb_getI, pb_getR, pb_putI, pb_putZ, pb_putR, pb_alen, pb_ald, pb_aldR, pb_ast, pb_astZ, pb_astR, pb_vret, pb_iret, pb_zret, pb_aret, pb_cv, pb_cr, pb_sr, pb_switch, pb_sw, pb_nth, pb_set, pb_tk, pb_add, pb_sub, List.length_cons, List.length_nil, true_or, or_true, true_and, and_true, and_self, pb_up_same, pb_up_f, ne_eq, Nat.reduceEqDiff, not_false_eq_true, Nat.reduceAdd, Nat.reduceLeDiff, Nat.zero_le, is_P.1, is_P.2.2.1, is_P.2.2.2.2, hP.1, hP.2.1, hP.2.2.1, hP.2.2.2.1, p_ref h, hi.1, hq]
            refine ⟨⟨by omega, by omega⟩, c_C_begin hi.1 hi.2.1 hi.2.2 (by simp only [pb_up_f, ne_eq, Nat.reduceEqDiff, not_false_eq_true]; exact h601) ?_⟩
            generalize hσa : g_zl _ (ρ E.2.2.length) 4 = σa
            have q0 : ∀ f' p' j, ¬ (f' = 3 ∧ p' = 0) → ¬ (f' = 4 ∧ p' = 0) → ¬ ((602 ≤ f' ∧ f' ≤ 613) ∧ p' = ρ E.2.2.length) → ¬ (f' = 0 ∧ p' = ρ E.2.2.length + 1) → σa f' p' j = σ f' p' j := by
              intro f' p' j y1 y2 y3 y4
              rw [← hσa]
              unfold g_zl
              rw [if_neg (fun z => y4 ⟨z.1, z.2.1⟩), pb_up_k (by omega), pb_up_k (by omega), pb_up_k (by omega), pb_up_k (by omega), pb_up_k (by omega), pb_up_k (by omega), pb_up_k (by omega), pb_up_k y2, pb_up_k y1]
            have a2 : σa 302 q 0 = fr.2.1 := by rw [q0 _ _ _ (by omega) (by omega) (by omega) (by omega)]; exact f2
            have a3 : σa 303 q 0 = fr.2.2.1 := by rw [q0 _ _ _ (by omega) (by omega) (by omega) (by omega)]; exact f3
            try simp only [pb_iconst, pb_null, pb_iload, pb_aload, pb_istore, pb_astore, pb_iinc, pb_bin, pb_bin0, pb_dup, pb_pop, pb_dup2, pb_if, pb_icmp, pb_ifnull, pb_getI, pb_getR, pb_putI, pb_putZ, pb_putR, pb_alen, pb_ald, pb_aldR, pb_ast, pb_astZ, pb_astR, pb_vret, pb_iret, pb_zret, pb_aret, pb_cv, pb_cr, pb_sr, pb_switch, pb_sw, pb_nth, pb_set, pb_tk, pb_add, pb_sub, List.length_cons, List.length_nil, true_or, or_true, true_and, and_true, and_self, pb_up_same, pb_up_f, ne_eq, Nat.reduceEqDiff, not_false_eq_true, Nat.reduceAdd, Nat.reduceLeDiff, Nat.zero_le, hi.1, hq, a2, a3]
            refine c_C_setCaller hi.1 ?_
            generalize hσb : pb_up (pb_up (pb_up (pb_up (pb_up σa 606 (ρ E.2.2.length) 0 b) 607 (ρ E.2.2.length) 0 fr.2.1) 608 (ρ E.2.2.length) 0 fr.2.2.1) 609 (ρ E.2.2.length) 0 (g_freeCh E.2.2 b (-1))) 610 (ρ E.2.2.length) 0 1 = σb
            have hnew : RE σb (ge_new E b fr) ρ μ := by
              refine re_new h (by omega) ?_ ?_ ?_ ?_ ?_
              · intro f' p' j y1 y2 y3 y4
                rw [← hσb, pb_up_k (by omega), pb_up_k (by omega), pb_up_k (by omega), pb_up_k (by omega), pb_up_k (by omega)]
                exact q0 f' p' j y1 y2 y3 y4
              · rw [← hσb, ← hσa]
                simp only [pb_up_f, ne_eq, Nat.reduceEqDiff, not_false_eq_true]
                unfold g_zl
                rw [if_neg (by omega)]
                simp only [pb_up_f, pb_up_same, ne_eq, Nat.reduceEqDiff, not_false_eq_true]
                exact ew
              · rw [← hσb, ← hσa]
                simp only [pb_up_f, ne_eq, Nat.reduceEqDiff, not_false_eq_true]
                unfold g_zl
                rw [if_neg (by omega)]
                simp only [pb_up_f, pb_up_same, ne_eq, Nat.reduceEqDiff, not_false_eq_true]
              · intro k k1 k2
                have hk : k = 1 ∨ k = 2 ∨ k = 3 ∨ k = 4 ∨ k = 5 ∨ k = 6 ∨ k = 7 ∨ k = 8 ∨ k = 9 ∨ k = 10 ∨ k = 11 ∨ k = 12 := by omega
                rw [← hσb, ← hσa]
                rcases hk with rfl | rfl | rfl | rfl | rfl | rfl | rfl | rfl | rfl | rfl | rfl | rfl <;> simp [pb_up, g_zl, g_newC]
              · intro j hj
                rw [← hσb]
                simp only [pb_up_f, ne_eq, Nat.reduceEqDiff, not_false_eq_true, show (0 : Nat) ≠ 610 by decide, show (0 : Nat) ≠ 609 by decide, show (0 : Nat) ≠ 608 by decide, show (0 : Nat) ≠ 607 by decide, show (0 : Nat) ≠ 606 by decide]
                rw [← hσa]
                unfold g_zl
                rw [if_pos ⟨rfl, rfl, by omega, by omega⟩]
                unfold g_newC
                rw [if_neg (by omega), if_neg (by omega), if_neg (by omega), if_neg (by omega), if_neg (by omega), if_neg (by omega), if_neg (by omega), if_neg (by omega), if_neg (by omega), if_neg (by omega)]
            obtain ⟨u1, u2, u3, u4⟩ := p_F hnew hd hf
            try simp only [pb_iconst, pb_null, pb_iload, pb_aload, pb_istore, pb_astore, pb_iinc, pb_bin, pb_bin0, pb_dup, pb_pop, pb_dup2, pb_if, pb_icmp, pb_ifnull, pb_getI, pb_getR, pb_putI, pb_putZ, pb_putR, pb_alen, pb_ald, pb_aldR, pb_ast, pb_astZ, pb_astR, pb_vret, pb_iret, pb_zret, pb_aret, pb_cv, pb_cr, pb_sr, pb_switch, pb_sw, pb_nth, pb_set, pb_tk, pb_add, pb_sub, List.length_cons, List.length_nil, true_or, or_true, true_and, and_true, and_self, pb_up_same, pb_up_f, ne_eq, Nat.reduceEqDiff, not_false_eq_true, Nat.reduceAdd, Nat.reduceLeDiff, Nat.zero_le, is_P.1, is_P.2.1, is_P.2.2.1, is_P.2.2.2.1, is_P.2.2.2.2, (p_P hnew).1, (p_P hnew).2.1, (p_P hnew).2.2.1, (p_P hnew).2.2.2.1, (p_P hnew).2.2.2.2, p_ref hnew, (q_bus hnew.1 hb).1, (q_bus hnew.1 hb).2.1, (q_bus hnew.1 hb).2.2.1, (q_bus hnew.1 hb).2.2.2, (is_B hb).1, (is_B hb).2.1, (is_B hb).2.2.1, (is_B hb).2.2.2.1, (is_B hb).2.2.2.2, (rwD hb).1, hq, u2, u3]
            refine ⟨hb, c_putD hnew hb (fun σ4 h4 => ?_)⟩
            have hcb : 0 ≤ fr.2.2.2.1 ∧ fr.2.2.2.1 < 2 := hc
            try simp only [pb_iconst, pb_null, pb_iload, pb_aload, pb_istore, pb_astore, pb_iinc, pb_bin, pb_bin0, pb_dup, pb_pop, pb_dup2, pb_if, pb_icmp, pb_ifnull, pb_getI, pb_getR, pb_putI, pb_putZ, pb_putR, pb_alen, pb_ald, pb_aldR, pb_ast, pb_astZ, pb_astR, pb_vret, pb_iret, pb_zret, pb_aret, pb_cv, pb_cr, pb_sr, pb_switch, pb_sw, pb_nth, pb_set, pb_tk, pb_add, pb_sub, List.length_cons, List.length_nil, true_or, or_true, true_and, and_true, and_self, pb_up_same, pb_up_f, ne_eq, Nat.reduceEqDiff, not_false_eq_true, Nat.reduceAdd, Nat.reduceLeDiff, Nat.zero_le, is_P.1, is_P.2.1, is_P.2.2.1, is_P.2.2.2.1, is_P.2.2.2.2, (p_P h4).1, (p_P h4).2.1, (p_P h4).2.2.1, (p_P h4).2.2.2.1, (p_P h4).2.2.2.2, p_ref h4, (q_bus h4.1 hcb).1, (q_bus h4.1 hcb).2.1, (q_bus h4.1 hcb).2.2.1, (q_bus h4.1 hcb).2.2.2, (is_B hcb).1, (is_B hcb).2.1, (is_B hcb).2.2.1, (is_B hcb).2.2.2.1, (is_B hcb).2.2.2.2, (rwD hcb).1, hi.1]
            refine ⟨hcb, ?_⟩
            have hc4 := p_call (i := E.2.2.length) (f := g_newC (pb_w (E.1 8 0 + 1)) b fr.2.1 fr.2.2.1 (g_freeCh E.2.2 b (-1)) fr.2.2.2.1 (g_cch E b fr)) h4 (by show (E.2.2 ++ [_])[E.2.2.length]? = _; rw [List.getElem?_append_right (Nat.le_refl _), Nat.sub_self]; rfl)
            refine c_C_calledReference hc4 ?_
            try simp only [pb_iconst, pb_null, pb_iload, pb_aload, pb_istore, pb_astore, pb_iinc, pb_bin, pb_bin0, pb_dup, pb_pop, pb_dup2, pb_if, pb_icmp, pb_ifnull, pb_getI, pb_getR, pb_putI, pb_putZ, pb_putR, pb_alen, pb_ald, pb_aldR, pb_ast, pb_astZ, pb_astR, pb_vret, pb_iret, pb_zret, pb_aret, pb_cv, pb_cr, pb_sr, pb_switch, pb_sw, pb_nth, pb_set, pb_tk, pb_add, pb_sub, List.length_cons, List.length_nil, true_or, or_true, true_and, and_true, and_self, pb_up_same, pb_up_f, ne_eq, Nat.reduceEqDiff, not_false_eq_true, Nat.reduceAdd, Nat.reduceLeDiff, Nat.zero_le, (q_bus h4.1 hcb).1, (q_bus h4.1 hcb).2.1, (q_bus h4.1 hcb).2.2.1, (q_bus h4.1 hcb).2.2.2, (is_B hcb).1, (is_B hcb).2.1, (is_B hcb).2.2.1, (is_B hcb).2.2.2.1, (is_B hcb).2.2.2.2, (rwD hcb).1]
            exact c_putD h4 hcb hQ
          · rw [if_pos (Decidable.not_not.mp z3)] at hQ
            exact c_P_refuse h hb hq f2 f3 hQ
        · rw [if_pos (Decidable.not_not.mp z2)] at hQ
          exact c_P_refuse h hb hq f2 f3 hQ
      · rw [if_pos (Decidable.not_not.mp z)] at hQ
        exact c_P_refuse h hb hq f2 f3 hQ
    · rw [if_pos hc] at hQ
      try simp only [pb_iconst, pb_null, pb_iload, pb_aload, pb_istore, pb_astore, pb_iinc, pb_bin, pb_bin0, pb_dup, pb_pop, pb_dup2, pb_if, pb_icmp, pb_ifnull, pb_getI, pb_getR, pb_putI, pb_putZ, pb_putR, pb_alen, pb_ald, pb_aldR, pb_ast, pb_astZ, pb_astR, pb_vret, pb_iret, pb_zret, pb_aret, pb_cv, pb_cr, pb_sr, pb_switch, pb_sw, pb_nth, pb_set, pb_tk, pb_add, pb_sub, List.length_cons, List.length_nil, true_or, or_true, true_and, and_true, and_self, pb_up_same, pb_up_f, ne_eq, Nat.reduceEqDiff, not_false_eq_true, Nat.reduceAdd, Nat.reduceLeDiff, Nat.zero_le, is_P.1, hq]
      exact ⟨fun z => by simp at z, fun _ => c_P_refuse h hb hq f2 f3 hQ⟩
  simp only [pb_b_P_onSetup_0, pb_b_P_onSetup_39, pb_b_P_onSetup_32, pb_b_P_onSetup_33, pb_iconst, pb_null, pb_iload, pb_aload, pb_istore, pb_astore, pb_iinc, pb_bin, pb_bin0, pb_dup, pb_pop, pb_dup2, pb_if, pb_icmp, pb_ifnull, pb_getI, pb_getR, pb_putI, pb_putZ, pb_putR, pb_alen, pb_ald, pb_aldR, pb_ast, pb_astZ, pb_astR, pb_vret, pb_iret, pb_zret, pb_aret, pb_cv, pb_cr, pb_sr, pb_switch, pb_sw, pb_nth, pb_set, pb_tk, pb_add, pb_sub, List.length_cons, List.length_nil, true_or, or_true, true_and, and_true, and_self, pb_up_same, pb_up_f, ne_eq, Nat.reduceEqDiff, not_false_eq_true, Nat.reduceAdd, Nat.reduceLeDiff, Nat.zero_le, is_P.1, hq, f4]
  refine c_P_freeChannel h hw ?_
  try simp only [pb_iconst, pb_null, pb_iload, pb_aload, pb_istore, pb_astore, pb_iinc, pb_bin, pb_bin0, pb_dup, pb_pop, pb_dup2, pb_if, pb_icmp, pb_ifnull, pb_getI, pb_getR, pb_putI, pb_putZ, pb_putR, pb_alen, pb_ald, pb_aldR, pb_ast, pb_astZ, pb_astR, pb_vret, pb_iret, pb_zret, pb_aret, pb_cv, pb_cr, pb_sr, pb_switch, pb_sw, pb_nth, pb_set, pb_tk, pb_add, pb_sub, List.length_cons, List.length_nil, true_or, or_true, true_and, and_true, and_self, pb_up_same, pb_up_f, ne_eq, Nat.reduceEqDiff, not_false_eq_true, Nat.reduceAdd, Nat.reduceLeDiff, Nat.zero_le, is_P.1]
  refine c_P_isBus (fun hc => ?_) (fun hc => ?_)
  · try simp only [pb_iconst, pb_null, pb_iload, pb_aload, pb_istore, pb_astore, pb_iinc, pb_bin, pb_bin0, pb_dup, pb_pop, pb_dup2, pb_if, pb_icmp, pb_ifnull, pb_getI, pb_getR, pb_putI, pb_putZ, pb_putR, pb_alen, pb_ald, pb_aldR, pb_ast, pb_astZ, pb_astR, pb_vret, pb_iret, pb_zret, pb_aret, pb_cv, pb_cr, pb_sr, pb_switch, pb_sw, pb_nth, pb_set, pb_tk, pb_add, pb_sub, List.length_cons, List.length_nil, true_or, or_true, true_and, and_true, and_self, pb_up_same, pb_up_f, ne_eq, Nat.reduceEqDiff, not_false_eq_true, Nat.reduceAdd, Nat.reduceLeDiff, Nat.zero_le, is_P.1]
    refine ⟨fun z => by simp at z, fun _ => ⟨fun z => c_P_freeChannel h hw (rest _ ?_), fun z => c_P_freeChannel h hw (rest _ ?_)⟩⟩
    · unfold g_cch
      rw [if_pos hc, if_neg z]
    · unfold g_cch
      rw [if_pos hc, if_pos (Decidable.not_not.mp z)]
  · try simp only [pb_iconst, pb_null, pb_iload, pb_aload, pb_istore, pb_astore, pb_iinc, pb_bin, pb_bin0, pb_dup, pb_pop, pb_dup2, pb_if, pb_icmp, pb_ifnull, pb_getI, pb_getR, pb_putI, pb_putZ, pb_putR, pb_alen, pb_ald, pb_aldR, pb_ast, pb_astZ, pb_astR, pb_vret, pb_iret, pb_zret, pb_aret, pb_cv, pb_cr, pb_sr, pb_switch, pb_sw, pb_nth, pb_set, pb_tk, pb_add, pb_sub, List.length_cons, List.length_nil, true_or, or_true, true_and, and_true, and_self, pb_up_same, pb_up_f, ne_eq, Nat.reduceEqDiff, not_false_eq_true, Nat.reduceAdd, Nat.reduceLeDiff, Nat.zero_le, is_P.1]
    refine ⟨fun _ => rest _ ?_, fun z => by simp at z⟩
    unfold g_cch
    rw [if_neg hc]
end SU
