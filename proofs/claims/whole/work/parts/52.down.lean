/-! a step downwards -/
def ge_failD (E : gE) (b : Int) : gE := match E.2.1 b with
  | [] => E
  | f :: l => if 3 ≤ pb_w (f.2.2.2.2 + 1) then ge_drop (ge_row E b ((f.1, f.2.1, f.2.2.1, f.2.2.2.1, pb_w (f.2.2.2.2 + 1)) :: l)) b f.2.1 else ge_row E b ((f.1, f.2.1, f.2.2.1, f.2.2.2.1, pb_w (f.2.2.2.2 + 1)) :: l)
def g_downT (T : gT) (E : gE) (b : Int) : gT := match E.2.1 b with
  | [] => T
  | f :: _ => if f.1 ≤ 6 then (if (64 ≤ f.2.1 ∧ f.2.1 < 68) ∧ ¬ E.1 7 b = 0 then g_it (g_recv1 f (E.1 1 (4 * b + (f.2.1 - 64)))) b T 4 else T) else (if E.1 7 b = 0 then T else g_it (g_hear1 f) b T 4)
def g_downE (T : gT) (E : gE) (b : Int) : gE := match E.2.1 b with
  | [] => E
  | f :: l => if f.1 ≤ 6 then (if ((64 ≤ f.2.1 ∧ f.2.1 < 68) ∧ ¬ E.1 7 b = 0) ∧ ¬ g_any T b f.2.1 4 = 0 ∧ ¬ E.1 7 b = 1 then ge_row (ge_set (ge_set E 7 b 2) 1 (4 * b + (f.2.1 - 64)) (pb_w (1 - E.1 1 (4 * b + (f.2.1 - 64))))) b l else ge_failD (ge_set E 7 b 2) b) else ge_row (ge_set E 7 b 2) b l
section DN
variable {x : pb_E} {σ : pb_H} {T : gT} {E : gE} {ρ : Int → Int} {μ : pb_H} {b s : Int} {Q : pb_P} {n : Nat}
theorem g_failRC {q sp : Int} {f : gF} {l : List gF} {o5 o6 : Option pb_V} (h : RC σ T E μ) (hb : 0 ≤ b ∧ b < 2) (hw : g_cws E.2.2) (hl : E.2.1 b = f :: l) (ha : pb_R f.2.1) (hq : σ 0 (7 + 77 * b) 0 = q) (hQ : ∀ σ', RC σ' T (ge_failD E b) μ → Q (.inl 1) σ') : pb_b_P_stepDown_137 x 213 Q [some (.inr 0), some (.inl b), some (.inr (3 + 77 * b)), some (.inr q), some (.inl sp), o5, o6] [] 213 σ := by
  have hr := p_rowD h.re hb
  rw [hl] at hr
  obtain ⟨i1, i2, i3⟩ := hr.first (rwD hb)
  have hfl := hr.fail (v := pb_w (f.2.2.2.2 + 1)) (rwD hb)
  have h2 := re_rowD h.re hb hfl.1 hfl.2
  rw [show (6 + 77 * b + 1 : Int) = 7 + 77 * b by omega, hq] at i1 i2 hfl h2
  unfold ge_failD at hQ
  rw [hl] at hQ
  dsimp only at hQ
  simp only [pb_b_P_stepDown_137, pb_b_P_stepDown_153, pb_iconst, pb_null, pb_iload, pb_aload, pb_istore, pb_astore, pb_iinc, pb_bin, pb_bin0, pb_dup, pb_pop, pb_dup2, pb_if, pb_icmp, pb_ifnull, pb_getI, pb_getR, pb_putI, pb_putZ, pb_putR, pb_alen, pb_ald, pb_aldR, pb_ast, pb_astZ, pb_astR, pb_vret, pb_iret, pb_zret, pb_aret, pb_cv, pb_cr, pb_sr, pb_switch, pb_sw, pb_nth, pb_set, pb_tk, pb_add, pb_sub, List.length_cons, List.length_nil, true_or, or_true, true_and, and_true, and_self, pb_up_same, pb_up_f, ne_eq, Nat.reduceEqDiff, not_false_eq_true, Nat.reduceAdd, Nat.reduceLeDiff, Nat.zero_le, i1]
  refine c_F_failsForGood i1 ?_
  rw [(g_fr1 i2).2.2.2.2]
  try simp only [pb_iconst, pb_null, pb_iload, pb_aload, pb_istore, pb_astore, pb_iinc, pb_bin, pb_bin0, pb_dup, pb_pop, pb_dup2, pb_if, pb_icmp, pb_ifnull, pb_getI, pb_getR, pb_putI, pb_putZ, pb_putR, pb_alen, pb_ald, pb_aldR, pb_ast, pb_astZ, pb_astR, pb_vret, pb_iret, pb_zret, pb_aret, pb_cv, pb_cr, pb_sr, pb_switch, pb_sw, pb_nth, pb_set, pb_tk, pb_add, pb_sub, List.length_cons, List.length_nil, true_or, or_true, true_and, and_true, and_self, pb_up_same, pb_up_f, ne_eq, Nat.reduceEqDiff, not_false_eq_true, Nat.reduceAdd, Nat.reduceLeDiff, Nat.zero_le, is_P.1, i1, (g_fr1 i2).2.1]
  by_cases k3 : 3 ≤ pb_w (f.2.2.2.2 + 1)
  · rw [if_pos k3] at hQ ⊢
    exact ⟨fun z => by simp at z, fun _ => c_P_dropAddress h2 hb ha hw (fun σ' ρ' h' => hQ _ (h.ofE h'))⟩
  · rw [if_neg k3] at hQ ⊢
    exact ⟨fun _ => hQ _ (h.ofE h2), fun z => by simp at z⟩
set_option maxHeartbeats 1000000 in
theorem c_P_stepDown (h : RC σ T E μ) (hb : 0 ≤ b ∧ b < 2) (hw : g_cws E.2.2) (ha : ∀ f l, E.2.1 b = f :: l → pb_R f.2.1) (hQ : ∀ σ', RC σ' (g_downT T E b) (g_downE T E b) μ → Q (.inl (if E.2.1 b = [] then 0 else 1)) σ') : pb_MJ x i_P_stepDown [.inr 0, .inl b] 213 σ Q := by
  refine pb_m_P_stepDown ?_
  have hr := p_rowD h.re hb
  have hre := h.re
  simp only [pb_b_P_stepDown_0, pb_iconst, pb_null, pb_iload, pb_aload, pb_istore, pb_astore, pb_iinc, pb_bin, pb_bin0, pb_dup, pb_pop, pb_dup2, pb_if, pb_icmp, pb_ifnull, pb_getI, pb_getR, pb_putI, pb_putZ, pb_putR, pb_alen, pb_ald, pb_aldR, pb_ast, pb_astZ, pb_astR, pb_vret, pb_iret, pb_zret, pb_aret, pb_cv, pb_cr, pb_sr, pb_switch, pb_sw, pb_nth, pb_set, pb_tk, pb_add, pb_sub, List.length_cons, List.length_nil, true_or, or_true, true_and, and_true, and_self, pb_up_same, pb_up_f, ne_eq, Nat.reduceEqDiff, not_false_eq_true, Nat.reduceAdd, Nat.reduceLeDiff, Nat.zero_le, is_P.1, is_P.2.1, is_P.2.2.1, is_P.2.2.2.1, is_P.2.2.2.2, (p_P hre).1, (p_P hre).2.1, (p_P hre).2.2.1, (p_P hre).2.2.2.1, (p_P hre).2.2.2.2, p_ref hre, (q_bus hre.1 hb).1, (q_bus hre.1 hb).2.1, (q_bus hre.1 hb).2.2.1, (q_bus hre.1 hb).2.2.2, (is_B hb).1, (is_B hb).2.1, (is_B hb).2.2.1, (is_B hb).2.2.2.1, (is_B hb).2.2.2.2, (rwD hb).1, hr.2.1]
  refine ⟨hb, fun z => ?_, fun z => ?_⟩
  · cases hl : E.2.1 b with
    | nil => rw [hl] at z; exact absurd rfl z
    | cons f l =>
      have ha := ha f l hl
      rw [hl, if_neg (by simp)] at hQ
      unfold g_downT g_downE at hQ
      rw [hl] at hQ hr
      dsimp only at hQ
      obtain ⟨i1, i2, i3⟩ := hr.first (rwD hb)
      have h1 : RC _ T (ge_set E 7 b 2) μ := h.ofE (r_B hre hb 105 1 rfl (by decide) 2)
      have hsp : _ = E.1 7 b := p_B hre hb 105 1 rfl (by decide)
      have hl1 : (ge_set E 7 b 2).2.1 b = f :: l := hl
      have hw1 : g_cws (ge_set E 7 b 2).2.2 := hw
      simp only [pb_b_P_stepDown_19, pb_b_P_stepDown_64, pb_iconst, pb_null, pb_iload, pb_aload, pb_istore, pb_astore, pb_iinc, pb_bin, pb_bin0, pb_dup, pb_pop, pb_dup2, pb_if, pb_icmp, pb_ifnull, pb_getI, pb_getR, pb_putI, pb_putZ, pb_putR, pb_alen, pb_ald, pb_aldR, pb_ast, pb_astZ, pb_astR, pb_vret, pb_iret, pb_zret, pb_aret, pb_cv, pb_cr, pb_sr, pb_switch, pb_sw, pb_nth, pb_set, pb_tk, pb_add, pb_sub, List.length_cons, List.length_nil, true_or, or_true, true_and, and_true, and_self, pb_up_same, pb_up_f, ne_eq, Nat.reduceEqDiff, not_false_eq_true, Nat.reduceAdd, Nat.reduceLeDiff, Nat.zero_le, (q_bus hre.1 hb).1, (q_bus hre.1 hb).2.1, (q_bus hre.1 hb).2.2.1, (q_bus hre.1 hb).2.2.2, (is_B hb).1, (is_B hb).2.1, (is_B hb).2.2.1, (is_B hb).2.2.2.1, (is_B hb).2.2.2.2, (rwD hb).1, hsp]
      refine c_first (rwD hb) hr ?_
      rw [show (6 + 77 * b + 1 : Int) = 7 + 77 * b by omega] at *
      generalize hq : σ 0 (7 + 77 * b) 0 = q at *
      try simp only [pb_iconst, pb_null, pb_iload, pb_aload, pb_istore, pb_astore, pb_iinc, pb_bin, pb_bin0, pb_dup, pb_pop, pb_dup2, pb_if, pb_icmp, pb_ifnull, pb_getI, pb_getR, pb_putI, pb_putZ, pb_putR, pb_alen, pb_ald, pb_aldR, pb_ast, pb_astZ, pb_astR, pb_vret, pb_iret, pb_zret, pb_aret, pb_cv, pb_cr, pb_sr, pb_switch, pb_sw, pb_nth, pb_set, pb_tk, pb_add, pb_sub, List.length_cons, List.length_nil, true_or, or_true, true_and, and_true, and_self, pb_up_same, pb_up_f, ne_eq, Nat.reduceEqDiff, not_false_eq_true, Nat.reduceAdd, Nat.reduceLeDiff, Nat.zero_le, (q_bus hre.1 hb).1, (q_bus hre.1 hb).2.1, (q_bus hre.1 hb).2.2.1, (q_bus hre.1 hb).2.2.2, (is_B hb).1, (is_B hb).2.1, (is_B hb).2.2.1, (is_B hb).2.2.2.1, (is_B hb).2.2.2.2, (rwD hb).1, i1, hsp]
      have hq1 : (pb_up σ 105 (3 + 77 * b) 0 2) 0 (7 + 77 * b) 0 = q := by rw [pb_up_f (by decide)]; exact hq
      have i2' : g_fr (pb_up σ 105 (3 + 77 * b) 0 2) q = f := i2
      have hd : (6 ≤ q ∧ q ≤ 31) ∨ (83 ≤ q ∧ q ≤ 108) := by omega
      generalize pb_up σ 105 (3 + 77 * b) 0 2 = σ1 at *
      have hre1 := h1.re
      refine c_num i1 i2' (fun k1 => ?_) (fun k1 => ?_)
      · rw [if_pos k1, if_pos k1] at hQ
        try simp only [pb_iconst, pb_null, pb_iload, pb_aload, pb_istore, pb_astore, pb_iinc, pb_bin, pb_bin0, pb_dup, pb_pop, pb_dup2, pb_if, pb_icmp, pb_ifnull, pb_getI, pb_getR, pb_putI, pb_putZ, pb_putR, pb_alen, pb_ald, pb_aldR, pb_ast, pb_astZ, pb_astR, pb_vret, pb_iret, pb_zret, pb_aret, pb_cv, pb_cr, pb_sr, pb_switch, pb_sw, pb_nth, pb_set, pb_tk, pb_add, pb_sub, List.length_cons, List.length_nil, true_or, or_true, true_and, and_true, and_self, pb_up_same, pb_up_f, ne_eq, Nat.reduceEqDiff, not_false_eq_true, Nat.reduceAdd, Nat.reduceLeDiff, Nat.zero_le, (q_bus hre1.1 hb).1, (q_bus hre1.1 hb).2.1, (q_bus hre1.1 hb).2.2.1, (q_bus hre1.1 hb).2.2.2, (is_B hb).1, (is_B hb).2.1, (is_B hb).2.2.1, (is_B hb).2.2.2.1, (is_B hb).2.2.2.2, (rwD hb).1, i1, (g_fr1 i2').2.1]
        refine ⟨fun _ => c_B_lineOf h1.1 hb ha (fun j j1 j2 j3 => ?_) (fun j0 => ?_), fun z => by simp at z⟩
        · rw [show f.2.1 - 64 = j by omega] at hQ
          have e1 := p_L hre1 hb ⟨j1, j2⟩ 502 1 rfl (by decide)
          have e2 : (ge_set E 7 b 2).1 1 (4 * b + j) = E.1 1 (4 * b + j) := by
            show g_up E.1 7 b 2 1 (4 * b + j) = _
            rw [g_up_n (by omega)]
          rw [e2] at e1
          try simp only [pb_b_P_stepDown_101, pb_b_P_stepDown_102, pb_iconst, pb_null, pb_iload, pb_aload, pb_istore, pb_astore, pb_iinc, pb_bin, pb_bin0, pb_dup, pb_pop, pb_dup2, pb_if, pb_icmp, pb_ifnull, pb_getI, pb_getR, pb_putI, pb_putZ, pb_putR, pb_alen, pb_ald, pb_aldR, pb_ast, pb_astZ, pb_astR, pb_vret, pb_iret, pb_zret, pb_aret, pb_cv, pb_cr, pb_sr, pb_switch, pb_sw, pb_nth, pb_set, pb_tk, pb_add, pb_sub, List.length_cons, List.length_nil, true_or, or_true, true_and, and_true, and_self, pb_up_same, pb_up_f, ne_eq, Nat.reduceEqDiff, not_false_eq_true, Nat.reduceAdd, Nat.reduceLeDiff, Nat.zero_le, (q_bus hre1.1 hb).1, (q_bus hre1.1 hb).2.1, (q_bus hre1.1 hb).2.2.1, (q_bus hre1.1 hb).2.2.2, (is_B hb).1, (is_B hb).2.1, (is_B hb).2.2.1, (is_B hb).2.2.2.1, (is_B hb).2.2.2.2, (rwD hb).1, i1, is_L hb ⟨j1, j2⟩, e1]
          refine ⟨fun z => absurd z (by omega), fun _ => ⟨fun y => ?_, fun y => ?_⟩⟩
          · rw [if_neg (fun w => w.2 y), if_neg (fun w => w.1.2 y)] at hQ
            exact ⟨fun _ => g_failRC h1 hb hw1 hl1 ha hq1 hQ, fun z => by simp at z⟩
          · rw [if_pos ⟨by omega, y⟩] at hQ
            refine c_B_sendToAddress h1.rt hb i1 hd i2' (fun σ2 h2 => ?_)
            have h3 := h1.of h2
            have hq2 : σ2 0 (7 + 77 * b) 0 = q := by
              rw [h2.2.2.2 0 (7 + 77 * b) 0 (by unfold k_T k_U; omega)]
              exact hq1
            have hre3 := h3.re
            have e3 := p_L hre3 hb ⟨j1, j2⟩ 502 1 rfl (by decide)
            rw [e2] at e3
            by_cases y2 : g_any T b f.2.1 4 = 0
            · rw [if_neg (fun w => w.2.1 y2)] at hQ
              try simp only [pb_iconst, pb_null, pb_iload, pb_aload, pb_istore, pb_astore, pb_iinc, pb_bin, pb_bin0, pb_dup, pb_pop, pb_dup2, pb_if, pb_icmp, pb_ifnull, pb_getI, pb_getR, pb_putI, pb_putZ, pb_putR, pb_alen, pb_ald, pb_aldR, pb_ast, pb_astZ, pb_astR, pb_vret, pb_iret, pb_zret, pb_aret, pb_cv, pb_cr, pb_sr, pb_switch, pb_sw, pb_nth, pb_set, pb_tk, pb_add, pb_sub, List.length_cons, List.length_nil, true_or, or_true, true_and, and_true, and_self, pb_up_same, pb_up_f, ne_eq, Nat.reduceEqDiff, not_false_eq_true, Nat.reduceAdd, Nat.reduceLeDiff, Nat.zero_le]
              exact ⟨fun _ => ⟨fun _ => g_failRC h3 hb hw1 hl1 ha hq2 hQ, fun z => by simp at z⟩, fun z => absurd y2 z⟩
            · by_cases y3 : E.1 7 b = 1
              · rw [if_neg (fun w => w.2.2 y3)] at hQ
                try simp only [pb_iconst, pb_null, pb_iload, pb_aload, pb_istore, pb_astore, pb_iinc, pb_bin, pb_bin0, pb_dup, pb_pop, pb_dup2, pb_if, pb_icmp, pb_ifnull, pb_getI, pb_getR, pb_putI, pb_putZ, pb_putR, pb_alen, pb_ald, pb_aldR, pb_ast, pb_astZ, pb_astR, pb_vret, pb_iret, pb_zret, pb_aret, pb_cv, pb_cr, pb_sr, pb_switch, pb_sw, pb_nth, pb_set, pb_tk, pb_add, pb_sub, List.length_cons, List.length_nil, true_or, or_true, true_and, and_true, and_self, pb_up_same, pb_up_f, ne_eq, Nat.reduceEqDiff, not_false_eq_true, Nat.reduceAdd, Nat.reduceLeDiff, Nat.zero_le]
                exact ⟨fun z => absurd z y2, fun _ => ⟨fun z => by simp at z, fun _ => ⟨fun _ => g_failRC h3 hb hw1 hl1 ha hq2 hQ, fun z => absurd y3 z⟩⟩⟩
              · rw [if_pos ⟨⟨by omega, y⟩, y2, y3⟩] at hQ
                try simp only [pb_b_P_stepDown_153, pb_iconst, pb_null, pb_iload, pb_aload, pb_istore, pb_astore, pb_iinc, pb_bin, pb_bin0, pb_dup, pb_pop, pb_dup2, pb_if, pb_icmp, pb_ifnull, pb_getI, pb_getR, pb_putI, pb_putZ, pb_putR, pb_alen, pb_ald, pb_aldR, pb_ast, pb_astZ, pb_astR, pb_vret, pb_iret, pb_zret, pb_aret, pb_cv, pb_cr, pb_sr, pb_switch, pb_sw, pb_nth, pb_set, pb_tk, pb_add, pb_sub, List.length_cons, List.length_nil, true_or, or_true, true_and, and_true, and_self, pb_up_same, pb_up_f, ne_eq, Nat.reduceEqDiff, not_false_eq_true, Nat.reduceAdd, Nat.reduceLeDiff, Nat.zero_le, (q_bus hre3.1 hb).1, (q_bus hre3.1 hb).2.1, (q_bus hre3.1 hb).2.2.1, (q_bus hre3.1 hb).2.2.2, (is_B hb).1, (is_B hb).2.1, (is_B hb).2.2.1, (is_B hb).2.2.2.1, (is_B hb).2.2.2.2, (rwD hb).1, is_L hb ⟨j1, j2⟩, e3]
                refine ⟨fun z => absurd z y2, fun _ => ⟨fun z => by simp at z, fun _ => ⟨fun z => absurd z y3, fun _ => ?_⟩⟩⟩
                refine c_popD (r_L hre3 hb ⟨j1, j2⟩ 502 1 rfl (by decide) _) hb (fun σ4 h4 => ?_)
                have h5 := h3.ofE h4
                have e5 : (ge_set (ge_set E 7 b 2) 1 (4 * b + j) (pb_w (1 - E.1 1 (4 * b + j)))).2.1 b = f :: l := hl
                rw [e5] at h5
                exact hQ _ h5
        · rw [if_neg (fun w => j0 w.1), if_neg (fun w => j0 w.1.1)] at hQ
          try simp only [pb_b_P_stepDown_101, pb_b_P_stepDown_102, pb_iconst, pb_null, pb_iload, pb_aload, pb_istore, pb_astore, pb_iinc, pb_bin, pb_bin0, pb_dup, pb_pop, pb_dup2, pb_if, pb_icmp, pb_ifnull, pb_getI, pb_getR, pb_putI, pb_putZ, pb_putR, pb_alen, pb_ald, pb_aldR, pb_ast, pb_astZ, pb_astR, pb_vret, pb_iret, pb_zret, pb_aret, pb_cv, pb_cr, pb_sr, pb_switch, pb_sw, pb_nth, pb_set, pb_tk, pb_add, pb_sub, List.length_cons, List.length_nil, true_or, or_true, true_and, and_true, and_self, pb_up_same, pb_up_f, ne_eq, Nat.reduceEqDiff, not_false_eq_true, Nat.reduceAdd, Nat.reduceLeDiff, Nat.zero_le]
          exact ⟨fun _ => ⟨fun _ => g_failRC h1 hb hw1 hl1 ha hq1 hQ, fun z => by simp at z⟩, fun z => by simp at z⟩
      · rw [if_neg k1, if_neg k1] at hQ
        have pop : ∀ (σ' : pb_H) (T' : gT), RC σ' T' (ge_set E 7 b 2) μ → (∀ σ', RC σ' T' (ge_row (ge_set E 7 b 2) b l) μ → Q (.inl 1) σ') → pb_b_P_stepDown_55 x 213 Q [some (.inr 0), some (.inl b), some (.inr (3 + 77 * b)), some (.inr q), some (.inl (E.1 7 b)), none, none] [] 213 σ' := by
          intro σ7 T7 h7 hQ7
          have hre7 := h7.re
          simp only [pb_b_P_stepDown_55, pb_iconst, pb_null, pb_iload, pb_aload, pb_istore, pb_astore, pb_iinc, pb_bin, pb_bin0, pb_dup, pb_pop, pb_dup2, pb_if, pb_icmp, pb_ifnull, pb_getI, pb_getR, pb_putI, pb_putZ, pb_putR, pb_alen, pb_ald, pb_aldR, pb_ast, pb_astZ, pb_astR, pb_vret, pb_iret, pb_zret, pb_aret, pb_cv, pb_cr, pb_sr, pb_switch, pb_sw, pb_nth, pb_set, pb_tk, pb_add, pb_sub, List.length_cons, List.length_nil, true_or, or_true, true_and, and_true, and_self, pb_up_same, pb_up_f, ne_eq, Nat.reduceEqDiff, not_false_eq_true, Nat.reduceAdd, Nat.reduceLeDiff, Nat.zero_le, (q_bus hre7.1 hb).1, (q_bus hre7.1 hb).2.1, (q_bus hre7.1 hb).2.2.1, (q_bus hre7.1 hb).2.2.2, (is_B hb).1, (is_B hb).2.1, (is_B hb).2.2.1, (is_B hb).2.2.2.1, (is_B hb).2.2.2.2, (rwD hb).1]
          refine c_popD hre7 hb (fun σ4 h4 => ?_)
          rw [hl1] at h4
          exact hQ7 _ (h7.ofE h4)
        try simp only [pb_iconst, pb_null, pb_iload, pb_aload, pb_istore, pb_astore, pb_iinc, pb_bin, pb_bin0, pb_dup, pb_pop, pb_dup2, pb_if, pb_icmp, pb_ifnull, pb_getI, pb_getR, pb_putI, pb_putZ, pb_putR, pb_alen, pb_ald, pb_aldR, pb_ast, pb_astZ, pb_astR, pb_vret, pb_iret, pb_zret, pb_aret, pb_cv, pb_cr, pb_sr, pb_switch, pb_sw, pb_nth, pb_set, pb_tk, pb_add, pb_sub, List.length_cons, List.length_nil, true_or, or_true, true_and, and_true, and_self, pb_up_same, pb_up_f, ne_eq, Nat.reduceEqDiff, not_false_eq_true, Nat.reduceAdd, Nat.reduceLeDiff, Nat.zero_le, (q_bus hre1.1 hb).1, (q_bus hre1.1 hb).2.1, (q_bus hre1.1 hb).2.2.1, (q_bus hre1.1 hb).2.2.2, (is_B hb).1, (is_B hb).2.1, (is_B hb).2.2.1, (is_B hb).2.2.2.1, (is_B hb).2.2.2.2, (rwD hb).1, i1]
        refine ⟨fun z => by simp at z, fun _ => ⟨fun y => ?_, fun y => ?_⟩⟩
        · rw [if_pos y] at hQ
          exact pop _ _ h1 hQ
        · rw [if_neg y] at hQ
          exact c_B_sendToAll h1.rt hb i1 hd i2' (fun σ2 h2 => pop _ _ (h1.of h2) hQ)
  · have z : E.2.1 b = [] := by
      cases hl : E.2.1 b with
      | nil => rfl
      | cons f l => rw [hl] at z; simp at z; omega
    unfold g_downT g_downE at hQ
    rw [z] at hQ
    exact hQ _ h
end DN
