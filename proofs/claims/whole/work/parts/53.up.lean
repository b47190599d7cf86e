/-! a step upwards -/
def g_upW (T : gT) (b : Int) : Int := g_win T b (g_asm T b) 4
def g_upF (T : gT) (b : Int) : gF := g_hd T (4 * b + g_upW T b)
def g_upR (T : gT) (E : gE) (b : Int) : Int := if ¬ E.1 6 b = 0 ∧ ¬ ge_listens E b (g_upF T b) = 0 then 1 else 0
def g_upT (T : gT) (E : gE) (b : Int) : gT := if g_upW T b = -1 then gt_contend T b else g_it (g_settle1 (if ¬ g_upR T E b = 0 ∧ ¬ E.1 6 b = 1 then 1 else 0)) b (gt_contend T b) 4
def g_upE (T : gT) (E : gE) (b : Int) : gE := if g_upW T b = -1 then E else if ¬ g_upR T E b = 0 then ge_receive (ge_set E 6 b 2) b (g_upF T b) (T.1 14 (4 * b + g_upW T b)) else ge_set E 6 b 2
theorem g_snd_at (T : gT) (b m w : Int) : ∀ (j i : Nat), i < j → (g_it (g_snd T b m w) b T j).1 3 (4 * b + i) = if ¬ w = -1 ∧ g_cb T (4 * b + i) m = true ∧ cmpT T (4 * b + i) (4 * b + w) = 0 then 1 else 0
  | 0, _, h => absurd h (by omega)
  | j + 1, i, h => by
    by_cases hj : i = j
    · subst hj
      exact g_up_s _ _ _ _
    · rw [show (g_it (g_snd T b m w) b T (j + 1)).1 3 (4 * b + i) = (g_it (g_snd T b m w) b T j).1 3 (4 * b + i) from g_up_n (fun z => hj (by omega))]
      exact g_snd_at T b m w j i (by omega)
theorem gt_con_row (T : gT) (b : Int) : (gt_contend T b).2 = T.2 := by
  unfold gt_contend
  rw [(g_mld_keep _ _ _ 4).2]
  unfold gt_con2
  rw [(g_snd_keep _ _ _ _ 4).2]
theorem gt_con_k (T : gT) (b : Int) (k : Nat) (t : Int) (h2 : k ≠ 2) (h3 : k ≠ 3) : (gt_contend T b).1 k t = T.1 k t := by
  unfold gt_contend
  rw [(g_mld_keep _ _ _ 4).1 k t h2]
  unfold gt_con2
  rw [(g_snd_keep _ _ _ _ 4).1 k t h3]
theorem gt_con_3 (T : gT) (b s : Int) (hs : 0 ≤ s ∧ s < 4) : (gt_contend T b).1 3 (4 * b + s) = if ¬ g_upW T b = -1 ∧ g_cb T (4 * b + s) (g_asm T b) = true ∧ cmpT T (4 * b + s) (4 * b + g_upW T b) = 0 then 1 else 0 := by
  unfold gt_contend
  rw [(g_mld_keep _ _ _ 4).1 3 _ (by decide)]
  have := g_snd_at T b (g_asm T b) (g_upW T b) 4 s.toNat (by omega)
  rw [show ((s.toNat : Nat) : Int) = s by omega] at this
  exact this
theorem gt_con_ne (T : gT) (b s : Int) (hs : 0 ≤ s ∧ s < 4) (h : ¬ (gt_contend T b).1 3 (4 * b + s) = 0) : ¬ (gt_contend T b).2 (4 * b + s) = [] := by
  rw [gt_con_3 T b s hs] at h
  rw [gt_con_row]
  split at h
  · rename_i z
    exact (g_cb_iff.mpr z.2.1).2.1
  · exact absurd rfl h
section UP
variable {x : pb_E} {σ : pb_H} {T : gT} {E : gE} {ρ : Int → Int} {μ : pb_H} {b s : Int} {Q : pb_P} {n : Nat}
set_option maxHeartbeats 1000000 in
theorem c_P_stepUp (h : RC σ T E μ) (hb : 0 ≤ b ∧ b < 2) (hw : g_cws E.2.2) (ha : ∀ t f l, T.2 t = f :: l → pb_R f.2.1) (hQ : ∀ σ', RC σ' (g_upT T E b) (g_upE T E b) μ → Q (.inl (if g_upW T b = -1 then 0 else 1)) σ') : pb_MJ x i_P_stepUp [.inr 0, .inl b] 213 σ Q := by
  refine pb_m_P_stepUp ?_
  have hre := h.re
  simp only [pb_b_P_stepUp_0, pb_iconst, pb_null, pb_iload, pb_aload, pb_istore, pb_astore, pb_iinc, pb_bin, pb_bin0, pb_dup, pb_pop, pb_dup2, pb_if, pb_icmp, pb_ifnull, pb_getI, pb_getR, pb_putI, pb_putZ, pb_putR, pb_alen, pb_ald, pb_aldR, pb_ast, pb_astZ, pb_astR, pb_vret, pb_iret, pb_zret, pb_aret, pb_cv, pb_cr, pb_sr, pb_switch, pb_sw, pb_nth, pb_set, pb_tk, pb_add, pb_sub, List.length_cons, List.length_nil, true_or, or_true, true_and, and_true, and_self, pb_up_same, pb_up_f, ne_eq, Nat.reduceEqDiff, not_false_eq_true, Nat.reduceAdd, Nat.reduceLeDiff, Nat.zero_le, is_P.1, is_P.2.1, is_P.2.2.1, is_P.2.2.2.1, is_P.2.2.2.2, (p_P hre).1, (p_P hre).2.1, (p_P hre).2.2.1, (p_P hre).2.2.2.1, (p_P hre).2.2.2.2, p_ref hre, (q_bus hre.1 hb).1, (q_bus hre.1 hb).2.1, (q_bus hre.1 hb).2.2.1, (q_bus hre.1 hb).2.2.2, (is_B hb).1, (is_B hb).2.1, (is_B hb).2.2.1, (is_B hb).2.2.2.1, (is_B hb).2.2.2.2, (rwD hb).1]
  refine ⟨hb, c_B_contend h.rt hb (fun σ1 h1 => ?_)⟩
  have h2 := h.of h1
  unfold g_upT g_upE at hQ
  change ∀ σ', RC σ' _ _ μ → Q _ σ' at hQ
  rw [show g_win T b (g_asm T b) 4 = g_upW T b from rfl]
  have hwin := g_win_ok T b (g_asm T b) 4
  rw [show g_win T b (g_asm T b) 4 = g_upW T b from rfl] at hwin
  unfold g_wr
  by_cases hn : g_upW T b = -1
  · simp only [if_pos hn] at hQ ⊢
    try simp only [pb_iconst, pb_null, pb_iload, pb_aload, pb_istore, pb_astore, pb_iinc, pb_bin, pb_bin0, pb_dup, pb_pop, pb_dup2, pb_if, pb_icmp, pb_ifnull, pb_getI, pb_getR, pb_putI, pb_putZ, pb_putR, pb_alen, pb_ald, pb_aldR, pb_ast, pb_astZ, pb_astR, pb_vret, pb_iret, pb_zret, pb_aret, pb_cv, pb_cr, pb_sr, pb_switch, pb_sw, pb_nth, pb_set, pb_tk, pb_add, pb_sub, List.length_cons, List.length_nil, true_or, or_true, true_and, and_true, and_self, pb_up_same, pb_up_f, ne_eq, Nat.reduceEqDiff, not_false_eq_true, Nat.reduceAdd, Nat.reduceLeDiff, Nat.zero_le]
    exact ⟨fun _ => hQ _ h2, fun z => by simp at z⟩
  · obtain ⟨w1, w2, w3⟩ := hwin.resolve_left hn
    have hs : 0 ≤ g_upW T b ∧ g_upW T b < 4 := ⟨w1, by omega⟩
    simp only [if_neg hn] at hQ ⊢
    have hl := g_hd_cons w3.2.1
    change T.2 _ = g_upF T b :: _ at hl
    generalize hww : g_upW T b = w at *
    have hr := q_rowU h2.rt hb hs
    rw [gt_con_row, hl] at hr
    obtain ⟨i1, i2, i3⟩ := hr.first (rwU hb hs)
    have ha := ha _ _ _ hl
    have hre2 := h2.re
    have h3 : RC _ (gt_contend T b) (ge_set E 6 b 2) μ := h2.ofE (r_B hre2 hb 104 0 rfl (by decide) 2)
    have hsp : _ = E.1 6 b := p_B hre2 hb 104 0 rfl (by decide)
    have hbit := q_T h3.rt hb hs 415 14 rfl ⟨by decide, by decide⟩
    rw [gt_con_k T b 14 _ (by decide) (by decide)] at hbit
    simp only [pb_b_P_stepUp_18, pb_iconst, pb_null, pb_iload, pb_aload, pb_istore, pb_astore, pb_iinc, pb_bin, pb_bin0, pb_dup, pb_pop, pb_dup2, pb_if, pb_icmp, pb_ifnull, pb_getI, pb_getR, pb_putI, pb_putZ, pb_putR, pb_alen, pb_ald, pb_aldR, pb_ast, pb_astZ, pb_astR, pb_vret, pb_iret, pb_zret, pb_aret, pb_cv, pb_cr, pb_sr, pb_switch, pb_sw, pb_nth, pb_set, pb_tk, pb_add, pb_sub, List.length_cons, List.length_nil, true_or, or_true, true_and, and_true, and_self, pb_up_same, pb_up_f, ne_eq, Nat.reduceEqDiff, not_false_eq_true, Nat.reduceAdd, Nat.reduceLeDiff, Nat.zero_le, is_T hb hs, q_row h2.1 hb hs, (rwU hb hs).1, (q_bus hre2.1 hb).1, (q_bus hre2.1 hb).2.1, (q_bus hre2.1 hb).2.2.1, (q_bus hre2.1 hb).2.2.2, (is_B hb).1, (is_B hb).2.1, (is_B hb).2.2.1, (is_B hb).2.2.2.1, (is_B hb).2.2.2.2, (rwD hb).1]
    refine ⟨fun z => absurd z (by omega), fun _ => ?_⟩
    refine c_first (rwU hb hs) hr ?_
    generalize hq : σ1 0 (33 + 77 * b + 11 * w + 1) 0 = q at *
    try simp only [pb_iconst, pb_null, pb_iload, pb_aload, pb_istore, pb_astore, pb_iinc, pb_bin, pb_bin0, pb_dup, pb_pop, pb_dup2, pb_if, pb_icmp, pb_ifnull, pb_getI, pb_getR, pb_putI, pb_putZ, pb_putR, pb_alen, pb_ald, pb_aldR, pb_ast, pb_astZ, pb_astR, pb_vret, pb_iret, pb_zret, pb_aret, pb_cv, pb_cr, pb_sr, pb_switch, pb_sw, pb_nth, pb_set, pb_tk, pb_add, pb_sub, List.length_cons, List.length_nil, true_or, or_true, true_and, and_true, and_self, pb_up_same, pb_up_f, ne_eq, Nat.reduceEqDiff, not_false_eq_true, Nat.reduceAdd, Nat.reduceLeDiff, Nat.zero_le, (q_bus hre2.1 hb).1, (q_bus hre2.1 hb).2.1, (q_bus hre2.1 hb).2.2.1, (q_bus hre2.1 hb).2.2.2, (is_B hb).1, (is_B hb).2.1, (is_B hb).2.2.1, (is_B hb).2.2.2.1, (is_B hb).2.2.2.2, (rwD hb).1, i1, hsp]
    have i2' : g_fr (pb_up σ1 104 (3 + 77 * b) 0 2) q = g_upF T b := i2
    have hd : (32 ≤ q ∧ q ≤ 75) ∨ (109 ≤ q ∧ q ≤ 152) := by omega
    generalize pb_up σ1 104 (3 + 77 * b) 0 2 = σ3 at *
    have hre3 := h3.re
    have hlis : ge_listens (ge_set E 6 b 2) b (g_upF T b) = ge_listens E b (g_upF T b) := rfl
    have hw1 : g_cws (ge_set E 6 b 2).2.2 := hw
    have settle : ∀ (r : Int) (σ' : pb_H) (E' : gE), RC σ' (gt_contend T b) E' μ → (∀ σ', RC σ' (g_it (g_settle1 (if ¬ r = 0 ∧ ¬ E.1 6 b = 1 then 1 else 0)) b (gt_contend T b) 4) E' μ → Q (.inl 1) σ') → pb_b_P_stepUp_75 x 213 Q [some (.inr 0), some (.inl b), some (.inr (3 + 77 * b)), some (.inr (32 + 77 * b + 11 * w)), some (.inr q), some (.inl (E.1 6 b)), some (.inl r)] [] 213 σ' := by
      intro r σ7 E7 h7 hQ7
      have hre7 := h7.re
      have go : ∀ a : Int, a = (if ¬ r = 0 ∧ ¬ E.1 6 b = 1 then 1 else 0) → pb_MJ x i_B_settleSenders [.inr (3 + 77 * b), .inl a] 213 σ7 (fun _ σ' => Q (.inl 1) σ') := by
        intro a hae
        subst hae
        exact c_B_settleSenders h7.rt hb (fun s q1 q2 q3 => gt_con_ne T b s ⟨q1, q2⟩ q3) (fun σ8 h8 => hQ7 _ (h7.of h8))
      simp only [pb_b_P_stepUp_75, pb_b_P_stepUp_91, pb_b_P_stepUp_92, pb_iconst, pb_null, pb_iload, pb_aload, pb_istore, pb_astore, pb_iinc, pb_bin, pb_bin0, pb_dup, pb_pop, pb_dup2, pb_if, pb_icmp, pb_ifnull, pb_getI, pb_getR, pb_putI, pb_putZ, pb_putR, pb_alen, pb_ald, pb_aldR, pb_ast, pb_astZ, pb_astR, pb_vret, pb_iret, pb_zret, pb_aret, pb_cv, pb_cr, pb_sr, pb_switch, pb_sw, pb_nth, pb_set, pb_tk, pb_add, pb_sub, List.length_cons, List.length_nil, true_or, or_true, true_and, and_true, and_self, pb_up_same, pb_up_f, ne_eq, Nat.reduceEqDiff, not_false_eq_true, Nat.reduceAdd, Nat.reduceLeDiff, Nat.zero_le, (q_bus hre7.1 hb).1, (q_bus hre7.1 hb).2.1, (q_bus hre7.1 hb).2.2.1, (q_bus hre7.1 hb).2.2.2, (is_B hb).1, (is_B hb).2.1, (is_B hb).2.2.1, (is_B hb).2.2.2.1, (is_B hb).2.2.2.2, (rwD hb).1]
      refine ⟨fun z => go 0 (by rw [if_neg (fun y => y.1 z)]), fun z => ⟨fun z2 => go 0 (by rw [if_neg (fun y => y.2 z2)]), fun z2 => go 1 (by rw [if_pos ⟨z, z2⟩])⟩⟩
    have no : g_upR T E b = 0 → pb_b_P_stepUp_57 x 213 Q [some (.inr 0), some (.inl b), some (.inr (3 + 77 * b)), some (.inr (32 + 77 * b + 11 * w)), some (.inr q), some (.inl (E.1 6 b)), none] [.inl 0] 213 σ3 := by
      intro hr0
      rw [hr0] at hQ
      rw [if_neg (c := ¬ (0 : Int) = 0) (fun z => z rfl)] at hQ
      simp only [pb_b_P_stepUp_57, pb_iconst, pb_null, pb_iload, pb_aload, pb_istore, pb_astore, pb_iinc, pb_bin, pb_bin0, pb_dup, pb_pop, pb_dup2, pb_if, pb_icmp, pb_ifnull, pb_getI, pb_getR, pb_putI, pb_putZ, pb_putR, pb_alen, pb_ald, pb_aldR, pb_ast, pb_astZ, pb_astR, pb_vret, pb_iret, pb_zret, pb_aret, pb_cv, pb_cr, pb_sr, pb_switch, pb_sw, pb_nth, pb_set, pb_tk, pb_add, pb_sub, List.length_cons, List.length_nil, true_or, or_true, true_and, and_true, and_self, pb_up_same, pb_up_f, ne_eq, Nat.reduceEqDiff, not_false_eq_true, Nat.reduceAdd, Nat.reduceLeDiff, Nat.zero_le]
      exact ⟨fun _ => settle 0 _ _ h3 hQ, fun z => by simp at z⟩
    try simp only [pb_b_P_stepUp_56, pb_iconst, pb_null, pb_iload, pb_aload, pb_istore, pb_astore, pb_iinc, pb_bin, pb_bin0, pb_dup, pb_pop, pb_dup2, pb_if, pb_icmp, pb_ifnull, pb_getI, pb_getR, pb_putI, pb_putZ, pb_putR, pb_alen, pb_ald, pb_aldR, pb_ast, pb_astZ, pb_astR, pb_vret, pb_iret, pb_zret, pb_aret, pb_cv, pb_cr, pb_sr, pb_switch, pb_sw, pb_nth, pb_set, pb_tk, pb_add, pb_sub, List.length_cons, List.length_nil, true_or, or_true, true_and, and_true, and_self, pb_up_same, pb_up_f, ne_eq, Nat.reduceEqDiff, not_false_eq_true, Nat.reduceAdd, Nat.reduceLeDiff, Nat.zero_le, (q_bus hre3.1 hb).1, (q_bus hre3.1 hb).2.1, (q_bus hre3.1 hb).2.2.1, (q_bus hre3.1 hb).2.2.2, (is_B hb).1, (is_B hb).2.1, (is_B hb).2.2.1, (is_B hb).2.2.2.1, (is_B hb).2.2.2.2, (rwD hb).1, i1]
    refine ⟨fun z => no (by unfold g_upR; rw [if_neg (fun y => y.1 z)]), fun z => ?_⟩
    refine c_B_exchangeListens hre3 hb i1 i2' ha ?_
    rw [hlis]
    try simp only [pb_iconst, pb_null, pb_iload, pb_aload, pb_istore, pb_astore, pb_iinc, pb_bin, pb_bin0, pb_dup, pb_pop, pb_dup2, pb_if, pb_icmp, pb_ifnull, pb_getI, pb_getR, pb_putI, pb_putZ, pb_putR, pb_alen, pb_ald, pb_aldR, pb_ast, pb_astZ, pb_astR, pb_vret, pb_iret, pb_zret, pb_aret, pb_cv, pb_cr, pb_sr, pb_switch, pb_sw, pb_nth, pb_set, pb_tk, pb_add, pb_sub, List.length_cons, List.length_nil, true_or, or_true, true_and, and_true, and_self, pb_up_same, pb_up_f, ne_eq, Nat.reduceEqDiff, not_false_eq_true, Nat.reduceAdd, Nat.reduceLeDiff, Nat.zero_le]
    refine ⟨fun z2 => no (by unfold g_upR; rw [if_neg (fun y => y.2 z2)]), fun z2 => ?_⟩
    have hr1 : g_upR T E b = 1 := by unfold g_upR; rw [if_pos ⟨z, z2⟩]
    rw [hr1] at hQ
    rw [if_pos (c := ¬ (1 : Int) = 0) (by decide)] at hQ
    simp only [pb_b_P_stepUp_57, pb_iconst, pb_null, pb_iload, pb_aload, pb_istore, pb_astore, pb_iinc, pb_bin, pb_bin0, pb_dup, pb_pop, pb_dup2, pb_if, pb_icmp, pb_ifnull, pb_getI, pb_getR, pb_putI, pb_putZ, pb_putR, pb_alen, pb_ald, pb_aldR, pb_ast, pb_astZ, pb_astR, pb_vret, pb_iret, pb_zret, pb_aret, pb_cv, pb_cr, pb_sr, pb_switch, pb_sw, pb_nth, pb_set, pb_tk, pb_add, pb_sub, List.length_cons, List.length_nil, true_or, or_true, true_and, and_true, and_self, pb_up_same, pb_up_f, ne_eq, Nat.reduceEqDiff, not_false_eq_true, Nat.reduceAdd, Nat.reduceLeDiff, Nat.zero_le, is_P.1, is_P.2.1, is_P.2.2.1, is_P.2.2.2.1, is_P.2.2.2.2, (p_P hre3).1, (p_P hre3).2.1, (p_P hre3).2.2.1, (p_P hre3).2.2.2.1, (p_P hre3).2.2.2.2, p_ref hre3, i1, is_T hb hs, hbit]
    refine ⟨fun z => by simp at z, fun _ => ?_⟩
    exact c_P_receiveUp hre3 hb hw1 i1 hd i2' ha (fun σ4 ρ4 h4 => settle 1 _ _ (h3.ofE h4) hQ)
end UP
