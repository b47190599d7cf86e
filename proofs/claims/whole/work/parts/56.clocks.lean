/-! all clocks -/
def ge_auditK (b : Int) (E : gE) : Nat → gE
  | 0 => E
  | k + 1 => ge_audit (ge_auditK b E k) b k
def ge_cclockK (E : gE) : Nat → gE
  | 0 => E
  | k + 1 => ge_cclock (ge_cclockK E k) k
def ge_audits (E : gE) : gE := ge_auditK 1 (ge_auditK 0 E 4) 4
def ge_clocks (E : gE) : gE := ge_cclockK (ge_audits E) (ge_audits E).2.2.length
def gt_clocks (T : gT) : gT := g_it gt_clock 1 (g_it gt_clock 0 T 4) 4
theorem g_cws_auditK {b : Int} {E : gE} (h : g_cws E.2.2) : ∀ k, g_cws (ge_auditK b E k).2.2
  | 0 => h
  | k + 1 => g_cws_audit (g_cws_auditK h k)
theorem g_pk_cclockK (E : gE) (h : g_cws E.2.2) : ∀ k, g_pk E (ge_cclockK E k)
  | 0 => g_pk.rf E
  | k + 1 => (g_pk_cclockK E h k).tr (g_pk_cclock _ k ((g_pk_cclockK E h k).2 h))
theorem g_cws_clocks {E : gE} (h : g_cws E.2.2) : g_cws (ge_clocks E).2.2 := by
  have h1 : g_cws (ge_audits E).2.2 := g_cws_auditK (g_cws_auditK h 4) 4
  exact (g_pk_cclockK _ h1 _).2 h1
section CS
variable {x : pb_E} {σ : pb_H} {T : gT} {E : gE} {ρ : Int → Int} {μ : pb_H} {b s : Int} {Q : pb_P} {n : Nat}
theorem l_rc88 {o2 o3 o4 o5 : Option pb_V} (hw : g_cws E.2.2) (hQ : ∀ σ', RC σ' T (ge_cclockK E E.2.2.length) μ → Q (.inl 0) σ') : ∀ (d k : Nat), k + d = E.2.2.length → ∀ (σ : pb_H), RC σ T (ge_cclockK E k) μ → pb_WJ x i_P_runClocks 213 Q 88 [some (.inr 0), some (.inl k), o2, o3, o4, o5] [] 213 σ := by
  intro d
  induction d with
  | zero =>
    intro k hk σ h0
    obtain ⟨ρ, h⟩ : ∃ ρ, RE σ (ge_cclockK E k) ρ σ := ⟨_, h0.re⟩
    have hpk := g_pk_cclockK E hw k
    obtain rfl : k = E.2.2.length := by omega
    refine pb_s_P_runClocks_88 x 213 Q _ _ _ _ ?_
    simp only [pb_b_P_runClocks_88, pb_b_P_runClocks_112, pb_iconst, pb_null, pb_iload, pb_aload, pb_istore, pb_astore, pb_iinc, pb_bin, pb_bin0, pb_dup, pb_pop, pb_dup2, pb_if, pb_icmp, pb_ifnull, pb_getI, pb_getR, pb_putI, pb_putZ, pb_putR, pb_alen, pb_ald, pb_aldR, pb_ast, pb_astZ, pb_astR, pb_vret, pb_iret, pb_zret, pb_aret, pb_cv, pb_cr, pb_sr, pb_switch, pb_sw, pb_nth, pb_set, pb_tk, pb_add, pb_sub, List.length_cons, List.length_nil, true_or, or_true, true_and, and_true, and_self, pb_up_same, pb_up_f, ne_eq, Nat.reduceEqDiff, not_false_eq_true, Nat.reduceAdd, Nat.reduceLeDiff, Nat.zero_le, is_P.1, is_P.2.1, is_P.2.2.1, is_P.2.2.2.1, is_P.2.2.2.2, (p_P h).1, (p_P h).2.1, (p_P h).2.2.1, (p_P h).2.2.2.1, (p_P h).2.2.2.2, p_ref h, hpk.1]
    exact ⟨fun _ => hQ _ h0, fun z => absurd z (by omega)⟩
  | succ d ih =>
    intro k hk σ h0
    obtain ⟨ρ, h⟩ : ∃ ρ, RE σ (ge_cclockK E k) ρ σ := ⟨_, h0.re⟩
    have hlen := p_len h
    have hpk := g_pk_cclockK E hw k
    rw [hpk.1] at hlen
    have hwk := hpk.2 hw
    obtain ⟨f, hf⟩ := g_get (c := (ge_cclockK E k).2.2) (k := k) (by rw [hpk.1]; omega)
    have hc := p_call h hf
    have e : pb_w ((k : Int) + 1) = ((k + 1 : Nat) : Int) := by rw [pb_w_id (by unfold pb_R; omega)]; omega
    refine pb_s_P_runClocks_88 x 213 Q _ _ _ _ ?_
    simp only [pb_b_P_runClocks_88, pb_iconst, pb_null, pb_iload, pb_aload, pb_istore, pb_astore, pb_iinc, pb_bin, pb_bin0, pb_dup, pb_pop, pb_dup2, pb_if, pb_icmp, pb_ifnull, pb_getI, pb_getR, pb_putI, pb_putZ, pb_putR, pb_alen, pb_ald, pb_aldR, pb_ast, pb_astZ, pb_astR, pb_vret, pb_iret, pb_zret, pb_aret, pb_cv, pb_cr, pb_sr, pb_switch, pb_sw, pb_nth, pb_set, pb_tk, pb_add, pb_sub, List.length_cons, List.length_nil, true_or, or_true, true_and, and_true, and_self, pb_up_same, pb_up_f, ne_eq, Nat.reduceEqDiff, not_false_eq_true, Nat.reduceAdd, Nat.reduceLeDiff, Nat.zero_le, is_P.1, is_P.2.1, is_P.2.2.1, is_P.2.2.2.1, is_P.2.2.2.2, (p_P h).1, (p_P h).2.1, (p_P h).2.2.1, (p_P h).2.2.2.1, (p_P h).2.2.2.2, p_ref h, hpk.1, hc.1, e]
    refine ⟨fun z => absurd z (by omega), fun _ => ⟨⟨by omega, by omega⟩, c_P_runCallClock h hf (hwk k f hf) (fun σ1 h1 => ?_)⟩⟩
    exact ih (k + 1) (by omega) σ1 (h0.ofE h1)
theorem l_rc62 {o3 o4 o5 : Option pb_V} (hb : 0 ≤ b ∧ b < 2) (hw : g_cws E.2.2) (hN : ∀ σ' o2, RC σ' T (ge_auditK b E 4) μ → pb_WJ x i_P_runClocks 213 Q 54 [some (.inr 0), some (.inl (b + 1)), o2, o3, o4, o5] [] 213 σ') : ∀ (d k : Nat), k + d = 4 → ∀ (σ : pb_H), RC σ T (ge_auditK b E k) μ → pb_WJ x i_P_runClocks 213 Q 62 [some (.inr 0), some (.inl b), some (.inl (64 + k)), o3, o4, o5] [] 213 σ := by
  intro d
  have eb : pb_w (b + 1) = b + 1 := pb_w_id (by unfold pb_R; omega)
  induction d with
  | zero =>
    intro k hk σ h
    obtain rfl : k = 4 := by omega
    refine pb_s_P_runClocks_62 x 213 Q _ _ _ _ ?_
    simp only [pb_b_P_runClocks_62, pb_b_P_runClocks_80, pb_iconst, pb_null, pb_iload, pb_aload, pb_istore, pb_astore, pb_iinc, pb_bin, pb_bin0, pb_dup, pb_pop, pb_dup2, pb_if, pb_icmp, pb_ifnull, pb_getI, pb_getR, pb_putI, pb_putZ, pb_putR, pb_alen, pb_ald, pb_aldR, pb_ast, pb_astZ, pb_astR, pb_vret, pb_iret, pb_zret, pb_aret, pb_cv, pb_cr, pb_sr, pb_switch, pb_sw, pb_nth, pb_set, pb_tk, pb_add, pb_sub, List.length_cons, List.length_nil, true_or, or_true, true_and, and_true, and_self, pb_up_same, pb_up_f, ne_eq, Nat.reduceEqDiff, not_false_eq_true, Nat.reduceAdd, Nat.reduceLeDiff, Nat.zero_le, eb]
    exact ⟨fun _ => hN _ _ h, fun z => absurd z (by omega)⟩
  | succ d ih =>
    intro k hk σ h
    have e : pb_w (64 + (k : Int) + 1) = 64 + ((k + 1 : Nat) : Int) := by rw [pb_w_id (by unfold pb_R; omega)]; omega
    refine pb_s_P_runClocks_62 x 213 Q _ _ _ _ ?_
    simp only [pb_b_P_runClocks_62, pb_iconst, pb_null, pb_iload, pb_aload, pb_istore, pb_astore, pb_iinc, pb_bin, pb_bin0, pb_dup, pb_pop, pb_dup2, pb_if, pb_icmp, pb_ifnull, pb_getI, pb_getR, pb_putI, pb_putZ, pb_putR, pb_alen, pb_ald, pb_aldR, pb_ast, pb_astZ, pb_astR, pb_vret, pb_iret, pb_zret, pb_aret, pb_cv, pb_cr, pb_sr, pb_switch, pb_sw, pb_nth, pb_set, pb_tk, pb_add, pb_sub, List.length_cons, List.length_nil, true_or, or_true, true_and, and_true, and_self, pb_up_same, pb_up_f, ne_eq, Nat.reduceEqDiff, not_false_eq_true, Nat.reduceAdd, Nat.reduceLeDiff, Nat.zero_le, is_P.1, e]
    refine ⟨fun z => absurd z (by omega), fun _ => c_P_runAuditClock h.re hb ⟨by omega, by omega⟩ (g_cws_auditK hw k) (fun σ1 ρ1 h1 => ?_)⟩
    exact ih (k + 1) (by omega) σ1 (h.ofE h1)
theorem l_rc23 (hb : 0 ≤ b ∧ b < 2) (hN : ∀ σ' o2 o3 o4 o5, RC σ' (g_it gt_clock b T 4) E μ → pb_WJ x i_P_runClocks 213 Q 2 [some (.inr 0), some (.inl (b + 1)), o2, o3, o4, o5] [] 213 σ') : ∀ (d k : Nat), k + d = 4 → ∀ (σ : pb_H) (o5 : Option pb_V), RC σ (g_it gt_clock b T k) E μ → pb_WJ x i_P_runClocks 213 Q 23 [some (.inr 0), some (.inl b), some (.inr (4 + 77 * b)), some (.inl 4), some (.inl k), o5] [] 213 σ := by
  intro d
  have eb : pb_w (b + 1) = b + 1 := pb_w_id (by unfold pb_R; omega)
  obtain ⟨b1, b2, b3, b4, b5⟩ := is_B hb
  induction d with
  | zero =>
    intro k hk σ o5 h
    obtain rfl : k = 4 := by omega
    refine pb_s_P_runClocks_23 x 213 Q _ _ _ _ ?_
    simp only [pb_b_P_runClocks_23, pb_b_P_runClocks_46, pb_iconst, pb_null, pb_iload, pb_aload, pb_istore, pb_astore, pb_iinc, pb_bin, pb_bin0, pb_dup, pb_pop, pb_dup2, pb_if, pb_icmp, pb_ifnull, pb_getI, pb_getR, pb_putI, pb_putZ, pb_putR, pb_alen, pb_ald, pb_aldR, pb_ast, pb_astZ, pb_astR, pb_vret, pb_iret, pb_zret, pb_aret, pb_cv, pb_cr, pb_sr, pb_switch, pb_sw, pb_nth, pb_set, pb_tk, pb_add, pb_sub, List.length_cons, List.length_nil, true_or, or_true, true_and, and_true, and_self, pb_up_same, pb_up_f, ne_eq, Nat.reduceEqDiff, not_false_eq_true, Nat.reduceAdd, Nat.reduceLeDiff, Nat.zero_le, eb]
    exact ⟨fun _ => hN _ _ _ _ _ h, fun z => absurd z (by omega)⟩
  | succ d ih =>
    intro k hk σ o5 h
    have hs : 0 ≤ (k : Int) ∧ (k : Int) < 4 := ⟨by omega, by omega⟩
    have e : pb_w ((k : Int) + 1) = ((k + 1 : Nat) : Int) := by rw [pb_w_id (by unfold pb_R; omega)]; omega
    refine pb_s_P_runClocks_23 x 213 Q _ _ _ _ ?_
    simp only [pb_b_P_runClocks_23, pb_iconst, pb_null, pb_iload, pb_aload, pb_istore, pb_astore, pb_iinc, pb_bin, pb_bin0, pb_dup, pb_pop, pb_dup2, pb_if, pb_icmp, pb_ifnull, pb_getI, pb_getR, pb_putI, pb_putZ, pb_putR, pb_alen, pb_ald, pb_aldR, pb_ast, pb_astZ, pb_astR, pb_vret, pb_iret, pb_zret, pb_aret, pb_cv, pb_cr, pb_sr, pb_switch, pb_sw, pb_nth, pb_set, pb_tk, pb_add, pb_sub, List.length_cons, List.length_nil, true_or, or_true, true_and, and_true, and_self, pb_up_same, pb_up_f, ne_eq, Nat.reduceEqDiff, not_false_eq_true, Nat.reduceAdd, Nat.reduceLeDiff, Nat.zero_le, b1, b2, b4, q_term h.1 hb hs, is_T hb hs, e]
    refine ⟨fun z => absurd z (by omega), fun _ => ⟨hs, c_T_runClock h.rt hb hs (fun σ1 h1 => ?_)⟩⟩
    exact ih (k + 1) (by omega) σ1 _ (h.of h1)
theorem l_rc54 {o2 o3 o4 o5 : Option pb_V} (h : RC σ T E μ) (hb : 0 ≤ b ∧ b < 2) (hw : g_cws E.2.2) (hN : ∀ σ' o2, RC σ' T (ge_auditK b E 4) μ → pb_WJ x i_P_runClocks 213 Q 54 [some (.inr 0), some (.inl (b + 1)), o2, o3, o4, o5] [] 213 σ') : pb_WJ x i_P_runClocks 213 Q 54 [some (.inr 0), some (.inl b), o2, o3, o4, o5] [] 213 σ := by
  refine pb_s_P_runClocks_54 x 213 Q _ _ _ _ ?_
  simp only [pb_b_P_runClocks_54, pb_iconst, pb_null, pb_iload, pb_aload, pb_istore, pb_astore, pb_iinc, pb_bin, pb_bin0, pb_dup, pb_pop, pb_dup2, pb_if, pb_icmp, pb_ifnull, pb_getI, pb_getR, pb_putI, pb_putZ, pb_putR, pb_alen, pb_ald, pb_aldR, pb_ast, pb_astZ, pb_astR, pb_vret, pb_iret, pb_zret, pb_aret, pb_cv, pb_cr, pb_sr, pb_switch, pb_sw, pb_nth, pb_set, pb_tk, pb_add, pb_sub, List.length_cons, List.length_nil, true_or, or_true, true_and, and_true, and_self, pb_up_same, pb_up_f, ne_eq, Nat.reduceEqDiff, not_false_eq_true, Nat.reduceAdd, Nat.reduceLeDiff, Nat.zero_le]
  exact ⟨fun z => absurd z (by omega), fun _ => l_rc62 hb hw hN 4 0 rfl σ h⟩
theorem l_rc2 {o2 o3 o4 o5 : Option pb_V} (h : RC σ T E μ) (hb : 0 ≤ b ∧ b < 2) (hN : ∀ σ' o2 o3 o4 o5, RC σ' (g_it gt_clock b T 4) E μ → pb_WJ x i_P_runClocks 213 Q 2 [some (.inr 0), some (.inl (b + 1)), o2, o3, o4, o5] [] 213 σ') : pb_WJ x i_P_runClocks 213 Q 2 [some (.inr 0), some (.inl b), o2, o3, o4, o5] [] 213 σ := by
  refine pb_s_P_runClocks_2 x 213 Q _ _ _ _ ?_
  have hre := h.re
  simp only [pb_b_P_runClocks_2, pb_iconst, pb_null, pb_iload, pb_aload, pb_istore, pb_astore, pb_iinc, pb_bin, pb_bin0, pb_dup, pb_pop, pb_dup2, pb_if, pb_icmp, pb_ifnull, pb_getI, pb_getR, pb_putI, pb_putZ, pb_putR, pb_alen, pb_ald, pb_aldR, pb_ast, pb_astZ, pb_astR, pb_vret, pb_iret, pb_zret, pb_aret, pb_cv, pb_cr, pb_sr, pb_switch, pb_sw, pb_nth, pb_set, pb_tk, pb_add, pb_sub, List.length_cons, List.length_nil, true_or, or_true, true_and, and_true, and_self, pb_up_same, pb_up_f, ne_eq, Nat.reduceEqDiff, not_false_eq_true, Nat.reduceAdd, Nat.reduceLeDiff, Nat.zero_le, is_P.1, is_P.2.1, is_P.2.2.1, is_P.2.2.2.1, is_P.2.2.2.2, (p_P hre).1, (p_P hre).2.1, (p_P hre).2.2.1, (p_P hre).2.2.2.1, (p_P hre).2.2.2.2, p_ref hre, (q_bus hre.1 hb).1, (q_bus hre.1 hb).2.1, (q_bus hre.1 hb).2.2.1, (q_bus hre.1 hb).2.2.2, (is_B hb).1, (is_B hb).2.1, (is_B hb).2.2.1, (is_B hb).2.2.2.1, (is_B hb).2.2.2.2, (rwD hb).1]
  exact ⟨fun z => absurd z (by omega), fun _ => ⟨hb, l_rc23 hb hN 4 0 rfl σ _ h⟩⟩
theorem c_P_runClocks (h : RC σ T E μ) (hw : g_cws E.2.2) (hQ : ∀ σ', RC σ' (gt_clocks T) (ge_clocks E) μ → Q (.inl 0) σ') : pb_MJ x i_P_runClocks [.inr 0] 213 σ Q := by
  refine pb_m_P_runClocks ?_
  simp only [pb_b_P_runClocks_0, pb_iconst, pb_null, pb_iload, pb_aload, pb_istore, pb_astore, pb_iinc, pb_bin, pb_bin0, pb_dup, pb_pop, pb_dup2, pb_if, pb_icmp, pb_ifnull, pb_getI, pb_getR, pb_putI, pb_putZ, pb_putR, pb_alen, pb_ald, pb_aldR, pb_ast, pb_astZ, pb_astR, pb_vret, pb_iret, pb_zret, pb_aret, pb_cv, pb_cr, pb_sr, pb_switch, pb_sw, pb_nth, pb_set, pb_tk, pb_add, pb_sub, List.length_cons, List.length_nil, true_or, or_true, true_and, and_true, and_self, pb_up_same, pb_up_f, ne_eq, Nat.reduceEqDiff, not_false_eq_true, Nat.reduceAdd, Nat.reduceLeDiff, Nat.zero_le]
  refine l_rc2 (b := 0) h (by omega) (fun σ1 _ _ _ _ h1 => l_rc2 (b := 0 + 1) h1 (by omega) (fun σ2 _ _ _ _ h2 => ?_))
  refine pb_s_P_runClocks_2 x 213 Q _ _ _ _ ?_
  simp only [pb_b_P_runClocks_2, pb_b_P_runClocks_52, pb_iconst, pb_null, pb_iload, pb_aload, pb_istore, pb_astore, pb_iinc, pb_bin, pb_bin0, pb_dup, pb_pop, pb_dup2, pb_if, pb_icmp, pb_ifnull, pb_getI, pb_getR, pb_putI, pb_putZ, pb_putR, pb_alen, pb_ald, pb_aldR, pb_ast, pb_astZ, pb_astR, pb_vret, pb_iret, pb_zret, pb_aret, pb_cv, pb_cr, pb_sr, pb_switch, pb_sw, pb_nth, pb_set, pb_tk, pb_add, pb_sub, List.length_cons, List.length_nil, true_or, or_true, true_and, and_true, and_self, pb_up_same, pb_up_f, ne_eq, Nat.reduceEqDiff, not_false_eq_true, Nat.reduceAdd, Nat.reduceLeDiff, Nat.zero_le]
  refine ⟨fun _ => ?_, fun z => absurd z (by omega)⟩
  refine l_rc54 (b := 0) h2 (by omega) hw (fun σ3 _ h3 => l_rc54 (b := 0 + 1) h3 (by omega) (g_cws_auditK hw 4) (fun σ4 _ h4 => ?_))
  refine pb_s_P_runClocks_54 x 213 Q _ _ _ _ ?_
  simp only [pb_b_P_runClocks_54, pb_b_P_runClocks_86, pb_iconst, pb_null, pb_iload, pb_aload, pb_istore, pb_astore, pb_iinc, pb_bin, pb_bin0, pb_dup, pb_pop, pb_dup2, pb_if, pb_icmp, pb_ifnull, pb_getI, pb_getR, pb_putI, pb_putZ, pb_putR, pb_alen, pb_ald, pb_aldR, pb_ast, pb_astZ, pb_astR, pb_vret, pb_iret, pb_zret, pb_aret, pb_cv, pb_cr, pb_sr, pb_switch, pb_sw, pb_nth, pb_set, pb_tk, pb_add, pb_sub, List.length_cons, List.length_nil, true_or, or_true, true_and, and_true, and_self, pb_up_same, pb_up_f, ne_eq, Nat.reduceEqDiff, not_false_eq_true, Nat.reduceAdd, Nat.reduceLeDiff, Nat.zero_le]
  refine ⟨fun _ => ?_, fun z => absurd z (by omega)⟩
  exact l_rc88 (E := ge_audits E) (g_cws_auditK (g_cws_auditK hw 4) 4) hQ _ 0 (Nat.zero_add _) σ4 h4
end CS
