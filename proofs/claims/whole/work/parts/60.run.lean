/-! ticks -/
def g_half (S : gT × gE) (b : Int) : gT × gE := (g_downT (g_upT S.1 S.2 b) (g_upE S.1 S.2 b) b, g_downE (g_upT S.1 S.2 b) (g_upE S.1 S.2 b) b)
def g_cnt (S : gT × gE) (b a : Int) : Int := pb_w (pb_w (a + (if g_upW S.1 b = -1 then 0 else 1)) + (if (g_upE S.1 S.2 b).2.1 b = [] then 0 else 1))
def g_end (S : gT × gE) : gT × gE := (gt_speech (gt_clocks S.1) (ge_clocks S.2).2.2, ge_set (ge_clocks S.2) 9 0 (pb_w ((ge_clocks S.2).1 9 0 + 1)))
def g_tick (S : gT × gE) : gT × gE := g_end (g_half (g_half S 0) 1)
def g_runS (S : gT × gE) : Nat → gT × gE
  | 0 => S
  | k + 1 => g_tick (g_runS S k)
def g_runC (S : gT × gE) : Nat → Int
  | 0 => 0
  | k + 1 => g_cnt (g_half (g_runS S k) 0) 1 (g_cnt (g_runS S k) 0 (g_runC S k))
/-- what an invariant must give and keep; the number: how many more frames may come up -/
def g_inv (I : Nat → gT → gE → Prop) : Prop :=
  (∀ n T E, I n T E → g_cws E.2.2 ∧ (∀ t f l, T.2 t = f :: l → pb_R f.2.1) ∧ (∀ b f l, E.2.1 b = f :: l → pb_R f.2.1)) ∧ (∀ n T E b, 0 ≤ b ∧ b < 2 → I (n + 1) T E → I n (g_upT T E b) (g_upE T E b)) ∧ (∀ n T E b, 0 ≤ b ∧ b < 2 → I n T E → I n (g_downT T E b) (g_downE T E b)) ∧ (∀ n T E, I n T E → I n (g_end (T, E)).1 (g_end (T, E)).2)
theorem g_inv.half {I : Nat → gT → gE → Prop} (hI : g_inv I) {n : Nat} {S : gT × gE} {b : Int} (hb : 0 ≤ b ∧ b < 2) (h : I (n + 1) S.1 S.2) : I n (g_half S b).1 (g_half S b).2 := hI.2.2.1 _ _ _ b hb (hI.2.1 _ _ _ b hb h)
theorem g_inv.tick {I : Nat → gT → gE → Prop} (hI : g_inv I) {n : Nat} {S : gT × gE} (h : I (n + 2) S.1 S.2) : I n (g_tick S).1 (g_tick S).2 := hI.2.2.2 _ _ _ (hI.half (b := 1) (by omega) (hI.half (b := 0) (by omega) h))
theorem g_inv.run {I : Nat → gT → gE → Prop} (hI : g_inv I) {S : gT × gE} : ∀ k m, I (m + 2 * k) S.1 S.2 → I m (g_runS S k).1 (g_runS S k).2
  | 0, _, h => h
  | k + 1, m, h => hI.tick (hI.run k (m + 2) (by rw [show m + 2 + 2 * k = m + 2 * (k + 1) by omega]; exact h))
section RUN
variable {x : pb_E} {σ : pb_H} {S : gT × gE} {μ : pb_H} {b s : Int} {Q : pb_P} {n : Nat}
theorem r_ticks {σ : pb_H} {T : gT} {E : gE} {μ : pb_H} (h : RC σ T E μ) {v : Int} : RC (pb_up σ 5 0 0 v) T (ge_set E 9 0 v) μ := h.ofE (re_upTicks h.re)
theorem l_run25 {I : Nat → gT → gE → Prop} (hI : g_inv I) {m : Nat} {N k a : Int} (hb : 0 ≤ b ∧ b < 2) (h : RC σ S.1 S.2 μ) (hi : I (m + 1) S.1 S.2) (hN : ∀ σ', RC σ' (g_half S b).1 (g_half S b).2 μ → pb_WJ x i_P_run 213 Q 25 [some (.inr 0), some (.inl N), some (.inl (g_cnt S b a)), some (.inl k), some (.inl (b + 1))] [] 213 σ') : pb_WJ x i_P_run 213 Q 25 [some (.inr 0), some (.inl N), some (.inl a), some (.inl k), some (.inl b)] [] 213 σ := by
  refine pb_s_P_run_25 x 213 Q _ _ _ _ ?_
  have eb : pb_w (b + 1) = b + 1 := pb_w_id (by unfold pb_R; omega)
  have g1 := hI.1 _ _ _ hi
  have hi2 := hI.2.1 _ _ _ b hb hi
  have g2 := hI.1 _ _ _ hi2
  simp only [pb_b_P_run_25, pb_iconst, pb_null, pb_iload, pb_aload, pb_istore, pb_astore, pb_iinc, pb_bin, pb_bin0, pb_dup, pb_pop, pb_dup2, pb_if, pb_icmp, pb_ifnull, pb_getI, pb_getR, pb_putI, pb_putZ, pb_putR, pb_alen, pb_ald, pb_aldR, pb_ast, pb_astZ, pb_astR, pb_vret, pb_iret, pb_zret, pb_aret, pb_cv, pb_cr, pb_sr, pb_switch, pb_sw, pb_nth, pb_set, pb_tk, pb_add, pb_sub, List.length_cons, List.length_nil, true_or, or_true, true_and, and_true, and_self, pb_up_same, pb_up_f, ne_eq, Nat.reduceEqDiff, not_false_eq_true, Nat.reduceAdd, Nat.reduceLeDiff, Nat.zero_le, is_P.1, eb]
  refine ⟨fun z => absurd z (by omega), fun _ => c_P_stepUp h hb g1.1 g1.2.1 (fun σ1 h1 => ?_)⟩
  try simp only [pb_iconst, pb_null, pb_iload, pb_aload, pb_istore, pb_astore, pb_iinc, pb_bin, pb_bin0, pb_dup, pb_pop, pb_dup2, pb_if, pb_icmp, pb_ifnull, pb_getI, pb_getR, pb_putI, pb_putZ, pb_putR, pb_alen, pb_ald, pb_aldR, pb_ast, pb_astZ, pb_astR, pb_vret, pb_iret, pb_zret, pb_aret, pb_cv, pb_cr, pb_sr, pb_switch, pb_sw, pb_nth, pb_set, pb_tk, pb_add, pb_sub, List.length_cons, List.length_nil, true_or, or_true, true_and, and_true, and_self, pb_up_same, pb_up_f, ne_eq, Nat.reduceEqDiff, not_false_eq_true, Nat.reduceAdd, Nat.reduceLeDiff, Nat.zero_le, is_P.1, eb]
  refine c_P_stepDown h1 hb g2.1 (g2.2.2 b) (fun σ2 h2 => ?_)
  try simp only [pb_iconst, pb_null, pb_iload, pb_aload, pb_istore, pb_astore, pb_iinc, pb_bin, pb_bin0, pb_dup, pb_pop, pb_dup2, pb_if, pb_icmp, pb_ifnull, pb_getI, pb_getR, pb_putI, pb_putZ, pb_putR, pb_alen, pb_ald, pb_aldR, pb_ast, pb_astZ, pb_astR, pb_vret, pb_iret, pb_zret, pb_aret, pb_cv, pb_cr, pb_sr, pb_switch, pb_sw, pb_nth, pb_set, pb_tk, pb_add, pb_sub, List.length_cons, List.length_nil, true_or, or_true, true_and, and_true, and_self, pb_up_same, pb_up_f, ne_eq, Nat.reduceEqDiff, not_false_eq_true, Nat.reduceAdd, Nat.reduceLeDiff, Nat.zero_le, is_P.1, eb]
  exact hN _ h2
theorem l_run17 {I : Nat → gT → gE → Prop} (hI : g_inv I) {N : Nat} (hn : N ≤ 60) (hi : I (2 * N) S.1 S.2) (hQ : ∀ σ', RC σ' (g_runS S N).1 (g_runS S N).2 μ → Q (.inl (g_runC S N)) σ') : ∀ (d k : Nat), k + d = N → ∀ (σ : pb_H) (o : Option pb_V), RC σ (g_runS S k).1 (g_runS S k).2 μ → pb_WJ x i_P_run 213 Q 17 [some (.inr 0), some (.inl N), some (.inl (g_runC S k)), some (.inl k), o] [] 213 σ := by
  intro d
  induction d with
  | zero =>
    intro k hk σ o h
    obtain rfl : k = N := by omega
    refine pb_s_P_run_17 x 213 Q _ _ _ _ ?_
    simp only [pb_b_P_run_17, pb_b_P_run_79, pb_iconst, pb_null, pb_iload, pb_aload, pb_istore, pb_astore, pb_iinc, pb_bin, pb_bin0, pb_dup, pb_pop, pb_dup2, pb_if, pb_icmp, pb_ifnull, pb_getI, pb_getR, pb_putI, pb_putZ, pb_putR, pb_alen, pb_ald, pb_aldR, pb_ast, pb_astZ, pb_astR, pb_vret, pb_iret, pb_zret, pb_aret, pb_cv, pb_cr, pb_sr, pb_switch, pb_sw, pb_nth, pb_set, pb_tk, pb_add, pb_sub, List.length_cons, List.length_nil, true_or, or_true, true_and, and_true, and_self, pb_up_same, pb_up_f, ne_eq, Nat.reduceEqDiff, not_false_eq_true, Nat.reduceAdd, Nat.reduceLeDiff, Nat.zero_le]
    exact ⟨fun _ => hQ _ h, fun z => absurd z (by omega)⟩
  | succ d ih =>
    intro k hk σ o h
    have e : pb_w ((k : Int) + 1) = ((k + 1 : Nat) : Int) := by rw [pb_w_id (by unfold pb_R; omega)]; omega
    have hi1 := hI.run (S := S) k (2 * d + 2) (by rw [show 2 * d + 2 + 2 * k = 2 * N by omega]; exact hi)
    have hi2 := hI.half (b := 0) (by omega) hi1
    have hi3 := hI.half (b := 1) (by omega) hi2
    refine pb_s_P_run_17 x 213 Q _ _ _ _ ?_
    simp only [pb_b_P_run_17, pb_iconst, pb_null, pb_iload, pb_aload, pb_istore, pb_astore, pb_iinc, pb_bin, pb_bin0, pb_dup, pb_pop, pb_dup2, pb_if, pb_icmp, pb_ifnull, pb_getI, pb_getR, pb_putI, pb_putZ, pb_putR, pb_alen, pb_ald, pb_aldR, pb_ast, pb_astZ, pb_astR, pb_vret, pb_iret, pb_zret, pb_aret, pb_cv, pb_cr, pb_sr, pb_switch, pb_sw, pb_nth, pb_set, pb_tk, pb_add, pb_sub, List.length_cons, List.length_nil, true_or, or_true, true_and, and_true, and_self, pb_up_same, pb_up_f, ne_eq, Nat.reduceEqDiff, not_false_eq_true, Nat.reduceAdd, Nat.reduceLeDiff, Nat.zero_le]
    refine ⟨fun z => absurd z (by omega), fun _ => ?_⟩
    refine l_run25 hI (b := 0) (by omega) h hi1 (fun σ1 h1 => l_run25 hI (b := 0 + 1) (by omega) h1 hi2 (fun σ2 h2 => ?_))
    refine pb_s_P_run_25 x 213 Q _ _ _ _ ?_
    simp only [pb_b_P_run_25, pb_b_P_run_55, pb_iconst, pb_null, pb_iload, pb_aload, pb_istore, pb_astore, pb_iinc, pb_bin, pb_bin0, pb_dup, pb_pop, pb_dup2, pb_if, pb_icmp, pb_ifnull, pb_getI, pb_getR, pb_putI, pb_putZ, pb_putR, pb_alen, pb_ald, pb_aldR, pb_ast, pb_astZ, pb_astR, pb_vret, pb_iret, pb_zret, pb_aret, pb_cv, pb_cr, pb_sr, pb_switch, pb_sw, pb_nth, pb_set, pb_tk, pb_add, pb_sub, List.length_cons, List.length_nil, true_or, or_true, true_and, and_true, and_self, pb_up_same, pb_up_f, ne_eq, Nat.reduceEqDiff, not_false_eq_true, Nat.reduceAdd, Nat.reduceLeDiff, Nat.zero_le, is_P.1]
    refine ⟨fun _ => ?_, fun z => absurd z (by omega)⟩
    have g3 := (hI.1 _ _ _ hi3).1
    refine c_P_runClocks h2 g3 (fun σ3 h3 => ?_)
    try simp only [pb_iconst, pb_null, pb_iload, pb_aload, pb_istore, pb_astore, pb_iinc, pb_bin, pb_bin0, pb_dup, pb_pop, pb_dup2, pb_if, pb_icmp, pb_ifnull, pb_getI, pb_getR, pb_putI, pb_putZ, pb_putR, pb_alen, pb_ald, pb_aldR, pb_ast, pb_astZ, pb_astR, pb_vret, pb_iret, pb_zret, pb_aret, pb_cv, pb_cr, pb_sr, pb_switch, pb_sw, pb_nth, pb_set, pb_tk, pb_add, pb_sub, List.length_cons, List.length_nil, true_or, or_true, true_and, and_true, and_self, pb_up_same, pb_up_f, ne_eq, Nat.reduceEqDiff, not_false_eq_true, Nat.reduceAdd, Nat.reduceLeDiff, Nat.zero_le, is_P.1]
    refine c_P_carrySpeech h3 (g_cws_clocks g3) (fun σ4 h4 => ?_)
    have hre := h4.re
    try simp only [pb_iconst, pb_null, pb_iload, pb_aload, pb_istore, pb_astore, pb_iinc, pb_bin, pb_bin0, pb_dup, pb_pop, pb_dup2, pb_if, pb_icmp, pb_ifnull, pb_getI, pb_getR, pb_putI, pb_putZ, pb_putR, pb_alen, pb_ald, pb_aldR, pb_ast, pb_astZ, pb_astR, pb_vret, pb_iret, pb_zret, pb_aret, pb_cv, pb_cr, pb_sr, pb_switch, pb_sw, pb_nth, pb_set, pb_tk, pb_add, pb_sub, List.length_cons, List.length_nil, true_or, or_true, true_and, and_true, and_self, pb_up_same, pb_up_f, ne_eq, Nat.reduceEqDiff, not_false_eq_true, Nat.reduceAdd, Nat.reduceLeDiff, Nat.zero_le, is_P.1, is_P.2.1, is_P.2.2.1, is_P.2.2.2.1, is_P.2.2.2.2, (p_P hre).1, (p_P hre).2.1, (p_P hre).2.2.1, (p_P hre).2.2.2.1, (p_P hre).2.2.2.2, p_ref hre, e]
    exact ih (k + 1) (by omega) _ _ (r_ticks h4)
theorem c_P_run {I : Nat → gT → gE → Prop} (hI : g_inv I) {N : Int} (h : RC σ S.1 S.2 μ) (hi : 1 ≤ N ∧ N ≤ 60 → I (2 * N.toNat) S.1 S.2) (h1 : 1 ≤ N ∧ N ≤ 60 → ∀ σ', RC σ' (g_runS S N.toNat).1 (g_runS S N.toNat).2 μ → Q (.inl (g_runC S N.toNat)) σ') (h0 : ¬ (1 ≤ N ∧ N ≤ 60) → Q (.inl (-1)) σ) : pb_MJ x i_P_run [.inr 0, .inl N] 213 σ Q := by
  refine pb_m_P_run ?_
  simp only [pb_b_P_run_0, pb_b_P_run_11, pb_b_P_run_13, pb_iconst, pb_null, pb_iload, pb_aload, pb_istore, pb_astore, pb_iinc, pb_bin, pb_bin0, pb_dup, pb_pop, pb_dup2, pb_if, pb_icmp, pb_ifnull, pb_getI, pb_getR, pb_putI, pb_putZ, pb_putR, pb_alen, pb_ald, pb_aldR, pb_ast, pb_astZ, pb_astR, pb_vret, pb_iret, pb_zret, pb_aret, pb_cv, pb_cr, pb_sr, pb_switch, pb_sw, pb_nth, pb_set, pb_tk, pb_add, pb_sub, List.length_cons, List.length_nil, true_or, or_true, true_and, and_true, and_self, pb_up_same, pb_up_f, ne_eq, Nat.reduceEqDiff, not_false_eq_true, Nat.reduceAdd, Nat.reduceLeDiff, Nat.zero_le]
  refine ⟨fun z => h0 (by omega), fun z => ⟨fun z2 => ?_, fun z2 => h0 (by omega)⟩⟩
  have h2 := l_run17 (x := x) (Q := Q) hI (N := N.toNat) (by omega) (hi ⟨by omega, by omega⟩) (h1 ⟨by omega, by omega⟩) N.toNat 0 (Nat.zero_add _) σ none h
  rw [show ((N.toNat : Nat) : Int) = N by omega] at h2
  exact h2
end RUN
