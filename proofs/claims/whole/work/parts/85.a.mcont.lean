/-! who sends up -/
def g_best (b w : Int) : Int := if w = -1 then -1 else 4 * b + w
def g_sd (T : gT) (b m w : Int) (t : Int) : Int := if ¬ w = -1 ∧ g_cb T t m = true ∧ cmpT T t (4 * b + w) = 0 then 1 else 0
def g_i3 (T : gT) (b m : Int) (k : Nat) (T3 : gT) : Prop := T3.2 = T.2 ∧ (∀ k' t, k' ≠ 3 → T3.1 k' t = T.1 k' t) ∧ (∀ t, (∀ i : Nat, i < k → t ≠ 4 * b + i) → T3.1 3 t = T.1 3 t) ∧ ∀ i : Nat, i < k → T3.1 3 (4 * b + i) = if g_cb T (4 * b + i) m = true then 1 else 0
def g_i4 (T : gT) (b m w : Int) (k : Nat) (T4 : gT) : Prop := T4.2 = T.2 ∧ (∀ k' t, k' ≠ 2 → k' ≠ 3 → T4.1 k' t = T.1 k' t) ∧ (∀ t, (∀ i : Nat, i < k → t ≠ 4 * b + i) → T4.1 2 t = T.1 2 t) ∧ (∀ t, (∀ i : Nat, i < 4 → t ≠ 4 * b + i) → T4.1 3 t = T.1 3 t) ∧ (∀ i : Nat, i < k → T4.1 2 (4 * b + i) = if ¬ T.1 2 (4 * b + i) = 0 ∧ m = 0 then 1 else 0) ∧ ∀ i : Nat, i < 4 → T4.1 3 (4 * b + i) = if i < k then g_sd T b m w (4 * b + i) else if g_cb T (4 * b + i) m = true then 1 else 0
def g_ad (T : gT) : Prop := ∀ t f l, 0 ≤ t → t < 8 → T.2 t = f :: l → f.2.1 = if f.1 = 7 then 0 else T.1 4 t
section MCT
variable {x : pb_E} {σ σ' : pb_H} {T T3 : gT} {E E' : gE} {w : gW} {ν : pb_H} {b s t u m : Int} {Q : pb_P} {k : Nat}
theorem g_i3_0 : g_i3 T b m 0 T := ⟨rfl, fun _ _ _ => rfl, fun _ _ => rfl, fun i hi => absurd hi (by omega)⟩
theorem g_i3.step (h : g_i3 T b m k T3) : g_i3 T b m (k + 1) (gt_set T3 3 (4 * b + k) (if g_cb T (4 * b + k) m = true then 1 else 0)) := by
  obtain ⟨h1, h2, h3, h4⟩ := h
  refine ⟨h1, fun k' t hk => (gt_set_k hk).trans (h2 k' t hk), fun t ht => (gt_set_l (ht k (by omega))).trans (h3 t (fun i hi => ht i (by omega))), fun i hi => ?_⟩
  by_cases z : i = k
  · subst z
    exact g_up_s _ _ _ _
  · exact (gt_set_l (by omega)).trans (h4 i (by omega))
theorem g_i3.to4 {wn : Int} (h : g_i3 T b m 4 T3) : g_i4 T b m wn 0 T3 := by
  obtain ⟨h1, h2, h3, h4⟩ := h
  refine ⟨h1, fun k' t _ hk => h2 k' t hk, fun t _ => h2 2 t (by decide), h3, fun i hi => absurd hi (by omega), fun i hi => ?_⟩
  rw [if_neg (by omega)]
  exact h4 i hi
theorem g_i4.step {wn : Int} (h : g_i4 T b m wn k T3) (hk : k < 4) : g_i4 T b m wn (k + 1) (gt_set (gt_set T3 2 (4 * b + k) (if ¬ T.1 2 (4 * b + k) = 0 ∧ m = 0 then 1 else 0)) 3 (4 * b + k) (g_sd T b m wn (4 * b + k))) := by
  obtain ⟨h1, h2, h3, h4, h5, h6⟩ := h
  refine ⟨h1, fun k' t z2 z3 => (gt_set_k z3).trans ((gt_set_k z2).trans (h2 k' t z2 z3)), fun t ht => (gt_set_l (ht k (by omega))).trans ((gt_set_l (ht k (by omega))).trans (h3 t (fun i hi => ht i (by omega)))), fun t ht => (gt_set_l (ht k (by omega))).trans ((gt_set_l (ht k (by omega))).trans (h4 t ht)), fun i hi => ?_, fun i hi => ?_⟩
  · rw [gt_set_k (by decide)]
    by_cases z : i = k
    · subst z
      exact g_up_s _ _ _ _
    · exact (gt_set_l (by omega)).trans (h5 i (by omega))
  · by_cases z : i = k
    · subst z
      rw [if_pos (show i < i + 1 by omega)]
      exact g_up_s _ _ _ _
    · rw [gt_set_l (by omega), gt_set_l (by omega), h6 i hi]
      by_cases z2 : i < k
      · rw [if_pos z2, if_pos (show i < k + 1 by omega)]
      · rw [if_neg z2, if_neg (show ¬ i < k + 1 by omega)]
theorem g_ev1 (h : g_eager T b k = true ∨ g_con T (4 * b + k) 0) : g_eager T b (k + 1) = true := by
  show (g_eager T b k || g_cb T (4 * b + k) 0) = true
  rw [Bool.or_eq_true]
  exact h.imp id g_cb_iff.mp
theorem g_ev0 (h1 : ¬ g_eager T b k = true) (h2 : ¬ g_con T (4 * b + k) 0) : ¬ g_eager T b (k + 1) = true := by
  show ¬ (g_eager T b k || g_cb T (4 * b + k) 0) = true
  rw [Bool.or_eq_true]
  exact fun z => z.elim h1 (fun y => h2 (g_cb_iff.mpr y))
theorem l_M_cont3 {wn : Int} (hb : 0 ≤ b ∧ b < 2) (ha : g_ad T) (hm : m = 0 ∨ m = 1) (hw : wn = -1 ∨ (0 ≤ wn ∧ wn < 4 ∧ g_con T (4 * b + wn) m)) (hw2 : wn = -1 → ∀ i : Nat, i < 4 → ¬ g_cb T (4 * b + i) m = true) (hQ : ∀ σ' Tm, RM σ' Tm E w ν → g_i4 T b m wn 4 Tm → Q (.inl (g_best b wn)) σ') : ∀ (d k : Nat), k + d = 4 → ∀ (σ : pb_H) (T4 : gT), RM σ T4 E w ν → g_i4 T b m wn k T4 → pb_WJ x i_M_contention 213 Q 156 [some (.inr 165), some (.inl b), some (.inl (1 - m)), some (.inl (g_best b wn)), some (.inl (4 * b + k))] [] 213 σ := by
  intro d
  have e0 : pb_mul 4 b = 4 * b := by unfold pb_mul; exact pb_w_id (by unfold pb_R; omega)
  have e1 : pb_w (4 * b + 4) = 4 * b + 4 := pb_w_id (by unfold pb_R; omega)
  induction d with
  | zero =>
    intro k hk σ T4 h hi
    obtain rfl : k = 4 := by omega
    refine pb_s_M_contention_156 x 213 Q _ _ _ _ ?_
    simp only [pb_b_M_contention_156, pb_b_M_contention_230, pb_iconst, pb_null, pb_iload, pb_aload, pb_istore, pb_astore, pb_iinc, pb_bin, pb_bin0, pb_dup, pb_pop, pb_dup2, pb_if, pb_icmp, pb_ifnull, pb_getI, pb_getR, pb_putI, pb_putZ, pb_putR, pb_alen, pb_ald, pb_aldR, pb_ast, pb_astZ, pb_astR, pb_vret, pb_iret, pb_zret, pb_aret, pb_cv, pb_cr, pb_sr, pb_switch, pb_sw, pb_nth, pb_set, pb_tk, pb_add, pb_sub, List.length_cons, List.length_nil, true_or, or_true, true_and, and_true, and_self, pb_up_same, pb_up_f, ne_eq, Nat.reduceEqDiff, not_false_eq_true, Nat.reduceAdd, Nat.reduceLeDiff, Nat.zero_le, e0, e1]
    exact ⟨fun _ => hQ _ _ h hi, fun z => absurd z (by omega)⟩
  | succ d ih =>
    intro k hk σ T4 h hi
    have ht : 0 ≤ 4 * b + (k : Int) ∧ 4 * b + (k : Int) < 8 := by omega
    have e : pb_w (4 * b + (k : Int) + 1) = 4 * b + ((k + 1 : Nat) : Int) := by rw [pb_w_id (by unfold pb_R; omega)]; omega
    have a2 := m_T h 169 2 rfl ⟨by decide, by decide⟩ ht (Or.inr (by unfold g_mu; decide))
    have a3 := m_T h 180 3 rfl ⟨by decide, by decide⟩ ht (Or.inr (by unfold g_mu; decide))
    rw [hi.2.2.1 _ (fun i hi => by omega)] at a2
    rw [hi.2.2.2.2.2 k (by omega), if_neg (by omega)] at a3
    -- the state after 'mild' is set
    have key : ∀ v, v = (if ¬ T.1 2 (4 * b + k) = 0 ∧ m = 0 then (1 : Int) else 0) → pb_b_M_contention_191 x 213 Q [some (.inr 165), some (.inl b), some (.inl (1 - m)), some (.inl (g_best b wn)), some (.inl (4 * b + k))] [.inl v, .inl (4 * b + k), .inr 169] 213 σ := by
      intro v hv
      have h1 := rm_upT (t := 4 * b + (k : Int)) (v := v) h 169 2 rfl ⟨by decide, by decide⟩
      have hv2 : v = 0 ∨ v = 1 := by rw [hv]; split <;> simp
      have fin : ∀ z, z = g_sd T b m wn (4 * b + k) → pb_WJ x i_M_contention 213 Q 156 [some (.inr 165), some (.inl b), some (.inl (1 - m)), some (.inl (g_best b wn)), some (.inl (4 * b + ((k + 1 : Nat) : Int)))] [] 213 (pb_up (pb_up σ 0 169 (4 * b + k) v) 0 180 (4 * b + k) z) := by
        intro z hz
        have h2 := rm_upT (t := 4 * b + (k : Int)) (v := z) h1 180 3 rfl ⟨by decide, by decide⟩
        refine ih (k + 1) (by omega) _ _ h2 ?_
        rw [hz, hv]
        exact hi.step (by omega)
      simp only [pb_b_M_contention_191, pb_b_M_contention_222, pb_b_M_contention_223, pb_iconst, pb_null, pb_iload, pb_aload, pb_istore, pb_astore, pb_iinc, pb_bin, pb_bin0, pb_dup, pb_pop, pb_dup2, pb_if, pb_icmp, pb_ifnull, pb_getI, pb_getR, pb_putI, pb_putZ, pb_putR, pb_alen, pb_ald, pb_aldR, pb_ast, pb_astZ, pb_astR, pb_vret, pb_iret, pb_zret, pb_aret, pb_cv, pb_cr, pb_sr, pb_switch, pb_sw, pb_nth, pb_set, pb_tk, pb_add, pb_sub, List.length_cons, List.length_nil, true_or, or_true, true_and, and_true, and_self, pb_up_same, pb_up_f, ne_eq, Nat.reduceEqDiff, not_false_eq_true, Nat.reduceAdd, Nat.reduceLeDiff, Nat.zero_le, is_M, mf_mild h.1, mk_mild, ml_mild, mf_contends h.1, mk_contends, ml_contends, a3, ht, e, pb_up_p, Int.reduceEq]
      refine ⟨hv2, ?_⟩
      by_cases hcb : g_cb T (4 * b + k) m = true
      · have hwn : ¬ wn = -1 := fun y => hw2 y k (by omega) hcb
        obtain ⟨w1, w2, w3⟩ := hw.resolve_left hwn
        have hc := g_cb_iff.mpr hcb
        rw [if_pos hcb]
        refine ⟨fun z => absurd z (by decide), fun _ => ?_⟩
        have eb : g_best b wn = 4 * b + wn := if_neg hwn
        rw [eb]
        have hu : 0 ≤ 4 * b + wn ∧ 4 * b + wn < 8 := by omega
        have ek : ∀ k' t', k' ≠ 2 → k' ≠ 3 → (gt_set T4 2 (4 * b + k) v).1 k' t' = T.1 k' t' := fun k' t' y1 y2 => (gt_set_k y1).trans (hi.2.1 k' t' y1 y2)
        have er : ∀ t', (gt_set T4 2 (4 * b + k) v).2 t' = T.2 t' := fun t' => congrFun hi.1 t'
        have r1 := g_hd_cons hc.2.1
        have r2 := g_hd_cons w3.2.1
        refine c_M_compared (f := g_hd T (4 * b + k)) (l := (T.2 (4 * b + k)).tail) (f' := g_hd T (4 * b + wn)) (l' := (T.2 (4 * b + wn)).tail) h1 ht hu (by rw [ek _ _ (by decide) (by decide)]; exact hc.1) (by rw [ek _ _ (by decide) (by decide)]; exact w3.1) (by rw [er]; exact r1) (by rw [er]; exact r2) (by rw [ek _ _ (by decide) (by decide)]; exact ha _ _ _ ht.1 ht.2 r1) (by rw [ek _ _ (by decide) (by decide)]; exact ha _ _ _ hu.1 hu.2 r2) ?_
        rw [ek _ _ (by decide) (by decide), ek _ _ (by decide) (by decide)]
        try simp only [pb_b_M_contention_222, pb_b_M_contention_223, pb_iconst, pb_null, pb_iload, pb_aload, pb_istore, pb_astore, pb_iinc, pb_bin, pb_bin0, pb_dup, pb_pop, pb_dup2, pb_if, pb_icmp, pb_ifnull, pb_getI, pb_getR, pb_putI, pb_putZ, pb_putR, pb_alen, pb_ald, pb_aldR, pb_ast, pb_astZ, pb_astR, pb_vret, pb_iret, pb_zret, pb_aret, pb_cv, pb_cr, pb_sr, pb_switch, pb_sw, pb_nth, pb_set, pb_tk, pb_add, pb_sub, List.length_cons, List.length_nil, true_or, or_true, true_and, and_true, and_self, pb_up_same, pb_up_f, ne_eq, Nat.reduceEqDiff, not_false_eq_true, Nat.reduceAdd, Nat.reduceLeDiff, Nat.zero_le, is_M, mf_mild h1.1, mk_mild, ml_mild, mf_contends h1.1, mk_contends, ml_contends, ht, e]
        refine ⟨fun z => ?_, fun z => ?_⟩
        · have := fin 0 (by unfold g_sd; rw [if_neg (fun y => z y.2.2)])
          rw [eb] at this
          exact this
        · have := fin 1 (by unfold g_sd; rw [if_pos ⟨hwn, hcb, Decidable.not_not.mp z⟩])
          rw [eb] at this
          exact this
      · rw [if_neg hcb]
        exact ⟨fun _ => fin 0 (by unfold g_sd; rw [if_neg (fun y => hcb y.2.1)]), fun z => absurd rfl z⟩
    refine pb_s_M_contention_156 x 213 Q _ _ _ _ ?_
    simp only [pb_b_M_contention_156, pb_b_M_contention_190, pb_iconst, pb_null, pb_iload, pb_aload, pb_istore, pb_astore, pb_iinc, pb_bin, pb_bin0, pb_dup, pb_pop, pb_dup2, pb_if, pb_icmp, pb_ifnull, pb_getI, pb_getR, pb_putI, pb_putZ, pb_putR, pb_alen, pb_ald, pb_aldR, pb_ast, pb_astZ, pb_astR, pb_vret, pb_iret, pb_zret, pb_aret, pb_cv, pb_cr, pb_sr, pb_switch, pb_sw, pb_nth, pb_set, pb_tk, pb_add, pb_sub, List.length_cons, List.length_nil, true_or, or_true, true_and, and_true, and_self, pb_up_same, pb_up_f, ne_eq, Nat.reduceEqDiff, not_false_eq_true, Nat.reduceAdd, Nat.reduceLeDiff, Nat.zero_le, is_M, mf_mild h.1, mk_mild, ml_mild, a2, ht, e0, e1]
    refine ⟨fun z => absurd z (by omega), fun _ => ⟨fun z => key 0 (by rw [if_neg (fun y => y.1 z)]), fun z => ⟨fun z2 => key 0 (by rw [if_neg (by omega)]), fun z2 => key 1 (by rw [if_pos ⟨z, by omega⟩])⟩⟩⟩
theorem g_win_none (T : gT) (b m : Int) : ∀ k : Nat, g_win T b m k = -1 → ∀ i : Nat, i < k → ¬ g_cb T (4 * b + i) m = true := by
  intro k
  induction k with
  | zero => exact fun _ i hi => absurd hi (by omega)
  | succ k ih =>
    intro h i hi
    have e : g_win T b m (k + 1) = if g_cb T (4 * b + k) m = true ∧ (g_win T b m k = -1 ∨ cmpT T (4 * b + k) (4 * b + g_win T b m k) < 0) then (k : Int) else g_win T b m k := rfl
    rw [e] at h
    by_cases z : g_cb T (4 * b + k) m = true ∧ (g_win T b m k = -1 ∨ cmpT T (4 * b + k) (4 * b + g_win T b m k) < 0)
    · rw [if_pos z] at h
      omega
    · rw [if_neg z] at h
      by_cases zi : i = k
      · subst zi
        exact fun y => z ⟨y, Or.inl h⟩
      · exact ih h i (by omega)
theorem l_M_cont2 (hb : 0 ≤ b ∧ b < 2) (ha : g_ad T) (hm : m = 0 ∨ m = 1) (hl : ∀ t, 0 ≤ t → t < 8 → T.1 2 t = 0 ∨ T.1 2 t = 1) (hQ : ∀ σ' Tm, RM σ' Tm E w ν → g_i4 T b m (g_win T b m 4) 4 Tm → Q (.inl (g_best b (g_win T b m 4))) σ') : ∀ (d k : Nat), k + d = 4 → ∀ (σ : pb_H) (T4 : gT), RM σ T4 E w ν → g_i3 T b m k T4 → pb_WJ x i_M_contention 213 Q 65 [some (.inr 165), some (.inl b), some (.inl (1 - m)), some (.inl (g_best b (g_win T b m k))), some (.inl (4 * b + k))] [] 213 σ := by
  intro d
  have e0 : pb_mul 4 b = 4 * b := by unfold pb_mul; exact pb_w_id (by unfold pb_R; omega)
  have e1 : pb_w (4 * b + 4) = 4 * b + 4 := pb_w_id (by unfold pb_R; omega)
  induction d with
  | zero =>
    intro k hk σ T4 h hi
    obtain rfl : k = 4 := by omega
    refine pb_s_M_contention_65 x 213 Q _ _ _ _ ?_
    simp only [pb_b_M_contention_65, pb_b_M_contention_151, pb_iconst, pb_null, pb_iload, pb_aload, pb_istore, pb_astore, pb_iinc, pb_bin, pb_bin0, pb_dup, pb_pop, pb_dup2, pb_if, pb_icmp, pb_ifnull, pb_getI, pb_getR, pb_putI, pb_putZ, pb_putR, pb_alen, pb_ald, pb_aldR, pb_ast, pb_astZ, pb_astR, pb_vret, pb_iret, pb_zret, pb_aret, pb_cv, pb_cr, pb_sr, pb_switch, pb_sw, pb_nth, pb_set, pb_tk, pb_add, pb_sub, List.length_cons, List.length_nil, true_or, or_true, true_and, and_true, and_self, pb_up_same, pb_up_f, ne_eq, Nat.reduceEqDiff, not_false_eq_true, Nat.reduceAdd, Nat.reduceLeDiff, Nat.zero_le, e0, e1]
    refine ⟨fun _ => ?_, fun z => absurd z (by omega)⟩
    have := l_M_cont3 (x := x) (Q := Q) hb ha hm (g_win_ok T b m 4) (g_win_none T b m 4) hQ 4 0 rfl σ T4 h hi.to4
    rw [show 4 * b + ((0 : Nat) : Int) = 4 * b by omega] at this
    exact this
  | succ d ih =>
    intro k hk σ T4 h hi
    have ht : 0 ≤ 4 * b + (k : Int) ∧ 4 * b + (k : Int) < 8 := by omega
    have e : pb_w (4 * b + (k : Int) + 1) = 4 * b + ((k + 1 : Nat) : Int) := by rw [pb_w_id (by unfold pb_R; omega)]; omega
    have a1 := m_T h 166 1 rfl ⟨by decide, by decide⟩ ht (Or.inr (by unfold g_mu; decide))
    have a2 := m_T h 169 2 rfl ⟨by decide, by decide⟩ ht (Or.inr (by unfold g_mu; decide))
    have al := (h.2.2.1 _ ht.1 ht.2).1
    rw [hi.2.1 _ _ (by decide)] at a1 a2
    rw [hi.1] at al
    have hl2 := hl _ ht.1 ht.2
    have key : ∀ v, v = (if g_cb T (4 * b + k) m = true then (1 : Int) else 0) → pb_b_M_contention_117 x 213 Q [some (.inr 165), some (.inl b), some (.inl (1 - m)), some (.inl (g_best b (g_win T b m k))), some (.inl (4 * b + k))] [.inl v, .inl (4 * b + k), .inr 180] 213 σ := by
      intro v hv
      have h1 := rm_upT (t := 4 * b + (k : Int)) (v := v) h 180 3 rfl ⟨by decide, by decide⟩
      have hv2 : v = 0 ∨ v = 1 := by rw [hv]; split <;> simp
      have fin : ∀ z, z = g_win T b m (k + 1) → pb_WJ x i_M_contention 213 Q 65 [some (.inr 165), some (.inl b), some (.inl (1 - m)), some (.inl (g_best b z)), some (.inl (4 * b + ((k + 1 : Nat) : Int)))] [] 213 (pb_up σ 0 180 (4 * b + k) v) := by
        intro z hz
        rw [hz]
        refine ih (k + 1) (by omega) _ _ h1 ?_
        rw [hv]
        exact hi.step
      have ew : g_win T b m (k + 1) = if g_cb T (4 * b + k) m = true ∧ (g_win T b m k = -1 ∨ cmpT T (4 * b + k) (4 * b + g_win T b m k) < 0) then (k : Int) else g_win T b m k := rfl
      have ebk : g_best b (k : Int) = 4 * b + k := if_neg (by omega)
      have g1 := fin k
      rw [ebk] at g1
      simp only [pb_b_M_contention_117, pb_b_M_contention_142, pb_b_M_contention_145, pb_iconst, pb_null, pb_iload, pb_aload, pb_istore, pb_astore, pb_iinc, pb_bin, pb_bin0, pb_dup, pb_pop, pb_dup2, pb_if, pb_icmp, pb_ifnull, pb_getI, pb_getR, pb_putI, pb_putZ, pb_putR, pb_alen, pb_ald, pb_aldR, pb_ast, pb_astZ, pb_astR, pb_vret, pb_iret, pb_zret, pb_aret, pb_cv, pb_cr, pb_sr, pb_switch, pb_sw, pb_nth, pb_set, pb_tk, pb_add, pb_sub, List.length_cons, List.length_nil, true_or, or_true, true_and, and_true, and_self, pb_up_same, pb_up_f, ne_eq, Nat.reduceEqDiff, not_false_eq_true, Nat.reduceAdd, Nat.reduceLeDiff, Nat.zero_le, is_M, mf_mild h.1, mk_mild, ml_mild, mf_contends h.1, mk_contends, ml_contends, ht, e]
      refine ⟨hv2, ?_⟩
      by_cases hcb : g_cb T (4 * b + k) m = true
      · rw [if_pos hcb] at hv
        refine ⟨fun z => absurd z (by omega), fun _ => ⟨fun z => ?_, fun z => ?_⟩⟩
        · have hwn : g_win T b m k = -1 := by
            rcases g_win_ok T b m k with y | y
            · exact y
            · unfold g_best at z
              rw [if_neg (by omega)] at z
              omega
          exact g1 (by rw [ew, if_pos ⟨hcb, Or.inl hwn⟩])
        · have hwn : ¬ g_win T b m k = -1 := by
            intro y
            unfold g_best at z
            rw [if_pos y] at z
            omega
          obtain ⟨w1, w2, w3⟩ := (g_win_ok T b m k).resolve_left hwn
          have hc := g_cb_iff.mpr hcb
          have eb : g_best b (g_win T b m k) = 4 * b + g_win T b m k := if_neg hwn
          rw [eb]
          have hu : 0 ≤ 4 * b + g_win T b m k ∧ 4 * b + g_win T b m k < 8 := by omega
          have ek : ∀ k' t', k' ≠ 3 → (gt_set T4 3 (4 * b + k) v).1 k' t' = T.1 k' t' := fun k' t' y1 => (gt_set_k y1).trans (hi.2.1 k' t' y1)
          have er : ∀ t', (gt_set T4 3 (4 * b + k) v).2 t' = T.2 t' := fun t' => congrFun hi.1 t'
          have r1 := g_hd_cons hc.2.1
          have r2 := g_hd_cons w3.2.1
          refine c_M_compared (f := g_hd T (4 * b + k)) (l := (T.2 (4 * b + k)).tail) (f' := g_hd T (4 * b + g_win T b m k)) (l' := (T.2 (4 * b + g_win T b m k)).tail) h1 ht hu (by rw [ek _ _ (by decide)]; exact hc.1) (by rw [ek _ _ (by decide)]; exact w3.1) (by rw [er]; exact r1) (by rw [er]; exact r2) (by rw [ek _ _ (by decide)]; exact ha _ _ _ ht.1 ht.2 r1) (by rw [ek _ _ (by decide)]; exact ha _ _ _ hu.1 hu.2 r2) ?_
          rw [ek _ _ (by decide), ek _ _ (by decide)]
          try simp only [pb_b_M_contention_142, pb_b_M_contention_145, pb_iconst, pb_null, pb_iload, pb_aload, pb_istore, pb_astore, pb_iinc, pb_bin, pb_bin0, pb_dup, pb_pop, pb_dup2, pb_if, pb_icmp, pb_ifnull, pb_getI, pb_getR, pb_putI, pb_putZ, pb_putR, pb_alen, pb_ald, pb_aldR, pb_ast, pb_astZ, pb_astR, pb_vret, pb_iret, pb_zret, pb_aret, pb_cv, pb_cr, pb_sr, pb_switch, pb_sw, pb_nth, pb_set, pb_tk, pb_add, pb_sub, List.length_cons, List.length_nil, true_or, or_true, true_and, and_true, and_self, pb_up_same, pb_up_f, ne_eq, Nat.reduceEqDiff, not_false_eq_true, Nat.reduceAdd, Nat.reduceLeDiff, Nat.zero_le, ht, e]
          have g2 := fin (g_win T b m k)
          rw [eb] at g2
          have ec : cmpF (g_hd T (4 * b + k)) (T.1 14 (4 * b + k)) (g_hd T (4 * b + g_win T b m k)) (T.1 14 (4 * b + g_win T b m k)) = cmpT T (4 * b + k) (4 * b + g_win T b m k) := rfl
          rw [ec]
          refine ⟨fun z2 => g2 (by rw [ew, if_neg (fun y => by omega)]), fun z2 => g1 (by rw [ew, if_pos ⟨hcb, Or.inr (by omega)⟩])⟩
      · rw [if_neg hcb] at hv
        exact ⟨fun _ => fin _ (by rw [ew, if_neg (fun y => hcb y.1)]), fun z => absurd hv z⟩
    refine pb_s_M_contention_65 x 213 Q _ _ _ _ ?_
    simp only [pb_b_M_contention_65, pb_b_M_contention_116, pb_iconst, pb_null, pb_iload, pb_aload, pb_istore, pb_astore, pb_iinc, pb_bin, pb_bin0, pb_dup, pb_pop, pb_dup2, pb_if, pb_icmp, pb_ifnull, pb_getI, pb_getR, pb_putI, pb_putZ, pb_putR, pb_alen, pb_ald, pb_aldR, pb_ast, pb_astZ, pb_astR, pb_vret, pb_iret, pb_zret, pb_aret, pb_cv, pb_cr, pb_sr, pb_switch, pb_sw, pb_nth, pb_set, pb_tk, pb_add, pb_sub, List.length_cons, List.length_nil, true_or, or_true, true_and, and_true, and_self, pb_up_same, pb_up_f, ne_eq, Nat.reduceEqDiff, not_false_eq_true, Nat.reduceAdd, Nat.reduceLeDiff, Nat.zero_le, is_M, mf_there h.1, mk_there, ml_there, mf_length h.1, mk_length, ml_length, mf_mild h.1, mk_mild, ml_mild, mf_contends h.1, mk_contends, ml_contends, a1, a2, al, ht, e0, e1]
    refine ⟨fun z => absurd z (by omega), fun _ => ⟨fun z => key 0 ?_, fun z => ⟨fun z2 => key 0 ?_, fun z2 => ⟨fun z3 => key 0 ?_, fun z3 => key 1 ?_⟩⟩⟩⟩
    · rw [if_neg (fun y => (g_cb_iff.mpr y).1 z)]
    · rw [if_neg (fun y => (g_cb_iff.mpr y).2.1 (List.length_eq_zero_iff.mp (by omega)))]
    · rw [if_neg (fun y => by have := (g_cb_iff.mpr y).2.2; omega)]
    · rw [if_pos (g_cb_iff.mp ⟨z, fun y => z2 (by rw [y]; decide), by omega⟩)]
theorem l_M_cont1 (h : RM σ T E w ν) (hb : 0 ≤ b ∧ b < 2) (ha : g_ad T) (hl : ∀ t, 0 ≤ t → t < 8 → T.1 2 t = 0 ∨ T.1 2 t = 1) (hQ : ∀ σ' Tm, RM σ' Tm E w ν → g_i4 T b (g_asm T b) (g_upW T b) 4 Tm → Q (.inl (g_best b (g_upW T b))) σ') : ∀ (d k : Nat), k + d = 4 → pb_WJ x i_M_contention 213 Q 6 [some (.inr 165), some (.inl b), some (.inl (if g_eager T b k = true then 1 else 0)), some (.inl (4 * b + k)), none] [] 213 σ := by
  intro d
  have e0 : pb_mul 4 b = 4 * b := by unfold pb_mul; exact pb_w_id (by unfold pb_R; omega)
  have e1 : pb_w (4 * b + 4) = 4 * b + 4 := pb_w_id (by unfold pb_R; omega)
  induction d with
  | zero =>
    intro k hk
    obtain rfl : k = 4 := by omega
    refine pb_s_M_contention_6 x 213 Q _ _ _ _ ?_
    simp only [pb_b_M_contention_6, pb_b_M_contention_58, pb_iconst, pb_null, pb_iload, pb_aload, pb_istore, pb_astore, pb_iinc, pb_bin, pb_bin0, pb_dup, pb_pop, pb_dup2, pb_if, pb_icmp, pb_ifnull, pb_getI, pb_getR, pb_putI, pb_putZ, pb_putR, pb_alen, pb_ald, pb_aldR, pb_ast, pb_astZ, pb_astR, pb_vret, pb_iret, pb_zret, pb_aret, pb_cv, pb_cr, pb_sr, pb_switch, pb_sw, pb_nth, pb_set, pb_tk, pb_add, pb_sub, List.length_cons, List.length_nil, true_or, or_true, true_and, and_true, and_self, pb_up_same, pb_up_f, ne_eq, Nat.reduceEqDiff, not_false_eq_true, Nat.reduceAdd, Nat.reduceLeDiff, Nat.zero_le, e0, e1]
    refine ⟨fun _ => ?_, fun z => absurd z (by omega)⟩
    have hm : g_asm T b = 0 ∨ g_asm T b = 1 := by unfold g_asm; split <;> simp
    have := l_M_cont2 (x := x) (Q := Q) (m := g_asm T b) hb ha hm hl hQ 4 0 rfl σ T h g_i3_0
    rw [show 4 * b + ((0 : Nat) : Int) = 4 * b by omega, show g_best b (g_win T b (g_asm T b) 0) = -1 from if_pos rfl, show 1 - g_asm T b = (if g_eager T b 4 = true then 1 else 0) by unfold g_asm; split <;> rfl] at this
    exact this
  | succ d ih =>
    intro k hk
    have ht : 0 ≤ 4 * b + (k : Int) ∧ 4 * b + (k : Int) < 8 := by omega
    have e : pb_w (4 * b + (k : Int) + 1) = 4 * b + ((k + 1 : Nat) : Int) := by rw [pb_w_id (by unfold pb_R; omega)]; omega
    have a1 := m_T h 166 1 rfl ⟨by decide, by decide⟩ ht (Or.inr (by unfold g_mu; decide))
    have a2 := m_T h 169 2 rfl ⟨by decide, by decide⟩ ht (Or.inr (by unfold g_mu; decide))
    have al := (h.2.2.1 _ ht.1 ht.2).1
    have ih2 := ih (k + 1) (by omega)
    have g1 : g_eager T b (k + 1) = true → pb_WJ x i_M_contention 213 Q 6 [some (.inr 165), some (.inl b), some (.inl 1), some (.inl (4 * b + ((k + 1 : Nat) : Int))), none] [] 213 σ := fun y => by rw [if_pos y] at ih2; exact ih2
    have g0 : ¬ g_eager T b (k + 1) = true → pb_WJ x i_M_contention 213 Q 6 [some (.inr 165), some (.inl b), some (.inl 0), some (.inl (4 * b + ((k + 1 : Nat) : Int))), none] [] 213 σ := fun y => by rw [if_neg y] at ih2; exact ih2
    refine pb_s_M_contention_6 x 213 Q _ _ _ _ ?_
    simp only [pb_b_M_contention_6, pb_b_M_contention_46, pb_b_M_contention_50, pb_b_M_contention_51, pb_iconst, pb_null, pb_iload, pb_aload, pb_istore, pb_astore, pb_iinc, pb_bin, pb_bin0, pb_dup, pb_pop, pb_dup2, pb_if, pb_icmp, pb_ifnull, pb_getI, pb_getR, pb_putI, pb_putZ, pb_putR, pb_alen, pb_ald, pb_aldR, pb_ast, pb_astZ, pb_astR, pb_vret, pb_iret, pb_zret, pb_aret, pb_cv, pb_cr, pb_sr, pb_switch, pb_sw, pb_nth, pb_set, pb_tk, pb_add, pb_sub, List.length_cons, List.length_nil, true_or, or_true, true_and, and_true, and_self, pb_up_same, pb_up_f, ne_eq, Nat.reduceEqDiff, not_false_eq_true, Nat.reduceAdd, Nat.reduceLeDiff, Nat.zero_le, is_M, mf_there h.1, mk_there, ml_there, mf_length h.1, mk_length, ml_length, mf_mild h.1, mk_mild, ml_mild, a1, a2, al, ht, e0, e1, e]
    refine ⟨fun z => absurd z (by omega), fun _ => ?_⟩
    by_cases hE : g_eager T b k = true
    · rw [if_pos hE]
      exact ⟨fun _ => g1 (g_ev1 (Or.inl hE)), fun z => absurd z (by decide)⟩
    · rw [if_neg hE]
      refine ⟨fun z => absurd rfl z, fun _ => ⟨fun z => g0 (g_ev0 hE (fun y => y.1 z)), fun z => ⟨fun z2 => g0 (g_ev0 hE (fun y => y.2.1 (List.length_eq_zero_iff.mp (by omega)))), fun z2 => ⟨fun z3 => g0 (g_ev0 hE (fun y => z3 y.2.2)), fun z3 => g1 (g_ev1 (Or.inr ⟨z, fun y => z2 (by rw [y]; decide), Decidable.not_not.mp z3⟩))⟩⟩⟩⟩
theorem c_M_contention (h : RM σ T E w ν) (hb : 0 ≤ b ∧ b < 2) (ha : g_ad T) (hl : ∀ t, 0 ≤ t → t < 8 → T.1 2 t = 0 ∨ T.1 2 t = 1) (hQ : ∀ σ' Tm, RM σ' Tm E w ν → g_i4 T b (g_asm T b) (g_upW T b) 4 Tm → Q (.inl (g_best b (g_upW T b))) σ') : pb_MJ x i_M_contention [.inr 165, .inl b] 213 σ Q := by
  refine pb_m_M_contention ?_
  have e0 : pb_mul 4 b = 4 * b := by unfold pb_mul; exact pb_w_id (by unfold pb_R; omega)
  simp only [pb_b_M_contention_0, pb_iconst, pb_null, pb_iload, pb_aload, pb_istore, pb_astore, pb_iinc, pb_bin, pb_bin0, pb_dup, pb_pop, pb_dup2, pb_if, pb_icmp, pb_ifnull, pb_getI, pb_getR, pb_putI, pb_putZ, pb_putR, pb_alen, pb_ald, pb_aldR, pb_ast, pb_astZ, pb_astR, pb_vret, pb_iret, pb_zret, pb_aret, pb_cv, pb_cr, pb_sr, pb_switch, pb_sw, pb_nth, pb_set, pb_tk, pb_add, pb_sub, List.length_cons, List.length_nil, true_or, or_true, true_and, and_true, and_self, pb_up_same, pb_up_f, ne_eq, Nat.reduceEqDiff, not_false_eq_true, Nat.reduceAdd, Nat.reduceLeDiff, Nat.zero_le, e0]
  have := l_M_cont1 (x := x) (Q := Q) h hb ha hl hQ 4 0 rfl
  rw [show 4 * b + ((0 : Nat) : Int) = 4 * b by omega] at this
  exact this
end MCT
