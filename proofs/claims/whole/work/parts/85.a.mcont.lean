/-! who sends up -/
def g_best (b w : Int) : Int := if w = -1 then -1 else 4 * b + w
def g_sd (T : gT) (b m w : Int) (t : Int) : Int := if ¬ w = -1 ∧ g_cb T t m = true ∧ cmpT T t (4 * b + w) = 0 then 1 else 0
def g_i3 (T : gT) (b m : Int) (k : Nat) (T3 : gT) : Prop := T3.2 = T.2 ∧ (∀ k' t, k' ≠ 3 → T3.1 k' t = T.1 k' t) ∧ (∀ t, (∀ i : Nat, i < k → t ≠ 4 * b + i) → T3.1 3 t = T.1 3 t) ∧ ∀ i : Nat, i < k → T3.1 3 (4 * b + i) = if g_cb T (4 * b + i) m = true then 1 else 0
def g_i4 (T : gT) (b m w : Int) (k : Nat) (T4 : gT) : Prop := T4.2 = T.2 ∧ (∀ k' t, k' ≠ 2 → k' ≠ 3 → T4.1 k' t = T.1 k' t) ∧ (∀ t, (∀ i : Nat, i < k → t ≠ 4 * b + i) → T4.1 2 t = T.1 2 t) ∧ (∀ t, (∀ i : Nat, i < 4 → t ≠ 4 * b + i) → T4.1 3 t = T.1 3 t) ∧ (∀ i : Nat, i < k → T4.1 2 (4 * b + i) = if ¬ T.1 2 (4 * b + i) = 0 ∧ m = 0 then 1 else 0) ∧ ∀ i : Nat, i < 4 → T4.1 3 (4 * b + i) = if i < k then g_sd T b m w (4 * b + i) else if g_cb T (4 * b + i) m = true then 1 else 0
def g_ad (T : gT) : Prop := ∀ t f l, 0 ≤ t → t < 8 → T.2 t = f :: l → f.2.1 = if f.1 = 7 then 0 else T.1 4 t
section MCT
variable {x : pb_E} {σ σ' : pb_H} {T T3 : gT} {E E' : gE} {w : Nat → Int} {ν : pb_H} {b s t u m : Int} {Q : pb_P} {k : Nat}
theorem g_i3_0 : g_i3 T b m 0 T := ⟨rfl, fun _ _ _ => rfl, fun _ _ => rfl, fun i hi => absurd hi (by omega)⟩
theorem g_i3.step (h : g_i3 T b m k T3) : g_i3 T b m (k + 1) (gt_set T3 3 (4 * b + k) (if g_cb T (4 * b + k) m = true then 1 else 0)) := by
  obtain ⟨h1, h2, h3, h4⟩ := h
  refine ⟨h1, fun k' t hk => (gt_set_k hk).trans (h2 k' t hk), fun t ht => (gt_set_l (ht k (by omega))).trans (h3 t (fun i hi => ht i (by omega))), fun i hi => ?_⟩
  by_cases z : i = k
  · subst z
    exact g_up_s _ _ _ _
  · exact (gt_set_l (by omega)).trans (h4 i (by omega))
theorem g_i3.to4 {wn : Int} (h : g_i3 T b m 4 T3) : g_i4 T b m wn 0 T3 := by
  obtain ⟨h1, h2, h3, h4⟩ := h
  refine ⟨h1, fun k' t _ hk => h2 k' t hk, fun t _ => h2 2 t (by decide), h3, fun i hi => absurd hi (by omega), fun i hi => ?_⟩
  rw [if_neg (by omega)]
  exact h4 i hi
theorem g_i4.step {wn : Int} (h : g_i4 T b m wn k T3) (hk : k < 4) : g_i4 T b m wn (k + 1) (gt_set (gt_set T3 2 (4 * b + k) (if ¬ T.1 2 (4 * b + k) = 0 ∧ m = 0 then 1 else 0)) 3 (4 * b + k) (g_sd T b m wn (4 * b + k))) := by
  obtain ⟨h1, h2, h3, h4, h5, h6⟩ := h
  refine ⟨h1, fun k' t z2 z3 => (gt_set_k z3).trans ((gt_set_k z2).trans (h2 k' t z2 z3)), fun t ht => (gt_set_l (ht k (by omega))).trans ((gt_set_l (ht k (by omega))).trans (h3 t (fun i hi => ht i (by omega)))), fun t ht => (gt_set_l (ht k (by omega))).trans ((gt_set_l (ht k (by omega))).trans (h4 t ht)), fun i hi => ?_, fun i hi => ?_⟩
  · rw [gt_set_k (by decide)]
    by_cases z : i = k
    · subst z
      exact g_up_s _ _ _ _
    · exact (gt_set_l (by omega)).trans (h5 i (by omega))
  · by_cases z : i = k
    · subst z
      rw [if_pos (show i < i + 1 by omega)]
      exact g_up_s _ _ _ _
    · rw [gt_set_l (by omega), gt_set_l (by omega), h6 i hi]
      by_cases z2 : i < k
      · rw [if_pos z2, if_pos (show i < k + 1 by omega)]
      · rw [if_neg z2, if_neg (show ¬ i < k + 1 by omega)]
theorem g_ev1 (h : g_eager T b k = true ∨ g_con T (4 * b + k) 0) : g_eager T b (k + 1) = true := by
  show (g_eager T b k || g_cb T (4 * b + k) 0) = true
  rw [Bool.or_eq_true]
  exact h.imp id g_cb_iff.mp
theorem g_ev0 (h1 : ¬ g_eager T b k = true) (h2 : ¬ g_con T (4 * b + k) 0) : ¬ g_eager T b (k + 1) = true := by
  show ¬ (g_eager T b k || g_cb T (4 * b + k) 0) = true
  rw [Bool.or_eq_true]
  exact fun z => z.elim h1 (fun y => h2 (g_cb_iff.mpr y))
theorem l_M_cont3 {wn : Int} (hb : 0 ≤ b ∧ b < 2) (ha : g_ad T) (hm : m = 0 ∨ m = 1) (hw : wn = -1 ∨ (0 ≤ wn ∧ wn < 4 ∧ g_con T (4 * b + wn) m)) (hw2 : wn = -1 → ∀ i : Nat, i < 4 → ¬ g_cb T (4 * b + i) m = true) (hQ : ∀ σ' Tm, RM σ' Tm E w ν → g_i4 T b m wn 4 Tm → Q (.inl (g_best b wn)) σ') : ∀ (d k : Nat), k + d = 4 → ∀ (σ : pb_H) (T4 : gT), RM σ T4 E w ν → g_i4 T b m wn k T4 → pb_WJ x i_M_contention 213 Q 156 [some (.inr 165), some (.inl b), some (.inl (1 - m)), some (.inl (g_best b wn)), some (.inl (4 * b + k))] [] 213 σ := by
  intro d
  have e0 : pb_mul 4 b = 4 * b := by unfold pb_mul; exact pb_w_id (by unfold pb_R; omega)
  have e1 : pb_w (4 * b + 4) = 4 * b + 4 := pb_w_id (by unfold pb_R; omega)
  induction d with
  | zero =>
    intro k hk σ T4 h hi
    obtain rfl : k = 4 := by omega
    refine pb_s_M_contention_156 x 213 Q _ _ _ _ ?_
    simp only [pb_b_M_contention_156, pb_b_M_contention_230, pb_iconst, pb_null, pb_iload, pb_aload, pb_istore, pb_astore, pb_iinc, pb_bin, pb_bin0, pb_dup, pb_pop, pb_dup2, pb_if, pb_icmp, pb_ifnull, pb_getI, pb_getR, pb_putI, pb_putZ, pb_putR, pb_alen, pb_ald, pb_aldR, pb_ast, pb_astZ, pb_astR, pb_vret, pb_iret, pb_zret, pb_aret, pb_cv, pb_cr, pb_sr, pb_switch, pb_sw, pb_nth, pb_set, pb_tk, pb_add, pb_sub, List.length_cons, List.length_nil, true_or, or_true, true_and, and_true, and_self, pb_up_same, pb_up_f, ne_eq, Nat.reduceEqDiff, not_false_eq_true, Nat.reduceAdd, Nat.reduceLeDiff, Nat.zero_le, e0, e1]
    exact ⟨fun _ => hQ _ _ h hi, fun z => absurd z (by omega)⟩
  | succ d ih =>
    intro k hk σ T4 h hi
    have ht : 0 ≤ 4 * b + (k : Int) ∧ 4 * b + (k : Int) < 8 := by omega
    have e : pb_w (4 * b + (k : Int) + 1) = 4 * b + ((k + 1 : Nat) : Int) := by rw [pb_w_id (by unfold pb_R; omega)]; omega
    have a2 := m_T h 169 2 rfl ⟨by decide, by decide⟩ ht (Or.inr (by unfold g_mu; decide))
    have a3 := m_T h 180 3 rfl ⟨by decide, by decide⟩ ht (Or.inr (by unfold g_mu; decide))
    rw [hi.2.2.1 _ (fun i hi => by omega)] at a2
    rw [hi.2.2.2.2.2 k (by omega), if_neg (by omega)] at a3
    -- the state after 'mild' is set
    have key : ∀ v, v = (if ¬ T.1 2 (4 * b + k) = 0 ∧ m = 0 then (1 : Int) else 0) → pb_b_M_contention_191 x 213 Q [some (.inr 165), some (.inl b), some (.inl (1 - m)), some (.inl (g_best b wn)), some (.inl (4 * b + k))] [.inl v, .inl (4 * b + k), .inr 169] 213 σ := by
      intro v hv
      have h1 := rm_upT (t := 4 * b + (k : Int)) (v := v) h 169 2 rfl ⟨by decide, by decide⟩
      have hv2 : v = 0 ∨ v = 1 := by rw [hv]; split <;> simp
      have fin : ∀ z, z = g_sd T b m wn (4 * b + k) → pb_WJ x i_M_contention 213 Q 156 [some (.inr 165), some (.inl b), some (.inl (1 - m)), some (.inl (g_best b wn)), some (.inl (4 * b + ((k + 1 : Nat) : Int)))] [] 213 (pb_up (pb_up σ 0 169 (4 * b + k) v) 0 180 (4 * b + k) z) := by
        intro z hz
        have h2 := rm_upT (t := 4 * b + (k : Int)) (v := z) h1 180 3 rfl ⟨by decide, by decide⟩
        refine ih (k + 1) (by omega) _ _ h2 ?_
        rw [hz, hv]
        exact hi.step (by omega)
      simp only [pb_b_M_contention_191, pb_b_M_contention_222, pb_b_M_contention_223, pb_iconst, pb_null, pb_iload, pb_aload, pb_istore, pb_astore, pb_iinc, pb_bin, pb_bin0, pb_dup, pb_pop, pb_dup2, pb_if, pb_icmp, pb_ifnull, pb_getI, pb_getR, pb_putI, pb_putZ, pb_putR, pb_alen, pb_ald, pb_aldR, pb_ast, pb_astZ, pb_astR, pb_vret, pb_iret, pb_zret, pb_aret, pb_cv, pb_cr, pb_sr, pb_switch, pb_sw, pb_nth, pb_set, pb_tk, pb_add, pb_sub, List.length_cons, List.length_nil, true_or, or_true, true_and, and_true, and_self, pb_up_same, pb_up_f, ne_eq, Nat.reduceEqDiff, not_false_eq_true, Nat.reduceAdd, Nat.reduceLeDiff, Nat.zero_le, is_M, mf_mild h.1, mk_mild, ml_mild, mf_contends h.1, mk_contends, ml_contends, a3, ht, e, pb_up_p, Int.reduceEq]
      refine ⟨hv2, ?_⟩
      by_cases hcb : g_cb T (4 * b + k) m = true
      · have hwn : ¬ wn = -1 := fun y => hw2 y k (by omega) hcb
        obtain ⟨w1, w2, w3⟩ := hw.resolve_left hwn
        have hc := g_cb_iff.mpr hcb
        rw [if_pos hcb]
        refine ⟨fun z => absurd z (by decide), fun _ => ?_⟩
        have eb : g_best b wn = 4 * b + wn := if_neg hwn
        rw [eb]
        have hu : 0 ≤ 4 * b + wn ∧ 4 * b + wn < 8 := by omega
        have ek : ∀ k' t', k' ≠ 2 → k' ≠ 3 → (gt_set T4 2 (4 * b + k) v).1 k' t' = T.1 k' t' := fun k' t' y1 y2 => (gt_set_k y1).trans (hi.2.1 k' t' y1 y2)
        have er : ∀ t', (gt_set T4 2 (4 * b + k) v).2 t' = T.2 t' := fun t' => congrFun hi.1 t'
        have r1 := g_hd_cons hc.2.1
        have r2 := g_hd_cons w3.2.1
        refine c_M_compared (f := g_hd T (4 * b + k)) (l := (T.2 (4 * b + k)).tail) (f' := g_hd T (4 * b + wn)) (l' := (T.2 (4 * b + wn)).tail) h1 ht hu (by rw [ek _ _ (by decide) (by decide)]; exact hc.1) (by rw [ek _ _ (by decide) (by decide)]; exact w3.1) (by rw [er]; exact r1) (by rw [er]; exact r2) (by rw [ek _ _ (by decide) (by decide)]; exact ha _ _ _ ht.1 ht.2 r1) (by rw [ek _ _ (by decide) (by decide)]; exact ha _ _ _ hu.1 hu.2 r2) ?_
        rw [ek _ _ (by decide) (by decide), ek _ _ (by decide) (by decide)]
        try simp only [pb_b_M_contention_222, pb_b_M_contention_223, pb_iconst, pb_null, pb_iload, pb_aload, pb_istore, pb_astore, pb_iinc, pb_bin, pb_bin0, pb_dup, pb_pop, pb_dup2, pb_if, pb_icmp, pb_ifnull, pb_getI, pb_getR, pb_putI, pb_putZ, pb_putR, pb_alen, pb_ald, pb_aldR, pb_ast, pb_astZ, pb_astR, pb_vret, pb_iret, pb_zret, pb_aret, pb_cv, pb_cr, pb_sr, pb_switch, pb_sw, pb_nth, pb_set, pb_tk, pb_add, pb_sub, List.length_cons, List.length_nil, true_or, or_true, true_and, and_true, and_self, pb_up_same, pb_up_f, ne_eq, Nat.reduceEqDiff, not_false_eq_true, Nat.reduceAdd, Nat.reduceLeDiff, Nat.zero_le, is_M, mf_mild h1.1, mk_mild, ml_mild, mf_contends h1.1, mk_contends, ml_contends, ht, e]
        refine ⟨fun z => ?_, fun z => ?_⟩
        · have := fin 0 (by unfold g_sd; rw [if_neg (fun y => z y.2.2)])
          rw [eb] at this
          exact this
        · have := fin 1 (by unfold g_sd; rw [if_pos ⟨hwn, hcb, Decidable.not_not.mp z⟩])
          rw [eb] at this
          exact this
      · rw [if_neg hcb]
        exact ⟨fun _ => fin 0 (by unfold g_sd; rw [if_neg (fun y => hcb y.2.1)]), fun z => absurd rfl z⟩
    refine pb_s_M_contention_156 x 213 Q _ _ _ _ ?_
    simp only [pb_b_M_contention_156, pb_b_M_contention_190, pb_iconst, pb_null, pb_iload, pb_aload, pb_istore, pb_astore, pb_iinc, pb_bin, pb_bin0, pb_dup, pb_pop, pb_dup2, pb_if, pb_icmp, pb_ifnull, pb_getI, pb_getR, pb_putI, pb_putZ, pb_putR, pb_alen, pb_ald, pb_aldR, pb_ast, pb_astZ, pb_astR, pb_vret, pb_iret, pb_zret, pb_aret, pb_cv, pb_cr, pb_sr, pb_switch, pb_sw, pb_nth, pb_set, pb_tk, pb_add, pb_sub, List.length_cons, List.length_nil, true_or, or_true, true_and, and_true, and_self, pb_up_same, pb_up_f, ne_eq, Nat.reduceEqDiff, not_false_eq_true, Nat.reduceAdd, Nat.reduceLeDiff, Nat.zero_le, is_M, mf_mild h.1, mk_mild, ml_mild, a2, ht, e0, e1]
    refine ⟨fun z => absurd z (by omega), fun _ => ⟨fun z => key 0 (by rw [if_neg (fun y => y.1 z)]), fun z => ⟨fun z2 => key 0 (by rw [if_neg (by omega)]), fun z2 => key 1 (by rw [if_pos ⟨z, by omega⟩])⟩⟩⟩
end MCT
