/-! a bus and its four terminals -/
def g_it (F : gT → Int → gT) (b : Int) (T : gT) : Nat → gT
  | 0 => T
  | k + 1 => F (g_it F b T k) (4 * b + k)
/-- an act upon one terminal leaves the others alone -/
def g_loc (F : gT → Int → gT) : Prop := ∀ T t t', t' ≠ t → (∀ k, (F T t).1 k t' = T.1 k t') ∧ (F T t).2 t' = T.2 t'
theorem g_it_loc {F : gT → Int → gT} (hF : g_loc F) (b : Int) (T : gT) : ∀ (j : Nat) (t : Int), (∀ i : Nat, i < j → t ≠ 4 * b + i) → (∀ k, (g_it F b T j).1 k t = T.1 k t) ∧ (g_it F b T j).2 t = T.2 t
  | 0, t, _ => ⟨fun _ => rfl, rfl⟩
  | j + 1, t, h => by
    have h1 := g_it_loc hF b T j t (fun i hi => h i (by omega))
    have h2 := hF (g_it F b T j) (4 * b + j) t (h j (by omega))
    exact ⟨fun k => (h2.1 k).trans (h1.1 k), h2.2.trans h1.2⟩
theorem l_set (k : Nat) (v : Int) : g_loc (fun T t => gt_set T k t v) := fun T t t' h => ⟨fun k' => g_up_n (fun z => h z.2), rfl⟩
theorem gt_set_l {T : gT} {k k' : Nat} {t t' v : Int} (h : t' ≠ t) : (gt_set T k t v).1 k' t' = T.1 k' t' := g_up_n (fun z => h z.2)
theorem gt_row_l {T : gT} {t t' : Int} {l : List gF} (h : t' ≠ t) : (gt_row T t l).2 t' = T.2 t' := u_up_n h
theorem gt_put_l {T : gT} {t t' : Int} {f : gF} (h : t' ≠ t) : (gt_put T t f).2 t' = T.2 t' := u_up_n h
theorem gt_null_l {T : gT} {k : Nat} {t t' : Int} (h : t' ≠ t) : (gt_null T t).1 k t' = T.1 k t' := by
  unfold gt_null
  rw [gt_set_l h, gt_set_l h]
theorem gt_over_l {T : gT} {t t' d : Int} (h : t' ≠ t) : (∀ k, (gt_over T t d).1 k t' = T.1 k t') ∧ (gt_over T t d).2 t' = T.2 t' := by
  unfold gt_over
  refine ⟨fun k => ?_, ?_⟩
  · rw [gt_set_l h]
    show (gt_set (gt_null (gt_set (gt_row T t []) 4 t 0) t) 5 t d).1 k t' = _
    rw [gt_set_l h, gt_null_l h, gt_set_l h]
    rfl
  · show (gt_put (gt_set (gt_null (gt_set (gt_row T t []) 4 t 0) t) 5 t d) t (7, 0, 0, d, 0)).2 t' = _
    rw [gt_put_l h]
    show (gt_row T t []).2 t' = _
    rw [gt_row_l h]
theorem gt_next_l {T : gT} {t t' : Int} (h : t' ≠ t) : (∀ k, (gt_next T t).1 k t' = T.1 k t') ∧ (gt_next T t).2 t' = T.2 t' := gt_over_l h
theorem l_settle (a : Int) : g_loc (fun T t => gt_settle T t a) := by
  intro T t t' h
  dsimp only
  unfold gt_settle
  split
  · exact ⟨fun _ => rfl, rfl⟩
  · split
    · split
      · split
        · refine ⟨fun k => ((gt_next_l h).1 k).trans rfl, (gt_next_l h).2.trans (gt_row_l h)⟩
        · exact ⟨fun _ => rfl, gt_row_l h⟩
      · exact ⟨fun k => gt_set_l h, gt_row_l h⟩
    · exact ⟨fun _ => rfl, gt_row_l h⟩
def g_settle1 (a : Int) (T : gT) (t : Int) : gT := if T.1 3 t = 0 then T else gt_settle T t a
theorem l_settle1 (a : Int) : g_loc (g_settle1 a) := by
  intro T t t' h
  unfold g_settle1
  split
  · exact ⟨fun _ => rfl, rfl⟩
  · exact l_settle a T t t' h
def g_hear1 (f : gF) (T : gT) (t : Int) : gT := if T.1 1 t = 0 then T else gt_hear T t f
def g_recv1 (f : gF) (d : Int) (T : gT) (t : Int) : gT := if T.1 4 t = f.2.1 then gt_receive T t f d else T
section BU
variable {x : pb_E} {σ : pb_H} {T : gT} {E : gE} {μ : pb_H} {b s : Int} {Q : pb_P} {n : Nat}
theorem c_B_lineOf {a : Int} (h : rc_fin σ) (hb : 0 ≤ b ∧ b < 2) (ha : pb_R a) (h1 : ∀ j, 0 ≤ j → j < 4 → a = 64 + j → Q (.inr (76 + 77 * b + j)) σ) (h0 : ¬ (64 ≤ a ∧ a < 68) → Q (.inr (-1)) σ) : pb_MJ x i_B_lineOf [.inr (3 + 77 * b), .inl a] 213 σ Q := by
  refine pb_m_B_lineOf ?_
  obtain ⟨b1, b2, b3, b4, b5⟩ := is_B hb
  simp only [pb_b_B_lineOf_0, pb_b_B_lineOf_23, pb_b_B_lineOf_24, pb_iconst, pb_null, pb_iload, pb_aload, pb_istore, pb_astore, pb_iinc, pb_bin, pb_bin0, pb_dup, pb_pop, pb_dup2, pb_if, pb_icmp, pb_ifnull, pb_getI, pb_getR, pb_putI, pb_putZ, pb_putR, pb_alen, pb_ald, pb_aldR, pb_ast, pb_astZ, pb_astR, pb_vret, pb_iret, pb_zret, pb_aret, pb_cv, pb_cr, pb_sr, pb_switch, pb_sw, pb_nth, pb_set, pb_tk, pb_add, pb_sub, List.length_cons, List.length_nil, true_or, or_true, true_and, and_true, and_self, pb_up_same, pb_up_f, ne_eq, Nat.reduceEqDiff, not_false_eq_true, Nat.reduceAdd, Nat.reduceLeDiff, Nat.zero_le, b1, b3, b5, (q_bus h hb).2.2.1]
  by_cases hw : 64 ≤ a ∧ a < 68
  · have e : pb_w (a - 64) = a - 64 := pb_w_id (by unfold pb_R; omega)
    rw [e]
    refine ⟨fun z => absurd z (by omega), fun _ => ⟨fun z => absurd z (by omega), fun _ => ⟨⟨by omega, by omega⟩, ?_⟩⟩⟩
    rw [q_line h hb ⟨by omega, by omega⟩]
    exact h1 (a - 64) (by omega) (by omega) (by omega)
  · have e : pb_w (a - 64) < 0 ∨ 4 ≤ pb_w (a - 64) := by
      by_cases h9 : pb_R (a - 64)
      · rw [pb_w_id h9]
        omega
      · have h8 : a - 64 < -2147483648 := by
          unfold pb_R at h9 ha
          omega
        right
        have h7 : pb_w (a - 64) = a - 64 + 4294967296 := by
          have h6 : Int32.ofInt (a - 64) = Int32.ofInt (a - 64 + 4294967296) := by
            rw [Int32.ofInt_add, show Int32.ofInt 4294967296 = 0 by decide, Int32.add_zero]
          unfold pb_w
          rw [h6]
          exact pb_w_id (by unfold pb_R at ha ⊢; omega)
        rw [h7]
        unfold pb_R at ha
        omega
    refine ⟨fun _ => h0 hw, fun e1 => ⟨fun _ => h0 hw, fun e2 => absurd e (by omega)⟩⟩
theorem l_B_countTerminalFrames (h : RT σ T μ) (hb : 0 ≤ b ∧ b < 2) : ∀ (d k : Nat), k + d = 4 → ∀ (v : Int) (o : Option pb_V), (∀ v', v' = (List.range d).foldl (fun a i => pb_w (a + (T.2 (4 * b + ((k + i : Nat) : Int))).length)) v → Q (.inl v') σ) → pb_WJ x i_B_countTerminalFrames 213 Q 13 [some (.inr (3 + 77 * b)), some (.inl v), some (.inr (4 + 77 * b)), some (.inl 4), some (.inl k), o] [] 213 σ := by
  intro d
  obtain ⟨b1, b2, b3, b4, b5⟩ := is_B hb
  induction d with
  | zero =>
    intro k hk v o hQ
    refine pb_s_B_countTerminalFrames_13 x 213 Q _ _ _ _ ?_
    simp only [pb_b_B_countTerminalFrames_0, pb_b_B_countTerminalFrames_13, pb_b_B_countTerminalFrames_42, pb_iconst, pb_null, pb_iload, pb_aload, pb_istore, pb_astore, pb_iinc, pb_bin, pb_bin0, pb_dup, pb_pop, pb_dup2, pb_if, pb_icmp, pb_ifnull, pb_getI, pb_getR, pb_putI, pb_putZ, pb_putR, pb_alen, pb_ald, pb_aldR, pb_ast, pb_astZ, pb_astR, pb_vret, pb_iret, pb_zret, pb_aret, pb_cv, pb_cr, pb_sr, pb_switch, pb_sw, pb_nth, pb_set, pb_tk, pb_add, pb_sub, List.length_cons, List.length_nil, true_or, or_true, true_and, and_true, and_self, pb_up_same, pb_up_f, ne_eq, Nat.reduceEqDiff, not_false_eq_true, Nat.reduceAdd, Nat.reduceLeDiff, Nat.zero_le]
    exact ⟨fun _ => hQ v rfl, fun z => absurd z (by omega)⟩
  | succ d ih =>
    intro k hk v o hQ
    have hs : 0 ≤ (k : Int) ∧ (k : Int) < 4 := ⟨by omega, by omega⟩
    refine pb_s_B_countTerminalFrames_13 x 213 Q _ _ _ _ ?_
    have e : pb_w ((k : Int) + 1) = ((k + 1 : Nat) : Int) := by rw [pb_w_id (by unfold pb_R; omega)]; omega
    simp only [pb_b_B_countTerminalFrames_0, pb_b_B_countTerminalFrames_13, pb_b_B_countTerminalFrames_42, pb_iconst, pb_null, pb_iload, pb_aload, pb_istore, pb_astore, pb_iinc, pb_bin, pb_bin0, pb_dup, pb_pop, pb_dup2, pb_if, pb_icmp, pb_ifnull, pb_getI, pb_getR, pb_putI, pb_putZ, pb_putR, pb_alen, pb_ald, pb_aldR, pb_ast, pb_astZ, pb_astR, pb_vret, pb_iret, pb_zret, pb_aret, pb_cv, pb_cr, pb_sr, pb_switch, pb_sw, pb_nth, pb_set, pb_tk, pb_add, pb_sub, List.length_cons, List.length_nil, true_or, or_true, true_and, and_true, and_self, pb_up_same, pb_up_f, ne_eq, Nat.reduceEqDiff, not_false_eq_true, Nat.reduceAdd, Nat.reduceLeDiff, Nat.zero_le, b1, b2, b4, q_term h.1 hb hs, is_T hb hs, q_row h.1 hb hs, (rwU hb hs).1, (q_rowU h hb hs).2.1, e]
    refine ⟨fun z => absurd z (by omega), fun _ => ⟨hs, ih (k + 1) (by omega) _ _ (fun v' hv' => hQ v' ?_)⟩⟩
    rw [hv', List.range_succ_eq_map, List.foldl_cons, List.foldl_map]
    simp only [Nat.add_zero, Nat.succ_eq_add_one]
    congr 1
    funext a i
    rw [show k + 1 + i = k + (i + 1) by omega]
/-- how many frames wait at a bus's terminals -/
def g_count (T : gT) (b : Int) : Int := (List.range 4).foldl (fun a i => pb_w (a + (T.2 (4 * b + ((0 + i : Nat) : Int))).length)) 0
theorem c_B_countTerminalFrames (h : RT σ T μ) (hb : 0 ≤ b ∧ b < 2) (hQ : Q (.inl (g_count T b)) σ) : pb_MJ x i_B_countTerminalFrames [.inr (3 + 77 * b)] 213 σ Q := by
  refine pb_m_B_countTerminalFrames ?_
  obtain ⟨b1, b2, b3, b4, b5⟩ := is_B hb
  simp only [pb_b_B_countTerminalFrames_0, pb_b_B_countTerminalFrames_13, pb_b_B_countTerminalFrames_42, pb_iconst, pb_null, pb_iload, pb_aload, pb_istore, pb_astore, pb_iinc, pb_bin, pb_bin0, pb_dup, pb_pop, pb_dup2, pb_if, pb_icmp, pb_ifnull, pb_getI, pb_getR, pb_putI, pb_putZ, pb_putR, pb_alen, pb_ald, pb_aldR, pb_ast, pb_astZ, pb_astR, pb_vret, pb_iret, pb_zret, pb_aret, pb_cv, pb_cr, pb_sr, pb_switch, pb_sw, pb_nth, pb_set, pb_tk, pb_add, pb_sub, List.length_cons, List.length_nil, true_or, or_true, true_and, and_true, and_self, pb_up_same, pb_up_f, ne_eq, Nat.reduceEqDiff, not_false_eq_true, Nat.reduceAdd, Nat.reduceLeDiff, Nat.zero_le, b1, b2, b4, (q_bus h.1 hb).2.1]
  exact l_B_countTerminalFrames h hb 4 0 rfl 0 none (fun v' hv' => by rw [hv']; exact hQ)
theorem l_B_settleSenders {a : Int} (hb : 0 ≤ b ∧ b < 2) (hne : ∀ s : Int, 0 ≤ s → s < 4 → ¬ T.1 3 (4 * b + s) = 0 → ¬ T.2 (4 * b + s) = []) (hQ : ∀ σ', RT σ' (g_it (g_settle1 a) b T 4) μ → Q (.inl 0) σ') : ∀ (d k : Nat), k + d = 4 → ∀ (σ : pb_H) (o : Option pb_V), RT σ (g_it (g_settle1 a) b T k) μ → pb_WJ x i_B_settleSenders 213 Q 11 [some (.inr (3 + 77 * b)), some (.inl a), some (.inr (4 + 77 * b)), some (.inl 4), some (.inl k), o] [] 213 σ := by
  intro d
  obtain ⟨b1, b2, b3, b4, b5⟩ := is_B hb
  induction d with
  | zero =>
    intro k hk σ o h
    obtain rfl : k = 4 := by omega
    refine pb_s_B_settleSenders_11 x 213 Q _ _ _ _ ?_
    simp only [pb_b_B_settleSenders_0, pb_b_B_settleSenders_11, pb_b_B_settleSenders_37, pb_b_B_settleSenders_43, pb_iconst, pb_null, pb_iload, pb_aload, pb_istore, pb_astore, pb_iinc, pb_bin, pb_bin0, pb_dup, pb_pop, pb_dup2, pb_if, pb_icmp, pb_ifnull, pb_getI, pb_getR, pb_putI, pb_putZ, pb_putR, pb_alen, pb_ald, pb_aldR, pb_ast, pb_astZ, pb_astR, pb_vret, pb_iret, pb_zret, pb_aret, pb_cv, pb_cr, pb_sr, pb_switch, pb_sw, pb_nth, pb_set, pb_tk, pb_add, pb_sub, List.length_cons, List.length_nil, true_or, or_true, true_and, and_true, and_self, pb_up_same, pb_up_f, ne_eq, Nat.reduceEqDiff, not_false_eq_true, Nat.reduceAdd, Nat.reduceLeDiff, Nat.zero_le]
    exact ⟨fun _ => hQ _ h, fun z => absurd z (by omega)⟩
  | succ d ih =>
    intro k hk σ o h
    have hs : 0 ≤ (k : Int) ∧ (k : Int) < 4 := ⟨by omega, by omega⟩
    refine pb_s_B_settleSenders_11 x 213 Q _ _ _ _ ?_
    have e : pb_w ((k : Int) + 1) = ((k + 1 : Nat) : Int) := by rw [pb_w_id (by unfold pb_R; omega)]; omega
    have hloc := g_it_loc (l_settle1 a) b T k (4 * b + k) (fun i hi => by omega)
    have h3 := q_T h hb hs 404 3 rfl ⟨by decide, by decide⟩
    simp only [pb_b_B_settleSenders_0, pb_b_B_settleSenders_11, pb_b_B_settleSenders_37, pb_b_B_settleSenders_43, pb_iconst, pb_null, pb_iload, pb_aload, pb_istore, pb_astore, pb_iinc, pb_bin, pb_bin0, pb_dup, pb_pop, pb_dup2, pb_if, pb_icmp, pb_ifnull, pb_getI, pb_getR, pb_putI, pb_putZ, pb_putR, pb_alen, pb_ald, pb_aldR, pb_ast, pb_astZ, pb_astR, pb_vret, pb_iret, pb_zret, pb_aret, pb_cv, pb_cr, pb_sr, pb_switch, pb_sw, pb_nth, pb_set, pb_tk, pb_add, pb_sub, List.length_cons, List.length_nil, true_or, or_true, true_and, and_true, and_self, pb_up_same, pb_up_f, ne_eq, Nat.reduceEqDiff, not_false_eq_true, Nat.reduceAdd, Nat.reduceLeDiff, Nat.zero_le, b1, b2, b4, q_term h.1 hb hs, is_T hb hs, h3, e]
    refine ⟨fun z => absurd z (by omega), fun _ => ⟨hs, fun z => ?_, fun z => ?_⟩⟩
    · refine ih (k + 1) (by omega) _ _ ?_
      rw [show g_it (g_settle1 a) b T (k + 1) = g_it (g_settle1 a) b T k from if_pos z]
      exact h
    · have hn := hne k hs.1 hs.2 (by rw [← hloc.1 3]; exact z)
      rw [← hloc.2] at hn
      obtain ⟨f, l, hfl⟩ := List.exists_cons_of_ne_nil hn
      refine c_T_settle h hb hs hfl (fun σ' h' => ih (k + 1) (by omega) _ _ ?_)
      show RT σ' (g_settle1 a (g_it (g_settle1 a) b T k) (4 * b + k)) μ
      rw [show g_settle1 a (g_it (g_settle1 a) b T k) (4 * b + k) = gt_settle (g_it (g_settle1 a) b T k) (4 * b + k) a from if_neg z]
      exact h'
theorem c_B_settleSenders {a : Int} (h : RT σ T μ) (hb : 0 ≤ b ∧ b < 2) (hne : ∀ s : Int, 0 ≤ s → s < 4 → ¬ T.1 3 (4 * b + s) = 0 → ¬ T.2 (4 * b + s) = []) (hQ : ∀ σ', RT σ' (g_it (g_settle1 a) b T 4) μ → Q (.inl 0) σ') : pb_MJ x i_B_settleSenders [.inr (3 + 77 * b), .inl a] 213 σ Q := by
  refine pb_m_B_settleSenders ?_
  obtain ⟨b1, b2, b3, b4, b5⟩ := is_B hb
  simp only [pb_b_B_settleSenders_0, pb_b_B_settleSenders_11, pb_b_B_settleSenders_37, pb_b_B_settleSenders_43, pb_iconst, pb_null, pb_iload, pb_aload, pb_istore, pb_astore, pb_iinc, pb_bin, pb_bin0, pb_dup, pb_pop, pb_dup2, pb_if, pb_icmp, pb_ifnull, pb_getI, pb_getR, pb_putI, pb_putZ, pb_putR, pb_alen, pb_ald, pb_aldR, pb_ast, pb_astZ, pb_astR, pb_vret, pb_iret, pb_zret, pb_aret, pb_cv, pb_cr, pb_sr, pb_switch, pb_sw, pb_nth, pb_set, pb_tk, pb_add, pb_sub, List.length_cons, List.length_nil, true_or, or_true, true_and, and_true, and_self, pb_up_same, pb_up_f, ne_eq, Nat.reduceEqDiff, not_false_eq_true, Nat.reduceAdd, Nat.reduceLeDiff, Nat.zero_le, b1, b2, b4, (q_bus h.1 hb).2.1]
  exact l_B_settleSenders hb hne hQ 4 0 rfl σ none h
theorem l_B_sendToAll {q : Int} {f : gF} (hb : 0 ≤ b ∧ b < 2) (hq : pb_is 3 213 q) (hd : (6 ≤ q ∧ q ≤ 31) ∨ (83 ≤ q ∧ q ≤ 108)) (hf : g_fr μ q = f) (hQ : ∀ σ', RT σ' (g_it (g_hear1 f) b T 4) μ → Q (.inl 0) σ') : ∀ (d k : Nat), k + d = 4 → ∀ (σ : pb_H) (o : Option pb_V), RT σ (g_it (g_hear1 f) b T k) μ → pb_WJ x i_B_sendToAll 213 Q 11 [some (.inr (3 + 77 * b)), some (.inr q), some (.inr (4 + 77 * b)), some (.inl 4), some (.inl k), o] [] 213 σ := by
  intro d
  obtain ⟨b1, b2, b3, b4, b5⟩ := is_B hb
  induction d with
  | zero =>
    intro k hk σ o h
    obtain rfl : k = 4 := by omega
    refine pb_s_B_sendToAll_11 x 213 Q _ _ _ _ ?_
    simp only [pb_b_B_sendToAll_0, pb_b_B_sendToAll_11, pb_b_B_sendToAll_37, pb_b_B_sendToAll_43, pb_iconst, pb_null, pb_iload, pb_aload, pb_istore, pb_astore, pb_iinc, pb_bin, pb_bin0, pb_dup, pb_pop, pb_dup2, pb_if, pb_icmp, pb_ifnull, pb_getI, pb_getR, pb_putI, pb_putZ, pb_putR, pb_alen, pb_ald, pb_aldR, pb_ast, pb_astZ, pb_astR, pb_vret, pb_iret, pb_zret, pb_aret, pb_cv, pb_cr, pb_sr, pb_switch, pb_sw, pb_nth, pb_set, pb_tk, pb_add, pb_sub, List.length_cons, List.length_nil, true_or, or_true, true_and, and_true, and_self, pb_up_same, pb_up_f, ne_eq, Nat.reduceEqDiff, not_false_eq_true, Nat.reduceAdd, Nat.reduceLeDiff, Nat.zero_le]
    exact ⟨fun _ => hQ _ h, fun z => absurd z (by omega)⟩
  | succ d ih =>
    intro k hk σ o h
    have hs : 0 ≤ (k : Int) ∧ (k : Int) < 4 := ⟨by omega, by omega⟩
    refine pb_s_B_sendToAll_11 x 213 Q _ _ _ _ ?_
    have e : pb_w ((k : Int) + 1) = ((k + 1 : Nat) : Int) := by rw [pb_w_id (by unfold pb_R; omega)]; omega
    have h3 := q_T h hb hs 402 1 rfl ⟨by decide, by decide⟩
    simp only [pb_b_B_sendToAll_0, pb_b_B_sendToAll_11, pb_b_B_sendToAll_37, pb_b_B_sendToAll_43, pb_iconst, pb_null, pb_iload, pb_aload, pb_istore, pb_astore, pb_iinc, pb_bin, pb_bin0, pb_dup, pb_pop, pb_dup2, pb_if, pb_icmp, pb_ifnull, pb_getI, pb_getR, pb_putI, pb_putZ, pb_putR, pb_alen, pb_ald, pb_aldR, pb_ast, pb_astZ, pb_astR, pb_vret, pb_iret, pb_zret, pb_aret, pb_cv, pb_cr, pb_sr, pb_switch, pb_sw, pb_nth, pb_set, pb_tk, pb_add, pb_sub, List.length_cons, List.length_nil, true_or, or_true, true_and, and_true, and_self, pb_up_same, pb_up_f, ne_eq, Nat.reduceEqDiff, not_false_eq_true, Nat.reduceAdd, Nat.reduceLeDiff, Nat.zero_le, b1, b2, b4, q_term h.1 hb hs, is_T hb hs, h3, e]
    refine ⟨fun z => absurd z (by omega), fun _ => ⟨hs, fun z => ?_, fun z => ?_⟩⟩
    · refine ih (k + 1) (by omega) _ _ ?_
      rw [show g_it (g_hear1 f) b T (k + 1) = g_it (g_hear1 f) b T k from if_pos z]
      exact h
    · refine c_T_hear h hb hs hq hd hf (fun σ' h' => ih (k + 1) (by omega) _ _ ?_)
      rw [show g_it (g_hear1 f) b T (k + 1) = gt_hear (g_it (g_hear1 f) b T k) (4 * b + k) f from if_neg z]
      exact h'
theorem c_B_sendToAll {q : Int} {f : gF} (h : RT σ T μ) (hb : 0 ≤ b ∧ b < 2) (hq : pb_is 3 213 q) (hd : (6 ≤ q ∧ q ≤ 31) ∨ (83 ≤ q ∧ q ≤ 108)) (hf : g_fr μ q = f) (hQ : ∀ σ', RT σ' (g_it (g_hear1 f) b T 4) μ → Q (.inl 0) σ') : pb_MJ x i_B_sendToAll [.inr (3 + 77 * b), .inr q] 213 σ Q := by
  refine pb_m_B_sendToAll ?_
  obtain ⟨b1, b2, b3, b4, b5⟩ := is_B hb
  simp only [pb_b_B_sendToAll_0, pb_b_B_sendToAll_11, pb_b_B_sendToAll_37, pb_b_B_sendToAll_43, pb_iconst, pb_null, pb_iload, pb_aload, pb_istore, pb_astore, pb_iinc, pb_bin, pb_bin0, pb_dup, pb_pop, pb_dup2, pb_if, pb_icmp, pb_ifnull, pb_getI, pb_getR, pb_putI, pb_putZ, pb_putR, pb_alen, pb_ald, pb_aldR, pb_ast, pb_astZ, pb_astR, pb_vret, pb_iret, pb_zret, pb_aret, pb_cv, pb_cr, pb_sr, pb_switch, pb_sw, pb_nth, pb_set, pb_tk, pb_add, pb_sub, List.length_cons, List.length_nil, true_or, or_true, true_and, and_true, and_self, pb_up_same, pb_up_f, ne_eq, Nat.reduceEqDiff, not_false_eq_true, Nat.reduceAdd, Nat.reduceLeDiff, Nat.zero_le, b1, b2, b4, (q_bus h.1 hb).2.1]
  exact l_B_sendToAll hb hq hd hf hQ 4 0 rfl σ none h
/-- has any of the first terminals the address? -/
def g_any (T : gT) (b a : Int) : Nat → Int
  | 0 => 0
  | k + 1 => if T.1 4 (4 * b + k) = a then 1 else g_any T b a k
theorem l_B_sendToAddress {q t : Int} {f : gF} (hb : 0 ≤ b ∧ b < 2) (hq : pb_is 3 213 q) (hd : (6 ≤ q ∧ q ≤ 31) ∨ (83 ≤ q ∧ q ≤ 108)) (hf : g_fr μ q = f) (hl : g_loc (g_recv1 f t)) (hQ : ∀ σ', RT σ' (g_it (g_recv1 f t) b T 4) μ → Q (.inl (g_any T b f.2.1 4)) σ') : ∀ (d k : Nat), k + d = 4 → ∀ (σ : pb_H) (o : Option pb_V), RT σ (g_it (g_recv1 f t) b T k) μ → pb_WJ x i_B_sendToAddress 213 Q 16 [some (.inr (3 + 77 * b)), some (.inr q), some (.inl t), some (.inl (g_any T b f.2.1 k)), some (.inr (4 + 77 * b)), some (.inl 4), some (.inl k), o] [] 213 σ := by
  intro d
  obtain ⟨b1, b2, b3, b4, b5⟩ := is_B hb
  have h01 : ∀ k, g_any T b f.2.1 k = 0 ∨ g_any T b f.2.1 k = 1 := by
    intro k
    induction k with
    | zero => exact Or.inl rfl
    | succ k ih =>
      unfold g_any
      split
      · exact Or.inr rfl
      · exact ih
  induction d with
  | zero =>
    intro k hk σ o h
    obtain rfl : k = 4 := by omega
    refine pb_s_B_sendToAddress_16 x 213 Q _ _ _ _ ?_
    simp only [pb_b_B_sendToAddress_0, pb_b_B_sendToAddress_16, pb_b_B_sendToAddress_51, pb_b_B_sendToAddress_57, pb_iconst, pb_null, pb_iload, pb_aload, pb_istore, pb_astore, pb_iinc, pb_bin, pb_bin0, pb_dup, pb_pop, pb_dup2, pb_if, pb_icmp, pb_ifnull, pb_getI, pb_getR, pb_putI, pb_putZ, pb_putR, pb_alen, pb_ald, pb_aldR, pb_ast, pb_astZ, pb_astR, pb_vret, pb_iret, pb_zret, pb_aret, pb_cv, pb_cr, pb_sr, pb_switch, pb_sw, pb_nth, pb_set, pb_tk, pb_add, pb_sub, List.length_cons, List.length_nil, true_or, or_true, true_and, and_true, and_self, pb_up_same, pb_up_f, ne_eq, Nat.reduceEqDiff, not_false_eq_true, Nat.reduceAdd, Nat.reduceLeDiff, Nat.zero_le]
    exact ⟨fun _ => ⟨h01 4, hQ _ h⟩, fun z => absurd z (by omega)⟩
  | succ d ih =>
    intro k hk σ o h
    have hs : 0 ≤ (k : Int) ∧ (k : Int) < 4 := ⟨by omega, by omega⟩
    refine pb_s_B_sendToAddress_16 x 213 Q _ _ _ _ ?_
    have e : pb_w ((k : Int) + 1) = ((k + 1 : Nat) : Int) := by rw [pb_w_id (by unfold pb_R; omega)]; omega
    have h3 := q_T h hb hs 405 4 rfl ⟨by decide, by decide⟩
    have hloc := g_it_loc hl b T k (4 * b + k) (fun i hi => by omega)
    have ea : g_any T b f.2.1 (k + 1) = if T.1 4 (4 * b + k) = f.2.1 then 1 else g_any T b f.2.1 k := rfl
    simp only [pb_b_B_sendToAddress_0, pb_b_B_sendToAddress_16, pb_b_B_sendToAddress_51, pb_b_B_sendToAddress_57, pb_iconst, pb_null, pb_iload, pb_aload, pb_istore, pb_astore, pb_iinc, pb_bin, pb_bin0, pb_dup, pb_pop, pb_dup2, pb_if, pb_icmp, pb_ifnull, pb_getI, pb_getR, pb_putI, pb_putZ, pb_putR, pb_alen, pb_ald, pb_aldR, pb_ast, pb_astZ, pb_astR, pb_vret, pb_iret, pb_zret, pb_aret, pb_cv, pb_cr, pb_sr, pb_switch, pb_sw, pb_nth, pb_set, pb_tk, pb_add, pb_sub, List.length_cons, List.length_nil, true_or, or_true, true_and, and_true, and_self, pb_up_same, pb_up_f, ne_eq, Nat.reduceEqDiff, not_false_eq_true, Nat.reduceAdd, Nat.reduceLeDiff, Nat.zero_le, b1, b2, b4, q_term h.1 hb hs, is_T hb hs, hq, h3, (q_F h hd hf).2.1, e]
    refine ⟨fun z => absurd z (by omega), fun _ => ⟨hs, fun z => ?_, fun z => ?_⟩⟩
    · have := ih (k + 1) (by omega) σ (some (.inr (32 + 77 * b + 11 * (k : Int)))) (by
        rw [show g_it (g_recv1 f t) b T (k + 1) = g_it (g_recv1 f t) b T k from if_neg z]
        exact h)
      rw [ea, if_neg (by rw [← hloc.1 4]; exact z)] at this
      exact this
    · refine c_T_receive h hb hs hq hd hf (fun σ' h' => ?_)
      have := ih (k + 1) (by omega) σ' (some (.inr (32 + 77 * b + 11 * (k : Int)))) (by
        rw [show g_it (g_recv1 f t) b T (k + 1) = gt_receive (g_it (g_recv1 f t) b T k) (4 * b + k) f t from if_pos (Decidable.not_not.mp z)]
        exact h')
      rw [ea, if_pos (by rw [← hloc.1 4]; exact Decidable.not_not.mp z)] at this
      exact this
end BU
