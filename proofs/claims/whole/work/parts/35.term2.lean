/-! terminals, with their first frames -/
section TN
variable {x : pb_E} {σ : pb_H} {T : gT} {E : gE} {μ : pb_H} {b s : Int} {Q : pb_P} {n : Nat}
theorem g_row.first {r cap : Int} {f : gF} {l : List gF} (hr : g_rw r cap) (h : g_row σ r cap (f :: l)) : pb_is 3 213 (σ 0 (r + 1) 0) ∧ g_fr σ (σ 0 (r + 1) 0) = f ∧ r + 2 ≤ σ 0 (r + 1) 0 ∧ σ 0 (r + 1) 0 < r + 2 + cap := by
  have h1 := h.2.2.2.1 0 (by omega) hr.2.2.2.1
  exact ⟨hr.2.2.2.2.2 _ h1.1 h1.2, h.2.2.2.2.2 0 f rfl, h1⟩
theorem c_first {r cap : Int} {f : gF} {l : List gF} (hr : g_rw r cap) (h : g_row σ r cap (f :: l)) (hQ : Q (.inr (σ 0 (r + 1) 0)) σ) : pb_MJ x i_R_first [.inr r] 213 σ Q := by
  refine c_R_first hr.1 (by rw [h.1]; exact hr.2.1) (by rw [h.1, hr.2.2.1]; exact hr.2.2.2.1) ?_
  rw [h.1]
  exact hQ
theorem g_row.fail {r cap v : Int} {f : gF} {l : List gF} (hr : g_rw r cap) (h : g_row σ r cap (f :: l)) : g_row (pb_up σ 305 (σ 0 (r + 1) 0) 0 v) r cap ((f.1, f.2.1, f.2.2.1, f.2.2.2.1, v) :: l) ∧ g_off σ (pb_up σ 305 (σ 0 (r + 1) 0) 0 v) r cap := by
  have hf := h.first hr
  obtain ⟨h1, h2, h3, h4, h5, h6⟩ := h
  have hc := hr.2.2.2.1
  refine ⟨⟨by rw [pb_up_f (by decide)]; exact h1, by rw [pb_up_f (by decide)]; exact h2, h3, fun i a c => by rw [pb_up_f (by decide)]; exact h4 i a c, fun i j a c d e g => h5 i j a c d e (by rw [pb_up_f (by decide), pb_up_f (by decide)] at g; exact g), fun i f' hi => ?_⟩, (g_off.rf σ r cap).up (Or.inr (Or.inl ⟨by omega, by omega, hf.2.2⟩))⟩
  cases i with
  | zero =>
    simp only [List.getElem?_cons_zero, Option.some.injEq] at hi
    subst hi
    have h7 := hf.2.1
    unfold g_fr at h7 ⊢
    rw [pb_up_f (by decide), pb_up_f (by decide), pb_up_f (by decide), pb_up_f (by decide), pb_up_f (by decide)]
    show (_, _, _, _, pb_up σ 305 (σ 0 (r + 1) 0) 0 v 305 (σ 0 (r + 1) 0) 0) = _
    rw [pb_up_same, ← h7]
    rfl
  | succ i =>
    have hl := g_lt hi
    have h8 := h6 (i + 1) f' hi
    have hne : σ 0 (r + 1) ((i + 1 : Nat) : Int) ≠ σ 0 (r + 1) 0 := by
      intro h9
      have h3' : ((f :: l).length : Int) ≤ cap := h3
      simp only [List.length_cons] at hl h3'
      have := h5 ((i + 1 : Nat) : Int) 0 (by omega) (by omega) (by omega) (by omega) h9
      omega
    unfold g_fr at h8 ⊢
    rw [pb_up_f (f' := 0) (by decide), pb_up_p hne, pb_up_p hne, pb_up_p hne, pb_up_p hne, pb_up_p hne]
    exact h8
theorem g_fr1 {q : Int} {f : gF} (h : g_fr σ q = f) : σ 301 q 0 = f.1 ∧ σ 302 q 0 = f.2.1 ∧ σ 303 q 0 = f.2.2.1 ∧ σ 304 q 0 = f.2.2.2.1 ∧ σ 305 q 0 = f.2.2.2.2 := by
  subst h
  exact ⟨rfl, rfl, rfl, rfl, rfl⟩
theorem c_num {q : Int} {f : gF} (hq : pb_is 3 n q) (hf : g_fr σ q = f) (h1 : f.1 ≤ 6 → Q (.inl 1) σ) (h0 : ¬ f.1 ≤ 6 → Q (.inl 0) σ) : pb_MJ x i_F_isNumbered [.inr q] n σ Q := by
  refine c_F_isNumbered hq ?_
  rw [(g_fr1 hf).1]
  by_cases h : f.1 ≤ 6
  · rw [if_pos h]
    exact h1 h
  · rw [if_neg h]
    exact h0 h
theorem c_T_compareFirst {b' s' : Int} {f f' : gF} {l l' : List gF} (h : RT σ T μ) (hb : 0 ≤ b ∧ b < 2) (hs : 0 ≤ s ∧ s < 4) (hb' : 0 ≤ b' ∧ b' < 2) (hs' : 0 ≤ s' ∧ s' < 4) (hf : T.2 (4 * b + s) = f :: l) (hf' : T.2 (4 * b' + s') = f' :: l') (hQ : Q (.inl (cmpF f (T.1 14 (4 * b + s)) f' (T.1 14 (4 * b' + s')))) σ) : pb_MJ x i_T_compareFirst [.inr (32 + 77 * b + 11 * s), .inr (32 + 77 * b' + 11 * s')] 213 σ Q := by
  have hr := q_rowU h hb hs
  rw [hf] at hr
  have hr' := q_rowU h hb' hs'
  rw [hf'] at hr'
  obtain ⟨i1, i2, -⟩ := hr.first (rwU hb hs)
  obtain ⟨j1, j2, -⟩ := hr'.first (rwU hb' hs')
  refine pb_m_T_compareFirst ?_
  simp only [pb_b_T_compareFirst_0, pb_b_T_compareFirst_38, pb_b_T_compareFirst_39, pb_b_T_compareFirst_40, pb_b_T_compareFirst_63, pb_b_T_compareFirst_68, pb_iconst, pb_null, pb_iload, pb_aload, pb_istore, pb_astore, pb_iinc, pb_bin, pb_bin0, pb_dup, pb_pop, pb_dup2, pb_if, pb_icmp, pb_ifnull, pb_getI, pb_getR, pb_putI, pb_putZ, pb_putR, pb_alen, pb_ald, pb_aldR, pb_ast, pb_astZ, pb_astR, pb_vret, pb_iret, pb_zret, pb_aret, pb_cv, pb_cr, pb_sr, pb_switch, pb_sw, pb_nth, pb_set, pb_tk, pb_add, pb_sub, List.length_cons, List.length_nil, true_or, or_true, true_and, and_true, and_self, pb_up_same, pb_up_f, ne_eq, Nat.reduceEqDiff, not_false_eq_true, Nat.reduceAdd, Nat.reduceLeDiff, Nat.zero_le, is_T hb hs, is_T hb' hs', q_row h.1 hb hs, q_row h.1 hb' hs', (rwU hb hs).1, (rwU hb' hs').1]
  refine c_first (rwU hb hs) hr ?_
  try simp only [pb_iconst, pb_null, pb_iload, pb_aload, pb_istore, pb_astore, pb_iinc, pb_bin, pb_bin0, pb_dup, pb_pop, pb_dup2, pb_if, pb_icmp, pb_ifnull, pb_getI, pb_getR, pb_putI, pb_putZ, pb_putR, pb_alen, pb_ald, pb_aldR, pb_ast, pb_astZ, pb_astR, pb_vret, pb_iret, pb_zret, pb_aret, pb_cv, pb_cr, pb_sr, pb_switch, pb_sw, pb_nth, pb_set, pb_tk, pb_add, pb_sub, List.length_cons, List.length_nil, true_or, or_true, true_and, and_true, and_self, pb_up_same, pb_up_f, ne_eq, Nat.reduceEqDiff, not_false_eq_true, Nat.reduceAdd, Nat.reduceLeDiff, Nat.zero_le, is_T hb hs, is_T hb' hs', q_row h.1 hb hs, q_row h.1 hb' hs', (rwU hb hs).1, (rwU hb' hs').1]
  refine c_first (rwU hb' hs') hr' ?_
  try simp only [pb_iconst, pb_null, pb_iload, pb_aload, pb_istore, pb_astore, pb_iinc, pb_bin, pb_bin0, pb_dup, pb_pop, pb_dup2, pb_if, pb_icmp, pb_ifnull, pb_getI, pb_getR, pb_putI, pb_putZ, pb_putR, pb_alen, pb_ald, pb_aldR, pb_ast, pb_astZ, pb_astR, pb_vret, pb_iret, pb_zret, pb_aret, pb_cv, pb_cr, pb_sr, pb_switch, pb_sw, pb_nth, pb_set, pb_tk, pb_add, pb_sub, List.length_cons, List.length_nil, true_or, or_true, true_and, and_true, and_self, pb_up_same, pb_up_f, ne_eq, Nat.reduceEqDiff, not_false_eq_true, Nat.reduceAdd, Nat.reduceLeDiff, Nat.zero_le, i1, j1]
  unfold cmpF at hQ
  refine c_num i1 i2 (fun k1 => ?_) (fun k1 => ?_)
  · rw [if_pos k1] at hQ
    try simp only [pb_iconst, pb_null, pb_iload, pb_aload, pb_istore, pb_astore, pb_iinc, pb_bin, pb_bin0, pb_dup, pb_pop, pb_dup2, pb_if, pb_icmp, pb_ifnull, pb_getI, pb_getR, pb_putI, pb_putZ, pb_putR, pb_alen, pb_ald, pb_aldR, pb_ast, pb_astZ, pb_astR, pb_vret, pb_iret, pb_zret, pb_aret, pb_cv, pb_cr, pb_sr, pb_switch, pb_sw, pb_nth, pb_set, pb_tk, pb_add, pb_sub, List.length_cons, List.length_nil, true_or, or_true, true_and, and_true, and_self, pb_up_same, pb_up_f, ne_eq, Nat.reduceEqDiff, not_false_eq_true, Nat.reduceAdd, Nat.reduceLeDiff, Nat.zero_le, i1, j1]
    refine c_num j1 j2 (fun k2 => ?_) (fun k2 => ?_)
    · rw [if_pos k2] at hQ
      try simp only [pb_iconst, pb_null, pb_iload, pb_aload, pb_istore, pb_astore, pb_iinc, pb_bin, pb_bin0, pb_dup, pb_pop, pb_dup2, pb_if, pb_icmp, pb_ifnull, pb_getI, pb_getR, pb_putI, pb_putZ, pb_putR, pb_alen, pb_ald, pb_aldR, pb_ast, pb_astZ, pb_astR, pb_vret, pb_iret, pb_zret, pb_aret, pb_cv, pb_cr, pb_sr, pb_switch, pb_sw, pb_nth, pb_set, pb_tk, pb_add, pb_sub, List.length_cons, List.length_nil, true_or, or_true, true_and, and_true, and_self, pb_up_same, pb_up_f, ne_eq, Nat.reduceEqDiff, not_false_eq_true, Nat.reduceAdd, Nat.reduceLeDiff, Nat.zero_le, i1, j1]
      refine ⟨fun _ => c_num i1 i2 (fun _ => ?_) (fun k3 => absurd k1 k3), fun z => by simp at z⟩
      try simp only [pb_iconst, pb_null, pb_iload, pb_aload, pb_istore, pb_astore, pb_iinc, pb_bin, pb_bin0, pb_dup, pb_pop, pb_dup2, pb_if, pb_icmp, pb_ifnull, pb_getI, pb_getR, pb_putI, pb_putZ, pb_putR, pb_alen, pb_ald, pb_aldR, pb_ast, pb_astZ, pb_astR, pb_vret, pb_iret, pb_zret, pb_aret, pb_cv, pb_cr, pb_sr, pb_switch, pb_sw, pb_nth, pb_set, pb_tk, pb_add, pb_sub, List.length_cons, List.length_nil, true_or, or_true, true_and, and_true, and_self, pb_up_same, pb_up_f, ne_eq, Nat.reduceEqDiff, not_false_eq_true, Nat.reduceAdd, Nat.reduceLeDiff, Nat.zero_le, i1, j1, q_T h hb hs 415 14 rfl ⟨by decide, by decide⟩, q_T h hb' hs' 415 14 rfl ⟨by decide, by decide⟩, is_T hb hs, is_T hb' hs']
      refine ⟨fun z => by simp at z, fun _ => c_F_compareNumbered i1 j1 ?_⟩
      rw [i2, j2]
      exact hQ
    · rw [if_neg k2] at hQ
      try simp only [pb_iconst, pb_null, pb_iload, pb_aload, pb_istore, pb_astore, pb_iinc, pb_bin, pb_bin0, pb_dup, pb_pop, pb_dup2, pb_if, pb_icmp, pb_ifnull, pb_getI, pb_getR, pb_putI, pb_putZ, pb_putR, pb_alen, pb_ald, pb_aldR, pb_ast, pb_astZ, pb_astR, pb_vret, pb_iret, pb_zret, pb_aret, pb_cv, pb_cr, pb_sr, pb_switch, pb_sw, pb_nth, pb_set, pb_tk, pb_add, pb_sub, List.length_cons, List.length_nil, true_or, or_true, true_and, and_true, and_self, pb_up_same, pb_up_f, ne_eq, Nat.reduceEqDiff, not_false_eq_true, Nat.reduceAdd, Nat.reduceLeDiff, Nat.zero_le, i1, j1]
      refine ⟨fun z => by simp at z, fun _ => c_num i1 i2 (fun _ => ?_) (fun k3 => absurd k1 k3)⟩
      try simp only [pb_iconst, pb_null, pb_iload, pb_aload, pb_istore, pb_astore, pb_iinc, pb_bin, pb_bin0, pb_dup, pb_pop, pb_dup2, pb_if, pb_icmp, pb_ifnull, pb_getI, pb_getR, pb_putI, pb_putZ, pb_putR, pb_alen, pb_ald, pb_aldR, pb_ast, pb_astZ, pb_astR, pb_vret, pb_iret, pb_zret, pb_aret, pb_cv, pb_cr, pb_sr, pb_switch, pb_sw, pb_nth, pb_set, pb_tk, pb_add, pb_sub, List.length_cons, List.length_nil, true_or, or_true, true_and, and_true, and_self, pb_up_same, pb_up_f, ne_eq, Nat.reduceEqDiff, not_false_eq_true, Nat.reduceAdd, Nat.reduceLeDiff, Nat.zero_le]
      exact ⟨fun z => by simp at z, fun _ => hQ⟩
  · rw [if_neg k1] at hQ
    try simp only [pb_iconst, pb_null, pb_iload, pb_aload, pb_istore, pb_astore, pb_iinc, pb_bin, pb_bin0, pb_dup, pb_pop, pb_dup2, pb_if, pb_icmp, pb_ifnull, pb_getI, pb_getR, pb_putI, pb_putZ, pb_putR, pb_alen, pb_ald, pb_aldR, pb_ast, pb_astZ, pb_astR, pb_vret, pb_iret, pb_zret, pb_aret, pb_cv, pb_cr, pb_sr, pb_switch, pb_sw, pb_nth, pb_set, pb_tk, pb_add, pb_sub, List.length_cons, List.length_nil, true_or, or_true, true_and, and_true, and_self, pb_up_same, pb_up_f, ne_eq, Nat.reduceEqDiff, not_false_eq_true, Nat.reduceAdd, Nat.reduceLeDiff, Nat.zero_le, i1, j1]
    refine c_num j1 j2 (fun k2 => ?_) (fun k2 => ?_)
    · rw [if_pos k2] at hQ
      try simp only [pb_iconst, pb_null, pb_iload, pb_aload, pb_istore, pb_astore, pb_iinc, pb_bin, pb_bin0, pb_dup, pb_pop, pb_dup2, pb_if, pb_icmp, pb_ifnull, pb_getI, pb_getR, pb_putI, pb_putZ, pb_putR, pb_alen, pb_ald, pb_aldR, pb_ast, pb_astZ, pb_astR, pb_vret, pb_iret, pb_zret, pb_aret, pb_cv, pb_cr, pb_sr, pb_switch, pb_sw, pb_nth, pb_set, pb_tk, pb_add, pb_sub, List.length_cons, List.length_nil, true_or, or_true, true_and, and_true, and_self, pb_up_same, pb_up_f, ne_eq, Nat.reduceEqDiff, not_false_eq_true, Nat.reduceAdd, Nat.reduceLeDiff, Nat.zero_le, i1, j1]
      refine ⟨fun z => by simp at z, fun _ => c_num i1 i2 (fun k3 => absurd k3 k1) (fun _ => ?_)⟩
      try simp only [pb_iconst, pb_null, pb_iload, pb_aload, pb_istore, pb_astore, pb_iinc, pb_bin, pb_bin0, pb_dup, pb_pop, pb_dup2, pb_if, pb_icmp, pb_ifnull, pb_getI, pb_getR, pb_putI, pb_putZ, pb_putR, pb_alen, pb_ald, pb_aldR, pb_ast, pb_astZ, pb_astR, pb_vret, pb_iret, pb_zret, pb_aret, pb_cv, pb_cr, pb_sr, pb_switch, pb_sw, pb_nth, pb_set, pb_tk, pb_add, pb_sub, List.length_cons, List.length_nil, true_or, or_true, true_and, and_true, and_self, pb_up_same, pb_up_f, ne_eq, Nat.reduceEqDiff, not_false_eq_true, Nat.reduceAdd, Nat.reduceLeDiff, Nat.zero_le]
      exact ⟨fun _ => hQ, fun z => by simp at z⟩
    · rw [if_neg k2] at hQ
      try simp only [pb_iconst, pb_null, pb_iload, pb_aload, pb_istore, pb_astore, pb_iinc, pb_bin, pb_bin0, pb_dup, pb_pop, pb_dup2, pb_if, pb_icmp, pb_ifnull, pb_getI, pb_getR, pb_putI, pb_putZ, pb_putR, pb_alen, pb_ald, pb_aldR, pb_ast, pb_astZ, pb_astR, pb_vret, pb_iret, pb_zret, pb_aret, pb_cv, pb_cr, pb_sr, pb_switch, pb_sw, pb_nth, pb_set, pb_tk, pb_add, pb_sub, List.length_cons, List.length_nil, true_or, or_true, true_and, and_true, and_self, pb_up_same, pb_up_f, ne_eq, Nat.reduceEqDiff, not_false_eq_true, Nat.reduceAdd, Nat.reduceLeDiff, Nat.zero_le, i1, j1]
      refine ⟨fun _ => c_num i1 i2 (fun k3 => absurd k3 k1) (fun _ => ?_), fun z => by simp at z⟩
      try simp only [pb_iconst, pb_null, pb_iload, pb_aload, pb_istore, pb_astore, pb_iinc, pb_bin, pb_bin0, pb_dup, pb_pop, pb_dup2, pb_if, pb_icmp, pb_ifnull, pb_getI, pb_getR, pb_putI, pb_putZ, pb_putR, pb_alen, pb_ald, pb_aldR, pb_ast, pb_astZ, pb_astR, pb_vret, pb_iret, pb_zret, pb_aret, pb_cv, pb_cr, pb_sr, pb_switch, pb_sw, pb_nth, pb_set, pb_tk, pb_add, pb_sub, List.length_cons, List.length_nil, true_or, or_true, true_and, and_true, and_self, pb_up_same, pb_up_f, ne_eq, Nat.reduceEqDiff, not_false_eq_true, Nat.reduceAdd, Nat.reduceLeDiff, Nat.zero_le, i1, j1]
      refine ⟨fun _ => c_F_compareLoose i1 j1 ?_, fun z => by simp at z⟩
      rw [i2, j2]
      exact hQ
/-- what a sender does when its frame has been sent -/
def gt_settle (T : gT) (t a : Int) : gT := match T.2 t with
  | [] => T
  | f :: l => if f.1 ≤ 6 then (if a = 0 then (if 3 ≤ pb_w (f.2.2.2.2 + 1) then gt_next (gt_row T t ((f.1, f.2.1, f.2.2.1, f.2.2.2.1, pb_w (f.2.2.2.2 + 1)) :: l)) t else gt_row T t ((f.1, f.2.1, f.2.2.1, f.2.2.2.1, pb_w (f.2.2.2.2 + 1)) :: l)) else gt_set (gt_row T t l) 14 t (pb_w (1 - T.1 14 t))) else gt_row T t l
theorem c_T_settle {f : gF} {l : List gF} {a : Int} (h : RT σ T μ) (hb : 0 ≤ b ∧ b < 2) (hs : 0 ≤ s ∧ s < 4) (hf : T.2 (4 * b + s) = f :: l) (hQ : ∀ σ', RT σ' (gt_settle T (4 * b + s) a) μ → Q (.inl 0) σ') : pb_MJ x i_T_settle [.inr (32 + 77 * b + 11 * s), .inl a] 213 σ Q := by
  have hr := q_rowU h hb hs
  rw [hf] at hr
  obtain ⟨i1, i2, i3⟩ := hr.first (rwU hb hs)
  unfold gt_settle at hQ
  rw [hf] at hQ
  dsimp only at hQ
  refine pb_m_T_settle ?_
  simp only [pb_b_T_settle_0, pb_b_T_settle_23, pb_b_T_settle_47, pb_b_T_settle_64, pb_iconst, pb_null, pb_iload, pb_aload, pb_istore, pb_astore, pb_iinc, pb_bin, pb_bin0, pb_dup, pb_pop, pb_dup2, pb_if, pb_icmp, pb_ifnull, pb_getI, pb_getR, pb_putI, pb_putZ, pb_putR, pb_alen, pb_ald, pb_aldR, pb_ast, pb_astZ, pb_astR, pb_vret, pb_iret, pb_zret, pb_aret, pb_cv, pb_cr, pb_sr, pb_switch, pb_sw, pb_nth, pb_set, pb_tk, pb_add, pb_sub, List.length_cons, List.length_nil, true_or, or_true, true_and, and_true, and_self, pb_up_same, pb_up_f, ne_eq, Nat.reduceEqDiff, not_false_eq_true, Nat.reduceAdd, Nat.reduceLeDiff, Nat.zero_le, is_T hb hs, q_row h.1 hb hs, (rwU hb hs).1]
  refine c_first (rwU hb hs) hr ?_
  try simp only [pb_iconst, pb_null, pb_iload, pb_aload, pb_istore, pb_astore, pb_iinc, pb_bin, pb_bin0, pb_dup, pb_pop, pb_dup2, pb_if, pb_icmp, pb_ifnull, pb_getI, pb_getR, pb_putI, pb_putZ, pb_putR, pb_alen, pb_ald, pb_aldR, pb_ast, pb_astZ, pb_astR, pb_vret, pb_iret, pb_zret, pb_aret, pb_cv, pb_cr, pb_sr, pb_switch, pb_sw, pb_nth, pb_set, pb_tk, pb_add, pb_sub, List.length_cons, List.length_nil, true_or, or_true, true_and, and_true, and_self, pb_up_same, pb_up_f, ne_eq, Nat.reduceEqDiff, not_false_eq_true, Nat.reduceAdd, Nat.reduceLeDiff, Nat.zero_le, i1]
  refine c_num i1 i2 (fun k1 => ?_) (fun k1 => ?_)
  · rw [if_pos k1] at hQ
    try simp only [pb_iconst, pb_null, pb_iload, pb_aload, pb_istore, pb_astore, pb_iinc, pb_bin, pb_bin0, pb_dup, pb_pop, pb_dup2, pb_if, pb_icmp, pb_ifnull, pb_getI, pb_getR, pb_putI, pb_putZ, pb_putR, pb_alen, pb_ald, pb_aldR, pb_ast, pb_astZ, pb_astR, pb_vret, pb_iret, pb_zret, pb_aret, pb_cv, pb_cr, pb_sr, pb_switch, pb_sw, pb_nth, pb_set, pb_tk, pb_add, pb_sub, List.length_cons, List.length_nil, true_or, or_true, true_and, and_true, and_self, pb_up_same, pb_up_f, ne_eq, Nat.reduceEqDiff, not_false_eq_true, Nat.reduceAdd, Nat.reduceLeDiff, Nat.zero_le, is_T hb hs, q_row h.1 hb hs, (rwU hb hs).1]
    refine ⟨fun _ => ⟨fun a0 => ?_, fun a1 => ?_⟩, fun z => by simp at z⟩
    · rw [if_pos a0] at hQ
      refine c_first (rwU hb hs) hr ?_
      try simp only [pb_iconst, pb_null, pb_iload, pb_aload, pb_istore, pb_astore, pb_iinc, pb_bin, pb_bin0, pb_dup, pb_pop, pb_dup2, pb_if, pb_icmp, pb_ifnull, pb_getI, pb_getR, pb_putI, pb_putZ, pb_putR, pb_alen, pb_ald, pb_aldR, pb_ast, pb_astZ, pb_astR, pb_vret, pb_iret, pb_zret, pb_aret, pb_cv, pb_cr, pb_sr, pb_switch, pb_sw, pb_nth, pb_set, pb_tk, pb_add, pb_sub, List.length_cons, List.length_nil, true_or, or_true, true_and, and_true, and_self, pb_up_same, pb_up_f, ne_eq, Nat.reduceEqDiff, not_false_eq_true, Nat.reduceAdd, Nat.reduceLeDiff, Nat.zero_le, i1]
      refine c_F_failsForGood i1 ?_
      try simp only [pb_iconst, pb_null, pb_iload, pb_aload, pb_istore, pb_astore, pb_iinc, pb_bin, pb_bin0, pb_dup, pb_pop, pb_dup2, pb_if, pb_icmp, pb_ifnull, pb_getI, pb_getR, pb_putI, pb_putZ, pb_putR, pb_alen, pb_ald, pb_aldR, pb_ast, pb_astZ, pb_astR, pb_vret, pb_iret, pb_zret, pb_aret, pb_cv, pb_cr, pb_sr, pb_switch, pb_sw, pb_nth, pb_set, pb_tk, pb_add, pb_sub, List.length_cons, List.length_nil, true_or, or_true, true_and, and_true, and_self, pb_up_same, pb_up_f, ne_eq, Nat.reduceEqDiff, not_false_eq_true, Nat.reduceAdd, Nat.reduceLeDiff, Nat.zero_le, is_T hb hs]
      have hfl := hr.fail (v := pb_w (f.2.2.2.2 + 1)) (rwU hb hs)
      rw [(g_fr1 i2).2.2.2.2]
      have h2 := rt_rowU h hb hs hfl.1 hfl.2
      by_cases k3 : 3 ≤ pb_w (f.2.2.2.2 + 1)
      · rw [if_pos k3] at hQ ⊢
        exact ⟨fun z => by simp at z, fun _ => c_T_startOverWithNextDraw h2 hb hs hQ⟩
      · rw [if_neg k3] at hQ ⊢
        exact ⟨fun _ => hQ _ h2, fun z => by simp at z⟩
    · rw [if_neg a1] at hQ
      refine c_popU h hb hs (fun σ1 h1 => ?_)
      rw [hf] at h1
      simp only [q_T h1 hb hs 402 1 rfl ⟨by decide, by decide⟩, q_T h1 hb hs 403 2 rfl ⟨by decide, by decide⟩, q_T h1 hb hs 404 3 rfl ⟨by decide, by decide⟩, q_T h1 hb hs 405 4 rfl ⟨by decide, by decide⟩, q_T h1 hb hs 406 5 rfl ⟨by decide, by decide⟩, q_T h1 hb hs 407 6 rfl ⟨by decide, by decide⟩, q_T h1 hb hs 408 7 rfl ⟨by decide, by decide⟩, q_T h1 hb hs 409 8 rfl ⟨by decide, by decide⟩, q_T h1 hb hs 410 9 rfl ⟨by decide, by decide⟩, q_T h1 hb hs 411 10 rfl ⟨by decide, by decide⟩, q_T h1 hb hs 412 11 rfl ⟨by decide, by decide⟩, q_T h1 hb hs 413 12 rfl ⟨by decide, by decide⟩, q_T h1 hb hs 414 13 rfl ⟨by decide, by decide⟩, q_T h1 hb hs 415 14 rfl ⟨by decide, by decide⟩, q_T h1 hb hs 416 15 rfl ⟨by decide, by decide⟩]
      exact hQ _ (r_T h1 hb hs 415 14 rfl ⟨by decide, by decide⟩ _)
  · rw [if_neg k1] at hQ
    try simp only [pb_iconst, pb_null, pb_iload, pb_aload, pb_istore, pb_astore, pb_iinc, pb_bin, pb_bin0, pb_dup, pb_pop, pb_dup2, pb_if, pb_icmp, pb_ifnull, pb_getI, pb_getR, pb_putI, pb_putZ, pb_putR, pb_alen, pb_ald, pb_aldR, pb_ast, pb_astZ, pb_astR, pb_vret, pb_iret, pb_zret, pb_aret, pb_cv, pb_cr, pb_sr, pb_switch, pb_sw, pb_nth, pb_set, pb_tk, pb_add, pb_sub, List.length_cons, List.length_nil, true_or, or_true, true_and, and_true, and_self, pb_up_same, pb_up_f, ne_eq, Nat.reduceEqDiff, not_false_eq_true, Nat.reduceAdd, Nat.reduceLeDiff, Nat.zero_le, is_T hb hs, q_row h.1 hb hs, (rwU hb hs).1]
    refine ⟨fun z => by simp at z, fun _ => c_popU h hb hs (fun σ1 h1 => ?_)⟩
    rw [hf] at h1
    exact hQ _ h1
end TN
