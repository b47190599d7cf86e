/-! contention -/
def g_cb (T : gT) (t m : Int) : Bool := decide (¬ T.1 1 t = 0) && !(T.2 t).isEmpty && decide (T.1 2 t = m)
theorem g_cb_iff {T : gT} {t m : Int} : g_con T t m ↔ g_cb T t m = true := by
  unfold g_con g_cb
  simp only [Bool.and_eq_true, decide_eq_true_eq, Bool.not_eq_true', List.isEmpty_eq_false_iff, ne_eq, and_assoc]
def g_hd (T : gT) (t : Int) : gF := (T.2 t).headD (0, 0, 0, 0, 0)
theorem g_hd_cons {T : gT} {t : Int} (h : ¬ T.2 t = []) : T.2 t = g_hd T t :: (T.2 t).tail := by
  unfold g_hd
  cases h1 : T.2 t with
  | nil => exact absurd h1 h
  | cons a l => rfl
def cmpT (T : gT) (t t' : Int) : Int := cmpF (g_hd T t) (T.1 14 t) (g_hd T t') (T.1 14 t')
def g_eager (T : gT) (b : Int) : Nat → Bool
  | 0 => false
  | k + 1 => g_eager T b k || g_cb T (4 * b + k) 0
def g_asm (T : gT) (b : Int) : Int := if g_eager T b 4 = true then 0 else 1
def g_win (T : gT) (b m : Int) : Nat → Int
  | 0 => -1
  | k + 1 => if g_cb T (4 * b + k) m = true ∧ (g_win T b m k = -1 ∨ cmpT T (4 * b + k) (4 * b + g_win T b m k) < 0) then k else g_win T b m k
def g_wr (b w : Int) : Int := if w = -1 then -1 else 32 + 77 * b + 11 * w
theorem g_win_ok (T : gT) (b m : Int) : ∀ k : Nat, g_win T b m k = -1 ∨ (0 ≤ g_win T b m k ∧ g_win T b m k < k ∧ g_con T (4 * b + g_win T b m k) m)
  | 0 => Or.inl rfl
  | k + 1 => by
    have ih := g_win_ok T b m k
    unfold g_win
    split
    · rename_i h
      exact Or.inr ⟨by omega, by omega, g_cb_iff.mpr h.1⟩
    · rcases ih with ih | ⟨h1, h2, h3⟩
      · exact Or.inl ih
      · exact Or.inr ⟨h1, by omega, h3⟩
def g_snd (T : gT) (b m w : Int) (T' : gT) (t : Int) : gT := gt_set T' 3 t (if ¬ w = -1 ∧ g_cb T t m = true ∧ cmpT T t (4 * b + w) = 0 then 1 else 0)
def g_mld (T : gT) (m : Int) (T' : gT) (t : Int) : gT := gt_set T' 2 t (if ¬ T.1 3 t = 0 ∨ (¬ T.1 2 t = 0 ∧ m = 0) then 1 else 0)
def gt_con2 (T : gT) (b : Int) : gT := g_it (g_snd T b (g_asm T b) (g_win T b (g_asm T b) 4)) b T 4
/-- the terminals behind a contention -/
def gt_contend (T : gT) (b : Int) : gT := g_it (g_mld (gt_con2 T b) (g_asm T b)) b (gt_con2 T b) 4
theorem g_snd_keep (T : gT) (b m w : Int) : ∀ (j : Nat), (∀ k t, k ≠ 3 → (g_it (g_snd T b m w) b T j).1 k t = T.1 k t) ∧ (g_it (g_snd T b m w) b T j).2 = T.2
  | 0 => ⟨fun _ _ _ => rfl, rfl⟩
  | j + 1 => by
    have ih := g_snd_keep T b m w j
    refine ⟨fun k t hk => ?_, ih.2⟩
    show (gt_set (g_it (g_snd T b m w) b T j) 3 _ _).1 k t = _
    rw [show (gt_set (g_it (g_snd T b m w) b T j) 3 (4 * b + j) (if ¬ w = -1 ∧ g_cb T (4 * b + j) m = true ∧ cmpT T (4 * b + j) (4 * b + w) = 0 then 1 else 0)).1 k t = (g_it (g_snd T b m w) b T j).1 k t from g_up_n (fun z => hk z.1)]
    exact ih.1 k t hk
theorem g_mld_keep (T : gT) (m b : Int) : ∀ (j : Nat), (∀ k t, k ≠ 2 → (g_it (g_mld T m) b T j).1 k t = T.1 k t) ∧ (g_it (g_mld T m) b T j).2 = T.2
  | 0 => ⟨fun _ _ _ => rfl, rfl⟩
  | j + 1 => by
    have ih := g_mld_keep T m b j
    refine ⟨fun k t hk => ?_, ih.2⟩
    rw [show (g_it (g_mld T m) b T (j + 1)).1 k t = (g_it (g_mld T m) b T j).1 k t from g_up_n (fun z => hk z.1)]
    exact ih.1 k t hk
section CO
variable {x : pb_E} {σ : pb_H} {T : gT} {E : gE} {μ : pb_H} {b s : Int} {Q : pb_P} {n : Nat}
theorem l_B_hasEagerContender (h : RT σ T μ) (hb : 0 ≤ b ∧ b < 2) (h1 : g_eager T b 4 = true → Q (.inl 1) σ) (h0 : g_eager T b 4 = false → Q (.inl 0) σ) : ∀ (d k : Nat), k + d = 4 → g_eager T b k = false → ∀ (o : Option pb_V), pb_WJ x i_B_hasEagerContender 213 Q 10 [some (.inr (3 + 77 * b)), some (.inr (4 + 77 * b)), some (.inl 4), some (.inl k), o] [] 213 σ := by
  intro d
  obtain ⟨b1, b2, b3, b4, b5⟩ := is_B hb
  induction d with
  | zero =>
    intro k hk he o
    obtain rfl : k = 4 := by omega
    refine pb_s_B_hasEagerContender_10 x 213 Q _ _ _ _ ?_
    simp only [pb_b_B_hasEagerContender_0, pb_b_B_hasEagerContender_10, pb_b_B_hasEagerContender_31, pb_b_B_hasEagerContender_37, pb_iconst, pb_null, pb_iload, pb_aload, pb_istore, pb_astore, pb_iinc, pb_bin, pb_bin0, pb_dup, pb_pop, pb_dup2, pb_if, pb_icmp, pb_ifnull, pb_getI, pb_getR, pb_putI, pb_putZ, pb_putR, pb_alen, pb_ald, pb_aldR, pb_ast, pb_astZ, pb_astR, pb_vret, pb_iret, pb_zret, pb_aret, pb_cv, pb_cr, pb_sr, pb_switch, pb_sw, pb_nth, pb_set, pb_tk, pb_add, pb_sub, List.length_cons, List.length_nil, true_or, or_true, true_and, and_true, and_self, pb_up_same, pb_up_f, ne_eq, Nat.reduceEqDiff, not_false_eq_true, Nat.reduceAdd, Nat.reduceLeDiff, Nat.zero_le]
    exact ⟨fun _ => h0 he, fun z => absurd z (by omega)⟩
  | succ d ih =>
    intro k hk he o
    have hs : 0 ≤ (k : Int) ∧ (k : Int) < 4 := ⟨by omega, by omega⟩
    refine pb_s_B_hasEagerContender_10 x 213 Q _ _ _ _ ?_
    have e : pb_w ((k : Int) + 1) = ((k + 1 : Nat) : Int) := by rw [pb_w_id (by unfold pb_R; omega)]; omega
    simp only [pb_b_B_hasEagerContender_0, pb_b_B_hasEagerContender_10, pb_b_B_hasEagerContender_31, pb_b_B_hasEagerContender_37, pb_iconst, pb_null, pb_iload, pb_aload, pb_istore, pb_astore, pb_iinc, pb_bin, pb_bin0, pb_dup, pb_pop, pb_dup2, pb_if, pb_icmp, pb_ifnull, pb_getI, pb_getR, pb_putI, pb_putZ, pb_putR, pb_alen, pb_ald, pb_aldR, pb_ast, pb_astZ, pb_astR, pb_vret, pb_iret, pb_zret, pb_aret, pb_cv, pb_cr, pb_sr, pb_switch, pb_sw, pb_nth, pb_set, pb_tk, pb_add, pb_sub, List.length_cons, List.length_nil, true_or, or_true, true_and, and_true, and_self, pb_up_same, pb_up_f, ne_eq, Nat.reduceEqDiff, not_false_eq_true, Nat.reduceAdd, Nat.reduceLeDiff, Nat.zero_le, b1, b2, b4, q_term h.1 hb hs, is_T hb hs]
    refine ⟨fun z => absurd z (by omega), fun _ => ⟨hs, c_T_contends h hb hs (fun hc => ?_) (fun hc => ?_)⟩⟩
    · try simp only [pb_iconst, pb_null, pb_iload, pb_aload, pb_istore, pb_astore, pb_iinc, pb_bin, pb_bin0, pb_dup, pb_pop, pb_dup2, pb_if, pb_icmp, pb_ifnull, pb_getI, pb_getR, pb_putI, pb_putZ, pb_putR, pb_alen, pb_ald, pb_aldR, pb_ast, pb_astZ, pb_astR, pb_vret, pb_iret, pb_zret, pb_aret, pb_cv, pb_cr, pb_sr, pb_switch, pb_sw, pb_nth, pb_set, pb_tk, pb_add, pb_sub, List.length_cons, List.length_nil, true_or, or_true, true_and, and_true, and_self, pb_up_same, pb_up_f, ne_eq, Nat.reduceEqDiff, not_false_eq_true, Nat.reduceAdd, Nat.reduceLeDiff, Nat.zero_le]
      refine ⟨fun z => by simp at z, fun _ => h1 ?_⟩
      have hk1 : g_eager T b (k + 1) = true := by
        unfold g_eager
        rw [g_cb_iff.mp hc, Bool.or_true]
      have mono : ∀ j, k + 1 ≤ j → g_eager T b j = true := by
        intro j hj
        induction j with
        | zero => omega
        | succ j ihj =>
          by_cases hj2 : k + 1 ≤ j
          · unfold g_eager
            rw [ihj hj2, Bool.true_or]
          · obtain rfl : j = k := by omega
            exact hk1
      exact mono 4 (by omega)
    · try simp only [pb_iconst, pb_null, pb_iload, pb_aload, pb_istore, pb_astore, pb_iinc, pb_bin, pb_bin0, pb_dup, pb_pop, pb_dup2, pb_if, pb_icmp, pb_ifnull, pb_getI, pb_getR, pb_putI, pb_putZ, pb_putR, pb_alen, pb_ald, pb_aldR, pb_ast, pb_astZ, pb_astR, pb_vret, pb_iret, pb_zret, pb_aret, pb_cv, pb_cr, pb_sr, pb_switch, pb_sw, pb_nth, pb_set, pb_tk, pb_add, pb_sub, List.length_cons, List.length_nil, true_or, or_true, true_and, and_true, and_self, pb_up_same, pb_up_f, ne_eq, Nat.reduceEqDiff, not_false_eq_true, Nat.reduceAdd, Nat.reduceLeDiff, Nat.zero_le, e]
      refine ⟨fun _ => ?_, fun z => by simp at z⟩
      refine ih (k + 1) (by omega) ?_ _
      unfold g_eager
      rw [he, Bool.false_or]
      cases hcb : g_cb T (4 * b + k) 0 with
      | false => rfl
      | true => exact absurd (g_cb_iff.mpr hcb) hc
theorem c_B_hasEagerContender (h : RT σ T μ) (hb : 0 ≤ b ∧ b < 2) (h1 : g_eager T b 4 = true → Q (.inl 1) σ) (h0 : g_eager T b 4 = false → Q (.inl 0) σ) : pb_MJ x i_B_hasEagerContender [.inr (3 + 77 * b)] 213 σ Q := by
  refine pb_m_B_hasEagerContender ?_
  obtain ⟨b1, b2, b3, b4, b5⟩ := is_B hb
  simp only [pb_b_B_hasEagerContender_0, pb_b_B_hasEagerContender_10, pb_b_B_hasEagerContender_31, pb_b_B_hasEagerContender_37, pb_iconst, pb_null, pb_iload, pb_aload, pb_istore, pb_astore, pb_iinc, pb_bin, pb_bin0, pb_dup, pb_pop, pb_dup2, pb_if, pb_icmp, pb_ifnull, pb_getI, pb_getR, pb_putI, pb_putZ, pb_putR, pb_alen, pb_ald, pb_aldR, pb_ast, pb_astZ, pb_astR, pb_vret, pb_iret, pb_zret, pb_aret, pb_cv, pb_cr, pb_sr, pb_switch, pb_sw, pb_nth, pb_set, pb_tk, pb_add, pb_sub, List.length_cons, List.length_nil, true_or, or_true, true_and, and_true, and_self, pb_up_same, pb_up_f, ne_eq, Nat.reduceEqDiff, not_false_eq_true, Nat.reduceAdd, Nat.reduceLeDiff, Nat.zero_le, b1, b2, b4, (q_bus h.1 hb).2.1]
  exact l_B_hasEagerContender h hb h1 h0 4 0 rfl rfl none
theorem g_wr_is {w : Int} (hb : 0 ≤ b ∧ b < 2) (hw : w = -1 ∨ (0 ≤ w ∧ w < 4)) : (g_wr b w < 0 ↔ w = -1) ∧ (¬ w = -1 → g_wr b w = 32 + 77 * b + 11 * w) := by
  unfold g_wr
  constructor
  · split
    · simp [*]
    · constructor
      · intro h; omega
      · intro h; omega
  · intro h
    rw [if_neg h]
/-- the third loop -/
theorem l_B_contend3 {m w : Int} (hb : 0 ≤ b ∧ b < 2) (hQ : ∀ σ', RT σ' (g_it (g_mld T m) b T 4) μ → Q (.inr (g_wr b w)) σ') : ∀ (d k : Nat), k + d = 4 → ∀ (σ : pb_H) (o : Option pb_V), RT σ (g_it (g_mld T m) b T k) μ → pb_WJ x i_B_contend 213 Q 146 [some (.inr (3 + 77 * b)), some (.inl m), some (.inr (g_wr b w)), some (.inr (4 + 77 * b)), some (.inl 4), some (.inl k), o] [] 213 σ := by
  intro d
  obtain ⟨b1, b2, b3, b4, b5⟩ := is_B hb
  induction d with
  | zero =>
    intro k hk σ o h
    obtain rfl : k = 4 := by omega
    refine pb_s_B_contend_146 x 213 Q _ _ _ _ ?_
    simp only [pb_b_B_contend_146, pb_b_B_contend_195, pb_iconst, pb_null, pb_iload, pb_aload, pb_istore, pb_astore, pb_iinc, pb_bin, pb_bin0, pb_dup, pb_pop, pb_dup2, pb_if, pb_icmp, pb_ifnull, pb_getI, pb_getR, pb_putI, pb_putZ, pb_putR, pb_alen, pb_ald, pb_aldR, pb_ast, pb_astZ, pb_astR, pb_vret, pb_iret, pb_zret, pb_aret, pb_cv, pb_cr, pb_sr, pb_switch, pb_sw, pb_nth, pb_set, pb_tk, pb_add, pb_sub, List.length_cons, List.length_nil, true_or, or_true, true_and, and_true, and_self, pb_up_same, pb_up_f, ne_eq, Nat.reduceEqDiff, not_false_eq_true, Nat.reduceAdd, Nat.reduceLeDiff, Nat.zero_le]
    exact ⟨fun _ => hQ _ h, fun z => absurd z (by omega)⟩
  | succ d ih =>
    intro k hk σ o h
    have hs : 0 ≤ (k : Int) ∧ (k : Int) < 4 := ⟨by omega, by omega⟩
    refine pb_s_B_contend_146 x 213 Q _ _ _ _ ?_
    have e : pb_w ((k : Int) + 1) = ((k + 1 : Nat) : Int) := by rw [pb_w_id (by unfold pb_R; omega)]; omega
    have e3 : (g_it (g_mld T m) b T k).1 3 (4 * b + k) = T.1 3 (4 * b + k) := (g_mld_keep T m b k).1 3 _ (by decide)
    have e2 : (g_it (g_mld T m) b T k).1 2 (4 * b + k) = T.1 2 (4 * b + k) := (g_it_loc (F := g_mld T m) (fun T' t t' ht => ⟨fun k => gt_set_l ht, rfl⟩) b T k (4 * b + k) (fun i hi => by omega)).1 2
    have step : ∀ v : Int, v = (if ¬ T.1 3 (4 * b + k) = 0 ∨ (¬ T.1 2 (4 * b + k) = 0 ∧ m = 0) then 1 else 0) → pb_WJ x i_B_contend 213 Q 146 [some (.inr (3 + 77 * b)), some (.inl m), some (.inr (g_wr b w)), some (.inr (4 + 77 * b)), some (.inl 4), some (.inl ((k + 1 : Nat) : Int)), some (.inr (32 + 77 * b + 11 * (k : Int)))] [] 213 (pb_up σ 403 (32 + 77 * b + 11 * (k : Int)) 0 v) := by
      intro v hv
      subst hv
      exact ih (k + 1) (by omega) _ _ (r_T h hb hs 403 2 rfl ⟨by decide, by decide⟩ _)
    simp only [pb_b_B_contend_146, pb_b_B_contend_181, pb_b_B_contend_185, pb_b_B_contend_186, pb_iconst, pb_null, pb_iload, pb_aload, pb_istore, pb_astore, pb_iinc, pb_bin, pb_bin0, pb_dup, pb_pop, pb_dup2, pb_if, pb_icmp, pb_ifnull, pb_getI, pb_getR, pb_putI, pb_putZ, pb_putR, pb_alen, pb_ald, pb_aldR, pb_ast, pb_astZ, pb_astR, pb_vret, pb_iret, pb_zret, pb_aret, pb_cv, pb_cr, pb_sr, pb_switch, pb_sw, pb_nth, pb_set, pb_tk, pb_add, pb_sub, List.length_cons, List.length_nil, true_or, or_true, true_and, and_true, and_self, pb_up_same, pb_up_f, ne_eq, Nat.reduceEqDiff, not_false_eq_true, Nat.reduceAdd, Nat.reduceLeDiff, Nat.zero_le, b1, b2, b4, q_term h.1 hb hs, is_T hb hs, q_T h hb hs 402 1 rfl ⟨by decide, by decide⟩, q_T h hb hs 403 2 rfl ⟨by decide, by decide⟩, q_T h hb hs 404 3 rfl ⟨by decide, by decide⟩, q_T h hb hs 405 4 rfl ⟨by decide, by decide⟩, q_T h hb hs 406 5 rfl ⟨by decide, by decide⟩, q_T h hb hs 407 6 rfl ⟨by decide, by decide⟩, q_T h hb hs 408 7 rfl ⟨by decide, by decide⟩, q_T h hb hs 409 8 rfl ⟨by decide, by decide⟩, q_T h hb hs 410 9 rfl ⟨by decide, by decide⟩, q_T h hb hs 411 10 rfl ⟨by decide, by decide⟩, q_T h hb hs 412 11 rfl ⟨by decide, by decide⟩, q_T h hb hs 413 12 rfl ⟨by decide, by decide⟩, q_T h hb hs 414 13 rfl ⟨by decide, by decide⟩, q_T h hb hs 415 14 rfl ⟨by decide, by decide⟩, q_T h hb hs 416 15 rfl ⟨by decide, by decide⟩, e, e2, e3]
    refine ⟨fun z => absurd z (by omega), fun _ => ⟨hs, fun z => step 1 ?_, fun z => ⟨fun z2 => step 0 ?_, fun z2 => ⟨fun z3 => step 0 ?_, fun z3 => step 1 ?_⟩⟩⟩⟩
    · rw [if_pos (Or.inl z)]
    · rw [if_neg (by omega)]
    · rw [if_neg (by omega)]
    · rw [if_pos (by omega)]
/-- the second loop -/
theorem l_B_contend2 {m w : Int} (hb : 0 ≤ b ∧ b < 2) (hw : w = -1 ∨ (0 ≤ w ∧ w < 4 ∧ g_con T (4 * b + w) m)) (hQ : ∀ σ', RT σ' (g_it (g_mld (g_it (g_snd T b m w) b T 4) m) b (g_it (g_snd T b m w) b T 4) 4) μ → Q (.inr (g_wr b w)) σ') : ∀ (d k : Nat), k + d = 4 → ∀ (σ : pb_H) (o : Option pb_V), RT σ (g_it (g_snd T b m w) b T k) μ → pb_WJ x i_B_contend 213 Q 83 [some (.inr (3 + 77 * b)), some (.inl m), some (.inr (g_wr b w)), some (.inr (4 + 77 * b)), some (.inl 4), some (.inl k), o] [] 213 σ := by
  intro d
  obtain ⟨b1, b2, b3, b4, b5⟩ := is_B hb
  have hwr := g_wr_is (b := b) (w := w) hb (by rcases hw with h | ⟨h1, h2, -⟩ <;> omega)
  induction d with
  | zero =>
    intro k hk σ o h
    obtain rfl : k = 4 := by omega
    refine pb_s_B_contend_83 x 213 Q _ _ _ _ ?_
    simp only [pb_b_B_contend_83, pb_b_B_contend_134, pb_iconst, pb_null, pb_iload, pb_aload, pb_istore, pb_astore, pb_iinc, pb_bin, pb_bin0, pb_dup, pb_pop, pb_dup2, pb_if, pb_icmp, pb_ifnull, pb_getI, pb_getR, pb_putI, pb_putZ, pb_putR, pb_alen, pb_ald, pb_aldR, pb_ast, pb_astZ, pb_astR, pb_vret, pb_iret, pb_zret, pb_aret, pb_cv, pb_cr, pb_sr, pb_switch, pb_sw, pb_nth, pb_set, pb_tk, pb_add, pb_sub, List.length_cons, List.length_nil, true_or, or_true, true_and, and_true, and_self, pb_up_same, pb_up_f, ne_eq, Nat.reduceEqDiff, not_false_eq_true, Nat.reduceAdd, Nat.reduceLeDiff, Nat.zero_le, b1, b2, b4, (q_bus h.1 hb).2.1]
    exact ⟨fun _ => l_B_contend3 hb hQ 4 0 rfl σ o h, fun z => absurd z (by omega)⟩
  | succ d ih =>
    intro k hk σ o h
    have hs : 0 ≤ (k : Int) ∧ (k : Int) < 4 := ⟨by omega, by omega⟩
    refine pb_s_B_contend_83 x 213 Q _ _ _ _ ?_
    have e : pb_w ((k : Int) + 1) = ((k + 1 : Nat) : Int) := by rw [pb_w_id (by unfold pb_R; omega)]; omega
    have kp := g_snd_keep T b m w k
    have hcon : ∀ t, g_con (g_it (g_snd T b m w) b T k) t m ↔ g_con T t m := by
      intro t
      unfold g_con
      rw [kp.1 1 t (by decide), kp.1 2 t (by decide), kp.2]
    have step : ∀ v : Int, v = (if ¬ w = -1 ∧ g_cb T (4 * b + k) m = true ∧ cmpT T (4 * b + k) (4 * b + w) = 0 then 1 else 0) → pb_WJ x i_B_contend 213 Q 83 [some (.inr (3 + 77 * b)), some (.inl m), some (.inr (g_wr b w)), some (.inr (4 + 77 * b)), some (.inl 4), some (.inl ((k + 1 : Nat) : Int)), some (.inr (32 + 77 * b + 11 * (k : Int)))] [] 213 (pb_up σ 404 (32 + 77 * b + 11 * (k : Int)) 0 v) := by
      intro v hv
      subst hv
      exact ih (k + 1) (by omega) _ _ (r_T h hb hs 404 3 rfl ⟨by decide, by decide⟩ _)
    simp only [pb_b_B_contend_83, pb_b_B_contend_124, pb_b_B_contend_125, pb_iconst, pb_null, pb_iload, pb_aload, pb_istore, pb_astore, pb_iinc, pb_bin, pb_bin0, pb_dup, pb_pop, pb_dup2, pb_if, pb_icmp, pb_ifnull, pb_getI, pb_getR, pb_putI, pb_putZ, pb_putR, pb_alen, pb_ald, pb_aldR, pb_ast, pb_astZ, pb_astR, pb_vret, pb_iret, pb_zret, pb_aret, pb_cv, pb_cr, pb_sr, pb_switch, pb_sw, pb_nth, pb_set, pb_tk, pb_add, pb_sub, List.length_cons, List.length_nil, true_or, or_true, true_and, and_true, and_self, pb_up_same, pb_up_f, ne_eq, Nat.reduceEqDiff, not_false_eq_true, Nat.reduceAdd, Nat.reduceLeDiff, Nat.zero_le, b1, b2, b4, q_term h.1 hb hs, is_T hb hs, e]
    refine ⟨fun z => absurd z (by omega), fun _ => ⟨hs, fun z => step 0 ?_, fun z => ?_⟩⟩
    · rw [if_neg (fun q => q.1 (hwr.1.mp z))]
    · have hw1 : ¬ w = -1 := fun q => z (hwr.1.mpr q)
      obtain ⟨w1, w2, w3⟩ : 0 ≤ w ∧ w < 4 ∧ g_con T (4 * b + w) m := by
        rcases hw with q | q
        · exact absurd q hw1
        · exact q
      refine c_T_contends h hb hs (fun hc => ?_) (fun hc => ?_)
      · try simp only [pb_iconst, pb_null, pb_iload, pb_aload, pb_istore, pb_astore, pb_iinc, pb_bin, pb_bin0, pb_dup, pb_pop, pb_dup2, pb_if, pb_icmp, pb_ifnull, pb_getI, pb_getR, pb_putI, pb_putZ, pb_putR, pb_alen, pb_ald, pb_aldR, pb_ast, pb_astZ, pb_astR, pb_vret, pb_iret, pb_zret, pb_aret, pb_cv, pb_cr, pb_sr, pb_switch, pb_sw, pb_nth, pb_set, pb_tk, pb_add, pb_sub, List.length_cons, List.length_nil, true_or, or_true, true_and, and_true, and_self, pb_up_same, pb_up_f, ne_eq, Nat.reduceEqDiff, not_false_eq_true, Nat.reduceAdd, Nat.reduceLeDiff, Nat.zero_le, is_T hb hs]
        refine ⟨fun z2 => by simp at z2, fun _ => ?_⟩
        rw [hwr.2 hw1]
        have hc' := (hcon _).mp hc
        refine c_T_compareFirst (f := g_hd T (4 * b + k)) (l := (T.2 (4 * b + k)).tail) (f' := g_hd T (4 * b + w)) (l' := (T.2 (4 * b + w)).tail) h hb hs hb ⟨w1, w2⟩ (by rw [kp.2]; exact g_hd_cons hc'.2.1) (by rw [kp.2]; exact g_hd_cons w3.2.1) ?_
        rw [kp.1 14 _ (by decide), kp.1 14 _ (by decide)]
        rw [← hwr.2 hw1]
        try simp only [pb_iconst, pb_null, pb_iload, pb_aload, pb_istore, pb_astore, pb_iinc, pb_bin, pb_bin0, pb_dup, pb_pop, pb_dup2, pb_if, pb_icmp, pb_ifnull, pb_getI, pb_getR, pb_putI, pb_putZ, pb_putR, pb_alen, pb_ald, pb_aldR, pb_ast, pb_astZ, pb_astR, pb_vret, pb_iret, pb_zret, pb_aret, pb_cv, pb_cr, pb_sr, pb_switch, pb_sw, pb_nth, pb_set, pb_tk, pb_add, pb_sub, List.length_cons, List.length_nil, true_or, or_true, true_and, and_true, and_self, pb_up_same, pb_up_f, ne_eq, Nat.reduceEqDiff, not_false_eq_true, Nat.reduceAdd, Nat.reduceLeDiff, Nat.zero_le, is_T hb hs]
        refine ⟨fun z2 => step 0 ?_, fun z2 => step 1 ?_⟩
        · rw [if_neg (fun q => z2 q.2.2)]
        · rw [if_pos ⟨hw1, g_cb_iff.mp hc', Decidable.not_not.mp z2⟩]
      · try simp only [pb_iconst, pb_null, pb_iload, pb_aload, pb_istore, pb_astore, pb_iinc, pb_bin, pb_bin0, pb_dup, pb_pop, pb_dup2, pb_if, pb_icmp, pb_ifnull, pb_getI, pb_getR, pb_putI, pb_putZ, pb_putR, pb_alen, pb_ald, pb_aldR, pb_ast, pb_astZ, pb_astR, pb_vret, pb_iret, pb_zret, pb_aret, pb_cv, pb_cr, pb_sr, pb_switch, pb_sw, pb_nth, pb_set, pb_tk, pb_add, pb_sub, List.length_cons, List.length_nil, true_or, or_true, true_and, and_true, and_self, pb_up_same, pb_up_f, ne_eq, Nat.reduceEqDiff, not_false_eq_true, Nat.reduceAdd, Nat.reduceLeDiff, Nat.zero_le, is_T hb hs]
        refine ⟨fun _ => step 0 ?_, fun z2 => by simp at z2⟩
        rw [if_neg (fun q => hc ((hcon _).mpr (g_cb_iff.mpr q.2.1)))]
/-- the first loop -/
theorem l_B_contend1 {m : Int} (h : RT σ T μ) (hb : 0 ≤ b ∧ b < 2) (hQ : ∀ σ', RT σ' (g_it (g_mld (g_it (g_snd T b m (g_win T b m 4)) b T 4) m) b (g_it (g_snd T b m (g_win T b m 4)) b T 4) 4) μ → Q (.inr (g_wr b (g_win T b m 4))) σ') : ∀ (d k : Nat), k + d = 4 → ∀ (o : Option pb_V), pb_WJ x i_B_contend 213 Q 27 [some (.inr (3 + 77 * b)), some (.inl m), some (.inr (g_wr b (g_win T b m k))), some (.inr (4 + 77 * b)), some (.inl 4), some (.inl k), o] [] 213 σ := by
  intro d
  obtain ⟨b1, b2, b3, b4, b5⟩ := is_B hb
  induction d with
  | zero =>
    intro k hk o
    obtain rfl : k = 4 := by omega
    refine pb_s_B_contend_27 x 213 Q _ _ _ _ ?_
    simp only [pb_b_B_contend_27, pb_b_B_contend_71, pb_iconst, pb_null, pb_iload, pb_aload, pb_istore, pb_astore, pb_iinc, pb_bin, pb_bin0, pb_dup, pb_pop, pb_dup2, pb_if, pb_icmp, pb_ifnull, pb_getI, pb_getR, pb_putI, pb_putZ, pb_putR, pb_alen, pb_ald, pb_aldR, pb_ast, pb_astZ, pb_astR, pb_vret, pb_iret, pb_zret, pb_aret, pb_cv, pb_cr, pb_sr, pb_switch, pb_sw, pb_nth, pb_set, pb_tk, pb_add, pb_sub, List.length_cons, List.length_nil, true_or, or_true, true_and, and_true, and_self, pb_up_same, pb_up_f, ne_eq, Nat.reduceEqDiff, not_false_eq_true, Nat.reduceAdd, Nat.reduceLeDiff, Nat.zero_le, b1, b2, b4, (q_bus h.1 hb).2.1]
    refine ⟨fun _ => l_B_contend2 hb ?_ hQ 4 0 rfl σ o h, fun z => absurd z (by omega)⟩
    rcases g_win_ok T b m 4 with q | ⟨q1, q2, q3⟩
    · exact Or.inl q
    · exact Or.inr ⟨q1, by omega, q3⟩
  | succ d ih =>
    intro k hk o
    have hs : 0 ≤ (k : Int) ∧ (k : Int) < 4 := ⟨by omega, by omega⟩
    refine pb_s_B_contend_27 x 213 Q _ _ _ _ ?_
    have e : pb_w ((k : Int) + 1) = ((k + 1 : Nat) : Int) := by rw [pb_w_id (by unfold pb_R; omega)]; omega
    have ih := ih (k + 1) (by omega) (some (.inr (32 + 77 * b + 11 * (k : Int))))
    have hok := g_win_ok T b m k
    have hwr := g_wr_is (b := b) (w := g_win T b m k) hb (by rcases hok with q | ⟨q1, q2, -⟩ <;> omega)
    have ea : g_win T b m (k + 1) = if g_cb T (4 * b + k) m = true ∧ (g_win T b m k = -1 ∨ cmpT T (4 * b + k) (4 * b + g_win T b m k) < 0) then (k : Int) else g_win T b m k := rfl
    have ek : g_wr b k = 32 + 77 * b + 11 * (k : Int) := by
      unfold g_wr
      rw [if_neg (by omega)]
    simp only [pb_b_B_contend_27, pb_b_B_contend_62, pb_b_B_contend_65, pb_iconst, pb_null, pb_iload, pb_aload, pb_istore, pb_astore, pb_iinc, pb_bin, pb_bin0, pb_dup, pb_pop, pb_dup2, pb_if, pb_icmp, pb_ifnull, pb_getI, pb_getR, pb_putI, pb_putZ, pb_putR, pb_alen, pb_ald, pb_aldR, pb_ast, pb_astZ, pb_astR, pb_vret, pb_iret, pb_zret, pb_aret, pb_cv, pb_cr, pb_sr, pb_switch, pb_sw, pb_nth, pb_set, pb_tk, pb_add, pb_sub, List.length_cons, List.length_nil, true_or, or_true, true_and, and_true, and_self, pb_up_same, pb_up_f, ne_eq, Nat.reduceEqDiff, not_false_eq_true, Nat.reduceAdd, Nat.reduceLeDiff, Nat.zero_le, b1, b2, b4, q_term h.1 hb hs, is_T hb hs, e]
    refine ⟨fun z => absurd z (by omega), fun _ => ⟨hs, c_T_contends h hb hs (fun hc => ?_) (fun hc => ?_)⟩⟩
    · try simp only [pb_iconst, pb_null, pb_iload, pb_aload, pb_istore, pb_astore, pb_iinc, pb_bin, pb_bin0, pb_dup, pb_pop, pb_dup2, pb_if, pb_icmp, pb_ifnull, pb_getI, pb_getR, pb_putI, pb_putZ, pb_putR, pb_alen, pb_ald, pb_aldR, pb_ast, pb_astZ, pb_astR, pb_vret, pb_iret, pb_zret, pb_aret, pb_cv, pb_cr, pb_sr, pb_switch, pb_sw, pb_nth, pb_set, pb_tk, pb_add, pb_sub, List.length_cons, List.length_nil, true_or, or_true, true_and, and_true, and_self, pb_up_same, pb_up_f, ne_eq, Nat.reduceEqDiff, not_false_eq_true, Nat.reduceAdd, Nat.reduceLeDiff, Nat.zero_le, is_T hb hs]
      refine ⟨fun z => by simp at z, fun _ => ⟨fun z => ?_, fun z => ?_⟩⟩
      · rw [ea, if_pos ⟨g_cb_iff.mp hc, Or.inl (hwr.1.mp z)⟩, ek] at ih
        exact ih
      · have hw1 : ¬ g_win T b m k = -1 := fun q => z (hwr.1.mpr q)
        obtain ⟨w1, w2, w3⟩ : 0 ≤ g_win T b m k ∧ g_win T b m k < k ∧ g_con T (4 * b + g_win T b m k) m := by
          rcases hok with q | q
          · exact absurd q hw1
          · exact q
        rw [hwr.2 hw1]
        refine c_T_compareFirst (f := g_hd T (4 * b + k)) (l := (T.2 (4 * b + k)).tail) (f' := g_hd T (4 * b + g_win T b m k)) (l' := (T.2 (4 * b + g_win T b m k)).tail) h hb hs hb ⟨w1, by omega⟩ (g_hd_cons hc.2.1) (g_hd_cons w3.2.1) ?_
        rw [← hwr.2 hw1]
        try simp only [pb_iconst, pb_null, pb_iload, pb_aload, pb_istore, pb_astore, pb_iinc, pb_bin, pb_bin0, pb_dup, pb_pop, pb_dup2, pb_if, pb_icmp, pb_ifnull, pb_getI, pb_getR, pb_putI, pb_putZ, pb_putR, pb_alen, pb_ald, pb_aldR, pb_ast, pb_astZ, pb_astR, pb_vret, pb_iret, pb_zret, pb_aret, pb_cv, pb_cr, pb_sr, pb_switch, pb_sw, pb_nth, pb_set, pb_tk, pb_add, pb_sub, List.length_cons, List.length_nil, true_or, or_true, true_and, and_true, and_self, pb_up_same, pb_up_f, ne_eq, Nat.reduceEqDiff, not_false_eq_true, Nat.reduceAdd, Nat.reduceLeDiff, Nat.zero_le, is_T hb hs]
        refine ⟨fun z2 => ?_, fun z2 => ?_⟩
        · rw [ea, if_neg (by rintro ⟨-, q | q⟩; exact hw1 q; unfold cmpT at q; omega)] at ih
          exact ih
        · rw [ea, if_pos ⟨g_cb_iff.mp hc, Or.inr (by unfold cmpT; omega)⟩, ek] at ih
          exact ih
    · try simp only [pb_iconst, pb_null, pb_iload, pb_aload, pb_istore, pb_astore, pb_iinc, pb_bin, pb_bin0, pb_dup, pb_pop, pb_dup2, pb_if, pb_icmp, pb_ifnull, pb_getI, pb_getR, pb_putI, pb_putZ, pb_putR, pb_alen, pb_ald, pb_aldR, pb_ast, pb_astZ, pb_astR, pb_vret, pb_iret, pb_zret, pb_aret, pb_cv, pb_cr, pb_sr, pb_switch, pb_sw, pb_nth, pb_set, pb_tk, pb_add, pb_sub, List.length_cons, List.length_nil, true_or, or_true, true_and, and_true, and_self, pb_up_same, pb_up_f, ne_eq, Nat.reduceEqDiff, not_false_eq_true, Nat.reduceAdd, Nat.reduceLeDiff, Nat.zero_le, is_T hb hs]
      refine ⟨fun _ => ?_, fun z => by simp at z⟩
      rw [ea, if_neg (fun q => hc (g_cb_iff.mpr q.1))] at ih
      exact ih
theorem c_B_contend (h : RT σ T μ) (hb : 0 ≤ b ∧ b < 2) (hQ : ∀ σ', RT σ' (gt_contend T b) μ → Q (.inr (g_wr b (g_win T b (g_asm T b) 4))) σ') : pb_MJ x i_B_contend [.inr (3 + 77 * b)] 213 σ Q := by
  refine pb_m_B_contend ?_
  obtain ⟨b1, b2, b3, b4, b5⟩ := is_B hb
  simp only [pb_b_B_contend_0, pb_b_B_contend_11, pb_b_B_contend_12, pb_iconst, pb_null, pb_iload, pb_aload, pb_istore, pb_astore, pb_iinc, pb_bin, pb_bin0, pb_dup, pb_pop, pb_dup2, pb_if, pb_icmp, pb_ifnull, pb_getI, pb_getR, pb_putI, pb_putZ, pb_putR, pb_alen, pb_ald, pb_aldR, pb_ast, pb_astZ, pb_astR, pb_vret, pb_iret, pb_zret, pb_aret, pb_cv, pb_cr, pb_sr, pb_switch, pb_sw, pb_nth, pb_set, pb_tk, pb_add, pb_sub, List.length_cons, List.length_nil, true_or, or_true, true_and, and_true, and_self, pb_up_same, pb_up_f, ne_eq, Nat.reduceEqDiff, not_false_eq_true, Nat.reduceAdd, Nat.reduceLeDiff, Nat.zero_le, b1, b2, b4, (q_bus h.1 hb).2.1]
  refine c_B_hasEagerContender h hb (fun he => ?_) (fun he => ?_)
  · have hm : g_asm T b = 0 := by unfold g_asm; rw [if_pos he]
    unfold gt_contend gt_con2 at hQ
    rw [hm] at hQ
    try simp only [pb_iconst, pb_null, pb_iload, pb_aload, pb_istore, pb_astore, pb_iinc, pb_bin, pb_bin0, pb_dup, pb_pop, pb_dup2, pb_if, pb_icmp, pb_ifnull, pb_getI, pb_getR, pb_putI, pb_putZ, pb_putR, pb_alen, pb_ald, pb_aldR, pb_ast, pb_astZ, pb_astR, pb_vret, pb_iret, pb_zret, pb_aret, pb_cv, pb_cr, pb_sr, pb_switch, pb_sw, pb_nth, pb_set, pb_tk, pb_add, pb_sub, List.length_cons, List.length_nil, true_or, or_true, true_and, and_true, and_self, pb_up_same, pb_up_f, ne_eq, Nat.reduceEqDiff, not_false_eq_true, Nat.reduceAdd, Nat.reduceLeDiff, Nat.zero_le, b2, b4, (q_bus h.1 hb).2.1]
    exact ⟨fun _ => l_B_contend1 h hb hQ 4 0 rfl none, fun z => by simp at z⟩
  · have hm : g_asm T b = 1 := by unfold g_asm; rw [if_neg (by rw [he]; decide)]
    unfold gt_contend gt_con2 at hQ
    rw [hm] at hQ
    try simp only [pb_iconst, pb_null, pb_iload, pb_aload, pb_istore, pb_astore, pb_iinc, pb_bin, pb_bin0, pb_dup, pb_pop, pb_dup2, pb_if, pb_icmp, pb_ifnull, pb_getI, pb_getR, pb_putI, pb_putZ, pb_putR, pb_alen, pb_ald, pb_aldR, pb_ast, pb_astZ, pb_astR, pb_vret, pb_iret, pb_zret, pb_aret, pb_cv, pb_cr, pb_sr, pb_switch, pb_sw, pb_nth, pb_set, pb_tk, pb_add, pb_sub, List.length_cons, List.length_nil, true_or, or_true, true_and, and_true, and_self, pb_up_same, pb_up_f, ne_eq, Nat.reduceEqDiff, not_false_eq_true, Nat.reduceAdd, Nat.reduceLeDiff, Nat.zero_le, b2, b4, (q_bus h.1 hb).2.1]
    exact ⟨fun z => by simp at z, fun _ => l_B_contend1 h hb hQ 4 0 rfl none⟩
end CO
