/-! a bus: more -/
theorem gt_follow_l {T : gT} {t t' : Int} {f : gF} (h : t' ≠ t) : (∀ k, (gt_follow T t f).1 k t' = T.1 k t') ∧ (gt_follow T t f).2 t' = T.2 t' := by
  unfold gt_follow
  split
  · exact ⟨fun k => by rw [gt_set_l h, gt_set_l h], rfl⟩
  · split
    · exact ⟨fun k => by rw [gt_set_l h], rfl⟩
    · split
      · exact ⟨fun k => by rw [gt_set_l h], rfl⟩
      · split
        · exact ⟨fun k => by rw [gt_set_l h, gt_set_l h], rfl⟩
        · split
          · exact ⟨fun k => gt_null_l h, rfl⟩
          · exact ⟨fun _ => rfl, rfl⟩
theorem l_recv (f : gF) (d : Int) : g_loc (g_recv1 f d) := by
  intro T t t' h
  unfold g_recv1 gt_receive
  split
  · split
    · split
      · split
        · refine ⟨fun k => ?_, ?_⟩
          · rw [gt_set_l h, gt_null_l h]
            show (gt_set T 15 t _).1 k t' = _
            rw [gt_set_l h]
          · show (gt_put (gt_set T 15 t _) t _).2 t' = _
            rw [gt_put_l h]
            rfl
        · refine ⟨fun k => ?_, ?_⟩
          · show (gt_set T 15 t _).1 k t' = _
            rw [gt_set_l h]
          · rw [gt_put_l h]
            rfl
      · split
        · have h1 := gt_follow_l (T := gt_set T 15 t (pb_w (1 - d))) (f := f) h
          exact ⟨fun k => (h1.1 k).trans (gt_set_l h), h1.2⟩
        · exact ⟨fun k => gt_set_l h, rfl⟩
    · exact ⟨fun _ => rfl, rfl⟩
  · exact ⟨fun _ => rfl, rfl⟩
theorem l_hear (f : gF) : g_loc (g_hear1 f) := by
  intro T t t' h
  unfold g_hear1 gt_hear
  split
  · exact ⟨fun _ => rfl, rfl⟩
  · split
    · split
      · exact ⟨fun k => by rw [gt_set_l h, gt_set_l h, gt_set_l h], rfl⟩
      · exact ⟨fun _ => rfl, rfl⟩
    · split
      · split
        · exact gt_next_l h
        · exact ⟨fun _ => rfl, rfl⟩
      · split
        · split
          · exact ⟨fun _ => rfl, gt_put_l h⟩
          · exact ⟨fun _ => rfl, rfl⟩
        · split
          · split
            · refine ⟨fun k => ?_, ?_⟩
              · show (gt_set (gt_set T 7 t 4) 8 t _).1 k t' = _
                rw [gt_set_l h, gt_set_l h]
              · rw [gt_put_l h]
                rfl
            · exact ⟨fun _ => rfl, rfl⟩
          · exact ⟨fun _ => rfl, rfl⟩
def ge_giveAt (E : gE) (b d : Int) (k : Nat) : gE := ge_put (ge_set (ge_set (ge_set E 0 (4 * b + k) 1) 1 (4 * b + k) 0) 2 (4 * b + k) 0) b (9, 64 + k, 0, d, 0)
def ge_giveK (E : gE) (b d : Int) : Nat → Nat → gE
  | 0, _ => E
  | r + 1, k => if E.1 0 (4 * b + k) = 0 then ge_giveAt E b d k else ge_giveK E b d r (k + 1)
def ge_give (E : gE) (b d : Int) : gE := ge_giveK E b d 4 0
def g_comes (T : gT) (b c : Int) : Nat → Int
  | 0 => 255
  | k + 1 => if T.1 7 (4 * b + k) = 6 ∧ T.1 9 (4 * b + k) = c then pb_and (g_comes T b c k) (T.1 11 (4 * b + k)) else g_comes T b c k
/-- does the exchange listen to the frame? -/
def ge_listens (E : gE) (b : Int) (f : gF) : Int := if f.1 ≤ 6 then (if (64 ≤ f.2.1 ∧ f.2.1 < 68) ∧ ¬ E.1 0 (4 * b + (f.2.1 - 64)) = 0 then 1 else 0) else 1
section BV
variable {x : pb_E} {σ : pb_H} {T : gT} {E : gE} {μ : pb_H} {b s : Int} {Q : pb_P} {n : Nat}
theorem c_B_sendToAddress {q t : Int} {f : gF} (h : RT σ T μ) (hb : 0 ≤ b ∧ b < 2) (hq : pb_is 3 213 q) (hd : (6 ≤ q ∧ q ≤ 31) ∨ (83 ≤ q ∧ q ≤ 108)) (hf : g_fr μ q = f) (hQ : ∀ σ', RT σ' (g_it (g_recv1 f t) b T 4) μ → Q (.inl (g_any T b f.2.1 4)) σ') : pb_MJ x i_B_sendToAddress [.inr (3 + 77 * b), .inr q, .inl t] 213 σ Q := by
  refine pb_m_B_sendToAddress ?_
  obtain ⟨b1, b2, b3, b4, b5⟩ := is_B hb
  simp only [pb_b_B_sendToAddress_0, pb_b_B_sendToAddress_16, pb_b_B_sendToAddress_51, pb_b_B_sendToAddress_57, pb_iconst, pb_null, pb_iload, pb_aload, pb_istore, pb_astore, pb_iinc, pb_bin, pb_bin0, pb_dup, pb_pop, pb_dup2, pb_if, pb_icmp, pb_ifnull, pb_getI, pb_getR, pb_putI, pb_putZ, pb_putR, pb_alen, pb_ald, pb_aldR, pb_ast, pb_astZ, pb_astR, pb_vret, pb_iret, pb_zret, pb_aret, pb_cv, pb_cr, pb_sr, pb_switch, pb_sw, pb_nth, pb_set, pb_tk, pb_add, pb_sub, List.length_cons, List.length_nil, true_or, or_true, true_and, and_true, and_self, pb_up_same, pb_up_f, ne_eq, Nat.reduceEqDiff, not_false_eq_true, Nat.reduceAdd, Nat.reduceLeDiff, Nat.zero_le, b1, b2, b4, (q_bus h.1 hb).2.1]
  exact l_B_sendToAddress hb hq hd hf (l_recv f t) hQ 4 0 rfl σ none h
theorem l_B_comesUp {c : Int} (h : RT σ T μ) (hb : 0 ≤ b ∧ b < 2) (hQ : Q (.inl (g_comes T b c 4)) σ) : ∀ (d k : Nat), k + d = 4 → ∀ (o : Option pb_V), pb_WJ x i_B_comesUp 213 Q 16 [some (.inr (3 + 77 * b)), some (.inl c), some (.inl (g_comes T b c k)), some (.inr (4 + 77 * b)), some (.inl 4), some (.inl k), o] [] 213 σ := by
  intro d
  obtain ⟨b1, b2, b3, b4, b5⟩ := is_B hb
  induction d with
  | zero =>
    intro k hk o
    obtain rfl : k = 4 := by omega
    refine pb_s_B_comesUp_16 x 213 Q _ _ _ _ ?_
    simp only [pb_b_B_comesUp_0, pb_b_B_comesUp_16, pb_b_B_comesUp_56, pb_b_B_comesUp_62, pb_iconst, pb_null, pb_iload, pb_aload, pb_istore, pb_astore, pb_iinc, pb_bin, pb_bin0, pb_dup, pb_pop, pb_dup2, pb_if, pb_icmp, pb_ifnull, pb_getI, pb_getR, pb_putI, pb_putZ, pb_putR, pb_alen, pb_ald, pb_aldR, pb_ast, pb_astZ, pb_astR, pb_vret, pb_iret, pb_zret, pb_aret, pb_cv, pb_cr, pb_sr, pb_switch, pb_sw, pb_nth, pb_set, pb_tk, pb_add, pb_sub, List.length_cons, List.length_nil, true_or, or_true, true_and, and_true, and_self, pb_up_same, pb_up_f, ne_eq, Nat.reduceEqDiff, not_false_eq_true, Nat.reduceAdd, Nat.reduceLeDiff, Nat.zero_le]
    exact ⟨fun _ => hQ, fun z => absurd z (by omega)⟩
  | succ d ih =>
    intro k hk o
    have hs : 0 ≤ (k : Int) ∧ (k : Int) < 4 := ⟨by omega, by omega⟩
    refine pb_s_B_comesUp_16 x 213 Q _ _ _ _ ?_
    have e : pb_w ((k : Int) + 1) = ((k + 1 : Nat) : Int) := by rw [pb_w_id (by unfold pb_R; omega)]; omega
    have ih := ih (k + 1) (by omega) (some (.inr (32 + 77 * b + 11 * (k : Int))))
    have ea : g_comes T b c (k + 1) = if T.1 7 (4 * b + k) = 6 ∧ T.1 9 (4 * b + k) = c then pb_and (g_comes T b c k) (T.1 11 (4 * b + k)) else g_comes T b c k := rfl
    simp only [pb_b_B_comesUp_0, pb_b_B_comesUp_16, pb_b_B_comesUp_56, pb_b_B_comesUp_62, pb_iconst, pb_null, pb_iload, pb_aload, pb_istore, pb_astore, pb_iinc, pb_bin, pb_bin0, pb_dup, pb_pop, pb_dup2, pb_if, pb_icmp, pb_ifnull, pb_getI, pb_getR, pb_putI, pb_putZ, pb_putR, pb_alen, pb_ald, pb_aldR, pb_ast, pb_astZ, pb_astR, pb_vret, pb_iret, pb_zret, pb_aret, pb_cv, pb_cr, pb_sr, pb_switch, pb_sw, pb_nth, pb_set, pb_tk, pb_add, pb_sub, List.length_cons, List.length_nil, true_or, or_true, true_and, and_true, and_self, pb_up_same, pb_up_f, ne_eq, Nat.reduceEqDiff, not_false_eq_true, Nat.reduceAdd, Nat.reduceLeDiff, Nat.zero_le, b1, b2, b4, q_term h.1 hb hs, is_T hb hs, q_T h hb hs 402 1 rfl ⟨by decide, by decide⟩, q_T h hb hs 403 2 rfl ⟨by decide, by decide⟩, q_T h hb hs 404 3 rfl ⟨by decide, by decide⟩, q_T h hb hs 405 4 rfl ⟨by decide, by decide⟩, q_T h hb hs 406 5 rfl ⟨by decide, by decide⟩, q_T h hb hs 407 6 rfl ⟨by decide, by decide⟩, q_T h hb hs 408 7 rfl ⟨by decide, by decide⟩, q_T h hb hs 409 8 rfl ⟨by decide, by decide⟩, q_T h hb hs 410 9 rfl ⟨by decide, by decide⟩, q_T h hb hs 411 10 rfl ⟨by decide, by decide⟩, q_T h hb hs 412 11 rfl ⟨by decide, by decide⟩, q_T h hb hs 413 12 rfl ⟨by decide, by decide⟩, q_T h hb hs 414 13 rfl ⟨by decide, by decide⟩, q_T h hb hs 415 14 rfl ⟨by decide, by decide⟩, q_T h hb hs 416 15 rfl ⟨by decide, by decide⟩, e]
    refine ⟨fun z => absurd z (by omega), fun _ => ⟨hs, fun z => ?_, fun z => ⟨fun z2 => ?_, fun z2 => ?_⟩⟩⟩
    · rw [ea, if_neg (by omega)] at ih
      exact ih
    · rw [ea, if_neg (by omega)] at ih
      exact ih
    · rw [ea, if_pos (by omega)] at ih
      exact ih
theorem c_B_comesUp {c : Int} (h : RT σ T μ) (hb : 0 ≤ b ∧ b < 2) (hQ : Q (.inl (g_comes T b c 4)) σ) : pb_MJ x i_B_comesUp [.inr (3 + 77 * b), .inl c] 213 σ Q := by
  refine pb_m_B_comesUp ?_
  obtain ⟨b1, b2, b3, b4, b5⟩ := is_B hb
  simp only [pb_b_B_comesUp_0, pb_b_B_comesUp_16, pb_b_B_comesUp_56, pb_b_B_comesUp_62, pb_iconst, pb_null, pb_iload, pb_aload, pb_istore, pb_astore, pb_iinc, pb_bin, pb_bin0, pb_dup, pb_pop, pb_dup2, pb_if, pb_icmp, pb_ifnull, pb_getI, pb_getR, pb_putI, pb_putZ, pb_putR, pb_alen, pb_ald, pb_aldR, pb_ast, pb_astZ, pb_astR, pb_vret, pb_iret, pb_zret, pb_aret, pb_cv, pb_cr, pb_sr, pb_switch, pb_sw, pb_nth, pb_set, pb_tk, pb_add, pb_sub, List.length_cons, List.length_nil, true_or, or_true, true_and, and_true, and_self, pb_up_same, pb_up_f, ne_eq, Nat.reduceEqDiff, not_false_eq_true, Nat.reduceAdd, Nat.reduceLeDiff, Nat.zero_le, b1, b2, b4, (q_bus h.1 hb).2.1]
  exact l_B_comesUp h hb hQ 4 0 rfl none
end BV
