/-! the exchange and a frame -/
section RE2
variable {x : pb_E} {σ : pb_H} {E : gE} {ρ : Int → Int} {μ : pb_H} {b s : Int} {Q : pb_P} {n : Nat}
theorem l_B_giveAddress {v : Int} (h : RE σ E ρ μ) (hb : 0 ≤ b ∧ b < 2) (hfull : ∀ σ', RE σ' (ge_give E b v) ρ μ → Q (.inl 0) σ') : ∀ (d k : Nat), k + d = 4 → ge_give E b v = ge_giveK E b v d k → ∀ (o : Option pb_V), pb_WJ x i_B_giveAddress 213 Q 2 [some (.inr (3 + 77 * b)), some (.inl v), some (.inl k), o] [] 213 σ := by
  intro d
  obtain ⟨b1, b2, b3, b4, b5⟩ := is_B hb
  induction d with
  | zero =>
    intro k hk he o
    refine pb_s_B_giveAddress_2 x 213 Q _ _ _ _ ?_
    simp only [pb_b_B_giveAddress_0, pb_b_B_giveAddress_2, pb_b_B_giveAddress_52, pb_b_B_giveAddress_58, pb_iconst, pb_null, pb_iload, pb_aload, pb_istore, pb_astore, pb_iinc, pb_bin, pb_bin0, pb_dup, pb_pop, pb_dup2, pb_if, pb_icmp, pb_ifnull, pb_getI, pb_getR, pb_putI, pb_putZ, pb_putR, pb_alen, pb_ald, pb_aldR, pb_ast, pb_astZ, pb_astR, pb_vret, pb_iret, pb_zret, pb_aret, pb_cv, pb_cr, pb_sr, pb_switch, pb_sw, pb_nth, pb_set, pb_tk, pb_add, pb_sub, List.length_cons, List.length_nil, true_or, or_true, true_and, and_true, and_self, pb_up_same, pb_up_f, ne_eq, Nat.reduceEqDiff, not_false_eq_true, Nat.reduceAdd, Nat.reduceLeDiff, Nat.zero_le]
    refine ⟨fun _ => hfull _ (by rw [he]; exact h), fun z => absurd z (by omega)⟩
  | succ d ih =>
    intro k hk he o
    have hs : 0 ≤ (k : Int) ∧ (k : Int) < 4 := ⟨by omega, by omega⟩
    refine pb_s_B_giveAddress_2 x 213 Q _ _ _ _ ?_
    have e : pb_w ((k : Int) + 1) = ((k + 1 : Nat) : Int) := by rw [pb_w_id (by unfold pb_R; omega)]; omega
    have e2 : pb_w (64 + (k : Int)) = 64 + k := pb_w_id (by unfold pb_R; omega)
    have h3 := p_L h hb hs 501 0 rfl (by decide)
    simp only [pb_b_B_giveAddress_0, pb_b_B_giveAddress_2, pb_b_B_giveAddress_52, pb_b_B_giveAddress_58, pb_iconst, pb_null, pb_iload, pb_aload, pb_istore, pb_astore, pb_iinc, pb_bin, pb_bin0, pb_dup, pb_pop, pb_dup2, pb_if, pb_icmp, pb_ifnull, pb_getI, pb_getR, pb_putI, pb_putZ, pb_putR, pb_alen, pb_ald, pb_aldR, pb_ast, pb_astZ, pb_astR, pb_vret, pb_iret, pb_zret, pb_aret, pb_cv, pb_cr, pb_sr, pb_switch, pb_sw, pb_nth, pb_set, pb_tk, pb_add, pb_sub, List.length_cons, List.length_nil, true_or, or_true, true_and, and_true, and_self, pb_up_same, pb_up_f, ne_eq, Nat.reduceEqDiff, not_false_eq_true, Nat.reduceAdd, Nat.reduceLeDiff, Nat.zero_le, b1, b3, b5, q_line h.1 hb hs, (q_bus h.1 hb).2.2.1, (q_bus h.1 hb).2.2.2, is_L hb hs, (rwD hb).1, h3, e, e2]
    refine ⟨fun z => absurd z (by omega), fun _ => ⟨hs, fun z => ?_, fun z => ?_⟩⟩
    · refine ih (k + 1) (by omega) ?_ _
      rw [he]
      exact if_neg z
    · have h4 := r_L (r_L (r_L h hb hs 501 0 rfl (by decide) 1) hb hs 502 1 rfl (by decide) 0) hb hs 503 2 rfl (by decide) 0
      refine c_putD h4 hb (fun σ' h5 => hfull _ ?_)
      rw [he, show ge_giveK E b v (d + 1) k = ge_giveAt E b v k from if_pos (Decidable.not_not.mp z)]
      exact h5
theorem c_B_giveAddress {v : Int} (h : RE σ E ρ μ) (hb : 0 ≤ b ∧ b < 2) (hQ : ∀ σ', RE σ' (ge_give E b v) ρ μ → Q (.inl 0) σ') : pb_MJ x i_B_giveAddress [.inr (3 + 77 * b), .inl v] 213 σ Q := by
  refine pb_m_B_giveAddress ?_
  simp only [pb_b_B_giveAddress_0, pb_b_B_giveAddress_2, pb_b_B_giveAddress_52, pb_b_B_giveAddress_58, pb_iconst, pb_null, pb_iload, pb_aload, pb_istore, pb_astore, pb_iinc, pb_bin, pb_bin0, pb_dup, pb_pop, pb_dup2, pb_if, pb_icmp, pb_ifnull, pb_getI, pb_getR, pb_putI, pb_putZ, pb_putR, pb_alen, pb_ald, pb_aldR, pb_ast, pb_astZ, pb_astR, pb_vret, pb_iret, pb_zret, pb_aret, pb_cv, pb_cr, pb_sr, pb_switch, pb_sw, pb_nth, pb_set, pb_tk, pb_add, pb_sub, List.length_cons, List.length_nil, true_or, or_true, true_and, and_true, and_self, pb_up_same, pb_up_f, ne_eq, Nat.reduceEqDiff, not_false_eq_true, Nat.reduceAdd, Nat.reduceLeDiff, Nat.zero_le]
  exact l_B_giveAddress h hb hQ 4 0 rfl rfl none
theorem c_B_exchangeListens {q : Int} {f : gF} (h : RE σ E ρ μ) (hb : 0 ≤ b ∧ b < 2) (hq : pb_is 3 213 q) (hf : g_fr σ q = f) (hR : pb_R f.2.1) (hQ : Q (.inl (ge_listens E b f)) σ) : pb_MJ x i_B_exchangeListens [.inr (3 + 77 * b), .inr q] 213 σ Q := by
  refine pb_m_B_exchangeListens ?_
  obtain ⟨b1, b2, b3, b4, b5⟩ := is_B hb
  obtain ⟨f1, f2, -⟩ := g_fr1 hf
  unfold ge_listens at hQ
  simp only [pb_b_B_exchangeListens_0, pb_b_B_exchangeListens_9, pb_b_B_exchangeListens_33, pb_b_B_exchangeListens_34, pb_iconst, pb_null, pb_iload, pb_aload, pb_istore, pb_astore, pb_iinc, pb_bin, pb_bin0, pb_dup, pb_pop, pb_dup2, pb_if, pb_icmp, pb_ifnull, pb_getI, pb_getR, pb_putI, pb_putZ, pb_putR, pb_alen, pb_ald, pb_aldR, pb_ast, pb_astZ, pb_astR, pb_vret, pb_iret, pb_zret, pb_aret, pb_cv, pb_cr, pb_sr, pb_switch, pb_sw, pb_nth, pb_set, pb_tk, pb_add, pb_sub, List.length_cons, List.length_nil, true_or, or_true, true_and, and_true, and_self, pb_up_same, pb_up_f, ne_eq, Nat.reduceEqDiff, not_false_eq_true, Nat.reduceAdd, Nat.reduceLeDiff, Nat.zero_le, b1, hq, f2]
  refine c_num hq hf (fun k1 => ?_) (fun k1 => ?_)
  · rw [if_pos k1] at hQ
    simp only [pb_iconst, pb_null, pb_iload, pb_aload, pb_istore, pb_astore, pb_iinc, pb_bin, pb_bin0, pb_dup, pb_pop, pb_dup2, pb_if, pb_icmp, pb_ifnull, pb_getI, pb_getR, pb_putI, pb_putZ, pb_putR, pb_alen, pb_ald, pb_aldR, pb_ast, pb_astZ, pb_astR, pb_vret, pb_iret, pb_zret, pb_aret, pb_cv, pb_cr, pb_sr, pb_switch, pb_sw, pb_nth, pb_set, pb_tk, pb_add, pb_sub, List.length_cons, List.length_nil, true_or, or_true, true_and, and_true, and_self, pb_up_same, pb_up_f, ne_eq, Nat.reduceEqDiff, not_false_eq_true, Nat.reduceAdd, Nat.reduceLeDiff, Nat.zero_le, b1, hq, f2]
    refine ⟨fun _ => c_B_lineOf h.1 hb hR (fun j j1 j2 j3 => ?_) (fun j0 => ?_), fun z => by simp at z⟩
    · try simp only [pb_iconst, pb_null, pb_iload, pb_aload, pb_istore, pb_astore, pb_iinc, pb_bin, pb_bin0, pb_dup, pb_pop, pb_dup2, pb_if, pb_icmp, pb_ifnull, pb_getI, pb_getR, pb_putI, pb_putZ, pb_putR, pb_alen, pb_ald, pb_aldR, pb_ast, pb_astZ, pb_astR, pb_vret, pb_iret, pb_zret, pb_aret, pb_cv, pb_cr, pb_sr, pb_switch, pb_sw, pb_nth, pb_set, pb_tk, pb_add, pb_sub, List.length_cons, List.length_nil, true_or, or_true, true_and, and_true, and_self, pb_up_same, pb_up_f, ne_eq, Nat.reduceEqDiff, not_false_eq_true, Nat.reduceAdd, Nat.reduceLeDiff, Nat.zero_le, is_L hb ⟨j1, j2⟩, p_L h hb ⟨j1, j2⟩ 501 0 rfl (by decide)]
      refine ⟨fun z => absurd z (by omega), fun _ => ⟨fun z => ?_, fun z => ?_⟩⟩
      · rw [j3, show (64 + j - 64 : Int) = j by omega, if_neg (fun z2 => z2.2 z)] at hQ
        exact hQ
      · rw [j3, show (64 + j - 64 : Int) = j by omega, if_pos ⟨by omega, z⟩] at hQ
        exact hQ
    · rw [if_neg (fun z => j0 z.1)] at hQ
      try simp only [pb_iconst, pb_null, pb_iload, pb_aload, pb_istore, pb_astore, pb_iinc, pb_bin, pb_bin0, pb_dup, pb_pop, pb_dup2, pb_if, pb_icmp, pb_ifnull, pb_getI, pb_getR, pb_putI, pb_putZ, pb_putR, pb_alen, pb_ald, pb_aldR, pb_ast, pb_astZ, pb_astR, pb_vret, pb_iret, pb_zret, pb_aret, pb_cv, pb_cr, pb_sr, pb_switch, pb_sw, pb_nth, pb_set, pb_tk, pb_add, pb_sub, List.length_cons, List.length_nil, true_or, or_true, true_and, and_true, and_self, pb_up_same, pb_up_f, ne_eq, Nat.reduceEqDiff, not_false_eq_true, Nat.reduceAdd, Nat.reduceLeDiff, Nat.zero_le]
      exact ⟨fun _ => hQ, fun z => by simp at z⟩
  · rw [if_neg k1] at hQ
    try simp only [pb_iconst, pb_null, pb_iload, pb_aload, pb_istore, pb_astore, pb_iinc, pb_bin, pb_bin0, pb_dup, pb_pop, pb_dup2, pb_if, pb_icmp, pb_ifnull, pb_getI, pb_getR, pb_putI, pb_putZ, pb_putR, pb_alen, pb_ald, pb_aldR, pb_ast, pb_astZ, pb_astR, pb_vret, pb_iret, pb_zret, pb_aret, pb_cv, pb_cr, pb_sr, pb_switch, pb_sw, pb_nth, pb_set, pb_tk, pb_add, pb_sub, List.length_cons, List.length_nil, true_or, or_true, true_and, and_true, and_self, pb_up_same, pb_up_f, ne_eq, Nat.reduceEqDiff, not_false_eq_true, Nat.reduceAdd, Nat.reduceLeDiff, Nat.zero_le]
    exact ⟨fun z => by simp at z, fun _ => hQ⟩
end RE2
