/-! a call's own methods -/
theorem g_w64 {a : Int} (ha : pb_R a) : (64 ≤ a ∧ a < 68 → pb_w (a - 64) = a - 64) ∧ (¬ (64 ≤ a ∧ a < 68) → pb_w (a - 64) < 0 ∨ 4 ≤ pb_w (a - 64)) := by
  refine ⟨fun h => pb_w_id (by unfold pb_R; omega), fun hw => ?_⟩
  by_cases h9 : pb_R (a - 64)
  · rw [pb_w_id h9]
    omega
  · have h8 : a - 64 < -2147483648 := by
      unfold pb_R at h9 ha
      omega
    right
    have h7 : pb_w (a - 64) = a - 64 + 4294967296 := by
      have h6 : Int32.ofInt (a - 64) = Int32.ofInt (a - 64 + 4294967296) := by
        rw [Int32.ofInt_add, show Int32.ofInt 4294967296 = 0 by decide, Int32.add_zero]
      unfold pb_w
      rw [h6]
      exact pb_w_id (by unfold pb_R at ha ⊢; omega)
    rw [h7]
    unfold pb_R at ha
    omega
def g_call (σ : pb_H) (p : Int) (f : gC) : Prop := pb_is 6 213 p ∧ pb_is 100 213 (p + 1) ∧ pb_ln (p + 1) = 4 ∧ σ 601 p 0 = p + 1 ∧ (∀ k, 1 ≤ k → k < 13 → σ (601 + k) p 0 = f k) ∧ ∀ j : Nat, j < 4 → σ 0 (p + 1) j = f (20 + j)
def g_leg (f : gC) (a : Int) : Int := if 64 ≤ a ∧ a < 68 then f (20 + (a - 64).toNat) else 0
def g_setLeg (f : gC) (a v : Int) : gC := if 64 ≤ a ∧ a < 68 then c_up f (20 + (a - 64).toNat) v else f
def g_ring (f : gC) : Nat → Bool
  | 0 => false
  | k + 1 => g_ring f k || decide (f (20 + k) = 2)
def g_legs (f : gC) : Nat → Bool
  | 0 => false
  | k + 1 => g_legs f k || decide (¬ f (20 + k) = 0)
def g_open (f : gC) : Prop := f 2 = 1 ∨ f 2 = 2
def g_isCaller (f : gC) (b a r : Int) : Prop := ¬ f 9 = 0 ∧ f 5 = b ∧ f 6 = a ∧ f 7 = r
def g_isCalled (f : gC) (b a r : Int) : Prop := f 10 = b ∧ pb_mul 2 (f 1) = r ∧ ¬ g_leg f a = 0
def g_holds (f : gC) (b c : Int) : Prop := (¬ f 9 = 0 ∧ f 5 = b ∧ f 8 = c) ∨ (f 10 = b ∧ f 11 = c ∧ (g_open f ∨ ¬ g_leg f (f 12) = 0))
section CL
variable {x : pb_E} {σ : pb_H} {T : gT} {E : gE} {μ : pb_H} {b s p : Int} {f : gC} {Q : pb_P} {n : Nat}
theorem q_C (h : g_call σ p f) (fl k : Nat) (hf : fl = 601 + k) (hk : 1 ≤ k ∧ k < 13) : σ fl p 0 = f k := by
  subst hf
  exact h.2.2.2.2.1 k hk.1 hk.2
theorem q_call {i : Nat} (h : RC σ T E μ) (hi : E.2.2[i]? = some f) : g_call σ (σ 0 2 i) f := by
  obtain ⟨a1, a2, a3, a4, a5⟩ := h.2.2.2.2.2.2.2.1
  have hl := (List.getElem?_eq_some_iff.mp hi).1
  obtain ⟨j, b1, b2, b3⟩ := a2 i (by omega) (by omega)
  have c1 := is_C ⟨b1, b2⟩
  have c2 := a4 j b1 b2
  have c3 := a5 i f hi
  rw [b3] at c3 ⊢
  rw [show (158 + 2 * j : Int) = 157 + 2 * j + 1 by omega] at c1 c2
  exact ⟨c1.1, c1.2.1, c1.2.2, c2, c3.1, c3.2⟩
theorem c_C_calledReference (h : g_call σ p f) (hQ : Q (.inl (pb_mul 2 (f 1))) σ) : pb_MJ x i_C_calledReference [.inr p] 213 σ Q := by
  refine pb_m_C_calledReference ?_
  simp only [pb_b_C_calledReference_0, pb_iconst, pb_null, pb_iload, pb_aload, pb_istore, pb_astore, pb_iinc, pb_bin, pb_bin0, pb_dup, pb_pop, pb_dup2, pb_if, pb_icmp, pb_ifnull, pb_getI, pb_getR, pb_putI, pb_putZ, pb_putR, pb_alen, pb_ald, pb_aldR, pb_ast, pb_astZ, pb_astR, pb_vret, pb_iret, pb_zret, pb_aret, pb_cv, pb_cr, pb_sr, pb_switch, pb_sw, pb_nth, pb_set, pb_tk, pb_add, pb_sub, List.length_cons, List.length_nil, true_or, or_true, true_and, and_true, and_self, pb_up_same, pb_up_f, ne_eq, Nat.reduceEqDiff, not_false_eq_true, Nat.reduceAdd, Nat.reduceLeDiff, Nat.zero_le, h.1, q_C h 602 1 rfl ⟨by decide, by decide⟩, q_C h 603 2 rfl ⟨by decide, by decide⟩, q_C h 604 3 rfl ⟨by decide, by decide⟩, q_C h 605 4 rfl ⟨by decide, by decide⟩, q_C h 606 5 rfl ⟨by decide, by decide⟩, q_C h 607 6 rfl ⟨by decide, by decide⟩, q_C h 608 7 rfl ⟨by decide, by decide⟩, q_C h 609 8 rfl ⟨by decide, by decide⟩, q_C h 610 9 rfl ⟨by decide, by decide⟩, q_C h 611 10 rfl ⟨by decide, by decide⟩, q_C h 612 11 rfl ⟨by decide, by decide⟩, q_C h 613 12 rfl ⟨by decide, by decide⟩]
  exact hQ
theorem c_C_isUnanswered (h : g_call σ p f) (h1 : g_open f → Q (.inl 1) σ) (h0 : ¬ g_open f → Q (.inl 0) σ) : pb_MJ x i_C_isUnanswered [.inr p] 213 σ Q := by
  refine pb_m_C_isUnanswered ?_
  simp only [pb_b_C_isUnanswered_0, pb_b_C_isUnanswered_16, pb_b_C_isUnanswered_20, pb_b_C_isUnanswered_21, pb_iconst, pb_null, pb_iload, pb_aload, pb_istore, pb_astore, pb_iinc, pb_bin, pb_bin0, pb_dup, pb_pop, pb_dup2, pb_if, pb_icmp, pb_ifnull, pb_getI, pb_getR, pb_putI, pb_putZ, pb_putR, pb_alen, pb_ald, pb_aldR, pb_ast, pb_astZ, pb_astR, pb_vret, pb_iret, pb_zret, pb_aret, pb_cv, pb_cr, pb_sr, pb_switch, pb_sw, pb_nth, pb_set, pb_tk, pb_add, pb_sub, List.length_cons, List.length_nil, true_or, or_true, true_and, and_true, and_self, pb_up_same, pb_up_f, ne_eq, Nat.reduceEqDiff, not_false_eq_true, Nat.reduceAdd, Nat.reduceLeDiff, Nat.zero_le, h.1, q_C h 602 1 rfl ⟨by decide, by decide⟩, q_C h 603 2 rfl ⟨by decide, by decide⟩, q_C h 604 3 rfl ⟨by decide, by decide⟩, q_C h 605 4 rfl ⟨by decide, by decide⟩, q_C h 606 5 rfl ⟨by decide, by decide⟩, q_C h 607 6 rfl ⟨by decide, by decide⟩, q_C h 608 7 rfl ⟨by decide, by decide⟩, q_C h 609 8 rfl ⟨by decide, by decide⟩, q_C h 610 9 rfl ⟨by decide, by decide⟩, q_C h 611 10 rfl ⟨by decide, by decide⟩, q_C h 612 11 rfl ⟨by decide, by decide⟩, q_C h 613 12 rfl ⟨by decide, by decide⟩]
  exact ⟨fun z => h1 (Or.inl z), fun z => ⟨fun z2 => h0 (by unfold g_open; omega), fun z2 => h1 (Or.inr (by omega))⟩⟩
theorem c_C_legOf {a : Int} (h : g_call σ p f) (ha : pb_R a) (hQ : Q (.inl (g_leg f a)) σ) : pb_MJ x i_C_legOf [.inr p, .inl a] 213 σ Q := by
  refine pb_m_C_legOf ?_
  simp only [pb_b_C_legOf_0, pb_b_C_legOf_23, pb_b_C_legOf_24, pb_iconst, pb_null, pb_iload, pb_aload, pb_istore, pb_astore, pb_iinc, pb_bin, pb_bin0, pb_dup, pb_pop, pb_dup2, pb_if, pb_icmp, pb_ifnull, pb_getI, pb_getR, pb_putI, pb_putZ, pb_putR, pb_alen, pb_ald, pb_aldR, pb_ast, pb_astZ, pb_astR, pb_vret, pb_iret, pb_zret, pb_aret, pb_cv, pb_cr, pb_sr, pb_switch, pb_sw, pb_nth, pb_set, pb_tk, pb_add, pb_sub, List.length_cons, List.length_nil, true_or, or_true, true_and, and_true, and_self, pb_up_same, pb_up_f, ne_eq, Nat.reduceEqDiff, not_false_eq_true, Nat.reduceAdd, Nat.reduceLeDiff, Nat.zero_le, h.1, h.2.1, h.2.2.1, h.2.2.2.1]
  unfold g_leg at hQ
  by_cases hw : 64 ≤ a ∧ a < 68
  · rw [if_pos hw] at hQ
    rw [(g_w64 ha).1 hw]
    refine ⟨fun z => absurd z (by omega), fun _ => ⟨fun z => absurd z (by omega), fun _ => ⟨⟨by omega, by omega⟩, ?_⟩⟩⟩
    have h2 := h.2.2.2.2.2 (a - 64).toNat (by omega)
    rw [Int.toNat_of_nonneg (by omega)] at h2
    rw [h2]
    exact hQ
  · rw [if_neg hw] at hQ
    have e := (g_w64 ha).2 hw
    exact ⟨fun _ => hQ, fun e1 => ⟨fun _ => hQ, fun e2 => absurd e (by omega)⟩⟩
theorem l_C_isRinging (h : g_call σ p f) (h1 : g_ring f 4 = true → Q (.inl 1) σ) (h0 : g_ring f 4 = false → Q (.inl 0) σ) : ∀ (d k : Nat), k + d = 4 → g_ring f k = false → ∀ (o : Option pb_V), pb_WJ x i_C_isRinging 213 Q 10 [some (.inr p), some (.inr (p + 1)), some (.inl 4), some (.inl k), o] [] 213 σ := by
  intro d
  induction d with
  | zero =>
    intro k hk he o
    obtain rfl : k = 4 := by omega
    refine pb_s_C_isRinging_10 x 213 Q _ _ _ _ ?_
    simp only [pb_b_C_isRinging_0, pb_b_C_isRinging_10, pb_b_C_isRinging_28, pb_b_C_isRinging_34, pb_iconst, pb_null, pb_iload, pb_aload, pb_istore, pb_astore, pb_iinc, pb_bin, pb_bin0, pb_dup, pb_pop, pb_dup2, pb_if, pb_icmp, pb_ifnull, pb_getI, pb_getR, pb_putI, pb_putZ, pb_putR, pb_alen, pb_ald, pb_aldR, pb_ast, pb_astZ, pb_astR, pb_vret, pb_iret, pb_zret, pb_aret, pb_cv, pb_cr, pb_sr, pb_switch, pb_sw, pb_nth, pb_set, pb_tk, pb_add, pb_sub, List.length_cons, List.length_nil, true_or, or_true, true_and, and_true, and_self, pb_up_same, pb_up_f, ne_eq, Nat.reduceEqDiff, not_false_eq_true, Nat.reduceAdd, Nat.reduceLeDiff, Nat.zero_le]
    exact ⟨fun _ => h0 he, fun z => absurd z (by omega)⟩
  | succ d ih =>
    intro k hk he o
    refine pb_s_C_isRinging_10 x 213 Q _ _ _ _ ?_
    have e : pb_w ((k : Int) + 1) = ((k + 1 : Nat) : Int) := by rw [pb_w_id (by unfold pb_R; omega)]; omega
    simp only [pb_b_C_isRinging_0, pb_b_C_isRinging_10, pb_b_C_isRinging_28, pb_b_C_isRinging_34, pb_iconst, pb_null, pb_iload, pb_aload, pb_istore, pb_astore, pb_iinc, pb_bin, pb_bin0, pb_dup, pb_pop, pb_dup2, pb_if, pb_icmp, pb_ifnull, pb_getI, pb_getR, pb_putI, pb_putZ, pb_putR, pb_alen, pb_ald, pb_aldR, pb_ast, pb_astZ, pb_astR, pb_vret, pb_iret, pb_zret, pb_aret, pb_cv, pb_cr, pb_sr, pb_switch, pb_sw, pb_nth, pb_set, pb_tk, pb_add, pb_sub, List.length_cons, List.length_nil, true_or, or_true, true_and, and_true, and_self, pb_up_same, pb_up_f, ne_eq, Nat.reduceEqDiff, not_false_eq_true, Nat.reduceAdd, Nat.reduceLeDiff, Nat.zero_le, h.2.1, h.2.2.1, h.2.2.2.2.2 k (by omega), e]
    refine ⟨fun z => absurd z (by omega), fun _ => ⟨⟨by omega, by omega⟩, fun z => ?_, fun z => h1 ?_⟩⟩
    · refine ih (k + 1) (by omega) ?_ _
      unfold g_ring
      rw [he, Bool.false_or]
      exact decide_eq_false z
    · have hk1 : g_ring f (k + 1) = true := by
        unfold g_ring
        rw [decide_eq_true (Decidable.not_not.mp z), Bool.or_true]
      have mono : ∀ j, k + 1 ≤ j → g_ring f j = true := by
        intro j hj
        induction j with
        | zero => omega
        | succ j ihj =>
          by_cases hj2 : k + 1 ≤ j
          · unfold g_ring
            rw [ihj hj2, Bool.true_or]
          · obtain rfl : j = k := by omega
            exact hk1
      exact mono 4 (by omega)
theorem c_C_isRinging (h : g_call σ p f) (h1 : g_ring f 4 = true → Q (.inl 1) σ) (h0 : g_ring f 4 = false → Q (.inl 0) σ) : pb_MJ x i_C_isRinging [.inr p] 213 σ Q := by
  refine pb_m_C_isRinging ?_
  simp only [pb_b_C_isRinging_0, pb_b_C_isRinging_10, pb_b_C_isRinging_28, pb_b_C_isRinging_34, pb_iconst, pb_null, pb_iload, pb_aload, pb_istore, pb_astore, pb_iinc, pb_bin, pb_bin0, pb_dup, pb_pop, pb_dup2, pb_if, pb_icmp, pb_ifnull, pb_getI, pb_getR, pb_putI, pb_putZ, pb_putR, pb_alen, pb_ald, pb_aldR, pb_ast, pb_astZ, pb_astR, pb_vret, pb_iret, pb_zret, pb_aret, pb_cv, pb_cr, pb_sr, pb_switch, pb_sw, pb_nth, pb_set, pb_tk, pb_add, pb_sub, List.length_cons, List.length_nil, true_or, or_true, true_and, and_true, and_self, pb_up_same, pb_up_f, ne_eq, Nat.reduceEqDiff, not_false_eq_true, Nat.reduceAdd, Nat.reduceLeDiff, Nat.zero_le, h.1, h.2.1, h.2.2.1, h.2.2.2.1]
  exact l_C_isRinging h h1 h0 4 0 rfl rfl none
theorem l_C_hasAnyLeg (h : g_call σ p f) (h1 : g_legs f 4 = true → Q (.inl 1) σ) (h0 : g_legs f 4 = false → Q (.inl 0) σ) : ∀ (d k : Nat), k + d = 4 → g_legs f k = false → ∀ (o : Option pb_V), pb_WJ x i_C_hasAnyLeg 213 Q 19 [some (.inr p), some (.inr (p + 1)), some (.inl 4), some (.inl k), o] [] 213 σ := by
  intro d
  induction d with
  | zero =>
    intro k hk he o
    obtain rfl : k = 4 := by omega
    refine pb_s_C_hasAnyLeg_19 x 213 Q _ _ _ _ ?_
    simp only [pb_b_C_hasAnyLeg_0, pb_b_C_hasAnyLeg_9, pb_b_C_hasAnyLeg_19, pb_b_C_hasAnyLeg_36, pb_b_C_hasAnyLeg_42, pb_iconst, pb_null, pb_iload, pb_aload, pb_istore, pb_astore, pb_iinc, pb_bin, pb_bin0, pb_dup, pb_pop, pb_dup2, pb_if, pb_icmp, pb_ifnull, pb_getI, pb_getR, pb_putI, pb_putZ, pb_putR, pb_alen, pb_ald, pb_aldR, pb_ast, pb_astZ, pb_astR, pb_vret, pb_iret, pb_zret, pb_aret, pb_cv, pb_cr, pb_sr, pb_switch, pb_sw, pb_nth, pb_set, pb_tk, pb_add, pb_sub, List.length_cons, List.length_nil, true_or, or_true, true_and, and_true, and_self, pb_up_same, pb_up_f, ne_eq, Nat.reduceEqDiff, not_false_eq_true, Nat.reduceAdd, Nat.reduceLeDiff, Nat.zero_le]
    exact ⟨fun _ => h0 he, fun z => absurd z (by omega)⟩
  | succ d ih =>
    intro k hk he o
    refine pb_s_C_hasAnyLeg_19 x 213 Q _ _ _ _ ?_
    have e : pb_w ((k : Int) + 1) = ((k + 1 : Nat) : Int) := by rw [pb_w_id (by unfold pb_R; omega)]; omega
    simp only [pb_b_C_hasAnyLeg_0, pb_b_C_hasAnyLeg_9, pb_b_C_hasAnyLeg_19, pb_b_C_hasAnyLeg_36, pb_b_C_hasAnyLeg_42, pb_iconst, pb_null, pb_iload, pb_aload, pb_istore, pb_astore, pb_iinc, pb_bin, pb_bin0, pb_dup, pb_pop, pb_dup2, pb_if, pb_icmp, pb_ifnull, pb_getI, pb_getR, pb_putI, pb_putZ, pb_putR, pb_alen, pb_ald, pb_aldR, pb_ast, pb_astZ, pb_astR, pb_vret, pb_iret, pb_zret, pb_aret, pb_cv, pb_cr, pb_sr, pb_switch, pb_sw, pb_nth, pb_set, pb_tk, pb_add, pb_sub, List.length_cons, List.length_nil, true_or, or_true, true_and, and_true, and_self, pb_up_same, pb_up_f, ne_eq, Nat.reduceEqDiff, not_false_eq_true, Nat.reduceAdd, Nat.reduceLeDiff, Nat.zero_le, h.2.1, h.2.2.1, h.2.2.2.2.2 k (by omega), e]
    refine ⟨fun z => absurd z (by omega), fun _ => ⟨⟨by omega, by omega⟩, fun z => ?_, fun z => h1 ?_⟩⟩
    · refine ih (k + 1) (by omega) ?_ _
      unfold g_legs
      rw [he, Bool.false_or]
      exact decide_eq_false (fun q => q z)
    · have hk1 : g_legs f (k + 1) = true := by
        unfold g_legs
        rw [decide_eq_true z, Bool.or_true]
      have mono : ∀ j, k + 1 ≤ j → g_legs f j = true := by
        intro j hj
        induction j with
        | zero => omega
        | succ j ihj =>
          by_cases hj2 : k + 1 ≤ j
          · unfold g_legs
            rw [ihj hj2, Bool.true_or]
          · obtain rfl : j = k := by omega
            exact hk1
      exact mono 4 (by omega)
/-- a call with a leg left -/
def g_alive (f : gC) : Bool := decide (¬ f 9 = 0) || g_legs f 4
theorem c_C_hasAnyLeg (h : g_call σ p f) (h1 : g_alive f = true → Q (.inl 1) σ) (h0 : g_alive f = false → Q (.inl 0) σ) : pb_MJ x i_C_hasAnyLeg [.inr p] 213 σ Q := by
  refine pb_m_C_hasAnyLeg ?_
  simp only [pb_b_C_hasAnyLeg_0, pb_b_C_hasAnyLeg_9, pb_b_C_hasAnyLeg_19, pb_b_C_hasAnyLeg_36, pb_b_C_hasAnyLeg_42, pb_iconst, pb_null, pb_iload, pb_aload, pb_istore, pb_astore, pb_iinc, pb_bin, pb_bin0, pb_dup, pb_pop, pb_dup2, pb_if, pb_icmp, pb_ifnull, pb_getI, pb_getR, pb_putI, pb_putZ, pb_putR, pb_alen, pb_ald, pb_aldR, pb_ast, pb_astZ, pb_astR, pb_vret, pb_iret, pb_zret, pb_aret, pb_cv, pb_cr, pb_sr, pb_switch, pb_sw, pb_nth, pb_set, pb_tk, pb_add, pb_sub, List.length_cons, List.length_nil, true_or, or_true, true_and, and_true, and_self, pb_up_same, pb_up_f, ne_eq, Nat.reduceEqDiff, not_false_eq_true, Nat.reduceAdd, Nat.reduceLeDiff, Nat.zero_le, h.1, h.2.1, h.2.2.1, h.2.2.2.1, q_C h 602 1 rfl ⟨by decide, by decide⟩, q_C h 603 2 rfl ⟨by decide, by decide⟩, q_C h 604 3 rfl ⟨by decide, by decide⟩, q_C h 605 4 rfl ⟨by decide, by decide⟩, q_C h 606 5 rfl ⟨by decide, by decide⟩, q_C h 607 6 rfl ⟨by decide, by decide⟩, q_C h 608 7 rfl ⟨by decide, by decide⟩, q_C h 609 8 rfl ⟨by decide, by decide⟩, q_C h 610 9 rfl ⟨by decide, by decide⟩, q_C h 611 10 rfl ⟨by decide, by decide⟩, q_C h 612 11 rfl ⟨by decide, by decide⟩, q_C h 613 12 rfl ⟨by decide, by decide⟩]
  unfold g_alive at h1 h0
  refine ⟨fun z => ?_, fun z => h1 (by rw [decide_eq_true z, Bool.true_or])⟩
  rw [decide_eq_false (fun q => q z), Bool.false_or] at h1 h0
  exact l_C_hasAnyLeg h h1 h0 4 0 rfl rfl none
theorem c_C_isCaller {q a r : Int} (h : g_call σ p f) (hq : pb_is 3 213 q) (e2 : σ 302 q 0 = a) (e3 : σ 303 q 0 = r) (h1 : g_isCaller f b a r → Q (.inl 1) σ) (h0 : ¬ g_isCaller f b a r → Q (.inl 0) σ) : pb_MJ x i_C_isCaller [.inr p, .inl b, .inr q] 213 σ Q := by
  refine pb_m_C_isCaller ?_
  simp only [pb_b_C_isCaller_0, pb_b_C_isCaller_41, pb_b_C_isCaller_42, pb_iconst, pb_null, pb_iload, pb_aload, pb_istore, pb_astore, pb_iinc, pb_bin, pb_bin0, pb_dup, pb_pop, pb_dup2, pb_if, pb_icmp, pb_ifnull, pb_getI, pb_getR, pb_putI, pb_putZ, pb_putR, pb_alen, pb_ald, pb_aldR, pb_ast, pb_astZ, pb_astR, pb_vret, pb_iret, pb_zret, pb_aret, pb_cv, pb_cr, pb_sr, pb_switch, pb_sw, pb_nth, pb_set, pb_tk, pb_add, pb_sub, List.length_cons, List.length_nil, true_or, or_true, true_and, and_true, and_self, pb_up_same, pb_up_f, ne_eq, Nat.reduceEqDiff, not_false_eq_true, Nat.reduceAdd, Nat.reduceLeDiff, Nat.zero_le, h.1, q_C h 602 1 rfl ⟨by decide, by decide⟩, q_C h 603 2 rfl ⟨by decide, by decide⟩, q_C h 604 3 rfl ⟨by decide, by decide⟩, q_C h 605 4 rfl ⟨by decide, by decide⟩, q_C h 606 5 rfl ⟨by decide, by decide⟩, q_C h 607 6 rfl ⟨by decide, by decide⟩, q_C h 608 7 rfl ⟨by decide, by decide⟩, q_C h 609 8 rfl ⟨by decide, by decide⟩, q_C h 610 9 rfl ⟨by decide, by decide⟩, q_C h 611 10 rfl ⟨by decide, by decide⟩, q_C h 612 11 rfl ⟨by decide, by decide⟩, q_C h 613 12 rfl ⟨by decide, by decide⟩, hq, e2, e3]
  unfold g_isCaller at h1 h0
  exact ⟨fun z => h0 (by omega), fun z => ⟨fun z2 => h0 (by omega), fun z2 => ⟨fun z3 => h0 (by omega), fun z3 => ⟨fun z4 => h0 (by omega), fun z4 => h1 (by omega)⟩⟩⟩⟩
theorem c_C_isCalled {q a r : Int} (h : g_call σ p f) (hq : pb_is 3 213 q) (e2 : σ 302 q 0 = a) (e3 : σ 303 q 0 = r) (ha : pb_R a) (h1 : g_isCalled f b a r → Q (.inl 1) σ) (h0 : ¬ g_isCalled f b a r → Q (.inl 0) σ) : pb_MJ x i_C_isCalled [.inr p, .inl b, .inr q] 213 σ Q := by
  refine pb_m_C_isCalled ?_
  simp only [pb_b_C_isCalled_0, pb_b_C_isCalled_34, pb_b_C_isCalled_35, pb_iconst, pb_null, pb_iload, pb_aload, pb_istore, pb_astore, pb_iinc, pb_bin, pb_bin0, pb_dup, pb_pop, pb_dup2, pb_if, pb_icmp, pb_ifnull, pb_getI, pb_getR, pb_putI, pb_putZ, pb_putR, pb_alen, pb_ald, pb_aldR, pb_ast, pb_astZ, pb_astR, pb_vret, pb_iret, pb_zret, pb_aret, pb_cv, pb_cr, pb_sr, pb_switch, pb_sw, pb_nth, pb_set, pb_tk, pb_add, pb_sub, List.length_cons, List.length_nil, true_or, or_true, true_and, and_true, and_self, pb_up_same, pb_up_f, ne_eq, Nat.reduceEqDiff, not_false_eq_true, Nat.reduceAdd, Nat.reduceLeDiff, Nat.zero_le, h.1, q_C h 602 1 rfl ⟨by decide, by decide⟩, q_C h 603 2 rfl ⟨by decide, by decide⟩, q_C h 604 3 rfl ⟨by decide, by decide⟩, q_C h 605 4 rfl ⟨by decide, by decide⟩, q_C h 606 5 rfl ⟨by decide, by decide⟩, q_C h 607 6 rfl ⟨by decide, by decide⟩, q_C h 608 7 rfl ⟨by decide, by decide⟩, q_C h 609 8 rfl ⟨by decide, by decide⟩, q_C h 610 9 rfl ⟨by decide, by decide⟩, q_C h 611 10 rfl ⟨by decide, by decide⟩, q_C h 612 11 rfl ⟨by decide, by decide⟩, q_C h 613 12 rfl ⟨by decide, by decide⟩, hq, e2, e3]
  unfold g_isCalled at h1 h0
  refine ⟨fun z => h0 (by omega), fun z => c_C_calledReference h ?_⟩
  try simp only [pb_iconst, pb_null, pb_iload, pb_aload, pb_istore, pb_astore, pb_iinc, pb_bin, pb_bin0, pb_dup, pb_pop, pb_dup2, pb_if, pb_icmp, pb_ifnull, pb_getI, pb_getR, pb_putI, pb_putZ, pb_putR, pb_alen, pb_ald, pb_aldR, pb_ast, pb_astZ, pb_astR, pb_vret, pb_iret, pb_zret, pb_aret, pb_cv, pb_cr, pb_sr, pb_switch, pb_sw, pb_nth, pb_set, pb_tk, pb_add, pb_sub, List.length_cons, List.length_nil, true_or, or_true, true_and, and_true, and_self, pb_up_same, pb_up_f, ne_eq, Nat.reduceEqDiff, not_false_eq_true, Nat.reduceAdd, Nat.reduceLeDiff, Nat.zero_le, h.1, hq, e2, e3]
  refine ⟨fun z2 => h0 (by omega), fun z2 => c_C_legOf h ha ?_⟩
  try simp only [pb_iconst, pb_null, pb_iload, pb_aload, pb_istore, pb_astore, pb_iinc, pb_bin, pb_bin0, pb_dup, pb_pop, pb_dup2, pb_if, pb_icmp, pb_ifnull, pb_getI, pb_getR, pb_putI, pb_putZ, pb_putR, pb_alen, pb_ald, pb_aldR, pb_ast, pb_astZ, pb_astR, pb_vret, pb_iret, pb_zret, pb_aret, pb_cv, pb_cr, pb_sr, pb_switch, pb_sw, pb_nth, pb_set, pb_tk, pb_add, pb_sub, List.length_cons, List.length_nil, true_or, or_true, true_and, and_true, and_self, pb_up_same, pb_up_f, ne_eq, Nat.reduceEqDiff, not_false_eq_true, Nat.reduceAdd, Nat.reduceLeDiff, Nat.zero_le]
  exact ⟨fun z3 => h0 (by omega), fun z3 => h1 (by omega)⟩
theorem c_C_holds {c : Int} (h : g_call σ p f) (ha : pb_R (f 12)) (h1 : g_holds f b c → Q (.inl 1) σ) (h0 : ¬ g_holds f b c → Q (.inl 0) σ) : pb_MJ x i_C_holds [.inr p, .inl b, .inl c] 213 σ Q := by
  refine pb_m_C_holds ?_
  have key : ¬ (¬ f 9 = 0 ∧ f 5 = b ∧ f 8 = c) → pb_b_C_holds_25 x 213 Q [some (.inr p), some (.inl b), some (.inl c)] [] 213 σ := by
    intro n1
    simp only [pb_b_C_holds_25, pb_b_C_holds_59, pb_b_C_holds_63, pb_b_C_holds_64, pb_iconst, pb_null, pb_iload, pb_aload, pb_istore, pb_astore, pb_iinc, pb_bin, pb_bin0, pb_dup, pb_pop, pb_dup2, pb_if, pb_icmp, pb_ifnull, pb_getI, pb_getR, pb_putI, pb_putZ, pb_putR, pb_alen, pb_ald, pb_aldR, pb_ast, pb_astZ, pb_astR, pb_vret, pb_iret, pb_zret, pb_aret, pb_cv, pb_cr, pb_sr, pb_switch, pb_sw, pb_nth, pb_set, pb_tk, pb_add, pb_sub, List.length_cons, List.length_nil, true_or, or_true, true_and, and_true, and_self, pb_up_same, pb_up_f, ne_eq, Nat.reduceEqDiff, not_false_eq_true, Nat.reduceAdd, Nat.reduceLeDiff, Nat.zero_le, h.1, q_C h 602 1 rfl ⟨by decide, by decide⟩, q_C h 603 2 rfl ⟨by decide, by decide⟩, q_C h 604 3 rfl ⟨by decide, by decide⟩, q_C h 605 4 rfl ⟨by decide, by decide⟩, q_C h 606 5 rfl ⟨by decide, by decide⟩, q_C h 607 6 rfl ⟨by decide, by decide⟩, q_C h 608 7 rfl ⟨by decide, by decide⟩, q_C h 609 8 rfl ⟨by decide, by decide⟩, q_C h 610 9 rfl ⟨by decide, by decide⟩, q_C h 611 10 rfl ⟨by decide, by decide⟩, q_C h 612 11 rfl ⟨by decide, by decide⟩, q_C h 613 12 rfl ⟨by decide, by decide⟩]
    unfold g_holds at h1 h0
    refine ⟨fun z => h0 (by omega), fun z => ⟨fun z2 => h0 (by omega), fun z2 => c_C_isUnanswered h (fun ho => ?_) (fun ho => ?_)⟩⟩
    · try simp only [pb_iconst, pb_null, pb_iload, pb_aload, pb_istore, pb_astore, pb_iinc, pb_bin, pb_bin0, pb_dup, pb_pop, pb_dup2, pb_if, pb_icmp, pb_ifnull, pb_getI, pb_getR, pb_putI, pb_putZ, pb_putR, pb_alen, pb_ald, pb_aldR, pb_ast, pb_astZ, pb_astR, pb_vret, pb_iret, pb_zret, pb_aret, pb_cv, pb_cr, pb_sr, pb_switch, pb_sw, pb_nth, pb_set, pb_tk, pb_add, pb_sub, List.length_cons, List.length_nil, true_or, or_true, true_and, and_true, and_self, pb_up_same, pb_up_f, ne_eq, Nat.reduceEqDiff, not_false_eq_true, Nat.reduceAdd, Nat.reduceLeDiff, Nat.zero_le, h.1]
      exact ⟨fun _ => h1 (Or.inr ⟨by omega, by omega, Or.inl ho⟩), fun q => by simp at q⟩
    · try simp only [pb_iconst, pb_null, pb_iload, pb_aload, pb_istore, pb_astore, pb_iinc, pb_bin, pb_bin0, pb_dup, pb_pop, pb_dup2, pb_if, pb_icmp, pb_ifnull, pb_getI, pb_getR, pb_putI, pb_putZ, pb_putR, pb_alen, pb_ald, pb_aldR, pb_ast, pb_astZ, pb_astR, pb_vret, pb_iret, pb_zret, pb_aret, pb_cv, pb_cr, pb_sr, pb_switch, pb_sw, pb_nth, pb_set, pb_tk, pb_add, pb_sub, List.length_cons, List.length_nil, true_or, or_true, true_and, and_true, and_self, pb_up_same, pb_up_f, ne_eq, Nat.reduceEqDiff, not_false_eq_true, Nat.reduceAdd, Nat.reduceLeDiff, Nat.zero_le, h.1, q_C h 602 1 rfl ⟨by decide, by decide⟩, q_C h 603 2 rfl ⟨by decide, by decide⟩, q_C h 604 3 rfl ⟨by decide, by decide⟩, q_C h 605 4 rfl ⟨by decide, by decide⟩, q_C h 606 5 rfl ⟨by decide, by decide⟩, q_C h 607 6 rfl ⟨by decide, by decide⟩, q_C h 608 7 rfl ⟨by decide, by decide⟩, q_C h 609 8 rfl ⟨by decide, by decide⟩, q_C h 610 9 rfl ⟨by decide, by decide⟩, q_C h 611 10 rfl ⟨by decide, by decide⟩, q_C h 612 11 rfl ⟨by decide, by decide⟩, q_C h 613 12 rfl ⟨by decide, by decide⟩]
      refine ⟨fun q => by simp at q, fun _ => c_C_legOf h ha ?_⟩
      try simp only [pb_iconst, pb_null, pb_iload, pb_aload, pb_istore, pb_astore, pb_iinc, pb_bin, pb_bin0, pb_dup, pb_pop, pb_dup2, pb_if, pb_icmp, pb_ifnull, pb_getI, pb_getR, pb_putI, pb_putZ, pb_putR, pb_alen, pb_ald, pb_aldR, pb_ast, pb_astZ, pb_astR, pb_vret, pb_iret, pb_zret, pb_aret, pb_cv, pb_cr, pb_sr, pb_switch, pb_sw, pb_nth, pb_set, pb_tk, pb_add, pb_sub, List.length_cons, List.length_nil, true_or, or_true, true_and, and_true, and_self, pb_up_same, pb_up_f, ne_eq, Nat.reduceEqDiff, not_false_eq_true, Nat.reduceAdd, Nat.reduceLeDiff, Nat.zero_le]
      refine ⟨fun z3 => h0 ?_, fun z3 => h1 (Or.inr ⟨by omega, by omega, Or.inr z3⟩)⟩
      rintro (q | ⟨-, -, q | q⟩)
      · exact n1 q
      · exact ho q
      · exact q z3
  simp only [pb_b_C_holds_0, pb_iconst, pb_null, pb_iload, pb_aload, pb_istore, pb_astore, pb_iinc, pb_bin, pb_bin0, pb_dup, pb_pop, pb_dup2, pb_if, pb_icmp, pb_ifnull, pb_getI, pb_getR, pb_putI, pb_putZ, pb_putR, pb_alen, pb_ald, pb_aldR, pb_ast, pb_astZ, pb_astR, pb_vret, pb_iret, pb_zret, pb_aret, pb_cv, pb_cr, pb_sr, pb_switch, pb_sw, pb_nth, pb_set, pb_tk, pb_add, pb_sub, List.length_cons, List.length_nil, true_or, or_true, true_and, and_true, and_self, pb_up_same, pb_up_f, ne_eq, Nat.reduceEqDiff, not_false_eq_true, Nat.reduceAdd, Nat.reduceLeDiff, Nat.zero_le, h.1, q_C h 602 1 rfl ⟨by decide, by decide⟩, q_C h 603 2 rfl ⟨by decide, by decide⟩, q_C h 604 3 rfl ⟨by decide, by decide⟩, q_C h 605 4 rfl ⟨by decide, by decide⟩, q_C h 606 5 rfl ⟨by decide, by decide⟩, q_C h 607 6 rfl ⟨by decide, by decide⟩, q_C h 608 7 rfl ⟨by decide, by decide⟩, q_C h 609 8 rfl ⟨by decide, by decide⟩, q_C h 610 9 rfl ⟨by decide, by decide⟩, q_C h 611 10 rfl ⟨by decide, by decide⟩, q_C h 612 11 rfl ⟨by decide, by decide⟩, q_C h 613 12 rfl ⟨by decide, by decide⟩]
  exact ⟨fun z => key (by omega), fun z => ⟨fun z2 => key (by omega), fun z2 => ⟨fun z3 => key (by omega), fun z3 => h1 (Or.inl (by omega))⟩⟩⟩
end CL
