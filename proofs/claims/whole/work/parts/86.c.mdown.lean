/-! a frame goes down, on the other side -/
section MDN
variable {x : pb_E} {σ σ' : pb_H} {T Tm : gT} {E : gE} {w : gW} {ν : pb_H} {b a s t u r : Int} {Q : pb_P} {i : Nat} {n : Int} {v : Int → Int} {m : Nat} {f : gF} {l : List gF}
theorem l_M_downH {l2 : pb_V} {sp rc : Int} (hb : 0 ≤ b ∧ b < 2) (h7 : 7 ≤ f.1) (hsp : ¬ sp = 0) (hQ : ∀ σ', RM σ' (g_it (g_hear1 f) b T 4) E w ν → Q (.inl 0) σ') : ∀ (d k : Nat), k + d = 4 → ∀ σ : pb_H, RM σ (g_it (g_hear1 f) b T k) E w ν → pb_WJ x i_M_downStep 213 Q 91 [some (.inr 165), some (.inl b), some l2, some (.inl f.1), some (.inl f.2.1), some (.inl f.2.2.1), some (.inl f.2.2.2.1), some (.inl sp), some (.inl rc), some (.inl (4 * b + k))] [] 213 σ := by
  intro d
  have e0 : pb_mul 4 b = 4 * b := by unfold pb_mul; exact pb_w_id (by unfold pb_R; omega)
  have e1 : pb_w (4 * b + 4) = 4 * b + 4 := pb_w_id (by unfold pb_R; omega)
  induction d with
  | zero =>
    intro k hk σ h
    obtain rfl : k = 4 := by omega
    refine pb_s_M_downStep_91 x 213 Q _ _ _ _ ?_
    simp only [pb_b_M_downStep_91, pb_b_M_downStep_220, pb_iconst, pb_null, pb_iload, pb_aload, pb_istore, pb_astore, pb_iinc, pb_bin, pb_bin0, pb_dup, pb_pop, pb_dup2, pb_if, pb_icmp, pb_ifnull, pb_getI, pb_getR, pb_putI, pb_putZ, pb_putR, pb_alen, pb_ald, pb_aldR, pb_ast, pb_astZ, pb_astR, pb_vret, pb_iret, pb_zret, pb_aret, pb_cv, pb_cr, pb_sr, pb_switch, pb_sw, pb_nth, pb_set, pb_tk, pb_add, pb_sub, List.length_cons, List.length_nil, true_or, or_true, true_and, and_true, and_self, pb_up_same, pb_up_f, ne_eq, Nat.reduceEqDiff, not_false_eq_true, Nat.reduceAdd, Nat.reduceLeDiff, Nat.zero_le, e0, e1]
    exact ⟨fun _ => ⟨fun z => absurd z (by omega), fun _ => hQ _ h⟩, fun z => absurd z (by omega)⟩
  | succ d ih =>
    intro k hk σ h
    have ht : 0 ≤ 4 * b + (k : Int) ∧ 4 * b + (k : Int) < 8 := by omega
    have e : pb_w (4 * b + (k : Int) + 1) = 4 * b + ((k + 1 : Nat) : Int) := by rw [pb_w_id (by unfold pb_R; omega)]; omega
    have a1 := m_T h 166 1 rfl ⟨by decide, by decide⟩ ht (Or.inr (by unfold g_mu; decide))
    have es : g_it (g_hear1 f) b T (k + 1) = if (g_it (g_hear1 f) b T k).1 1 (4 * b + k) = 0 then g_it (g_hear1 f) b T k else gt_hear (g_it (g_hear1 f) b T k) (4 * b + k) f := rfl
    refine pb_s_M_downStep_91 x 213 Q _ _ _ _ ?_
    simp only [pb_b_M_downStep_91, pb_iconst, pb_null, pb_iload, pb_aload, pb_istore, pb_astore, pb_iinc, pb_bin, pb_bin0, pb_dup, pb_pop, pb_dup2, pb_if, pb_icmp, pb_ifnull, pb_getI, pb_getR, pb_putI, pb_putZ, pb_putR, pb_alen, pb_ald, pb_aldR, pb_ast, pb_astZ, pb_astR, pb_vret, pb_iret, pb_zret, pb_aret, pb_cv, pb_cr, pb_sr, pb_switch, pb_sw, pb_nth, pb_set, pb_tk, pb_add, pb_sub, List.length_cons, List.length_nil, true_or, or_true, true_and, and_true, and_self, pb_up_same, pb_up_f, ne_eq, Nat.reduceEqDiff, not_false_eq_true, Nat.reduceAdd, Nat.reduceLeDiff, Nat.zero_le, is_M, mf_there h.1, mk_there, ml_there, a1, ht, e0, e1]
    refine ⟨fun z => absurd z (by omega), fun _ => ⟨fun z => absurd z hsp, fun _ => ⟨fun z => ?_, fun z => ⟨fun z2 => absurd z2 (by omega), fun _ => ?_⟩⟩⟩⟩
    · simp only [pb_b_M_downStep_138, pb_b_M_downStep_214, pb_iconst, pb_null, pb_iload, pb_aload, pb_istore, pb_astore, pb_iinc, pb_bin, pb_bin0, pb_dup, pb_pop, pb_dup2, pb_if, pb_icmp, pb_ifnull, pb_getI, pb_getR, pb_putI, pb_putZ, pb_putR, pb_alen, pb_ald, pb_aldR, pb_ast, pb_astZ, pb_astR, pb_vret, pb_iret, pb_zret, pb_aret, pb_cv, pb_cr, pb_sr, pb_switch, pb_sw, pb_nth, pb_set, pb_tk, pb_add, pb_sub, List.length_cons, List.length_nil, true_or, or_true, true_and, and_true, and_self, pb_up_same, pb_up_f, ne_eq, Nat.reduceEqDiff, not_false_eq_true, Nat.reduceAdd, Nat.reduceLeDiff, Nat.zero_le, is_M, mf_there h.1, mk_there, ml_there, a1, ht, e]
      refine ⟨fun _ => ih (k + 1) (by omega) σ ?_, fun z2 => absurd z z2⟩
      rw [es, if_pos z]
      exact h
    · refine c_M_hears h ht z (fun σ1 h1 => ?_)
      simp only [pb_b_M_downStep_214, pb_iconst, pb_null, pb_iload, pb_aload, pb_istore, pb_astore, pb_iinc, pb_bin, pb_bin0, pb_dup, pb_pop, pb_dup2, pb_if, pb_icmp, pb_ifnull, pb_getI, pb_getR, pb_putI, pb_putZ, pb_putR, pb_alen, pb_ald, pb_aldR, pb_ast, pb_astZ, pb_astR, pb_vret, pb_iret, pb_zret, pb_aret, pb_cv, pb_cr, pb_sr, pb_switch, pb_sw, pb_nth, pb_set, pb_tk, pb_add, pb_sub, List.length_cons, List.length_nil, true_or, or_true, true_and, and_true, and_self, pb_up_same, pb_up_f, ne_eq, Nat.reduceEqDiff, not_false_eq_true, Nat.reduceAdd, Nat.reduceLeDiff, Nat.zero_le, e]
      refine ih (k + 1) (by omega) σ1 ?_
      rw [es, if_neg z]
      exact h1
theorem l_M_downR {l2 : pb_V} {sp : Int} (hb : 0 ≤ b ∧ b < 2) (hI : IT T) (h6 : f.1 ≤ 6) (h64 : 64 ≤ f.2.1 ∧ f.2.1 < 68) (hsp : ¬ sp = 0) (hQ : ∀ σ', RM σ' (g_it (g_recv1 f (E.1 1 (4 * b + (f.2.1 - 64)))) b T 4) E w ν → pb_b_M_downStep_227 x 213 Q [some (.inr 165), some (.inl b), some l2, some (.inl f.1), some (.inl f.2.1), some (.inl f.2.2.1), some (.inl f.2.2.2.1), some (.inl sp), some (.inl (g_any T b f.2.1 4)), some (.inl (4 * b + 4))] [] 213 σ') : ∀ (d k : Nat), k + d = 4 → ∀ σ : pb_H, RM σ (g_it (g_recv1 f (E.1 1 (4 * b + (f.2.1 - 64)))) b T k) E w ν → pb_WJ x i_M_downStep 213 Q 91 [some (.inr 165), some (.inl b), some l2, some (.inl f.1), some (.inl f.2.1), some (.inl f.2.2.1), some (.inl f.2.2.2.1), some (.inl sp), some (.inl (g_any T b f.2.1 k)), some (.inl (4 * b + k))] [] 213 σ := by
  intro d
  have e0 : pb_mul 4 b = 4 * b := by unfold pb_mul; exact pb_w_id (by unfold pb_R; omega)
  have e1 : pb_w (4 * b + 4) = 4 * b + 4 := pb_w_id (by unfold pb_R; omega)
  have e5 : pb_w (4 * b + f.2.1) = 4 * b + f.2.1 := pb_w_id (by unfold pb_R; omega)
  have e6 : pb_w (4 * b + f.2.1 - 64) = 4 * b + (f.2.1 - 64) := by rw [pb_w_id (by unfold pb_R; omega)]; omega
  have hx : 0 ≤ 4 * b + (f.2.1 - 64) ∧ 4 * b + (f.2.1 - 64) < 8 := by omega
  generalize hd : E.1 1 (4 * b + (f.2.1 - 64)) = dd at hQ
  induction d with
  | zero =>
    intro k hk σ h
    obtain rfl : k = 4 := by omega
    refine pb_s_M_downStep_91 x 213 Q _ _ _ _ ?_
    simp only [pb_b_M_downStep_91, pb_b_M_downStep_220, pb_iconst, pb_null, pb_iload, pb_aload, pb_istore, pb_astore, pb_iinc, pb_bin, pb_bin0, pb_dup, pb_pop, pb_dup2, pb_if, pb_icmp, pb_ifnull, pb_getI, pb_getR, pb_putI, pb_putZ, pb_putR, pb_alen, pb_ald, pb_aldR, pb_ast, pb_astZ, pb_astR, pb_vret, pb_iret, pb_zret, pb_aret, pb_cv, pb_cr, pb_sr, pb_switch, pb_sw, pb_nth, pb_set, pb_tk, pb_add, pb_sub, List.length_cons, List.length_nil, true_or, or_true, true_and, and_true, and_self, pb_up_same, pb_up_f, ne_eq, Nat.reduceEqDiff, not_false_eq_true, Nat.reduceAdd, Nat.reduceLeDiff, Nat.zero_le, e0, e1]
    exact ⟨fun _ => ⟨fun _ => hQ _ h, fun z => absurd (by omega) z⟩, fun z => absurd z (by omega)⟩
  | succ d ih =>
    intro k hk σ h
    have ht : 0 ≤ 4 * b + (k : Int) ∧ 4 * b + (k : Int) < 8 := by omega
    have e : pb_w (4 * b + (k : Int) + 1) = 4 * b + ((k + 1 : Nat) : Int) := by rw [pb_w_id (by unfold pb_R; omega)]; omega
    have hoff := g_it_off (T := T) (b := b) (l_recv f dd) (j := k) (t := 4 * b + k) (fun i hi => by omega)
    have a1 := m_T h 166 1 rfl ⟨by decide, by decide⟩ ht (Or.inr (by unfold g_mu; decide))
    rw [hoff.1 1] at a1
    have es : g_it (g_recv1 f dd) b T (k + 1) = if (g_it (g_recv1 f dd) b T k).1 4 (4 * b + k) = f.2.1 then gt_receive (g_it (g_recv1 f dd) b T k) (4 * b + k) f dd else g_it (g_recv1 f dd) b T k := rfl
    have ea : g_any T b f.2.1 (k + 1) = if T.1 4 (4 * b + k) = f.2.1 then 1 else g_any T b f.2.1 k := rfl
    have ih0 := ih (k + 1) (by omega)
    rw [ea] at ih0
    rw [hoff.1 4] at es
    have no : ¬ T.1 4 (4 * b + k) = f.2.1 → pb_b_M_downStep_214 x 213 Q [some (.inr 165), some (.inl b), some l2, some (.inl f.1), some (.inl f.2.1), some (.inl f.2.2.1), some (.inl f.2.2.2.1), some (.inl sp), some (.inl (g_any T b f.2.1 k)), some (.inl (4 * b + k))] [] 213 σ := by
      intro y
      rw [if_neg y] at ih0 es
      simp only [pb_b_M_downStep_214, pb_iconst, pb_null, pb_iload, pb_aload, pb_istore, pb_astore, pb_iinc, pb_bin, pb_bin0, pb_dup, pb_pop, pb_dup2, pb_if, pb_icmp, pb_ifnull, pb_getI, pb_getR, pb_putI, pb_putZ, pb_putR, pb_alen, pb_ald, pb_aldR, pb_ast, pb_astZ, pb_astR, pb_vret, pb_iret, pb_zret, pb_aret, pb_cv, pb_cr, pb_sr, pb_switch, pb_sw, pb_nth, pb_set, pb_tk, pb_add, pb_sub, List.length_cons, List.length_nil, true_or, or_true, true_and, and_true, and_self, pb_up_same, pb_up_f, ne_eq, Nat.reduceEqDiff, not_false_eq_true, Nat.reduceAdd, Nat.reduceLeDiff, Nat.zero_le, e]
      exact ih0 σ (by rw [es]; exact h)
    have k138 : pb_b_M_downStep_138 x 213 Q [some (.inr 165), some (.inl b), some l2, some (.inl f.1), some (.inl f.2.1), some (.inl f.2.2.1), some (.inl f.2.2.2.1), some (.inl sp), some (.inl (g_any T b f.2.1 k)), some (.inl (4 * b + k))] [] 213 σ := by
      simp only [pb_b_M_downStep_138, pb_iconst, pb_null, pb_iload, pb_aload, pb_istore, pb_astore, pb_iinc, pb_bin, pb_bin0, pb_dup, pb_pop, pb_dup2, pb_if, pb_icmp, pb_ifnull, pb_getI, pb_getR, pb_putI, pb_putZ, pb_putR, pb_alen, pb_ald, pb_aldR, pb_ast, pb_astZ, pb_astR, pb_vret, pb_iret, pb_zret, pb_aret, pb_cv, pb_cr, pb_sr, pb_switch, pb_sw, pb_nth, pb_set, pb_tk, pb_add, pb_sub, List.length_cons, List.length_nil, true_or, or_true, true_and, and_true, and_self, pb_up_same, pb_up_f, ne_eq, Nat.reduceEqDiff, not_false_eq_true, Nat.reduceAdd, Nat.reduceLeDiff, Nat.zero_le, is_M, mf_there h.1, mk_there, ml_there, a1, ht]
      refine ⟨fun z => no (fun y => ?_), fun z => ?_⟩
      · have := ((hI (4 * b + k)).2.2.2.1 z).1
        dsimp only at this
        omega
      · have hp : ¬ (g_it (g_recv1 f dd) b T k).1 1 (4 * b + k) = 0 := by rw [hoff.1 1]; exact z
        have a4 := m_T h 167 4 rfl ⟨by decide, by decide⟩ ht (Or.inl hp)
        rw [hoff.1 4] at a4
        have a15 := m_T h 179 15 rfl ⟨by decide, by decide⟩ ht (Or.inl hp)
        have aE := (h.2.2.2.2.1 _ hx.1 hx.2).2.1
        rw [hd] at aE
        simp only [is_M, mf_address h.1, mk_address, ml_address, mf_takes h.1, mk_takes, ml_takes, mf_exchangeSends h.1, mk_exchangeSends, ml_exchangeSends, a4, a15, aE, ht, hx, e0, e5, e6, true_and, and_true]
        refine ⟨fun z2 => no z2, fun z2 => ?_⟩
        have z3 := Decidable.not_not.mp z2
        rw [if_pos z3] at ih0 es
        rw [gt_receive_told] at es
        refine ⟨fun z4 => ?_, fun z4 => ?_⟩
        · rw [if_neg z4] at es
          simp only [pb_b_M_downStep_214, pb_iconst, pb_null, pb_iload, pb_aload, pb_istore, pb_astore, pb_iinc, pb_bin, pb_bin0, pb_dup, pb_pop, pb_dup2, pb_if, pb_icmp, pb_ifnull, pb_getI, pb_getR, pb_putI, pb_putZ, pb_putR, pb_alen, pb_ald, pb_aldR, pb_ast, pb_astZ, pb_astR, pb_vret, pb_iret, pb_zret, pb_aret, pb_cv, pb_cr, pb_sr, pb_switch, pb_sw, pb_nth, pb_set, pb_tk, pb_add, pb_sub, List.length_cons, List.length_nil, true_or, or_true, true_and, and_true, and_self, pb_up_same, pb_up_f, ne_eq, Nat.reduceEqDiff, not_false_eq_true, Nat.reduceAdd, Nat.reduceLeDiff, Nat.zero_le, e]
          exact ih0 σ (by rw [es]; exact h)
        · have z5 := Decidable.not_not.mp z4
          rw [if_pos z5] at es
          rw [z5]
          have h1 := rm_upT (t := 4 * b + (k : Int)) (v := pb_w (1 - dd)) h 179 15 rfl ⟨by decide, by decide⟩
          refine c_M_told h1 ht (by rw [gt_set_k (by decide)]; exact hp) (fun σ1 h2 => ?_)
          simp only [pb_b_M_downStep_214, pb_iconst, pb_null, pb_iload, pb_aload, pb_istore, pb_astore, pb_iinc, pb_bin, pb_bin0, pb_dup, pb_pop, pb_dup2, pb_if, pb_icmp, pb_ifnull, pb_getI, pb_getR, pb_putI, pb_putZ, pb_putR, pb_alen, pb_ald, pb_aldR, pb_ast, pb_astZ, pb_astR, pb_vret, pb_iret, pb_zret, pb_aret, pb_cv, pb_cr, pb_sr, pb_switch, pb_sw, pb_nth, pb_set, pb_tk, pb_add, pb_sub, List.length_cons, List.length_nil, true_or, or_true, true_and, and_true, and_self, pb_up_same, pb_up_f, ne_eq, Nat.reduceEqDiff, not_false_eq_true, Nat.reduceAdd, Nat.reduceLeDiff, Nat.zero_le, e]
          exact ih0 σ1 (by rw [es]; exact h2)
    refine pb_s_M_downStep_91 x 213 Q _ _ _ _ ?_
    simp only [pb_b_M_downStep_91, pb_iconst, pb_null, pb_iload, pb_aload, pb_istore, pb_astore, pb_iinc, pb_bin, pb_bin0, pb_dup, pb_pop, pb_dup2, pb_if, pb_icmp, pb_ifnull, pb_getI, pb_getR, pb_putI, pb_putZ, pb_putR, pb_alen, pb_ald, pb_aldR, pb_ast, pb_astZ, pb_astR, pb_vret, pb_iret, pb_zret, pb_aret, pb_cv, pb_cr, pb_sr, pb_switch, pb_sw, pb_nth, pb_set, pb_tk, pb_add, pb_sub, List.length_cons, List.length_nil, true_or, or_true, true_and, and_true, and_self, pb_up_same, pb_up_f, ne_eq, Nat.reduceEqDiff, not_false_eq_true, Nat.reduceAdd, Nat.reduceLeDiff, Nat.zero_le, is_M, mf_there h.1, mk_there, ml_there, a1, ht, e0, e1]
    exact ⟨fun z => absurd z (by omega), fun _ => ⟨fun z => absurd z hsp, fun _ => ⟨fun z => k138, fun z => ⟨fun z2 => k138, fun z2 => absurd (by omega) z2⟩⟩⟩⟩
/-- a frame down has failed once more -/
theorem l_M_down263 {L : List (Option pb_V)} {o3 : Option pb_V} (hb : 0 ≤ b ∧ b < 2) (h : RM σ T E (v, fun _ => False) ν) (hl : E.2.1 b = f :: l) (hf : 0 ≤ f.2.2.2.2 ∧ f.2.2.2.2 < 3) (h64 : 64 ≤ f.2.1 ∧ f.2.1 < 68) (hN : g_num E.2.2) (hw : g_cws E.2.2) (hQ : ∀ σ', RM σ' T (ge_failD E b) (v, fun _ => False) ν → Q (.inl 0) σ') : pb_b_M_downStep_263 x 213 Q (some (.inr 165) :: some (.inl b) :: some (.inl (24 * b)) :: o3 :: some (.inl f.2.1) :: L) [] 213 σ := by
  obtain ⟨l1, l2, l3⟩ := h.2.2.2.1 b hb.1 hb.2
  rw [hl] at l1 l2 l3
  have ft := l3 0 f rfl
  rw [show 24 * b + ((0 : Nat) : Int) = 24 * b by omega] at ft
  have k1 : 0 ≤ 24 * b ∧ 24 * b < 48 := by omega
  have ef : pb_w (f.2.2.2.2 + 1) = f.2.2.2.2 + 1 := pb_w_id (by unfold pb_R; omega)
  have h1 : RM (pb_up σ 0 191 (24 * b) (f.2.2.2.2 + 1)) T (ge_row E b ((f.1, f.2.1, f.2.2.1, f.2.2.2.1, f.2.2.2.2 + 1) :: l)) (v, fun _ => False) ν := by
    refine rm_rowD h (fun f' p i hn => pb_up_k (by omega)) (fun t' z => pb_up_p (by omega)) (fun p i q1 q2 q3 => ?_) (by simpa using l2) (by rw [pb_up_p (by omega), l1]; rfl) (fun i g hi => ?_)
    · unfold pb_up
      rw [if_neg (by omega)]
    · cases i with
      | zero =>
        obtain rfl : (f.1, f.2.1, f.2.2.1, f.2.2.2.1, f.2.2.2.2 + 1) = g := by simpa using hi
        rw [show 24 * b + ((0 : Nat) : Int) = 24 * b by omega, pb_up_p (by omega), pb_up_p (by omega), pb_up_p (by omega), pb_up_p (by omega), pb_up_same]
        exact ⟨ft.1, ft.2.1, ft.2.2.1, ft.2.2.2.1, rfl⟩
      | succ i =>
        have l4 := l3 (i + 1) g (by simpa using hi)
        rw [pb_up_p (by omega), pb_up_p (by omega), pb_up_p (by omega), pb_up_p (by omega), pb_up_i (by omega)]
        exact l4
  unfold ge_failD at hQ
  rw [hl] at hQ
  dsimp only at hQ
  rw [ef] at hQ
  simp only [pb_b_M_downStep_263, pb_b_M_downStep_290, pb_iconst, pb_null, pb_iload, pb_aload, pb_istore, pb_astore, pb_iinc, pb_bin, pb_bin0, pb_dup, pb_pop, pb_dup2, pb_if, pb_icmp, pb_ifnull, pb_getI, pb_getR, pb_putI, pb_putZ, pb_putR, pb_alen, pb_ald, pb_aldR, pb_ast, pb_astZ, pb_astR, pb_vret, pb_iret, pb_zret, pb_aret, pb_cv, pb_cr, pb_sr, pb_switch, pb_sw, pb_nth, pb_set, pb_tk, pb_add, pb_sub, List.length_cons, List.length_nil, true_or, or_true, true_and, and_true, and_self, pb_up_same, pb_up_f, ne_eq, Nat.reduceEqDiff, not_false_eq_true, Nat.reduceAdd, Nat.reduceLeDiff, Nat.zero_le, is_M, mf_downFailed h.1, mk_downFailed, ml_downFailed, k1, ft.2.2.2.2, ef]
  refine ⟨fun z => ?_, fun z => ?_⟩
  · rw [if_neg (by omega)] at hQ
    exact hQ _ h1
  · rw [if_pos (by omega)] at hQ
    exact c_M_drop h1 hb h64 hN hw hQ
theorem c_M_downStep (h : RM σ T E (v, fun _ => False) ν) (hb : 0 ≤ b ∧ b < 2) (hI : Inv m T E) (hQ : ∀ σ' v', RM σ' (g_downT T E b) (g_downE T E b) (v', fun _ => False) (if E.2.1 b = [] then ν else pb_up ν 750 165 0 (pb_w (ν 750 165 0 + 1))) → Q (.inl 0) σ') : pb_MJ x i_M_downStep [.inr 165, .inl b] 213 σ Q := by
  obtain ⟨iT, iD, iL, iC, iA, il, iN⟩ := id hI
  obtain ⟨l1, l2, l3⟩ := h.2.2.2.1 b hb.1 hb.2
  unfold g_downT g_downE at hQ
  refine pb_m_M_downStep ?_
  cases hrow : E.2.1 b with
  | nil =>
    rw [hrow] at hQ l1
    dsimp only at hQ
    rw [if_pos rfl] at hQ
    simp only [pb_b_M_downStep_0, pb_iconst, pb_null, pb_iload, pb_aload, pb_istore, pb_astore, pb_iinc, pb_bin, pb_bin0, pb_dup, pb_pop, pb_dup2, pb_if, pb_icmp, pb_ifnull, pb_getI, pb_getR, pb_putI, pb_putZ, pb_putR, pb_alen, pb_ald, pb_aldR, pb_ast, pb_astZ, pb_astR, pb_vret, pb_iret, pb_zret, pb_aret, pb_cv, pb_cr, pb_sr, pb_switch, pb_sw, pb_nth, pb_set, pb_tk, pb_add, pb_sub, List.length_cons, List.length_nil, true_or, or_true, true_and, and_true, and_self, pb_up_same, pb_up_f, ne_eq, Nat.reduceEqDiff, not_false_eq_true, Nat.reduceAdd, Nat.reduceLeDiff, Nat.zero_le, is_M, mf_rows h.1, mk_rows, ml_rows, hb, l1]
    exact ⟨fun z => absurd rfl z, fun _ => hQ _ _ h⟩
  | cons f l =>
    rw [hrow] at hQ l1 l2 l3
    dsimp only at hQ
    rw [if_neg (show ¬ f :: l = [] by simp)] at hQ
    have ft := l3 0 f rfl
    rw [show 24 * b + ((0 : Nat) : Int) = 24 * b by omega] at ft
    have hiD := iD b f (by rw [hrow]; exact List.mem_cons_self) trivial
    have a7 := (h.2.2.2.2.2.1 b hb.1 hb.2).2
    have hse := r_sent h
    have e0 : pb_mul 4 b = 4 * b := by unfold pb_mul; exact pb_w_id (by unfold pb_R; omega)
    have e24 : pb_mul 24 b = 24 * b := by unfold pb_mul; exact pb_w_id (by unfold pb_R; omega)
    have k1 : 0 ≤ 24 * b ∧ 24 * b < 48 := by omega
    have h2 := rm_sent (z := pb_w (ν 750 165 0 + 1)) (rm_upB (t := b) (v := 2) h 198 7 (by decide) (by omega))
    obtain ⟨N, l1', hlen⟩ : ∃ N : Int, σ 0 186 b = N ∧ ¬ N = 0 := ⟨_, l1, by rw [List.length_cons]; omega⟩
    have hrow2 : (ge_set E 7 b 2).2.1 b = f :: l := hrow
    simp only [pb_b_M_downStep_0, pb_b_M_downStep_10, pb_iconst, pb_null, pb_iload, pb_aload, pb_istore, pb_astore, pb_iinc, pb_bin, pb_bin0, pb_dup, pb_pop, pb_dup2, pb_if, pb_icmp, pb_ifnull, pb_getI, pb_getR, pb_putI, pb_putZ, pb_putR, pb_alen, pb_ald, pb_aldR, pb_ast, pb_astZ, pb_astR, pb_vret, pb_iret, pb_zret, pb_aret, pb_cv, pb_cr, pb_sr, pb_switch, pb_sw, pb_nth, pb_set, pb_tk, pb_add, pb_sub, List.length_cons, List.length_nil, true_or, or_true, true_and, and_true, and_self, pb_up_same, pb_up_f, ne_eq, Nat.reduceEqDiff, not_false_eq_true, Nat.reduceAdd, Nat.reduceLeDiff, Nat.zero_le, is_M, mf_rows h.1, mk_rows, ml_rows, mf_downKind h.1, mk_downKind, ml_downKind, mf_downTo h.1, mk_downTo, ml_downTo, mf_downReference h.1, mk_downReference, ml_downReference, mf_downValue h.1, mk_downValue, ml_downValue, mf_spoilDown h.1, mk_spoilDown, ml_spoilDown, hb, l1', hlen, e24, k1, ft.1, ft.2.1, ft.2.2.1, ft.2.2.2.1, a7, hse, pb_up_p, Int.reduceEq, not_false_eq_true, not_true_eq_false, true_imp_iff, false_imp_iff]
    generalize pb_up (pb_up σ 0 198 b 2) 750 165 0 (pb_w (ν 750 165 0 + 1)) = τ at h2 ⊢
    generalize (pb_up ν 750 165 0 (pb_w (ν 750 165 0 + 1))) = ν2 at h2 hQ
    have h0 : ∀ t, (ge_set E 7 b 2).1 1 t = E.1 1 t := fun t => ge_set_n (by omega)
    refine ⟨fun z => ?_, fun z => ?_⟩
    · have z6 : f.1 ≤ 6 := by omega
      have h64 : 64 ≤ f.2.1 ∧ f.2.1 < 68 := hiD.1.resolve_left (by omega)
      rw [if_pos z6, if_pos z6] at hQ
      simp only [pb_b_M_downStep_83, pb_iconst, pb_null, pb_iload, pb_aload, pb_istore, pb_astore, pb_iinc, pb_bin, pb_bin0, pb_dup, pb_pop, pb_dup2, pb_if, pb_icmp, pb_ifnull, pb_getI, pb_getR, pb_putI, pb_putZ, pb_putR, pb_alen, pb_ald, pb_aldR, pb_ast, pb_astZ, pb_astR, pb_vret, pb_iret, pb_zret, pb_aret, pb_cv, pb_cr, pb_sr, pb_switch, pb_sw, pb_nth, pb_set, pb_tk, pb_add, pb_sub, List.length_cons, List.length_nil, true_or, or_true, true_and, and_true, and_self, pb_up_same, pb_up_f, ne_eq, Nat.reduceEqDiff, not_false_eq_true, Nat.reduceAdd, Nat.reduceLeDiff, Nat.zero_le, e0]
      by_cases hsp : E.1 7 b = 0
      · rw [if_neg (fun y => y.2 hsp), if_neg (fun y => y.1.2 hsp)] at hQ
        refine pb_s_M_downStep_91 x 213 Q _ _ _ _ ?_
        have k220 : pb_b_M_downStep_220 x 213 Q [some (.inr 165), some (.inl b), some (.inl (24 * b)), some (.inl f.1), some (.inl f.2.1), some (.inl f.2.2.1), some (.inl f.2.2.2.1), some (.inl (E.1 7 b)), some (.inl 0), some (.inl (4 * b))] [] 213 τ := by
          simp only [pb_b_M_downStep_220, pb_b_M_downStep_227, pb_iconst, pb_null, pb_iload, pb_aload, pb_istore, pb_astore, pb_iinc, pb_bin, pb_bin0, pb_dup, pb_pop, pb_dup2, pb_if, pb_icmp, pb_ifnull, pb_getI, pb_getR, pb_putI, pb_putZ, pb_putR, pb_alen, pb_ald, pb_aldR, pb_ast, pb_astZ, pb_astR, pb_vret, pb_iret, pb_zret, pb_aret, pb_cv, pb_cr, pb_sr, pb_switch, pb_sw, pb_nth, pb_set, pb_tk, pb_add, pb_sub, List.length_cons, List.length_nil, true_or, or_true, true_and, and_true, and_self, pb_up_same, pb_up_f, ne_eq, Nat.reduceEqDiff, not_false_eq_true, Nat.reduceAdd, Nat.reduceLeDiff, Nat.zero_le]
          exact ⟨fun _ => ⟨fun _ => l_M_down263 hb h2 hrow2 hiD.2.2.1 h64 iC.num iC.cws (fun σ' h9 => hQ _ _ h9), fun y => absurd trivial y⟩, fun y => absurd z y⟩
        simp only [pb_b_M_downStep_91, pb_iconst, pb_null, pb_iload, pb_aload, pb_istore, pb_astore, pb_iinc, pb_bin, pb_bin0, pb_dup, pb_pop, pb_dup2, pb_if, pb_icmp, pb_ifnull, pb_getI, pb_getR, pb_putI, pb_putZ, pb_putR, pb_alen, pb_ald, pb_aldR, pb_ast, pb_astZ, pb_astR, pb_vret, pb_iret, pb_zret, pb_aret, pb_cv, pb_cr, pb_sr, pb_switch, pb_sw, pb_nth, pb_set, pb_tk, pb_add, pb_sub, List.length_cons, List.length_nil, true_or, or_true, true_and, and_true, and_self, pb_up_same, pb_up_f, ne_eq, Nat.reduceEqDiff, not_false_eq_true, Nat.reduceAdd, Nat.reduceLeDiff, Nat.zero_le, e0]
        exact ⟨fun _ => k220, fun _ => ⟨fun _ => k220, fun y => absurd hsp y⟩⟩
      · rw [if_pos ⟨h64, hsp⟩] at hQ
        have := l_M_downR (x := x) (Q := Q) (E := ge_set E 7 b 2) (l2 := .inl (24 * b)) (sp := E.1 7 b) hb iT z6 h64 hsp (fun σ1 h3 => ?_) 4 0 rfl τ h2
        · rw [show 4 * b + ((0 : Nat) : Int) = 4 * b by omega] at this
          exact this
        · rw [h0] at h3
          have e5 : pb_w (4 * b + f.2.1) = 4 * b + f.2.1 := pb_w_id (by unfold pb_R; omega)
          have e6 : pb_w (4 * b + f.2.1 - 64) = 4 * b + (f.2.1 - 64) := by rw [pb_w_id (by unfold pb_R; omega)]; omega
          have hx : 0 ≤ 4 * b + (f.2.1 - 64) ∧ 4 * b + (f.2.1 - 64) < 8 := by omega
          have aE := (h3.2.2.2.2.1 _ hx.1 hx.2).2.1
          rw [h0] at aE
          have fl : ¬ (¬ g_any T b f.2.1 4 = 0 ∧ ¬ E.1 7 b = 1) → pb_b_M_downStep_263 x 213 Q [some (.inr 165), some (.inl b), some (.inl (24 * b)), some (.inl f.1), some (.inl f.2.1), some (.inl f.2.2.1), some (.inl f.2.2.2.1), some (.inl (E.1 7 b)), some (.inl (g_any T b f.2.1 4)), some (.inl (4 * b + 4))] [] 213 σ1 := by
            intro y
            rw [if_neg (fun q => y q.2)] at hQ
            exact l_M_down263 hb h3 hrow2 hiD.2.2.1 h64 iC.num iC.cws (fun σ' h9 => hQ _ _ h9)
          simp only [pb_b_M_downStep_227, pb_iconst, pb_null, pb_iload, pb_aload, pb_istore, pb_astore, pb_iinc, pb_bin, pb_bin0, pb_dup, pb_pop, pb_dup2, pb_if, pb_icmp, pb_ifnull, pb_getI, pb_getR, pb_putI, pb_putZ, pb_putR, pb_alen, pb_ald, pb_aldR, pb_ast, pb_astZ, pb_astR, pb_vret, pb_iret, pb_zret, pb_aret, pb_cv, pb_cr, pb_sr, pb_switch, pb_sw, pb_nth, pb_set, pb_tk, pb_add, pb_sub, List.length_cons, List.length_nil, true_or, or_true, true_and, and_true, and_self, pb_up_same, pb_up_f, ne_eq, Nat.reduceEqDiff, not_false_eq_true, Nat.reduceAdd, Nat.reduceLeDiff, Nat.zero_le, is_M, mf_exchangeSends h3.1, mk_exchangeSends, ml_exchangeSends, e0, e5, e6, hx, aE]
          refine ⟨fun y => fl (fun q => q.1 y), fun y => ⟨fun y2 => fl (fun q => q.2 y2), fun y2 => ?_⟩⟩
          rw [if_pos ⟨⟨h64, hsp⟩, y, y2⟩] at hQ
          rw [pb_xor1 (iL _).2.2.1]
          have h4 := rm_upL (t := 4 * b + (f.2.1 - 64)) (v := pb_w (1 - E.1 1 (4 * b + (f.2.1 - 64)))) h3 193 1 (by omega)
          refine c_M_downGone (k := 0) h4 hb (by show 0 < (E.2.1 b).length; rw [hrow]; simp) (fun σ2 h5 => ?_)
          have er : ((ge_set (ge_set E 7 b 2) 1 (4 * b + (f.2.1 - 64)) (pb_w (1 - E.1 1 (4 * b + (f.2.1 - 64))))).2.1 b).eraseIdx 0 = l := by
            show (E.2.1 b).eraseIdx 0 = l
            rw [hrow]
            rfl
          rw [er] at h5
          exact hQ _ _ h5
    · have z6 : ¬ f.1 ≤ 6 := by omega
      rw [if_neg z6, if_neg z6] at hQ
      refine c_M_downGone (k := 0) h2 hb (by show 0 < (E.2.1 b).length; rw [hrow]; simp) (fun σ2 h5 => ?_)
      have er : ((ge_set E 7 b 2).2.1 b).eraseIdx 0 = l := by
        show (E.2.1 b).eraseIdx 0 = l
        rw [hrow]
        rfl
      rw [er] at h5
      simp only [pb_b_M_downStep_83, pb_iconst, pb_null, pb_iload, pb_aload, pb_istore, pb_astore, pb_iinc, pb_bin, pb_bin0, pb_dup, pb_pop, pb_dup2, pb_if, pb_icmp, pb_ifnull, pb_getI, pb_getR, pb_putI, pb_putZ, pb_putR, pb_alen, pb_ald, pb_aldR, pb_ast, pb_astZ, pb_astR, pb_vret, pb_iret, pb_zret, pb_aret, pb_cv, pb_cr, pb_sr, pb_switch, pb_sw, pb_nth, pb_set, pb_tk, pb_add, pb_sub, List.length_cons, List.length_nil, true_or, or_true, true_and, and_true, and_self, pb_up_same, pb_up_f, ne_eq, Nat.reduceEqDiff, not_false_eq_true, Nat.reduceAdd, Nat.reduceLeDiff, Nat.zero_le, e0]
      by_cases hsp : E.1 7 b = 0
      · rw [if_pos hsp] at hQ
        refine pb_s_M_downStep_91 x 213 Q _ _ _ _ ?_
        simp only [pb_b_M_downStep_91, pb_b_M_downStep_220, pb_iconst, pb_null, pb_iload, pb_aload, pb_istore, pb_astore, pb_iinc, pb_bin, pb_bin0, pb_dup, pb_pop, pb_dup2, pb_if, pb_icmp, pb_ifnull, pb_getI, pb_getR, pb_putI, pb_putZ, pb_putR, pb_alen, pb_ald, pb_aldR, pb_ast, pb_astZ, pb_astR, pb_vret, pb_iret, pb_zret, pb_aret, pb_cv, pb_cr, pb_sr, pb_switch, pb_sw, pb_nth, pb_set, pb_tk, pb_add, pb_sub, List.length_cons, List.length_nil, true_or, or_true, true_and, and_true, and_self, pb_up_same, pb_up_f, ne_eq, Nat.reduceEqDiff, not_false_eq_true, Nat.reduceAdd, Nat.reduceLeDiff, Nat.zero_le, e0]
        exact ⟨fun _ => ⟨fun y => absurd y z, fun _ => hQ _ _ h5⟩, fun _ => ⟨fun _ => ⟨fun y => absurd y z, fun _ => hQ _ _ h5⟩, fun y => absurd hsp y⟩⟩
      · rw [if_neg hsp] at hQ
        have := l_M_downH (x := x) (Q := Q) (T := T) (E := ge_row (ge_set E 7 b 2) b l) (l2 := .inl (24 * b)) (sp := E.1 7 b) (rc := 0) hb (show 7 ≤ f.1 by omega) hsp (fun σ' h9 => hQ _ _ h9) 4 0 rfl σ2 h5
        rw [show 4 * b + ((0 : Nat) : Int) = 4 * b by omega] at this
        exact this
end MDN
