section MD2
variable {x : pb_E} {σ σ' : pb_H} {T : gT} {E : gE} {w : gW} {ν : pb_H} {b a s t u : Int} {Q : pb_P} {i : Nat} {f f' g : gC} {n ch : Int} {v : Int → Int}
theorem ge_dropK_skip {p : Nat} : ∀ q : Nat, p ≤ q → (∀ (j : Nat) (f : gC), p ≤ j → j < q → (ge_dropK b a E p).2.2[j]? = some f → ¬ g_alive f = true) → ge_dropK b a E q = ge_dropK b a E p := by
  intro q
  induction q with
  | zero =>
    intro hp _
    obtain rfl : p = 0 := by omega
    rfl
  | succ q ih =>
    intro hp hd
    by_cases z : p = q + 1
    · rw [z]
    · have e := ih (by omega) (fun j f q1 q2 => hd j f q1 (by omega))
      show ge_drop1 b a (ge_dropK b a E q) q = _
      rw [e]
      cases hc : (ge_dropK b a E p).2.2[q]? with
      | none => exact (ge_drop1_stp _ _).1 hc
      | some f => exact ge_drop1_dead hc (hd q f (by omega) (by omega) hc)
theorem g_cws_at {c : List gC} (h : g_cws c) (hi : c[i]? = some f) : g_cw f := h i f hi
theorem l_M_drop68 (hb : 0 ≤ b ∧ b < 2) (h64 : 64 ≤ a ∧ a < 68) (h : RM σ T E (v, fun _ => False) ν) (hN : g_num E.2.2) (hw : g_cws E.2.2) (hi : E.2.2[i]? = some g) (hg : g 1 = n) (hs : 0 ≤ v n ∧ v n < 4) (ha : g_alive g = true ∨ σ 0 199 (v n) = 0) (hQ : ∀ σ', RM σ' T (ge_dropB b a E i) (v, fun _ => False) ν → pb_b_M_drop_89 x 213 Q [some (.inr 165), some (.inl b), some (.inl a), some (.inl n), some (.inl (v n))] [] 213 σ') : pb_b_M_drop_68 x 213 Q [some (.inr 165), some (.inl b), some (.inl a), some (.inl n), some (.inl (v n))] [] 213 σ := by
  have e64 : pb_w (a - 64) = a - 64 := pb_w_id (by unfold pb_R; omega)
  have hp : 0 < g 1 := hN.1 g (List.mem_of_getElem? hi)
  unfold ge_dropB at hQ
  rw [hi] at hQ
  dsimp only at hQ
  simp only [pb_b_M_drop_68, pb_iconst, pb_null, pb_iload, pb_aload, pb_istore, pb_astore, pb_iinc, pb_bin, pb_bin0, pb_dup, pb_pop, pb_dup2, pb_if, pb_icmp, pb_ifnull, pb_getI, pb_getR, pb_putI, pb_putZ, pb_putR, pb_alen, pb_ald, pb_aldR, pb_ast, pb_astZ, pb_astR, pb_vret, pb_iret, pb_zret, pb_aret, pb_cv, pb_cr, pb_sr, pb_switch, pb_sw, pb_nth, pb_set, pb_tk, pb_add, pb_sub, List.length_cons, List.length_nil, true_or, or_true, true_and, and_true, and_self, pb_up_same, pb_up_f, ne_eq, Nat.reduceEqDiff, not_false_eq_true, Nat.reduceAdd, Nat.reduceLeDiff, Nat.zero_le, is_M]
  by_cases hal : g_alive g = true
  · have r : (0 ≤ v (g 1) ∧ v (g 1) < 4) ∧ rm_1 σ (v (g 1)) g := r_1 h hi (Or.inl hal)
    rw [hg] at r
    have mc := m_called (b := b) (a := a) r.2 hp h64
    refine c_M_isCalled h hs h64 (fun y => ?_) (fun y => ?_)
    · rw [if_pos (mc.mp y)] at hQ
      simp only [pb_iconst, pb_null, pb_iload, pb_aload, pb_istore, pb_astore, pb_iinc, pb_bin, pb_bin0, pb_dup, pb_pop, pb_dup2, pb_if, pb_icmp, pb_ifnull, pb_getI, pb_getR, pb_putI, pb_putZ, pb_putR, pb_alen, pb_ald, pb_aldR, pb_ast, pb_astZ, pb_astR, pb_vret, pb_iret, pb_zret, pb_aret, pb_cv, pb_cr, pb_sr, pb_switch, pb_sw, pb_nth, pb_set, pb_tk, pb_add, pb_sub, List.length_cons, List.length_nil, true_or, or_true, true_and, and_true, and_self, pb_up_same, pb_up_f, ne_eq, Nat.reduceEqDiff, not_false_eq_true, Nat.reduceAdd, Nat.reduceLeDiff, Nat.zero_le, e64, is_M]
      refine ⟨fun z => absurd z (by decide), fun _ => ?_⟩
      have := c_M_goneD (x := x) (a := a) (Q := fun _ σ' => pb_b_M_drop_89 x 213 Q [some (.inr 165), some (.inl b), some (.inl a), some (.inl n), some (.inl (v n))] [] 213 σ') h hN hi hal (hw i g hi).1 (hw i g hi).2.1 h64 hQ
      rw [hg] at this
      exact this
    · rw [if_neg (fun q => y (mc.mpr q))] at hQ
      simp only [pb_iconst, pb_null, pb_iload, pb_aload, pb_istore, pb_astore, pb_iinc, pb_bin, pb_bin0, pb_dup, pb_pop, pb_dup2, pb_if, pb_icmp, pb_ifnull, pb_getI, pb_getR, pb_putI, pb_putZ, pb_putR, pb_alen, pb_ald, pb_aldR, pb_ast, pb_astZ, pb_astR, pb_vret, pb_iret, pb_zret, pb_aret, pb_cv, pb_cr, pb_sr, pb_switch, pb_sw, pb_nth, pb_set, pb_tk, pb_add, pb_sub, List.length_cons, List.length_nil, true_or, or_true, true_and, and_true, and_self, pb_up_same, pb_up_f, ne_eq, Nat.reduceEqDiff, not_false_eq_true, Nat.reduceAdd, Nat.reduceLeDiff, Nat.zero_le]
      exact ⟨fun _ => hQ _ h, fun z => absurd trivial z⟩
  · have h0 := ha.resolve_left hal
    rw [if_neg (fun y => y.2 ((g_dead hal).2 a))] at hQ
    refine c_M_isCalled h hs h64 (fun y => by omega) (fun y => ?_)
    simp only [pb_iconst, pb_null, pb_iload, pb_aload, pb_istore, pb_astore, pb_iinc, pb_bin, pb_bin0, pb_dup, pb_pop, pb_dup2, pb_if, pb_icmp, pb_ifnull, pb_getI, pb_getR, pb_putI, pb_putZ, pb_putR, pb_alen, pb_ald, pb_aldR, pb_ast, pb_astZ, pb_astR, pb_vret, pb_iret, pb_zret, pb_aret, pb_cv, pb_cr, pb_sr, pb_switch, pb_sw, pb_nth, pb_set, pb_tk, pb_add, pb_sub, List.length_cons, List.length_nil, true_or, or_true, true_and, and_true, and_self, pb_up_same, pb_up_f, ne_eq, Nat.reduceEqDiff, not_false_eq_true, Nat.reduceAdd, Nat.reduceLeDiff, Nat.zero_le]
    exact ⟨fun _ => hQ _ h, fun z => absurd trivial z⟩
theorem l_M_drop1 (hb : 0 ≤ b ∧ b < 2) (h64 : 64 ≤ a ∧ a < 68) (hN : g_num E.2.2) (hw : g_cws E.2.2) (hQ : ∀ σ', RM σ' T (ge_row (ge_dropK b a E E.2.2.length) b (((ge_dropK b a E E.2.2.length).2.1 b).filter (g_keep a))) (v, fun _ => False) ν → Q (.inl 0) σ') : ∀ (d p : Nat), p ≤ E.2.2.length → E.2.2.length - p ≤ d → ∀ (σ : pb_H) (n : Int) (o4 : Option pb_V), RM σ T (ge_dropK b a E p) (v, fun _ => False) ν → 0 ≤ n → (∀ (j : Nat) (f : gC), (ge_dropK b a E p).2.2[j]? = some f → (j < p → f 1 ≤ n) ∧ (p ≤ j → n < f 1)) → pb_b_M_drop_89 x 213 Q [some (.inr 165), some (.inl b), some (.inl a), some (.inl n), o4] [] 213 σ := by
  have hNK : ∀ p, g_num (ge_dropK b a E p).2.2 := g_it_num ge_drop1_stp (fun f => g_d1_k (by decide) (by decide) (by decide)) (K := fun p => ge_dropK b a E p) rfl (fun _ => rfl) hN
  have hwK : ∀ p, g_cws (ge_dropK b a E p).2.2 := fun p => (g_pk_dropK b a E hw p).2 hw
  have hlK : ∀ p, (ge_dropK b a E p).2.2.length = E.2.2.length := fun p => (g_pk_dropK b a E hw p).1
  intro d
  induction d with
  | zero =>
    intro p hp hd σ n o4 h hn hj
    obtain rfl : p = E.2.2.length := by omega
    simp only [pb_b_M_drop_89, pb_iconst, pb_null, pb_iload, pb_aload, pb_istore, pb_astore, pb_iinc, pb_bin, pb_bin0, pb_dup, pb_pop, pb_dup2, pb_if, pb_icmp, pb_ifnull, pb_getI, pb_getR, pb_putI, pb_putZ, pb_putR, pb_alen, pb_ald, pb_aldR, pb_ast, pb_astZ, pb_astR, pb_vret, pb_iret, pb_zret, pb_aret, pb_cv, pb_cr, pb_sr, pb_switch, pb_sw, pb_nth, pb_set, pb_tk, pb_add, pb_sub, List.length_cons, List.length_nil, true_or, or_true, true_and, and_true, and_self, pb_up_same, pb_up_f, ne_eq, Nat.reduceEqDiff, not_false_eq_true, Nat.reduceAdd, Nat.reduceLeDiff, Nat.zero_le, is_M]
    refine c_M_after h (hNK _) hn (fun i f hi _ hlt _ => ?_) (fun _ => ?_)
    · have := (List.getElem?_eq_some_iff.mp hi).1
      rw [hlK] at this
      have := (hj i f hi).1 this
      omega
    · simp only [pb_iconst, pb_null, pb_iload, pb_aload, pb_istore, pb_astore, pb_iinc, pb_bin, pb_bin0, pb_dup, pb_pop, pb_dup2, pb_if, pb_icmp, pb_ifnull, pb_getI, pb_getR, pb_putI, pb_putZ, pb_putR, pb_alen, pb_ald, pb_aldR, pb_ast, pb_astZ, pb_astR, pb_vret, pb_iret, pb_zret, pb_aret, pb_cv, pb_cr, pb_sr, pb_switch, pb_sw, pb_nth, pb_set, pb_tk, pb_add, pb_sub, List.length_cons, List.length_nil, true_or, or_true, true_and, and_true, and_self, pb_up_same, pb_up_f, ne_eq, Nat.reduceEqDiff, not_false_eq_true, Nat.reduceAdd, Nat.reduceLeDiff, Nat.zero_le]
      refine pb_s_M_drop_37 x 213 Q _ _ _ _ ?_
      have l1 := (h.2.2.2.1 b hb.1 hb.2).1
      have l2 := (h.2.2.2.1 b hb.1 hb.2).2.1
      have e2 : pb_w (((ge_dropK b a E E.2.2.length).2.1 b).length - 1) = (((ge_dropK b a E E.2.2.length).2.1 b).length : Int) - 1 := pb_w_id (by unfold pb_R; omega)
      simp only [pb_b_M_drop_37, pb_b_M_drop_99, pb_iconst, pb_null, pb_iload, pb_aload, pb_istore, pb_astore, pb_iinc, pb_bin, pb_bin0, pb_dup, pb_pop, pb_dup2, pb_if, pb_icmp, pb_ifnull, pb_getI, pb_getR, pb_putI, pb_putZ, pb_putR, pb_alen, pb_ald, pb_aldR, pb_ast, pb_astZ, pb_astR, pb_vret, pb_iret, pb_zret, pb_aret, pb_cv, pb_cr, pb_sr, pb_switch, pb_sw, pb_nth, pb_set, pb_tk, pb_add, pb_sub, List.length_cons, List.length_nil, true_or, or_true, true_and, and_true, and_self, pb_up_same, pb_up_f, ne_eq, Nat.reduceEqDiff, not_false_eq_true, Nat.reduceAdd, Nat.reduceLeDiff, Nat.zero_le, is_M, mf_rows h.1, mk_rows, ml_rows, hb, l1, e2]
      refine ⟨fun _ => ?_, fun z => absurd (by decide) z⟩
      refine l_M_drop2 (E := ge_dropK b a E E.2.2.length) (l := (ge_dropK b a E E.2.2.length).2.1 b) hb l2 hQ _ (Nat.le_refl _) σ ?_
      have e3 : ge_row (ge_dropK b a E E.2.2.length) b ((ge_dropK b a E E.2.2.length).2.1 b) = ge_dropK b a E E.2.2.length := by
        unfold ge_row
        refine Prod.ext rfl (Prod.ext ?_ rfl)
        funext t'
        show u_up (ge_dropK b a E E.2.2.length).2.1 b ((ge_dropK b a E E.2.2.length).2.1 b) t' = _
        unfold u_up
        split
        · rename_i z; rw [z]
        · rfl
      rw [List.take_length, List.drop_length, List.filter_nil, List.append_nil, e3]
      exact h
  | succ d ih =>
    intro p hp hd σ n o4 h hn hj
    simp only [pb_b_M_drop_89, pb_iconst, pb_null, pb_iload, pb_aload, pb_istore, pb_astore, pb_iinc, pb_bin, pb_bin0, pb_dup, pb_pop, pb_dup2, pb_if, pb_icmp, pb_ifnull, pb_getI, pb_getR, pb_putI, pb_putZ, pb_putR, pb_alen, pb_ald, pb_aldR, pb_ast, pb_astZ, pb_astR, pb_vret, pb_iret, pb_zret, pb_aret, pb_cv, pb_cr, pb_sr, pb_switch, pb_sw, pb_nth, pb_set, pb_tk, pb_add, pb_sub, List.length_cons, List.length_nil, true_or, or_true, true_and, and_true, and_self, pb_up_same, pb_up_f, ne_eq, Nat.reduceEqDiff, not_false_eq_true, Nat.reduceAdd, Nat.reduceLeDiff, Nat.zero_le, is_M]
    refine c_M_after h (hNK _) hn (fun i f hi hh hlt hmin => ?_) (fun hnone => ?_)
    · have hip : p ≤ i := Nat.le_of_not_lt (fun z => by have := (hj i f hi).1 z; omega)
      have hil : i < E.2.2.length := by
        have := (List.getElem?_eq_some_iff.mp hi).1
        rw [hlK] at this
        exact this
      have hal : g_alive f = true := hh.resolve_right id
      have eK : ge_dropK b a E i = ge_dropK b a E p := ge_dropK_skip i hip (fun j g q1 q2 q3 y => by
        have := hmin j g q3 (Or.inl y) ((hj j g q3).2 q1)
        omega)
      rw [← eK] at h hi
      have r : (0 ≤ v (f 1) ∧ v (f 1) < 4) ∧ rm_1 σ (v (f 1)) f := r_1 h hi (Or.inl hal)
      have hs := r.1
      have hpos : 0 < f 1 := (hNK i).1 f (List.mem_of_getElem? hi)
      have mc := m_caller (b := b) (a := a) r.2 hpos
      have hcw := hwK i i f hi
      have eS : ge_dropK b a E (i + 1) = if ¬ f 9 = 0 ∧ f 5 = b ∧ f 6 = a then ge_dropB b a (ge_callerGone (ge_dropK b a E i) i) i else ge_dropB b a (ge_dropK b a E i) i := by
        show ge_drop1 b a (ge_dropK b a E i) i = _
        unfold ge_drop1
        rw [hi]
      have nx : ∀ σ', RM σ' T (ge_dropK b a E (i + 1)) (v, fun _ => False) ν → pb_b_M_drop_89 x 213 Q [some (.inr 165), some (.inl b), some (.inl a), some (.inl (f 1)), some (.inl (v (f 1)))] [] 213 σ' := by
        intro σ' y
        have hx := g_itC (ge_drop1_stp (b := b) (a := a)) (E := E) (K := fun p => ge_dropK b a E p) rfl (fun _ => rfl)
        have hi2 : ∃ f', (ge_dropK b a E (i + 1)).2.2[i]? = some f' ∧ f' 1 = f 1 := by
          have q1 := hx (i + 1) i
          have q2 := hx i i
          rw [if_pos (by omega)] at q1
          rw [if_neg (by omega)] at q2
          refine ⟨g_d1 b a f, ?_, g_d1_k (by decide) (by decide) (by decide)⟩
          show (ge_dropK b a E (i + 1)).2.2[i]? = _
          rw [q1, ← q2, hi]
          rfl
        obtain ⟨f', y1, y2⟩ := hi2
        refine ih (i + 1) (by omega) (by omega) σ' (f 1) _ y (by omega) (fun j g q => ⟨fun q2 => ?_, fun q2 => ?_⟩)
        · by_cases z : j = i
          · subst z
            rw [y1] at q
            obtain rfl := Option.some.inj q
            omega
          · have := (hNK (i + 1)).lt q y1 (by omega)
            omega
        · have := (hNK (i + 1)).lt y1 q (by omega)
          omega
      simp only [pb_iconst, pb_null, pb_iload, pb_aload, pb_istore, pb_astore, pb_iinc, pb_bin, pb_bin0, pb_dup, pb_pop, pb_dup2, pb_if, pb_icmp, pb_ifnull, pb_getI, pb_getR, pb_putI, pb_putZ, pb_putR, pb_alen, pb_ald, pb_aldR, pb_ast, pb_astZ, pb_astR, pb_vret, pb_iret, pb_zret, pb_aret, pb_cv, pb_cr, pb_sr, pb_switch, pb_sw, pb_nth, pb_set, pb_tk, pb_add, pb_sub, List.length_cons, List.length_nil, true_or, or_true, true_and, and_true, and_self, pb_up_same, pb_up_f, ne_eq, Nat.reduceEqDiff, not_false_eq_true, Nat.reduceAdd, Nat.reduceLeDiff, Nat.zero_le]
      refine pb_s_M_drop_37 x 213 Q _ _ _ _ ?_
      simp only [pb_b_M_drop_37, pb_iconst, pb_null, pb_iload, pb_aload, pb_istore, pb_astore, pb_iinc, pb_bin, pb_bin0, pb_dup, pb_pop, pb_dup2, pb_if, pb_icmp, pb_ifnull, pb_getI, pb_getR, pb_putI, pb_putZ, pb_putR, pb_alen, pb_ald, pb_aldR, pb_ast, pb_astZ, pb_astR, pb_vret, pb_iret, pb_zret, pb_aret, pb_cv, pb_cr, pb_sr, pb_switch, pb_sw, pb_nth, pb_set, pb_tk, pb_add, pb_sub, List.length_cons, List.length_nil, true_or, or_true, true_and, and_true, and_self, pb_up_same, pb_up_f, ne_eq, Nat.reduceEqDiff, not_false_eq_true, Nat.reduceAdd, Nat.reduceLeDiff, Nat.zero_le, is_M, mf_number h.1, mk_number, ml_number, hs, r.2.1]
      refine ⟨fun z => absurd z (by omega), fun _ => ?_⟩
      refine c_M_isCaller h hs (fun y => ?_) (fun y => ?_)
      · rw [if_pos (mc.mp y)] at eS
        simp only [pb_iconst, pb_null, pb_iload, pb_aload, pb_istore, pb_astore, pb_iinc, pb_bin, pb_bin0, pb_dup, pb_pop, pb_dup2, pb_if, pb_icmp, pb_ifnull, pb_getI, pb_getR, pb_putI, pb_putZ, pb_putR, pb_alen, pb_ald, pb_aldR, pb_ast, pb_astZ, pb_astR, pb_vret, pb_iret, pb_zret, pb_aret, pb_cv, pb_cr, pb_sr, pb_switch, pb_sw, pb_nth, pb_set, pb_tk, pb_add, pb_sub, List.length_cons, List.length_nil, true_or, or_true, true_and, and_true, and_self, pb_up_same, pb_up_f, ne_eq, Nat.reduceEqDiff, not_false_eq_true, Nat.reduceAdd, Nat.reduceLeDiff, Nat.zero_le, is_M]
        refine ⟨fun z => absurd z (by decide), fun _ => ?_⟩
        refine c_M_goneC h (hNK i) hi hal hcw.1 hcw.2.1 (fun σ1 h1 hd1 => ?_)
        try simp only [pb_iconst, pb_null, pb_iload, pb_aload, pb_istore, pb_astore, pb_iinc, pb_bin, pb_bin0, pb_dup, pb_pop, pb_dup2, pb_if, pb_icmp, pb_ifnull, pb_getI, pb_getR, pb_putI, pb_putZ, pb_putR, pb_alen, pb_ald, pb_aldR, pb_ast, pb_astZ, pb_astR, pb_vret, pb_iret, pb_zret, pb_aret, pb_cv, pb_cr, pb_sr, pb_switch, pb_sw, pb_nth, pb_set, pb_tk, pb_add, pb_sub, List.length_cons, List.length_nil, true_or, or_true, true_and, and_true, and_self, pb_up_same, pb_up_f, ne_eq, Nat.reduceEqDiff, not_false_eq_true, Nat.reduceAdd, Nat.reduceLeDiff, Nat.zero_le]
        have hc := ge_callerGone_c (E := ge_dropK b a E i) hi
        have hi1 : (ge_callerGone (ge_dropK b a E i) i).2.2[i]? = some (g_cc1 f) := by rw [hc]; exact g_at_set hi
        refine l_M_drop68 hb h64 h1 (by rw [hc]; exact (hNK i).set hi (g_cc1_k (by decide) (by decide) (by decide))) ((g_pk_callerGone _ i (hwK i)).2 (hwK i)) hi1 (g_cc1_k (by decide) (by decide) (by decide)) hs hd1 (fun σ2 h2 => nx σ2 ?_)
        rw [eS]
        exact h2
      · rw [if_neg (fun q => y (mc.mpr q))] at eS
        simp only [pb_iconst, pb_null, pb_iload, pb_aload, pb_istore, pb_astore, pb_iinc, pb_bin, pb_bin0, pb_dup, pb_pop, pb_dup2, pb_if, pb_icmp, pb_ifnull, pb_getI, pb_getR, pb_putI, pb_putZ, pb_putR, pb_alen, pb_ald, pb_aldR, pb_ast, pb_astZ, pb_astR, pb_vret, pb_iret, pb_zret, pb_aret, pb_cv, pb_cr, pb_sr, pb_switch, pb_sw, pb_nth, pb_set, pb_tk, pb_add, pb_sub, List.length_cons, List.length_nil, true_or, or_true, true_and, and_true, and_self, pb_up_same, pb_up_f, ne_eq, Nat.reduceEqDiff, not_false_eq_true, Nat.reduceAdd, Nat.reduceLeDiff, Nat.zero_le]
        refine ⟨fun _ => ?_, fun z => absurd trivial z⟩
        refine l_M_drop68 hb h64 h (hNK i) (hwK i) hi rfl hs (Or.inl hal) (fun σ2 h2 => nx σ2 ?_)
        rw [eS]
        exact h2
    · have eK : ge_dropK b a E E.2.2.length = ge_dropK b a E p := ge_dropK_skip E.2.2.length hp (fun j g q1 q2 q3 y => hnone j g q3 (Or.inl y) ((hj j g q3).2 q1))
      rw [eK] at hQ
      simp only [pb_iconst, pb_null, pb_iload, pb_aload, pb_istore, pb_astore, pb_iinc, pb_bin, pb_bin0, pb_dup, pb_pop, pb_dup2, pb_if, pb_icmp, pb_ifnull, pb_getI, pb_getR, pb_putI, pb_putZ, pb_putR, pb_alen, pb_ald, pb_aldR, pb_ast, pb_astZ, pb_astR, pb_vret, pb_iret, pb_zret, pb_aret, pb_cv, pb_cr, pb_sr, pb_switch, pb_sw, pb_nth, pb_set, pb_tk, pb_add, pb_sub, List.length_cons, List.length_nil, true_or, or_true, true_and, and_true, and_self, pb_up_same, pb_up_f, ne_eq, Nat.reduceEqDiff, not_false_eq_true, Nat.reduceAdd, Nat.reduceLeDiff, Nat.zero_le]
      refine pb_s_M_drop_37 x 213 Q _ _ _ _ ?_
      have l1 := (h.2.2.2.1 b hb.1 hb.2).1
      have l2 := (h.2.2.2.1 b hb.1 hb.2).2.1
      have e2 : pb_w (((ge_dropK b a E p).2.1 b).length - 1) = (((ge_dropK b a E p).2.1 b).length : Int) - 1 := pb_w_id (by unfold pb_R; omega)
      simp only [pb_b_M_drop_37, pb_b_M_drop_99, pb_iconst, pb_null, pb_iload, pb_aload, pb_istore, pb_astore, pb_iinc, pb_bin, pb_bin0, pb_dup, pb_pop, pb_dup2, pb_if, pb_icmp, pb_ifnull, pb_getI, pb_getR, pb_putI, pb_putZ, pb_putR, pb_alen, pb_ald, pb_aldR, pb_ast, pb_astZ, pb_astR, pb_vret, pb_iret, pb_zret, pb_aret, pb_cv, pb_cr, pb_sr, pb_switch, pb_sw, pb_nth, pb_set, pb_tk, pb_add, pb_sub, List.length_cons, List.length_nil, true_or, or_true, true_and, and_true, and_self, pb_up_same, pb_up_f, ne_eq, Nat.reduceEqDiff, not_false_eq_true, Nat.reduceAdd, Nat.reduceLeDiff, Nat.zero_le, is_M, mf_rows h.1, mk_rows, ml_rows, hb, l1, e2]
      refine ⟨fun _ => ?_, fun z => absurd (by decide) z⟩
      refine l_M_drop2 (E := ge_dropK b a E p) (l := (ge_dropK b a E p).2.1 b) hb l2 hQ _ (Nat.le_refl _) σ ?_
      have e3 : ge_row (ge_dropK b a E p) b ((ge_dropK b a E p).2.1 b) = ge_dropK b a E p := by
        unfold ge_row
        refine Prod.ext rfl (Prod.ext ?_ rfl)
        funext t'
        show u_up (ge_dropK b a E p).2.1 b ((ge_dropK b a E p).2.1 b) t' = _
        unfold u_up
        split
        · rename_i z; rw [z]
        · rfl
      rw [List.take_length, List.drop_length, List.filter_nil, List.append_nil, e3]
      exact h
theorem c_M_drop (h : RM σ T E (v, fun _ => False) ν) (hb : 0 ≤ b ∧ b < 2) (h64 : 64 ≤ a ∧ a < 68) (hN : g_num E.2.2) (hw : g_cws E.2.2) (hQ : ∀ σ', RM σ' T (ge_drop E b a) (v, fun _ => False) ν → Q (.inl 0) σ') : pb_MJ x i_M_drop [.inr 165, .inl b, .inl a] 213 σ Q := by
  have e1 : pb_mul 4 b = 4 * b := by unfold pb_mul; exact pb_w_id (by unfold pb_R; omega)
  have e2 : pb_w (4 * b + a) = 4 * b + a := pb_w_id (by unfold pb_R; omega)
  have e3 : pb_w (4 * b + a - 64) = 4 * b + (a - 64) := by rw [pb_w_id (by unfold pb_R; omega)]; omega
  have hx : 0 ≤ 4 * b + (a - 64) ∧ 4 * b + (a - 64) < 8 := by omega
  have h1 := rm_aud0 (t := 4 * b + (a - 64)) (rm_upL (t := 4 * b + (a - 64)) (v := 0) h 192 0 (by omega))
  refine pb_m_M_drop ?_
  simp only [pb_b_M_drop_0, pb_iconst, pb_null, pb_iload, pb_aload, pb_istore, pb_astore, pb_iinc, pb_bin, pb_bin0, pb_dup, pb_pop, pb_dup2, pb_if, pb_icmp, pb_ifnull, pb_getI, pb_getR, pb_putI, pb_putZ, pb_putR, pb_alen, pb_ald, pb_aldR, pb_ast, pb_astZ, pb_astR, pb_vret, pb_iret, pb_zret, pb_aret, pb_cv, pb_cr, pb_sr, pb_switch, pb_sw, pb_nth, pb_set, pb_tk, pb_add, pb_sub, List.length_cons, List.length_nil, true_or, or_true, true_and, and_true, and_self, pb_up_same, pb_up_f, ne_eq, Nat.reduceEqDiff, not_false_eq_true, Nat.reduceAdd, Nat.reduceLeDiff, Nat.zero_le, is_M, mf_given h.1, mk_given, ml_given, mf_auditClock h.1, mk_auditClock, ml_auditClock, e1, e2, e3, hx]
  unfold ge_drop at hQ
  rw [if_pos h64] at hQ
  have := l_M_drop1 (x := x) (Q := Q) (E := ge_set (ge_set E 0 (4 * b + (a - 64)) 0) 3 (4 * b + (a - 64)) 0) hb h64 hN hw (fun σ' h2 => hQ σ' (rm_forget h2)) E.2.2.length 0 (Nat.zero_le _) (Nat.le_of_eq rfl) _ 0 none h1 (Int.le_refl _) (fun j f hj => ⟨fun z => absurd z (by omega), fun _ => hN.1 f (List.mem_of_getElem? hj)⟩)
  simp only [pb_b_M_drop_89, pb_iconst, pb_null, pb_iload, pb_aload, pb_istore, pb_astore, pb_iinc, pb_bin, pb_bin0, pb_dup, pb_pop, pb_dup2, pb_if, pb_icmp, pb_ifnull, pb_getI, pb_getR, pb_putI, pb_putZ, pb_putR, pb_alen, pb_ald, pb_aldR, pb_ast, pb_astZ, pb_astR, pb_vret, pb_iret, pb_zret, pb_aret, pb_cv, pb_cr, pb_sr, pb_switch, pb_sw, pb_nth, pb_set, pb_tk, pb_add, pb_sub, List.length_cons, List.length_nil, true_or, or_true, true_and, and_true, and_self, pb_up_same, pb_up_f, ne_eq, Nat.reduceEqDiff, not_false_eq_true, Nat.reduceAdd, Nat.reduceLeDiff, Nat.zero_le, is_M] at this
  exact this
end MD2
