/-! a leg of a call is left -/
section GLV
variable {E : gE} {b a r al : Int} {i : Nat} {f : gC}
theorem ge_leaveK_none : ∀ (d k : Nat), (∀ (j : Nat) (f : gC), k ≤ j → E.2.2[j]? = some f → ¬ g_icb f b a r = true ∧ ¬ g_idb f b a r = true) → ge_leaveK E b a r al d k = E := by
  intro d
  induction d with
  | zero => exact fun _ _ => rfl
  | succ d ih =>
    intro k h
    unfold ge_leaveK
    cases hc : E.2.2[k]? with
    | none => rfl
    | some f =>
      dsimp only
      rw [if_neg (h k f (Nat.le_refl _) hc).1, if_neg (h k f (Nat.le_refl _) hc).2]
      exact ih (k + 1) (fun j g q1 q2 => h j g (by omega) q2)
def ge_lv (E : gE) (b a r al : Int) (i : Nat) (f : gC) : gE := if g_icb f b a r = true then (if ¬ al = 0 ∨ f 9 = 4 then ge_callerGone E i else E) else (if ¬ al = 0 ∨ g_leg f a = 4 then ge_calledGone E i a else E)
theorem ge_leaveK_some (hi : E.2.2[i]? = some f) (hf : g_icb f b a r = true ∨ g_idb f b a r = true) : ∀ (d k : Nat), k ≤ i → i < k + d → (∀ (j : Nat) (g : gC), j < i → E.2.2[j]? = some g → ¬ g_icb g b a r = true ∧ ¬ g_idb g b a r = true) → ge_leaveK E b a r al d k = ge_lv E b a r al i f := by
  intro d
  induction d with
  | zero => exact fun k q1 q2 _ => absurd q1 (by omega)
  | succ d ih =>
    intro k q1 q2 h
    unfold ge_leaveK
    by_cases z : k = i
    · subst z
      rw [hi]
      dsimp only
      unfold ge_lv
      by_cases z2 : g_icb f b a r = true
      · rw [if_pos z2, if_pos z2]
      · rw [if_neg z2, if_neg z2, if_pos (hf.resolve_left z2)]
    · have hl := (List.getElem?_eq_some_iff.mp hi).1
      have hk : E.2.2[k]? = some E.2.2[k] := List.getElem?_eq_getElem (by omega)
      rw [hk]
      dsimp only
      have := h k _ (by omega) hk
      rw [if_neg this.1, if_neg this.2]
      exact ih (k + 1) (by omega) (by omega) h
theorem g_match_alive (h : g_icb f b a r = true ∨ g_idb f b a r = true) : g_alive f = true := by
  refine Decidable.byContradiction (fun y => ?_)
  obtain ⟨d1, d2⟩ := g_dead y
  rcases h with h | h
  · exact (g_icb_iff.mpr h).1 d1
  · exact (g_idb_iff.mpr h).2.2 (d2 a)
end GLV
section MEN
variable {x : pb_E} {σ σ' : pb_H} {T : gT} {E : gE} {w : gW} {ν : pb_H} {b a s t u r al : Int} {Q : pb_P} {i : Nat} {f f' g : gC} {n ch : Int} {v : Int → Int}
theorem l_M_ended {k : Int} (h : RM σ T E (v, fun _ => False) ν) (h64 : 64 ≤ a ∧ a < 68) (hN : g_num E.2.2) (hw : g_cws E.2.2) (hal : k = 5 ↔ ¬ al = 0) (hQ : ∀ σ', RM σ' T (ge_leaveK E b a r al E.2.2.length 0) (v, fun _ => False) ν → Q (.inl 0) σ') : ∀ (d p : Nat), p ≤ E.2.2.length → E.2.2.length - p < d → ∀ (n : Int) (o6 o7 o8 o9 : Option pb_V), 0 ≤ n → (∀ (j : Nat) (f : gC), E.2.2[j]? = some f → (j < p → f 1 ≤ n) ∧ (p ≤ j → n < f 1)) → (∀ (j : Nat) (f : gC), j < p → E.2.2[j]? = some f → ¬ g_icb f b a r = true ∧ ¬ g_idb f b a r = true) → pb_b_M_ended_154 x 213 Q [some (.inr 165), some (.inl b), some (.inl a), some (.inl k), some (.inl r), some (.inl n), o6, o7, o8, o9] [] 213 σ := by
  intro d
  have e64 : pb_w (a - 64) = a - 64 := pb_w_id (by unfold pb_R; omega)
  induction d with
  | zero => exact fun p _ hd => absurd hd (by omega)
  | succ d ih =>
    intro p hp hd n o6 o7 o8 o9 hn hj hno
    simp only [pb_b_M_ended_154, pb_iconst, pb_null, pb_iload, pb_aload, pb_istore, pb_astore, pb_iinc, pb_bin, pb_bin0, pb_dup, pb_pop, pb_dup2, pb_if, pb_icmp, pb_ifnull, pb_getI, pb_getR, pb_putI, pb_putZ, pb_putR, pb_alen, pb_ald, pb_aldR, pb_ast, pb_astZ, pb_astR, pb_vret, pb_iret, pb_zret, pb_aret, pb_cv, pb_cr, pb_sr, pb_switch, pb_sw, pb_nth, pb_set, pb_tk, pb_add, pb_sub, List.length_cons, List.length_nil, true_or, or_true, true_and, and_true, and_self, pb_up_same, pb_up_f, ne_eq, Nat.reduceEqDiff, not_false_eq_true, Nat.reduceAdd, Nat.reduceLeDiff, Nat.zero_le, is_M]
    refine c_M_after h hN hn (fun i f hi hh hlt hmin => ?_) (fun hnone => ?_)
    · have hip : p ≤ i := Nat.le_of_not_lt (fun z => by have := (hj i f hi).1 z; omega)
      have hil : i < E.2.2.length := (List.getElem?_eq_some_iff.mp hi).1
      have halv : g_alive f = true := hh.resolve_right id
      have rr : (0 ≤ v (f 1) ∧ v (f 1) < 4) ∧ rm_1 σ (v (f 1)) f := r_1 h hi (Or.inl halv)
      have hs := rr.1
      have hpos : 0 < f 1 := hN.1 f (List.mem_of_getElem? hi)
      have mc := m_caller (b := b) (a := a) rr.2 hpos
      have md := m_called (b := b) (a := a) rr.2 hpos h64
      have hcw := hw i f hi
      have hno2 : ∀ (j : Nat) (g : gC), j < i → E.2.2[j]? = some g → ¬ g_icb g b a r = true ∧ ¬ g_idb g b a r = true := by
        intro j g q1 q2
        by_cases z : j < p
        · exact hno j g z q2
        · by_cases z2 : g_alive g = true
          · have := hmin j g q2 (Or.inl z2) ((hj j g q2).2 (by omega))
            omega
          · exact ⟨fun y => z2 (g_match_alive (Or.inl y)), fun y => z2 (g_match_alive (Or.inr y))⟩
      have nx : ¬ (g_icb f b a r = true ∨ g_idb f b a r = true) → ∀ o6 o7 o8 o9 : Option pb_V, pb_b_M_ended_154 x 213 Q [some (.inr 165), some (.inl b), some (.inl a), some (.inl k), some (.inl r), some (.inl (f 1)), o6, o7, o8, o9] [] 213 σ := by
        intro y o6 o7 o8 o9
        refine ih (i + 1) (by omega) (by omega) (f 1) o6 o7 o8 o9 (by omega) (fun j g q => ⟨fun q2 => ?_, fun q2 => hN.lt hi q (by omega)⟩) (fun j g q1 q2 => ?_)
        · by_cases z : j = i
          · subst z
            rw [hi] at q
            obtain rfl := Option.some.inj q
            omega
          · have := hN.lt q hi (by omega)
            omega
        · by_cases z : j = i
          · subst z
            rw [hi] at q2
            obtain rfl := Option.some.inj q2
            exact ⟨fun q => y (Or.inl q), fun q => y (Or.inr q)⟩
          · exact hno2 j g (by omega) q2
      have hit : g_icb f b a r = true ∨ g_idb f b a r = true → ∀ σ', RM σ' T (ge_lv E b a r al i f) (v, fun _ => False) ν → Q (.inl 0) σ' := by
        intro y σ' q
        rw [← ge_leaveK_some (al := al) hi y E.2.2.length 0 (Nat.zero_le _) (by omega) hno2] at q
        exact hQ _ q
      have e1 : pb_mul 4 (v (f 1)) = 4 * v (f 1) := by unfold pb_mul; exact pb_w_id (by unfold pb_R; omega)
      have e2 : pb_w (4 * v (f 1) + a) = 4 * v (f 1) + a := pb_w_id (by unfold pb_R; omega)
      have e3 : pb_w (4 * v (f 1) + a - 64) = 4 * v (f 1) + (a - 64) := by rw [pb_w_id (by unfold pb_R; omega)]; omega
      have hx : 0 ≤ 4 * v (f 1) + (a - 64) ∧ 4 * v (f 1) + (a - 64) < 16 := by omega
      have ml := m_leg (a := a) rr.2 h64
      -- where the caller's leg is meant
      have k92a : g_icb f b a r = true → ∀ o8 o9 : Option pb_V, pb_b_M_ended_92 x 213 Q [some (.inr 165), some (.inl b), some (.inl a), some (.inl k), some (.inl r), some (.inl (f 1)), some (.inl (v (f 1))), some (.inl 1), o8, o9] [] 213 σ := by
        intro y o8 o9
        have hq := hit (Or.inl y)
        unfold ge_lv at hq
        rw [if_pos y] at hq
        have gc : ¬ al = 0 ∨ f 9 = 4 → pb_MJ x i_M_gone [.inr 165, .inl (v (f 1)), .inl (-1)] 213 σ (fun _ σ' => Q (.inl 0) σ') := fun q => by
          rw [if_pos q] at hq
          exact c_M_goneC h hN hi halv hcw.1 hcw.2.1 (fun σ1 h1 _ => hq _ h1)
        simp only [pb_b_M_ended_92, pb_b_M_ended_121, pb_b_M_ended_134, pb_b_M_ended_150, pb_b_M_ended_153, pb_iconst, pb_null, pb_iload, pb_aload, pb_istore, pb_astore, pb_iinc, pb_bin, pb_bin0, pb_dup, pb_pop, pb_dup2, pb_if, pb_icmp, pb_ifnull, pb_getI, pb_getR, pb_putI, pb_putZ, pb_putR, pb_alen, pb_ald, pb_aldR, pb_ast, pb_astZ, pb_astR, pb_vret, pb_iret, pb_zret, pb_aret, pb_cv, pb_cr, pb_sr, pb_switch, pb_sw, pb_nth, pb_set, pb_tk, pb_add, pb_sub, List.length_cons, List.length_nil, true_or, or_true, true_and, and_true, and_self, pb_up_same, pb_up_f, ne_eq, Nat.reduceEqDiff, not_false_eq_true, Nat.reduceAdd, Nat.reduceLeDiff, Nat.zero_le, is_M, mf_caller h.1, mk_caller, ml_caller, hs, rr.2.2.1]
        refine ⟨fun z => absurd z (by decide), fun _ => ⟨fun z => ⟨fun z2 => absurd z2 (by decide), fun _ => gc (Or.inl (hal.mp z))⟩, fun z => ⟨fun z2 => ?_, fun z2 => ⟨fun z3 => absurd z3 (by decide), fun _ => gc (Or.inr (g_cc_3.mp (Decidable.not_not.mp z2)))⟩⟩⟩⟩
        rw [if_neg (fun q => q.elim (fun q => z (hal.mpr q)) (fun q => z2 (g_cc_3.mpr q)))] at hq
        exact hq _ h
      have k92b : ¬ g_icb f b a r = true → g_idb f b a r = true → ∀ o8 o9 : Option pb_V, pb_b_M_ended_92 x 213 Q [some (.inr 165), some (.inl b), some (.inl a), some (.inl k), some (.inl r), some (.inl (f 1)), some (.inl (v (f 1))), some (.inl 0), o8, o9] [] 213 σ := by
        intro y0 y o8 o9
        have hq := hit (Or.inr y)
        unfold ge_lv at hq
        rw [if_neg y0] at hq
        have gc : ¬ al = 0 ∨ g_leg f a = 4 → pb_MJ x i_M_gone [.inr 165, .inl (v (f 1)), .inl (a - 64)] 213 σ (fun _ σ' => Q (.inl 0) σ') := fun q => by
          rw [if_pos q] at hq
          exact c_M_goneD h hN hi halv hcw.1 hcw.2.1 h64 hq
        simp only [pb_b_M_ended_92, pb_b_M_ended_107, pb_b_M_ended_121, pb_b_M_ended_134, pb_b_M_ended_146, pb_b_M_ended_150, pb_b_M_ended_153, pb_iconst, pb_null, pb_iload, pb_aload, pb_istore, pb_astore, pb_iinc, pb_bin, pb_bin0, pb_dup, pb_pop, pb_dup2, pb_if, pb_icmp, pb_ifnull, pb_getI, pb_getR, pb_putI, pb_putZ, pb_putR, pb_alen, pb_ald, pb_aldR, pb_ast, pb_astZ, pb_astR, pb_vret, pb_iret, pb_zret, pb_aret, pb_cv, pb_cr, pb_sr, pb_switch, pb_sw, pb_nth, pb_set, pb_tk, pb_add, pb_sub, List.length_cons, List.length_nil, true_or, or_true, true_and, and_true, and_self, pb_up_same, pb_up_f, ne_eq, Nat.reduceEqDiff, not_false_eq_true, Nat.reduceAdd, Nat.reduceLeDiff, Nat.zero_le, is_M, mf_leg h.1, mk_leg, ml_leg, e1, e2, e3, hx, ml, e64]
        refine ⟨fun _ => ⟨fun z => ⟨fun _ => gc (Or.inl (hal.mp z)), fun z2 => absurd trivial z2⟩, fun z => ⟨fun z2 => ?_, fun z2 => ⟨fun _ => gc (Or.inr (g_lc_3.mp (Decidable.not_not.mp z2))), fun z3 => absurd trivial z3⟩⟩⟩, fun z => absurd trivial z⟩
        rw [if_neg (fun q => q.elim (fun q => z (hal.mpr q)) (fun q => z2 (g_lc_3.mpr q)))] at hq
        exact hq _ h
      have k53 : ∀ c : Int, (c = 0 → ¬ g_icb f b a r = true) → (¬ c = 0 → c = 1 ∧ g_icb f b a r = true) → ∀ o7 o8 o9 : Option pb_V, pb_b_M_ended_53 x 213 Q [some (.inr 165), some (.inl b), some (.inl a), some (.inl k), some (.inl r), some (.inl (f 1)), some (.inl (v (f 1))), o7, o8, o9] [.inl c] 213 σ := by
        intro c c0 c1 o7 o8 o9
        have k80 : ∀ s : Int, (s = 0 → ¬ g_idb f b a r = true) → (¬ s = 0 → g_idb f b a r = true) → pb_b_M_ended_80 x 213 Q [some (.inr 165), some (.inl b), some (.inl a), some (.inl k), some (.inl r), some (.inl (f 1)), some (.inl (v (f 1))), some (.inl c), o8, o9] [.inl s] 213 σ := by
          intro s s0 s1
          simp only [pb_b_M_ended_80, pb_iconst, pb_null, pb_iload, pb_aload, pb_istore, pb_astore, pb_iinc, pb_bin, pb_bin0, pb_dup, pb_pop, pb_dup2, pb_if, pb_icmp, pb_ifnull, pb_getI, pb_getR, pb_putI, pb_putZ, pb_putR, pb_alen, pb_ald, pb_aldR, pb_ast, pb_astZ, pb_astR, pb_vret, pb_iret, pb_zret, pb_aret, pb_cv, pb_cr, pb_sr, pb_switch, pb_sw, pb_nth, pb_set, pb_tk, pb_add, pb_sub, List.length_cons, List.length_nil, true_or, or_true, true_and, and_true, and_self, pb_up_same, pb_up_f, ne_eq, Nat.reduceEqDiff, not_false_eq_true, Nat.reduceAdd, Nat.reduceLeDiff, Nat.zero_le]
          refine ⟨fun z => ?_, fun z => ⟨fun z2 => nx (fun q => q.elim (c0 (Decidable.not_not.mp z)) (s0 z2)) _ _ _ _, fun z2 => ?_⟩⟩
          · obtain ⟨q1, q2⟩ := c1 z
            subst q1
            exact k92a q2 _ _
          · have q1 := Decidable.not_not.mp z
            subst q1
            exact k92b (c0 rfl) (s1 z2) _ _
        simp only [pb_b_M_ended_53, pb_b_M_ended_79, pb_iconst, pb_null, pb_iload, pb_aload, pb_istore, pb_astore, pb_iinc, pb_bin, pb_bin0, pb_dup, pb_pop, pb_dup2, pb_if, pb_icmp, pb_ifnull, pb_getI, pb_getR, pb_putI, pb_putZ, pb_putR, pb_alen, pb_ald, pb_aldR, pb_ast, pb_astZ, pb_astR, pb_vret, pb_iret, pb_zret, pb_aret, pb_cv, pb_cr, pb_sr, pb_switch, pb_sw, pb_nth, pb_set, pb_tk, pb_add, pb_sub, List.length_cons, List.length_nil, true_or, or_true, true_and, and_true, and_self, pb_up_same, pb_up_f, ne_eq, Nat.reduceEqDiff, not_false_eq_true, Nat.reduceAdd, Nat.reduceLeDiff, Nat.zero_le, is_M]
        refine c_M_isCalled h hs h64 (fun y => ?_) (fun y => ?_)
        · have q := md.mp y
          simp only [pb_iconst, pb_null, pb_iload, pb_aload, pb_istore, pb_astore, pb_iinc, pb_bin, pb_bin0, pb_dup, pb_pop, pb_dup2, pb_if, pb_icmp, pb_ifnull, pb_getI, pb_getR, pb_putI, pb_putZ, pb_putR, pb_alen, pb_ald, pb_aldR, pb_ast, pb_astZ, pb_astR, pb_vret, pb_iret, pb_zret, pb_aret, pb_cv, pb_cr, pb_sr, pb_switch, pb_sw, pb_nth, pb_set, pb_tk, pb_add, pb_sub, List.length_cons, List.length_nil, true_or, or_true, true_and, and_true, and_self, pb_up_same, pb_up_f, ne_eq, Nat.reduceEqDiff, not_false_eq_true, Nat.reduceAdd, Nat.reduceLeDiff, Nat.zero_le]
          refine ⟨fun z => absurd z (by decide), fun _ => ⟨fun z => k80 0 (fun _ q2 => z (g_idb_iff.mpr q2).2.1) (fun q2 => absurd rfl q2), fun z => k80 1 (fun q2 => absurd q2 (by decide)) (fun _ => g_idb_iff.mp ⟨q.1, Decidable.not_not.mp z, q.2⟩)⟩⟩
        · simp only [pb_iconst, pb_null, pb_iload, pb_aload, pb_istore, pb_astore, pb_iinc, pb_bin, pb_bin0, pb_dup, pb_pop, pb_dup2, pb_if, pb_icmp, pb_ifnull, pb_getI, pb_getR, pb_putI, pb_putZ, pb_putR, pb_alen, pb_ald, pb_aldR, pb_ast, pb_astZ, pb_astR, pb_vret, pb_iret, pb_zret, pb_aret, pb_cv, pb_cr, pb_sr, pb_switch, pb_sw, pb_nth, pb_set, pb_tk, pb_add, pb_sub, List.length_cons, List.length_nil, true_or, or_true, true_and, and_true, and_self, pb_up_same, pb_up_f, ne_eq, Nat.reduceEqDiff, not_false_eq_true, Nat.reduceAdd, Nat.reduceLeDiff, Nat.zero_le]
          exact ⟨fun _ => k80 0 (fun _ q2 => y (md.mpr ⟨(g_idb_iff.mpr q2).1, (g_idb_iff.mpr q2).2.2⟩)) (fun q2 => absurd rfl q2), fun z => absurd trivial z⟩
      simp only [pb_iconst, pb_null, pb_iload, pb_aload, pb_istore, pb_astore, pb_iinc, pb_bin, pb_bin0, pb_dup, pb_pop, pb_dup2, pb_if, pb_icmp, pb_ifnull, pb_getI, pb_getR, pb_putI, pb_putZ, pb_putR, pb_alen, pb_ald, pb_aldR, pb_ast, pb_astZ, pb_astR, pb_vret, pb_iret, pb_zret, pb_aret, pb_cv, pb_cr, pb_sr, pb_switch, pb_sw, pb_nth, pb_set, pb_tk, pb_add, pb_sub, List.length_cons, List.length_nil, true_or, or_true, true_and, and_true, and_self, pb_up_same, pb_up_f, ne_eq, Nat.reduceEqDiff, not_false_eq_true, Nat.reduceAdd, Nat.reduceLeDiff, Nat.zero_le]
      refine pb_s_M_ended_11 x 213 Q _ _ _ _ ?_
      simp only [pb_b_M_ended_11, pb_iconst, pb_null, pb_iload, pb_aload, pb_istore, pb_astore, pb_iinc, pb_bin, pb_bin0, pb_dup, pb_pop, pb_dup2, pb_if, pb_icmp, pb_ifnull, pb_getI, pb_getR, pb_putI, pb_putZ, pb_putR, pb_alen, pb_ald, pb_aldR, pb_ast, pb_astZ, pb_astR, pb_vret, pb_iret, pb_zret, pb_aret, pb_cv, pb_cr, pb_sr, pb_switch, pb_sw, pb_nth, pb_set, pb_tk, pb_add, pb_sub, List.length_cons, List.length_nil, true_or, or_true, true_and, and_true, and_self, pb_up_same, pb_up_f, ne_eq, Nat.reduceEqDiff, not_false_eq_true, Nat.reduceAdd, Nat.reduceLeDiff, Nat.zero_le, is_M, mf_number h.1, mk_number, ml_number, hs, rr.2.1]
      refine ⟨fun z => absurd z (by omega), fun _ => ?_⟩
      refine c_M_isCaller h hs (fun y => ?_) (fun y => ?_)
      · have q := mc.mp y
        simp only [pb_b_M_ended_52, pb_iconst, pb_null, pb_iload, pb_aload, pb_istore, pb_astore, pb_iinc, pb_bin, pb_bin0, pb_dup, pb_pop, pb_dup2, pb_if, pb_icmp, pb_ifnull, pb_getI, pb_getR, pb_putI, pb_putZ, pb_putR, pb_alen, pb_ald, pb_aldR, pb_ast, pb_astZ, pb_astR, pb_vret, pb_iret, pb_zret, pb_aret, pb_cv, pb_cr, pb_sr, pb_switch, pb_sw, pb_nth, pb_set, pb_tk, pb_add, pb_sub, List.length_cons, List.length_nil, true_or, or_true, true_and, and_true, and_self, pb_up_same, pb_up_f, ne_eq, Nat.reduceEqDiff, not_false_eq_true, Nat.reduceAdd, Nat.reduceLeDiff, Nat.zero_le, is_M, mf_callerReference h.1, mk_callerReference, ml_callerReference, hs, rr.2.2.2.2.2.1]
        exact ⟨fun z => absurd z (by decide), fun _ => ⟨fun z => k53 0 (fun _ q2 => z (g_icb_iff.mpr q2).2.2.2) (fun q2 => absurd rfl q2) _ _ _, fun z => k53 1 (fun q2 => absurd q2 (by decide)) (fun _ => ⟨rfl, g_icb_iff.mp ⟨q.1, q.2.1, q.2.2, Decidable.not_not.mp z⟩⟩) _ _ _⟩⟩
      · simp only [pb_b_M_ended_52, pb_iconst, pb_null, pb_iload, pb_aload, pb_istore, pb_astore, pb_iinc, pb_bin, pb_bin0, pb_dup, pb_pop, pb_dup2, pb_if, pb_icmp, pb_ifnull, pb_getI, pb_getR, pb_putI, pb_putZ, pb_putR, pb_alen, pb_ald, pb_aldR, pb_ast, pb_astZ, pb_astR, pb_vret, pb_iret, pb_zret, pb_aret, pb_cv, pb_cr, pb_sr, pb_switch, pb_sw, pb_nth, pb_set, pb_tk, pb_add, pb_sub, List.length_cons, List.length_nil, true_or, or_true, true_and, and_true, and_self, pb_up_same, pb_up_f, ne_eq, Nat.reduceEqDiff, not_false_eq_true, Nat.reduceAdd, Nat.reduceLeDiff, Nat.zero_le]
        exact ⟨fun _ => k53 0 (fun _ q2 => y (mc.mpr ⟨(g_icb_iff.mpr q2).1, (g_icb_iff.mpr q2).2.1, (g_icb_iff.mpr q2).2.2.1⟩)) (fun q2 => absurd rfl q2) _ _ _, fun z => absurd trivial z⟩
    · have e0 : ge_leaveK E b a r al E.2.2.length 0 = E := ge_leaveK_none _ _ (fun j f _ q2 => by
        by_cases z : j < p
        · exact hno j f z q2
        · have : ¬ g_alive f = true := fun y => hnone j f q2 (Or.inl y) ((hj j f q2).2 (by omega))
          exact ⟨fun y => this (g_match_alive (Or.inl y)), fun y => this (g_match_alive (Or.inr y))⟩)
      rw [e0] at hQ
      simp only [pb_iconst, pb_null, pb_iload, pb_aload, pb_istore, pb_astore, pb_iinc, pb_bin, pb_bin0, pb_dup, pb_pop, pb_dup2, pb_if, pb_icmp, pb_ifnull, pb_getI, pb_getR, pb_putI, pb_putZ, pb_putR, pb_alen, pb_ald, pb_aldR, pb_ast, pb_astZ, pb_astR, pb_vret, pb_iret, pb_zret, pb_aret, pb_cv, pb_cr, pb_sr, pb_switch, pb_sw, pb_nth, pb_set, pb_tk, pb_add, pb_sub, List.length_cons, List.length_nil, true_or, or_true, true_and, and_true, and_self, pb_up_same, pb_up_f, ne_eq, Nat.reduceEqDiff, not_false_eq_true, Nat.reduceAdd, Nat.reduceLeDiff, Nat.zero_le]
      refine pb_s_M_ended_11 x 213 Q _ _ _ _ ?_
      simp only [pb_b_M_ended_11, pb_b_M_ended_165, pb_iconst, pb_null, pb_iload, pb_aload, pb_istore, pb_astore, pb_iinc, pb_bin, pb_bin0, pb_dup, pb_pop, pb_dup2, pb_if, pb_icmp, pb_ifnull, pb_getI, pb_getR, pb_putI, pb_putZ, pb_putR, pb_alen, pb_ald, pb_aldR, pb_ast, pb_astZ, pb_astR, pb_vret, pb_iret, pb_zret, pb_aret, pb_cv, pb_cr, pb_sr, pb_switch, pb_sw, pb_nth, pb_set, pb_tk, pb_add, pb_sub, List.length_cons, List.length_nil, true_or, or_true, true_and, and_true, and_self, pb_up_same, pb_up_f, ne_eq, Nat.reduceEqDiff, not_false_eq_true, Nat.reduceAdd, Nat.reduceLeDiff, Nat.zero_le]
      exact ⟨fun _ => hQ _ h, fun z => absurd (by decide) z⟩
theorem c_M_ended {k : Int} (h : RM σ T E (v, fun _ => False) ν) (h64 : 64 ≤ a ∧ a < 68) (hN : g_num E.2.2) (hw : g_cws E.2.2) (hal : k = 5 ↔ ¬ al = 0) (hQ : ∀ σ', RM σ' T (ge_leave E b a r al) (v, fun _ => False) ν → Q (.inl 0) σ') : pb_MJ x i_M_ended [.inr 165, .inl b, .inl a, .inl k, .inl r] 213 σ Q := by
  refine pb_m_M_ended ?_
  simp only [pb_b_M_ended_0, pb_iconst, pb_null, pb_iload, pb_aload, pb_istore, pb_astore, pb_iinc, pb_bin, pb_bin0, pb_dup, pb_pop, pb_dup2, pb_if, pb_icmp, pb_ifnull, pb_getI, pb_getR, pb_putI, pb_putZ, pb_putR, pb_alen, pb_ald, pb_aldR, pb_ast, pb_astZ, pb_astR, pb_vret, pb_iret, pb_zret, pb_aret, pb_cv, pb_cr, pb_sr, pb_switch, pb_sw, pb_nth, pb_set, pb_tk, pb_add, pb_sub, List.length_cons, List.length_nil, true_or, or_true, true_and, and_true, and_self, pb_up_same, pb_up_f, ne_eq, Nat.reduceEqDiff, not_false_eq_true, Nat.reduceAdd, Nat.reduceLeDiff, Nat.zero_le, is_M]
  have := l_M_ended (x := x) (Q := Q) (b := b) (r := r) h h64 hN hw hal (fun σ' h2 => hQ σ' (rm_forget h2)) (E.2.2.length + 1) 0 (Nat.zero_le _) (by omega) 0 none none none none (Int.le_refl _) (fun j f hj => ⟨fun z => absurd z (by omega), fun _ => hN.1 f (List.mem_of_getElem? hj)⟩) (fun j f z => absurd z (by omega))
  simp only [pb_b_M_ended_154, pb_iconst, pb_null, pb_iload, pb_aload, pb_istore, pb_astore, pb_iinc, pb_bin, pb_bin0, pb_dup, pb_pop, pb_dup2, pb_if, pb_icmp, pb_ifnull, pb_getI, pb_getR, pb_putI, pb_putZ, pb_putR, pb_alen, pb_ald, pb_aldR, pb_ast, pb_astZ, pb_astR, pb_vret, pb_iret, pb_zret, pb_aret, pb_cv, pb_cr, pb_sr, pb_switch, pb_sw, pb_nth, pb_set, pb_tk, pb_add, pb_sub, List.length_cons, List.length_nil, true_or, or_true, true_and, and_true, and_self, pb_up_same, pb_up_f, ne_eq, Nat.reduceEqDiff, not_false_eq_true, Nat.reduceAdd, Nat.reduceLeDiff, Nat.zero_le, is_M] at this
  exact this
theorem l_M_callsWith (h : RM σ T E w ν) (hN : g_num E.2.2) (hQ : ∀ c : Int, ((c = 0 ∨ c = 1) ∧ (¬ c = 0 ↔ ∃ (i : Nat) (f : gC), E.2.2[i]? = some f ∧ g_held w f ∧ g_isCaller f b a r)) → Q (.inl c) σ) : ∀ (d k : Nat), k + d = 4 → ∀ c : Int, (c = 0 ∨ c = 1) → (¬ c = 0 ↔ ∃ (i : Nat) (f : gC), E.2.2[i]? = some f ∧ g_held w f ∧ w.1 (f 1) < k ∧ g_isCaller f b a r) → pb_WJ x i_M_callsWith 213 Q 6 [some (.inr 165), some (.inl b), some (.inl a), some (.inl r), some (.inl c), some (.inl k)] [] 213 σ := by
  intro d
  induction d with
  | zero =>
    intro k hk c hc hp
    refine pb_s_M_callsWith_6 x 213 Q _ _ _ _ ?_
    simp only [pb_b_M_callsWith_6, pb_b_M_callsWith_52, pb_iconst, pb_null, pb_iload, pb_aload, pb_istore, pb_astore, pb_iinc, pb_bin, pb_bin0, pb_dup, pb_pop, pb_dup2, pb_if, pb_icmp, pb_ifnull, pb_getI, pb_getR, pb_putI, pb_putZ, pb_putR, pb_alen, pb_ald, pb_aldR, pb_ast, pb_astZ, pb_astR, pb_vret, pb_iret, pb_zret, pb_aret, pb_cv, pb_cr, pb_sr, pb_switch, pb_sw, pb_nth, pb_set, pb_tk, pb_add, pb_sub, List.length_cons, List.length_nil, true_or, or_true, true_and, and_true, and_self, pb_up_same, pb_up_f, ne_eq, Nat.reduceEqDiff, not_false_eq_true, Nat.reduceAdd, Nat.reduceLeDiff, Nat.zero_le]
    refine ⟨fun _ => ⟨hc, hQ c ⟨hc, hp.trans ⟨fun ⟨i, f, y1, y2, _, y3⟩ => ⟨i, f, y1, y2, y3⟩, fun ⟨i, f, y1, y2, y3⟩ => ⟨i, f, y1, y2, ?_, y3⟩⟩⟩⟩, fun z => absurd z (by omega)⟩
    have := (r_1 h y1 y2).1
    omega
  | succ d ih =>
    intro k hk c hc hp
    have e : pb_w ((k : Int) + 1) = ((k + 1 : Nat) : Int) := by rw [pb_w_id (by unfold pb_R; omega)]; omega
    have hs : 0 ≤ (k : Int) ∧ (k : Int) < 4 := by omega
    have n1 : (∃ (i : Nat) (f : gC), E.2.2[i]? = some f ∧ g_held w f ∧ w.1 (f 1) ≤ k ∧ g_isCaller f b a r) → pb_WJ x i_M_callsWith 213 Q 6 [some (.inr 165), some (.inl b), some (.inl a), some (.inl r), some (.inl 1), some (.inl ((k + 1 : Nat) : Int))] [] 213 σ := fun ⟨i, f, y1, y2, y3, y4⟩ => ih (k + 1) (by omega) 1 (Or.inr rfl) ⟨fun _ => ⟨i, f, y1, y2, by omega, y4⟩, fun _ => by decide⟩
    have n0 : (∀ (i : Nat) (f : gC), E.2.2[i]? = some f → g_held w f → w.1 (f 1) < k → ¬ g_isCaller f b a r) → (∀ (i : Nat) (f : gC), E.2.2[i]? = some f → g_held w f → w.1 (f 1) = k → ¬ g_isCaller f b a r) → pb_WJ x i_M_callsWith 213 Q 6 [some (.inr 165), some (.inl b), some (.inl a), some (.inl r), some (.inl 0), some (.inl ((k + 1 : Nat) : Int))] [] 213 σ := fun y y' => ih (k + 1) (by omega) 0 (Or.inl rfl) ⟨fun z => absurd rfl z, fun ⟨i, f, y1, y2, y3, y4⟩ => by
      by_cases z : w.1 (f 1) = k
      · exact absurd y4 (y' i f y1 y2 z)
      · exact absurd y4 (y i f y1 y2 (by omega))⟩
    refine pb_s_M_callsWith_6 x 213 Q _ _ _ _ ?_
    simp only [pb_b_M_callsWith_6, pb_b_M_callsWith_39, pb_b_M_callsWith_43, pb_b_M_callsWith_44, pb_iconst, pb_null, pb_iload, pb_aload, pb_istore, pb_astore, pb_iinc, pb_bin, pb_bin0, pb_dup, pb_pop, pb_dup2, pb_if, pb_icmp, pb_ifnull, pb_getI, pb_getR, pb_putI, pb_putZ, pb_putR, pb_alen, pb_ald, pb_aldR, pb_ast, pb_astZ, pb_astR, pb_vret, pb_iret, pb_zret, pb_aret, pb_cv, pb_cr, pb_sr, pb_switch, pb_sw, pb_nth, pb_set, pb_tk, pb_add, pb_sub, List.length_cons, List.length_nil, true_or, or_true, true_and, and_true, and_self, pb_up_same, pb_up_f, ne_eq, Nat.reduceEqDiff, not_false_eq_true, Nat.reduceAdd, Nat.reduceLeDiff, Nat.zero_le, is_M, e]
    refine ⟨fun z => absurd z (by omega), fun _ => ⟨fun z => ?_, fun z => ?_⟩⟩
    · obtain ⟨i, f, y1, y2, y3, y4⟩ := hp.mp z
      exact n1 ⟨i, f, y1, y2, by omega, y4⟩
    · have hno : ∀ (i : Nat) (f : gC), E.2.2[i]? = some f → g_held w f → w.1 (f 1) < k → ¬ g_isCaller f b a r := fun i f y1 y2 y3 y4 => z (hp.mpr ⟨i, f, y1, y2, y3, y4⟩)
      refine c_M_isCaller h hs (fun y => ?_) (fun y => ?_)
      · rcases r_slot h hs with ⟨i, f, q1, q2, q3, q4⟩ | ⟨q1, q2⟩
        · have hpos : 0 < f 1 := hN.1 f (List.mem_of_getElem? q1)
          have q5 := (m_caller q4 hpos).mp y
          simp only [pb_iconst, pb_null, pb_iload, pb_aload, pb_istore, pb_astore, pb_iinc, pb_bin, pb_bin0, pb_dup, pb_pop, pb_dup2, pb_if, pb_icmp, pb_ifnull, pb_getI, pb_getR, pb_putI, pb_putZ, pb_putR, pb_alen, pb_ald, pb_aldR, pb_ast, pb_astZ, pb_astR, pb_vret, pb_iret, pb_zret, pb_aret, pb_cv, pb_cr, pb_sr, pb_switch, pb_sw, pb_nth, pb_set, pb_tk, pb_add, pb_sub, List.length_cons, List.length_nil, true_or, or_true, true_and, and_true, and_self, pb_up_same, pb_up_f, ne_eq, Nat.reduceEqDiff, not_false_eq_true, Nat.reduceAdd, Nat.reduceLeDiff, Nat.zero_le, is_M, mf_callerReference h.1, mk_callerReference, ml_callerReference, hs, q4.2.2.2.2.1, e]
          refine ⟨fun z2 => absurd z2 (by decide), fun _ => ⟨fun z2 => n0 hno (fun j g y1 y2 y3 y4 => ?_), fun z2 => n1 ⟨i, f, q1, q2, by omega, q5.1, q5.2.1, q5.2.2, Decidable.not_not.mp z2⟩⟩⟩
          have r1 := r_1 h y1 y2
          rw [y3] at r1
          exact z2 (q4.2.2.2.2.1.symm.trans (r1.2.2.2.2.2.1.trans y4.2.2.2))
        · omega
      · simp only [pb_iconst, pb_null, pb_iload, pb_aload, pb_istore, pb_astore, pb_iinc, pb_bin, pb_bin0, pb_dup, pb_pop, pb_dup2, pb_if, pb_icmp, pb_ifnull, pb_getI, pb_getR, pb_putI, pb_putZ, pb_putR, pb_alen, pb_ald, pb_aldR, pb_ast, pb_astZ, pb_astR, pb_vret, pb_iret, pb_zret, pb_aret, pb_cv, pb_cr, pb_sr, pb_switch, pb_sw, pb_nth, pb_set, pb_tk, pb_add, pb_sub, List.length_cons, List.length_nil, true_or, or_true, true_and, and_true, and_self, pb_up_same, pb_up_f, ne_eq, Nat.reduceEqDiff, not_false_eq_true, Nat.reduceAdd, Nat.reduceLeDiff, Nat.zero_le, e]
        refine ⟨fun _ => n0 hno (fun j g y1 y2 y3 y4 => ?_), fun z2 => absurd trivial z2⟩
        have r1 := r_1 h y1 y2
        rw [y3] at r1
        exact y ((m_caller r1.2 (hN.1 g (List.mem_of_getElem? y1))).mpr ⟨y4.1, y4.2.1, y4.2.2.1⟩)
theorem c_M_callsWith (h : RM σ T E w ν) (hN : g_num E.2.2) (hQ : ∀ c : Int, ((c = 0 ∨ c = 1) ∧ (¬ c = 0 ↔ ∃ (i : Nat) (f : gC), E.2.2[i]? = some f ∧ g_held w f ∧ g_isCaller f b a r)) → Q (.inl c) σ) : pb_MJ x i_M_callsWith [.inr 165, .inl b, .inl a, .inl r] 213 σ Q := by
  refine pb_m_M_callsWith ?_
  simp only [pb_b_M_callsWith_0, pb_iconst, pb_null, pb_iload, pb_aload, pb_istore, pb_astore, pb_iinc, pb_bin, pb_bin0, pb_dup, pb_pop, pb_dup2, pb_if, pb_icmp, pb_ifnull, pb_getI, pb_getR, pb_putI, pb_putZ, pb_putR, pb_alen, pb_ald, pb_aldR, pb_ast, pb_astZ, pb_astR, pb_vret, pb_iret, pb_zret, pb_aret, pb_cv, pb_cr, pb_sr, pb_switch, pb_sw, pb_nth, pb_set, pb_tk, pb_add, pb_sub, List.length_cons, List.length_nil, true_or, or_true, true_and, and_true, and_self, pb_up_same, pb_up_f, ne_eq, Nat.reduceEqDiff, not_false_eq_true, Nat.reduceAdd, Nat.reduceLeDiff, Nat.zero_le]
  refine l_M_callsWith h hN hQ 4 0 rfl 0 (Or.inl rfl) ⟨fun z => absurd rfl z, fun ⟨i, f, y1, y2, y3, _⟩ => ?_⟩
  have := (r_1 h y1 y2).1
  omega
end MEN
