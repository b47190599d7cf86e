/-! legs that leave, addresses that are dropped -/
/-- the calls stay as many, and in their ranges -/
def g_pk (E E' : gE) : Prop := E'.2.2.length = E.2.2.length ∧ (g_cws E.2.2 → g_cws E'.2.2)
theorem g_pk.rf (E : gE) : g_pk E E := ⟨rfl, id⟩
theorem g_pk.tr {E E' E'' : gE} (h : g_pk E E') (h' : g_pk E' E'') : g_pk E E'' := ⟨h'.1.trans h.1, fun q => h'.2 (h.2 q)⟩
theorem g_pk.same {E E' : gE} (h : E'.2.2 = E.2.2) : g_pk E E' := ⟨by rw [h], fun q => by rw [h]; exact q⟩
theorem g_pk.cset {E : gE} {i : Nat} {f g : gC} (hf : E.2.2[i]? = some f) (h5 : g 5 = f 5) (h10 : g 10 = f 10) (h12 : pb_R (g 12)) : g_pk E (ge_cset E i g) := by
  refine ⟨List.length_set, fun q j f' hj => ?_⟩
  unfold ge_cset ge_calls at hj
  dsimp only at hj
  by_cases hij : i = j
  · subst hij
    rw [List.getElem?_set_self (List.getElem?_eq_some_iff.mp hf).1] at hj
    cases hj
    have := q i f hf
    unfold g_cw at this ⊢
    rw [h5, h10]
    exact ⟨this.1, this.2.1, h12⟩
  · rw [List.getElem?_set_ne hij] at hj
    exact q j f' hj
theorem g_pk_end1 (i : Nat) (v : Int) (E : gE) (k : Nat) (h : g_cws E.2.2) : g_pk E (ge_end1 i v E k) := by
  unfold ge_end1
  split
  · exact g_pk.rf E
  · rename_i f hf
    split
    · refine (g_pk.cset (g := c_up f (20 + k) 4) hf ?_ ?_ ?_).tr (g_pk.same rfl)
      · simp only [c_up]; rw [if_neg (by omega)]
      · simp only [c_up]; rw [if_neg (by omega)]
      · simp only [c_up]; rw [if_neg (by omega)]; exact (h i f hf).2.2
    · exact g_pk.rf E
theorem g_pk_endK (i : Nat) (v : Int) (E : gE) (h : g_cws E.2.2) : ∀ k, g_pk E (ge_endK i v E k)
  | 0 => g_pk.rf E
  | k + 1 => (g_pk_endK i v E h k).tr (g_pk_end1 i v _ k ((g_pk_endK i v E h k).2 h))
theorem g_pk_end (E : gE) (i : Nat) (v : Int) (h : g_cws E.2.2) : g_pk E (ge_end E i v) := by
  unfold ge_end
  split
  · exact g_pk.rf E
  · rename_i f hf
    have h1 : g_pk E (ge_cset E i (c_up f 2 4)) := g_pk.cset hf rfl rfl (h i f hf).2.2
    split
    · exact g_pk.rf E
    · split
      · have h2 : g_pk (ge_cset E i (c_up f 2 4)) (ge_cset (ge_cset E i (c_up f 2 4)) i (c_up (c_up f 2 4) 9 4)) := g_pk.cset (g_cset_at hf) rfl rfl (h i f hf).2.2
        have h3 := (h1.tr h2).tr (g_pk.same (E' := ge_put (ge_cset (ge_cset E i (c_up f 2 4)) i (c_up (c_up f 2 4) 9 4)) (f 5) (5, f 6, f 7, v, 0)) rfl)
        exact h3.tr (g_pk_endK i v _ (h3.2 h) 4)
      · exact h1.tr (g_pk_endK i v _ (h1.2 h) 4)
theorem g_pk_callerGone (E : gE) (i : Nat) (h : g_cws E.2.2) : g_pk E (ge_callerGone E i) := by
  unfold ge_callerGone
  split
  · exact g_pk.rf E
  · rename_i f hf
    have h1 : g_pk E (ge_cset E i (c_up f 9 0)) := g_pk.cset hf rfl rfl (h i f hf).2.2
    exact h1.tr (g_pk_end _ i 6 (h1.2 h))
theorem g_pk_calledGone (E : gE) (i : Nat) (a : Int) (h : g_cws E.2.2) : g_pk E (ge_calledGone E i a) := by
  unfold ge_calledGone
  split
  · exact g_pk.rf E
  · rename_i f hf
    have h1 : g_pk E (ge_cset E i (g_setLeg f a 0)) := g_pk.cset hf (g_setLeg_lo (by decide)) (g_setLeg_lo (by decide)) (by rw [g_setLeg_lo (by decide)]; exact (h i f hf).2.2)
    split
    · exact h1.tr (g_pk_end _ i 6 (h1.2 h))
    · split
      · exact h1.tr (g_pk_end _ i 7 (h1.2 h))
      · exact h1
def g_icb (f : gC) (b a r : Int) : Bool := decide (¬ f 9 = 0) && (decide (f 5 = b) && (decide (f 6 = a) && decide (f 7 = r)))
def g_idb (f : gC) (b a r : Int) : Bool := decide (f 10 = b) && (decide (pb_mul 2 (f 1) = r) && decide (¬ g_leg f a = 0))
theorem g_icb_iff {f : gC} {b a r : Int} : g_isCaller f b a r ↔ g_icb f b a r = true := by
  unfold g_isCaller g_icb
  simp only [Bool.and_eq_true, decide_eq_true_eq]
theorem g_idb_iff {f : gC} {b a r : Int} : g_isCalled f b a r ↔ g_idb f b a r = true := by
  unfold g_isCalled g_idb
  simp only [Bool.and_eq_true, decide_eq_true_eq]
def ge_leaveK (E : gE) (b a r al : Int) : Nat → Nat → gE
  | 0, _ => E
  | d + 1, k => match E.2.2[k]? with
    | none => E
    | some f => if g_icb f b a r = true then (if ¬ al = 0 ∨ f 9 = 4 then ge_callerGone E k else E) else if g_idb f b a r = true then (if ¬ al = 0 ∨ g_leg f a = 4 then ge_calledGone E k a else E) else ge_leaveK E b a r al d (k + 1)
def ge_leave (E : gE) (b a r al : Int) : gE := ge_forget (ge_leaveK E b a r al E.2.2.length 0)
def ge_dropB (b a : Int) (E : gE) (i : Nat) : gE := match E.2.2[i]? with
  | none => E
  | some f => if f 10 = b ∧ ¬ g_leg f a = 0 then ge_calledGone E i a else E
def ge_drop1 (b a : Int) (E : gE) (i : Nat) : gE := match E.2.2[i]? with
  | none => E
  | some f => if ¬ f 9 = 0 ∧ f 5 = b ∧ f 6 = a then ge_dropB b a (ge_callerGone E i) i else ge_dropB b a E i
def ge_dropK (b a : Int) (E : gE) : Nat → gE
  | 0 => E
  | k + 1 => ge_drop1 b a (ge_dropK b a E k) k
def ge_drop (E : gE) (b a : Int) : gE := if 64 ≤ a ∧ a < 68 then ge_row (ge_forget (ge_dropK b a (ge_set (ge_set E 0 (4 * b + (a - 64)) 0) 3 (4 * b + (a - 64)) 0) E.2.2.length)) b (((ge_dropK b a (ge_set (ge_set E 0 (4 * b + (a - 64)) 0) 3 (4 * b + (a - 64)) 0) E.2.2.length).2.1 b).filter (g_keep a)) else E
theorem g_pk_dropB (b a : Int) (E : gE) (i : Nat) (h : g_cws E.2.2) : g_pk E (ge_dropB b a E i) := by
  unfold ge_dropB
  split
  · exact g_pk.rf E
  · split
    · exact g_pk_calledGone E i a h
    · exact g_pk.rf E
theorem g_pk_drop1 (b a : Int) (E : gE) (i : Nat) (h : g_cws E.2.2) : g_pk E (ge_drop1 b a E i) := by
  unfold ge_drop1
  split
  · exact g_pk.rf E
  · split
    · exact (g_pk_callerGone E i h).tr (g_pk_dropB b a _ i ((g_pk_callerGone E i h).2 h))
    · exact g_pk_dropB b a E i h
theorem g_pk_dropK (b a : Int) (E : gE) (h : g_cws E.2.2) : ∀ k, g_pk E (ge_dropK b a E k)
  | 0 => g_pk.rf E
  | k + 1 => (g_pk_dropK b a E h k).tr (g_pk_drop1 b a _ k ((g_pk_dropK b a E h k).2 h))
section LV1
variable {x : pb_E} {σ : pb_H} {E : gE} {ρ : Int → Int} {μ : pb_H} {b s : Int} {Q : pb_P} {n : Nat}
theorem p_F {q : Int} {f : gF} (h : RE σ E ρ μ) (hd : (32 ≤ q ∧ q ≤ 75) ∨ (109 ≤ q ∧ q ≤ 152)) (hf : g_fr μ q = f) : σ 301 q 0 = f.1 ∧ σ 302 q 0 = f.2.1 ∧ σ 303 q 0 = f.2.2.1 ∧ σ 304 q 0 = f.2.2.2.1 := by
  obtain ⟨g1, g2, g3, g4, -⟩ := g_fr1 hf
  have hy := h.2.2.2.2.2.2.2
  refine ⟨?_, ?_, ?_, ?_⟩
  · rw [hy 301 q 0 (by unfold k_Y k_D k_L k_B k_P k_C; omega)]; exact g1
  · rw [hy 302 q 0 (by unfold k_Y k_D k_L k_B k_P k_C; omega)]; exact g2
  · rw [hy 303 q 0 (by unfold k_Y k_D k_L k_B k_P k_C; omega)]; exact g3
  · rw [hy 304 q 0 (by unfold k_Y k_D k_L k_B k_P k_C; omega)]; exact g4
set_option maxHeartbeats 1000000 in
theorem l_P_leaveLeg {q al : Int} {fr : gF} (h : RE σ E ρ μ) (hw : g_cws E.2.2) (hq : pb_is 3 213 q) (hd : (32 ≤ q ∧ q ≤ 75) ∨ (109 ≤ q ∧ q ≤ 152)) (hf : g_fr μ q = fr) (ha : pb_R fr.2.1) (hQ : ∀ σ' ρ', RE σ' (ge_leave E b fr.2.1 fr.2.2.1 al) ρ' μ → Q (.inl 0) σ') : ∀ (d k : Nat), k + d = E.2.2.length → ge_leaveK E b fr.2.1 fr.2.2.1 al E.2.2.length 0 = ge_leaveK E b fr.2.1 fr.2.2.1 al d k → ∀ (o : Option pb_V), pb_WJ x i_P_leaveLeg 213 Q 17 [some (.inr 0), some (.inl b), some (.inr q), some (.inl al), some (.inl k), o] [] 213 σ := by
  intro d
  have hlen := p_len h
  obtain ⟨f1, f2, f3, f4⟩ := p_F h hd hf
  unfold ge_leave at hQ
  have fin : ∀ (σ1 : pb_H) (k : Int) (o : Option pb_V), RE σ1 (ge_leaveK E b fr.2.1 fr.2.2.1 al E.2.2.length 0) ρ μ → pb_b_P_leaveLeg_113 x 213 Q [some (.inr 0), some (.inl b), some (.inr q), some (.inl al), some (.inl k), o] [] 213 σ1 := by
    intro σ1 k o h1
    simp only [pb_b_P_leaveLeg_113, pb_iconst, pb_null, pb_iload, pb_aload, pb_istore, pb_astore, pb_iinc, pb_bin, pb_bin0, pb_dup, pb_pop, pb_dup2, pb_if, pb_icmp, pb_ifnull, pb_getI, pb_getR, pb_putI, pb_putZ, pb_putR, pb_alen, pb_ald, pb_aldR, pb_ast, pb_astZ, pb_astR, pb_vret, pb_iret, pb_zret, pb_aret, pb_cv, pb_cr, pb_sr, pb_switch, pb_sw, pb_nth, pb_set, pb_tk, pb_add, pb_sub, List.length_cons, List.length_nil, true_or, or_true, true_and, and_true, and_self, pb_up_same, pb_up_f, ne_eq, Nat.reduceEqDiff, not_false_eq_true, Nat.reduceAdd, Nat.reduceLeDiff, Nat.zero_le, is_P.1]
    exact c_P_forget h1 hQ
  induction d with
  | zero =>
    intro k hk he o
    refine pb_s_P_leaveLeg_17 x 213 Q _ _ _ _ ?_
    simp only [pb_b_P_leaveLeg_17, pb_iconst, pb_null, pb_iload, pb_aload, pb_istore, pb_astore, pb_iinc, pb_bin, pb_bin0, pb_dup, pb_pop, pb_dup2, pb_if, pb_icmp, pb_ifnull, pb_getI, pb_getR, pb_putI, pb_putZ, pb_putR, pb_alen, pb_ald, pb_aldR, pb_ast, pb_astZ, pb_astR, pb_vret, pb_iret, pb_zret, pb_aret, pb_cv, pb_cr, pb_sr, pb_switch, pb_sw, pb_nth, pb_set, pb_tk, pb_add, pb_sub, List.length_cons, List.length_nil, true_or, or_true, true_and, and_true, and_self, pb_up_same, pb_up_f, ne_eq, Nat.reduceEqDiff, not_false_eq_true, Nat.reduceAdd, Nat.reduceLeDiff, Nat.zero_le, is_P.1, is_P.2.1, is_P.2.2.1, is_P.2.2.2.1, is_P.2.2.2.2, (p_P h).1, (p_P h).2.1, (p_P h).2.2.1, (p_P h).2.2.2.1, (p_P h).2.2.2.2, p_ref h]
    exact ⟨fun _ => fin σ k o (by rw [he]; exact h), fun z => absurd z (by omega)⟩
  | succ d ih =>
    intro k hk he o
    obtain ⟨f, hf9⟩ := g_nth hk
    have hc := p_call h hf9
    have ea : ge_leaveK E b fr.2.1 fr.2.2.1 al (d + 1) k = if g_icb f b fr.2.1 fr.2.2.1 = true then (if ¬ al = 0 ∨ f 9 = 4 then ge_callerGone E k else E) else if g_idb f b fr.2.1 fr.2.2.1 = true then (if ¬ al = 0 ∨ g_leg f fr.2.1 = 4 then ge_calledGone E k fr.2.1 else E) else ge_leaveK E b fr.2.1 fr.2.2.1 al d (k + 1) := by
      rw [ge_leaveK, hf9]
    have e : pb_w ((k : Int) + 1) = ((k + 1 : Nat) : Int) := by rw [pb_w_id (by unfold pb_R; omega)]; omega
    refine pb_s_P_leaveLeg_17 x 213 Q _ _ _ _ ?_
    simp only [pb_b_P_leaveLeg_17, pb_b_P_leaveLeg_58, pb_b_P_leaveLeg_67, pb_b_P_leaveLeg_94, pb_b_P_leaveLeg_107, pb_iconst, pb_null, pb_iload, pb_aload, pb_istore, pb_astore, pb_iinc, pb_bin, pb_bin0, pb_dup, pb_pop, pb_dup2, pb_if, pb_icmp, pb_ifnull, pb_getI, pb_getR, pb_putI, pb_putZ, pb_putR, pb_alen, pb_ald, pb_aldR, pb_ast, pb_astZ, pb_astR, pb_vret, pb_iret, pb_zret, pb_aret, pb_cv, pb_cr, pb_sr, pb_switch, pb_sw, pb_nth, pb_set, pb_tk, pb_add, pb_sub, List.length_cons, List.length_nil, true_or, or_true, true_and, and_true, and_self, pb_up_same, pb_up_f, ne_eq, Nat.reduceEqDiff, not_false_eq_true, Nat.reduceAdd, Nat.reduceLeDiff, Nat.zero_le, is_P.1, is_P.2.1, is_P.2.2.1, is_P.2.2.2.1, is_P.2.2.2.2, (p_P h).1, (p_P h).2.1, (p_P h).2.2.1, (p_P h).2.2.2.1, (p_P h).2.2.2.2, p_ref h, hc.1, hq, q_C hc 602 1 rfl ⟨by decide, by decide⟩, q_C hc 603 2 rfl ⟨by decide, by decide⟩, q_C hc 604 3 rfl ⟨by decide, by decide⟩, q_C hc 605 4 rfl ⟨by decide, by decide⟩, q_C hc 606 5 rfl ⟨by decide, by decide⟩, q_C hc 607 6 rfl ⟨by decide, by decide⟩, q_C hc 608 7 rfl ⟨by decide, by decide⟩, q_C hc 609 8 rfl ⟨by decide, by decide⟩, q_C hc 610 9 rfl ⟨by decide, by decide⟩, q_C hc 611 10 rfl ⟨by decide, by decide⟩, q_C hc 612 11 rfl ⟨by decide, by decide⟩, q_C hc 613 12 rfl ⟨by decide, by decide⟩]
    refine ⟨fun z => absurd z (by omega), fun _ => ⟨⟨by omega, by omega⟩, c_C_isCaller hc hq f2 f3 (fun ho => ?_) (fun ho => ?_)⟩⟩
    · have hcb := g_icb_iff.mp ho
      have go : (¬ al = 0 ∨ f 9 = 4) → pb_MJ x i_P_callerGone [.inr 0, .inr (ρ k)] 213 σ (fun _ σ' => pb_b_P_leaveLeg_113 x 213 Q [some (.inr 0), some (.inl b), some (.inr q), some (.inl al), some (.inl k), some (.inr (ρ k))] [] 213 σ') := fun hl => c_P_callerGone h hf9 (hw k f hf9) (fun σ1 h1 => fin σ1 k _ (by rw [he, ea, if_pos hcb, if_pos hl]; exact h1))
      try simp only [pb_iconst, pb_null, pb_iload, pb_aload, pb_istore, pb_astore, pb_iinc, pb_bin, pb_bin0, pb_dup, pb_pop, pb_dup2, pb_if, pb_icmp, pb_ifnull, pb_getI, pb_getR, pb_putI, pb_putZ, pb_putR, pb_alen, pb_ald, pb_aldR, pb_ast, pb_astZ, pb_astR, pb_vret, pb_iret, pb_zret, pb_aret, pb_cv, pb_cr, pb_sr, pb_switch, pb_sw, pb_nth, pb_set, pb_tk, pb_add, pb_sub, List.length_cons, List.length_nil, true_or, or_true, true_and, and_true, and_self, pb_up_same, pb_up_f, ne_eq, Nat.reduceEqDiff, not_false_eq_true, Nat.reduceAdd, Nat.reduceLeDiff, Nat.zero_le, hc.1, q_C hc 602 1 rfl ⟨by decide, by decide⟩, q_C hc 603 2 rfl ⟨by decide, by decide⟩, q_C hc 604 3 rfl ⟨by decide, by decide⟩, q_C hc 605 4 rfl ⟨by decide, by decide⟩, q_C hc 606 5 rfl ⟨by decide, by decide⟩, q_C hc 607 6 rfl ⟨by decide, by decide⟩, q_C hc 608 7 rfl ⟨by decide, by decide⟩, q_C hc 609 8 rfl ⟨by decide, by decide⟩, q_C hc 610 9 rfl ⟨by decide, by decide⟩, q_C hc 611 10 rfl ⟨by decide, by decide⟩, q_C hc 612 11 rfl ⟨by decide, by decide⟩, q_C hc 613 12 rfl ⟨by decide, by decide⟩]
      refine ⟨fun z => by simp at z, fun _ => ⟨fun z => go (Or.inl z), fun z => ⟨fun z2 => fin σ k _ (by rw [he, ea, if_pos hcb, if_neg (by omega)]; exact h), fun z2 => go (by omega)⟩⟩⟩
    · have hcb : ¬ g_icb f b fr.2.1 fr.2.2.1 = true := fun q => ho (g_icb_iff.mpr q)
      try simp only [pb_iconst, pb_null, pb_iload, pb_aload, pb_istore, pb_astore, pb_iinc, pb_bin, pb_bin0, pb_dup, pb_pop, pb_dup2, pb_if, pb_icmp, pb_ifnull, pb_getI, pb_getR, pb_putI, pb_putZ, pb_putR, pb_alen, pb_ald, pb_aldR, pb_ast, pb_astZ, pb_astR, pb_vret, pb_iret, pb_zret, pb_aret, pb_cv, pb_cr, pb_sr, pb_switch, pb_sw, pb_nth, pb_set, pb_tk, pb_add, pb_sub, List.length_cons, List.length_nil, true_or, or_true, true_and, and_true, and_self, pb_up_same, pb_up_f, ne_eq, Nat.reduceEqDiff, not_false_eq_true, Nat.reduceAdd, Nat.reduceLeDiff, Nat.zero_le, hc.1, hq, f2, is_P.1]
      refine ⟨fun _ => c_C_isCalled hc hq f2 f3 ha (fun ho2 => ?_) (fun ho2 => ?_), fun z => by simp at z⟩
      · have hdb := g_idb_iff.mp ho2
        have go : (¬ al = 0 ∨ g_leg f fr.2.1 = 4) → pb_MJ x i_P_calledGone [.inr 0, .inr (ρ k), .inl fr.2.1] 213 σ (fun _ σ' => pb_b_P_leaveLeg_113 x 213 Q [some (.inr 0), some (.inl b), some (.inr q), some (.inl al), some (.inl k), some (.inr (ρ k))] [] 213 σ') := fun hl => c_P_calledGone h hf9 (hw k f hf9) ha (fun σ1 h1 => fin σ1 k _ (by rw [he, ea, if_neg hcb, if_pos hdb, if_pos hl]; exact h1))
        try simp only [pb_iconst, pb_null, pb_iload, pb_aload, pb_istore, pb_astore, pb_iinc, pb_bin, pb_bin0, pb_dup, pb_pop, pb_dup2, pb_if, pb_icmp, pb_ifnull, pb_getI, pb_getR, pb_putI, pb_putZ, pb_putR, pb_alen, pb_ald, pb_aldR, pb_ast, pb_astZ, pb_astR, pb_vret, pb_iret, pb_zret, pb_aret, pb_cv, pb_cr, pb_sr, pb_switch, pb_sw, pb_nth, pb_set, pb_tk, pb_add, pb_sub, List.length_cons, List.length_nil, true_or, or_true, true_and, and_true, and_self, pb_up_same, pb_up_f, ne_eq, Nat.reduceEqDiff, not_false_eq_true, Nat.reduceAdd, Nat.reduceLeDiff, Nat.zero_le, hc.1, hq, f2, is_P.1]
        refine ⟨fun z => by simp at z, fun _ => ⟨fun z => go (Or.inl z), fun z => c_C_legOf hc ha ?_⟩⟩
        try simp only [pb_iconst, pb_null, pb_iload, pb_aload, pb_istore, pb_astore, pb_iinc, pb_bin, pb_bin0, pb_dup, pb_pop, pb_dup2, pb_if, pb_icmp, pb_ifnull, pb_getI, pb_getR, pb_putI, pb_putZ, pb_putR, pb_alen, pb_ald, pb_aldR, pb_ast, pb_astZ, pb_astR, pb_vret, pb_iret, pb_zret, pb_aret, pb_cv, pb_cr, pb_sr, pb_switch, pb_sw, pb_nth, pb_set, pb_tk, pb_add, pb_sub, List.length_cons, List.length_nil, true_or, or_true, true_and, and_true, and_self, pb_up_same, pb_up_f, ne_eq, Nat.reduceEqDiff, not_false_eq_true, Nat.reduceAdd, Nat.reduceLeDiff, Nat.zero_le, hc.1, hq, f2, is_P.1]
        exact ⟨fun z2 => fin σ k _ (by rw [he, ea, if_neg hcb, if_pos hdb, if_neg (by omega)]; exact h), fun z2 => go (by omega)⟩
      · have hdb : ¬ g_idb f b fr.2.1 fr.2.2.1 = true := fun q => ho2 (g_idb_iff.mpr q)
        try simp only [pb_iconst, pb_null, pb_iload, pb_aload, pb_istore, pb_astore, pb_iinc, pb_bin, pb_bin0, pb_dup, pb_pop, pb_dup2, pb_if, pb_icmp, pb_ifnull, pb_getI, pb_getR, pb_putI, pb_putZ, pb_putR, pb_alen, pb_ald, pb_aldR, pb_ast, pb_astZ, pb_astR, pb_vret, pb_iret, pb_zret, pb_aret, pb_cv, pb_cr, pb_sr, pb_switch, pb_sw, pb_nth, pb_set, pb_tk, pb_add, pb_sub, List.length_cons, List.length_nil, true_or, or_true, true_and, and_true, and_self, pb_up_same, pb_up_f, ne_eq, Nat.reduceEqDiff, not_false_eq_true, Nat.reduceAdd, Nat.reduceLeDiff, Nat.zero_le, e]
        exact ⟨fun _ => ih (k + 1) (by omega) (by rw [he, ea, if_neg hcb, if_neg hdb]) _, fun z => by simp at z⟩
theorem c_P_leaveLeg {q : Int} {fr : gF} (h : RE σ E ρ μ) (hw : g_cws E.2.2) (hq : pb_is 3 213 q) (hd : (32 ≤ q ∧ q ≤ 75) ∨ (109 ≤ q ∧ q ≤ 152)) (hf : g_fr μ q = fr) (ha : pb_R fr.2.1) (hQ : ∀ σ' ρ', RE σ' (ge_leave E b fr.2.1 fr.2.2.1 (if fr.1 = 5 then 1 else 0)) ρ' μ → Q (.inl 0) σ') : pb_MJ x i_P_leaveLeg [.inr 0, .inl b, .inr q] 213 σ Q := by
  refine pb_m_P_leaveLeg ?_
  obtain ⟨f1, f2, f3, f4⟩ := p_F h hd hf
  simp only [pb_b_P_leaveLeg_0, pb_b_P_leaveLeg_12, pb_b_P_leaveLeg_13, pb_iconst, pb_null, pb_iload, pb_aload, pb_istore, pb_astore, pb_iinc, pb_bin, pb_bin0, pb_dup, pb_pop, pb_dup2, pb_if, pb_icmp, pb_ifnull, pb_getI, pb_getR, pb_putI, pb_putZ, pb_putR, pb_alen, pb_ald, pb_aldR, pb_ast, pb_astZ, pb_astR, pb_vret, pb_iret, pb_zret, pb_aret, pb_cv, pb_cr, pb_sr, pb_switch, pb_sw, pb_nth, pb_set, pb_tk, pb_add, pb_sub, List.length_cons, List.length_nil, true_or, or_true, true_and, and_true, and_self, pb_up_same, pb_up_f, ne_eq, Nat.reduceEqDiff, not_false_eq_true, Nat.reduceAdd, Nat.reduceLeDiff, Nat.zero_le, hq, f1]
  refine ⟨fun z => ?_, fun z => ?_⟩
  · rw [if_neg z] at hQ
    exact l_P_leaveLeg h hw hq hd hf ha hQ E.2.2.length 0 (by omega) rfl none
  · rw [if_pos (Decidable.not_not.mp z)] at hQ
    exact l_P_leaveLeg h hw hq hd hf ha hQ E.2.2.length 0 (by omega) rfl none
end LV1
