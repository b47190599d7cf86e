/-! a call is set up -/
section MSU
variable {x : pb_E} {σ σ' : pb_H} {T : gT} {E : gE} {w : gW} {ν : pb_H} {b a s t u r : Int} {Q : pb_P} {i : Nat} {f f' g : gC} {n ch num : Int} {v : Int → Int}
theorem rm_new (h : RM σ T E (v, fun _ => False) ν) (hs : 0 ≤ s ∧ s < 4) (hfree : ∀ f ∈ E.2.2, g_held (v, fun _ => False) f → v (f 1) ≠ s) (hnum : ∀ f ∈ E.2.2, f 1 ≠ num) (hg : g 1 = num) (hga : g_alive g = true) (e : ∀ f p i, ¬ (f = 0 ∧ 199 ≤ p ∧ p ≤ 211) → ¬ (f = 747 ∧ p = 165) → σ' f p i = σ f p i) (e2 : ∀ p s', 199 ≤ p → p ≤ 210 → s' ≠ s → σ' 0 p s' = σ 0 p s') (e3 : ∀ j, ¬ (4 * s ≤ j ∧ j < 4 * s + 4) → σ' 0 211 j = σ 0 211 j) (h1 : rm_1 σ' s g) (hw : σ' 0 210 s < 4) (hn : σ' 747 165 0 = num) : RM σ' T (ge_calls (ge_set E 8 0 num) (E.2.2 ++ [g])) (fun m => if m = num then s else v m, fun _ => False) ν := by
  obtain ⟨m1, m2, m3, m4, m5, m6, m7, ⟨c1, c2, c3, c4⟩, m9⟩ := h
  have hv : ∀ f ∈ E.2.2, (fun m => if m = num then s else v m) (f 1) = v (f 1) := fun f hf => if_neg (hnum f hf)
  have hvg : (fun m => if m = num then s else v m) (g 1) = s := if_pos hg
  have hm : ∀ f, f ∈ E.2.2 ++ [g] → f ∈ E.2.2 ∨ f = g := fun f hf => by
    rcases List.mem_append.mp hf with y | y
    · exact Or.inl y
    · exact Or.inr (List.mem_singleton.mp y)
  refine ⟨m1.cg (fun f i q1 q2 => e _ _ _ (by omega) (by omega)), m2.cg (fun p i q1 q2 => e _ _ _ (by omega) (by omega)), m3.cg (fun p i q1 q2 => e _ _ _ (by omega) (by omega)), m4.cg (fun p i q1 q2 => e _ _ _ (by omega) (by omega)), ?_, ?_, ?_, ⟨fun f hf hh => ?_, fun f hf f2 hf2 hh hh2 q => ?_, fun s' q1 q2 q3 => ?_, fun s' q1 q2 => ?_⟩, fun f p i hk => ?_⟩
  · have m5' : rm_L σ' E.1 := m5.cg (fun p i q1 q2 => e _ _ _ (by omega) (by omega))
    intro t q1 q2
    have := m5' t q1 q2
    simpa [ge_calls, ge_set, g_up] using this
  · have m6' : rm_B σ' E.1 := m6.cg (fun p i q1 q2 => e _ _ _ (by omega) (by omega))
    intro t q1 q2
    have := m6' t q1 q2
    simpa [ge_calls, ge_set, g_up] using this
  · refine ⟨?_, ?_⟩
    · rw [hn]
      show num = g_up E.1 8 0 num 8 0
      rw [g_up_s]
    · rw [e _ _ _ (by omega) (by omega), m7.2]
      show E.1 9 0 = g_up E.1 8 0 num 9 0
      rw [g_up_n (by omega)]
  · rcases hm f hf with y | rfl
    · have d : (0 ≤ v (f 1) ∧ v (f 1) < 4) ∧ rm_1 σ (v (f 1)) f := c1 f y hh
      obtain ⟨d1, d2⟩ := d
      have hne := hfree f y hh
      show (0 ≤ (fun m => if m = num then s else v m) (f 1) ∧ (fun m => if m = num then s else v m) (f 1) < 4) ∧ rm_1 σ' ((fun m => if m = num then s else v m) (f 1)) f
      rw [hv f y]
      exact ⟨d1, d2.at (fun p q1 q2 => e2 p _ q1 q2 hne) (fun j hj => e3 _ (by omega))⟩
    · show (0 ≤ (fun m => if m = num then s else v m) (f 1) ∧ (fun m => if m = num then s else v m) (f 1) < 4) ∧ rm_1 σ' ((fun m => if m = num then s else v m) (f 1)) f
      rw [hvg]
      exact ⟨hs, h1⟩
  · have q' : (fun m => if m = num then s else v m) (f 1) = (fun m => if m = num then s else v m) (f2 1) := q
    rcases hm f hf with y | rfl
    · rcases hm f2 hf2 with y2 | rfl
      · rw [hv f y, hv f2 y2] at q'
        exact c2 f y f2 y2 hh hh2 q'
      · rw [hv f y, hvg] at q'
        exact absurd q' (hfree f y hh)
    · rcases hm f2 hf2 with y2 | rfl
      · rw [hv f2 y2, hvg] at q'
        exact absurd q'.symm (hfree f2 y2 hh2)
      · rfl
  · have hne : s' ≠ s := by
      intro y
      exact q3 g (List.mem_append.mpr (Or.inr (List.mem_singleton.mpr rfl))) (Or.inl hga) (hvg.trans y.symm)
    rw [e2 _ _ (by omega) (by omega) hne]
    refine c3 s' q1 q2 (fun f hf hh => ?_)
    have := q3 f (List.mem_append.mpr (Or.inl hf)) hh
    rw [show (fun m => if m = num then s else v m, fun _ => False).1 (f 1) = v (f 1) from hv f hf] at this
    exact this
  · by_cases z : s' = s
    · rw [z]
      exact hw
    · rw [e2 _ _ (by omega) (by omega) z]
      exact c4 s' q1 q2
  · rw [e _ _ _ (fun y => hk (by unfold k_K; omega)) (fun y => hk (by unfold k_K; omega))]
    exact m9 f p i hk
/-- a slot is free where fewer than four calls live -/
theorem m_free (h : RM σ T E w ν) (hA : ∀ f ∈ E.2.2, g_held w f) (hN : g_num E.2.2) (hl : E.2.2.length ≤ 4) : (∀ s, 0 ≤ s → s < 4 → ¬ σ 0 199 s = 0) ↔ E.2.2.length = 4 := by
  obtain ⟨c1, c2, c3, c4⟩ := h.2.2.2.2.2.2.2.1
  have hv : ∀ f ∈ E.2.2, 0 ≤ w.1 (f 1) ∧ w.1 (f 1) < 4 := fun f hf => (c1 f hf (hA f hf)).1
  have h0 : ∀ f ∈ E.2.2, ¬ σ 0 199 (w.1 (f 1)) = 0 := fun f hf => by
    rw [(c1 f hf (hA f hf)).2.1]
    have := hN.1 f hf
    omega
  have hd : ∀ (i j : Nat) (f g : gC), E.2.2[i]? = some f → E.2.2[j]? = some g → i < j → ¬ w.1 (f 1) = w.1 (g 1) := fun i j f g q1 q2 q3 y => by
    have := hN.lt q1 q2 q3
    have := c2 f (List.mem_of_getElem? q1) g (List.mem_of_getElem? q2) (hA f (List.mem_of_getElem? q1)) (hA g (List.mem_of_getElem? q2)) y
    omega
  have ho : ∀ s, 0 ≤ s → s < 4 → ¬ σ 0 199 s = 0 → ∃ f ∈ E.2.2, w.1 (f 1) = s := fun s q1 q2 q3 => by
    rcases r_slot h ⟨q1, q2⟩ with ⟨i, f, y1, y2, y3, y4⟩ | ⟨y1, y2⟩
    · exact ⟨f, List.mem_of_getElem? y1, y3⟩
    · exact absurd y2 q3
  generalize hc : E.2.2 = c at *
  match c, hl with
  | [], _ =>
    refine ⟨fun y => ?_, fun y => absurd y (by decide)⟩
    obtain ⟨f, hf, _⟩ := ho 0 (by omega) (by omega) (y 0 (by omega) (by omega))
    exact absurd hf (by simp)
  | [f1], _ =>
    refine ⟨fun y => ?_, fun y => absurd y (by simp)⟩
    obtain ⟨g1, m1, q1⟩ := ho 0 (by omega) (by omega) (y 0 (by omega) (by omega))
    obtain ⟨g2, m2, q2⟩ := ho 1 (by omega) (by omega) (y 1 (by omega) (by omega))
    simp only [List.mem_singleton] at m1 m2
    subst m1 m2
    omega
  | [f1, f2], _ =>
    refine ⟨fun y => ?_, fun y => absurd y (by simp)⟩
    obtain ⟨g1, m1, q1⟩ := ho 0 (by omega) (by omega) (y 0 (by omega) (by omega))
    obtain ⟨g2, m2, q2⟩ := ho 1 (by omega) (by omega) (y 1 (by omega) (by omega))
    obtain ⟨g3, m3, q3⟩ := ho 2 (by omega) (by omega) (y 2 (by omega) (by omega))
    simp only [List.mem_cons, List.not_mem_nil, or_false] at m1 m2 m3
    rcases m1 with rfl | rfl <;> rcases m2 with rfl | rfl <;> rcases m3 with rfl | rfl <;> omega
  | [f1, f2, f3], _ =>
    refine ⟨fun y => ?_, fun y => absurd y (by simp)⟩
    obtain ⟨g1, m1, q1⟩ := ho 0 (by omega) (by omega) (y 0 (by omega) (by omega))
    obtain ⟨g2, m2, q2⟩ := ho 1 (by omega) (by omega) (y 1 (by omega) (by omega))
    obtain ⟨g3, m3, q3⟩ := ho 2 (by omega) (by omega) (y 2 (by omega) (by omega))
    obtain ⟨g4, m4, q4⟩ := ho 3 (by omega) (by omega) (y 3 (by omega) (by omega))
    simp only [List.mem_cons, List.not_mem_nil, or_false] at m1 m2 m3 m4
    have a1 : w.1 (g1 1) = w.1 (f1 1) ∨ w.1 (g1 1) = w.1 (f2 1) ∨ w.1 (g1 1) = w.1 (f3 1) := by rcases m1 with rfl | rfl | rfl <;> simp
    have a2 : w.1 (g2 1) = w.1 (f1 1) ∨ w.1 (g2 1) = w.1 (f2 1) ∨ w.1 (g2 1) = w.1 (f3 1) := by rcases m2 with rfl | rfl | rfl <;> simp
    have a3 : w.1 (g3 1) = w.1 (f1 1) ∨ w.1 (g3 1) = w.1 (f2 1) ∨ w.1 (g3 1) = w.1 (f3 1) := by rcases m3 with rfl | rfl | rfl <;> simp
    have a4 : w.1 (g4 1) = w.1 (f1 1) ∨ w.1 (g4 1) = w.1 (f2 1) ∨ w.1 (g4 1) = w.1 (f3 1) := by rcases m4 with rfl | rfl | rfl <;> simp
    omega
  | [f1, f2, f3, f4], _ =>
    refine ⟨fun _ => rfl, fun _ s q1 q2 q3 => ?_⟩
    have b1 := hv f1 (by simp)
    have b2 := hv f2 (by simp)
    have b3 := hv f3 (by simp)
    have b4 := hv f4 (by simp)
    have n1 : ¬ w.1 (f1 1) = s := fun y => h0 f1 (by simp) (by rw [y]; exact q3)
    have n2 : ¬ w.1 (f2 1) = s := fun y => h0 f2 (by simp) (by rw [y]; exact q3)
    have n3 : ¬ w.1 (f3 1) = s := fun y => h0 f3 (by simp) (by rw [y]; exact q3)
    have n4 : ¬ w.1 (f4 1) = s := fun y => h0 f4 (by simp) (by rw [y]; exact q3)
    have d12 := hd 0 1 f1 f2 rfl rfl (by omega)
    have d13 := hd 0 2 f1 f3 rfl rfl (by omega)
    have d14 := hd 0 3 f1 f4 rfl rfl (by omega)
    have d23 := hd 1 2 f2 f3 rfl rfl (by omega)
    have d24 := hd 1 3 f2 f4 rfl rfl (by omega)
    have d34 := hd 2 3 f3 f4 rfl rfl (by omega)
    omega
  | _ :: _ :: _ :: _ :: _ :: _, hl => exact absurd hl (by simp)
theorem l_M_setup6 {rf vv : Int} (h : RM σ T E w ν) (hk : ∀ sl : Int, ((sl = -1 ∧ ∀ s, 0 ≤ s → s < 4 → ¬ σ 0 199 s = 0) ∨ ((0 ≤ sl ∧ sl < 4) ∧ σ 0 199 sl = 0)) → pb_b_M_setup_36 x 213 Q [some (.inr 165), some (.inl b), some (.inl a), some (.inl rf), some (.inl vv), some (.inl sl), some (.inl (-1)), none, none, none] [] 213 σ) : ∀ (q : Nat), q ≤ 4 → ∀ sl : Int, ((sl = -1 ∧ ∀ s, (q : Int) ≤ s → s < 4 → ¬ σ 0 199 s = 0) ∨ ((0 ≤ sl ∧ sl < 4) ∧ σ 0 199 sl = 0)) → pb_WJ x i_M_setup 213 Q 6 [some (.inr 165), some (.inl b), some (.inl a), some (.inl rf), some (.inl vv), some (.inl sl), some (.inl ((q : Int) - 1)), none, none, none] [] 213 σ := by
  intro q
  induction q with
  | zero =>
    intro _ sl hsl
    refine pb_s_M_setup_6 x 213 Q _ _ _ _ ?_
    simp only [pb_b_M_setup_6, pb_iconst, pb_null, pb_iload, pb_aload, pb_istore, pb_astore, pb_iinc, pb_bin, pb_bin0, pb_dup, pb_pop, pb_dup2, pb_if, pb_icmp, pb_ifnull, pb_getI, pb_getR, pb_putI, pb_putZ, pb_putR, pb_alen, pb_ald, pb_aldR, pb_ast, pb_astZ, pb_astR, pb_vret, pb_iret, pb_zret, pb_aret, pb_cv, pb_cr, pb_sr, pb_switch, pb_sw, pb_nth, pb_set, pb_tk, pb_add, pb_sub, List.length_cons, List.length_nil, true_or, or_true, true_and, and_true, and_self, pb_up_same, pb_up_f, ne_eq, Nat.reduceEqDiff, not_false_eq_true, Nat.reduceAdd, Nat.reduceLeDiff, Nat.zero_le]
    exact ⟨fun _ => hk sl hsl, fun z => absurd z (by omega)⟩
  | succ q ih =>
    intro hq sl hsl
    rw [show ((q + 1 : Nat) : Int) - 1 = q by omega]
    have e : pb_w ((q : Int) + -1) = (q : Int) - 1 := by rw [pb_w_id (by unfold pb_R; omega)]; omega
    have hs : 0 ≤ (q : Int) ∧ (q : Int) < 4 := by omega
    refine pb_s_M_setup_6 x 213 Q _ _ _ _ ?_
    simp only [pb_b_M_setup_6, pb_b_M_setup_26, pb_b_M_setup_28, pb_iconst, pb_null, pb_iload, pb_aload, pb_istore, pb_astore, pb_iinc, pb_bin, pb_bin0, pb_dup, pb_pop, pb_dup2, pb_if, pb_icmp, pb_ifnull, pb_getI, pb_getR, pb_putI, pb_putZ, pb_putR, pb_alen, pb_ald, pb_aldR, pb_ast, pb_astZ, pb_astR, pb_vret, pb_iret, pb_zret, pb_aret, pb_cv, pb_cr, pb_sr, pb_switch, pb_sw, pb_nth, pb_set, pb_tk, pb_add, pb_sub, List.length_cons, List.length_nil, true_or, or_true, true_and, and_true, and_self, pb_up_same, pb_up_f, ne_eq, Nat.reduceEqDiff, not_false_eq_true, Nat.reduceAdd, Nat.reduceLeDiff, Nat.zero_le, is_M, mf_number h.1, mk_number, ml_number, hs, e]
    refine ⟨fun z => absurd z (by omega), fun _ => ⟨fun z => ih (by omega) sl ?_, fun z => ih (by omega) q (Or.inr ⟨hs, Decidable.not_not.mp z⟩)⟩⟩
    rcases hsl with ⟨y1, y2⟩ | y
    · refine Or.inl ⟨y1, fun s q1 q2 => ?_⟩
      by_cases z2 : s = q
      · rw [z2]
        exact z
      · exact y2 s (by omega) q2
    · exact Or.inr y
def m_z4 (σ : pb_H) (s : Int) : pb_H := pb_up (pb_up (pb_up (pb_up σ 0 211 (4 * s + 0) 0) 0 211 (4 * s + 1) 0) 0 211 (4 * s + 2) 0) 0 211 (4 * s + 3) 0
theorem l_M_setup242 {rf vv one two : Int} {o8 : Option pb_V} {σ1 : pb_H} {E1 : gE} (hfin : rm_fin σ1) (hs : 0 ≤ s ∧ s < 4) (h2 : RM (m_z4 σ1 s) T E1 w ν) (hb : 0 ≤ b ∧ b < 2) (hv : 0 ≤ vv ∧ vv < 2) (hnum : E1.1 8 0 = num) (hQ : ∀ σ', RM σ' T (ge_put (ge_put E1 b (1, a, rf, one, 0)) vv (12, 0, pb_mul 2 num, two, 0)) w ν → Q (.inl 0) σ') : pb_WJ x i_M_setup 213 Q 242 [some (.inr 165), some (.inl b), some (.inl a), some (.inl rf), some (.inl vv), some (.inl s), some (.inl one), some (.inl two), o8, some (.inl 0)] [] 213 σ1 := by
  have e0 : pb_mul 4 s = 4 * s := by unfold pb_mul; exact pb_w_id (by unfold pb_R; omega)
  have st : ∀ (σ0 : pb_H) (k : Int), rm_fin σ0 → 0 ≤ k ∧ k < 4 → pb_WJ x i_M_setup 213 Q 242 [some (.inr 165), some (.inl b), some (.inl a), some (.inl rf), some (.inl vv), some (.inl s), some (.inl one), some (.inl two), o8, some (.inl (k + 1))] [] 213 (pb_up σ0 0 211 (4 * s + k) 0) → pb_WJ x i_M_setup 213 Q 242 [some (.inr 165), some (.inl b), some (.inl a), some (.inl rf), some (.inl vv), some (.inl s), some (.inl one), some (.inl two), o8, some (.inl k)] [] 213 σ0 := by
    intro σ0 k hf hk y
    have e1 : pb_w (4 * s + k) = 4 * s + k := pb_w_id (by unfold pb_R; omega)
    have e2 : pb_w (k + 1) = k + 1 := pb_w_id (by unfold pb_R; omega)
    refine pb_s_M_setup_242 x 213 Q _ _ _ _ ?_
    simp only [pb_b_M_setup_242, pb_iconst, pb_null, pb_iload, pb_aload, pb_istore, pb_astore, pb_iinc, pb_bin, pb_bin0, pb_dup, pb_pop, pb_dup2, pb_if, pb_icmp, pb_ifnull, pb_getI, pb_getR, pb_putI, pb_putZ, pb_putR, pb_alen, pb_ald, pb_aldR, pb_ast, pb_astZ, pb_astR, pb_vret, pb_iret, pb_zret, pb_aret, pb_cv, pb_cr, pb_sr, pb_switch, pb_sw, pb_nth, pb_set, pb_tk, pb_add, pb_sub, List.length_cons, List.length_nil, true_or, or_true, true_and, and_true, and_self, pb_up_same, pb_up_f, ne_eq, Nat.reduceEqDiff, not_false_eq_true, Nat.reduceAdd, Nat.reduceLeDiff, Nat.zero_le, is_M, mf_leg hf, mk_leg, ml_leg, e0, e1, e2]
    exact ⟨fun z => absurd z (by omega), fun _ => ⟨by omega, y⟩⟩
  have ff : ∀ (σ0 : pb_H) (j : Int), rm_fin σ0 → rm_fin (pb_up σ0 0 211 j 0) := fun σ0 j y => y.cg (fun f i q1 q2 => pb_up_f (by omega))
  refine st σ1 0 hfin (by omega) (st _ (0 + 1) (ff _ _ hfin) (by omega) (st _ (0 + 1 + 1) (ff _ _ (ff _ _ hfin)) (by omega) (st _ (0 + 1 + 1 + 1) (ff _ _ (ff _ _ (ff _ _ hfin))) (by omega) ?_)))
  refine pb_s_M_setup_242 x 213 Q _ _ _ _ ?_
  simp only [pb_b_M_setup_242, pb_b_M_setup_267, pb_iconst, pb_null, pb_iload, pb_aload, pb_istore, pb_astore, pb_iinc, pb_bin, pb_bin0, pb_dup, pb_pop, pb_dup2, pb_if, pb_icmp, pb_ifnull, pb_getI, pb_getR, pb_putI, pb_putZ, pb_putR, pb_alen, pb_ald, pb_aldR, pb_ast, pb_astZ, pb_astR, pb_vret, pb_iret, pb_zret, pb_aret, pb_cv, pb_cr, pb_sr, pb_switch, pb_sw, pb_nth, pb_set, pb_tk, pb_add, pb_sub, List.length_cons, List.length_nil, true_or, or_true, true_and, and_true, and_self, pb_up_same, pb_up_f, ne_eq, Nat.reduceEqDiff, not_false_eq_true, Nat.reduceAdd, Nat.reduceLeDiff, Nat.zero_le, is_M]
  refine ⟨fun _ => ?_, fun z => absurd (by decide) z⟩
  refine c_M_down h2 hb (fun σ3 h3 => ?_)
  have hn3 := h3.2.2.2.2.2.2.1.1
  rw [show (ge_put E1 b (1, a, rf, one, 0)).1 8 0 = num from hnum] at hn3
  simp only [pb_iconst, pb_null, pb_iload, pb_aload, pb_istore, pb_astore, pb_iinc, pb_bin, pb_bin0, pb_dup, pb_pop, pb_dup2, pb_if, pb_icmp, pb_ifnull, pb_getI, pb_getR, pb_putI, pb_putZ, pb_putR, pb_alen, pb_ald, pb_aldR, pb_ast, pb_astZ, pb_astR, pb_vret, pb_iret, pb_zret, pb_aret, pb_cv, pb_cr, pb_sr, pb_switch, pb_sw, pb_nth, pb_set, pb_tk, pb_add, pb_sub, List.length_cons, List.length_nil, true_or, or_true, true_and, and_true, and_self, pb_up_same, pb_up_f, ne_eq, Nat.reduceEqDiff, not_false_eq_true, Nat.reduceAdd, Nat.reduceLeDiff, Nat.zero_le, is_M, hn3]
  exact c_M_down h3 hv hQ
theorem g_freeCh_r (c : List gC) (b be : Int) : g_freeCh c b be = -1 ∨ (0 ≤ g_freeCh c b be ∧ g_freeCh c b be < 2) := by
  unfold g_freeCh
  split
  · exact Or.inr (by omega)
  · split
    · exact Or.inr (by omega)
    · exact Or.inl rfl
theorem c_M_setup {fr : gF} (h : RM σ T E (v, fun _ => False) ν) (hb : 0 ≤ b ∧ b < 2) (hA : ∀ f ∈ E.2.2, g_alive f = true) (hN : g_num E.2.2) (hU : g_uq E.2.2) (hl : E.2.2.length ≤ 4) (hnum : ∀ f ∈ E.2.2, f 1 < pb_w (E.1 8 0 + 1)) (hQ : ∀ σ' v', RM σ' T (ge_setup E b fr) (v', fun _ => False) ν → Q (.inl 0) σ') : pb_MJ x i_M_setup [.inr 165, .inl b, .inl fr.2.1, .inl fr.2.2.1, .inl fr.2.2.2.1] 213 σ Q := by
  have hA2 : ∀ f ∈ E.2.2, g_held (v, fun _ => False) f := fun f hf => Or.inl (hA f hf)
  have hmf := m_free h hA2 hN hl
  have hnN := h.2.2.2.2.2.2.1.1
  unfold ge_setup at hQ
  refine pb_m_M_setup ?_
  simp only [pb_b_M_setup_0, pb_iconst, pb_null, pb_iload, pb_aload, pb_istore, pb_astore, pb_iinc, pb_bin, pb_bin0, pb_dup, pb_pop, pb_dup2, pb_if, pb_icmp, pb_ifnull, pb_getI, pb_getR, pb_putI, pb_putZ, pb_putR, pb_alen, pb_ald, pb_aldR, pb_ast, pb_astZ, pb_astR, pb_vret, pb_iret, pb_zret, pb_aret, pb_cv, pb_cr, pb_sr, pb_switch, pb_sw, pb_nth, pb_set, pb_tk, pb_add, pb_sub, List.length_cons, List.length_nil, true_or, or_true, true_and, and_true, and_self, pb_up_same, pb_up_f, ne_eq, Nat.reduceEqDiff, not_false_eq_true, Nat.reduceAdd, Nat.reduceLeDiff, Nat.zero_le]
  have hsl : ∀ sl : Int, ((sl = -1 ∧ ∀ s, 0 ≤ s → s < 4 → ¬ σ 0 199 s = 0) ∨ ((0 ≤ sl ∧ sl < 4) ∧ σ 0 199 sl = 0)) → pb_b_M_setup_36 x 213 Q [some (.inr 165), some (.inl b), some (.inl fr.2.1), some (.inl fr.2.2.1), some (.inl fr.2.2.2.1), some (.inl sl), some (.inl (-1)), none, none, none] [] 213 σ := by
    intro sl hsl
    have r1 := g_freeCh_r E.2.2 b (-1)
    simp only [pb_b_M_setup_36, pb_iconst, pb_null, pb_iload, pb_aload, pb_istore, pb_astore, pb_iinc, pb_bin, pb_bin0, pb_dup, pb_pop, pb_dup2, pb_if, pb_icmp, pb_ifnull, pb_getI, pb_getR, pb_putI, pb_putZ, pb_putR, pb_alen, pb_ald, pb_aldR, pb_ast, pb_astZ, pb_astR, pb_vret, pb_iret, pb_zret, pb_aret, pb_cv, pb_cr, pb_sr, pb_switch, pb_sw, pb_nth, pb_set, pb_tk, pb_add, pb_sub, List.length_cons, List.length_nil, true_or, or_true, true_and, and_true, and_self, pb_up_same, pb_up_f, ne_eq, Nat.reduceEqDiff, not_false_eq_true, Nat.reduceAdd, Nat.reduceLeDiff, Nat.zero_le, is_M]
    refine c_M_freeChannel (be := -1) h hA2 hN hU hb (fun c q1 q2 => by omega) ?_
    simp only [pb_iconst, pb_null, pb_iload, pb_aload, pb_istore, pb_astore, pb_iinc, pb_bin, pb_bin0, pb_dup, pb_pop, pb_dup2, pb_if, pb_icmp, pb_ifnull, pb_getI, pb_getR, pb_putI, pb_putZ, pb_putR, pb_alen, pb_ald, pb_aldR, pb_ast, pb_astZ, pb_astR, pb_vret, pb_iret, pb_zret, pb_aret, pb_cv, pb_cr, pb_sr, pb_switch, pb_sw, pb_nth, pb_set, pb_tk, pb_add, pb_sub, List.length_cons, List.length_nil, true_or, or_true, true_and, and_true, and_self, pb_up_same, pb_up_f, ne_eq, Nat.reduceEqDiff, not_false_eq_true, Nat.reduceAdd, Nat.reduceLeDiff, Nat.zero_le]
    refine c_M_isBus (fun hv => ?_) (fun hv => ?_)
    · simp only [pb_iconst, pb_null, pb_iload, pb_aload, pb_istore, pb_astore, pb_iinc, pb_bin, pb_bin0, pb_dup, pb_pop, pb_dup2, pb_if, pb_icmp, pb_ifnull, pb_getI, pb_getR, pb_putI, pb_putZ, pb_putR, pb_alen, pb_ald, pb_aldR, pb_ast, pb_astZ, pb_astR, pb_vret, pb_iret, pb_zret, pb_aret, pb_cv, pb_cr, pb_sr, pb_switch, pb_sw, pb_nth, pb_set, pb_tk, pb_add, pb_sub, List.length_cons, List.length_nil, true_or, or_true, true_and, and_true, and_self, pb_up_same, pb_up_f, ne_eq, Nat.reduceEqDiff, not_false_eq_true, Nat.reduceAdd, Nat.reduceLeDiff, Nat.zero_le, is_M]
      refine ⟨fun z => absurd z (by decide), fun _ => ?_⟩
      have e2 : g_cch E b fr = g_freeCh E.2.2 fr.2.2.2.1 (if fr.2.2.2.1 = b then g_freeCh E.2.2 b (-1) else -1) := if_pos hv
      have r2 := g_freeCh_r E.2.2 fr.2.2.2.1 (if fr.2.2.2.1 = b then g_freeCh E.2.2 b (-1) else -1)
      refine c_M_freeChannel (be := if fr.2.2.2.1 = b then g_freeCh E.2.2 b (-1) else -1) h hA2 hN hU hv (fun c q1 q2 => by
        by_cases z : fr.2.2.2.1 = b
        · rw [if_pos z]
          exact ⟨fun y => y.2, fun y => ⟨z, y⟩⟩
        · rw [if_neg z]
          exact ⟨fun y => absurd y.1 z, fun y => by omega⟩) ?_
      rw [← e2] at r2 ⊢
      rw [if_neg (fun y => y hv)] at hQ
      simp only [pb_b_M_setup_66, pb_iconst, pb_null, pb_iload, pb_aload, pb_istore, pb_astore, pb_iinc, pb_bin, pb_bin0, pb_dup, pb_pop, pb_dup2, pb_if, pb_icmp, pb_ifnull, pb_getI, pb_getR, pb_putI, pb_putZ, pb_putR, pb_alen, pb_ald, pb_aldR, pb_ast, pb_astZ, pb_astR, pb_vret, pb_iret, pb_zret, pb_aret, pb_cv, pb_cr, pb_sr, pb_switch, pb_sw, pb_nth, pb_set, pb_tk, pb_add, pb_sub, List.length_cons, List.length_nil, true_or, or_true, true_and, and_true, and_self, pb_up_same, pb_up_f, ne_eq, Nat.reduceEqDiff, not_false_eq_true, Nat.reduceAdd, Nat.reduceLeDiff, Nat.zero_le]
      refine c_M_isBus (fun _ => ?_) (fun y => absurd hv y)
      simp only [pb_iconst, pb_null, pb_iload, pb_aload, pb_istore, pb_astore, pb_iinc, pb_bin, pb_bin0, pb_dup, pb_pop, pb_dup2, pb_if, pb_icmp, pb_ifnull, pb_getI, pb_getR, pb_putI, pb_putZ, pb_putR, pb_alen, pb_ald, pb_aldR, pb_ast, pb_astZ, pb_astR, pb_vret, pb_iret, pb_zret, pb_aret, pb_cv, pb_cr, pb_sr, pb_switch, pb_sw, pb_nth, pb_set, pb_tk, pb_add, pb_sub, List.length_cons, List.length_nil, true_or, or_true, true_and, and_true, and_self, pb_up_same, pb_up_f, ne_eq, Nat.reduceEqDiff, not_false_eq_true, Nat.reduceAdd, Nat.reduceLeDiff, Nat.zero_le]
      refine ⟨fun _ => ?_, fun z => absurd (by decide) z⟩
      simp only [pb_b_M_setup_80, pb_iconst, pb_null, pb_iload, pb_aload, pb_istore, pb_astore, pb_iinc, pb_bin, pb_bin0, pb_dup, pb_pop, pb_dup2, pb_if, pb_icmp, pb_ifnull, pb_getI, pb_getR, pb_putI, pb_putZ, pb_putR, pb_alen, pb_ald, pb_aldR, pb_ast, pb_astZ, pb_astR, pb_vret, pb_iret, pb_zret, pb_aret, pb_cv, pb_cr, pb_sr, pb_switch, pb_sw, pb_nth, pb_set, pb_tk, pb_add, pb_sub, List.length_cons, List.length_nil, true_or, or_true, true_and, and_true, and_self, pb_up_same, pb_up_f, ne_eq, Nat.reduceEqDiff, not_false_eq_true, Nat.reduceAdd, Nat.reduceLeDiff, Nat.zero_le]
      refine ⟨fun z => ?_, fun z => ?_⟩
      · obtain ⟨s1, s2⟩ := hsl.resolve_left (fun y => by omega)
        have hl4 : ¬ (E.2.2.length : Int) = 4 := fun y => (hmf.mpr (by omega)) sl s1.1 s1.2 s2
        rw [if_neg hl4] at hQ
        simp only [pb_b_M_setup_89, pb_iconst, pb_null, pb_iload, pb_aload, pb_istore, pb_astore, pb_iinc, pb_bin, pb_bin0, pb_dup, pb_pop, pb_dup2, pb_if, pb_icmp, pb_ifnull, pb_getI, pb_getR, pb_putI, pb_putZ, pb_putR, pb_alen, pb_ald, pb_aldR, pb_ast, pb_astZ, pb_astR, pb_vret, pb_iret, pb_zret, pb_aret, pb_cv, pb_cr, pb_sr, pb_switch, pb_sw, pb_nth, pb_set, pb_tk, pb_add, pb_sub, List.length_cons, List.length_nil, true_or, or_true, true_and, and_true, and_self, pb_up_same, pb_up_f, ne_eq, Nat.reduceEqDiff, not_false_eq_true, Nat.reduceAdd, Nat.reduceLeDiff, Nat.zero_le]
        refine ⟨fun z1 => ?_, fun z1 => ?_⟩
        · rw [if_neg (by omega)] at hQ
          simp only [pb_b_M_setup_98, pb_iconst, pb_null, pb_iload, pb_aload, pb_istore, pb_astore, pb_iinc, pb_bin, pb_bin0, pb_dup, pb_pop, pb_dup2, pb_if, pb_icmp, pb_ifnull, pb_getI, pb_getR, pb_putI, pb_putZ, pb_putR, pb_alen, pb_ald, pb_aldR, pb_ast, pb_astZ, pb_astR, pb_vret, pb_iret, pb_zret, pb_aret, pb_cv, pb_cr, pb_sr, pb_switch, pb_sw, pb_nth, pb_set, pb_tk, pb_add, pb_sub, List.length_cons, List.length_nil, true_or, or_true, true_and, and_true, and_self, pb_up_same, pb_up_f, ne_eq, Nat.reduceEqDiff, not_false_eq_true, Nat.reduceAdd, Nat.reduceLeDiff, Nat.zero_le]
          refine ⟨fun z2 => ?_, fun z2 => ?_⟩
          · rw [if_neg (by omega)] at hQ
            unfold ge_new at hQ
            generalize hgn : pb_w (E.1 8 0 + 1) = num at hQ hnum
            simp only [pb_b_M_setup_107, pb_b_M_setup_108, pb_b_M_setup_126, pb_iconst, pb_null, pb_iload, pb_aload, pb_istore, pb_astore, pb_iinc, pb_bin, pb_bin0, pb_dup, pb_pop, pb_dup2, pb_if, pb_icmp, pb_ifnull, pb_getI, pb_getR, pb_putI, pb_putZ, pb_putR, pb_alen, pb_ald, pb_aldR, pb_ast, pb_astZ, pb_astR, pb_vret, pb_iret, pb_zret, pb_aret, pb_cv, pb_cr, pb_sr, pb_switch, pb_sw, pb_nth, pb_set, pb_tk, pb_add, pb_sub, List.length_cons, List.length_nil, true_or, or_true, true_and, and_true, and_self, pb_up_same, pb_up_f, ne_eq, Nat.reduceEqDiff, not_false_eq_true, Nat.reduceAdd, Nat.reduceLeDiff, Nat.zero_le, is_M, mf_number h.1, mk_number, ml_number, mf_caller h.1, mk_caller, ml_caller, mf_callerBus h.1, mk_callerBus, ml_callerBus, mf_callerAddress h.1, mk_callerAddress, ml_callerAddress, mf_callerReference h.1, mk_callerReference, ml_callerReference, mf_callerChannel h.1, mk_callerChannel, ml_callerChannel, mf_calledBus h.1, mk_calledBus, ml_calledBus, mf_calledChannel h.1, mk_calledChannel, ml_calledChannel, mf_phase h.1, mk_phase, ml_phase, mf_clock h.1, mk_clock, ml_clock, mf_again h.1, mk_again, ml_again, mf_winner h.1, mk_winner, ml_winner, hnN, hgn, s1, pb_up_p, Int.reduceEq]
            refine ⟨fun _ => ?_, fun z3 => absurd (by decide) z3⟩
            have hfree : ∀ f ∈ E.2.2, g_held (v, fun _ => False) f → v (f 1) ≠ sl := fun f hf hh y => by
              have r := (h.2.2.2.2.2.2.2.1.1 f hf hh).2.1
              have := hN.1 f hf
              rw [show (v, fun _ => False).1 (f 1) = sl from y] at r
              omega
            refine l_M_setup242 (num := num) ?_ s1 (rm_new (num := num) (g := g_newC num b fr.2.1 fr.2.2.1 (g_freeCh E.2.2 b (-1)) fr.2.2.2.1 (g_cch E b fr)) h s1 hfree (fun f hf y => by have := hnum f hf; omega) rfl rfl ?_ ?_ ?_ ?_ ?_ ?_) hb hv (g_up_s E.1 8 0 num) (fun σ' h5 => hQ _ _ h5)
            · exact h.1.cg (fun f i q1 q2 => by rw [pb_up_f (by omega), pb_up_f (by omega), pb_up_f (by omega), pb_up_f (by omega), pb_up_f (by omega), pb_up_f (by omega), pb_up_f (by omega), pb_up_f (by omega), pb_up_f (by omega), pb_up_f (by omega), pb_up_f (by omega), pb_up_f (by omega), pb_up_f (by omega)])
            · intro f p i q1 q2
              unfold m_z4
              rw [pb_up_k (by omega), pb_up_k (by omega), pb_up_k (by omega), pb_up_k (by omega), pb_up_k (by omega), pb_up_k (by omega), pb_up_k (by omega), pb_up_k (by omega), pb_up_k (by omega), pb_up_k (by omega), pb_up_k (by omega), pb_up_k (by omega), pb_up_k (by omega), pb_up_k (by omega), pb_up_k (by omega), pb_up_k (by omega), pb_up_k (by omega)]
            · intro p s' q1 q2 q3
              unfold m_z4
              rw [pb_up_p (by omega), pb_up_p (by omega), pb_up_p (by omega), pb_up_p (by omega), pb_up_i q3, pb_up_i q3, pb_up_i q3, pb_up_i q3, pb_up_i q3, pb_up_i q3, pb_up_i q3, pb_up_i q3, pb_up_i q3, pb_up_i q3, pb_up_i q3, pb_up_i q3, pb_up_f (by decide)]
            · intro j q
              unfold m_z4
              rw [pb_up_i (by omega), pb_up_i (by omega), pb_up_i (by omega), pb_up_i (by omega), pb_up_p (by decide), pb_up_p (by decide), pb_up_p (by decide), pb_up_p (by decide), pb_up_p (by decide), pb_up_p (by decide), pb_up_p (by decide), pb_up_p (by decide), pb_up_p (by decide), pb_up_p (by decide), pb_up_p (by decide), pb_up_p (by decide), pb_up_f (by decide)]
            · unfold m_z4
              refine ⟨by rw [pb_up_p (by decide), pb_up_p (by decide), pb_up_p (by decide), pb_up_p (by decide), pb_up_p (by decide), pb_up_p (by decide), pb_up_p (by decide), pb_up_p (by decide), pb_up_p (by decide), pb_up_p (by decide), pb_up_p (by decide), pb_up_p (by decide), pb_up_p (by decide), pb_up_p (by decide), pb_up_p (by decide), pb_up_same]; rfl, by rw [pb_up_p (by decide), pb_up_p (by decide), pb_up_p (by decide), pb_up_p (by decide), pb_up_p (by decide), pb_up_p (by decide), pb_up_p (by decide), pb_up_p (by decide), pb_up_p (by decide), pb_up_p (by decide), pb_up_p (by decide), pb_up_p (by decide), pb_up_p (by decide), pb_up_p (by decide), pb_up_same]; rfl, by rw [pb_up_p (by decide), pb_up_p (by decide), pb_up_p (by decide), pb_up_p (by decide), pb_up_p (by decide), pb_up_p (by decide), pb_up_p (by decide), pb_up_p (by decide), pb_up_p (by decide), pb_up_p (by decide), pb_up_p (by decide), pb_up_p (by decide), pb_up_p (by decide), pb_up_same]; rfl, by rw [pb_up_p (by decide), pb_up_p (by decide), pb_up_p (by decide), pb_up_p (by decide), pb_up_p (by decide), pb_up_p (by decide), pb_up_p (by decide), pb_up_p (by decide), pb_up_p (by decide), pb_up_p (by decide), pb_up_p (by decide), pb_up_p (by decide), pb_up_same]; rfl, by rw [pb_up_p (by decide), pb_up_p (by decide), pb_up_p (by decide), pb_up_p (by decide), pb_up_p (by decide), pb_up_p (by decide), pb_up_p (by decide), pb_up_p (by decide), pb_up_p (by decide), pb_up_p (by decide), pb_up_p (by decide), pb_up_same]; rfl, by rw [pb_up_p (by decide), pb_up_p (by decide), pb_up_p (by decide), pb_up_p (by decide), pb_up_p (by decide), pb_up_p (by decide), pb_up_p (by decide), pb_up_p (by decide), pb_up_p (by decide), pb_up_p (by decide), pb_up_same]; rfl, by rw [pb_up_p (by decide), pb_up_p (by decide), pb_up_p (by decide), pb_up_p (by decide), pb_up_p (by decide), pb_up_p (by decide), pb_up_p (by decide), pb_up_p (by decide), pb_up_p (by decide), pb_up_same]; rfl, by rw [pb_up_p (by decide), pb_up_p (by decide), pb_up_p (by decide), pb_up_p (by decide), pb_up_p (by decide), pb_up_p (by decide), pb_up_p (by decide), pb_up_p (by decide), pb_up_same]; rfl, by rw [pb_up_p (by decide), pb_up_p (by decide), pb_up_p (by decide), pb_up_p (by decide), pb_up_p (by decide), pb_up_p (by decide), pb_up_p (by decide), pb_up_same]; rfl, by rw [pb_up_p (by decide), pb_up_p (by decide), pb_up_p (by decide), pb_up_p (by decide), pb_up_p (by decide), pb_up_p (by decide), pb_up_same]; rfl, by rw [pb_up_p (by decide), pb_up_p (by decide), pb_up_p (by decide), pb_up_p (by decide), pb_up_p (by decide), pb_up_same]; rfl, by rw [pb_up_p (by decide), pb_up_p (by decide), pb_up_p (by decide), pb_up_p (by decide), pb_up_same]; rfl, fun j hj => ?_⟩
              have hj4 : j = 0 ∨ j = 1 ∨ j = 2 ∨ j = 3 := by omega
              rcases hj4 with rfl | rfl | rfl | rfl
              · rw [show ((0 : Nat) : Int) = 0 from rfl, pb_up_i (by omega), pb_up_i (by omega), pb_up_i (by omega), pb_up_same]; rfl
              · rw [show ((1 : Nat) : Int) = 1 from rfl, pb_up_i (by omega), pb_up_i (by omega), pb_up_same]; rfl
              · rw [show ((2 : Nat) : Int) = 2 from rfl, pb_up_i (by omega), pb_up_same]; rfl
              · rw [show ((3 : Nat) : Int) = 3 from rfl, pb_up_same]; rfl
            · unfold m_z4
              rw [pb_up_p (by decide), pb_up_p (by decide), pb_up_p (by decide), pb_up_p (by decide), pb_up_same]
              decide
            · unfold m_z4
              rw [pb_up_f (by decide), pb_up_f (by decide), pb_up_f (by decide), pb_up_f (by decide), pb_up_f (by decide), pb_up_f (by decide), pb_up_f (by decide), pb_up_f (by decide), pb_up_f (by decide), pb_up_f (by decide), pb_up_f (by decide), pb_up_f (by decide), pb_up_f (by decide), pb_up_f (by decide), pb_up_f (by decide), pb_up_f (by decide), pb_up_same]
          · rw [if_pos (by omega)] at hQ
            simp only [pb_b_M_setup_108, pb_iconst, pb_null, pb_iload, pb_aload, pb_istore, pb_astore, pb_iinc, pb_bin, pb_bin0, pb_dup, pb_pop, pb_dup2, pb_if, pb_icmp, pb_ifnull, pb_getI, pb_getR, pb_putI, pb_putZ, pb_putR, pb_alen, pb_ald, pb_aldR, pb_ast, pb_astZ, pb_astR, pb_vret, pb_iret, pb_zret, pb_aret, pb_cv, pb_cr, pb_sr, pb_switch, pb_sw, pb_nth, pb_set, pb_tk, pb_add, pb_sub, List.length_cons, List.length_nil, true_or, or_true, true_and, and_true, and_self, pb_up_same, pb_up_f, ne_eq, Nat.reduceEqDiff, not_false_eq_true, Nat.reduceAdd, Nat.reduceLeDiff, Nat.zero_le, is_M]
            exact ⟨fun z3 => absurd z3 (by decide), fun _ => c_M_down h hb (fun σ' h5 => hQ _ _ h5)⟩
        · rw [if_pos (by omega)] at hQ
          simp only [pb_b_M_setup_108, pb_iconst, pb_null, pb_iload, pb_aload, pb_istore, pb_astore, pb_iinc, pb_bin, pb_bin0, pb_dup, pb_pop, pb_dup2, pb_if, pb_icmp, pb_ifnull, pb_getI, pb_getR, pb_putI, pb_putZ, pb_putR, pb_alen, pb_ald, pb_aldR, pb_ast, pb_astZ, pb_astR, pb_vret, pb_iret, pb_zret, pb_aret, pb_cv, pb_cr, pb_sr, pb_switch, pb_sw, pb_nth, pb_set, pb_tk, pb_add, pb_sub, List.length_cons, List.length_nil, true_or, or_true, true_and, and_true, and_self, pb_up_same, pb_up_f, ne_eq, Nat.reduceEqDiff, not_false_eq_true, Nat.reduceAdd, Nat.reduceLeDiff, Nat.zero_le, is_M]
          exact ⟨fun z3 => absurd z3 (by decide), fun _ => c_M_down h hb (fun σ' h5 => hQ _ _ h5)⟩
      · have hl4 : (E.2.2.length : Int) = 4 := by
          rcases hsl with ⟨y1, y2⟩ | y
          · have := hmf.mp y2
            omega
          · omega
        rw [if_pos hl4] at hQ
        simp only [pb_b_M_setup_108, pb_iconst, pb_null, pb_iload, pb_aload, pb_istore, pb_astore, pb_iinc, pb_bin, pb_bin0, pb_dup, pb_pop, pb_dup2, pb_if, pb_icmp, pb_ifnull, pb_getI, pb_getR, pb_putI, pb_putZ, pb_putR, pb_alen, pb_ald, pb_aldR, pb_ast, pb_astZ, pb_astR, pb_vret, pb_iret, pb_zret, pb_aret, pb_cv, pb_cr, pb_sr, pb_switch, pb_sw, pb_nth, pb_set, pb_tk, pb_add, pb_sub, List.length_cons, List.length_nil, true_or, or_true, true_and, and_true, and_self, pb_up_same, pb_up_f, ne_eq, Nat.reduceEqDiff, not_false_eq_true, Nat.reduceAdd, Nat.reduceLeDiff, Nat.zero_le, is_M]
        exact ⟨fun z3 => absurd z3 (by decide), fun _ => c_M_down h hb (fun σ' h5 => hQ _ _ h5)⟩
    · rw [if_pos hv] at hQ
      simp only [pb_b_M_setup_65, pb_b_M_setup_66, pb_iconst, pb_null, pb_iload, pb_aload, pb_istore, pb_astore, pb_iinc, pb_bin, pb_bin0, pb_dup, pb_pop, pb_dup2, pb_if, pb_icmp, pb_ifnull, pb_getI, pb_getR, pb_putI, pb_putZ, pb_putR, pb_alen, pb_ald, pb_aldR, pb_ast, pb_astZ, pb_astR, pb_vret, pb_iret, pb_zret, pb_aret, pb_cv, pb_cr, pb_sr, pb_switch, pb_sw, pb_nth, pb_set, pb_tk, pb_add, pb_sub, List.length_cons, List.length_nil, true_or, or_true, true_and, and_true, and_self, pb_up_same, pb_up_f, ne_eq, Nat.reduceEqDiff, not_false_eq_true, Nat.reduceAdd, Nat.reduceLeDiff, Nat.zero_le]
      refine ⟨fun _ => ?_, fun z => absurd trivial z⟩
      refine c_M_isBus (fun y => absurd y hv) (fun _ => ?_)
      simp only [pb_b_M_setup_108, pb_iconst, pb_null, pb_iload, pb_aload, pb_istore, pb_astore, pb_iinc, pb_bin, pb_bin0, pb_dup, pb_pop, pb_dup2, pb_if, pb_icmp, pb_ifnull, pb_getI, pb_getR, pb_putI, pb_putZ, pb_putR, pb_alen, pb_ald, pb_aldR, pb_ast, pb_astZ, pb_astR, pb_vret, pb_iret, pb_zret, pb_aret, pb_cv, pb_cr, pb_sr, pb_switch, pb_sw, pb_nth, pb_set, pb_tk, pb_add, pb_sub, List.length_cons, List.length_nil, true_or, or_true, true_and, and_true, and_self, pb_up_same, pb_up_f, ne_eq, Nat.reduceEqDiff, not_false_eq_true, Nat.reduceAdd, Nat.reduceLeDiff, Nat.zero_le, is_M]
      exact ⟨fun z => absurd trivial z, fun _ => ⟨fun z3 => absurd z3 (by decide), fun _ => c_M_down h hb (fun σ' h5 => hQ _ _ h5)⟩⟩
  exact l_M_setup6 h hsl 4 (Nat.le_refl _) (-1) (Or.inl ⟨rfl, fun s q1 q2 => by omega⟩)
end MSU
