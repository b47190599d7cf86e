/-! what an end leaves of a call -/
def g_gK (f : gC) (k : Nat) : gC := fun k' => if (20 ≤ k' ∧ k' < 20 + k) ∧ (f k' = 2 ∨ f k' = 3) then 4 else f k'
def g_gE (f : gC) : gC := if f 2 = 4 then f else if f 9 = 1 then g_gK (c_up (c_up f 2 4) 9 4) 4 else g_gK (c_up f 2 4) 4
section GEN
variable {E : gE} {i : Nat} {f : gC} {v : Int}
theorem ge_endK_c (hi : E.2.2[i]? = some f) : ∀ k : Nat, (ge_endK i v E k).2.2 = E.2.2.set i (g_gK f k) := by
  intro k
  have hi2 := List.getElem?_eq_some_iff.mp hi
  induction k with
  | zero =>
    show E.2.2 = E.2.2.set i (g_gK f 0)
    have e : g_gK f 0 = f := by
      funext k'
      exact if_neg (by omega)
    rw [e, ← hi2.2, List.set_getElem_self]
  | succ k ih =>
    have hk : (ge_endK i v E k).2.2[i]? = some (g_gK f k) := by
      rw [ih, List.getElem?_set, if_pos rfl, if_pos hi2.1]
    show (ge_end1 i v (ge_endK i v E k) k).2.2 = _
    unfold ge_end1
    rw [hk]
    dsimp only
    have e0 : g_gK f k (20 + k) = f (20 + k) := if_neg (by omega)
    rw [e0]
    by_cases z : f (20 + k) = 2 ∨ f (20 + k) = 3
    · rw [if_pos z]
      show (ge_endK i v E k).2.2.set i (c_up (g_gK f k) (20 + k) 4) = _
      rw [ih, List.set_set]
      congr 1
      funext k'
      unfold c_up g_gK
      by_cases z2 : k' = 20 + k
      · subst z2
        rw [if_pos rfl, if_pos ⟨by omega, z⟩]
      · rw [if_neg z2]
        by_cases z3 : (20 ≤ k' ∧ k' < 20 + k) ∧ (f k' = 2 ∨ f k' = 3)
        · rw [if_pos z3, if_pos ⟨by omega, z3.2⟩]
        · rw [if_neg z3, if_neg (fun y => z3 ⟨by omega, y.2⟩)]
    · rw [if_neg z, ih]
      congr 1
      funext k'
      unfold g_gK
      by_cases z3 : (20 ≤ k' ∧ k' < 20 + k) ∧ (f k' = 2 ∨ f k' = 3)
      · rw [if_pos z3, if_pos ⟨by omega, z3.2⟩]
      · rw [if_neg z3, if_neg (fun y => ?_)]
        by_cases z2 : k' = 20 + k
        · subst z2
          exact z y.2
        · exact z3 ⟨by omega, y.2⟩
theorem ge_end_c (hi : E.2.2[i]? = some f) : (ge_end E i v).2.2 = E.2.2.set i (g_gE f) := by
  have hi2 := List.getElem?_eq_some_iff.mp hi
  unfold ge_end g_gE
  rw [hi]
  dsimp only
  by_cases z : f 2 = 4
  · rw [if_pos z, if_pos z, ← hi2.2, List.set_getElem_self]
  · rw [if_neg z, if_neg z]
    by_cases z2 : f 9 = 1
    · rw [if_pos z2, if_pos z2, ge_endK_c (E := ge_put (ge_cset (ge_cset E i (c_up f 2 4)) i (c_up (c_up f 2 4) 9 4)) (f 5) (5, f 6, f 7, v, 0)) (f := c_up (c_up f 2 4) 9 4) (cs_at (E := ge_cset E i (c_up f 2 4)) (cs_at hi))]
      show ((E.2.2.set i (c_up f 2 4)).set i (c_up (c_up f 2 4) 9 4)).set i (g_gK (c_up (c_up f 2 4) 9 4) 4) = _
      rw [List.set_set, List.set_set]
    · rw [if_neg z2, if_neg z2, ge_endK_c (f := c_up f 2 4) (cs_at hi)]
      show (E.2.2.set i (c_up f 2 4)).set i (g_gK (c_up f 2 4) 4) = _
      rw [List.set_set]
theorem g_gE_k {k : Nat} (h2 : k ≠ 2) (h9 : k ≠ 9) (hk : k < 20) : g_gE f k = f k := by
  unfold g_gE
  by_cases z : f 2 = 4
  · rw [if_pos z]
  · rw [if_neg z]
    by_cases z2 : f 9 = 1
    · rw [if_pos z2]
      unfold g_gK
      rw [if_neg (by omega), c_up_n h9, c_up_n h2]
    · rw [if_neg z2]
      unfold g_gK
      rw [if_neg (by omega), c_up_n h2]
theorem ge_end_at (hi : E.2.2[i]? = some f) : (ge_end E i v).2.2[i]? = some (g_gE f) := by
  rw [ge_end_c hi, List.getElem?_set, if_pos rfl, if_pos (List.getElem?_eq_some_iff.mp hi).1]
theorem ge_end_num (hi : E.2.2[i]? = some f) (hN : g_num E.2.2) : g_num (ge_end E i v).2.2 := by
  rw [ge_end_c hi]
  exact hN.set hi (g_gE_k (by decide) (by decide) (by decide))
end GEN
def g_anyK (g : gC) (k : Nat) : Bool := decide (¬ g 9 = 0) || g_legs g k
theorem g_anyK_s (g : gC) (k : Nat) : g_anyK g (k + 1) = (g_anyK g k || decide (¬ g (20 + k) = 0)) := by
  show (decide (¬ g 9 = 0) || (g_legs g k || decide (¬ g (20 + k) = 0))) = ((decide (¬ g 9 = 0) || g_legs g k) || decide (¬ g (20 + k) = 0))
  rw [Bool.or_assoc]
section MGO
variable {x : pb_E} {σ σ' : pb_H} {T : gT} {E : gE} {w : gW} {ν : pb_H} {b s t u : Int} {Q : pb_P} {i : Nat} {f f' g : gC} {n : Int} {v : Int → Int}
theorem c_M_ringing_s (es : w.1 (f 1) = s) (h : RM σ T E w ν) (hi : E.2.2[i]? = some f) (hh : g_held w f) (hQ : ∀ r : Int, (r = 0 ↔ g_ring f 4 = false) → Q (.inl r) σ) : pb_MJ x i_M_ringing [.inr 165, .inl s] 213 σ Q := by
  subst es
  exact c_M_ringing h hi hh hQ
theorem l_M_gone {l2 l3 : pb_V} (h : RM σ T E (v, fun m => m = n) ν) (hN : g_num E.2.2) (hi : E.2.2[i]? = some g) (hg : g 1 = n) (hQ : ∀ σ', RM σ' T E (v, fun _ => False) ν → (g_alive g = true ∨ σ' 0 199 (v n) = 0) → Q (.inl 0) σ') : ∀ (d k : Nat), k + d = 4 → pb_WJ x i_M_gone 213 Q 112 [some (.inr 165), some (.inl (v n)), some l2, some l3, some (.inl (if g_anyK g k = true then 1 else 0)), some (.inl k)] [] 213 σ := by
  intro d
  have r1 := r_1 h hi (Or.inr hg)
  rw [show (v, fun m => m = n).1 (g 1) = v n from congrArg v hg] at r1
  have hs := r1.1
  induction d with
  | zero =>
    intro k hk
    obtain rfl : k = 4 := by omega
    refine pb_s_M_gone_112 x 213 Q _ _ _ _ ?_
    simp only [pb_b_M_gone_112, pb_b_M_gone_150, pb_b_M_gone_162, pb_iconst, pb_null, pb_iload, pb_aload, pb_istore, pb_astore, pb_iinc, pb_bin, pb_bin0, pb_dup, pb_pop, pb_dup2, pb_if, pb_icmp, pb_ifnull, pb_getI, pb_getR, pb_putI, pb_putZ, pb_putR, pb_alen, pb_ald, pb_aldR, pb_ast, pb_astZ, pb_astR, pb_vret, pb_iret, pb_zret, pb_aret, pb_cv, pb_cr, pb_sr, pb_switch, pb_sw, pb_nth, pb_set, pb_tk, pb_add, pb_sub, List.length_cons, List.length_nil, true_or, or_true, true_and, and_true, and_self, pb_up_same, pb_up_f, ne_eq, Nat.reduceEqDiff, not_false_eq_true, Nat.reduceAdd, Nat.reduceLeDiff, Nat.zero_le, is_M, mf_number h.1, mk_number, ml_number, hs]
    refine ⟨fun _ => ⟨fun z => ?_, fun z => ?_⟩, fun z => absurd z (by omega)⟩
    · by_cases z2 : g_anyK g 4 = true
      · exact hQ _ (rm_free h hN hi hg z2) (Or.inl z2)
      · rw [if_neg z2] at z
        exact absurd rfl z
    · by_cases z2 : g_anyK g 4 = true
      · rw [if_pos z2] at z
        exact absurd (by decide) z
      · exact hQ _ (rm_kill h hN hi hg z2) (Or.inr (pb_up_same _ _ _ _ _))
  | succ d ih =>
    intro k hk
    have e : pb_w ((k : Int) + 1) = ((k + 1 : Nat) : Int) := by rw [pb_w_id (by unfold pb_R; omega)]; omega
    have e3 : pb_mul 4 (v n) = 4 * v n := by unfold pb_mul; exact pb_w_id (by unfold pb_R; omega)
    have e4 : pb_w (4 * v n + (k : Int)) = 4 * v n + k := pb_w_id (by unfold pb_R; omega)
    have hx : 0 ≤ 4 * v n + (k : Int) ∧ 4 * v n + (k : Int) < 16 := by omega
    have al := r1.2.2.2.2.2.2.2.2.2.2.2.2.2 k (by omega)
    have ih2 := ih (k + 1) (by omega)
    rw [g_anyK_s] at ih2
    refine pb_s_M_gone_112 x 213 Q _ _ _ _ ?_
    simp only [pb_b_M_gone_112, pb_b_M_gone_137, pb_b_M_gone_141, pb_b_M_gone_142, pb_iconst, pb_null, pb_iload, pb_aload, pb_istore, pb_astore, pb_iinc, pb_bin, pb_bin0, pb_dup, pb_pop, pb_dup2, pb_if, pb_icmp, pb_ifnull, pb_getI, pb_getR, pb_putI, pb_putZ, pb_putR, pb_alen, pb_ald, pb_aldR, pb_ast, pb_astZ, pb_astR, pb_vret, pb_iret, pb_zret, pb_aret, pb_cv, pb_cr, pb_sr, pb_switch, pb_sw, pb_nth, pb_set, pb_tk, pb_add, pb_sub, List.length_cons, List.length_nil, true_or, or_true, true_and, and_true, and_self, pb_up_same, pb_up_f, ne_eq, Nat.reduceEqDiff, not_false_eq_true, Nat.reduceAdd, Nat.reduceLeDiff, Nat.zero_le, is_M, mf_leg h.1, mk_leg, ml_leg, al, hx, e, e3, e4]
    refine ⟨fun z => absurd z (by omega), fun _ => ?_⟩
    by_cases z2 : g_anyK g k = true
    · rw [if_pos z2]
      rw [z2, Bool.true_or, if_pos rfl] at ih2
      exact ⟨fun _ => ih2, fun z => absurd (by decide) z⟩
    · rw [if_neg z2]
      rw [Bool.eq_false_iff.mpr z2, Bool.false_or] at ih2
      refine ⟨fun z => absurd rfl z, fun _ => ⟨fun z => ?_, fun z => ?_⟩⟩
      · rw [decide_eq_false (fun y => y (g_lc_0.mp z)), if_neg (by decide)] at ih2
        exact ih2
      · rw [decide_eq_true (show ¬ g (20 + k) = 0 from fun y => z (g_lc_0.mpr y)), if_pos rfl] at ih2
        exact ih2
theorem l_M_gone93 {l2 l3 : pb_V} {o4 o5 : Option pb_V} (h : RM σ T E (v, fun m => m = n) ν) (hN : g_num E.2.2) (hi : E.2.2[i]? = some g) (hg : g 1 = n) (hQ : ∀ σ', RM σ' T E (v, fun _ => False) ν → (g_alive g = true ∨ σ' 0 199 (v n) = 0) → Q (.inl 0) σ') : pb_b_M_gone_93 x 213 Q [some (.inr 165), some (.inl (v n)), some l2, some l3, o4, o5] [] 213 σ := by
  have r1 := r_1 h hi (Or.inr hg)
  rw [show (v, fun m => m = n).1 (g 1) = v n from congrArg v hg] at r1
  have hs := r1.1
  have := l_M_gone (x := x) (l2 := l2) (l3 := l3) h hN hi hg hQ 4 0 rfl
  have e : g_anyK g 0 = decide (¬ g 9 = 0) := by
    show (decide (¬ g 9 = 0) || false) = _
    rw [Bool.or_false]
  rw [e] at this
  simp only [pb_b_M_gone_93, pb_b_M_gone_106, pb_b_M_gone_107, pb_iconst, pb_null, pb_iload, pb_aload, pb_istore, pb_astore, pb_iinc, pb_bin, pb_bin0, pb_dup, pb_pop, pb_dup2, pb_if, pb_icmp, pb_ifnull, pb_getI, pb_getR, pb_putI, pb_putZ, pb_putR, pb_alen, pb_ald, pb_aldR, pb_ast, pb_astZ, pb_astR, pb_vret, pb_iret, pb_zret, pb_aret, pb_cv, pb_cr, pb_sr, pb_switch, pb_sw, pb_nth, pb_set, pb_tk, pb_add, pb_sub, List.length_cons, List.length_nil, true_or, or_true, true_and, and_true, and_self, pb_up_same, pb_up_f, ne_eq, Nat.reduceEqDiff, not_false_eq_true, Nat.reduceAdd, Nat.reduceLeDiff, Nat.zero_le, is_M, mf_caller h.1, mk_caller, ml_caller, hs, r1.2.2.1]
  refine ⟨fun z => ?_, fun z => ?_⟩
  · rw [decide_eq_false (fun y => y (g_cc_0.mp z)), if_neg (by decide)] at this
    exact this
  · rw [decide_eq_true (show ¬ g 9 = 0 from fun y => z (g_cc_0.mpr y)), if_pos rfl] at this
    exact this
/-- the caller goes -/
theorem c_M_goneC (h : RM σ T E (v, fun _ => False) ν) (hN : g_num E.2.2) (hi : E.2.2[i]? = some f) (ha : g_alive f = true) (h5 : 0 ≤ f 5 ∧ f 5 < 2) (h10 : 0 ≤ f 10 ∧ f 10 < 2) (hQ : ∀ σ', RM σ' T (ge_callerGone E i) (v, fun _ => False) ν → (g_alive (g_gE (c_up f 9 0)) = true ∨ σ' 0 199 (v (f 1)) = 0) → Q (.inl 0) σ') : pb_MJ x i_M_gone [.inr 165, .inl (v (f 1)), .inl (-1)] 213 σ Q := by
  have h1 : RM σ T E (v, fun n => n = f 1) ν := rm_hold h hN hi ha (fun _ y => y)
  have r1 : (0 ≤ v (f 1) ∧ v (f 1) < 4) ∧ rm_1 σ (v (f 1)) f := r_1 h1 hi (Or.inr rfl)
  have hs := r1.1
  have h2 := rm_upCa (v := 0) (u := 0) h1 hN hi rfl rfl
  have hN2 : g_num (ge_cset E i (c_up f 9 0)).2.2 := hN.set hi rfl
  unfold ge_callerGone at hQ
  rw [hi] at hQ
  dsimp only at hQ
  refine pb_m_M_gone ?_
  simp only [pb_b_M_gone_0, pb_b_M_gone_18, pb_b_M_gone_44, pb_b_M_gone_53, pb_iconst, pb_null, pb_iload, pb_aload, pb_istore, pb_astore, pb_iinc, pb_bin, pb_bin0, pb_dup, pb_pop, pb_dup2, pb_if, pb_icmp, pb_ifnull, pb_getI, pb_getR, pb_putI, pb_putZ, pb_putR, pb_alen, pb_ald, pb_aldR, pb_ast, pb_astZ, pb_astR, pb_vret, pb_iret, pb_zret, pb_aret, pb_cv, pb_cr, pb_sr, pb_switch, pb_sw, pb_nth, pb_set, pb_tk, pb_add, pb_sub, List.length_cons, List.length_nil, true_or, or_true, true_and, and_true, and_self, pb_up_same, pb_up_f, ne_eq, Nat.reduceEqDiff, not_false_eq_true, Nat.reduceAdd, Nat.reduceLeDiff, Nat.zero_le, is_M, mf_caller h.1, mk_caller, ml_caller, hs]
  refine ⟨fun z => absurd z (by decide), fun _ => ⟨fun z => absurd z (by decide), fun _ => ⟨fun _ => ?_, fun z => absurd (by decide) z⟩⟩⟩
  refine c_M_ends (i := i) (f := c_up f 9 0) (v := 6) h2 hN2 (cs_at hi) rfl h5 h10 (fun σ1 h3 => ?_)
  exact l_M_gone93 h3 (ge_end_num (cs_at hi) hN2) (ge_end_at (cs_at hi)) (g_gE_k (by decide) (by decide) (by decide)) hQ
/-- one of the called goes -/
theorem c_M_goneD {a : Int} (h : RM σ T E (v, fun _ => False) ν) (hN : g_num E.2.2) (hi : E.2.2[i]? = some f) (ha : g_alive f = true) (h5 : 0 ≤ f 5 ∧ f 5 < 2) (h10 : 0 ≤ f 10 ∧ f 10 < 2) (h64 : 64 ≤ a ∧ a < 68) (hQ : ∀ σ', RM σ' T (ge_calledGone E i a) (v, fun _ => False) ν → Q (.inl 0) σ') : pb_MJ x i_M_gone [.inr 165, .inl (v (f 1)), .inl (a - 64)] 213 σ Q := by
  have h1 : RM σ T E (v, fun n => n = f 1) ν := rm_hold h hN hi ha (fun _ y => y)
  have r1 : (0 ≤ v (f 1) ∧ v (f 1) < 4) ∧ rm_1 σ (v (f 1)) f := r_1 h1 hi (Or.inr rfl)
  have hs := r1.1
  obtain ⟨J, hJ⟩ : ∃ J : Nat, a - 64 = J := ⟨(a - 64).toNat, by omega⟩
  have hJ4 : J < 4 := by omega
  have h2 := rm_upLeg (v := 0) (u := 0) (j := J) h1 hN hi rfl hJ4 rfl
  have e1 : pb_mul 4 (v (f 1)) = 4 * v (f 1) := by unfold pb_mul; exact pb_w_id (by unfold pb_R; omega)
  have e2 : pb_w (4 * v (f 1) + (J : Int)) = 4 * v (f 1) + J := pb_w_id (by unfold pb_R; omega)
  have hx : 0 ≤ 4 * v (f 1) + (J : Int) ∧ 4 * v (f 1) + (J : Int) < 16 := by omega
  have al := r1.2.2.2.2.2.2.2.2.2.2.2.2.2 J hJ4
  have ap := r1.2.2.2.2.2.2.2.2.2.1
  have eT : (a - 64).toNat = J := by omega
  have eL : g_leg f a = f (20 + J) := by unfold g_leg; rw [if_pos h64, eT]
  have eS : g_setLeg f a 0 = c_up f (20 + J) 0 := by unfold g_setLeg; rw [if_pos h64, eT]
  have hc : ∀ k, k < 20 → c_up f (20 + J) 0 k = f k := fun k hk => c_up_n (by omega)
  have hN2 : g_num (ge_cset E i (c_up f (20 + J) 0)).2.2 := hN.set hi (hc 1 (by decide))
  have hh2 : (v, fun m => m = f 1).2 (c_up f (20 + J) 0 1) := hc 1 (by decide)
  unfold ge_calledGone at hQ
  rw [hi] at hQ
  dsimp only at hQ
  rw [eL, eS] at hQ
  have en : ∀ (σ1 : pb_H) (c : Int) (l2 l3 : pb_V) (o4 o5 : Option pb_V), RM σ1 T (ge_cset E i (c_up f (20 + J) 0)) (v, fun m => m = f 1) ν → (∀ σ', RM σ' T (ge_end (ge_cset E i (c_up f (20 + J) 0)) i c) (v, fun _ => False) ν → Q (.inl 0) σ') → pb_MJ x i_M_ends [.inr 165, .inl (v (f 1)), .inl c] 213 σ1 (fun _ σ' => pb_b_M_gone_93 x 213 Q [some (.inr 165), some (.inl (v (f 1))), some l2, some l3, o4, o5] [] 213 σ') := by
    intro σ1 c l2 l3 o4 o5 y1 y2
    have := c_M_ends (x := x) (i := i) (f := c_up f (20 + J) 0) (v := c) (Q := fun _ σ' => pb_b_M_gone_93 x 213 Q [some (.inr 165), some (.inl (v (f 1))), some l2, some l3, o4, o5] [] 213 σ') y1 hN2 (cs_at hi) hh2 (by rw [hc 5 (by decide)]; exact h5) (by rw [hc 10 (by decide)]; exact h10) (fun σ2 h3 => l_M_gone93 h3 (ge_end_num (cs_at hi) hN2) (ge_end_at (cs_at hi)) ((g_gE_k (by decide) (by decide) (by decide)).trans (hc 1 (by decide))) (fun σ' q _ => y2 σ' q))
    rw [hc 1 (by decide)] at this
    exact this
  rw [hJ]
  refine pb_m_M_gone ?_
  simp only [pb_b_M_gone_0, pb_b_M_gone_8, pb_b_M_gone_18, pb_b_M_gone_33, pb_b_M_gone_44, pb_b_M_gone_53, pb_b_M_gone_63, pb_iconst, pb_null, pb_iload, pb_aload, pb_istore, pb_astore, pb_iinc, pb_bin, pb_bin0, pb_dup, pb_pop, pb_dup2, pb_if, pb_icmp, pb_ifnull, pb_getI, pb_getR, pb_putI, pb_putZ, pb_putR, pb_alen, pb_ald, pb_aldR, pb_ast, pb_astZ, pb_astR, pb_vret, pb_iret, pb_zret, pb_aret, pb_cv, pb_cr, pb_sr, pb_switch, pb_sw, pb_nth, pb_set, pb_tk, pb_add, pb_sub, List.length_cons, List.length_nil, true_or, or_true, true_and, and_true, and_self, pb_up_same, pb_up_f, ne_eq, Nat.reduceEqDiff, not_false_eq_true, Nat.reduceAdd, Nat.reduceLeDiff, Nat.zero_le, is_M, mf_leg h.1, mk_leg, ml_leg, mf_phase h.1, mk_phase, ml_phase, al, ap, e1, e2, hx, hs, pb_up_p, Int.reduceEq]
  refine ⟨fun _ => ⟨fun _ => ⟨fun z => absurd z (by omega), fun _ => ⟨fun z => ⟨fun z2 => ?_, fun z2 => ⟨fun z3 => ?_, fun z3 => ?_⟩⟩, fun z => ?_⟩⟩, fun z => absurd (by omega) z⟩, fun z => absurd (by omega) z⟩
  · rw [if_neg (fun y => z (g_lc_2.mpr y)), if_neg (fun y => z2 (g_lc_1.mpr y.1))] at hQ
    exact l_M_gone93 h2 hN2 (cs_at hi) (hc 1 (by decide)) (fun σ' y _ => hQ σ' y)
  · rw [if_neg (fun y => z (g_lc_2.mpr y)), if_neg (fun y => z3 y.2.1)] at hQ
    exact l_M_gone93 h2 hN2 (cs_at hi) (hc 1 (by decide)) (fun σ' y _ => hQ σ' y)
  · rw [if_neg (fun y => z (g_lc_2.mpr y))] at hQ
    refine c_M_ringing_s (i := i) (f := c_up f (20 + J) 0) (congrArg v (hc 1 (by decide))) h2 (cs_at hi) (Or.inr hh2) (fun r hr => ?_)
    simp only [pb_iconst, pb_null, pb_iload, pb_aload, pb_istore, pb_astore, pb_iinc, pb_bin, pb_bin0, pb_dup, pb_pop, pb_dup2, pb_if, pb_icmp, pb_ifnull, pb_getI, pb_getR, pb_putI, pb_putZ, pb_putR, pb_alen, pb_ald, pb_aldR, pb_ast, pb_astZ, pb_astR, pb_vret, pb_iret, pb_zret, pb_aret, pb_cv, pb_cr, pb_sr, pb_switch, pb_sw, pb_nth, pb_set, pb_tk, pb_add, pb_sub, List.length_cons, List.length_nil, true_or, or_true, true_and, and_true, and_self, pb_up_same, pb_up_f, ne_eq, Nat.reduceEqDiff, not_false_eq_true, Nat.reduceAdd, Nat.reduceLeDiff, Nat.zero_le]
    refine ⟨fun z4 => ?_, fun z4 => ?_⟩
    · rw [if_neg (fun y => z4 (hr.mpr y.2.2))] at hQ
      exact l_M_gone93 h2 hN2 (cs_at hi) (hc 1 (by decide)) (fun σ' y _ => hQ σ' y)
    · rw [if_pos ⟨g_lc_1.mp (Decidable.not_not.mp z2), Decidable.not_not.mp z3, hr.mp (Decidable.not_not.mp z4)⟩] at hQ
      exact en _ 7 _ _ _ _ h2 hQ
  · rw [if_pos (g_lc_2.mp (Decidable.not_not.mp z))] at hQ
    exact en _ 6 _ _ _ _ h2 hQ
end MGO
