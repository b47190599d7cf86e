/-! a phone rings, one answers -/
theorem g_alive_leg {f : gC} {a : Int} (h : ¬ g_leg f a = 0) : g_alive f = true := Decidable.byContradiction (fun y => h ((g_dead y).2 a))
section MAC
variable {x : pb_E} {σ σ' : pb_H} {T : gT} {E : gE} {w : gW} {ν : pb_H} {b a s t u r : Int} {Q : pb_P} {i : Nat} {f f' g : gC} {n ch : Int} {v : Int → Int}
theorem rm_upPh_s {y z : Int} (h : RM σ T E w ν) (hN : g_num E.2.2) (hi : E.2.2[i]? = some f) (hh : w.2 (f 1)) (hv : y = z) (es : w.1 (f 1) = s) : RM (pb_up σ 0 207 s y) T (ge_cset E i (c_up f 2 z)) w ν := by
  subst es
  exact rm_upPh h hN hi hh hv
theorem rm_upCk_s {y z : Int} (h : RM σ T E w ν) (hN : g_num E.2.2) (hi : E.2.2[i]? = some f) (hh : w.2 (f 1)) (hv : y = z) (es : w.1 (f 1) = s) : RM (pb_up σ 0 208 s y) T (ge_cset E i (c_up f 3 z)) w ν := by
  subst es
  exact rm_upCk h hN hi hh hv
theorem rm_upAg_s {y z : Int} (h : RM σ T E w ν) (hN : g_num E.2.2) (hi : E.2.2[i]? = some f) (hh : w.2 (f 1)) (hv : y = z) (es : w.1 (f 1) = s) : RM (pb_up σ 0 209 s y) T (ge_cset E i (c_up f 4 z)) w ν := by
  subst es
  exact rm_upAg h hN hi hh hv
theorem rm_upCa_s {y z : Int} (h : RM σ T E w ν) (hN : g_num E.2.2) (hi : E.2.2[i]? = some f) (hh : w.2 (f 1)) (hv : y = g_cc z) (es : w.1 (f 1) = s) : RM (pb_up σ 0 200 s y) T (ge_cset E i (c_up f 9 z)) w ν := by
  subst es
  exact rm_upCa h hN hi hh hv
theorem rm_upWi_s {y z : Int} (h : RM σ T E w ν) (hN : g_num E.2.2) (hi : E.2.2[i]? = some f) (hh : w.2 (f 1)) (hv : y = g_wc z) (hwn : y < 4) (es : w.1 (f 1) = s) : RM (pb_up σ 0 210 s y) T (ge_cset E i (c_up f 12 z)) w ν := by
  subst es
  exact rm_upWi h hN hi hh hv hwn
def ge_al (E : gE) (i : Nat) (f : gC) (a : Int) : gE := if g_leg f a = 0 then (if f 2 = 1 then ge_put (ge_cset (ge_cset (ge_cset E i (g_setLeg f a 2)) i (c_up (g_setLeg f a 2) 2 2)) i (c_up (c_up (g_setLeg f a 2) 2 2) 3 40)) (f 5) (2, f 6, f 7, 0, 0) else ge_cset E i (g_setLeg f a 2)) else E
theorem c_M_alerts (h : RM σ T E (v, fun _ => False) ν) (hN : g_num E.2.2) (hi : E.2.2[i]? = some f) (hal : g_alive f = true) (h5 : 0 ≤ f 5 ∧ f 5 < 2) (h64 : 64 ≤ a ∧ a < 68) (hQ : ∀ σ', RM σ' T (ge_al E i f a) (v, fun _ => False) ν → Q (.inl 0) σ') : pb_MJ x i_M_alerts [.inr 165, .inl (v (f 1)), .inl a] 213 σ Q := by
  have h1 : RM σ T E (v, fun n => n = f 1) ν := rm_hold h hN hi hal (fun _ y => y)
  have r1 : (0 ≤ v (f 1) ∧ v (f 1) < 4) ∧ rm_1 σ (v (f 1)) f := r_1 h1 hi (Or.inr rfl)
  have hs := r1.1
  obtain ⟨J, hJ⟩ : ∃ J : Nat, a - 64 = J := ⟨(a - 64).toNat, by omega⟩
  have hJ4 : J < 4 := by omega
  have h2 := rm_upLeg (v := 1) (u := 2) (j := J) h1 hN hi rfl hJ4 rfl
  have e1 : pb_mul 4 (v (f 1)) = 4 * v (f 1) := by unfold pb_mul; exact pb_w_id (by unfold pb_R; omega)
  have e2 : pb_w (4 * v (f 1) + a) = 4 * v (f 1) + a := pb_w_id (by unfold pb_R; omega)
  have e3 : pb_w (4 * v (f 1) + a - 64) = 4 * v (f 1) + J := by rw [pb_w_id (by unfold pb_R; omega)]; omega
  have hx : 0 ≤ 4 * v (f 1) + (J : Int) ∧ 4 * v (f 1) + (J : Int) < 16 := by omega
  have al := r1.2.2.2.2.2.2.2.2.2.2.2.2.2 J hJ4
  have ap := r1.2.2.2.2.2.2.2.2.2.1
  have eT : (a - 64).toNat = J := by omega
  have eL : g_leg f a = f (20 + J) := by unfold g_leg; rw [if_pos h64, eT]
  have eS : g_setLeg f a 2 = c_up f (20 + J) 2 := by unfold g_setLeg; rw [if_pos h64, eT]
  have hc : ∀ k, k < 20 → c_up f (20 + J) 2 k = f k := fun k hk => c_up_n (by omega)
  have hN2 : g_num (ge_cset E i (c_up f (20 + J) 2)).2.2 := hN.set hi (hc 1 (by decide))
  have hlv : ∀ g : gC, g (20 + J) = 2 → g_alive g = true := fun g y => g_alive_leg (a := a) (by unfold g_leg; rw [if_pos h64, eT, y]; decide)
  unfold ge_al at hQ
  rw [eL, eS] at hQ
  refine pb_m_M_alerts ?_
  simp only [pb_b_M_alerts_0, pb_b_M_alerts_17, pb_b_M_alerts_80, pb_iconst, pb_null, pb_iload, pb_aload, pb_istore, pb_astore, pb_iinc, pb_bin, pb_bin0, pb_dup, pb_pop, pb_dup2, pb_if, pb_icmp, pb_ifnull, pb_getI, pb_getR, pb_putI, pb_putZ, pb_putR, pb_alen, pb_ald, pb_aldR, pb_ast, pb_astZ, pb_astR, pb_vret, pb_iret, pb_zret, pb_aret, pb_cv, pb_cr, pb_sr, pb_switch, pb_sw, pb_nth, pb_set, pb_tk, pb_add, pb_sub, List.length_cons, List.length_nil, true_or, or_true, true_and, and_true, and_self, pb_up_same, pb_up_f, ne_eq, Nat.reduceEqDiff, not_false_eq_true, Nat.reduceAdd, Nat.reduceLeDiff, Nat.zero_le, is_M, mf_leg h.1, mk_leg, ml_leg, mf_phase h.1, mk_phase, ml_phase, mf_clock h.1, mk_clock, ml_clock, mf_callerBus h.1, mk_callerBus, ml_callerBus, mf_callerAddress h.1, mk_callerAddress, ml_callerAddress, mf_callerReference h.1, mk_callerReference, ml_callerReference, e1, e2, e3, hx, hs, al, ap, r1.2.2.2.1, r1.2.2.2.2.1, r1.2.2.2.2.2.1, pb_up_p, Int.reduceEq]
  refine ⟨fun z => ?_, fun z => ?_⟩
  · rw [if_pos (g_lc_0.mp z)] at hQ
    refine ⟨fun z2 => ?_, fun z2 => ?_⟩
    · rw [if_neg z2] at hQ
      exact hQ _ (rm_free h2 hN2 (cs_at hi) (hc 1 (by decide)) (hlv _ (if_pos rfl)))
    · rw [if_pos (Decidable.not_not.mp z2)] at hQ
      have h3 := rm_upPh_s (i := i) (f := c_up f (20 + J) 2) (y := 2) (z := 2) h2 hN2 (cs_at hi) (hc 1 (by decide)) rfl (congrArg v (hc 1 (by decide)))
      have hN3 : g_num (ge_cset (ge_cset E i (c_up f (20 + J) 2)) i (c_up (c_up f (20 + J) 2) 2 2)).2.2 := hN2.set (cs_at hi) rfl
      have h4 := rm_upCk_s (i := i) (f := c_up (c_up f (20 + J) 2) 2 2) (y := 40) (z := 40) h3 hN3 (cs_at (cs_at hi)) (hc 1 (by decide)) rfl (congrArg v (hc 1 (by decide)))
      have hN4 := hN3.set (cs_at (E := ge_cset E i (c_up f (20 + J) 2)) (cs_at hi)) (f' := c_up (c_up (c_up f (20 + J) 2) 2 2) 3 40) rfl
      refine c_M_down (rm_free h4 hN4 (cs_at (E := ge_cset (ge_cset E i (c_up f (20 + J) 2)) i (c_up (c_up f (20 + J) 2) 2 2)) (cs_at (cs_at hi))) (hc 1 (by decide)) (hlv _ ?_)) h5 hQ
      show c_up (c_up (c_up f (20 + J) 2) 2 2) 3 40 (20 + J) = 2
      rw [c_up_n (by omega), c_up_n (by omega)]
      exact if_pos rfl
  · rw [if_neg (fun y => z (g_lc_0.mpr y))] at hQ
    exact hQ _ h
def g_cK (f : gC) (k : Nat) : gC := fun k' => if (20 ≤ k' ∧ k' < 20 + k) ∧ f k' = 2 then 4 else f k'
theorem ge_connK_c (hi : E.2.2[i]? = some f) : ∀ k : Nat, (ge_connK b r i E k).2.2 = E.2.2.set i (g_cK f k) := by
  intro k
  have hi2 := List.getElem?_eq_some_iff.mp hi
  induction k with
  | zero =>
    show E.2.2 = E.2.2.set i (g_cK f 0)
    have e : g_cK f 0 = f := by
      funext k'
      exact if_neg (by omega)
    rw [e, g_set_same hi]
  | succ k ih =>
    have hk : (ge_connK b r i E k).2.2[i]? = some (g_cK f k) := by
      rw [ih, List.getElem?_set, if_pos rfl, if_pos hi2.1]
    show (ge_conn1 b r i (ge_connK b r i E k) k).2.2 = _
    unfold ge_conn1
    rw [hk]
    dsimp only
    have e0 : g_cK f k (20 + k) = f (20 + k) := if_neg (by omega)
    rw [e0]
    by_cases z : f (20 + k) = 2
    · rw [if_pos z]
      show (ge_connK b r i E k).2.2.set i (c_up (g_cK f k) (20 + k) 4) = _
      rw [ih, List.set_set]
      congr 1
      funext k'
      unfold c_up g_cK
      by_cases z2 : k' = 20 + k
      · subst z2
        rw [if_pos rfl, if_pos ⟨by omega, z⟩]
      · rw [if_neg z2]
        by_cases z3 : (20 ≤ k' ∧ k' < 20 + k) ∧ f k' = 2
        · rw [if_pos z3, if_pos ⟨by omega, z3.2⟩]
        · rw [if_neg z3, if_neg (fun y => z3 ⟨by omega, y.2⟩)]
    · rw [if_neg z, ih]
      congr 1
      funext k'
      unfold g_cK
      by_cases z3 : (20 ≤ k' ∧ k' < 20 + k) ∧ f k' = 2
      · rw [if_pos z3, if_pos ⟨by omega, z3.2⟩]
      · rw [if_neg z3, if_neg (fun y => ?_)]
        by_cases z2 : k' = 20 + k
        · subst z2
          exact z y.2
        · exact z3 ⟨by omega, y.2⟩
theorem l_M_connects {l2 l3 : pb_V} (hh : w.2 n) (hb : 0 ≤ b ∧ b < 2) (hr : pb_mul 2 n = r) (hQ : ∀ σ', RM σ' T (ge_connK b r i E 4) w ν → Q (.inl 0) σ') : ∀ (d k : Nat), k + d = 4 → ∀ (σ : pb_H) (g : gC), RM σ T (ge_connK b r i E k) w ν → (ge_connK b r i E k).2.2[i]? = some g → g 1 = n → g 10 = b → g_num (ge_connK b r i E k).2.2 → pb_WJ x i_M_connects 213 Q 77 [some (.inr 165), some (.inl (w.1 n)), some l2, some l3, some (.inl k)] [] 213 σ := by
  intro d
  induction d with
  | zero =>
    intro k hk σ g h hi e1 e2 hN
    obtain rfl : k = 4 := by omega
    refine pb_s_M_connects_77 x 213 Q _ _ _ _ ?_
    simp only [pb_b_M_connects_77, pb_b_M_connects_112, pb_iconst, pb_null, pb_iload, pb_aload, pb_istore, pb_astore, pb_iinc, pb_bin, pb_bin0, pb_dup, pb_pop, pb_dup2, pb_if, pb_icmp, pb_ifnull, pb_getI, pb_getR, pb_putI, pb_putZ, pb_putR, pb_alen, pb_ald, pb_aldR, pb_ast, pb_astZ, pb_astR, pb_vret, pb_iret, pb_zret, pb_aret, pb_cv, pb_cr, pb_sr, pb_switch, pb_sw, pb_nth, pb_set, pb_tk, pb_add, pb_sub, List.length_cons, List.length_nil, true_or, or_true, true_and, and_true, and_self, pb_up_same, pb_up_f, ne_eq, Nat.reduceEqDiff, not_false_eq_true, Nat.reduceAdd, Nat.reduceLeDiff, Nat.zero_le]
    exact ⟨fun _ => hQ _ h, fun z => absurd z (by omega)⟩
  | succ d ih =>
    intro k hk σ g h hi e1 e2 hN
    have e : pb_w ((k : Int) + 1) = ((k + 1 : Nat) : Int) := by rw [pb_w_id (by unfold pb_R; omega)]; omega
    have hg : w.2 (g 1) := by rw [e1]; exact hh
    have r1 := r_1 h hi (Or.inr hg)
    rw [e1] at r1
    have hs := r1.1
    have e3 : pb_mul 4 (w.1 n) = 4 * w.1 n := by unfold pb_mul; exact pb_w_id (by unfold pb_R; omega)
    have e4 : pb_w (4 * w.1 n + (k : Int)) = 4 * w.1 n + k := pb_w_id (by unfold pb_R; omega)
    have hx : 0 ≤ 4 * w.1 n + (k : Int) ∧ 4 * w.1 n + (k : Int) < 16 := by omega
    have al := r1.2.2.2.2.2.2.2.2.2.2.2.2.2 k (by omega)
    have es : ge_connK b r i E (k + 1) = if g (20 + k) = 2 then ge_put (ge_cset (ge_connK b r i E k) i (c_up g (20 + k) 4)) b (5, 64 + k, r, 5, 0) else ge_connK b r i E k := by
      show ge_conn1 b r i (ge_connK b r i E k) k = _
      unfold ge_conn1
      rw [hi]
    refine pb_s_M_connects_77 x 213 Q _ _ _ _ ?_
    simp only [pb_b_M_connects_77, pb_b_M_connects_106, pb_iconst, pb_null, pb_iload, pb_aload, pb_istore, pb_astore, pb_iinc, pb_bin, pb_bin0, pb_dup, pb_pop, pb_dup2, pb_if, pb_icmp, pb_ifnull, pb_getI, pb_getR, pb_putI, pb_putZ, pb_putR, pb_alen, pb_ald, pb_aldR, pb_ast, pb_astZ, pb_astR, pb_vret, pb_iret, pb_zret, pb_aret, pb_cv, pb_cr, pb_sr, pb_switch, pb_sw, pb_nth, pb_set, pb_tk, pb_add, pb_sub, List.length_cons, List.length_nil, true_or, or_true, true_and, and_true, and_self, pb_up_same, pb_up_f, ne_eq, Nat.reduceEqDiff, not_false_eq_true, Nat.reduceAdd, Nat.reduceLeDiff, Nat.zero_le, is_M, mf_leg h.1, mk_leg, ml_leg, al, hx, e, e3, e4]
    refine ⟨fun z => absurd z (by omega), fun _ => ⟨fun z => ?_, fun z => ?_⟩⟩
    · rw [if_neg (fun y => z (g_lc_1.mpr y))] at es
      exact ih (k + 1) (by omega) σ g (by rw [es]; exact h) (by rw [es]; exact hi) e1 e2 (by rw [es]; exact hN)
    · rw [if_pos (g_lc_1.mp (Decidable.not_not.mp z))] at es
      have := c_M_leave (x := x) (v := 5) (k := k) (Q := fun _ σ' => pb_WJ x i_M_connects 213 Q 77 [some (.inr 165), some (.inl (w.1 n)), some l2, some l3, some (.inl ((k + 1 : Nat) : Int))] [] 213 σ') h hN hi hg (by rw [e2]; exact hb) (by omega) (fun σ1 h1 => ?_)
      · rw [e1] at this
        exact this
      · rw [e1, e2, hr, ← es] at h1
        refine ih (k + 1) (by omega) σ1 (c_up g (20 + k) 4) h1 ?_ ((c_up_n (by omega)).trans e1) ((c_up_n (by omega)).trans e2) ?_
        · rw [es]
          exact cs_at hi
        · rw [es]
          exact hN.set hi (c_up_n (by omega))
def ge_cn (E : gE) (b a r : Int) (i : Nat) (f : gC) : gE := ge_connK b r i (ge_put (ge_put (ge_cset (ge_cset (ge_cset E i (g_setLeg f a 3)) i (c_up (g_setLeg f a 3) 12 a)) i (c_up (c_up (g_setLeg f a 3) 12 a) 2 3)) b (4, a, r, f 11, 0)) (f 5) (3, f 6, f 7, 0, 0)) 4
theorem c_M_connects (h : RM σ T E (v, fun _ => False) ν) (hN : g_num E.2.2) (hi : E.2.2[i]? = some f) (hal : g_alive f = true) (h5 : 0 ≤ f 5 ∧ f 5 < 2) (hb : 0 ≤ b ∧ b < 2) (h10 : f 10 = b) (hr : pb_mul 2 (f 1) = r) (h64 : 64 ≤ a ∧ a < 68) (hQ : ∀ σ', RM σ' T (ge_cn E b a r i f) (v, fun _ => False) ν → Q (.inl 0) σ') : pb_MJ x i_M_connects [.inr 165, .inl (v (f 1)), .inl a, .inl r] 213 σ Q := by
  have h1 : RM σ T E (v, fun n => n = f 1) ν := rm_hold h hN hi hal (fun _ y => y)
  have r1 : (0 ≤ v (f 1) ∧ v (f 1) < 4) ∧ rm_1 σ (v (f 1)) f := r_1 h1 hi (Or.inr rfl)
  have hs := r1.1
  obtain ⟨J, hJ⟩ : ∃ J : Nat, a - 64 = J := ⟨(a - 64).toNat, by omega⟩
  have hJ4 : J < 4 := by omega
  have h2 := rm_upLeg (v := 2) (u := 3) (j := J) h1 hN hi rfl hJ4 rfl
  have e1 : pb_mul 4 (v (f 1)) = 4 * v (f 1) := by unfold pb_mul; exact pb_w_id (by unfold pb_R; omega)
  have e2 : pb_w (4 * v (f 1) + a) = 4 * v (f 1) + a := pb_w_id (by unfold pb_R; omega)
  have e3 : pb_w (4 * v (f 1) + a - 64) = 4 * v (f 1) + J := by rw [pb_w_id (by unfold pb_R; omega)]; omega
  have e5 : pb_w (a - 64) = a - 64 := pb_w_id (by unfold pb_R; omega)
  have hx : 0 ≤ 4 * v (f 1) + (J : Int) ∧ 4 * v (f 1) + (J : Int) < 16 := by omega
  have eT : (a - 64).toNat = J := by omega
  have eS : g_setLeg f a 3 = c_up f (20 + J) 3 := by unfold g_setLeg; rw [if_pos h64, eT]
  have hc : ∀ k, k < 20 → c_up f (20 + J) 3 k = f k := fun k hk => c_up_n (by omega)
  have hi2 : (ge_cset E i (c_up f (20 + J) 3)).2.2[i]? = some (c_up f (20 + J) 3) := cs_at hi
  have hN2 : g_num (ge_cset E i (c_up f (20 + J) 3)).2.2 := hN.set hi (hc 1 (by decide))
  have h3 := rm_upWi_s (i := i) (f := c_up f (20 + J) 3) (y := a - 64) (z := a) h2 hN2 hi2 (hc 1 (by decide)) (by unfold g_wc; rw [if_neg (by omega)]) (by omega) (congrArg v (hc 1 (by decide)))
  have hi3 := cs_at (g := c_up (c_up f (20 + J) 3) 12 a) hi2
  have hN3 := hN2.set hi2 (f' := c_up (c_up f (20 + J) 3) 12 a) rfl
  have h4 := rm_upPh_s (i := i) (f := c_up (c_up f (20 + J) 3) 12 a) (y := 3) (z := 3) h3 hN3 hi3 (hc 1 (by decide)) rfl (congrArg v (hc 1 (by decide)))
  have hi4 := cs_at (g := c_up (c_up (c_up f (20 + J) 3) 12 a) 2 3) hi3
  have hN4 := hN3.set hi3 (f' := c_up (c_up (c_up f (20 + J) 3) 12 a) 2 3) rfl
  unfold ge_cn at hQ
  rw [eS] at hQ
  refine pb_m_M_connects ?_
  simp only [pb_b_M_connects_0, pb_iconst, pb_null, pb_iload, pb_aload, pb_istore, pb_astore, pb_iinc, pb_bin, pb_bin0, pb_dup, pb_pop, pb_dup2, pb_if, pb_icmp, pb_ifnull, pb_getI, pb_getR, pb_putI, pb_putZ, pb_putR, pb_alen, pb_ald, pb_aldR, pb_ast, pb_astZ, pb_astR, pb_vret, pb_iret, pb_zret, pb_aret, pb_cv, pb_cr, pb_sr, pb_switch, pb_sw, pb_nth, pb_set, pb_tk, pb_add, pb_sub, List.length_cons, List.length_nil, true_or, or_true, true_and, and_true, and_self, pb_up_same, pb_up_f, ne_eq, Nat.reduceEqDiff, not_false_eq_true, Nat.reduceAdd, Nat.reduceLeDiff, Nat.zero_le, is_M, mf_leg h.1, mk_leg, ml_leg, mf_winner h.1, mk_winner, ml_winner, mf_phase h.1, mk_phase, ml_phase, mf_calledBus h.1, mk_calledBus, ml_calledBus, mf_calledChannel h.1, mk_calledChannel, ml_calledChannel, mf_callerBus h.1, mk_callerBus, ml_callerBus, mf_callerAddress h.1, mk_callerAddress, ml_callerAddress, mf_callerReference h.1, mk_callerReference, ml_callerReference, e1, e2, e3, e5, hx, hs, r1.2.2.2.2.2.2.2.1, r1.2.2.2.2.2.2.2.2.1, pb_up_p, Int.reduceEq]
  rw [h10]
  refine c_M_down h4 hb (fun σ1 h6 => ?_)
  have r6 : (0 ≤ v (f 1) ∧ v (f 1) < 4) ∧ rm_1 σ1 (v (f 1)) (c_up (c_up (c_up f (20 + J) 3) 12 a) 2 3) := by
    have := r_1 h6 hi4 (Or.inr (hc 1 (by decide)))
    rw [show (v, fun n => n = f 1).1 (c_up (c_up (c_up f (20 + J) 3) 12 a) 2 3 1) = v (f 1) from congrArg v (hc 1 (by decide))] at this
    exact this
  have q5 : c_up (c_up (c_up f (20 + J) 3) 12 a) 2 3 5 = f 5 := hc 5 (by decide)
  have q6 : c_up (c_up (c_up f (20 + J) 3) 12 a) 2 3 6 = f 6 := hc 6 (by decide)
  have q7 : c_up (c_up (c_up f (20 + J) 3) 12 a) 2 3 7 = f 7 := hc 7 (by decide)
  try simp only [pb_iconst, pb_null, pb_iload, pb_aload, pb_istore, pb_astore, pb_iinc, pb_bin, pb_bin0, pb_dup, pb_pop, pb_dup2, pb_if, pb_icmp, pb_ifnull, pb_getI, pb_getR, pb_putI, pb_putZ, pb_putR, pb_alen, pb_ald, pb_aldR, pb_ast, pb_astZ, pb_astR, pb_vret, pb_iret, pb_zret, pb_aret, pb_cv, pb_cr, pb_sr, pb_switch, pb_sw, pb_nth, pb_set, pb_tk, pb_add, pb_sub, List.length_cons, List.length_nil, true_or, or_true, true_and, and_true, and_self, pb_up_same, pb_up_f, ne_eq, Nat.reduceEqDiff, not_false_eq_true, Nat.reduceAdd, Nat.reduceLeDiff, Nat.zero_le, is_M, mf_callerBus h6.1, mk_callerBus, ml_callerBus, mf_callerAddress h6.1, mk_callerAddress, ml_callerAddress, mf_callerReference h6.1, mk_callerReference, ml_callerReference, hs, r6.2.2.2.1, r6.2.2.2.2.1, r6.2.2.2.2.2.1, q5, q6, q7]
  refine c_M_down h6 h5 (fun σ2 h7 => ?_)
  try simp only [pb_iconst, pb_null, pb_iload, pb_aload, pb_istore, pb_astore, pb_iinc, pb_bin, pb_bin0, pb_dup, pb_pop, pb_dup2, pb_if, pb_icmp, pb_ifnull, pb_getI, pb_getR, pb_putI, pb_putZ, pb_putR, pb_alen, pb_ald, pb_aldR, pb_ast, pb_astZ, pb_astR, pb_vret, pb_iret, pb_zret, pb_aret, pb_cv, pb_cr, pb_sr, pb_switch, pb_sw, pb_nth, pb_set, pb_tk, pb_add, pb_sub, List.length_cons, List.length_nil, true_or, or_true, true_and, and_true, and_self, pb_up_same, pb_up_f, ne_eq, Nat.reduceEqDiff, not_false_eq_true, Nat.reduceAdd, Nat.reduceLeDiff, Nat.zero_le]
  refine l_M_connects (E := ge_put (ge_put (ge_cset (ge_cset (ge_cset E i (c_up f (20 + J) 3)) i (c_up (c_up f (20 + J) 3) 12 a)) i (c_up (c_up (c_up f (20 + J) 3) 12 a) 2 3)) b (4, a, r, f 11, 0)) (f 5) (3, f 6, f 7, 0, 0)) (w := (v, fun n => n = f 1)) (n := f 1) rfl hb hr (fun σ3 h8 => hQ _ ?_) 4 0 rfl σ2 _ h7 hi4 (hc 1 (by decide)) ((hc 10 (by decide)).trans h10) hN4
  have hk := ge_connK_c (b := b) (r := r) (E := ge_put (ge_put (ge_cset (ge_cset (ge_cset E i (c_up f (20 + J) 3)) i (c_up (c_up f (20 + J) 3) 12 a)) i (c_up (c_up (c_up f (20 + J) 3) 12 a) 2 3)) b (4, a, r, f 11, 0)) (f 5) (3, f 6, f 7, 0, 0)) (f := c_up (c_up (c_up f (20 + J) 3) 12 a) 2 3) hi4 4
  have eg : g_cK (c_up (c_up (c_up f (20 + J) 3) 12 a) 2 3) 4 1 = f 1 := (if_neg (by omega)).trans (hc 1 (by decide))
  refine rm_free h8 (by rw [hk]; exact hN4.set hi4 (if_neg (by omega))) (by rw [hk]; exact g_at_set hi4) eg (g_alive_leg (a := a) ?_)
  have e7 : c_up (c_up (c_up f (20 + J) 3) 12 a) 2 3 (20 + J) = 3 := by
    rw [c_up_n (by omega), c_up_n (by omega)]
    exact if_pos rfl
  unfold g_leg g_cK
  rw [if_pos h64, eT, if_neg (by rw [e7]; omega), e7]
  decide
end MAC
