/-! a call ends -/
theorem g_lc_1 {v : Int} : g_lc v = 1 ↔ v = 2 := by
  unfold g_lc
  by_cases z : v = 0
  · rw [if_pos z]; omega
  · rw [if_neg z]
    by_cases z2 : v = 2
    · rw [if_pos z2]; omega
    · rw [if_neg z2]
      by_cases z3 : v = 3
      · rw [if_pos z3]; omega
      · rw [if_neg z3]
        by_cases z4 : v = 4
        · rw [if_pos z4]; omega
        · rw [if_neg z4]; omega
theorem g_lc_2 {v : Int} : g_lc v = 2 ↔ v = 3 := by
  unfold g_lc
  by_cases z : v = 0
  · rw [if_pos z]; omega
  · rw [if_neg z]
    by_cases z2 : v = 2
    · rw [if_pos z2]; omega
    · rw [if_neg z2]
      by_cases z3 : v = 3
      · rw [if_pos z3]; omega
      · rw [if_neg z3]
        by_cases z4 : v = 4
        · rw [if_pos z4]; omega
        · rw [if_neg z4]; omega
theorem g_lc_3 {v : Int} : g_lc v = 3 ↔ v = 4 := by
  unfold g_lc
  by_cases z : v = 0
  · rw [if_pos z]; omega
  · rw [if_neg z]
    by_cases z2 : v = 2
    · rw [if_pos z2]; omega
    · rw [if_neg z2]
      by_cases z3 : v = 3
      · rw [if_pos z3]; omega
      · rw [if_neg z3]
        by_cases z4 : v = 4
        · rw [if_pos z4]; omega
        · rw [if_neg z4]; omega
theorem g_lc_0 {v : Int} : g_lc v = 0 ↔ v = 0 := by
  unfold g_lc
  by_cases z : v = 0
  · rw [if_pos z]; omega
  · rw [if_neg z]
    by_cases z2 : v = 2
    · rw [if_pos z2]; omega
    · rw [if_neg z2]
      by_cases z3 : v = 3
      · rw [if_pos z3]; omega
      · rw [if_neg z3]
        by_cases z4 : v = 4
        · rw [if_pos z4]; omega
        · rw [if_neg z4]; omega
theorem g_cc_1 {v : Int} : g_cc v = 1 ↔ v = 1 := by
  unfold g_cc
  by_cases z : v = 0
  · rw [if_pos z]; omega
  · rw [if_neg z]
    by_cases z2 : v = 1
    · rw [if_pos z2]; omega
    · rw [if_neg z2]
      by_cases z4 : v = 4
      · rw [if_pos z4]; omega
      · rw [if_neg z4]; omega
theorem g_cc_3 {v : Int} : g_cc v = 3 ↔ v = 4 := by
  unfold g_cc
  by_cases z : v = 0
  · rw [if_pos z]; omega
  · rw [if_neg z]
    by_cases z2 : v = 1
    · rw [if_pos z2]; omega
    · rw [if_neg z2]
      by_cases z4 : v = 4
      · rw [if_pos z4]; omega
      · rw [if_neg z4]; omega
theorem g_cc_0 {v : Int} : g_cc v = 0 ↔ v = 0 := by
  unfold g_cc
  by_cases z : v = 0
  · rw [if_pos z]; omega
  · rw [if_neg z]
    by_cases z2 : v = 1
    · rw [if_pos z2]; omega
    · rw [if_neg z2]
      by_cases z4 : v = 4
      · rw [if_pos z4]; omega
      · rw [if_neg z4]; omega
section MGN
variable {x : pb_E} {σ σ' : pb_H} {T : gT} {E : gE} {w : gW} {ν : pb_H} {b s t u : Int} {Q : pb_P} {i : Nat} {f f' : gC}
/-- a call that lives is kept -/
theorem rm_hold (h : RM σ T E w ν) (hN : g_num E.2.2) (hi : E.2.2[i]? = some f) (ha : g_alive f = true) (hw : ∀ n, ¬ w.2 n) : RM σ T E (w.1, fun n => n = f 1) ν := by
  obtain ⟨m1, m2, m3, m4, m5, m6, m7, ⟨c1, c2, c3, c4⟩, m9⟩ := h
  have hh : ∀ g ∈ E.2.2, g_held (w.1, fun n => n = f 1) g → g_held w g := by
    intro g hg z
    rcases z with z | z
    · exact Or.inl z
    · obtain ⟨j, hj⟩ := List.mem_iff_getElem?.mp hg
      have e := hN.eq hj hi z
      subst e
      rw [hi] at hj
      obtain rfl := Option.some.inj hj
      exact Or.inl ha
  have hh2 : ∀ g, g_held w g → g_held (w.1, fun n => n = f 1) g := fun g z => z.elim Or.inl (fun y => absurd y (hw _))
  exact ⟨m1, m2, m3, m4, m5, m6, m7, ⟨fun g hg z => c1 g hg (hh g hg z), fun g hg g2 hg2 z z2 q => c2 g hg g2 hg2 (hh g hg z) (hh g2 hg2 z2) q, fun s q1 q2 q3 => c3 s q1 q2 (fun g hg z => q3 g hg (hh2 g z)), c4⟩, m9⟩
/-- and let go, where it still lives -/
theorem rm_free {n : Int} {v : Int → Int} (h : RM σ T E (v, fun m => m = n) ν) (hN : g_num E.2.2) (hi : E.2.2[i]? = some f) (hf : f 1 = n) (ha : g_alive f = true) : RM σ T E (v, fun _ => False) ν := by
  obtain ⟨m1, m2, m3, m4, m5, m6, m7, ⟨c1, c2, c3, c4⟩, m9⟩ := h
  have hh2 : ∀ g ∈ E.2.2, g_held (v, fun m => m = n) g → g_held (v, fun _ => False) g := by
    intro g hg z
    rcases z with z | z
    · exact Or.inl z
    · obtain ⟨j, hj⟩ := List.mem_iff_getElem?.mp hg
      have e := hN.eq hj hi (Eq.trans z hf.symm)
      subst e
      rw [hi] at hj
      obtain rfl := Option.some.inj hj
      exact Or.inl ha
  have hh : ∀ g, g_held (v, fun _ => False) g → g_held (v, fun m => m = n) g := fun g z => z.elim Or.inl (fun y => absurd y id)
  exact ⟨m1, m2, m3, m4, m5, m6, m7, ⟨fun g hg z => c1 g hg (hh g z), fun g hg g2 hg2 z z2 q => c2 g hg g2 hg2 (hh g z) (hh g2 z2) q, fun s q1 q2 q3 => c3 s q1 q2 (fun g hg z => q3 g hg (hh2 g hg z)), c4⟩, m9⟩
/-- and its slot given back, where nothing of it lives -/
theorem rm_kill {n : Int} {v : Int → Int} (h : RM σ T E (v, fun m => m = n) ν) (hN : g_num E.2.2) (hi : E.2.2[i]? = some f) (hf : f 1 = n) (ha : ¬ g_alive f = true) : RM (pb_up σ 0 199 (v n) 0) T E (v, fun _ => False) ν := by
  obtain ⟨m1, m2, m3, m4, m5, m6, m7, ⟨c1, c2, c3, c4⟩, m9⟩ := h
  have hh : ∀ g, g_held (v, fun _ => False) g → g_held (v, fun m => m = n) g := fun g z => z.elim Or.inl (fun y => absurd y id)
  have hfm := List.mem_of_getElem? hi
  have hfh : g_held (v, fun m => m = n) f := Or.inr hf
  have hne : ∀ g ∈ E.2.2, g_held (v, fun _ => False) g → v (g 1) ≠ v n := by
    intro g hg z y
    have e := c2 g hg f hfm (hh g z) hfh (by rw [hf]; exact y)
    obtain ⟨j, hj⟩ := List.mem_iff_getElem?.mp hg
    have e2 := hN.eq hj hi e
    subst e2
    rw [hi] at hj
    obtain rfl := Option.some.inj hj
    exact z.elim ha id
  refine ⟨m1.cg (fun f i q1 q2 => pb_up_f (by omega)), m2.cg (fun p i q1 q2 => pb_up_p (by omega)), m3.cg (fun p i q1 q2 => pb_up_p (by omega)), m4.cg (fun p i q1 q2 => pb_up_p (by omega)), m5.cg (fun p i q1 q2 => pb_up_p (by omega)), m6.cg (fun p i q1 q2 => pb_up_p (by omega)), m7.cg (fun f q => pb_up_f (by omega)), ⟨fun g hg z => ?_, fun g hg g2 hg2 z z2 q => c2 g hg g2 hg2 (hh g z) (hh g2 z2) q, fun s q1 q2 q3 => ?_, fun s q1 q2 => ?_⟩, fun f p i hk => ?_⟩
  · obtain ⟨d1, d2⟩ := c1 g hg (hh g z)
    refine ⟨d1, d2.at (fun p q1 q2 => ?_) (fun j hj => pb_up_p (by decide))⟩
    exact pb_up_i (hne g hg z)
  · by_cases z : s = v n
    · rw [z]
      exact pb_up_same _ _ _ _ _
    · rw [pb_up_i z]
      refine c3 s q1 q2 (fun g hg y => ?_)
      rcases y with y | y
      · exact q3 g hg (Or.inl y)
      · intro y2
        exact z (y2.symm.trans (congrArg v y))
  · rw [pb_up_p (by decide)]
    exact c4 s q1 q2
  · rw [pb_up_k (fun y => hk (by unfold k_K; omega))]
    exact m9 f p i hk
theorem l_M_ends {v n m : Int} (hh : w.2 n) (hm : 0 ≤ m ∧ m < 2) (hQ : ∀ σ', RM σ' T (ge_endK i v E 4) w ν → Q (.inl 0) σ') : ∀ (d k : Nat), k + d = 4 → ∀ (σ : pb_H) (g : gC), RM σ T (ge_endK i v E k) w ν → (ge_endK i v E k).2.2[i]? = some g → g 1 = n → g 10 = m → g_num (ge_endK i v E k).2.2 → pb_WJ x i_M_ends 213 Q 61 [some (.inr 165), some (.inl (w.1 n)), some (.inl v), some (.inl k)] [] 213 σ := by
  intro d
  induction d with
  | zero =>
    intro k hk σ g h hi e1 e2 hN
    obtain rfl : k = 4 := by omega
    refine pb_s_M_ends_61 x 213 Q _ _ _ _ ?_
    simp only [pb_b_M_ends_61, pb_b_M_ends_107, pb_iconst, pb_null, pb_iload, pb_aload, pb_istore, pb_astore, pb_iinc, pb_bin, pb_bin0, pb_dup, pb_pop, pb_dup2, pb_if, pb_icmp, pb_ifnull, pb_getI, pb_getR, pb_putI, pb_putZ, pb_putR, pb_alen, pb_ald, pb_aldR, pb_ast, pb_astZ, pb_astR, pb_vret, pb_iret, pb_zret, pb_aret, pb_cv, pb_cr, pb_sr, pb_switch, pb_sw, pb_nth, pb_set, pb_tk, pb_add, pb_sub, List.length_cons, List.length_nil, true_or, or_true, true_and, and_true, and_self, pb_up_same, pb_up_f, ne_eq, Nat.reduceEqDiff, not_false_eq_true, Nat.reduceAdd, Nat.reduceLeDiff, Nat.zero_le]
    exact ⟨fun _ => hQ _ h, fun z => absurd z (by omega)⟩
  | succ d ih =>
    intro k hk σ g h hi e1 e2 hN
    have e : pb_w ((k : Int) + 1) = ((k + 1 : Nat) : Int) := by rw [pb_w_id (by unfold pb_R; omega)]; omega
    have hg : w.2 (g 1) := by rw [e1]; exact hh
    have r1 := r_1 h hi (Or.inr hg)
    rw [e1] at r1
    have hs := r1.1
    have e3 : pb_mul 4 (w.1 n) = 4 * w.1 n := by unfold pb_mul; exact pb_w_id (by unfold pb_R; omega)
    have e4 : pb_w (4 * w.1 n + (k : Int)) = 4 * w.1 n + k := pb_w_id (by unfold pb_R; omega)
    have hx : 0 ≤ 4 * w.1 n + (k : Int) ∧ 4 * w.1 n + (k : Int) < 16 := by omega
    have al := r1.2.2.2.2.2.2.2.2.2.2.2.2.2 k (by omega)
    have es : ge_endK i v E (k + 1) = if g (20 + k) = 2 ∨ g (20 + k) = 3 then ge_put (ge_cset (ge_endK i v E k) i (c_up g (20 + k) 4)) (g 10) (5, 64 + k, pb_mul 2 (g 1), v, 0) else ge_endK i v E k := by
      show ge_end1 i v (ge_endK i v E k) k = _
      unfold ge_end1
      rw [hi]
    have hl : g (20 + k) = 2 ∨ g (20 + k) = 3 → pb_MJ x i_M_leave [.inr 165, .inl (w.1 n), .inl k, .inl v] 213 σ (fun _ σ' => pb_WJ x i_M_ends 213 Q 61 [some (.inr 165), some (.inl (w.1 n)), some (.inl v), some (.inl ((k + 1 : Nat) : Int))] [] 213 σ') := by
      intro z
      rw [if_pos z] at es
      have := c_M_leave (x := x) (v := v) (k := k) (Q := fun _ σ' => pb_WJ x i_M_ends 213 Q 61 [some (.inr 165), some (.inl (w.1 n)), some (.inl v), some (.inl ((k + 1 : Nat) : Int))] [] 213 σ') h hN hi hg (by rw [e2]; exact hm) (by omega) (fun σ1 h1 => ?_)
      · rw [e1] at this
        exact this
      · rw [← es] at h1
        refine ih (k + 1) (by omega) σ1 (c_up g (20 + k) 4) h1 ?_ ((c_up_n (by omega)).trans e1) ((c_up_n (by omega)).trans e2) ?_
        · rw [es]
          exact cs_at hi
        · rw [es]
          exact hN.set hi (c_up_n (by omega))
    refine pb_s_M_ends_61 x 213 Q _ _ _ _ ?_
    simp only [pb_b_M_ends_61, pb_b_M_ends_94, pb_b_M_ends_101, pb_iconst, pb_null, pb_iload, pb_aload, pb_istore, pb_astore, pb_iinc, pb_bin, pb_bin0, pb_dup, pb_pop, pb_dup2, pb_if, pb_icmp, pb_ifnull, pb_getI, pb_getR, pb_putI, pb_putZ, pb_putR, pb_alen, pb_ald, pb_aldR, pb_ast, pb_astZ, pb_astR, pb_vret, pb_iret, pb_zret, pb_aret, pb_cv, pb_cr, pb_sr, pb_switch, pb_sw, pb_nth, pb_set, pb_tk, pb_add, pb_sub, List.length_cons, List.length_nil, true_or, or_true, true_and, and_true, and_self, pb_up_same, pb_up_f, ne_eq, Nat.reduceEqDiff, not_false_eq_true, Nat.reduceAdd, Nat.reduceLeDiff, Nat.zero_le, is_M, mf_leg h.1, mk_leg, ml_leg, al, hx, e, e3, e4]
    refine ⟨fun z => absurd z (by omega), fun _ => ⟨fun z => hl (Or.inl (g_lc_1.mp z)), fun z => ⟨fun z2 => ?_, fun z2 => hl (Or.inr (g_lc_2.mp (Decidable.not_not.mp z2)))⟩⟩⟩
    rw [if_neg (fun y => y.elim (fun y => z (g_lc_1.mpr y)) (fun y => z2 (g_lc_2.mpr y)))] at es
    exact ih (k + 1) (by omega) σ g (by rw [es]; exact h) (by rw [es]; exact hi) e1 e2 (by rw [es]; exact hN)
theorem c_M_ends {v : Int} (h : RM σ T E w ν) (hN : g_num E.2.2) (hi : E.2.2[i]? = some f) (hh : w.2 (f 1)) (h5 : 0 ≤ f 5 ∧ f 5 < 2) (h10 : 0 ≤ f 10 ∧ f 10 < 2) (hQ : ∀ σ', RM σ' T (ge_end E i v) w ν → Q (.inl 0) σ') : pb_MJ x i_M_ends [.inr 165, .inl (w.1 (f 1)), .inl v] 213 σ Q := by
  have r1 := r_1 h hi (Or.inr hh)
  have hs := r1.1
  unfold ge_end at hQ
  rw [hi] at hQ
  dsimp only at hQ
  refine pb_m_M_ends ?_
  simp only [pb_b_M_ends_0, pb_iconst, pb_null, pb_iload, pb_aload, pb_istore, pb_astore, pb_iinc, pb_bin, pb_bin0, pb_dup, pb_pop, pb_dup2, pb_if, pb_icmp, pb_ifnull, pb_getI, pb_getR, pb_putI, pb_putZ, pb_putR, pb_alen, pb_ald, pb_aldR, pb_ast, pb_astZ, pb_astR, pb_vret, pb_iret, pb_zret, pb_aret, pb_cv, pb_cr, pb_sr, pb_switch, pb_sw, pb_nth, pb_set, pb_tk, pb_add, pb_sub, List.length_cons, List.length_nil, true_or, or_true, true_and, and_true, and_self, pb_up_same, pb_up_f, ne_eq, Nat.reduceEqDiff, not_false_eq_true, Nat.reduceAdd, Nat.reduceLeDiff, Nat.zero_le, is_M, mf_phase h.1, mk_phase, ml_phase, r1.2.2.2.2.2.2.2.2.2.1, hs]
  refine ⟨fun z => ?_, fun z => ?_⟩
  · rw [if_neg z] at hQ
    have h1 := rm_upPh (v := 4) (u := 4) h hN hi hh rfl
    have r2 := r_1 h1 (cs_at hi) (Or.inr hh)
    have hN1 : g_num (ge_cset E i (c_up f 2 4)).2.2 := hN.set hi rfl
    simp only [pb_b_M_ends_11, pb_b_M_ends_59, pb_iconst, pb_null, pb_iload, pb_aload, pb_istore, pb_astore, pb_iinc, pb_bin, pb_bin0, pb_dup, pb_pop, pb_dup2, pb_if, pb_icmp, pb_ifnull, pb_getI, pb_getR, pb_putI, pb_putZ, pb_putR, pb_alen, pb_ald, pb_aldR, pb_ast, pb_astZ, pb_astR, pb_vret, pb_iret, pb_zret, pb_aret, pb_cv, pb_cr, pb_sr, pb_switch, pb_sw, pb_nth, pb_set, pb_tk, pb_add, pb_sub, List.length_cons, List.length_nil, true_or, or_true, true_and, and_true, and_self, pb_up_same, pb_up_f, ne_eq, Nat.reduceEqDiff, not_false_eq_true, Nat.reduceAdd, Nat.reduceLeDiff, Nat.zero_le, is_M, mf_phase h.1, mk_phase, ml_phase, mf_caller h.1, mk_caller, ml_caller, mf_callerBus h.1, mk_callerBus, ml_callerBus, mf_callerAddress h.1, mk_callerAddress, ml_callerAddress, mf_callerReference h.1, mk_callerReference, ml_callerReference, hs, pb_up_p, Int.reduceEq, r1.2.2.1, r1.2.2.2.1, r1.2.2.2.2.1, r1.2.2.2.2.2.1]
    refine ⟨fun z2 => ?_, fun z2 => ?_⟩
    · rw [if_neg (fun y => z2 (g_cc_1.mpr y))] at hQ
      exact l_M_ends (E := ge_cset E i (c_up f 2 4)) (n := f 1) (m := f 10) hh h10 hQ 4 0 rfl _ _ h1 (cs_at hi) rfl rfl hN1
    · rw [if_pos (g_cc_1.mp (Decidable.not_not.mp z2))] at hQ
      refine c_M_down h1 h5 (fun σ1 h2 => ?_)
      have h3 := rm_upCa (i := i) (f := c_up f 2 4) (v := 3) (u := 4) h2 hN1 (cs_at hi) hh rfl
      try simp only [pb_iconst, pb_null, pb_iload, pb_aload, pb_istore, pb_astore, pb_iinc, pb_bin, pb_bin0, pb_dup, pb_pop, pb_dup2, pb_if, pb_icmp, pb_ifnull, pb_getI, pb_getR, pb_putI, pb_putZ, pb_putR, pb_alen, pb_ald, pb_aldR, pb_ast, pb_astZ, pb_astR, pb_vret, pb_iret, pb_zret, pb_aret, pb_cv, pb_cr, pb_sr, pb_switch, pb_sw, pb_nth, pb_set, pb_tk, pb_add, pb_sub, List.length_cons, List.length_nil, true_or, or_true, true_and, and_true, and_self, pb_up_same, pb_up_f, ne_eq, Nat.reduceEqDiff, not_false_eq_true, Nat.reduceAdd, Nat.reduceLeDiff, Nat.zero_le, is_M, mf_caller h2.1, mk_caller, ml_caller, hs]
      refine l_M_ends (E := ge_put (ge_cset (ge_cset E i (c_up f 2 4)) i (c_up (c_up f 2 4) 9 4)) (f 5) (5, f 6, f 7, v, 0)) (n := f 1) (m := f 10) hh h10 hQ 4 0 rfl _ _ h3 (cs_at (cs_at hi)) rfl rfl (hN1.set (cs_at hi) rfl)
  · rw [if_pos (Decidable.not_not.mp z)] at hQ
    exact hQ _ h
theorem l_M_ringing {n : Int} (h : RM σ T E w ν) (hi : E.2.2[i]? = some f) (hh : g_held w f) (hQ : ∀ r : Int, (r = 0 ↔ g_ring f 4 = false) → Q (.inl r) σ) : ∀ (d k : Nat), k + d = 4 → ∀ r : Int, (0 ≤ r ∧ r ≤ k) → (r = 0 ↔ g_ring f k = false) → pb_WJ x i_M_ringing 213 Q 4 [some (.inr 165), some (.inl (w.1 (f 1))), some (.inl r), some (.inl k)] [] 213 σ := by
  intro d
  induction d with
  | zero =>
    intro k hk r hr he
    obtain rfl : k = 4 := by omega
    refine pb_s_M_ringing_4 x 213 Q _ _ _ _ ?_
    simp only [pb_b_M_ringing_4, pb_b_M_ringing_37, pb_iconst, pb_null, pb_iload, pb_aload, pb_istore, pb_astore, pb_iinc, pb_bin, pb_bin0, pb_dup, pb_pop, pb_dup2, pb_if, pb_icmp, pb_ifnull, pb_getI, pb_getR, pb_putI, pb_putZ, pb_putR, pb_alen, pb_ald, pb_aldR, pb_ast, pb_astZ, pb_astR, pb_vret, pb_iret, pb_zret, pb_aret, pb_cv, pb_cr, pb_sr, pb_switch, pb_sw, pb_nth, pb_set, pb_tk, pb_add, pb_sub, List.length_cons, List.length_nil, true_or, or_true, true_and, and_true, and_self, pb_up_same, pb_up_f, ne_eq, Nat.reduceEqDiff, not_false_eq_true, Nat.reduceAdd, Nat.reduceLeDiff, Nat.zero_le]
    exact ⟨fun _ => hQ r he, fun z => absurd z (by omega)⟩
  | succ d ih =>
    intro k hk r hr he
    have e : pb_w ((k : Int) + 1) = ((k + 1 : Nat) : Int) := by rw [pb_w_id (by unfold pb_R; omega)]; omega
    have r1 := r_1 h hi hh
    have hs := r1.1
    have e3 : pb_mul 4 (w.1 (f 1)) = 4 * w.1 (f 1) := by unfold pb_mul; exact pb_w_id (by unfold pb_R; omega)
    have e4 : pb_w (4 * w.1 (f 1) + (k : Int)) = 4 * w.1 (f 1) + k := pb_w_id (by unfold pb_R; omega)
    have hx : 0 ≤ 4 * w.1 (f 1) + (k : Int) ∧ 4 * w.1 (f 1) + (k : Int) < 16 := by omega
    have al := r1.2.2.2.2.2.2.2.2.2.2.2.2.2 k (by omega)
    have e5 : pb_w (r + 0) = r := by rw [pb_w_id (by unfold pb_R; omega)]; omega
    have e6 : pb_w (r + 1) = r + 1 := pb_w_id (by unfold pb_R; omega)
    have es : g_ring f (k + 1) = (g_ring f k || decide (f (20 + k) = 2)) := rfl
    refine pb_s_M_ringing_4 x 213 Q _ _ _ _ ?_
    simp only [pb_b_M_ringing_4, pb_b_M_ringing_28, pb_b_M_ringing_29, pb_iconst, pb_null, pb_iload, pb_aload, pb_istore, pb_astore, pb_iinc, pb_bin, pb_bin0, pb_dup, pb_pop, pb_dup2, pb_if, pb_icmp, pb_ifnull, pb_getI, pb_getR, pb_putI, pb_putZ, pb_putR, pb_alen, pb_ald, pb_aldR, pb_ast, pb_astZ, pb_astR, pb_vret, pb_iret, pb_zret, pb_aret, pb_cv, pb_cr, pb_sr, pb_switch, pb_sw, pb_nth, pb_set, pb_tk, pb_add, pb_sub, List.length_cons, List.length_nil, true_or, or_true, true_and, and_true, and_self, pb_up_same, pb_up_f, ne_eq, Nat.reduceEqDiff, not_false_eq_true, Nat.reduceAdd, Nat.reduceLeDiff, Nat.zero_le, is_M, mf_leg h.1, mk_leg, ml_leg, al, hx, e, e3, e4, e5, e6]
    refine ⟨fun z => absurd z (by omega), fun _ => ⟨fun z => ih (k + 1) (by omega) r (by omega) ?_, fun z => ih (k + 1) (by omega) (r + 1) (by omega) ?_⟩⟩
    · rw [es, decide_eq_false (fun y => z (g_lc_1.mpr y)), Bool.or_false]
      exact he
    · rw [es, decide_eq_true (g_lc_1.mp (Decidable.not_not.mp z)), Bool.or_true]
      exact ⟨fun y => by omega, fun y => by simp at y⟩
theorem c_M_ringing (h : RM σ T E w ν) (hi : E.2.2[i]? = some f) (hh : g_held w f) (hQ : ∀ r : Int, (r = 0 ↔ g_ring f 4 = false) → Q (.inl r) σ) : pb_MJ x i_M_ringing [.inr 165, .inl (w.1 (f 1))] 213 σ Q := by
  refine pb_m_M_ringing ?_
  simp only [pb_b_M_ringing_0, pb_iconst, pb_null, pb_iload, pb_aload, pb_istore, pb_astore, pb_iinc, pb_bin, pb_bin0, pb_dup, pb_pop, pb_dup2, pb_if, pb_icmp, pb_ifnull, pb_getI, pb_getR, pb_putI, pb_putZ, pb_putR, pb_alen, pb_ald, pb_aldR, pb_ast, pb_astZ, pb_astR, pb_vret, pb_iret, pb_zret, pb_aret, pb_cv, pb_cr, pb_sr, pb_switch, pb_sw, pb_nth, pb_set, pb_tk, pb_add, pb_sub, List.length_cons, List.length_nil, true_or, or_true, true_and, and_true, and_self, pb_up_same, pb_up_f, ne_eq, Nat.reduceEqDiff, not_false_eq_true, Nat.reduceAdd, Nat.reduceLeDiff, Nat.zero_le]
  exact l_M_ringing (n := 0) h hi hh hQ 4 0 rfl 0 (by omega) ⟨fun _ => rfl, fun _ => rfl⟩
end MGN
