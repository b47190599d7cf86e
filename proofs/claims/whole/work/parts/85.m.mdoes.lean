/-! what the exchange does with a frame -/
theorem pb_div_pos {r k : Int} (hr : pb_R r) (h0 : 0 ≤ r) (hk : pb_R k) (hk0 : 0 < k) : pb_div r k = r / k := by
  unfold pb_div
  have hne : Int32.ofInt k ≠ -1 := by
    intro y
    have : pb_w k = -1 := congrArg Int32.toInt y
    rw [pb_w_id hk] at this
    omega
  rw [Int32.toInt_div_of_ne_right _ _ hne]
  show (pb_w r).tdiv (pb_w k) = r / k
  rw [pb_w_id hr, pb_w_id hk]
  exact Int.tdiv_eq_ediv_of_nonneg h0
theorem pb_rem_pos {r k : Int} (hr : pb_R r) (h0 : 0 ≤ r) (hk : pb_R k) (hk0 : 0 < k) : pb_rem r k = r % k := by
  have hq : Int32.ofInt r / Int32.ofInt k = Int32.ofInt (r / k) := by
    rw [← pb_div_pos hr h0 hk hk0]
    exact (Int32.ofInt_toInt _).symm
  unfold pb_rem
  rw [hq, ← Int32.ofInt_mul, ← Int32.ofInt_sub]
  show pb_w (r - r / k * k) = r % k
  have e : r - r / k * k = r % k := by
    have := Int.emod_add_mul_ediv r k
    have e2 : r / k * k = k * (r / k) := Int.mul_comm _ _
    omega
  rw [e]
  have a1 := Int.emod_nonneg r (show k ≠ 0 by omega)
  have a2 := Int.emod_lt_of_pos r hk0
  exact pb_w_id ⟨by omega, by have := hk.2; omega⟩
section GAN
variable {c : List gC} {b a r : Int} {i : Nat} {f : gC}
theorem g_ansK_none : ∀ (d k : Nat), (∀ (j : Nat) (f : gC), k ≤ j → c[j]? = some f → ¬ pb_mul 2 (f 1) = r) → g_ansK c b r d k = -1 := by
  intro d
  induction d with
  | zero => exact fun _ _ => rfl
  | succ d ih =>
    intro k h
    unfold g_ansK
    cases hc : c[k]? with
    | none => rfl
    | some f =>
      dsimp only
      rw [if_neg (h k f (Nat.le_refl _) hc)]
      exact ih (k + 1) (fun j g q1 q2 => h j g (by omega) q2)
theorem g_ansK_some (hi : c[i]? = some f) (hf : pb_mul 2 (f 1) = r) : ∀ (d k : Nat), k ≤ i → i < k + d → (∀ (j : Nat) (g : gC), j < i → c[j]? = some g → ¬ pb_mul 2 (g 1) = r) → g_ansK c b r d k = if f 10 = b ∧ (f 2 = 1 ∨ f 2 = 2) then (i : Int) else -1 := by
  intro d
  induction d with
  | zero => exact fun k q1 q2 _ => absurd q1 (by omega)
  | succ d ih =>
    intro k q1 q2 h
    unfold g_ansK
    by_cases z : k = i
    · subst z
      rw [hi]
      dsimp only
      rw [if_pos hf]
    · have hl := (List.getElem?_eq_some_iff.mp hi).1
      have hk : c[k]? = some c[k] := List.getElem?_eq_getElem (by omega)
      rw [hk]
      dsimp only
      rw [if_neg (h k _ (by omega) hk)]
      exact ih (k + 1) (by omega) (by omega) h
theorem g_ans_none (h : ∀ (j : Nat) (f : gC), c[j]? = some f → ¬ pb_mul 2 (f 1) = r) : g_ans c b r = -1 := g_ansK_none _ _ (fun j f _ q => h j f q)
theorem g_ans_some (hi : c[i]? = some f) (hf : pb_mul 2 (f 1) = r) (h : ∀ (j : Nat) (g : gC), j < i → c[j]? = some g → ¬ pb_mul 2 (g 1) = r) : g_ans c b r = if f 10 = b ∧ (f 2 = 1 ∨ f 2 = 2) then (i : Int) else -1 := g_ansK_some hi hf c.length 0 (Nat.zero_le _) (by have := (List.getElem?_eq_some_iff.mp hi).1; omega) h
theorem g_hasK_iff : ∀ (d k : Nat), c.length ≤ k + d → (g_hasK c b a r d k = true ↔ ∃ (j : Nat) (f : gC), k ≤ j ∧ c[j]? = some f ∧ g_lb f b a r = true) := by
  intro d
  induction d with
  | zero =>
    intro k hk
    refine ⟨fun y => absurd (show false = true from y) (by decide), fun ⟨j, f, q1, q2, _⟩ => ?_⟩
    have := (List.getElem?_eq_some_iff.mp q2).1
    omega
  | succ d ih =>
    intro k hk
    unfold g_hasK
    cases hc : c[k]? with
    | none =>
      refine ⟨fun y => absurd (show false = true from y) (by decide), fun ⟨j, f, q1, q2, _⟩ => ?_⟩
      have := (List.getElem?_eq_some_iff.mp q2).1
      have := List.getElem?_eq_none_iff.mp hc
      omega
    | some f =>
      dsimp only
      by_cases z : g_lb f b a r = true
      · rw [if_pos z]
        exact ⟨fun _ => ⟨k, f, Nat.le_refl _, hc, z⟩, fun _ => rfl⟩
      · rw [if_neg z, ih (k + 1) (by omega)]
        refine ⟨fun ⟨j, g, q1, q2, q3⟩ => ⟨j, g, by omega, q2, q3⟩, fun ⟨j, g, q1, q2, q3⟩ => ?_⟩
        by_cases z2 : j = k
        · subst z2
          rw [hc] at q2
          obtain rfl := Option.some.inj q2
          exact absurd q3 z
        · exact ⟨j, g, by omega, q2, q3⟩
theorem g_has_iff : g_has c b a r = true ↔ ∃ (j : Nat) (f : gC), c[j]? = some f ∧ g_lb f b a r = true := by
  unfold g_has
  rw [g_hasK_iff c.length 0 (by omega)]
  exact ⟨fun ⟨j, f, _, q2, q3⟩ => ⟨j, f, q2, q3⟩, fun ⟨j, f, q2, q3⟩ => ⟨j, f, Nat.zero_le _, q2, q3⟩⟩
theorem g_lb2 : g_lb f b a r = true ↔ g_isCaller f b a r ∨ g_isCalled f b a r := by
  unfold g_lb g_isCaller g_isCalled
  simp
end GAN
section MDO
variable {x : pb_E} {σ σ' : pb_H} {T : gT} {E : gE} {w : gW} {ν : pb_H} {b a s t u r : Int} {Q : pb_P} {i : Nat} {f f' g : gC} {n ch : Int} {v : Int → Int}
theorem c_M_does {fr : gF} (h : RM σ T E (v, fun _ => False) ν) (hb : 0 ≤ b ∧ b < 2) (h64 : 64 ≤ fr.2.1 ∧ fr.2.1 < 68) (hrr : pb_R fr.2.2.1) (hA : ∀ f ∈ E.2.2, g_alive f = true) (hN : g_num E.2.2) (hU : g_uq E.2.2) (hw : g_cws E.2.2) (hl : E.2.2.length ≤ 4) (hnum : ∀ f ∈ E.2.2, f 1 < pb_w (E.1 8 0 + 1)) (hB : ∀ f ∈ E.2.2, f 1 < 1073741824) (hQ : ∀ σ' v', RM σ' T (ge_recvd E b fr) (v', fun _ => False) ν → Q (.inl 0) σ') : pb_MJ x i_M_does [.inr 165, .inl b, .inl fr.2.1, .inl fr.1, .inl fr.2.2.1, .inl fr.2.2.2.1] 213 σ Q := by
  have hA2 : ∀ f ∈ E.2.2, g_held (v, fun _ => False) f := fun f hf => Or.inl (hA f hf)
  have hm2 : ∀ f ∈ E.2.2, pb_mul 2 (f 1) = 2 * f 1 := fun f hf => by
    unfold pb_mul
    have h1 := hB f hf
    have h2 := hN.1 f hf
    exact pb_w_id (by unfold pb_R; omega)
  unfold ge_recvd at hQ
  refine pb_m_M_does ?_
  by_cases k0 : fr.1 = 0
  · rw [if_pos k0] at hQ
    simp only [pb_b_M_does_0, pb_iconst, pb_null, pb_iload, pb_aload, pb_istore, pb_astore, pb_iinc, pb_bin, pb_bin0, pb_dup, pb_pop, pb_dup2, pb_if, pb_icmp, pb_ifnull, pb_getI, pb_getR, pb_putI, pb_putZ, pb_putR, pb_alen, pb_ald, pb_aldR, pb_ast, pb_astZ, pb_astR, pb_vret, pb_iret, pb_zret, pb_aret, pb_cv, pb_cr, pb_sr, pb_switch, pb_sw, pb_nth, pb_set, pb_tk, pb_add, pb_sub, List.length_cons, List.length_nil, true_or, or_true, true_and, and_true, and_self, pb_up_same, pb_up_f, ne_eq, Nat.reduceEqDiff, not_false_eq_true, Nat.reduceAdd, Nat.reduceLeDiff, Nat.zero_le, is_M, k0]
    exact ⟨fun z => absurd trivial z, fun _ => c_M_setup h hb hA hN hU hl hnum hQ⟩
  · rw [if_neg k0] at hQ
    by_cases k5 : fr.1 = 5
    · rw [if_neg (by omega), if_neg (by omega), if_pos k5] at hQ
      simp only [pb_b_M_does_0, pb_b_M_does_15, pb_iconst, pb_null, pb_iload, pb_aload, pb_istore, pb_astore, pb_iinc, pb_bin, pb_bin0, pb_dup, pb_pop, pb_dup2, pb_if, pb_icmp, pb_ifnull, pb_getI, pb_getR, pb_putI, pb_putZ, pb_putR, pb_alen, pb_ald, pb_aldR, pb_ast, pb_astZ, pb_astR, pb_vret, pb_iret, pb_zret, pb_aret, pb_cv, pb_cr, pb_sr, pb_switch, pb_sw, pb_nth, pb_set, pb_tk, pb_add, pb_sub, List.length_cons, List.length_nil, true_or, or_true, true_and, and_true, and_self, pb_up_same, pb_up_f, ne_eq, Nat.reduceEqDiff, not_false_eq_true, Nat.reduceAdd, Nat.reduceLeDiff, Nat.zero_le, is_M, k5, Int.reduceEq, not_false_eq_true, not_true_eq_false, true_imp_iff, false_imp_iff]
      refine c_M_down h hb (fun σ1 h1 => ?_)
      simp only [pb_b_M_does_31, pb_b_M_does_42, pb_iconst, pb_null, pb_iload, pb_aload, pb_istore, pb_astore, pb_iinc, pb_bin, pb_bin0, pb_dup, pb_pop, pb_dup2, pb_if, pb_icmp, pb_ifnull, pb_getI, pb_getR, pb_putI, pb_putZ, pb_putR, pb_alen, pb_ald, pb_aldR, pb_ast, pb_astZ, pb_astR, pb_vret, pb_iret, pb_zret, pb_aret, pb_cv, pb_cr, pb_sr, pb_switch, pb_sw, pb_nth, pb_set, pb_tk, pb_add, pb_sub, List.length_cons, List.length_nil, true_or, or_true, true_and, and_true, and_self, pb_up_same, pb_up_f, ne_eq, Nat.reduceEqDiff, not_false_eq_true, Nat.reduceAdd, Nat.reduceLeDiff, Nat.zero_le, is_M, Int.reduceEq, not_false_eq_true, not_true_eq_false, true_imp_iff, false_imp_iff]
      exact c_M_ended (al := 1) h1 h64 hN hw (by omega) (fun σ' h2 => hQ _ _ h2)
    · by_cases k6 : fr.1 = 6
      · rw [if_neg (by omega), if_neg (by omega), if_neg k5, if_pos k6] at hQ
        simp only [pb_b_M_does_0, pb_b_M_does_15, pb_b_M_does_31, pb_b_M_does_42, pb_iconst, pb_null, pb_iload, pb_aload, pb_istore, pb_astore, pb_iinc, pb_bin, pb_bin0, pb_dup, pb_pop, pb_dup2, pb_if, pb_icmp, pb_ifnull, pb_getI, pb_getR, pb_putI, pb_putZ, pb_putR, pb_alen, pb_ald, pb_aldR, pb_ast, pb_astZ, pb_astR, pb_vret, pb_iret, pb_zret, pb_aret, pb_cv, pb_cr, pb_sr, pb_switch, pb_sw, pb_nth, pb_set, pb_tk, pb_add, pb_sub, List.length_cons, List.length_nil, true_or, or_true, true_and, and_true, and_self, pb_up_same, pb_up_f, ne_eq, Nat.reduceEqDiff, not_false_eq_true, Nat.reduceAdd, Nat.reduceLeDiff, Nat.zero_le, is_M, k6, Int.reduceEq, not_false_eq_true, not_true_eq_false, true_imp_iff, false_imp_iff]
        exact c_M_ended (al := 0) h h64 hN hw (by omega) (fun σ' h2 => hQ _ _ h2)
      · rw [if_neg k5, if_neg k6] at hQ
        -- behind the search: fits, or not
        have k108 : ∀ (c fits : Int) (o7 : Option pb_V), ((c = -1 ∧ fits = 0 ∧ ∀ (j : Nat) (f : gC), E.2.2[j]? = some f → ¬ pb_mul 2 (f 1) = fr.2.2.1) ∨ ∃ (i : Nat) (f : gC), E.2.2[i]? = some f ∧ pb_mul 2 (f 1) = fr.2.2.1 ∧ c = v (f 1) ∧ ((fits = 0 ∧ ¬ (f 10 = b ∧ (f 2 = 1 ∨ f 2 = 2))) ∨ (fits = 1 ∧ f 10 = b ∧ (f 2 = 1 ∨ f 2 = 2)))) → pb_b_M_does_108 x 213 Q [some (.inr 165), some (.inl b), some (.inl fr.2.1), some (.inl fr.1), some (.inl fr.2.2.1), some (.inl fr.2.2.2.1), some (.inl c), o7] [.inl fits] 213 σ := by
          intro c fits o7 hc
          have hcw : ∀ (σ1 : pb_H), σ1 = σ → (¬ g_has E.2.2 b fr.2.1 fr.2.2.1 = true → ∀ σ' v', RM σ' T (ge_put E b (5, fr.2.1, fr.2.2.1, 5, 0)) (v', fun _ => False) ν → Q (.inl 0) σ') → (g_has E.2.2 b fr.2.1 fr.2.2.1 = true → ∀ σ' v', RM σ' T E (v', fun _ => False) ν → Q (.inl 0) σ') → (g_has E.2.2 b fr.2.1 fr.2.2.1 = true ↔ ∃ (i : Nat) (f : gC), E.2.2[i]? = some f ∧ g_held (v, fun _ => False) f ∧ g_isCaller f b fr.2.1 fr.2.2.1) → ∀ o7 : Option pb_V, pb_b_M_does_191 x 213 Q [some (.inr 165), some (.inl b), some (.inl fr.2.1), some (.inl fr.1), some (.inl fr.2.2.1), some (.inl fr.2.2.2.1), some (.inl c), o7] [] 213 σ := by
            intro σ1 _ q1 q2 q3 o7
            simp only [pb_b_M_does_191, pb_b_M_does_212, pb_iconst, pb_null, pb_iload, pb_aload, pb_istore, pb_astore, pb_iinc, pb_bin, pb_bin0, pb_dup, pb_pop, pb_dup2, pb_if, pb_icmp, pb_ifnull, pb_getI, pb_getR, pb_putI, pb_putZ, pb_putR, pb_alen, pb_ald, pb_aldR, pb_ast, pb_astZ, pb_astR, pb_vret, pb_iret, pb_zret, pb_aret, pb_cv, pb_cr, pb_sr, pb_switch, pb_sw, pb_nth, pb_set, pb_tk, pb_add, pb_sub, List.length_cons, List.length_nil, true_or, or_true, true_and, and_true, and_self, pb_up_same, pb_up_f, ne_eq, Nat.reduceEqDiff, not_false_eq_true, Nat.reduceAdd, Nat.reduceLeDiff, Nat.zero_le, is_M]
            refine c_M_callsWith h hN (fun cc hcc => ?_)
            simp only [pb_iconst, pb_null, pb_iload, pb_aload, pb_istore, pb_astore, pb_iinc, pb_bin, pb_bin0, pb_dup, pb_pop, pb_dup2, pb_if, pb_icmp, pb_ifnull, pb_getI, pb_getR, pb_putI, pb_putZ, pb_putR, pb_alen, pb_ald, pb_aldR, pb_ast, pb_astZ, pb_astR, pb_vret, pb_iret, pb_zret, pb_aret, pb_cv, pb_cr, pb_sr, pb_switch, pb_sw, pb_nth, pb_set, pb_tk, pb_add, pb_sub, List.length_cons, List.length_nil, true_or, or_true, true_and, and_true, and_self, pb_up_same, pb_up_f, ne_eq, Nat.reduceEqDiff, not_false_eq_true, Nat.reduceAdd, Nat.reduceLeDiff, Nat.zero_le, is_M]
            refine ⟨fun z => q2 (q3.mpr (hcc.2.mp z)) _ _ h, fun z => c_M_down h hb (fun σ' h5 => q1 (fun y => z (hcc.2.mpr (q3.mp y))) _ _ h5)⟩
          rcases hc with ⟨c1, c2, c3⟩ | ⟨i, f, c1, c2, c3, c4⟩
          · have ea := g_ans_none (b := b) c3
            subst c2
            have hh : g_has E.2.2 b fr.2.1 fr.2.2.1 = true ↔ ∃ (i : Nat) (f : gC), E.2.2[i]? = some f ∧ g_held (v, fun _ => False) f ∧ g_isCaller f b fr.2.1 fr.2.2.1 := by
              rw [g_has_iff]
              refine ⟨fun ⟨j, g, y1, y2⟩ => ?_, fun ⟨j, g, y1, _, y2⟩ => ⟨j, g, y1, g_lb2.mpr (Or.inl y2)⟩⟩
              rcases g_lb2.mp y2 with y | y
              · exact ⟨j, g, y1, hA2 g (List.mem_of_getElem? y1), y⟩
              · exact absurd y.2.1 (c3 j g y1)
            simp only [pb_b_M_does_108, pb_b_M_does_130, pb_b_M_does_148, pb_b_M_does_170, pb_b_M_does_212, pb_iconst, pb_null, pb_iload, pb_aload, pb_istore, pb_astore, pb_iinc, pb_bin, pb_bin0, pb_dup, pb_pop, pb_dup2, pb_if, pb_icmp, pb_ifnull, pb_getI, pb_getR, pb_putI, pb_putZ, pb_putR, pb_alen, pb_ald, pb_aldR, pb_ast, pb_astZ, pb_astR, pb_vret, pb_iret, pb_zret, pb_aret, pb_cv, pb_cr, pb_sr, pb_switch, pb_sw, pb_nth, pb_set, pb_tk, pb_add, pb_sub, List.length_cons, List.length_nil, true_or, or_true, true_and, and_true, and_self, pb_up_same, pb_up_f, ne_eq, Nat.reduceEqDiff, not_false_eq_true, Nat.reduceAdd, Nat.reduceLeDiff, Nat.zero_le, is_M]
            unfold ge_alert ge_connect at hQ
            rw [if_pos ea, if_pos ea] at hQ
            by_cases k2 : fr.1 = 2
            · rw [if_pos k2] at hQ
              simp only [k2, true_and, and_true, not_true_eq_false, false_imp_iff, true_imp_iff, Int.reduceEq, not_false_eq_true]
              exact c_M_down h hb (fun σ' h5 => hQ _ _ h5)
            · rw [if_neg k2] at hQ
              by_cases k3 : fr.1 = 3
              · rw [if_pos k3] at hQ
                have := hcw σ rfl (fun y => by rw [if_neg y] at hQ; exact hQ) (fun y => by rw [if_pos y] at hQ; exact hQ) hh
                subst c1
                simp only [k3] at this
                simp only [k3, true_and, and_true, not_true_eq_false, false_imp_iff, true_imp_iff, Int.reduceEq, not_false_eq_true]
                exact ⟨fun _ => this _, fun z => absurd (by decide) z⟩
              · rw [if_neg k3] at hQ
                simp only [k2, k3, true_and, and_true, not_false_eq_true, true_imp_iff, not_true_eq_false, false_imp_iff]
                exact hQ _ _ h
          · have hfm := List.mem_of_getElem? c1
            have hpos : 0 < f 1 := hN.1 f hfm
            have rr : (0 ≤ v (f 1) ∧ v (f 1) < 4) ∧ rm_1 σ (v (f 1)) f := r_1 h c1 (hA2 f hfm)
            have md := m_called (b := b) (a := fr.2.1) rr.2 hpos h64
            have hj : ∀ (j : Nat) (g : gC), E.2.2[j]? = some g → pb_mul 2 (g 1) = fr.2.2.1 → j = i := fun j g y1 y2 => by
              have m1 := hm2 f hfm
              have m2 := hm2 g (List.mem_of_getElem? y1)
              exact hN.eq y1 c1 (by omega)
            have ea := g_ans_some (b := b) c1 c2 (fun j g y1 y2 y3 => by have := hj j g y2 y3; omega)
            have hh : ¬ (f 10 = b ∧ ¬ g_leg f fr.2.1 = 0) → (g_has E.2.2 b fr.2.1 fr.2.2.1 = true ↔ ∃ (i : Nat) (f : gC), E.2.2[i]? = some f ∧ g_held (v, fun _ => False) f ∧ g_isCaller f b fr.2.1 fr.2.2.1) := fun hn => by
              rw [g_has_iff]
              refine ⟨fun ⟨j, g, y1, y2⟩ => ?_, fun ⟨j, g, y1, _, y2⟩ => ⟨j, g, y1, g_lb2.mpr (Or.inl y2)⟩⟩
              rcases g_lb2.mp y2 with y | y
              · exact ⟨j, g, y1, hA2 g (List.mem_of_getElem? y1), y⟩
              · have e := hj j g y1 y.2.1
                subst e
                rw [c1] at y1
                obtain rfl := Option.some.inj y1
                exact absurd ⟨y.1, y.2.2⟩ hn
            rcases c4 with ⟨z1, z2⟩ | ⟨z1, z2⟩
            · rw [if_neg z2] at ea
              subst z1
              simp only [pb_b_M_does_108, pb_b_M_does_130, pb_b_M_does_148, pb_b_M_does_170, pb_b_M_does_212, pb_iconst, pb_null, pb_iload, pb_aload, pb_istore, pb_astore, pb_iinc, pb_bin, pb_bin0, pb_dup, pb_pop, pb_dup2, pb_if, pb_icmp, pb_ifnull, pb_getI, pb_getR, pb_putI, pb_putZ, pb_putR, pb_alen, pb_ald, pb_aldR, pb_ast, pb_astZ, pb_astR, pb_vret, pb_iret, pb_zret, pb_aret, pb_cv, pb_cr, pb_sr, pb_switch, pb_sw, pb_nth, pb_set, pb_tk, pb_add, pb_sub, List.length_cons, List.length_nil, true_or, or_true, true_and, and_true, and_self, pb_up_same, pb_up_f, ne_eq, Nat.reduceEqDiff, not_false_eq_true, Nat.reduceAdd, Nat.reduceLeDiff, Nat.zero_le, is_M]
              unfold ge_alert ge_connect at hQ
              rw [if_pos ea, if_pos ea] at hQ
              by_cases k2 : fr.1 = 2
              · rw [if_pos k2] at hQ
                simp only [k2, true_and, and_true, not_true_eq_false, false_imp_iff, true_imp_iff, Int.reduceEq, not_false_eq_true]
                exact c_M_down h hb (fun σ' h5 => hQ _ _ h5)
              · rw [if_neg k2] at hQ
                by_cases k3 : fr.1 = 3
                · rw [if_pos k3] at hQ
                  have k191 := fun hn => hcw σ rfl (fun y => by rw [if_neg y] at hQ; exact hQ) (fun y => by rw [if_pos y] at hQ; exact hQ) (hh hn)
                  subst c3
                  simp only [k3] at k191
                  simp only [k3, true_and, and_true, not_true_eq_false, false_imp_iff, true_imp_iff, Int.reduceEq, not_false_eq_true]
                  refine ⟨fun y => absurd y (by omega), fun _ => ?_⟩
                  refine c_M_isCalled h rr.1 h64 (fun y => ?_) (fun y => ?_)
                  · have y2 := md.mp y
                    have y3 : g_has E.2.2 b fr.2.1 fr.2.2.1 = true := g_has_iff.mpr ⟨i, f, c1, g_lb2.mpr (Or.inr ⟨y2.1, c2, y2.2⟩)⟩
                    rw [if_pos y3] at hQ
                    simp only [pb_iconst, pb_null, pb_iload, pb_aload, pb_istore, pb_astore, pb_iinc, pb_bin, pb_bin0, pb_dup, pb_pop, pb_dup2, pb_if, pb_icmp, pb_ifnull, pb_getI, pb_getR, pb_putI, pb_putZ, pb_putR, pb_alen, pb_ald, pb_aldR, pb_ast, pb_astZ, pb_astR, pb_vret, pb_iret, pb_zret, pb_aret, pb_cv, pb_cr, pb_sr, pb_switch, pb_sw, pb_nth, pb_set, pb_tk, pb_add, pb_sub, List.length_cons, List.length_nil, true_or, or_true, true_and, and_true, and_self, pb_up_same, pb_up_f, ne_eq, Nat.reduceEqDiff, not_false_eq_true, Nat.reduceAdd, Nat.reduceLeDiff, Nat.zero_le]
                    exact ⟨fun _ => hQ _ _ h, fun y4 => absurd (by decide) y4⟩
                  · simp only [pb_iconst, pb_null, pb_iload, pb_aload, pb_istore, pb_astore, pb_iinc, pb_bin, pb_bin0, pb_dup, pb_pop, pb_dup2, pb_if, pb_icmp, pb_ifnull, pb_getI, pb_getR, pb_putI, pb_putZ, pb_putR, pb_alen, pb_ald, pb_aldR, pb_ast, pb_astZ, pb_astR, pb_vret, pb_iret, pb_zret, pb_aret, pb_cv, pb_cr, pb_sr, pb_switch, pb_sw, pb_nth, pb_set, pb_tk, pb_add, pb_sub, List.length_cons, List.length_nil, true_or, or_true, true_and, and_true, and_self, pb_up_same, pb_up_f, ne_eq, Nat.reduceEqDiff, not_false_eq_true, Nat.reduceAdd, Nat.reduceLeDiff, Nat.zero_le]
                    exact ⟨fun y4 => absurd trivial y4, fun _ => k191 (fun q => y (md.mpr q)) _⟩
                · rw [if_neg k3] at hQ
                  simp only [k2, k3, true_and, and_true, not_false_eq_true, true_imp_iff, not_true_eq_false, false_imp_iff]
                  exact hQ _ _ h
            · rw [if_pos z2] at ea
              subst z1 c3
              have hcw := hw i f c1
              have en : ¬ g_ans E.2.2 b fr.2.2.1 = -1 := by rw [ea]; omega
              have et : (g_ans E.2.2 b fr.2.2.1).toNat = i := by rw [ea]; omega
              simp only [pb_b_M_does_108, pb_b_M_does_130, pb_b_M_does_148, pb_b_M_does_170, pb_b_M_does_212, pb_iconst, pb_null, pb_iload, pb_aload, pb_istore, pb_astore, pb_iinc, pb_bin, pb_bin0, pb_dup, pb_pop, pb_dup2, pb_if, pb_icmp, pb_ifnull, pb_getI, pb_getR, pb_putI, pb_putZ, pb_putR, pb_alen, pb_ald, pb_aldR, pb_ast, pb_astZ, pb_astR, pb_vret, pb_iret, pb_zret, pb_aret, pb_cv, pb_cr, pb_sr, pb_switch, pb_sw, pb_nth, pb_set, pb_tk, pb_add, pb_sub, List.length_cons, List.length_nil, true_or, or_true, true_and, and_true, and_self, pb_up_same, pb_up_f, ne_eq, Nat.reduceEqDiff, not_false_eq_true, Nat.reduceAdd, Nat.reduceLeDiff, Nat.zero_le, is_M]
              unfold ge_alert ge_connect at hQ
              rw [if_neg en, if_neg en, et, c1] at hQ
              dsimp only at hQ
              by_cases k2 : fr.1 = 2
              · rw [if_pos k2] at hQ
                simp only [k2, true_and, and_true, not_true_eq_false, false_imp_iff, true_imp_iff, Int.reduceEq, not_false_eq_true]
                exact c_M_alerts h hN c1 (hA f hfm) hcw.1 h64 (fun σ' h5 => hQ _ _ h5)
              · rw [if_neg k2] at hQ
                by_cases k3 : fr.1 = 3
                · rw [if_pos k3] at hQ
                  simp only [k3, true_and, and_true, not_true_eq_false, false_imp_iff, true_imp_iff, Int.reduceEq, not_false_eq_true]
                  exact c_M_connects h hN c1 (hA f hfm) hcw.1 hb z2.1 c2 h64 (fun σ' h5 => hQ _ _ h5)
                · rw [if_neg k3] at hQ
                  simp only [k2, k3, true_and, and_true, not_false_eq_true, true_imp_iff, not_true_eq_false, false_imp_iff]
                  exact hQ _ _ h
        have k76 : ∀ (c : Int) (o6 o7 : Option pb_V), ((c = -1 ∧ ∀ (j : Nat) (f : gC), E.2.2[j]? = some f → ¬ pb_mul 2 (f 1) = fr.2.2.1) ∨ ∃ (i : Nat) (f : gC), E.2.2[i]? = some f ∧ pb_mul 2 (f 1) = fr.2.2.1 ∧ c = v (f 1)) → pb_b_M_does_76 x 213 Q [some (.inr 165), some (.inl b), some (.inl fr.2.1), some (.inl fr.1), some (.inl fr.2.2.1), some (.inl fr.2.2.2.1), o6, o7] [.inl c] 213 σ := by
          intro c o6 o7 hc
          rcases hc with ⟨c1, c2⟩ | ⟨i, f, c1, c2, c3⟩
          · subst c1
            simp only [pb_b_M_does_76, pb_b_M_does_107, pb_iconst, pb_null, pb_iload, pb_aload, pb_istore, pb_astore, pb_iinc, pb_bin, pb_bin0, pb_dup, pb_pop, pb_dup2, pb_if, pb_icmp, pb_ifnull, pb_getI, pb_getR, pb_putI, pb_putZ, pb_putR, pb_alen, pb_ald, pb_aldR, pb_ast, pb_astZ, pb_astR, pb_vret, pb_iret, pb_zret, pb_aret, pb_cv, pb_cr, pb_sr, pb_switch, pb_sw, pb_nth, pb_set, pb_tk, pb_add, pb_sub, List.length_cons, List.length_nil, true_or, or_true, true_and, and_true, and_self, pb_up_same, pb_up_f, ne_eq, Nat.reduceEqDiff, not_false_eq_true, Nat.reduceAdd, Nat.reduceLeDiff, Nat.zero_le]
            exact ⟨fun _ => k108 (-1) 0 _ (Or.inl ⟨rfl, rfl, c2⟩), fun z => absurd (by decide) z⟩
          · have hfm := List.mem_of_getElem? c1
            have rr : (0 ≤ v (f 1) ∧ v (f 1) < 4) ∧ rm_1 σ (v (f 1)) f := r_1 h c1 (hA2 f hfm)
            subst c3
            have hs := rr.1
            have ap := rr.2.2.2.2.2.2.2.2.2.1
            simp only [pb_b_M_does_76, pb_b_M_does_107, pb_iconst, pb_null, pb_iload, pb_aload, pb_istore, pb_astore, pb_iinc, pb_bin, pb_bin0, pb_dup, pb_pop, pb_dup2, pb_if, pb_icmp, pb_ifnull, pb_getI, pb_getR, pb_putI, pb_putZ, pb_putR, pb_alen, pb_ald, pb_aldR, pb_ast, pb_astZ, pb_astR, pb_vret, pb_iret, pb_zret, pb_aret, pb_cv, pb_cr, pb_sr, pb_switch, pb_sw, pb_nth, pb_set, pb_tk, pb_add, pb_sub, List.length_cons, List.length_nil, true_or, or_true, true_and, and_true, and_self, pb_up_same, pb_up_f, ne_eq, Nat.reduceEqDiff, not_false_eq_true, Nat.reduceAdd, Nat.reduceLeDiff, Nat.zero_le, is_M, mf_calledBus h.1, mk_calledBus, ml_calledBus, hs, rr.2.2.2.2.2.2.2.1]
            refine ⟨fun z => absurd z (by omega), fun _ => ⟨fun z => k108 _ 0 _ (Or.inr ⟨i, f, c1, c2, rfl, Or.inl ⟨rfl, fun y => z y.1⟩⟩), fun z => ?_⟩⟩
            refine c_M_open h hs (fun y => ?_) (fun y => ?_)
            · rw [ap] at y
              simp only [pb_iconst, pb_null, pb_iload, pb_aload, pb_istore, pb_astore, pb_iinc, pb_bin, pb_bin0, pb_dup, pb_pop, pb_dup2, pb_if, pb_icmp, pb_ifnull, pb_getI, pb_getR, pb_putI, pb_putZ, pb_putR, pb_alen, pb_ald, pb_aldR, pb_ast, pb_astZ, pb_astR, pb_vret, pb_iret, pb_zret, pb_aret, pb_cv, pb_cr, pb_sr, pb_switch, pb_sw, pb_nth, pb_set, pb_tk, pb_add, pb_sub, List.length_cons, List.length_nil, true_or, or_true, true_and, and_true, and_self, pb_up_same, pb_up_f, ne_eq, Nat.reduceEqDiff, not_false_eq_true, Nat.reduceAdd, Nat.reduceLeDiff, Nat.zero_le]
              exact ⟨fun z2 => absurd z2 (by decide), fun _ => k108 _ 1 _ (Or.inr ⟨i, f, c1, c2, rfl, Or.inr ⟨rfl, Decidable.not_not.mp z, y⟩⟩)⟩
            · rw [ap] at y
              simp only [pb_iconst, pb_null, pb_iload, pb_aload, pb_istore, pb_astore, pb_iinc, pb_bin, pb_bin0, pb_dup, pb_pop, pb_dup2, pb_if, pb_icmp, pb_ifnull, pb_getI, pb_getR, pb_putI, pb_putZ, pb_putR, pb_alen, pb_ald, pb_aldR, pb_ast, pb_astZ, pb_astR, pb_vret, pb_iret, pb_zret, pb_aret, pb_cv, pb_cr, pb_sr, pb_switch, pb_sw, pb_nth, pb_set, pb_tk, pb_add, pb_sub, List.length_cons, List.length_nil, true_or, or_true, true_and, and_true, and_self, pb_up_same, pb_up_f, ne_eq, Nat.reduceEqDiff, not_false_eq_true, Nat.reduceAdd, Nat.reduceLeDiff, Nat.zero_le]
              exact ⟨fun _ => k108 _ 0 _ (Or.inr ⟨i, f, c1, c2, rfl, Or.inl ⟨rfl, fun q => y q.2⟩⟩), fun z2 => absurd trivial z2⟩
        simp only [pb_b_M_does_0, pb_b_M_does_15, pb_b_M_does_31, pb_b_M_does_52, pb_b_M_does_75, pb_iconst, pb_null, pb_iload, pb_aload, pb_istore, pb_astore, pb_iinc, pb_bin, pb_bin0, pb_dup, pb_pop, pb_dup2, pb_if, pb_icmp, pb_ifnull, pb_getI, pb_getR, pb_putI, pb_putZ, pb_putR, pb_alen, pb_ald, pb_aldR, pb_ast, pb_astZ, pb_astR, pb_vret, pb_iret, pb_zret, pb_aret, pb_cv, pb_cr, pb_sr, pb_switch, pb_sw, pb_nth, pb_set, pb_tk, pb_add, pb_sub, List.length_cons, List.length_nil, true_or, or_true, true_and, and_true, and_self, pb_up_same, pb_up_f, ne_eq, Nat.reduceEqDiff, not_false_eq_true, Nat.reduceAdd, Nat.reduceLeDiff, Nat.zero_le, is_M, k0, k5, k6, Int.reduceEq, not_false_eq_true, not_true_eq_false, true_imp_iff, false_imp_iff]
        refine ⟨fun z => k76 (-1) _ _ (Or.inl ⟨rfl, fun j f q1 q2 => ?_⟩), fun z => ?_⟩
        · have m1 := hm2 f (List.mem_of_getElem? q1)
          have m2 := hN.1 f (List.mem_of_getElem? q1)
          omega
        · have ed : pb_div fr.2.2.1 2 = fr.2.2.1 / 2 := pb_div_pos hrr (by omega) (by unfold pb_R; omega) (by omega)
          have er : pb_rem fr.2.2.1 2 = fr.2.2.1 % 2 := pb_rem_pos hrr (by omega) (by unfold pb_R; omega) (by omega)
          rw [ed, er]
          refine ⟨fun z2 => k76 (-1) _ _ (Or.inl ⟨rfl, fun j f q1 q2 => ?_⟩), fun z2 => ?_⟩
          · have m1 := hm2 f (List.mem_of_getElem? q1)
            omega
          · refine c_M_callOf h hN (fun i f q1 q2 q3 => ?_) (fun q => ?_)
            · refine k76 _ _ _ (Or.inr ⟨i, f, q1, ?_, rfl⟩)
              have m1 := hm2 f (List.mem_of_getElem? q1)
              omega
            · refine k76 (-1) _ _ (Or.inl ⟨rfl, fun j f q1 q2 => ?_⟩)
              have m1 := hm2 f (List.mem_of_getElem? q1)
              exact q j f q1 (hA2 f (List.mem_of_getElem? q1)) (by omega)
end MDO
