/-! who holds a channel -/
theorem g_holdK_none {c : List gC} {b ch : Int} : ∀ (d k : Nat), (∀ (j : Nat) (f : gC), k ≤ j → c[j]? = some f → ¬ g_hb f b ch = true) → g_holdK c b ch d k = 0 := by
  intro d
  induction d with
  | zero => exact fun _ _ => rfl
  | succ d ih =>
    intro k h
    unfold g_holdK
    cases hc : c[k]? with
    | none => rfl
    | some f =>
      dsimp only
      rw [if_neg (h k f (Nat.le_refl _) hc)]
      exact ih (k + 1) (fun j g q1 q2 => h j g (by omega) q2)
theorem g_holdK_some {c : List gC} {b ch : Int} {i : Nat} {f : gC} (hi : c[i]? = some f) (hf : g_hb f b ch = true) : ∀ (d k : Nat), k ≤ i → i < k + d → (∀ (j : Nat) (g : gC), j < i → c[j]? = some g → ¬ g_hb g b ch = true) → g_holdK c b ch d k = f 1 := by
  intro d
  induction d with
  | zero => exact fun k q1 q2 _ => absurd q1 (by omega)
  | succ d ih =>
    intro k q1 q2 h
    unfold g_holdK
    by_cases z : k = i
    · subst z
      rw [hi]
      dsimp only
      rw [if_pos hf]
    · have hl := (List.getElem?_eq_some_iff.mp hi).1
      have hk : c[k]? = some c[k] := List.getElem?_eq_getElem (by omega)
      rw [hk]
      dsimp only
      rw [if_neg (h k _ (by omega) hk)]
      exact ih (k + 1) (by omega) (by omega) h
/-- no channel has two holders -/
def g_uq (c : List gC) : Prop := ∀ (i j : Nat) (f g : gC) (b ch : Int), c[i]? = some f → c[j]? = some g → g_holds f b ch → g_holds g b ch → i = j
theorem g_hold_none {c : List gC} {b ch : Int} (h : ∀ (j : Nat) (f : gC), c[j]? = some f → ¬ g_holds f b ch) : g_hold c b ch = 0 := g_holdK_none _ _ (fun j f _ q => fun y => h j f q (g_hb_iff.mpr y))
theorem g_hold_some {c : List gC} {b ch : Int} {i : Nat} {f : gC} (hi : c[i]? = some f) (hf : g_holds f b ch) (hU : g_uq c) : g_hold c b ch = f 1 := by
  refine g_holdK_some hi (g_hb_iff.mp hf) c.length 0 (Nat.zero_le _) (by have := (List.getElem?_eq_some_iff.mp hi).1; omega) (fun j g q1 q2 y => ?_)
  have := hU j i g f b ch q2 hi (g_hb_iff.mpr y) hf
  omega
section MHD
variable {x : pb_E} {σ σ' : pb_H} {T : gT} {E : gE} {w : gW} {ν : pb_H} {b s t u : Int} {Q : pb_P} {i : Nat} {f f' g : gC} {n ch : Int}
def m_second (σ : pb_H) (s b ch : Int) : Prop := σ 0 205 s = b ∧ σ 0 206 s = ch ∧ ((σ 0 207 s = 1 ∨ σ 0 207 s = 2) ∨ (0 ≤ σ 0 210 s ∧ ¬ σ 0 211 (4 * s + σ 0 210 s) = 0))
def m_first (σ : pb_H) (s b ch : Int) : Prop := ¬ σ 0 200 s = 0 ∧ σ 0 201 s = b ∧ σ 0 204 s = ch
theorem m_hold (h1 : rm_1 σ s f) (hw : σ 0 210 s < 4) : (m_first σ s b ch ∨ m_second σ s b ch) ↔ g_holds f b ch := by
  obtain ⟨a1, a2, a3, a4, a5, a6, a7, a8, a9, a10, a11, a12, a13⟩ := h1
  have hl : (0 ≤ σ 0 210 s ∧ ¬ σ 0 211 (4 * s + σ 0 210 s) = 0) ↔ ¬ g_leg f (f 12) = 0 := by
    rw [a12] at hw ⊢
    unfold g_wc at hw ⊢
    unfold g_leg
    by_cases z : f 12 = 0
    · rw [if_pos z, if_neg (show ¬ (64 ≤ f 12 ∧ f 12 < 68) by omega)]
      omega
    · rw [if_neg z] at hw ⊢
      by_cases z2 : 64 ≤ f 12 ∧ f 12 < 68
      · rw [if_pos z2]
        have e : f 12 - 64 = ((f 12 - 64).toNat : Int) := by omega
        have := a13 (f 12 - 64).toNat (by omega)
        rw [← e] at this
        rw [this]
        exact ⟨fun y y2 => y.2 (g_lc_0.mpr y2), fun y => ⟨by omega, fun y2 => y (g_lc_0.mp y2)⟩⟩
      · rw [if_neg z2]
        omega
  unfold m_first m_second g_holds g_open
  rw [hl, a2, a3, a6, a7, a8, a9]
  have e : ¬ g_cc (f 9) = 0 ↔ ¬ f 9 = 0 := not_congr g_cc_0
  rw [e]
theorem l_M_holder (h : RM σ T E w ν) (hA : ∀ f ∈ E.2.2, g_held w f) (hN : g_num E.2.2) (hU : g_uq E.2.2) (hQ : Q (.inl (g_hold E.2.2 b ch)) σ) : ∀ (d k : Nat), k + d = 4 → (∀ (i : Nat) (f : gC), E.2.2[i]? = some f → w.1 (f 1) < k → ¬ g_holds f b ch) → ∀ o4 o5 : Option pb_V, pb_WJ x i_M_holder 213 Q 20 [some (.inr 165), some (.inl b), some (.inl ch), some (.inl k), o4, o5] [] 213 σ := by
  intro d
  induction d with
  | zero =>
    intro k hk hp o4 o5
    refine pb_s_M_holder_20 x 213 Q _ _ _ _ ?_
    simp only [pb_b_M_holder_20, pb_b_M_holder_155, pb_iconst, pb_null, pb_iload, pb_aload, pb_istore, pb_astore, pb_iinc, pb_bin, pb_bin0, pb_dup, pb_pop, pb_dup2, pb_if, pb_icmp, pb_ifnull, pb_getI, pb_getR, pb_putI, pb_putZ, pb_putR, pb_alen, pb_ald, pb_aldR, pb_ast, pb_astZ, pb_astR, pb_vret, pb_iret, pb_zret, pb_aret, pb_cv, pb_cr, pb_sr, pb_switch, pb_sw, pb_nth, pb_set, pb_tk, pb_add, pb_sub, List.length_cons, List.length_nil, true_or, or_true, true_and, and_true, and_self, pb_up_same, pb_up_f, ne_eq, Nat.reduceEqDiff, not_false_eq_true, Nat.reduceAdd, Nat.reduceLeDiff, Nat.zero_le]
    refine ⟨fun _ => ?_, fun z => absurd z (by omega)⟩
    rw [g_hold_none (fun j f q => hp j f q (by have := (r_1 h q (hA f (List.mem_of_getElem? q))).1; omega))] at hQ
    exact hQ
  | succ d ih =>
    intro k hk hp o4 o5
    have e : pb_w ((k : Int) + 1) = ((k + 1 : Nat) : Int) := by rw [pb_w_id (by unfold pb_R; omega)]; omega
    have hs : 0 ≤ (k : Int) ∧ (k : Int) < 4 := by omega
    have hwn := h.2.2.2.2.2.2.2.1.2.2.2 k hs.1 hs.2
    have e3 : pb_mul 4 (k : Int) = 4 * k := by unfold pb_mul; exact pb_w_id (by unfold pb_R; omega)
    have hnx : (σ 0 199 k ≤ 0 ∨ ¬ (m_first σ k b ch ∨ m_second σ k b ch)) → ∀ o4 o5 : Option pb_V, pb_WJ x i_M_holder 213 Q 20 [some (.inr 165), some (.inl b), some (.inl ch), some (.inl ((k + 1 : Nat) : Int)), o4, o5] [] 213 σ := by
      intro y o4 o5
      refine ih (k + 1) (by omega) (fun i f z1 z2 => ?_) o4 o5
      by_cases z4 : w.1 (f 1) = k
      · have r := r_1 h z1 (hA f (List.mem_of_getElem? z1))
        rw [z4] at r
        rcases y with y | y
        · have := hN.1 f (List.mem_of_getElem? z1)
          rw [r.2.1] at y
          omega
        · exact fun q => y ((m_hold r.2 hwn).mpr q)
      · exact hp i f z1 (by omega)
    have hrt : 0 < σ 0 199 k → (m_first σ k b ch ∨ m_second σ k b ch) → Q (.inl (σ 0 199 k)) σ := by
      intro y1 y2
      rcases r_slot h hs with ⟨i, f, q1, q2, q3, q4⟩ | ⟨q1, q2⟩
      · rw [g_hold_some q1 ((m_hold q4 hwn).mp y2) hU, ← q4.1] at hQ
        exact hQ
      · omega
    have k121 : ∀ (v4 v5 : Int) (o5 : Option pb_V), ((v4 = 0 ∧ v5 = 0) → ¬ (m_first σ k b ch ∨ m_second σ k b ch)) → (¬ (v4 = 0 ∧ v5 = 0) → (m_first σ k b ch ∨ m_second σ k b ch)) → pb_b_M_holder_121 x 213 Q [some (.inr 165), some (.inl b), some (.inl ch), some (.inl k), some (.inl v4), o5] [.inl v5] 213 σ := by
      intro v4 v5 o5 y1 y2
      simp only [pb_b_M_holder_121, pb_b_M_holder_142, pb_b_M_holder_149, pb_iconst, pb_null, pb_iload, pb_aload, pb_istore, pb_astore, pb_iinc, pb_bin, pb_bin0, pb_dup, pb_pop, pb_dup2, pb_if, pb_icmp, pb_ifnull, pb_getI, pb_getR, pb_putI, pb_putZ, pb_putR, pb_alen, pb_ald, pb_aldR, pb_ast, pb_astZ, pb_astR, pb_vret, pb_iret, pb_zret, pb_aret, pb_cv, pb_cr, pb_sr, pb_switch, pb_sw, pb_nth, pb_set, pb_tk, pb_add, pb_sub, List.length_cons, List.length_nil, true_or, or_true, true_and, and_true, and_self, pb_up_same, pb_up_f, ne_eq, Nat.reduceEqDiff, not_false_eq_true, Nat.reduceAdd, Nat.reduceLeDiff, Nat.zero_le, is_M, mf_number h.1, mk_number, ml_number, hs, e]
      exact ⟨fun z => hnx (Or.inl z) _ _, fun z => ⟨fun z2 => hrt (by omega) (y2 (fun y => z2 y.1)), fun z2 => ⟨fun z3 => hnx (Or.inr (y1 ⟨Decidable.not_not.mp z2, z3⟩)) _ _, fun z3 => hrt (by omega) (y2 (fun y => z3 y.2))⟩⟩⟩
    have k59 : ∀ (v4 : Int) (o4 o5 : Option pb_V), (v4 = 0 → ¬ m_first σ k b ch) → (¬ v4 = 0 → m_first σ k b ch) → pb_b_M_holder_59 x 213 Q [some (.inr 165), some (.inl b), some (.inl ch), some (.inl k), o4, o5] [.inl v4] 213 σ := by
      intro v4 o4 o5 y1 y2
      have n0 : ¬ m_second σ k b ch → pb_b_M_holder_121 x 213 Q [some (.inr 165), some (.inl b), some (.inl ch), some (.inl k), some (.inl v4), o5] [.inl 0] 213 σ := fun y => k121 v4 0 o5 (fun z => fun q => q.elim (y1 z.1) y) (fun z => Or.inl (y2 (fun q => z ⟨q, rfl⟩)))
      have n1 : m_second σ k b ch → pb_b_M_holder_121 x 213 Q [some (.inr 165), some (.inl b), some (.inl ch), some (.inl k), some (.inl v4), o5] [.inl 1] 213 σ := fun y => k121 v4 1 o5 (fun z => absurd z.2 (by decide)) (fun z => Or.inr y)
      simp only [pb_b_M_holder_59, pb_b_M_holder_116, pb_b_M_holder_120, pb_iconst, pb_null, pb_iload, pb_aload, pb_istore, pb_astore, pb_iinc, pb_bin, pb_bin0, pb_dup, pb_pop, pb_dup2, pb_if, pb_icmp, pb_ifnull, pb_getI, pb_getR, pb_putI, pb_putZ, pb_putR, pb_alen, pb_ald, pb_aldR, pb_ast, pb_astZ, pb_astR, pb_vret, pb_iret, pb_zret, pb_aret, pb_cv, pb_cr, pb_sr, pb_switch, pb_sw, pb_nth, pb_set, pb_tk, pb_add, pb_sub, List.length_cons, List.length_nil, true_or, or_true, true_and, and_true, and_self, pb_up_same, pb_up_f, ne_eq, Nat.reduceEqDiff, not_false_eq_true, Nat.reduceAdd, Nat.reduceLeDiff, Nat.zero_le, is_M, mf_calledBus h.1, mk_calledBus, ml_calledBus, mf_calledChannel h.1, mk_calledChannel, ml_calledChannel, mf_winner h.1, mk_winner, ml_winner, mf_leg h.1, mk_leg, ml_leg, hs, e3]
      refine ⟨fun z => n0 (fun y => z y.1), fun z => ⟨fun z2 => n0 (fun y => z2 y.2.1), fun z2 => ?_⟩⟩
      refine c_M_open h hs (fun z3 => ?_) (fun z3 => ?_)
      · simp only [pb_iconst, pb_null, pb_iload, pb_aload, pb_istore, pb_astore, pb_iinc, pb_bin, pb_bin0, pb_dup, pb_pop, pb_dup2, pb_if, pb_icmp, pb_ifnull, pb_getI, pb_getR, pb_putI, pb_putZ, pb_putR, pb_alen, pb_ald, pb_aldR, pb_ast, pb_astZ, pb_astR, pb_vret, pb_iret, pb_zret, pb_aret, pb_cv, pb_cr, pb_sr, pb_switch, pb_sw, pb_nth, pb_set, pb_tk, pb_add, pb_sub, List.length_cons, List.length_nil, true_or, or_true, true_and, and_true, and_self, pb_up_same, pb_up_f, ne_eq, Nat.reduceEqDiff, not_false_eq_true, Nat.reduceAdd, Nat.reduceLeDiff, Nat.zero_le]
        exact ⟨fun _ => n1 ⟨Decidable.not_not.mp z, Decidable.not_not.mp z2, Or.inl z3⟩, fun z4 => absurd (by decide) z4⟩
      · simp only [pb_iconst, pb_null, pb_iload, pb_aload, pb_istore, pb_astore, pb_iinc, pb_bin, pb_bin0, pb_dup, pb_pop, pb_dup2, pb_if, pb_icmp, pb_ifnull, pb_getI, pb_getR, pb_putI, pb_putZ, pb_putR, pb_alen, pb_ald, pb_aldR, pb_ast, pb_astZ, pb_astR, pb_vret, pb_iret, pb_zret, pb_aret, pb_cv, pb_cr, pb_sr, pb_switch, pb_sw, pb_nth, pb_set, pb_tk, pb_add, pb_sub, List.length_cons, List.length_nil, true_or, or_true, true_and, and_true, and_self, pb_up_same, pb_up_f, ne_eq, Nat.reduceEqDiff, not_false_eq_true, Nat.reduceAdd, Nat.reduceLeDiff, Nat.zero_le, is_M, mf_calledBus h.1, mk_calledBus, ml_calledBus, mf_calledChannel h.1, mk_calledChannel, ml_calledChannel, mf_winner h.1, mk_winner, ml_winner, mf_leg h.1, mk_leg, ml_leg, hs, e3]
        refine ⟨fun z4 => absurd trivial z4, fun _ => ⟨fun z4 => n0 (fun y => y.2.2.elim z3 (fun q => by omega)), fun z4 => ?_⟩⟩
        have e4 : pb_w (4 * (k : Int) + σ 0 210 k) = 4 * k + σ 0 210 k := pb_w_id (by unfold pb_R; omega)
        rw [e4]
        exact ⟨by omega, fun z5 => n0 (fun y => y.2.2.elim z3 (fun q => q.2 z5)), fun z5 => n1 ⟨Decidable.not_not.mp z, Decidable.not_not.mp z2, Or.inr ⟨by omega, z5⟩⟩⟩
    refine pb_s_M_holder_20 x 213 Q _ _ _ _ ?_
    simp only [pb_b_M_holder_20, pb_b_M_holder_58, pb_iconst, pb_null, pb_iload, pb_aload, pb_istore, pb_astore, pb_iinc, pb_bin, pb_bin0, pb_dup, pb_pop, pb_dup2, pb_if, pb_icmp, pb_ifnull, pb_getI, pb_getR, pb_putI, pb_putZ, pb_putR, pb_alen, pb_ald, pb_aldR, pb_ast, pb_astZ, pb_astR, pb_vret, pb_iret, pb_zret, pb_aret, pb_cv, pb_cr, pb_sr, pb_switch, pb_sw, pb_nth, pb_set, pb_tk, pb_add, pb_sub, List.length_cons, List.length_nil, true_or, or_true, true_and, and_true, and_self, pb_up_same, pb_up_f, ne_eq, Nat.reduceEqDiff, not_false_eq_true, Nat.reduceAdd, Nat.reduceLeDiff, Nat.zero_le, is_M, mf_caller h.1, mk_caller, ml_caller, mf_callerBus h.1, mk_callerBus, ml_callerBus, mf_callerChannel h.1, mk_callerChannel, ml_callerChannel, hs]
    refine ⟨fun z => absurd z (by omega), fun _ => ⟨fun z => k59 0 _ _ (fun _ y => y.1 z) (fun y => absurd rfl y), fun z => ⟨fun z2 => k59 0 _ _ (fun _ y => z2 y.2.1) (fun y => absurd rfl y), fun z2 => ⟨fun z3 => k59 0 _ _ (fun _ y => z3 y.2.2) (fun y => absurd rfl y), fun z3 => k59 1 _ _ (fun y => absurd y (by decide)) (fun _ => ⟨z, Decidable.not_not.mp z2, Decidable.not_not.mp z3⟩)⟩⟩⟩⟩
theorem c_M_holder (h : RM σ T E w ν) (hA : ∀ f ∈ E.2.2, g_held w f) (hN : g_num E.2.2) (hU : g_uq E.2.2) (h1 : (0 ≤ b ∧ b < 2) ∧ (0 ≤ ch ∧ ch < 2) → Q (.inl (g_hold E.2.2 b ch)) σ) (h0 : ¬ ((0 ≤ b ∧ b < 2) ∧ (0 ≤ ch ∧ ch < 2)) → Q (.inl (-1)) σ) : pb_MJ x i_M_holder [.inr 165, .inl b, .inl ch] 213 σ Q := by
  refine pb_m_M_holder ?_
  simp only [pb_b_M_holder_0, pb_b_M_holder_16, pb_iconst, pb_null, pb_iload, pb_aload, pb_istore, pb_astore, pb_iinc, pb_bin, pb_bin0, pb_dup, pb_pop, pb_dup2, pb_if, pb_icmp, pb_ifnull, pb_getI, pb_getR, pb_putI, pb_putZ, pb_putR, pb_alen, pb_ald, pb_aldR, pb_ast, pb_astZ, pb_astR, pb_vret, pb_iret, pb_zret, pb_aret, pb_cv, pb_cr, pb_sr, pb_switch, pb_sw, pb_nth, pb_set, pb_tk, pb_add, pb_sub, List.length_cons, List.length_nil, true_or, or_true, true_and, and_true, and_self, pb_up_same, pb_up_f, ne_eq, Nat.reduceEqDiff, not_false_eq_true, Nat.reduceAdd, Nat.reduceLeDiff, Nat.zero_le]
  refine c_M_isBus (fun hb => ?_) (fun hb => ?_)
  · simp only [pb_b_M_holder_18, pb_iconst, pb_null, pb_iload, pb_aload, pb_istore, pb_astore, pb_iinc, pb_bin, pb_bin0, pb_dup, pb_pop, pb_dup2, pb_if, pb_icmp, pb_ifnull, pb_getI, pb_getR, pb_putI, pb_putZ, pb_putR, pb_alen, pb_ald, pb_aldR, pb_ast, pb_astZ, pb_astR, pb_vret, pb_iret, pb_zret, pb_aret, pb_cv, pb_cr, pb_sr, pb_switch, pb_sw, pb_nth, pb_set, pb_tk, pb_add, pb_sub, List.length_cons, List.length_nil, true_or, or_true, true_and, and_true, and_self, pb_up_same, pb_up_f, ne_eq, Nat.reduceEqDiff, not_false_eq_true, Nat.reduceAdd, Nat.reduceLeDiff, Nat.zero_le]
    refine ⟨fun z => absurd z (by decide), fun _ => ⟨fun z => h0 (by omega), fun z => ⟨fun z2 => ?_, fun z2 => h0 (by omega)⟩⟩⟩
    exact l_M_holder h hA hN hU (h1 ⟨hb, by omega⟩) 4 0 rfl (fun i f z1 z2 => by have := (r_1 h z1 (hA f (List.mem_of_getElem? z1))).1; omega) none none
  · simp only [pb_iconst, pb_null, pb_iload, pb_aload, pb_istore, pb_astore, pb_iinc, pb_bin, pb_bin0, pb_dup, pb_pop, pb_dup2, pb_if, pb_icmp, pb_ifnull, pb_getI, pb_getR, pb_putI, pb_putZ, pb_putR, pb_alen, pb_ald, pb_aldR, pb_ast, pb_astZ, pb_astR, pb_vret, pb_iret, pb_zret, pb_aret, pb_cv, pb_cr, pb_sr, pb_switch, pb_sw, pb_nth, pb_set, pb_tk, pb_add, pb_sub, List.length_cons, List.length_nil, true_or, or_true, true_and, and_true, and_self, pb_up_same, pb_up_f, ne_eq, Nat.reduceEqDiff, not_false_eq_true, Nat.reduceAdd, Nat.reduceLeDiff, Nat.zero_le]
    exact ⟨fun _ => h0 (fun y => hb y.1), fun z => absurd trivial z⟩
/-- the model's way: a free channel of the bus b, but not m on the bus p -/
theorem c_M_freeChannel {p m be : Int} (h : RM σ T E w ν) (hA : ∀ f ∈ E.2.2, g_held w f) (hN : g_num E.2.2) (hU : g_uq E.2.2) (hb : 0 ≤ b ∧ b < 2) (hbe : ∀ c : Int, 0 ≤ c → c < 2 → ((b = p ∧ c = m) ↔ c = be)) (hQ : Q (.inl (g_freeCh E.2.2 b be)) σ) : pb_MJ x i_M_freeChannel [.inr 165, .inl b, .inl p, .inl m] 213 σ Q := by
  unfold g_freeCh at hQ
  have step : ∀ c : Int, 0 ≤ c ∧ c < 2 → (¬ c = be ∧ g_hold E.2.2 b c = 0 → Q (.inl c) σ) → (¬ (¬ c = be ∧ g_hold E.2.2 b c = 0) → pb_WJ x i_M_freeChannel 213 Q 3 [some (.inr 165), some (.inl b), some (.inl p), some (.inl m), some (.inl (c + 1))] [] 213 σ) → pb_WJ x i_M_freeChannel 213 Q 3 [some (.inr 165), some (.inl b), some (.inl p), some (.inl m), some (.inl c)] [] 213 σ := by
    intro c hc y1 y2
    have e : pb_w (c + 1) = c + 1 := pb_w_id (by unfold pb_R; omega)
    refine pb_s_M_freeChannel_3 x 213 Q _ _ _ _ ?_
    simp only [pb_b_M_freeChannel_3, pb_iconst, pb_null, pb_iload, pb_aload, pb_istore, pb_astore, pb_iinc, pb_bin, pb_bin0, pb_dup, pb_pop, pb_dup2, pb_if, pb_icmp, pb_ifnull, pb_getI, pb_getR, pb_putI, pb_putZ, pb_putR, pb_alen, pb_ald, pb_aldR, pb_ast, pb_astZ, pb_astR, pb_vret, pb_iret, pb_zret, pb_aret, pb_cv, pb_cr, pb_sr, pb_switch, pb_sw, pb_nth, pb_set, pb_tk, pb_add, pb_sub, List.length_cons, List.length_nil, true_or, or_true, true_and, and_true, and_self, pb_up_same, pb_up_f, ne_eq, Nat.reduceEqDiff, not_false_eq_true, Nat.reduceAdd, Nat.reduceLeDiff, Nat.zero_le, is_M]
    refine ⟨fun z => absurd z (by omega), fun _ => ?_⟩
    refine c_M_holder h hA hN hU (fun _ => ?_) (fun z => absurd ⟨hb, hc⟩ z)
    simp only [pb_b_M_freeChannel_30, pb_b_M_freeChannel_33, pb_iconst, pb_null, pb_iload, pb_aload, pb_istore, pb_astore, pb_iinc, pb_bin, pb_bin0, pb_dup, pb_pop, pb_dup2, pb_if, pb_icmp, pb_ifnull, pb_getI, pb_getR, pb_putI, pb_putZ, pb_putR, pb_alen, pb_ald, pb_aldR, pb_ast, pb_astZ, pb_astR, pb_vret, pb_iret, pb_zret, pb_aret, pb_cv, pb_cr, pb_sr, pb_switch, pb_sw, pb_nth, pb_set, pb_tk, pb_add, pb_sub, List.length_cons, List.length_nil, true_or, or_true, true_and, and_true, and_self, pb_up_same, pb_up_f, ne_eq, Nat.reduceEqDiff, not_false_eq_true, Nat.reduceAdd, Nat.reduceLeDiff, Nat.zero_le, e]
    have := hbe c hc.1 hc.2
    exact ⟨fun z => y2 (fun y => z y.2), fun z => ⟨fun z2 => y1 ⟨fun y => z2 (this.mpr y).1, Decidable.not_not.mp z⟩, fun z2 => ⟨fun z3 => y2 (fun y => y.1 (this.mp ⟨Decidable.not_not.mp z2, z3⟩)), fun z3 => y1 ⟨fun y => z3 (this.mpr y).2, Decidable.not_not.mp z⟩⟩⟩⟩
  refine pb_m_M_freeChannel ?_
  simp only [pb_b_M_freeChannel_0, pb_iconst, pb_null, pb_iload, pb_aload, pb_istore, pb_astore, pb_iinc, pb_bin, pb_bin0, pb_dup, pb_pop, pb_dup2, pb_if, pb_icmp, pb_ifnull, pb_getI, pb_getR, pb_putI, pb_putZ, pb_putR, pb_alen, pb_ald, pb_aldR, pb_ast, pb_astZ, pb_astR, pb_vret, pb_iret, pb_zret, pb_aret, pb_cv, pb_cr, pb_sr, pb_switch, pb_sw, pb_nth, pb_set, pb_tk, pb_add, pb_sub, List.length_cons, List.length_nil, true_or, or_true, true_and, and_true, and_self, pb_up_same, pb_up_f, ne_eq, Nat.reduceEqDiff, not_false_eq_true, Nat.reduceAdd, Nat.reduceLeDiff, Nat.zero_le]
  refine step 0 (by omega) (fun z => ?_) (fun z => step (0 + 1) (by omega) (fun z2 => ?_) (fun z2 => ?_))
  · rw [if_pos z] at hQ
    exact hQ
  · have z3 : ¬ 1 = be ∧ g_hold E.2.2 b 1 = 0 := z2
    rw [if_neg z, if_pos z3] at hQ
    exact hQ
  · have z3 : ¬ (¬ 1 = be ∧ g_hold E.2.2 b 1 = 0) := z2
    rw [if_neg z, if_neg z3] at hQ
    refine pb_s_M_freeChannel_3 x 213 Q _ _ _ _ ?_
    simp only [pb_b_M_freeChannel_3, pb_b_M_freeChannel_39, pb_iconst, pb_null, pb_iload, pb_aload, pb_istore, pb_astore, pb_iinc, pb_bin, pb_bin0, pb_dup, pb_pop, pb_dup2, pb_if, pb_icmp, pb_ifnull, pb_getI, pb_getR, pb_putI, pb_putZ, pb_putR, pb_alen, pb_ald, pb_aldR, pb_ast, pb_astZ, pb_astR, pb_vret, pb_iret, pb_zret, pb_aret, pb_cv, pb_cr, pb_sr, pb_switch, pb_sw, pb_nth, pb_set, pb_tk, pb_add, pb_sub, List.length_cons, List.length_nil, true_or, or_true, true_and, and_true, and_self, pb_up_same, pb_up_f, ne_eq, Nat.reduceEqDiff, not_false_eq_true, Nat.reduceAdd, Nat.reduceLeDiff, Nat.zero_le]
    exact ⟨fun _ => hQ, fun z => absurd (by decide) z⟩
end MHD
