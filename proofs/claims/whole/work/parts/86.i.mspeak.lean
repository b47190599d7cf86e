/-! speech, on the other side -/
def g_talk (f : gC) : Prop := f 2 = 3 ∧ f 9 = 1
section GSP
variable {T T' : gT} {c : List gC} {b ch : Int} {i : Nat} {f : gC} {n : Int}
theorem g_comes_eq (h : ∀ k t, k = 7 ∨ k = 9 ∨ k = 11 → T'.1 k t = T.1 k t) (b ch : Int) : ∀ k, g_comes T' b ch k = g_comes T b ch k
  | 0 => rfl
  | k + 1 => by
    unfold g_comes
    rw [h 7 _ (by omega), h 9 _ (by omega), h 11 _ (by omega), g_comes_eq h b ch k]
theorem g_goesK_eq (h : ∀ k t, k = 7 ∨ k = 9 ∨ k = 11 → T'.1 k t = T.1 k t) (b ch : Int) : ∀ d k, g_goesK T' c b ch d k = g_goesK T c b ch d k := by
  intro d
  induction d with
  | zero => exact fun _ => rfl
  | succ d ih =>
    intro k
    unfold g_goesK
    rw [ih]
    cases c[k]? with
    | none => rfl
    | some f =>
      dsimp only
      rw [g_comes_eq h, g_comes_eq h]
theorem g_goesK_none : ∀ (d k : Nat), (∀ (j : Nat) (f : gC), c[j]? = some f → g_talk f → ¬ (f 5 = b ∧ f 8 = ch) ∧ ¬ (f 10 = b ∧ f 11 = ch)) → g_goesK T c b ch d k = 255 := by
  intro d
  induction d with
  | zero => exact fun _ _ => rfl
  | succ d ih =>
    intro k h
    unfold g_goesK
    cases hc : c[k]? with
    | none => rfl
    | some f =>
      dsimp only
      by_cases z : f 2 = 3 ∧ f 9 = 1
      · have := h k f hc z
        rw [if_pos z, if_neg this.1, if_neg this.2]
        exact ih (k + 1) h
      · rw [if_neg z]
        exact ih (k + 1) h
theorem g_goesK_some {v : Int} (hi : c[i]? = some f) (ht : g_talk f) (hv : (f 5 = b ∧ f 8 = ch ∧ v = g_comes T (f 10) (f 11) 4) ∨ (¬ (f 5 = b ∧ f 8 = ch) ∧ f 10 = b ∧ f 11 = ch ∧ v = g_comes T (f 5) (f 8) 4)) : ∀ (d k : Nat), k ≤ i → i < k + d → (∀ (j : Nat) (g : gC), j < i → c[j]? = some g → g_talk g → ¬ (g 5 = b ∧ g 8 = ch) ∧ ¬ (g 10 = b ∧ g 11 = ch)) → g_goesK T c b ch d k = v := by
  intro d
  induction d with
  | zero => exact fun k q1 q2 _ => absurd q1 (by omega)
  | succ d ih =>
    intro k q1 q2 h
    unfold g_goesK
    by_cases z : k = i
    · subst z
      rw [hi]
      dsimp only
      rw [if_pos (show f 2 = 3 ∧ f 9 = 1 from ht)]
      rcases hv with ⟨v1, v2, v3⟩ | ⟨v0, v1, v2, v3⟩
      · rw [if_pos ⟨v1, v2⟩]
        exact v3.symm
      · rw [if_neg v0, if_pos ⟨v1, v2⟩]
        exact v3.symm
    · have hl := (List.getElem?_eq_some_iff.mp hi).1
      have hk : c[k]? = some c[k] := List.getElem?_eq_getElem (by omega)
      rw [hk]
      dsimp only
      by_cases z2 : c[k] 2 = 3 ∧ c[k] 9 = 1
      · have := h k _ (by omega) hk z2
        rw [if_pos z2, if_neg this.1, if_neg this.2]
        exact ih (k + 1) (by omega) (by omega) h
      · rw [if_neg z2]
        exact ih (k + 1) (by omega) (by omega) h
theorem g_talk_holds (h : i_C n f) (ht : g_talk f) (hm : (f 5 = b ∧ f 8 = ch) ∨ (f 10 = b ∧ f 11 = ch)) : g_holds f b ch := by
  rcases hm with y | y
  · exact Or.inl ⟨by rw [ht.2]; decide, y⟩
  · refine Or.inr ⟨y.1, y.2, Or.inr ?_⟩
    rw [h.2.2.2.2.2.2.2.2.2.1 ht.1]
    decide
theorem g_goes_some {v : Int} (hC : IC n c) (hi : c[i]? = some f) (ht : g_talk f) (hv : (f 5 = b ∧ f 8 = ch ∧ v = g_comes T (f 10) (f 11) 4) ∨ (f 10 = b ∧ f 11 = ch ∧ v = g_comes T (f 5) (f 8) 4)) : g_goes T c b ch = v := by
  have hf := hC.1 f (List.mem_of_getElem? hi)
  have hm : (f 5 = b ∧ f 8 = ch) ∨ (f 10 = b ∧ f 11 = ch) := hv.imp (fun y => ⟨y.1, y.2.1⟩) (fun y => ⟨y.1, y.2.1⟩)
  refine g_goesK_some hi ht ?_ c.length 0 (Nat.zero_le _) (by have := (List.getElem?_eq_some_iff.mp hi).1; omega) (fun j g q1 q2 q3 => ?_)
  · rcases hv with y | y
    · exact Or.inl y
    · refine Or.inr ⟨fun q => hf.2.2.2.2.2.2.2.1 ⟨by omega, by omega⟩, y⟩
  · have hno : ¬ ((g 5 = b ∧ g 8 = ch) ∨ (g 10 = b ∧ g 11 = ch)) := fun y => by
      have := hC.uq j i g f b ch q2 hi (g_talk_holds (hC.1 g (List.mem_of_getElem? q2)) q3 y) (g_talk_holds hf ht hm)
      omega
    exact ⟨fun y => hno (Or.inl y), fun y => hno (Or.inr y)⟩
end GSP
section MSP
variable {x : pb_E} {σ σ' : pb_H} {T : gT} {E : gE} {w : gW} {ν : pb_H} {b a s t u r ch : Int} {Q : pb_P} {i : Nat} {n : Int} {v : Int → Int} {m : Nat} {f : gC}
theorem l_M_comes (h : RM σ T E w ν) (hb : 0 ≤ b ∧ b < 2) (hI : IT T) (hQ : Q (.inl (g_comes T b ch 4)) σ) : ∀ (d k : Nat), k + d = 4 → pb_WJ x i_M_comes 213 Q 9 [some (.inr 165), some (.inl b), some (.inl ch), some (.inl (g_comes T b ch k)), some (.inl (4 * b + k))] [] 213 σ := by
  intro d
  have e0 : pb_mul 4 b = 4 * b := by unfold pb_mul; exact pb_w_id (by unfold pb_R; omega)
  have e1 : pb_w (4 * b + 4) = 4 * b + 4 := pb_w_id (by unfold pb_R; omega)
  induction d with
  | zero =>
    intro k hk
    obtain rfl : k = 4 := by omega
    refine pb_s_M_comes_9 x 213 Q _ _ _ _ ?_
    simp only [pb_b_M_comes_9, pb_b_M_comes_68, pb_iconst, pb_null, pb_iload, pb_aload, pb_istore, pb_astore, pb_iinc, pb_bin, pb_bin0, pb_dup, pb_pop, pb_dup2, pb_if, pb_icmp, pb_ifnull, pb_getI, pb_getR, pb_putI, pb_putZ, pb_putR, pb_alen, pb_ald, pb_aldR, pb_ast, pb_astZ, pb_astR, pb_vret, pb_iret, pb_zret, pb_aret, pb_cv, pb_cr, pb_sr, pb_switch, pb_sw, pb_nth, pb_set, pb_tk, pb_add, pb_sub, List.length_cons, List.length_nil, true_or, or_true, true_and, and_true, and_self, pb_up_same, pb_up_f, ne_eq, Nat.reduceEqDiff, not_false_eq_true, Nat.reduceAdd, Nat.reduceLeDiff, Nat.zero_le, e0, e1]
    exact ⟨fun _ => hQ, fun z => absurd z (by omega)⟩
  | succ d ih =>
    intro k hk
    have ht : 0 ≤ 4 * b + (k : Int) ∧ 4 * b + (k : Int) < 8 := by omega
    have e : pb_w (4 * b + (k : Int) + 1) = 4 * b + ((k + 1 : Nat) : Int) := by rw [pb_w_id (by unfold pb_R; omega)]; omega
    have a1 := m_T h 166 1 rfl ⟨by decide, by decide⟩ ht (Or.inr (by unfold g_mu; decide))
    have ih2 := ih (k + 1) (by omega)
    have es : g_comes T b ch (k + 1) = if T.1 7 (4 * b + k) = 6 ∧ T.1 9 (4 * b + k) = ch then pb_and (g_comes T b ch k) (T.1 11 (4 * b + k)) else g_comes T b ch k := rfl
    rw [es] at ih2
    refine pb_s_M_comes_9 x 213 Q _ _ _ _ ?_
    simp only [pb_b_M_comes_9, pb_b_M_comes_62, pb_iconst, pb_null, pb_iload, pb_aload, pb_istore, pb_astore, pb_iinc, pb_bin, pb_bin0, pb_dup, pb_pop, pb_dup2, pb_if, pb_icmp, pb_ifnull, pb_getI, pb_getR, pb_putI, pb_putZ, pb_putR, pb_alen, pb_ald, pb_aldR, pb_ast, pb_astZ, pb_astR, pb_vret, pb_iret, pb_zret, pb_aret, pb_cv, pb_cr, pb_sr, pb_switch, pb_sw, pb_nth, pb_set, pb_tk, pb_add, pb_sub, List.length_cons, List.length_nil, true_or, or_true, true_and, and_true, and_self, pb_up_same, pb_up_f, ne_eq, Nat.reduceEqDiff, not_false_eq_true, Nat.reduceAdd, Nat.reduceLeDiff, Nat.zero_le, is_M, mf_there h.1, mk_there, ml_there, ht, a1, e0, e1, e]
    refine ⟨fun z => absurd z (by omega), fun _ => ⟨fun z => ?_, fun z => ?_⟩⟩
    · have q : T.1 7 (4 * b + k) = 0 := ((hI (4 * b + k)).2.2.2.1 z).2.1
      rw [if_neg (by omega)] at ih2
      exact ih2
    · have a7 := m_T h 170 7 rfl ⟨by decide, by decide⟩ ht (Or.inl z)
      have a9 := m_T h 172 9 rfl ⟨by decide, by decide⟩ ht (Or.inl z)
      have a11 := m_T h 173 11 rfl ⟨by decide, by decide⟩ ht (Or.inl z)
      simp only [is_M, mf_state h.1, mk_state, ml_state, mf_channel h.1, mk_channel, ml_channel, mf_mouth h.1, mk_mouth, ml_mouth, ht, a7, a9, a11, true_and, and_true]
      refine ⟨fun z2 => ?_, fun z2 => ⟨fun z3 => ?_, fun z3 => ?_⟩⟩
      · rw [if_neg (fun y => z2 y.1)] at ih2
        exact ih2
      · rw [if_neg (fun y => z3 y.2)] at ih2
        exact ih2
      · rw [if_pos ⟨Decidable.not_not.mp z2, Decidable.not_not.mp z3⟩] at ih2
        exact ih2
theorem c_M_comes (h : RM σ T E w ν) (hb : 0 ≤ b ∧ b < 2) (hI : IT T) (hQ : Q (.inl (g_comes T b ch 4)) σ) : pb_MJ x i_M_comes [.inr 165, .inl b, .inl ch] 213 σ Q := by
  have e0 : pb_mul 4 b = 4 * b := by unfold pb_mul; exact pb_w_id (by unfold pb_R; omega)
  refine pb_m_M_comes ?_
  simp only [pb_b_M_comes_0, pb_iconst, pb_null, pb_iload, pb_aload, pb_istore, pb_astore, pb_iinc, pb_bin, pb_bin0, pb_dup, pb_pop, pb_dup2, pb_if, pb_icmp, pb_ifnull, pb_getI, pb_getR, pb_putI, pb_putZ, pb_putR, pb_alen, pb_ald, pb_aldR, pb_ast, pb_astZ, pb_astR, pb_vret, pb_iret, pb_zret, pb_aret, pb_cv, pb_cr, pb_sr, pb_switch, pb_sw, pb_nth, pb_set, pb_tk, pb_add, pb_sub, List.length_cons, List.length_nil, true_or, or_true, true_and, and_true, and_self, pb_up_same, pb_up_f, ne_eq, Nat.reduceEqDiff, not_false_eq_true, Nat.reduceAdd, Nat.reduceLeDiff, Nat.zero_le, e0]
  have := l_M_comes (x := x) h hb hI hQ 4 0 rfl
  rw [show 4 * b + ((0 : Nat) : Int) = 4 * b by omega] at this
  exact this
theorem rm_212 {z : Int} (h : RM σ T E w ν) : RM (pb_up σ 0 212 i z) T E w ν := by
  obtain ⟨h1, h2, h3, h4, h5, h6, h7, h8, h9⟩ := h
  refine ⟨h1.cg (fun f i q1 q2 => pb_up_f (by omega)), h2.cg (fun p i q1 q2 => pb_up_p (by omega)), h3.cg (fun p i q1 q2 => pb_up_p (by omega)), h4.cg (fun p i q1 q2 => pb_up_p (by omega)), h5.cg (fun p i q1 q2 => pb_up_p (by omega)), h6.cg (fun p i q1 q2 => pb_up_p (by omega)), h7.cg (fun f q => pb_up_f (by omega)), h8.cg (fun p i q1 q2 => pb_up_p (by omega)), fun f p i hk => ?_⟩
  rw [pb_up_k (fun y => hk (by unfold k_K; omega))]
  exact h9 f p i hk
theorem rm_212i {z j : Int} (h : RM σ T E w ν) : RM (pb_up σ 0 212 j z) T E w ν := by
  obtain ⟨h1, h2, h3, h4, h5, h6, h7, h8, h9⟩ := h
  refine ⟨h1.cg (fun f i q1 q2 => pb_up_f (by omega)), h2.cg (fun p i q1 q2 => pb_up_p (by omega)), h3.cg (fun p i q1 q2 => pb_up_p (by omega)), h4.cg (fun p i q1 q2 => pb_up_p (by omega)), h5.cg (fun p i q1 q2 => pb_up_p (by omega)), h6.cg (fun p i q1 q2 => pb_up_p (by omega)), h7.cg (fun f q => pb_up_f (by omega)), h8.cg (fun p i q1 q2 => pb_up_p (by omega)), fun f p i hk => ?_⟩
  rw [pb_up_k (fun y => hk (by unfold k_K; omega))]
  exact h9 f p i hk
def g_hears (σ : pb_H) (T : gT) (c : List gC) : Prop := ∀ b ch : Int, 0 ≤ b → b < 2 → 0 ≤ ch → ch < 2 → σ 0 212 (2 * b + ch) = g_goes T c b ch
theorem l_M_speak138 {T0 : gT} (hb : 0 ≤ b ∧ b < 2) (hI : IT T0) (hI2 : IT T) (hT : ∀ k t, k = 7 ∨ k = 9 ∨ k = 11 → T.1 k t = T0.1 k t) (hN : ∀ (σ' : pb_H) (o2 : Option pb_V), RM σ' (g_it (g_carry E.2.2 b) b T 4) E w ν → g_hears σ' T0 E.2.2 → pb_WJ x i_M_speak 213 Q 138 [some (.inr 165), some (.inl (4 * b + 4)), o2] [] 213 σ') : ∀ (d k : Nat), k + d = 4 → ∀ (σ : pb_H) (o2 : Option pb_V), RM σ (g_it (g_carry E.2.2 b) b T k) E w ν → g_hears σ T0 E.2.2 → pb_WJ x i_M_speak 213 Q 138 [some (.inr 165), some (.inl (4 * b + k)), o2] [] 213 σ := by
  intro d
  induction d with
  | zero =>
    intro k hk σ o2 h hS
    obtain rfl : k = 4 := by omega
    exact hN σ o2 h hS
  | succ d ih =>
    intro k hk σ o2 h hS
    have ht : 0 ≤ 4 * b + (k : Int) ∧ 4 * b + (k : Int) < 8 := by omega
    have e : pb_w (4 * b + (k : Int) + 1) = 4 * b + ((k + 1 : Nat) : Int) := by rw [pb_w_id (by unfold pb_R; omega)]; omega
    have ed : pb_div (4 * b + (k : Int)) 4 = b := by
      rw [pb_div_pos (by unfold pb_R; omega) (by omega) (by unfold pb_R; omega) (by omega)]
      omega
    have e2b : pb_mul 2 b = 2 * b := by unfold pb_mul; exact pb_w_id (by unfold pb_R; omega)
    have hkeep : ∀ (j : Nat) (k' : Nat) (t' : Int), k' ≠ 12 → (g_it (g_carry E.2.2 b) b T j).1 k' t' = T.1 k' t' := by
      intro j
      induction j with
      | zero => exact fun _ _ _ => rfl
      | succ j ihj => exact fun k' t' z => (gt_set_k z).trans (ihj k' t' z)
    generalize hX : g_it (g_carry E.2.2 b) b T k = X at h
    have hXk : ∀ k' t', k' ≠ 12 → X.1 k' t' = T.1 k' t' := by rw [← hX]; exact hkeep k
    have es : g_it (g_carry E.2.2 b) b T (k + 1) = gt_set X 12 (4 * b + k) (if X.1 7 (4 * b + k) = 6 then g_goes X E.2.2 b (X.1 9 (4 * b + k)) else -1) := by rw [← hX]; rfl
    have hgo : ∀ c, g_goes X E.2.2 b c = g_goes T0 E.2.2 b c := fun c => g_goesK_eq (fun k' t' z => (hXk k' t' (by omega)).trans (hT k' t' z)) b c _ _
    have fin : ∀ z o2, z = (if X.1 7 (4 * b + k) = 6 then g_goes X E.2.2 b (X.1 9 (4 * b + k)) else -1) → pb_WJ x i_M_speak 213 Q 138 [some (.inr 165), some (.inl (4 * b + ((k + 1 : Nat) : Int))), o2] [] 213 (pb_up σ 0 174 (4 * b + k) z) := by
      intro z o2 hz
      have h1 := rm_upT (t := 4 * b + (k : Int)) (v := z) h 174 12 rfl ⟨by decide, by decide⟩
      refine ih (k + 1) (by omega) _ o2 (by rw [es, ← hz]; exact h1) (fun b' c' q1 q2 q3 q4 => ?_)
      rw [pb_up_p (by decide)]
      exact hS b' c' q1 q2 q3 q4
    have a1 := m_T h 166 1 rfl ⟨by decide, by decide⟩ ht (Or.inr (by unfold g_mu; decide))
    refine pb_s_M_speak_138 x 213 Q _ _ _ _ ?_
    simp only [pb_b_M_speak_138, pb_b_M_speak_177, pb_b_M_speak_178, pb_b_M_speak_208, pb_b_M_speak_209, pb_iconst, pb_null, pb_iload, pb_aload, pb_istore, pb_astore, pb_iinc, pb_bin, pb_bin0, pb_dup, pb_pop, pb_dup2, pb_if, pb_icmp, pb_ifnull, pb_getI, pb_getR, pb_putI, pb_putZ, pb_putR, pb_alen, pb_ald, pb_aldR, pb_ast, pb_astZ, pb_astR, pb_vret, pb_iret, pb_zret, pb_aret, pb_cv, pb_cr, pb_sr, pb_switch, pb_sw, pb_nth, pb_set, pb_tk, pb_add, pb_sub, List.length_cons, List.length_nil, true_or, or_true, true_and, and_true, and_self, pb_up_same, pb_up_f, ne_eq, Nat.reduceEqDiff, not_false_eq_true, Nat.reduceAdd, Nat.reduceLeDiff, Nat.zero_le, is_M, mf_there h.1, mk_there, ml_there, mf_ear h.1, mk_ear, ml_ear, ht, a1, e]
    refine ⟨fun z => absurd z (by omega), fun _ => ⟨fun z => ⟨fun _ => fin (-1) _ ?_, fun y => absurd trivial y⟩, fun z => ?_⟩⟩
    · have hp : T.1 1 (4 * b + k) = 0 := by rw [← hXk 1 _ (by decide)]; exact z
      have := ((hI2 (4 * b + k)).2.2.2.1 hp).2.1
      dsimp only at this
      rw [if_neg (by rw [hXk 7 _ (by decide)]; omega)]
    · have a7 := m_T h 170 7 rfl ⟨by decide, by decide⟩ ht (Or.inl z)
      have a9 := m_T h 172 9 rfl ⟨by decide, by decide⟩ ht (Or.inl z)
      simp only [is_M, mf_state h.1, mk_state, ml_state, mf_channel h.1, mk_channel, ml_channel, mf_speech h.1, mk_speech, ml_speech, ht, a7, a9, ed, e2b, true_and, and_true]
      have h69 : X.1 7 (4 * b + k) = 6 → X.1 9 (4 * b + k) = 0 ∨ X.1 9 (4 * b + k) = 1 := fun y => by
        have := (hI2 (4 * b + k)).2.2.2.2.2.2.2.1
        dsimp only at this
        rw [hXk 7 _ (by decide)] at y
        rw [hXk 9 _ (by decide)]
        exact this (by omega)
      refine ⟨fun z2 => ⟨fun _ => fin (-1) _ (by rw [if_neg z2]), fun y => absurd trivial y⟩, fun z2 => ⟨fun z3 => ?_, fun z3 => ?_⟩⟩
      · have := h69 (Decidable.not_not.mp z2)
        omega
      · have z4 := Decidable.not_not.mp z2
        have h01 := h69 z4
        have e3 : pb_w (2 * b + X.1 9 (4 * b + k)) = 2 * b + X.1 9 (4 * b + k) := pb_w_id (by unfold pb_R; omega)
        rw [e3, hS b (X.1 9 (4 * b + k)) hb.1 hb.2 (by omega) (by omega)]
        refine ⟨fun y => absurd y (by decide), fun _ => ⟨by decide, by omega, fin _ _ ?_⟩⟩
        rw [if_pos z4, hgo]
/-- what the slots below k have said -/
def g_said (σ : pb_H) (T : gT) (c : List gC) (w : gW) (k : Int) : Prop := ∀ b ch : Int, 0 ≤ b → b < 2 → 0 ≤ ch → ch < 2 → (∃ (i : Nat) (f : gC), c[i]? = some f ∧ g_talk f ∧ ((f 5 = b ∧ f 8 = ch ∧ σ 0 212 (2 * b + ch) = g_comes T (f 10) (f 11) 4) ∨ (f 10 = b ∧ f 11 = ch ∧ σ 0 212 (2 * b + ch) = g_comes T (f 5) (f 8) 4))) ∨ (σ 0 212 (2 * b + ch) = 255 ∧ ∀ f ∈ c, w.1 (f 1) < k → g_talk f → ¬ (f 5 = b ∧ f 8 = ch) ∧ ¬ (f 10 = b ∧ f 11 = ch))
theorem l_M_speak24 {o2 : Option pb_V} (hI : Inv m T E) (hN : ∀ σ', RM σ' T E (v, fun _ => False) ν → g_hears σ' T E.2.2 → pb_b_M_speak_136 x 213 Q [some (.inr 165), some (.inl 4), o2] [] 213 σ') : ∀ (d k : Nat), k + d = 4 → ∀ (σ : pb_H), RM σ T E (v, fun _ => False) ν → g_said σ T E.2.2 (v, fun _ => False) k → pb_WJ x i_M_speak 213 Q 24 [some (.inr 165), some (.inl k), o2] [] 213 σ := by
  obtain ⟨iT, iD, iL, iC, iA, il, iN⟩ := id hI
  have hA2 : ∀ f ∈ E.2.2, g_held (v, fun _ => False) f := fun f hf => Or.inl (iA f hf)
  intro d
  induction d with
  | zero =>
    intro k hk σ h hS
    obtain rfl : k = 4 := by omega
    refine pb_s_M_speak_24 x 213 Q _ _ _ _ ?_
    simp only [pb_b_M_speak_24, pb_iconst, pb_null, pb_iload, pb_aload, pb_istore, pb_astore, pb_iinc, pb_bin, pb_bin0, pb_dup, pb_pop, pb_dup2, pb_if, pb_icmp, pb_ifnull, pb_getI, pb_getR, pb_putI, pb_putZ, pb_putR, pb_alen, pb_ald, pb_aldR, pb_ast, pb_astZ, pb_astR, pb_vret, pb_iret, pb_zret, pb_aret, pb_cv, pb_cr, pb_sr, pb_switch, pb_sw, pb_nth, pb_set, pb_tk, pb_add, pb_sub, List.length_cons, List.length_nil, true_or, or_true, true_and, and_true, and_self, pb_up_same, pb_up_f, ne_eq, Nat.reduceEqDiff, not_false_eq_true, Nat.reduceAdd, Nat.reduceLeDiff, Nat.zero_le]
    refine ⟨fun _ => hN σ h (fun b ch q1 q2 q3 q4 => ?_), fun z => absurd (by decide) z⟩
    rcases hS b ch q1 q2 q3 q4 with ⟨i, f, y1, y2, y3⟩ | ⟨y1, y2⟩
    · exact (g_goes_some iC y1 y2 y3).symm
    · rw [y1]
      refine (g_goesK_none _ _ (fun j f z1 z2 => ?_)).symm
      have hf := List.mem_of_getElem? z1
      have := (r_1 h z1 (hA2 f hf)).1
      exact y2 f hf this.2 z2
  | succ d ih =>
    intro k hk σ h hS
    have e : pb_w ((k : Int) + 1) = ((k + 1 : Nat) : Int) := by rw [pb_w_id (by unfold pb_R; omega)]; omega
    have hs : 0 ≤ (k : Int) ∧ (k : Int) < 4 := by omega
    have nx : (∀ f ∈ E.2.2, v (f 1) = k → ¬ g_talk f) → pb_WJ x i_M_speak 213 Q 24 [some (.inr 165), some (.inl ((k + 1 : Nat) : Int)), o2] [] 213 σ := by
      intro y
      refine ih (k + 1) (by omega) σ h (fun b ch q1 q2 q3 q4 => ?_)
      rcases hS b ch q1 q2 q3 q4 with y1 | ⟨y1, y2⟩
      · exact Or.inl y1
      · refine Or.inr ⟨y1, fun f hf z1 z2 => ?_⟩
        by_cases z3 : v (f 1) = k
        · exact absurd z2 (y f hf z3)
        · refine y2 f hf ?_ z2
          have z1' : v (f 1) < ((k + 1 : Nat) : Int) := z1
          show v (f 1) < k
          omega
    refine pb_s_M_speak_24 x 213 Q _ _ _ _ ?_
    simp only [pb_b_M_speak_24, pb_b_M_speak_130, pb_iconst, pb_null, pb_iload, pb_aload, pb_istore, pb_astore, pb_iinc, pb_bin, pb_bin0, pb_dup, pb_pop, pb_dup2, pb_if, pb_icmp, pb_ifnull, pb_getI, pb_getR, pb_putI, pb_putZ, pb_putR, pb_alen, pb_ald, pb_aldR, pb_ast, pb_astZ, pb_astR, pb_vret, pb_iret, pb_zret, pb_aret, pb_cv, pb_cr, pb_sr, pb_switch, pb_sw, pb_nth, pb_set, pb_tk, pb_add, pb_sub, List.length_cons, List.length_nil, true_or, or_true, true_and, and_true, and_self, pb_up_same, pb_up_f, ne_eq, Nat.reduceEqDiff, not_false_eq_true, Nat.reduceAdd, Nat.reduceLeDiff, Nat.zero_le, is_M, mf_number h.1, mk_number, ml_number, mf_phase h.1, mk_phase, ml_phase, mf_caller h.1, mk_caller, ml_caller, hs, e]
    refine ⟨fun z => absurd z (by omega), fun _ => ?_⟩
    rcases r_slot h hs with ⟨i, f, q1, q2, q3, q4⟩ | ⟨q1, q2⟩
    · have hf := List.mem_of_getElem? q1
      have hC := iC.1 f hf
      have q3' : v (f 1) = k := q3
      have only : ∀ g ∈ E.2.2, v (g 1) = k → g = f := fun g hg y => by
        obtain ⟨j, hj⟩ := List.mem_iff_getElem?.mp hg
        have e2 := h.2.2.2.2.2.2.2.1.2.1 g hg f hf (hA2 g hg) (hA2 f hf) (by show v (g 1) = v (f 1); rw [y, q3'])
        have := iC.num.eq hj q1 e2
        subst this
        rw [q1] at hj
        exact (Option.some.inj hj).symm
      rw [q4.1, q4.2.2.2.2.2.2.2.2.1, q4.2.1]
      refine ⟨fun z => by have := hC.1.1; omega, fun _ => ⟨fun z => nx (fun g hg y t => ?_), fun z => ⟨fun z2 => nx (fun g hg y t => ?_), fun z2 => ?_⟩⟩⟩
      · rw [only g hg y] at t
        exact z t.1
      · rw [only g hg y] at t
        exact z2 (g_cc_1.mpr t.2)
      · have htk : g_talk f := ⟨Decidable.not_not.mp z, g_cc_1.mp (Decidable.not_not.mp z2)⟩
        have c5 := hC.2.1
        have c10 := hC.2.2.1
        have c8 := hC.2.2.2.2.2.1
        have c11 := hC.2.2.2.2.2.2.1
        have cd := hC.2.2.2.2.2.2.2.1
        have m1 : pb_mul 2 (f 5) = 2 * f 5 := by unfold pb_mul; exact pb_w_id (by unfold pb_R; omega)
        have m2 : pb_mul 2 (f 10) = 2 * f 10 := by unfold pb_mul; exact pb_w_id (by unfold pb_R; omega)
        have w1 : pb_w (2 * f 5 + f 8) = 2 * f 5 + f 8 := pb_w_id (by unfold pb_R; omega)
        have w2 : pb_w (2 * f 10 + f 11) = 2 * f 10 + f 11 := pb_w_id (by unfold pb_R; omega)
        simp only [is_M, mf_speech h.1, mk_speech, ml_speech, mf_callerBus h.1, mk_callerBus, ml_callerBus, mf_callerChannel h.1, mk_callerChannel, ml_callerChannel, mf_calledBus h.1, mk_calledBus, ml_calledBus, mf_calledChannel h.1, mk_calledChannel, ml_calledChannel, hs, q4.2.2.1, q4.2.2.2.2.2.1, q4.2.2.2.2.2.2.1, q4.2.2.2.2.2.2.2.1, m1, m2, w1, w2, true_and, and_true]
        refine c_M_comes h c10 iT ?_
        have h1 := rm_212i (j := 2 * f 5 + f 8) (z := g_comes T (f 10) (f 11) 4) h
        simp only [pb_iconst, pb_null, pb_iload, pb_aload, pb_istore, pb_astore, pb_iinc, pb_bin, pb_bin0, pb_dup, pb_pop, pb_dup2, pb_if, pb_icmp, pb_ifnull, pb_getI, pb_getR, pb_putI, pb_putZ, pb_putR, pb_alen, pb_ald, pb_aldR, pb_ast, pb_astZ, pb_astR, pb_vret, pb_iret, pb_zret, pb_aret, pb_cv, pb_cr, pb_sr, pb_switch, pb_sw, pb_nth, pb_set, pb_tk, pb_add, pb_sub, List.length_cons, List.length_nil, true_or, or_true, true_and, and_true, and_self, pb_up_same, pb_up_f, ne_eq, Nat.reduceEqDiff, not_false_eq_true, Nat.reduceAdd, Nat.reduceLeDiff, Nat.zero_le, is_M, mf_speech h.1, mk_speech, ml_speech, mf_callerBus h.1, mk_callerBus, ml_callerBus, mf_callerChannel h.1, mk_callerChannel, ml_callerChannel, mf_calledBus h.1, mk_calledBus, ml_calledBus, mf_calledChannel h.1, mk_calledChannel, ml_calledChannel, hs, pb_up_p, Int.reduceEq, q4.2.2.1, q4.2.2.2.2.2.1, q4.2.2.2.2.2.2.1, q4.2.2.2.2.2.2.2.1, m1, m2, w1, w2]
        refine ⟨by omega, ?_⟩
        refine c_M_comes h1 c5 iT ?_
        have h2 := rm_212i (j := 2 * f 10 + f 11) (z := g_comes T (f 5) (f 8) 4) h1
        simp only [pb_iconst, pb_null, pb_iload, pb_aload, pb_istore, pb_astore, pb_iinc, pb_bin, pb_bin0, pb_dup, pb_pop, pb_dup2, pb_if, pb_icmp, pb_ifnull, pb_getI, pb_getR, pb_putI, pb_putZ, pb_putR, pb_alen, pb_ald, pb_aldR, pb_ast, pb_astZ, pb_astR, pb_vret, pb_iret, pb_zret, pb_aret, pb_cv, pb_cr, pb_sr, pb_switch, pb_sw, pb_nth, pb_set, pb_tk, pb_add, pb_sub, List.length_cons, List.length_nil, true_or, or_true, true_and, and_true, and_self, pb_up_same, pb_up_f, ne_eq, Nat.reduceEqDiff, not_false_eq_true, Nat.reduceAdd, Nat.reduceLeDiff, Nat.zero_le, is_M, mf_speech h1.1, mk_speech, ml_speech, e]
        refine ⟨by omega, ih (k + 1) (by omega) _ h2 (fun b ch p1 p2 p3 p4 => ?_)⟩
        by_cases y1 : f 5 = b ∧ f 8 = ch
        · refine Or.inl ⟨i, f, q1, htk, Or.inl ⟨y1.1, y1.2, ?_⟩⟩
          rw [pb_up_i (by omega), ← y1.1, ← y1.2, pb_up_same]
        · by_cases y2 : f 10 = b ∧ f 11 = ch
          · refine Or.inl ⟨i, f, q1, htk, Or.inr ⟨y2.1, y2.2, ?_⟩⟩
            rw [← y2.1, ← y2.2, pb_up_same]
          · rw [pb_up_i (by omega), pb_up_i (by omega)]
            rcases hS b ch p1 p2 p3 p4 with y3 | ⟨y3, y4⟩
            · exact Or.inl y3
            · refine Or.inr ⟨y3, fun g hg z3 z4 => ?_⟩
              by_cases z5 : v (g 1) = k
              · rw [only g hg z5]
                exact ⟨y1, y2⟩
              · refine y4 g hg ?_ z4
                have z3' : v (g 1) < ((k + 1 : Nat) : Int) := z3
                show v (g 1) < k
                omega
    · rw [q2]
      refine ⟨fun _ => nx (fun g hg y => absurd y (q1 g hg (hA2 g hg))), fun z => absurd (by decide) z⟩
theorem l_M_speak2 {o2 : Option pb_V} (hN : ∀ σ', RM σ' T E w ν → (∀ j : Int, 0 ≤ j → j < 4 → σ' 0 212 j = 255) → pb_b_M_speak_22 x 213 Q [some (.inr 165), some (.inl 4), o2] [] 213 σ') : ∀ (d k : Nat), k + d = 4 → ∀ (σ : pb_H), RM σ T E w ν → (∀ j : Int, 0 ≤ j → j < k → σ 0 212 j = 255) → pb_WJ x i_M_speak 213 Q 2 [some (.inr 165), some (.inl k), o2] [] 213 σ := by
  intro d
  induction d with
  | zero =>
    intro k hk σ h hS
    obtain rfl : k = 4 := by omega
    refine pb_s_M_speak_2 x 213 Q _ _ _ _ ?_
    simp only [pb_b_M_speak_2, pb_iconst, pb_null, pb_iload, pb_aload, pb_istore, pb_astore, pb_iinc, pb_bin, pb_bin0, pb_dup, pb_pop, pb_dup2, pb_if, pb_icmp, pb_ifnull, pb_getI, pb_getR, pb_putI, pb_putZ, pb_putR, pb_alen, pb_ald, pb_aldR, pb_ast, pb_astZ, pb_astR, pb_vret, pb_iret, pb_zret, pb_aret, pb_cv, pb_cr, pb_sr, pb_switch, pb_sw, pb_nth, pb_set, pb_tk, pb_add, pb_sub, List.length_cons, List.length_nil, true_or, or_true, true_and, and_true, and_self, pb_up_same, pb_up_f, ne_eq, Nat.reduceEqDiff, not_false_eq_true, Nat.reduceAdd, Nat.reduceLeDiff, Nat.zero_le]
    exact ⟨fun _ => hN σ h hS, fun z => absurd (by decide) z⟩
  | succ d ih =>
    intro k hk σ h hS
    have e : pb_w ((k : Int) + 1) = ((k + 1 : Nat) : Int) := by rw [pb_w_id (by unfold pb_R; omega)]; omega
    refine pb_s_M_speak_2 x 213 Q _ _ _ _ ?_
    simp only [pb_b_M_speak_2, pb_iconst, pb_null, pb_iload, pb_aload, pb_istore, pb_astore, pb_iinc, pb_bin, pb_bin0, pb_dup, pb_pop, pb_dup2, pb_if, pb_icmp, pb_ifnull, pb_getI, pb_getR, pb_putI, pb_putZ, pb_putR, pb_alen, pb_ald, pb_aldR, pb_ast, pb_astZ, pb_astR, pb_vret, pb_iret, pb_zret, pb_aret, pb_cv, pb_cr, pb_sr, pb_switch, pb_sw, pb_nth, pb_set, pb_tk, pb_add, pb_sub, List.length_cons, List.length_nil, true_or, or_true, true_and, and_true, and_self, pb_up_same, pb_up_f, ne_eq, Nat.reduceEqDiff, not_false_eq_true, Nat.reduceAdd, Nat.reduceLeDiff, Nat.zero_le, is_M, mf_speech h.1, mk_speech, ml_speech, e]
    refine ⟨fun z => absurd z (by omega), fun _ => ⟨by omega, ih (k + 1) (by omega) _ (rm_212i h) (fun j q1 q2 => ?_)⟩⟩
    by_cases z : j = k
    · rw [z, pb_up_same]
    · rw [pb_up_i z]
      exact hS j q1 (by omega)
theorem c_M_speak (h : RM σ T E (v, fun _ => False) ν) (hI : Inv m T E) (hQ : ∀ σ', RM σ' (gt_speech T E.2.2) E (v, fun _ => False) ν → Q (.inl 0) σ') : pb_MJ x i_M_speak [.inr 165] 213 σ Q := by
  refine pb_m_M_speak ?_
  simp only [pb_b_M_speak_0, pb_iconst, pb_null, pb_iload, pb_aload, pb_istore, pb_astore, pb_iinc, pb_bin, pb_bin0, pb_dup, pb_pop, pb_dup2, pb_if, pb_icmp, pb_ifnull, pb_getI, pb_getR, pb_putI, pb_putZ, pb_putR, pb_alen, pb_ald, pb_aldR, pb_ast, pb_astZ, pb_astR, pb_vret, pb_iret, pb_zret, pb_aret, pb_cv, pb_cr, pb_sr, pb_switch, pb_sw, pb_nth, pb_set, pb_tk, pb_add, pb_sub, List.length_cons, List.length_nil, true_or, or_true, true_and, and_true, and_self, pb_up_same, pb_up_f, ne_eq, Nat.reduceEqDiff, not_false_eq_true, Nat.reduceAdd, Nat.reduceLeDiff, Nat.zero_le]
  refine l_M_speak2 (fun σ1 h1 hS => ?_) 4 0 rfl σ h (fun j q1 q2 => by omega)
  simp only [pb_b_M_speak_22, pb_iconst, pb_null, pb_iload, pb_aload, pb_istore, pb_astore, pb_iinc, pb_bin, pb_bin0, pb_dup, pb_pop, pb_dup2, pb_if, pb_icmp, pb_ifnull, pb_getI, pb_getR, pb_putI, pb_putZ, pb_putR, pb_alen, pb_ald, pb_aldR, pb_ast, pb_astZ, pb_astR, pb_vret, pb_iret, pb_zret, pb_aret, pb_cv, pb_cr, pb_sr, pb_switch, pb_sw, pb_nth, pb_set, pb_tk, pb_add, pb_sub, List.length_cons, List.length_nil, true_or, or_true, true_and, and_true, and_self, pb_up_same, pb_up_f, ne_eq, Nat.reduceEqDiff, not_false_eq_true, Nat.reduceAdd, Nat.reduceLeDiff, Nat.zero_le]
  refine l_M_speak24 hI (fun σ2 h2 hG => ?_) 4 0 rfl σ1 h1 (fun b ch q1 q2 q3 q4 => Or.inr ⟨hS _ (by omega) (by omega), fun f hf z => ?_⟩)
  · simp only [pb_b_M_speak_136, pb_iconst, pb_null, pb_iload, pb_aload, pb_istore, pb_astore, pb_iinc, pb_bin, pb_bin0, pb_dup, pb_pop, pb_dup2, pb_if, pb_icmp, pb_ifnull, pb_getI, pb_getR, pb_putI, pb_putZ, pb_putR, pb_alen, pb_ald, pb_aldR, pb_ast, pb_astZ, pb_astR, pb_vret, pb_iret, pb_zret, pb_aret, pb_cv, pb_cr, pb_sr, pb_switch, pb_sw, pb_nth, pb_set, pb_tk, pb_add, pb_sub, List.length_cons, List.length_nil, true_or, or_true, true_and, and_true, and_self, pb_up_same, pb_up_f, ne_eq, Nat.reduceEqDiff, not_false_eq_true, Nat.reduceAdd, Nat.reduceLeDiff, Nat.zero_le]
    have iT := hI.1
    have iT2 : IT (g_it (g_carry E.2.2 0) 0 T 4) := IT.it (fun _ _ y => IT.free y (by omega)) iT 4
    have hk : ∀ (j : Nat) (k' : Nat) (t' : Int), k' ≠ 12 → (g_it (g_carry E.2.2 0) 0 T j).1 k' t' = T.1 k' t' := by
      intro j
      induction j with
      | zero => exact fun _ _ _ => rfl
      | succ j ihj => exact fun k' t' z => (gt_set_k z).trans (ihj k' t' z)
    refine l_M_speak138 (b := 0) (T0 := T) (by omega) iT iT (fun _ _ _ => rfl) (fun σ3 o3 h3 hG3 => ?_) 4 0 rfl σ2 _ h2 hG
    refine l_M_speak138 (b := 1) (T0 := T) (by omega) iT iT2 (fun k t z => hk 4 k t (by omega)) (fun σ4 o4 h4 hG4 => ?_) 4 0 rfl σ3 o3 h3 hG3
    refine pb_s_M_speak_138 x 213 Q _ _ _ _ ?_
    simp only [pb_b_M_speak_138, pb_b_M_speak_216, pb_iconst, pb_null, pb_iload, pb_aload, pb_istore, pb_astore, pb_iinc, pb_bin, pb_bin0, pb_dup, pb_pop, pb_dup2, pb_if, pb_icmp, pb_ifnull, pb_getI, pb_getR, pb_putI, pb_putZ, pb_putR, pb_alen, pb_ald, pb_aldR, pb_ast, pb_astZ, pb_astR, pb_vret, pb_iret, pb_zret, pb_aret, pb_cv, pb_cr, pb_sr, pb_switch, pb_sw, pb_nth, pb_set, pb_tk, pb_add, pb_sub, List.length_cons, List.length_nil, true_or, or_true, true_and, and_true, and_self, pb_up_same, pb_up_f, ne_eq, Nat.reduceEqDiff, not_false_eq_true, Nat.reduceAdd, Nat.reduceLeDiff, Nat.zero_le]
    exact ⟨fun _ => hQ _ h4, fun z => absurd (by decide) z⟩
  · obtain ⟨i, hi⟩ := List.mem_iff_getElem?.mp hf
    have := (r_1 h1 hi (Or.inl (hI.2.2.2.2.1 f hf))).1
    have z' : v (f 1) < ((0 : Nat) : Int) := z
    have t' : 0 ≤ v (f 1) := this.1
    omega
end MSP
