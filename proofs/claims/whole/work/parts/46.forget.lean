/-! calls without a leg go -/
theorem g_appA {α : Type} {l : List α} {a f : α} {i : Nat} (h : (l ++ [a])[i]? = some f) : (i < l.length ∧ l[i]? = some f) ∨ (i = l.length ∧ f = a) := by
  by_cases hi : i < l.length
  · rw [List.getElem?_append_left hi] at h
    exact Or.inl ⟨hi, h⟩
  · rw [List.getElem?_append_right (by omega)] at h
    have h0 : i - l.length = 0 := by
      have := (List.getElem?_eq_some_iff.mp h).1
      simp at this
      omega
    rw [h0] at h
    exact Or.inr ⟨by omega, (Option.some.inj h).symm⟩
def ge_forget (E : gE) : gE := ge_calls E (E.2.2.filter g_alive)
section FG
variable {x : pb_E} {σ : pb_H} {E : gE} {ρ : Int → Int} {μ : pb_H} {b s : Int} {Q : pb_P} {n : Nat}
theorem g_call.keep {σ σ' : pb_H} {p : Int} {f : gC} (h : g_call σ p f) (e : ∀ f' p' j, ¬ (f' = 0 ∧ p' = 2) → σ' f' p' j = σ f' p' j) (hp : p + 1 ≠ 2) : g_call σ' p f := by
  obtain ⟨a1, a2, a3, a4, a5, a6⟩ := h
  refine ⟨a1, a2, a3, by rw [e _ _ _ (by omega)]; exact a4, fun k q1 q2 => by rw [e _ _ _ (by omega)]; exact a5 k q1 q2, fun j q => by rw [e _ _ _ (by omega)]; exact a6 j q⟩
set_option maxHeartbeats 1000000 in
theorem l_P_forget (h : RE σ E ρ μ) (hQ : ∀ σ' ρ', RE σ' (ge_forget E) ρ' μ → Q (.inl 0) σ') : ∀ (d i : Nat), i + d = E.2.2.length → ∀ (σ' : pb_H) (o : Option pb_V) (k : Nat), (∀ f p j, ¬ (f = 0 ∧ p = 2) → σ' f p j = σ f p j) → (∀ j, 0 ≤ j → j < 4 → ∃ j', 0 ≤ j' ∧ j' < 4 ∧ σ' 0 2 j = 157 + 2 * j') → (∀ a b, 0 ≤ a → a < 4 → 0 ≤ b → b < 4 → σ' 0 2 a = σ' 0 2 b → a = b) → (∀ j, i ≤ j → σ' 0 2 j = σ 0 2 j) → k = ((E.2.2.take i).filter g_alive).length → k ≤ i → (∀ (m : Nat) (f : gC), ((E.2.2.take i).filter g_alive)[m]? = some f → g_call σ (σ' 0 2 m) f) → pb_WJ x i_P_forgetFinishedCalls 213 Q 4 [some (.inr 0), some (.inl k), some (.inl i), o] [] 213 σ' := by
  intro d
  have hlen := p_len h
  have hP := p_P h
  induction d with
  | zero =>
    intro i hi σ' o k g1 g2 g3 g4 g5 g6 g7
    obtain rfl : i = E.2.2.length := by omega
    rw [List.take_length] at g5 g7
    refine pb_s_P_forgetFinishedCalls_4 x 213 Q _ _ _ _ ?_
    simp only [pb_b_P_forgetFinishedCalls_4, pb_b_P_forgetFinishedCalls_54, pb_iconst, pb_null, pb_iload, pb_aload, pb_istore, pb_astore, pb_iinc, pb_bin, pb_bin0, pb_dup, pb_pop, pb_dup2, pb_if, pb_icmp, pb_ifnull, pb_getI, pb_getR, pb_putI, pb_putZ, pb_putR, pb_alen, pb_ald, pb_aldR, pb_ast, pb_astZ, pb_astR, pb_vret, pb_iret, pb_zret, pb_aret, pb_cv, pb_cr, pb_sr, pb_switch, pb_sw, pb_nth, pb_set, pb_tk, pb_add, pb_sub, List.length_cons, List.length_nil, true_or, or_true, true_and, and_true, and_self, pb_up_same, pb_up_f, ne_eq, Nat.reduceEqDiff, not_false_eq_true, Nat.reduceAdd, Nat.reduceLeDiff, Nat.zero_le, is_P.1, g1 3 0 0 (by omega), hP.2.2.1]
    refine ⟨fun _ => hQ _ (fun j => σ' 0 2 j) ?_, fun z => absurd z (by omega)⟩
    obtain ⟨h_fin, h_D, h_L, h_B, h_P, h_C, h_R, h_Y⟩ := h
    have ek : ∀ f' p' j, ¬ (f' = 0 ∧ p' = 2) → ¬ (f' = 3 ∧ p' = 0) → pb_up σ' 3 0 0 k f' p' j = σ f' p' j := fun f' p' j q1 q2 => by rw [pb_up_k q2]; exact g1 f' p' j q1
    refine ⟨h_fin.cg (fun f' p' i' hk => ek _ _ _ (by unfold k_fin at hk; omega) (by unfold k_fin at hk; omega)), h_D.cg (fun f' p' i' hk => ek _ _ _ (by unfold k_D at hk; omega) (by unfold k_D at hk; omega)), h_L.cg (fun f' p' i' hk => ek _ _ _ (by unfold k_L at hk; omega) (by unfold k_L at hk; omega)), h_B.cg (fun f' p' i' hk => ek _ _ _ (by unfold k_B at hk; omega) (by unfold k_B at hk; omega)), ?_, ?_, ?_, h_Y.cg (fun f' p' i' hk => ek _ _ _ (by unfold k_Y k_D k_L k_B k_P k_C at hk; omega) (by unfold k_Y k_D k_L k_B k_P k_C at hk; omega))⟩
    · refine ⟨?_, ?_, ?_⟩
      · rw [pb_up_same, g5]
        rfl
      · rw [ek _ _ _ (by omega) (by omega)]
        exact h_P.2.1
      · rw [ek _ _ _ (by omega) (by omega)]
        exact h_P.2.2
    · show rc_C _ (E.2.2.filter g_alive)
      refine ⟨by omega, fun j j1 j2 => ?_, fun a b a1 a2 b1 b2 hab => ?_, fun j j1 j2 => ?_, fun m f hm => ?_⟩
      · rw [pb_up_f (by decide)]
        exact g2 j j1 j2
      · rw [pb_up_f (by decide), pb_up_f (by decide)] at hab
        exact g3 a b a1 a2 b1 b2 hab
      · rw [ek _ _ _ (by omega) (by omega)]
        exact h_C.2.2.2.1 j j1 j2
      · have hml := (List.getElem?_eq_some_iff.mp hm).1
        obtain ⟨j', q1, q2, q3⟩ := g2 m (by omega) (by omega)
        obtain ⟨a1, a2, a3, a4, a5, a6⟩ := g7 m f hm
        rw [pb_up_f (f' := 0) (by decide)]
        refine ⟨fun t t1 t2 => ?_, fun t t1 => ?_⟩
        · rw [ek _ _ _ (by omega) (by omega)]
          exact a5 t t1 t2
        · rw [ek _ _ _ (by omega) (by omega)]
          exact a6 t t1
    · intro j
      rw [pb_up_f (by decide)]
  | succ d ih =>
    intro i hi σ' o k g1 g2 g3 g4 g5 g6 g7
    obtain ⟨f, hf⟩ := g_nth hi
    have hc0 := p_call h hf
    rw [← p_ref h i, ← g4 i (by omega)] at hc0
    obtain ⟨j0, b1, b2, b3⟩ := g2 i (by omega) (by omega)
    obtain ⟨j9, c1, c2, c3⟩ := g2 k (by omega) (by omega)
    have hc := hc0.keep g1 (by omega)
    have hki : pb_is 6 213 (σ' 0 2 k) := by rw [c3]; exact (is_C ⟨c1, c2⟩).1
    have e : pb_w ((i : Int) + 1) = ((i + 1 : Nat) : Int) := by rw [pb_w_id (by unfold pb_R; omega)]; omega
    have ek : pb_w ((k : Int) + 1) = ((k + 1 : Nat) : Int) := by rw [pb_w_id (by unfold pb_R; omega)]; omega
    have htk := g_takeS hf
    refine pb_s_P_forgetFinishedCalls_4 x 213 Q _ _ _ _ ?_
    simp only [pb_b_P_forgetFinishedCalls_4, pb_b_P_forgetFinishedCalls_48, pb_iconst, pb_null, pb_iload, pb_aload, pb_istore, pb_astore, pb_iinc, pb_bin, pb_bin0, pb_dup, pb_pop, pb_dup2, pb_if, pb_icmp, pb_ifnull, pb_getI, pb_getR, pb_putI, pb_putZ, pb_putR, pb_alen, pb_ald, pb_aldR, pb_ast, pb_astZ, pb_astR, pb_vret, pb_iret, pb_zret, pb_aret, pb_cv, pb_cr, pb_sr, pb_switch, pb_sw, pb_nth, pb_set, pb_tk, pb_add, pb_sub, List.length_cons, List.length_nil, true_or, or_true, true_and, and_true, and_self, pb_up_same, pb_up_f, ne_eq, Nat.reduceEqDiff, not_false_eq_true, Nat.reduceAdd, Nat.reduceLeDiff, Nat.zero_le, is_P.1, is_P.2.2.1, is_P.2.2.2.2, g1 3 0 0 (by omega), g1 2 0 0 (by omega), hP.2.2.1, hP.2.1, hc.1, e, ek, hki]
    refine ⟨fun z => absurd z (by omega), fun _ => ⟨⟨by omega, by omega⟩, c_C_hasAnyLeg hc (fun ha => ?_) (fun ha => ?_)⟩⟩
    · try simp only [pb_iconst, pb_null, pb_iload, pb_aload, pb_istore, pb_astore, pb_iinc, pb_bin, pb_bin0, pb_dup, pb_pop, pb_dup2, pb_if, pb_icmp, pb_ifnull, pb_getI, pb_getR, pb_putI, pb_putZ, pb_putR, pb_alen, pb_ald, pb_aldR, pb_ast, pb_astZ, pb_astR, pb_vret, pb_iret, pb_zret, pb_aret, pb_cv, pb_cr, pb_sr, pb_switch, pb_sw, pb_nth, pb_set, pb_tk, pb_add, pb_sub, List.length_cons, List.length_nil, true_or, or_true, true_and, and_true, and_self, pb_up_same, pb_up_f, ne_eq, Nat.reduceEqDiff, not_false_eq_true, Nat.reduceAdd, Nat.reduceLeDiff, Nat.zero_le, is_P.1, is_P.2.2.1, is_P.2.2.2.2, g1 2 0 0 (by omega), hP.2.1, hc.1, e, ek, hki]
      refine ⟨fun z => by simp at z, fun _ => ⟨⟨by omega, by omega⟩, ⟨by omega, by omega⟩, ⟨by omega, by omega⟩, ?_⟩⟩
      have hB : ∀ j, pb_up (pb_up σ' 0 2 i (σ' 0 2 k)) 0 2 k (σ' 0 2 i) 0 2 j = if j = (k : Int) then σ' 0 2 i else if j = (i : Int) then σ' 0 2 k else σ' 0 2 j := by
        intro j
        by_cases j1 : j = k
        · rw [if_pos j1, j1, pb_up_same]
        · rw [if_neg j1, pb_up_i j1]
          by_cases j2 : j = i
          · rw [if_pos j2, j2, pb_up_same]
          · rw [if_neg j2, pb_up_i j2]
      have hfl : (E.2.2.take (i + 1)).filter g_alive = (E.2.2.take i).filter g_alive ++ [f] := by
        rw [htk, List.filter_append, List.filter_cons, ha]
        simp
      refine ih (i + 1) (by omega) _ _ (k + 1) (fun f' p j hn => ?_) (fun j j1 j2 => ?_) (g_swap (cap := 4) (i := i) (k := k) ⟨by omega, by omega⟩ ⟨by omega, by omega⟩ g3 hB) (fun j j1 => ?_) ?_ (by omega) ?_
      · rw [pb_up_k hn, pb_up_k hn]
        exact g1 f' p j hn
      · rw [hB]
        split
        · exact ⟨j0, b1, b2, b3⟩
        · split
          · exact ⟨j9, c1, c2, c3⟩
          · exact g2 j j1 j2
      · rw [hB, if_neg (by omega), if_neg (by omega)]
        exact g4 j (by omega)
      · rw [hfl, List.length_append, ← g5]
        rfl
      · intro m f' hm
        rw [hfl] at hm
        rw [hB]
        rcases g_appA hm with ⟨m1, m2⟩ | ⟨m1, m2⟩
        · rw [if_neg (by omega), if_neg (by omega)]
          exact g7 m f' m2
        · rw [if_pos (by omega), m2]
          exact hc0
    · try simp only [pb_iconst, pb_null, pb_iload, pb_aload, pb_istore, pb_astore, pb_iinc, pb_bin, pb_bin0, pb_dup, pb_pop, pb_dup2, pb_if, pb_icmp, pb_ifnull, pb_getI, pb_getR, pb_putI, pb_putZ, pb_putR, pb_alen, pb_ald, pb_aldR, pb_ast, pb_astZ, pb_astR, pb_vret, pb_iret, pb_zret, pb_aret, pb_cv, pb_cr, pb_sr, pb_switch, pb_sw, pb_nth, pb_set, pb_tk, pb_add, pb_sub, List.length_cons, List.length_nil, true_or, or_true, true_and, and_true, and_self, pb_up_same, pb_up_f, ne_eq, Nat.reduceEqDiff, not_false_eq_true, Nat.reduceAdd, Nat.reduceLeDiff, Nat.zero_le, e]
      refine ⟨fun _ => ?_, fun z => by simp at z⟩
      have hfl : (E.2.2.take (i + 1)).filter g_alive = (E.2.2.take i).filter g_alive := by
        rw [htk, List.filter_append, List.filter_cons, ha]
        simp
      refine ih (i + 1) (by omega) σ' _ k g1 g2 g3 (fun j j1 => g4 j (by omega)) (by rw [hfl]; exact g5) (by omega) (by rw [hfl]; exact g7)
theorem c_P_forget (h : RE σ E ρ μ) (hQ : ∀ σ' ρ', RE σ' (ge_forget E) ρ' μ → Q (.inl 0) σ') : pb_MJ x i_P_forgetFinishedCalls [.inr 0] 213 σ Q := by
  refine pb_m_P_forgetFinishedCalls ?_
  simp only [pb_b_P_forgetFinishedCalls_0, pb_iconst, pb_null, pb_iload, pb_aload, pb_istore, pb_astore, pb_iinc, pb_bin, pb_bin0, pb_dup, pb_pop, pb_dup2, pb_if, pb_icmp, pb_ifnull, pb_getI, pb_getR, pb_putI, pb_putZ, pb_putR, pb_alen, pb_ald, pb_aldR, pb_ast, pb_astZ, pb_astR, pb_vret, pb_iret, pb_zret, pb_aret, pb_cv, pb_cr, pb_sr, pb_switch, pb_sw, pb_nth, pb_set, pb_tk, pb_add, pb_sub, List.length_cons, List.length_nil, true_or, or_true, true_and, and_true, and_self, pb_up_same, pb_up_f, ne_eq, Nat.reduceEqDiff, not_false_eq_true, Nat.reduceAdd, Nat.reduceLeDiff, Nat.zero_le]
  obtain ⟨h_fin, h_D, h_L, h_B, h_P, h_C, h_R, h_Y⟩ := h
  exact l_P_forget ⟨h_fin, h_D, h_L, h_B, h_P, h_C, h_R, h_Y⟩ hQ E.2.2.length 0 (by omega) σ none 0 (fun _ _ _ _ => rfl) h_C.2.1 h_C.2.2.1 (fun _ _ => rfl) (by simp) (Nat.le_refl _) (fun m f hm => by simp at hm)
end FG
