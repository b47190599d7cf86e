/-! rows and calls from which some go -/
theorem g_swap {A B : Int → Int} {cap i k : Int} (hi : 0 ≤ i ∧ i < cap) (hk : 0 ≤ k ∧ k < cap) (inj : ∀ a b, 0 ≤ a → a < cap → 0 ≤ b → b < cap → A a = A b → a = b) (hB : ∀ j, B j = if j = k then A i else if j = i then A k else A j) : ∀ a b, 0 ≤ a → a < cap → 0 ≤ b → b < cap → B a = B b → a = b := by
  intro a b a1 a2 b1 b2 h
  rw [hB a, hB b] at h
  by_cases x1 : a = k
  · rw [if_pos x1] at h
    by_cases y1 : b = k
    · omega
    · rw [if_neg y1] at h
      by_cases y2 : b = i
      · rw [if_pos y2] at h
        have := inj _ _ hi.1 hi.2 hk.1 hk.2 h
        omega
      · rw [if_neg y2] at h
        have := inj _ _ hi.1 hi.2 b1 b2 h
        omega
  · rw [if_neg x1] at h
    by_cases x2 : a = i
    · rw [if_pos x2] at h
      by_cases y1 : b = k
      · rw [if_pos y1] at h
        have := inj _ _ hk.1 hk.2 hi.1 hi.2 h
        omega
      · rw [if_neg y1] at h
        by_cases y2 : b = i
        · omega
        · rw [if_neg y2] at h
          have := inj _ _ hk.1 hk.2 b1 b2 h
          omega
    · rw [if_neg x2] at h
      by_cases y1 : b = k
      · rw [if_pos y1] at h
        have := inj _ _ a1 a2 hi.1 hi.2 h
        omega
      · rw [if_neg y1] at h
        by_cases y2 : b = i
        · rw [if_pos y2] at h
          have := inj _ _ a1 a2 hk.1 hk.2 h
          omega
        · rw [if_neg y2] at h
          exact inj _ _ a1 a2 b1 b2 h
theorem g_takeS {α : Type} {l : List α} {i : Nat} {f : α} (h : l[i]? = some f) : l.take (i + 1) = l.take i ++ [f] := by
  obtain ⟨h1, h2⟩ := List.getElem?_eq_some_iff.mp h
  rw [List.take_succ, h]
  rfl
def g_keep (a : Int) (f : gF) : Bool := decide (¬ f.1 ≤ 6) || decide (¬ f.2.1 = a)
section PT
variable {x : pb_E} {σ : pb_H} {μ : pb_H} {Q : pb_P} {r cap : Int} {l : List gF}
set_option maxHeartbeats 1000000 in
theorem l_R_removeNumbered {a : Int} (hr : g_rw r cap) (h : g_row σ r cap l) (hQ : ∀ σ', g_row σ' r cap (l.filter (g_keep a)) → g_off σ σ' r cap → Q (.inl 0) σ') : ∀ (d i : Nat), i + d = l.length → ∀ (σ' : pb_H) (o : Option pb_V) (k : Nat), (∀ f p j, ¬ (f = 0 ∧ p = r + 1) → σ' f p j = σ f p j) → (∀ j, 0 ≤ j → j < cap → r + 2 ≤ σ' 0 (r + 1) j ∧ σ' 0 (r + 1) j < r + 2 + cap) → (∀ a b, 0 ≤ a → a < cap → 0 ≤ b → b < cap → σ' 0 (r + 1) a = σ' 0 (r + 1) b → a = b) → (∀ j, i ≤ j → j < cap → σ' 0 (r + 1) j = σ 0 (r + 1) j) → k = ((l.take i).filter (g_keep a)).length → k ≤ i → (∀ (m : Nat) (f : gF), ((l.take i).filter (g_keep a))[m]? = some f → g_fr σ (σ' 0 (r + 1) m) = f) → pb_WJ x i_R_removeNumbered 213 Q 4 [some (.inr r), some (.inl a), some (.inl k), some (.inl i), o] [] 213 σ' := by
  intro d
  obtain ⟨r1, r2, r3, r4, r5, r6⟩ := hr
  obtain ⟨h1, h2, h3, h4, h5, h6⟩ := h
  induction d with
  | zero =>
    intro i hi σ' o k g1 g2 g3 g4 g5 g6 g7
    obtain rfl : i = l.length := by omega
    rw [List.take_length] at g5 g7
    refine pb_s_R_removeNumbered_4 x 213 Q _ _ _ _ ?_
    simp only [pb_b_R_removeNumbered_4, pb_b_R_removeNumbered_66, pb_iconst, pb_null, pb_iload, pb_aload, pb_istore, pb_astore, pb_iinc, pb_bin, pb_bin0, pb_dup, pb_pop, pb_dup2, pb_if, pb_icmp, pb_ifnull, pb_getI, pb_getR, pb_putI, pb_putZ, pb_putR, pb_alen, pb_ald, pb_aldR, pb_ast, pb_astZ, pb_astR, pb_vret, pb_iret, pb_zret, pb_aret, pb_cv, pb_cr, pb_sr, pb_switch, pb_sw, pb_nth, pb_set, pb_tk, pb_add, pb_sub, List.length_cons, List.length_nil, true_or, or_true, true_and, and_true, and_self, pb_up_same, pb_up_f, ne_eq, Nat.reduceEqDiff, not_false_eq_true, Nat.reduceAdd, Nat.reduceLeDiff, Nat.zero_le, r1, g1 202 r 0 (by omega), h2]
    refine ⟨fun _ => hQ _ ⟨?_, ?_, ?_, ?_, ?_, ?_⟩ ?_, fun z => absurd z (by omega)⟩
    · rw [pb_up_f (by decide), g1 201 r 0 (by omega)]
      exact h1
    · rw [pb_up_same, g5]
    · rw [← g5]
      omega
    · intro j j1 j2
      rw [pb_up_f (by decide)]
      exact g2 j j1 j2
    · intro a b a1 a2 b1 b2 hab
      rw [pb_up_f (by decide), pb_up_f (by decide)] at hab
      exact g3 a b a1 a2 b1 b2 hab
    · intro m f hm
      have := g7 m f hm
      unfold g_fr at this ⊢
      rw [pb_up_f (f' := 0) (by decide), pb_up_f (by decide), pb_up_f (by decide), pb_up_f (by decide), pb_up_f (by decide), pb_up_f (by decide), g1 301 _ 0 (by omega), g1 302 _ 0 (by omega), g1 303 _ 0 (by omega), g1 304 _ 0 (by omega), g1 305 _ 0 (by omega)]
      exact this
    · intro f p j hn
      rw [pb_up_k (fun z => hn (Or.inl z))]
      exact g1 f p j (fun z => hn (Or.inr (Or.inr z)))
  | succ d ih =>
    intro i hi σ' o k g1 g2 g3 g4 g5 g6 g7
    obtain ⟨f, hf⟩ : ∃ f, l[i]? = some f := ⟨l[i]'(by omega), List.getElem?_eq_getElem (by omega)⟩
    have hq := g2 i (by omega) (by omega)
    have hqi := r6 _ hq.1 hq.2
    have hk2 := g2 k (by omega) (by omega)
    have hki := r6 _ hk2.1 hk2.2
    have hfr : g_fr σ' (σ' 0 (r + 1) i) = f := by
      have := h6 i f hf
      rw [g4 i (by omega) (by omega)]
      unfold g_fr at this ⊢
      rw [g1 301 _ 0 (by omega), g1 302 _ 0 (by omega), g1 303 _ 0 (by omega), g1 304 _ 0 (by omega), g1 305 _ 0 (by omega)]
      exact this
    have e : pb_w ((i : Int) + 1) = ((i + 1 : Nat) : Int) := by rw [pb_w_id (by unfold pb_R; omega)]; omega
    have ek : pb_w ((k : Int) + 1) = ((k + 1 : Nat) : Int) := by rw [pb_w_id (by unfold pb_R; omega)]; omega
    have htk := g_takeS hf
    have no : g_keep a f = false → pb_b_R_removeNumbered_60 x 213 Q [some (.inr r), some (.inl a), some (.inl k), some (.inl i), some (.inr (σ' 0 (r + 1) i))] [] 213 σ' := by
      intro hkf
      simp only [pb_b_R_removeNumbered_60, pb_iconst, pb_null, pb_iload, pb_aload, pb_istore, pb_astore, pb_iinc, pb_bin, pb_bin0, pb_dup, pb_pop, pb_dup2, pb_if, pb_icmp, pb_ifnull, pb_getI, pb_getR, pb_putI, pb_putZ, pb_putR, pb_alen, pb_ald, pb_aldR, pb_ast, pb_astZ, pb_astR, pb_vret, pb_iret, pb_zret, pb_aret, pb_cv, pb_cr, pb_sr, pb_switch, pb_sw, pb_nth, pb_set, pb_tk, pb_add, pb_sub, List.length_cons, List.length_nil, true_or, or_true, true_and, and_true, and_self, pb_up_same, pb_up_f, ne_eq, Nat.reduceEqDiff, not_false_eq_true, Nat.reduceAdd, Nat.reduceLeDiff, Nat.zero_le, e]
      have hfl : (l.take (i + 1)).filter (g_keep a) = (l.take i).filter (g_keep a) := by
        rw [htk, List.filter_append, List.filter_cons, hkf]
        simp
      refine ih (i + 1) (by omega) σ' _ k g1 g2 g3 (fun j j1 j2 => g4 j (by omega) j2) (by rw [hfl]; exact g5) (by omega) (by rw [hfl]; exact g7)
    have yes : g_keep a f = true → pb_b_R_removeNumbered_37 x 213 Q [some (.inr r), some (.inl a), some (.inl k), some (.inl i), some (.inr (σ' 0 (r + 1) i))] [] 213 σ' := by
      intro hkf
      simp only [pb_b_R_removeNumbered_37, pb_b_R_removeNumbered_60, pb_iconst, pb_null, pb_iload, pb_aload, pb_istore, pb_astore, pb_iinc, pb_bin, pb_bin0, pb_dup, pb_pop, pb_dup2, pb_if, pb_icmp, pb_ifnull, pb_getI, pb_getR, pb_putI, pb_putZ, pb_putR, pb_alen, pb_ald, pb_aldR, pb_ast, pb_astZ, pb_astR, pb_vret, pb_iret, pb_zret, pb_aret, pb_cv, pb_cr, pb_sr, pb_switch, pb_sw, pb_nth, pb_set, pb_tk, pb_add, pb_sub, List.length_cons, List.length_nil, true_or, or_true, true_and, and_true, and_self, pb_up_same, pb_up_f, ne_eq, Nat.reduceEqDiff, not_false_eq_true, Nat.reduceAdd, Nat.reduceLeDiff, Nat.zero_le, r1, r2, r3, g1 201 r 0 (by omega), h1, e, ek, hqi, hki]
      refine ⟨⟨by omega, by omega⟩, ⟨by omega, by omega⟩, ⟨by omega, by omega⟩, ?_⟩
      have hB : ∀ j, pb_up (pb_up σ' 0 (r + 1) i (σ' 0 (r + 1) k)) 0 (r + 1) k (σ' 0 (r + 1) i) 0 (r + 1) j = if j = (k : Int) then σ' 0 (r + 1) i else if j = (i : Int) then σ' 0 (r + 1) k else σ' 0 (r + 1) j := by
        intro j
        by_cases j1 : j = k
        · rw [if_pos j1, j1, pb_up_same]
        · rw [if_neg j1, pb_up_i j1]
          by_cases j2 : j = i
          · rw [if_pos j2, j2, pb_up_same]
          · rw [if_neg j2, pb_up_i j2]
      have hfl : (l.take (i + 1)).filter (g_keep a) = (l.take i).filter (g_keep a) ++ [f] := by
        rw [htk, List.filter_append, List.filter_cons, hkf]
        simp
      refine ih (i + 1) (by omega) _ _ (k + 1) (fun f' p j hn => ?_) (fun j j1 j2 => ?_) (g_swap (cap := cap) (i := i) (k := k) ⟨by omega, by omega⟩ ⟨by omega, by omega⟩ g3 hB) (fun j j1 j2 => ?_) ?_ (by omega) ?_
      · rw [pb_up_k hn, pb_up_k hn]
        exact g1 f' p j hn
      · rw [hB]
        split
        · exact hq
        · split
          · exact hk2
          · exact g2 j j1 j2
      · rw [hB, if_neg (by omega), if_neg (by omega)]
        exact g4 j (by omega) j2
      · rw [hfl, List.length_append, ← g5]
        rfl
      · intro m f' hm
        rw [hfl] at hm
        rw [hB]
        rcases g_app hm with ⟨m1, m2⟩ | ⟨m1, m2⟩
        · rw [if_neg (by omega), if_neg (by omega)]
          exact g7 m f' m2
        · rw [if_pos (by omega), m2]
          rw [g4 i (by omega) (by omega)]
          exact h6 i f hf
    refine pb_s_R_removeNumbered_4 x 213 Q _ _ _ _ ?_
    simp only [pb_b_R_removeNumbered_4, pb_iconst, pb_null, pb_iload, pb_aload, pb_istore, pb_astore, pb_iinc, pb_bin, pb_bin0, pb_dup, pb_pop, pb_dup2, pb_if, pb_icmp, pb_ifnull, pb_getI, pb_getR, pb_putI, pb_putZ, pb_putR, pb_alen, pb_ald, pb_aldR, pb_ast, pb_astZ, pb_astR, pb_vret, pb_iret, pb_zret, pb_aret, pb_cv, pb_cr, pb_sr, pb_switch, pb_sw, pb_nth, pb_set, pb_tk, pb_add, pb_sub, List.length_cons, List.length_nil, true_or, or_true, true_and, and_true, and_self, pb_up_same, pb_up_f, ne_eq, Nat.reduceEqDiff, not_false_eq_true, Nat.reduceAdd, Nat.reduceLeDiff, Nat.zero_le, r1, r2, r3, g1 202 r 0 (by omega), g1 201 r 0 (by omega), h1, h2, hqi]
    refine ⟨fun z => absurd z (by omega), fun _ => ⟨⟨by omega, by omega⟩, c_num hqi hfr (fun k1 => ?_) (fun k1 => ?_)⟩⟩
    · try simp only [pb_iconst, pb_null, pb_iload, pb_aload, pb_istore, pb_astore, pb_iinc, pb_bin, pb_bin0, pb_dup, pb_pop, pb_dup2, pb_if, pb_icmp, pb_ifnull, pb_getI, pb_getR, pb_putI, pb_putZ, pb_putR, pb_alen, pb_ald, pb_aldR, pb_ast, pb_astZ, pb_astR, pb_vret, pb_iret, pb_zret, pb_aret, pb_cv, pb_cr, pb_sr, pb_switch, pb_sw, pb_nth, pb_set, pb_tk, pb_add, pb_sub, List.length_cons, List.length_nil, true_or, or_true, true_and, and_true, and_self, pb_up_same, pb_up_f, ne_eq, Nat.reduceEqDiff, not_false_eq_true, Nat.reduceAdd, Nat.reduceLeDiff, Nat.zero_le, hqi, (g_fr1 hfr).2.1]
      refine ⟨fun z => by simp at z, fun _ => ⟨fun z => no ?_, fun z => yes ?_⟩⟩
      · unfold g_keep
        rw [decide_eq_false (fun q => q k1), decide_eq_false (fun q => q z)]
        rfl
      · unfold g_keep
        rw [decide_eq_true z, Bool.or_true]
    · try simp only [pb_iconst, pb_null, pb_iload, pb_aload, pb_istore, pb_astore, pb_iinc, pb_bin, pb_bin0, pb_dup, pb_pop, pb_dup2, pb_if, pb_icmp, pb_ifnull, pb_getI, pb_getR, pb_putI, pb_putZ, pb_putR, pb_alen, pb_ald, pb_aldR, pb_ast, pb_astZ, pb_astR, pb_vret, pb_iret, pb_zret, pb_aret, pb_cv, pb_cr, pb_sr, pb_switch, pb_sw, pb_nth, pb_set, pb_tk, pb_add, pb_sub, List.length_cons, List.length_nil, true_or, or_true, true_and, and_true, and_self, pb_up_same, pb_up_f, ne_eq, Nat.reduceEqDiff, not_false_eq_true, Nat.reduceAdd, Nat.reduceLeDiff, Nat.zero_le]
      refine ⟨fun _ => yes ?_, fun z => by simp at z⟩
      unfold g_keep
      rw [decide_eq_true k1, Bool.true_or]
theorem c_R_removeNumbered {a : Int} (hr : g_rw r cap) (h : g_row σ r cap l) (hQ : ∀ σ', g_row σ' r cap (l.filter (g_keep a)) → g_off σ σ' r cap → Q (.inl 0) σ') : pb_MJ x i_R_removeNumbered [.inr r, .inl a] 213 σ Q := by
  refine pb_m_R_removeNumbered ?_
  simp only [pb_b_R_removeNumbered_0, pb_iconst, pb_null, pb_iload, pb_aload, pb_istore, pb_astore, pb_iinc, pb_bin, pb_bin0, pb_dup, pb_pop, pb_dup2, pb_if, pb_icmp, pb_ifnull, pb_getI, pb_getR, pb_putI, pb_putZ, pb_putR, pb_alen, pb_ald, pb_aldR, pb_ast, pb_astZ, pb_astR, pb_vret, pb_iret, pb_zret, pb_aret, pb_cv, pb_cr, pb_sr, pb_switch, pb_sw, pb_nth, pb_set, pb_tk, pb_add, pb_sub, List.length_cons, List.length_nil, true_or, or_true, true_and, and_true, and_self, pb_up_same, pb_up_f, ne_eq, Nat.reduceEqDiff, not_false_eq_true, Nat.reduceAdd, Nat.reduceLeDiff, Nat.zero_le]
  exact l_R_removeNumbered hr h hQ l.length 0 (by omega) σ none 0 (fun _ _ _ _ => rfl) h.2.2.2.1 h.2.2.2.2.1 (fun _ _ _ => rfl) (by simp) (Nat.le_refl _) (fun m f hm => by simp at hm)
end PT
