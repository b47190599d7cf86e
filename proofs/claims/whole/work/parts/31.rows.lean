/-! rows of frames -/
abbrev gF : Type := Int × Int × Int × Int × Int
def g_fr (σ : pb_H) (q : Int) : gF := (σ 301 q 0, σ 302 q 0, σ 303 q 0, σ 304 q 0, σ 305 q 0)
/-- the place of a row: its object, its array behind it, its frames behind that -/
def g_rw (r cap : Int) : Prop := pb_is 2 213 r ∧ pb_is 106 213 (r + 1) ∧ pb_ln (r + 1) = cap ∧ 0 < cap ∧ cap ≤ 24 ∧ ∀ q, r + 2 ≤ q → q < r + 2 + cap → pb_is 3 213 q
def g_row (σ : pb_H) (r cap : Int) (l : List gF) : Prop :=
  σ 201 r 0 = r + 1 ∧ σ 202 r 0 = l.length ∧ (l.length : Int) ≤ cap ∧ (∀ i, 0 ≤ i → i < cap → r + 2 ≤ σ 0 (r + 1) i ∧ σ 0 (r + 1) i < r + 2 + cap) ∧ (∀ i j, 0 ≤ i → i < cap → 0 ≤ j → j < cap → σ 0 (r + 1) i = σ 0 (r + 1) j → i = j) ∧ ∀ (i : Nat) (f : gF), l[i]? = some f → g_fr σ (σ 0 (r + 1) i) = f
/-- nothing outside the row has changed -/
def g_off (σ σ' : pb_H) (r cap : Int) : Prop := ∀ f p i, ¬ ((f = 202 ∧ p = r) ∨ (301 ≤ f ∧ f ≤ 305 ∧ r + 2 ≤ p ∧ p < r + 2 + cap) ∨ (f = 0 ∧ p = r + 1)) → σ' f p i = σ f p i
theorem g_off.rf (σ : pb_H) (r cap : Int) : g_off σ σ r cap := fun _ _ _ _ => rfl
theorem g_off.tr {σ σ1 σ2 : pb_H} {r cap : Int} (h : g_off σ σ1 r cap) (h2 : g_off σ1 σ2 r cap) : g_off σ σ2 r cap := fun f p i hn => (h2 f p i hn).trans (h f p i hn)
theorem g_off.up {σ σ' : pb_H} {r cap : Int} (h : g_off σ σ' r cap) {f : Nat} {p i v : Int} (hf : (f = 202 ∧ p = r) ∨ (301 ≤ f ∧ f ≤ 305 ∧ r + 2 ≤ p ∧ p < r + 2 + cap) ∨ (f = 0 ∧ p = r + 1)) : g_off σ (pb_up σ' f p i v) r cap := by
  intro f' p' i' hn
  rw [← h f' p' i' hn]
  unfold pb_up
  rw [if_neg]
  rintro ⟨rfl, rfl, -⟩
  exact hn hf
theorem g_app {l : List gF} {a f : gF} {i : Nat} (h : (l ++ [a])[i]? = some f) : (i < l.length ∧ l[i]? = some f) ∨ (i = l.length ∧ f = a) := by
  by_cases hi : i < l.length
  · rw [List.getElem?_append_left hi] at h
    exact Or.inl ⟨hi, h⟩
  · rw [List.getElem?_append_right (by omega)] at h
    have h0 : i - l.length = 0 := by
      have := (List.getElem?_eq_some_iff.mp h).1
      simp at this
      omega
    rw [h0] at h
    exact Or.inr ⟨by omega, (Option.some.inj h).symm⟩
theorem g_lt {l : List gF} {f : gF} {i : Nat} (h : l[i]? = some f) : i < l.length := (List.getElem?_eq_some_iff.mp h).1
set_option maxHeartbeats 1000000 in
theorem c_R_put {x : pb_E} {σ : pb_H} {Q : pb_P} {r cap k a f v : Int} {l : List gF} (hr : g_rw r cap) (h : g_row σ r cap l) (hQ : ∀ σ', g_row σ' r cap (if (l.length : Int) = cap then l else l ++ [(k, a, f, v, 0)]) → g_off σ σ' r cap → Q (.inl 0) σ') : pb_MJ x i_R_put [.inr r, .inl k, .inl a, .inl f, .inl v] 213 σ Q := by
  obtain ⟨r1, r2, r3, r4, r5, r6⟩ := hr
  obtain ⟨h1, h2, h3, h4, h5, h6⟩ := h
  refine pb_m_R_put ?_
  simp only [pb_b_R_put_0, pb_b_R_put_13, pb_iconst, pb_null, pb_iload, pb_aload, pb_istore, pb_astore, pb_iinc, pb_bin, pb_bin0, pb_dup, pb_pop, pb_dup2, pb_if, pb_icmp, pb_ifnull, pb_getI, pb_getR, pb_putI, pb_putZ, pb_putR, pb_alen, pb_ald, pb_aldR, pb_ast, pb_astZ, pb_astR, pb_vret, pb_iret, pb_zret, pb_aret, pb_cv, pb_cr, pb_sr, pb_switch, pb_sw, pb_nth, pb_set, pb_tk, pb_add, pb_sub, List.length_cons, List.length_nil, true_or, or_true, true_and, and_true, and_self, pb_up_same, pb_up_f, ne_eq, Nat.reduceEqDiff, not_false_eq_true, Nat.reduceAdd, Nat.reduceLeDiff, Nat.zero_le, h1, h2, r1, r2, r3]
  refine ⟨fun hne => ?_, fun he => ?_⟩
  · have hb := h4 l.length (by omega) (by omega)
    have hf := r6 _ hb.1 hb.2
    generalize hq : σ 0 (r + 1) l.length = q at *
    have hw : pb_w ((l.length : Int) + 1) = l.length + 1 := pb_w_id (by unfold pb_R; omega)
    rw [hw]
    simp only [hf, true_and]
    refine ⟨⟨by omega, by omega⟩, ?_⟩
    rw [if_neg hne] at hQ
    refine hQ _ ⟨?_, ?_, ?_, ?_, ?_, ?_⟩ ?_
    · simp [pb_up, h1]
    · simp [pb_up]
    · simp; omega
    · intro i hi1 hi2
      simpa [pb_up] using h4 i hi1 hi2
    · intro i j hi1 hi2 hj1 hj2 hij
      exact h5 i j hi1 hi2 hj1 hj2 (by simpa [pb_up] using hij)
    · intro i f' hi
      rcases g_app hi with ⟨g1, g2⟩ | ⟨rfl, rfl⟩
      · have hne : σ 0 (r + 1) i ≠ q := by
          intro h9
          have := h5 i l.length (by omega) (by omega) (by omega) (by omega) (h9.trans hq.symm)
          omega
        have g3 := h6 i f' g2
        unfold g_fr at g3 ⊢
        simpa [pb_up, hne] using g3
      · unfold g_fr
        simp [pb_up, hq]
    · exact ((((((g_off.rf σ r cap).up (Or.inl ⟨rfl, rfl⟩)).up (Or.inr (Or.inl ⟨by omega, by omega, hb⟩))).up (Or.inr (Or.inl ⟨by omega, by omega, hb⟩))).up (Or.inr (Or.inl ⟨by omega, by omega, hb⟩))).up (Or.inr (Or.inl ⟨by omega, by omega, hb⟩))).up (Or.inr (Or.inl ⟨by omega, by omega, hb⟩))
  · rw [if_pos (by omega)] at hQ
    exact hQ σ ⟨h1, h2, h3, h4, h5, h6⟩ (g_off.rf σ r cap)
/-- the array while the first goes -/
def g_sh (σ : pb_H) (a i : Int) : pb_H := fun f p j => if f = 0 ∧ p = a ∧ 0 ≤ j ∧ j < i - 1 then σ 0 a (j + 1) else σ f p j
theorem g_sh_f {σ : pb_H} {a i : Int} {f : Nat} {p j : Int} (h : f ≠ 0) : g_sh σ a i f p j = σ f p j := by simp [g_sh, h]
theorem g_sh_hi {σ : pb_H} {a i j : Int} (h : i - 1 ≤ j) : g_sh σ a i 0 a j = σ 0 a j := by
  unfold g_sh
  rw [if_neg (by omega)]
theorem g_sh_next {σ : pb_H} {a i : Int} (h : 1 ≤ i) : pb_up (g_sh σ a i) 0 a (i - 1) (σ 0 a i) = g_sh σ a (i + 1) := by
  funext f p j
  unfold pb_up g_sh
  by_cases h1 : f = 0 ∧ p = a ∧ j = i - 1
  · obtain ⟨rfl, rfl, rfl⟩ := h1
    rw [if_pos ⟨rfl, rfl, rfl⟩, if_pos ⟨rfl, rfl, by omega, by omega⟩]
    congr 1
    omega
  · rw [if_neg h1]
    by_cases h2 : f = 0 ∧ p = a ∧ 0 ≤ j ∧ j < i - 1
    · rw [if_pos h2, if_pos ⟨h2.1, h2.2.1, h2.2.2.1, by omega⟩]
    · rw [if_neg h2, if_neg]
      rintro ⟨g1, g2, g3, g4⟩
      by_cases h3 : j = i - 1
      · exact h1 ⟨g1, g2, h3⟩
      · exact h2 ⟨g1, g2, g3, by omega⟩
theorem g_rot {σ : pb_H} {r cap : Int} {l : List gF} (h : g_row σ r cap l) (hne : 0 < l.length) : g_row (pb_up (pb_up (g_sh σ (r + 1) l.length) 202 r 0 (l.length - 1)) 0 (r + 1) (l.length - 1) (σ 0 (r + 1) 0)) r cap l.tail ∧ g_off σ (pb_up (pb_up (g_sh σ (r + 1) l.length) 202 r 0 (l.length - 1)) 0 (r + 1) (l.length - 1) (σ 0 (r + 1) 0)) r cap := by
  obtain ⟨h1, h2, h3, h4, h5, h6⟩ := h
  have key : ∀ j, 0 ≤ j → j < cap → pb_up (pb_up (g_sh σ (r + 1) l.length) 202 r 0 (l.length - 1)) 0 (r + 1) (l.length - 1) (σ 0 (r + 1) 0) 0 (r + 1) j = σ 0 (r + 1) (if j < l.length - 1 then j + 1 else if j = l.length - 1 then 0 else j) := by
    intro j hj1 hj2
    by_cases g1 : j < l.length - 1
    · rw [if_pos g1, pb_up_i (by omega), pb_up_f (by decide)]
      unfold g_sh
      rw [if_pos ⟨rfl, rfl, hj1, by omega⟩]
    · rw [if_neg g1]
      by_cases g2 : j = l.length - 1
      · rw [if_pos g2, g2, pb_up_same]
      · rw [if_neg g2, pb_up_i g2, pb_up_f (by decide), g_sh_hi (by omega)]
  have oth : ∀ f p i, f ≠ 0 → f ≠ 202 → pb_up (pb_up (g_sh σ (r + 1) l.length) 202 r 0 (l.length - 1)) 0 (r + 1) (l.length - 1) (σ 0 (r + 1) 0) f p i = σ f p i := by
    intro f p i g1 g2
    rw [pb_up_f g1, pb_up_f g2, g_sh_f g1]
  refine ⟨⟨?_, ?_, ?_, ?_, ?_, ?_⟩, ?_⟩
  · rw [oth _ _ _ (by decide) (by decide)]
    exact h1
  · rw [pb_up_f (by decide), pb_up_same, List.length_tail]
    omega
  · rw [List.length_tail]
    omega
  · intro i hi1 hi2
    rw [key i hi1 hi2]
    apply h4
    · split
      · omega
      · split <;> omega
    · split
      · omega
      · split <;> omega
  · intro i j hi1 hi2 hj1 hj2 hij
    rw [key i hi1 hi2, key j hj1 hj2] at hij
    have := h5 _ _ (by split <;> first | omega | (split <;> omega)) (by split <;> first | omega | (split <;> omega)) (by split <;> first | omega | (split <;> omega)) (by split <;> first | omega | (split <;> omega)) hij
    revert this
    split <;> split <;> (try split) <;> (try split) <;> omega
  · intro i f hi
    have hl := g_lt hi
    rw [List.length_tail] at hl
    rw [List.getElem?_tail] at hi
    have g1 := h6 (i + 1) f hi
    rw [key i (by omega) (by omega), if_pos (by omega)]
    unfold g_fr at g1 ⊢
    rw [oth _ _ _ (by decide) (by decide), oth _ _ _ (by decide) (by decide), oth _ _ _ (by decide) (by decide), oth _ _ _ (by decide) (by decide), oth _ _ _ (by decide) (by decide)]
    exact g1
  · intro f p i hn
    by_cases g1 : f = 0
    · subst g1
      have hp : p ≠ r + 1 := fun h9 => hn (Or.inr (Or.inr ⟨rfl, h9⟩))
      rw [pb_up_p hp, pb_up_f (by decide)]
      unfold g_sh
      rw [if_neg]
      rintro ⟨-, h9, -⟩
      exact hp h9
    · by_cases g2 : f = 202
      · subst g2
        have hp : p ≠ r := fun h9 => hn (Or.inl ⟨rfl, h9⟩)
        rw [pb_up_f (by decide), pb_up_p hp, g_sh_f (by decide)]
      · exact oth f p i g1 g2
set_option maxHeartbeats 1000000 in
theorem l_R_removeFirst {x : pb_E} {σ : pb_H} {Q : pb_P} {r cap : Int} {l : List gF} (hr : g_rw r cap) (h : g_row σ r cap l) (hne : 0 < l.length) (hQ : ∀ σ', g_row σ' r cap l.tail → g_off σ σ' r cap → Q (.inl 0) σ') : ∀ (d : Nat) (i : Int), i + d = l.length → 1 ≤ i → pb_WJ x i_R_removeFirst 213 Q 17 [some (.inr r), some (.inr (σ 0 (r + 1) 0)), some (.inl i)] [] 213 (g_sh σ (r + 1) i) := by
  intro d
  induction d with
  | zero =>
    intro i hd hi
    have hrot := g_rot h hne
    obtain ⟨r1, r2, r3, r4, r5, r6⟩ := hr
    obtain ⟨h1, h2, h3, h4, h5, h6⟩ := h
    have hw : pb_w ((l.length : Int) - 1) = l.length - 1 := pb_w_id (by unfold pb_R; omega)
    obtain rfl : i = l.length := by omega
    refine pb_s_R_removeFirst_17 x 213 Q _ _ _ _ ?_
    simp only [pb_b_R_removeFirst_0, pb_b_R_removeFirst_8, pb_b_R_removeFirst_17, pb_b_R_removeFirst_45, pb_iconst, pb_null, pb_iload, pb_aload, pb_istore, pb_astore, pb_iinc, pb_bin, pb_bin0, pb_dup, pb_pop, pb_dup2, pb_if, pb_icmp, pb_ifnull, pb_getI, pb_getR, pb_putI, pb_putZ, pb_putR, pb_alen, pb_ald, pb_aldR, pb_ast, pb_astZ, pb_astR, pb_vret, pb_iret, pb_zret, pb_aret, pb_cv, pb_cr, pb_sr, pb_switch, pb_sw, pb_nth, pb_set, pb_tk, pb_add, pb_sub, List.length_cons, List.length_nil, true_or, or_true, true_and, and_true, and_self, pb_up_same, pb_up_f, ne_eq, Nat.reduceEqDiff, not_false_eq_true, Nat.reduceAdd, Nat.reduceLeDiff, Nat.zero_le, g_sh_f (show (202 : Nat) ≠ 0 by decide), g_sh_f (show (201 : Nat) ≠ 0 by decide), pb_up_same, pb_up_f (show (201 : Nat) ≠ 202 by decide), h1, h2, r1, r2, r3, hw]
    refine ⟨fun _ => ⟨⟨by omega, by omega⟩, ?_, hQ _ hrot.1 hrot.2⟩, fun h9 => absurd (Int.le_refl _) h9⟩
    have g := h4 0 (by omega) (by omega)
    exact r6 _ g.1 g.2
  | succ d ih =>
    intro i hd hi
    have ih := ih (i + 1) (by omega) (by omega)
    obtain ⟨r1, r2, r3, r4, r5, r6⟩ := hr
    obtain ⟨h1, h2, h3, h4, h5, h6⟩ := h
    have hw : pb_w (i - 1) = i - 1 := pb_w_id (by unfold pb_R; omega)
    have hw2 : pb_w (i + 1) = i + 1 := pb_w_id (by unfold pb_R; omega)
    refine pb_s_R_removeFirst_17 x 213 Q _ _ _ _ ?_
    simp only [pb_b_R_removeFirst_0, pb_b_R_removeFirst_8, pb_b_R_removeFirst_17, pb_b_R_removeFirst_45, pb_iconst, pb_null, pb_iload, pb_aload, pb_istore, pb_astore, pb_iinc, pb_bin, pb_bin0, pb_dup, pb_pop, pb_dup2, pb_if, pb_icmp, pb_ifnull, pb_getI, pb_getR, pb_putI, pb_putZ, pb_putR, pb_alen, pb_ald, pb_aldR, pb_ast, pb_astZ, pb_astR, pb_vret, pb_iret, pb_zret, pb_aret, pb_cv, pb_cr, pb_sr, pb_switch, pb_sw, pb_nth, pb_set, pb_tk, pb_add, pb_sub, List.length_cons, List.length_nil, true_or, or_true, true_and, and_true, and_self, pb_up_same, pb_up_f, ne_eq, Nat.reduceEqDiff, not_false_eq_true, Nat.reduceAdd, Nat.reduceLeDiff, Nat.zero_le, g_sh_f (show (202 : Nat) ≠ 0 by decide), g_sh_f (show (201 : Nat) ≠ 0 by decide), h1, h2, r1, r2, r3, hw, hw2, g_sh_hi (show i - 1 ≤ i by omega), g_sh_next hi]
    refine ⟨fun h9 => absurd h9 (by omega), fun _ => ⟨⟨by omega, by omega⟩, ⟨by omega, by omega⟩, ?_, ih⟩⟩
    have g := h4 i (by omega) (by omega)
    exact r6 _ g.1 g.2
theorem g_sh1 {σ : pb_H} {a : Int} : g_sh σ a 1 = σ := by
  funext f p j
  unfold g_sh
  rw [if_neg (by omega)]
theorem c_R_removeFirst {x : pb_E} {σ : pb_H} {Q : pb_P} {r cap : Int} {l : List gF} (hr : g_rw r cap) (h : g_row σ r cap l) (hQ : ∀ σ', g_row σ' r cap l.tail → g_off σ σ' r cap → Q (.inl 0) σ') : pb_MJ x i_R_removeFirst [.inr r] 213 σ Q := by
  refine pb_m_R_removeFirst ?_
  have hh := h
  have hrr := hr
  obtain ⟨r1, r2, r3, r4, r5, r6⟩ := hr
  obtain ⟨h1, h2, h3, h4, h5, h6⟩ := h
  simp only [pb_b_R_removeFirst_0, pb_b_R_removeFirst_8, pb_b_R_removeFirst_17, pb_b_R_removeFirst_45, pb_iconst, pb_null, pb_iload, pb_aload, pb_istore, pb_astore, pb_iinc, pb_bin, pb_bin0, pb_dup, pb_pop, pb_dup2, pb_if, pb_icmp, pb_ifnull, pb_getI, pb_getR, pb_putI, pb_putZ, pb_putR, pb_alen, pb_ald, pb_aldR, pb_ast, pb_astZ, pb_astR, pb_vret, pb_iret, pb_zret, pb_aret, pb_cv, pb_cr, pb_sr, pb_switch, pb_sw, pb_nth, pb_set, pb_tk, pb_add, pb_sub, List.length_cons, List.length_nil, true_or, or_true, true_and, and_true, and_self, pb_up_same, pb_up_f, ne_eq, Nat.reduceEqDiff, not_false_eq_true, Nat.reduceAdd, Nat.reduceLeDiff, Nat.zero_le, h1, h2, r1, r2, r3]
  refine ⟨fun hne => ⟨⟨by omega, by omega⟩, ?_⟩, fun h0 => ?_⟩
  · have := l_R_removeFirst (x := x) (Q := Q) hrr hh (by omega) hQ (l.length - 1) 1 (by omega) (by omega)
    rw [g_sh1] at this
    exact this
  · have hl : l = [] := List.eq_nil_of_length_eq_zero (by omega)
    subst hl
    exact hQ σ hh (g_off.rf σ r cap)
