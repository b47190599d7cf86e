/-! where things are, what is read there -/
theorem kd_rows : ∀ r ∈ [(6, 24), (83, 24), (33, 8), (44, 8), (55, 8), (66, 8), (110, 8), (121, 8), (132, 8), (143, 8)], (pb_lay.getD r.1 (999, 0)).1 = 2 ∧ pb_lay.getD (r.1 + 1) (999, 0) = (106, r.2) ∧ ∀ k, k < r.2 → (pb_lay.getD (r.1 + 2 + k) (999, 0)).1 = 3 := by decide +kernel
theorem g_rw_of {r cap : Nat} (h : (r, cap) ∈ [(6, 24), (83, 24), (33, 8), (44, 8), (55, 8), (66, 8), (110, 8), (121, 8), (132, 8), (143, 8)]) (hr : r + 2 + cap ≤ 213) (hc : 0 < cap ∧ cap ≤ 24) {r' cap' : Int} (e1 : r' = r) (e2 : cap' = cap) : g_rw r' cap' := by
  subst e1 e2
  obtain ⟨h1, h2, h3⟩ := kd_rows _ h
  refine ⟨⟨by omega, by omega, ?_⟩, ⟨by omega, by omega, ?_⟩, ?_, by omega, by omega, fun q q1 q2 => ⟨by omega, by omega, ?_⟩⟩
  · unfold pb_kd
    rw [Int.toNat_natCast]
    exact h1
  · unfold pb_kd
    rw [show ((r : Int) + 1).toNat = r + 1 by omega, h2]
  · unfold pb_ln
    rw [show ((r : Int) + 1).toNat = r + 1 by omega, h2]
  · unfold pb_kd
    have h4 := h3 (q.toNat - r - 2) (by dsimp only; omega)
    rw [show r + 2 + (q.toNat - r - 2) = q.toNat by omega] at h4
    exact h4
theorem g_bs {b s : Int} (hb : 0 ≤ b ∧ b < 2) (hs : 0 ≤ s ∧ s < 4) {P : Int → Int → Prop} (h : ∀ b ∈ [(0 : Int), 1], ∀ s ∈ [(0 : Int), 1, 2, 3], P b s) : P b s := by
  refine h b ?_ s ?_
  · have h1 : b = 0 ∨ b = 1 := by omega
    rcases h1 with rfl | rfl <;> simp
  · have h2 : s = 0 ∨ s = 1 ∨ s = 2 ∨ s = 3 := by omega
    rcases h2 with rfl | rfl | rfl | rfl <;> simp
theorem rwU {b s : Int} (hb : 0 ≤ b ∧ b < 2) (hs : 0 ≤ s ∧ s < 4) : g_rw (33 + 77 * b + 11 * s) 8 := by
  have h1 : b = 0 ∨ b = 1 := by omega
  have h2 : s = 0 ∨ s = 1 ∨ s = 2 ∨ s = 3 := by omega
  rcases h1 with rfl | rfl <;> rcases h2 with rfl | rfl | rfl | rfl
  · exact g_rw_of (r := 33) (cap := 8) (by decide) (by decide) (by decide) (by decide) (by decide)
  · exact g_rw_of (r := 44) (cap := 8) (by decide) (by decide) (by decide) (by decide) (by decide)
  · exact g_rw_of (r := 55) (cap := 8) (by decide) (by decide) (by decide) (by decide) (by decide)
  · exact g_rw_of (r := 66) (cap := 8) (by decide) (by decide) (by decide) (by decide) (by decide)
  · exact g_rw_of (r := 110) (cap := 8) (by decide) (by decide) (by decide) (by decide) (by decide)
  · exact g_rw_of (r := 121) (cap := 8) (by decide) (by decide) (by decide) (by decide) (by decide)
  · exact g_rw_of (r := 132) (cap := 8) (by decide) (by decide) (by decide) (by decide) (by decide)
  · exact g_rw_of (r := 143) (cap := 8) (by decide) (by decide) (by decide) (by decide) (by decide)
theorem rwD {b : Int} (hb : 0 ≤ b ∧ b < 2) : g_rw (6 + 77 * b) 24 := by
  have h1 : b = 0 ∨ b = 1 := by omega
  rcases h1 with rfl | rfl
  · exact g_rw_of (r := 6) (cap := 24) (by decide) (by decide) (by decide) (by decide) (by decide)
  · exact g_rw_of (r := 83) (cap := 24) (by decide) (by decide) (by decide) (by decide) (by decide)
theorem is_T {b s : Int} (hb : 0 ≤ b ∧ b < 2) (hs : 0 ≤ s ∧ s < 4) : pb_is 4 213 (32 + 77 * b + 11 * s) := by
  have h1 : b = 0 ∨ b = 1 := by omega
  have h2 : s = 0 ∨ s = 1 ∨ s = 2 ∨ s = 3 := by omega
  rcases h1 with rfl | rfl <;> rcases h2 with rfl | rfl | rfl | rfl <;> exact ⟨by decide, by decide, by decide +kernel⟩
theorem is_L {b s : Int} (hb : 0 ≤ b ∧ b < 2) (hs : 0 ≤ s ∧ s < 4) : pb_is 5 213 (76 + 77 * b + s) := by
  have h1 : b = 0 ∨ b = 1 := by omega
  have h2 : s = 0 ∨ s = 1 ∨ s = 2 ∨ s = 3 := by omega
  rcases h1 with rfl | rfl <;> rcases h2 with rfl | rfl | rfl | rfl <;> exact ⟨by decide, by decide, by decide +kernel⟩
theorem is_B {b : Int} (hb : 0 ≤ b ∧ b < 2) : pb_is 1 213 (3 + 77 * b) ∧ pb_is 104 213 (4 + 77 * b) ∧ pb_is 105 213 (5 + 77 * b) ∧ pb_ln (4 + 77 * b) = 4 ∧ pb_ln (5 + 77 * b) = 4 := by
  have h1 : b = 0 ∨ b = 1 := by omega
  rcases h1 with rfl | rfl <;> exact ⟨⟨by decide, by decide, by decide +kernel⟩, ⟨by decide, by decide, by decide +kernel⟩, ⟨by decide, by decide, by decide +kernel⟩, by decide +kernel, by decide +kernel⟩
theorem is_P : pb_is 0 213 0 ∧ pb_is 102 213 1 ∧ pb_is 103 213 2 ∧ pb_ln 1 = 2 ∧ pb_ln 2 = 4 := ⟨⟨by decide, by decide, by decide +kernel⟩, ⟨by decide, by decide, by decide +kernel⟩, ⟨by decide, by decide, by decide +kernel⟩, by decide +kernel, by decide +kernel⟩
theorem is_C {j : Int} (hj : 0 ≤ j ∧ j < 4) : pb_is 6 213 (157 + 2 * j) ∧ pb_is 100 213 (158 + 2 * j) ∧ pb_ln (158 + 2 * j) = 4 := by
  have h2 : j = 0 ∨ j = 1 ∨ j = 2 ∨ j = 3 := by omega
  rcases h2 with rfl | rfl | rfl | rfl <;> exact ⟨⟨by decide, by decide, by decide +kernel⟩, ⟨by decide, by decide, by decide +kernel⟩, by decide +kernel⟩
/-- the terminals alone: all else is μ's -/
def rc_X (σ μ : pb_H) : Prop := ∀ f p i, ¬ (k_T f p ∨ k_U f p) → σ f p i = μ f p i
def RT (σ : pb_H) (T : gT) (μ : pb_H) : Prop := rc_fin σ ∧ rc_T σ T.1 ∧ rc_U σ T.2 ∧ rc_X σ μ
theorem RC.rt {σ : pb_H} {T : gT} {E : gE} {μ : pb_H} (h : RC σ T E μ) : RT σ T σ := ⟨h.1, h.2.1, h.2.2.1, fun _ _ _ _ => rfl⟩
/-- what was done to the terminals alone -/
theorem RC.of {σ σ' : pb_H} {T T' : gT} {E : gE} {μ : pb_H} (h : RC σ T E μ) (h' : RT σ' T' σ) : RC σ' T' E μ := by
  obtain ⟨h1, h2, h3, h4, h5, h6, h7, h8, h9⟩ := h
  obtain ⟨g1, g2, g3, g4⟩ := h'
  exact ⟨g1, g2, g3, h4.cg (fun f p i hk => g4 f p i (by unfold k_D at hk; unfold k_T k_U; omega)), h5.cg (fun f p i hk => g4 f p i (by unfold k_L at hk; unfold k_T k_U; omega)), h6.cg (fun f p i hk => g4 f p i (by unfold k_B at hk; unfold k_T k_U; omega)), h7.cg (fun f p i hk => g4 f p i (by unfold k_P at hk; unfold k_T k_U; omega)), h8.cg (fun f p i hk => g4 f p i (by unfold k_C at hk; unfold k_T k_U; omega)), h9.cg (fun f p i hk => g4 f p i (by unfold k_K at hk; unfold k_T k_U; omega))⟩
section RD
variable {σ : pb_H} {T : gT} {E : gE} {μ : pb_H} {b s : Int}
theorem q_T (h : RT σ T μ) (hb : 0 ≤ b ∧ b < 2) (hs : 0 ≤ s ∧ s < 4) (f k : Nat) (hf : f = 401 + k) (hk : 1 ≤ k ∧ k < 16) : σ f (32 + 77 * b + 11 * s) 0 = T.1 k (4 * b + s) := by
  subst hf
  exact h.2.1 b s k hb.1 hb.2 hs.1 hs.2 hk.1 hk.2
theorem q_rowU (h : RT σ T μ) (hb : 0 ≤ b ∧ b < 2) (hs : 0 ≤ s ∧ s < 4) : g_row σ (33 + 77 * b + 11 * s) 8 (T.2 (4 * b + s)) := h.2.2.1 b s hb.1 hb.2 hs.1 hs.2
theorem q_row (h : rc_fin σ) (hb : 0 ≤ b ∧ b < 2) (hs : 0 ≤ s ∧ s < 4) : σ 401 (32 + 77 * b + 11 * s) 0 = 33 + 77 * b + 11 * s := ((h.2.2 b hb.1 hb.2).2.2.2.2 s hs.1 hs.2).2.1
theorem q_term (h : rc_fin σ) (hb : 0 ≤ b ∧ b < 2) (hs : 0 ≤ s ∧ s < 4) : σ 0 (4 + 77 * b) s = 32 + 77 * b + 11 * s := ((h.2.2 b hb.1 hb.2).2.2.2.2 s hs.1 hs.2).1
theorem q_line (h : rc_fin σ) (hb : 0 ≤ b ∧ b < 2) (hs : 0 ≤ s ∧ s < 4) : σ 0 (5 + 77 * b) s = 76 + 77 * b + s := ((h.2.2 b hb.1 hb.2).2.2.2.2 s hs.1 hs.2).2.2
theorem q_bus (h : rc_fin σ) (hb : 0 ≤ b ∧ b < 2) : σ 0 1 b = 3 + 77 * b ∧ σ 101 (3 + 77 * b) 0 = 4 + 77 * b ∧ σ 102 (3 + 77 * b) 0 = 5 + 77 * b ∧ σ 103 (3 + 77 * b) 0 = 6 + 77 * b := by
  have h1 := h.2.2 b hb.1 hb.2
  exact ⟨h1.1, h1.2.1, h1.2.2.1, h1.2.2.2.1⟩
theorem q_rowD (h : RC σ T E μ) (hb : 0 ≤ b ∧ b < 2) : g_row σ (6 + 77 * b) 24 (E.2.1 b) := h.2.2.2.1 b hb.1 hb.2
theorem q_P (h : RC σ T E μ) : σ 1 0 0 = 1 ∧ σ 2 0 0 = 2 ∧ σ 3 0 0 = E.2.2.length ∧ σ 4 0 0 = E.1 8 0 ∧ σ 5 0 0 = E.1 9 0 := ⟨h.1.1, h.1.2.1, h.2.2.2.2.2.2.1.1, h.2.2.2.2.2.2.1.2.1, h.2.2.2.2.2.2.1.2.2⟩
theorem q_L (h : RC σ T E μ) (hb : 0 ≤ b ∧ b < 2) (hs : 0 ≤ s ∧ s < 4) (f k : Nat) (hf : f = 501 + k) (hk : k < 6) : σ f (76 + 77 * b + s) 0 = E.1 k (4 * b + s) := by
  subst hf
  exact h.2.2.2.2.1 b s k hb.1 hb.2 hs.1 hs.2 hk
theorem q_B (h : RC σ T E μ) (hb : 0 ≤ b ∧ b < 2) (f k : Nat) (hf : f = 104 + k) (hk : k < 2) : σ f (3 + 77 * b) 0 = E.1 (6 + k) b := by
  subst hf
  exact h.2.2.2.2.2.1 b k hb.1 hb.2 hk
theorem rt_upT {k : Nat} {v : Int} (h : RT σ T μ) (hk : 1 ≤ k ∧ k < 16) (hb : 0 ≤ b ∧ b < 2) (hs : 0 ≤ s ∧ s < 4) : RT (pb_up σ (401 + k) (32 + 77 * b + 11 * s) 0 v) (g_up T.1 k (4 * b + s) v, T.2) μ := by
  obtain ⟨h_fin, h_T, h_U, h_X⟩ := h
  have hk0 := hk
  refine ⟨h_fin.cg (fun f' p' i' hk => pb_up_k (by unfold k_fin at hk; omega)), ?_, h_U.cg (fun f' p' i' hk => pb_up_k (by unfold k_U at hk; omega)), fun f' p' i' hk => ?_⟩
  · dsimp only
    intro b' s' k' q1 q2 q3 q4 q5 q6
    by_cases ht : k' = k ∧ 4 * b' + s' = 4 * b + s
    · obtain ⟨rfl, ht⟩ := ht
      have e1 : b' = b := by omega
      have e2 : s' = s := by omega
      subst e1 e2
      rw [pb_up_same, g_up_s]
    · rw [pb_up_k (by omega), g_up_n ht]
      exact h_T b' s' k' q1 q2 q3 q4 q5 q6
  · rw [pb_up_k (by unfold k_T at hk; omega)]
    exact h_X f' p' i' hk
theorem rt_rowU {σ' : pb_H} {l : List gF} (h : RT σ T μ) (hb : 0 ≤ b ∧ b < 2) (hs : 0 ≤ s ∧ s < 4) (hr : g_row σ' (33 + 77 * b + 11 * s) 8 l) (ho : g_off σ σ' (33 + 77 * b + 11 * s) 8) : RT σ' (T.1, u_up T.2 (4 * b + s) l) μ := by
  obtain ⟨h_fin, h_T, h_U, h_X⟩ := h
  refine ⟨h_fin.cg (fun f' p' i' hk => ho _ _ _ (by unfold k_fin at hk; omega)), h_T.cg (fun f' p' i' hk => ho _ _ _ (by unfold k_T at hk; omega)), ?_, fun f' p' i' hk => ?_⟩
  · dsimp only
    intro b' s' q1 q2 q3 q4
    by_cases ht : 4 * b' + s' = 4 * b + s
    · have e1 : b' = b := by omega
      have e2 : s' = s := by omega
      subst e1 e2
      rw [u_up_s]
      exact hr
    · rw [u_up_n ht]
      exact (h_U b' s' q1 q2 q3 q4).cg (ho _ _ _ (by omega)) (ho _ _ _ (by omega)) (fun _ => ho _ _ _ (by omega)) (fun _ _ h1 h2 h3 h4 => ho _ _ _ (by omega))
  · rw [ho _ _ _ (by unfold k_U k_T at hk; omega)]
    exact h_X f' p' i' hk
end RD
/-! the words for what is done -/
def s_put (cap : Int) (l : List gF) (f : gF) : List gF := if (l.length : Int) = cap then l else l ++ [f]
def gt_set (T : gT) (k : Nat) (t v : Int) : gT := (g_up T.1 k t v, T.2)
def gt_row (T : gT) (t : Int) (l : List gF) : gT := (T.1, u_up T.2 t l)
def gt_put (T : gT) (t : Int) (f : gF) : gT := gt_row T t (s_put 8 (T.2 t) f)
def ge_set (E : gE) (k : Nat) (t v : Int) : gE := (g_up E.1 k t v, E.2)
def ge_row (E : gE) (b : Int) (l : List gF) : gE := (E.1, u_up E.2.1 b l, E.2.2)
def ge_put (E : gE) (b : Int) (f : gF) : gE := ge_row E b (s_put 24 (E.2.1 b) f)
def ge_calls (E : gE) (c : List gC) : gE := (E.1, E.2.1, c)
def gt_null (T : gT) (t : Int) : gT := gt_set (gt_set T 7 t 0) 9 t (-1)
def gt_over (T : gT) (t d : Int) : gT := gt_set (gt_put (gt_set (gt_null (gt_set (gt_row T t []) 4 t 0) t) 5 t d) t (7, 0, 0, d, 0)) 6 t 8
def gt_next (T : gT) (t : Int) : gT := gt_over T t (pb_rem (pb_w (T.1 5 t + 1)) 16)
def gt_plugIn (T : gT) (t d : Int) : gT := gt_over (gt_set (gt_set (gt_set (gt_set (gt_set (gt_set T 1 t 1) 2 t 0) 10 t 0) 11 t 255) 12 t (-1)) 13 t 0) t d
def gt_pullOut (T : gT) (t : Int) : gT := gt_null (gt_set (gt_row (gt_set T 1 t 0) t []) 4 t 0) t
def gt_call (T : gT) (t n : Int) : gT := gt_put (gt_set (gt_set (gt_set T 7 t 1) 8 t (pb_w (pb_mul 2 (T.1 13 t) + 1))) 13 t (pb_w (T.1 13 t + 1))) t (0, T.1 4 t, pb_w (pb_mul 2 (T.1 13 t) + 1), n, 0)
section ST
variable {x : pb_E} {σ : pb_H} {T : gT} {E : gE} {μ : pb_H} {b s : Int} {Q : pb_P}
theorem r_T (h : RT σ T μ) (hb : 0 ≤ b ∧ b < 2) (hs : 0 ≤ s ∧ s < 4) (f k : Nat) (hf : f = 401 + k) (hk : 1 ≤ k ∧ k < 16) (v : Int) : RT (pb_up σ f (32 + 77 * b + 11 * s) 0 v) (gt_set T k (4 * b + s) v) μ := by
  subst hf
  exact rt_upT h hk hb hs
theorem c_putU (h : RT σ T μ) (hb : 0 ≤ b ∧ b < 2) (hs : 0 ≤ s ∧ s < 4) {k a f v : Int} (hQ : ∀ σ', RT σ' (gt_put T (4 * b + s) (k, a, f, v, 0)) μ → Q (.inl 0) σ') : pb_MJ x i_R_put [.inr (33 + 77 * b + 11 * s), .inl k, .inl a, .inl f, .inl v] 213 σ Q :=
  c_R_put (rwU hb hs) (q_rowU h hb hs) (fun σ' h1 h2 => hQ σ' (rt_rowU h hb hs h1 h2))
theorem c_popU (h : RT σ T μ) (hb : 0 ≤ b ∧ b < 2) (hs : 0 ≤ s ∧ s < 4) (hQ : ∀ σ', RT σ' (gt_row T (4 * b + s) (T.2 (4 * b + s)).tail) μ → Q (.inl 0) σ') : pb_MJ x i_R_removeFirst [.inr (33 + 77 * b + 11 * s)] 213 σ Q :=
  c_R_removeFirst (rwU hb hs) (q_rowU h hb hs) (fun σ' h1 h2 => hQ σ' (rt_rowU h hb hs h1 h2))
theorem g_row.clr {r cap : Int} {l : List gF} (h : g_row σ r cap l) : g_row (pb_up σ 202 r 0 0) r cap [] := by
  obtain ⟨h1, h2, h3, h4, h5, h6⟩ := h
  refine ⟨by rw [pb_up_f (by decide)]; exact h1, by rw [pb_up_same]; rfl, by simp; omega, fun i a c => by rw [pb_up_f (by decide)]; exact h4 i a c, fun i j a c d e g => h5 i j a c d e (by rw [pb_up_f (by decide), pb_up_f (by decide)] at g; exact g), fun i f hi => by simp at hi⟩
theorem c_clrU (h : RT σ T μ) (hb : 0 ≤ b ∧ b < 2) (hs : 0 ≤ s ∧ s < 4) (hQ : ∀ σ', RT σ' (gt_row T (4 * b + s) []) μ → Q (.inl 0) σ') : pb_MJ x i_R_removeAll [.inr (33 + 77 * b + 11 * s)] 213 σ Q :=
  c_R_removeAll (rwU hb hs).1 (hQ _ (rt_rowU h hb hs (q_rowU h hb hs).clr ((g_off.rf σ _ _).up (Or.inl ⟨rfl, rfl⟩))))
theorem c_T_becomeNull (h : RT σ T μ) (hb : 0 ≤ b ∧ b < 2) (hs : 0 ≤ s ∧ s < 4) (hQ : ∀ σ', RT σ' (gt_null T (4 * b + s)) μ → Q (.inl 0) σ') : pb_MJ x i_T_becomeNull [.inr (32 + 77 * b + 11 * s)] 213 σ Q := by
  refine pb_m_T_becomeNull ?_
  simp only [pb_b_T_becomeNull_0, pb_iconst, pb_null, pb_iload, pb_aload, pb_istore, pb_astore, pb_iinc, pb_bin, pb_bin0, pb_dup, pb_pop, pb_dup2, pb_if, pb_icmp, pb_ifnull, pb_getI, pb_getR, pb_putI, pb_putZ, pb_putR, pb_alen, pb_ald, pb_aldR, pb_ast, pb_astZ, pb_astR, pb_vret, pb_iret, pb_zret, pb_aret, pb_cv, pb_cr, pb_sr, pb_switch, pb_sw, pb_nth, pb_set, pb_tk, pb_add, pb_sub, List.length_cons, List.length_nil, true_or, or_true, true_and, and_true, and_self, pb_up_same, pb_up_f, ne_eq, Nat.reduceEqDiff, not_false_eq_true, Nat.reduceAdd, Nat.reduceLeDiff, Nat.zero_le, is_T hb hs]
  exact hQ _ (r_T (r_T h hb hs 408 7 rfl ⟨by decide, by decide⟩ 0) hb hs 410 9 rfl ⟨by decide, by decide⟩ (-1))
theorem c_T_startOver (h : RT σ T μ) (hb : 0 ≤ b ∧ b < 2) (hs : 0 ≤ s ∧ s < 4) {d : Int} (hQ : ∀ σ', RT σ' (gt_over T (4 * b + s) d) μ → Q (.inl 0) σ') : pb_MJ x i_T_startOver [.inr (32 + 77 * b + 11 * s), .inl d] 213 σ Q := by
  refine pb_m_T_startOver ?_
  simp only [pb_b_T_startOver_0, pb_iconst, pb_null, pb_iload, pb_aload, pb_istore, pb_astore, pb_iinc, pb_bin, pb_bin0, pb_dup, pb_pop, pb_dup2, pb_if, pb_icmp, pb_ifnull, pb_getI, pb_getR, pb_putI, pb_putZ, pb_putR, pb_alen, pb_ald, pb_aldR, pb_ast, pb_astZ, pb_astR, pb_vret, pb_iret, pb_zret, pb_aret, pb_cv, pb_cr, pb_sr, pb_switch, pb_sw, pb_nth, pb_set, pb_tk, pb_add, pb_sub, List.length_cons, List.length_nil, true_or, or_true, true_and, and_true, and_self, pb_up_same, pb_up_f, ne_eq, Nat.reduceEqDiff, not_false_eq_true, Nat.reduceAdd, Nat.reduceLeDiff, Nat.zero_le, is_T hb hs, q_row h.1 hb hs, (rwU hb hs).1]
  refine c_clrU h hb hs (fun σ1 h1 => ?_)
  refine c_T_becomeNull (r_T h1 hb hs 405 4 rfl ⟨by decide, by decide⟩ 0) hb hs (fun σ2 h2 => ?_)
  simp only [q_row h2.1 hb hs, (rwU hb hs).1, true_and]
  refine c_putU (r_T h2 hb hs 406 5 rfl ⟨by decide, by decide⟩ d) hb hs (fun σ3 h3 => ?_)
  exact hQ _ (r_T h3 hb hs 407 6 rfl ⟨by decide, by decide⟩ 8)
end ST
