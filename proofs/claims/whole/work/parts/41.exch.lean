/-! the exchange alone: all else is μ's; the calls' cells are ρ's -/
def k_R (f : Nat) (p : Int) : Prop := f = 0 ∧ p = 2
def k_Y (f : Nat) (p : Int) : Prop := ¬ (k_D f p ∨ k_L f p ∨ k_B f p ∨ k_P f p ∨ k_C f p)
def rc_R (σ : pb_H) (ρ : Int → Int) : Prop := ∀ i, σ 0 2 i = ρ i
def rc_Y (σ μ : pb_H) : Prop := ∀ f p i, k_Y f p → σ f p i = μ f p i
def RE (σ : pb_H) (E : gE) (ρ : Int → Int) (μ : pb_H) : Prop := rc_fin σ ∧ rc_D σ E.2.1 ∧ rc_L σ E.1 ∧ rc_B σ E.1 ∧ rc_P σ E.1 E.2.2 ∧ rc_C σ E.2.2 ∧ rc_R σ ρ ∧ rc_Y σ μ
theorem rc_R.cg {σ σ' : pb_H} {ρ : Int → Int} (h : rc_R σ ρ) (e : ∀ f p i, k_R f p → σ' f p i = σ f p i) : rc_R σ' ρ := fun i => (e 0 2 i ⟨rfl, rfl⟩).trans (h i)
theorem rc_Y.cg {σ σ' μ : pb_H} (h : rc_Y σ μ) (e : ∀ f p i, k_Y f p → σ' f p i = σ f p i) : rc_Y σ' μ := fun f p i q => (e f p i q).trans (h f p i q)
theorem RC.re {σ : pb_H} {T : gT} {E : gE} {μ : pb_H} (h : RC σ T E μ) : RE σ E (fun i => σ 0 2 i) σ := ⟨h.1, h.2.2.2.1, h.2.2.2.2.1, h.2.2.2.2.2.1, h.2.2.2.2.2.2.1, h.2.2.2.2.2.2.2.1, fun _ => rfl, fun _ _ _ _ => rfl⟩
/-- what was done to the exchange alone -/
theorem RC.ofE {σ σ' : pb_H} {T : gT} {E E' : gE} {ρ : Int → Int} {μ : pb_H} (h : RC σ T E μ) (h' : RE σ' E' ρ σ) : RC σ' T E' μ := by
  obtain ⟨h1, h2, h3, h4, h5, h6, h7, h8, h9⟩ := h
  obtain ⟨g1, g2, g3, g4, g5, g6, g7, g8⟩ := h'
  exact ⟨g1, h2.cg (fun f p i hk => g8 f p i (by unfold k_T at hk; unfold k_Y k_D k_L k_B k_P k_C; omega)), h3.cg (fun f p i hk => g8 f p i (by unfold k_U at hk; unfold k_Y k_D k_L k_B k_P k_C; omega)), g2, g3, g4, g5, g6, h9.cg (fun f p i hk => g8 f p i (by unfold k_K at hk; unfold k_Y k_D k_L k_B k_P k_C; omega))⟩
theorem re_upL {σ : pb_H} {E : gE} {ρ : Int → Int} {μ : pb_H} (h : RE σ E ρ μ) {k : Nat} {b j v : Int} (hk : k < 6) (hb : 0 ≤ b ∧ b < 2) (hj : 0 ≤ j ∧ j < 4) : RE (pb_up σ (501 + k) (76 + 77 * b + j) 0 v) (ge_set E k (4 * b + j) v) ρ μ := by
  obtain ⟨h_fin, h_D, h_L, h_B, h_P, h_C, h_R, h_Y⟩ := h
  have hk0 := hk
  refine ⟨h_fin.cg (fun f' p' i' hk => pb_up_k (by unfold k_fin at hk; omega)), h_D.cg (fun f' p' i' hk => pb_up_k (by unfold k_D at hk; omega)), ?_, ?_, ?_, h_C.cg (fun f' p' i' hk => pb_up_k (by unfold k_C at hk; omega)), h_R.cg (fun f' p' i' hk => pb_up_k (by unfold k_R at hk; omega)), h_Y.cg (fun f' p' i' hk => pb_up_k (by unfold k_Y k_D k_L k_B k_P k_C at hk; omega))⟩
  all_goals try dsimp only
  · intro b' j' k' q1 q2 q3 q4 q5
    show _ = g_up E.1 k (4 * b + j) v k' (4 * b' + j')
    by_cases ht : k' = k ∧ 4 * b' + j' = 4 * b + j
    · obtain ⟨rfl, ht⟩ := ht
      have e1 : b' = b := by omega
      have e2 : j' = j := by omega
      subst e1 e2
      rw [pb_up_same, g_up_s]
    · rw [pb_up_k (by omega), g_up_n ht]
      exact h_L b' j' k' q1 q2 q3 q4 q5
  · intro b' k' q1 q2 q3
    show _ = g_up E.1 k (4 * b + j) v (6 + k') b'
    rw [pb_up_k (by omega), g_up_n (by omega)]
    exact h_B b' k' q1 q2 q3
  · show rc_P _ (g_up E.1 k (4 * b + j) v) E.2.2
    exact ⟨by rw [pb_up_k (by omega)]; exact h_P.1, by rw [pb_up_k (by omega), g_up_n (by omega)]; exact h_P.2.1, by rw [pb_up_k (by omega), g_up_n (by omega)]; exact h_P.2.2⟩
theorem re_upB {σ : pb_H} {E : gE} {ρ : Int → Int} {μ : pb_H} (h : RE σ E ρ μ) {k : Nat} {b v : Int} (hk : k < 2) (hb : 0 ≤ b ∧ b < 2) : RE (pb_up σ (104 + k) (3 + 77 * b) 0 v) (ge_set E (6 + k) b v) ρ μ := by
  obtain ⟨h_fin, h_D, h_L, h_B, h_P, h_C, h_R, h_Y⟩ := h
  have hk0 := hk
  refine ⟨h_fin.cg (fun f' p' i' hk => pb_up_k (by unfold k_fin at hk; omega)), h_D.cg (fun f' p' i' hk => pb_up_k (by unfold k_D at hk; omega)), ?_, ?_, ?_, h_C.cg (fun f' p' i' hk => pb_up_k (by unfold k_C at hk; omega)), h_R.cg (fun f' p' i' hk => pb_up_k (by unfold k_R at hk; omega)), h_Y.cg (fun f' p' i' hk => pb_up_k (by unfold k_Y k_D k_L k_B k_P k_C at hk; omega))⟩
  all_goals try dsimp only
  · intro b' j' k' q1 q2 q3 q4 q5
    show _ = g_up E.1 (6 + k) b v k' (4 * b' + j')
    rw [pb_up_k (by omega), g_up_n (by omega)]
    exact h_L b' j' k' q1 q2 q3 q4 q5
  · intro b' k' q1 q2 q3
    show _ = g_up E.1 (6 + k) b v (6 + k') b'
    by_cases ht : k' = k ∧ b' = b
    · obtain ⟨rfl, rfl⟩ := ht
      rw [pb_up_same, g_up_s]
    · rw [pb_up_k (by omega), g_up_n (by omega)]
      exact h_B b' k' q1 q2 q3
  · show rc_P _ (g_up E.1 (6 + k) b v) E.2.2
    exact ⟨by rw [pb_up_k (by omega)]; exact h_P.1, by rw [pb_up_k (by omega), g_up_n (by omega)]; exact h_P.2.1, by rw [pb_up_k (by omega), g_up_n (by omega)]; exact h_P.2.2⟩
theorem re_upTicks {σ : pb_H} {E : gE} {ρ : Int → Int} {μ : pb_H} (h : RE σ E ρ μ) {v : Int} : RE (pb_up σ 5 0 0 v) (ge_set E 9 0 v) ρ μ := by
  obtain ⟨h_fin, h_D, h_L, h_B, h_P, h_C, h_R, h_Y⟩ := h
  refine ⟨h_fin.cg (fun f' p' i' hk => pb_up_k (by unfold k_fin at hk; omega)), h_D.cg (fun f' p' i' hk => pb_up_k (by unfold k_D at hk; omega)), ?_, ?_, ?_, h_C.cg (fun f' p' i' hk => pb_up_k (by unfold k_C at hk; omega)), h_R.cg (fun f' p' i' hk => pb_up_k (by unfold k_R at hk; omega)), h_Y.cg (fun f' p' i' hk => pb_up_k (by unfold k_Y k_D k_L k_B k_P k_C at hk; omega))⟩
  all_goals try dsimp only
  · intro b' j' k' q1 q2 q3 q4 q5
    show _ = g_up E.1 9 0 v k' (4 * b' + j')
    rw [pb_up_k (by omega), g_up_n (by omega)]
    exact h_L b' j' k' q1 q2 q3 q4 q5
  · intro b' k' q1 q2 q3
    show _ = g_up E.1 9 0 v (6 + k') b'
    rw [pb_up_k (by omega), g_up_n (by omega)]
    exact h_B b' k' q1 q2 q3
  · show rc_P _ (g_up E.1 9 0 v) E.2.2
    exact ⟨by rw [pb_up_k (by omega)]; exact h_P.1, by rw [pb_up_k (by omega), g_up_n (by omega)]; exact h_P.2.1, by rw [pb_up_same, g_up_s]⟩
theorem re_upLatest {σ : pb_H} {E : gE} {ρ : Int → Int} {μ : pb_H} (h : RE σ E ρ μ) {v : Int} : RE (pb_up σ 4 0 0 v) (ge_set E 8 0 v) ρ μ := by
  obtain ⟨h_fin, h_D, h_L, h_B, h_P, h_C, h_R, h_Y⟩ := h
  refine ⟨h_fin.cg (fun f' p' i' hk => pb_up_k (by unfold k_fin at hk; omega)), h_D.cg (fun f' p' i' hk => pb_up_k (by unfold k_D at hk; omega)), ?_, ?_, ?_, h_C.cg (fun f' p' i' hk => pb_up_k (by unfold k_C at hk; omega)), h_R.cg (fun f' p' i' hk => pb_up_k (by unfold k_R at hk; omega)), h_Y.cg (fun f' p' i' hk => pb_up_k (by unfold k_Y k_D k_L k_B k_P k_C at hk; omega))⟩
  all_goals try dsimp only
  · intro b' j' k' q1 q2 q3 q4 q5
    show _ = g_up E.1 8 0 v k' (4 * b' + j')
    rw [pb_up_k (by omega), g_up_n (by omega)]
    exact h_L b' j' k' q1 q2 q3 q4 q5
  · intro b' k' q1 q2 q3
    show _ = g_up E.1 8 0 v (6 + k') b'
    rw [pb_up_k (by omega), g_up_n (by omega)]
    exact h_B b' k' q1 q2 q3
  · show rc_P _ (g_up E.1 8 0 v) E.2.2
    exact ⟨by rw [pb_up_k (by omega)]; exact h_P.1, by rw [pb_up_same, g_up_s], by rw [pb_up_k (by omega), g_up_n (by omega)]; exact h_P.2.2⟩
theorem re_upC {σ : pb_H} {E : gE} {ρ : Int → Int} {μ : pb_H} (h : RE σ E ρ μ) {i k : Nat} {f : gC} {v : Int} (hi : E.2.2[i]? = some f) (hk : 1 ≤ k ∧ k < 13) : RE (pb_up σ (601 + k) (ρ i) 0 v) (ge_calls E (E.2.2.set i (c_up f k v))) ρ μ := by
  obtain ⟨h_fin, h_D, h_L, h_B, h_P, h_C, h_R, h_Y⟩ := h
  have hk0 := hk
  have hl := (List.getElem?_eq_some_iff.mp hi).1
  have h40 := h_C.1
  obtain ⟨j0, b1, b2, b3⟩ := h_C.2.1 i (by omega) (by omega)
  have hρ := h_R i
  rw [← hρ]
  refine ⟨h_fin.cg (fun f' p' i' hk => pb_up_k (by unfold k_fin at hk; omega)), h_D.cg (fun f' p' i' hk => pb_up_k (by unfold k_D at hk; omega)), h_L.cg (fun f' p' i' hk => pb_up_k (by unfold k_L at hk; omega)), h_B.cg (fun f' p' i' hk => pb_up_k (by unfold k_B at hk; omega)), ?_, ?_, h_R.cg (fun f' p' i' hk => pb_up_k (by unfold k_R at hk; omega)), h_Y.cg (fun f' p' i' hk => pb_up_k (by unfold k_Y k_D k_L k_B k_P k_C at hk; omega))⟩
  all_goals try dsimp only
  · show rc_P _ E.1 (E.2.2.set i _)
    exact ⟨by rw [pb_up_k (by omega), List.length_set]; exact h_P.1, by rw [pb_up_k (by omega)]; exact h_P.2.1, by rw [pb_up_k (by omega)]; exact h_P.2.2⟩
  · show rc_C _ (E.2.2.set i _)
    obtain ⟨a1, a2, a3, a4, a5⟩ := h_C
    have e2 : ∀ i', pb_up σ (601 + k) (σ 0 2 i) 0 v 0 2 i' = σ 0 2 i' := fun i' => pb_up_k (by omega)
    refine ⟨by rw [List.length_set]; exact a1, fun i' q1 q2 => by rw [e2]; exact a2 i' q1 q2, fun i' j' q1 q2 q3 q4 q5 => a3 i' j' q1 q2 q3 q4 (by rw [e2, e2] at q5; exact q5), fun j q1 q2 => by rw [pb_up_k (by omega)]; exact a4 j q1 q2, fun i' f' hi' => ?_⟩
    have hl' := (List.getElem?_eq_some_iff.mp hi').1
    rw [List.length_set] at hl'
    obtain ⟨j1, c1, c2, c3⟩ := a2 i' (by omega) (by omega)
    by_cases hii : i' = i
    · subst hii
      rw [List.getElem?_set_self hl] at hi'
      cases hi'
      refine ⟨fun k' q1 q2 => ?_, fun j' q1 => ?_⟩
      · rw [e2]
        by_cases hkk : k' = k
        · subst hkk
          rw [pb_up_same]
          simp [c_up]
        · rw [pb_up_k (by omega)]
          simp only [c_up, if_neg hkk]
          exact (a5 i' f hi).1 k' q1 q2
      · rw [e2, pb_up_k (by omega)]
        simp only [c_up, if_neg (show ¬ 20 + j' = k by omega)]
        exact (a5 i' f hi).2 j' q1
    · rw [List.getElem?_set_ne (Ne.symm hii)] at hi'
      refine ⟨fun k' q1 q2 => ?_, fun j' q1 => ?_⟩
      · rw [e2, pb_up_k (fun z => hii (by have := a3 i' i (by omega) (by omega) (by omega) (by omega) z.2; omega))]
        exact (a5 i' f' hi').1 k' q1 q2
      · rw [e2, pb_up_k (by omega)]
        exact (a5 i' f' hi').2 j' q1
theorem re_upLeg {σ : pb_H} {E : gE} {ρ : Int → Int} {μ : pb_H} (h : RE σ E ρ μ) {i j : Nat} {f : gC} {v : Int} (hi : E.2.2[i]? = some f) (hj : j < 4) : RE (pb_up σ 0 (ρ i + 1) j v) (ge_calls E (E.2.2.set i (c_up f (20 + j) v))) ρ μ := by
  obtain ⟨h_fin, h_D, h_L, h_B, h_P, h_C, h_R, h_Y⟩ := h
  have hl := (List.getElem?_eq_some_iff.mp hi).1
  have h40 := h_C.1
  obtain ⟨j0, b1, b2, b3⟩ := h_C.2.1 i (by omega) (by omega)
  have hρ := h_R i
  rw [← hρ]
  refine ⟨h_fin.cg (fun f' p' i' hk => pb_up_k (by unfold k_fin at hk; omega)), h_D.cg (fun f' p' i' hk => pb_up_k (by unfold k_D at hk; omega)), h_L.cg (fun f' p' i' hk => pb_up_k (by unfold k_L at hk; omega)), h_B.cg (fun f' p' i' hk => pb_up_k (by unfold k_B at hk; omega)), ?_, ?_, h_R.cg (fun f' p' i' hk => pb_up_k (by unfold k_R at hk; omega)), h_Y.cg (fun f' p' i' hk => pb_up_k (by unfold k_Y k_D k_L k_B k_P k_C at hk; omega))⟩
  all_goals try dsimp only
  · show rc_P _ E.1 (E.2.2.set i _)
    exact ⟨by rw [pb_up_k (by omega), List.length_set]; exact h_P.1, by rw [pb_up_k (by omega)]; exact h_P.2.1, by rw [pb_up_k (by omega)]; exact h_P.2.2⟩
  · show rc_C _ (E.2.2.set i _)
    obtain ⟨a1, a2, a3, a4, a5⟩ := h_C
    have e2 : ∀ i', pb_up σ 0 (σ 0 2 i + 1) j v 0 2 i' = σ 0 2 i' := fun i' => pb_up_k (by omega)
    refine ⟨by rw [List.length_set]; exact a1, fun i' q1 q2 => by rw [e2]; exact a2 i' q1 q2, fun i' j' q1 q2 q3 q4 q5 => a3 i' j' q1 q2 q3 q4 (by rw [e2, e2] at q5; exact q5), fun j q1 q2 => by rw [pb_up_k (by omega)]; exact a4 j q1 q2, fun i' f' hi' => ?_⟩
    have hl' := (List.getElem?_eq_some_iff.mp hi').1
    rw [List.length_set] at hl'
    obtain ⟨j1, c1, c2, c3⟩ := a2 i' (by omega) (by omega)
    by_cases hii : i' = i
    · subst hii
      rw [List.getElem?_set_self hl] at hi'
      cases hi'
      refine ⟨fun k' q1 q2 => ?_, fun j' q1 => ?_⟩
      · rw [e2, pb_up_k (by omega)]
        simp only [c_up, if_neg (show ¬ k' = 20 + j by omega)]
        exact (a5 i' f hi).1 k' q1 q2
      · rw [e2]
        by_cases hjj : j' = j
        · subst hjj
          rw [pb_up_same]
          simp [c_up]
        · rw [pb_up_i (by omega)]
          simp only [c_up, if_neg (show ¬ 20 + j' = 20 + j by omega)]
          exact (a5 i' f hi).2 j' q1
    · rw [List.getElem?_set_ne (Ne.symm hii)] at hi'
      refine ⟨fun k' q1 q2 => ?_, fun j' q1 => ?_⟩
      · rw [e2, pb_up_k (by omega)]
        exact (a5 i' f' hi').1 k' q1 q2
      · rw [e2, pb_up_k (fun z => hii (by have := a3 i' i (by omega) (by omega) (by omega) (by omega) (by omega); omega))]
        exact (a5 i' f' hi').2 j' q1
theorem re_rowD {σ σ' : pb_H} {E : gE} {ρ : Int → Int} {μ : pb_H} {b : Int} {l : List gF} (h : RE σ E ρ μ) (hb : 0 ≤ b ∧ b < 2) (hr : g_row σ' (6 + 77 * b) 24 l) (ho : g_off σ σ' (6 + 77 * b) 24) : RE σ' (ge_row E b l) ρ μ := by
  obtain ⟨h_fin, h_D, h_L, h_B, h_P, h_C, h_R, h_Y⟩ := h
  refine ⟨h_fin.cg (fun f' p' i' hk => ho _ _ _ (by unfold k_fin at hk; omega)), ?_, h_L.cg (fun f' p' i' hk => ho _ _ _ (by unfold k_L at hk; omega)), h_B.cg (fun f' p' i' hk => ho _ _ _ (by unfold k_B at hk; omega)), h_P.cg (fun f' p' i' hk => ho _ _ _ (by unfold k_P at hk; omega)), h_C.cg (fun f' p' i' hk => ho _ _ _ (by unfold k_C at hk; omega)), h_R.cg (fun f' p' i' hk => ho _ _ _ (by unfold k_R at hk; omega)), h_Y.cg (fun f' p' i' hk => ho _ _ _ (by unfold k_Y k_D k_L k_B k_P k_C at hk; omega))⟩
  intro b' q1 q2
  show g_row σ' _ 24 (u_up E.2.1 b l b')
  by_cases ht : b' = b
  · subst ht
    rw [u_up_s]
    exact hr
  · rw [u_up_n ht]
    exact (h_D b' q1 q2).cg (ho _ _ _ (by omega)) (ho _ _ _ (by omega)) (fun _ => ho _ _ _ (by omega)) (fun _ _ h1 h2 h3 h4 => ho _ _ _ (by omega))
section RE1
variable {x : pb_E} {σ : pb_H} {E : gE} {ρ : Int → Int} {μ : pb_H} {b s : Int} {Q : pb_P} {n : Nat}
theorem p_rowD (h : RE σ E ρ μ) (hb : 0 ≤ b ∧ b < 2) : g_row σ (6 + 77 * b) 24 (E.2.1 b) := h.2.1 b hb.1 hb.2
theorem p_P (h : RE σ E ρ μ) : σ 1 0 0 = 1 ∧ σ 2 0 0 = 2 ∧ σ 3 0 0 = E.2.2.length ∧ σ 4 0 0 = E.1 8 0 ∧ σ 5 0 0 = E.1 9 0 := ⟨h.1.1, h.1.2.1, h.2.2.2.2.1.1, h.2.2.2.2.1.2.1, h.2.2.2.2.1.2.2⟩
theorem p_L (h : RE σ E ρ μ) (hb : 0 ≤ b ∧ b < 2) (hs : 0 ≤ s ∧ s < 4) (f k : Nat) (hf : f = 501 + k) (hk : k < 6) : σ f (76 + 77 * b + s) 0 = E.1 k (4 * b + s) := by
  subst hf
  exact h.2.2.1 b s k hb.1 hb.2 hs.1 hs.2 hk
theorem p_B (h : RE σ E ρ μ) (hb : 0 ≤ b ∧ b < 2) (f k : Nat) (hf : f = 104 + k) (hk : k < 2) : σ f (3 + 77 * b) 0 = E.1 (6 + k) b := by
  subst hf
  exact h.2.2.2.1 b k hb.1 hb.2 hk
theorem p_call {i : Nat} {f : gC} (h : RE σ E ρ μ) (hi : E.2.2[i]? = some f) : g_call σ (ρ i) f := by
  obtain ⟨a1, a2, a3, a4, a5⟩ := h.2.2.2.2.2.1
  have hl := (List.getElem?_eq_some_iff.mp hi).1
  obtain ⟨j, b1, b2, b3⟩ := a2 i (by omega) (by omega)
  have c1 := is_C ⟨b1, b2⟩
  have c2 := a4 j b1 b2
  have c3 := a5 i f hi
  rw [← h.2.2.2.2.2.2.1 i]
  rw [b3] at c3 ⊢
  rw [show (158 + 2 * j : Int) = 157 + 2 * j + 1 by omega] at c1 c2
  exact ⟨c1.1, c1.2.1, c1.2.2, c2, c3.1, c3.2⟩
theorem p_len (h : RE σ E ρ μ) : E.2.2.length ≤ 4 := h.2.2.2.2.2.1.1
theorem p_ref (h : RE σ E ρ μ) (i : Int) : σ 0 2 i = ρ i := h.2.2.2.2.2.2.1 i
theorem r_L (h : RE σ E ρ μ) (hb : 0 ≤ b ∧ b < 2) (hs : 0 ≤ s ∧ s < 4) (f k : Nat) (hf : f = 501 + k) (hk : k < 6) (v : Int) : RE (pb_up σ f (76 + 77 * b + s) 0 v) (ge_set E k (4 * b + s) v) ρ μ := by
  subst hf
  exact re_upL h hk hb hs
theorem r_B (h : RE σ E ρ μ) (hb : 0 ≤ b ∧ b < 2) (f k : Nat) (hf : f = 104 + k) (hk : k < 2) (v : Int) : RE (pb_up σ f (3 + 77 * b) 0 v) (ge_set E (6 + k) b v) ρ μ := by
  subst hf
  exact re_upB h hk hb
def ge_cset (E : gE) (i : Nat) (f : gC) : gE := ge_calls E (E.2.2.set i f)
theorem r_C {i : Nat} {f : gC} (h : RE σ E ρ μ) (hi : E.2.2[i]? = some f) (fl k : Nat) (hf : fl = 601 + k) (hk : 1 ≤ k ∧ k < 13) (v : Int) : RE (pb_up σ fl (ρ i) 0 v) (ge_cset E i (c_up f k v)) ρ μ := by
  subst hf
  exact re_upC h hi hk
theorem c_putD (h : RE σ E ρ μ) (hb : 0 ≤ b ∧ b < 2) {k a f v : Int} (hQ : ∀ σ', RE σ' (ge_put E b (k, a, f, v, 0)) ρ μ → Q (.inl 0) σ') : pb_MJ x i_R_put [.inr (6 + 77 * b), .inl k, .inl a, .inl f, .inl v] 213 σ Q :=
  c_R_put (rwD hb) (p_rowD h hb) (fun σ' h1 h2 => hQ σ' (re_rowD h hb h1 h2))
theorem c_popD (h : RE σ E ρ μ) (hb : 0 ≤ b ∧ b < 2) (hQ : ∀ σ', RE σ' (ge_row E b (E.2.1 b).tail) ρ μ → Q (.inl 0) σ') : pb_MJ x i_R_removeFirst [.inr (6 + 77 * b)] 213 σ Q :=
  c_R_removeFirst (rwD hb) (p_rowD h hb) (fun σ' h1 h2 => hQ σ' (re_rowD h hb h1 h2))
theorem c_C_setLeg {i : Nat} {f : gC} {a v : Int} (h : RE σ E ρ μ) (hi : E.2.2[i]? = some f) (ha : pb_R a) (hQ : ∀ σ', RE σ' (ge_cset E i (g_setLeg f a v)) ρ μ → Q (.inl 0) σ') : pb_MJ x i_C_setLeg [.inr (ρ i), .inl a, .inl v] 213 σ Q := by
  refine pb_m_C_setLeg ?_
  have hc := p_call h hi
  simp only [pb_b_C_setLeg_0, pb_b_C_setLeg_21, pb_iconst, pb_null, pb_iload, pb_aload, pb_istore, pb_astore, pb_iinc, pb_bin, pb_bin0, pb_dup, pb_pop, pb_dup2, pb_if, pb_icmp, pb_ifnull, pb_getI, pb_getR, pb_putI, pb_putZ, pb_putR, pb_alen, pb_ald, pb_aldR, pb_ast, pb_astZ, pb_astR, pb_vret, pb_iret, pb_zret, pb_aret, pb_cv, pb_cr, pb_sr, pb_switch, pb_sw, pb_nth, pb_set, pb_tk, pb_add, pb_sub, List.length_cons, List.length_nil, true_or, or_true, true_and, and_true, and_self, pb_up_same, pb_up_f, ne_eq, Nat.reduceEqDiff, not_false_eq_true, Nat.reduceAdd, Nat.reduceLeDiff, Nat.zero_le, hc.1, hc.2.1, hc.2.2.1, hc.2.2.2.1]
  unfold g_setLeg at hQ
  by_cases hw : 64 ≤ a ∧ a < 68
  · rw [if_pos hw] at hQ
    rw [(g_w64 ha).1 hw]
    refine ⟨fun z => absurd z (by omega), fun _ => ⟨fun z => absurd z (by omega), fun _ => ⟨⟨by omega, by omega⟩, ?_⟩⟩⟩
    have h2 := re_upLeg (v := v) h hi (show (a - 64).toNat < 4 by omega)
    rw [Int.toNat_of_nonneg (by omega)] at h2
    exact hQ _ h2
  · rw [if_neg hw] at hQ
    have e := (g_w64 ha).2 hw
    have hq : ∀ σ', RE σ' E ρ μ → Q (.inl 0) σ' := by
      intro σ' h'
      refine hQ σ' ?_
      have hl := (List.getElem?_eq_some_iff.mp hi)
      obtain ⟨hl1, hl2⟩ := hl
      rw [show ge_cset E i f = E by unfold ge_cset ge_calls; rw [← hl2, List.set_getElem_self]]
      exact h'
    exact ⟨fun _ => hq σ h, fun e1 => ⟨fun _ => hq σ h, fun e2 => absurd e (by omega)⟩⟩
end RE1
