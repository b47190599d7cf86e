/-! the class's heap holds a state: terminals T (numbers by tag and place, rows), exchange E (numbers, rows, calls); the reference's part is μ's -/
abbrev gC : Type := Nat → Int
abbrev gT : Type := (Nat → Int → Int) × (Int → List gF)
abbrev gE : Type := (Nat → Int → Int) × (Int → List gF) × List gC
def g_up (g : Nat → Int → Int) (k : Nat) (t v : Int) : Nat → Int → Int := fun k' t' => if k' = k ∧ t' = t then v else g k' t'
def u_up (u : Int → List gF) (t : Int) (l : List gF) : Int → List gF := fun t' => if t' = t then l else u t'
def c_up (f : gC) (k : Nat) (v : Int) : gC := fun k' => if k' = k then v else f k'
theorem g_up_s (g : Nat → Int → Int) (k : Nat) (t v : Int) : g_up g k t v k t = v := by simp [g_up]
theorem g_up_n {g : Nat → Int → Int} {k k' : Nat} {t t' v : Int} (h : ¬ (k' = k ∧ t' = t)) : g_up g k t v k' t' = g k' t' := by unfold g_up; rw [if_neg h]
theorem u_up_s (u : Int → List gF) (t : Int) (l : List gF) : u_up u t l t = l := by simp [u_up]
theorem u_up_n {u : Int → List gF} {t t' : Int} {l : List gF} (h : t' ≠ t) : u_up u t l t' = u t' := by unfold u_up; rw [if_neg h]
theorem pb_up_k {σ : pb_H} {f f' : Nat} {p p' i i' v : Int} (h : ¬ (f' = f ∧ p' = p)) : pb_up σ f p i v f' p' i' = σ f' p' i' := by
  unfold pb_up
  rw [if_neg]
  rintro ⟨h1, h2, -⟩
  exact h ⟨h1, h2⟩
theorem g_row.cg {σ σ' : pb_H} {r cap : Int} {l : List gF} (h : g_row σ r cap l) (h201 : σ' 201 r 0 = σ 201 r 0) (h202 : σ' 202 r 0 = σ 202 r 0) (h0 : ∀ i, σ' 0 (r + 1) i = σ 0 (r + 1) i) (hf : ∀ f p, 301 ≤ f → f ≤ 305 → r + 2 ≤ p → p < r + 2 + cap → σ' f p 0 = σ f p 0) : g_row σ' r cap l := by
  obtain ⟨h1, h2, h3, h4, h5, h6⟩ := h
  refine ⟨h201.trans h1, h202.trans h2, h3, fun i a b => by rw [h0]; exact h4 i a b, fun i j a b c d e => h5 i j a b c d (by rw [h0, h0] at e; exact e), fun i f hi => ?_⟩
  have hl := g_lt hi
  have g := h4 i (by omega) (by omega)
  have g2 := h6 i f hi
  unfold g_fr at g2 ⊢
  rw [h0, hf 301 _ (by decide) (by decide) g.1 g.2, hf 302 _ (by decide) (by decide) g.1 g.2, hf 303 _ (by decide) (by decide) g.1 g.2, hf 304 _ (by decide) (by decide) g.1 g.2, hf 305 _ (by decide) (by decide) g.1 g.2]
  exact g2
def k_fin (f : Nat) (p : Int) : Prop := f = 1 ∨ f = 2 ∨ (f = 0 ∧ (p = 1 ∨ p = 4 ∨ p = 81 ∨ p = 5 ∨ p = 82)) ∨ (101 ≤ f ∧ f ≤ 103) ∨ f = 401
def k_T (f : Nat) (_ : Int) : Prop := 402 ≤ f ∧ f ≤ 416
def k_U (f : Nat) (p : Int) : Prop := (f = 0 ∨ (201 ≤ f ∧ f ≤ 305)) ∧ ((32 ≤ p ∧ p ≤ 75) ∨ (109 ≤ p ∧ p ≤ 152))
def k_D (f : Nat) (p : Int) : Prop := (f = 0 ∨ (201 ≤ f ∧ f ≤ 305)) ∧ ((6 ≤ p ∧ p ≤ 31) ∨ (83 ≤ p ∧ p ≤ 108))
def k_L (f : Nat) (_ : Int) : Prop := 501 ≤ f ∧ f ≤ 506
def k_B (f : Nat) (_ : Int) : Prop := f = 104 ∨ f = 105
def k_P (f : Nat) (_ : Int) : Prop := f = 3 ∨ f = 4 ∨ f = 5
def k_C (f : Nat) (p : Int) : Prop := (f = 0 ∧ (p = 2 ∨ (158 ≤ p ∧ p ≤ 164))) ∨ (601 ≤ f ∧ f ≤ 613)
def k_K (f : Nat) (p : Int) : Prop := 701 ≤ f ∨ (f = 0 ∧ 166 ≤ p)
def rc_fin (σ : pb_H) : Prop := σ 1 0 0 = 1 ∧ σ 2 0 0 = 2 ∧ ∀ b, 0 ≤ b → b < 2 → σ 0 1 b = 3 + 77 * b ∧ σ 101 (3 + 77 * b) 0 = 4 + 77 * b ∧ σ 102 (3 + 77 * b) 0 = 5 + 77 * b ∧ σ 103 (3 + 77 * b) 0 = 6 + 77 * b ∧ ∀ s, 0 ≤ s → s < 4 → σ 0 (4 + 77 * b) s = 32 + 77 * b + 11 * s ∧ σ 401 (32 + 77 * b + 11 * s) 0 = 33 + 77 * b + 11 * s ∧ σ 0 (5 + 77 * b) s = 76 + 77 * b + s
def rc_T (σ : pb_H) (g : Nat → Int → Int) : Prop := ∀ b s k, 0 ≤ b → b < 2 → 0 ≤ s → s < 4 → 1 ≤ k → k < 16 → σ (401 + k) (32 + 77 * b + 11 * s) 0 = g k (4 * b + s)
def rc_U (σ : pb_H) (u : Int → List gF) : Prop := ∀ b s, 0 ≤ b → b < 2 → 0 ≤ s → s < 4 → g_row σ (33 + 77 * b + 11 * s) 8 (u (4 * b + s))
def rc_D (σ : pb_H) (u : Int → List gF) : Prop := ∀ b, 0 ≤ b → b < 2 → g_row σ (6 + 77 * b) 24 (u b)
def rc_L (σ : pb_H) (g : Nat → Int → Int) : Prop := ∀ b j k, 0 ≤ b → b < 2 → 0 ≤ j → j < 4 → k < 6 → σ (501 + k) (76 + 77 * b + j) 0 = g k (4 * b + j)
def rc_B (σ : pb_H) (g : Nat → Int → Int) : Prop := ∀ b k, 0 ≤ b → b < 2 → k < 2 → σ (104 + k) (3 + 77 * b) 0 = g (6 + k) b
def rc_P (σ : pb_H) (g : Nat → Int → Int) (c : List gC) : Prop := σ 3 0 0 = c.length ∧ σ 4 0 0 = g 8 0 ∧ σ 5 0 0 = g 9 0
def rc_C (σ : pb_H) (c : List gC) : Prop := c.length ≤ 4 ∧ (∀ i, 0 ≤ i → i < 4 → ∃ j, 0 ≤ j ∧ j < 4 ∧ σ 0 2 i = 157 + 2 * j) ∧ (∀ i j, 0 ≤ i → i < 4 → 0 ≤ j → j < 4 → σ 0 2 i = σ 0 2 j → i = j) ∧ (∀ j, 0 ≤ j → j < 4 → σ 601 (157 + 2 * j) 0 = 158 + 2 * j) ∧ ∀ (i : Nat) (f : gC), c[i]? = some f → (∀ k, 1 ≤ k → k < 13 → σ (601 + k) (σ 0 2 i) 0 = f k) ∧ ∀ j : Nat, j < 4 → σ 0 (σ 0 2 i + 1) j = f (20 + j)
def rc_K (σ : pb_H) (μ : pb_H) : Prop := ∀ f p i, k_K f p → σ f p i = μ f p i
def RC (σ : pb_H) (T : gT) (E : gE) (μ : pb_H) : Prop := rc_fin σ ∧ rc_T σ T.1 ∧ rc_U σ T.2 ∧ rc_D σ E.2.1 ∧ rc_L σ E.1 ∧ rc_B σ E.1 ∧ rc_P σ E.1 E.2.2 ∧ rc_C σ E.2.2 ∧ rc_K σ μ
section CG
variable {σ σ' : pb_H}
theorem rc_fin.cg (h : rc_fin σ) (e : ∀ f p i, k_fin f p → σ' f p i = σ f p i) : rc_fin σ' := by
  obtain ⟨a1, a2, a3⟩ := h
  refine ⟨by rw [e _ _ _ (by unfold k_fin; omega)]; exact a1, by rw [e _ _ _ (by unfold k_fin; omega)]; exact a2, fun b q1 q2 => ?_⟩
  obtain ⟨a4, a5, a6, a7, a8⟩ := a3 b q1 q2
  refine ⟨by rw [e _ _ _ (by unfold k_fin; omega)]; exact a4, by rw [e _ _ _ (by unfold k_fin; omega)]; exact a5, by rw [e _ _ _ (by unfold k_fin; omega)]; exact a6, by rw [e _ _ _ (by unfold k_fin; omega)]; exact a7, fun s q3 q4 => ?_⟩
  obtain ⟨a9, a10, a11⟩ := a8 s q3 q4
  exact ⟨by rw [e _ _ _ (by unfold k_fin; omega)]; exact a9, by rw [e _ _ _ (by unfold k_fin; omega)]; exact a10, by rw [e _ _ _ (by unfold k_fin; omega)]; exact a11⟩
theorem rc_T.cg {g : Nat → Int → Int} (h : rc_T σ g) (e : ∀ f p i, k_T f p → σ' f p i = σ f p i) : rc_T σ' g := fun b s k q1 q2 q3 q4 q5 q6 => by
  rw [e _ _ _ (by unfold k_T; omega)]; exact h b s k q1 q2 q3 q4 q5 q6
theorem rc_U.cg {u : Int → List gF} (h : rc_U σ u) (e : ∀ f p i, k_U f p → σ' f p i = σ f p i) : rc_U σ' u := fun b s q1 q2 q3 q4 =>
  (h b s q1 q2 q3 q4).cg (e _ _ _ (by unfold k_U; omega)) (e _ _ _ (by unfold k_U; omega)) (fun _ => e _ _ _ (by unfold k_U; omega)) (fun _ _ h1 h2 h3 h4 => e _ _ _ (by unfold k_U; omega))
theorem rc_D.cg {u : Int → List gF} (h : rc_D σ u) (e : ∀ f p i, k_D f p → σ' f p i = σ f p i) : rc_D σ' u := fun b q1 q2 =>
  (h b q1 q2).cg (e _ _ _ (by unfold k_D; omega)) (e _ _ _ (by unfold k_D; omega)) (fun _ => e _ _ _ (by unfold k_D; omega)) (fun _ _ h1 h2 h3 h4 => e _ _ _ (by unfold k_D; omega))
theorem rc_L.cg {g : Nat → Int → Int} (h : rc_L σ g) (e : ∀ f p i, k_L f p → σ' f p i = σ f p i) : rc_L σ' g := fun b j k q1 q2 q3 q4 q5 => by
  rw [e _ _ _ (by unfold k_L; omega)]; exact h b j k q1 q2 q3 q4 q5
theorem rc_B.cg {g : Nat → Int → Int} (h : rc_B σ g) (e : ∀ f p i, k_B f p → σ' f p i = σ f p i) : rc_B σ' g := fun b k q1 q2 q3 => by
  rw [e _ _ _ (by unfold k_B; omega)]; exact h b k q1 q2 q3
theorem rc_P.cg {g : Nat → Int → Int} {c : List gC} (h : rc_P σ g c) (e : ∀ f p i, k_P f p → σ' f p i = σ f p i) : rc_P σ' g c :=
  ⟨by rw [e _ _ _ (by unfold k_P; omega)]; exact h.1, by rw [e _ _ _ (by unfold k_P; omega)]; exact h.2.1, by rw [e _ _ _ (by unfold k_P; omega)]; exact h.2.2⟩
theorem rc_C.cg {c : List gC} (h : rc_C σ c) (e : ∀ f p i, k_C f p → σ' f p i = σ f p i) : rc_C σ' c := by
  obtain ⟨a1, a2, a3, a4, a5⟩ := h
  have e2 : ∀ i, σ' 0 2 i = σ 0 2 i := fun i => e _ _ _ (by unfold k_C; omega)
  refine ⟨a1, fun i q1 q2 => by rw [e2]; exact a2 i q1 q2, fun i j q1 q2 q3 q4 q5 => a3 i j q1 q2 q3 q4 (by rw [e2, e2] at q5; exact q5), fun j q1 q2 => by rw [e _ _ _ (by unfold k_C; omega)]; exact a4 j q1 q2, fun i f hi => ?_⟩
  have hl := (List.getElem?_eq_some_iff.mp hi).1
  obtain ⟨j, b1, b2, b3⟩ := a2 i (by omega) (by omega)
  refine ⟨fun k q1 q2 => ?_, fun j' q1 => ?_⟩
  · rw [e2, e _ _ _ (by unfold k_C; omega)]
    exact (a5 i f hi).1 k q1 q2
  · rw [e2, e _ _ _ (by unfold k_C; omega)]
    exact (a5 i f hi).2 j' q1
theorem rc_K.cg {μ : pb_H} (h : rc_K σ μ) (e : ∀ f p i, k_K f p → σ' f p i = σ f p i) : rc_K σ' μ := fun f p i q => (e f p i q).trans (h f p i q)
end CG
theorem rc_upT {σ : pb_H} {T : gT} {E : gE} {μ : pb_H} (h : RC σ T E μ) {k : Nat} {b s v : Int} (hk : 1 ≤ k ∧ k < 16) (hb : 0 ≤ b ∧ b < 2) (hs : 0 ≤ s ∧ s < 4) : RC (pb_up σ (401 + k) (32 + 77 * b + 11 * s) 0 v) (g_up T.1 k (4 * b + s) v, T.2) E μ := by
  obtain ⟨h_fin, h_T, h_U, h_D, h_L, h_B, h_P, h_C, h_K⟩ := h
  have hk0 := hk
  refine ⟨h_fin.cg (fun f' p' i' hk => pb_up_k (by unfold k_fin at hk; omega)), ?_, h_U.cg (fun f' p' i' hk => pb_up_k (by unfold k_U at hk; omega)), h_D.cg (fun f' p' i' hk => pb_up_k (by unfold k_D at hk; omega)), h_L.cg (fun f' p' i' hk => pb_up_k (by unfold k_L at hk; omega)), h_B.cg (fun f' p' i' hk => pb_up_k (by unfold k_B at hk; omega)), h_P.cg (fun f' p' i' hk => pb_up_k (by unfold k_P at hk; omega)), h_C.cg (fun f' p' i' hk => pb_up_k (by unfold k_C at hk; omega)), h_K.cg (fun f' p' i' hk => pb_up_k (by unfold k_K at hk; omega))⟩
  dsimp only
  intro b' s' k' q1 q2 q3 q4 q5 q6
  by_cases ht : k' = k ∧ 4 * b' + s' = 4 * b + s
  · obtain ⟨rfl, ht⟩ := ht
    have e1 : b' = b := by omega
    have e2 : s' = s := by omega
    subst e1 e2
    rw [pb_up_same, g_up_s]
  · rw [pb_up_k (by omega), g_up_n ht]
    exact h_T b' s' k' q1 q2 q3 q4 q5 q6
theorem rc_rowU {σ : pb_H} {T : gT} {E : gE} {μ : pb_H} (h : RC σ T E μ) {σ' : pb_H} {b s : Int} {l : List gF} (hb : 0 ≤ b ∧ b < 2) (hs : 0 ≤ s ∧ s < 4) (hr : g_row σ' (33 + 77 * b + 11 * s) 8 l) (ho : g_off σ σ' (33 + 77 * b + 11 * s) 8) : RC (σ') (T.1, u_up T.2 (4 * b + s) l) E μ := by
  obtain ⟨h_fin, h_T, h_U, h_D, h_L, h_B, h_P, h_C, h_K⟩ := h
  refine ⟨h_fin.cg (fun f' p' i' hk => ho _ _ _ (by unfold k_fin at hk; omega)), h_T.cg (fun f' p' i' hk => ho _ _ _ (by unfold k_T at hk; omega)), ?_, h_D.cg (fun f' p' i' hk => ho _ _ _ (by unfold k_D at hk; omega)), h_L.cg (fun f' p' i' hk => ho _ _ _ (by unfold k_L at hk; omega)), h_B.cg (fun f' p' i' hk => ho _ _ _ (by unfold k_B at hk; omega)), h_P.cg (fun f' p' i' hk => ho _ _ _ (by unfold k_P at hk; omega)), h_C.cg (fun f' p' i' hk => ho _ _ _ (by unfold k_C at hk; omega)), h_K.cg (fun f' p' i' hk => ho _ _ _ (by unfold k_K at hk; omega))⟩
  dsimp only
  intro b' s' q1 q2 q3 q4
  by_cases ht : 4 * b' + s' = 4 * b + s
  · have e1 : b' = b := by omega
    have e2 : s' = s := by omega
    subst e1 e2
    rw [u_up_s]
    exact hr
  · rw [u_up_n ht]
    exact (h_U b' s' q1 q2 q3 q4).cg (ho _ _ _ (by omega)) (ho _ _ _ (by omega)) (fun _ => ho _ _ _ (by omega)) (fun _ _ h1 h2 h3 h4 => ho _ _ _ (by omega))
theorem rc_rowD {σ : pb_H} {T : gT} {E : gE} {μ : pb_H} (h : RC σ T E μ) {σ' : pb_H} {b : Int} {l : List gF} (hb : 0 ≤ b ∧ b < 2) (hr : g_row σ' (6 + 77 * b) 24 l) (ho : g_off σ σ' (6 + 77 * b) 24) : RC (σ') T (E.1, u_up E.2.1 b l, E.2.2) μ := by
  obtain ⟨h_fin, h_T, h_U, h_D, h_L, h_B, h_P, h_C, h_K⟩ := h
  refine ⟨h_fin.cg (fun f' p' i' hk => ho _ _ _ (by unfold k_fin at hk; omega)), h_T.cg (fun f' p' i' hk => ho _ _ _ (by unfold k_T at hk; omega)), h_U.cg (fun f' p' i' hk => ho _ _ _ (by unfold k_U at hk; omega)), ?_, h_L.cg (fun f' p' i' hk => ho _ _ _ (by unfold k_L at hk; omega)), h_B.cg (fun f' p' i' hk => ho _ _ _ (by unfold k_B at hk; omega)), h_P.cg (fun f' p' i' hk => ho _ _ _ (by unfold k_P at hk; omega)), h_C.cg (fun f' p' i' hk => ho _ _ _ (by unfold k_C at hk; omega)), h_K.cg (fun f' p' i' hk => ho _ _ _ (by unfold k_K at hk; omega))⟩
  dsimp only
  intro b' q1 q2
  by_cases ht : b' = b
  · subst ht
    rw [u_up_s]
    exact hr
  · rw [u_up_n ht]
    exact (h_D b' q1 q2).cg (ho _ _ _ (by omega)) (ho _ _ _ (by omega)) (fun _ => ho _ _ _ (by omega)) (fun _ _ h1 h2 h3 h4 => ho _ _ _ (by omega))
theorem rc_upL {σ : pb_H} {T : gT} {E : gE} {μ : pb_H} (h : RC σ T E μ) {k : Nat} {b j v : Int} (hk : k < 6) (hb : 0 ≤ b ∧ b < 2) (hj : 0 ≤ j ∧ j < 4) : RC (pb_up σ (501 + k) (76 + 77 * b + j) 0 v) T (g_up E.1 k (4 * b + j) v, E.2) μ := by
  obtain ⟨h_fin, h_T, h_U, h_D, h_L, h_B, h_P, h_C, h_K⟩ := h
  have hk0 := hk
  refine ⟨h_fin.cg (fun f' p' i' hk => pb_up_k (by unfold k_fin at hk; omega)), h_T.cg (fun f' p' i' hk => pb_up_k (by unfold k_T at hk; omega)), h_U.cg (fun f' p' i' hk => pb_up_k (by unfold k_U at hk; omega)), h_D.cg (fun f' p' i' hk => pb_up_k (by unfold k_D at hk; omega)), ?_, ?_, ?_, h_C.cg (fun f' p' i' hk => pb_up_k (by unfold k_C at hk; omega)), h_K.cg (fun f' p' i' hk => pb_up_k (by unfold k_K at hk; omega))⟩
  all_goals dsimp only
  · intro b' j' k' q1 q2 q3 q4 q5
    by_cases ht : k' = k ∧ 4 * b' + j' = 4 * b + j
    · obtain ⟨rfl, ht⟩ := ht
      have e1 : b' = b := by omega
      have e2 : j' = j := by omega
      subst e1 e2
      rw [pb_up_same, g_up_s]
    · rw [pb_up_k (by omega), g_up_n ht]
      exact h_L b' j' k' q1 q2 q3 q4 q5
  · intro b' k' q1 q2 q3
    rw [pb_up_k (by omega), g_up_n (by omega)]
    exact h_B b' k' q1 q2 q3
  · exact ⟨by rw [pb_up_k (by omega)]; exact h_P.1, by rw [pb_up_k (by omega), g_up_n (by omega)]; exact h_P.2.1, by rw [pb_up_k (by omega), g_up_n (by omega)]; exact h_P.2.2⟩
theorem rc_upB {σ : pb_H} {T : gT} {E : gE} {μ : pb_H} (h : RC σ T E μ) {k : Nat} {b v : Int} (hk : k < 2) (hb : 0 ≤ b ∧ b < 2) : RC (pb_up σ (104 + k) (3 + 77 * b) 0 v) T (g_up E.1 (6 + k) b v, E.2) μ := by
  obtain ⟨h_fin, h_T, h_U, h_D, h_L, h_B, h_P, h_C, h_K⟩ := h
  have hk0 := hk
  refine ⟨h_fin.cg (fun f' p' i' hk => pb_up_k (by unfold k_fin at hk; omega)), h_T.cg (fun f' p' i' hk => pb_up_k (by unfold k_T at hk; omega)), h_U.cg (fun f' p' i' hk => pb_up_k (by unfold k_U at hk; omega)), h_D.cg (fun f' p' i' hk => pb_up_k (by unfold k_D at hk; omega)), ?_, ?_, ?_, h_C.cg (fun f' p' i' hk => pb_up_k (by unfold k_C at hk; omega)), h_K.cg (fun f' p' i' hk => pb_up_k (by unfold k_K at hk; omega))⟩
  all_goals dsimp only
  · intro b' j' k' q1 q2 q3 q4 q5
    rw [pb_up_k (by omega), g_up_n (by omega)]
    exact h_L b' j' k' q1 q2 q3 q4 q5
  · intro b' k' q1 q2 q3
    by_cases ht : k' = k ∧ b' = b
    · obtain ⟨rfl, rfl⟩ := ht
      rw [pb_up_same, g_up_s]
    · rw [pb_up_k (by omega), g_up_n (by omega)]
      exact h_B b' k' q1 q2 q3
  · exact ⟨by rw [pb_up_k (by omega)]; exact h_P.1, by rw [pb_up_k (by omega), g_up_n (by omega)]; exact h_P.2.1, by rw [pb_up_k (by omega), g_up_n (by omega)]; exact h_P.2.2⟩
theorem rc_upTicks {σ : pb_H} {T : gT} {E : gE} {μ : pb_H} (h : RC σ T E μ) {v : Int} : RC (pb_up σ 5 0 0 v) T (g_up E.1 9 0 v, E.2) μ := by
  obtain ⟨h_fin, h_T, h_U, h_D, h_L, h_B, h_P, h_C, h_K⟩ := h
  refine ⟨h_fin.cg (fun f' p' i' hk => pb_up_k (by unfold k_fin at hk; omega)), h_T.cg (fun f' p' i' hk => pb_up_k (by unfold k_T at hk; omega)), h_U.cg (fun f' p' i' hk => pb_up_k (by unfold k_U at hk; omega)), h_D.cg (fun f' p' i' hk => pb_up_k (by unfold k_D at hk; omega)), ?_, ?_, ?_, h_C.cg (fun f' p' i' hk => pb_up_k (by unfold k_C at hk; omega)), h_K.cg (fun f' p' i' hk => pb_up_k (by unfold k_K at hk; omega))⟩
  all_goals dsimp only
  · intro b' j' k' q1 q2 q3 q4 q5
    rw [pb_up_k (by omega), g_up_n (by omega)]
    exact h_L b' j' k' q1 q2 q3 q4 q5
  · intro b' k' q1 q2 q3
    rw [pb_up_k (by omega), g_up_n (by omega)]
    exact h_B b' k' q1 q2 q3
  · exact ⟨by rw [pb_up_k (by omega)]; exact h_P.1, by rw [pb_up_k (by omega), g_up_n (by omega)]; exact h_P.2.1, by rw [pb_up_same, g_up_s]⟩
theorem rc_upLatest {σ : pb_H} {T : gT} {E : gE} {μ : pb_H} (h : RC σ T E μ) {v : Int} : RC (pb_up σ 4 0 0 v) T (g_up E.1 8 0 v, E.2) μ := by
  obtain ⟨h_fin, h_T, h_U, h_D, h_L, h_B, h_P, h_C, h_K⟩ := h
  refine ⟨h_fin.cg (fun f' p' i' hk => pb_up_k (by unfold k_fin at hk; omega)), h_T.cg (fun f' p' i' hk => pb_up_k (by unfold k_T at hk; omega)), h_U.cg (fun f' p' i' hk => pb_up_k (by unfold k_U at hk; omega)), h_D.cg (fun f' p' i' hk => pb_up_k (by unfold k_D at hk; omega)), ?_, ?_, ?_, h_C.cg (fun f' p' i' hk => pb_up_k (by unfold k_C at hk; omega)), h_K.cg (fun f' p' i' hk => pb_up_k (by unfold k_K at hk; omega))⟩
  all_goals dsimp only
  · intro b' j' k' q1 q2 q3 q4 q5
    rw [pb_up_k (by omega), g_up_n (by omega)]
    exact h_L b' j' k' q1 q2 q3 q4 q5
  · intro b' k' q1 q2 q3
    rw [pb_up_k (by omega), g_up_n (by omega)]
    exact h_B b' k' q1 q2 q3
  · exact ⟨by rw [pb_up_k (by omega)]; exact h_P.1, by rw [pb_up_same, g_up_s], by rw [pb_up_k (by omega), g_up_n (by omega)]; exact h_P.2.2⟩
theorem rc_upC {σ : pb_H} {T : gT} {E : gE} {μ : pb_H} (h : RC σ T E μ) {i k : Nat} {f : gC} {v : Int} (hi : E.2.2[i]? = some f) (hk : 1 ≤ k ∧ k < 13) : RC (pb_up σ (601 + k) (σ 0 2 i) 0 v) T (E.1, E.2.1, E.2.2.set i (c_up f k v)) μ := by
  obtain ⟨h_fin, h_T, h_U, h_D, h_L, h_B, h_P, h_C, h_K⟩ := h
  have hk0 := hk
  have hl := (List.getElem?_eq_some_iff.mp hi).1
  have h40 := h_C.1
  obtain ⟨j0, b1, b2, b3⟩ := h_C.2.1 i (by omega) (by omega)
  refine ⟨h_fin.cg (fun f' p' i' hk => pb_up_k (by unfold k_fin at hk; omega)), h_T.cg (fun f' p' i' hk => pb_up_k (by unfold k_T at hk; omega)), h_U.cg (fun f' p' i' hk => pb_up_k (by unfold k_U at hk; omega)), h_D.cg (fun f' p' i' hk => pb_up_k (by unfold k_D at hk; omega)), h_L.cg (fun f' p' i' hk => pb_up_k (by unfold k_L at hk; omega)), h_B.cg (fun f' p' i' hk => pb_up_k (by unfold k_B at hk; omega)), ?_, ?_, h_K.cg (fun f' p' i' hk => pb_up_k (by unfold k_K at hk; omega))⟩
  all_goals dsimp only
  · exact ⟨by rw [pb_up_k (by omega), List.length_set]; exact h_P.1, by rw [pb_up_k (by omega)]; exact h_P.2.1, by rw [pb_up_k (by omega)]; exact h_P.2.2⟩
  · obtain ⟨a1, a2, a3, a4, a5⟩ := h_C
    have e2 : ∀ i', pb_up σ (601 + k) (σ 0 2 i) 0 v 0 2 i' = σ 0 2 i' := fun i' => pb_up_k (by omega)
    refine ⟨by rw [List.length_set]; exact a1, fun i' q1 q2 => by rw [e2]; exact a2 i' q1 q2, fun i' j' q1 q2 q3 q4 q5 => a3 i' j' q1 q2 q3 q4 (by rw [e2, e2] at q5; exact q5), fun j q1 q2 => by rw [pb_up_k (by omega)]; exact a4 j q1 q2, fun i' f' hi' => ?_⟩
    have hl' := (List.getElem?_eq_some_iff.mp hi').1
    rw [List.length_set] at hl'
    obtain ⟨j1, c1, c2, c3⟩ := a2 i' (by omega) (by omega)
    by_cases hii : i' = i
    · subst hii
      rw [List.getElem?_set_self hl] at hi'
      cases hi'
      refine ⟨fun k' q1 q2 => ?_, fun j' q1 => ?_⟩
      · rw [e2]
        by_cases hkk : k' = k
        · subst hkk
          rw [pb_up_same]
          simp [c_up]
        · rw [pb_up_k (by omega)]
          simp only [c_up, if_neg hkk]
          exact (a5 i' f hi).1 k' q1 q2
      · rw [e2, pb_up_k (by omega)]
        simp only [c_up, if_neg (show ¬ 20 + j' = k by omega)]
        exact (a5 i' f hi).2 j' q1
    · rw [List.getElem?_set_ne (Ne.symm hii)] at hi'
      refine ⟨fun k' q1 q2 => ?_, fun j' q1 => ?_⟩
      · rw [e2, pb_up_k (fun z => hii (by have := a3 i' i (by omega) (by omega) (by omega) (by omega) z.2; omega))]
        exact (a5 i' f' hi').1 k' q1 q2
      · rw [e2, pb_up_k (by omega)]
        exact (a5 i' f' hi').2 j' q1
theorem rc_upLeg {σ : pb_H} {T : gT} {E : gE} {μ : pb_H} (h : RC σ T E μ) {i j : Nat} {f : gC} {v : Int} (hi : E.2.2[i]? = some f) (hj : j < 4) : RC (pb_up σ 0 (σ 0 2 i + 1) j v) T (E.1, E.2.1, E.2.2.set i (c_up f (20 + j) v)) μ := by
  obtain ⟨h_fin, h_T, h_U, h_D, h_L, h_B, h_P, h_C, h_K⟩ := h
  have hl := (List.getElem?_eq_some_iff.mp hi).1
  have h40 := h_C.1
  obtain ⟨j0, b1, b2, b3⟩ := h_C.2.1 i (by omega) (by omega)
  refine ⟨h_fin.cg (fun f' p' i' hk => pb_up_k (by unfold k_fin at hk; omega)), h_T.cg (fun f' p' i' hk => pb_up_k (by unfold k_T at hk; omega)), h_U.cg (fun f' p' i' hk => pb_up_k (by unfold k_U at hk; omega)), h_D.cg (fun f' p' i' hk => pb_up_k (by unfold k_D at hk; omega)), h_L.cg (fun f' p' i' hk => pb_up_k (by unfold k_L at hk; omega)), h_B.cg (fun f' p' i' hk => pb_up_k (by unfold k_B at hk; omega)), ?_, ?_, h_K.cg (fun f' p' i' hk => pb_up_k (by unfold k_K at hk; omega))⟩
  all_goals dsimp only
  · exact ⟨by rw [pb_up_k (by omega), List.length_set]; exact h_P.1, by rw [pb_up_k (by omega)]; exact h_P.2.1, by rw [pb_up_k (by omega)]; exact h_P.2.2⟩
  · obtain ⟨a1, a2, a3, a4, a5⟩ := h_C
    have e2 : ∀ i', pb_up σ 0 (σ 0 2 i + 1) j v 0 2 i' = σ 0 2 i' := fun i' => pb_up_k (by omega)
    refine ⟨by rw [List.length_set]; exact a1, fun i' q1 q2 => by rw [e2]; exact a2 i' q1 q2, fun i' j' q1 q2 q3 q4 q5 => a3 i' j' q1 q2 q3 q4 (by rw [e2, e2] at q5; exact q5), fun j q1 q2 => by rw [pb_up_k (by omega)]; exact a4 j q1 q2, fun i' f' hi' => ?_⟩
    have hl' := (List.getElem?_eq_some_iff.mp hi').1
    rw [List.length_set] at hl'
    obtain ⟨j1, c1, c2, c3⟩ := a2 i' (by omega) (by omega)
    by_cases hii : i' = i
    · subst hii
      rw [List.getElem?_set_self hl] at hi'
      cases hi'
      refine ⟨fun k' q1 q2 => ?_, fun j' q1 => ?_⟩
      · rw [e2, pb_up_k (by omega)]
        simp only [c_up, if_neg (show ¬ k' = 20 + j by omega)]
        exact (a5 i' f hi).1 k' q1 q2
      · rw [e2]
        by_cases hjj : j' = j
        · subst hjj
          rw [pb_up_same]
          simp [c_up]
        · rw [pb_up_i (by omega)]
          simp only [c_up, if_neg (show ¬ 20 + j' = 20 + j by omega)]
          exact (a5 i' f hi).2 j' q1
    · rw [List.getElem?_set_ne (Ne.symm hii)] at hi'
      refine ⟨fun k' q1 q2 => ?_, fun j' q1 => ?_⟩
      · rw [e2, pb_up_k (by omega)]
        exact (a5 i' f' hi').1 k' q1 q2
      · rw [e2, pb_up_k (fun z => hii (by have := a3 i' i (by omega) (by omega) (by omega) (by omega) (by omega); omega))]
        exact (a5 i' f' hi').2 j' q1
