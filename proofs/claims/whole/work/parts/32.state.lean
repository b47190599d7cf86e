/-! the class's heap holds a state: numbers g (tag, index), rows u, calls c -/
abbrev gC : Type := Nat → Int
def g_up (g : Nat → Int → Int) (k : Nat) (t v : Int) : Nat → Int → Int := fun k' t' => if k' = k ∧ t' = t then v else g k' t'
def u_up (u : Int → List gF) (t : Int) (l : List gF) : Int → List gF := fun t' => if t' = t then l else u t'
theorem g_row.cg {σ σ' : pb_H} {r cap : Int} {l : List gF} (h : g_row σ r cap l) (h201 : σ' 201 r 0 = σ 201 r 0) (h202 : σ' 202 r 0 = σ 202 r 0) (h0 : ∀ i, σ' 0 (r + 1) i = σ 0 (r + 1) i) (hf : ∀ f p, 301 ≤ f → f ≤ 305 → r + 2 ≤ p → p < r + 2 + cap → σ' f p 0 = σ f p 0) : g_row σ' r cap l := by
  obtain ⟨h1, h2, h3, h4, h5, h6⟩ := h
  refine ⟨h201.trans h1, h202.trans h2, h3, fun i a b => by rw [h0]; exact h4 i a b, fun i j a b c d e => h5 i j a b c d (by rw [h0, h0] at e; exact e), fun i f hi => ?_⟩
  have hl := g_lt hi
  have g := h4 i (by omega) (by omega)
  have g2 := h6 i f hi
  unfold g_fr at g2 ⊢
  rw [h0, hf 301 _ (by decide) (by decide) g.1 g.2, hf 302 _ (by decide) (by decide) g.1 g.2, hf 303 _ (by decide) (by decide) g.1 g.2, hf 304 _ (by decide) (by decide) g.1 g.2, hf 305 _ (by decide) (by decide) g.1 g.2]
  exact g2
def rc_fin (σ : pb_H) : Prop := σ 1 0 0 = 1 ∧ σ 2 0 0 = 2 ∧ ∀ b, 0 ≤ b → b < 2 → σ 0 1 b = 3 + 77 * b ∧ σ 101 (3 + 77 * b) 0 = 4 + 77 * b ∧ σ 102 (3 + 77 * b) 0 = 5 + 77 * b ∧ σ 103 (3 + 77 * b) 0 = 6 + 77 * b ∧ ∀ s, 0 ≤ s → s < 4 → σ 0 (4 + 77 * b) s = 32 + 77 * b + 11 * s ∧ σ 401 (32 + 77 * b + 11 * s) 0 = 33 + 77 * b + 11 * s ∧ σ 0 (5 + 77 * b) s = 76 + 77 * b + s
def rc_T (σ : pb_H) (g : Nat → Int → Int) : Prop := ∀ b s k, 0 ≤ b → b < 2 → 0 ≤ s → s < 4 → 1 ≤ k → k < 16 → σ (401 + k) (32 + 77 * b + 11 * s) 0 = g k (4 * b + s)
def rc_U (σ : pb_H) (u : Int → List gF) : Prop := ∀ b s, 0 ≤ b → b < 2 → 0 ≤ s → s < 4 → g_row σ (33 + 77 * b + 11 * s) 8 (u (4 * b + s))
def rc_D (σ : pb_H) (u : Int → List gF) : Prop := ∀ b, 0 ≤ b → b < 2 → g_row σ (6 + 77 * b) 24 (u (8 + b))
def rc_L (σ : pb_H) (g : Nat → Int → Int) : Prop := ∀ b j k, 0 ≤ b → b < 2 → 0 ≤ j → j < 4 → k < 6 → σ (501 + k) (76 + 77 * b + j) 0 = g (20 + k) (4 * b + j)
def rc_B (σ : pb_H) (g : Nat → Int → Int) : Prop := ∀ b k, 0 ≤ b → b < 2 → k < 2 → σ (104 + k) (3 + 77 * b) 0 = g (30 + k) b
def rc_P (σ : pb_H) (g : Nat → Int → Int) (c : List gC) : Prop := σ 3 0 0 = c.length ∧ σ 4 0 0 = g 40 0 ∧ σ 5 0 0 = g 41 0
def rc_C (σ : pb_H) (c : List gC) : Prop := c.length ≤ 4 ∧ (∀ i, 0 ≤ i → i < 4 → ∃ j, 0 ≤ j ∧ j < 4 ∧ σ 0 2 i = 157 + 2 * j) ∧ (∀ i j, 0 ≤ i → i < 4 → 0 ≤ j → j < 4 → σ 0 2 i = σ 0 2 j → i = j) ∧ (∀ j, 0 ≤ j → j < 4 → σ 601 (157 + 2 * j) 0 = 158 + 2 * j) ∧ ∀ (i : Nat) (f : gC), c[i]? = some f → (∀ k, 1 ≤ k → k < 13 → σ (601 + k) (σ 0 2 i) 0 = f k) ∧ ∀ j : Nat, j < 4 → σ 0 (σ 0 2 i + 1) j = f (20 + j)
def RC (σ : pb_H) (g : Nat → Int → Int) (u : Int → List gF) (c : List gC) : Prop := rc_fin σ ∧ rc_T σ g ∧ rc_U σ u ∧ rc_D σ u ∧ rc_L σ g ∧ rc_B σ g ∧ rc_P σ g c ∧ rc_C σ c
/-! one update -/
theorem g_row.upf {σ : pb_H} {r cap : Int} {l : List gF} {f : Nat} {p i v : Int} (h : g_row σ r cap l) (hf : f ≠ 0 ∧ f ≠ 201 ∧ f ≠ 202 ∧ ¬ (301 ≤ f ∧ f ≤ 305)) : g_row (pb_up σ f p i v) r cap l :=
  h.cg (pb_up_f (Ne.symm hf.2.1)) (pb_up_f (Ne.symm hf.2.2.1)) (fun _ => pb_up_f (Ne.symm hf.1)) (fun f' _ h1 h2 _ _ => pb_up_f (by have := hf.2.2.2; omega))
theorem rc_upT {σ : pb_H} {g : Nat → Int → Int} {u : Int → List gF} {c : List gC} (h : RC σ g u c) {f k : Nat} {b s p t v : Int} (hf : f = 401 + k) (hk : 1 ≤ k ∧ k < 16) (hb : 0 ≤ b ∧ b < 2) (hs : 0 ≤ s ∧ s < 4) (hp : p = 32 + 77 * b + 11 * s) (ht : t = 4 * b + s) : RC (pb_up σ f p 0 v) (g_up g k t v) u c := by
  subst hf hp ht
  obtain ⟨h1, h2, h3, h4, h5, h6, h7, h8⟩ := h
  refine ⟨?_, ?_, ?_, ?_, ?_, ?_, ?_, ?_⟩
  · obtain ⟨a1, a2, a3⟩ := h1
    refine ⟨by rw [pb_up_f (by omega)]; exact a1, by rw [pb_up_f (by omega)]; exact a2, fun b' q1 q2 => ?_⟩
    obtain ⟨a4, a5, a6, a7, a8⟩ := a3 b' q1 q2
    refine ⟨by rw [pb_up_f (by omega)]; exact a4, by rw [pb_up_f (by omega)]; exact a5, by rw [pb_up_f (by omega)]; exact a6, by rw [pb_up_f (by omega)]; exact a7, fun s' q3 q4 => ?_⟩
    obtain ⟨a9, a10, a11⟩ := a8 s' q3 q4
    exact ⟨by rw [pb_up_f (by omega)]; exact a9, by rw [pb_up_f (by omega)]; exact a10, by rw [pb_up_f (by omega)]; exact a11⟩
  · intro b' s' k' q1 q2 q3 q4 q5 q6
    by_cases hk' : k' = k
    · subst hk'
      by_cases ht : 4 * b' + s' = 4 * b + s
      · have e1 : b' = b := by omega
        have e2 : s' = s := by omega
        subst e1 e2
        rw [pb_up_same]
        unfold g_up
        rw [if_pos ⟨rfl, rfl⟩]
      · rw [pb_up_p (by omega)]
        unfold g_up
        rw [if_neg (fun z => ht z.2)]
        exact h2 b' s' k' q1 q2 q3 q4 q5 q6
    · rw [pb_up_f (by omega)]
      unfold g_up
      rw [if_neg (fun z => hk' z.1)]
      exact h2 b' s' k' q1 q2 q3 q4 q5 q6
  · exact fun b' s' q1 q2 q3 q4 => (h3 b' s' q1 q2 q3 q4).upf (by omega)
  · exact fun b' q1 q2 => (h4 b' q1 q2).upf (by omega)
  · intro b' j k' q1 q2 q3 q4 q5
    rw [pb_up_f (by omega)]
    unfold g_up
    rw [if_neg (by omega)]
    exact h5 b' j k' q1 q2 q3 q4 q5
  · intro b' k' q1 q2 q3
    rw [pb_up_f (by omega)]
    unfold g_up
    rw [if_neg (by omega)]
    exact h6 b' k' q1 q2 q3
  · obtain ⟨a1, a2, a3⟩ := h7
    refine ⟨by rw [pb_up_f (by omega)]; exact a1, ?_, ?_⟩
    · rw [pb_up_f (by omega)]
      unfold g_up
      rw [if_neg (by omega)]
      exact a2
    · rw [pb_up_f (by omega)]
      unfold g_up
      rw [if_neg (by omega)]
      exact a3
  · obtain ⟨a1, a2, a3, a4, a5⟩ := h8
    refine ⟨a1, fun i q1 q2 => by rw [pb_up_f (by omega)]; exact a2 i q1 q2, fun i j q1 q2 q3 q4 q5 => a3 i j q1 q2 q3 q4 (by rw [pb_up_f (by omega), pb_up_f (by omega)] at q5; exact q5), fun j q1 q2 => by rw [pb_up_f (by omega)]; exact a4 j q1 q2, fun i f hi => ⟨fun k' q1 q2 => ?_, fun j q1 => ?_⟩⟩
    · rw [pb_up_f (f' := 0) (by omega), pb_up_f (by omega)]
      exact (a5 i f hi).1 k' q1 q2
    · rw [pb_up_f (f' := 0) (by omega), pb_up_f (f' := 0) (by omega)]
      exact (a5 i f hi).2 j q1
