/-! the other side's heap and the same ghost -/
def g_ma : Nat → Int
  | 1 => 166 | 2 => 169 | 3 => 180 | 4 => 167 | 5 => 168 | 6 => 177 | 7 => 170 | 8 => 171 | 9 => 172 | 10 => 175 | 11 => 173 | 12 => 174 | 13 => 176 | 14 => 178 | _ => 179
/-- tags that are alike also where nothing is plugged -/
def g_mu (k : Nat) : Prop := k ≠ 4 ∧ k ≠ 7 ∧ k ≠ 9 ∧ k ≠ 11 ∧ k ≠ 12
def g_lc (v : Int) : Int := if v = 0 then 0 else if v = 2 then 1 else if v = 3 then 2 else if v = 4 then 3 else 9
def g_cc (v : Int) : Int := if v = 0 then 0 else if v = 1 then 1 else if v = 4 then 3 else 9
def g_wc (v : Int) : Int := if v = 0 then -1 else v - 64
def rm_fin (σ : pb_H) : Prop := (∀ k : Nat, k < 46 → σ (701 + k) 165 0 = 166 + k) ∧ σ 748 165 0 = 212
def rm_T (σ : pb_H) (g : Nat → Int → Int) : Prop := ∀ k t, 1 ≤ k → k < 16 → 0 ≤ t → t < 8 → (¬ g 1 t = 0 ∨ g_mu k) → σ 0 (g_ma k) t = g k t
def rm_U (σ : pb_H) (u : Int → List gF) : Prop := ∀ t, 0 ≤ t → t < 8 → σ 0 181 t = (u t).length ∧ (u t).length ≤ 8 ∧ ∀ (i : Nat) (f : gF), (u t)[i]? = some f → σ 0 182 (8 * t + i) = f.1 ∧ σ 0 183 (8 * t + i) = f.2.2.1 ∧ σ 0 184 (8 * t + i) = f.2.2.2.1 ∧ σ 0 185 (8 * t + i) = f.2.2.2.2
def rm_D (σ : pb_H) (u : Int → List gF) : Prop := ∀ b, 0 ≤ b → b < 2 → σ 0 186 b = (u b).length ∧ (u b).length ≤ 24 ∧ ∀ (i : Nat) (f : gF), (u b)[i]? = some f → σ 0 187 (24 * b + i) = f.1 ∧ σ 0 188 (24 * b + i) = f.2.1 ∧ σ 0 189 (24 * b + i) = f.2.2.1 ∧ σ 0 190 (24 * b + i) = f.2.2.2.1 ∧ σ 0 191 (24 * b + i) = f.2.2.2.2
def rm_L (σ : pb_H) (g : Nat → Int → Int) : Prop := ∀ t, 0 ≤ t → t < 8 → σ 0 192 t = g 0 t ∧ σ 0 193 t = g 1 t ∧ σ 0 194 t = g 2 t ∧ σ 0 195 t = (if g 3 t = 0 then 0 else g 4 t) ∧ σ 0 196 t = g 5 t
def rm_B (σ : pb_H) (g : Nat → Int → Int) : Prop := ∀ b, 0 ≤ b → b < 2 → σ 0 197 b = g 6 b ∧ σ 0 198 b = g 7 b
def rm_N (σ : pb_H) (g : Nat → Int → Int) : Prop := σ 747 165 0 = g 8 0 ∧ σ 749 165 0 = g 9 0
/-- a call in the slot s -/
def rm_1 (σ : pb_H) (s : Int) (f : gC) : Prop := σ 0 199 s = f 1 ∧ σ 0 200 s = g_cc (f 9) ∧ σ 0 201 s = f 5 ∧ σ 0 202 s = f 6 ∧ σ 0 203 s = f 7 ∧ σ 0 204 s = f 8 ∧ σ 0 205 s = f 10 ∧ σ 0 206 s = f 11 ∧ σ 0 207 s = f 2 ∧ σ 0 208 s = f 3 ∧ σ 0 209 s = f 4 ∧ σ 0 210 s = g_wc (f 12) ∧ ∀ j : Nat, j < 4 → σ 0 211 (4 * s + j) = g_lc (f (20 + j))
/-- slots of calls, by their numbers; and which calls keep theirs although nothing of them lives -/
abbrev gW : Type := (Int → Int) × (Int → Prop)
def g_held (w : gW) (f : gC) : Prop := g_alive f = true ∨ w.2 (f 1)
/-- the calls that live, each in its slot; a finished call has none -/
def rm_C (σ : pb_H) (c : List gC) (w : gW) : Prop := (∀ f ∈ c, g_held w f → (0 ≤ w.1 (f 1) ∧ w.1 (f 1) < 4) ∧ rm_1 σ (w.1 (f 1)) f) ∧ (∀ f ∈ c, ∀ g ∈ c, g_held w f → g_held w g → w.1 (f 1) = w.1 (g 1) → f 1 = g 1) ∧ (∀ s, 0 ≤ s → s < 4 → (∀ f ∈ c, g_held w f → w.1 (f 1) ≠ s) → σ 0 199 s = 0) ∧ ∀ s, 0 ≤ s → s < 4 → σ 0 210 s < 4
/-- what is not the other side's stays, and the field 750 too -/
def rm_Y (σ ν : pb_H) : Prop := ∀ f p i, ¬ (k_K f p ∧ ¬ f = 750) → σ f p i = ν f p i
def RM (σ : pb_H) (T : gT) (E : gE) (w : gW) (ν : pb_H) : Prop := rm_fin σ ∧ rm_T σ T.1 ∧ rm_U σ T.2 ∧ rm_D σ E.2.1 ∧ rm_L σ E.1 ∧ rm_B σ E.1 ∧ rm_N σ E.1 ∧ rm_C σ E.2.2 w ∧ rm_Y σ ν
/-- a model's method leaves the class alone -/
theorem RC.ofM {σ σ' : pb_H} {T T' : gT} {E E' : gE} {μ : pb_H} {w : gW} (h : RC σ T E μ) (h' : RM σ' T' E' w σ) : RC σ' T E σ' := by
  obtain ⟨h1, h2, h3, h4, h5, h6, h7, h8, h9⟩ := h
  have y := h'.2.2.2.2.2.2.2.2
  exact ⟨h1.cg (fun f p i hk => y f p i (by unfold k_fin at hk; unfold k_K; omega)), h2.cg (fun f p i hk => y f p i (by unfold k_T at hk; unfold k_K; omega)), h3.cg (fun f p i hk => y f p i (by unfold k_U at hk; unfold k_K; omega)), h4.cg (fun f p i hk => y f p i (by unfold k_D at hk; unfold k_K; omega)), h5.cg (fun f p i hk => y f p i (by unfold k_L at hk; unfold k_K; omega)), h6.cg (fun f p i hk => y f p i (by unfold k_B at hk; unfold k_K; omega)), h7.cg (fun f p i hk => y f p i (by unfold k_P at hk; unfold k_K; omega)), h8.cg (fun f p i hk => y f p i (by unfold k_C at hk; unfold k_K; omega)), fun _ _ _ _ => rfl⟩
