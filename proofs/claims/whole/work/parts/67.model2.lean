/-- what a place of the other side's heap is for: a change of one array leaves what speaks of the others -/
theorem g_ma_in {k : Nat} (h : 1 ≤ k ∧ k < 16) : 166 ≤ g_ma k ∧ g_ma k ≤ 180 := by
  have hk : k = 1 ∨ k = 2 ∨ k = 3 ∨ k = 4 ∨ k = 5 ∨ k = 6 ∨ k = 7 ∨ k = 8 ∨ k = 9 ∨ k = 10 ∨ k = 11 ∨ k = 12 ∨ k = 13 ∨ k = 14 ∨ k = 15 := by omega
  rcases hk with rfl | rfl | rfl | rfl | rfl | rfl | rfl | rfl | rfl | rfl | rfl | rfl | rfl | rfl | rfl <;> decide
theorem g_ma_inj {k k' : Nat} (h : 1 ≤ k ∧ k < 16) (h' : 1 ≤ k' ∧ k' < 16) (e : g_ma k = g_ma k') : k = k' := by
  have hk : k = 1 ∨ k = 2 ∨ k = 3 ∨ k = 4 ∨ k = 5 ∨ k = 6 ∨ k = 7 ∨ k = 8 ∨ k = 9 ∨ k = 10 ∨ k = 11 ∨ k = 12 ∨ k = 13 ∨ k = 14 ∨ k = 15 := by omega
  have hk' : k' = 1 ∨ k' = 2 ∨ k' = 3 ∨ k' = 4 ∨ k' = 5 ∨ k' = 6 ∨ k' = 7 ∨ k' = 8 ∨ k' = 9 ∨ k' = 10 ∨ k' = 11 ∨ k' = 12 ∨ k' = 13 ∨ k' = 14 ∨ k' = 15 := by omega
  rcases hk with rfl | rfl | rfl | rfl | rfl | rfl | rfl | rfl | rfl | rfl | rfl | rfl | rfl | rfl | rfl <;> rcases hk' with rfl | rfl | rfl | rfl | rfl | rfl | rfl | rfl | rfl | rfl | rfl | rfl | rfl | rfl | rfl <;> first | rfl | exact absurd e (by decide)
section MC
variable {σ σ' : pb_H}
theorem rm_fin.cg (h : rm_fin σ) (e : ∀ f i, 701 ≤ f → f ≤ 746 ∨ f = 748 → σ' f 165 i = σ f 165 i) : rm_fin σ' := ⟨fun k q => by rw [e _ _ (by omega) (by omega)]; exact h.1 k q, by rw [e _ _ (by omega) (by omega)]; exact h.2⟩
theorem rm_T.cg {g : Nat → Int → Int} (h : rm_T σ g) (e : ∀ p i, 166 ≤ p → p ≤ 180 → σ' 0 p i = σ 0 p i) : rm_T σ' g := fun k t q1 q2 q3 q4 q5 => by
  have := g_ma_in ⟨q1, q2⟩
  rw [e _ _ this.1 this.2]
  exact h k t q1 q2 q3 q4 q5
theorem rm_U.cg {u : Int → List gF} (h : rm_U σ u) (e : ∀ p i, 181 ≤ p → p ≤ 185 → σ' 0 p i = σ 0 p i) : rm_U σ' u := fun t q1 q2 => by
  obtain ⟨h1, h2, h3⟩ := h t q1 q2
  refine ⟨by rw [e _ _ (by omega) (by omega)]; exact h1, h2, fun i f hi => ?_⟩
  rw [e _ _ (by omega) (by omega), e _ _ (by omega) (by omega), e _ _ (by omega) (by omega), e _ _ (by omega) (by omega)]
  exact h3 i f hi
theorem rm_D.cg {u : Int → List gF} (h : rm_D σ u) (e : ∀ p i, 186 ≤ p → p ≤ 191 → σ' 0 p i = σ 0 p i) : rm_D σ' u := fun t q1 q2 => by
  obtain ⟨h1, h2, h3⟩ := h t q1 q2
  refine ⟨by rw [e _ _ (by omega) (by omega)]; exact h1, h2, fun i f hi => ?_⟩
  rw [e _ _ (by omega) (by omega), e _ _ (by omega) (by omega), e _ _ (by omega) (by omega), e _ _ (by omega) (by omega), e _ _ (by omega) (by omega)]
  exact h3 i f hi
theorem rm_L.cg {g : Nat → Int → Int} (h : rm_L σ g) (e : ∀ p i, 192 ≤ p → p ≤ 196 → σ' 0 p i = σ 0 p i) : rm_L σ' g := fun t q1 q2 => by
  rw [e _ _ (by omega) (by omega), e _ _ (by omega) (by omega), e _ _ (by omega) (by omega), e _ _ (by omega) (by omega), e _ _ (by omega) (by omega)]
  exact h t q1 q2
theorem rm_B.cg {g : Nat → Int → Int} (h : rm_B σ g) (e : ∀ p i, 197 ≤ p → p ≤ 198 → σ' 0 p i = σ 0 p i) : rm_B σ' g := fun t q1 q2 => by
  rw [e _ _ (by omega) (by omega), e _ _ (by omega) (by omega)]
  exact h t q1 q2
theorem rm_N.cg {g : Nat → Int → Int} (h : rm_N σ g) (e : ∀ f, f = 747 ∨ f = 749 → σ' f 165 0 = σ f 165 0) : rm_N σ' g := ⟨by rw [e _ (by omega)]; exact h.1, by rw [e _ (by omega)]; exact h.2⟩
theorem rm_1.cg {s : Int} {f : gC} (h : rm_1 σ s f) (e : ∀ p i, 199 ≤ p → p ≤ 211 → σ' 0 p i = σ 0 p i) : rm_1 σ' s f := by
  obtain ⟨h1, h2, h3, h4, h5, h6, h7, h8, h9, h10, h11, h12, h13⟩ := h
  refine ⟨by rw [e _ _ (by omega) (by omega)]; exact h1, by rw [e _ _ (by omega) (by omega)]; exact h2, by rw [e _ _ (by omega) (by omega)]; exact h3, by rw [e _ _ (by omega) (by omega)]; exact h4, by rw [e _ _ (by omega) (by omega)]; exact h5, by rw [e _ _ (by omega) (by omega)]; exact h6, by rw [e _ _ (by omega) (by omega)]; exact h7, by rw [e _ _ (by omega) (by omega)]; exact h8, by rw [e _ _ (by omega) (by omega)]; exact h9, by rw [e _ _ (by omega) (by omega)]; exact h10, by rw [e _ _ (by omega) (by omega)]; exact h11, by rw [e _ _ (by omega) (by omega)]; exact h12, fun j hj => by rw [e _ _ (by omega) (by omega)]; exact h13 j hj⟩
theorem rm_C.cg {c : List gC} {w : gW} (h : rm_C σ c w) (e : ∀ p i, 199 ≤ p → p ≤ 211 → σ' 0 p i = σ 0 p i) : rm_C σ' c w := by
  obtain ⟨h1, h2, h3, h4⟩ := h
  refine ⟨fun f hi ha => ⟨(h1 f hi ha).1, (h1 f hi ha).2.cg e⟩, h2, fun s q1 q2 q3 => ?_, fun s q1 q2 => ?_⟩
  · rw [e _ _ (by omega) (by omega)]
    exact h3 s q1 q2 q3
  · rw [e _ _ (by omega) (by omega)]
    exact h4 s q1 q2
end MC
/-- a method of the class leaves the other side alone -/
theorem RM.ofC {σ σ' : pb_H} {T T' : gT} {E E' : gE} {ν : pb_H} {w : gW} (h : RM σ T E w ν) (h' : RC σ' T' E' σ) : RM σ' T E w σ' := by
  obtain ⟨h1, h2, h3, h4, h5, h6, h7, h8, h9⟩ := h
  have k : ∀ f p i, k_K f p → σ' f p i = σ f p i := h'.2.2.2.2.2.2.2.2
  exact ⟨h1.cg (fun f i q1 q2 => k _ _ _ (by unfold k_K; omega)), h2.cg (fun p i q1 q2 => k _ _ _ (by unfold k_K; omega)), h3.cg (fun p i q1 q2 => k _ _ _ (by unfold k_K; omega)), h4.cg (fun p i q1 q2 => k _ _ _ (by unfold k_K; omega)), h5.cg (fun p i q1 q2 => k _ _ _ (by unfold k_K; omega)), h6.cg (fun p i q1 q2 => k _ _ _ (by unfold k_K; omega)), h7.cg (fun f q => k _ _ _ (by unfold k_K; omega)), h8.cg (fun p i q1 q2 => k _ _ _ (by unfold k_K; omega)), fun _ _ _ _ => rfl⟩
section MU
variable {σ : pb_H} {T : gT} {E : gE} {w : gW} {ν : pb_H}
theorem m_T (h : RM σ T E w ν) (p : Int) (k : Nat) (hp : p = g_ma k) (hk : 1 ≤ k ∧ k < 16) {t : Int} (ht : 0 ≤ t ∧ t < 8) (hc : ¬ T.1 1 t = 0 ∨ g_mu k) : σ 0 p t = T.1 k t := by
  rw [hp]
  exact h.2.1 k t hk.1 hk.2 ht.1 ht.2 hc
/-- a tag is set (not 'plugged') -/
theorem rm_upT (h : RM σ T E w ν) (p : Int) (k : Nat) (hp : p = g_ma k) (hk : 2 ≤ k ∧ k < 16) {t v : Int} : RM (pb_up σ 0 p t v) (gt_set T k t v) E w ν := by
  obtain ⟨h1, h2, h3, h4, h5, h6, h7, h8, h9⟩ := h
  have hm := g_ma_in (k := k) ⟨by omega, hk.2⟩
  refine ⟨h1.cg (fun f i q1 q2 => pb_up_f (by omega)), fun k' t' q1 q2 q3 q4 q5 => ?_, h3.cg (fun p' i q1 q2 => pb_up_p (by omega)), h4.cg (fun p' i q1 q2 => pb_up_p (by omega)), h5.cg (fun p' i q1 q2 => pb_up_p (by omega)), h6.cg (fun p' i q1 q2 => pb_up_p (by omega)), h7.cg (fun f q => pb_up_f (by omega)), h8.cg (fun p' i q1 q2 => pb_up_p (by omega)), fun f' p' i' hk' => ?_⟩
  · have e1 : (gt_set T k t v).1 1 t' = T.1 1 t' := g_up_n (fun z => by omega)
    rw [e1] at q5
    show _ = g_up T.1 k t v k' t'
    by_cases z : k' = k ∧ t' = t
    · obtain ⟨rfl, rfl⟩ := z
      rw [hp, pb_up_same, g_up_s]
    · rw [g_up_n z]
      by_cases z2 : k' = k
      · subst z2
        rw [pb_up_i (by omega)]
        exact h2 k' t' q1 q2 q3 q4 q5
      · rw [pb_up_p (fun y => z2 (g_ma_inj ⟨q1, q2⟩ ⟨by omega, hk.2⟩ (y.trans hp)))]
        exact h2 k' t' q1 q2 q3 q4 q5
  · rw [pb_up_k (fun y => hk' (by unfold k_K; omega))]
    exact h9 f' p' i' hk'
end MU
