/-! calls of the other side -/
theorem c_up_n {f : gC} {k k' : Nat} {v : Int} (h : k' ≠ k) : c_up f k v k' = f k' := if_neg h
def g_num (c : List gC) : Prop := (∀ f ∈ c, 0 < f 1) ∧ c.Pairwise (fun f g => f 1 < g 1)
theorem g_num.lt {c : List gC} (h : g_num c) {i j : Nat} {f g : gC} (hi : c[i]? = some f) (hj : c[j]? = some g) (hij : i < j) : f 1 < g 1 := by
  obtain ⟨a1, a2⟩ := List.getElem?_eq_some_iff.mp hi
  obtain ⟨b1, b2⟩ := List.getElem?_eq_some_iff.mp hj
  have := List.pairwise_iff_getElem.mp h.2 i j a1 b1 hij
  rw [a2, b2] at this
  exact this
theorem g_num.eq {c : List gC} (h : g_num c) {i j : Nat} {f g : gC} (hi : c[i]? = some f) (hj : c[j]? = some g) (e : f 1 = g 1) : i = j := by
  rcases Nat.lt_trichotomy i j with z | z | z
  · have := h.lt hi hj z; omega
  · exact z
  · have := h.lt hj hi z; omega
theorem g_num.set {c : List gC} (h : g_num c) {i : Nat} {f f' : gC} (hi : c[i]? = some f) (e : f' 1 = f 1) : g_num (c.set i f') := by
  have hg : ∀ (j : Nat) (g : gC), (c.set i f')[j]? = some g → ∃ g' : gC, c[j]? = some g' ∧ g 1 = g' 1 := by
    intro j g hj
    rw [List.getElem?_set] at hj
    by_cases z : i = j
    · subst z
      obtain ⟨a1, a2⟩ := List.getElem?_eq_some_iff.mp hi
      rw [if_pos rfl, if_pos a1] at hj
      obtain rfl := Option.some.inj hj
      exact ⟨f, hi, e⟩
    · rw [if_neg z] at hj
      exact ⟨g, hj, rfl⟩
  refine ⟨fun g hgm => ?_, ?_⟩
  · obtain ⟨j, hj⟩ := List.mem_iff_getElem?.mp hgm
    obtain ⟨g', h1, h2⟩ := hg j g hj
    rw [h2]
    exact h.1 g' (List.mem_of_getElem? h1)
  · refine List.pairwise_iff_getElem.mpr (fun j k hj hk hjk => ?_)
    obtain ⟨g1, a1, a2⟩ := hg j _ (List.getElem?_eq_getElem hj)
    obtain ⟨g2, b1, b2⟩ := hg k _ (List.getElem?_eq_getElem hk)
    rw [a2, b2]
    exact h.lt a1 b1 hjk
theorem rm_1.at {σ σ' : pb_H} {s : Int} {f : gC} (h : rm_1 σ s f) (e : ∀ p, 199 ≤ p → p ≤ 210 → σ' 0 p s = σ 0 p s) (e2 : ∀ j : Nat, j < 4 → σ' 0 211 (4 * s + j) = σ 0 211 (4 * s + j)) : rm_1 σ' s f := by
  obtain ⟨h1, h2, h3, h4, h5, h6, h7, h8, h9, h10, h11, h12, h13⟩ := h
  exact ⟨(e _ (by decide) (by decide)).trans h1, (e _ (by decide) (by decide)).trans h2, (e _ (by decide) (by decide)).trans h3, (e _ (by decide) (by decide)).trans h4, (e _ (by decide) (by decide)).trans h5, (e _ (by decide) (by decide)).trans h6, (e _ (by decide) (by decide)).trans h7, (e _ (by decide) (by decide)).trans h8, (e _ (by decide) (by decide)).trans h9, (e _ (by decide) (by decide)).trans h10, (e _ (by decide) (by decide)).trans h11, (e _ (by decide) (by decide)).trans h12, fun j hj => (e2 j hj).trans (h13 j hj)⟩
section MCS
variable {x : pb_E} {σ σ' : pb_H} {T : gT} {E : gE} {w : gW} {ν : pb_H} {b s t u : Int} {Q : pb_P} {i : Nat} {f f' : gC}
/-- a call that keeps its slot changes -/
theorem rm_cset (h : RM σ T E w ν) (hN : g_num E.2.2) (hi : E.2.2[i]? = some f) (hh : w.2 (f 1)) (e1 : f' 1 = f 1) (e : ∀ f p i, ¬ (f = 0 ∧ 199 ≤ p ∧ p ≤ 211) → σ' f p i = σ f p i) (e2 : ∀ p s, 199 ≤ p → p ≤ 210 → s ≠ w.1 (f 1) → σ' 0 p s = σ 0 p s) (e3 : ∀ j, ¬ (4 * w.1 (f 1) ≤ j ∧ j < 4 * w.1 (f 1) + 4) → σ' 0 211 j = σ 0 211 j) (h1 : rm_1 σ' (w.1 (f 1)) f') (hw : g_wc (f' 12) < 4) : RM σ' T (ge_cset E i f') w ν := by
  obtain ⟨m1, m2, m3, m4, m5, m6, m7, m8, m9⟩ := h
  obtain ⟨c1, c2, c3, c4⟩ := m8
  have hfm : f ∈ E.2.2 := List.mem_of_getElem? hi
  have hg : ∀ g, g ∈ E.2.2.set i f' → g = f' ∨ (g ∈ E.2.2 ∧ g 1 ≠ f 1) := by
    intro g hgm
    obtain ⟨j, hj⟩ := List.mem_iff_getElem?.mp hgm
    rw [List.getElem?_set] at hj
    by_cases z : i = j
    · subst z
      obtain ⟨a1, a2⟩ := List.getElem?_eq_some_iff.mp hi
      rw [if_pos rfl, if_pos a1] at hj
      exact Or.inl (Option.some.inj hj).symm
    · rw [if_neg z] at hj
      exact Or.inr ⟨List.mem_of_getElem? hj, fun y => z (hN.eq hi hj y.symm)⟩
  have hf' : f' ∈ E.2.2.set i f' := by
    refine List.mem_iff_getElem?.mpr ⟨i, ?_⟩
    obtain ⟨a1, a2⟩ := List.getElem?_eq_some_iff.mp hi
    rw [List.getElem?_set, if_pos rfl, if_pos a1]
  have hhf : g_held w f := Or.inr hh
  have hhf' : g_held w f' := Or.inr (by rw [e1]; exact hh)
  refine ⟨m1.cg (fun f i q1 q2 => e _ _ _ (by omega)), m2.cg (fun p i q1 q2 => e _ _ _ (by omega)), m3.cg (fun p i q1 q2 => e _ _ _ (by omega)), m4.cg (fun p i q1 q2 => e _ _ _ (by omega)), m5.cg (fun p i q1 q2 => e _ _ _ (by omega)), m6.cg (fun p i q1 q2 => e _ _ _ (by omega)), m7.cg (fun f q => e _ _ _ (by omega)), ⟨fun g hgm hgh => ?_, fun g hgm g2 hgm2 hgh hgh2 q => ?_, fun s q1 q2 q3 => ?_, fun s q1 q2 => ?_⟩, fun f p i hk => ?_⟩
  · rcases hg g hgm with rfl | ⟨z1, z2⟩
    · rw [e1]
      exact ⟨(c1 f hfm hhf).1, h1⟩
    · obtain ⟨d1, d2⟩ := c1 g z1 hgh
      have hne : w.1 (g 1) ≠ w.1 (f 1) := fun y => z2 (c2 g z1 f hfm hgh hhf y)
      exact ⟨d1, d2.at (fun p q1 q2 => e2 p _ q1 q2 hne) (fun j hj => e3 _ (by omega))⟩
  · rcases hg g hgm with rfl | ⟨z1, z2⟩
    · rcases hg g2 hgm2 with rfl | ⟨y1, y2⟩
      · rfl
      · rw [e1] at q ⊢
        exact c2 f hfm g2 y1 hhf hgh2 q
    · rcases hg g2 hgm2 with rfl | ⟨y1, y2⟩
      · rw [e1] at q ⊢
        exact c2 g z1 f hfm hgh hhf q
      · exact c2 g z1 g2 y1 hgh hgh2 q
  · have hs : w.1 (f 1) ≠ s := by
      have := q3 f' hf' hhf'
      rw [e1] at this
      exact this
    rw [e2 _ _ (by omega) (by omega) (fun y => hs y.symm)]
    refine c3 s q1 q2 (fun g hgm hgh => ?_)
    obtain ⟨j, hj⟩ := List.mem_iff_getElem?.mp hgm
    by_cases z : i = j
    · subst z
      rw [hi] at hj
      obtain rfl := Option.some.inj hj
      exact hs
    · exact q3 g (List.mem_iff_getElem?.mpr ⟨j, by show (E.2.2.set i f')[j]? = some g; rw [List.getElem?_set, if_neg z]; exact hj⟩) hgh
  · by_cases z : s = w.1 (f 1)
    · rw [z, h1.2.2.2.2.2.2.2.2.2.2.2.1]
      exact hw
    · rw [e2 _ _ (by omega) (by omega) z]
      exact c4 s q1 q2
  · rw [e _ _ _ (fun y => hk (by unfold k_K; omega))]
    exact m9 f p i hk
theorem r_1 (h : RM σ T E w ν) (hi : E.2.2[i]? = some f) (hh : g_held w f) : (0 ≤ w.1 (f 1) ∧ w.1 (f 1) < 4) ∧ rm_1 σ (w.1 (f 1)) f := h.2.2.2.2.2.2.2.1.1 f (List.mem_of_getElem? hi) hh
theorem r_wc (h : RM σ T E w ν) (hi : E.2.2[i]? = some f) (hh : g_held w f) : g_wc (f 12) < 4 := by
  have h1 := r_1 h hi hh
  rw [← h1.2.2.2.2.2.2.2.2.2.2.2.2.1]
  exact h.2.2.2.2.2.2.2.1.2.2.2 _ h1.1.1 h1.1.2
theorem rm_upPh {v u : Int} (h : RM σ T E w ν) (hN : g_num E.2.2) (hi : E.2.2[i]? = some f) (hh : w.2 (f 1)) (hv : v = u) : RM (pb_up σ 0 207 (w.1 (f 1)) v) T (ge_cset E i (c_up f 2 u)) w ν := by
  have hwc := r_wc h hi (Or.inr hh)
  obtain ⟨h1, h2, h3, h4, h5, h6, h7, h8, h9, h10, h11, h12, h13⟩ := (r_1 h hi (Or.inr hh)).2
  refine rm_cset h hN hi hh rfl (fun f p i hn => pb_up_k (by omega)) (fun p s q1 q2 q3 => pb_up_i q3) (fun j q => pb_up_p (by decide)) ⟨(pb_up_p (by decide)).trans h1, (pb_up_p (by decide)).trans h2, (pb_up_p (by decide)).trans h3, (pb_up_p (by decide)).trans h4, (pb_up_p (by decide)).trans h5, (pb_up_p (by decide)).trans h6, (pb_up_p (by decide)).trans h7, (pb_up_p (by decide)).trans h8, (pb_up_same _ _ _ _ _).trans hv, (pb_up_p (by decide)).trans h10, (pb_up_p (by decide)).trans h11, (pb_up_p (by decide)).trans h12, fun j hj => (pb_up_p (by decide)).trans ((h13 j hj).trans ?_)⟩ hwc
  show g_lc (f (20 + j)) = g_lc (c_up f 2 u (20 + j))
  rw [c_up_n (by omega)]
theorem rm_upCk {v u : Int} (h : RM σ T E w ν) (hN : g_num E.2.2) (hi : E.2.2[i]? = some f) (hh : w.2 (f 1)) (hv : v = u) : RM (pb_up σ 0 208 (w.1 (f 1)) v) T (ge_cset E i (c_up f 3 u)) w ν := by
  have hwc := r_wc h hi (Or.inr hh)
  obtain ⟨h1, h2, h3, h4, h5, h6, h7, h8, h9, h10, h11, h12, h13⟩ := (r_1 h hi (Or.inr hh)).2
  refine rm_cset h hN hi hh rfl (fun f p i hn => pb_up_k (by omega)) (fun p s q1 q2 q3 => pb_up_i q3) (fun j q => pb_up_p (by decide)) ⟨(pb_up_p (by decide)).trans h1, (pb_up_p (by decide)).trans h2, (pb_up_p (by decide)).trans h3, (pb_up_p (by decide)).trans h4, (pb_up_p (by decide)).trans h5, (pb_up_p (by decide)).trans h6, (pb_up_p (by decide)).trans h7, (pb_up_p (by decide)).trans h8, (pb_up_p (by decide)).trans h9, (pb_up_same _ _ _ _ _).trans hv, (pb_up_p (by decide)).trans h11, (pb_up_p (by decide)).trans h12, fun j hj => (pb_up_p (by decide)).trans ((h13 j hj).trans ?_)⟩ hwc
  show g_lc (f (20 + j)) = g_lc (c_up f 3 u (20 + j))
  rw [c_up_n (by omega)]
theorem rm_upAg {v u : Int} (h : RM σ T E w ν) (hN : g_num E.2.2) (hi : E.2.2[i]? = some f) (hh : w.2 (f 1)) (hv : v = u) : RM (pb_up σ 0 209 (w.1 (f 1)) v) T (ge_cset E i (c_up f 4 u)) w ν := by
  have hwc := r_wc h hi (Or.inr hh)
  obtain ⟨h1, h2, h3, h4, h5, h6, h7, h8, h9, h10, h11, h12, h13⟩ := (r_1 h hi (Or.inr hh)).2
  refine rm_cset h hN hi hh rfl (fun f p i hn => pb_up_k (by omega)) (fun p s q1 q2 q3 => pb_up_i q3) (fun j q => pb_up_p (by decide)) ⟨(pb_up_p (by decide)).trans h1, (pb_up_p (by decide)).trans h2, (pb_up_p (by decide)).trans h3, (pb_up_p (by decide)).trans h4, (pb_up_p (by decide)).trans h5, (pb_up_p (by decide)).trans h6, (pb_up_p (by decide)).trans h7, (pb_up_p (by decide)).trans h8, (pb_up_p (by decide)).trans h9, (pb_up_p (by decide)).trans h10, (pb_up_same _ _ _ _ _).trans hv, (pb_up_p (by decide)).trans h12, fun j hj => (pb_up_p (by decide)).trans ((h13 j hj).trans ?_)⟩ hwc
  show g_lc (f (20 + j)) = g_lc (c_up f 4 u (20 + j))
  rw [c_up_n (by omega)]
theorem rm_upCa {v u : Int} (h : RM σ T E w ν) (hN : g_num E.2.2) (hi : E.2.2[i]? = some f) (hh : w.2 (f 1)) (hv : v = g_cc u) : RM (pb_up σ 0 200 (w.1 (f 1)) v) T (ge_cset E i (c_up f 9 u)) w ν := by
  have hwc := r_wc h hi (Or.inr hh)
  obtain ⟨h1, h2, h3, h4, h5, h6, h7, h8, h9, h10, h11, h12, h13⟩ := (r_1 h hi (Or.inr hh)).2
  refine rm_cset h hN hi hh rfl (fun f p i hn => pb_up_k (by omega)) (fun p s q1 q2 q3 => pb_up_i q3) (fun j q => pb_up_p (by decide)) ⟨(pb_up_p (by decide)).trans h1, (pb_up_same _ _ _ _ _).trans hv, (pb_up_p (by decide)).trans h3, (pb_up_p (by decide)).trans h4, (pb_up_p (by decide)).trans h5, (pb_up_p (by decide)).trans h6, (pb_up_p (by decide)).trans h7, (pb_up_p (by decide)).trans h8, (pb_up_p (by decide)).trans h9, (pb_up_p (by decide)).trans h10, (pb_up_p (by decide)).trans h11, (pb_up_p (by decide)).trans h12, fun j hj => (pb_up_p (by decide)).trans ((h13 j hj).trans ?_)⟩ hwc
  show g_lc (f (20 + j)) = g_lc (c_up f 9 u (20 + j))
  rw [c_up_n (by omega)]
theorem rm_upWi {v u : Int} (h : RM σ T E w ν) (hN : g_num E.2.2) (hi : E.2.2[i]? = some f) (hh : w.2 (f 1)) (hv : v = g_wc u) (hwn : v < 4) : RM (pb_up σ 0 210 (w.1 (f 1)) v) T (ge_cset E i (c_up f 12 u)) w ν := by
  have hwc := r_wc h hi (Or.inr hh)
  obtain ⟨h1, h2, h3, h4, h5, h6, h7, h8, h9, h10, h11, h12, h13⟩ := (r_1 h hi (Or.inr hh)).2
  refine rm_cset h hN hi hh rfl (fun f p i hn => pb_up_k (by omega)) (fun p s q1 q2 q3 => pb_up_i q3) (fun j q => pb_up_p (by decide)) ⟨(pb_up_p (by decide)).trans h1, (pb_up_p (by decide)).trans h2, (pb_up_p (by decide)).trans h3, (pb_up_p (by decide)).trans h4, (pb_up_p (by decide)).trans h5, (pb_up_p (by decide)).trans h6, (pb_up_p (by decide)).trans h7, (pb_up_p (by decide)).trans h8, (pb_up_p (by decide)).trans h9, (pb_up_p (by decide)).trans h10, (pb_up_p (by decide)).trans h11, (pb_up_same _ _ _ _ _).trans hv, fun j hj => (pb_up_p (by decide)).trans ((h13 j hj).trans ?_)⟩ (by show g_wc u < 4; rw [← hv]; exact hwn)
  show g_lc (f (20 + j)) = g_lc (c_up f 12 u (20 + j))
  rw [c_up_n (by omega)]
theorem rm_upLeg {v u : Int} {j : Nat} (h : RM σ T E w ν) (hN : g_num E.2.2) (hi : E.2.2[i]? = some f) (hh : w.2 (f 1)) (hj : j < 4) (hv : v = g_lc u) : RM (pb_up σ 0 211 (4 * w.1 (f 1) + j) v) T (ge_cset E i (c_up f (20 + j) u)) w ν := by
  have hwc := r_wc h hi (Or.inr hh)
  have hc : ∀ k, k < 20 → c_up f (20 + j) u k = f k := fun k hk => c_up_n (by omega)
  obtain ⟨h1, h2, h3, h4, h5, h6, h7, h8, h9, h10, h11, h12, h13⟩ := (r_1 h hi (Or.inr hh)).2
  refine rm_cset h hN hi hh (hc 1 (by decide)) (fun f p i hn => pb_up_k (by omega)) (fun p s q1 q2 q3 => pb_up_p (by omega)) (fun j q => pb_up_i (by omega)) ?_ (by rw [hc 12 (by decide)]; exact hwc)
  unfold rm_1
  rw [hc 1 (by decide), hc 2 (by decide), hc 3 (by decide), hc 4 (by decide), hc 5 (by decide), hc 6 (by decide), hc 7 (by decide), hc 8 (by decide), hc 9 (by decide), hc 10 (by decide), hc 11 (by decide), hc 12 (by decide)]
  refine ⟨(pb_up_p (by decide)).trans h1, (pb_up_p (by decide)).trans h2, (pb_up_p (by decide)).trans h3, (pb_up_p (by decide)).trans h4, (pb_up_p (by decide)).trans h5, (pb_up_p (by decide)).trans h6, (pb_up_p (by decide)).trans h7, (pb_up_p (by decide)).trans h8, (pb_up_p (by decide)).trans h9, (pb_up_p (by decide)).trans h10, (pb_up_p (by decide)).trans h11, (pb_up_p (by decide)).trans h12, fun j' hj' => ?_⟩
  by_cases z : j' = j
  · subst z
    rw [pb_up_same, hv]
    unfold c_up
    rw [if_pos rfl]
  · rw [pb_up_i (by omega), c_up_n (by omega)]
    exact h13 j' hj'
end MCS
