/-! how both begin; the calls from outside keep what holds -/
theorem RC.lo {σ σ' : pb_H} {T : gT} {E : gE} {μ : pb_H} (h : RC σ T E μ) (e : ∀ f p i, p < 165 → σ' f p i = σ f p i) : RC σ' T E σ' := by
  obtain ⟨h1, h2, h3, h4, h5, h6, h7, h8, _⟩ := h
  refine ⟨?_, fun b s k q1 q2 q3 q4 q5 q6 => ?_, fun b s q1 q2 q3 q4 => ?_, fun b q1 q2 => ?_, fun b j k q1 q2 q3 q4 q5 => ?_, fun b k q1 q2 q3 => ?_, ?_, ?_, fun _ _ _ _ => rfl⟩
  · refine ⟨by rw [e _ _ _ (by decide)]; exact h1.1, by rw [e _ _ _ (by decide)]; exact h1.2.1, fun b q1 q2 => ?_⟩
    obtain ⟨a1, a2, a3, a4, a5⟩ := h1.2.2 b q1 q2
    refine ⟨by rw [e _ _ _ (by omega)]; exact a1, by rw [e _ _ _ (by omega)]; exact a2, by rw [e _ _ _ (by omega)]; exact a3, by rw [e _ _ _ (by omega)]; exact a4, fun s q3 q4 => ?_⟩
    obtain ⟨b1, b2, b3⟩ := a5 s q3 q4
    exact ⟨by rw [e _ _ _ (by omega)]; exact b1, by rw [e _ _ _ (by omega)]; exact b2, by rw [e _ _ _ (by omega)]; exact b3⟩
  · rw [e _ _ _ (by omega)]
    exact h2 b s k q1 q2 q3 q4 q5 q6
  · exact (h3 b s q1 q2 q3 q4).cg (e _ _ _ (by omega)) (e _ _ _ (by omega)) (fun i => e _ _ _ (by omega)) (fun f p y1 y2 y3 y4 => e _ _ _ (by omega))
  · exact (h4 b q1 q2).cg (e _ _ _ (by omega)) (e _ _ _ (by omega)) (fun i => e _ _ _ (by omega)) (fun f p y1 y2 y3 y4 => e _ _ _ (by omega))
  · rw [e _ _ _ (by omega)]
    exact h5 b j k q1 q2 q3 q4 q5
  · rw [e _ _ _ (by omega)]
    exact h6 b k q1 q2 q3
  · exact ⟨by rw [e _ _ _ (by decide)]; exact h7.1, by rw [e _ _ _ (by decide)]; exact h7.2.1, by rw [e _ _ _ (by decide)]; exact h7.2.2⟩
  · obtain ⟨c1, c2, c3, c4, c5⟩ := h8
    refine ⟨c1, fun i q1 q2 => ?_, fun i j q1 q2 q3 q4 q5 => ?_, fun j q1 q2 => ?_, fun i f hi => ?_⟩
    · rw [e _ _ _ (by decide)]
      exact c2 i q1 q2
    · rw [e _ _ _ (by decide), e _ _ _ (by decide)] at q5
      exact c3 i j q1 q2 q3 q4 q5
    · rw [e _ _ _ (by omega)]
      exact c4 j q1 q2
    · have hl := (List.getElem?_eq_some_iff.mp hi).1
      obtain ⟨j, y1, y2, y3⟩ := c2 i (by omega) (by omega)
      obtain ⟨d1, d2⟩ := c5 i f hi
      have e2 : σ' 0 2 (i : Int) = σ 0 2 i := e _ _ _ (by decide)
      rw [e2]
      exact ⟨fun k q1 q2 => by rw [e _ _ _ (by omega)]; exact d1 k q1 q2, fun j' hj => by rw [e _ _ _ (by omega)]; exact d2 j' hj⟩
theorem RM.re {σ : pb_H} {T : gT} {E : gE} {w : gW} {ν : pb_H} (h : RM σ T E w ν) : RM σ T E w σ := ⟨h.1, h.2.1, h.2.2.1, h.2.2.2.1, h.2.2.2.2.1, h.2.2.2.2.2.1, h.2.2.2.2.2.2.1, h.2.2.2.2.2.2.2.1, fun _ _ _ _ => rfl⟩
theorem RC.ofM2 {σ σ' : pb_H} {T T' : gT} {E E' : gE} {μ ν : pb_H} {w : gW} (h : RC σ T E μ) (h' : RM σ' T' E' w ν) (hν : ∀ f p i, ¬ k_K f p → ν f p i = σ f p i) : RC σ' T E σ' := by
  obtain ⟨h1, h2, h3, h4, h5, h6, h7, h8, h9⟩ := h
  have y : ∀ f p i, ¬ k_K f p → σ' f p i = σ f p i := fun f p i hk => (h'.2.2.2.2.2.2.2.2 f p i (fun q => hk q.1)).trans (hν f p i hk)
  exact ⟨h1.cg (fun f p i hk => y f p i (by unfold k_fin at hk; unfold k_K; omega)), h2.cg (fun f p i hk => y f p i (by unfold k_T at hk; unfold k_K; omega)), h3.cg (fun f p i hk => y f p i (by unfold k_U at hk; unfold k_K; omega)), h4.cg (fun f p i hk => y f p i (by unfold k_D at hk; unfold k_K; omega)), h5.cg (fun f p i hk => y f p i (by unfold k_L at hk; unfold k_K; omega)), h6.cg (fun f p i hk => y f p i (by unfold k_B at hk; unfold k_K; omega)), h7.cg (fun f p i hk => y f p i (by unfold k_P at hk; unfold k_K; omega)), h8.cg (fun f p i hk => y f p i (by unfold k_C at hk; unfold k_K; omega)), fun _ _ _ _ => rfl⟩
theorem rm_0 {σ σ0 : pb_H} (h : m_P σ0 47 σ) (h8 : σ 748 165 0 = 212) (h7 : σ0 747 165 0 = 0) (h9 : σ0 749 165 0 = 0) : RM σ g_T0 g_E0 (fun _ => 0, fun _ => False) σ := by
  obtain ⟨a1, a2, a3, a4, a5⟩ := h
  have z : ∀ p i, 166 ≤ p → p ≤ 212 → ¬ (p = 197 ∨ p = 198) → σ 0 p i = 0 := fun p i q1 q2 q3 => a2 p i q1 (by omega) q3
  refine ⟨⟨fun k hk => a1 k (by omega) hk, h8⟩, fun k t q1 q2 q3 q4 q5 => ?_, fun t q1 q2 => ⟨z _ _ (by decide) (by decide) (by decide), Nat.zero_le _, fun i f hi => absurd hi (by simp [g_T0])⟩, fun t q1 q2 => ⟨z _ _ (by decide) (by decide) (by decide), Nat.zero_le _, fun i f hi => absurd hi (by simp [g_E0])⟩, fun t q1 q2 => ⟨z _ _ (by decide) (by decide) (by decide), z _ _ (by decide) (by decide) (by decide), z _ _ (by decide) (by decide) (by decide), z _ _ (by decide) (by decide) (by decide), z _ _ (by decide) (by decide) (by decide)⟩, fun b q1 q2 => ⟨a3 _ _ (by decide) (by decide) (by omega), a3 _ _ (by decide) (by decide) (by omega)⟩, ⟨(a5 0).1.trans h7, (a5 0).2.trans h9⟩, ⟨fun f hf => absurd hf (by simp [g_E0]), fun f hf => absurd hf (by simp [g_E0]), fun s q1 q2 _ => z _ _ (by decide) (by decide) (by decide), fun s q1 q2 => by rw [z _ _ (by decide) (by decide) (by decide)]; decide⟩, fun _ _ _ _ => rfl⟩
  have hm : g_mu k := q5.resolve_left (fun y => y rfl)
  have hg := g_ma_in ⟨q1, q2⟩
  rw [z _ _ hg.1 (by omega) (by omega)]
  show 0 = g_t0 k
  unfold g_t0
  unfold g_mu at hm
  rw [if_neg (by omega), if_neg (by omega), if_neg (by omega)]
theorem inv_0 : Inv 1000000 g_T0 g_E0 := by
  refine ⟨fun t => ?_, fun b f hf => absurd hf (by simp [g_E0]), fun t => ⟨fun _ => rfl, fun y => absurd rfl y, Or.inl rfl, Or.inl rfl⟩, ⟨fun f hf => absurd hf (by simp [g_E0]), List.Pairwise.nil⟩, fun f hf => absurd hf (by simp [g_E0]), by decide, ⟨by decide, by decide⟩⟩
  exact ⟨Or.inl rfl, Or.inl rfl, Or.inl rfl, fun _ => ⟨rfl, rfl, rfl⟩, fun y => absurd rfl y, fun y => absurd rfl y, fun f hf => absurd hf (by simp [g_T0]), fun y => absurd (show (0 : Int) = 2 ∨ (0 : Int) = 3 ∨ (0 : Int) = 6 from y) (by decide), pb_R0⟩
section IPU
variable {T : gT} {E : gE} {m : Nat} {b s t d v : Int}
theorem Inv.le {k : Nat} (h : Inv (m + k) T E) : Inv m T E := by
  obtain ⟨h1, h2, h3, h4, h5, h6, h7⟩ := h
  exact ⟨h1, h2, h3, h4, h5, h6, by omega⟩
theorem Inv.to {T' : gT} (h : Inv m T E) (hT : IT T') : Inv m T' E := ⟨hT, h.2⟩
theorem IT.plugIn (h : IT T) : IT (gt_plugIn T t d) := by
  unfold gt_plugIn
  generalize hX : gt_set (gt_set (gt_set (gt_set (gt_set (gt_set T 1 t 1) 2 t 0) 10 t 0) 11 t 255) 12 t (-1)) 13 t 0 = X
  have ho : ∀ t', t' ≠ t → g_ag X T t' := fun t' z => by
    rw [← hX]
    exact (g_off_set 13 t' z).tr ((g_off_set 12 t' z).tr ((g_off_set 11 t' z).tr ((g_off_set 10 t' z).tr ((g_off_set 2 t' z).tr (g_off_set 1 t' z)))))
  have x1 : X.1 1 t = 1 := by rw [← hX]; simp [gt_set, g_up]
  have x2 : X.1 2 t = 0 := by rw [← hX]; simp [gt_set, g_up]
  have x8 : X.1 8 t = T.1 8 t := by rw [← hX]; simp [gt_set, g_up]
  have x14 : X.1 14 t = T.1 14 t := by rw [← hX]; simp [gt_set, g_up]
  obtain ⟨e4, e7, e9, e6, er, ek⟩ := gt_over_at (T := X) (t := t) (d := d)
  refine h.mk (fun t' z => g_ag.tr ⟨(gt_over_l z).1, (gt_over_l z).2⟩ (ho t' z)) ?_
  obtain ⟨h1, h2, h3, h4, h5, h6, h8, h9, h10⟩ := h t
  unfold i_T
  dsimp only
  rw [e4, e7, e9, e6, er, ek 1 (by decide) (by decide) (by decide) (by decide) (by decide), ek 2 (by decide) (by decide) (by decide) (by decide) (by decide), ek 8 (by decide) (by decide) (by decide) (by decide) (by decide), ek 14 (by decide) (by decide) (by decide) (by decide) (by decide), x1, x2, x8, x14]
  refine ⟨Or.inl rfl, h2, Or.inl rfl, fun y => absurd y (by decide), fun _ _ => ⟨rfl, rfl, fun f hf => by rw [List.mem_singleton.mp hf]⟩, fun _ => by omega, fun f hf => ?_, fun y => by omega, h10⟩
  rw [List.mem_singleton.mp hf]
  exact i_F7
theorem IT.pullOut (h : IT T) : IT (gt_pullOut T t) := by
  unfold gt_pullOut gt_null
  refine h.mk (fun t' z => (g_off_set 9 t' z).tr ((g_off_set 7 t' z).tr ((g_off_set 4 t' z).tr ((g_off_row t' z).tr (g_off_set 1 t' z))))) ?_
  obtain ⟨h1, h2, h3, h4, h5, h6, h8, h9, h10⟩ := h t
  generalize hX : gt_set (gt_set (gt_set (gt_row (gt_set T 1 t 0) t []) 4 t 0) 7 t 0) 9 t (-1) = X
  have x1 : X.1 1 t = 0 := by rw [← hX]; simp [gt_set, gt_row, g_up]
  have x2 : X.1 2 t = T.1 2 t := by rw [← hX]; simp [gt_set, gt_row, g_up]
  have x4 : X.1 4 t = 0 := by rw [← hX]; simp [gt_set, gt_row, g_up]
  have x6 : X.1 6 t = T.1 6 t := by rw [← hX]; simp [gt_set, gt_row, g_up]
  have x7 : X.1 7 t = 0 := by rw [← hX]; simp [gt_set, gt_row, g_up]
  have x8 : X.1 8 t = T.1 8 t := by rw [← hX]; simp [gt_set, gt_row, g_up]
  have x9 : X.1 9 t = -1 := by rw [← hX]; simp [gt_set, gt_row, g_up]
  have x14 : X.1 14 t = T.1 14 t := by rw [← hX]; simp [gt_set, gt_row, g_up]
  have xr : X.2 t = [] := by rw [← hX]; simp [gt_set, gt_row, u_up]
  unfold i_T
  dsimp only
  rw [x1, x2, x4, x6, x7, x8, x9, x14, xr]
  exact ⟨h1, h2, Or.inl rfl, fun _ => ⟨rfl, rfl, rfl⟩, fun y => absurd rfl y, fun y => absurd rfl y, fun f hf => absurd hf (by simp), fun y => by omega, h10⟩
theorem IT.call (h : IT T) (hp : ¬ T.1 1 t = 0) (ha : ¬ T.1 4 t = 0) : IT (gt_call T t d) := by
  unfold gt_call
  have h1 := ((h.s7 (s := 1) hp ha (fun y => by omega)).s8 (t := t) (v := pb_w (pb_mul 2 (T.1 13 t) + 1)) (pb_w_R _)).free (k := 13) (t := t) (v := pb_w (T.1 13 t + 1)) (by omega)
  have e4 : (gt_set (gt_set (gt_set T 7 t 1) 8 t (pb_w (pb_mul 2 (T.1 13 t) + 1))) 13 t (pb_w (T.1 13 t + 1))).1 4 t = T.1 4 t := (gt_set_k (by decide)).trans ((gt_set_k (by decide)).trans (gt_set_k (by decide)))
  have e1 : (gt_set (gt_set (gt_set T 7 t 1) 8 t (pb_w (pb_mul 2 (T.1 13 t) + 1))) 13 t (pb_w (T.1 13 t + 1))).1 1 t = T.1 1 t := (gt_set_k (by decide)).trans ((gt_set_k (by decide)).trans (gt_set_k (by decide)))
  exact h1.put (by rw [e4]; exact i_F0 (by omega) (by omega) (pb_w_R _)) (by rw [e1]; exact hp) (fun y => by rw [e4] at y; exact absurd y ha)
theorem IT.act {s k : Int} (h : IT T) (hp : ¬ T.1 1 t = 0) (h7 : ¬ T.1 7 t = 0) (hs : ¬ (s = 2 ∨ s = 3 ∨ s = 6)) (hk : k = 3 ∨ k = 5) : IT (gt_put (gt_set T 7 t s) t (k, T.1 4 t, T.1 8 t, 0, 0)) := by
  have ha : ¬ T.1 4 t = 0 := fun y => h7 ((h t).2.2.2.2.1 hp y).1
  have h8 : pb_R (T.1 8 t) := (h t).2.2.2.2.2.2.2.2
  have h1 := h.s7 (s := s) hp ha (fun y => absurd y hs)
  have e4 : (gt_set T 7 t s).1 4 t = T.1 4 t := gt_set_k (by decide)
  have e1 : (gt_set T 7 t s).1 1 t = T.1 1 t := gt_set_k (by decide)
  exact h1.put (by rw [e4]; exact i_F0 (by omega) (by omega) h8) (by rw [e1]; exact hp) (fun y => by rw [e4] at y; exact absurd y ha)
theorem Inv.spoil {u : Int} (h : Inv m T E) : Inv m T (if u = 0 then ge_set E 7 b d else ge_set E 6 b d) := by
  split
  · exact (h.ie.set (k := 7) (by decide) (h.2.2.1.up5 (by decide))).inv h.1
  · exact (h.ie.set (k := 6) (by decide) (h.2.2.1.up5 (by decide))).inv h.1
end IPU
