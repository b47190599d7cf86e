/-! the terminals keep what holds -/
section IV4
variable {T T' : gT} {E : gE} {m : Nat} {b t v d a : Int} {f : gF} {l : List gF} {F : gT → Int → gT}
theorem IT.mk (h : IT T) (ho : ∀ t', t' ≠ t → g_ag T' T t') (hn : i_T (fun k => T'.1 k t) (T'.2 t)) : IT T' := by
  intro t'
  by_cases z : t' = t
  · rw [z]
    exact hn
  · have e := ho t' z
    rw [e.2, show (fun k => T'.1 k t') = fun k => T.1 k t' from funext e.1]
    exact h t'
theorem g_off_set (k : Nat) : ∀ t', t' ≠ t → g_ag (gt_set T k t v) T t' := fun _ h => ⟨fun _ => gt_set_l h, rfl⟩
theorem g_off_row : ∀ t', t' ≠ t → g_ag (gt_row T t l) T t' := fun _ h => ⟨fun _ => rfl, gt_row_l h⟩
theorem g_off_put : ∀ t', t' ≠ t → g_ag (gt_put T t f) T t' := fun _ h => ⟨fun _ => rfl, gt_put_l h⟩
theorem IT.it (hF : ∀ T t, IT T → IT (F T t)) (h : IT T) : ∀ n, IT (g_it F b T n)
  | 0 => h
  | n + 1 => hF _ _ (IT.it hF h n)
/-- a tag that is not looked at -/
theorem IT.free (h : IT T) {k : Nat} (hk : k = 3 ∨ k = 5 ∨ k = 10 ∨ k = 11 ∨ k = 12 ∨ k = 13 ∨ k = 15) : IT (gt_set T k t v) := by
  refine h.mk (g_off_set k) ?_
  have := h t
  unfold i_T at this ⊢
  dsimp only at this ⊢
  rw [gt_set_k (by omega), gt_set_k (by omega), gt_set_k (by omega), gt_set_k (by omega), gt_set_k (by omega), gt_set_k (by omega), gt_set_k (by omega), gt_set_k (by omega)]
  exact this
theorem IT.set2 (h : IT T) (hv : v = 0 ∨ v = 1) : IT (gt_set T 2 t v) := by
  refine h.mk (g_off_set 2) ?_
  obtain ⟨_, h2⟩ := h t
  unfold i_T
  dsimp only
  rw [show (gt_set T 2 t v).1 2 t = v from g_up_s _ _ _ _, gt_set_k (by decide), gt_set_k (by decide), gt_set_k (by decide), gt_set_k (by decide), gt_set_k (by decide), gt_set_k (by decide), gt_set_k (by decide)]
  exact ⟨hv, h2⟩
theorem IT.set14 (h : IT T) (hv : v = 0 ∨ v = 1) : IT (gt_set T 14 t v) := by
  refine h.mk (g_off_set 14) ?_
  obtain ⟨h1, _, h2⟩ := h t
  unfold i_T
  dsimp only
  rw [show (gt_set T 14 t v).1 14 t = v from g_up_s _ _ _ _, gt_set_k (by decide), gt_set_k (by decide), gt_set_k (by decide), gt_set_k (by decide), gt_set_k (by decide), gt_set_k (by decide), gt_set_k (by decide)]
  exact ⟨h1, hv, h2⟩
/-- a row with fewer frames, or such as may stand there -/
theorem IT.row (h : IT T) (hl : ∀ f ∈ l, i_F (T.1 4 t) f) (h0 : T.1 1 t = 0 → l = []) (h7 : ¬ T.1 1 t = 0 → T.1 4 t = 0 → ∀ f ∈ l, f.1 = 7) : IT (gt_row T t l) := by
  refine h.mk g_off_row ?_
  obtain ⟨h1, h2, h3, h4, h5, h6, h8, h9, h10⟩ := h t
  rw [show (gt_row T t l).2 t = l from u_up_s _ _ _]
  exact ⟨h1, h2, h3, fun y => ⟨(h4 y).1, (h4 y).2.1, h0 y⟩, fun y y2 => ⟨(h5 y y2).1, (h5 y y2).2.1, h7 y y2⟩, h6, hl, h9, h10⟩
theorem IT.sub (h : IT T) (hl : ∀ f ∈ l, f ∈ T.2 t) : IT (gt_row T t l) := by
  obtain ⟨h1, h2, h3, h4, h5, h6, h8, h9, h10⟩ := h t
  refine h.row (fun f hf => h8 f (hl f hf)) (fun y => ?_) (fun y y2 f hf => (h5 y y2).2.2 f (hl f hf))
  have := (h4 y).2.2
  cases l with
  | nil => rfl
  | cons f l =>
    have := hl f List.mem_cons_self
    rw [(h4 y).2.2] at this
    exact absurd this (by simp)
theorem IT.put (h : IT T) (hf : i_F (T.1 4 t) f) (hp : ¬ T.1 1 t = 0) (ha : T.1 4 t = 0 → f.1 = 7) : IT (gt_put T t f) := by
  obtain ⟨h1, h2, h3, h4, h5, h6, h8, h9, h10⟩ := h t
  refine h.row (fun g hg => ?_) (fun y => absurd y hp) (fun y y2 g hg => ?_)
  · rcases s_put_mem hg with q | rfl
    · exact h8 g q
    · exact hf
  · rcases s_put_mem hg with q | rfl
    · exact (h5 y y2).2.2 g q
    · exact ha y2
theorem i_F0 {k r w : Int} (hk : 0 ≤ k ∧ k ≤ 8) (h7 : ¬ k = 7) (hr : pb_R r) : i_F a (k, a, r, w, 0) := ⟨hk, by show a = if k = 7 then 0 else a; rw [if_neg h7], (by decide : (0 : Int) ≤ 0 ∧ (0 : Int) < 3), hr⟩
theorem i_F7 : i_F a (7, 0, 0, v, 0) := ⟨(by decide : (0 : Int) ≤ 7 ∧ (7 : Int) ≤ 8), rfl, (by decide : (0 : Int) ≤ 0 ∧ (0 : Int) < 3), pb_R0⟩
theorem gt_over_at : (gt_over T t d).1 4 t = 0 ∧ (gt_over T t d).1 7 t = 0 ∧ (gt_over T t d).1 9 t = -1 ∧ (gt_over T t d).1 6 t = 8 ∧ (gt_over T t d).2 t = [(7, 0, 0, d, 0)] ∧ ∀ k, k ≠ 4 → k ≠ 5 → k ≠ 6 → k ≠ 7 → k ≠ 9 → (gt_over T t d).1 k t = T.1 k t := by
  refine ⟨?_, ?_, ?_, ?_, ?_, ?_⟩
  · simp [gt_over, gt_null, gt_put, gt_row, gt_set, g_up]
  · simp [gt_over, gt_null, gt_put, gt_row, gt_set, g_up]
  · simp [gt_over, gt_null, gt_put, gt_row, gt_set, g_up]
  · simp [gt_over, gt_null, gt_put, gt_row, gt_set, g_up]
  · simp [gt_over, gt_null, gt_put, gt_row, gt_set, u_up, s_put]
  · intro k h4 h5 h6 h7 h9
    simp [gt_over, gt_null, gt_put, gt_row, gt_set, g_up, h4, h5, h6, h7, h9]
theorem IT.over (h : IT T) (hp : ¬ T.1 1 t = 0) : IT (gt_over T t d) := by
  obtain ⟨e4, e7, e9, e6, er, ek⟩ := gt_over_at (T := T) (t := t) (d := d)
  refine h.mk (fun t' z => ⟨(gt_over_l z).1, (gt_over_l z).2⟩) ?_
  obtain ⟨h1, h2, h3, h4, h5, h6, h8, h9, h10⟩ := h t
  unfold i_T
  dsimp only
  rw [e4, e7, e9, e6, er, ek 1 (by decide) (by decide) (by decide) (by decide) (by decide), ek 2 (by decide) (by decide) (by decide) (by decide) (by decide), ek 8 (by decide) (by decide) (by decide) (by decide) (by decide), ek 14 (by decide) (by decide) (by decide) (by decide) (by decide)]
  refine ⟨h1, h2, Or.inl rfl, fun y => absurd y hp, fun _ _ => ⟨rfl, rfl, fun f hf => by rw [List.mem_singleton.mp hf]⟩, fun _ => by omega, fun f hf => ?_, fun y => by omega, h10⟩
  rw [List.mem_singleton.mp hf]
  exact i_F7
theorem IT.next (h : IT T) (hp : ¬ T.1 1 t = 0) : IT (gt_next T t) := h.over hp
theorem IT.settle (h : IT T) : IT (gt_settle T t a) := by
  unfold gt_settle
  cases hr : T.2 t with
  | nil => exact h
  | cons f l =>
    dsimp only
    obtain ⟨h1, h2, h3, h4, h5, h6, h8, h9, h10⟩ := h t
    have hp : ¬ T.1 1 t = 0 := fun y => by
      have := (h4 y).2.2
      rw [hr] at this
      exact absurd this (by simp)
    have hmem : f ∈ T.2 t := by rw [hr]; exact List.mem_cons_self
    have hf := h8 f hmem
    have hl : ∀ g ∈ l, g ∈ T.2 t := fun g hg => by rw [hr]; exact List.mem_cons_of_mem _ hg
    split
    · rename_i h6'
      split
      · have hfl := hf.2.2.1
        have ef : pb_w (f.2.2.2.2 + 1) = f.2.2.2.2 + 1 := pb_w_id (by unfold pb_R; omega)
        rw [ef]
        split
        · -- the row is thrown away
          have e : gt_next (gt_row T t ((f.1, f.2.1, f.2.2.1, f.2.2.2.1, f.2.2.2.2 + 1) :: l)) t = gt_next T t := by
            have e2 : gt_row (gt_row T t ((f.1, f.2.1, f.2.2.1, f.2.2.2.1, f.2.2.2.2 + 1) :: l)) t [] = gt_row T t [] := by
              unfold gt_row
              refine Prod.ext rfl (funext fun t' => ?_)
              show u_up (u_up T.2 t _) t [] t' = u_up T.2 t [] t'
              unfold u_up
              split <;> rfl
            unfold gt_next gt_over
            rw [e2]
            rfl
          rw [e]
          exact h.next hp
        · rename_i h3'
          refine h.row (fun g hg => ?_) (fun y => absurd y hp) (fun y y2 g hg => ?_)
          · rcases List.mem_cons.mp hg with rfl | q
            · exact ⟨hf.1, hf.2.1, ⟨by show 0 ≤ f.2.2.2.2 + 1; omega, by show f.2.2.2.2 + 1 < 3; omega⟩, hf.2.2.2⟩
            · exact h8 g (hl g q)
          · rcases List.mem_cons.mp hg with rfl | q
            · exact (h5 y y2).2.2 f hmem
            · exact (h5 y y2).2.2 g (hl g q)
      · refine (h.sub hl).set14 ?_
        rcases h2 with y | y
        · have y2 : T.1 14 t = 0 := y
          rw [y2]
          exact Or.inr (by decide)
        · have y2 : T.1 14 t = 1 := y
          rw [y2]
          exact Or.inl (by decide)
    · exact h.sub hl
theorem IT.settle1 (h : IT T) : IT (g_settle1 a T t) := by
  unfold g_settle1
  split
  · exact h
  · exact h.settle
theorem IT.contend (h : IT T) : IT (gt_contend T b) := by
  refine IT.it (fun T' t' y => IT.set2 y ?_) (IT.it (fun T' t' y => IT.free y (by omega)) h 4) 4
  split
  · exact Or.inr rfl
  · exact Or.inl rfl
theorem IT.up (h : IT T) : IT (g_upT T E b) := by
  unfold g_upT
  split
  · exact h.contend
  · exact IT.it (fun _ _ y => y.settle1) h.contend 4
/-- state and channel -/
theorem IT.st {s c : Int} (h : IT T) (hp : ¬ T.1 1 t = 0) (ha : ¬ T.1 4 t = 0) (hc : s = 2 ∨ s = 3 ∨ s = 6 → c = 0 ∨ c = 1) : IT (gt_set (gt_set T 7 t s) 9 t c) := by
  refine h.mk (fun t' z => (g_off_set 9 t' z).tr (g_off_set 7 t' z)) ?_
  obtain ⟨h1, h2, h3, h4, h5, h6, h8, h9, h10⟩ := h t
  have e9 : (gt_set (gt_set T 7 t s) 9 t c).1 9 t = c := g_up_s _ _ _ _
  have e7 : (gt_set (gt_set T 7 t s) 9 t c).1 7 t = s := (gt_set_k (by decide)).trans (g_up_s _ _ _ _)
  have ek : ∀ k, k ≠ 7 → k ≠ 9 → (gt_set (gt_set T 7 t s) 9 t c).1 k t = T.1 k t := fun k y1 y2 => (gt_set_k y2).trans (gt_set_k y1)
  unfold i_T
  dsimp only
  rw [e7, e9, ek 1 (by decide) (by decide), ek 2 (by decide) (by decide), ek 4 (by decide) (by decide), ek 6 (by decide) (by decide), ek 8 (by decide) (by decide), ek 14 (by decide) (by decide)]
  exact ⟨h1, h2, h3, fun y => absurd y hp, fun _ y => absurd y ha, h6, h8, hc, h10⟩
theorem gt_set_self {k : Nat} : gt_set T k t (T.1 k t) = T := Prod.ext (funext fun k' => funext fun t' => (gt_self (T := T) (t := t) (k := k) k' t').symm) rfl
theorem IT.s7 {s : Int} (h : IT T) (hp : ¬ T.1 1 t = 0) (ha : ¬ T.1 4 t = 0) (hc : s = 2 ∨ s = 3 ∨ s = 6 → T.1 9 t = 0 ∨ T.1 9 t = 1) : IT (gt_set T 7 t s) := by
  have := h.st hp ha hc
  rw [show gt_set (gt_set T 7 t s) 9 t (T.1 9 t) = gt_set T 7 t s from by
    have e := gt_set_self (T := gt_set T 7 t s) (t := t) (k := 9)
    rw [gt_set_k (by decide)] at e
    exact e] at this
  exact this
theorem IT.s8 (h : IT T) (hv : pb_R v) : IT (gt_set T 8 t v) := by
  refine h.mk (g_off_set 8) ?_
  obtain ⟨h1, h2, h3, h4, h5, h6, h8, h9, h10⟩ := h t
  unfold i_T
  dsimp only
  rw [show (gt_set T 8 t v).1 8 t = v from g_up_s _ _ _ _, gt_set_k (by decide), gt_set_k (by decide), gt_set_k (by decide), gt_set_k (by decide), gt_set_k (by decide), gt_set_k (by decide), gt_set_k (by decide)]
  exact ⟨h1, h2, h3, h4, h5, h6, h8, h9, hv⟩
theorem IT.null (h : IT T) (hp : ¬ T.1 1 t = 0) (ha : ¬ T.1 4 t = 0) : IT (gt_null T t) := h.st hp ha (fun y => by omega)
/-- an address is taken -/
theorem IT.addr (h : IT T) (hp : ¬ T.1 1 t = 0) (ha : T.1 4 t = 0) (hv : 64 ≤ v ∧ v < 68) : IT (gt_set T 4 t v) := by
  refine h.mk (g_off_set 4) ?_
  obtain ⟨h1, h2, h3, h4, h5, h6, h8, h9, h10⟩ := h t
  unfold i_T
  dsimp only
  rw [show (gt_set T 4 t v).1 4 t = v from g_up_s _ _ _ _, gt_set_k (by decide), gt_set_k (by decide), gt_set_k (by decide), gt_set_k (by decide), gt_set_k (by decide), gt_set_k (by decide), gt_set_k (by decide)]
  refine ⟨h1, h2, Or.inr hv, fun y => absurd y hp, fun _ y => by omega, h6, fun f hf => ?_, h9, h10⟩
  have q := h8 f hf
  have k7 := (h5 hp ha).2.2 f hf
  refine ⟨q.1, ?_, q.2.2⟩
  have := q.2.1
  rw [if_pos k7] at this ⊢
  exact this
theorem IT.hear (h : IT T) (hp : ¬ T.1 1 t = 0) (hf : i_D f) : IT (gt_hear T t f) := by
  unfold gt_hear
  split
  · rename_i k9
    split
    · rename_i hc
      exact ((h.addr hp hc.1 (hf.1.resolve_left (by omega))).set14 (Or.inl rfl)).free (by omega)
    · exact h
  · split
    · split
      · exact h.next hp
      · exact h
    · split
      · rename_i k11
        split
        · rename_i hc
          have h64 := hf.1.resolve_left (by omega)
          exact h.put (i_F0 (by omega) (by omega) pb_R0) hp (fun y => by omega)
        · exact h
      · split
        · split
          · rename_i hc
            have h1 := (h.s7 (s := 4) hp hc.1 (fun y => by omega)).s8 (v := f.2.2.1) (t := t) hf.2.2.2.2
            have e4 : (gt_set (gt_set T 7 t 4) 8 t f.2.2.1).1 4 t = T.1 4 t := (gt_set_k (by decide)).trans (gt_set_k (by decide))
            have e1 : (gt_set (gt_set T 7 t 4) 8 t f.2.2.1).1 1 t = T.1 1 t := (gt_set_k (by decide)).trans (gt_set_k (by decide))
            refine h1.put (by rw [e4]; exact i_F0 (by omega) (by omega) hf.2.2.2.2) (by rw [e1]; exact hp) (fun y => by rw [e4] at y; exact absurd y hc.1)
          · exact h
        · exact h
theorem IT.hear1 (h : IT T) (hf : i_D f) : IT (g_hear1 f T t) := by
  unfold g_hear1
  split
  · exact h
  · rename_i hp
    exact h.hear hp hf
theorem IT.follow (h : IT T) (hp : ¬ T.1 1 t = 0) (ha : ¬ T.1 4 t = 0) (hf : i_D f) : IT (gt_follow T t f) := by
  have h9 := (h t).2.2.2.2.2.2.2.1
  dsimp only at h9
  unfold gt_follow
  split
  · rename_i hc
    exact h.st hp ha (fun _ => hf.2.2.2.1 (Or.inl hc.1))
  · split
    · rename_i hc
      exact h.s7 hp ha (fun _ => h9 (Or.inl hc.2))
    · split
      · rename_i hc
        exact h.s7 hp ha (fun _ => h9 (by omega))
      · split
        · rename_i hc
          exact h.st hp ha (fun _ => hf.2.2.2.1 (Or.inr hc.1))
        · split
          · exact h.null hp ha
          · exact h
theorem IT.told (h : IT T) (hp : ¬ T.1 1 t = 0) (ha : ¬ T.1 4 t = 0) (hf : i_D f) : IT (gt_told T t f) := by
  have h1 := h.put (t := t) (f := (6, T.1 4 t, f.2.2.1, 0, 0)) (i_F0 (by omega) (by omega) hf.2.2.2.2) hp (fun y => absurd y ha)
  unfold gt_told
  split
  · split
    · exact (h1.null (t := t) hp ha).free (by omega)
    · exact h1
  · split
    · exact h.follow hp ha hf
    · exact h
theorem IT.recv1 (h : IT T) (hf : i_D f) (h64 : 64 ≤ f.2.1 ∧ f.2.1 < 68) : IT (g_recv1 f d T t) := by
  unfold g_recv1
  split
  · rename_i hc
    rw [gt_receive_told]
    split
    · have ha : ¬ T.1 4 t = 0 := by omega
      have hp : ¬ T.1 1 t = 0 := fun y => ha ((h t).2.2.2.1 y).1
      exact (h.free (k := 15) (by omega)).told (by rw [gt_set_k (by decide)]; exact hp) (by rw [gt_set_k (by decide)]; exact ha) hf
    · exact h
  · exact h
theorem Inv.downT (h : Inv m T E) : IT (g_downT T E b) := by
  unfold g_downT
  cases hrow : E.2.1 b with
  | nil => exact h.1
  | cons f l =>
    dsimp only
    have hf := h.2.1 b f (by rw [hrow]; exact List.mem_cons_self) trivial
    split
    · split
      · rename_i hc
        exact IT.it (fun _ _ y => y.recv1 hf hc.1) h.1 4
      · exact h.1
    · split
      · exact h.1
      · exact IT.it (fun _ _ y => y.hear1 hf) h.1 4
theorem IT.s6 (h : IT T) (hv : 0 < v ∧ v ≤ 8) : IT (gt_set T 6 t v) := by
  refine h.mk (g_off_set 6) ?_
  obtain ⟨h1, h2, h3, h4, h5, h6, h8, h9, h10⟩ := h t
  unfold i_T
  dsimp only
  rw [show (gt_set T 6 t v).1 6 t = v from g_up_s _ _ _ _, gt_set_k (by decide), gt_set_k (by decide), gt_set_k (by decide), gt_set_k (by decide), gt_set_k (by decide), gt_set_k (by decide), gt_set_k (by decide)]
  exact ⟨h1, h2, h3, h4, h5, fun _ => hv, h8, h9, h10⟩
theorem IT.clock (h : IT T) : IT (gt_clock T t) := by
  unfold gt_clock
  split
  · exact h
  · rename_i hp
    have h6 := (h t).2.2.2.2.2.1 hp
    dsimp only at h6
    have ew : pb_w (T.1 6 t - 1) = T.1 6 t - 1 := pb_w_id (by unfold pb_R; omega)
    split
    · rw [ew]
      split
      · exact h.s6 (by omega)
      · have e : gt_next (gt_set T 6 t (T.1 6 t - 1)) t = gt_next T t := by
          unfold gt_next
          rw [gt_set_k (by decide)]
          refine Prod.ext (funext fun k => funext fun t' => ?_) rfl
          simp only [gt_over, gt_null, gt_put, gt_row, gt_set, g_up]
          by_cases z : k = 6 ∧ t' = t
          · rw [if_pos z, if_pos z]
          · rw [if_neg z, if_neg z, if_neg z]
        rw [e]
        exact h.next hp
    · exact h
theorem IT.clocks (h : IT T) : IT (gt_clocks T) := IT.it (fun _ _ y => y.clock) (IT.it (fun _ _ y => y.clock) h 4) 4
theorem IT.speech {c : List gC} (h : IT T) : IT (gt_speech T c) := IT.it (fun _ _ y => IT.free y (by omega)) (IT.it (fun _ _ y => IT.free y (by omega)) h 4) 4
theorem inv_inv : g_inv Inv := by
  refine ⟨fun n T E h => ⟨h.2.2.2.1.cws, fun t f l hl => ?_, fun b f l hl => ?_⟩, fun n T E b hb h => (h.upE hb).inv h.1.up, fun n T E b hb h => h.ie.downE.inv h.downT, fun n T E h => ?_⟩
  · have hf := (h.1 t).2.2.2.2.2.2.1 f (by rw [hl]; exact List.mem_cons_self)
    have h4 := (h.1 t).2.2.1
    have := hf.2.1
    dsimp only at h4 this
    rw [this]
    unfold pb_R
    split <;> omega
  · exact (h.2.1 b f (by rw [hl]; exact List.mem_cons_self) trivial).2.1
  · have h1 := h.ie.clocks
    exact (h1.set (k := 9) (by decide) (h1.1.2.1.up5 (by decide))).inv h.1.clocks.speech
end IV4
