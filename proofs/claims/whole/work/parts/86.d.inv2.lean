/-! the exchange keeps what holds -/
def IW (P : Int → gF → Prop) (m : Nat) (E : gE) : Prop := ID P E.2.1 ∧ IL E.1 ∧ IC (E.1 8 0) E.2.2 ∧ E.2.2.length ≤ 4 ∧ (0 ≤ E.1 8 0 ∧ E.1 8 0 + m ≤ 1000000)
def IE (m : Nat) (E : gE) : Prop := IW g_tt m E ∧ IA E.2.2
/-- what a call keeps for ever -/
def i_B (n : Int) (f : gC) : Prop := (0 < f 1 ∧ f 1 ≤ n) ∧ (0 ≤ f 5 ∧ f 5 < 2) ∧ (0 ≤ f 10 ∧ f 10 < 2) ∧ (64 ≤ f 6 ∧ f 6 < 68) ∧ pb_R (f 7) ∧ (f 8 = 0 ∨ f 8 = 1) ∧ (f 11 = 0 ∨ f 11 = 1) ∧ ¬ (f 5 = f 10 ∧ f 8 = f 11) ∧ (f 12 = 0 ∨ (64 ≤ f 12 ∧ f 12 < 68))
section IV2
variable {T : gT} {E E' : gE} {m : Nat} {n : Int} {c : List gC} {i : Nat} {f f' g : gC} {b a v r : Int} {fr : gF} {P : Int → gF → Prop}
theorem Inv.ie (h : Inv m T E) : IE m E := ⟨⟨h.2.1, h.2.2.1, h.2.2.2.1, h.2.2.2.2.2.1, h.2.2.2.2.2.2⟩, h.2.2.2.2.1⟩
theorem IE.inv (h : IE m E) (hT : IT T) : Inv m T E := ⟨hT, h.1.1, h.1.2.1, h.1.2.2.1, h.2, h.1.2.2.2.1, h.1.2.2.2.2⟩
theorem i_C.toB (h : i_C n f) : i_B n f := ⟨h.1, h.2.1, h.2.2.1, h.2.2.2.1, h.2.2.2.2.1, h.2.2.2.2.2.1, h.2.2.2.2.2.2.1, h.2.2.2.2.2.2.2.1, h.2.2.2.2.2.2.2.2.2.2⟩
theorem i_B.toC (h : i_B n f) (h1 : f 2 = 1 ∨ f 2 = 2 → f 9 = 1 ∧ 0 < f 3 ∧ f 3 ≤ 40) (h2 : f 2 = 3 → g_leg f (f 12) = 3) : i_C n f := ⟨h.1, h.2.1, h.2.2.1, h.2.2.2.1, h.2.2.2.2.1, h.2.2.2.2.2.1, h.2.2.2.2.2.2.1, h.2.2.2.2.2.2.2.1, h1, h2, h.2.2.2.2.2.2.2.2⟩
theorem i_B.of (h : i_B n f) (e : ∀ k, k = 1 ∨ (5 ≤ k ∧ k ≤ 8) ∨ (10 ≤ k ∧ k ≤ 12) → g k = f k) : i_B n g := by
  obtain ⟨h1, h2, h3, h4, h5, h6, h7, h8, h9⟩ := h
  unfold i_B
  rw [e 1 (by omega), e 5 (by omega), e 6 (by omega), e 7 (by omega), e 8 (by omega), e 10 (by omega), e 11 (by omega), e 12 (by omega)]
  exact ⟨h1, h2, h3, h4, h5, h6, h7, h8, h9⟩
theorem s_put_mem {cap : Int} {l : List gF} {g : gF} (h : g ∈ s_put cap l fr) : g ∈ l ∨ g = fr := by
  unfold s_put at h
  split at h
  · exact Or.inl h
  · rcases List.mem_append.mp h with y | y
    · exact Or.inl y
    · exact Or.inr (List.mem_singleton.mp y)
theorem ID.row {u : Int → List gF} (h : ID P u) {l : List gF} (hl : ∀ f ∈ l, P b f → i_D f) : ID P (u_up u b l) := by
  intro t f hf hp
  by_cases z : t = b
  · subst z
    rw [u_up_s] at hf
    exact hl f hf hp
  · rw [u_up_n z] at hf
    exact h t f hf hp
theorem ID.put (h : ID P E.2.1) (hf : i_D fr) : ID P (ge_put E b fr).2.1 := by
  refine h.row (fun g hg hp => ?_)
  rcases s_put_mem hg with y | rfl
  · exact h b g y hp
  · exact hf
theorem IC.set (h : IC n c) (hi : c[i]? = some f) (hf : i_C n f') (e1 : f' 1 = f 1) (hh : ∀ b ch, g_holds f' b ch → g_holds f b ch) : IC n (c.set i f') := by
  have hg : ∀ (j : Nat) (g : gC), (c.set i f')[j]? = some g → ∃ g' : gC, c[j]? = some g' ∧ g 1 = g' 1 ∧ (∀ b ch, g_holds g b ch → g_holds g' b ch) ∧ (i_C n g' → i_C n g) := by
    intro j g hj
    rw [List.getElem?_set] at hj
    by_cases z : i = j
    · subst z
      obtain ⟨a1, a2⟩ := List.getElem?_eq_some_iff.mp hi
      rw [if_pos rfl, if_pos a1] at hj
      obtain rfl := Option.some.inj hj
      exact ⟨f, hi, e1, hh, fun _ => hf⟩
    · rw [if_neg z] at hj
      exact ⟨g, hj, rfl, fun _ _ y => y, id⟩
  refine ⟨fun g hgm => ?_, ?_⟩
  · obtain ⟨j, hj⟩ := List.mem_iff_getElem?.mp hgm
    obtain ⟨g', h1, h2, h3, h4⟩ := hg j g hj
    exact h4 (h.1 g' (List.mem_of_getElem? h1))
  · refine List.pairwise_iff_getElem.mpr (fun j k hj hk hjk => ?_)
    obtain ⟨g1, a1, a2, a3, _⟩ := hg j _ (List.getElem?_eq_getElem hj)
    obtain ⟨g2, b1, b2, b3, _⟩ := hg k _ (List.getElem?_eq_getElem hk)
    obtain ⟨a1', a1''⟩ := List.getElem?_eq_some_iff.mp a1
    obtain ⟨b1', b1''⟩ := List.getElem?_eq_some_iff.mp b1
    have := List.pairwise_iff_getElem.mp h.2 j k a1' b1' hjk
    rw [a1'', b1''] at this
    exact ⟨by rw [a2, b2]; exact this.1, fun b ch y => this.2 b ch ⟨a3 b ch y.1, b3 b ch y.2⟩⟩
theorem IC.filter (h : IC n c) (p : gC → Bool) : IC n (c.filter p) := ⟨fun f hf => h.1 f (List.mem_filter.mp hf).1, h.2.filter p⟩
theorem IW.put (h : IW P m E) (hf : i_D fr) : IW P m (ge_put E b fr) := ⟨h.1.put hf, h.2⟩
theorem IW.row (h : IW P m E) {l : List gF} (hl : ∀ f ∈ l, P b f → i_D f) : IW P m (ge_row E b l) := ⟨h.1.row hl, h.2⟩
theorem IW.cset (h : IW P m E) (hi : E.2.2[i]? = some f) (hf : i_C (E.1 8 0) f') (e1 : f' 1 = f 1) (hh : ∀ b ch, g_holds f' b ch → g_holds f b ch) : IW P m (ge_cset E i f') := ⟨h.1, h.2.1, h.2.2.1.set hi hf e1 hh, by show (E.2.2.set i f').length ≤ 4; rw [List.length_set]; exact h.2.2.2.1, h.2.2.2.2⟩
theorem IW.forget (h : IW P m E) : IW P m (ge_forget E) ∧ IA (ge_forget E).2.2 := ⟨⟨h.1, h.2.1, h.2.2.1.filter g_alive, Nat.le_trans (List.length_filter_le _ _) h.2.2.2.1, h.2.2.2.2⟩, fun f hf => (List.mem_filter.mp hf).2⟩
theorem i_Dk {k : Int} (hk : k = 12 ∨ (64 ≤ a ∧ a < 68)) (ha : pb_R a) (hv : k = 1 ∨ k = 4 → v = 0 ∨ v = 1) (hr : pb_R r) : i_D (k, a, r, v, 0) := ⟨hk, ha, (by decide : (0 : Int) ≤ 0 ∧ (0 : Int) < 3), hv, hr⟩
theorem i_D5 (h6 : 64 ≤ a ∧ a < 68) (h7 : pb_R r) : i_D (5, a, r, v, 0) := i_Dk (Or.inr h6) (by unfold pb_R; omega) (fun y => absurd y (by decide)) h7
theorem pb_mul_R (p q : Int) : pb_R (pb_mul p q) := pb_w_R _
theorem ge_endK_1 : ∀ k : Nat, k ≤ 4 → (ge_endK i v E k).1 = E.1 ∧ (ID P E.2.1 → ID P (ge_endK i v E k).2.1) := by
  intro k
  induction k with
  | zero => exact fun _ => ⟨rfl, id⟩
  | succ k ih =>
    intro hk
    have ih := ih (by omega)
    show (ge_end1 i v (ge_endK i v E k) k).1 = E.1 ∧ (ID P E.2.1 → ID P (ge_end1 i v (ge_endK i v E k) k).2.1)
    unfold ge_end1
    cases hc : (ge_endK i v E k).2.2[i]? with
    | none => exact ih
    | some f =>
      dsimp only
      split
      · refine ⟨ih.1, fun y => ?_⟩
        exact ID.put (E := ge_cset (ge_endK i v E k) i (c_up f (20 + k) 4)) (ih.2 y) (i_D5 (by omega) (pb_mul_R _ _))
      · exact ih
theorem ge_end_1 : (ge_end E i v).1 = E.1 := by
  unfold ge_end
  cases hc : E.2.2[i]? with
  | none => rfl
  | some f =>
    dsimp only
    split
    · rfl
    · split
      · exact (ge_endK_1 (P := g_tt) 4 (Nat.le_refl _)).1
      · exact (ge_endK_1 (P := g_tt) 4 (Nat.le_refl _)).1
theorem ge_end_D (h : ID P E.2.1) (hi : E.2.2[i]? = some f) (h6 : 64 ≤ f 6 ∧ f 6 < 68) (h7 : pb_R (f 7)) : ID P (ge_end E i v).2.1 := by
  unfold ge_end
  rw [hi]
  dsimp only
  split
  · exact h
  · split
    · exact (ge_endK_1 4 (Nat.le_refl _)).2 (ID.put (E := ge_cset (ge_cset E i (c_up f 2 4)) i (c_up (c_up f 2 4) 9 4)) h (i_D5 h6 h7))
    · exact (ge_endK_1 4 (Nat.le_refl _)).2 h
theorem g_gE_2 : g_gE f 2 = 4 := by
  unfold g_gE
  split
  · assumption
  · split
    · exact if_neg (by omega)
    · exact if_neg (by omega)
theorem g_gE_9 : g_gE f 9 = if ¬ f 2 = 4 ∧ f 9 = 1 then 4 else f 9 := by
  unfold g_gE
  by_cases z : f 2 = 4
  · rw [if_pos z, if_neg (fun y => y.1 z)]
  · rw [if_neg z]
    by_cases z2 : f 9 = 1
    · rw [if_pos z2, if_pos ⟨z, z2⟩]
      exact if_neg (by omega)
    · rw [if_neg z2, if_neg (fun y => z2 y.2)]
      exact if_neg (by omega)
theorem g_gE_leg {j : Nat} (hj : j < 4) : g_gE f (20 + j) = if ¬ f 2 = 4 ∧ (f (20 + j) = 2 ∨ f (20 + j) = 3) then 4 else f (20 + j) := by
  unfold g_gE
  by_cases z : f 2 = 4
  · rw [if_pos z, if_neg (fun y => y.1 z)]
  · rw [if_neg z]
    have e1 : c_up (c_up f 2 4) 9 4 (20 + j) = f (20 + j) := by rw [c_up_n (by omega), c_up_n (by omega)]
    have e2 : c_up f 2 4 (20 + j) = f (20 + j) := c_up_n (by omega)
    by_cases z2 : f 9 = 1
    · rw [if_pos z2]
      unfold g_gK
      rw [e1]
      by_cases z3 : f (20 + j) = 2 ∨ f (20 + j) = 3
      · rw [if_pos ⟨by omega, z3⟩, if_pos ⟨z, z3⟩]
      · rw [if_neg (fun y => z3 y.2), if_neg (fun y => z3 y.2)]
    · rw [if_neg z2]
      unfold g_gK
      rw [e2]
      by_cases z3 : f (20 + j) = 2 ∨ f (20 + j) = 3
      · rw [if_pos ⟨by omega, z3⟩, if_pos ⟨z, z3⟩]
      · rw [if_neg (fun y => z3 y.2), if_neg (fun y => z3 y.2)]
theorem g_leg_z {f : gC} {a : Int} (h : ∀ j : Nat, j < 4 → (f (20 + j) = 0 → g (20 + j) = 0)) (h0 : g_leg f a = 0) : g_leg g a = 0 := by
  unfold g_leg at h0 ⊢
  by_cases z : 64 ≤ a ∧ a < 68
  · rw [if_pos z] at h0 ⊢
    exact h _ (by omega) h0
  · rw [if_neg z]
/-- holding less: the caller's part and the called part -/
theorem g_holds_le (e : ∀ k, k = 5 ∨ k = 8 ∨ k = 10 ∨ k = 11 → g k = f k) (h9 : ¬ g 9 = 0 → ¬ f 9 = 0) (hc : (g 2 = 1 ∨ g 2 = 2) ∨ ¬ g_leg g (g 12) = 0 → (f 2 = 1 ∨ f 2 = 2) ∨ ¬ g_leg f (f 12) = 0) : ∀ b ch, g_holds g b ch → g_holds f b ch := by
  intro b ch h
  unfold g_holds g_open at h ⊢
  rw [e 5 (by omega), e 8 (by omega), e 10 (by omega), e 11 (by omega)] at h
  rcases h with y | y
  · exact Or.inl ⟨h9 y.1, y.2⟩
  · exact Or.inr ⟨y.1, y.2.1, hc y.2.2⟩
theorem g_gE_holds : ∀ b ch, g_holds (g_gE f) b ch → g_holds f b ch := by
  refine g_holds_le (fun k hk => g_gE_k (by omega) (by omega) (by omega)) (fun y => ?_) (fun y => ?_)
  · rw [g_gE_9] at y
    intro z
    rw [if_neg (fun q => by omega)] at y
    exact y z
  · rcases y with y | y
    · rw [g_gE_2] at y
      omega
    · refine Or.inr (fun z => y ?_)
      rw [g_gE_k (by decide) (by decide) (by decide)]
      refine g_leg_z (fun j hj q => ?_) z
      rw [g_gE_leg hj, if_neg (fun y => by omega)]
      exact q
theorem i_B.fin (h : i_B n f) : i_C n (g_gE f) := (h.of (fun k hk => g_gE_k (by omega) (by omega) (by omega))).toC (fun y => by rw [g_gE_2] at y; omega) (fun y => by rw [g_gE_2] at y; omega)
theorem i_B.up (h : i_B n f) {k : Nat} (hk : k = 2 ∨ k = 3 ∨ k = 4 ∨ k = 9 ∨ 20 ≤ k) : i_B n (c_up f k v) := h.of (fun k' hk' => c_up_n (by omega))
theorem i_B.leg (h : i_B n f) : i_B n (g_setLeg f a v) := h.of (fun k' hk' => g_setLeg_lo (by omega))
theorem g_leg_setO {x : Int} (h : ¬ x = a) : g_leg (g_setLeg f a v) x = g_leg f x := by
  unfold g_leg g_setLeg
  by_cases z : 64 ≤ a ∧ a < 68
  · rw [if_pos z]
    by_cases z2 : 64 ≤ x ∧ x < 68
    · rw [if_pos z2, if_pos z2]
      exact c_up_n (by omega)
    · rw [if_neg z2, if_neg z2]
  · rw [if_neg z]
theorem g_leg_setS (h : 64 ≤ a ∧ a < 68) : g_leg (g_setLeg f a v) a = v := by
  unfold g_leg g_setLeg
  rw [if_pos h, if_pos h]
  exact if_pos rfl
theorem g_leg_set0 {x : Int} (h : g_leg f x = 0) : g_leg (g_setLeg f a 0) x = 0 := by
  by_cases z : x = a
  · subst z
    by_cases z2 : 64 ≤ x ∧ x < 68
    · exact g_leg_setS z2
    · unfold g_leg
      rw [if_neg z2]
  · rw [g_leg_setO z]
    exact h
theorem g_cc1_ok (h : i_C n f) : i_C n (g_cc1 f) ∧ ∀ b ch, g_holds (g_cc1 f) b ch → g_holds f b ch := by
  refine ⟨(h.toB.up (by omega)).fin, fun b ch y => ?_⟩
  have := g_gE_holds b ch y
  refine g_holds_le (g := c_up f 9 0) (fun k hk => c_up_n (by omega)) (fun q => absurd rfl q) (fun q => ?_) b ch this
  rcases q with q | q
  · exact Or.inl q
  · refine Or.inr (fun z => q ?_)
    exact g_leg_z (fun j hj q => (c_up_n (by omega)).trans q) z
theorem g_cd1_ok (h : i_C n f) : i_C n (g_cd1 a f) ∧ ∀ b ch, g_holds (g_cd1 a f) b ch → g_holds f b ch := by
  have hs : ∀ b ch, g_holds (g_setLeg f a 0) b ch → g_holds f b ch := by
    refine g_holds_le (fun k hk => g_setLeg_lo (by omega)) (fun q => by rw [g_setLeg_lo (by decide)] at q; exact q) (fun q => ?_)
    rw [g_setLeg_lo (by decide), g_setLeg_lo (by decide)] at q
    exact q.imp id (fun y z => y (g_leg_set0 z))
  unfold g_cd1
  by_cases z : g_leg f a = 3
  · rw [if_pos z]
    exact ⟨h.toB.leg.fin, fun b ch y => hs b ch (g_gE_holds b ch y)⟩
  · rw [if_neg z]
    by_cases z2 : g_leg f a = 2 ∧ f 2 = 2 ∧ g_ring (g_setLeg f a 0) 4 = false
    · rw [if_pos z2]
      exact ⟨h.toB.leg.fin, fun b ch y => hs b ch (g_gE_holds b ch y)⟩
    · rw [if_neg z2]
      refine ⟨h.toB.leg.toC (fun y => ?_) (fun y => ?_), hs⟩
      · rw [g_setLeg_lo (by decide)] at y
        rw [g_setLeg_lo (by decide), g_setLeg_lo (by decide)]
        exact h.2.2.2.2.2.2.2.2.1 y
      · rw [g_setLeg_lo (by decide)] at y
        have h3 := h.2.2.2.2.2.2.2.2.2.1 y
        rw [g_setLeg_lo (by decide), g_leg_setO (fun q => z (by rw [← q]; exact h3))]
        exact h3
theorem ge_callerGone_1 : (ge_callerGone E i).1 = E.1 := by
  unfold ge_callerGone
  cases hc : E.2.2[i]? with
  | none => rfl
  | some f => exact ge_end_1
theorem ge_calledGone_1 : (ge_calledGone E i a).1 = E.1 := by
  unfold ge_calledGone
  cases hc : E.2.2[i]? with
  | none => rfl
  | some f =>
    dsimp only
    split
    · exact ge_end_1
    · split
      · exact ge_end_1
      · rfl
theorem IW.callerGone (h : IW P m E) : IW P m (ge_callerGone E i) := by
  cases hc : E.2.2[i]? with
  | none =>
    have : ge_callerGone E i = E := by unfold ge_callerGone; rw [hc]
    rw [this]
    exact h
  | some f =>
    have hf := h.2.2.1.1 f (List.mem_of_getElem? hc)
    have hk := g_cc1_ok hf
    refine ⟨?_, by rw [ge_callerGone_1]; exact h.2.1, ?_, ?_, by rw [ge_callerGone_1]; exact h.2.2.2.2⟩
    · unfold ge_callerGone
      rw [hc]
      exact ge_end_D (E := ge_cset E i (c_up f 9 0)) h.1 (cs_at hc) hf.2.2.2.1 hf.2.2.2.2.1
    · rw [ge_callerGone_1, ge_callerGone_c hc]
      exact h.2.2.1.set hc hk.1 (g_cc1_k (by decide) (by decide) (by decide)) hk.2
    · rw [ge_callerGone_c hc, List.length_set]
      exact h.2.2.2.1
theorem IW.calledGone (h : IW P m E) : IW P m (ge_calledGone E i a) := by
  cases hc : E.2.2[i]? with
  | none =>
    have : ge_calledGone E i a = E := by unfold ge_calledGone; rw [hc]
    rw [this]
    exact h
  | some f =>
    have hf := h.2.2.1.1 f (List.mem_of_getElem? hc)
    have hk := g_cd1_ok (a := a) hf
    have hD : ∀ v, ID P (ge_end (ge_cset E i (g_setLeg f a 0)) i v).2.1 := fun v => ge_end_D (E := ge_cset E i (g_setLeg f a 0)) h.1 (cs_at hc) (by rw [g_setLeg_lo (by decide)]; exact hf.2.2.2.1) (by rw [g_setLeg_lo (by decide)]; exact hf.2.2.2.2.1)
    refine ⟨?_, by rw [ge_calledGone_1]; exact h.2.1, ?_, ?_, by rw [ge_calledGone_1]; exact h.2.2.2.2⟩
    · unfold ge_calledGone
      rw [hc]
      dsimp only
      split
      · exact hD _
      · split
        · exact hD _
        · exact h.1
    · rw [ge_calledGone_1, ge_calledGone_c hc]
      exact h.2.2.1.set hc hk.1 (g_cd1_k (by decide) (by decide) (by decide)) hk.2
    · rw [ge_calledGone_c hc, List.length_set]
      exact h.2.2.2.1
theorem IW.leaveK {al : Int} (h : IW P m E) : ∀ d k, IW P m (ge_leaveK E b a r al d k) := by
  intro d
  induction d with
  | zero => exact fun _ => h
  | succ d ih =>
    intro k
    unfold ge_leaveK
    cases hc : E.2.2[k]? with
    | none => exact h
    | some f =>
      dsimp only
      split
      · split
        · exact h.callerGone
        · exact h
      · split
        · split
          · exact h.calledGone
          · exact h
        · exact ih (k + 1)
theorem IW.leave {al : Int} (h : IW g_tt m E) : IE m (ge_leave E b a r al) := (h.leaveK _ _).forget
theorem IW.dropB (h : IW P m E) : IW P m (ge_dropB b a E i) := by
  unfold ge_dropB
  cases hc : E.2.2[i]? with
  | none => exact h
  | some f =>
    dsimp only
    split
    · exact h.calledGone
    · exact h
theorem IW.drop1 (h : IW P m E) : IW P m (ge_drop1 b a E i) := by
  unfold ge_drop1
  cases hc : E.2.2[i]? with
  | none => exact h
  | some f =>
    dsimp only
    split
    · exact h.callerGone.dropB
    · exact h.dropB
theorem IW.dropK (h : IW P m E) : ∀ k, IW P m (ge_dropK b a E k)
  | 0 => h
  | k + 1 => (IW.dropK h k).drop1
theorem IL.drop {g : Nat → Int → Int} {t : Int} (h : IL g) : IL (g_up (g_up g 0 t 0) 3 t 0) := by
  intro t'
  have := h t'
  unfold g_up
  by_cases z : t' = t
  · simp only [z, and_true, and_false, Nat.reduceEqDiff, if_true, if_false, not_true_eq_false, false_imp_iff, true_imp_iff, true_and]
    rw [z] at this
    exact this.2.2
  · simp only [z, and_false, if_false]
    exact this
theorem IW.dropG (h : IW P m E) (h64 : 64 ≤ a ∧ a < 68) (hP : ∀ f, g_keep a f = true → P b f) (hO : ∀ t f, t ≠ b → P t f) : IE m (ge_drop E b a) := by
  unfold ge_drop
  rw [if_pos h64]
  have h0 : IW P m (ge_set (ge_set E 0 (4 * b + (a - 64)) 0) 3 (4 * b + (a - 64)) 0) := by
    refine ⟨h.1, h.2.1.drop, ?_, h.2.2.2.1, ?_⟩
    · show IC (g_up (g_up E.1 0 (4 * b + (a - 64)) 0) 3 (4 * b + (a - 64)) 0 8 0) E.2.2
      rw [g_up_n (by omega), g_up_n (by omega)]
      exact h.2.2.1
    · show 0 ≤ g_up (g_up E.1 0 (4 * b + (a - 64)) 0) 3 (4 * b + (a - 64)) 0 8 0 ∧ g_up (g_up E.1 0 (4 * b + (a - 64)) 0) 3 (4 * b + (a - 64)) 0 8 0 + m ≤ 1000000
      rw [g_up_n (by omega), g_up_n (by omega)]
      exact h.2.2.2.2
  have h1 := h0.dropK (b := b) (a := a) E.2.2.length
  have h2 := h1.forget
  refine ⟨⟨fun t f hf _ => ?_, h2.1.2⟩, h2.2⟩
  by_cases z : t = b
  · subst z
    have hf2 : f ∈ u_up (ge_forget (ge_dropK t a (ge_set (ge_set E 0 (4 * t + (a - 64)) 0) 3 (4 * t + (a - 64)) 0) E.2.2.length)).2.1 t (((ge_dropK t a (ge_set (ge_set E 0 (4 * t + (a - 64)) 0) 3 (4 * t + (a - 64)) 0) E.2.2.length).2.1 t).filter (g_keep a)) t := hf
    rw [u_up_s] at hf2
    obtain ⟨q1, q2⟩ := List.mem_filter.mp hf2
    exact h1.1 t f q1 (hP f q2)
  · have hf2 : f ∈ u_up (ge_forget (ge_dropK b a (ge_set (ge_set E 0 (4 * b + (a - 64)) 0) 3 (4 * b + (a - 64)) 0) E.2.2.length)).2.1 b (((ge_dropK b a (ge_set (ge_set E 0 (4 * b + (a - 64)) 0) 3 (4 * b + (a - 64)) 0) E.2.2.length).2.1 b).filter (g_keep a)) t := hf
    rw [u_up_n z] at hf2
    exact h1.1 t f hf2 (hO t f z)
theorem IE.drop (h : IE m E) : IE m (ge_drop E b a) := by
  by_cases h64 : 64 ≤ a ∧ a < 68
  · exact h.1.dropG h64 (fun _ _ => trivial) (fun _ _ _ => trivial)
  · unfold ge_drop
    rw [if_neg h64]
    exact h
end IV2
