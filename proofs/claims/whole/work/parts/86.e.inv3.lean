/-! the exchange keeps what holds: frames that come up -/
section IV3
variable {T : gT} {E E' : gE} {m : Nat} {n : Int} {c : List gC} {i : Nat} {f f' : gC} {b a v r t : Int} {fr : gF} {h_ : Nat → Int → Int} {P : Int → gF → Prop}
theorem IL.up0 (h : IL h_) (hv : ¬ v = 0) : IL (g_up h_ 0 t v) := by
  intro t'
  have := h t'
  unfold g_up
  by_cases z : t' = t <;> simp [z] <;> (try rw [z] at this) <;> (try omega) <;> exact ⟨fun y => absurd y hv, this.2⟩
theorem IL.up1 (h : IL h_) (hv : v = 0 ∨ v = 1) : IL (g_up h_ 1 t v) := by
  intro t'
  have := h t'
  unfold g_up
  by_cases z : t' = t
  · simp only [z, and_true, and_false, Nat.reduceEqDiff, if_true, if_false]
    rw [z] at this
    exact ⟨this.1, this.2.1, hv, this.2.2.2⟩
  · simp only [z, and_false, if_false]
    exact this
theorem IL.up2 (h : IL h_) (hv : v = 0 ∨ v = 1) : IL (g_up h_ 2 t v) := by
  intro t'
  have := h t'
  unfold g_up
  by_cases z : t' = t
  · simp only [z, and_true, and_false, Nat.reduceEqDiff, if_true, if_false]
    rw [z] at this
    exact ⟨this.1, this.2.1, this.2.2.1, hv⟩
  · simp only [z, and_false, if_false]
    exact this
theorem IL.up3 (h : IL h_) : IL (g_up h_ 3 t 0) := by
  intro t'
  have := h t'
  unfold g_up
  by_cases z : t' = t
  · simp only [z, and_true, and_false, Nat.reduceEqDiff, if_true, if_false]
    rw [z] at this
    exact ⟨fun _ => trivial, fun y => absurd trivial y, this.2.2⟩
  · simp only [z, and_false, if_false]
    exact this
theorem IL.up4 (h : IL h_) (hv : 0 < v ∧ v ≤ 8) : IL (g_up h_ 4 t v) := by
  intro t'
  have := h t'
  unfold g_up
  by_cases z : t' = t
  · simp only [z, and_true, and_false, Nat.reduceEqDiff, if_true, if_false]
    rw [z] at this
    exact ⟨this.1, fun _ => hv, this.2.2⟩
  · simp only [z, and_false, if_false]
    exact this
theorem IL.up5 (h : IL h_) {k : Nat} (hk : 5 ≤ k) : IL (g_up h_ k t v) := by
  intro t'
  have := h t'
  rw [g_up_n (by omega), g_up_n (by omega), g_up_n (by omega), g_up_n (by omega), g_up_n (by omega)]
  exact this
theorem IL.chk (h : IL h_) (h0 : ¬ h_ 0 t = 0) : IL (g_up (g_up h_ 3 t 1) 4 t 8) := by
  intro t'
  have := h t'
  unfold g_up
  by_cases z : t' = t
  · simp only [z, and_true, and_false, Nat.reduceEqDiff, if_true, if_false]
    rw [z] at this
    exact ⟨fun y => absurd y h0, fun _ => by omega, this.2.2⟩
  · simp only [z, and_false, if_false]
    exact this
theorem IL.end3 (h : IL h_) : IL (g_up (g_up h_ 4 t v) 3 t 0) := by
  intro t'
  have := h t'
  unfold g_up
  by_cases z : t' = t
  · simp only [z, and_true, and_false, Nat.reduceEqDiff, if_true, if_false]
    rw [z] at this
    exact ⟨fun _ => trivial, fun y => absurd trivial y, this.2.2⟩
  · simp only [z, and_false, if_false]
    exact this
theorem IW.set (h : IW P m E) {k : Nat} (hk : k ≠ 8) (hL : IL (g_up E.1 k t v)) : IW P m (ge_set E k t v) := by
  have e : (ge_set E k t v).1 8 0 = E.1 8 0 := ge_set_n (fun y => hk y.symm)
  exact ⟨h.1, hL, by rw [e]; exact h.2.2.1, h.2.2.2.1, by rw [e]; exact h.2.2.2.2⟩
theorem IE.set (h : IE m E) {k : Nat} (hk : k ≠ 8) (hL : IL (g_up E.1 k t v)) : IE m (ge_set E k t v) := ⟨h.1.set hk hL, h.2⟩
theorem IE.put (h : IE m E) (hf : i_D fr) : IE m (ge_put E b fr) := ⟨h.1.put hf, h.2⟩
theorem IE.row (h : IE m E) {l : List gF} (hl : ∀ f ∈ l, i_D f) : IE m (ge_row E b l) := ⟨h.1.row (fun f hf _ => hl f hf), h.2⟩
theorem IE.mono (h : IE (m + 1) E) : IE m E := ⟨⟨h.1.1, h.1.2.1, h.1.2.2.1, h.1.2.2.2.1, by have := h.1.2.2.2.2; omega⟩, h.2⟩
theorem IA.set (h : IA c) (hf : g_alive f' = true) : IA (c.set i f') := by
  intro g hg
  rcases List.mem_or_eq_of_mem_set hg with y | rfl
  · exact h g y
  · exact hf
theorem IE.cset (h : IE m E) (hi : E.2.2[i]? = some f) (hf : i_C (E.1 8 0) f') (e1 : f' 1 = f 1) (hh : ∀ b ch, g_holds f' b ch → g_holds f b ch) (ha : g_alive f' = true) : IE m (ge_cset E i f') := ⟨h.1.cset hi hf e1 hh, h.2.set ha⟩
theorem IE.give (h : IE m E) : ∀ d k : Nat, k + d ≤ 4 → IE m (ge_giveK E b v d k) := by
  intro d
  induction d with
  | zero => exact fun _ _ => h
  | succ d ih =>
    intro k hk
    unfold ge_giveK
    split
    · have h1 := h.set (k := 0) (t := 4 * b + k) (v := 1) (by decide) (h.1.2.1.up0 (by decide))
      have h2 := h1.set (k := 1) (t := 4 * b + k) (v := 0) (by decide) (h1.1.2.1.up1 (Or.inl rfl))
      have h3 := h2.set (k := 2) (t := 4 * b + k) (v := 0) (by decide) (h2.1.2.1.up2 (Or.inl rfl))
      exact h3.put (i_Dk (Or.inr (by omega)) (by unfold pb_R; omega) (fun y => absurd y (by decide)) pb_R0)
    · exact ih (k + 1) (by omega)
theorem g_ansK_is : ∀ (d k : Nat), g_ansK c b r d k = -1 ∨ ∃ (i : Nat) (f : gC), g_ansK c b r d k = i ∧ c[i]? = some f ∧ pb_mul 2 (f 1) = r ∧ f 10 = b ∧ (f 2 = 1 ∨ f 2 = 2) := by
  intro d
  induction d with
  | zero => exact fun _ => Or.inl rfl
  | succ d ih =>
    intro k
    unfold g_ansK
    cases hc : c[k]? with
    | none => exact Or.inl rfl
    | some f =>
      dsimp only
      by_cases z : pb_mul 2 (f 1) = r
      · rw [if_pos z]
        by_cases z2 : f 10 = b ∧ (f 2 = 1 ∨ f 2 = 2)
        · rw [if_pos z2]
          exact Or.inr ⟨k, f, rfl, hc, z, z2⟩
        · rw [if_neg z2]
          exact Or.inl rfl
      · rw [if_neg z]
        exact ih (k + 1)
theorem IE.alert (h : IE m E) (h64 : 64 ≤ fr.2.1 ∧ fr.2.1 < 68) (hr : pb_R fr.2.2.1) : IE m (ge_alert E b fr) := by
  unfold ge_alert
  rcases g_ansK_is (c := E.2.2) (b := b) (r := fr.2.2.1) E.2.2.length 0 with y | ⟨i, f, y1, y2, y3, y4, y5⟩
  · rw [if_pos (show g_ans E.2.2 b fr.2.2.1 = -1 from y)]
    exact h.put (i_D5 h64 hr)
  · have ea : g_ans E.2.2 b fr.2.2.1 = i := y1
    rw [ea, if_neg (by omega), show ((i : Int)).toNat = i by omega, y2]
    dsimp only
    have hf := h.1.2.2.1.1 f (List.mem_of_getElem? y2)
    have ho := hf.2.2.2.2.2.2.2.2.1 y5
    split
    · have hal : ∀ g : gC, g_leg g fr.2.1 = 2 → g_alive g = true := fun g q => g_alive_leg (a := fr.2.1) (by rw [q]; decide)
      have l2 : g_leg (g_setLeg f fr.2.1 2) fr.2.1 = 2 := g_leg_setS h64
      split
      · have e : ge_cset (ge_cset (ge_cset E i (g_setLeg f fr.2.1 2)) i (c_up (g_setLeg f fr.2.1 2) 2 2)) i (c_up (c_up (g_setLeg f fr.2.1 2) 2 2) 3 40) = ge_cset E i (c_up (c_up (g_setLeg f fr.2.1 2) 2 2) 3 40) := by
          unfold ge_cset ge_calls
          dsimp only
          rw [List.set_set, List.set_set]
        rw [e]
        refine (h.cset y2 (f' := c_up (c_up (g_setLeg f fr.2.1 2) 2 2) 3 40) ?_ (g_setLeg_lo (by decide)) ?_ (hal _ ?_)).put (i_Dk (Or.inr hf.2.2.2.1) (by have := hf.2.2.2.1; unfold pb_R; omega) (fun y => absurd y (by decide)) hf.2.2.2.2.1)
        · refine ((hf.toB.leg (a := fr.2.1) (v := 2)).up (k := 2) (v := 2) (by omega)).up (k := 3) (v := 40) (by omega) |>.toC (fun _ => ⟨?_, by show (0 : Int) < 40; decide, by show (40 : Int) ≤ 40; decide⟩) (fun y => absurd (show (2 : Int) = 3 from y) (by decide))
          exact (g_setLeg_lo (by decide)).trans ho.1
        · refine g_holds_le (fun k hk => (c_up_n (by omega)).trans ((c_up_n (by omega)).trans (g_setLeg_lo (by omega)))) (fun _ => by omega) (fun _ => Or.inl y5)
        · have := l2
          unfold g_leg at this ⊢
          rw [if_pos h64] at this ⊢
          rw [c_up_n (by omega), c_up_n (by omega)]
          exact this
      · refine h.cset y2 ?_ (g_setLeg_lo (by decide)) ?_ (hal _ l2)
        · refine (hf.toB.leg (a := fr.2.1) (v := 2)).toC (fun y => ?_) (fun y => ?_)
          · rw [g_setLeg_lo (by decide), g_setLeg_lo (by decide)]
            exact ho
          · rw [g_setLeg_lo (by decide)] at y
            omega
        · exact g_holds_le (fun k hk => g_setLeg_lo (by omega)) (fun _ => by omega) (fun _ => Or.inl y5)
    · exact h
theorem ge_connK_1 : ∀ k : Nat, k ≤ 4 → (ge_connK b r i E k).1 = E.1 ∧ (pb_R r → ID P E.2.1 → ID P (ge_connK b r i E k).2.1) := by
  intro k
  induction k with
  | zero => exact fun _ => ⟨rfl, fun _ => id⟩
  | succ k ih =>
    intro hk
    have ih := ih (by omega)
    show (ge_conn1 b r i (ge_connK b r i E k) k).1 = E.1 ∧ (pb_R r → ID P E.2.1 → ID P (ge_conn1 b r i (ge_connK b r i E k) k).2.1)
    unfold ge_conn1
    cases hc : (ge_connK b r i E k).2.2[i]? with
    | none => exact ih
    | some f =>
      dsimp only
      split
      · refine ⟨ih.1, fun hr y => ?_⟩
        exact ID.put (E := ge_cset (ge_connK b r i E k) i (c_up f (20 + k) 4)) (ih.2 hr y) (i_D5 (by omega) hr)
      · exact ih
theorem g_cn_ok (hf : i_C n f) (ho : f 2 = 1 ∨ f 2 = 2) (h64 : 64 ≤ a ∧ a < 68) : i_C n (g_cK (c_up (c_up (g_setLeg f a 3) 12 a) 2 3) 4) ∧ g_alive (g_cK (c_up (c_up (g_setLeg f a 3) 12 a) 2 3) 4) = true ∧ (∀ b ch, g_holds (g_cK (c_up (c_up (g_setLeg f a 3) 12 a) 2 3) 4) b ch → g_holds f b ch) ∧ g_cK (c_up (c_up (g_setLeg f a 3) 12 a) 2 3) 4 1 = f 1 := by
  have hc := hf.2.2.2.2.2.2.2.2.1 ho
  have lo : ∀ k, k < 20 → k ≠ 12 → k ≠ 2 → g_cK (c_up (c_up (g_setLeg f a 3) 12 a) 2 3) 4 k = f k := fun k q1 q2 q3 => by
    unfold g_cK
    rw [if_neg (by omega), c_up_n q3, c_up_n q2, g_setLeg_lo q1]
  have e12 : g_cK (c_up (c_up (g_setLeg f a 3) 12 a) 2 3) 4 12 = a := if_neg (by omega)
  have e2 : g_cK (c_up (c_up (g_setLeg f a 3) 12 a) 2 3) 4 2 = 3 := if_neg (by omega)
  have el : g_leg (g_cK (c_up (c_up (g_setLeg f a 3) 12 a) 2 3) 4) a = 3 := by
    have l3 : g_leg (g_setLeg f a 3) a = 3 := g_leg_setS h64
    unfold g_leg at l3 ⊢
    rw [if_pos h64] at l3 ⊢
    unfold g_cK
    have e : c_up (c_up (g_setLeg f a 3) 12 a) 2 3 (20 + (a - 64).toNat) = 3 := by
      rw [c_up_n (by omega), c_up_n (by omega)]
      exact l3
    rw [e, if_neg (fun y => absurd y.2 (by decide))]
  refine ⟨i_B.toC ?_ (fun y => by rw [e2] at y; omega) (fun _ => by rw [e12]; exact el), g_alive_leg (a := a) (by rw [el]; decide), g_holds_le (fun k hk => lo k (by omega) (by omega) (by omega)) (fun _ => by omega) (fun _ => Or.inl ho), lo 1 (by decide) (by decide) (by decide)⟩
  obtain ⟨h1, h2, h3, h4, h5, h6, h7, h8, h9⟩ := hf.toB
  unfold i_B
  rw [lo 1 (by decide) (by decide) (by decide), lo 5 (by decide) (by decide) (by decide), lo 6 (by decide) (by decide) (by decide), lo 7 (by decide) (by decide) (by decide), lo 8 (by decide) (by decide) (by decide), lo 10 (by decide) (by decide) (by decide), lo 11 (by decide) (by decide) (by decide), e12]
  exact ⟨h1, h2, h3, h4, h5, h6, h7, h8, Or.inr h64⟩
theorem IE.cn (h : IE m E) (hi : E.2.2[i]? = some f) (ho : f 2 = 1 ∨ f 2 = 2) (h64 : 64 ≤ a ∧ a < 68) (hr : pb_R r) : IE m (ge_cn E b a r i f) := by
  have hf := h.1.2.2.1.1 f (List.mem_of_getElem? hi)
  have hk := g_cn_ok hf ho h64
  have hp1 : i_D (4, a, r, f 11, 0) := i_Dk (Or.inr h64) (by unfold pb_R; omega) (fun _ => hf.2.2.2.2.2.2.1) hr
  have hp2 : i_D (3, f 6, f 7, 0, 0) := i_Dk (Or.inr hf.2.2.2.1) (by have := hf.2.2.2.1; unfold pb_R; omega) (fun y => absurd y (by decide)) hf.2.2.2.2.1
  have hc : (ge_cn E b a r i f).2.2 = E.2.2.set i (g_cK (c_up (c_up (g_setLeg f a 3) 12 a) 2 3) 4) := by
    unfold ge_cn
    rw [ge_connK_c (E := ge_put (ge_put (ge_cset (ge_cset (ge_cset E i (g_setLeg f a 3)) i (c_up (g_setLeg f a 3) 12 a)) i (c_up (c_up (g_setLeg f a 3) 12 a) 2 3)) b (4, a, r, f 11, 0)) (f 5) (3, f 6, f 7, 0, 0)) (f := c_up (c_up (g_setLeg f a 3) 12 a) 2 3) (cs_at (E := ge_cset (ge_cset E i (g_setLeg f a 3)) i (c_up (g_setLeg f a 3) 12 a)) (cs_at (cs_at hi)))]
    show (((E.2.2.set i _).set i _).set i _).set i _ = _
    rw [List.set_set, List.set_set, List.set_set]
  have h1 : (ge_cn E b a r i f).1 = E.1 := (ge_connK_1 (P := g_tt) 4 (Nat.le_refl _)).1
  refine ⟨⟨?_, by rw [h1]; exact h.1.2.1, by rw [h1, hc]; exact h.1.2.2.1.set hi hk.1 hk.2.2.2 hk.2.2.1, by rw [hc, List.length_set]; exact h.1.2.2.2.1, by rw [h1]; exact h.1.2.2.2.2⟩, by rw [hc]; exact h.2.set hk.2.1⟩
  refine (ge_connK_1 4 (Nat.le_refl _)).2 hr ?_
  exact ID.put (E := ge_put (ge_cset (ge_cset (ge_cset E i (g_setLeg f a 3)) i (c_up (g_setLeg f a 3) 12 a)) i (c_up (c_up (g_setLeg f a 3) 12 a) 2 3)) b (4, a, r, f 11, 0)) (ID.put (E := ge_cset (ge_cset (ge_cset E i (g_setLeg f a 3)) i (c_up (g_setLeg f a 3) 12 a)) i (c_up (c_up (g_setLeg f a 3) 12 a) 2 3)) h.1.1 hp1) hp2
theorem IE.connect (h : IE m E) (h64 : 64 ≤ fr.2.1 ∧ fr.2.1 < 68) (hr : pb_R fr.2.2.1) : IE m (ge_connect E b fr) := by
  unfold ge_connect
  rcases g_ansK_is (c := E.2.2) (b := b) (r := fr.2.2.1) E.2.2.length 0 with y | ⟨i, f, y1, y2, y3, y4, y5⟩
  · rw [if_pos (show g_ans E.2.2 b fr.2.2.1 = -1 from y)]
    split
    · exact h
    · exact h.put (i_D5 h64 hr)
  · have ea : g_ans E.2.2 b fr.2.2.1 = i := y1
    rw [ea, if_neg (by omega), show ((i : Int)).toNat = i by omega, y2]
    exact h.cn y2 y5 h64 hr
theorem g_hold_0 (hC : IC n c) {ch : Int} (h0 : g_hold c b ch = 0) (hf : f ∈ c) : ¬ g_holds f b ch := by
  intro y
  obtain ⟨j, hj⟩ := List.mem_iff_getElem?.mp hf
  have := g_hold_some hj y hC.uq
  have := (hC.1 f hf).1.1
  omega
theorem g_freeCh_h {be : Int} (h : ¬ g_freeCh c b be = -1) : (g_freeCh c b be = 0 ∨ g_freeCh c b be = 1) ∧ g_hold c b (g_freeCh c b be) = 0 ∧ ¬ g_freeCh c b be = be := by
  unfold g_freeCh at h ⊢
  by_cases z : ¬ 0 = be ∧ g_hold c b 0 = 0
  · rw [if_pos z]
    exact ⟨Or.inl rfl, z.2, z.1⟩
  · rw [if_neg z] at h ⊢
    by_cases z2 : ¬ 1 = be ∧ g_hold c b 1 = 0
    · rw [if_pos z2]
      exact ⟨Or.inr rfl, z2.2, z2.1⟩
    · rw [if_neg z2] at h
      exact absurd rfl h
theorem IE.setup (h : IE (m + 1) E) (hb : 0 ≤ b ∧ b < 2) (h64 : 64 ≤ fr.2.1 ∧ fr.2.1 < 68) (hr : pb_R fr.2.2.1) : IE m (ge_setup E b fr) := by
  unfold ge_setup
  split
  · exact h.mono.put (i_D5 h64 hr)
  · rename_i hv
    have hv := Decidable.not_not.mp hv
    split
    · exact h.mono.put (i_D5 h64 hr)
    · rename_i hl
      split
      · exact h.mono.put (i_D5 h64 hr)
      · rename_i h1
        split
        · exact h.mono.put (i_D5 h64 hr)
        · rename_i h2
          obtain ⟨a1, a2, a3⟩ := g_freeCh_h h1
          have e2 : g_cch E b fr = g_freeCh E.2.2 fr.2.2.2.1 (if fr.2.2.2.1 = b then g_freeCh E.2.2 b (-1) else -1) := if_pos hv
          rw [e2] at h2
          obtain ⟨b1, b2, b3⟩ := g_freeCh_h h2
          rw [← e2] at b1 b2 b3
          have hN := h.1.2.2.2.2
          have en : pb_w (E.1 8 0 + 1) = E.1 8 0 + 1 := pb_w_id (by unfold pb_R; omega)
          have hC := h.1.2.2.1
          have e8 : (ge_new E b fr).1 8 0 = E.1 8 0 + 1 := by
            show g_up E.1 8 0 (pb_w (E.1 8 0 + 1)) 8 0 = _
            rw [g_up_s, en]
          have hnew : IE m (ge_new E b fr) := by
            refine ⟨⟨h.1.1, h.1.2.1.up5 (by decide), ?_, ?_, ?_⟩, ?_⟩
            · rw [e8]
              show IC (E.1 8 0 + 1) (E.2.2 ++ [g_newC (pb_w (E.1 8 0 + 1)) b fr.2.1 fr.2.2.1 (g_freeCh E.2.2 b (-1)) fr.2.2.2.1 (g_cch E b fr)])
              rw [en]
              refine ⟨fun f hf => ?_, List.pairwise_append.mpr ⟨hC.2, List.pairwise_singleton _ _, fun f hf g hg => ?_⟩⟩
              · rcases List.mem_append.mp hf with y | y
                · obtain ⟨⟨c1, c2⟩, c3⟩ := hC.1 f y
                  exact ⟨⟨c1, by omega⟩, c3⟩
                · obtain rfl := List.mem_singleton.mp y
                  refine ⟨⟨by show 0 < E.1 8 0 + 1; omega, by show E.1 8 0 + 1 ≤ E.1 8 0 + 1; omega⟩, hb, hv, h64, hr, a1, b1, fun q => ?_, fun _ => ⟨rfl, by show (0 : Int) < 10; decide, by show (10 : Int) ≤ 40; decide⟩, fun q => absurd (show (1 : Int) = 3 from q) (by decide), Or.inl rfl⟩
                  have q1 : b = fr.2.2.2.1 := q.1
                  have q2 : g_freeCh E.2.2 b (-1) = g_cch E b fr := q.2
                  rw [if_pos q1.symm] at b3
                  exact b3 q2.symm
              · obtain rfl := List.mem_singleton.mp hg
                refine ⟨by have := hC.le hf; show f 1 < E.1 8 0 + 1; omega, fun b' ch' q => ?_⟩
                rcases q.2 with q2 | q2
                · have q3 : b = b' := q2.2.1
                  have q4 : g_freeCh E.2.2 b (-1) = ch' := q2.2.2
                  subst q3 q4
                  exact g_hold_0 hC a2 hf q.1
                · have q3 : fr.2.2.2.1 = b' := q2.1
                  have q4 : g_cch E b fr = ch' := q2.2.1
                  subst q3 q4
                  exact g_hold_0 hC b2 hf q.1
            · show (E.2.2 ++ [_]).length ≤ 4
              rw [List.length_append, List.length_singleton]
              have := h.1.2.2.2.1
              omega
            · rw [e8]
              omega
            · intro f hf
              rcases List.mem_append.mp hf with y | y
              · exact h.2 f y
              · obtain rfl := List.mem_singleton.mp y
                rfl
          exact (hnew.put (i_Dk (Or.inr h64) (by unfold pb_R; omega) (fun _ => a1) hr)).put (i_Dk (Or.inl rfl) pb_R0 (fun y => absurd y (by decide)) (pb_mul_R _ _))
theorem IE.recvd (h : IE (m + 1) E) (hb : 0 ≤ b ∧ b < 2) (h64 : 64 ≤ fr.2.1 ∧ fr.2.1 < 68) (hr : pb_R fr.2.2.1) : IE m (ge_recvd E b fr) := by
  unfold ge_recvd
  split
  · exact h.setup hb h64 hr
  · split
    · exact h.mono.alert h64 hr
    · split
      · exact h.mono.connect h64 hr
      · split
        · exact (h.mono.put (i_Dk (Or.inr h64) (by unfold pb_R; omega) (fun y => absurd y (by decide)) hr)).1.leave
        · split
          · exact h.mono.1.leave
          · exact h.mono
theorem IE.receive {bit : Int} (h : IE (m + 1) E) (hb : 0 ≤ b ∧ b < 2) (hr : pb_R fr.2.2.1) (hbit : bit = 0 ∨ bit = 1) : IE m (ge_receive E b fr bit) := by
  unfold ge_receive
  split
  · exact h.mono.give 4 0 (by omega)
  · split
    · exact h.mono
    · rename_i h64
      have h64 := Decidable.not_not.mp h64
      split
      · exact h.mono.set (by decide) (h.1.2.1.up5 (by decide))
      · split
        · refine IE.recvd (h.set (by decide) (h.1.2.1.up2 ?_)) hb h64 hr
          rcases hbit with rfl | rfl
          · exact Or.inr (by decide)
          · exact Or.inl (by decide)
        · exact h.mono
theorem Inv.upE (h : Inv (m + 1) T E) (hb : 0 ≤ b ∧ b < 2) : IE m (g_upE T E b) := by
  unfold g_upE
  split
  · exact h.ie.mono
  · rename_i hw
    have h6 : IE (m + 1) (ge_set E 6 b 2) := h.ie.set (by decide) (h.2.2.1.up5 (by decide))
    split
    · obtain ⟨w1, w2, w3⟩ := (g_win_ok T b (g_asm T b) 4).resolve_left hw
      have hmem : g_upF T b ∈ T.2 (4 * b + g_upW T b) := by
        have hr := g_hd_cons w3.2.1
        show g_hd T (4 * b + g_win T b (g_asm T b) 4) ∈ T.2 (4 * b + g_win T b (g_asm T b) 4)
        rw [hr]
        exact List.mem_cons_self
      exact h6.receive hb ((h.1 _).2.2.2.2.2.2.1 _ hmem).2.2.2 (h.1 _).2.1
    · exact h6.mono
theorem IE.failD (h : IE m E) (hn : ∀ f l, E.2.1 b = f :: l → f.1 ≤ 6) : IE m (ge_failD E b) := by
  unfold ge_failD
  cases hrow : E.2.1 b with
  | nil => exact h
  | cons f l =>
    dsimp only
    have hm : ∀ g ∈ f :: l, i_D g := fun g hg => h.1.1 b g (by rw [hrow]; exact hg) trivial
    have hf := hm f List.mem_cons_self
    have h6 := hn f l hrow
    have h64 := hf.1.resolve_left (by omega)
    have hfl := hf.2.2.1
    have ef : pb_w (f.2.2.2.2 + 1) = f.2.2.2.2 + 1 := pb_w_id (by unfold pb_R; omega)
    rw [ef]
    split
    · refine IW.dropG (P := fun t g => t = b → g_keep f.2.1 g = true) ⟨?_, h.1.2⟩ h64 (fun _ y _ => y) (fun t g z y => absurd y z)
      intro t g hg hp
      by_cases z : t = b
      · subst z
        have hg2 : g ∈ u_up E.2.1 t ((f.1, f.2.1, f.2.2.1, f.2.2.2.1, f.2.2.2.2 + 1) :: l) t := hg
        rw [u_up_s] at hg2
        rcases List.mem_cons.mp hg2 with rfl | y
        · have := hp rfl
          unfold g_keep at this
          rw [Bool.or_eq_true, decide_eq_true_eq, decide_eq_true_eq] at this
          exact this.elim (fun q => absurd h6 q) (fun q => absurd rfl q)
        · exact hm g (List.mem_cons_of_mem _ y)
      · have hg2 : g ∈ u_up E.2.1 b ((f.1, f.2.1, f.2.2.1, f.2.2.2.1, f.2.2.2.2 + 1) :: l) t := hg
        rw [u_up_n z] at hg2
        exact h.1.1 t g hg2 trivial
    · rename_i h3
      refine h.row (fun g hg => ?_)
      rcases List.mem_cons.mp hg with rfl | y
      · exact ⟨hf.1, hf.2.1, ⟨by show 0 ≤ f.2.2.2.2 + 1; omega, by show f.2.2.2.2 + 1 < 3; omega⟩, hf.2.2.2.1, hf.2.2.2.2⟩
      · exact hm g (List.mem_cons_of_mem _ y)
theorem IE.downE (h : IE m E) : IE m (g_downE T E b) := by
  unfold g_downE
  have h7 : IE m (ge_set E 7 b 2) := h.set (by decide) (h.1.2.1.up5 (by decide))
  cases hrow : E.2.1 b with
  | nil => exact h
  | cons f l =>
    dsimp only
    have hm : ∀ g ∈ l, i_D g := fun g hg => h.1.1 b g (by rw [hrow]; exact List.mem_cons_of_mem _ hg) trivial
    split
    · rename_i h6
      split
      · refine IE.row (h7.set (by decide) (h7.1.2.1.up1 ?_)) hm
        rcases (h.1.2.1 (4 * b + (f.2.1 - 64))).2.2.1 with y | y <;> rw [y]
        · exact Or.inr (by decide)
        · exact Or.inl (by decide)
      · refine h7.failD (fun g l' hg => ?_)
        have hg2 : E.2.1 b = g :: l' := hg
        rw [hrow] at hg2
        injection hg2 with q1 q2
        rw [← q1]
        exact h6
    · exact h7.row hm
theorem IE.audit {j : Int} (h : IE m E) (hj : 0 ≤ j ∧ j < 4) : IE m (ge_audit E b j) := by
  unfold ge_audit
  have hL := h.1.2.1
  split
  · exact h
  · rename_i h3
    have h4 := (hL (4 * b + j)).2.1 h3
    have ew : pb_w (E.1 4 (4 * b + j) - 1) = E.1 4 (4 * b + j) - 1 := pb_w_id (by unfold pb_R; omega)
    rw [ew]
    split
    · exact h.set (by decide) (hL.up4 (by omega))
    · have hE : IE m (ge_set (ge_set E 4 (4 * b + j) (E.1 4 (4 * b + j) - 1)) 3 (4 * b + j) 0) := by
        have e : (ge_set (ge_set E 4 (4 * b + j) (E.1 4 (4 * b + j) - 1)) 3 (4 * b + j) 0).1 8 0 = E.1 8 0 := (ge_set_n (by decide)).trans (ge_set_n (by decide))
        exact ⟨⟨h.1.1, hL.end3, by rw [e]; exact h.1.2.2.1, h.1.2.2.2.1, by rw [e]; exact h.1.2.2.2.2⟩, h.2⟩
      split
      · split
        · exact hE
        · exact hE.drop
      · exact (hE.put (i_Dk (Or.inr (by omega)) (by unfold pb_R; omega) (fun y => absurd y (by decide)) pb_R0)).drop
theorem IE.auditK (h : IE m E) : ∀ k : Nat, k ≤ 4 → IE m (ge_auditK b E k)
  | 0, _ => h
  | k + 1, hk => (IE.auditK h k (by omega)).audit ⟨by omega, by omega⟩
theorem IE.audits (h : IE m E) : IE m (ge_audits E) := (h.auditK (b := 0) 4 (Nat.le_refl _)).auditK (b := 1) 4 (Nat.le_refl _)
theorem g_gE_alive (h : g_alive f = true) : g_alive (g_gE f) = true := by
  refine Decidable.byContradiction (fun y => ?_)
  obtain ⟨d1, d2⟩ := g_dead y
  have h9 : f 9 = 0 := by
    rw [g_gE_9] at d1
    split at d1
    · exact absurd d1 (by decide)
    · exact d1
  have hl : ∀ j : Nat, j < 4 → f (20 + j) = 0 := by
    intro j hj
    have := d2 (64 + j)
    unfold g_leg at this
    rw [if_pos (by omega), show (64 + (j : Int) - 64).toNat = j by omega, g_gE_leg hj] at this
    split at this
    · exact absurd this (by decide)
    · exact this
  unfold g_alive g_legs g_legs g_legs g_legs g_legs at h
  have e0 := hl 0 (by decide)
  have e1 := hl 1 (by decide)
  have e2 := hl 2 (by decide)
  have e3 := hl 3 (by decide)
  simp only [Nat.add_zero, Nat.reduceAdd] at e0 e1 e2 e3
  simp [h9, e0, e1, e2, e3] at h
theorem IE.endc (h : IE m E) (hi : E.2.2[i]? = some f) (hf : i_C (E.1 8 0) f) : IE m (ge_end E i v) := by
  have h1 := ge_end_1 (E := E) (i := i) (v := v)
  have hc := ge_end_c (v := v) hi
  refine ⟨⟨ge_end_D h.1.1 hi hf.2.2.2.1 hf.2.2.2.2.1, by rw [h1]; exact h.1.2.1, by rw [h1, hc]; exact h.1.2.2.1.set hi hf.toB.fin (g_gE_k (by decide) (by decide) (by decide)) g_gE_holds, by rw [hc, List.length_set]; exact h.1.2.2.2.1, by rw [h1]; exact h.1.2.2.2.2⟩, by rw [hc]; exact h.2.set (g_gE_alive (h.2 f (List.mem_of_getElem? hi)))⟩
theorem g_ck_holds {k : Nat} (hk : k = 3 ∨ k = 4) : ∀ b ch, g_holds (c_up f k v) b ch → g_holds f b ch := by
  refine g_holds_le (fun k' hk' => c_up_n (by omega)) (fun y => by rw [c_up_n (by omega)] at y; exact y) (fun y => ?_)
  rw [c_up_n (by omega), c_up_n (by omega)] at y
  exact y.imp id (fun q z => q (g_leg_z (fun j hj q => (c_up_n (by omega)).trans q) z))
theorem g_ck_alive {k : Nat} (hk : k = 3 ∨ k = 4) (h : g_alive f = true) : g_alive (c_up f k v) = true := by
  refine Decidable.byContradiction (fun y => ?_)
  obtain ⟨d1, d2⟩ := g_dead y
  rw [c_up_n (by omega)] at d1
  have hl : ∀ j : Nat, j < 4 → f (20 + j) = 0 := by
    intro j hj
    have := d2 (64 + j)
    unfold g_leg at this
    rw [if_pos (by omega), show (64 + (j : Int) - 64).toNat = j by omega, c_up_n (by omega)] at this
    exact this
  unfold g_alive g_legs g_legs g_legs g_legs g_legs at h
  have e0 := hl 0 (by decide)
  have e1 := hl 1 (by decide)
  have e2 := hl 2 (by decide)
  have e3 := hl 3 (by decide)
  simp only [Nat.add_zero, Nat.reduceAdd] at e0 e1 e2 e3
  simp [d1, e0, e1, e2, e3] at h
theorem IE.cclock (h : IE m E) : IE m (ge_cclock E i) := by
  unfold ge_cclock
  cases hc : E.2.2[i]? with
  | none => exact h
  | some f =>
    dsimp only
    have hf := h.1.2.2.1.1 f (List.mem_of_getElem? hc)
    have ha := h.2 f (List.mem_of_getElem? hc)
    split
    · rename_i ho
      have h3 := hf.2.2.2.2.2.2.2.2.1 ho
      have ew : pb_w (f 3 - 1) = f 3 - 1 := pb_w_id (by unfold pb_R; omega)
      rw [ew]
      split
      · refine h.cset hc ?_ rfl (g_ck_holds (by omega)) (g_ck_alive (by omega) ha)
        exact (hf.toB.up (by omega)).toC (fun _ => ⟨h3.1, by show 0 < f 3 - 1; omega, by show f 3 - 1 ≤ 40; omega⟩) (fun y => by have y2 : f 2 = 3 := y; omega)
      · -- the clock has run out
        have en : ∀ v, IE m (ge_end (ge_cset E i (c_up f 3 (f 3 - 1))) i v) := by
          intro v
          have hc2 : (ge_end (ge_cset E i (c_up f 3 (f 3 - 1))) i v).2.2 = E.2.2.set i (g_gE (c_up f 3 (f 3 - 1))) := by
            rw [ge_end_c (cs_at hc)]
            show (E.2.2.set i _).set i _ = _
            rw [List.set_set]
          have h1 : (ge_end (ge_cset E i (c_up f 3 (f 3 - 1))) i v).1 = E.1 := ge_end_1
          refine ⟨⟨ge_end_D (E := ge_cset E i (c_up f 3 (f 3 - 1))) h.1.1 (cs_at hc) hf.2.2.2.1 hf.2.2.2.2.1, by rw [h1]; exact h.1.2.1, ?_, by rw [hc2, List.length_set]; exact h.1.2.2.2.1, by rw [h1]; exact h.1.2.2.2.2⟩, by rw [hc2]; exact h.2.set (g_gE_alive (g_ck_alive (by omega) ha))⟩
          rw [h1, hc2]
          exact h.1.2.2.1.set hc (hf.toB.up (by omega)).fin ((g_gE_k (by decide) (by decide) (by decide)).trans rfl) (fun b ch y => g_ck_holds (by omega) b ch (g_gE_holds b ch y))
        split
        · exact en _
        · split
          · exact en _
          · have e : ge_cset (ge_cset (ge_cset E i (c_up f 3 (f 3 - 1))) i (c_up (c_up f 3 (f 3 - 1)) 4 1)) i (c_up (c_up (c_up f 3 (f 3 - 1)) 4 1) 3 10) = ge_cset E i (c_up (c_up (c_up f 3 (f 3 - 1)) 4 1) 3 10) := by
              unfold ge_cset ge_calls
              dsimp only
              rw [List.set_set, List.set_set]
            rw [e]
            have q1 := fun b ch y => g_ck_holds (f := f) (k := 3) (v := f 3 - 1) (by omega) b ch (g_ck_holds (k := 4) (v := 1) (by omega) b ch (g_ck_holds (k := 3) (v := 10) (by omega) b ch y))
            have q2 := g_ck_alive (k := 3) (v := 10) (by omega) (g_ck_alive (k := 4) (v := 1) (by omega) (g_ck_alive (k := 3) (v := f 3 - 1) (by omega) ha))
            refine (h.cset hc (f' := c_up (c_up (c_up f 3 (f 3 - 1)) 4 1) 3 10) ?_ rfl q1 q2).put (i_Dk (Or.inl rfl) pb_R0 (fun y => absurd y (by decide)) (pb_mul_R _ _))
            exact (((hf.toB.up (k := 3) (v := f 3 - 1) (by omega)).up (k := 4) (v := 1) (by omega)).up (k := 3) (v := 10) (by omega)).toC (fun _ => ⟨h3.1, by show (0 : Int) < 10; decide, by show (10 : Int) ≤ 40; decide⟩) (fun y => by have y2 : f 2 = 3 := y; omega)
    · exact h
theorem IE.cclockK (h : IE m E) : ∀ k, IE m (ge_cclockK E k)
  | 0 => h
  | k + 1 => (IE.cclockK h k).cclock
theorem IE.clocks (h : IE m E) : IE m (ge_clocks E) := h.audits.cclockK _
theorem IE.check (h : IE m E) (hg : g_aud E b a) : IE m (ge_check E b a) := by
  have h1 := h.1.2.1.chk hg.2.2.1
  have e : (ge_set (ge_set E 3 (4 * b + (a - 64)) 1) 4 (4 * b + (a - 64)) 8).1 8 0 = E.1 8 0 := (ge_set_n (by decide)).trans (ge_set_n (by decide))
  have h2 : IE m (ge_set (ge_set E 3 (4 * b + (a - 64)) 1) 4 (4 * b + (a - 64)) 8) := ⟨⟨h.1.1, h1, by rw [e]; exact h.1.2.2.1, h.1.2.2.2.1, by rw [e]; exact h.1.2.2.2.2⟩, h.2⟩
  exact (h2.set (k := 5) (by decide) (h2.1.2.1.up5 (by decide))).put (i_Dk (Or.inr hg.2.1) (by have := hg.2.1; unfold pb_R; omega) (fun y => absurd y (by decide)) pb_R0)
end IV3
