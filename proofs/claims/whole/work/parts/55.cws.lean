/-! the calls stay in their ranges -/
theorem g_cws_iff {c : List gC} : g_cws c ↔ ∀ f, f ∈ c → g_cw f := by
  constructor
  · intro h f hf
    obtain ⟨i, hi⟩ := List.mem_iff_getElem?.mp hf
    exact h i f hi
  · intro h i f hi
    exact h f (List.mem_iff_getElem?.mpr ⟨i, hi⟩)
theorem g_cws_forget {E : gE} (h : g_cws E.2.2) : g_cws (ge_forget E).2.2 := by
  rw [g_cws_iff] at h ⊢
  intro f hf
  exact h f (List.mem_filter.mp hf).1
theorem g_pk_leaveK (E : gE) (b a r al : Int) (h : g_cws E.2.2) : ∀ d k, g_pk E (ge_leaveK E b a r al d k)
  | 0, _ => g_pk.rf E
  | d + 1, k => by
    unfold ge_leaveK
    split
    · exact g_pk.rf E
    · split
      · split
        · exact g_pk_callerGone E k h
        · exact g_pk.rf E
      · split
        · split
          · exact g_pk_calledGone E k a h
          · exact g_pk.rf E
        · exact g_pk_leaveK E b a r al h d (k + 1)
theorem g_cws_leave {E : gE} {b a r al : Int} (h : g_cws E.2.2) : g_cws (ge_leave E b a r al).2.2 :=
  g_cws_forget ((g_pk_leaveK E b a r al h _ _).2 h)
theorem g_cws_drop {E : gE} {b a : Int} (h : g_cws E.2.2) : g_cws (ge_drop E b a).2.2 := by
  unfold ge_drop
  split
  · exact g_cws_forget ((g_pk_dropK b a (ge_set (ge_set E 0 (4 * b + (a - 64)) 0) 3 (4 * b + (a - 64)) 0) h _).2 h)
  · exact h
theorem g_cws_setup {E : gE} {b : Int} {fr : gF} (hb : 0 ≤ b ∧ b < 2) (h : g_cws E.2.2) : g_cws (ge_setup E b fr).2.2 := by
  unfold ge_setup
  split
  · exact h
  · rename_i hc
    split
    · exact h
    · split
      · exact h
      · split
        · exact h
        · show g_cws (E.2.2 ++ [_])
          rw [g_cws_iff] at h ⊢
          intro f hf
          rcases List.mem_append.mp hf with hf | hf
          · exact h f hf
          · rw [List.mem_singleton.mp hf]
            exact ⟨hb, Decidable.not_not.mp hc, by unfold pb_R; show -2147483648 ≤ (0 : Int) ∧ (0 : Int) < 2147483648; omega⟩
theorem g_pk_alert {E : gE} {b : Int} {fr : gF} (h : g_cws E.2.2) : g_pk E (ge_alert E b fr) := by
  unfold ge_alert
  split
  · exact g_pk.same rfl
  · split
    · exact g_pk.rf E
    · rename_i f hf
      have h1 : g_pk E (ge_cset E (g_ans E.2.2 b fr.2.2.1).toNat (g_setLeg f fr.2.1 2)) := g_pk.cset hf (g_setLeg_lo (by decide)) (g_setLeg_lo (by decide)) (by rw [g_setLeg_lo (by decide)]; exact (h _ f hf).2.2)
      have hf1 := g_cset_at (g := g_setLeg f fr.2.1 2) hf
      split
      · split
        · have h2 := h1.tr (g_pk.cset (g := c_up (g_setLeg f fr.2.1 2) 2 2) hf1 rfl rfl (h1.2 h _ _ hf1).2.2)
          have hf2 := g_cset_at (g := c_up (g_setLeg f fr.2.1 2) 2 2) hf1
          have h3 := h2.tr (g_pk.cset (g := c_up (c_up (g_setLeg f fr.2.1 2) 2 2) 3 40) hf2 rfl rfl (h2.2 h _ _ hf2).2.2)
          exact h3.tr (g_pk.same rfl)
        · exact h1
      · exact g_pk.rf E
theorem g_pk_conn1 (b r : Int) (i : Nat) (E : gE) (k : Nat) (h : g_cws E.2.2) : g_pk E (ge_conn1 b r i E k) := by
  unfold ge_conn1
  split
  · exact g_pk.rf E
  · rename_i f hf
    split
    · refine (g_pk.cset (g := c_up f (20 + k) 4) hf ?_ ?_ ?_).tr (g_pk.same rfl)
      · simp only [c_up]; rw [if_neg (by omega)]
      · simp only [c_up]; rw [if_neg (by omega)]
      · simp only [c_up]; rw [if_neg (by omega)]; exact (h i f hf).2.2
    · exact g_pk.rf E
theorem g_pk_connK (b r : Int) (i : Nat) (E : gE) (h : g_cws E.2.2) : ∀ k, g_pk E (ge_connK b r i E k)
  | 0 => g_pk.rf E
  | k + 1 => (g_pk_connK b r i E h k).tr (g_pk_conn1 b r i _ k ((g_pk_connK b r i E h k).2 h))
theorem g_pk_connect {E : gE} {b : Int} {fr : gF} (ha : pb_R fr.2.1) (h : g_cws E.2.2) : g_pk E (ge_connect E b fr) := by
  unfold ge_connect
  split
  · split
    · exact g_pk.rf E
    · exact g_pk.same rfl
  · split
    · exact g_pk.rf E
    · rename_i f hf
      have h1 : g_pk E (ge_cset E (g_ans E.2.2 b fr.2.2.1).toNat (g_setLeg f fr.2.1 3)) := g_pk.cset hf (g_setLeg_lo (by decide)) (g_setLeg_lo (by decide)) (by rw [g_setLeg_lo (by decide)]; exact (h _ f hf).2.2)
      have hf1 := g_cset_at (g := g_setLeg f fr.2.1 3) hf
      have h2 := h1.tr (g_pk.cset (g := c_up (g_setLeg f fr.2.1 3) 12 fr.2.1) hf1 rfl rfl ha)
      have hf2 := g_cset_at (g := c_up (g_setLeg f fr.2.1 3) 12 fr.2.1) hf1
      have h3 := h2.tr (g_pk.cset (g := c_up (c_up (g_setLeg f fr.2.1 3) 12 fr.2.1) 2 3) hf2 rfl rfl ha)
      have h9 : ∀ E3, g_pk E E3 → g_pk E (ge_put (ge_put E3 b (4, fr.2.1, fr.2.2.1, f 11, 0)) (f 5) (3, f 6, f 7, 0, 0)) := fun E3 q => q.tr (g_pk.same rfl)
      have h4 := h9 _ h3
      exact h4.tr (g_pk_connK b fr.2.2.1 _ _ (h4.2 h) 4)
theorem g_cws_recvd {E : gE} {b : Int} {fr : gF} (hb : 0 ≤ b ∧ b < 2) (ha : pb_R fr.2.1) (h : g_cws E.2.2) : g_cws (ge_recvd E b fr).2.2 := by
  unfold ge_recvd
  repeat' split
  · exact g_cws_setup hb h
  · exact (g_pk_alert h).2 h
  · exact (g_pk_connect ha h).2 h
  · exact g_cws_leave (E := ge_put E b (6, fr.2.1, fr.2.2.1, 0, 0)) h
  · exact g_cws_leave h
  · exact h
theorem g_giveK_calls (E : gE) (b v : Int) : ∀ d k, (ge_giveK E b v d k).2.2 = E.2.2
  | 0, _ => rfl
  | d + 1, k => by
    unfold ge_giveK
    split
    · rfl
    · exact g_giveK_calls E b v d (k + 1)
theorem g_cws_receive {E : gE} {b bit : Int} {fr : gF} (hb : 0 ≤ b ∧ b < 2) (ha : pb_R fr.2.1) (h : g_cws E.2.2) : g_cws (ge_receive E b fr bit).2.2 := by
  unfold ge_receive
  split
  · rw [show (ge_give E b fr.2.2.2.1).2.2 = E.2.2 from g_giveK_calls E b _ 4 0]
    exact h
  · split
    · exact h
    · split
      · exact h
      · split
        · exact g_cws_recvd hb ha h
        · exact h
theorem g_cws_upE {T : gT} {E : gE} {b : Int} (hb : 0 ≤ b ∧ b < 2) (ha : pb_R (g_upF T b).2.1) (h : g_cws E.2.2) : g_cws (g_upE T E b).2.2 := by
  unfold g_upE
  split
  · exact h
  · split
    · exact g_cws_receive (E := ge_set E 6 b 2) hb ha h
    · exact h
theorem g_cws_failD {E : gE} {b : Int} (h : g_cws E.2.2) : g_cws (ge_failD E b).2.2 := by
  unfold ge_failD
  split
  · exact h
  · split
    · rename_i f l _ _
      exact g_cws_drop (E := ge_row E b ((f.1, f.2.1, f.2.2.1, f.2.2.2.1, pb_w (f.2.2.2.2 + 1)) :: l)) h
    · exact h
theorem g_cws_downE {T : gT} {E : gE} {b : Int} (h : g_cws E.2.2) : g_cws (g_downE T E b).2.2 := by
  unfold g_downE
  split
  · exact h
  · split
    · split
      · exact h
      · exact g_cws_failD (E := ge_set E 7 b 2) h
    · exact h
theorem g_cws_audit {E : gE} {b j : Int} (h : g_cws E.2.2) : g_cws (ge_audit E b j).2.2 := by
  unfold ge_audit
  split
  · exact h
  · split
    · exact h
    · split
      · split
        · exact h
        · exact g_cws_drop (E := ge_set (ge_set E 4 (4 * b + j) (pb_w (E.1 4 (4 * b + j) - 1))) 3 (4 * b + j) 0) h
      · exact g_cws_drop (E := ge_put (ge_set (ge_set E 4 (4 * b + j) (pb_w (E.1 4 (4 * b + j) - 1))) 3 (4 * b + j) 0) b (10, 64 + j, 0, 0, 0)) h
theorem g_pk_cclock (E : gE) (i : Nat) (h : g_cws E.2.2) : g_pk E (ge_cclock E i) := by
  unfold ge_cclock
  split
  · exact g_pk.rf E
  · rename_i f hf
    have h1 : g_pk E (ge_cset E i (c_up f 3 (pb_w (f 3 - 1)))) := g_pk.cset hf rfl rfl (h i f hf).2.2
    have hf1 := g_cset_at (g := c_up f 3 (pb_w (f 3 - 1))) hf
    split
    · split
      · exact h1
      · split
        · exact h1.tr (g_pk_end _ i 9 (h1.2 h))
        · split
          · exact h1.tr (g_pk_end _ i 8 (h1.2 h))
          · have h2 := h1.tr (g_pk.cset (g := c_up (c_up f 3 (pb_w (f 3 - 1))) 4 1) hf1 rfl rfl (h i f hf).2.2)
            have hf2 := g_cset_at (g := c_up (c_up f 3 (pb_w (f 3 - 1))) 4 1) hf1
            have h3 := h2.tr (g_pk.cset (g := c_up (c_up (c_up f 3 (pb_w (f 3 - 1))) 4 1) 3 10) hf2 rfl rfl (h i f hf).2.2)
            exact h3.tr (g_pk.same rfl)
    · exact g_pk.rf E
