/-! what holds between the calls -/
def i_F (a : Int) (f : gF) : Prop := (0 ≤ f.1 ∧ f.1 ≤ 8) ∧ f.2.1 = (if f.1 = 7 then 0 else a) ∧ (0 ≤ f.2.2.2.2 ∧ f.2.2.2.2 < 3) ∧ pb_R f.2.2.1
def i_T (g : Nat → Int) (l : List gF) : Prop := (g 2 = 0 ∨ g 2 = 1) ∧ (g 14 = 0 ∨ g 14 = 1) ∧ (g 4 = 0 ∨ (64 ≤ g 4 ∧ g 4 < 68)) ∧ (g 1 = 0 → g 4 = 0 ∧ g 7 = 0 ∧ l = []) ∧ (¬ g 1 = 0 → g 4 = 0 → g 7 = 0 ∧ g 9 = -1 ∧ ∀ f ∈ l, f.1 = 7) ∧ (¬ g 1 = 0 → 0 < g 6 ∧ g 6 ≤ 8) ∧ (∀ f ∈ l, i_F (g 4) f) ∧ (g 7 = 2 ∨ g 7 = 3 ∨ g 7 = 6 → g 9 = 0 ∨ g 9 = 1) ∧ pb_R (g 8)
def IT (T : gT) : Prop := ∀ t, i_T (fun k => T.1 k t) (T.2 t)
def i_D (f : gF) : Prop := (f.1 = 12 ∨ (64 ≤ f.2.1 ∧ f.2.1 < 68)) ∧ pb_R f.2.1 ∧ (0 ≤ f.2.2.2.2 ∧ f.2.2.2.2 < 3) ∧ (f.1 = 1 ∨ f.1 = 4 → f.2.2.2.1 = 0 ∨ f.2.2.2.1 = 1) ∧ pb_R f.2.2.1
/-- of the frames down that P names -/
def ID (P : Int → gF → Prop) (u : Int → List gF) : Prop := ∀ b, ∀ f ∈ u b, P b f → i_D f
def g_tt : Int → gF → Prop := fun _ _ => True
def IL (g : Nat → Int → Int) : Prop := ∀ t, (g 0 t = 0 → g 3 t = 0) ∧ (¬ g 3 t = 0 → 0 < g 4 t ∧ g 4 t ≤ 8) ∧ (g 1 t = 0 ∨ g 1 t = 1) ∧ (g 2 t = 0 ∨ g 2 t = 1)
def i_C (n : Int) (f : gC) : Prop := (0 < f 1 ∧ f 1 ≤ n) ∧ (0 ≤ f 5 ∧ f 5 < 2) ∧ (0 ≤ f 10 ∧ f 10 < 2) ∧ (64 ≤ f 6 ∧ f 6 < 68) ∧ pb_R (f 7) ∧ (f 8 = 0 ∨ f 8 = 1) ∧ (f 11 = 0 ∨ f 11 = 1) ∧ ¬ (f 5 = f 10 ∧ f 8 = f 11) ∧ (f 2 = 1 ∨ f 2 = 2 → f 9 = 1 ∧ 0 < f 3 ∧ f 3 ≤ 40) ∧ (f 2 = 3 → g_leg f (f 12) = 3) ∧ (f 12 = 0 ∨ (64 ≤ f 12 ∧ f 12 < 68))
def g_xc (f g : gC) : Prop := f 1 < g 1 ∧ ∀ b ch, ¬ (g_holds f b ch ∧ g_holds g b ch)
def IC (n : Int) (c : List gC) : Prop := (∀ f ∈ c, i_C n f) ∧ c.Pairwise g_xc
def IA (c : List gC) : Prop := ∀ f ∈ c, g_alive f = true
def Inv (m : Nat) (T : gT) (E : gE) : Prop := IT T ∧ ID g_tt E.2.1 ∧ IL E.1 ∧ IC (E.1 8 0) E.2.2 ∧ IA E.2.2 ∧ E.2.2.length ≤ 4 ∧ (0 ≤ E.1 8 0 ∧ E.1 8 0 + m ≤ 1000000)
section INV
variable {T : gT} {E : gE} {m : Nat} {n : Int} {c : List gC}
theorem IC.num (h : IC n c) : g_num c := ⟨fun f hf => (h.1 f hf).1.1, h.2.imp (fun y => y.1)⟩
theorem IC.uq (h : IC n c) : g_uq c := by
  intro i j f g b ch hi hj h1 h2
  obtain ⟨a1, a2⟩ := List.getElem?_eq_some_iff.mp hi
  obtain ⟨b1, b2⟩ := List.getElem?_eq_some_iff.mp hj
  rcases Nat.lt_trichotomy i j with z | z | z
  · have := List.pairwise_iff_getElem.mp h.2 i j a1 b1 z
    rw [a2, b2] at this
    exact absurd ⟨h1, h2⟩ (this.2 b ch)
  · exact z
  · have := List.pairwise_iff_getElem.mp h.2 j i b1 a1 z
    rw [a2, b2] at this
    exact absurd ⟨h2, h1⟩ (this.2 b ch)
theorem IC.cws (h : IC n c) : g_cws c := by
  intro i f hi
  have := h.1 f (List.mem_of_getElem? hi)
  refine ⟨this.2.1, this.2.2.1, ?_⟩
  unfold pb_R
  rcases this.2.2.2.2.2.2.2.2.2.2 with y | y <;> omega
theorem IC.le (h : IC n c) {f : gC} (hf : f ∈ c) : f 1 ≤ n := (h.1 f hf).1.2
theorem Inv.num (h : Inv (m + 1) T E) : ∀ f ∈ E.2.2, f 1 < pb_w (E.1 8 0 + 1) := by
  intro f hf
  have h1 := h.2.2.2.1.le hf
  have h2 := h.2.2.2.2.2.2
  rw [pb_w_id (by unfold pb_R; omega)]
  omega
theorem Inv.bd (h : Inv m T E) : ∀ f ∈ E.2.2, f 1 < 1073741824 := by
  intro f hf
  have h1 := h.2.2.2.1.le hf
  have h2 := h.2.2.2.2.2.2
  omega
theorem IT.ad (h : IT T) : g_ad T := by
  intro t f l _ _ hl
  exact ((h t).2.2.2.2.2.2.1 f (by rw [hl]; exact List.mem_cons_self)).2.1
theorem IT.mild (h : IT T) (t : Int) : T.1 2 t = 0 ∨ T.1 2 t = 1 := (h t).1
/-- a numbered frame, or a reply, comes from a terminal with an address -/
theorem IT.from (h : IT T) {t : Int} {f : gF} (hf : f ∈ T.2 t) (h7 : ¬ f.1 = 7) : ¬ T.1 1 t = 0 ∧ f.2.1 = T.1 4 t ∧ (64 ≤ T.1 4 t ∧ T.1 4 t < 68) := by
  obtain ⟨_, _, hC, hD, hE, _, hG, _⟩ := h t
  dsimp only at hC hD hE hG
  have hp : ¬ T.1 1 t = 0 := fun y => by
    rw [(hD y).2.2] at hf
    exact absurd hf (by simp)
  have ha : ¬ T.1 4 t = 0 := fun y => h7 ((hE hp y).2.2 f hf)
  have := (hG f hf).2.1
  rw [if_neg h7] at this
  exact ⟨hp, this, hC.resolve_left ha⟩
end INV
/-! one terminal after another -/
def g_ag (T1 T2 : gT) (t : Int) : Prop := (∀ k, T1.1 k t = T2.1 k t) ∧ T1.2 t = T2.2 t
def g_dep (F : gT → Int → gT) : Prop := ∀ T1 T2 t, g_ag T1 T2 t → g_ag (F T1 t) (F T2 t) t
section AG
variable {T T1 T2 T3 : gT} {t b : Int} {F : gT → Int → gT}
theorem g_ag.rf : g_ag T T t := ⟨fun _ => rfl, rfl⟩
theorem g_ag.sy (h : g_ag T1 T2 t) : g_ag T2 T1 t := ⟨fun k => (h.1 k).symm, h.2.symm⟩
theorem g_ag.tr (h : g_ag T1 T2 t) (h' : g_ag T2 T3 t) : g_ag T1 T3 t := ⟨fun k => (h.1 k).trans (h'.1 k), h.2.trans h'.2⟩
theorem g_ag.set (h : g_ag T1 T2 t) (k : Nat) {v v' : Int} (e : v = v') : g_ag (gt_set T1 k t v) (gt_set T2 k t v') t := by
  subst e
  refine ⟨fun k' => ?_, h.2⟩
  show g_up T1.1 k t v k' t = g_up T2.1 k t v k' t
  unfold g_up
  split
  · rfl
  · exact h.1 k'
theorem g_ag.row (h : g_ag T1 T2 t) {l l' : List gF} (e : l = l') : g_ag (gt_row T1 t l) (gt_row T2 t l') t := by
  subst e
  refine ⟨h.1, ?_⟩
  show u_up T1.2 t l t = u_up T2.2 t l t
  rw [u_up_s, u_up_s]
theorem g_ag.put (h : g_ag T1 T2 t) {f f' : gF} (e : f = f') : g_ag (gt_put T1 t f) (gt_put T2 t f') t := h.row (by rw [h.2, e])
theorem g_ag.null (h : g_ag T1 T2 t) : g_ag (gt_null T1 t) (gt_null T2 t) t := (h.set 7 rfl).set 9 rfl
theorem g_ag.over (h : g_ag T1 T2 t) {d d' : Int} (e : d = d') : g_ag (gt_over T1 t d) (gt_over T2 t d') t := by
  subst e
  exact ((((((h.row rfl).set 4 rfl).null).set 5 rfl).put rfl).set 6 rfl)
theorem g_ag.next (h : g_ag T1 T2 t) : g_ag (gt_next T1 t) (gt_next T2 t) t := h.over (by rw [h.1 5])
theorem d_settle (a : Int) : g_dep (fun T t => gt_settle T t a) := by
  intro T1 T2 t h
  show g_ag (gt_settle T1 t a) (gt_settle T2 t a) t
  unfold gt_settle
  rw [← h.2]
  cases T1.2 t with
  | nil => exact h
  | cons f l =>
    dsimp only
    split
    · split
      · split
        · exact (h.row rfl).next
        · exact h.row rfl
      · exact (h.row rfl).set 14 (by rw [h.1 14])
    · exact h.row rfl
theorem d_settle1 (a : Int) : g_dep (g_settle1 a) := by
  intro T1 T2 t h
  unfold g_settle1
  rw [← h.1 3]
  split
  · exact h
  · exact d_settle a T1 T2 t h
theorem g_it_at (hL : g_loc F) (hD : g_dep F) : ∀ (j i : Nat), i < j → g_ag (g_it F b T j) (F T (4 * b + i)) (4 * b + i) := by
  intro j
  induction j with
  | zero => exact fun i hi => absurd hi (by omega)
  | succ j ih =>
    intro i hi
    show g_ag (F (g_it F b T j) (4 * b + j)) (F T (4 * b + i)) (4 * b + i)
    by_cases z : i = j
    · subst z
      exact hD _ _ _ (g_it_loc hL b T i (4 * b + i) (fun k hk => by omega))
    · have h1 := hL (g_it F b T j) (4 * b + j) (4 * b + i) (by omega)
      exact g_ag.tr ⟨h1.1, h1.2⟩ (ih i (by omega))
theorem g_it_off (hL : g_loc F) {j : Nat} (h : ∀ i : Nat, i < j → t ≠ 4 * b + i) : g_ag (g_it F b T j) T t := g_it_loc hL b T j t h
end AG
