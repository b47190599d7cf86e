/-! what becomes of calls, one by one -/
theorem g_num_of {c c' : List gC} (h : g_num c) (e : ∀ j : Nat, (c'[j]?).map (fun f => f 1) = (c[j]?).map (fun f => f 1)) : g_num c' := by
  have hg : ∀ (j : Nat) (g : gC), c'[j]? = some g → ∃ g' : gC, c[j]? = some g' ∧ g 1 = g' 1 := by
    intro j g hj
    have := e j
    rw [hj] at this
    cases hc : c[j]? with
    | none => rw [hc] at this; exact absurd this (by simp)
    | some g' =>
      rw [hc] at this
      exact ⟨g', rfl, Option.some.inj this⟩
  refine ⟨fun g hgm => ?_, ?_⟩
  · obtain ⟨j, hj⟩ := List.mem_iff_getElem?.mp hgm
    obtain ⟨g', h1, h2⟩ := hg j g hj
    rw [h2]
    exact h.1 g' (List.mem_of_getElem? h1)
  · refine List.pairwise_iff_getElem.mpr (fun j k hj hk hjk => ?_)
    obtain ⟨g1, a1, a2⟩ := hg j _ (List.getElem?_eq_getElem hj)
    obtain ⟨g2, b1, b2⟩ := hg k _ (List.getElem?_eq_getElem hk)
    rw [a2, b2]
    exact h.lt a1 b1 hjk
theorem g_num.filter {c : List gC} (h : g_num c) (p : gC → Bool) : g_num (c.filter p) := ⟨fun f hf => h.1 f (List.mem_filter.mp hf).1, h.2.filter p⟩
theorem g_dead {f : gC} (h : ¬ g_alive f = true) : f 9 = 0 ∧ ∀ a, g_leg f a = 0 := by
  unfold g_alive g_legs g_legs g_legs g_legs g_legs at h
  have h1 : f 9 = 0 ∧ f 20 = 0 ∧ f 21 = 0 ∧ f 22 = 0 ∧ f 23 = 0 := by
    simp at h
    exact ⟨h.1, by omega, by omega, by omega, by omega⟩
  refine ⟨h1.1, fun a => ?_⟩
  unfold g_leg
  by_cases z : 64 ≤ a ∧ a < 68
  · rw [if_pos z]
    have : (a - 64).toNat = 0 ∨ (a - 64).toNat = 1 ∨ (a - 64).toNat = 2 ∨ (a - 64).toNat = 3 := by omega
    rcases this with e | e | e | e <;> rw [e]
    · exact h1.2.1
    · exact h1.2.2.1
    · exact h1.2.2.2.1
    · exact h1.2.2.2.2
  · rw [if_neg z]
/-- a step that changes the i-th call alone, by φ -/
def g_stp (F : gE → Nat → gE) (φ : gC → gC) : Prop := ∀ (E : gE) (i : Nat), (E.2.2[i]? = none → F E i = E) ∧ ∀ f : gC, E.2.2[i]? = some f → (F E i).2.2 = E.2.2.set i (φ f)
theorem g_itC {F : gE → Nat → gE} {φ : gC → gC} (hF : g_stp F φ) {E : gE} {K : Nat → gE} (h0 : K 0 = E) (hs : ∀ k, K (k + 1) = F (K k) k) : ∀ p j : Nat, (K p).2.2[j]? = if j < p then (E.2.2[j]?).map φ else E.2.2[j]? := by
  intro p
  induction p with
  | zero =>
    intro j
    rw [h0, if_neg (by omega)]
  | succ p ih =>
    intro j
    rw [hs]
    have hp := ih p
    rw [if_neg (by omega)] at hp
    cases hc : E.2.2[p]? with
    | none =>
      rw [hc] at hp
      rw [(hF (K p) p).1 hp, ih j]
      by_cases z : j < p
      · rw [if_pos z, if_pos (by omega)]
      · rw [if_neg z]
        by_cases z2 : j = p
        · subst z2
          rw [if_pos (by omega), hc]
          rfl
        · rw [if_neg (by omega)]
    | some f =>
      rw [hc] at hp
      rw [(hF (K p) p).2 f hp, List.getElem?_set]
      by_cases z : p = j
      · subst z
        rw [if_pos rfl, if_pos (List.getElem?_eq_some_iff.mp hp).1, if_pos (by omega), hc]
        rfl
      · rw [if_neg z, ih j]
        by_cases z2 : j < p
        · rw [if_pos z2, if_pos (by omega)]
        · rw [if_neg z2, if_neg (by omega)]
theorem g_it_num {F : gE → Nat → gE} {φ : gC → gC} (hF : g_stp F φ) (hφ : ∀ f, φ f 1 = f 1) {E : gE} {K : Nat → gE} (h0 : K 0 = E) (hs : ∀ k, K (k + 1) = F (K k) k) (h : g_num E.2.2) (p : Nat) : g_num (K p).2.2 := by
  refine g_num_of h (fun j => ?_)
  rw [g_itC hF h0 hs p j]
  by_cases z : j < p
  · rw [if_pos z]
    cases E.2.2[j]? with
    | none => rfl
    | some f => exact congrArg some (hφ f)
  · rw [if_neg z]
theorem g_itC_all {F : gE → Nat → gE} {φ : gC → gC} (hF : g_stp F φ) {E : gE} {K : Nat → gE} (h0 : K 0 = E) (hs : ∀ k, K (k + 1) = F (K k) k) : (K E.2.2.length).2.2 = E.2.2.map φ := by
  apply List.ext_getElem?
  intro j
  rw [g_itC hF h0 hs, List.getElem?_map]
  by_cases z : j < E.2.2.length
  · rw [if_pos z]
  · rw [if_neg z, List.getElem?_eq_none (by omega)]
    rfl
section GCG
variable {E : gE} {i : Nat} {f : gC} {b a : Int}
def g_cc1 (f : gC) : gC := g_gE (c_up f 9 0)
def g_cd1 (a : Int) (f : gC) : gC := if g_leg f a = 3 then g_gE (g_setLeg f a 0) else if g_leg f a = 2 ∧ f 2 = 2 ∧ g_ring (g_setLeg f a 0) 4 = false then g_gE (g_setLeg f a 0) else g_setLeg f a 0
theorem ge_callerGone_c (hi : E.2.2[i]? = some f) : (ge_callerGone E i).2.2 = E.2.2.set i (g_cc1 f) := by
  unfold ge_callerGone
  rw [hi]
  dsimp only
  rw [ge_end_c (cs_at hi)]
  show (E.2.2.set i (c_up f 9 0)).set i (g_gE (c_up f 9 0)) = _
  rw [List.set_set]
  rfl
theorem ge_calledGone_c (hi : E.2.2[i]? = some f) : (ge_calledGone E i a).2.2 = E.2.2.set i (g_cd1 a f) := by
  unfold ge_calledGone g_cd1
  rw [hi]
  dsimp only
  by_cases z : g_leg f a = 3
  · rw [if_pos z, if_pos z, ge_end_c (cs_at hi)]
    show (E.2.2.set i (g_setLeg f a 0)).set i (g_gE (g_setLeg f a 0)) = _
    rw [List.set_set]
  · rw [if_neg z, if_neg z]
    by_cases z2 : g_leg f a = 2 ∧ f 2 = 2 ∧ g_ring (g_setLeg f a 0) 4 = false
    · rw [if_pos z2, if_pos z2, ge_end_c (cs_at hi)]
      show (E.2.2.set i (g_setLeg f a 0)).set i (g_gE (g_setLeg f a 0)) = _
      rw [List.set_set]
    · rw [if_neg z2, if_neg z2]
      rfl
theorem g_cc1_k {k : Nat} (h2 : k ≠ 2) (h9 : k ≠ 9) (hk : k < 20) : g_cc1 f k = f k := (g_gE_k h2 h9 hk).trans (c_up_n h9)
theorem g_cd1_k {k : Nat} (h2 : k ≠ 2) (h9 : k ≠ 9) (hk : k < 20) : g_cd1 a f k = f k := by
  unfold g_cd1
  by_cases z : g_leg f a = 3
  · rw [if_pos z, g_gE_k h2 h9 hk, g_setLeg_lo hk]
  · rw [if_neg z]
    by_cases z2 : g_leg f a = 2 ∧ f 2 = 2 ∧ g_ring (g_setLeg f a 0) 4 = false
    · rw [if_pos z2, g_gE_k h2 h9 hk, g_setLeg_lo hk]
    · rw [if_neg z2, g_setLeg_lo hk]
theorem g_at_set {c : List gC} {g : gC} (hi : c[i]? = some f) : (c.set i g)[i]? = some g := by
  rw [List.getElem?_set, if_pos rfl, if_pos (List.getElem?_eq_some_iff.mp hi).1]
theorem g_set_same {c : List gC} (hi : c[i]? = some f) : c.set i f = c := by
  obtain ⟨a1, a2⟩ := List.getElem?_eq_some_iff.mp hi
  rw [← a2, List.set_getElem_self]
def g_dB (b a : Int) (f : gC) : gC := if f 10 = b ∧ ¬ g_leg f a = 0 then g_cd1 a f else f
def g_d1 (b a : Int) (f : gC) : gC := if ¬ f 9 = 0 ∧ f 5 = b ∧ f 6 = a then g_dB b a (g_cc1 f) else g_dB b a f
theorem ge_dropB_c (hi : E.2.2[i]? = some f) : (ge_dropB b a E i).2.2 = E.2.2.set i (g_dB b a f) := by
  unfold ge_dropB g_dB
  rw [hi]
  dsimp only
  by_cases z : f 10 = b ∧ ¬ g_leg f a = 0
  · rw [if_pos z, if_pos z]
    exact ge_calledGone_c hi
  · rw [if_neg z, if_neg z, g_set_same hi]
theorem ge_drop1_stp : g_stp (ge_drop1 b a) (g_d1 b a) := by
  refine fun E i => ⟨fun h => ?_, fun f hi => ?_⟩
  · unfold ge_drop1
    rw [h]
  · unfold ge_drop1 g_d1
    rw [hi]
    dsimp only
    by_cases z : ¬ f 9 = 0 ∧ f 5 = b ∧ f 6 = a
    · rw [if_pos z, if_pos z]
      have h1 : (ge_callerGone E i).2.2[i]? = some (g_cc1 f) := by rw [ge_callerGone_c hi]; exact g_at_set hi
      rw [ge_dropB_c h1, ge_callerGone_c hi, List.set_set]
    · rw [if_neg z, if_neg z]
      exact ge_dropB_c hi
theorem g_dB_k {k : Nat} (h2 : k ≠ 2) (h9 : k ≠ 9) (hk : k < 20) : g_dB b a f k = f k := by
  unfold g_dB
  split
  · exact g_cd1_k h2 h9 hk
  · rfl
theorem g_d1_k {k : Nat} (h2 : k ≠ 2) (h9 : k ≠ 9) (hk : k < 20) : g_d1 b a f k = f k := by
  unfold g_d1
  split
  · rw [g_dB_k h2 h9 hk, g_cc1_k h2 h9 hk]
  · exact g_dB_k h2 h9 hk
theorem ge_drop1_dead (hi : E.2.2[i]? = some f) (hd : ¬ g_alive f = true) : ge_drop1 b a E i = E := by
  obtain ⟨d1, d2⟩ := g_dead hd
  unfold ge_drop1 ge_dropB
  rw [hi]
  dsimp only
  rw [if_neg (fun y => y.1 d1), if_neg (fun y => y.2 (d2 a))]
end GCG
