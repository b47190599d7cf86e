/-! arrays -/
section PBA
variable {x : pb_E} {m n0 : Nat} {Q : pb_P} {pc : Nat} {k : pb_K}
theorem pb_s_alen {a : Nat} {ty : FieldType} (hd : decode (pb_code m) pc = .ok (.arraylength, 1)) (ha : 100 ≤ a) (ht : ∀ dA : Nat → ClassId, (pb_tys dA)[a - 100]? = some (dA (a - 100), ty)) (hln : ∀ q : Int, pb_R (pb_ln q) ∧ 0 ≤ pb_ln q) (hk : pb_le k (pb_WJ x m n0 Q (pc + 1))) : pb_le (pb_alen a k) (pb_WJ x m n0 Q pc) := by
  intro L S n σ h p e R Z s mm args below meth c H locs cells slots ls hR hZ hC hI hl hS hL h1 h2
  unfold pb_alen at h
  split at h
  · rename_i q S'
    obtain ⟨⟨g0, g1, g2⟩, h⟩ := h
    obtain ⟨j, rfl⟩ := Int.eq_ofNat_of_zero_le g0
    have hn9 := hI.2.2.2.1.2.1
    have hj : j < n := by omega
    obtain ⟨-, hS'⟩ := List.forall_mem_cons.mp hS
    have hw := hk L _ n σ h p e R Z s mm args below meth c H locs cells slots ls hR hZ hC hI hl (List.forall_mem_cons.mpr ⟨(hln _).1, hS'⟩) hL h1 h2
    rw [List.map_cons, pb_e_pos (by omega)]
    rw [List.map_cons] at hw
    have hv : Int32.ofNat (pb_ln j).toNat = Int32.ofInt (pb_ln j) := by
      rw [← Int32.ofInt_eq_ofNat, Int.toNat_of_nonneg (hln _).2]
    by_cases h3 : a < 102
    · exact va_alen hC.1 hC.2.1 hI.1 hI.2.1 j (a - 100) ((pb_ws_at hj).trans (by rw [pb_cell_int g2 ha h3])) (ht _) hv hd hw
    · exact va_alen hC.1 hC.2.1 hI.1 hI.2.1 j (a - 100) ((pb_ws_at hj).trans (by rw [pb_cell_ref g2 (by omega)])) (ht _) hv hd hw
  · exact h.elim
theorem pb_ix {i : Int} {q : Nat} (hi : pb_R i) (h : 0 ≤ i ∧ i < pb_ln q) : vp_in (Int32.ofInt i) (pb_ln q).toNat := pb_inI hi h.1 (by omega)
theorem pb_s_iald (hd : decode (pb_code m) pc = .ok (.iaload, 1)) (hk : pb_le k (pb_WJ x m n0 Q (pc + 1))) : pb_le (pb_ald 100 k) (pb_WJ x m n0 Q pc) := by
  intro L S n σ h p e R Z s mm args below meth c H locs cells slots ls hR hZ hC hI hl hS hL h1 h2
  unfold pb_ald at h
  split at h
  · rename_i i q S'
    obtain ⟨⟨g0, g1, g2⟩, hb, h⟩ := h
    obtain ⟨j, rfl⟩ := Int.eq_ofNat_of_zero_le g0
    have hn9 := hI.2.2.2.1.2.1
    have hj : j < n := by omega
    obtain ⟨hi, hS'⟩ := List.forall_mem_cons.mp hS
    obtain ⟨-, hS'⟩ := List.forall_mem_cons.mp hS'
    have hw := hk L _ n σ h p e R Z s mm args below meth c H locs cells slots ls hR hZ hC hI hl (List.forall_mem_cons.mpr ⟨hI.2.2.2.2 _ _ _, hS'⟩) hL h1 h2
    rw [List.map_cons, List.map_cons, pb_e_pos (by omega)]
    refine va_iald hC.1 hC.2.1 hI.1 hI.2.1 j 0 ((pb_ws_at hj).trans (by rw [pb_cell_int g2 (by omega) (by omega)])) rfl (pb_ix hi hb) hd ?_
    rw [pb_clN hi, Int.toNat_of_nonneg hb.1]
    exact hw
  · exact h.elim
theorem pb_s_zald (hd : decode (pb_code m) pc = .ok (.baload, 1)) (hk : pb_le k (pb_WJ x m n0 Q (pc + 1))) : pb_le (pb_ald 101 k) (pb_WJ x m n0 Q pc) := by
  intro L S n σ h p e R Z s mm args below meth c H locs cells slots ls hR hZ hC hI hl hS hL h1 h2
  unfold pb_ald at h
  split at h
  · rename_i i q S'
    obtain ⟨⟨g0, g1, g2⟩, hb, h⟩ := h
    obtain ⟨j, rfl⟩ := Int.eq_ofNat_of_zero_le g0
    have hn9 := hI.2.2.2.1.2.1
    have hj : j < n := by omega
    obtain ⟨hi, hS'⟩ := List.forall_mem_cons.mp hS
    obtain ⟨-, hS'⟩ := List.forall_mem_cons.mp hS'
    have hw := hk L _ n σ h p e R Z s mm args below meth c H locs cells slots ls hR hZ hC hI hl (List.forall_mem_cons.mpr ⟨hI.2.2.2.2 _ _ _, hS'⟩) hL h1 h2
    rw [List.map_cons, List.map_cons, pb_e_pos (by omega)]
    refine va_zald hC.1 hC.2.1 hI.1 hI.2.1 j 1 ((pb_ws_at hj).trans (by rw [pb_cell_int g2 (by omega) (by omega)])) rfl (pb_ix hi hb) hd ?_
    rw [pb_clN hi, Int.toNat_of_nonneg hb.1]
    exact hw
  · exact h.elim
theorem pb_s_aald {a : Nat} {C : String} (hd : decode (pb_code m) pc = .ok (.aaload, 1)) (ha : 102 ≤ a) (ht : ∀ dA : Nat → ClassId, (pb_tys dA)[a - 100]? = some (dA (a - 100), .object C)) (hk : pb_le k (pb_WJ x m n0 Q (pc + 1))) : pb_le (pb_aldR a k) (pb_WJ x m n0 Q pc) := by
  intro L S n σ h p e R Z s mm args below meth c H locs cells slots ls hR hZ hC hI hl hS hL h1 h2
  unfold pb_aldR at h
  split at h
  · rename_i i q S'
    obtain ⟨⟨g0, g1, g2⟩, hb, h⟩ := h
    obtain ⟨j, rfl⟩ := Int.eq_ofNat_of_zero_le g0
    have hn9 := hI.2.2.2.1.2.1
    have hj : j < n := by omega
    obtain ⟨hi, hS'⟩ := List.forall_mem_cons.mp hS
    obtain ⟨-, hS'⟩ := List.forall_mem_cons.mp hS'
    have hw := hk L _ n σ h p e R Z s mm args below meth c H locs cells slots ls hR hZ hC hI hl (List.forall_mem_cons.mpr ⟨hI.2.2.2.2 _ _ _, hS'⟩) hL h1 h2
    rw [List.map_cons, List.map_cons, pb_e_pos (by omega)]
    refine va_aldq hC.1 hC.2.1 hI.1 hI.2.1 j (a - 100) ((pb_ws_at hj).trans (by rw [pb_cell_ref g2 ha])) (ht _) (pb_ix hi hb) hd ?_
    rw [pb_clN hi, Int.toNat_of_nonneg hb.1, ← pb_e_rf]
    exact hw
  · exact h.elim
theorem pb_s_iast (hd : decode (pb_code m) pc = .ok (.iastore, 1)) (hk : pb_le k (pb_WJ x m n0 Q (pc + 1))) : pb_le (pb_ast 100 k) (pb_WJ x m n0 Q pc) := by
  intro L S n σ h p e R Z s mm args below meth c H locs cells slots ls hR hZ hC hI hl hS hL h1 h2
  unfold pb_ast at h
  split at h
  · rename_i v i q S'
    obtain ⟨⟨g0, g1, g2⟩, hb, h⟩ := h
    obtain ⟨j, rfl⟩ := Int.eq_ofNat_of_zero_le g0
    have hn9 := hI.2.2.2.1.2.1
    have hj : j < n := by omega
    obtain ⟨hv, hS'⟩ := List.forall_mem_cons.mp hS
    obtain ⟨hi, hS'⟩ := List.forall_mem_cons.mp hS'
    obtain ⟨-, hS'⟩ := List.forall_mem_cons.mp hS'
    rw [List.map_cons, List.map_cons, List.map_cons, pb_e_pos (by omega)]
    refine va_iast hC.1 hC.2.1 hI.1 hI.2.1 pb_D hI.2.2.1 j 0 ((pb_ws_at hj).trans (by rw [pb_cell_int g2 (by omega) (by omega)])) rfl (pb_ix hi hb) hd (fun H1 locs1 hP1 _ hS1 => ?_)
    rw [pb_clN hi, pb_ws_set hj (fun i2 hi2 => pb_cell_other (by omega)) rfl (pb_cell_putA g2 (by omega) (by omega) hb.1).symm] at hP1
    exact hk L _ n _ h p e R Z s mm args below meth c H1 locs1 cells slots ls hR hZ hC ⟨hI.1, hP1, hS1, hI.2.2.2.1, pb_upR hI.2.2.2.2 hv _ _ _⟩ hl hS' hL h1 h2
  · exact h.elim
theorem pb_s_zast (hd : decode (pb_code m) pc = .ok (.bastore, 1)) (hk : pb_le k (pb_WJ x m n0 Q (pc + 1))) : pb_le (pb_astZ 101 k) (pb_WJ x m n0 Q pc) := by
  intro L S n σ h p e R Z s mm args below meth c H locs cells slots ls hR hZ hC hI hl hS hL h1 h2
  unfold pb_astZ at h
  split at h
  · rename_i v i q S'
    obtain ⟨⟨g0, g1, g2⟩, hb, h01, h⟩ := h
    obtain ⟨j, rfl⟩ := Int.eq_ofNat_of_zero_le g0
    have hn9 := hI.2.2.2.1.2.1
    have hj : j < n := by omega
    obtain ⟨hv, hS'⟩ := List.forall_mem_cons.mp hS
    obtain ⟨hi, hS'⟩ := List.forall_mem_cons.mp hS'
    obtain ⟨-, hS'⟩ := List.forall_mem_cons.mp hS'
    rw [List.map_cons, List.map_cons, List.map_cons, pb_e_pos (by omega)]
    have hnar : vp_nar .boolean (Int32.ofInt v) = Int32.ofInt v := by rcases h01 with rfl | rfl <;> rfl
    refine va_zast hC.1 hC.2.1 hI.1 hI.2.1 pb_D hI.2.2.1 j 1 ((pb_ws_at hj).trans (by rw [pb_cell_int g2 (by omega) (by omega)])) rfl (pb_ix hi hb) hd (fun H1 locs1 hP1 _ hS1 => ?_)
    rw [hnar, pb_clN hi, pb_ws_set hj (fun i2 hi2 => pb_cell_other (by omega)) rfl (pb_cell_putA g2 (by omega) (by omega) hb.1).symm] at hP1
    exact hk L _ n _ h p e R Z s mm args below meth c H1 locs1 cells slots ls hR hZ hC ⟨hI.1, hP1, hS1, hI.2.2.2.1, pb_upR hI.2.2.2.2 hv _ _ _⟩ hl hS' hL h1 h2
  · exact h.elim
theorem pb_s_aast {a ci : Nat} {r : vw_C} (hd : decode (pb_code m) pc = .ok (.aastore, 1)) (ha : 102 ≤ a) (ht : ∀ dA : Nat → ClassId, (pb_tys dA)[a - 100]? = some (dA (a - 100), .object r.1)) (hc : pb_cl[ci]? = some r) (hci : ci < 100) (hk : pb_le k (pb_WJ x m n0 Q (pc + 1))) : pb_le (pb_astR a ci k) (pb_WJ x m n0 Q pc) := by
  intro L S n σ h p e R Z s mm args below meth c H locs cells slots ls hR hZ hC hI hl hS hL h1 h2
  unfold pb_astR at h
  split at h
  · rename_i v i q S'
    obtain ⟨⟨g0, g1, g2⟩, hb, ⟨e0, e1, e2⟩, h⟩ := h
    obtain ⟨j, rfl⟩ := Int.eq_ofNat_of_zero_le g0
    obtain ⟨w, rfl⟩ := Int.eq_ofNat_of_zero_le e0
    have hn9 := hI.2.2.2.1.2.1
    have hj : j < n := by omega
    have hw : w < n := by omega
    obtain ⟨hv, hS'⟩ := List.forall_mem_cons.mp hS
    obtain ⟨hi, hS'⟩ := List.forall_mem_cons.mp hS'
    obtain ⟨-, hS'⟩ := List.forall_mem_cons.mp hS'
    rw [List.map_cons, List.map_cons, List.map_cons, pb_e_pos (j := j) (by omega), pb_e_pos (j := w) (by omega)]
    refine va_astq hC.1 hC.2.1 hI.1 hI.2.1 pb_D hI.2.2.1 j (a - 100) w ci ((pb_ws_at hj).trans (by rw [pb_cell_ref g2 ha])) (ht _) ((pb_ws_at hw).trans (by rw [pb_cell_obj e2 hci])) hc (pb_ix hi hb) hd (fun H1 locs1 hP1 _ hS1 => ?_)
    rw [pb_clN hi, pb_ws_set (σ' := pb_up σ 0 j i w) hj (fun i2 hi2 => pb_cell_other (by omega)) rfl (by rw [pb_cell_putQ g2 ha hb.1 (by omega) (by omega), Int.toNat_natCast])] at hP1
    exact hk L _ n _ h p e R Z s mm args below meth c H1 locs1 cells slots ls hR hZ hC ⟨hI.1, hP1, hS1, hI.2.2.2.1, pb_upR hI.2.2.2.2 hv _ _ _⟩ hl hS' hL h1 h2
  · exact h.elim
end PBA
/-! answers -/
section PBR
variable {x : pb_E} {m n0 : Nat} {Q : pb_P} {pc : Nat}
theorem pb_s_vretN {lim : Nat} (hd : decode (pb_code m) pc = .ok (.return_, 1)) (hr : pb_rt m = none) (hlim : lim = n0 + pb_mc m) : pb_le (pb_vretN lim Q) (pb_WJ x m n0 Q pc) := by
  intro L S n σ h p e R Z s mm args below meth c H locs cells slots ls hR hZ hC hI hl hS hL h1 h2
  unfold pb_vretN at h
  split at h
  · have hc : cells = pb_mc m := by omega
    subst hc
    subst h2
    obtain rfl : n = n0 + pb_mc m := h1.1
    have hw := hZ pc ls (.inl 0) σ H locs _ hd (Or.inl ⟨hr, rfl⟩) h.2 (by unfold pb_vR pb_R; omega) hI
    rw [show pb_vd m = true by unfold pb_vd; rw [hr]; rfl] at hw
    exact hw
  · exact h.elim
theorem pb_s_vret (hd : decode (pb_code m) pc = .ok (.return_, 1)) (hr : pb_rt m = none) (hmc : pb_mc m = 0) : pb_le (pb_vret Q) (pb_WJ x m n0 Q pc) := by
  intro L S n σ h p e R Z s mm args below meth c H locs cells slots ls hR hZ hC hI hl hS hL h1 h2
  unfold pb_vret at h
  split at h
  · have hc : cells = pb_mc m := by omega
    subst hc
    subst h2
    obtain rfl : n = n0 + pb_mc m := h1.1
    have hw := hZ pc ls (.inl 0) σ H locs _ hd (Or.inl ⟨hr, rfl⟩) h (by unfold pb_vR pb_R; omega) hI
    rw [show pb_vd m = true by unfold pb_vd; rw [hr]; rfl] at hw
    exact hw
  · exact h.elim
theorem pb_s_iret (hd : decode (pb_code m) pc = .ok (.ireturn, 1)) (hr : pb_rt m = some .int) (hmc : pb_mc m = 0) : pb_le (pb_iret Q) (pb_WJ x m n0 Q pc) := by
  intro L S n σ h p e R Z s mm args below meth c H locs cells slots ls hR hZ hC hI hl hS hL h1 h2
  unfold pb_iret at h
  split at h
  · have hc : cells = pb_mc m := by omega
    subst hc
    subst h2
    obtain rfl : n = n0 + pb_mc m := h1.1
    obtain ⟨hv, -⟩ := List.forall_mem_cons.mp hS
    have hw := hZ pc ls _ σ H locs _ hd (Or.inr (Or.inl ⟨hr, rfl, _, rfl⟩)) h hv hI
    rw [show pb_vd m = false by unfold pb_vd; rw [hr]; rfl] at hw
    exact hw
  · exact h.elim
theorem pb_s_zret (hd : decode (pb_code m) pc = .ok (.ireturn, 1)) (hr : pb_rt m = some .boolean) (hmc : pb_mc m = 0) : pb_le (pb_zret Q) (pb_WJ x m n0 Q pc) := by
  intro L S n σ h p e R Z s mm args below meth c H locs cells slots ls hR hZ hC hI hl hS hL h1 h2
  unfold pb_zret at h
  split at h
  · have hc : cells = pb_mc m := by omega
    subst hc
    subst h2
    obtain rfl : n = n0 + pb_mc m := h1.1
    obtain ⟨hv, -⟩ := List.forall_mem_cons.mp hS
    have hw := hZ pc ls _ σ H locs _ hd (Or.inr (Or.inr (Or.inl ⟨hr, rfl, h.1.imp (congrArg _) (congrArg _)⟩))) h.2 hv hI
    rw [show pb_vd m = false by unfold pb_vd; rw [hr]; rfl] at hw
    exact hw
  · exact h.elim
theorem pb_s_zretN {lim : Nat} (hd : decode (pb_code m) pc = .ok (.ireturn, 1)) (hr : pb_rt m = some .boolean) (hlim : lim = n0 + pb_mc m) : pb_le (pb_zretN lim Q) (pb_WJ x m n0 Q pc) := by
  intro L S n σ h p e R Z s mm args below meth c H locs cells slots ls hR hZ hC hI hl hS hL h1 h2
  unfold pb_zretN at h
  split at h
  · have hc : cells = pb_mc m := by omega
    subst hc
    subst h2
    obtain rfl : n = n0 + pb_mc m := h1.1
    obtain ⟨hv, -⟩ := List.forall_mem_cons.mp hS
    have hw := hZ pc ls _ σ H locs _ hd (Or.inr (Or.inr (Or.inl ⟨hr, rfl, h.2.1.imp (congrArg _) (congrArg _)⟩))) h.2.2 hv hI
    rw [show pb_vd m = false by unfold pb_vd; rw [hr]; rfl] at hw
    exact hw
  · exact h.elim
theorem pb_s_aret {C : String} (hd : decode (pb_code m) pc = .ok (.areturn, 1)) (hr : pb_rt m = some (.object C)) (hmc : pb_mc m = 0) : pb_le (pb_aret Q) (pb_WJ x m n0 Q pc) := by
  intro L S n σ h p e R Z s mm args below meth c H locs cells slots ls hR hZ hC hI hl hS hL h1 h2
  unfold pb_aret at h
  split at h
  · have hc : cells = pb_mc m := by omega
    subst hc
    subst h2
    obtain rfl : n = n0 + pb_mc m := h1.1
    obtain ⟨hv, -⟩ := List.forall_mem_cons.mp hS
    have hw := hZ pc ls _ σ H locs _ hd (Or.inr (Or.inr (Or.inr ⟨_, _, hr, rfl, rfl⟩))) h hv hI
    rw [show pb_vd m = false by unfold pb_vd; rw [hr]; rfl] at hw
    exact hw
  · exact h.elim
end PBR
/-! switches -/
section PBS
variable {x : pb_E} {m n0 : Nat} {Q : pb_P} {pc : Nat}
theorem pb_sw_spec : ∀ (r : List (Int × pb_K)) {d : pb_K} {L : pb_L} {S : List pb_V} {n : Nat} {σ : pb_H} {y : Int}, pb_sw r d L S n σ y → (∃ (i : Nat) (a : Int) (k : pb_K), r[i]? = some (a, k) ∧ y = a ∧ k L S n σ) ∨ ((∀ (i : Nat) (a : Int) (k : pb_K), r[i]? = some (a, k) → ¬ y = a) ∧ d L S n σ)
  | [], d, L, S, n, σ, y, h => Or.inr ⟨fun i a k h => by simp at h, h⟩
  | (a, k) :: r, d, L, S, n, σ, y, h => by
    obtain ⟨g1, g2⟩ := h
    by_cases hy : y = a
    · exact Or.inl ⟨0, a, k, rfl, hy, g1 hy⟩
    · rcases pb_sw_spec r (g2 hy) with ⟨i, a', k', h1, h2, h3⟩ | ⟨h1, h2⟩
      · exact Or.inl ⟨i + 1, a', k', h1, h2, h3⟩
      · refine Or.inr ⟨fun i a' k' h => ?_, h2⟩
        cases i with
        | zero => cases h; exact hy
        | succ i => exact h1 i a' k' h
theorem pb_s_table {r : List (Int × pb_K)} {d : pb_K} {dflt lo hi : Int} {offs : Array Int} {len td : Nat} (hd : decode (pb_code m) pc = .ok (.tableswitch dflt lo hi offs, len)) (htd : (pc : Int) + dflt = (td : Int)) (hkd : pb_le d (pb_WJ x m n0 Q td))
    (hr : ∀ (i : Nat) (a : Int) (k : pb_K), r[i]? = some (a, k) → lo ≤ a ∧ a ≤ hi ∧ ∃ (off : Int) (tgt : Nat), offs[(a - lo).toNat]? = some off ∧ (pc : Int) + off = (tgt : Int) ∧ pb_le k (pb_WJ x m n0 Q tgt)) (hall : ∀ y : Int, lo ≤ y → y ≤ hi → ∃ (i : Nat) (k : pb_K), r[i]? = some (y, k)) : pb_le (pb_switch r d) (pb_WJ x m n0 Q pc) := by
  intro L S n σ h p e R Z s mm args below meth c H locs cells slots ls hR hZ hC hI hl hS hL h1 h2
  unfold pb_switch at h
  split at h
  · rename_i y S'
    obtain ⟨hy, hS'⟩ := List.forall_mem_cons.mp hS
    have hyi : (Int32.ofInt y).toInt = y := pb_w_id hy
    rcases pb_sw_spec r h with ⟨i, a, k, g1, rfl, g3⟩ | ⟨g1, g2⟩
    · obtain ⟨b1, b2, off, tgt, b3, b4, b5⟩ := hr i y k g1
      exact lv_tableIn hC.1 hC.2.1 hd (by rw [hyi]; omega) (by rw [hyi]; omega) (by rw [hyi]; exact b3) b4 (b5 L _ n σ g3 p e R Z s mm args below meth c H locs cells slots ls hR hZ hC hI hl hS' hL h1 h2)
    · refine lv_tableOut hC.1 hC.2.1 hd ?_ htd (hkd L _ n σ g2 p e R Z s mm args below meth c H locs cells slots ls hR hZ hC hI hl hS' hL h1 h2)
      rw [hyi]
      by_cases q1 : y < lo
      · exact Or.inl q1
      · by_cases q2 : hi < y
        · exact Or.inr q2
        · obtain ⟨i, k, hik⟩ := hall y (by omega) (by omega)
          exact absurd rfl (g1 i y k hik)
  · exact h.elim
end PBS
