/-! the script, new cells -/
section PBN
variable {x : pb_E} {m n0 : Nat} {Q : pb_P} {pc : Nat} {k : pb_K}
theorem pb_e_scr (x : pb_E) : pb_e x (.inr 1000000) = .ref x.2.2.2.2.1 := by
  rw [pb_e_ref (by omega)]
  unfold pb_ad
  rw [if_pos rfl]
theorem pb_s_sld (hd : decode (pb_code m) pc = .ok (.iaload, 1)) (hk : pb_le k (pb_WJ x m n0 Q (pc + 1))) : pb_le (pb_sld x k) (pb_WJ x m n0 Q pc) := by
  intro L S n σ h p e R Z s mm args below meth c H locs cells slots ls hR hZ hC hI hl hS hL h1 h2
  unfold pb_sld at h
  split at h
  · rename_i i q S'
    obtain ⟨rfl, hb, h⟩ := h
    obtain ⟨hi, hS'⟩ := List.forall_mem_cons.mp hS
    obtain ⟨-, hS'⟩ := List.forall_mem_cons.mp hS'
    have hw := hk L _ n σ h p e R Z s mm args below meth c H locs cells slots ls hR hZ hC hI hl (List.forall_mem_cons.mpr ⟨pb_tR _, hS'⟩) hL h1 h2
    have hX := hI.2.2.2.1
    rw [List.map_cons, List.map_cons, pb_e_scr]
    refine va_sld hC.1 hC.2.1 hX.2.2.1 (Nat.lt_of_lt_of_le hX.2.2.2.1 hX.1) (fun h9 => absurd hX.2.2.2.1 (Nat.not_lt.mpr h9)) hI.2.2.1 (pb_inI hi hb.1 (by omega)) hd ?_
    rw [pb_clN hi]
    rw [List.map_cons, pb_e, Int32.ofInt_toInt] at hw
    exact hw
  · exact h.elim
theorem pb_s_slen (hd : decode (pb_code m) pc = .ok (.arraylength, 1)) (hk : pb_le k (pb_WJ x m n0 Q (pc + 1))) : pb_le (pb_slen x k) (pb_WJ x m n0 Q pc) := by
  intro L S n σ h p e R Z s mm args below meth c H locs cells slots ls hR hZ hC hI hl hS hL h1 h2
  unfold pb_slen at h
  split at h
  · rename_i q S'
    obtain ⟨rfl, hb, h⟩ := h
    obtain ⟨-, hS'⟩ := List.forall_mem_cons.mp hS
    have hw := hk L _ n σ h p e R Z s mm args below meth c H locs cells slots ls hR hZ hC hI hl (List.forall_mem_cons.mpr ⟨(by unfold pb_vR pb_R; omega), hS'⟩) hL h1 h2
    have hX := hI.2.2.2.1
    rw [List.map_cons, pb_e_scr]
    refine va_slen hC.1 hC.2.1 hX.2.2.1 (Nat.lt_of_lt_of_le hX.2.2.2.1 hX.1) (fun h9 => absurd hX.2.2.2.1 (Nat.not_lt.mpr h9)) hI.2.2.1 hd ?_
    rw [List.map_cons, pb_e, Int32.ofInt_eq_ofNat] at hw
    exact hw
  · exact h.elim
theorem pb_fr {p : Program} {e : Env} {R : Room} {s : State} {mm : MethodId} {args : Array Value} {below : List Frame} {meth : Method} {c : Code} {H1 : Heap} {locs : List Loc} {cells slots : Nat} {Qs : State → Prop} {g : JFrame} {n q : Nat} {σ : pb_H} {E : va_E} (hP1 : va_P x.2.1 pb_cl (pb_ws x n σ ++ [(q, E)]) H1) (hD1 : va_D (fun q => x.2.2.2.1 ≤ q) (pb_ws x n σ ++ [(q, E)])) (hn : n = n0 + cells) (hs : s.heap.size = x.2.2.2.1 + n0)
    (kk : q = x.2.2.2.1 + n → W p x.1 e R s mm args below meth c H1 locs (cells + 1) slots Qs g) : W p x.1 e R s mm args below meth c H1 locs (cells + 1) slots Qs g := by
  intro T hT X
  have h1 := X.heapSize
  rw [hT] at h1
  have hlen : (pb_ws x n σ).length = n := by simp [pb_ws]
  have hget : (pb_ws x n σ ++ [(q, E)])[n]? = some (q, E) := by
    rw [List.getElem?_append_right (by omega), hlen, Nat.sub_self]
    rfl
  have h2 := (hP1 n _ hget).lt
  have h3 := hD1.2 n _ hget
  dsimp only at h2 h3
  refine kk ?_ T hT X
  by_cases h4 : q < x.2.2.2.1 + n
  · exfalso
    have hi : q - x.2.2.2.1 < n := by omega
    have hg2 : (pb_ws x n σ ++ [(q, E)])[q - x.2.2.2.1]? = some (x.2.2.2.1 + (q - x.2.2.2.1), pb_cell x σ (q - x.2.2.2.1)) := by
      rw [List.getElem?_append_left (by omega)]
      exact pb_ws_at hi
    have := hD1.1 (q - x.2.2.2.1) n _ _ hg2 hget (by dsimp only; omega)
    omega
  · omega
theorem pb_grow {n : Nat} {σ : pb_H} {d : Nat → Int} {E : va_E} {H1 : Heap} (hP1 : va_P x.2.1 pb_cl (pb_ws x n σ ++ [(x.2.2.2.1 + n, E)]) H1) (hE : E = pb_cell x (pb_clr σ n d) n) : va_P x.2.1 pb_cl (pb_ws x (n + 1) (pb_clr σ n d)) H1 := by
  have hlen : (pb_ws x n σ).length = n := by simp [pb_ws]
  intro k q hk
  obtain ⟨hl, rfl⟩ := pb_ws_in hk
  by_cases h : k = n
  · subst h
    rw [← hE]
    refine hP1 k _ ?_
    rw [List.getElem?_append_right (by omega), hlen, Nat.sub_self]
    rfl
  · rw [pb_cell_clr h]
    refine hP1 k _ ?_
    rw [List.getElem?_append_left (by omega)]
    exact pb_ws_at (by omega)
theorem pb_clrR {n : Nat} {σ : pb_H} {d : Nat → Int} (hR : ∀ f p i, pb_R (σ f p i)) (hd : ∀ f, pb_R (d f)) : ∀ f p i, pb_R (pb_clr σ n d f p i) := by
  intro f p i
  unfold pb_clr
  split
  · exact hd f
  · exact hR f p i
theorem pb_s_new {lim ci idx : Nat} {C : String} {T : u_T} {ty0 : Nat → FieldType} (hd : decode (pb_code m) pc = .ok (.new idx, 3)) (hc : pb_cl[ci]? = some (C, T, pb_N ci)) (hin : ∀ w ∈ u_ws C T (pb_N ci), w ∈ pb_ALL) (hty : ∀ k, k < pb_N ci → parseFieldDescriptor (T k).2.2.1 = some (ty0 k)) (hci : ci < 100) (hN : pb_N ci ≤ 64) (hdR : ∀ f, pb_R (pb_df f))
    (hdf : ∀ k, k < pb_N ci → (pb_ft ci k = 2 ∧ defaultValue (ty0 k) = .null ∧ pb_df (1 + 100 * ci + k) = -1) ∨ (¬ pb_ft ci k = 2 ∧ defaultValue (ty0 k) = .int 0 ∧ pb_df (1 + 100 * ci + k) = 0)) (h1c : Cond.classLink (pb_y m).cls idx C ∈ pb_ALL) (h2c : Cond.instantiable C (pb_N ci) ∈ pb_ALL) (h3c : Cond.initialized C ∈ pb_ALL) (hlim : lim = n0 + pb_mc m) (hk : pb_le k (pb_WJ x m n0 Q (pc + 3))) : pb_le (pb_new lim ci k) (pb_WJ x m n0 Q pc) := by
  intro L S n σ h p e R Z s mm args below meth c H locs cells slots ls hR hZ hC hI hl hS hL h1 h2
  obtain ⟨e1, e2, e3, h⟩ := h
  have hts := hC.2.2.2.2.1
  refine va_new (ci := ci) (fs := (List.range (pb_N ci)).map (fun k => pb_c x (pb_ft ci k) (pb_clr σ n pb_df (1 + 100 * ci + k) n 0))) hC.1 hC.2.1 hts hin ty0 hty hC.2.2.2.1 (hts _ h1c) (hts _ h2c) (hts _ h3c) hI.1 hI.2.1 pb_D hI.2.2.1 (fun q hq => Nat.le_trans hI.2.2.2.1.1 hq) hc ?_ ?_ ?_ hd (fun q H1 hP1 hD1 hS1 => ?_)
  · intro j hj
    unfold vp_V
    rw [List.getD_eq_getElem?_getD, List.getElem?_map, List.getElem?_range hj]
    simp only [Option.map_some, Option.getD_some, pb_clr, if_true]
    unfold pb_c
    rcases hdf j hj with ⟨g1, g2, g3⟩ | ⟨g1, g2, g3⟩
    · rw [if_pos g1, g2, g3, pb_e_neg (by omega)]
    · rw [if_neg g1, g2, g3]
      rfl
  · have := hR.2.1
    omega
  · have := hR.2.2.1
    omega
  · refine pb_fr hP1 hD1 h1.1 h1.2.1 (fun hq => ?_)
    subst hq
    refine W.widen (k := cells + 1) (n := 64 * (cells + 1)) (Nat.le_refl _) (by omega) ?_
    have hw := hk L _ (n + 1) _ h p e R Z s mm args below meth c H1 locs (cells + 1) (64 * (cells + 1)) ls hR hZ hC ⟨hI.1, pb_grow hP1 (by rw [pb_cell_obj e1 hci]), hS1, ⟨hI.2.2.2.1.1, by omega, hI.2.2.2.1.2.2⟩, pb_clrR hI.2.2.2.2 hdR⟩ hl (List.forall_mem_cons.mpr ⟨(by unfold pb_vR pb_R; omega), hS⟩) hL ⟨by omega, h1.2.1, by omega⟩ rfl
    rw [List.map_cons, pb_e_pos (by omega)] at hw
    exact hw
theorem pb_s_newI {lim : Nat} (hd : decode (pb_code m) pc = .ok (.newarray .int, 2)) (harr : Cond.arrayClass .int ∈ pb_ALL) (hlim : lim = n0 + pb_mc m) (hk : pb_le k (pb_WJ x m n0 Q (pc + 2))) : pb_le (pb_newa lim 100 0 k) (pb_WJ x m n0 Q pc) := by
  intro L S n σ h p e R Z s mm args below meth c H locs cells slots ls hR hZ hC hI hl hS hL h1 h2
  unfold pb_newa at h
  split at h
  · rename_i z S'
    obtain ⟨e1, e2, ⟨e3, e4⟩, e5, e6, h⟩ := h
    have hts := hC.2.2.2.2.1
    obtain ⟨hz, hS'⟩ := List.forall_mem_cons.mp hS
    rw [List.map_cons]
    refine va_newa (a0 := (z.toNat, .inl (fun _ => 0))) hC.1 hC.2.1 (atype := .int) (hts _ harr) (ty := .int) rfl hI.1 hI.2.1 pb_D hI.2.2.1 (fun q hq => Nat.le_trans hI.2.2.2.1.1 hq) (fun _ => rfl) (n := Int32.ofInt z) (by rw [pb_lt0 hz]; omega) (pb_clN hz) ?_ ?_ ?_ hd (fun q cA H1 hK1 hP1 hD1 hS1 => ?_)
    · show z.toNat * 4 ≤ 536870912
      omega
    · have := hR.2.1
      omega
    · have := hR.2.2.1
      omega
    · have hcA : cA = x.2.2.1 0 := by
        have g1 : s.vm.findClass _ = some cA := (hK1.2 (pb_tys x.2.2.1).length (cA, .int) (by rw [List.getElem?_append_right (Nat.le_refl _), Nat.sub_self]; rfl)).2
        have g2 : s.vm.findClass _ = some (x.2.2.1 0) := (hI.1.2 0 (x.2.2.1 0, .int) rfl).2
        exact Option.some.inj (g1.symm.trans g2)
      subst hcA
      refine pb_fr hP1 hD1 h1.1 h1.2.1 (fun hq => ?_)
      subst hq
      refine W.widen (k := cells + 1) (n := 64 * (cells + 1)) (Nat.le_refl _) (by omega) ?_
      have hw := hk L _ (n + 1) _ h p e R Z s mm args below meth c H1 locs (cells + 1) (64 * (cells + 1)) ls hR hZ hC ⟨hI.1, pb_grow (d := fun _ => 0) hP1 (by rw [pb_cell_int e1 (by omega) (by omega), e2]; congr 4; funext j; simp only [pb_clr, if_true]; rfl), hS1, ⟨hI.2.2.2.1.1, by omega, hI.2.2.2.1.2.2⟩, pb_clrR hI.2.2.2.2 (fun _ => pb_R0)⟩ hl (List.forall_mem_cons.mpr ⟨(by unfold pb_vR pb_R; omega), hS'⟩) hL ⟨by omega, h1.2.1, by omega⟩ rfl
      rw [List.map_cons, pb_e_pos (by omega)] at hw
      exact hw
  · exact h.elim
theorem pb_s_newZ {lim : Nat} (hd : decode (pb_code m) pc = .ok (.newarray .boolean, 2)) (harr : Cond.arrayClass .boolean ∈ pb_ALL) (hlim : lim = n0 + pb_mc m) (hk : pb_le k (pb_WJ x m n0 Q (pc + 2))) : pb_le (pb_newa lim 101 0 k) (pb_WJ x m n0 Q pc) := by
  intro L S n σ h p e R Z s mm args below meth c H locs cells slots ls hR hZ hC hI hl hS hL h1 h2
  unfold pb_newa at h
  split at h
  · rename_i z S'
    obtain ⟨e1, e2, ⟨e3, e4⟩, e5, e6, h⟩ := h
    have hts := hC.2.2.2.2.1
    obtain ⟨hz, hS'⟩ := List.forall_mem_cons.mp hS
    rw [List.map_cons]
    refine va_newa (a0 := (z.toNat, .inl (fun _ => 0))) hC.1 hC.2.1 (atype := .boolean) (hts _ harr) (ty := .boolean) rfl hI.1 hI.2.1 pb_D hI.2.2.1 (fun q hq => Nat.le_trans hI.2.2.2.1.1 hq) (fun _ => rfl) (n := Int32.ofInt z) (by rw [pb_lt0 hz]; omega) (pb_clN hz) ?_ ?_ ?_ hd (fun q cA H1 hK1 hP1 hD1 hS1 => ?_)
    · show z.toNat * 1 ≤ 536870912
      omega
    · have := hR.2.1
      omega
    · have := hR.2.2.1
      omega
    · have hcA : cA = x.2.2.1 1 := by
        have g1 : s.vm.findClass _ = some cA := (hK1.2 (pb_tys x.2.2.1).length (cA, .boolean) (by rw [List.getElem?_append_right (Nat.le_refl _), Nat.sub_self]; rfl)).2
        have g2 : s.vm.findClass _ = some (x.2.2.1 1) := (hI.1.2 1 (x.2.2.1 1, .boolean) rfl).2
        exact Option.some.inj (g1.symm.trans g2)
      subst hcA
      refine pb_fr hP1 hD1 h1.1 h1.2.1 (fun hq => ?_)
      subst hq
      refine W.widen (k := cells + 1) (n := 64 * (cells + 1)) (Nat.le_refl _) (by omega) ?_
      have hw := hk L _ (n + 1) _ h p e R Z s mm args below meth c H1 locs (cells + 1) (64 * (cells + 1)) ls hR hZ hC ⟨hI.1, pb_grow (d := fun _ => 0) hP1 (by rw [pb_cell_int e1 (by omega) (by omega), e2]; congr 4; funext j; simp only [pb_clr, if_true]; rfl), hS1, ⟨hI.2.2.2.1.1, by omega, hI.2.2.2.1.2.2⟩, pb_clrR hI.2.2.2.2 (fun _ => pb_R0)⟩ hl (List.forall_mem_cons.mpr ⟨(by unfold pb_vR pb_R; omega), hS'⟩) hL ⟨by omega, h1.2.1, by omega⟩ rfl
      rw [List.map_cons, pb_e_pos (by omega)] at hw
      exact hw
  · exact h.elim
theorem pb_s_newR {lim a idx : Nat} {C : String} (hd : decode (pb_code m) pc = .ok (.anewarray idx, 3)) (ha : 102 ≤ a) (ht : ∀ dA : Nat → ClassId, (pb_tys dA)[a - 100]? = some (dA (a - 100), .object C)) (h1c : Cond.classLink (pb_y m).cls idx C ∈ pb_ALL) (h2c : C ∈ pb_aos) (hlim : lim = n0 + pb_mc m) (hk : pb_le k (pb_WJ x m n0 Q (pc + 3))) : pb_le (pb_newa lim a (-1) k) (pb_WJ x m n0 Q pc) := by
  intro L S n σ h p e R Z s mm args below meth c H locs cells slots ls hR hZ hC hI hl hS hL h1 h2
  unfold pb_newa at h
  split at h
  · rename_i z S'
    obtain ⟨e1, e2, ⟨e3, e4⟩, e5, e6, h⟩ := h
    have hts := hC.2.2.2.2.1
    obtain ⟨hz, hS'⟩ := List.forall_mem_cons.mp hS
    rw [List.map_cons]
    refine va_newq hC.1 hC.2.1 hC.2.2.2.1 (hts _ h1c) (hI.2.2.2.1.2.2.2.2.2 C h2c) hI.1 hI.2.1 pb_D hI.2.2.1 (fun q hq => Nat.le_trans hI.2.2.2.1.1 hq) (n := Int32.ofInt z) (N' := z.toNat) (by rw [pb_lt0 hz]; omega) (pb_clN hz) ?_ ?_ ?_ hd (fun q cA H1 hK1 hP1 hD1 hS1 => ?_)
    · omega
    · have := hR.2.1
      omega
    · have := hR.2.2.1
      omega
    · have hcA : cA = x.2.2.1 (a - 100) := by
        obtain ⟨_, _, _, _, _, g1⟩ := (hK1.2 (pb_tys x.2.2.1).length (cA, .object C) (by rw [List.getElem?_append_right (Nat.le_refl _), Nat.sub_self]; rfl)).2
        obtain ⟨_, _, _, _, _, g2⟩ := (hI.1.2 (a - 100) (x.2.2.1 (a - 100), .object C) (ht _)).2
        exact Option.some.inj (g1.symm.trans g2)
      subst hcA
      refine pb_fr hP1 hD1 h1.1 h1.2.1 (fun hq => ?_)
      subst hq
      refine W.widen (k := cells + 1) (n := 64 * (cells + 1)) (Nat.le_refl _) (by omega) ?_
      have hw := hk L _ (n + 1) _ h p e R Z s mm args below meth c H1 locs (cells + 1) (64 * (cells + 1)) ls hR hZ hC ⟨hI.1, pb_grow (d := fun _ => -1) hP1 (by rw [pb_cell_ref e1 (by omega), e2]; congr 7; funext j; simp only [pb_clr, if_true]; rfl), hS1, ⟨hI.2.2.2.1.1, by omega, hI.2.2.2.1.2.2⟩, pb_clrR hI.2.2.2.2 (fun _ => (by unfold pb_R; omega))⟩ hl (List.forall_mem_cons.mpr ⟨(by unfold pb_vR pb_R; omega), hS'⟩) hL ⟨by omega, h1.2.1, by omega⟩ rfl
      rw [List.map_cons, pb_e_pos (by omega)] at hw
      exact hw
  · exact h.elim
theorem pb_cats (S : List pb_V) : ((S.map (pb_e x)).map fun v => v.category).sum = S.length := by
  induction S with
  | nil => rfl
  | cons a S ih => simp only [List.map_cons, List.sum_cons, pb_e_cat, List.length_cons, ih]; omega
theorem pb_s_obj {idx : Nat} (hd : decode (pb_code m) pc = .ok (.invokespecial idx, 3)) (w1 : Cond.methodLink (pb_y m).cls idx objectInit ∈ pb_ALL) (w2 : Cond.instanceMethod objectInit ∈ pb_ALL) (w3 : Cond.code objectInit ⟨#[0xb1]⟩ 1 none ∈ pb_ALL) (hlo : 20 ≤ pb_lo m) (hk : pb_le k (pb_WJ x m n0 Q (pc + 3))) : pb_le (pb_obj k) (pb_WJ x m n0 Q pc) := by
  intro L S n σ h p e R Z s mm args below meth c H locs cells slots ls hR hZ hC hI hl hS hL h1 h2
  unfold pb_obj at h
  split at h
  · rename_i q S'
    obtain ⟨e1, e2, h⟩ := h
    have hts := hC.2.2.2.2.1
    obtain ⟨-, hS'⟩ := List.forall_mem_cons.mp hS
    rw [List.map_cons, pb_e_ref e1]
    refine W.objInit hC.1 hC.2.1 hC.2.2.2.1 (hts _ w1) (hts _ w2) (hts _ w3) rfl (by rw [hC.2.2.1]; exact hl.1) rfl hd ?_ ?_ ?_
    · have := hR.1
      omega
    · show 2 * 0 + _ + 12 ≤ R.locals
      rw [pb_cats]
      have := hR.2.2.2
      omega
    · exact hk L _ n σ h p e R Z s mm args below meth c H locs cells slots ls hR hZ hC hI hl hS' hL h1 h2
  · exact h.elim
end PBN
