/-! fields -/
def pb_fd (ci k f t : Nat) (cn fn ds : String) (fin : Bool) (ty : FieldType) : Prop :=
  ∃ (C : String) (T : u_T) (ty0 : Nat → FieldType), pb_cl[ci]? = some (C, T, pb_N ci) ∧ (∀ w ∈ u_ws C T (pb_N ci), w ∈ pb_ALL) ∧ (∀ k, k < pb_N ci → parseFieldDescriptor (T k).2.2.1 = some (ty0 k)) ∧ (∀ a, a < pb_N ci → ∀ b, b < pb_N ci → a ≠ b → (T a).2.1 ≠ (T b).2.1) ∧ T k = (cn, fn, ds, fin) ∧ k < pb_N ci ∧ ci < 100 ∧ pb_N ci ≤ 100 ∧ f = 1 + 100 * ci + k ∧ pb_ft ci k = t ∧ parseFieldDescriptor ds = some ty
section PBF
variable {x : pb_E} {m n0 : Nat} {Q : pb_P} {pc : Nat}
variable {p : Program} {e : Env} {R : Room} {s : State} {mm : MethodId} {args : Array Value} {below : List Frame} {meth : Method} {c : Code} {H : Heap} {locs : List Loc} {cells slots : Nat} {ls : Array Slot} {Qs : State → Prop}
variable {ci k0 f t idx n : Nat} {cn fn ds : String} {fin : Bool} {ty : FieldType} {σ : pb_H} {q z : Int} {rest : List Value}
theorem pb_getW (hC : pb_Cx p s mm args meth c m) (hI : pb_In x s H n σ locs) (hd : decode (pb_code m) pc = .ok (.getfield idx, 3)) (hF : pb_fd ci k0 f t cn fn ds fin ty) (hlink : Cond.fieldLink (pb_y m).cls idx cn fn ds ∈ pb_ALL) (hq : pb_is ci n q)
    (kk : W p x.1 e R s mm args below meth c H locs cells slots Qs (F0 mm (pc + 3) ls (pb_c x t (σ f q 0) :: rest))) : W p x.1 e R s mm args below meth c H locs cells slots Qs (F0 mm pc ls (pb_e x (.inr q) :: rest)) := by
  obtain ⟨g0, g1, g2⟩ := hq
  obtain ⟨j, rfl⟩ := Int.eq_ofNat_of_zero_le g0
  obtain ⟨C, T, ty0, a1, a2, a3, a4, a5, a6, a7, a8, rfl, rfl, a11⟩ := hF
  have hj : j < n := by omega
  have hn9 := hI.2.2.2.1.2.1
  rw [pb_e_pos (by omega)]
  have hts := hC.2.2.2.2.1
  refine va_get (ref := cn) hC.1 hC.2.1 hts a2 hC.2.2.2.1 hI.1 hI.2.1 j ((pb_ws_at hj).trans (by rw [pb_cell_obj g2 a7])) a1 k0 a6 (by rw [a5]; exact hts _ hlink) (fun _ h9 => by rw [a5] at h9 ⊢; exact h9) ?_ hd kk
  rw [List.getElem?_map, List.getElem?_range a6]
  rfl
theorem pb_upR (hR : ∀ f p i, pb_R (σ f p i)) (hz : pb_R z) (f : Nat) (q i : Int) : ∀ f' p' i', pb_R (pb_up σ f q i z f' p' i') := by
  intro f' p' i'
  unfold pb_up
  split
  · exact hz
  · exact hR _ _ _
theorem pb_putW (hC : pb_Cx p s mm args meth c m) (hI : pb_In x s H n σ locs) (hd : decode (pb_code m) pc = .ok (.putfield idx, 3)) (hF : pb_fd ci k0 f t cn fn ds fin ty) (hlink : Cond.fieldLink (pb_y m).cls idx cn fn ds ∈ pb_ALL) (hq : pb_is ci n q) (hz : pb_R z)
    (hfin : fin = false ∨ (fin = true ∧ (pb_y m).name = "<init>" ∧ cn = (pb_y m).cls)) (hn : narrow ty (pb_c x t z) = pb_c x t z) (hfit : fits ty (pb_c x t z) = true)
    (kk : ∀ (H1 : Heap) (locs1 : List Loc), pb_In x s H1 n (pb_up σ f q 0 z) locs1 → W p x.1 e R s mm args below meth c H1 locs1 cells slots Qs (F0 mm (pc + 3) ls rest)) : W p x.1 e R s mm args below meth c H locs cells slots Qs (F0 mm pc ls (pb_c x t z :: pb_e x (.inr q) :: rest)) := by
  obtain ⟨g0, g1, g2⟩ := hq
  obtain ⟨j, rfl⟩ := Int.eq_ofNat_of_zero_le g0
  obtain ⟨C, T, ty0, a1, a2, a3, a4, a5, a6, a7, a8, rfl, rfl, a11⟩ := hF
  have hj : j < n := by omega
  have hn9 := hI.2.2.2.1.2.1
  rw [pb_e_pos (by omega)]
  have hts := hC.2.2.2.2.1
  have hset : (pb_ws x n σ).set j (x.2.2.2.1 + j, .inr (ci, ((List.range (pb_N ci)).map (fun k => pb_c x (pb_ft ci k) (σ (1 + 100 * ci + k) j 0))).set k0 (pb_c x (pb_ft ci k0) z))) = pb_ws x n (pb_up σ (1 + 100 * ci + k0) j 0 z) :=
    pb_ws_set hj (fun i hi => pb_cell_other (by omega)) rfl (pb_cell_putF g2 a7 a6 a8).symm
  have go : ∀ (H1 : Heap) (locs1 : List Loc), va_P x.2.1 pb_cl ((pb_ws x n σ).set j (x.2.2.2.1 + j, .inr (ci, ((List.range (pb_N ci)).map (fun k => pb_c x (pb_ft ci k) (σ (1 + 100 * ci + k) j 0))).set k0 (pb_c x (pb_ft ci k0) z)))) H1 → va_S (fun q => x.2.2.2.1 ≤ q) s.heap H1 locs1 → W p x.1 e R s mm args below meth c H1 locs1 cells slots Qs (F0 mm (pc + 3) ls rest) := by
    intro H1 locs1 hP1 hS1
    rw [hset] at hP1
    exact kk H1 locs1 ⟨hI.1, hP1, hS1, hI.2.2.2.1, pb_upR hI.2.2.2.2 hz _ _ _⟩
  have hat : (pb_ws x n σ)[j]? = some (x.2.2.2.1 + j, .inr (ci, (List.range (pb_N ci)).map (fun k => pb_c x (pb_ft ci k) (σ (1 + 100 * ci + k) j 0)))) := (pb_ws_at hj).trans (by rw [pb_cell_obj g2 a7])
  rcases hfin with rfl | ⟨rfl, h3, h4⟩
  · exact va_put (ref := cn) hC.1 hC.2.1 hts a2 ty0 a3 a4 hC.2.2.2.1 hI.1 hI.2.1 pb_D hI.2.2.1 j hat a1 k0 a6 (by rw [a5]; exact hts _ hlink) (fun _ h9 => by rw [a5] at h9 ⊢; exact h9) (by rw [a5]) (by rw [a5]; exact a11) hn hfit (by simpa using a6) hd (fun H1 locs1 hP1 _ hS1 => go H1 locs1 hP1 hS1)
  · exact va_putF (ref := cn) hC.1 hC.2.1 hts a2 ty0 a3 a4 hC.2.2.2.1 hI.1 hI.2.1 pb_D hI.2.2.1 j hat a1 k0 a6 (by rw [a5]; exact hts _ hlink) (fun _ h9 => by rw [a5] at h9 ⊢; exact h9) (by rw [a5]) (hC.2.2.2.2.2.2.2 h3) (by rw [a5]; exact h4) (by rw [a5]; exact a11) hn hfit (by simpa using a6) hd (fun H1 locs1 hP1 _ hS1 => go H1 locs1 hP1 hS1)
end PBF
section PBG
variable {x : pb_E} {m n0 : Nat} {Q : pb_P} {pc : Nat} {ci k0 f t idx : Nat} {cn fn ds : String} {fin : Bool} {ty : FieldType} {k : pb_K}
theorem pb_s_getI (hd : decode (pb_code m) pc = .ok (.getfield idx, 3)) (hF : pb_fd ci k0 f t cn fn ds fin ty) (ht : t ≠ 2) (hlink : Cond.fieldLink (pb_y m).cls idx cn fn ds ∈ pb_ALL) (hk : pb_le k (pb_WJ x m n0 Q (pc + 3))) : pb_le (pb_getI ci f k) (pb_WJ x m n0 Q pc) := by
  intro L S n σ h p e R Z s mm args below meth c H locs cells slots ls hR hZ hC hI hl hS hL h1 h2
  unfold pb_getI at h
  split at h
  · obtain ⟨-, hS'⟩ := List.forall_mem_cons.mp hS
    have hw := hk L _ n σ h.2 p e R Z s mm args below meth c H locs cells slots ls hR hZ hC hI hl (List.forall_mem_cons.mpr ⟨hI.2.2.2.2 _ _ _, hS'⟩) hL h1 h2
    refine pb_getW hC hI hd hF hlink h.1 ?_
    have e9 : ∀ z, pb_c x t z = pb_e x (.inl z) := fun z => by simp [pb_c, ht, pb_e]
    rw [e9]
    exact hw
  · exact h.elim
theorem pb_s_getR (hd : decode (pb_code m) pc = .ok (.getfield idx, 3)) (hF : pb_fd ci k0 f 2 cn fn ds fin ty) (hlink : Cond.fieldLink (pb_y m).cls idx cn fn ds ∈ pb_ALL) (hk : pb_le k (pb_WJ x m n0 Q (pc + 3))) : pb_le (pb_getR ci f k) (pb_WJ x m n0 Q pc) := by
  intro L S n σ h p e R Z s mm args below meth c H locs cells slots ls hR hZ hC hI hl hS hL h1 h2
  unfold pb_getR at h
  split at h
  · obtain ⟨-, hS'⟩ := List.forall_mem_cons.mp hS
    have hw := hk L _ n σ h.2 p e R Z s mm args below meth c H locs cells slots ls hR hZ hC hI hl (List.forall_mem_cons.mpr ⟨hI.2.2.2.2 _ _ _, hS'⟩) hL h1 h2
    exact pb_getW hC hI hd hF hlink h.1 hw
  · exact h.elim
theorem pb_s_putI (hd : decode (pb_code m) pc = .ok (.putfield idx, 3)) (hF : pb_fd ci k0 f 0 cn fn ds fin .int) (hfin : fin = false ∨ (fin = true ∧ (pb_y m).name = "<init>" ∧ cn = (pb_y m).cls)) (hlink : Cond.fieldLink (pb_y m).cls idx cn fn ds ∈ pb_ALL) (hk : pb_le k (pb_WJ x m n0 Q (pc + 3))) : pb_le (pb_putI ci f k) (pb_WJ x m n0 Q pc) := by
  intro L S n σ h p e R Z s mm args below meth c H locs cells slots ls hR hZ hC hI hl hS hL h1 h2
  unfold pb_putI at h
  split at h
  · obtain ⟨hz, hS'⟩ := List.forall_mem_cons.mp hS
    obtain ⟨-, hS'⟩ := List.forall_mem_cons.mp hS'
    exact pb_putW hC hI hd hF hlink h.1 hz hfin rfl rfl (fun H1 locs1 hI1 => hk L _ n _ h.2 p e R Z s mm args below meth c H1 locs1 cells slots ls hR hZ hC hI1 hl hS' hL h1 h2)
  · exact h.elim
theorem pb_s_putZ (hd : decode (pb_code m) pc = .ok (.putfield idx, 3)) (hF : pb_fd ci k0 f 1 cn fn ds fin .boolean) (hfin : fin = false ∨ (fin = true ∧ (pb_y m).name = "<init>" ∧ cn = (pb_y m).cls)) (hlink : Cond.fieldLink (pb_y m).cls idx cn fn ds ∈ pb_ALL) (hk : pb_le k (pb_WJ x m n0 Q (pc + 3))) : pb_le (pb_putZ ci f k) (pb_WJ x m n0 Q pc) := by
  intro L S n σ h p e R Z s mm args below meth c H locs cells slots ls hR hZ hC hI hl hS hL h1 h2
  unfold pb_putZ at h
  split at h
  · obtain ⟨hz, hS'⟩ := List.forall_mem_cons.mp hS
    obtain ⟨-, hS'⟩ := List.forall_mem_cons.mp hS'
    refine pb_putW hC hI hd hF hlink h.1 hz hfin ?_ ?_ (fun H1 locs1 hI1 => hk L _ n _ h.2.2 p e R Z s mm args below meth c H1 locs1 cells slots ls hR hZ hC hI1 hl hS' hL h1 h2)
    · rcases h.2.1 with rfl | rfl <;> rfl
    · rcases h.2.1 with rfl | rfl <;> rfl
  · exact h.elim
theorem pb_s_putR (hd : decode (pb_code m) pc = .ok (.putfield idx, 3)) (hF : pb_fd ci k0 f 2 cn fn ds fin ty) (hty : (∃ C, ty = .object C) ∨ ∃ t, ty = .array t) (hfin : fin = false ∨ (fin = true ∧ (pb_y m).name = "<init>" ∧ cn = (pb_y m).cls)) (hlink : Cond.fieldLink (pb_y m).cls idx cn fn ds ∈ pb_ALL) (hk : pb_le k (pb_WJ x m n0 Q (pc + 3))) : pb_le (pb_putR ci f k) (pb_WJ x m n0 Q pc) := by
  intro L S n σ h p e R Z s mm args below meth c H locs cells slots ls hR hZ hC hI hl hS hL h1 h2
  unfold pb_putR at h
  split at h
  · rename_i v q S'
    obtain ⟨hz, hS'⟩ := List.forall_mem_cons.mp hS
    obtain ⟨-, hS'⟩ := List.forall_mem_cons.mp hS'
    refine pb_putW (t := 2) hC hI hd hF hlink h.1 hz hfin ?_ ?_ (fun H1 locs1 hI1 => hk L _ n _ h.2 p e R Z s mm args below meth c H1 locs1 cells slots ls hR hZ hC hI1 hl hS' hL h1 h2)
    · show narrow ty (pb_e _ (.inr v)) = pb_e _ (.inr v)
      rcases hty with ⟨C, rfl⟩ | ⟨t, rfl⟩ <;> rcases pb_e_isref x v with h9 | ⟨a, h9⟩ <;> rw [h9] <;> rfl
    · show fits ty (pb_e _ (.inr v)) = true
      rcases hty with ⟨C, rfl⟩ | ⟨t, rfl⟩ <;> rcases pb_e_isref x v with h9 | ⟨a, h9⟩ <;> rw [h9] <;> rfl
  · exact h.elim
end PBG
