/-! a rule an instruction: plain ones -/
theorem pb_s_iconst {x : pb_E} {m n0 : Nat} {Q : pb_P} {pc : Nat} {z : Int} {k : pb_K} (hd : decode (pb_code m) pc = .ok (.iconst z, 1)) (hz : pb_R z) (hk : pb_le k (pb_WJ x m n0 Q (pc + 1))) : pb_le (pb_iconst z k) (pb_WJ x m n0 Q pc) := by
  intro L S n σ h p e R Z s mm args below meth c H locs cells slots ls hR hZ hC hI hl hS hL h1 h2
  exact lv_iconst hC.1 hC.2.1 hd rfl (hk L _ n σ h p e R Z s mm args below meth c H locs cells slots ls hR hZ hC hI hl (List.forall_mem_cons.mpr ⟨hz, hS⟩) hL h1 h2)
theorem pb_s_bipush {x : pb_E} {m n0 : Nat} {Q : pb_P} {pc : Nat} {z : Int} {k : pb_K} (hd : decode (pb_code m) pc = .ok (.bipush z, 2)) (hz : pb_R z) (hv : (Int8.ofInt z).toInt32 = Int32.ofInt z) (hk : pb_le k (pb_WJ x m n0 Q (pc + 2))) : pb_le (pb_iconst z k) (pb_WJ x m n0 Q pc) := by
  intro L S n σ h p e R Z s mm args below meth c H locs cells slots ls hR hZ hC hI hl hS hL h1 h2
  exact lv_bipush hC.1 hC.2.1 hd hv (hk L _ n σ h p e R Z s mm args below meth c H locs cells slots ls hR hZ hC hI hl (List.forall_mem_cons.mpr ⟨hz, hS⟩) hL h1 h2)
theorem pb_s_sipush {x : pb_E} {m n0 : Nat} {Q : pb_P} {pc : Nat} {z : Int} {k : pb_K} (hd : decode (pb_code m) pc = .ok (.sipush z, 3)) (hz : pb_R z) (hv : (Int16.ofInt z).toInt32 = Int32.ofInt z) (hk : pb_le k (pb_WJ x m n0 Q (pc + 3))) : pb_le (pb_iconst z k) (pb_WJ x m n0 Q pc) := by
  intro L S n σ h p e R Z s mm args below meth c H locs cells slots ls hR hZ hC hI hl hS hL h1 h2
  exact lv_sipush hC.1 hC.2.1 hd hv (hk L _ n σ h p e R Z s mm args below meth c H locs cells slots ls hR hZ hC hI hl (List.forall_mem_cons.mpr ⟨hz, hS⟩) hL h1 h2)
theorem pb_s_null {x : pb_E} {m n0 : Nat} {Q : pb_P} {pc : Nat} {k : pb_K} (hd : decode (pb_code m) pc = .ok (.aconst_null, 1)) (hk : pb_le k (pb_WJ x m n0 Q (pc + 1))) : pb_le (pb_null k) (pb_WJ x m n0 Q pc) := by
  intro L S n σ h p e R Z s mm args below meth c H locs cells slots ls hR hZ hC hI hl hS hL h1 h2
  exact lv_null hC.1 hC.2.1 hd (hk L _ n σ h p e R Z s mm args below meth c H locs cells slots ls hR hZ hC hI hl (List.forall_mem_cons.mpr ⟨(by unfold pb_vR pb_R; omega), hS⟩) hL h1 h2)
theorem pb_s_iload_n {x : pb_E} {m n0 : Nat} {Q : pb_P} {pc : Nat} {j : Fin 4} {i : Nat} {k : pb_K} (hd : decode (pb_code m) pc = .ok (.iload_n j, 1)) (hi : (j : Nat) = i) (hk : pb_le k (pb_WJ x m n0 Q (pc + 1))) : pb_le (pb_iload i k) (pb_WJ x m n0 Q pc) := by
  intro L S n σ h p e R Z s mm args below meth c H locs cells slots ls hR hZ hC hI hl hS hL h1 h2
  unfold pb_iload at h
  split at h
  · rename_i y hy
    exact lv_iload_n hC.1 hC.2.1 hd hi (pb_lget hl hy) (hk L _ n σ h p e R Z s mm args below meth c H locs cells slots ls hR hZ hC hI hl (List.forall_mem_cons.mpr ⟨hL _ _ hy, hS⟩) hL h1 h2)
  · exact h.elim
theorem pb_s_iload {x : pb_E} {m n0 : Nat} {Q : pb_P} {pc : Nat} {i : Nat} {k : pb_K} (hd : decode (pb_code m) pc = .ok (.iload i, 2)) (hk : pb_le k (pb_WJ x m n0 Q (pc + 2))) : pb_le (pb_iload i k) (pb_WJ x m n0 Q pc) := by
  intro L S n σ h p e R Z s mm args below meth c H locs cells slots ls hR hZ hC hI hl hS hL h1 h2
  unfold pb_iload at h
  split at h
  · rename_i y hy
    exact lv_iload hC.1 hC.2.1 hd (pb_lget hl hy) (hk L _ n σ h p e R Z s mm args below meth c H locs cells slots ls hR hZ hC hI hl (List.forall_mem_cons.mpr ⟨hL _ _ hy, hS⟩) hL h1 h2)
  · exact h.elim
theorem pb_s_aload_n {x : pb_E} {m n0 : Nat} {Q : pb_P} {pc : Nat} {j : Fin 4} {i : Nat} {k : pb_K} (hd : decode (pb_code m) pc = .ok (.aload_n j, 1)) (hi : (j : Nat) = i) (hk : pb_le k (pb_WJ x m n0 Q (pc + 1))) : pb_le (pb_aload i k) (pb_WJ x m n0 Q pc) := by
  intro L S n σ h p e R Z s mm args below meth c H locs cells slots ls hR hZ hC hI hl hS hL h1 h2
  unfold pb_aload at h
  split at h
  · rename_i y hy
    have hw := hk L _ n σ h p e R Z s mm args below meth c H locs cells slots ls hR hZ hC hI hl (List.forall_mem_cons.mpr ⟨hL _ _ hy, hS⟩) hL h1 h2
    have hg := pb_lget hl hy
    rw [List.map_cons] at hw
    by_cases hn : y < 0
    · rw [pb_e_neg hn] at hw hg
      exact lv_aload_nN hC.1 hC.2.1 hd hi hg hw
    · rw [pb_e_ref hn] at hw hg
      exact lv_aload_n hC.1 hC.2.1 hd hi hg hw
  · exact h.elim
theorem pb_s_aload {x : pb_E} {m n0 : Nat} {Q : pb_P} {pc : Nat} {i : Nat} {k : pb_K} (hd : decode (pb_code m) pc = .ok (.aload i, 2)) (hk : pb_le k (pb_WJ x m n0 Q (pc + 2))) : pb_le (pb_aload i k) (pb_WJ x m n0 Q pc) := by
  intro L S n σ h p e R Z s mm args below meth c H locs cells slots ls hR hZ hC hI hl hS hL h1 h2
  unfold pb_aload at h
  split at h
  · rename_i y hy
    have hw := hk L _ n σ h p e R Z s mm args below meth c H locs cells slots ls hR hZ hC hI hl (List.forall_mem_cons.mpr ⟨hL _ _ hy, hS⟩) hL h1 h2
    have hg := pb_lget hl hy
    rw [List.map_cons] at hw
    by_cases hn : y < 0
    · rw [pb_e_neg hn] at hw hg
      exact lv_aloadN hC.1 hC.2.1 hd hg hw
    · rw [pb_e_ref hn] at hw hg
      exact lv_aload hC.1 hC.2.1 hd hg hw
  · exact h.elim
theorem pb_s_istore_n {x : pb_E} {m n0 : Nat} {Q : pb_P} {pc : Nat} {j : Fin 4} {i : Nat} {k : pb_K} (hd : decode (pb_code m) pc = .ok (.istore_n j, 1)) (hi : (j : Nat) = i) (hn : i < pb_mx m) (hk : pb_le k (pb_WJ x m n0 Q (pc + 1))) : pb_le (pb_istore i k) (pb_WJ x m n0 Q pc) := by
  intro L S n σ h p e R Z s mm args below meth c H locs cells slots ls hR hZ hC hI hl hS hL h1 h2
  unfold pb_istore at h
  split at h
  · rename_i y S'
    obtain ⟨hy, hS'⟩ := List.forall_mem_cons.mp hS
    exact lv_istore_n hC.1 hC.2.1 hd hi hl hn rfl (fun ls' hl' => hk _ _ n σ h p e R Z s mm args below meth c H locs cells slots ls' hR hZ hC hI (pb_lset (v := .inl y) rfl hl') hS' (pb_setR hL hy) h1 h2)
  · exact h.elim
theorem pb_s_istore {x : pb_E} {m n0 : Nat} {Q : pb_P} {pc : Nat} {i : Nat} {k : pb_K} (hd : decode (pb_code m) pc = .ok (.istore i, 2)) (hn : i < pb_mx m) (hk : pb_le k (pb_WJ x m n0 Q (pc + 2))) : pb_le (pb_istore i k) (pb_WJ x m n0 Q pc) := by
  intro L S n σ h p e R Z s mm args below meth c H locs cells slots ls hR hZ hC hI hl hS hL h1 h2
  unfold pb_istore at h
  split at h
  · rename_i y S'
    obtain ⟨hy, hS'⟩ := List.forall_mem_cons.mp hS
    exact lv_istore hC.1 hC.2.1 hd hl hn rfl (fun ls' hl' => hk _ _ n σ h p e R Z s mm args below meth c H locs cells slots ls' hR hZ hC hI (pb_lset (v := .inl y) rfl hl') hS' (pb_setR hL hy) h1 h2)
  · exact h.elim
theorem pb_s_astore_n {x : pb_E} {m n0 : Nat} {Q : pb_P} {pc : Nat} {j : Fin 4} {i : Nat} {k : pb_K} (hd : decode (pb_code m) pc = .ok (.astore_n j, 1)) (hi : (j : Nat) = i) (hn : i < pb_mx m) (hk : pb_le k (pb_WJ x m n0 Q (pc + 1))) : pb_le (pb_astore i k) (pb_WJ x m n0 Q pc) := by
  intro L S n σ h p e R Z s mm args below meth c H locs cells slots ls hR hZ hC hI hl hS hL h1 h2
  unfold pb_astore at h
  split at h
  · rename_i y S'
    obtain ⟨hy, hS'⟩ := List.forall_mem_cons.mp hS
    rw [List.map_cons]
    by_cases hz : y < 0
    · rw [pb_e_neg hz]
      exact lv_astore_nN hC.1 hC.2.1 hd hi hl hn rfl (fun ls' hl' => hk _ _ n σ h p e R Z s mm args below meth c H locs cells slots ls' hR hZ hC hI (pb_lset (v := .inr y) (pb_e_neg hz).symm hl') hS' (pb_setR hL hy) h1 h2)
    · rw [pb_e_ref hz]
      exact lv_astore_n hC.1 hC.2.1 hd hi hl hn rfl (fun ls' hl' => hk _ _ n σ h p e R Z s mm args below meth c H locs cells slots ls' hR hZ hC hI (pb_lset (v := .inr y) (pb_e_ref hz).symm hl') hS' (pb_setR hL hy) h1 h2)
  · exact h.elim
theorem pb_s_astore {x : pb_E} {m n0 : Nat} {Q : pb_P} {pc : Nat} {i : Nat} {k : pb_K} (hd : decode (pb_code m) pc = .ok (.astore i, 2)) (hn : i < pb_mx m) (hk : pb_le k (pb_WJ x m n0 Q (pc + 2))) : pb_le (pb_astore i k) (pb_WJ x m n0 Q pc) := by
  intro L S n σ h p e R Z s mm args below meth c H locs cells slots ls hR hZ hC hI hl hS hL h1 h2
  unfold pb_astore at h
  split at h
  · rename_i y S'
    obtain ⟨hy, hS'⟩ := List.forall_mem_cons.mp hS
    rw [List.map_cons]
    by_cases hz : y < 0
    · rw [pb_e_neg hz]
      exact lv_astoreN hC.1 hC.2.1 hd hl hn rfl (fun ls' hl' => hk _ _ n σ h p e R Z s mm args below meth c H locs cells slots ls' hR hZ hC hI (pb_lset (v := .inr y) (pb_e_neg hz).symm hl') hS' (pb_setR hL hy) h1 h2)
    · rw [pb_e_ref hz]
      exact lv_astore hC.1 hC.2.1 hd hl hn rfl (fun ls' hl' => hk _ _ n σ h p e R Z s mm args below meth c H locs cells slots ls' hR hZ hC hI (pb_lset (v := .inr y) (pb_e_ref hz).symm hl') hS' (pb_setR hL hy) h1 h2)
  · exact h.elim
theorem pb_s_iinc {x : pb_E} {m n0 : Nat} {Q : pb_P} {pc : Nat} {i : Nat} {z : Int} {k : pb_K} (hd : decode (pb_code m) pc = .ok (.iinc i z, 3)) (hn : i < pb_mx m) (hk : pb_le k (pb_WJ x m n0 Q (pc + 3))) : pb_le (pb_iinc i z k) (pb_WJ x m n0 Q pc) := by
  intro L S n σ h p e R Z s mm args below meth c H locs cells slots ls hR hZ hC hI hl hS hL h1 h2
  unfold pb_iinc at h
  split at h
  · rename_i y hy
    obtain ⟨q, hq⟩ := List.getElem?_of_mem ((pb_ll_mem (x := x) L 0 (i, .int (Int32.ofInt y))).mpr ⟨i, .inl y, hy, by rw [Nat.zero_add]; rfl⟩)
    exact lv_iinc hC.1 hC.2.1 hd hl hq rfl hn rfl (fun ls' hl' => hk _ _ n σ h p e R Z s mm args below meth c H locs cells slots ls' hR hZ hC hI (pb_lset (v := .inl (pb_w (y + z))) (by show Value.int _ = Value.int _; rw [pb_w_of, Int32.ofInt_add]) hl') hS (pb_setR hL (pb_w_R _)) h1 h2)
  · exact h.elim
theorem pb_s_iadd {x : pb_E} {m n0 : Nat} {Q : pb_P} {pc : Nat} {k : pb_K} (hd : decode (pb_code m) pc = .ok (.iadd, 1)) (hk : pb_le k (pb_WJ x m n0 Q (pc + 1))) : pb_le (pb_bin pb_add k) (pb_WJ x m n0 Q pc) := by
  intro L S n σ h p e R Z s mm args below meth c H locs cells slots ls hR hZ hC hI hl hS hL h1 h2
  unfold pb_bin at h
  split at h
  · rename_i c' a' S'
    obtain ⟨-, hS'⟩ := List.forall_mem_cons.mp hS
    obtain ⟨-, hS'⟩ := List.forall_mem_cons.mp hS'
    have hw := hk L _ n σ h p e R Z s mm args below meth c H locs cells slots ls hR hZ hC hI hl (List.forall_mem_cons.mpr ⟨(pb_w_R _), hS'⟩) hL h1 h2
    have e : ∀ a c : Int, Int32.ofInt (pb_add a c) = Int32.ofInt a + Int32.ofInt c := fun a c => by unfold pb_add; rw [pb_w_of, Int32.ofInt_add]
    rw [List.map_cons, pb_e, e] at hw
    exact lv_iadd hC.1 hC.2.1 hd hw
  · exact h.elim
theorem pb_s_isub {x : pb_E} {m n0 : Nat} {Q : pb_P} {pc : Nat} {k : pb_K} (hd : decode (pb_code m) pc = .ok (.isub, 1)) (hk : pb_le k (pb_WJ x m n0 Q (pc + 1))) : pb_le (pb_bin pb_sub k) (pb_WJ x m n0 Q pc) := by
  intro L S n σ h p e R Z s mm args below meth c H locs cells slots ls hR hZ hC hI hl hS hL h1 h2
  unfold pb_bin at h
  split at h
  · rename_i c' a' S'
    obtain ⟨-, hS'⟩ := List.forall_mem_cons.mp hS
    obtain ⟨-, hS'⟩ := List.forall_mem_cons.mp hS'
    have hw := hk L _ n σ h p e R Z s mm args below meth c H locs cells slots ls hR hZ hC hI hl (List.forall_mem_cons.mpr ⟨(pb_w_R _), hS'⟩) hL h1 h2
    have e : ∀ a c : Int, Int32.ofInt (pb_sub a c) = Int32.ofInt a - Int32.ofInt c := fun a c => by unfold pb_sub; rw [pb_w_of, Int32.ofInt_sub]
    rw [List.map_cons, pb_e, e] at hw
    exact lv_isub hC.1 hC.2.1 hd hw
  · exact h.elim
theorem pb_s_imul {x : pb_E} {m n0 : Nat} {Q : pb_P} {pc : Nat} {k : pb_K} (hd : decode (pb_code m) pc = .ok (.imul, 1)) (hk : pb_le k (pb_WJ x m n0 Q (pc + 1))) : pb_le (pb_bin pb_mul k) (pb_WJ x m n0 Q pc) := by
  intro L S n σ h p e R Z s mm args below meth c H locs cells slots ls hR hZ hC hI hl hS hL h1 h2
  unfold pb_bin at h
  split at h
  · rename_i c' a' S'
    obtain ⟨-, hS'⟩ := List.forall_mem_cons.mp hS
    obtain ⟨-, hS'⟩ := List.forall_mem_cons.mp hS'
    have hw := hk L _ n σ h p e R Z s mm args below meth c H locs cells slots ls hR hZ hC hI hl (List.forall_mem_cons.mpr ⟨(pb_w_R _), hS'⟩) hL h1 h2
    have e : ∀ a c : Int, Int32.ofInt (pb_mul a c) = Int32.ofInt a * Int32.ofInt c := fun a c => by unfold pb_mul; rw [pb_w_of, Int32.ofInt_mul]
    rw [List.map_cons, pb_e, e] at hw
    exact lv_imul hC.1 hC.2.1 hd hw
  · exact h.elim
theorem pb_s_iand {x : pb_E} {m n0 : Nat} {Q : pb_P} {pc : Nat} {k : pb_K} (hd : decode (pb_code m) pc = .ok (.iand, 1)) (hk : pb_le k (pb_WJ x m n0 Q (pc + 1))) : pb_le (pb_bin pb_and k) (pb_WJ x m n0 Q pc) := by
  intro L S n σ h p e R Z s mm args below meth c H locs cells slots ls hR hZ hC hI hl hS hL h1 h2
  unfold pb_bin at h
  split at h
  · rename_i c' a' S'
    obtain ⟨-, hS'⟩ := List.forall_mem_cons.mp hS
    obtain ⟨-, hS'⟩ := List.forall_mem_cons.mp hS'
    have hw := hk L _ n σ h p e R Z s mm args below meth c H locs cells slots ls hR hZ hC hI hl (List.forall_mem_cons.mpr ⟨(pb_tR _), hS'⟩) hL h1 h2
    have e : ∀ a c : Int, Int32.ofInt (pb_and a c) = Int32.ofInt a &&& Int32.ofInt c := fun a c => Int32.ofInt_toInt _
    rw [List.map_cons, pb_e, e] at hw
    exact lv_iand hC.1 hC.2.1 hd hw
  · exact h.elim
theorem pb_s_ior {x : pb_E} {m n0 : Nat} {Q : pb_P} {pc : Nat} {k : pb_K} (hd : decode (pb_code m) pc = .ok (.ior, 1)) (hk : pb_le k (pb_WJ x m n0 Q (pc + 1))) : pb_le (pb_bin pb_or k) (pb_WJ x m n0 Q pc) := by
  intro L S n σ h p e R Z s mm args below meth c H locs cells slots ls hR hZ hC hI hl hS hL h1 h2
  unfold pb_bin at h
  split at h
  · rename_i c' a' S'
    obtain ⟨-, hS'⟩ := List.forall_mem_cons.mp hS
    obtain ⟨-, hS'⟩ := List.forall_mem_cons.mp hS'
    have hw := hk L _ n σ h p e R Z s mm args below meth c H locs cells slots ls hR hZ hC hI hl (List.forall_mem_cons.mpr ⟨(pb_tR _), hS'⟩) hL h1 h2
    have e : ∀ a c : Int, Int32.ofInt (pb_or a c) = Int32.ofInt a ||| Int32.ofInt c := fun a c => Int32.ofInt_toInt _
    rw [List.map_cons, pb_e, e] at hw
    exact lv_ior hC.1 hC.2.1 hd hw
  · exact h.elim
theorem pb_s_ixor {x : pb_E} {m n0 : Nat} {Q : pb_P} {pc : Nat} {k : pb_K} (hd : decode (pb_code m) pc = .ok (.ixor, 1)) (hk : pb_le k (pb_WJ x m n0 Q (pc + 1))) : pb_le (pb_bin pb_xor k) (pb_WJ x m n0 Q pc) := by
  intro L S n σ h p e R Z s mm args below meth c H locs cells slots ls hR hZ hC hI hl hS hL h1 h2
  unfold pb_bin at h
  split at h
  · rename_i c' a' S'
    obtain ⟨-, hS'⟩ := List.forall_mem_cons.mp hS
    obtain ⟨-, hS'⟩ := List.forall_mem_cons.mp hS'
    have hw := hk L _ n σ h p e R Z s mm args below meth c H locs cells slots ls hR hZ hC hI hl (List.forall_mem_cons.mpr ⟨(pb_tR _), hS'⟩) hL h1 h2
    have e : ∀ a c : Int, Int32.ofInt (pb_xor a c) = Int32.ofInt a ^^^ Int32.ofInt c := fun a c => Int32.ofInt_toInt _
    rw [List.map_cons, pb_e, e] at hw
    exact lv_ixor hC.1 hC.2.1 hd hw
  · exact h.elim
theorem pb_s_ishl {x : pb_E} {m n0 : Nat} {Q : pb_P} {pc : Nat} {k : pb_K} (hd : decode (pb_code m) pc = .ok (.ishl, 1)) (hk : pb_le k (pb_WJ x m n0 Q (pc + 1))) : pb_le (pb_bin pb_shl k) (pb_WJ x m n0 Q pc) := by
  intro L S n σ h p e R Z s mm args below meth c H locs cells slots ls hR hZ hC hI hl hS hL h1 h2
  unfold pb_bin at h
  split at h
  · rename_i c' a' S'
    obtain ⟨-, hS'⟩ := List.forall_mem_cons.mp hS
    obtain ⟨-, hS'⟩ := List.forall_mem_cons.mp hS'
    have hw := hk L _ n σ h p e R Z s mm args below meth c H locs cells slots ls hR hZ hC hI hl (List.forall_mem_cons.mpr ⟨(pb_tR _), hS'⟩) hL h1 h2
    have e : ∀ a c : Int, Int32.ofInt (pb_shl a c) = Int32.ofInt a <<< (Int32.ofInt c &&& 31) := fun a c => Int32.ofInt_toInt _
    rw [List.map_cons, pb_e, e] at hw
    exact lv_ishl hC.1 hC.2.1 hd hw
  · exact h.elim
theorem pb_s_idiv {x : pb_E} {m n0 : Nat} {Q : pb_P} {pc : Nat} {k : pb_K} (hd : decode (pb_code m) pc = .ok (.idiv, 1)) (hk : pb_le k (pb_WJ x m n0 Q (pc + 1))) : pb_le (pb_bin0 pb_div k) (pb_WJ x m n0 Q pc) := by
  intro L S n σ h p e R Z s mm args below meth c H locs cells slots ls hR hZ hC hI hl hS hL h1 h2
  unfold pb_bin0 at h
  split at h
  · rename_i c' a' S'
    obtain ⟨hc', hS'⟩ := List.forall_mem_cons.mp hS
    obtain ⟨-, hS'⟩ := List.forall_mem_cons.mp hS'
    have hw := hk L _ n σ h.2 p e R Z s mm args below meth c H locs cells slots ls hR hZ hC hI hl (List.forall_mem_cons.mpr ⟨pb_tR _, hS'⟩) hL h1 h2
    have e : ∀ a c : Int, Int32.ofInt (pb_div a c) = Int32.ofInt a / Int32.ofInt c := fun a c => Int32.ofInt_toInt _
    rw [List.map_cons, pb_e, e] at hw
    exact lv_idiv hC.1 hC.2.1 hd (fun q => h.1 ((pb_eq0 hc').mp q)) hw
  · exact h.elim
theorem pb_s_irem {x : pb_E} {m n0 : Nat} {Q : pb_P} {pc : Nat} {k : pb_K} (hd : decode (pb_code m) pc = .ok (.irem, 1)) (hk : pb_le k (pb_WJ x m n0 Q (pc + 1))) : pb_le (pb_bin0 pb_rem k) (pb_WJ x m n0 Q pc) := by
  intro L S n σ h p e R Z s mm args below meth c H locs cells slots ls hR hZ hC hI hl hS hL h1 h2
  unfold pb_bin0 at h
  split at h
  · rename_i c' a' S'
    obtain ⟨hc', hS'⟩ := List.forall_mem_cons.mp hS
    obtain ⟨-, hS'⟩ := List.forall_mem_cons.mp hS'
    have hw := hk L _ n σ h.2 p e R Z s mm args below meth c H locs cells slots ls hR hZ hC hI hl (List.forall_mem_cons.mpr ⟨pb_tR _, hS'⟩) hL h1 h2
    have e : ∀ a c : Int, Int32.ofInt (pb_rem a c) = Int32.ofInt a - Int32.ofInt a / Int32.ofInt c * Int32.ofInt c := fun a c => Int32.ofInt_toInt _
    rw [List.map_cons, pb_e, e] at hw
    exact lv_irem hC.1 hC.2.1 hd (fun q => h.1 ((pb_eq0 hc').mp q)) hw
  · exact h.elim
theorem pb_s_dup {x : pb_E} {m n0 : Nat} {Q : pb_P} {pc : Nat} {k : pb_K} (hd : decode (pb_code m) pc = .ok (.dup, 1)) (hk : pb_le k (pb_WJ x m n0 Q (pc + 1))) : pb_le (pb_dup k) (pb_WJ x m n0 Q pc) := by
  intro L S n σ h p e R Z s mm args below meth c H locs cells slots ls hR hZ hC hI hl hS hL h1 h2
  unfold pb_dup at h
  split at h
  · exact lv_dup hC.1 hC.2.1 hd (pb_e_cat _ _) (hk L _ n σ h p e R Z s mm args below meth c H locs cells slots ls hR hZ hC hI hl (List.forall_mem_cons.mpr ⟨(List.forall_mem_cons.mp hS).1, hS⟩) hL h1 h2)
  · exact h.elim
theorem pb_s_pop {x : pb_E} {m n0 : Nat} {Q : pb_P} {pc : Nat} {k : pb_K} (hd : decode (pb_code m) pc = .ok (.pop, 1)) (hk : pb_le k (pb_WJ x m n0 Q (pc + 1))) : pb_le (pb_pop k) (pb_WJ x m n0 Q pc) := by
  intro L S n σ h p e R Z s mm args below meth c H locs cells slots ls hR hZ hC hI hl hS hL h1 h2
  unfold pb_pop at h
  split at h
  · exact lv_pop hC.1 hC.2.1 hd (pb_e_cat _ _) (hk L _ n σ h p e R Z s mm args below meth c H locs cells slots ls hR hZ hC hI hl (List.forall_mem_cons.mp hS).2 hL h1 h2)
  · exact h.elim
theorem pb_s_dup_x1 {x : pb_E} {m n0 : Nat} {Q : pb_P} {pc : Nat} {k : pb_K} (hd : decode (pb_code m) pc = .ok (.dup_x1, 1)) (hk : pb_le k (pb_WJ x m n0 Q (pc + 1))) : pb_le (pb_dup_x1 k) (pb_WJ x m n0 Q pc) := by
  intro L S n σ h p e R Z s mm args below meth c H locs cells slots ls hR hZ hC hI hl hS hL h1 h2
  unfold pb_dup_x1 at h
  split at h
  · obtain ⟨g1, g2⟩ := List.forall_mem_cons.mp hS
    obtain ⟨g2, g3⟩ := List.forall_mem_cons.mp g2
    exact lv_dup_x1 hC.1 hC.2.1 hd (pb_e_cat _ _) (pb_e_cat _ _) (hk L _ n σ h p e R Z s mm args below meth c H locs cells slots ls hR hZ hC hI hl (List.forall_mem_cons.mpr ⟨g1, List.forall_mem_cons.mpr ⟨g2, List.forall_mem_cons.mpr ⟨g1, g3⟩⟩⟩) hL h1 h2)
  · exact h.elim
theorem pb_s_dup_x2 {x : pb_E} {m n0 : Nat} {Q : pb_P} {pc : Nat} {k : pb_K} (hd : decode (pb_code m) pc = .ok (.dup_x2, 1)) (hk : pb_le k (pb_WJ x m n0 Q (pc + 1))) : pb_le (pb_dup_x2 k) (pb_WJ x m n0 Q pc) := by
  intro L S n σ h p e R Z s mm args below meth c H locs cells slots ls hR hZ hC hI hl hS hL h1 h2
  unfold pb_dup_x2 at h
  split at h
  · obtain ⟨g1, g2⟩ := List.forall_mem_cons.mp hS
    obtain ⟨g2, g3⟩ := List.forall_mem_cons.mp g2
    obtain ⟨g3, g4⟩ := List.forall_mem_cons.mp g3
    exact lv_dup_x2 hC.1 hC.2.1 hd (pb_e_cat _ _) (pb_e_cat _ _) (pb_e_cat _ _) (hk L _ n σ h p e R Z s mm args below meth c H locs cells slots ls hR hZ hC hI hl (List.forall_mem_cons.mpr ⟨g1, List.forall_mem_cons.mpr ⟨g2, List.forall_mem_cons.mpr ⟨g3, List.forall_mem_cons.mpr ⟨g1, g4⟩⟩⟩⟩) hL h1 h2)
  · exact h.elim
theorem pb_s_dup2 {x : pb_E} {m n0 : Nat} {Q : pb_P} {pc : Nat} {k : pb_K} (hd : decode (pb_code m) pc = .ok (.dup2, 1)) (hk : pb_le k (pb_WJ x m n0 Q (pc + 1))) : pb_le (pb_dup2 k) (pb_WJ x m n0 Q pc) := by
  intro L S n σ h p e R Z s mm args below meth c H locs cells slots ls hR hZ hC hI hl hS hL h1 h2
  unfold pb_dup2 at h
  split at h
  · obtain ⟨g1, g2⟩ := List.forall_mem_cons.mp hS
    obtain ⟨g2, g3⟩ := List.forall_mem_cons.mp g2
    exact lv_dup2_11 hC.1 hC.2.1 hd (pb_e_cat _ _) (pb_e_cat _ _) (hk L _ n σ h p e R Z s mm args below meth c H locs cells slots ls hR hZ hC hI hl (List.forall_mem_cons.mpr ⟨g1, List.forall_mem_cons.mpr ⟨g2, List.forall_mem_cons.mpr ⟨g1, List.forall_mem_cons.mpr ⟨g2, g3⟩⟩⟩⟩) hL h1 h2)
  · exact h.elim
theorem pb_s_if_eq {x : pb_E} {m n0 : Nat} {Q : pb_P} {pc : Nat} {off : Int} {tgt : Nat} {kt kf : pb_K} (hd : decode (pb_code m) pc = .ok (.ifCond .eq off, 3)) (ht : (pc : Int) + off = (tgt : Int)) (hkt : pb_le kt (pb_WJ x m n0 Q tgt)) (hkf : pb_le kf (pb_WJ x m n0 Q (pc + 3))) : pb_le (pb_if (fun y => y = 0) kt kf) (pb_WJ x m n0 Q pc) := by
  intro L S n σ h p e R Z s mm args below meth c H locs cells slots ls hR hZ hC hI hl hS hL h1 h2
  unfold pb_if at h
  split at h
  · obtain ⟨hy, hS'⟩ := List.forall_mem_cons.mp hS
    exact lv_if_eq hC.1 hC.2.1 hd ht (fun q => hkt L _ n σ (h.1 ((pb_eq0 hy).mp q)) p e R Z s mm args below meth c H locs cells slots ls hR hZ hC hI hl hS' hL h1 h2) (fun q => hkf L _ n σ (h.2 (fun r => q ((pb_eq0 hy).mpr r))) p e R Z s mm args below meth c H locs cells slots ls hR hZ hC hI hl hS' hL h1 h2)
  · exact h.elim
theorem pb_s_icmp_eq {x : pb_E} {m n0 : Nat} {Q : pb_P} {pc : Nat} {off : Int} {tgt : Nat} {kt kf : pb_K} (hd : decode (pb_code m) pc = .ok (.if_icmp .eq off, 3)) (ht : (pc : Int) + off = (tgt : Int)) (hkt : pb_le kt (pb_WJ x m n0 Q tgt)) (hkf : pb_le kf (pb_WJ x m n0 Q (pc + 3))) : pb_le (pb_icmp (fun y z => y = z) kt kf) (pb_WJ x m n0 Q pc) := by
  intro L S n σ h p e R Z s mm args below meth c H locs cells slots ls hR hZ hC hI hl hS hL h1 h2
  unfold pb_icmp at h
  split at h
  · obtain ⟨hz, hS'⟩ := List.forall_mem_cons.mp hS
    obtain ⟨hy, hS'⟩ := List.forall_mem_cons.mp hS'
    exact lv_icmp_eq hC.1 hC.2.1 hd ht (fun q => hkt L _ n σ (h.1 ((pb_eqI hy hz).mp q)) p e R Z s mm args below meth c H locs cells slots ls hR hZ hC hI hl hS' hL h1 h2) (fun q => hkf L _ n σ (h.2 (fun r => q ((pb_eqI hy hz).mpr r))) p e R Z s mm args below meth c H locs cells slots ls hR hZ hC hI hl hS' hL h1 h2)
  · exact h.elim
theorem pb_s_if_ne {x : pb_E} {m n0 : Nat} {Q : pb_P} {pc : Nat} {off : Int} {tgt : Nat} {kt kf : pb_K} (hd : decode (pb_code m) pc = .ok (.ifCond .ne off, 3)) (ht : (pc : Int) + off = (tgt : Int)) (hkt : pb_le kt (pb_WJ x m n0 Q tgt)) (hkf : pb_le kf (pb_WJ x m n0 Q (pc + 3))) : pb_le (pb_if (fun y => ¬ y = 0) kt kf) (pb_WJ x m n0 Q pc) := by
  intro L S n σ h p e R Z s mm args below meth c H locs cells slots ls hR hZ hC hI hl hS hL h1 h2
  unfold pb_if at h
  split at h
  · obtain ⟨hy, hS'⟩ := List.forall_mem_cons.mp hS
    exact lv_if_ne hC.1 hC.2.1 hd ht (fun q => hkt L _ n σ (h.1 ((not_congr (pb_eq0 hy)).mp q)) p e R Z s mm args below meth c H locs cells slots ls hR hZ hC hI hl hS' hL h1 h2) (fun q => hkf L _ n σ (h.2 (fun r => r ((pb_eq0 hy).mp q))) p e R Z s mm args below meth c H locs cells slots ls hR hZ hC hI hl hS' hL h1 h2)
  · exact h.elim
theorem pb_s_icmp_ne {x : pb_E} {m n0 : Nat} {Q : pb_P} {pc : Nat} {off : Int} {tgt : Nat} {kt kf : pb_K} (hd : decode (pb_code m) pc = .ok (.if_icmp .ne off, 3)) (ht : (pc : Int) + off = (tgt : Int)) (hkt : pb_le kt (pb_WJ x m n0 Q tgt)) (hkf : pb_le kf (pb_WJ x m n0 Q (pc + 3))) : pb_le (pb_icmp (fun y z => ¬ y = z) kt kf) (pb_WJ x m n0 Q pc) := by
  intro L S n σ h p e R Z s mm args below meth c H locs cells slots ls hR hZ hC hI hl hS hL h1 h2
  unfold pb_icmp at h
  split at h
  · obtain ⟨hz, hS'⟩ := List.forall_mem_cons.mp hS
    obtain ⟨hy, hS'⟩ := List.forall_mem_cons.mp hS'
    exact lv_icmp_ne hC.1 hC.2.1 hd ht (fun q => hkt L _ n σ (h.1 ((not_congr (pb_eqI hy hz)).mp q)) p e R Z s mm args below meth c H locs cells slots ls hR hZ hC hI hl hS' hL h1 h2) (fun q => hkf L _ n σ (h.2 (fun r => r ((pb_eqI hy hz).mp q))) p e R Z s mm args below meth c H locs cells slots ls hR hZ hC hI hl hS' hL h1 h2)
  · exact h.elim
theorem pb_s_if_lt {x : pb_E} {m n0 : Nat} {Q : pb_P} {pc : Nat} {off : Int} {tgt : Nat} {kt kf : pb_K} (hd : decode (pb_code m) pc = .ok (.ifCond .lt off, 3)) (ht : (pc : Int) + off = (tgt : Int)) (hkt : pb_le kt (pb_WJ x m n0 Q tgt)) (hkf : pb_le kf (pb_WJ x m n0 Q (pc + 3))) : pb_le (pb_if (fun y => y < 0) kt kf) (pb_WJ x m n0 Q pc) := by
  intro L S n σ h p e R Z s mm args below meth c H locs cells slots ls hR hZ hC hI hl hS hL h1 h2
  unfold pb_if at h
  split at h
  · obtain ⟨hy, hS'⟩ := List.forall_mem_cons.mp hS
    exact lv_if_lt hC.1 hC.2.1 hd ht (fun q => hkt L _ n σ (h.1 ((pb_lt0 hy).mp q)) p e R Z s mm args below meth c H locs cells slots ls hR hZ hC hI hl hS' hL h1 h2) (fun q => hkf L _ n σ (h.2 (fun r => q ((pb_lt0 hy).mpr r))) p e R Z s mm args below meth c H locs cells slots ls hR hZ hC hI hl hS' hL h1 h2)
  · exact h.elim
theorem pb_s_icmp_lt {x : pb_E} {m n0 : Nat} {Q : pb_P} {pc : Nat} {off : Int} {tgt : Nat} {kt kf : pb_K} (hd : decode (pb_code m) pc = .ok (.if_icmp .lt off, 3)) (ht : (pc : Int) + off = (tgt : Int)) (hkt : pb_le kt (pb_WJ x m n0 Q tgt)) (hkf : pb_le kf (pb_WJ x m n0 Q (pc + 3))) : pb_le (pb_icmp (fun y z => y < z) kt kf) (pb_WJ x m n0 Q pc) := by
  intro L S n σ h p e R Z s mm args below meth c H locs cells slots ls hR hZ hC hI hl hS hL h1 h2
  unfold pb_icmp at h
  split at h
  · obtain ⟨hz, hS'⟩ := List.forall_mem_cons.mp hS
    obtain ⟨hy, hS'⟩ := List.forall_mem_cons.mp hS'
    exact lv_icmp_lt hC.1 hC.2.1 hd ht (fun q => hkt L _ n σ (h.1 ((pb_ltI hy hz).mp q)) p e R Z s mm args below meth c H locs cells slots ls hR hZ hC hI hl hS' hL h1 h2) (fun q => hkf L _ n σ (h.2 (fun r => q ((pb_ltI hy hz).mpr r))) p e R Z s mm args below meth c H locs cells slots ls hR hZ hC hI hl hS' hL h1 h2)
  · exact h.elim
theorem pb_s_if_ge {x : pb_E} {m n0 : Nat} {Q : pb_P} {pc : Nat} {off : Int} {tgt : Nat} {kt kf : pb_K} (hd : decode (pb_code m) pc = .ok (.ifCond .ge off, 3)) (ht : (pc : Int) + off = (tgt : Int)) (hkt : pb_le kt (pb_WJ x m n0 Q tgt)) (hkf : pb_le kf (pb_WJ x m n0 Q (pc + 3))) : pb_le (pb_if (fun y => 0 ≤ y) kt kf) (pb_WJ x m n0 Q pc) := by
  intro L S n σ h p e R Z s mm args below meth c H locs cells slots ls hR hZ hC hI hl hS hL h1 h2
  unfold pb_if at h
  split at h
  · obtain ⟨hy, hS'⟩ := List.forall_mem_cons.mp hS
    exact lv_if_ge hC.1 hC.2.1 hd ht (fun q => hkt L _ n σ (h.1 ((pb_ge0 hy).mp q)) p e R Z s mm args below meth c H locs cells slots ls hR hZ hC hI hl hS' hL h1 h2) (fun q => hkf L _ n σ (h.2 (fun r => q ((pb_ge0 hy).mpr r))) p e R Z s mm args below meth c H locs cells slots ls hR hZ hC hI hl hS' hL h1 h2)
  · exact h.elim
theorem pb_s_icmp_ge {x : pb_E} {m n0 : Nat} {Q : pb_P} {pc : Nat} {off : Int} {tgt : Nat} {kt kf : pb_K} (hd : decode (pb_code m) pc = .ok (.if_icmp .ge off, 3)) (ht : (pc : Int) + off = (tgt : Int)) (hkt : pb_le kt (pb_WJ x m n0 Q tgt)) (hkf : pb_le kf (pb_WJ x m n0 Q (pc + 3))) : pb_le (pb_icmp (fun y z => z ≤ y) kt kf) (pb_WJ x m n0 Q pc) := by
  intro L S n σ h p e R Z s mm args below meth c H locs cells slots ls hR hZ hC hI hl hS hL h1 h2
  unfold pb_icmp at h
  split at h
  · obtain ⟨hz, hS'⟩ := List.forall_mem_cons.mp hS
    obtain ⟨hy, hS'⟩ := List.forall_mem_cons.mp hS'
    exact lv_icmp_ge hC.1 hC.2.1 hd ht (fun q => hkt L _ n σ (h.1 ((pb_leI hz hy).mp q)) p e R Z s mm args below meth c H locs cells slots ls hR hZ hC hI hl hS' hL h1 h2) (fun q => hkf L _ n σ (h.2 (fun r => q ((pb_leI hz hy).mpr r))) p e R Z s mm args below meth c H locs cells slots ls hR hZ hC hI hl hS' hL h1 h2)
  · exact h.elim
theorem pb_s_if_gt {x : pb_E} {m n0 : Nat} {Q : pb_P} {pc : Nat} {off : Int} {tgt : Nat} {kt kf : pb_K} (hd : decode (pb_code m) pc = .ok (.ifCond .gt off, 3)) (ht : (pc : Int) + off = (tgt : Int)) (hkt : pb_le kt (pb_WJ x m n0 Q tgt)) (hkf : pb_le kf (pb_WJ x m n0 Q (pc + 3))) : pb_le (pb_if (fun y => 0 < y) kt kf) (pb_WJ x m n0 Q pc) := by
  intro L S n σ h p e R Z s mm args below meth c H locs cells slots ls hR hZ hC hI hl hS hL h1 h2
  unfold pb_if at h
  split at h
  · obtain ⟨hy, hS'⟩ := List.forall_mem_cons.mp hS
    exact lv_if_gt hC.1 hC.2.1 hd ht (fun q => hkt L _ n σ (h.1 ((pb_gt0 hy).mp q)) p e R Z s mm args below meth c H locs cells slots ls hR hZ hC hI hl hS' hL h1 h2) (fun q => hkf L _ n σ (h.2 (fun r => q ((pb_gt0 hy).mpr r))) p e R Z s mm args below meth c H locs cells slots ls hR hZ hC hI hl hS' hL h1 h2)
  · exact h.elim
theorem pb_s_icmp_gt {x : pb_E} {m n0 : Nat} {Q : pb_P} {pc : Nat} {off : Int} {tgt : Nat} {kt kf : pb_K} (hd : decode (pb_code m) pc = .ok (.if_icmp .gt off, 3)) (ht : (pc : Int) + off = (tgt : Int)) (hkt : pb_le kt (pb_WJ x m n0 Q tgt)) (hkf : pb_le kf (pb_WJ x m n0 Q (pc + 3))) : pb_le (pb_icmp (fun y z => z < y) kt kf) (pb_WJ x m n0 Q pc) := by
  intro L S n σ h p e R Z s mm args below meth c H locs cells slots ls hR hZ hC hI hl hS hL h1 h2
  unfold pb_icmp at h
  split at h
  · obtain ⟨hz, hS'⟩ := List.forall_mem_cons.mp hS
    obtain ⟨hy, hS'⟩ := List.forall_mem_cons.mp hS'
    exact lv_icmp_gt hC.1 hC.2.1 hd ht (fun q => hkt L _ n σ (h.1 ((pb_ltI hz hy).mp q)) p e R Z s mm args below meth c H locs cells slots ls hR hZ hC hI hl hS' hL h1 h2) (fun q => hkf L _ n σ (h.2 (fun r => q ((pb_ltI hz hy).mpr r))) p e R Z s mm args below meth c H locs cells slots ls hR hZ hC hI hl hS' hL h1 h2)
  · exact h.elim
theorem pb_s_if_le {x : pb_E} {m n0 : Nat} {Q : pb_P} {pc : Nat} {off : Int} {tgt : Nat} {kt kf : pb_K} (hd : decode (pb_code m) pc = .ok (.ifCond .le off, 3)) (ht : (pc : Int) + off = (tgt : Int)) (hkt : pb_le kt (pb_WJ x m n0 Q tgt)) (hkf : pb_le kf (pb_WJ x m n0 Q (pc + 3))) : pb_le (pb_if (fun y => y ≤ 0) kt kf) (pb_WJ x m n0 Q pc) := by
  intro L S n σ h p e R Z s mm args below meth c H locs cells slots ls hR hZ hC hI hl hS hL h1 h2
  unfold pb_if at h
  split at h
  · obtain ⟨hy, hS'⟩ := List.forall_mem_cons.mp hS
    exact lv_if_le hC.1 hC.2.1 hd ht (fun q => hkt L _ n σ (h.1 ((pb_le0 hy).mp q)) p e R Z s mm args below meth c H locs cells slots ls hR hZ hC hI hl hS' hL h1 h2) (fun q => hkf L _ n σ (h.2 (fun r => q ((pb_le0 hy).mpr r))) p e R Z s mm args below meth c H locs cells slots ls hR hZ hC hI hl hS' hL h1 h2)
  · exact h.elim
theorem pb_s_icmp_le {x : pb_E} {m n0 : Nat} {Q : pb_P} {pc : Nat} {off : Int} {tgt : Nat} {kt kf : pb_K} (hd : decode (pb_code m) pc = .ok (.if_icmp .le off, 3)) (ht : (pc : Int) + off = (tgt : Int)) (hkt : pb_le kt (pb_WJ x m n0 Q tgt)) (hkf : pb_le kf (pb_WJ x m n0 Q (pc + 3))) : pb_le (pb_icmp (fun y z => y ≤ z) kt kf) (pb_WJ x m n0 Q pc) := by
  intro L S n σ h p e R Z s mm args below meth c H locs cells slots ls hR hZ hC hI hl hS hL h1 h2
  unfold pb_icmp at h
  split at h
  · obtain ⟨hz, hS'⟩ := List.forall_mem_cons.mp hS
    obtain ⟨hy, hS'⟩ := List.forall_mem_cons.mp hS'
    exact lv_icmp_le hC.1 hC.2.1 hd ht (fun q => hkt L _ n σ (h.1 ((pb_leI hy hz).mp q)) p e R Z s mm args below meth c H locs cells slots ls hR hZ hC hI hl hS' hL h1 h2) (fun q => hkf L _ n σ (h.2 (fun r => q ((pb_leI hy hz).mpr r))) p e R Z s mm args below meth c H locs cells slots ls hR hZ hC hI hl hS' hL h1 h2)
  · exact h.elim
theorem pb_s_goto {x : pb_E} {m n0 : Nat} {Q : pb_P} {pc : Nat} {off : Int} {tgt : Nat} {k : pb_K} (hd : decode (pb_code m) pc = .ok (.goto off, 3)) (ht : (pc : Int) + off = (tgt : Int)) (hk : pb_le k (pb_WJ x m n0 Q tgt)) : pb_le (k) (pb_WJ x m n0 Q pc) := by
  intro L S n σ h p e R Z s mm args below meth c H locs cells slots ls hR hZ hC hI hl hS hL h1 h2
  exact lv_goto hC.1 hC.2.1 hd ht (hk L _ n σ h p e R Z s mm args below meth c H locs cells slots ls hR hZ hC hI hl hS hL h1 h2)
theorem pb_s_ifnull {x : pb_E} {m n0 : Nat} {Q : pb_P} {pc : Nat} {off : Int} {tgt : Nat} {kt kf : pb_K} (hd : decode (pb_code m) pc = .ok (.ifnull off, 3)) (ht : (pc : Int) + off = (tgt : Int)) (hkt : pb_le kt (pb_WJ x m n0 Q tgt)) (hkf : pb_le kf (pb_WJ x m n0 Q (pc + 3))) : pb_le (pb_ifnull kt kf) (pb_WJ x m n0 Q pc) := by
  intro L S n σ h p e R Z s mm args below meth c H locs cells slots ls hR hZ hC hI hl hS hL h1 h2
  unfold pb_ifnull at h
  split at h
  · rename_i y S'
    obtain ⟨hy, hS'⟩ := List.forall_mem_cons.mp hS
    rw [List.map_cons]
    by_cases hn : y < 0
    · rw [pb_e_neg hn]
      exact lv_ifnullN hC.1 hC.2.1 hd ht (hkt L _ n σ (h.1 hn) p e R Z s mm args below meth c H locs cells slots ls hR hZ hC hI hl hS' hL h1 h2)
    · rw [pb_e_ref hn]
      exact lv_ifnull hC.1 hC.2.1 hd (hkf L _ n σ (h.2 hn) p e R Z s mm args below meth c H locs cells slots ls hR hZ hC hI hl hS' hL h1 h2)
  · exact h.elim
theorem pb_s_ifnonnull {x : pb_E} {m n0 : Nat} {Q : pb_P} {pc : Nat} {off : Int} {tgt : Nat} {kt kf : pb_K} (hd : decode (pb_code m) pc = .ok (.ifnonnull off, 3)) (ht : (pc : Int) + off = (tgt : Int)) (hkt : pb_le kt (pb_WJ x m n0 Q tgt)) (hkf : pb_le kf (pb_WJ x m n0 Q (pc + 3))) : pb_le (pb_ifnull kf kt) (pb_WJ x m n0 Q pc) := by
  intro L S n σ h p e R Z s mm args below meth c H locs cells slots ls hR hZ hC hI hl hS hL h1 h2
  unfold pb_ifnull at h
  split at h
  · rename_i y S'
    obtain ⟨hy, hS'⟩ := List.forall_mem_cons.mp hS
    rw [List.map_cons]
    by_cases hn : y < 0
    · rw [pb_e_neg hn]
      exact lv_ifnonnullN hC.1 hC.2.1 hd (hkf L _ n σ (h.1 hn) p e R Z s mm args below meth c H locs cells slots ls hR hZ hC hI hl hS' hL h1 h2)
    · rw [pb_e_ref hn]
      exact lv_ifnonnull hC.1 hC.2.1 hd ht (hkt L _ n σ (h.2 hn) p e R Z s mm args below meth c H locs cells slots ls hR hZ hC hI hl hS' hL h1 h2)
  · exact h.elim
