/-! calls -/
theorem pb_tk_spec : ∀ (j : Nat) (a S r S' : List pb_V), pb_tk j a S = some (r, S') → ∃ pre, S = pre ++ S' ∧ r = pre.reverse ++ a ∧ pre.length = j
  | 0, a, S, r, S', h => by
    simp only [pb_tk, Option.some.injEq, Prod.mk.injEq] at h
    exact ⟨[], by rw [h.2]; rfl, by rw [h.1]; rfl, rfl⟩
  | j + 1, a, v :: S, r, S', h => by
    obtain ⟨pre, h1, h2, h3⟩ := pb_tk_spec j (v :: a) S r S' h
    exact ⟨v :: pre, by rw [h1]; rfl, by rw [h2]; simp, by rw [List.length_cons, h3]⟩
  | j + 1, a, [], r, S', h => by simp [pb_tk] at h
def pb_mok (m na : Nat) : Prop := Cond.code (pb_y m) (pb_code m) (pb_mx m) (pb_rt m) ∈ pb_ALL ∧ ((pb_y m).cls ≠ "java/lang/invoke/MethodHandle" ∧ (pb_y m).cls ≠ "java/lang/invoke/VarHandle" ∧ (parseMethodDescriptor (pb_y m).desc).map (fun d => d.parameters.length) = some na) ∧ True ∧ Cond.initialized (pb_y m).cls ∈ pb_ALL
def pb_cv (x : pb_E) (m na ci : Nat) (k : pb_K) : pb_K := fun L S n σ => match pb_tk (na + 1) [] S with
  | some (.inr p :: As, S') => pb_is ci n p ∧ S'.length ≤ 8 ∧ pb_MJ x m (.inr p :: As) n σ (fun _ σ' => k L S' n σ')
  | _ => False
def pb_cr (x : pb_E) (m na ci : Nat) (k : pb_K) : pb_K := fun L S n σ => match pb_tk (na + 1) [] S with
  | some (.inr p :: As, S') => pb_is ci n p ∧ S'.length ≤ 8 ∧ pb_MJ x m (.inr p :: As) n σ (fun v σ' => k L (v :: S') n σ')
  | _ => False
def pb_sv (x : pb_E) (m na : Nat) (k : pb_K) : pb_K := fun L S n σ => match pb_tk na [] S with
  | some (As, S') => S'.length ≤ 8 ∧ pb_MJ x m As n σ (fun _ σ' => k L S' n σ')
  | _ => False
def pb_sr (x : pb_E) (m na : Nat) (k : pb_K) : pb_K := fun L S n σ => match pb_tk na [] S with
  | some (As, S') => S'.length ≤ 8 ∧ pb_MJ x m As n σ (fun v σ' => k L (v :: S') n σ')
  | _ => False
/-- a constructor that makes a number of cells -/
def pb_ci (x : pb_E) (lim m na mc : Nat) (k : pb_K) : pb_K := fun L S n σ => match pb_tk (na + 1) [] S with
  | some (.inr p :: As, S') => (0 ≤ p ∧ p < n) ∧ n + mc ≤ lim ∧ n < 900000 ∧ S'.length ≤ 8 ∧ pb_MJ x m (.inr p :: As) n σ (fun _ σ' => k L S' (n + mc) σ')
  | _ => False
section PBC
variable {x : pb_E} {m n0 : Nat} {Q : pb_P} {pc : Nat} {k : pb_K}
theorem pb_goodIn {m' na : Nat} (hm : pb_mok m' na) : GoodIn pb_ALL (pb_wd m') := by
  intro w hw
  rcases List.mem_cons.mp hw with rfl | hw
  · exact ⟨hm.1, pb_good _ hm.1⟩
  · exact ⟨hw, pb_good _ hw⟩
theorem pb_blind (As : List pb_V) (n : Nat) (σ : pb_H) : FrameBlind (pb_Pc x As n σ) := by
  intro a U g mk hq
  obtain ⟨q0, q1, q2, q3, ⟨q4, q5, q6, q7, q9⟩, q8⟩ := hq
  exact ⟨q0, q1, va_K.moved (u := U) (U := U.calling g mk a) (Vm.Alike.refl U.vm) q2, q3, ⟨q4, q5, va_X.moved (u := U) (U := U.calling g mk a) (Vm.Alike.refl U.vm) q6, q7, pb_Nx.same (u := U) (U := U.calling g mk a) rfl q9⟩, q8⟩
theorem pb_at {s U : State} {H : Heap} {n : Nat} {σ : pb_H} {locs : List Loc} {As : List pb_V} {av : Array Value} (hI : pb_In x s H n σ locs) (hsz : H.size = x.2.2.2.1 + n) (hAs : ∀ v ∈ As, pb_vR v) (hav : av = (As.map (pb_e x)).toArray) (hU : U.heap = H) (hW : s.WarmedH U.vm) : pb_Pc x As n σ av U := by
  obtain ⟨i1, i2, i3, ⟨i4, i5, i6, i7, i9⟩, i8⟩ := hI
  refine ⟨hav, hAs, va_K.moved hW.alike i1, by rw [hU]; exact i2, ⟨by rw [hU]; exact hsz, i5, ?_, i7, i9.warm hW⟩, i8⟩
  refine va_X.moved hW.alike (va_X.kept i6 ?_)
  rw [hU]
  exact i3.2.1 _ (Nat.lt_of_lt_of_le i7 i4) (Nat.not_le.mpr i7)
theorem pb_goon {p : Program} {e : Env} {R : Room} {s : State} {mm : MethodId} {args a : Array Value} {below : List Frame} {meth : Method} {c : Code} {H : Heap} {locs : List Loc} {cells slots : Nat} {Qs : State → Prop} {ls : Array Slot} {st0 rest : List Value} {m' n : Nat} {σ : pb_H} {Q' : pb_P}
    (hr : va_Run p x.1 e R s mm args below meth c H locs cells slots (pb_mc m') (pb_ms m') (F0 mm pc ls st0) rest (pb_Q x m' n Q' a) (fun q => x.2.2.2.1 ≤ q)) (hI : pb_In x s H n σ locs) (hn : n + pb_mc m' < 1000000)
    (kk : ∀ (v : pb_V) (σ' : pb_H) (H1 : Heap) (locs1 : List Loc), Q' v σ' → pb_vR v → pb_In x s H1 (n + pb_mc m') σ' locs1 → W p x.1 e R s mm args below meth c H1 locs1 (cells + pb_mc m') (slots + pb_ms m') Qs (F0 mm (pc + 3) ls ((if pb_vd m' = true then none else some (pb_e x v)).toList ++ rest))) : W p x.1 e R s mm args below meth c H locs cells slots Qs (F0 mm pc ls st0) := by
  intro T hT X
  obtain ⟨v, st₀, t, T', L, h0, X', hL, e1, e2, ⟨r, σ', hv, hQ, hvR, ⟨q1, q2, q3⟩, q4⟩, st⟩ := hr T hT X
  obtain rfl : v = if pb_vd m' = true then none else some (pb_e x r) := Outcome.returned.inj hv
  obtain ⟨i1, i2, i3, ⟨i4, i5, i6⟩, i8⟩ := hI
  rw [va_F, h0] at q4
  obtain ⟨t2, a1, b1⟩ := kk r σ' T'.heap (locs ++ L) hQ hvR ⟨i1, by rw [e1]; exact q2, ⟨Nat.le_trans i3.1 (by rw [e1]; exact q4.1), fun q g1 g2 => by rw [e1, q4.2 q (Nat.lt_of_lt_of_le g1 i3.1) g2]; exact i3.2.1 q g1 g2, fun q hq => by
      rcases List.mem_append.mp hq with h | h
      · exact i3.2.2 q h
      · exact hL q h⟩, ⟨i4, hn, i6⟩, q3⟩ T' rfl X'
  exact ⟨t2, st t2 a1, b1⟩
theorem pb_stk {As S S' : List pb_V} {p : Int} {j : Nat} (h : pb_tk (j + 1) [] S = some (.inr p :: As, S')) : S = As.reverse ++ .inr p :: S' ∧ As.length = j := by
  obtain ⟨pre, h1, h2, h3⟩ := pb_tk_spec _ _ _ _ _ h
  rw [List.append_nil] at h2
  have h4 : pre = (.inr p :: As).reverse := by rw [h2, List.reverse_reverse]
  refine ⟨by rw [h1, h4]; simp, ?_⟩
  have h5 := congrArg List.length h4
  rw [h3] at h5
  simpa using h5.symm
theorem pb_room {R : Room} {m' : Nat} (hrk : pb_rk m' < pb_rk m ∧ 19 + pb_mx m' + pb_lo m' ≤ pb_lo m) (hR : pb_Rm m R) : (pb_rm m').frames + 1 ≤ R.frames ∧ 8 + (pb_mx m' + 11) + (pb_rm m').locals ≤ R.locals := by
  have h1 := hR.1
  have h2 := hR.2.2.2
  refine ⟨?_, ?_⟩
  · show pb_rk m' + 1 + 1 ≤ R.frames
    omega
  · show 8 + (pb_mx m' + 11) + pb_lo m' ≤ R.locals
    omega
theorem pb_s_Vv {m' na ci idx : Nat} {C : String} {T : u_T} {N : Nat} (hd : decode (pb_code m) pc = .ok (.invokevirtual idx, 3)) (hm : pb_mok m' na) (hrk : pb_rk m' < pb_rk m ∧ 19 + pb_mx m' + pb_lo m' ≤ pb_lo m) (hmc : pb_mc m' = 0) (hvd : pb_vd m' = true) (hcl : pb_cl[ci]? = some (C, T, N)) (hci : ci < 100) (w1 : Cond.methodLink (pb_y m).cls idx (pb_y m') ∈ pb_ALL) (w2 : Cond.instanceMethod (pb_y m') ∈ pb_ALL) (w3 : Cond.selects C (pb_y m') (pb_y m') ∈ pb_ALL) (hk : pb_le k (pb_WJ x m n0 Q (pc + 3))) : pb_le (pb_cv x m' na ci k) (pb_WJ x m n0 Q pc) := by
  intro L S n σ h p e R Z s mm args below meth c H locs cells slots ls hR hZ hC hI hl hS hL h1 h2
  unfold pb_cv at h
  split at h
  · rename_i q As S' htk
    obtain ⟨hq, hlen, Q0, hQ0, hM⟩ := h
    obtain ⟨hSe, hAl⟩ := pb_stk htk
    subst hSe
    obtain ⟨g0, g1, g2⟩ := hq
    obtain ⟨j, rfl⟩ := Int.eq_ofNat_of_zero_le g0
    have hn9 := hI.2.2.2.1.2.1
    have hj : j < n := by omega
    have hts := hC.2.2.2.2.1
    have hAs : ∀ v ∈ (.inr (j : Int) :: As : List pb_V), pb_vR v := fun v hv => hS v (by simp only [List.mem_append, List.mem_reverse, List.mem_cons] at hv ⊢; rcases hv with hv | hv; exact Or.inr (Or.inl hv); exact Or.inl hv)
    have hS' : ∀ v ∈ S', pb_vR v := fun v hv => hS v (by simp only [List.mem_append, List.mem_cons]; exact Or.inr (Or.inr hv))
    refine pb_sz hI h1.1 h1.2.1 (fun hsz => ?_)
    refine pb_goon (Q' := Q0) (va_runV (As := As.map (pb_e x)) (b := x.2.2.2.1 + j) (rest := S'.map (pb_e x)) (C := C) ⟨hC.1, hC.2.1, hC.2.2.1, hC.2.2.2.1, hts⟩ hM ⟨callB_of na hts (pb_goodIn hm) rfl rfl rfl (hts _ hm.2.2.2) (hts _ w1) hm.2.1 (pb_room hrk hR), hts _ w2, hts _ w3⟩ ⟨pb_blind _ _ _, va_recv hI.1 hI.2.1 hcl ((pb_ws_at hj).trans (by rw [pb_cell_obj g2 hci])), fun U hU hW => pb_at hI hsz hAs (by rw [List.map_cons, pb_e_pos (by omega)]) hU hW⟩ rfl (by simpa using hAl) hl.1 (by show List.map _ _ = _; rw [List.map_append, List.map_cons, List.map_reverse, pb_e_pos (by omega)]) (lv_room (by rw [pb_cats]; exact hlen)) hd ⟨by have := hR.2.1; omega, by have := hR.2.2.1; show slots + 64 * pb_mc m' ≤ R.slots; omega⟩) hI (by omega) (fun v σ' H1 locs1 hQ hvR hI1 => ?_)
    have e1 : cells + pb_mc m' = cells := by omega
    have e2 : slots + pb_ms m' = slots := by show slots + 64 * pb_mc m' = slots; omega
    have e3 : n + pb_mc m' = n := by omega
    rw [e3] at hI1
    rw [e1, e2]
    rw [hvd, if_pos rfl]
    exact hk L S' n σ' (hQ0 v σ' hQ) p e R Z s mm args below meth c H1 locs1 cells slots ls hR hZ hC hI1 hl hS' hL h1 h2
  · exact h.elim
theorem pb_s_Vr {m' na ci idx : Nat} {C : String} {T : u_T} {N : Nat} (hd : decode (pb_code m) pc = .ok (.invokevirtual idx, 3)) (hm : pb_mok m' na) (hrk : pb_rk m' < pb_rk m ∧ 19 + pb_mx m' + pb_lo m' ≤ pb_lo m) (hmc : pb_mc m' = 0) (hvd : pb_vd m' = false) (hcl : pb_cl[ci]? = some (C, T, N)) (hci : ci < 100) (w1 : Cond.methodLink (pb_y m).cls idx (pb_y m') ∈ pb_ALL) (w2 : Cond.instanceMethod (pb_y m') ∈ pb_ALL) (w3 : Cond.selects C (pb_y m') (pb_y m') ∈ pb_ALL) (hk : pb_le k (pb_WJ x m n0 Q (pc + 3))) : pb_le (pb_cr x m' na ci k) (pb_WJ x m n0 Q pc) := by
  intro L S n σ h p e R Z s mm args below meth c H locs cells slots ls hR hZ hC hI hl hS hL h1 h2
  unfold pb_cr at h
  split at h
  · rename_i q As S' htk
    obtain ⟨hq, hlen, Q0, hQ0, hM⟩ := h
    obtain ⟨hSe, hAl⟩ := pb_stk htk
    subst hSe
    obtain ⟨g0, g1, g2⟩ := hq
    obtain ⟨j, rfl⟩ := Int.eq_ofNat_of_zero_le g0
    have hn9 := hI.2.2.2.1.2.1
    have hj : j < n := by omega
    have hts := hC.2.2.2.2.1
    have hAs : ∀ v ∈ (.inr (j : Int) :: As : List pb_V), pb_vR v := fun v hv => hS v (by simp only [List.mem_append, List.mem_reverse, List.mem_cons] at hv ⊢; rcases hv with hv | hv; exact Or.inr (Or.inl hv); exact Or.inl hv)
    have hS' : ∀ v ∈ S', pb_vR v := fun v hv => hS v (by simp only [List.mem_append, List.mem_cons]; exact Or.inr (Or.inr hv))
    refine pb_sz hI h1.1 h1.2.1 (fun hsz => ?_)
    refine pb_goon (Q' := Q0) (va_runV (As := As.map (pb_e x)) (b := x.2.2.2.1 + j) (rest := S'.map (pb_e x)) (C := C) ⟨hC.1, hC.2.1, hC.2.2.1, hC.2.2.2.1, hts⟩ hM ⟨callB_of na hts (pb_goodIn hm) rfl rfl rfl (hts _ hm.2.2.2) (hts _ w1) hm.2.1 (pb_room hrk hR), hts _ w2, hts _ w3⟩ ⟨pb_blind _ _ _, va_recv hI.1 hI.2.1 hcl ((pb_ws_at hj).trans (by rw [pb_cell_obj g2 hci])), fun U hU hW => pb_at hI hsz hAs (by rw [List.map_cons, pb_e_pos (by omega)]) hU hW⟩ rfl (by simpa using hAl) hl.1 (by show List.map _ _ = _; rw [List.map_append, List.map_cons, List.map_reverse, pb_e_pos (by omega)]) (lv_room (by rw [pb_cats]; exact hlen)) hd ⟨by have := hR.2.1; omega, by have := hR.2.2.1; show slots + 64 * pb_mc m' ≤ R.slots; omega⟩) hI (by omega) (fun v σ' H1 locs1 hQ hvR hI1 => ?_)
    have e1 : cells + pb_mc m' = cells := by omega
    have e2 : slots + pb_ms m' = slots := by show slots + 64 * pb_mc m' = slots; omega
    have e3 : n + pb_mc m' = n := by omega
    rw [e3] at hI1
    rw [e1, e2]
    rw [hvd, if_neg (by decide)]
    exact hk L (v :: S') n σ' (hQ0 v σ' hQ) p e R Z s mm args below meth c H1 locs1 cells slots ls hR hZ hC hI1 hl (List.forall_mem_cons.mpr ⟨hvR, hS'⟩) hL h1 h2
  · exact h.elim
theorem pb_s_Sr {m' na idx : Nat} (hd : decode (pb_code m) pc = .ok (.invokestatic idx, 3)) (hm : pb_mok m' na) (hrk : pb_rk m' < pb_rk m ∧ 19 + pb_mx m' + pb_lo m' ≤ pb_lo m) (hmc : pb_mc m' = 0) (hvd : pb_vd m' = false) (w1 : Cond.methodLink (pb_y m).cls idx (pb_y m') ∈ pb_ALL) (w2 : Cond.static (pb_y m') ∈ pb_ALL) (hk : pb_le k (pb_WJ x m n0 Q (pc + 3))) : pb_le (pb_sr x m' na k) (pb_WJ x m n0 Q pc) := by
  intro L S n σ h p e R Z s mm args below meth c H locs cells slots ls hR hZ hC hI hl hS hL h1 h2
  unfold pb_sr at h
  split at h
  · rename_i As S' htk
    obtain ⟨hlen, Q0, hQ0, hM⟩ := h
    obtain ⟨pre, hSe, hAe, hAl⟩ := pb_tk_spec _ _ _ _ _ htk
    rw [List.append_nil] at hAe
    obtain rfl : pre = As.reverse := by rw [hAe, List.reverse_reverse]
    subst hSe
    have hn9 := hI.2.2.2.1.2.1
    have hts := hC.2.2.2.2.1
    have hAs : ∀ v ∈ As, pb_vR v := fun v hv => hS v (by simp only [List.mem_append, List.mem_reverse]; exact Or.inl hv)
    have hS' : ∀ v ∈ S', pb_vR v := fun v hv => hS v (by simp only [List.mem_append]; exact Or.inr hv)
    refine pb_sz hI h1.1 h1.2.1 (fun hsz => ?_)
    refine pb_goon (Q' := Q0) (va_runS (As := As.map (pb_e x)) (rest := S'.map (pb_e x)) ⟨hC.1, hC.2.1, hC.2.2.1, hC.2.2.2.1, hts⟩ hM ⟨callB_of na hts (pb_goodIn hm) rfl rfl rfl (hts _ hm.2.2.2) (hts _ w1) hm.2.1 (pb_room hrk hR), hts _ w2⟩ ⟨pb_blind _ _ _, fun U hU hW => pb_at hI hsz hAs rfl hU hW⟩ rfl (by simpa using hAl) hl.1 (by show List.map _ _ = _; rw [List.map_append, List.map_reverse]) (lv_room (by rw [pb_cats]; exact hlen)) hd ⟨by have := hR.2.1; omega, by have := hR.2.2.1; show slots + 64 * pb_mc m' ≤ R.slots; omega⟩) hI (by omega) (fun v σ' H1 locs1 hQ hvR hI1 => ?_)
    have e1 : cells + pb_mc m' = cells := by omega
    have e2 : slots + pb_ms m' = slots := by show slots + 64 * pb_mc m' = slots; omega
    have e3 : n + pb_mc m' = n := by omega
    rw [e3] at hI1
    rw [e1, e2]
    rw [hvd, if_neg (by decide)]
    exact hk L (v :: S') n σ' (hQ0 v σ' hQ) p e R Z s mm args below meth c H1 locs1 cells slots ls hR hZ hC hI1 hl (List.forall_mem_cons.mpr ⟨hvR, hS'⟩) hL h1 h2
  · exact h.elim
theorem pb_s_I {lim m' na mc idx : Nat} (hd : decode (pb_code m) pc = .ok (.invokespecial idx, 3)) (hm : pb_mok m' na) (hrk : pb_rk m' < pb_rk m ∧ 19 + pb_mx m' + pb_lo m' ≤ pb_lo m) (hmc : pb_mc m' = mc) (hmc9 : mc ≤ 1000) (hrt : pb_rt m' = none) (hy1 : (pb_y m').name = "<init>") (hlim : lim = n0 + pb_mc m) (w1 : Cond.methodLink (pb_y m).cls idx (pb_y m') ∈ pb_ALL) (w2 : Cond.instanceMethod (pb_y m') ∈ pb_ALL) (hk : pb_le k (pb_WJ x m n0 Q (pc + 3))) : pb_le (pb_ci x lim m' na mc k) (pb_WJ x m n0 Q pc) := by
  intro L S n σ h p e R Z s mm args below meth c H locs cells slots ls hR hZ hC hI hl hS hL h1 h2
  unfold pb_ci at h
  split at h
  · rename_i q As S' htk
    obtain ⟨hq, hln, hn8, hlen, Q0, hQ0, hM⟩ := h
    obtain ⟨hSe, hAl⟩ := pb_stk htk
    subst hSe
    obtain ⟨g0, g1⟩ := hq
    obtain ⟨j, rfl⟩ := Int.eq_ofNat_of_zero_le g0
    have hn9 := hI.2.2.2.1.2.1
    have hj : j < n := by omega
    have hts := hC.2.2.2.2.1
    have hAs : ∀ v ∈ (.inr (j : Int) :: As : List pb_V), pb_vR v := fun v hv => hS v (by simp only [List.mem_append, List.mem_reverse, List.mem_cons] at hv ⊢; rcases hv with hv | hv; exact Or.inr (Or.inl hv); exact Or.inl hv)
    have hS' : ∀ v ∈ S', pb_vR v := fun v hv => hS v (by simp only [List.mem_append, List.mem_cons]; exact Or.inr (Or.inr hv))
    have hwd : pb_wd m' = Cond.code (pb_y m') (pb_code m') (pb_mx m') none :: pb_ALL := by rw [← hrt]; rfl
    refine pb_sz hI h1.1 h1.2.1 (fun hsz => ?_)
    refine pb_goon (Q' := Q0) (va_runI (As := As.map (pb_e x)) (b := x.2.2.2.1 + j) (rest := S'.map (pb_e x)) ⟨hC.1, hC.2.1, hC.2.2.1, hC.2.2.2.1, hts⟩ hM ⟨callB_of na hts (pb_goodIn hm) hwd rfl rfl (hts _ hm.2.2.2) (hts _ w1) hm.2.1 (pb_room hrk hR), hy1, hts _ w2⟩ ⟨pb_blind _ _ _, fun U hU hW => pb_at hI hsz hAs (by rw [List.map_cons, pb_e_pos (by omega)]) hU hW⟩ rfl (by simpa using hAl) hl.1 (by show List.map _ _ = _; rw [List.map_append, List.map_cons, List.map_reverse, pb_e_pos (by omega)]) (lv_room (by rw [pb_cats]; exact hlen)) hd ⟨by have := hR.2.1; omega, by have := hR.2.2.1; show slots + 64 * pb_mc m' ≤ R.slots; omega⟩) hI (by omega) (fun v σ' H1 locs1 hQ hvR hI1 => ?_)
    have hvd : pb_vd m' = true := by unfold pb_vd; rw [hrt]; rfl
    rw [hvd, if_pos rfl]
    have e2 : slots + pb_ms m' = 64 * (cells + pb_mc m') := by show slots + 64 * pb_mc m' = _; omega
    rw [e2]
    rw [hmc] at hI1 ⊢
    exact hk L S' (n + mc) σ' (hQ0 v σ' hQ) p e R Z s mm args below meth c H1 locs1 (cells + mc) _ ls hR hZ hC hI1 hl hS' hL ⟨by omega, h1.2.1, by omega⟩ rfl
  · exact h.elim
theorem pb_s_IN {lim m' na mc idx : Nat} {host : String} (hd : decode (pb_code m) pc = .ok (.invokespecial idx, 3)) (hm : pb_mok m' na) (hrk : pb_rk m' < pb_rk m ∧ 19 + pb_mx m' + pb_lo m' ≤ pb_lo m) (hmc : pb_mc m' = mc) (hmc9 : mc ≤ 1000) (hrt : pb_rt m' = none) (hy1 : (pb_y m').name = "<init>") (hlim : lim = n0 + pb_mc m) (w1 : ((pb_y m).cls, idx, pb_y m', host) ∈ pb_nest) (w2 : Cond.instanceMethod (pb_y m') ∈ pb_ALL) (hk : pb_le k (pb_WJ x m n0 Q (pc + 3))) : pb_le (pb_ci x lim m' na mc k) (pb_WJ x m n0 Q pc) := by
  intro L S n σ h p e R Z s mm args below meth c H locs cells slots ls hR hZ hC hI hl hS hL h1 h2
  unfold pb_ci at h
  split at h
  · rename_i q As S' htk
    obtain ⟨hq, hln, hn8, hlen, Q0, hQ0, hM⟩ := h
    obtain ⟨hSe, hAl⟩ := pb_stk htk
    subst hSe
    obtain ⟨g0, g1⟩ := hq
    obtain ⟨j, rfl⟩ := Int.eq_ofNat_of_zero_le g0
    have hn9 := hI.2.2.2.1.2.1
    have hj : j < n := by omega
    have hts := hC.2.2.2.2.1
    have hAs : ∀ v ∈ (.inr (j : Int) :: As : List pb_V), pb_vR v := fun v hv => hS v (by simp only [List.mem_append, List.mem_reverse, List.mem_cons] at hv ⊢; rcases hv with hv | hv; exact Or.inr (Or.inl hv); exact Or.inl hv)
    have hS' : ∀ v ∈ S', pb_vR v := fun v hv => hS v (by simp only [List.mem_append, List.mem_cons]; exact Or.inr (Or.inr hv))
    have hwd : pb_wd m' = Cond.code (pb_y m') (pb_code m') (pb_mx m') none :: pb_ALL := by rw [← hrt]; rfl
    refine pb_sz hI h1.1 h1.2.1 (fun hsz => ?_)
    refine pb_goon (Q' := Q0) (va_runIN (As := As.map (pb_e x)) (b := x.2.2.2.1 + j) (rest := S'.map (pb_e x)) ⟨hC.1, hC.2.1, hC.2.2.1, hC.2.2.2.1, hts⟩ hM ⟨va_cnB na hts (pb_goodIn hm) hwd rfl rfl (hI.2.2.2.1.2.2.2.2.1 _ w1) (hts _ hm.2.2.2) hm.2.1 (pb_room hrk hR), hy1, hts _ w2⟩ ⟨pb_blind _ _ _, fun U hU hW => pb_at hI hsz hAs (by rw [List.map_cons, pb_e_pos (by omega)]) hU hW⟩ rfl (by simpa using hAl) hl.1 (by show List.map _ _ = _; rw [List.map_append, List.map_cons, List.map_reverse, pb_e_pos (by omega)]) (lv_room (by rw [pb_cats]; exact hlen)) hd ⟨by have := hR.2.1; omega, by have := hR.2.2.1; show slots + 64 * pb_mc m' ≤ R.slots; omega⟩) hI (by omega) (fun v σ' H1 locs1 hQ hvR hI1 => ?_)
    have hvd : pb_vd m' = true := by unfold pb_vd; rw [hrt]; rfl
    rw [hvd, if_pos rfl]
    have e2 : slots + pb_ms m' = 64 * (cells + pb_mc m') := by show slots + 64 * pb_mc m' = _; omega
    rw [e2]
    rw [hmc] at hI1 ⊢
    exact hk L S' (n + mc) σ' (hQ0 v σ' hQ) p e R Z s mm args below meth c H1 locs1 (cells + mc) _ ls hR hZ hC hI1 hl hS' hL ⟨by omega, h1.2.1, by omega⟩ rfl
  · exact h.elim
end PBC
