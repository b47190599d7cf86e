/-! the heap: a cell for each number below n -/
def pb_cell (x : pb_E) (σ : pb_H) (i : Nat) : va_E :=
  if pb_kd i < 100 then .inr (pb_kd i, (List.range (pb_N (pb_kd i))).map (fun k => pb_c x (pb_ft (pb_kd i) k) (σ (1 + 100 * pb_kd i + k) i 0)))
  else if pb_kd i < 102 then .inl (x.2.2.1 (pb_kd i - 100), (pb_ln i).toNat, .inl (fun j => Int32.ofInt (σ 0 i j)))
  else .inl (x.2.2.1 (pb_kd i - 100), (pb_ln i).toNat, .inr (.inr (.inr (.inr (fun j => pb_o x (σ 0 i j))))))
def pb_ws (x : pb_E) (n : Nat) (σ : pb_H) : va_W := (List.range n).map (fun i => (x.2.2.2.1 + i, pb_cell x σ i))
theorem pb_ws_at {x : pb_E} {n : Nat} {σ : pb_H} {i : Nat} (h : i < n) : (pb_ws x n σ)[i]? = some (x.2.2.2.1 + i, pb_cell x σ i) := by
  unfold pb_ws
  rw [List.getElem?_map, List.getElem?_range h]
  rfl
theorem pb_ws_in {x : pb_E} {n : Nat} {σ : pb_H} {i : Nat} {q : Nat × va_E} (h : (pb_ws x n σ)[i]? = some q) : i < n ∧ q = (x.2.2.2.1 + i, pb_cell x σ i) := by
  have hl : i < n := by
    have h1 := (List.getElem?_eq_some_iff.mp h).1
    unfold pb_ws at h1
    simpa using h1
  rw [pb_ws_at hl] at h
  exact ⟨hl, (Option.some.inj h).symm⟩
theorem pb_D {x : pb_E} {n : Nat} {σ : pb_H} : va_D (fun q => x.2.2.2.1 ≤ q) (pb_ws x n σ) := by
  refine ⟨fun i j p q hi hj h => ?_, fun k q hk => ?_⟩
  · obtain ⟨-, rfl⟩ := pb_ws_in hi
    obtain ⟨-, rfl⟩ := pb_ws_in hj
    dsimp only at h
    omega
  · obtain ⟨-, rfl⟩ := pb_ws_in hk
    dsimp only
    omega
theorem pb_ws_set {x : pb_E} {n : Nat} {σ σ' : pb_H} {i : Nat} (hi : i < n) (hs : ∀ j, j ≠ i → pb_cell x σ' j = pb_cell x σ j) {a : Nat} {c : va_E} (ha : a = x.2.2.2.1 + i) (hc : c = pb_cell x σ' i) : (pb_ws x n σ).set i (a, c) = pb_ws x n σ' := by
  subst ha hc
  apply List.ext_getElem?
  intro j
  by_cases hj : j = i
  · subst hj
    rw [pb_ws_at hi, List.getElem?_set_self (by unfold pb_ws; simpa using hi)]
  · rw [List.getElem?_set_ne (Ne.symm hj)]
    unfold pb_ws
    rw [List.getElem?_map, List.getElem?_map]
    cases h : (List.range n)[j]? with
    | none => rfl
    | some k =>
      have hk : k = j := by
        have h1 := List.getElem?_eq_some_iff.mp h
        obtain ⟨h2, h3⟩ := h1
        rw [List.getElem_range] at h3
        exact h3.symm
      subst hk
      simp only [Option.map_some, hs k hj]
theorem pb_cell_other {x : pb_E} {σ : pb_H} {f : Nat} {p i v : Int} {j : Nat} (h : (j : Int) ≠ p) : pb_cell x (pb_up σ f p i v) j = pb_cell x σ j := by
  have e : ∀ f' i', pb_up σ f p i v f' j i' = σ f' j i' := by
    intro f' i'
    unfold pb_up
    rw [if_neg]
    rintro ⟨-, h2, -⟩
    exact h h2
  unfold pb_cell
  simp only [e]
theorem pb_cell_obj {x : pb_E} {σ : pb_H} {i ci : Nat} (h : pb_kd i = ci) (hc : ci < 100) : pb_cell x σ i = .inr (ci, (List.range (pb_N ci)).map (fun k => pb_c x (pb_ft ci k) (σ (1 + 100 * ci + k) i 0))) := by
  unfold pb_cell
  rw [h, if_pos hc]
theorem pb_cell_int {x : pb_E} {σ : pb_H} {i a : Nat} (h : pb_kd i = a) (h1 : 100 ≤ a) (h2 : a < 102) : pb_cell x σ i = .inl (x.2.2.1 (a - 100), (pb_ln i).toNat, .inl (fun j => Int32.ofInt (σ 0 i j))) := by
  unfold pb_cell
  rw [h, if_neg (by omega), if_pos h2]
theorem pb_cell_ref {x : pb_E} {σ : pb_H} {i a : Nat} (h : pb_kd i = a) (h1 : 102 ≤ a) : pb_cell x σ i = .inl (x.2.2.1 (a - 100), (pb_ln i).toNat, .inr (.inr (.inr (.inr (fun j => pb_o x (σ 0 i j)))))) := by
  unfold pb_cell
  rw [h, if_neg (by omega), if_neg (by omega)]
theorem pb_cell_putF {x : pb_E} {σ : pb_H} {ci k : Nat} {p : Nat} {v : Int} (h : pb_kd p = ci) (hc : ci < 100) (hk : k < pb_N ci) (hN : pb_N ci ≤ 100) : pb_cell x (pb_up σ (1 + 100 * ci + k) p 0 v) p = .inr (ci, ((List.range (pb_N ci)).map (fun k => pb_c x (pb_ft ci k) (σ (1 + 100 * ci + k) p 0))).set k (pb_c x (pb_ft ci k) v)) := by
  rw [pb_cell_obj h hc]
  congr 2
  apply List.ext_getElem?
  intro j
  by_cases hj : j = k
  · subst hj
    rw [List.getElem?_set_self (by simpa using hk), List.getElem?_map, List.getElem?_range hk]
    simp [pb_up]
  · rw [List.getElem?_set_ne (Ne.symm hj)]
    by_cases hl : j < pb_N ci
    · rw [List.getElem?_map, List.getElem?_map, List.getElem?_range hl]
      simp only [Option.map_some, pb_up]
      rw [if_neg]
      rintro ⟨h1, -⟩
      omega
    · rw [List.getElem?_eq_none (by simpa using hl), List.getElem?_eq_none (by simpa using hl)]
theorem pb_cell_putA {x : pb_E} {σ : pb_H} {a p : Nat} {i v : Int} (h : pb_kd p = a) (h1 : 100 ≤ a) (h2 : a < 102) (hi : 0 ≤ i) : pb_cell x (pb_up σ 0 p i v) p = .inl (x.2.2.1 (a - 100), (pb_ln p).toNat, .inl (upd (fun j => Int32.ofInt (σ 0 p j)) i.toNat (Int32.ofInt v))) := by
  rw [pb_cell_int h h1 h2]
  congr 4
  funext j
  unfold pb_up upd
  by_cases hj : j = i.toNat
  · rw [if_pos hj, if_pos ⟨rfl, rfl, by omega⟩]
  · rw [if_neg hj, if_neg]
    rintro ⟨-, -, h3⟩
    omega
theorem pb_cell_putQ {x : pb_E} {σ : pb_H} {a p : Nat} {i v : Int} (h : pb_kd p = a) (h1 : 102 ≤ a) (hi : 0 ≤ i) (hv : ¬ v < 0) (hv2 : v < 1000000) : pb_cell x (pb_up σ 0 p i v) p = .inl (x.2.2.1 (a - 100), (pb_ln p).toNat, .inr (.inr (.inr (.inr (va_up (fun j => pb_o x (σ 0 p j)) i.toNat (some (x.2.2.2.1 + v.toNat))))))) := by
  rw [pb_cell_ref h h1]
  congr 7
  funext j
  unfold pb_up va_up
  by_cases hj : j = i.toNat
  · rw [if_pos hj, if_pos ⟨rfl, rfl, by omega⟩]
    unfold pb_o pb_ad
    rw [if_neg hv, if_neg (by omega)]
  · rw [if_neg hj, if_neg]
    rintro ⟨-, -, h3⟩
    omega
theorem pb_cell_clr {x : pb_E} {σ : pb_H} {n : Nat} {d : Nat → Int} {j : Nat} (h : j ≠ n) : pb_cell x (pb_clr σ n d) j = pb_cell x σ j := by
  have e : ∀ f' i', pb_clr σ n d f' j i' = σ f' j i' := by
    intro f' i'
    unfold pb_clr
    rw [if_neg]
    omega
  unfold pb_cell
  simp only [e]
/-! the judgements -/
theorem pb_good : ∀ w ∈ pb_ALL, (w.onTables && w.keeps) = true ∨ ∃ ty, w = .arrayClass ty := fun w hw => good_of_word (List.mem_filter.mp hw).2
def pb_y (m : Nat) : MethodName := (pb_M.getD m pb_M0).1
def pb_code (m : Nat) : ByteArray := (pb_M.getD m pb_M0).2.1
def pb_mx (m : Nat) : Nat := (pb_M.getD m pb_M0).2.2.1
def pb_rt (m : Nat) : Option FieldType := (pb_M.getD m pb_M0).2.2.2.1
def pb_rk (m : Nat) : Nat := (pb_M.getD m pb_M0).2.2.2.2.1
def pb_mc (m : Nat) : Nat := (pb_M.getD m pb_M0).2.2.2.2.2.1
def pb_lo (m : Nat) : Nat := (pb_M.getD m pb_M0).2.2.2.2.2.2
def pb_ms (m : Nat) : Nat := 64 * pb_mc m
def pb_vd (m : Nat) : Bool := (pb_rt m).isNone
def pb_rm (m : Nat) : Room := { frames := pb_rk m + 1, cells := pb_mc m, slots := pb_ms m, locals := pb_lo m }
def pb_wd (m : Nat) : List Cond := .code (pb_y m) (pb_code m) (pb_mx m) (pb_rt m) :: pb_ALL
/-- the script lies below -/
def pb_Nx (s : State) : Prop := (∀ q ∈ pb_nest, va_Nw (.methodLinkNest q.1 q.2.1 q.2.2.1 q.2.2.2) s) ∧ ∀ C ∈ pb_aos, va_AO C s
theorem pb_Nx.same {u U : State} (h : u.vm = U.vm) (hN : pb_Nx u) : pb_Nx U := ⟨fun q hq => va_Nw.same rfl h (hN.1 q hq), fun C hC => va_AO.moved (by rw [h]; exact Vm.Alike.refl _) (hN.2 C hC)⟩
theorem pb_Nx.warm {s U : State} (hW : s.WarmedH U.vm) (hN : pb_Nx s) : pb_Nx U := ⟨fun q hq => va_Nw.warmM hW (hN.1 q hq), fun C hC => va_AO.moved hW.alike (hN.2 C hC)⟩
def pb_X (x : pb_E) (s : State) : Prop := va_X x.2.2.2.2.1 x.2.2.2.2.2.1 x.2.2.2.2.2.2 s s.heap ∧ x.2.2.2.2.1 < x.2.2.2.1 ∧ pb_Nx s
def pb_In (x : pb_E) (s : State) (H : Heap) (n : Nat) (σ : pb_H) (locs : List Loc) : Prop :=
  va_K x.2.1 pb_cl (pb_tys x.2.2.1) s ∧ va_P x.2.1 pb_cl (pb_ws x n σ) H ∧ va_S (fun q => x.2.2.2.1 ≤ q) s.heap H locs ∧ (x.2.2.2.1 ≤ s.heap.size ∧ n < 1000000 ∧ pb_X x s) ∧ ∀ f p i, pb_R (σ f p i)
def pb_Cx (p : Program) (s : State) (mm : MethodId) (args : Array Value) (meth : Method) (c : Code) (m : Nat) : Prop :=
  p.tables.exec = Jvm.exec ∧ c.code = pb_code m ∧ c.maxLocals = pb_mx m ∧ s.vm.findClass (pb_y m).cls = some mm.cls ∧ (∀ w ∈ pb_ALL, w.before args s = true) ∧ meth.sig.returnType = pb_rt m ∧ meth.locks = false ∧ ((pb_y m).name = "<init>" → meth.name = "<init>")
def pb_Q (x : pb_E) (m n : Nat) (Q : pb_P) : Array Value → State → Outcome → State → Prop := fun _ st oc t =>
  ∃ (v : pb_V) (σ' : pb_H), oc = .returned (if pb_vd m = true then none else some (pb_e x v)) ∧ Q v σ' ∧ pb_vR v ∧
    (va_K x.2.1 pb_cl (pb_tys x.2.2.1) t ∧ va_P x.2.1 pb_cl (pb_ws x (n + pb_mc m) σ') t.heap ∧ ∀ f p i, pb_R (σ' f p i)) ∧ va_F (fun q => x.2.2.2.1 ≤ q) st t
def pb_Pc (x : pb_E) (As : List pb_V) (n : Nat) (σ : pb_H) : Array Value → State → Prop :=
  va_Pc (As.map (pb_e x)) (fun U => (∀ v ∈ As, pb_vR v) ∧ va_K x.2.1 pb_cl (pb_tys x.2.2.1) U ∧ va_P x.2.1 pb_cl (pb_ws x n σ) U.heap ∧ (U.heap.size = x.2.2.2.1 + n ∧ n < 1000000 ∧ pb_X x U) ∧ ∀ f p i, pb_R (σ f p i))
def pb_MJ (x : pb_E) (m : Nat) (As : List pb_V) (n : Nat) (σ : pb_H) (Q : pb_P) : Prop :=
  ∃ Q0 : pb_P, (∀ v σ', Q0 v σ' → Q v σ') ∧ Met x.1 (pb_y m) (pb_wd m) (pb_rm m) (pb_Pc x As n σ) (pb_Q x m n Q0) (pb_mc m) (pb_ms m) (fun q => x.2.2.2.1 ≤ q)
def pb_Rm (m : Nat) (R : Room) : Prop := pb_rk m + 1 ≤ R.frames ∧ pb_mc m ≤ R.cells ∧ 64 * pb_mc m ≤ R.slots ∧ pb_lo m ≤ R.locals
def pb_isret (m : Nat) (op : Instr) (v : pb_V) : Prop :=
  (pb_rt m = none ∧ op = .return_) ∨ (pb_rt m = some .int ∧ op = .ireturn ∧ ∃ z, v = .inl z) ∨ (pb_rt m = some .boolean ∧ op = .ireturn ∧ (v = .inl 0 ∨ v = .inl 1)) ∨ (∃ C z, pb_rt m = some (.object C) ∧ op = .areturn ∧ v = .inr z)
/-- what is asked of the end: each answer with Q is good there -/
def pb_Zd (x : pb_E) (m n0 : Nat) (Q : pb_P) (R : Room) (Z : State → Prop) (p : Program) (e : Env) (s : State) (mm : MethodId) (args : Array Value) (below : List Frame) (meth : Method) (c : Code) : Prop :=
  ∀ (pc : Nat) (ls : Array Slot) (v : pb_V) (σ : pb_H) (H : Heap) (locs : List Loc) (op : Instr), decode (pb_code m) pc = .ok (op, 1) → pb_isret m op v → Q v σ → pb_vR v → pb_In x s H (n0 + pb_mc m) σ locs →
    W p x.1 e R s mm args below meth c H locs (pb_mc m) (64 * pb_mc m) Z (F0 mm pc ls (if pb_vd m = true then [] else [pb_e x v]))
def pb_WJ (x : pb_E) (m : Nat) (n0 : Nat) (Q : pb_P) (pc : Nat) : pb_K := fun L S n σ =>
  ∀ (p : Program) (e : Env) (R : Room) (Z : State → Prop) (s : State) (mm : MethodId) (args : Array Value) (below : List Frame) (meth : Method) (c : Code) (H : Heap) (locs : List Loc) (cells slots : Nat) (ls : Array Slot),
    pb_Rm m R → pb_Zd x m n0 Q R Z p e s mm args below meth c → pb_Cx p s mm args meth c m → pb_In x s H n σ locs → lv_has ls (pb_mx m) (pb_ll x 0 L) → (∀ v ∈ S, pb_vR v) → (∀ j v, pb_nth L j = some v → pb_vR v) → (n = n0 + cells ∧ s.heap.size = x.2.2.2.1 + n0 ∧ cells ≤ pb_mc m) → slots = 64 * cells →
    W p x.1 e R s mm args below meth c H locs cells slots Z (F0 mm pc ls (S.map (pb_e x)))
def pb_le (k k' : pb_K) : Prop := ∀ L S n σ, k L S n σ → k' L S n σ
theorem pb_MJ.mono {x : pb_E} {m : Nat} {As : List pb_V} {n : Nat} {σ : pb_H} {Q Q' : pb_P} (h : pb_MJ x m As n σ Q) (hq : ∀ v σ', Q v σ' → Q' v σ') : pb_MJ x m As n σ Q' :=
  h.elim fun Q0 h0 => ⟨Q0, fun v σ' h1 => hq v σ' (h0.1 v σ' h1), h0.2⟩
theorem pb_nth_none : ∀ (r j : Nat), pb_nth (List.replicate r none) j = none
  | 0, _ => rfl
  | r + 1, 0 => by rw [List.replicate_succ]; rfl
  | r + 1, j + 1 => by rw [List.replicate_succ]; exact pb_nth_none r j
theorem pb_entry {x : pb_E} : ∀ (As : List pb_V) (i : Nat) (r : Nat) (q : Nat × Value), q ∈ pb_ll x i (As.map some ++ List.replicate r none) → q ∈ lv_args i (As.map (pb_e x))
  | [], i, r, q, h => by
    obtain ⟨j, v, h1, -⟩ := (pb_ll_mem _ i q).mp h
    rw [List.map_nil, List.nil_append, pb_nth_none] at h1
    cases h1
  | a :: As, i, r, q, h => by
    simp only [List.map_cons, List.cons_append, pb_ll, List.mem_cons] at h
    simp only [List.map_cons, lv_args, pb_e_cat, List.mem_cons]
    rcases h with h | h
    · exact Or.inl h
    · exact Or.inr (by simpa using pb_entry As (i + 1) r q h)
theorem pb_sl {x : pb_E} (As : List pb_V) : (lg_sl (As.map (pb_e x))).length = As.length := by
  induction As with
  | nil => rfl
  | cons a As ih =>
    unfold lg_sl at ih ⊢
    simp only [List.map_cons, List.flatMap_cons, List.length_append, pb_e_cat, ih]
    simp
    omega
theorem pb_nthR {As : List pb_V} {r : Nat} (h : ∀ v ∈ As, pb_vR v) : ∀ j v, pb_nth (As.map some ++ List.replicate r none) j = some v → pb_vR v := by
  induction As with
  | nil =>
    intro j v hv
    rw [List.map_nil, List.nil_append, pb_nth_none] at hv
    cases hv
  | cons a As ih =>
    intro j v hv
    cases j with
    | zero =>
      simp only [List.map_cons, List.cons_append, pb_nth, Option.some.injEq] at hv
      exact hv ▸ h a List.mem_cons_self
    | succ j => exact ih (fun w hw => h w (List.mem_cons_of_mem _ hw)) j v hv
theorem pb_ans {x : pb_E} {m n0 : Nat} {Q : pb_P} {s t : State} {H : Heap} {σ : pb_H} {locs : List Loc} {args : Array Value} {v : pb_V} {oc : Outcome} (hI : pb_In x s H (n0 + pb_mc m) σ locs) (hoc : oc = .returned (if pb_vd m = true then none else some (pb_e x v))) (hQ : Q v σ) (hv : pb_vR v) (ht : t.heap = H) (hW : s.WarmedH t.vm) : pb_Q x m n0 Q args s oc t :=
  ⟨v, σ, hoc, hQ, hv, ⟨va_K.moved hW.alike hI.1, by rw [ht]; exact hI.2.1, hI.2.2.2.2⟩, hI.2.2.1.F ht⟩
theorem pb_Zd_met {x : pb_E} {m n0 : Nat} {Q : pb_P} {p : Program} {e : Env} {s : State} {mm : MethodId} {args : Array Value} {below : List Frame} {meth : Method} {c : Code} (hC : pb_Cx p s mm args meth c m) : pb_Zd x m n0 Q (pb_rm m) (MQ below (pb_Q x m n0 Q) args s (pb_mc m) (pb_ms m) (fun q => x.2.2.2.1 ≤ q)) p e s mm args below meth c := by
  intro pc ls v σ H locs op hd hop hQ hv hI
  have hrt := hC.2.2.2.2.2.1
  have hlk := hC.2.2.2.2.2.2.1
  rcases hop with ⟨h1, rfl⟩ | ⟨h1, rfl, z, rfl⟩ | ⟨h1, rfl, h3⟩ | ⟨C, z, h1, rfl, rfl⟩
  · have hvd : pb_vd m = true := by unfold pb_vd; rw [h1]; rfl
    rw [hvd, if_pos rfl]
    exact W.vret hC.1 hC.2.1 (hrt.trans h1) (fun t ht hW => pb_ans hI (by rw [hvd, if_pos rfl]) hQ hv ht hW) hI.2.2.1.2.2 hd hlk
  · have hvd : pb_vd m = false := by unfold pb_vd; rw [h1]; rfl
    rw [hvd, if_neg (by decide)]
    exact W.iret hC.1 hC.2.1 (hrt.trans h1) (fun t ht hW => pb_ans hI (by rw [hvd, if_neg (by decide)]; rfl) hQ hv ht hW) hI.2.2.1.2.2 hd hlk
  · have hvd : pb_vd m = false := by unfold pb_vd; rw [h1]; rfl
    rw [hvd, if_neg (by decide)]
    rcases h3 with rfl | rfl
    · exact W.zret hC.1 hC.2.1 (hrt.trans h1) rfl (fun t ht hW => pb_ans hI (by rw [hvd, if_neg (by decide)]; rfl) hQ hv ht hW) hI.2.2.1.2.2 hd hlk
    · exact W.zret hC.1 hC.2.1 (hrt.trans h1) rfl (fun t ht hW => pb_ans hI (by rw [hvd, if_neg (by decide)]; rfl) hQ hv ht hW) hI.2.2.1.2.2 hd hlk
  · have hvd : pb_vd m = false := by unfold pb_vd; rw [h1]; rfl
    rw [hvd, if_neg (by decide)]
    exact W.aret hC.1 hC.2.1 (hrt.trans h1) (Or.inl ⟨_, rfl⟩) (pb_e_isref _ _) (fun t ht hW => pb_ans hI (by rw [hvd, if_neg (by decide)]) hQ hv ht hW) hI.2.2.1.2.2 hd hlk
theorem pb_enter {x : pb_E} {m : Nat} {As : List pb_V} {n : Nat} {σ : pb_H} {Q : pb_P} (hy : plainName (pb_y m).cls = true) (hlen : As.length ≤ pb_mx m) (h : pb_WJ x m n Q 0 (As.map some ++ List.replicate (pb_mx m - As.length) none) [] n σ) : pb_MJ x m As n σ Q := by
  refine ⟨Q, fun _ _ h => h, Met.ofW (cc := pb_code m) (maxL := pb_mx m) (ret := pb_rt m) hy rfl ?_⟩
  intro p e s mm args below meth c s₁ B hml hv
  obtain ⟨rfl, hAs, hK, hP, ⟨hz, hn, hX⟩, hR⟩ := hv
  have hts := atoms_spec (ws := pb_wd m) B.pre
  have hl := lv_entry (As.map (pb_e x)) (n := pb_mx m) (by rw [pb_sl]; exact hlen)
  have hC : pb_Cx p s mm (As.map (pb_e x)).toArray meth c m := ⟨B.exec, B.bytes, hml, findClass_of_methodNamed B.named, fun w hw => hts w (List.mem_cons_of_mem _ hw), B.returns, B.notSynchronized, fun h => (name_of_methodNamed B.named B.method).1.trans h⟩
  rw [lg_entry_eq]
  exact h p e (pb_rm m) _ s mm _ below meth c s.heap [] 0 0 _ ⟨Nat.le_refl _, Nat.le_refl _, Nat.le_refl _, Nat.le_refl _⟩ (pb_Zd_met hC) hC ⟨hK, hP, va_S.rf, ⟨by omega, hn, hX⟩, hR⟩ ⟨hl.1, hl.2.1, fun q hq => hl.2.2 q (pb_entry As 0 _ q hq)⟩ (fun v hv => by cases hv) (pb_nthR hAs) ⟨rfl, hz, Nat.zero_le _⟩ rfl
/-- the heap's size: what has been made so far -/
theorem pb_sz {p : Program} {e : Env} {R : Room} {s : State} {mm : MethodId} {args : Array Value} {below : List Frame} {meth : Method} {c : Code} {H : Heap} {locs : List Loc} {cells slots : Nat} {Qs : State → Prop} {g : JFrame} {x : pb_E} {n n0 : Nat} {σ : pb_H} (hI : pb_In x s H n σ locs) (hn : n = n0 + cells) (hs : s.heap.size = x.2.2.2.1 + n0)
    (kk : H.size = x.2.2.2.1 + n → W p x.1 e R s mm args below meth c H locs cells slots Qs g) : W p x.1 e R s mm args below meth c H locs cells slots Qs g := by
  intro T hT X
  have h1 := X.heapSize
  rw [hT] at h1
  refine kk ?_ T hT X
  have h2 : s.heap.size ≤ H.size := hI.2.2.1.1
  by_cases h0 : n = 0
  · omega
  · have h3 := (hI.2.1 (n - 1) _ (pb_ws_at (by omega))).lt
    dsimp only at h3
    omega
