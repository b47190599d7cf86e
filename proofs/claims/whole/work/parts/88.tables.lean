/-! the claim out of the run seen from above -/
theorem pb_arrI {args : Array Value} {s : State} {ty : FieldType} (hp : ty = .int ∨ ty = .boolean) (h : (Cond.arrayClass ty).before args s = true) : ∃ cA, ArrOfT s cA ty ∧ va_RA s cA ty := by
  obtain ⟨c, k, comp, h1, h2, h3⟩ := Cond.arrayClass_spec h
  refine ⟨c, fun n z => ⟨fun q hq => (by cases hq), k, h2, comp, h3⟩, ?_⟩
  rcases hp with rfl | rfl <;> exact h1
theorem pb_arrR {s : State} {C : String} (h : va_AO C s) : ∃ cA, ArrOfT s cA (.object C) ∧ va_RA s cA (.object C) := by
  obtain ⟨comp, c, k, h1, h2, h3, h4, h5⟩ := Cond.arrayOver_spec h
  exact ⟨c, fun n z => ⟨fun q hq => (by cases hq), k, h3, comp, h4⟩, ⟨k, comp, h3, h4, h1, h5⟩⟩
theorem pb_tables {args : Array Value} {s : State} (hts : ∀ w ∈ pb_ALL, w.before args s = true) (hN : pb_Nx s) : ∃ (D : va_G) (dA : Nat → ClassId), va_K D pb_cl (pb_tys dA) s := by
  obtain ⟨c0, i0, k0⟩ := u_known (C := "PassiveBuses") (T := pb_T0) (N := pb_N 0) hts pb_lw0 (hts _ wd_11)
  obtain ⟨c1, i1, k1⟩ := u_known (C := "PassiveBuses$Bus") (T := pb_T1) (N := pb_N 1) hts pb_lw1 (hts _ wd_22)
  obtain ⟨c2, i2, k2⟩ := u_known (C := "PassiveBuses$Row") (T := pb_T2) (N := pb_N 2) hts pb_lw2 (hts _ wd_32)
  obtain ⟨c3, i3, k3⟩ := u_known (C := "PassiveBuses$Frame") (T := pb_T3) (N := pb_N 3) hts pb_lw3 (hts _ wd_39)
  obtain ⟨c4, i4, k4⟩ := u_known (C := "PassiveBuses$Terminal") (T := pb_T4) (N := pb_N 4) hts pb_lw4 (hts _ wd_86)
  obtain ⟨c5, i5, k5⟩ := u_known (C := "PassiveBuses$Line") (T := pb_T5) (N := pb_N 5) hts pb_lw5 (hts _ wd_162)
  obtain ⟨c6, i6, k6⟩ := u_known (C := "PassiveBuses$Call") (T := pb_T6) (N := pb_N 6) hts pb_lw6 (hts _ wd_216)
  obtain ⟨c7, i7, k7⟩ := u_known (C := "PassiveBusesModel") (T := pb_T7) (N := pb_N 7) hts pb_lw7 (hts _ wd_656)
  obtain ⟨a0, b0⟩ := pb_arrI (Or.inl rfl) (hts _ wd_273)
  obtain ⟨a1, b1⟩ := pb_arrI (Or.inr rfl) (hts _ wd_812)
  obtain ⟨a2, b2⟩ := pb_arrR (hN.2 _ wo_0)
  obtain ⟨a3, b3⟩ := pb_arrR (hN.2 _ wo_1)
  obtain ⟨a4, b4⟩ := pb_arrR (hN.2 _ wo_2)
  obtain ⟨a5, b5⟩ := pb_arrR (hN.2 _ wo_3)
  obtain ⟨a6, b6⟩ := pb_arrR (hN.2 _ wo_4)
  refine ⟨(fun c => [c0, c1, c2, c3, c4, c5, c6, c7].getD c 0, fun c => [i0, i1, i2, i3, i4, i5, i6, i7].getD c (fun _ => 0)), fun k => [a0, a1, a2, a3, a4, a5, a6].getD k 0, fun c q hq => ?_, fun k q hq => ?_⟩
  · match c, hq with
    | 0, hq => cases hq; exact k0
    | 1, hq => cases hq; exact k1
    | 2, hq => cases hq; exact k2
    | 3, hq => cases hq; exact k3
    | 4, hq => cases hq; exact k4
    | 5, hq => cases hq; exact k5
    | 6, hq => cases hq; exact k6
    | 7, hq => cases hq; exact k7
    | n + 8, hq => simp [pb_cl] at hq
  · match k, hq with
    | 0, hq => cases hq; exact b0
    | 1, hq => cases hq; exact b1
    | 2, hq => cases hq; exact b2
    | 3, hq => cases hq; exact b3
    | 4, hq => cases hq; exact b4
    | 5, hq => cases hq; exact b5
    | 6, hq => cases hq; exact b6
    | n + 7, hq => simp [pb_tys] at hq
