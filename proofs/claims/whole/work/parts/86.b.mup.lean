/-! a frame goes up, on the other side -/
section GUP
variable {T Tm : gT} {b t : Int} {a m wn : Int}
theorem l_snd (T : gT) (b m w : Int) : g_loc (g_snd T b m w) := fun _ _ _ h => ⟨fun _ => gt_set_l h, rfl⟩
theorem l_mld (T : gT) (m : Int) : g_loc (g_mld T m) := fun _ _ _ h => ⟨fun _ => gt_set_l h, rfl⟩
theorem gt_con_off (h : ∀ i : Nat, i < 4 → t ≠ 4 * b + i) : g_ag (gt_contend T b) T t := (g_it_off (l_mld _ _) h).tr (g_it_off (l_snd _ _ _ _) h)
theorem g_mld_at (T : gT) (b m : Int) : ∀ (j i : Nat), i < j → (g_it (g_mld T m) b T j).1 2 (4 * b + i) = if ¬ T.1 3 (4 * b + i) = 0 ∨ (¬ T.1 2 (4 * b + i) = 0 ∧ m = 0) then 1 else 0 := by
  intro j
  induction j with
  | zero => exact fun i hi => absurd hi (by omega)
  | succ j ih =>
    intro i hi
    show (g_mld T m (g_it (g_mld T m) b T j) (4 * b + j)).1 2 (4 * b + i) = _
    by_cases z : i = j
    · subst z
      exact g_up_s _ _ _ _
    · rw [(l_mld T m (g_it (g_mld T m) b T j) (4 * b + j) (4 * b + i) (by omega)).1]
      exact ih i (by omega)
theorem gt_con_2 (i : Nat) (hi : i < 4) : (gt_contend T b).1 2 (4 * b + i) = if ¬ (gt_contend T b).1 3 (4 * b + i) = 0 ∨ (¬ T.1 2 (4 * b + i) = 0 ∧ g_asm T b = 0) then 1 else 0 := by
  have h1 := g_mld_at (gt_con2 T b) b (g_asm T b) 4 i hi
  have e3 : (gt_contend T b).1 3 (4 * b + i) = (gt_con2 T b).1 3 (4 * b + i) := (g_mld_keep (gt_con2 T b) (g_asm T b) b 4).1 3 _ (by decide)
  have e2 : (gt_con2 T b).1 2 (4 * b + i) = T.1 2 (4 * b + i) := (g_snd_keep T b (g_asm T b) (g_win T b (g_asm T b) 4) 4).1 2 _ (by decide)
  rw [e3, ← e2]
  exact h1
theorem gt_con_sd (i : Nat) (hi : i < 4) : (gt_contend T b).1 3 (4 * b + i) = g_sd T b (g_asm T b) (g_upW T b) (4 * b + i) := gt_con_3 T b i ⟨by omega, by omega⟩
/-- what the other side has before the senders are settled, and the contention's end -/
def g_stl (a : Int) (T : gT) (t : Int) : gT := if T.1 3 t = 0 then T else gt_settle (gt_set T 2 t 1) t a
theorem l_stl (a : Int) : g_loc (g_stl a) := by
  intro T t t' h
  unfold g_stl
  by_cases z : T.1 3 t = 0
  · rw [if_pos z]
    exact ⟨fun _ => rfl, rfl⟩
  · rw [if_neg z]
    have h1 := l_settle a (gt_set T 2 t 1) t t' h
    exact ⟨fun k => (h1.1 k).trans (gt_set_l h), h1.2⟩
theorem d_stl (a : Int) : g_dep (g_stl a) := by
  intro T1 T2 t h
  unfold g_stl
  rw [← h.1 3]
  split
  · exact h
  · exact d_settle a _ _ t (h.set 2 rfl)
theorem g_i4_off (h : g_i4 T b m wn 4 Tm) (ht : ∀ i : Nat, i < 4 → t ≠ 4 * b + i) : g_ag Tm T t := by
  obtain ⟨h1, h2, h3, h4, h5, h6⟩ := h
  refine ⟨fun k => ?_, by rw [h1]⟩
  by_cases z2 : k = 2
  · subst z2
    exact h3 t ht
  · by_cases z3 : k = 3
    · subst z3
      exact h4 t ht
    · exact h2 k t z2 z3
theorem g_i4_at (h : g_i4 T b (g_asm T b) (g_upW T b) 4 Tm) (i : Nat) (hi : i < 4) : g_ag (g_stl a Tm (4 * b + i)) (g_settle1 a (gt_contend T b) (4 * b + i)) (4 * b + i) := by
  obtain ⟨h1, h2, h3, h4, h5, h6⟩ := h
  have e3 : Tm.1 3 (4 * b + i) = (gt_contend T b).1 3 (4 * b + i) := by
    rw [h6 i hi, if_pos hi, gt_con_sd i hi]
  have er : Tm.2 (4 * b + i) = (gt_contend T b).2 (4 * b + i) := by rw [h1, gt_con_row]
  have e2 := gt_con_2 (T := T) (b := b) i hi
  unfold g_stl g_settle1
  rw [e3]
  by_cases z : (gt_contend T b).1 3 (4 * b + i) = 0
  · rw [if_pos z, if_pos z]
    refine ⟨fun k => ?_, er⟩
    by_cases z2 : k = 2
    · subst z2
      rw [e2, h5 i hi]
      by_cases z3 : ¬ T.1 2 (4 * b + i) = 0 ∧ g_asm T b = 0
      · rw [if_pos z3, if_pos (Or.inr z3)]
      · rw [if_neg z3, if_neg (fun y => y.elim (fun y => y z) z3)]
    · by_cases z3 : k = 3
      · subst z3
        exact e3
      · rw [h2 k _ z2 z3, gt_con_k T b k _ z2 z3]
  · rw [if_neg z, if_neg z]
    refine d_settle a _ _ _ ⟨fun k => ?_, er⟩
    by_cases z2 : k = 2
    · subst z2
      rw [e2, if_pos (Or.inl z)]
      exact g_up_s _ _ _ _
    · rw [gt_set_k z2]
      by_cases z3 : k = 3
      · subst z3
        exact e3
      · rw [h2 k _ z2 z3, gt_con_k T b k _ z2 z3]
theorem g_bus_or (b t : Int) : (∃ i : Nat, i < 4 ∧ t = 4 * b + i) ∨ ∀ i : Nat, i < 4 → t ≠ 4 * b + i := by
  by_cases z : 4 * b ≤ t ∧ t < 4 * b + 4
  · exact Or.inl ⟨(t - 4 * b).toNat, by omega, by omega⟩
  · exact Or.inr (fun i hi => by omega)
theorem g_stl_all (h : g_i4 T b (g_asm T b) (g_upW T b) 4 Tm) (t : Int) : g_ag (g_it (g_stl a) b Tm 4) (g_it (g_settle1 a) b (gt_contend T b) 4) t := by
  rcases g_bus_or b t with ⟨i, hi, rfl⟩ | ht
  · exact ((g_it_at (l_stl a) (d_stl a) 4 i hi).tr (g_i4_at h i hi)).tr (g_it_at (l_settle1 a) (d_settle1 a) 4 i hi).sy
  · exact ((g_it_off (l_stl a) ht).tr (g_i4_off h ht)).tr ((g_it_off (l_settle1 a) ht).tr (gt_con_off ht)).sy
theorem g_i4_none (h : g_i4 T b (g_asm T b) (g_upW T b) 4 Tm) (hw : g_upW T b = -1) (t : Int) : g_ag Tm (gt_contend T b) t := by
  rcases g_bus_or b t with ⟨i, hi, rfl⟩ | ht
  · have e := g_i4_at (a := 0) h i hi
    have z : (gt_contend T b).1 3 (4 * b + i) = 0 := by
      rw [gt_con_sd i hi]
      exact if_neg (fun y => y.1 hw)
    have z2 : Tm.1 3 (4 * b + i) = 0 := by
      rw [h.2.2.2.2.2 i hi, if_pos hi]
      exact if_neg (fun y => y.1 hw)
    unfold g_stl g_settle1 at e
    rw [if_pos z, if_pos z2] at e
    exact e
  · exact (g_i4_off h ht).tr (gt_con_off ht).sy
theorem cmpF_0 {f f' : gF} {x y : Int} (h : cmpF f x f' y = 0) : f.1 = f'.1 := by
  unfold cmpF cmpN cmpL at h
  by_cases z1 : f.1 ≤ 6
  · rw [if_pos z1] at h
    by_cases z2 : f'.1 ≤ 6
    · rw [if_pos z2] at h
      by_cases z3 : f.2.1 = f'.2.1
      · rw [if_pos z3] at h
        by_cases z4 : x = y
        · rw [if_pos z4] at h
          by_cases z5 : f.1 = f'.1
          · exact z5
          · rw [if_neg z5] at h
            exact cmpI_0.mp h
        · rw [if_neg z4] at h
          exact absurd (cmpI_0.mp h) z4
      · rw [if_neg z3] at h
        exact absurd (cmpI_0.mp h) z3
    · rw [if_neg z2] at h
      exact absurd h (by decide)
  · rw [if_neg z1] at h
    by_cases z2 : f'.1 ≤ 6
    · rw [if_pos z2] at h
      exact absurd h (by decide)
    · rw [if_neg z2] at h
      by_cases z5 : f.1 = f'.1
      · exact z5
      · rw [if_neg z5] at h
        exact cmpI_0.mp h
end GUP
section MUP
variable {x : pb_E} {σ σ' : pb_H} {T Tm : gT} {E : gE} {w : gW} {ν : pb_H} {b a s t u r : Int} {Q : pb_P} {i : Nat} {n : Int} {v : Int → Int} {m : Nat}
theorem rm_sent {z : Int} (h : RM σ T E w ν) : RM (pb_up σ 750 165 0 z) T E w (pb_up ν 750 165 0 z) := by
  obtain ⟨h1, h2, h3, h4, h5, h6, h7, h8, h9⟩ := h
  refine ⟨h1.cg (fun f i q1 q2 => pb_up_f (by omega)), h2.cg (fun p i q1 q2 => pb_up_f (by decide)), h3.cg (fun p i q1 q2 => pb_up_f (by decide)), h4.cg (fun p i q1 q2 => pb_up_f (by decide)), h5.cg (fun p i q1 q2 => pb_up_f (by decide)), h6.cg (fun p i q1 q2 => pb_up_f (by decide)), h7.cg (fun f q => pb_up_f (by omega)), h8.cg (fun p i q1 q2 => pb_up_f (by decide)), fun f p i hk => ?_⟩
  unfold pb_up
  split
  · rfl
  · exact h9 f p i hk
theorem r_sent (h : RM σ T E w ν) : σ 750 165 0 = ν 750 165 0 := h.2.2.2.2.2.2.2.2 750 165 0 (by unfold k_K; omega)
theorem rm_ag {T' : gT} (h : RM σ T E w ν) (e : ∀ t, g_ag T T' t) : RM σ T' E w ν := rm_gh h (fun k t _ _ _ => ((e t).1 k).symm) (funext fun t => (e t).2.symm)
theorem l_M_upStep {l2 l3 l5 l6 l7 : pb_V} {aa : Int} (hb : 0 ≤ b ∧ b < 2) (hI : IT T) (hm : g_i4 T b (g_asm T b) (g_upW T b) 4 Tm) (hQ : ∀ σ', RM σ' (g_it (g_stl aa) b Tm 4) E w ν → Q (.inl 0) σ') : ∀ (d k : Nat), k + d = 4 → ∀ σ : pb_H, RM σ (g_it (g_stl aa) b Tm k) E w ν → pb_WJ x i_M_upStep 213 Q 250 [some (.inr 165), some (.inl b), some l2, some l3, some (.inl (g_upF T b).1), some l5, some l6, some l7, some (.inl (if (g_upF T b).1 ≤ 6 ∧ aa = 0 then 0 else 1)), some (.inl (4 * b + k))] [] 213 σ := by
  intro d
  have e0 : pb_mul 4 b = 4 * b := by unfold pb_mul; exact pb_w_id (by unfold pb_R; omega)
  have e1 : pb_w (4 * b + 4) = 4 * b + 4 := pb_w_id (by unfold pb_R; omega)
  induction d with
  | zero =>
    intro k hk σ h
    obtain rfl : k = 4 := by omega
    refine pb_s_M_upStep_250 x 213 Q _ _ _ _ ?_
    simp only [pb_b_M_upStep_250, pb_b_M_upStep_294, pb_iconst, pb_null, pb_iload, pb_aload, pb_istore, pb_astore, pb_iinc, pb_bin, pb_bin0, pb_dup, pb_pop, pb_dup2, pb_if, pb_icmp, pb_ifnull, pb_getI, pb_getR, pb_putI, pb_putZ, pb_putR, pb_alen, pb_ald, pb_aldR, pb_ast, pb_astZ, pb_astR, pb_vret, pb_iret, pb_zret, pb_aret, pb_cv, pb_cr, pb_sr, pb_switch, pb_sw, pb_nth, pb_set, pb_tk, pb_add, pb_sub, List.length_cons, List.length_nil, true_or, or_true, true_and, and_true, and_self, pb_up_same, pb_up_f, ne_eq, Nat.reduceEqDiff, not_false_eq_true, Nat.reduceAdd, Nat.reduceLeDiff, Nat.zero_le, e0, e1]
    exact ⟨fun _ => hQ _ h, fun z => absurd z (by omega)⟩
  | succ d ih =>
    intro k hk σ h
    have ht : 0 ≤ 4 * b + (k : Int) ∧ 4 * b + (k : Int) < 8 := by omega
    have e : pb_w (4 * b + (k : Int) + 1) = 4 * b + ((k + 1 : Nat) : Int) := by rw [pb_w_id (by unfold pb_R; omega)]; omega
    have hoff := g_it_off (T := Tm) (b := b) (l_stl aa) (j := k) (t := 4 * b + k) (fun i hi => by omega)
    have a3 := m_T h 180 3 rfl ⟨by decide, by decide⟩ ht (Or.inr (by unfold g_mu; decide))
    rw [hoff.1 3] at a3
    have es : g_it (g_stl aa) b Tm (k + 1) = if (g_it (g_stl aa) b Tm k).1 3 (4 * b + k) = 0 then g_it (g_stl aa) b Tm k else gt_settle (gt_set (g_it (g_stl aa) b Tm k) 2 (4 * b + k) 1) (4 * b + k) aa := rfl
    refine pb_s_M_upStep_250 x 213 Q _ _ _ _ ?_
    simp only [pb_b_M_upStep_250, pb_b_M_upStep_288, pb_iconst, pb_null, pb_iload, pb_aload, pb_istore, pb_astore, pb_iinc, pb_bin, pb_bin0, pb_dup, pb_pop, pb_dup2, pb_if, pb_icmp, pb_ifnull, pb_getI, pb_getR, pb_putI, pb_putZ, pb_putR, pb_alen, pb_ald, pb_aldR, pb_ast, pb_astZ, pb_astR, pb_vret, pb_iret, pb_zret, pb_aret, pb_cv, pb_cr, pb_sr, pb_switch, pb_sw, pb_nth, pb_set, pb_tk, pb_add, pb_sub, List.length_cons, List.length_nil, true_or, or_true, true_and, and_true, and_self, pb_up_same, pb_up_f, ne_eq, Nat.reduceEqDiff, not_false_eq_true, Nat.reduceAdd, Nat.reduceLeDiff, Nat.zero_le, is_M, mf_contends h.1, mk_contends, ml_contends, mf_mild h.1, mk_mild, ml_mild, a3, ht, e0, e1, e]
    refine ⟨fun z => absurd z (by omega), fun _ => ⟨fun z => ?_, fun z => ?_⟩⟩
    · refine ih (k + 1) (by omega) σ ?_
      rw [es, if_pos ((hoff.1 3).trans z)]
      exact h
    · have hsd : ¬ g_sd T b (g_asm T b) (g_upW T b) (4 * b + k) = 0 := by
        have := hm.2.2.2.2.2 k (by omega)
        rw [if_pos (by omega)] at this
        rw [← this]
        exact z
      have hc : ¬ g_upW T b = -1 ∧ g_cb T (4 * b + k) (g_asm T b) = true ∧ cmpT T (4 * b + k) (4 * b + g_upW T b) = 0 := Decidable.byContradiction (fun y => hsd (if_neg y))
      have hcon := g_cb_iff.mpr hc.2.1
      have hr := g_hd_cons hcon.2.1
      have hk1 : (g_hd T (4 * b + k)).1 = (g_upF T b).1 := cmpF_0 hc.2.2
      have hmem : g_hd T (4 * b + k) ∈ T.2 (4 * b + k) := by rw [hr]; exact List.mem_cons_self
      have hiF := (hI (4 * b + k)).2.2.2.2.2.2.1 _ hmem
      have h1 := rm_upT (t := 4 * b + (k : Int)) (v := 1) h 169 2 rfl ⟨by decide, by decide⟩
      have hrow : (gt_set (g_it (g_stl aa) b Tm k) 2 (4 * b + k) 1).2 (4 * b + k) = g_hd T (4 * b + k) :: (T.2 (4 * b + k)).tail := by
        show (g_it (g_stl aa) b Tm k).2 (4 * b + k) = _
        rw [hoff.2, hm.1]
        exact hr
      have hpl : ¬ (gt_set (g_it (g_stl aa) b Tm k) 2 (4 * b + k) 1).1 1 (4 * b + k) = 0 := by
        rw [gt_set_k (by decide), hoff.1 1, hm.2.1 1 _ (by decide) (by decide)]
        exact hcon.1
      have := c_M_left (x := x) (a := aa) (f := g_hd T (4 * b + k)) (Q := fun _ σ' => pb_WJ x i_M_upStep 213 Q 250 [some (.inr 165), some (.inl b), some l2, some l3, some (.inl (g_upF T b).1), some l5, some l6, some l7, some (.inl (if (g_upF T b).1 ≤ 6 ∧ aa = 0 then 0 else 1)), some (.inl (4 * b + ((k + 1 : Nat) : Int)))] [] 213 σ') h1 ht hpl hrow hiF.2.2.1 (fun σ1 h2 => ih (k + 1) (by omega) σ1 ?_)
      · rw [hk1] at this
        exact this
      · rw [es, if_neg (fun y => z ((hoff.1 3).symm.trans y))]
        exact h2
theorem pb_xor1 {z : Int} (h : z = 0 ∨ z = 1) : pb_xor z 1 = pb_w (1 - z) := by
  rcases h with rfl | rfl <;> decide
theorem c_M_upStep (h : RM σ T E (v, fun _ => False) ν) (hb : 0 ≤ b ∧ b < 2) (hI : Inv (m + 1) T E) (hQ : ∀ σ' v', RM σ' (g_upT T E b) (g_upE T E b) (v', fun _ => False) (if g_upW T b = -1 then ν else pb_up ν 750 165 0 (pb_w (ν 750 165 0 + 1))) → Q (.inl 0) σ') : pb_MJ x i_M_upStep [.inr 165, .inl b] 213 σ Q := by
  obtain ⟨iT, iD, iL, iC, iA, il, iN⟩ := id hI
  refine pb_m_M_upStep ?_
  simp only [pb_b_M_upStep_0, pb_iconst, pb_null, pb_iload, pb_aload, pb_istore, pb_astore, pb_iinc, pb_bin, pb_bin0, pb_dup, pb_pop, pb_dup2, pb_if, pb_icmp, pb_ifnull, pb_getI, pb_getR, pb_putI, pb_putZ, pb_putR, pb_alen, pb_ald, pb_aldR, pb_ast, pb_astZ, pb_astR, pb_vret, pb_iret, pb_zret, pb_aret, pb_cv, pb_cr, pb_sr, pb_switch, pb_sw, pb_nth, pb_set, pb_tk, pb_add, pb_sub, List.length_cons, List.length_nil, true_or, or_true, true_and, and_true, and_self, pb_up_same, pb_up_f, ne_eq, Nat.reduceEqDiff, not_false_eq_true, Nat.reduceAdd, Nat.reduceLeDiff, Nat.zero_le, is_M]
  refine c_M_contention h hb iT.ad (fun t _ _ => iT.mild t) (fun σ1 Tm h1 hm => ?_)
  simp only [pb_iconst, pb_null, pb_iload, pb_aload, pb_istore, pb_astore, pb_iinc, pb_bin, pb_bin0, pb_dup, pb_pop, pb_dup2, pb_if, pb_icmp, pb_ifnull, pb_getI, pb_getR, pb_putI, pb_putZ, pb_putR, pb_alen, pb_ald, pb_aldR, pb_ast, pb_astZ, pb_astR, pb_vret, pb_iret, pb_zret, pb_aret, pb_cv, pb_cr, pb_sr, pb_switch, pb_sw, pb_nth, pb_set, pb_tk, pb_add, pb_sub, List.length_cons, List.length_nil, true_or, or_true, true_and, and_true, and_self, pb_up_same, pb_up_f, ne_eq, Nat.reduceEqDiff, not_false_eq_true, Nat.reduceAdd, Nat.reduceLeDiff, Nat.zero_le]
  have hwok := g_win_ok T b (g_asm T b) 4
  by_cases hw : g_upW T b = -1
  · have e1 : g_best b (g_upW T b) = -1 := if_pos hw
    rw [e1]
    refine ⟨fun z => absurd z (by decide), fun _ => ?_⟩
    unfold g_upT g_upE at hQ
    rw [if_pos hw, if_pos hw, if_pos hw] at hQ
    exact hQ _ _ (rm_ag h1 (g_i4_none hm hw))
  · obtain ⟨w1, w2, w3⟩ := hwok.resolve_left hw
    have w4 : g_win T b (g_asm T b) 4 = g_upW T b := rfl
    rw [w4] at w1 w2 w3
    have eb : g_best b (g_upW T b) = 4 * b + g_upW T b := if_neg hw
    rw [eb]
    refine ⟨fun _ => ?_, fun z => absurd (by omega) z⟩
    rw [if_neg hw] at hQ
    have ht : 0 ≤ 4 * b + g_upW T b ∧ 4 * b + g_upW T b < 8 := by omega
    have hr := g_hd_cons w3.2.1
    have hF : g_hd T (4 * b + g_upW T b) = g_upF T b := rfl
    rw [hF] at hr
    have hmem : g_upF T b ∈ T.2 (4 * b + g_upW T b) := by rw [hr]; exact List.mem_cons_self
    have hiF := (iT (4 * b + g_upW T b)).2.2.2.2.2.2.1 _ hmem
    dsimp only at hiF
    have e8 : pb_mul 8 (4 * b + g_upW T b) = 8 * (4 * b + g_upW T b) := by unfold pb_mul; exact pb_w_id (by unfold pb_R; omega)
    have k8 : 0 ≤ 8 * (4 * b + g_upW T b) ∧ 8 * (4 * b + g_upW T b) < 64 := by omega
    have rowF : ∀ (τ : pb_H) (E' : gE) (w' : gW) (ν' : pb_H), RM τ Tm E' w' ν' → τ 0 182 (8 * (4 * b + g_upW T b)) = (g_upF T b).1 ∧ τ 0 183 (8 * (4 * b + g_upW T b)) = (g_upF T b).2.2.1 ∧ τ 0 184 (8 * (4 * b + g_upW T b)) = (g_upF T b).2.2.2.1 := by
      intro τ E' w' ν' y
      have := (y.2.2.1 _ ht.1 ht.2).2.2 0 (g_upF T b) (by rw [hm.1, hr]; rfl)
      rw [show 8 * (4 * b + g_upW T b) + ((0 : Nat) : Int) = 8 * (4 * b + g_upW T b) by omega] at this
      exact ⟨this.1, this.2.1, this.2.2.1⟩
    have tg : ∀ k t', k ≠ 2 → k ≠ 3 → Tm.1 k t' = T.1 k t' := hm.2.1
    have pl : ¬ Tm.1 1 (4 * b + g_upW T b) = 0 := by rw [tg 1 _ (by decide) (by decide)]; exact w3.1
    have r1 := rowF _ _ _ _ h1
    have a4 := m_T h1 167 4 rfl ⟨by decide, by decide⟩ ht (Or.inl pl)
    rw [tg 4 _ (by decide) (by decide)] at a4
    have a6 := (h1.2.2.2.2.2.1 b hb.1 hb.2).1
    have hse := r_sent h1
    have e4 : pb_mul 4 b = 4 * b := by unfold pb_mul; exact pb_w_id (by unfold pb_R; omega)
    have h2 := rm_sent (z := pb_w (ν 750 165 0 + 1)) (rm_upB (t := b) (v := 2) h1 197 6 (by decide) (by omega))
    -- where the frame has an address
    have hfr : ¬ (g_upF T b).1 = 7 → (g_upF T b).2.1 = T.1 4 (4 * b + g_upW T b) ∧ (64 ≤ T.1 4 (4 * b + g_upW T b) ∧ T.1 4 (4 * b + g_upW T b) < 68) := fun y => (iT.from hmem y).2
    -- the end
    have k220 : ∀ (τ : pb_H) (E' : gE) (v' : Int → Int) (R : Int) (o8 o9 : Option pb_V), E' = g_upE T E b → R = g_upR T E b → RM τ Tm E' (v', fun _ => False) (pb_up ν 750 165 0 (pb_w (ν 750 165 0 + 1))) → pb_b_M_upStep_220 x 213 Q [some (.inr 165), some (.inl b), some (.inl (4 * b + g_upW T b)), some (.inl (8 * (4 * b + g_upW T b))), some (.inl (g_upF T b).1), some (.inl (T.1 4 (4 * b + g_upW T b))), some (.inl (E.1 6 b)), some (.inl R), o8, o9] [] 213 τ := by
      intro τ E' v' R o8 o9 eE eR y
      subst eE eR
      have lp : ∀ z, z = (if (g_upF T b).1 ≤ 6 ∧ (if ¬ g_upR T E b = 0 ∧ ¬ E.1 6 b = 1 then (1 : Int) else 0) = 0 then (0 : Int) else 1) → pb_b_M_upStep_243 x 213 Q [some (.inr 165), some (.inl b), some (.inl (4 * b + g_upW T b)), some (.inl (8 * (4 * b + g_upW T b))), some (.inl (g_upF T b).1), some (.inl (T.1 4 (4 * b + g_upW T b))), some (.inl (E.1 6 b)), some (.inl (g_upR T E b)), o8, o9] [.inl z] 213 τ := by
        intro z hz
        simp only [pb_b_M_upStep_243, pb_iconst, pb_null, pb_iload, pb_aload, pb_istore, pb_astore, pb_iinc, pb_bin, pb_bin0, pb_dup, pb_pop, pb_dup2, pb_if, pb_icmp, pb_ifnull, pb_getI, pb_getR, pb_putI, pb_putZ, pb_putR, pb_alen, pb_ald, pb_aldR, pb_ast, pb_astZ, pb_astR, pb_vret, pb_iret, pb_zret, pb_aret, pb_cv, pb_cr, pb_sr, pb_switch, pb_sw, pb_nth, pb_set, pb_tk, pb_add, pb_sub, List.length_cons, List.length_nil, true_or, or_true, true_and, and_true, and_self, pb_up_same, pb_up_f, ne_eq, Nat.reduceEqDiff, not_false_eq_true, Nat.reduceAdd, Nat.reduceLeDiff, Nat.zero_le, e4]
        have := l_M_upStep (x := x) (Q := Q) (l2 := .inl (4 * b + g_upW T b)) (l3 := .inl (8 * (4 * b + g_upW T b))) (l5 := .inl (T.1 4 (4 * b + g_upW T b))) (l6 := .inl (E.1 6 b)) (l7 := .inl (g_upR T E b)) (aa := if ¬ g_upR T E b = 0 ∧ ¬ E.1 6 b = 1 then (1 : Int) else 0) hb iT hm (fun σ' h9 => hQ σ' v' ?_) 4 0 rfl τ y
        · rw [show 4 * b + ((0 : Nat) : Int) = 4 * b by omega, ← hz] at this
          exact this
        · unfold g_upT
          rw [if_neg hw]
          exact rm_ag h9 (g_stl_all hm)
      simp only [pb_b_M_upStep_220, pb_b_M_upStep_238, pb_b_M_upStep_242, pb_iconst, pb_null, pb_iload, pb_aload, pb_istore, pb_astore, pb_iinc, pb_bin, pb_bin0, pb_dup, pb_pop, pb_dup2, pb_if, pb_icmp, pb_ifnull, pb_getI, pb_getR, pb_putI, pb_putZ, pb_putR, pb_alen, pb_ald, pb_aldR, pb_ast, pb_astZ, pb_astR, pb_vret, pb_iret, pb_zret, pb_aret, pb_cv, pb_cr, pb_sr, pb_switch, pb_sw, pb_nth, pb_set, pb_tk, pb_add, pb_sub, List.length_cons, List.length_nil, true_or, or_true, true_and, and_true, and_self, pb_up_same, pb_up_f, ne_eq, Nat.reduceEqDiff, not_false_eq_true, Nat.reduceAdd, Nat.reduceLeDiff, Nat.zero_le]
      refine ⟨fun z => lp 1 (by rw [if_neg (by omega)]), fun z => ⟨fun z2 => lp 0 ?_, fun z2 => ⟨fun z3 => lp 0 ?_, fun z3 => lp 1 ?_⟩⟩⟩
      · rw [if_pos ⟨by omega, if_neg (fun q => q.1 z2)⟩]
      · rw [if_pos ⟨by omega, if_neg (fun q => q.2 z3)⟩]
      · rw [if_neg (fun q => by rw [if_pos ⟨z2, z3⟩] at q; exact absurd q.2 (by decide))]
    -- received, or not
    have k91 : ∀ (τ : pb_H), RM τ Tm (ge_set E 6 b 2) (v, fun _ => False) (pb_up ν 750 165 0 (pb_w (ν 750 165 0 + 1))) → ∀ (R : Int) (o7 o8 o9 : Option pb_V), R = g_upR T E b → pb_b_M_upStep_91 x 213 Q [some (.inr 165), some (.inl b), some (.inl (4 * b + g_upW T b)), some (.inl (8 * (4 * b + g_upW T b))), some (.inl (g_upF T b).1), some (.inl (T.1 4 (4 * b + g_upW T b))), some (.inl (E.1 6 b)), o7, o8, o9] [.inl R] 213 τ := by
      intro τ h2 R o7 o8 o9 eR
      have hk8 := hiF.1
      have eU : g_upE T E b = if ¬ g_upR T E b = 0 then ge_receive (ge_set E 6 b 2) b (g_upF T b) (T.1 14 (4 * b + g_upW T b)) else ge_set E 6 b 2 := if_neg hw
      by_cases z : R = 0
      · simp only [pb_b_M_upStep_91, pb_b_M_upStep_116, pb_b_M_upStep_146, pb_iconst, pb_null, pb_iload, pb_aload, pb_istore, pb_astore, pb_iinc, pb_bin, pb_bin0, pb_dup, pb_pop, pb_dup2, pb_if, pb_icmp, pb_ifnull, pb_getI, pb_getR, pb_putI, pb_putZ, pb_putR, pb_alen, pb_ald, pb_aldR, pb_ast, pb_astZ, pb_astR, pb_vret, pb_iret, pb_zret, pb_aret, pb_cv, pb_cr, pb_sr, pb_switch, pb_sw, pb_nth, pb_set, pb_tk, pb_add, pb_sub, List.length_cons, List.length_nil, true_or, or_true, true_and, and_true, and_self, pb_up_same, pb_up_f, ne_eq, Nat.reduceEqDiff, not_false_eq_true, Nat.reduceAdd, Nat.reduceLeDiff, Nat.zero_le, z, not_true_eq_false, false_imp_iff, true_imp_iff]
        have := k220 _ _ _ 0 o8 o9 rfl (by rw [← eR, z]) (by rw [eU, if_neg (fun y => y (eR ▸ z))]; exact h2)
        exact this
      · rw [if_pos (fun y => z (eR.trans y))] at eU
        by_cases k7 : (g_upF T b).1 = 7
        · unfold ge_receive at eU
          rw [if_pos k7] at eU
          have r2 := rowF _ _ _ _ h2
          simp only [pb_b_M_upStep_91, pb_iconst, pb_null, pb_iload, pb_aload, pb_istore, pb_astore, pb_iinc, pb_bin, pb_bin0, pb_dup, pb_pop, pb_dup2, pb_if, pb_icmp, pb_ifnull, pb_getI, pb_getR, pb_putI, pb_putZ, pb_putR, pb_alen, pb_ald, pb_aldR, pb_ast, pb_astZ, pb_astR, pb_vret, pb_iret, pb_zret, pb_aret, pb_cv, pb_cr, pb_sr, pb_switch, pb_sw, pb_nth, pb_set, pb_tk, pb_add, pb_sub, List.length_cons, List.length_nil, true_or, or_true, true_and, and_true, and_self, pb_up_same, pb_up_f, ne_eq, Nat.reduceEqDiff, not_false_eq_true, Nat.reduceAdd, Nat.reduceLeDiff, Nat.zero_le, is_M, mf_value h2.1, mk_value, ml_value, z, k7, k8, r2.2.2, not_true_eq_false, not_false_eq_true, false_imp_iff, true_imp_iff, Int.reduceEq]
          refine c_M_requested h2 hb (fun t q1 q2 q3 => ?_) (fun σ3 h3 => ?_)
          · have e : ∀ k, k ≠ 6 → (ge_set E 6 b 2).1 k t = E.1 k t := fun k hk => ge_set_n (by omega)
            rw [e 0 (by decide)] at q3
            rw [e 3 (by decide)]
            exact (iL t).1 q3
          · have hk := k220 σ3 _ _ R o8 o9 rfl eR (by rw [eU]; exact h3)
            rw [k7] at hk
            simp only [pb_b_M_upStep_116, pb_b_M_upStep_146, pb_iconst, pb_null, pb_iload, pb_aload, pb_istore, pb_astore, pb_iinc, pb_bin, pb_bin0, pb_dup, pb_pop, pb_dup2, pb_if, pb_icmp, pb_ifnull, pb_getI, pb_getR, pb_putI, pb_putZ, pb_putR, pb_alen, pb_ald, pb_aldR, pb_ast, pb_astZ, pb_astR, pb_vret, pb_iret, pb_zret, pb_aret, pb_cv, pb_cr, pb_sr, pb_switch, pb_sw, pb_nth, pb_set, pb_tk, pb_add, pb_sub, List.length_cons, List.length_nil, true_or, or_true, true_and, and_true, and_self, pb_up_same, pb_up_f, ne_eq, Nat.reduceEqDiff, not_false_eq_true, Nat.reduceAdd, Nat.reduceLeDiff, Nat.zero_le, z, not_true_eq_false, not_false_eq_true, false_imp_iff, true_imp_iff, Int.reduceEq, Int.reduceLE]
            exact hk
        · obtain ⟨f1, f2⟩ := hfr k7
          unfold ge_receive at eU
          rw [if_neg k7, f1, if_neg (fun y => y f2)] at eU
          have e5 : pb_w (4 * b + T.1 4 (4 * b + g_upW T b)) = 4 * b + T.1 4 (4 * b + g_upW T b) := pb_w_id (by unfold pb_R; omega)
          have e6 : pb_w (4 * b + T.1 4 (4 * b + g_upW T b) - 64) = 4 * b + (T.1 4 (4 * b + g_upW T b) - 64) := by rw [pb_w_id (by unfold pb_R; omega)]; omega
          have hx : 0 ≤ 4 * b + (T.1 4 (4 * b + g_upW T b) - 64) ∧ 4 * b + (T.1 4 (4 * b + g_upW T b) - 64) < 8 := by omega
          obtain ⟨q0, q1, q2, q3, q5⟩ := h2.2.2.2.2.1 _ hx.1 hx.2
          by_cases k8' : (g_upF T b).1 = 8
          · rw [if_pos k8'] at eU
            have h3 := rm_upL (t := 4 * b + (T.1 4 (4 * b + g_upW T b) - 64)) (v := pb_w ((ge_set E 6 b 2).1 5 (4 * b + (T.1 4 (4 * b + g_upW T b) - 64)) + 1)) h2 196 5 (by omega)
            have hk := k220 _ _ _ R o8 o9 rfl eR (by rw [eU]; exact h3)
            rw [k8'] at hk
            simp only [pb_b_M_upStep_91, pb_b_M_upStep_116, pb_b_M_upStep_146, pb_iconst, pb_null, pb_iload, pb_aload, pb_istore, pb_astore, pb_iinc, pb_bin, pb_bin0, pb_dup, pb_pop, pb_dup2, pb_if, pb_icmp, pb_ifnull, pb_getI, pb_getR, pb_putI, pb_putZ, pb_putR, pb_alen, pb_ald, pb_aldR, pb_ast, pb_astZ, pb_astR, pb_vret, pb_iret, pb_zret, pb_aret, pb_cv, pb_cr, pb_sr, pb_switch, pb_sw, pb_nth, pb_set, pb_tk, pb_add, pb_sub, List.length_cons, List.length_nil, true_or, or_true, true_and, and_true, and_self, pb_up_same, pb_up_f, ne_eq, Nat.reduceEqDiff, not_false_eq_true, Nat.reduceAdd, Nat.reduceLeDiff, Nat.zero_le, is_M, mf_auditCount h2.1, mk_auditCount, ml_auditCount, z, k8', e4, e5, e6, hx, q5, not_true_eq_false, not_false_eq_true, false_imp_iff, true_imp_iff, Int.reduceEq, Int.reduceLE]
            exact hk
          · have hn : (g_upF T b).1 ≤ 6 := by omega
            have n7 : ¬ 7 ≤ (g_upF T b).1 := by omega
            rw [if_neg k8'] at eU
            have a14 := m_T h2 178 14 rfl ⟨by decide, by decide⟩ ht (Or.inl pl)
            rw [tg 14 _ (by decide) (by decide)] at a14
            have r2 := rowF _ _ _ _ h2
            have e2E : ∀ t, (ge_set E 6 b 2).1 2 t = E.1 2 t := fun t => ge_set_n (by omega)
            rw [e2E] at q2 eU
            simp only [pb_b_M_upStep_91, pb_b_M_upStep_116, pb_b_M_upStep_146, pb_iconst, pb_null, pb_iload, pb_aload, pb_istore, pb_astore, pb_iinc, pb_bin, pb_bin0, pb_dup, pb_pop, pb_dup2, pb_if, pb_icmp, pb_ifnull, pb_getI, pb_getR, pb_putI, pb_putZ, pb_putR, pb_alen, pb_ald, pb_aldR, pb_ast, pb_astZ, pb_astR, pb_vret, pb_iret, pb_zret, pb_aret, pb_cv, pb_cr, pb_sr, pb_switch, pb_sw, pb_nth, pb_set, pb_tk, pb_add, pb_sub, List.length_cons, List.length_nil, true_or, or_true, true_and, and_true, and_self, pb_up_same, pb_up_f, ne_eq, Nat.reduceEqDiff, not_false_eq_true, Nat.reduceAdd, Nat.reduceLeDiff, Nat.zero_le, is_M, mf_exchangeTakes h2.1, mk_exchangeTakes, ml_exchangeTakes, mf_sends h2.1, mk_sends, ml_sends, mf_value h2.1, mk_value, ml_value, mf_reference h2.1, mk_reference, ml_reference, z, k7, k8', n7, e4, e5, e6, hx, ht, k8, q2, a14, r2.2.1, r2.2.2, pb_up_p, not_true_eq_false, not_false_eq_true, false_imp_iff, true_imp_iff, Int.reduceEq, Int.reduceLE]
            refine ⟨fun z2 => ?_, fun z2 => ?_⟩
            · rw [if_neg (fun y => z2 y.symm)] at eU
              exact k220 _ _ _ R o8 o9 rfl eR (by rw [eU]; exact h2)
            · have z3 : E.1 2 (4 * b + (T.1 4 (4 * b + g_upW T b) - 64)) = T.1 14 (4 * b + g_upW T b) := (Decidable.not_not.mp z2).symm
              rw [if_pos z3] at eU
              have h3 := rm_upL (t := 4 * b + (T.1 4 (4 * b + g_upW T b) - 64)) (v := pb_w (1 - T.1 14 (4 * b + g_upW T b))) h2 194 2 (by omega)
              have ex : pb_xor (E.1 2 (4 * b + (T.1 4 (4 * b + g_upW T b) - 64))) 1 = pb_w (1 - T.1 14 (4 * b + g_upW T b)) := by
                rw [← z3]
                exact pb_xor1 (iL _).2.2.2
              rw [ex]
              have e8E : ∀ E2 : gE, (ge_set (ge_set E 6 b 2) 2 (4 * b + (T.1 4 (4 * b + g_upW T b) - 64)) (pb_w (1 - T.1 14 (4 * b + g_upW T b)))).1 8 0 = E.1 8 0 := fun _ => (ge_set_n (by omega)).trans (ge_set_n (by omega))
              have := c_M_does (x := x) (fr := g_upF T b) (Q := fun _ σ' => pb_b_M_upStep_220 x 213 Q [some (.inr 165), some (.inl b), some (.inl (4 * b + g_upW T b)), some (.inl (8 * (4 * b + g_upW T b))), some (.inl (g_upF T b).1), some (.inl (T.1 4 (4 * b + g_upW T b))), some (.inl (E.1 6 b)), some (.inl R), o8, o9] [] 213 σ') h3 hb (by rw [f1]; exact f2) hiF.2.2.2 iA iC.num iC.uq iC.cws il (by rw [e8E E]; exact hI.num) hI.bd (fun σ' v' h9 => k220 σ' _ v' R o8 o9 rfl eR (by rw [eU]; exact h9))
              rw [f1] at this
              exact this
    have a0 : ∀ t, 0 ≤ t ∧ t < 8 → σ1 0 192 t = E.1 0 t := fun t y => (h1.2.2.2.2.1 t y.1 y.2).1
    simp only [pb_b_M_upStep_11, pb_b_M_upStep_86, pb_b_M_upStep_90, pb_iconst, pb_null, pb_iload, pb_aload, pb_istore, pb_astore, pb_iinc, pb_bin, pb_bin0, pb_dup, pb_pop, pb_dup2, pb_if, pb_icmp, pb_ifnull, pb_getI, pb_getR, pb_putI, pb_putZ, pb_putR, pb_alen, pb_ald, pb_aldR, pb_ast, pb_astZ, pb_astR, pb_vret, pb_iret, pb_zret, pb_aret, pb_cv, pb_cr, pb_sr, pb_switch, pb_sw, pb_nth, pb_set, pb_tk, pb_add, pb_sub, List.length_cons, List.length_nil, true_or, or_true, true_and, and_true, and_self, pb_up_same, pb_up_f, ne_eq, Nat.reduceEqDiff, not_false_eq_true, Nat.reduceAdd, Nat.reduceLeDiff, Nat.zero_le, is_M, mf_kind h1.1, mk_kind, ml_kind, mf_address h1.1, mk_address, ml_address, mf_spoilUp h1.1, mk_spoilUp, ml_spoilUp, e8, k8, ht, hb, r1.1, a4, a6, hse, pb_up_p, Int.reduceEq]
    have eR : g_upR T E b = if ¬ E.1 6 b = 0 ∧ ¬ ge_listens E b (g_upF T b) = 0 then 1 else 0 := rfl
    unfold ge_listens at eR
    refine ⟨fun z => k91 _ h2 0 _ _ _ (by rw [eR, if_neg (fun y => y.1 z)]), fun z => ⟨fun z2 => k91 _ h2 1 _ _ _ (by rw [eR, if_neg (show ¬ (g_upF T b).1 ≤ 6 by omega), if_pos ⟨z, by decide⟩]), fun z2 => ?_⟩⟩
    obtain ⟨f1, f2⟩ := hfr (by omega)
    have e5 : pb_w (4 * b + T.1 4 (4 * b + g_upW T b)) = 4 * b + T.1 4 (4 * b + g_upW T b) := pb_w_id (by unfold pb_R; omega)
    have e6 : pb_w (4 * b + T.1 4 (4 * b + g_upW T b) - 64) = 4 * b + (T.1 4 (4 * b + g_upW T b) - 64) := by rw [pb_w_id (by unfold pb_R; omega)]; omega
    have hx : 0 ≤ 4 * b + (T.1 4 (4 * b + g_upW T b) - 64) ∧ 4 * b + (T.1 4 (4 * b + g_upW T b) - 64) < 8 := by omega
    rw [if_pos (show (g_upF T b).1 ≤ 6 by omega), f1] at eR
    simp only [is_M, mf_given h1.1, mk_given, ml_given, e4, e5, e6, hx, pb_up_p, Int.reduceEq, ne_eq, not_false_eq_true, a0 _ hx, true_and, and_true]
    refine ⟨fun z3 => k91 _ h2 0 _ _ _ ?_, fun z3 => k91 _ h2 1 _ _ _ ?_⟩
    · rw [eR, if_neg (fun y => y.2 (if_neg (fun q => q.2 z3)))]
    · rw [eR, if_pos ⟨z, by rw [if_pos ⟨f2, z3⟩]; decide⟩]
end MUP
