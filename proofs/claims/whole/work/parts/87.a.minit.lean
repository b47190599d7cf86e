/-! the other side's constructor -/
def m_P (σ0 : pb_H) (j : Nat) (σ : pb_H) : Prop := (∀ k : Nat, k < j → k < 46 → σ (701 + k) 165 0 = 166 + k) ∧ (∀ p i, 166 ≤ p → p < 166 + (j : Int) → ¬ (p = 197 ∨ p = 198) → σ 0 p i = 0) ∧ (∀ p i, (p = 197 ∨ p = 198) → p < 166 + (j : Int) → (i = 0 ∨ i = 1) → σ 0 p i = 2) ∧ (∀ f p i, p < 165 → σ f p i = σ0 f p i) ∧ (∀ i, σ 747 165 i = σ0 747 165 i ∧ σ 749 165 i = σ0 749 165 i)
section MIN
variable {x : pb_E} {σ σ0 σ' : pb_H} {Q : pb_P}
theorem m_st {j : Nat} {p : Int} {f : Nat} (hj : j < 46) (hp : p = 166 + j) (hf : f = 701 + j) (hn : j ≠ 31 ∧ j ≠ 32) (h : m_P σ0 j σ) : m_P σ0 (j + 1) (pb_up (pb_clr σ p (fun _ => 0)) f 165 0 p) := by
  obtain ⟨h1, h2, h3, h4, h5⟩ := h
  subst hp hf
  refine ⟨fun k q1 q2 => ?_, fun p i q1 q2 q3 => ?_, fun p i q1 q2 q3 => ?_, fun f p i q => ?_, fun i => ⟨?_, ?_⟩⟩
  · by_cases z : k = j
    · subst z
      rw [pb_up_same]
    · rw [pb_up_f (by omega), pb_clr_n (by omega)]
      exact h1 k (by omega) q2
  · rw [pb_up_f (by omega)]
    by_cases z : p = 166 + (j : Int)
    · subst z
      unfold pb_clr
      rw [if_pos rfl]
    · rw [pb_clr_n (by omega)]
      exact h2 p i q1 (by omega) q3
  · rw [pb_up_f (by omega), pb_clr_n (by omega)]
    exact h3 p i q1 (by omega) q3
  · rw [pb_up_k (by omega), pb_clr_n (by omega)]
    exact h4 f p i q
  · rw [pb_up_f (by omega), pb_clr_n (by omega)]
    exact (h5 i).1
  · rw [pb_up_f (by omega), pb_clr_n (by omega)]
    exact (h5 i).2
theorem m_st2 {j : Nat} {p : Int} {f : Nat} (hj : j = 31 ∨ j = 32) (hp : p = 166 + j) (hf : f = 701 + j) (h : m_P σ0 j σ) : m_P σ0 (j + 1) (pb_up (pb_up (pb_up (pb_clr σ p (fun _ => 0)) 0 p 0 2) 0 p 1 2) f 165 0 p) := by
  obtain ⟨h1, h2, h3, h4, h5⟩ := h
  subst hp hf
  refine ⟨fun k q1 q2 => ?_, fun p i q1 q2 q3 => ?_, fun p i q1 q2 q3 => ?_, fun f p i q => ?_, fun i => ⟨?_, ?_⟩⟩
  · by_cases z : k = j
    · subst z
      rw [pb_up_same]
    · rw [pb_up_f (by omega), pb_up_f (by omega), pb_up_f (by omega), pb_clr_n (by omega)]
      exact h1 k (by omega) q2
  · rw [pb_up_f (by omega), pb_up_p (by omega), pb_up_p (by omega), pb_clr_n (by omega)]
    exact h2 p i q1 (by omega) q3
  · rw [pb_up_f (by omega)]
    by_cases z : p = 166 + (j : Int)
    · subst z
      rcases q3 with rfl | rfl
      · rw [pb_up_i (by decide), pb_up_same]
      · rw [pb_up_same]
    · rw [pb_up_p (by omega), pb_up_p (by omega), pb_clr_n (by omega)]
      exact h3 p i q1 (by omega) q3
  · rw [pb_up_k (by omega), pb_up_k (by omega), pb_up_k (by omega), pb_clr_n (by omega)]
    exact h4 f p i q
  · rw [pb_up_f (by omega), pb_up_f (by omega), pb_up_f (by omega), pb_clr_n (by omega)]
    exact (h5 i).1
  · rw [pb_up_f (by omega), pb_up_f (by omega), pb_up_f (by omega), pb_clr_n (by omega)]
    exact (h5 i).2
theorem m_st3 {p : Int} (hp : p = 212) (h : m_P σ0 46 σ) : m_P σ0 47 (pb_up (pb_clr σ p (fun _ => 0)) 748 165 0 p) ∧ pb_up (pb_clr σ p (fun _ => 0)) 748 165 0 p 748 165 0 = 212 := by
  obtain ⟨h1, h2, h3, h4, h5⟩ := h
  subst hp
  refine ⟨⟨fun k q1 q2 => ?_, fun p i q1 q2 q3 => ?_, fun p i q1 q2 q3 => ?_, fun f p i q => ?_, fun i => ⟨?_, ?_⟩⟩, pb_up_same _ _ _ _ _⟩
  · rw [pb_up_f (by omega), pb_clr_n (by omega)]
    exact h1 k (by omega) q2
  · rw [pb_up_f (by omega)]
    by_cases z : p = 212
    · subst z
      unfold pb_clr
      rw [if_pos rfl]
    · rw [pb_clr_n (by omega)]
      exact h2 p i q1 (by omega) q3
  · rw [pb_up_f (by omega), pb_clr_n (by omega)]
    exact h3 p i q1 (by omega) q3
  · rw [pb_up_k (by omega), pb_clr_n (by omega)]
    exact h4 f p i q
  · rw [pb_up_f (by omega), pb_clr_n (by omega)]
    exact (h5 i).1
  · rw [pb_up_f (by omega), pb_clr_n (by omega)]
    exact (h5 i).2
theorem i7 (n : Nat) (h : 166 ≤ n) : pb_is 7 n 165 := ⟨by decide, by omega, by decide +kernel⟩
theorem n_166 : pb_kd ((166 : Nat) : Int) = 101 ∧ pb_ln ((166 : Nat) : Int) = 8 := ⟨by decide +kernel, by decide +kernel⟩
theorem n_167 : pb_kd ((167 : Nat) : Int) = 100 ∧ pb_ln ((167 : Nat) : Int) = 8 := ⟨by decide +kernel, by decide +kernel⟩
theorem n_168 : pb_kd ((168 : Nat) : Int) = 100 ∧ pb_ln ((168 : Nat) : Int) = 8 := ⟨by decide +kernel, by decide +kernel⟩
theorem n_169 : pb_kd ((169 : Nat) : Int) = 101 ∧ pb_ln ((169 : Nat) : Int) = 8 := ⟨by decide +kernel, by decide +kernel⟩
theorem n_170 : pb_kd ((170 : Nat) : Int) = 100 ∧ pb_ln ((170 : Nat) : Int) = 8 := ⟨by decide +kernel, by decide +kernel⟩
theorem n_171 : pb_kd ((171 : Nat) : Int) = 100 ∧ pb_ln ((171 : Nat) : Int) = 8 := ⟨by decide +kernel, by decide +kernel⟩
theorem n_172 : pb_kd ((172 : Nat) : Int) = 100 ∧ pb_ln ((172 : Nat) : Int) = 8 := ⟨by decide +kernel, by decide +kernel⟩
theorem n_173 : pb_kd ((173 : Nat) : Int) = 100 ∧ pb_ln ((173 : Nat) : Int) = 8 := ⟨by decide +kernel, by decide +kernel⟩
theorem n_174 : pb_kd ((174 : Nat) : Int) = 100 ∧ pb_ln ((174 : Nat) : Int) = 8 := ⟨by decide +kernel, by decide +kernel⟩
theorem n_175 : pb_kd ((175 : Nat) : Int) = 100 ∧ pb_ln ((175 : Nat) : Int) = 8 := ⟨by decide +kernel, by decide +kernel⟩
theorem n_176 : pb_kd ((176 : Nat) : Int) = 100 ∧ pb_ln ((176 : Nat) : Int) = 8 := ⟨by decide +kernel, by decide +kernel⟩
theorem n_177 : pb_kd ((177 : Nat) : Int) = 100 ∧ pb_ln ((177 : Nat) : Int) = 8 := ⟨by decide +kernel, by decide +kernel⟩
theorem n_178 : pb_kd ((178 : Nat) : Int) = 100 ∧ pb_ln ((178 : Nat) : Int) = 8 := ⟨by decide +kernel, by decide +kernel⟩
theorem n_179 : pb_kd ((179 : Nat) : Int) = 100 ∧ pb_ln ((179 : Nat) : Int) = 8 := ⟨by decide +kernel, by decide +kernel⟩
theorem n_180 : pb_kd ((180 : Nat) : Int) = 101 ∧ pb_ln ((180 : Nat) : Int) = 8 := ⟨by decide +kernel, by decide +kernel⟩
theorem n_181 : pb_kd ((181 : Nat) : Int) = 100 ∧ pb_ln ((181 : Nat) : Int) = 8 := ⟨by decide +kernel, by decide +kernel⟩
theorem n_182 : pb_kd ((182 : Nat) : Int) = 100 ∧ pb_ln ((182 : Nat) : Int) = 64 := ⟨by decide +kernel, by decide +kernel⟩
theorem n_183 : pb_kd ((183 : Nat) : Int) = 100 ∧ pb_ln ((183 : Nat) : Int) = 64 := ⟨by decide +kernel, by decide +kernel⟩
theorem n_184 : pb_kd ((184 : Nat) : Int) = 100 ∧ pb_ln ((184 : Nat) : Int) = 64 := ⟨by decide +kernel, by decide +kernel⟩
theorem n_185 : pb_kd ((185 : Nat) : Int) = 100 ∧ pb_ln ((185 : Nat) : Int) = 64 := ⟨by decide +kernel, by decide +kernel⟩
theorem n_186 : pb_kd ((186 : Nat) : Int) = 100 ∧ pb_ln ((186 : Nat) : Int) = 2 := ⟨by decide +kernel, by decide +kernel⟩
theorem n_187 : pb_kd ((187 : Nat) : Int) = 100 ∧ pb_ln ((187 : Nat) : Int) = 48 := ⟨by decide +kernel, by decide +kernel⟩
theorem n_188 : pb_kd ((188 : Nat) : Int) = 100 ∧ pb_ln ((188 : Nat) : Int) = 48 := ⟨by decide +kernel, by decide +kernel⟩
theorem n_189 : pb_kd ((189 : Nat) : Int) = 100 ∧ pb_ln ((189 : Nat) : Int) = 48 := ⟨by decide +kernel, by decide +kernel⟩
theorem n_190 : pb_kd ((190 : Nat) : Int) = 100 ∧ pb_ln ((190 : Nat) : Int) = 48 := ⟨by decide +kernel, by decide +kernel⟩
theorem n_191 : pb_kd ((191 : Nat) : Int) = 100 ∧ pb_ln ((191 : Nat) : Int) = 48 := ⟨by decide +kernel, by decide +kernel⟩
theorem n_192 : pb_kd ((192 : Nat) : Int) = 101 ∧ pb_ln ((192 : Nat) : Int) = 8 := ⟨by decide +kernel, by decide +kernel⟩
theorem n_193 : pb_kd ((193 : Nat) : Int) = 100 ∧ pb_ln ((193 : Nat) : Int) = 8 := ⟨by decide +kernel, by decide +kernel⟩
theorem n_194 : pb_kd ((194 : Nat) : Int) = 100 ∧ pb_ln ((194 : Nat) : Int) = 8 := ⟨by decide +kernel, by decide +kernel⟩
theorem n_195 : pb_kd ((195 : Nat) : Int) = 100 ∧ pb_ln ((195 : Nat) : Int) = 8 := ⟨by decide +kernel, by decide +kernel⟩
theorem n_196 : pb_kd ((196 : Nat) : Int) = 100 ∧ pb_ln ((196 : Nat) : Int) = 8 := ⟨by decide +kernel, by decide +kernel⟩
theorem n_197 : pb_kd ((197 : Nat) : Int) = 100 ∧ pb_ln ((197 : Nat) : Int) = 2 := ⟨by decide +kernel, by decide +kernel⟩
theorem n_198 : pb_kd ((198 : Nat) : Int) = 100 ∧ pb_ln ((198 : Nat) : Int) = 2 := ⟨by decide +kernel, by decide +kernel⟩
theorem n_199 : pb_kd ((199 : Nat) : Int) = 100 ∧ pb_ln ((199 : Nat) : Int) = 4 := ⟨by decide +kernel, by decide +kernel⟩
theorem n_200 : pb_kd ((200 : Nat) : Int) = 100 ∧ pb_ln ((200 : Nat) : Int) = 4 := ⟨by decide +kernel, by decide +kernel⟩
theorem n_201 : pb_kd ((201 : Nat) : Int) = 100 ∧ pb_ln ((201 : Nat) : Int) = 4 := ⟨by decide +kernel, by decide +kernel⟩
theorem n_202 : pb_kd ((202 : Nat) : Int) = 100 ∧ pb_ln ((202 : Nat) : Int) = 4 := ⟨by decide +kernel, by decide +kernel⟩
theorem n_203 : pb_kd ((203 : Nat) : Int) = 100 ∧ pb_ln ((203 : Nat) : Int) = 4 := ⟨by decide +kernel, by decide +kernel⟩
theorem n_204 : pb_kd ((204 : Nat) : Int) = 100 ∧ pb_ln ((204 : Nat) : Int) = 4 := ⟨by decide +kernel, by decide +kernel⟩
theorem n_205 : pb_kd ((205 : Nat) : Int) = 100 ∧ pb_ln ((205 : Nat) : Int) = 4 := ⟨by decide +kernel, by decide +kernel⟩
theorem n_206 : pb_kd ((206 : Nat) : Int) = 100 ∧ pb_ln ((206 : Nat) : Int) = 4 := ⟨by decide +kernel, by decide +kernel⟩
theorem n_207 : pb_kd ((207 : Nat) : Int) = 100 ∧ pb_ln ((207 : Nat) : Int) = 4 := ⟨by decide +kernel, by decide +kernel⟩
theorem n_208 : pb_kd ((208 : Nat) : Int) = 100 ∧ pb_ln ((208 : Nat) : Int) = 4 := ⟨by decide +kernel, by decide +kernel⟩
theorem n_209 : pb_kd ((209 : Nat) : Int) = 101 ∧ pb_ln ((209 : Nat) : Int) = 4 := ⟨by decide +kernel, by decide +kernel⟩
theorem n_210 : pb_kd ((210 : Nat) : Int) = 100 ∧ pb_ln ((210 : Nat) : Int) = 4 := ⟨by decide +kernel, by decide +kernel⟩
theorem n_211 : pb_kd ((211 : Nat) : Int) = 100 ∧ pb_ln ((211 : Nat) : Int) = 16 := ⟨by decide +kernel, by decide +kernel⟩
theorem n_212 : pb_kd ((212 : Nat) : Int) = 100 ∧ pb_ln ((212 : Nat) : Int) = 4 := ⟨by decide +kernel, by decide +kernel⟩
theorem n_a197 : pb_is 100 198 ((197 : Nat) : Int) := ⟨by decide, by decide, by decide +kernel⟩
theorem n_a198 : pb_is 100 199 ((198 : Nat) : Int) := ⟨by decide, by decide, by decide +kernel⟩
set_option maxHeartbeats 4000000 in
set_option maxRecDepth 10000 in
theorem c_M_init (hQ : ∀ σ', m_P σ 47 σ' ∧ σ' 748 165 0 = 212 → Q (.inl 0) σ') : pb_MJ x i_M_init [.inr 165] 166 σ Q := by
  refine pb_m_M_init ?_
  have hb : m_P σ 0 σ := ⟨fun k q1 _ => absurd q1 (by omega), fun p i q1 q2 _ => absurd q2 (by omega), fun p i q1 q2 _ => absurd q2 (by omega), fun _ _ _ _ => rfl, fun _ => ⟨rfl, rfl⟩⟩
  simp only [pb_b_M_init_0, pb_obj, pb_newa, pb_vretN, pb_iconst, pb_null, pb_iload, pb_aload, pb_istore, pb_astore, pb_iinc, pb_bin, pb_bin0, pb_dup, pb_pop, pb_dup2, pb_if, pb_icmp, pb_ifnull, pb_getI, pb_getR, pb_putI, pb_putZ, pb_putR, pb_alen, pb_ald, pb_aldR, pb_ast, pb_astZ, pb_astR, pb_vret, pb_iret, pb_zret, pb_aret, pb_cv, pb_cr, pb_sr, pb_switch, pb_sw, pb_nth, pb_set, pb_tk, pb_add, pb_sub, List.length_cons, List.length_nil, true_or, or_true, true_and, and_true, and_self, pb_up_same, pb_up_f, ne_eq, Nat.reduceEqDiff, not_false_eq_true, Nat.reduceAdd, Nat.reduceLeDiff, Nat.zero_le, n_166.1, n_166.2, i7 167 (by decide), n_167.1, n_167.2, i7 168 (by decide), n_168.1, n_168.2, i7 169 (by decide), n_169.1, n_169.2, i7 170 (by decide), n_170.1, n_170.2, i7 171 (by decide), n_171.1, n_171.2, i7 172 (by decide), n_172.1, n_172.2, i7 173 (by decide), n_173.1, n_173.2, i7 174 (by decide), n_174.1, n_174.2, i7 175 (by decide), n_175.1, n_175.2, i7 176 (by decide), n_176.1, n_176.2, i7 177 (by decide), n_177.1, n_177.2, i7 178 (by decide), n_178.1, n_178.2, i7 179 (by decide), n_179.1, n_179.2, i7 180 (by decide), n_180.1, n_180.2, i7 181 (by decide), n_181.1, n_181.2, i7 182 (by decide), n_182.1, n_182.2, i7 183 (by decide), n_183.1, n_183.2, i7 184 (by decide), n_184.1, n_184.2, i7 185 (by decide), n_185.1, n_185.2, i7 186 (by decide), n_186.1, n_186.2, i7 187 (by decide), n_187.1, n_187.2, i7 188 (by decide), n_188.1, n_188.2, i7 189 (by decide), n_189.1, n_189.2, i7 190 (by decide), n_190.1, n_190.2, i7 191 (by decide), n_191.1, n_191.2, i7 192 (by decide), n_192.1, n_192.2, i7 193 (by decide), n_193.1, n_193.2, i7 194 (by decide), n_194.1, n_194.2, i7 195 (by decide), n_195.1, n_195.2, i7 196 (by decide), n_196.1, n_196.2, i7 197 (by decide), n_197.1, n_197.2, i7 198 (by decide), n_198.1, n_198.2, i7 199 (by decide), n_199.1, n_199.2, i7 200 (by decide), n_200.1, n_200.2, i7 201 (by decide), n_201.1, n_201.2, i7 202 (by decide), n_202.1, n_202.2, i7 203 (by decide), n_203.1, n_203.2, i7 204 (by decide), n_204.1, n_204.2, i7 205 (by decide), n_205.1, n_205.2, i7 206 (by decide), n_206.1, n_206.2, i7 207 (by decide), n_207.1, n_207.2, i7 208 (by decide), n_208.1, n_208.2, i7 209 (by decide), n_209.1, n_209.2, i7 210 (by decide), n_210.1, n_210.2, i7 211 (by decide), n_211.1, n_211.2, i7 212 (by decide), n_212.1, n_212.2, i7 213 (by decide), n_a197, n_a198, Int.reduceLE, Int.reduceLT, Nat.reduceLT, Int.reduceNeg, Int.reduceEq]
  exact hQ _ (m_st3 rfl (m_st (j := 45) (by decide) rfl rfl (by decide) (m_st (j := 44) (by decide) rfl rfl (by decide) (m_st (j := 43) (by decide) rfl rfl (by decide) (m_st (j := 42) (by decide) rfl rfl (by decide) (m_st (j := 41) (by decide) rfl rfl (by decide) (m_st (j := 40) (by decide) rfl rfl (by decide) (m_st (j := 39) (by decide) rfl rfl (by decide) (m_st (j := 38) (by decide) rfl rfl (by decide) (m_st (j := 37) (by decide) rfl rfl (by decide) (m_st (j := 36) (by decide) rfl rfl (by decide) (m_st (j := 35) (by decide) rfl rfl (by decide) (m_st (j := 34) (by decide) rfl rfl (by decide) (m_st (j := 33) (by decide) rfl rfl (by decide) (m_st2 (j := 32) (by omega) rfl rfl (m_st2 (j := 31) (by omega) rfl rfl (m_st (j := 30) (by decide) rfl rfl (by decide) (m_st (j := 29) (by decide) rfl rfl (by decide) (m_st (j := 28) (by decide) rfl rfl (by decide) (m_st (j := 27) (by decide) rfl rfl (by decide) (m_st (j := 26) (by decide) rfl rfl (by decide) (m_st (j := 25) (by decide) rfl rfl (by decide) (m_st (j := 24) (by decide) rfl rfl (by decide) (m_st (j := 23) (by decide) rfl rfl (by decide) (m_st (j := 22) (by decide) rfl rfl (by decide) (m_st (j := 21) (by decide) rfl rfl (by decide) (m_st (j := 20) (by decide) rfl rfl (by decide) (m_st (j := 19) (by decide) rfl rfl (by decide) (m_st (j := 18) (by decide) rfl rfl (by decide) (m_st (j := 17) (by decide) rfl rfl (by decide) (m_st (j := 16) (by decide) rfl rfl (by decide) (m_st (j := 15) (by decide) rfl rfl (by decide) (m_st (j := 14) (by decide) rfl rfl (by decide) (m_st (j := 13) (by decide) rfl rfl (by decide) (m_st (j := 12) (by decide) rfl rfl (by decide) (m_st (j := 11) (by decide) rfl rfl (by decide) (m_st (j := 10) (by decide) rfl rfl (by decide) (m_st (j := 9) (by decide) rfl rfl (by decide) (m_st (j := 8) (by decide) rfl rfl (by decide) (m_st (j := 7) (by decide) rfl rfl (by decide) (m_st (j := 6) (by decide) rfl rfl (by decide) (m_st (j := 5) (by decide) rfl rfl (by decide) (m_st (j := 4) (by decide) rfl rfl (by decide) (m_st (j := 3) (by decide) rfl rfl (by decide) (m_st (j := 2) (by decide) rfl rfl (by decide) (m_st (j := 1) (by decide) rfl rfl (by decide) (m_st (j := 0) (by decide) rfl rfl (by decide) hb)))))))))))))))))))))))))))))))))))))))))))))))
end MIN
