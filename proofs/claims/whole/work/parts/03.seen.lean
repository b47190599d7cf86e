/-! Values, heap, frames seen from above (numbers), and what each instruction asks. -/
abbrev pb_V : Type := Int ⊕ Int
abbrev pb_H : Type := Nat → Int → Int → Int
abbrev pb_L : Type := List (Option pb_V)
abbrev pb_K : Type := pb_L → List pb_V → Nat → pb_H → Prop
abbrev pb_P : Type := pb_V → pb_H → Prop
/-- launch, tables, array kinds, first cell; the script: its cell, length, numbers -/
abbrev pb_E : Type := Launch × va_G × (Nat → ClassId) × Nat × Nat × Nat × (Nat → Int32)
def pb_R (z : Int) : Prop := -2147483648 ≤ z ∧ z < 2147483648
def pb_w (z : Int) : Int := (Int32.ofInt z).toInt
def pb_vR : pb_V → Prop
  | .inl z => pb_R z
  | .inr z => pb_R z
/-- the cell of a number; 1000000 is the script -/
def pb_ad (x : pb_E) (z : Int) : Nat := if z = 1000000 then x.2.2.2.2.1 else x.2.2.2.1 + z.toNat
def pb_e (x : pb_E) : pb_V → Value
  | .inl z => .int (Int32.ofInt z)
  | .inr z => if z < 0 then .null else .ref (pb_ad x z)
def pb_o (x : pb_E) (z : Int) : Option Nat := if z < 0 then none else some (pb_ad x z)
/-- a field's content: 0 an int, 1 a boolean, 2 a reference -/
def pb_c (x : pb_E) (t : Nat) (z : Int) : Value := if t = 2 then pb_e x (.inr z) else .int (Int32.ofInt z)
def pb_nth : pb_L → Nat → Option pb_V
  | [], _ => none
  | a :: _, 0 => a
  | _ :: l, i + 1 => pb_nth l i
def pb_set : pb_L → Nat → pb_V → pb_L
  | [], _, _ => []
  | _ :: l, 0, v => some v :: l
  | a :: l, i + 1, v => a :: pb_set l i v
def pb_ll (x : pb_E) : Nat → pb_L → List (Nat × Value)
  | _, [] => []
  | i, none :: l => pb_ll x (i + 1) l
  | i, some v :: l => (i, pb_e x v) :: pb_ll x (i + 1) l
def pb_up (σ : pb_H) (f : Nat) (p i v : Int) : pb_H := fun f' p' i' => if f' = f ∧ p' = p ∧ i' = i then v else σ f' p' i'
/-- a new cell holds zeros, or nulls -/
def pb_clr (σ : pb_H) (n : Int) (d : Nat → Int) : pb_H := fun f p i => if p = n then d f else σ f p i
/-- an object of a kind stands there -/
def pb_is (ci n : Nat) (p : Int) : Prop := 0 ≤ p ∧ p < n ∧ pb_kd p = ci
def pb_tk : Nat → List pb_V → List pb_V → Option (List pb_V × List pb_V)
  | 0, a, S => some (a, S)
  | j + 1, a, v :: S => pb_tk j (v :: a) S
  | _ + 1, _, [] => none
def pb_add (x y : Int) : Int := pb_w (x + y)
def pb_sub (x y : Int) : Int := pb_w (x - y)
def pb_mul (x y : Int) : Int := pb_w (x * y)
def pb_and (x y : Int) : Int := (Int32.ofInt x &&& Int32.ofInt y).toInt
def pb_or (x y : Int) : Int := (Int32.ofInt x ||| Int32.ofInt y).toInt
def pb_xor (x y : Int) : Int := (Int32.ofInt x ^^^ Int32.ofInt y).toInt
def pb_shl (x y : Int) : Int := (Int32.ofInt x <<< (Int32.ofInt y &&& 31)).toInt
def pb_div (x y : Int) : Int := (Int32.ofInt x / Int32.ofInt y).toInt
def pb_rem (x y : Int) : Int := (Int32.ofInt x - Int32.ofInt x / Int32.ofInt y * Int32.ofInt y).toInt
/-! instructions, each with what comes behind it -/
def pb_iconst (z : Int) (k : pb_K) : pb_K := fun L S n σ => k L (.inl z :: S) n σ
def pb_null (k : pb_K) : pb_K := fun L S n σ => k L (.inr (-1) :: S) n σ
def pb_iload (i : Nat) (k : pb_K) : pb_K := fun L S n σ => match pb_nth L i with
  | some (.inl x) => k L (.inl x :: S) n σ
  | _ => False
def pb_aload (i : Nat) (k : pb_K) : pb_K := fun L S n σ => match pb_nth L i with
  | some (.inr x) => k L (.inr x :: S) n σ
  | _ => False
def pb_istore (i : Nat) (k : pb_K) : pb_K := fun L S n σ => match S with
  | .inl x :: S => k (pb_set L i (.inl x)) S n σ
  | _ => False
def pb_astore (i : Nat) (k : pb_K) : pb_K := fun L S n σ => match S with
  | .inr x :: S => k (pb_set L i (.inr x)) S n σ
  | _ => False
def pb_iinc (i : Nat) (c : Int) (k : pb_K) : pb_K := fun L S n σ => match pb_nth L i with
  | some (.inl x) => k (pb_set L i (.inl (pb_w (x + c)))) S n σ
  | _ => False
def pb_bin (o : Int → Int → Int) (k : pb_K) : pb_K := fun L S n σ => match S with
  | .inl y :: .inl x :: S => k L (.inl (o x y) :: S) n σ
  | _ => False
def pb_bin0 (o : Int → Int → Int) (k : pb_K) : pb_K := fun L S n σ => match S with
  | .inl y :: .inl x :: S => ¬ y = 0 ∧ k L (.inl (o x y) :: S) n σ
  | _ => False
def pb_dup (k : pb_K) : pb_K := fun L S n σ => match S with
  | v :: S => k L (v :: v :: S) n σ
  | _ => False
def pb_pop (k : pb_K) : pb_K := fun L S n σ => match S with
  | _ :: S => k L S n σ
  | _ => False
def pb_dup_x1 (k : pb_K) : pb_K := fun L S n σ => match S with
  | v :: w :: S => k L (v :: w :: v :: S) n σ
  | _ => False
def pb_dup_x2 (k : pb_K) : pb_K := fun L S n σ => match S with
  | v :: w :: u :: S => k L (v :: w :: u :: v :: S) n σ
  | _ => False
def pb_dup2 (k : pb_K) : pb_K := fun L S n σ => match S with
  | v :: w :: S => k L (v :: w :: v :: w :: S) n σ
  | _ => False
def pb_if (c : Int → Prop) (kt kf : pb_K) : pb_K := fun L S n σ => match S with
  | .inl x :: S => (c x → kt L S n σ) ∧ (¬ c x → kf L S n σ)
  | _ => False
def pb_icmp (c : Int → Int → Prop) (kt kf : pb_K) : pb_K := fun L S n σ => match S with
  | .inl y :: .inl x :: S => (c x y → kt L S n σ) ∧ (¬ c x y → kf L S n σ)
  | _ => False
def pb_ifnull (kt kf : pb_K) : pb_K := fun L S n σ => match S with
  | .inr z :: S => (z < 0 → kt L S n σ) ∧ (¬ z < 0 → kf L S n σ)
  | _ => False
/-- a switch: the pairs of number and way, the way of all others -/
def pb_sw : List (Int × pb_K) → pb_K → pb_L → List pb_V → Nat → pb_H → Int → Prop
  | [], d, L, S, n, σ, _ => d L S n σ
  | (a, k) :: r, d, L, S, n, σ, x => (x = a → k L S n σ) ∧ (¬ x = a → pb_sw r d L S n σ x)
def pb_switch (r : List (Int × pb_K)) (d : pb_K) : pb_K := fun L S n σ => match S with
  | .inl x :: S => pb_sw r d L S n σ x
  | _ => False
def pb_getI (ci f : Nat) (k : pb_K) : pb_K := fun L S n σ => match S with
  | .inr p :: S => pb_is ci n p ∧ k L (.inl (σ f p 0) :: S) n σ
  | _ => False
def pb_getR (ci f : Nat) (k : pb_K) : pb_K := fun L S n σ => match S with
  | .inr p :: S => pb_is ci n p ∧ k L (.inr (σ f p 0) :: S) n σ
  | _ => False
def pb_putI (ci f : Nat) (k : pb_K) : pb_K := fun L S n σ => match S with
  | .inl v :: .inr p :: S => pb_is ci n p ∧ k L S n (pb_up σ f p 0 v)
  | _ => False
def pb_putZ (ci f : Nat) (k : pb_K) : pb_K := fun L S n σ => match S with
  | .inl v :: .inr p :: S => pb_is ci n p ∧ (v = 0 ∨ v = 1) ∧ k L S n (pb_up σ f p 0 v)
  | _ => False
def pb_putR (ci f : Nat) (k : pb_K) : pb_K := fun L S n σ => match S with
  | .inr v :: .inr p :: S => pb_is ci n p ∧ k L S n (pb_up σ f p 0 v)
  | _ => False
def pb_alen (a : Nat) (k : pb_K) : pb_K := fun L S n σ => match S with
  | .inr p :: S => pb_is a n p ∧ k L (.inl (pb_ln p) :: S) n σ
  | _ => False
def pb_ald (a : Nat) (k : pb_K) : pb_K := fun L S n σ => match S with
  | .inl i :: .inr p :: S => pb_is a n p ∧ (0 ≤ i ∧ i < pb_ln p) ∧ k L (.inl (σ 0 p i) :: S) n σ
  | _ => False
def pb_aldR (a : Nat) (k : pb_K) : pb_K := fun L S n σ => match S with
  | .inl i :: .inr p :: S => pb_is a n p ∧ (0 ≤ i ∧ i < pb_ln p) ∧ k L (.inr (σ 0 p i) :: S) n σ
  | _ => False
def pb_ast (a : Nat) (k : pb_K) : pb_K := fun L S n σ => match S with
  | .inl v :: .inl i :: .inr p :: S => pb_is a n p ∧ (0 ≤ i ∧ i < pb_ln p) ∧ k L S n (pb_up σ 0 p i v)
  | _ => False
def pb_astZ (a : Nat) (k : pb_K) : pb_K := fun L S n σ => match S with
  | .inl v :: .inl i :: .inr p :: S => pb_is a n p ∧ (0 ≤ i ∧ i < pb_ln p) ∧ (v = 0 ∨ v = 1) ∧ k L S n (pb_up σ 0 p i v)
  | _ => False
def pb_astR (a ci : Nat) (k : pb_K) : pb_K := fun L S n σ => match S with
  | .inr v :: .inl i :: .inr p :: S => pb_is a n p ∧ (0 ≤ i ∧ i < pb_ln p) ∧ pb_is ci n v ∧ k L S n (pb_up σ 0 p i v)
  | _ => False
def pb_new (lim ci : Nat) (k : pb_K) : pb_K := fun L S n σ => pb_kd n = ci ∧ n < lim ∧ n < 900000 ∧ k L (.inr n :: S) (n + 1) (pb_clr σ n pb_df)
def pb_newa (lim a : Nat) (d : Int) (k : pb_K) : pb_K := fun L S n σ => match S with
  | .inl z :: S => pb_kd n = a ∧ pb_ln n = z ∧ (0 ≤ z ∧ z ≤ 64) ∧ n < lim ∧ n < 900000 ∧ k L (.inr n :: S) (n + 1) (pb_clr σ n (fun _ => d))
  | _ => False
/-- the script -/
def pb_sld (x : pb_E) (k : pb_K) : pb_K := fun L S n σ => match S with
  | .inl i :: .inr p :: S => p = 1000000 ∧ (0 ≤ i ∧ i < x.2.2.2.2.2.1) ∧ k L (.inl (x.2.2.2.2.2.2 i.toNat).toInt :: S) n σ
  | _ => False
def pb_slen (x : pb_E) (k : pb_K) : pb_K := fun L S n σ => match S with
  | .inr p :: S => p = 1000000 ∧ x.2.2.2.2.2.1 < 2147483648 ∧ k L (.inl x.2.2.2.2.2.1 :: S) n σ
  | _ => False
/-- Object's constructor -/
def pb_obj (k : pb_K) : pb_K := fun L S n σ => match S with
  | .inr p :: S => ¬ p < 0 ∧ S.length ≤ 8 ∧ k L S n σ
  | _ => False
def pb_vret (Q : pb_P) : pb_K := fun _ S n σ => match S with
  | [] => Q (.inl 0) σ
  | _ => False
def pb_vretN (lim : Nat) (Q : pb_P) : pb_K := fun _ S n σ => match S with
  | [] => n = lim ∧ Q (.inl 0) σ
  | _ => False
def pb_zretN (lim : Nat) (Q : pb_P) : pb_K := fun _ S n σ => match S with
  | [.inl v] => n = lim ∧ (v = 0 ∨ v = 1) ∧ Q (.inl v) σ
  | _ => False
def pb_iret (Q : pb_P) : pb_K := fun _ S n σ => match S with
  | [.inl v] => Q (.inl v) σ
  | _ => False
def pb_zret (Q : pb_P) : pb_K := fun _ S n σ => match S with
  | [.inl v] => (v = 0 ∨ v = 1) ∧ Q (.inl v) σ
  | _ => False
def pb_aret (Q : pb_P) : pb_K := fun _ S n σ => match S with
  | [.inr v] => Q (.inr v) σ
  | _ => False
/-! The machine seen from above: numbers for values, a function for the heap, one rule an instruction. -/
theorem pb_w_id {z : Int} (h : pb_R z) : pb_w z = z := Int32.toInt_ofInt_of_le (by have := h.1; omega) (by have := h.2; omega)
theorem pb_w_R (z : Int) : pb_R (pb_w z) := by
  have h1 := Int32.le_toInt (Int32.ofInt z)
  have h2 := Int32.toInt_lt (Int32.ofInt z)
  unfold pb_w pb_R
  omega
theorem pb_w_of (z : Int) : Int32.ofInt (pb_w z) = Int32.ofInt z := Int32.ofInt_toInt _
theorem pb_tR (y : Int32) : pb_R y.toInt := by
  have h1 := Int32.le_toInt y
  have h2 := Int32.toInt_lt y
  unfold pb_R
  omega
theorem pb_eqI {a c : Int} (ha : pb_R a) (hc : pb_R c) : Int32.ofInt a = Int32.ofInt c ↔ a = c := by
  constructor
  · intro h
    have h2 := congrArg Int32.toInt h
    rw [show (Int32.ofInt a).toInt = a from pb_w_id ha, show (Int32.ofInt c).toInt = c from pb_w_id hc] at h2
    exact h2
  · intro h
    rw [h]
theorem pb_ltI {a c : Int} (ha : pb_R a) (hc : pb_R c) : Int32.ofInt a < Int32.ofInt c ↔ a < c := by
  rw [Int32.lt_iff_toInt_lt, show (Int32.ofInt a).toInt = a from pb_w_id ha, show (Int32.ofInt c).toInt = c from pb_w_id hc]
theorem pb_leI {a c : Int} (ha : pb_R a) (hc : pb_R c) : Int32.ofInt a ≤ Int32.ofInt c ↔ a ≤ c := by
  rw [Int32.le_iff_toInt_le, show (Int32.ofInt a).toInt = a from pb_w_id ha, show (Int32.ofInt c).toInt = c from pb_w_id hc]
theorem pb_R0 : pb_R 0 := by unfold pb_R; omega
theorem pb_eq0 {a : Int} (ha : pb_R a) : Int32.ofInt a = 0 ↔ a = 0 := pb_eqI ha pb_R0
theorem pb_lt0 {a : Int} (ha : pb_R a) : Int32.ofInt a < 0 ↔ a < 0 := pb_ltI ha pb_R0
theorem pb_ge0 {a : Int} (ha : pb_R a) : 0 ≤ Int32.ofInt a ↔ 0 ≤ a := pb_leI pb_R0 ha
theorem pb_gt0 {a : Int} (ha : pb_R a) : 0 < Int32.ofInt a ↔ 0 < a := pb_ltI pb_R0 ha
theorem pb_le0 {a : Int} (ha : pb_R a) : Int32.ofInt a ≤ 0 ↔ a ≤ 0 := pb_leI ha pb_R0
theorem pb_clN {a : Int} (ha : pb_R a) : (Int32.ofInt a).toNatClampNeg = a.toNat := Int32.toNatClampNeg_ofInt_of_le (by have := ha.1; omega) (by have := ha.2; omega)
theorem pb_inI {a : Int} {N : Nat} (ha : pb_R a) (h0 : 0 ≤ a) (hN : a.toNat < N) : vp_in (Int32.ofInt a) N := by
  unfold vp_in
  rw [pb_clN ha, pb_lt0 ha]
  omega
theorem pb_e_cat (x : pb_E) (v : pb_V) : (pb_e x v).category = 1 := by
  cases v with
  | inl z => rfl
  | inr z =>
    unfold pb_e
    dsimp only
    split <;> rfl
theorem pb_e_ref {x : pb_E} {z : Int} (h : ¬ z < 0) : pb_e x (.inr z) = .ref (pb_ad x z) := by
  unfold pb_e
  simp [h]
theorem pb_e_pos {x : pb_E} {j : Nat} (h : j < 1000000) : pb_e x (.inr (j : Int)) = .ref (x.2.2.2.1 + j) := by
  rw [pb_e_ref (by omega)]
  unfold pb_ad
  rw [if_neg (by omega), Int.toNat_natCast]
theorem pb_e_neg {x : pb_E} {z : Int} (h : z < 0) : pb_e x (.inr z) = .null := by
  unfold pb_e
  simp [h]
theorem pb_e_rf (x : pb_E) (z : Int) : pb_e x (.inr z) = va_rf (pb_o x z) := by
  unfold pb_e pb_o
  dsimp only
  split <;> rfl
theorem pb_e_isref (x : pb_E) (z : Int) : pb_e x (.inr z) = .null ∨ ∃ a, pb_e x (.inr z) = .ref a := by
  by_cases h : z < 0
  · exact Or.inl (pb_e_neg h)
  · exact Or.inr ⟨_, pb_e_ref h⟩
/-! the words of a frame -/
theorem pb_ll_mem {x : pb_E} : ∀ (L : pb_L) (i : Nat) (q : Nat × Value), q ∈ pb_ll x i L ↔ ∃ (j : Nat) (v : pb_V), pb_nth L j = some v ∧ q = (i + j, pb_e x v)
  | [], i, q => by simp [pb_ll, pb_nth]
  | none :: L, i, q => by
    rw [pb_ll, pb_ll_mem L (i + 1) q]
    constructor
    · rintro ⟨j, v, h1, h2⟩
      exact ⟨j + 1, v, h1, by rw [h2, show i + 1 + j = i + (j + 1) by omega]⟩
    · rintro ⟨j, v, h1, h2⟩
      cases j with
      | zero => cases h1
      | succ j => exact ⟨j, v, h1, by rw [h2, show i + 1 + j = i + (j + 1) by omega]⟩
  | some w :: L, i, q => by
    rw [pb_ll, List.mem_cons, pb_ll_mem L (i + 1) q]
    constructor
    · rintro (h | ⟨j, v, h1, h2⟩)
      · exact ⟨0, w, rfl, h⟩
      · exact ⟨j + 1, v, h1, by rw [h2, show i + 1 + j = i + (j + 1) by omega]⟩
    · rintro ⟨j, v, h1, h2⟩
      cases j with
      | zero => cases h1; exact Or.inl h2
      | succ j => exact Or.inr ⟨j, v, h1, by rw [h2, show i + 1 + j = i + (j + 1) by omega]⟩
theorem pb_lget {x : pb_E} {nL i : Nat} {ls : Array Slot} {L : pb_L} {v : pb_V} (h : lv_has ls nL (pb_ll x 0 L)) (hv : pb_nth L i = some v) : ls[i]? = some (.val (pb_e x v)) := by
  have h1 := h.2.2 (i, pb_e x v) ((pb_ll_mem L 0 _).mpr ⟨i, v, hv, by rw [Nat.zero_add]⟩)
  exact h1
theorem pb_nth_set : ∀ (L : pb_L) (i j : Nat) (v w : pb_V), pb_nth (pb_set L i v) j = some w → (j = i ∧ w = v) ∨ (j ≠ i ∧ pb_nth L j = some w)
  | [], i, j, v, w, h => by simp [pb_set, pb_nth] at h
  | a :: L, 0, 0, v, w, h => by
    simp only [pb_set, pb_nth, Option.some.injEq] at h
    exact Or.inl ⟨rfl, h.symm⟩
  | a :: L, 0, j + 1, v, w, h => Or.inr ⟨by omega, h⟩
  | a :: L, i + 1, 0, v, w, h => Or.inr ⟨by omega, h⟩
  | a :: L, i + 1, j + 1, v, w, h => by
    rcases pb_nth_set L i j v w h with ⟨h1, h2⟩ | ⟨h1, h2⟩
    · exact Or.inl ⟨by omega, h2⟩
    · exact Or.inr ⟨by omega, h2⟩
theorem pb_lset {x : pb_E} {nL i : Nat} {ls : Array Slot} {L : pb_L} {v : pb_V} {u : Value} (hx : u = pb_e x v) (h : lv_has ls nL ((i, u) :: (pb_ll x 0 L).filter (fun q => !(q.1 == i) && !(q.1 + 1 == i && q.2.category == 2)))) : lv_has ls nL (pb_ll x 0 (pb_set L i v)) := by
  refine ⟨h.1, h.2.1, fun q hq => h.2.2 q ?_⟩
  obtain ⟨j, w, h1, rfl⟩ := (pb_ll_mem _ 0 q).mp hq
  rw [Nat.zero_add]
  rcases pb_nth_set L i j v w h1 with ⟨rfl, rfl⟩ | ⟨h2, h3⟩
  · rw [hx]
    exact List.mem_cons_self
  · refine List.mem_cons_of_mem _ (List.mem_filter.mpr ⟨(pb_ll_mem L 0 _).mpr ⟨j, w, h3, by rw [Nat.zero_add]⟩, ?_⟩)
    simp [h2, pb_e_cat]
theorem pb_setR {L : pb_L} {i : Nat} {v : pb_V} (h : ∀ j w, pb_nth L j = some w → pb_vR w) (hv : pb_vR v) : ∀ j w, pb_nth (pb_set L i v) j = some w → pb_vR w := by
  intro j w hw
  rcases pb_nth_set L i j v w hw with ⟨-, rfl⟩ | ⟨-, h3⟩
  · exact hv
  · exact h j w h3
