/-! ===== free cuts, cuts at a corner ===== -/
/-- no cut that is there is it or crosses it -/
def fr (n cu i : Nat) : Prop := cu.testBit i = false ∧ ∀ k, k < cu_N n → cu.testBit k = true → cu_x n k i = false
theorem cu_x_sym (n i j : Nat) : cu_x n i j = cu_x n j i := by
  unfold cu_x
  exact Bool.or_comm _ _
theorem cu_x_irr (n i : Nat) : cu_x n i i = false := by
  unfold cu_x
  simp
theorem cu_x_iff {n i j : Nat} : cu_x n i j = true ↔ (cu_a n i < cu_a n j ∧ cu_a n j < cu_b n i ∧ cu_b n i < cu_b n j) ∨ (cu_a n j < cu_a n i ∧ cu_a n i < cu_b n j ∧ cu_b n j < cu_b n i) := by
  unfold cu_x
  simp [and_assoc]
theorem hm_cross {n i j : Nat} (h : 4 ≤ n) (h9 : n ≤ 9) (hi : i < cu_N n) (hj : j < cu_N n) (m : am_Mm) : f_M_doCross (nI (10 * cu_a n i + cu_b n i)) (nI (10 * cu_a n j + cu_b n j)) m = some (nI (if cu_x n i j then 1 else 0), m) := by
  have a := hm_b10 h h9 hi
  have b := hm_b10 h h9 hj
  have c := cu_ab h h9 hi
  have d := cu_ab h h9 hj
  have bt : ∀ x u v : Nat, x < 10 → u < 10 → v < 10 → f_M_isBetween (nI x) (nI u) (nI v) m = some (nI (if u < x ∧ x < v then 1 else 0), m) := by
    intro x u v hx hu hv
    unfold f_M_isBetween
    by_cases q : u < x
    · by_cases r : x < v
      · rw [if_pos (show u < x ∧ x < v from ⟨q, r⟩)]; simp (disch := omega) only [nq0, nq1, nq2, nq3, nq4, nq5, nq6, nq7, nq8, nq9, nq10, nq11, nq20, nq24, nq27, nq30, nq40, nI_add, pk_sub, pk_mul, nq_div, nq_rem, nq_shl1, nq_shl2, nq_bit1, nq_bit0, nq_or, nq_and, nq_nd, ml_cl, nq_in, nq_le, nq_nle, nq_lt, nq_nlt, nq_eq, nq_ne, nq_eqT, Option.bind_some, ↓reduceIte]
      · rw [if_neg (show ¬ (u < x ∧ x < v) from fun z => r z.2)]; simp (disch := omega) only [nq0, nq1, nq2, nq3, nq4, nq5, nq6, nq7, nq8, nq9, nq10, nq11, nq20, nq24, nq27, nq30, nq40, nI_add, pk_sub, pk_mul, nq_div, nq_rem, nq_shl1, nq_shl2, nq_bit1, nq_bit0, nq_or, nq_and, nq_nd, ml_cl, nq_in, nq_le, nq_nle, nq_lt, nq_nlt, nq_eq, nq_ne, nq_eqT, Option.bind_some, ↓reduceIte]
    · rw [if_neg (show ¬ (u < x ∧ x < v) from fun z => q z.1)]; simp (disch := omega) only [nq0, nq1, nq2, nq3, nq4, nq5, nq6, nq7, nq8, nq9, nq10, nq11, nq20, nq24, nq27, nq30, nq40, nI_add, pk_sub, pk_mul, nq_div, nq_rem, nq_shl1, nq_shl2, nq_bit1, nq_bit0, nq_or, nq_and, nq_nd, ml_cl, nq_in, nq_le, nq_nle, nq_lt, nq_nlt, nq_eq, nq_ne, nq_eqT, Option.bind_some, ↓reduceIte]
  unfold f_M_doCross
  simp (disch := omega) only [nq10, nq_div, nq_rem, a.1, a.2.1, b.1, b.2.1]
  generalize hX : cu_x n i j = X
  have hx := @cu_x_iff n i j
  rw [hX] at hx
  by_cases q1 : cu_a n i = cu_a n j
  · have : ¬ X = true := fun z => by have := hx.mp z; omega
    rw [if_neg this]; simp (disch := omega) only [nq0, nq1, nq2, nq3, nq4, nq5, nq6, nq7, nq8, nq9, nq10, nq11, nq20, nq24, nq27, nq30, nq40, nI_add, pk_sub, pk_mul, nq_div, nq_rem, nq_shl1, nq_shl2, nq_bit1, nq_bit0, nq_or, nq_and, nq_nd, ml_cl, nq_in, nq_le, nq_nle, nq_lt, nq_nlt, nq_eq, nq_ne, nq_eqT, Option.bind_some, ↓reduceIte]
  by_cases q2 : cu_a n i = cu_b n j
  · have : ¬ X = true := fun z => by have := hx.mp z; omega
    rw [if_neg this]; simp (disch := omega) only [nq0, nq1, nq2, nq3, nq4, nq5, nq6, nq7, nq8, nq9, nq10, nq11, nq20, nq24, nq27, nq30, nq40, nI_add, pk_sub, pk_mul, nq_div, nq_rem, nq_shl1, nq_shl2, nq_bit1, nq_bit0, nq_or, nq_and, nq_nd, ml_cl, nq_in, nq_le, nq_nle, nq_lt, nq_nlt, nq_eq, nq_ne, nq_eqT, Option.bind_some, ↓reduceIte]
  by_cases q3 : cu_b n i = cu_a n j
  · have : ¬ X = true := fun z => by have := hx.mp z; omega
    rw [if_neg this]; simp (disch := omega) only [nq0, nq1, nq2, nq3, nq4, nq5, nq6, nq7, nq8, nq9, nq10, nq11, nq20, nq24, nq27, nq30, nq40, nI_add, pk_sub, pk_mul, nq_div, nq_rem, nq_shl1, nq_shl2, nq_bit1, nq_bit0, nq_or, nq_and, nq_nd, ml_cl, nq_in, nq_le, nq_nle, nq_lt, nq_nlt, nq_eq, nq_ne, nq_eqT, Option.bind_some, ↓reduceIte]
  by_cases q4 : cu_b n i = cu_b n j
  · have : ¬ X = true := fun z => by have := hx.mp z; omega
    rw [if_neg this]; simp (disch := omega) only [nq0, nq1, nq2, nq3, nq4, nq5, nq6, nq7, nq8, nq9, nq10, nq11, nq20, nq24, nq27, nq30, nq40, nI_add, pk_sub, pk_mul, nq_div, nq_rem, nq_shl1, nq_shl2, nq_bit1, nq_bit0, nq_or, nq_and, nq_nd, ml_cl, nq_in, nq_le, nq_nle, nq_lt, nq_nlt, nq_eq, nq_ne, nq_eqT, Option.bind_some, ↓reduceIte]
  rw [bt _ _ _ (by omega) (by omega) (by omega)]
  simp (disch := omega) only [nq0, nq1, nq2, nq3, nq4, nq5, nq6, nq7, nq8, nq9, nq10, nq11, nq20, nq24, nq27, nq30, nq40, nI_add, pk_sub, pk_mul, nq_div, nq_rem, nq_shl1, nq_shl2, nq_bit1, nq_bit0, nq_or, nq_and, nq_nd, ml_cl, nq_in, nq_le, nq_nle, nq_lt, nq_nlt, nq_eq, nq_ne, nq_eqT, Option.bind_some, ↓reduceIte, bt]
  by_cases u : cu_a n i < cu_a n j ∧ cu_a n j < cu_b n i <;> by_cases v : cu_a n i < cu_b n j ∧ cu_b n j < cu_b n i
  · have : ¬ X = true := fun z => by have := hx.mp z; omega
    rw [if_neg this, if_pos u, if_pos v]; simp (disch := omega) only [nq0, nq1, nq2, nq3, nq4, nq5, nq6, nq7, nq8, nq9, nq10, nq11, nq20, nq24, nq27, nq30, nq40, nI_add, pk_sub, pk_mul, nq_div, nq_rem, nq_shl1, nq_shl2, nq_bit1, nq_bit0, nq_or, nq_and, nq_nd, ml_cl, nq_in, nq_le, nq_nle, nq_lt, nq_nlt, nq_eq, nq_ne, nq_eqT, Option.bind_some, ↓reduceIte]
  · have : X = true := hx.mpr (by omega)
    rw [if_pos this, if_pos u, if_neg v]; simp (disch := omega) only [nq0, nq1, nq2, nq3, nq4, nq5, nq6, nq7, nq8, nq9, nq10, nq11, nq20, nq24, nq27, nq30, nq40, nI_add, pk_sub, pk_mul, nq_div, nq_rem, nq_shl1, nq_shl2, nq_bit1, nq_bit0, nq_or, nq_and, nq_nd, ml_cl, nq_in, nq_le, nq_nle, nq_lt, nq_nlt, nq_eq, nq_ne, nq_eqT, Option.bind_some, ↓reduceIte]
  · have : X = true := hx.mpr (by omega)
    rw [if_pos this, if_neg u, if_pos v]; simp (disch := omega) only [nq0, nq1, nq2, nq3, nq4, nq5, nq6, nq7, nq8, nq9, nq10, nq11, nq20, nq24, nq27, nq30, nq40, nI_add, pk_sub, pk_mul, nq_div, nq_rem, nq_shl1, nq_shl2, nq_bit1, nq_bit0, nq_or, nq_and, nq_nd, ml_cl, nq_in, nq_le, nq_nle, nq_lt, nq_nlt, nq_eq, nq_ne, nq_eqT, Option.bind_some, ↓reduceIte]
  · have : ¬ X = true := fun z => by have := hx.mp z; omega
    rw [if_neg this, if_neg u, if_neg v]; simp (disch := omega) only [nq0, nq1, nq2, nq3, nq4, nq5, nq6, nq7, nq8, nq9, nq10, nq11, nq20, nq24, nq27, nq30, nq40, nI_add, pk_sub, pk_mul, nq_div, nq_rem, nq_shl1, nq_shl2, nq_bit1, nq_bit0, nq_or, nq_and, nq_nd, ml_cl, nq_in, nq_le, nq_nle, nq_lt, nq_nlt, nq_eq, nq_ne, nq_eqT, Option.bind_some, ↓reduceIte]
theorem hm_free {n cu i p : Nat} {m : am_Mm} (h : 4 ≤ n) (h9 : n ≤ 9) (h0 : m.1 p 0 = nI n) (h1 : m.1 p 1 = nI cu) (hcu : cu < 2 ^ 27) (hi : i < cu_N n) : (fr n cu i → f_M_isFree p (nI i) m = some (nI 1, m)) ∧ (¬ fr n cu i → f_M_isFree p (nI i) m = some (nI 0, m)) := by
  have h27 := cu_N27 h h9
  -- the loop goes on with 0
  have L0 : ∀ t k f, k + t = cu_N n → t < f → f_M_isFree_b23 f p (nI i) (nI n) (nI 0) (nI k) m = some (nI 0, m) := by
    intro t
    induction t with
    | zero =>
      intro k f hk hf
      obtain ⟨f, rfl⟩ : ∃ z, f = z + 1 := ⟨f - 1, by omega⟩
      have hk : k = cu_N n := by omega
      subst hk
      rw [f_M_isFree_b23]
      simp (disch := omega) only [nq0, nq1, nq2, nq3, nq4, nq5, nq6, nq7, nq8, nq9, nq10, nq11, nq20, nq24, nq27, nq30, nq40, nI_add, pk_sub, pk_mul, nq_div, nq_rem, nq_shl1, nq_shl2, nq_bit1, nq_bit0, nq_or, nq_and, nq_nd, ml_cl, nq_in, nq_le, nq_nle, nq_lt, nq_nlt, nq_eq, nq_ne, nq_eqT, Option.bind_some, ↓reduceIte, hm_many h h9, true_or]
    | succ t ih =>
      intro k f hk hf
      obtain ⟨f, rfl⟩ : ∃ z, f = z + 1 := ⟨f - 1, by omega⟩
      rw [f_M_isFree_b23]
      simp (disch := omega) only [nq0, nq1, nq2, nq3, nq4, nq5, nq6, nq7, nq8, nq9, nq10, nq11, nq20, nq24, nq27, nq30, nq40, nI_add, pk_sub, pk_mul, nq_div, nq_rem, nq_shl1, nq_shl2, nq_bit1, nq_bit0, nq_or, nq_and, nq_nd, ml_cl, nq_in, nq_le, nq_nle, nq_lt, nq_nlt, nq_eq, nq_ne, nq_eqT, Option.bind_some, ↓reduceIte, hm_many h h9, f_M_isFree_b69]
      exact ih (k + 1) f (by omega) (by omega)
  have L1 : ∀ t k f, k + t = cu_N n → t < f → ((∀ j, k ≤ j → j < cu_N n → cu.testBit j = true → cu_x n j i = false) → f_M_isFree_b23 f p (nI i) (nI n) (nI 1) (nI k) m = some (nI 1, m)) ∧ (¬ (∀ j, k ≤ j → j < cu_N n → cu.testBit j = true → cu_x n j i = false) → f_M_isFree_b23 f p (nI i) (nI n) (nI 1) (nI k) m = some (nI 0, m)) := by
    intro t
    induction t with
    | zero =>
      intro k f hk hf
      obtain ⟨f, rfl⟩ : ∃ z, f = z + 1 := ⟨f - 1, by omega⟩
      have hk : k = cu_N n := by omega
      subst hk
      refine ⟨fun _ => ?_, fun q => absurd (fun j a b => absurd b (by omega)) q⟩
      rw [f_M_isFree_b23]
      simp (disch := omega) only [nq0, nq1, nq2, nq3, nq4, nq5, nq6, nq7, nq8, nq9, nq10, nq11, nq20, nq24, nq27, nq30, nq40, nI_add, pk_sub, pk_mul, nq_div, nq_rem, nq_shl1, nq_shl2, nq_bit1, nq_bit0, nq_or, nq_and, nq_nd, ml_cl, nq_in, nq_le, nq_nle, nq_lt, nq_nlt, nq_eq, nq_ne, nq_eqT, Option.bind_some, ↓reduceIte, hm_many h h9, or_true]
    | succ t ih =>
      intro k f hk hf
      obtain ⟨f, rfl⟩ : ∃ z, f = z + 1 := ⟨f - 1, by omega⟩
      have ih1 := ih (k + 1) f (by omega) (by omega)
      rw [f_M_isFree_b23]
      by_cases hb : cu.testBit k = true
      · simp (disch := omega) only [nq0, nq1, nq2, nq3, nq4, nq5, nq6, nq7, nq8, nq9, nq10, nq11, nq20, nq24, nq27, nq30, nq40, nI_add, pk_sub, pk_mul, nq_div, nq_rem, nq_shl1, nq_shl2, nq_bit1, nq_bit0, nq_or, nq_and, nq_nd, ml_cl, nq_in, nq_le, nq_nle, nq_lt, nq_nlt, nq_eq, nq_ne, nq_eqT, Option.bind_some, ↓reduceIte, hm_many h h9, f_M_isFree_b69, h1, nq_has1 _ _ hb, hm_ends h h9, hm_cross h h9]
        by_cases hx : cu_x n k i = true
        · rw [if_pos hx]
          simp (disch := omega) only [nq0, nq1, nq2, nq3, nq4, nq5, nq6, nq7, nq8, nq9, nq10, nq11, nq20, nq24, nq27, nq30, nq40, nI_add, pk_sub, pk_mul, nq_div, nq_rem, nq_shl1, nq_shl2, nq_bit1, nq_bit0, nq_or, nq_and, nq_nd, ml_cl, nq_in, nq_le, nq_nle, nq_lt, nq_nlt, nq_eq, nq_ne, nq_eqT, Option.bind_some, ↓reduceIte]
          refine ⟨fun q => absurd (q k (Nat.le_refl _) (by omega) hb) (by rw [hx]; decide), fun _ => L0 t (k + 1) f (by omega) (by omega)⟩
        · rw [if_neg hx]
          simp (disch := omega) only [nq0, nq1, nq2, nq3, nq4, nq5, nq6, nq7, nq8, nq9, nq10, nq11, nq20, nq24, nq27, nq30, nq40, nI_add, pk_sub, pk_mul, nq_div, nq_rem, nq_shl1, nq_shl2, nq_bit1, nq_bit0, nq_or, nq_and, nq_nd, ml_cl, nq_in, nq_le, nq_nle, nq_lt, nq_nlt, nq_eq, nq_ne, nq_eqT, Option.bind_some, ↓reduceIte]
          have e : (∀ j, k ≤ j → j < cu_N n → cu.testBit j = true → cu_x n j i = false) ↔ (∀ j, k + 1 ≤ j → j < cu_N n → cu.testBit j = true → cu_x n j i = false) := by
            refine ⟨fun q j a => q j (by omega), fun q j a b c => ?_⟩
            by_cases z : j = k
            · subst z; exact Bool.eq_false_iff.mpr hx
            · exact q j (by omega) b c
          rw [e]
          exact ih1
      · simp (disch := omega) only [nq0, nq1, nq2, nq3, nq4, nq5, nq6, nq7, nq8, nq9, nq10, nq11, nq20, nq24, nq27, nq30, nq40, nI_add, pk_sub, pk_mul, nq_div, nq_rem, nq_shl1, nq_shl2, nq_bit1, nq_bit0, nq_or, nq_and, nq_nd, ml_cl, nq_in, nq_le, nq_nle, nq_lt, nq_nlt, nq_eq, nq_ne, nq_eqT, Option.bind_some, ↓reduceIte, hm_many h h9, f_M_isFree_b69, h1, nq_has0 _ _ hb]
        have e : (∀ j, k ≤ j → j < cu_N n → cu.testBit j = true → cu_x n j i = false) ↔ (∀ j, k + 1 ≤ j → j < cu_N n → cu.testBit j = true → cu_x n j i = false) := by
          refine ⟨fun q j a => q j (by omega), fun q j a b c => ?_⟩
          by_cases z : j = k
          · subst z; exact absurd c hb
          · exact q j (by omega) b c
        rw [e]
        exact ih1
  have hF : cu_N n < am_F := by show cu_N n < 5000; omega
  by_cases hb : cu.testBit i = true
  · have U : f_M_isFree p (nI i) m = f_M_isFree_b19 p (nI i) (nI n) (nI 0) m := by
      unfold f_M_isFree
      rw [h1, nq_has1 (by omega) (by omega) hb, Option.bind_some, if_neg (show ¬ nI 1 = (0 : Int32) by decide), h0]
      rfl
    have V : f_M_isFree_b19 p (nI i) (nI n) (nI 0) m = some (nI 0, m) := L0 (cu_N n) 0 am_F (by omega) hF
    rw [U, V]
    exact ⟨fun q => absurd hb (by rw [q.1]; decide), fun _ => rfl⟩
  · have U : f_M_isFree p (nI i) m = f_M_isFree_b19 p (nI i) (nI n) (nI 1) m := by
      unfold f_M_isFree
      rw [h1, nq_has0 (by omega) (by omega) hb, Option.bind_some, if_pos (show nI 0 = (0 : Int32) by decide), h0]
      rfl
    have V := L1 (cu_N n) 0 am_F (by omega) hF
    rw [U]
    unfold f_M_isFree_b19
    exact ⟨fun q => V.1 (fun j _ => q.2 j), fun q => V.2 (fun z => q ⟨Bool.eq_false_iff.mpr hb, fun j => z j (Nat.zero_le _)⟩)⟩
/-- the class: is it free? -/
theorem hc_free {n cu i p : Nat} {m : am_Mm} (h : 4 ≤ n) (h9 : n ≤ 9) (hR : rl_Ring m.1 p n) (hcu : cu < 2 ^ 27) (hi : i < cu_N n) : (fr n cu i → f_Ring_isFree p (nI cu) (nI i) m = some (nI 1, m)) ∧ (¬ fr n cu i → f_Ring_isFree p (nI cu) (nI i) m = some (nI 0, m)) := by
  have h27 := cu_N27 h h9
  obtain ⟨r1, r2, r3, r4⟩ := hR
  have r5 := (r3 i hi).2.2
  have hfi : fr n cu i ↔ cu &&& (cu_acr n i ||| 2 ^ i) = 0 := by
    unfold fr
    refine ⟨fun q => Nat.eq_of_testBit_eq fun j => ?_, fun q => ?_⟩
    · rw [Nat.zero_testBit, Nat.testBit_and, Nat.testBit_or, cu_acr_tb, Nat.testBit_two_pow]
      by_cases hj : cu.testBit j = true
      · have ne : ¬ i = j := fun z => by subst z; rw [q.1] at hj; cases hj
        by_cases hjN : j < cu_N n
        · rw [cu_x_sym, q.2 j hjN hj]
          simp [ne]
        · simp [ne, hjN]
      · simp [hj]
    · have t : ∀ j, (cu &&& (cu_acr n i ||| 2 ^ i)).testBit j = false := fun j => by rw [q, Nat.zero_testBit]
      simp only [Nat.testBit_and, Nat.testBit_or, cu_acr_tb, Nat.testBit_two_pow] at t
      refine ⟨by have := t i; simpa using this, fun k hk hb => ?_⟩
      have := t k
      rw [hb, cu_x_sym] at this
      simp [hk] at this
      exact this.1
  have hlt : cu &&& (cu_acr n i ||| 2 ^ i) < 2 ^ 31 := Nat.lt_of_le_of_lt Nat.and_le_left (by omega)
  unfold f_Ring_isFree f_Ring_isNumber
  simp (disch := omega) only [nq0, nq1, nq2, nq3, nq4, nq5, nq6, nq7, nq8, nq9, nq10, nq11, nq20, nq24, nq27, nq30, nq40, nI_add, pk_sub, pk_mul, nq_div, nq_rem, nq_shl1, nq_shl2, nq_bit1, nq_bit0, nq_or, nq_and, nq_nd, ml_cl, nq_in, nq_le, nq_nle, nq_lt, nq_nlt, nq_eq, nq_ne, nq_eqT, Option.bind_some, ↓reduceIte, r2, r5]
  rw [hfi]
  refine ⟨fun q => by rw [if_pos (by rw [q])], fun q => ?_⟩
  rw [if_neg (fun z => q ((nI_eq hlt (by decide)).mp z))]
theorem hc_isNum {n p : Nat} {x : Int32} {m : am_Mm} (h6 : m.1 p 6 = nI n) (hn : n < 100) : (∀ i, i < n → x = nI i → f_Ring_isNumber p x m = some (nI 1, m)) ∧ ((∀ i, i < n → x ≠ nI i) → f_Ring_isNumber p x m = some (nI 0, m)) := by
  unfold f_Ring_isNumber
  refine ⟨fun i hi e => ?_, fun q => ?_⟩
  · subst e
    simp (disch := omega) only [nq0, nq1, nq2, nq3, nq4, nq5, nq6, nq7, nq8, nq9, nq10, nq11, nq20, nq24, nq27, nq30, nq40, nI_add, pk_sub, pk_mul, nq_div, nq_rem, nq_shl1, nq_shl2, nq_bit1, nq_bit0, nq_or, nq_and, nq_nd, ml_cl, nq_in, nq_le, nq_nle, nq_lt, nq_nlt, nq_eq, nq_ne, nq_eqT, Option.bind_some, ↓reduceIte, h6]
  · rcases ml_ix x (n := n) (by omega) with hx | hx | ⟨k, hk, rfl⟩
    · rw [if_pos hx]; rfl
    · rw [if_neg (ml_ge_nlt0 (by omega) hx), h6, if_pos hx]; rfl
    · exact absurd rfl (q k hk)
/-! ===== corners of cuts: how many, which ===== -/
def cl (n c : Nat) : List Nat := (List.range n).filter fun d => may n (min c d) (max c d)
def ci (n c d : Nat) : Nat := nb n (min c d) (max c d)
theorem cl_g : ((List.range 10).all fun n => !decide (4 ≤ n) || (List.range n).all fun c => ((cl n c).map (ci n c)) == ((List.range (cu_N n)).filter fun i => cu_a n i == c || cu_b n i == c)) = true := by decide +kernel
theorem cl_e {n c : Nat} (h : 4 ≤ n) (h9 : n ≤ 9) (hc : c < n) : (cl n c).map (ci n c) = (List.range (cu_N n)).filter fun i => cu_a n i == c || cu_b n i == c := by
  have := al cl_g (show n < 10 by omega)
  rw [decide_eq_true h] at this
  exact eq_of_beq (al this hc)
/-- cuts at a corner -/
def ca (n cu c : Nat) : Nat := (List.range n).countP fun d => lk n cu c d
theorem lk_ci {n cu c d : Nat} : lk n cu c d = (may n (min c d) (max c d) && cu.testBit (ci n c d)) := by
  unfold lk ci
  by_cases h : c < d
  · rw [if_pos h, Nat.min_eq_left (by omega), Nat.max_eq_right (by omega)]
  · rw [if_neg h, Nat.min_eq_right (by omega), Nat.max_eq_left (by omega)]
theorem pc_countP (x : Nat) : ∀ n, pc x n = (List.range n).countP fun i => x.testBit i
  | 0 => rfl
  | n + 1 => by rw [pc_s, List.range_succ, List.countP_append, pc_countP x n]; congr 1; simp [List.countP_cons]
theorem ca_pc {n cu c : Nat} (h : 4 ≤ n) (h9 : n ≤ 9) (hc : c < n) : pc (cu &&& cu_tch n c) (cu_N n) = ca n cu c := by
  have e := congrArg (List.countP fun i => cu.testBit i) (cl_e h h9 hc)
  rw [List.countP_map, List.countP_filter] at e
  unfold cl at e
  rw [List.countP_filter] at e
  rw [pc_countP]
  unfold ca
  have e1 : (List.range n).countP (fun d => lk n cu c d) = List.countP (fun a => ((fun i => cu.testBit i) ∘ ci n c) a && may n (min c a) (max c a)) (List.range n) := by
    apply List.countP_congr
    intro d _
    rw [lk_ci, Bool.and_comm]
    rfl
  rw [e1, e]
  apply List.countP_congr
  intro i hi
  rw [Nat.testBit_and, cu_tch_tb, decide_eq_true (List.mem_range.mp hi), Bool.true_and]
theorem pc_ext {x : Nat} : ∀ {n k : Nat}, x < 2 ^ n → pc x (n + k) = pc x n
  | n, 0, _ => rfl
  | n, k + 1, hx => by
    rw [← Nat.add_assoc, pc_s, pc_ext hx, Nat.testBit_lt_two_pow (Nat.lt_of_lt_of_le hx (Nat.pow_le_pow_right (by omega) (by omega)))]
    rfl
theorem pc_30 {n x : Nat} (h : n ≤ 30) (hx : x < 2 ^ n) : pc x 30 = pc x n := by
  rw [show (30 : Nat) = n + (30 - n) by omega]
  exact pc_ext hx
