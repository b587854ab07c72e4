/-! ===== the model's small helpers ===== -/
theorem hm_many {n : Nat} (h : 4 ≤ n) (h9 : n ≤ 9) (m : am_Mm) : f_M_manyCuts (nI n) m = some (nI (cu_N n), m) := by
  unfold f_M_manyCuts
  rw [(cu_f1 n (by omega) h).1]
  have : n * (n - 3) < 100 := Nat.lt_of_le_of_lt (Nat.mul_le_mul h9 (show n - 3 ≤ 6 by omega)) (by decide)
  simp (disch := omega) only [nq0, nq1, nq2, nq3, nq4, nq5, nq6, nq7, nq8, nq9, nq10, nq11, nq20, nq24, nq27, nq30, nq40, nI_add, pk_sub, pk_mul, nq_div, nq_rem, nq_shl1, nq_shl2, nq_bit1, nq_bit0, nq_or, nq_and, nq_nd, ml_cl, nq_in, nq_le, nq_nle, nq_lt, nq_nlt, nq_eq, nq_ne, nq_eqT, Option.bind_some, ↓reduceIte]
theorem hm_go {n k : Nat} (h : 4 ≤ n) (hk : k + 2 ≤ n) (h9 : n ≤ 9) (m : am_Mm) : f_M_goFrom (nI n) (nI k) m = some (nI (go n k), m) := by
  unfold f_M_goFrom go
  by_cases h0 : k = 0
  · subst h0; simp (disch := omega) only [nq0, nq1, nq2, nq3, nq4, nq5, nq6, nq7, nq8, nq9, nq10, nq11, nq20, nq24, nq27, nq30, nq40, nI_add, pk_sub, pk_mul, nq_div, nq_rem, nq_shl1, nq_shl2, nq_bit1, nq_bit0, nq_or, nq_and, nq_nd, ml_cl, nq_in, nq_le, nq_nle, nq_lt, nq_nlt, nq_eq, nq_ne, nq_eqT, Option.bind_some, ↓reduceIte]
  · rw [if_neg h0]; simp (disch := omega) only [nq0, nq1, nq2, nq3, nq4, nq5, nq6, nq7, nq8, nq9, nq10, nq11, nq20, nq24, nq27, nq30, nq40, nI_add, pk_sub, pk_mul, nq_div, nq_rem, nq_shl1, nq_shl2, nq_bit1, nq_bit0, nq_or, nq_and, nq_nd, ml_cl, nq_in, nq_le, nq_nle, nq_lt, nq_nlt, nq_eq, nq_ne, nq_eqT, Option.bind_some, ↓reduceIte]
theorem hm_num {n a b : Nat} (h : 4 ≤ n) (h9 : n ≤ 9) (hab : a + 2 ≤ b) (hb : b < n) (m : am_Mm) : f_M_numberOf_b21 (nI n) (nI a) (nI b) m = some (nI (nb n a b), m) := by
  unfold f_M_numberOf_b21
  have L : ∀ t k f, k + t = a → t < f → f_M_numberOf_b34 f (nI n) (nI a) (nI (b - a - 2 + gs n k)) (nI k) m = some (nI (nb n a b), m) := by
    intro t
    induction t with
    | zero =>
      intro k f hk hf
      obtain ⟨f, rfl⟩ : ∃ z, f = z + 1 := ⟨f - 1, by omega⟩
      have hk : k = a := by omega
      subst hk
      rw [f_M_numberOf_b34]
      simp (disch := omega) only [nq0, nq1, nq2, nq3, nq4, nq5, nq6, nq7, nq8, nq9, nq10, nq11, nq20, nq24, nq27, nq30, nq40, nI_add, pk_sub, pk_mul, nq_div, nq_rem, nq_shl1, nq_shl2, nq_bit1, nq_bit0, nq_or, nq_and, nq_nd, ml_cl, nq_in, nq_le, nq_nle, nq_lt, nq_nlt, nq_eq, nq_ne, nq_eqT, Option.bind_some, ↓reduceIte]
      rfl
    | succ t ih =>
      intro k f hk hf
      obtain ⟨f, rfl⟩ : ∃ z, f = z + 1 := ⟨f - 1, by omega⟩
      rw [f_M_numberOf_b34]
      simp (disch := omega) only [nq0, nq1, nq2, nq3, nq4, nq5, nq6, nq7, nq8, nq9, nq10, nq11, nq20, nq24, nq27, nq30, nq40, nI_add, pk_sub, pk_mul, nq_div, nq_rem, nq_shl1, nq_shl2, nq_bit1, nq_bit0, nq_or, nq_and, nq_nd, ml_cl, nq_in, nq_le, nq_nle, nq_lt, nq_nlt, nq_eq, nq_ne, nq_eqT, Option.bind_some, ↓reduceIte, hm_go h (show k + 2 ≤ n by omega) h9]
      rw [← ih (k + 1) f (by omega) (by omega), gs, Nat.add_assoc]
  simp (disch := omega) only [nq0, nq1, nq2, nq3, nq4, nq5, nq6, nq7, nq8, nq9, nq10, nq11, nq20, nq24, nq27, nq30, nq40, nI_add, pk_sub, pk_mul, nq_div, nq_rem, nq_shl1, nq_shl2, nq_bit1, nq_bit0, nq_or, nq_and, nq_nd, ml_cl, nq_in, nq_le, nq_nle, nq_lt, nq_nlt, nq_eq, nq_ne, nq_eqT, Option.bind_some, ↓reduceIte]
  exact L a 0 am_F (by omega) (by show a < 5000; omega)
theorem hm_num1 {n a b : Nat} (h : 4 ≤ n) (h9 : n ≤ 9) (hm : may n a b = true) (m : am_Mm) : f_M_numberOf (nI n) (nI a) (nI b) m = some (nI (nb n a b), m) := by
  have := may_iff.mp hm
  unfold f_M_numberOf f_M_numberOf_b10
  simp (disch := omega) only [nq0, nq1, nq2, nq3, nq4, nq5, nq6, nq7, nq8, nq9, nq10, nq11, nq20, nq24, nq27, nq30, nq40, nI_add, pk_sub, pk_mul, nq_div, nq_rem, nq_shl1, nq_shl2, nq_bit1, nq_bit0, nq_or, nq_and, nq_nd, ml_cl, nq_in, nq_le, nq_nle, nq_lt, nq_nlt, nq_eq, nq_ne, nq_eqT, Option.bind_some, ↓reduceIte, hm_num h h9 this.1 this.2.1]
theorem hm_num2 {n a b : Nat} (h : 4 ≤ n) (h9 : n ≤ 9) (hm : may n a b = true) (m : am_Mm) : f_M_numberOf (nI n) (nI b) (nI a) m = some (nI (nb n a b), m) := by
  have := may_iff.mp hm
  unfold f_M_numberOf f_M_numberOf_b10
  simp (disch := omega) only [nq0, nq1, nq2, nq3, nq4, nq5, nq6, nq7, nq8, nq9, nq10, nq11, nq20, nq24, nq27, nq30, nq40, nI_add, pk_sub, pk_mul, nq_div, nq_rem, nq_shl1, nq_shl2, nq_bit1, nq_bit0, nq_or, nq_and, nq_nd, ml_cl, nq_in, nq_le, nq_nle, nq_lt, nq_nlt, nq_eq, nq_ne, nq_eqT, Option.bind_some, ↓reduceIte, hm_num h h9 this.1 this.2.1]
theorem hm_ends {n i : Nat} (h : 4 ≤ n) (h9 : n ≤ 9) (hi : i < cu_N n) (m : am_Mm) : f_M_endsOf (nI n) (nI i) m = some (nI (10 * cu_a n i + cu_b n i), m) := by
  have hN := cu_N27 h h9
  obtain ⟨⟨e1, e2, e3, e4⟩, e5⟩ := cu_f3 (by omega) h hi
  have L : ∀ t k f, k + t = cu_a n i → t < f → gs n k ≤ i → f_M_endsOf_b4 f (nI n) (nI k) (nI (i - gs n k)) m = some (nI (10 * cu_a n i + cu_b n i), m) := by
    intro t
    induction t with
    | zero =>
      intro k f hk hf hg
      obtain ⟨f, rfl⟩ : ∃ z, f = z + 1 := ⟨f - 1, by omega⟩
      have hk : k = cu_a n i := by omega
      subst hk
      rw [f_M_endsOf_b4]
      have fin : f_M_endsOf_b34 (nI (cu_a n i)) (nI (i - gs n (cu_a n i))) m = some (nI (10 * cu_a n i + cu_b n i), m) := by
        unfold f_M_endsOf_b34
        simp (disch := omega) only [nq0, nq1, nq2, nq3, nq4, nq5, nq6, nq7, nq8, nq9, nq10, nq11, nq20, nq24, nq27, nq30, nq40, nI_add, pk_sub, pk_mul, nq_div, nq_rem, nq_shl1, nq_shl2, nq_bit1, nq_bit0, nq_or, nq_and, nq_nd, ml_cl, nq_in, nq_le, nq_nle, nq_lt, nq_nlt, nq_eq, nq_ne, nq_eqT, Option.bind_some, ↓reduceIte]
        rw [show 11 * cu_a n i + 2 + (i - gs n (cu_a n i)) = 10 * cu_a n i + cu_b n i by omega]
      by_cases hq : cu_a n i < n - 3
      · have := e4 hq
        have hgo : go n (cu_a n i) < 10 := by unfold go; split <;> omega
        simp (disch := omega) only [nq0, nq1, nq2, nq3, nq4, nq5, nq6, nq7, nq8, nq9, nq10, nq11, nq20, nq24, nq27, nq30, nq40, nI_add, pk_sub, pk_mul, nq_div, nq_rem, nq_shl1, nq_shl2, nq_bit1, nq_bit0, nq_or, nq_and, nq_nd, ml_cl, nq_in, nq_le, nq_nle, nq_lt, nq_nlt, nq_eq, nq_ne, nq_eqT, Option.bind_some, ↓reduceIte, hm_go h (show cu_a n i + 2 ≤ n by omega) h9]
        exact fin
      · simp (disch := omega) only [nq0, nq1, nq2, nq3, nq4, nq5, nq6, nq7, nq8, nq9, nq10, nq11, nq20, nq24, nq27, nq30, nq40, nI_add, pk_sub, pk_mul, nq_div, nq_rem, nq_shl1, nq_shl2, nq_bit1, nq_bit0, nq_or, nq_and, nq_nd, ml_cl, nq_in, nq_le, nq_nle, nq_lt, nq_nlt, nq_eq, nq_ne, nq_eqT, Option.bind_some, ↓reduceIte]
        exact fin
    | succ t ih =>
      intro k f hk hf hg
      obtain ⟨f, rfl⟩ : ∃ z, f = z + 1 := ⟨f - 1, by omega⟩
      obtain ⟨q1, q2⟩ := e5 k (by omega)
      rw [gs] at q2
      rw [f_M_endsOf_b4]
      have := ih (k + 1) f (by omega) (by omega) (by rw [gs]; exact q2)
      simp (disch := omega) only [nq0, nq1, nq2, nq3, nq4, nq5, nq6, nq7, nq8, nq9, nq10, nq11, nq20, nq24, nq27, nq30, nq40, nI_add, pk_sub, pk_mul, nq_div, nq_rem, nq_shl1, nq_shl2, nq_bit1, nq_bit0, nq_or, nq_and, nq_nd, ml_cl, nq_in, nq_le, nq_nle, nq_lt, nq_nlt, nq_eq, nq_ne, nq_eqT, Option.bind_some, ↓reduceIte, hm_go h (show k + 2 ≤ n by omega) h9]
      rw [gs] at this
      rw [← this, Nat.sub_sub]
  exact L (cu_a n i) 0 am_F (by omega) (by show cu_a n i < 5000; omega) (Nat.zero_le _)
theorem hm_b10 {n i : Nat} (h : 4 ≤ n) (h9 : n ≤ 9) (hi : i < cu_N n) : (10 * cu_a n i + cu_b n i) / 10 = cu_a n i ∧ (10 * cu_a n i + cu_b n i) % 10 = cu_b n i ∧ 10 * cu_a n i + cu_b n i < 100 := by
  have := cu_ab h h9 hi
  omega
theorem hm_may {n a b : Nat} (h : 4 ≤ n) (h9 : n ≤ 9) (hab : a ≤ b) (hb : b < n) (m : am_Mm) : f_M_mayBe (nI n) (nI a) (nI b) m = some (nI (if may n a b then 1 else 0), m) := by
  unfold f_M_mayBe
  by_cases h1 : b ≤ a + 1
  · have : ¬ may n a b = true := fun q => by have := may_iff.mp q; omega
    rw [if_neg this]
    simp (disch := omega) only [nq0, nq1, nq2, nq3, nq4, nq5, nq6, nq7, nq8, nq9, nq10, nq11, nq20, nq24, nq27, nq30, nq40, nI_add, pk_sub, pk_mul, nq_div, nq_rem, nq_shl1, nq_shl2, nq_bit1, nq_bit0, nq_or, nq_and, nq_nd, ml_cl, nq_in, nq_le, nq_nle, nq_lt, nq_nlt, nq_eq, nq_ne, nq_eqT, Option.bind_some, ↓reduceIte]
  · by_cases h2 : a = 0 ∧ b + 1 = n
    · have : ¬ may n a b = true := fun q => by have := may_iff.mp q; omega
      rw [if_neg this]
      obtain ⟨rfl, rfl⟩ := h2
      simp (disch := omega) only [nq0, nq1, nq2, nq3, nq4, nq5, nq6, nq7, nq8, nq9, nq10, nq11, nq20, nq24, nq27, nq30, nq40, nI_add, pk_sub, pk_mul, nq_div, nq_rem, nq_shl1, nq_shl2, nq_bit1, nq_bit0, nq_or, nq_and, nq_nd, ml_cl, nq_in, nq_le, nq_nle, nq_lt, nq_nlt, nq_eq, nq_ne, nq_eqT, Option.bind_some, ↓reduceIte]
    · have : may n a b = true := may_iff.mpr ⟨by omega, hb, h2⟩
      rw [if_pos this]
      by_cases h3 : a = 0
      · subst h3
        simp (disch := omega) only [nq0, nq1, nq2, nq3, nq4, nq5, nq6, nq7, nq8, nq9, nq10, nq11, nq20, nq24, nq27, nq30, nq40, nI_add, pk_sub, pk_mul, nq_div, nq_rem, nq_shl1, nq_shl2, nq_bit1, nq_bit0, nq_or, nq_and, nq_nd, ml_cl, nq_in, nq_le, nq_nle, nq_lt, nq_nlt, nq_eq, nq_ne, nq_eqT, Option.bind_some, ↓reduceIte]
      · simp (disch := omega) only [nq0, nq1, nq2, nq3, nq4, nq5, nq6, nq7, nq8, nq9, nq10, nq11, nq20, nq24, nq27, nq30, nq40, nI_add, pk_sub, pk_mul, nq_div, nq_rem, nq_shl1, nq_shl2, nq_bit1, nq_bit0, nq_or, nq_and, nq_nd, ml_cl, nq_in, nq_le, nq_nle, nq_lt, nq_nlt, nq_eq, nq_ne, nq_eqT, Option.bind_some, ↓reduceIte]
/-- linked by a cut that is there -/
def lk (n cu c d : Nat) : Bool := if c < d then may n c d && cu.testBit (nb n c d) else may n d c && cu.testBit (nb n d c)
theorem lk_sym (n cu c d : Nat) : lk n cu c d = lk n cu d c := by
  unfold lk
  rcases Nat.lt_trichotomy c d with h | h | h
  · rw [if_pos h, if_neg (by omega)]
  · subst h; rfl
  · rw [if_neg (by omega), if_pos h]
theorem hm_link {n cu c d p : Nat} {m : am_Mm} (h : 4 ≤ n) (h9 : n ≤ 9) (h0 : m.1 p 0 = nI n) (h1 : m.1 p 1 = nI cu) (hcu : cu < 2 ^ 27) (hc : c < n) (hd : d < n) : f_M_isLinked p (nI c) (nI d) m = some (nI (if lk n cu c d then 1 else 0), m) := by
  have K : ∀ a b, a ≤ b → b < n → f_M_isLinked_b26 p (nI n) (nI a) (nI b) m = some (nI (if may n a b && cu.testBit (nb n a b) then 1 else 0), m) := by
    intro a b hab hb
    unfold f_M_isLinked_b26
    rw [hm_may h h9 hab hb, Option.bind_some]
    by_cases hm : may n a b = true
    · have h27 := cu_N27 h h9
      have hnb := (cu_nb h h9 hm).1
      rw [if_pos hm, hm]
      simp (disch := omega) only [nq0, nq1, nq2, nq3, nq4, nq5, nq6, nq7, nq8, nq9, nq10, nq11, nq20, nq24, nq27, nq30, nq40, nI_add, pk_sub, pk_mul, nq_div, nq_rem, nq_shl1, nq_shl2, nq_bit1, nq_bit0, nq_or, nq_and, nq_nd, ml_cl, nq_in, nq_le, nq_nle, nq_lt, nq_nlt, nq_eq, nq_ne, nq_eqT, Option.bind_some, ↓reduceIte, hm_num1 h h9 hm, h1, nq_has]
      by_cases hb : cu.testBit (nb n a b) = true
      · simp only [hb]; simp (disch := omega) only [nq0, nq1, nq2, nq3, nq4, nq5, nq6, nq7, nq8, nq9, nq10, nq11, nq20, nq24, nq27, nq30, nq40, nI_add, pk_sub, pk_mul, nq_div, nq_rem, nq_shl1, nq_shl2, nq_bit1, nq_bit0, nq_or, nq_and, nq_nd, ml_cl, nq_in, nq_le, nq_nle, nq_lt, nq_nlt, nq_eq, nq_ne, nq_eqT, Option.bind_some, ↓reduceIte, Bool.true_and]
      · simp only [hb]; simp (disch := omega) only [nq0, nq1, nq2, nq3, nq4, nq5, nq6, nq7, nq8, nq9, nq10, nq11, nq20, nq24, nq27, nq30, nq40, nI_add, pk_sub, pk_mul, nq_div, nq_rem, nq_shl1, nq_shl2, nq_bit1, nq_bit0, nq_or, nq_and, nq_nd, ml_cl, nq_in, nq_le, nq_nle, nq_lt, nq_nlt, nq_eq, nq_ne, nq_eqT, Option.bind_some, ↓reduceIte, Bool.true_and]
        rfl
    · rw [if_neg hm]
      simp only [hm]
      simp (disch := omega) only [nq0, nq1, nq2, nq3, nq4, nq5, nq6, nq7, nq8, nq9, nq10, nq11, nq20, nq24, nq27, nq30, nq40, nI_add, pk_sub, pk_mul, nq_div, nq_rem, nq_shl1, nq_shl2, nq_bit1, nq_bit0, nq_or, nq_and, nq_nd, ml_cl, nq_in, nq_le, nq_nle, nq_lt, nq_nlt, nq_eq, nq_ne, nq_eqT, Option.bind_some, ↓reduceIte, Bool.false_and]
      rfl
  unfold f_M_isLinked f_M_isLinked_b14 lk
  by_cases hcd : c < d
  · simp (disch := omega) only [nq0, nq1, nq2, nq3, nq4, nq5, nq6, nq7, nq8, nq9, nq10, nq11, nq20, nq24, nq27, nq30, nq40, nI_add, pk_sub, pk_mul, nq_div, nq_rem, nq_shl1, nq_shl2, nq_bit1, nq_bit0, nq_or, nq_and, nq_nd, ml_cl, nq_in, nq_le, nq_nle, nq_lt, nq_nlt, nq_eq, nq_ne, nq_eqT, Option.bind_some, ↓reduceIte, h0, hcd]
    exact K c d (by omega) hd
  · simp (disch := omega) only [nq0, nq1, nq2, nq3, nq4, nq5, nq6, nq7, nq8, nq9, nq10, nq11, nq20, nq24, nq27, nq30, nq40, nI_add, pk_sub, pk_mul, nq_div, nq_rem, nq_shl1, nq_shl2, nq_bit1, nq_bit0, nq_or, nq_and, nq_nd, ml_cl, nq_in, nq_le, nq_nle, nq_lt, nq_nlt, nq_eq, nq_ne, nq_eqT, Option.bind_some, ↓reduceIte, h0, hcd]
    exact K d c (by omega) hc
