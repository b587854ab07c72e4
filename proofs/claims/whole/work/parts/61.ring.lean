/-! ===== the tables of a ring are laid out ===== -/
theorem hc_crs {n p i : Nat} {m : am_Mm} (h : 4 ≤ n) (h9 : n ≤ 9) (hi : i < cu_N n) (e6 : m.1 p 6 = nI (cu_N n)) (eT : ∀ k, k < cu_N n → m.1 (p + 1) k = nI (cu_a n k) ∧ m.1 (p + 2) k = nI (cu_b n k)) : f_Ring_crossing p (nI (cu_a n i)) (nI (cu_b n i)) m = some (nI (cu_acr n i), m) := by
  have h27 := cu_N27 h h9
  have hab := cu_ab h h9 hi
  have L : ∀ t k f, k + t = cu_N n → t < f → f_Ring_crossing_b5 f p (nI (cu_a n i)) (nI (cu_b n i)) (nI (cu_bits k (cu_x n i))) (nI k) m = some (nI (cu_acr n i), m) := by
    intro t
    induction t with
    | zero =>
      intro k f hk hf
      obtain ⟨f, rfl⟩ : ∃ z, f = z + 1 := ⟨f - 1, by omega⟩
      have hk : k = cu_N n := by omega
      subst hk
      rw [f_Ring_crossing_b5]
      simp (disch := omega) only [nq0, nq1, nq2, nq3, nq4, nq5, nq6, nq7, nq8, nq9, nq10, nq11, nq20, nq24, nq27, nq30, nq40, nI_add, pk_sub, pk_mul, nq_div, nq_rem, nq_shl1, nq_shl2, nq_bit1, nq_bit0, nq_or, nq_and, nq_nd, ml_cl, nq_in, nq_le, nq_nle, nq_lt, nq_nlt, nq_eq, nq_ne, nq_eqT, Option.bind_some, Bool.false_eq_true, Bool.true_eq_false, ↓reduceIte, e6]
      rfl
    | succ t ih =>
      intro k f hk hf
      obtain ⟨f, rfl⟩ : ∃ z, f = z + 1 := ⟨f - 1, by omega⟩
      have kab := cu_ab h h9 (show k < cu_N n by omega)
      obtain ⟨ta, tb⟩ := eT k (by omega)
      have hx := @cu_x_iff n i k
      have hlt := cu_bits_lt (cu_x n i) k
      rw [← ih (k + 1) f (by omega) (by omega), cu_bits_s]
      generalize cu_bits k (cu_x n i) = B at *
      generalize cu_x n i k = X at *
      generalize cu_a n i = a at *
      generalize cu_b n i = b at *
      generalize cu_a n k = c at *
      generalize cu_b n k = d at *
      have S5 : f_Ring_crossing_b5 (f + 1) p (nI a) (nI b) (nI B) (nI k) m = f_Ring_crossing_b41 (f_Ring_crossing_b5 f) p (nI a) (nI b) (nI B) (nI k) (nI (if a < c ∧ c < b then 1 else 0)) m := by
        rw [f_Ring_crossing_b5]
        by_cases q1 : c ≤ a
        · rw [if_neg (show ¬ (a < c ∧ c < b) by omega)]; simp (disch := omega) only [nq0, nq1, nq2, nq3, nq4, nq5, nq6, nq7, nq8, nq9, nq10, nq11, nq20, nq24, nq27, nq30, nq40, nI_add, pk_sub, pk_mul, nq_div, nq_rem, nq_shl1, nq_shl2, nq_bit1, nq_bit0, nq_or, nq_and, nq_nd, ml_cl, nq_in, nq_le, nq_nle, nq_lt, nq_nlt, nq_eq, nq_ne, nq_eqT, Option.bind_some, Bool.false_eq_true, Bool.true_eq_false, ↓reduceIte, e6, ta]
        · by_cases q2 : b ≤ c
          · rw [if_neg (show ¬ (a < c ∧ c < b) by omega)]; simp (disch := omega) only [nq0, nq1, nq2, nq3, nq4, nq5, nq6, nq7, nq8, nq9, nq10, nq11, nq20, nq24, nq27, nq30, nq40, nI_add, pk_sub, pk_mul, nq_div, nq_rem, nq_shl1, nq_shl2, nq_bit1, nq_bit0, nq_or, nq_and, nq_nd, ml_cl, nq_in, nq_le, nq_nle, nq_lt, nq_nlt, nq_eq, nq_ne, nq_eqT, Option.bind_some, Bool.false_eq_true, Bool.true_eq_false, ↓reduceIte, e6, ta]
          · rw [if_pos (show a < c ∧ c < b by omega)]; simp (disch := omega) only [nq0, nq1, nq2, nq3, nq4, nq5, nq6, nq7, nq8, nq9, nq10, nq11, nq20, nq24, nq27, nq30, nq40, nI_add, pk_sub, pk_mul, nq_div, nq_rem, nq_shl1, nq_shl2, nq_bit1, nq_bit0, nq_or, nq_and, nq_nd, ml_cl, nq_in, nq_le, nq_nle, nq_lt, nq_nlt, nq_eq, nq_ne, nq_eqT, Option.bind_some, Bool.false_eq_true, Bool.true_eq_false, ↓reduceIte, e6, ta]
      have S41 : ∀ u, f_Ring_crossing_b41 (f_Ring_crossing_b5 f) p (nI a) (nI b) (nI B) (nI k) u m = f_Ring_crossing_b70 (f_Ring_crossing_b5 f) p (nI a) (nI b) (nI B) (nI k) u (nI (if a < d ∧ d < b then 1 else 0)) m := by
        intro u
        unfold f_Ring_crossing_b41
        by_cases q1 : d ≤ a
        · rw [if_neg (show ¬ (a < d ∧ d < b) by omega)]; simp (disch := omega) only [nq0, nq1, nq2, nq3, nq4, nq5, nq6, nq7, nq8, nq9, nq10, nq11, nq20, nq24, nq27, nq30, nq40, nI_add, pk_sub, pk_mul, nq_div, nq_rem, nq_shl1, nq_shl2, nq_bit1, nq_bit0, nq_or, nq_and, nq_nd, ml_cl, nq_in, nq_le, nq_nle, nq_lt, nq_nlt, nq_eq, nq_ne, nq_eqT, Option.bind_some, Bool.false_eq_true, Bool.true_eq_false, ↓reduceIte, e6, tb]
        · by_cases q2 : b ≤ d
          · rw [if_neg (show ¬ (a < d ∧ d < b) by omega)]; simp (disch := omega) only [nq0, nq1, nq2, nq3, nq4, nq5, nq6, nq7, nq8, nq9, nq10, nq11, nq20, nq24, nq27, nq30, nq40, nI_add, pk_sub, pk_mul, nq_div, nq_rem, nq_shl1, nq_shl2, nq_bit1, nq_bit0, nq_or, nq_and, nq_nd, ml_cl, nq_in, nq_le, nq_nle, nq_lt, nq_nlt, nq_eq, nq_ne, nq_eqT, Option.bind_some, Bool.false_eq_true, Bool.true_eq_false, ↓reduceIte, e6, tb]
          · rw [if_pos (show a < d ∧ d < b by omega)]; simp (disch := omega) only [nq0, nq1, nq2, nq3, nq4, nq5, nq6, nq7, nq8, nq9, nq10, nq11, nq20, nq24, nq27, nq30, nq40, nI_add, pk_sub, pk_mul, nq_div, nq_rem, nq_shl1, nq_shl2, nq_bit1, nq_bit0, nq_or, nq_and, nq_nd, ml_cl, nq_in, nq_le, nq_nle, nq_lt, nq_nlt, nq_eq, nq_ne, nq_eqT, Option.bind_some, Bool.false_eq_true, Bool.true_eq_false, ↓reduceIte, e6, tb]
      have S70 : ∀ u v, f_Ring_crossing_b70 (f_Ring_crossing_b5 f) p (nI a) (nI b) (nI B) (nI k) u v m = f_Ring_crossing_b121 (f_Ring_crossing_b5 f) p (nI a) (nI b) (nI B) (nI k) u v (nI (if c ≠ a ∧ c ≠ b ∧ d ≠ a ∧ d ≠ b then 1 else 0)) m := by
        intro u v
        unfold f_Ring_crossing_b70
        by_cases q1 : c = a
        · rw [if_neg (show ¬ (c ≠ a ∧ c ≠ b ∧ d ≠ a ∧ d ≠ b) by omega)]; simp (disch := omega) only [nq0, nq1, nq2, nq3, nq4, nq5, nq6, nq7, nq8, nq9, nq10, nq11, nq20, nq24, nq27, nq30, nq40, nI_add, pk_sub, pk_mul, nq_div, nq_rem, nq_shl1, nq_shl2, nq_bit1, nq_bit0, nq_or, nq_and, nq_nd, ml_cl, nq_in, nq_le, nq_nle, nq_lt, nq_nlt, nq_eq, nq_ne, nq_eqT, Option.bind_some, Bool.false_eq_true, Bool.true_eq_false, ↓reduceIte, ta, tb]
        by_cases q2 : c = b
        · rw [if_neg (show ¬ (c ≠ a ∧ c ≠ b ∧ d ≠ a ∧ d ≠ b) by omega)]; simp (disch := omega) only [nq0, nq1, nq2, nq3, nq4, nq5, nq6, nq7, nq8, nq9, nq10, nq11, nq20, nq24, nq27, nq30, nq40, nI_add, pk_sub, pk_mul, nq_div, nq_rem, nq_shl1, nq_shl2, nq_bit1, nq_bit0, nq_or, nq_and, nq_nd, ml_cl, nq_in, nq_le, nq_nle, nq_lt, nq_nlt, nq_eq, nq_ne, nq_eqT, Option.bind_some, Bool.false_eq_true, Bool.true_eq_false, ↓reduceIte, ta, tb]
        by_cases q3 : d = a
        · rw [if_neg (show ¬ (c ≠ a ∧ c ≠ b ∧ d ≠ a ∧ d ≠ b) by omega)]; simp (disch := omega) only [nq0, nq1, nq2, nq3, nq4, nq5, nq6, nq7, nq8, nq9, nq10, nq11, nq20, nq24, nq27, nq30, nq40, nI_add, pk_sub, pk_mul, nq_div, nq_rem, nq_shl1, nq_shl2, nq_bit1, nq_bit0, nq_or, nq_and, nq_nd, ml_cl, nq_in, nq_le, nq_nle, nq_lt, nq_nlt, nq_eq, nq_ne, nq_eqT, Option.bind_some, Bool.false_eq_true, Bool.true_eq_false, ↓reduceIte, ta, tb]
        by_cases q4 : d = b
        · rw [if_neg (show ¬ (c ≠ a ∧ c ≠ b ∧ d ≠ a ∧ d ≠ b) by omega)]; simp (disch := omega) only [nq0, nq1, nq2, nq3, nq4, nq5, nq6, nq7, nq8, nq9, nq10, nq11, nq20, nq24, nq27, nq30, nq40, nI_add, pk_sub, pk_mul, nq_div, nq_rem, nq_shl1, nq_shl2, nq_bit1, nq_bit0, nq_or, nq_and, nq_nd, ml_cl, nq_in, nq_le, nq_nle, nq_lt, nq_nlt, nq_eq, nq_ne, nq_eqT, Option.bind_some, Bool.false_eq_true, Bool.true_eq_false, ↓reduceIte, ta, tb]
        rw [if_pos (show c ≠ a ∧ c ≠ b ∧ d ≠ a ∧ d ≠ b by omega)]; simp (disch := omega) only [nq0, nq1, nq2, nq3, nq4, nq5, nq6, nq7, nq8, nq9, nq10, nq11, nq20, nq24, nq27, nq30, nq40, nI_add, pk_sub, pk_mul, nq_div, nq_rem, nq_shl1, nq_shl2, nq_bit1, nq_bit0, nq_or, nq_and, nq_nd, ml_cl, nq_in, nq_le, nq_nle, nq_lt, nq_nlt, nq_eq, nq_ne, nq_eqT, Option.bind_some, Bool.false_eq_true, Bool.true_eq_false, ↓reduceIte, ta, tb]
      rw [S5, S41, S70]
      unfold f_Ring_crossing_b121 f_Ring_crossing_b142
      by_cases ap : c ≠ a ∧ c ≠ b ∧ d ≠ a ∧ d ≠ b
      · rw [if_pos ap]
        by_cases u : a < c ∧ c < b <;> by_cases v : a < d ∧ d < b
        · have : ¬ X = true := fun z => by have := hx.mp z; omega
          rw [if_neg this, if_pos u, if_pos v]; simp (disch := omega) only [nq0, nq1, nq2, nq3, nq4, nq5, nq6, nq7, nq8, nq9, nq10, nq11, nq20, nq24, nq27, nq30, nq40, nI_add, pk_sub, pk_mul, nq_div, nq_rem, nq_shl1, nq_shl2, nq_bit1, nq_bit0, nq_or, nq_and, nq_nd, ml_cl, nq_in, nq_le, nq_nle, nq_lt, nq_nlt, nq_eq, nq_ne, nq_eqT, Option.bind_some, Bool.false_eq_true, Bool.true_eq_false, ↓reduceIte]
        · have : X = true := hx.mpr (by omega)
          rw [if_pos this, if_pos u, if_neg v]; simp (disch := omega) only [nq0, nq1, nq2, nq3, nq4, nq5, nq6, nq7, nq8, nq9, nq10, nq11, nq20, nq24, nq27, nq30, nq40, nI_add, pk_sub, pk_mul, nq_div, nq_rem, nq_shl1, nq_shl2, nq_bit1, nq_bit0, nq_or, nq_and, nq_nd, ml_cl, nq_in, nq_le, nq_nle, nq_lt, nq_nlt, nq_eq, nq_ne, nq_eqT, Option.bind_some, Bool.false_eq_true, Bool.true_eq_false, ↓reduceIte, or_pow hlt]
        · have : X = true := hx.mpr (by omega)
          rw [if_pos this, if_neg u, if_pos v]; simp (disch := omega) only [nq0, nq1, nq2, nq3, nq4, nq5, nq6, nq7, nq8, nq9, nq10, nq11, nq20, nq24, nq27, nq30, nq40, nI_add, pk_sub, pk_mul, nq_div, nq_rem, nq_shl1, nq_shl2, nq_bit1, nq_bit0, nq_or, nq_and, nq_nd, ml_cl, nq_in, nq_le, nq_nle, nq_lt, nq_nlt, nq_eq, nq_ne, nq_eqT, Option.bind_some, Bool.false_eq_true, Bool.true_eq_false, ↓reduceIte, or_pow hlt]
        · have : ¬ X = true := fun z => by have := hx.mp z; omega
          rw [if_neg this, if_neg u, if_neg v]; simp (disch := omega) only [nq0, nq1, nq2, nq3, nq4, nq5, nq6, nq7, nq8, nq9, nq10, nq11, nq20, nq24, nq27, nq30, nq40, nI_add, pk_sub, pk_mul, nq_div, nq_rem, nq_shl1, nq_shl2, nq_bit1, nq_bit0, nq_or, nq_and, nq_nd, ml_cl, nq_in, nq_le, nq_nle, nq_lt, nq_nlt, nq_eq, nq_ne, nq_eqT, Option.bind_some, Bool.false_eq_true, Bool.true_eq_false, ↓reduceIte]
      · have : ¬ X = true := fun z => by have := hx.mp z; omega
        rw [if_neg ap, if_neg this]; simp (disch := omega) only [nq0, nq1, nq2, nq3, nq4, nq5, nq6, nq7, nq8, nq9, nq10, nq11, nq20, nq24, nq27, nq30, nq40, nI_add, pk_sub, pk_mul, nq_div, nq_rem, nq_shl1, nq_shl2, nq_bit1, nq_bit0, nq_or, nq_and, nq_nd, ml_cl, nq_in, nq_le, nq_nle, nq_lt, nq_nlt, nq_eq, nq_ne, nq_eqT, Option.bind_some, Bool.false_eq_true, Bool.true_eq_false, ↓reduceIte]
  exact L (cu_N n) 0 am_F (by omega) (by show cu_N n < 5000; omega)
theorem hc_isCut {n p a b : Nat} {m : am_Mm} (h : 4 ≤ n) (h9 : n ≤ 9) (e5 : m.1 p 5 = nI n) (hab : a + 2 ≤ b) (hb : b < n) : f_Ring_isCut p (nI a) (nI b) m = some (nI (if may n a b then 1 else 0), m) := by
  unfold f_Ring_isCut
  by_cases q : a = 0 ∧ b + 1 = n
  · have : ¬ may n a b = true := fun z => (may_iff.mp z).2.2 q
    rw [if_neg this]
    simp (disch := omega) only [nq0, nq1, nq2, nq3, nq4, nq5, nq6, nq7, nq8, nq9, nq10, nq11, nq20, nq24, nq27, nq30, nq40, nI_add, pk_sub, pk_mul, nq_div, nq_rem, nq_shl1, nq_shl2, nq_bit1, nq_bit0, nq_or, nq_and, nq_nd, ml_cl, nq_in, nq_le, nq_nle, nq_lt, nq_nlt, nq_eq, nq_ne, nq_eqT, Option.bind_some, Bool.false_eq_true, Bool.true_eq_false, ↓reduceIte, e5]
  · have : may n a b = true := may_iff.mpr ⟨hab, hb, q⟩
    rw [if_pos this]
    simp (disch := omega) only [nq0, nq1, nq2, nq3, nq4, nq5, nq6, nq7, nq8, nq9, nq10, nq11, nq20, nq24, nq27, nq30, nq40, nI_add, pk_sub, pk_mul, nq_div, nq_rem, nq_shl1, nq_shl2, nq_bit1, nq_bit0, nq_or, nq_and, nq_nd, ml_cl, nq_in, nq_le, nq_nle, nq_lt, nq_nlt, nq_eq, nq_ne, nq_eqT, Option.bind_some, Bool.false_eq_true, Bool.true_eq_false, ↓reduceIte, e5]
def tp (n K c : Nat) : Nat := cu_bits K fun i => cu_a n i == c || cu_b n i == c
def Kf (n a b : Nat) : Nat := gs n a + ((if a = 0 then min b (n - 1) else b) - (a + 2))
theorem gs_g : ((List.range 10).all fun n => !decide (4 ≤ n) || gs n n == cu_N n) = true := by decide +kernel
theorem gs_N {n : Nat} (h : 4 ≤ n) (h9 : n ≤ 9) : gs n n = cu_N n := by
  have := al gs_g (show n < 10 by omega)
  rw [decide_eq_true h] at this
  exact eq_of_beq this
/-- so far laid out -/
def lo (m0 m : am_Mm) (p n K : Nat) : Prop := m.1 p 5 = nI n ∧ m.1 p 6 = nI K ∧ (∀ i, i < K → m.1 (p + 1) i = nI (cu_a n i) ∧ m.1 (p + 2) i = nI (cu_b n i)) ∧ (∀ c, c < n → m.1 (p + 4) c = nI (tp n K c)) ∧ ∀ q j, ¬ (p ≤ q ∧ q ≤ p + 4) → m.1 q j = m0.1 q j
set_option maxHeartbeats 4000000 in
theorem lo_step {m0 m : am_Mm} {p n K a b : Nat} (h : 4 ≤ n) (h9 : n ≤ 9) (hm : may n a b = true) (hK : K = nb n a b) (H : lo m0 m p n K) (k25 : Nat → Int32 → am_Mm → Option am_Mm) (f : Nat) : ∃ m', f_Ring_layOut_b37 k25 (f + 1) p (nI a) (nI b) m = f_Ring_layOut_b37 k25 f p (nI a) (nI (b + 1)) m' ∧ lo m0 m' p n (K + 1) := by
  obtain ⟨e5, e6, eT, eC, eF⟩ := H
  have hm2 := may_iff.mp hm
  have hnb := cu_nb h h9 hm
  have h27 := cu_N27 h h9
  rw [← hK] at hnb
  have ea := eC a (by omega)
  have eb := eC b (by omega)
  have tl : ∀ c, tp n K c < 2 ^ K := fun c => cu_bits_lt _ _
  refine ⟨am_pI (am_pI (am_pI (am_pI (am_pI m (p + 1) K (nI a)) (p + 2) K (nI b)) (p + 4) a (nI (tp n K a ||| 2 ^ K))) (p + 4) b (nI (tp n K b ||| 2 ^ K))) p 6 (nI (K + 1)), ?_, ?_, ml_s _ _ _ _, fun i hi => ?_, fun c hc => ?_, fun q j hq => ?_⟩
  · rw [f_Ring_layOut_b37, e5, if_neg (nI_ge hm2.2.1 (by omega)), hc_isCut h h9 e5 hm2.1 hm2.2.1, if_pos hm, Option.bind_some, if_neg ne01]
    dsimp only
    rw [e6, if_neg (show ¬ (27 : Int32) ≤ nI K from nI_ge (show K < 27 by omega) (by decide)), if_pos (am_in_nI (by omega) (by omega))]
    unfold f_Ring_layOut_b123
    simp (disch := omega) only [nq0, nq1, nq2, nq3, nq4, nq5, nq6, nq7, nq8, nq9, nq10, nq11, nq20, nq24, nq27, nq30, nq40, nI_add, pk_sub, pk_mul, nq_div, nq_rem, nq_shl1, nq_shl2, nq_bit1, nq_bit0, nq_or, nq_and, nq_nd, ml_cl, nq_in, nq_le, nq_nle, nq_lt, nq_nlt, nq_eq, nq_ne, nq_eqT, Option.bind_some, Bool.false_eq_true, Bool.true_eq_false, ↓reduceIte, ml_o, e6, ea, eb]
  · rw [ml_o _ _ (by omega), ml_o _ _ (by omega), ml_o _ _ (by omega), ml_o _ _ (by omega), ml_o _ _ (by omega)]; exact e5
  · by_cases z : i = K
    · subst z
      rw [ml_o _ _ (by omega), ml_o _ _ (by omega), ml_o _ _ (by omega), ml_o _ _ (by omega), ml_s, ml_o _ _ (by omega), ml_o _ _ (by omega), ml_o _ _ (by omega), ml_s, hnb.2.1, hnb.2.2]
      exact ⟨rfl, rfl⟩
    · rw [ml_o _ _ (by omega), ml_o _ _ (by omega), ml_o _ _ (by omega), ml_o _ _ (by omega), ml_o _ _ (by omega), ml_o _ _ (by omega), ml_o _ _ (by omega), ml_o _ _ (by omega), ml_o _ _ (by omega), ml_o _ _ (by omega)]
      exact eT i (by omega)
  · have es : tp n (K + 1) c = if (cu_a n K == c || cu_b n K == c) then tp n K c + 2 ^ K else tp n K c := cu_bits_s _ _
    rw [hnb.2.1, hnb.2.2] at es
    rw [ml_o _ _ (by omega)]
    by_cases z : c = b
    · subst z
      rw [ml_s, es, if_pos (by simp), or_pow (tl _)]
    · rw [ml_o _ _ (by omega)]
      by_cases w : c = a
      · subst w
        rw [ml_s, es, if_pos (by simp), or_pow (tl _)]
      · rw [ml_o _ _ (by omega), ml_o _ _ (by omega), ml_o _ _ (by omega), es, if_neg (by simp; omega)]
        exact eC c hc
  · rw [ml_o _ _ (by omega), ml_o _ _ (by omega), ml_o _ _ (by omega), ml_o _ _ (by omega), ml_o _ _ (by omega)]; exact eF q j hq
theorem lo_in {m0 : am_Mm} {p n a : Nat} (h : 4 ≤ n) (h9 : n ≤ 9) (ha : a < n) (k25 : Nat → Int32 → am_Mm → Option am_Mm) : ∀ t b f (m : am_Mm), (b + t = n ∨ (n ≤ b ∧ b = a + 2 ∧ t = 0)) → a + 2 ≤ b → b ≤ n + 1 → t < f → lo m0 m p n (Kf n a b) → ∃ m', f_Ring_layOut_b37 k25 f p (nI a) (nI b) m = k25 p (nI (a + 1)) m' ∧ lo m0 m' p n (gs n (a + 1)) := by
  intro t
  induction t with
  | zero =>
    intro b f m hb hab hbn hf H
    obtain ⟨f, rfl⟩ : ∃ z, f = z + 1 := ⟨f - 1, by omega⟩
    refine ⟨m, ?_, ?_⟩
    · rw [f_Ring_layOut_b37, H.1, if_pos (nI_le (by omega) (by omega)), nI_1]
    · have : Kf n a b = gs n (a + 1) := by
        rw [gs]
        unfold Kf go
        by_cases z : a = 0
        · rw [if_pos z, if_pos z]; omega
        · rw [if_neg z, if_neg z]; omega
      rw [← this]; exact H
  | succ t ih =>
    intro b f m hb hab hbn hf H
    obtain ⟨f, rfl⟩ : ∃ z, f = z + 1 := ⟨f - 1, by omega⟩
    have hbn : b < n := by omega
    by_cases hm : may n a b = true
    · have hm2 := may_iff.mp hm
      have hK : Kf n a b = nb n a b := by
        unfold Kf nb
        by_cases z : a = 0
        · rw [if_pos z]; omega
        · rw [if_neg z]; omega
      obtain ⟨m', e, H'⟩ := lo_step h h9 hm hK H k25 f
      have hK2 : Kf n a b + 1 = Kf n a (b + 1) := by
        unfold Kf
        by_cases z : a = 0
        · simp only [if_pos z]; omega
        · simp only [if_neg z]; omega
      rw [hK2] at H'
      obtain ⟨m'', e2, H2⟩ := ih (b + 1) f m' (by omega) (by omega) (by omega) (by omega) H'
      exact ⟨m'', by rw [e, e2], H2⟩
    · have hz : a = 0 ∧ b + 1 = n := by
        by_cases z : a = 0 ∧ b + 1 = n
        · exact z
        · exact absurd (may_iff.mpr ⟨hab, hbn, z⟩) hm
      have hK2 : Kf n a b = Kf n a (b + 1) := by
        unfold Kf
        simp only [if_pos hz.1]; omega
      rw [hK2] at H
      obtain ⟨m'', e2, H2⟩ := ih (b + 1) f m (by omega) (by omega) (by omega) (by omega) H
      refine ⟨m'', ?_, H2⟩
      rw [← e2, f_Ring_layOut_b37, H.1, if_neg (nI_ge hbn (by omega)), hc_isCut h h9 H.1 hab hbn, if_neg hm, Option.bind_some, if_pos e00]
      unfold f_Ring_layOut_b123
      rw [nI_1]
theorem lo_out {m0 : am_Mm} {p n : Nat} (h : 4 ≤ n) (h9 : n ≤ 9) : ∀ t a f (m : am_Mm), a + t = n → t < f → lo m0 m p n (gs n a) → ∃ m', f_Ring_layOut_b25 f p (nI a) m = f_Ring_layOut_b137 am_F p (nI 0) m' ∧ lo m0 m' p n (cu_N n) := by
  intro t
  induction t with
  | zero =>
    intro a f m ha hf H
    obtain ⟨f, rfl⟩ : ∃ z, f = z + 1 := ⟨f - 1, by omega⟩
    have ha : a = n := by omega
    subst ha
    refine ⟨m, ?_, ?_⟩
    · rw [f_Ring_layOut_b25, H.1, if_pos (nI_le (Nat.le_refl _) (by omega))]; rfl
    · rw [← gs_N h h9]; exact H
  | succ t ih =>
    intro a f m ha hf H
    obtain ⟨f, rfl⟩ : ∃ z, f = z + 1 := ⟨f - 1, by omega⟩
    have hK : gs n a = Kf n a (a + 2) := by
      unfold Kf
      by_cases z : a = 0
      · rw [if_pos z]; omega
      · rw [if_neg z]; omega
    have H1 := H
    rw [hK] at H1
    obtain ⟨m', e, H'⟩ := lo_in (m0 := m0) (p := p) h h9 (show a < n by omega) (f_Ring_layOut_b25 f) (n - (a + 2)) (a + 2) am_F m (by omega) (by omega) (by omega) (by show _ < 5000; omega) H1
    obtain ⟨m'', e2, H2⟩ := ih (a + 1) f m' (by omega) (by omega) H'
    refine ⟨m'', ?_, H2⟩
    rw [← e2, ← e, f_Ring_layOut_b25, H.1, if_neg (nI_ge (by omega) (by omega)), nq2, nI_add]
theorem hc_lay {m : am_Mm} {p n : Nat} (h : 4 ≤ n) (h9 : n ≤ 9) : ∃ m', f_Ring_layOut p (nI n) m = some m' ∧ rl_Ring m'.1 p n ∧ ∀ q j, ¬ (p ≤ q ∧ q ≤ p + 4) → m'.1 q j = m.1 q j := by
  have h27 := cu_N27 h h9
  have L : ∀ t k f (m1 : am_Mm), k + t = cu_N n → t < f → lo m m1 p n (cu_N n) → (∀ i, i < k → m1.1 (p + 3) i = nI (cu_acr n i)) → ∃ m', f_Ring_layOut_b137 f p (nI k) m1 = some m' ∧ rl_Ring m'.1 p n ∧ ∀ q j, ¬ (p ≤ q ∧ q ≤ p + 4) → m'.1 q j = m.1 q j := by
    intro t
    induction t with
    | zero =>
      intro k f m1 hk hf H A
      obtain ⟨f, rfl⟩ : ∃ z, f = z + 1 := ⟨f - 1, by omega⟩
      have hk : k = cu_N n := by omega
      subst hk
      obtain ⟨e5, e6, eT, eC, eF⟩ := H
      refine ⟨m1, ?_, ⟨e5, e6, fun i hi => ⟨(eT i hi).1, (eT i hi).2, A i hi⟩, fun c hc => eC c hc⟩, eF⟩
      rw [f_Ring_layOut_b137, e6, if_pos (nI_le (Nat.le_refl _) (by omega))]
    | succ t ih =>
      intro k f m1 hk hf H A
      obtain ⟨f, rfl⟩ : ∃ z, f = z + 1 := ⟨f - 1, by omega⟩
      obtain ⟨e5, e6, eT, eC, eF⟩ := H
      have hc := hc_crs h h9 (show k < cu_N n by omega) e6 eT
      obtain ⟨m', b1, b2⟩ := ih (k + 1) f (am_pI m1 (p + 3) k (nI (cu_acr n k))) (by omega) (by omega) ⟨by rw [ml_o _ _ (by omega)]; exact e5, by rw [ml_o _ _ (by omega)]; exact e6, fun i hi => by rw [ml_o _ _ (by omega), ml_o _ _ (by omega)]; exact eT i hi, fun c hc => by rw [ml_o _ _ (by omega)]; exact eC c hc, fun q j hq => by rw [ml_o _ _ (by omega)]; exact eF q j hq⟩ (fun i hi => by
        by_cases z : i = k
        · subst z; exact ml_s _ _ _ _
        · rw [ml_o _ _ (by omega)]; exact A i (by omega))
      refine ⟨m', ?_, b2⟩
      rw [← b1, f_Ring_layOut_b137, e6, if_neg (nI_ge (by omega) (by omega)), if_pos (am_in_nI (by omega) (by omega)), if_pos (am_in_nI (by omega) (by omega)), ml_cl (by omega), (eT k (by omega)).1, (eT k (by omega)).2, hc, Option.bind_some, if_pos (am_in_nI (by omega) (by omega)), nI_1]
  have start : lo m (am_fl (am_pI (am_pI m p 5 (nI n)) p 6 (0 : Int32)) (p + 4) 9 (0 : Int32)) p n (gs n 0) := by
    refine ⟨?_, ?_, fun i hi => absurd hi (Nat.not_lt_zero i), fun c hc => ?_, fun q j hq => ?_⟩
    · rw [ml_fl, if_neg (by omega), ml_o _ _ (by omega), ml_s]
    · rw [ml_fl, if_neg (by omega), ml_s]; rfl
    · rw [ml_fl, if_pos ⟨rfl, by omega⟩]; rfl
    · rw [ml_fl, if_neg (by omega), ml_o _ _ (by omega), ml_o _ _ (by omega)]
  obtain ⟨m1, e1, H1⟩ := lo_out h h9 n 0 am_F _ (by omega) (by show n < 5000; omega) start
  obtain ⟨m', e2, H2⟩ := L (cu_N n) 0 am_F m1 (by omega) (by show cu_N n < 5000; omega) H1 (fun i hi => absurd hi (by omega))
  refine ⟨m', ?_, H2⟩
  unfold f_Ring_layOut
  rw [nq9, nq_min n 9 (by omega) (by omega), Nat.min_eq_left h9, ← e2, ← e1]
  rfl
