/-! ===== flips: class and model ===== -/
def Jm (n cu c : Nat) : Nat := cu_bits n fun d => jo n cu c d
theorem Jm_tb {n cu c d : Nat} : (Jm n cu c).testBit d = (decide (d < n) && jo n cu c d) := cu_bits_tb _ _ _
theorem Jm_lt {n cu c : Nat} (h9 : n ≤ 9) : Jm n cu c < 2 ^ 9 := Nat.lt_of_lt_of_le (cu_bits_lt _ _) (Nat.pow_le_pow_right (by omega) h9)
/-- two memories alike but for place 25 -/
def only25 (m m' : am_Mm) : Prop := (∀ p k, p ≠ 25 → m'.1 p k = m.1 p k) ∧ m'.2 = m.2
theorem only25_r (m : am_Mm) : only25 m m := ⟨fun _ _ _ => rfl, rfl⟩
theorem only25_t {a b c : am_Mm} (h : only25 a b) (h2 : only25 b c) : only25 a c := ⟨fun p k q => by rw [h2.1 p k q, h.1 p k q], by rw [h2.2, h.2]⟩
theorem only25_p (m : am_Mm) (k : Nat) (x : Int32) : only25 m (am_pI m 25 k x) := ⟨fun p j q => by rw [ml_o _ _ (fun z => q z.1)], rfl⟩
theorem only25_ring {m m' : am_Mm} {n : Nat} (h : only25 m m') (hR : rl_Ring m.1 20 n) : rl_Ring m'.1 20 n := by
  obtain ⟨r1, r2, r3, r4⟩ := hR
  refine ⟨by rw [h.1 _ _ (by omega)]; exact r1, by rw [h.1 _ _ (by omega)]; exact r2, fun i hi => ?_, fun c hc => ?_⟩
  · rw [h.1 _ _ (by omega), h.1 _ _ (by omega), h.1 _ _ (by omega)]; exact r3 i hi
  · rw [h.1 _ _ (by omega)]; exact r4 c hc
/-- joined by the first k cuts -/
def jp (n cu k c d : Nat) : Prop := c + 1 = d ∨ d + 1 = c ∨ (c = 0 ∧ d + 1 = n) ∨ (d = 0 ∧ c + 1 = n) ∨ ∃ i, i < k ∧ cu.testBit i = true ∧ ((cu_a n i = c ∧ cu_b n i = d) ∨ (cu_a n i = d ∧ cu_b n i = c))
theorem hc_join {n cu : Nat} {m : am_Mm} (h : 4 ≤ n) (h9 : n ≤ 9) (hR : rl_Ring m.1 20 n) (hcu : cu < 2 ^ 27) : ∃ m', f_Ring_joinCorners (nI cu) m = some m' ∧ only25 m m' ∧ ∀ c, c < n → m'.1 25 c = nI (Jm n cu c) := by
  have h27 := cu_N27 h h9
  -- the second loop
  have L2 : ∀ t k f m0, k + t = cu_N n → t < f → rl_Ring m0.1 20 n → (∀ c, c < n → ∃ x, m0.1 25 c = nI x ∧ x < 2 ^ n ∧ ∀ d, d < n → (x.testBit d = true ↔ jp n cu k c d)) → ∃ m', f_Ring_joinCorners_b68 f (nI cu) (nI k) m0 = some m' ∧ only25 m0 m' ∧ ∀ c, c < n → m'.1 25 c = nI (Jm n cu c) := by
    intro t
    induction t with
    | zero =>
      intro k f m0 hk hf hR I
      obtain ⟨f, rfl⟩ : ∃ z, f = z + 1 := ⟨f - 1, by omega⟩
      have hk : k = cu_N n := by omega
      subst hk
      refine ⟨m0, ?_, only25_r _, fun c hc => ?_⟩
      · rw [f_Ring_joinCorners_b68]
        simp (disch := omega) only [nq0, nq1, nq2, nq3, nq4, nq5, nq6, nq7, nq8, nq9, nq10, nq11, nq20, nq24, nq27, nq30, nq40, nI_add, pk_sub, pk_mul, nq_div, nq_rem, nq_shl1, nq_shl2, nq_bit1, nq_bit0, nq_or, nq_and, nq_nd, ml_cl, nq_in, nq_le, nq_nle, nq_lt, nq_nlt, nq_eq, nq_ne, nq_eqT, Option.bind_some, Bool.false_eq_true, Bool.true_eq_false, ↓reduceIte, hR.2.1]
      · obtain ⟨x, e, hx, q⟩ := I c hc
        rw [e]
        congr 1
        apply Nat.eq_of_testBit_eq
        intro d
        rw [Jm_tb]
        by_cases hd : d < n
        · rw [decide_eq_true hd, Bool.true_and]
          apply Bool.eq_iff_iff.mpr
          rw [q d hd, jo_iff, lk_ex h h9]
          rfl
        · rw [decide_eq_false hd, Bool.false_and]
          exact Nat.testBit_lt_two_pow (Nat.lt_of_lt_of_le hx (Nat.pow_le_pow_right (by omega) (by omega)))
    | succ t ih =>
      intro k f m0 hk hf hR I
      obtain ⟨f, rfl⟩ : ∃ z, f = z + 1 := ⟨f - 1, by omega⟩
      have hab := cu_ab h h9 (show k < cu_N n by omega)
      have ra := (hR.2.2.1 k (by omega)).1
      have rb := (hR.2.2.1 k (by omega)).2.1
      by_cases hb : cu.testBit k = true
      · obtain ⟨xa, ea, la, qa⟩ := I (cu_a n k) (by omega)
        obtain ⟨xb, eb, lb, qb⟩ := I (cu_b n k) (by omega)
        have hU : f_Ring_joinCorners_b68 (f + 1) (nI cu) (nI k) m0 = f_Ring_joinCorners_b68 f (nI cu) (nI (k + 1)) (am_pI (am_pI m0 25 (cu_a n k) (nI (xa ||| 2 ^ cu_b n k))) 25 (cu_b n k) (nI (xb ||| 2 ^ cu_a n k))) := by
          rw [f_Ring_joinCorners_b68]
          simp (disch := omega) only [nq0, nq1, nq2, nq3, nq4, nq5, nq6, nq7, nq8, nq9, nq10, nq11, nq20, nq24, nq27, nq30, nq40, nI_add, pk_sub, pk_mul, nq_div, nq_rem, nq_shl1, nq_shl2, nq_bit1, nq_bit0, nq_or, nq_and, nq_nd, ml_cl, nq_in, nq_le, nq_nle, nq_lt, nq_nlt, nq_eq, nq_ne, nq_eqT, Option.bind_some, Bool.false_eq_true, Bool.true_eq_false, ↓reduceIte, hR.2.1, hb, ra, rb, ea, eb, ml_o, f_Ring_joinCorners_b129]
        have o1 := only25_t (only25_p m0 (cu_a n k) (nI (xa ||| 2 ^ cu_b n k))) (only25_p _ (cu_b n k) (nI (xb ||| 2 ^ cu_a n k)))
        rw [hU]
        have := ih (k + 1) f _ (by omega) (by omega) (only25_ring o1 hR) (fun c hc => ?_)
        · obtain ⟨m', e1, e2, e3⟩ := this
          exact ⟨m', e1, only25_t o1 e2, e3⟩
        · have jk : ∀ c d, jp n cu (k + 1) c d ↔ (jp n cu k c d ∨ ((cu_a n k = c ∧ cu_b n k = d) ∨ (cu_a n k = d ∧ cu_b n k = c))) := by
            intro c d
            unfold jp
            constructor
            · rintro (q | q | q | q | ⟨i, a, b, e⟩)
              · exact Or.inl (Or.inl q)
              · exact Or.inl (Or.inr (Or.inl q))
              · exact Or.inl (Or.inr (Or.inr (Or.inl q)))
              · exact Or.inl (Or.inr (Or.inr (Or.inr (Or.inl q))))
              · by_cases z : i = k
                · subst z; exact Or.inr e
                · exact Or.inl (Or.inr (Or.inr (Or.inr (Or.inr ⟨i, by omega, b, e⟩))))
            · rintro ((q | q | q | q | ⟨i, a, b, e⟩) | q)
              · exact Or.inl q
              · exact Or.inr (Or.inl q)
              · exact Or.inr (Or.inr (Or.inl q))
              · exact Or.inr (Or.inr (Or.inr (Or.inl q)))
              · exact Or.inr (Or.inr (Or.inr (Or.inr ⟨i, by omega, b, e⟩)))
              · exact Or.inr (Or.inr (Or.inr (Or.inr ⟨k, by omega, hb, q⟩)))
          by_cases cb : c = cu_b n k
          · subst cb
            refine ⟨xb ||| 2 ^ cu_a n k, by rw [ml_s], Nat.or_lt_two_pow lb (Nat.pow_lt_pow_right (by omega) (by omega)), fun d hd => ?_⟩
            rw [Nat.testBit_or, Bool.or_eq_true, qb d hd, Nat.testBit_two_pow, decide_eq_true_eq, jk]
            constructor
            · rintro (q | q)
              · exact Or.inl q
              · exact Or.inr (Or.inr ⟨q, rfl⟩)
            · rintro (q | q | q)
              · exact Or.inl q
              · omega
              · exact Or.inr q.1
          · by_cases caa : c = cu_a n k
            · subst caa
              refine ⟨xa ||| 2 ^ cu_b n k, by rw [ml_o _ _ (by omega), ml_s], Nat.or_lt_two_pow la (Nat.pow_lt_pow_right (by omega) (by omega)), fun d hd => ?_⟩
              rw [Nat.testBit_or, Bool.or_eq_true, qa d hd, Nat.testBit_two_pow, decide_eq_true_eq, jk]
              constructor
              · rintro (q | q)
                · exact Or.inl q
                · exact Or.inr (Or.inl ⟨rfl, q⟩)
              · rintro (q | q | q)
                · exact Or.inl q
                · exact Or.inr q.2
                · omega
            · obtain ⟨x, e, l, q⟩ := I c hc
              refine ⟨x, by rw [ml_o _ _ (by omega), ml_o _ _ (by omega)]; exact e, l, fun d hd => ?_⟩
              rw [q d hd, jk]
              constructor
              · exact Or.inl
              · rintro (z | z | z)
                · exact z
                · omega
                · omega
      · have hU : f_Ring_joinCorners_b68 (f + 1) (nI cu) (nI k) m0 = f_Ring_joinCorners_b68 f (nI cu) (nI (k + 1)) m0 := by
          rw [f_Ring_joinCorners_b68]
          simp (disch := omega) only [nq0, nq1, nq2, nq3, nq4, nq5, nq6, nq7, nq8, nq9, nq10, nq11, nq20, nq24, nq27, nq30, nq40, nI_add, pk_sub, pk_mul, nq_div, nq_rem, nq_shl1, nq_shl2, nq_bit1, nq_bit0, nq_or, nq_and, nq_nd, ml_cl, nq_in, nq_le, nq_nle, nq_lt, nq_nlt, nq_eq, nq_ne, nq_eqT, Option.bind_some, Bool.false_eq_true, Bool.true_eq_false, ↓reduceIte, hR.2.1, hb, f_Ring_joinCorners_b129]
        rw [hU]
        refine ih (k + 1) f m0 (by omega) (by omega) hR (fun c hc => ?_)
        obtain ⟨x, e, l, q⟩ := I c hc
        refine ⟨x, e, l, fun d hd => ?_⟩
        rw [q d hd]
        unfold jp
        constructor
        · rintro (q | q | q | q | ⟨i, a, b, e⟩)
          · exact Or.inl q
          · exact Or.inr (Or.inl q)
          · exact Or.inr (Or.inr (Or.inl q))
          · exact Or.inr (Or.inr (Or.inr (Or.inl q)))
          · exact Or.inr (Or.inr (Or.inr (Or.inr ⟨i, by omega, b, e⟩)))
        · rintro (q | q | q | q | ⟨i, a, b, e⟩)
          · exact Or.inl q
          · exact Or.inr (Or.inl q)
          · exact Or.inr (Or.inr (Or.inl q))
          · exact Or.inr (Or.inr (Or.inr (Or.inl q)))
          · by_cases z : i = k
            · subst z; exact absurd b hb
            · exact Or.inr (Or.inr (Or.inr (Or.inr ⟨i, by omega, b, e⟩)))
  -- the first loop
  have L1 : ∀ t k f m0, k + t = n → t < f → rl_Ring m0.1 20 n → (∀ c, c < k → m0.1 25 c = nI (2 ^ (if c + 1 = n then 0 else c + 1) ||| 2 ^ (if c = 0 then n - 1 else c - 1))) → ∃ m', f_Ring_joinCorners_b2 f (nI cu) (nI k) m0 = some m' ∧ only25 m0 m' ∧ ∀ c, c < n → m'.1 25 c = nI (Jm n cu c) := by
    intro t
    induction t with
    | zero =>
      intro k f m0 hk hf hR I
      obtain ⟨f, rfl⟩ : ∃ z, f = z + 1 := ⟨f - 1, by omega⟩
      have hk : k = n := by omega
      subst hk
      have hU : f_Ring_joinCorners_b2 (f + 1) (nI cu) (nI k) m0 = f_Ring_joinCorners_b68 am_F (nI cu) (nI 0) m0 := by
        rw [f_Ring_joinCorners_b2, if_pos (by rw [hR.1]; exact nI_le (Nat.le_refl _) (by omega))]
        rfl
      rw [hU]
      refine L2 (cu_N k) 0 am_F m0 (by omega) (by show cu_N k < 5000; omega) hR (fun c hc => ⟨_, I c hc, ?_, fun d hd => ?_⟩)
      · apply Nat.or_lt_two_pow
        · exact Nat.pow_lt_pow_right (by omega) (by split <;> omega)
        · exact Nat.pow_lt_pow_right (by omega) (by split <;> omega)
      · rw [Nat.testBit_or, Bool.or_eq_true, Nat.testBit_two_pow, Nat.testBit_two_pow, decide_eq_true_eq, decide_eq_true_eq]
        unfold jp
        constructor
        · rintro (q | q)
          · split at q
            · exact Or.inr (Or.inr (Or.inr (Or.inl ⟨by omega, by omega⟩)))
            · exact Or.inl q
          · split at q
            · exact Or.inr (Or.inr (Or.inl ⟨by omega, by omega⟩))
            · exact Or.inr (Or.inl (by omega))
        · rintro (q | q | q | q | ⟨i, a, _⟩)
          · left; rw [if_neg (by omega)]; exact q
          · right; rw [if_neg (by omega)]; omega
          · right; rw [if_pos (by omega)]; omega
          · left; rw [if_pos (by omega)]; omega
          · omega
    | succ t ih =>
      intro k f m0 hk hf hR I
      obtain ⟨f, rfl⟩ : ∃ z, f = z + 1 := ⟨f - 1, by omega⟩
      have hU : f_Ring_joinCorners_b2 (f + 1) (nI cu) (nI k) m0 = f_Ring_joinCorners_b2 f (nI cu) (nI (k + 1)) (am_pI m0 25 k (nI (2 ^ (if k + 1 = n then 0 else k + 1) ||| 2 ^ (if k = 0 then n - 1 else k - 1)))) := by
        rw [f_Ring_joinCorners_b2]
        unfold f_Ring_joinCorners_b27 f_Ring_joinCorners_b44
        by_cases q1 : k + 1 = n
        · have q2 : ¬ k = 0 := by omega
          rw [if_neg (show ¬ m0.1 20 5 ≤ nI k by rw [hR.1]; exact nI_ge (by omega) (by omega))]
          rw [if_pos (show m0.1 20 5 ≤ nI k + 1 by rw [hR.1, nI_1]; exact nI_le (by omega) (by omega))]
          simp (disch := omega) only [nq0, nq1, nq2, nq3, nq4, nq5, nq6, nq7, nq8, nq9, nq10, nq11, nq20, nq24, nq27, nq30, nq40, nI_add, pk_sub, pk_mul, nq_div, nq_rem, nq_shl1, nq_shl2, nq_bit1, nq_bit0, nq_or, nq_and, nq_nd, ml_cl, nq_in, nq_le, nq_nle, nq_lt, nq_nlt, nq_eq, nq_ne, nq_eqT, Option.bind_some, Bool.false_eq_true, Bool.true_eq_false, ↓reduceIte, hR.1, q1, q2]
        · rw [if_neg (show ¬ m0.1 20 5 ≤ nI k by rw [hR.1]; exact nI_ge (by omega) (by omega))]
          rw [if_neg (show ¬ m0.1 20 5 ≤ nI k + 1 by rw [hR.1, nI_1]; exact nI_ge (by omega) (by omega))]
          by_cases q2 : k = 0
          · subst q2
            simp (disch := omega) only [nq0, nq1, nq2, nq3, nq4, nq5, nq6, nq7, nq8, nq9, nq10, nq11, nq20, nq24, nq27, nq30, nq40, nI_add, pk_sub, pk_mul, nq_div, nq_rem, nq_shl1, nq_shl2, nq_bit1, nq_bit0, nq_or, nq_and, nq_nd, ml_cl, nq_in, nq_le, nq_nle, nq_lt, nq_nlt, nq_eq, nq_ne, nq_eqT, Option.bind_some, Bool.false_eq_true, Bool.true_eq_false, ↓reduceIte, hR.1, q1]
          · simp (disch := omega) only [nq0, nq1, nq2, nq3, nq4, nq5, nq6, nq7, nq8, nq9, nq10, nq11, nq20, nq24, nq27, nq30, nq40, nI_add, pk_sub, pk_mul, nq_div, nq_rem, nq_shl1, nq_shl2, nq_bit1, nq_bit0, nq_or, nq_and, nq_nd, ml_cl, nq_in, nq_le, nq_nle, nq_lt, nq_nlt, nq_eq, nq_ne, nq_eqT, Option.bind_some, Bool.false_eq_true, Bool.true_eq_false, ↓reduceIte, hR.1, q1, q2]
      have o1 := only25_p m0 k (nI (2 ^ (if k + 1 = n then 0 else k + 1) ||| 2 ^ (if k = 0 then n - 1 else k - 1)))
      rw [hU]
      have := ih (k + 1) f _ (by omega) (by omega) (only25_ring o1 hR) (fun c hc => ?_)
      · obtain ⟨m', e1, e2, e3⟩ := this
        exact ⟨m', e1, only25_t o1 e2, e3⟩
      · by_cases z : c = k
        · subst z; rw [ml_s]
        · rw [ml_o _ _ (by omega)]; exact I c (by omega)
  exact L1 n 0 am_F m (by omega) (by show n < 5000; omega) hR (fun c hc => absurd hc (by omega))
