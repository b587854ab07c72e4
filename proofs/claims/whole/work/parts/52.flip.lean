/-! ===== joined corners, what a cut becomes flipped ===== -/
def jo (n cu c d : Nat) : Bool := decide (c + 1 = d) || decide (d + 1 = c) || decide (c = 0 ∧ d + 1 = n) || decide (d = 0 ∧ c + 1 = n) || lk n cu c d
theorem jo_sym (n cu c d : Nat) : jo n cu c d = jo n cu d c := by
  apply Bool.eq_iff_iff.mpr
  unfold jo
  rw [lk_sym n cu c d]
  simp only [Bool.or_eq_true, decide_eq_true_eq]
  constructor
  · rintro ((((q | q) | q) | q) | q)
    · exact Or.inl (Or.inl (Or.inl (Or.inr q)))
    · exact Or.inl (Or.inl (Or.inl (Or.inl q)))
    · exact Or.inl (Or.inr q)
    · exact Or.inl (Or.inl (Or.inr q))
    · exact Or.inr q
  · rintro ((((q | q) | q) | q) | q)
    · exact Or.inl (Or.inl (Or.inl (Or.inr q)))
    · exact Or.inl (Or.inl (Or.inl (Or.inl q)))
    · exact Or.inl (Or.inr q)
    · exact Or.inl (Or.inl (Or.inr q))
    · exact Or.inr q
theorem jo_iff {n cu c d : Nat} : jo n cu c d = true ↔ c + 1 = d ∨ d + 1 = c ∨ (c = 0 ∧ d + 1 = n) ∨ (d = 0 ∧ c + 1 = n) ∨ lk n cu c d = true := by
  unfold jo
  simp only [Bool.or_eq_true, decide_eq_true_eq, or_assoc]
theorem hm_jo {n cu c d p : Nat} {m : am_Mm} (h : 4 ≤ n) (h9 : n ≤ 9) (h0 : m.1 p 0 = nI n) (h1 : m.1 p 1 = nI cu) (hcu : cu < 2 ^ 27) (hc : c < n) (hd : d < n) : f_M_isJoined p (nI c) (nI d) m = some (nI (if jo n cu c d then 1 else 0), m) := by
  have K : ∀ a b, a ≤ b → b < n → f_M_isJoined_b26 p (nI n) (nI a) (nI b) m = some (nI (if jo n cu a b then 1 else 0), m) := by
    intro a b hab hb
    unfold f_M_isJoined_b26 f_M_isJoined_b57
    by_cases e0 : b ≤ a
    · have : ¬ jo n cu a b = true := fun q => by
        rcases jo_iff.mp q with q | q | q | q | q
        · omega
        · omega
        · omega
        · omega
        · have := lk_lt q; omega
      rw [if_neg this]
      simp (disch := omega) only [nq0, nq1, nq2, nq3, nq4, nq5, nq6, nq7, nq8, nq9, nq10, nq11, nq20, nq24, nq27, nq30, nq40, nI_add, pk_sub, pk_mul, nq_div, nq_rem, nq_shl1, nq_shl2, nq_bit1, nq_bit0, nq_or, nq_and, nq_nd, ml_cl, nq_in, nq_le, nq_nle, nq_lt, nq_nlt, nq_eq, nq_ne, nq_eqT, Option.bind_some, Bool.false_eq_true, Bool.true_eq_false, ↓reduceIte]
    by_cases e1 : b = a + 1
    · have : jo n cu a b = true := jo_iff.mpr (Or.inl (by omega))
      rw [if_pos this]
      simp (disch := omega) only [nq0, nq1, nq2, nq3, nq4, nq5, nq6, nq7, nq8, nq9, nq10, nq11, nq20, nq24, nq27, nq30, nq40, nI_add, pk_sub, pk_mul, nq_div, nq_rem, nq_shl1, nq_shl2, nq_bit1, nq_bit0, nq_or, nq_and, nq_nd, ml_cl, nq_in, nq_le, nq_nle, nq_lt, nq_nlt, nq_eq, nq_ne, nq_eqT, Option.bind_some, Bool.false_eq_true, Bool.true_eq_false, ↓reduceIte]
    by_cases e2 : a = 0 ∧ b + 1 = n
    · have : jo n cu a b = true := jo_iff.mpr (Or.inr (Or.inr (Or.inl e2)))
      rw [if_pos this]
      obtain ⟨rfl, e3⟩ := e2
      simp (disch := omega) only [nq0, nq1, nq2, nq3, nq4, nq5, nq6, nq7, nq8, nq9, nq10, nq11, nq20, nq24, nq27, nq30, nq40, nI_add, pk_sub, pk_mul, nq_div, nq_rem, nq_shl1, nq_shl2, nq_bit1, nq_bit0, nq_or, nq_and, nq_nd, ml_cl, nq_in, nq_le, nq_nle, nq_lt, nq_nlt, nq_eq, nq_ne, nq_eqT, Option.bind_some, Bool.false_eq_true, Bool.true_eq_false, ↓reduceIte]
    have hm : may n a b = true := may_iff.mpr ⟨by omega, hb, e2⟩
    have h27 := cu_N27 h h9
    have hnb := (cu_nb h h9 hm).1
    have e : jo n cu a b = cu.testBit (nb n a b) := by
      apply Bool.eq_iff_iff.mpr
      rw [jo_iff]
      unfold lk
      rw [if_pos (by omega), hm, Bool.true_and]
      constructor
      · rintro (q | q | q | q | q)
        · omega
        · omega
        · omega
        · omega
        · exact q
      · intro q; exact Or.inr (Or.inr (Or.inr (Or.inr q)))
    rw [e]
    by_cases hb2 : cu.testBit (nb n a b) = true
    · rw [if_pos hb2]
      by_cases e3 : a = 0
      · subst e3
        simp (disch := omega) only [nq0, nq1, nq2, nq3, nq4, nq5, nq6, nq7, nq8, nq9, nq10, nq11, nq20, nq24, nq27, nq30, nq40, nI_add, pk_sub, pk_mul, nq_div, nq_rem, nq_shl1, nq_shl2, nq_bit1, nq_bit0, nq_or, nq_and, nq_nd, ml_cl, nq_in, nq_le, nq_nle, nq_lt, nq_nlt, nq_eq, nq_ne, nq_eqT, Option.bind_some, Bool.false_eq_true, Bool.true_eq_false, ↓reduceIte, hm_num1 h h9 hm, h1, nq_has1 _ _ hb2]
      · simp (disch := omega) only [nq0, nq1, nq2, nq3, nq4, nq5, nq6, nq7, nq8, nq9, nq10, nq11, nq20, nq24, nq27, nq30, nq40, nI_add, pk_sub, pk_mul, nq_div, nq_rem, nq_shl1, nq_shl2, nq_bit1, nq_bit0, nq_or, nq_and, nq_nd, ml_cl, nq_in, nq_le, nq_nle, nq_lt, nq_nlt, nq_eq, nq_ne, nq_eqT, Option.bind_some, Bool.false_eq_true, Bool.true_eq_false, ↓reduceIte, hm_num1 h h9 hm, h1, nq_has1 _ _ hb2]
    · rw [if_neg hb2]
      by_cases e3 : a = 0
      · subst e3
        simp (disch := omega) only [nq0, nq1, nq2, nq3, nq4, nq5, nq6, nq7, nq8, nq9, nq10, nq11, nq20, nq24, nq27, nq30, nq40, nI_add, pk_sub, pk_mul, nq_div, nq_rem, nq_shl1, nq_shl2, nq_bit1, nq_bit0, nq_or, nq_and, nq_nd, ml_cl, nq_in, nq_le, nq_nle, nq_lt, nq_nlt, nq_eq, nq_ne, nq_eqT, Option.bind_some, Bool.false_eq_true, Bool.true_eq_false, ↓reduceIte, hm_num1 h h9 hm, h1, nq_has0 _ _ hb2]
      · simp (disch := omega) only [nq0, nq1, nq2, nq3, nq4, nq5, nq6, nq7, nq8, nq9, nq10, nq11, nq20, nq24, nq27, nq30, nq40, nI_add, pk_sub, pk_mul, nq_div, nq_rem, nq_shl1, nq_shl2, nq_bit1, nq_bit0, nq_or, nq_and, nq_nd, ml_cl, nq_in, nq_le, nq_nle, nq_lt, nq_nlt, nq_eq, nq_ne, nq_eqT, Option.bind_some, Bool.false_eq_true, Bool.true_eq_false, ↓reduceIte, hm_num1 h h9 hm, h1, nq_has0 _ _ hb2]
  unfold f_M_isJoined f_M_isJoined_b14
  by_cases hcd : c < d
  · simp (disch := omega) only [nq0, nq1, nq2, nq3, nq4, nq5, nq6, nq7, nq8, nq9, nq10, nq11, nq20, nq24, nq27, nq30, nq40, nI_add, pk_sub, pk_mul, nq_div, nq_rem, nq_shl1, nq_shl2, nq_bit1, nq_bit0, nq_or, nq_and, nq_nd, ml_cl, nq_in, nq_le, nq_nle, nq_lt, nq_nlt, nq_eq, nq_ne, nq_eqT, Option.bind_some, Bool.false_eq_true, Bool.true_eq_false, ↓reduceIte, h0]
    exact K c d (by omega) hd
  · simp (disch := omega) only [nq0, nq1, nq2, nq3, nq4, nq5, nq6, nq7, nq8, nq9, nq10, nq11, nq20, nq24, nq27, nq30, nq40, nI_add, pk_sub, pk_mul, nq_div, nq_rem, nq_shl1, nq_shl2, nq_bit1, nq_bit0, nq_or, nq_and, nq_nd, ml_cl, nq_in, nq_le, nq_nle, nq_lt, nq_nlt, nq_eq, nq_ne, nq_eqT, Option.bind_some, Bool.false_eq_true, Bool.true_eq_false, ↓reduceIte, h0]
    rw [K d c (by omega) hc, jo_sym]
/-! the class's numbers of cuts -/
theorem nq_min (x y : Nat) (hx : x < 2 ^ 31) (hy : y < 2 ^ 31) : am_min (nI x) (nI y) = nI (min x y) := by
  unfold am_min
  by_cases h : y < x
  · rw [if_pos (nI_lt h hx), Nat.min_eq_right (by omega)]
  · rw [if_neg (nI_nlt (by omega) hy), Nat.min_eq_left (by omega)]
theorem nq_max (x y : Nat) (hx : x < 2 ^ 31) (hy : y < 2 ^ 31) : am_max (nI x) (nI y) = nI (max x y) := by
  unfold am_max
  by_cases h : x < y
  · rw [if_pos (nI_lt h hy), Nat.max_eq_right (by omega)]
  · rw [if_neg (nI_nlt (by omega) hx), Nat.max_eq_left (by omega)]
theorem hc_num {n p x y a b : Nat} {m : am_Mm} (h : 4 ≤ n) (h9 : n ≤ 9) (h5 : m.1 p 5 = nI n) (ha : a = min x y) (hb : b = max x y) (hbn : b < n) : (may n a b = true → f_Ring_numberOf p (nI x) (nI y) m = some (nI (nb n a b), m)) ∧ (¬ may n a b = true → f_Ring_numberOf p (nI x) (nI y) m = some (-1, m)) := by
  have hx : x < n := Nat.lt_of_le_of_lt (by rw [hb]; exact Nat.le_max_left _ _) hbn
  have hy : y < n := Nat.lt_of_le_of_lt (by rw [hb]; exact Nat.le_max_right _ _) hbn
  have hab : a ≤ b := by rw [ha, hb]; exact Nat.le_trans (Nat.min_le_left _ _) (Nat.le_max_left _ _)
  have e1 : am_min (nI x) (nI y) = nI a := by rw [nq_min x y (by omega) (by omega), ha]
  have e2 : am_max (nI x) (nI y) = nI b := by rw [nq_max x y (by omega) (by omega), hb]
  unfold f_Ring_numberOf f_Ring_isCut
  rw [e1, e2]
  refine ⟨fun hm => ?_, fun hm => ?_⟩
  · have hm2 := may_iff.mp hm
    by_cases h0 : a = 0
    · rw [h0] at hm2 ⊢
      simp (disch := omega) only [nq0, nq1, nq2, nq3, nq4, nq5, nq6, nq7, nq8, nq9, nq10, nq11, nq20, nq24, nq27, nq30, nq40, nI_add, pk_sub, pk_mul, nq_div, nq_rem, nq_shl1, nq_shl2, nq_bit1, nq_bit0, nq_or, nq_and, nq_nd, ml_cl, nq_in, nq_le, nq_nle, nq_lt, nq_nlt, nq_eq, nq_ne, nq_eqT, Option.bind_some, Bool.false_eq_true, Bool.true_eq_false, ↓reduceIte, h5]
      rfl
    · obtain ⟨f1, f2, f3, f4⟩ := cu_f4 (show n < 10 by omega) h hm2.2.1 (by omega) hm h0
      have f5 : a * (a - 1) < 100 := Nat.lt_of_le_of_lt (Nat.mul_le_mul (show a ≤ 9 by omega) (show a - 1 ≤ 9 by omega)) (by decide)
      simp (disch := omega) only [nq0, nq1, nq2, nq3, nq4, nq5, nq6, nq7, nq8, nq9, nq10, nq11, nq20, nq24, nq27, nq30, nq40, nI_add, pk_sub, pk_mul, nq_div, nq_rem, nq_shl1, nq_shl2, nq_bit1, nq_bit0, nq_or, nq_and, nq_nd, ml_cl, nq_in, nq_le, nq_nle, nq_lt, nq_nlt, nq_eq, nq_ne, nq_eqT, Option.bind_some, Bool.false_eq_true, Bool.true_eq_false, ↓reduceIte, h5]
      rw [f2]
  · have hm2 : ¬ (a + 2 ≤ b ∧ ¬ (a = 0 ∧ b + 1 = n)) := fun q => hm (may_iff.mpr ⟨q.1, hbn, q.2⟩)
    by_cases q1 : b - a < 2
    · simp (disch := omega) only [nq0, nq1, nq2, nq3, nq4, nq5, nq6, nq7, nq8, nq9, nq10, nq11, nq20, nq24, nq27, nq30, nq40, nI_add, pk_sub, pk_mul, nq_div, nq_rem, nq_shl1, nq_shl2, nq_bit1, nq_bit0, nq_or, nq_and, nq_nd, ml_cl, nq_in, nq_le, nq_nle, nq_lt, nq_nlt, nq_eq, nq_ne, nq_eqT, Option.bind_some, Bool.false_eq_true, Bool.true_eq_false, ↓reduceIte, h5]
    · simp (disch := omega) only [nq0, nq1, nq2, nq3, nq4, nq5, nq6, nq7, nq8, nq9, nq10, nq11, nq20, nq24, nq27, nq30, nq40, nI_add, pk_sub, pk_mul, nq_div, nq_rem, nq_shl1, nq_shl2, nq_bit1, nq_bit0, nq_or, nq_and, nq_nd, ml_cl, nq_in, nq_le, nq_nle, nq_lt, nq_nlt, nq_eq, nq_ne, nq_eqT, Option.bind_some, Bool.false_eq_true, Bool.true_eq_false, ↓reduceIte, h5]
/-! which of a row of corners -/
def lastc (P : Nat → Bool) : Nat → Option Nat
  | 0 => none
  | k + 1 => if P k then some k else lastc P k
theorem lastc_some {P : Nat → Bool} {c : Nat} : ∀ {n : Nat}, lastc P n = some c → c < n ∧ P c = true
  | 0, h => by cases h
  | n + 1, h => by
    rw [lastc] at h
    by_cases q : P n = true
    · rw [if_pos q] at h
      cases h
      exact ⟨by omega, q⟩
    · rw [if_neg q] at h
      have := lastc_some h
      exact ⟨by omega, this.2⟩
theorem lastc_none {P : Nat → Bool} : ∀ {n : Nat}, lastc P n = none → ∀ c, c < n → P c = false
  | 0, _, c, hc => absurd hc (by omega)
  | n + 1, h, c, hc => by
    rw [lastc] at h
    by_cases q : P n = true
    · rw [if_pos q] at h; cases h
    · rw [if_neg q] at h
      by_cases z : c = n
      · subst z; exact Bool.eq_false_iff.mpr q
      · exact lastc_none h c (by omega)
def inn (n cu i c : Nat) : Bool := decide (cu_a n i < c) && decide (c < cu_b n i) && jo n cu c (cu_a n i) && jo n cu c (cu_b n i)
def out (n cu i c : Nat) : Bool := (decide (c < cu_a n i) || decide (cu_b n i < c)) && jo n cu c (cu_a n i) && jo n cu c (cu_b n i)
/-- what cut i becomes flipped -/
def fl (n cu i : Nat) : Option Nat :=
  if cu.testBit i = true then
    match lastc (inn n cu i) n, lastc (out n cu i) n with
    | some x, some y => some (nb n (min x y) (max x y))
    | _, _ => none
  else none
/-- no cut that is there lies across joined corners -/
theorem jo_nx {n cu c d k : Nat} (h : 4 ≤ n) (h9 : n ≤ 9) (hv : cu_V n cu) (hj : jo n cu c d = true) (hd : d < n) (hc : c < n) (hk : k < cu_N n) (hb : cu.testBit k = true) :
    ¬ (cu_a n k < min c d ∧ min c d < cu_b n k ∧ cu_b n k < max c d) ∧ ¬ (min c d < cu_a n k ∧ cu_a n k < max c d ∧ max c d < cu_b n k) := by
  have hab := cu_ab h h9 hk
  rcases jo_iff.mp hj with q | q | q | q | q
  · omega
  · omega
  · omega
  · omega
  · obtain ⟨i, hi, hbi, e⟩ := (lk_ex h h9).mp q
    have x1 := hv.2 k i hk hi hb hbi
    have hab2 := cu_ab h h9 hi
    have x2 : ¬ cu_x n k i = true := by rw [x1]; decide
    rw [cu_x_iff] at x2
    rcases e with ⟨rfl, rfl⟩ | ⟨rfl, rfl⟩
    · omega
    · omega
theorem jo_lk {n cu c d : Nat} (hj : jo n cu c d = true) (h1 : ¬ c + 1 = d) (h2 : ¬ d + 1 = c) (h3 : ¬ (c = 0 ∧ d + 1 = n)) (h4 : ¬ (d = 0 ∧ c + 1 = n)) : lk n cu c d = true := by
  rcases jo_iff.mp hj with q | q | q | q | q
  · exact absurd q h1
  · exact absurd q h2
  · exact absurd q h3
  · exact absurd q h4
  · exact q
/-- joined across a joined pair: none -/
theorem jo_jo {n cu a b c d : Nat} (h : 4 ≤ n) (h9 : n ≤ 9) (hv : cu_V n cu) (h1 : jo n cu a b = true) (h2 : jo n cu c d = true) (hac : a < c) (hcb : c < b) (hbd : b < d) (hd : d < n) : False := by
  have l1 : lk n cu a b = true := jo_lk h1 (by omega) (by omega) (by omega) (by omega)
  obtain ⟨i, hi, hbi, e⟩ := (lk_ex h h9).mp l1
  have hab := cu_ab h h9 hi
  have := jo_nx h h9 hv h2 hd (by omega) hi hbi
  rcases e with ⟨e1, e2⟩ | ⟨e1, e2⟩
  · rw [e1, e2] at this; omega
  · omega
theorem inn_one {n cu i c d : Nat} (h : 4 ≤ n) (h9 : n ≤ 9) (hv : cu_V n cu) (hi : i < cu_N n) (hc : inn n cu i c = true) (hd : inn n cu i d = true) : c = d := by
  have hab := cu_ab h h9 hi
  unfold inn at hc hd
  simp only [Bool.and_eq_true, decide_eq_true_eq] at hc hd
  obtain ⟨⟨⟨c1, c2⟩, c3⟩, c4⟩ := hc
  obtain ⟨⟨⟨d1, d2⟩, d3⟩, d4⟩ := hd
  rcases Nat.lt_trichotomy c d with q | q | q
  · rw [jo_sym] at d3
    exact (jo_jo h h9 hv d3 c4 c1 q d2 hab.2.1).elim
  · exact q
  · rw [jo_sym] at c3
    exact (jo_jo h h9 hv c3 d4 d1 q c2 hab.2.1).elim
theorem out_one {n cu i c d : Nat} (h : 4 ≤ n) (h9 : n ≤ 9) (hv : cu_V n cu) (hi : i < cu_N n) (hcn : c < n) (hdn : d < n) (hc : out n cu i c = true) (hd : out n cu i d = true) : c = d := by
  have hab := cu_ab h h9 hi
  have K : ∀ c d, c < d → d < n → out n cu i c = true → out n cu i d = true → False := by
    intro c d q hdn hc hd
    unfold out at hc hd
    simp only [Bool.and_eq_true, Bool.or_eq_true, decide_eq_true_eq] at hc hd
    obtain ⟨⟨c1, c3⟩, c4⟩ := hc
    obtain ⟨⟨d1, d3⟩, d4⟩ := hd
    rcases c1 with c1 | c1
    · rcases d1 with d1 | d1
      · exact jo_jo h h9 hv c3 d4 q d1 (by omega) hab.2.1
      · rw [jo_sym] at d3
        exact jo_jo h h9 hv c4 d3 c1 (by omega) d1 hdn
    · rw [jo_sym] at c3 d4
      exact jo_jo h h9 hv c3 d4 (by omega) c1 q hdn
  rcases Nat.lt_trichotomy c d with q | q | q
  · exact (K c d q hdn hc hd).elim
  · exact q
  · exact (K d c q hcn hd hc).elim
theorem jo_ny {n cu c d k : Nat} (h : 4 ≤ n) (h9 : n ≤ 9) (hv : cu_V n cu) (hj : jo n cu c d = true) (hcd : c < d) (hd : d < n) (hk : k < cu_N n) (hb : cu.testBit k = true) :
    ¬ (cu_a n k < c ∧ c < cu_b n k ∧ cu_b n k < d) ∧ ¬ (c < cu_a n k ∧ cu_a n k < d ∧ d < cu_b n k) := by
  have := jo_nx h h9 hv hj hd (by omega) hk hb
  rwa [Nat.min_eq_left (by omega), Nat.max_eq_right (by omega)] at this
def ncr (s t c d : Nat) : Prop := ¬ (s < c ∧ c < t ∧ t < d) ∧ ¬ (c < s ∧ s < d ∧ d < t)
theorem geo1 {y a x b s t : Nat} (h1 : y < a) (h2 : a < x) (h3 : x < b) (hs : s < t) (ne : ¬ (s = a ∧ t = b)) (f1 : ncr s t a x) (f2 : ncr s t x b) (f3 : ncr s t y a) (f4 : ncr s t y b) (f5 : ncr s t a b) : ncr s t y x := by
  unfold ncr at *
  refine ⟨fun ⟨q1, q2, q3⟩ => ?_, fun ⟨q1, q2, q3⟩ => ?_⟩
  · rcases Nat.lt_trichotomy t a with z | z | z
    · exact f3.1 ⟨q1, q2, z⟩
    · exact f4.1 ⟨q1, q2, by omega⟩
    · exact f1.1 ⟨by omega, z, q3⟩
  · rcases Nat.lt_trichotomy s a with z | z | z
    · exact f3.2 ⟨q1, z, by omega⟩
    · rcases Nat.lt_trichotomy t b with w | w | w
      · exact f2.1 ⟨by omega, q3, w⟩
      · exact ne ⟨z, w⟩
      · exact f4.2 ⟨q1, by omega, w⟩
    · exact f1.2 ⟨z, q2, q3⟩
theorem geo2 {y a x b s t : Nat} (h1 : a < x) (h2 : x < b) (h3 : b < y) (hs : s < t) (ne : ¬ (s = a ∧ t = b)) (f1 : ncr s t a x) (f2 : ncr s t x b) (f3 : ncr s t a y) (f4 : ncr s t b y) (f5 : ncr s t a b) : ncr s t x y := by
  unfold ncr at *
  refine ⟨fun ⟨q1, q2, q3⟩ => ?_, fun ⟨q1, q2, q3⟩ => ?_⟩
  · rcases Nat.lt_trichotomy s a with z | z | z
    · exact f3.1 ⟨z, by omega, q3⟩
    · rcases Nat.lt_trichotomy t b with w | w | w
      · exact f2.1 ⟨q1, q2, w⟩
      · exact ne ⟨z, w⟩
      · exact f4.1 ⟨by omega, w, q3⟩
    · exact f1.2 ⟨z, q1, q2⟩
  · rcases Nat.lt_trichotomy s b with z | z | z
    · exact f2.2 ⟨q1, z, by omega⟩
    · exact f3.2 ⟨by omega, q2, q3⟩
    · exact f4.2 ⟨z, q2, q3⟩
/-- what comes of a flip is a cut, not there, and crosses none but the one that goes -/
theorem fl_ok {n cu i j : Nat} (h : 4 ≤ n) (h9 : n ≤ 9) (hv : cu_V n cu) (hi : i < cu_N n) (hf : fl n cu i = some j) : j < cu_N n ∧ cu.testBit i = true ∧ cu_x n i j = true ∧ cu_V n (nd cu (2 ^ i) ||| 2 ^ j) := by
  have hab := cu_ab h h9 hi
  have h27 := cu_N27 h h9
  unfold fl at hf
  by_cases hb : cu.testBit i = true
  · rw [if_pos hb] at hf
    cases ex : lastc (inn n cu i) n with
    | none => rw [ex] at hf; cases hf
    | some x =>
      cases ey : lastc (out n cu i) n with
      | none => rw [ex, ey] at hf; cases hf
      | some y =>
        rw [ex, ey] at hf
        have hj : nb n (min x y) (max x y) = j := by injection hf
        have hx := lastc_some ex
        have hy := lastc_some ey
        unfold inn at hx
        unfold out at hy
        simp only [Bool.and_eq_true, Bool.or_eq_true, decide_eq_true_eq] at hx hy
        obtain ⟨xn, ⟨⟨x1, x2⟩, x3⟩, x4⟩ := hx
        obtain ⟨yn, ⟨y1, y3⟩, y4⟩ := hy
        have hm : may n (min x y) (max x y) = true := may_iff.mpr ⟨by omega, by omega, by omega⟩
        have hnb := cu_nb h h9 hm
        rw [hj] at hnb
        have hX : cu_x n i j = true := by
          rw [cu_x_iff, hnb.2.1, hnb.2.2]
          omega
        have N : ∀ k, k < cu_N n → cu.testBit k = true → k ≠ i → cu_x n k j = false := by
          intro k hk hbk hki
          have kab := cu_ab h h9 hk
          have n5 : ¬ cu_x n k i = true := by rw [hv.2 k i hk hi hbk hb]; decide
          rw [cu_x_iff] at n5
          have f5 : ncr (cu_a n k) (cu_b n k) (cu_a n i) (cu_b n i) := ⟨fun q => n5 (Or.inl q), fun q => n5 (Or.inr q)⟩
          have n6 : ¬ (cu_a n k = cu_a n i ∧ cu_b n k = cu_b n i) := fun z => hki (by rw [← kab.2.2.2, ← hab.2.2.2, z.1, z.2])
          have f1 : ncr (cu_a n k) (cu_b n k) (cu_a n i) x := jo_ny h h9 hv (by rw [jo_sym]; exact x3) x1 xn hk hbk
          have f2 : ncr (cu_a n k) (cu_b n k) x (cu_b n i) := jo_ny h h9 hv x4 x2 hab.2.1 hk hbk
          apply Bool.eq_false_iff.mpr
          rw [Ne, cu_x_iff, hnb.2.1, hnb.2.2]
          rcases y1 with y1 | y1
          · have g := geo1 y1 x1 x2 (by omega) n6 f1 f2 (jo_ny h h9 hv y3 y1 (by omega) hk hbk) (jo_ny h h9 hv y4 (by omega) hab.2.1 hk hbk) f5
            rw [Nat.min_eq_right (by omega), Nat.max_eq_left (by omega)]
            exact fun q => q.elim g.1 g.2
          · have g := geo2 x1 x2 y1 (by omega) n6 f1 f2 (jo_ny h h9 hv (by rw [jo_sym]; exact y3) (by omega) yn hk hbk) (jo_ny h h9 hv (by rw [jo_sym]; exact y4) y1 yn hk hbk) f5
            rw [Nat.min_eq_left (by omega), Nat.max_eq_right (by omega)]
            exact fun q => q.elim g.1 g.2
        refine ⟨hnb.1, hb, hX, ?_, ?_⟩
        · apply Nat.or_lt_two_pow
          · unfold nd
            exact Nat.xor_lt_two_pow hv.1 (Nat.lt_of_le_of_lt Nat.and_le_left hv.1)
          · exact Nat.pow_lt_pow_right (by omega) hnb.1
        · have tb : ∀ k, (nd cu (2 ^ i) ||| 2 ^ j).testBit k = true → (cu.testBit k = true ∧ k ≠ i) ∨ k = j := by
            intro k q
            rw [Nat.testBit_or, Bool.or_eq_true, nd_tb, Nat.testBit_two_pow, Nat.testBit_two_pow, Bool.and_eq_true, decide_eq_true_eq, Bool.not_eq_true', decide_eq_false_iff_not] at q
            rcases q with q | q
            · exact Or.inl ⟨q.1, fun z => q.2 z.symm⟩
            · exact Or.inr q.symm
          intro k l hk hl q1 q2
          rcases tb k q1 with a | a <;> rcases tb l q2 with b | b
          · exact hv.2 k l hk hl a.1 b.1
          · subst b; exact N k hk a.1 a.2
          · subst a; rw [cu_x_sym]; exact N l hl b.1 b.2
          · subst a; subst b; exact cu_x_irr _ _
  · rw [if_neg hb] at hf; cases hf
