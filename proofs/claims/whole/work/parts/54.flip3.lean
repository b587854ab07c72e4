def fv (z : Int32) (o : Option Nat) : Int32 := match o with
  | some j => nI j
  | none => z
theorem wi_g : ((List.range 10).all fun b => (List.range b).all fun a => (List.range 10).all fun c => (2 ^ b - 2 ^ (a + 1)).testBit c == (decide (a < c) && decide (c < b))) = true := by decide +kernel
theorem wi_e {a b c : Nat} (hb : b < 10) (ha : a < b) (hc : c < 10) : (2 ^ b - 2 ^ (a + 1)).testBit c = (decide (a < c) && decide (c < b)) := eq_of_beq (al (al (al wi_g hb) ha) hc)
theorem hc_low {x c : Nat} {m : am_Mm} (hx : x < 2 ^ 31) (hc : c < 9) (h1 : x.testBit c = true) (h2 : ∀ j, j < c → x.testBit j = false) : f_Ring_lowestOf (nI x) m = some (nI c, m) := by
  have L : ∀ t k f, k + t = c → t < f → f_Ring_lowestOf_b2 f (nI x) (nI k) m = some (nI c, m) := by
    intro t
    induction t with
    | zero =>
      intro k f hk hf
      obtain ⟨f, rfl⟩ : ∃ z, f = z + 1 := ⟨f - 1, by omega⟩
      have hk : k = c := by omega
      subst hk
      rw [f_Ring_lowestOf_b2]
      simp (disch := omega) only [nq0, nq1, nq2, nq3, nq4, nq5, nq6, nq7, nq8, nq9, nq10, nq11, nq20, nq24, nq27, nq30, nq40, nI_add, pk_sub, pk_mul, nq_div, nq_rem, nq_shl1, nq_shl2, nq_bit1, nq_bit0, nq_or, nq_and, nq_nd, ml_cl, nq_in, nq_le, nq_nle, nq_lt, nq_nlt, nq_eq, nq_ne, nq_eqT, Option.bind_some, Bool.false_eq_true, Bool.true_eq_false, ↓reduceIte, h1]
    | succ t ih =>
      intro k f hk hf
      obtain ⟨f, rfl⟩ : ∃ z, f = z + 1 := ⟨f - 1, by omega⟩
      have := h2 k (by omega)
      rw [f_Ring_lowestOf_b2]
      simp (disch := omega) only [nq0, nq1, nq2, nq3, nq4, nq5, nq6, nq7, nq8, nq9, nq10, nq11, nq20, nq24, nq27, nq30, nq40, nI_add, pk_sub, pk_mul, nq_div, nq_rem, nq_shl1, nq_shl2, nq_bit1, nq_bit0, nq_or, nq_and, nq_nd, ml_cl, nq_in, nq_le, nq_nle, nq_lt, nq_nlt, nq_eq, nq_ne, nq_eqT, Option.bind_some, Bool.false_eq_true, Bool.true_eq_false, ↓reduceIte, this]
      exact ih (k + 1) f (by omega) (by omega)
  exact L c 0 am_F (by omega) (by show c < 5000; omega)
theorem hc_flJ {n cu i : Nat} {m : am_Mm} (h : 4 ≤ n) (h9 : n ≤ 9) (hR : rl_Ring m.1 20 n) (hv : cu_V n cu) (hi : i < cu_N n) (hb : cu.testBit i = true) (hJ : ∀ c, c < n → m.1 25 c = nI (Jm n cu c)) : f_Ring_flippedAsJoined (nI i) m = some (fv (-1) (fl n cu i), m) := by
  have h27 := cu_N27 h h9
  have hab := cu_ab h h9 hi
  have ra := (hR.2.2.1 i hi).1
  have rb := (hR.2.2.1 i hi).2.1
  have j1 := hJ (cu_a n i) (by omega)
  have j2 := hJ (cu_b n i) (by omega)
  have pw : 2 ^ (cu_a n i + 1) ≤ 2 ^ cu_b n i := Nat.pow_le_pow_right (by omega) (by omega)
  have pw2 : 2 ^ cu_b n i < 2 ^ 9 := Nat.pow_lt_pow_right (by omega) (by omega)
  have ti : ∀ c, c < n → ((Jm n cu (cu_a n i) &&& Jm n cu (cu_b n i)) &&& (2 ^ cu_b n i - 2 ^ (cu_a n i + 1))).testBit c = inn n cu i c := by
    intro c hc
    rw [Nat.testBit_and, Nat.testBit_and, Jm_tb, Jm_tb, wi_e (by omega) (by omega) (by omega), decide_eq_true hc, jo_sym n cu (cu_a n i) c, jo_sym n cu (cu_b n i) c]
    unfold inn
    cases jo n cu c (cu_a n i) <;> cases jo n cu c (cu_b n i) <;> simp
  have to : ∀ c, c < n → (nd (Jm n cu (cu_a n i) &&& Jm n cu (cu_b n i)) (2 ^ cu_b n i - 2 ^ (cu_a n i + 1))).testBit c = out n cu i c := by
    intro c hc
    rw [nd_tb, Nat.testBit_and, Jm_tb, Jm_tb, wi_e (by omega) (by omega) (by omega), decide_eq_true hc, jo_sym n cu (cu_a n i) c, jo_sym n cu (cu_b n i) c]
    unfold out
    have ia : ∀ x, jo n cu x x = false := fun x => Bool.eq_false_iff.mpr fun q => by
      rcases jo_iff.mp q with q | q | q | q | q
      · omega
      · omega
      · omega
      · omega
      · have := lk_lt q; omega
    by_cases e1 : c = cu_a n i
    · rw [← e1, ia]; simp
    · by_cases e2 : c = cu_b n i
      · rw [← e2, ia]; simp
      · cases jo n cu c (cu_a n i) <;> cases jo n cu c (cu_b n i) <;> simp
        apply Bool.eq_iff_iff.mpr
        simp
        omega
  have ltI : (Jm n cu (cu_a n i) &&& Jm n cu (cu_b n i)) &&& (2 ^ cu_b n i - 2 ^ (cu_a n i + 1)) < 2 ^ n := Nat.lt_of_le_of_lt Nat.and_le_left (Nat.lt_of_le_of_lt Nat.and_le_left (cu_bits_lt _ _))
  have ltO : nd (Jm n cu (cu_a n i) &&& Jm n cu (cu_b n i)) (2 ^ cu_b n i - 2 ^ (cu_a n i + 1)) < 2 ^ n := by
    unfold nd
    have q : Jm n cu (cu_a n i) &&& Jm n cu (cu_b n i) < 2 ^ n := Nat.lt_of_le_of_lt Nat.and_le_left (cu_bits_lt _ _)
    exact Nat.xor_lt_two_pow q (Nat.lt_of_le_of_lt Nat.and_le_left q)
  have p9 : 2 ^ n ≤ 2 ^ 9 := Nat.pow_le_pow_right (by omega) h9
  unfold f_Ring_flippedAsJoined
  rw [((hc_isNum hR.2.1 (by omega)).1 i hi rfl)]
  simp (disch := omega) only [nq0, nq1, nq2, nq3, nq4, nq5, nq6, nq7, nq8, nq9, nq10, nq11, nq20, nq24, nq27, nq30, nq40, nI_add, pk_sub, pk_mul, nq_div, nq_rem, nq_shl1, nq_shl2, nq_bit1, nq_bit0, nq_or, nq_and, nq_nd, ml_cl, nq_in, nq_le, nq_nle, nq_lt, nq_nlt, nq_eq, nq_ne, nq_eqT, Option.bind_some, Bool.false_eq_true, Bool.true_eq_false, ↓reduceIte, ra, rb, j1, j2]
  generalize hA : (Jm n cu (cu_a n i) &&& Jm n cu (cu_b n i)) &&& (2 ^ cu_b n i - 2 ^ (cu_a n i + 1)) = A at ti ltI ⊢
  generalize hB : nd (Jm n cu (cu_a n i) &&& Jm n cu (cu_b n i)) (2 ^ cu_b n i - 2 ^ (cu_a n i + 1)) = B at to ltO ⊢
  unfold fl
  rw [if_pos hb]
  have zero : ∀ X, X < 2 ^ n → (∀ c, c < n → X.testBit c = false) → X = 0 := fun X hX q => Nat.eq_of_testBit_eq fun c => by
    rw [Nat.zero_testBit]
    by_cases hc : c < n
    · exact q c hc
    · exact Nat.testBit_lt_two_pow (Nat.lt_of_lt_of_le hX (Nat.pow_le_pow_right (by omega) (by omega)))
  cases ex : lastc (inn n cu i) n with
  | none =>
    have : A = 0 := zero A ltI fun c hc => by rw [ti c hc]; exact lastc_none ex c hc
    subst this
    simp (disch := omega) only [nq0, nq1, nq2, nq3, nq4, nq5, nq6, nq7, nq8, nq9, nq10, nq11, nq20, nq24, nq27, nq30, nq40, nI_add, pk_sub, pk_mul, nq_div, nq_rem, nq_shl1, nq_shl2, nq_bit1, nq_bit0, nq_or, nq_and, nq_nd, ml_cl, nq_in, nq_le, nq_nle, nq_lt, nq_nlt, nq_eq, nq_ne, nq_eqT, Option.bind_some, Bool.false_eq_true, Bool.true_eq_false, ↓reduceIte]
    rfl
  | some x =>
    have hx := lastc_some ex
    have hA0 : A ≠ 0 := fun z => by have := ti x hx.1; rw [z, Nat.zero_testBit, hx.2] at this; cases this
    have lx : f_Ring_lowestOf (nI A) m = some (nI x, m) := hc_low (by omega) (by omega) (by rw [ti x hx.1]; exact hx.2) (fun j hj => by
      rw [ti j (by omega)]
      exact Bool.eq_false_iff.mpr fun q => by have := inn_one h h9 hv hi q hx.2; omega)
    cases ey : lastc (out n cu i) n with
    | none =>
      have : B = 0 := zero B ltO fun c hc => by rw [to c hc]; exact lastc_none ey c hc
      subst this
      simp (disch := omega) only [nq0, nq1, nq2, nq3, nq4, nq5, nq6, nq7, nq8, nq9, nq10, nq11, nq20, nq24, nq27, nq30, nq40, nI_add, pk_sub, pk_mul, nq_div, nq_rem, nq_shl1, nq_shl2, nq_bit1, nq_bit0, nq_or, nq_and, nq_nd, ml_cl, nq_in, nq_le, nq_nle, nq_lt, nq_nlt, nq_eq, nq_ne, nq_eqT, Option.bind_some, Bool.false_eq_true, Bool.true_eq_false, ↓reduceIte]
      rfl
    | some y =>
      have hy := lastc_some ey
      have hB0 : B ≠ 0 := fun z => by have := to y hy.1; rw [z, Nat.zero_testBit, hy.2] at this; cases this
      have ly : f_Ring_lowestOf (nI B) m = some (nI y, m) := hc_low (by omega) (by omega) (by rw [to y hy.1]; exact hy.2) (fun j hj => by
        rw [to j (by omega)]
        exact Bool.eq_false_iff.mpr fun q => by have := out_one h h9 hv hi (by omega) hy.1 q hy.2; omega)
      have hx2 := hx.2
      have hy2 := hy.2
      unfold inn at hx2
      unfold out at hy2
      simp only [Bool.and_eq_true, Bool.or_eq_true, decide_eq_true_eq] at hx2 hy2
      have hm : may n (min x y) (max x y) = true := may_iff.mpr ⟨by omega, by omega, by omega⟩
      have hn := (hc_num (x := x) (y := y) h h9 hR.1 rfl rfl (by omega)).1 hm
      rw [if_neg (fun z => hA0 ((nI_eq (by omega) (by decide)).mp z)), if_neg (fun z => hB0 ((nI_eq (by omega) (by decide)).mp z)), lx, Option.bind_some, ly, Option.bind_some, hn]
      rfl
theorem hc_fl {n cu i : Nat} {m : am_Mm} (h : 4 ≤ n) (h9 : n ≤ 9) (hR : rl_Ring m.1 20 n) (hv : cu_V n cu) (hi : i < cu_N n) : ∃ m', f_Ring_flippedOf (nI cu) (nI i) m = some (fv (-1) (fl n cu i), m') ∧ only25 m m' := by
  have h27 := cu_N27 h h9
  have hcu := cu_V_lt h h9 hv
  unfold f_Ring_flippedOf
  rw [((hc_isNum hR.2.1 (by omega)).1 i hi rfl)]
  by_cases hb : cu.testBit i = true
  · obtain ⟨m', e1, e2, e3⟩ := hc_join h h9 hR hcu
    refine ⟨m', ?_, e2⟩
    simp (disch := omega) only [nq0, nq1, nq2, nq3, nq4, nq5, nq6, nq7, nq8, nq9, nq10, nq11, nq20, nq24, nq27, nq30, nq40, nI_add, pk_sub, pk_mul, nq_div, nq_rem, nq_shl1, nq_shl2, nq_bit1, nq_bit0, nq_or, nq_and, nq_nd, ml_cl, nq_in, nq_le, nq_nle, nq_lt, nq_nlt, nq_eq, nq_ne, nq_eqT, Option.bind_some, Bool.false_eq_true, Bool.true_eq_false, ↓reduceIte, hb, e1, hc_flJ h h9 (only25_ring e2 hR) hv hi hb e3]
  · refine ⟨m, ?_, only25_r m⟩
    simp (disch := omega) only [nq0, nq1, nq2, nq3, nq4, nq5, nq6, nq7, nq8, nq9, nq10, nq11, nq20, nq24, nq27, nq30, nq40, nI_add, pk_sub, pk_mul, nq_div, nq_rem, nq_shl1, nq_shl2, nq_bit1, nq_bit0, nq_or, nq_and, nq_nd, ml_cl, nq_in, nq_le, nq_nle, nq_lt, nq_nlt, nq_eq, nq_ne, nq_eqT, Option.bind_some, Bool.false_eq_true, Bool.true_eq_false, ↓reduceIte, hb]
    unfold fl
    rw [if_neg hb]
    rfl
theorem hm_fl {n cu i p : Nat} {m : am_Mm} (h : 4 ≤ n) (h9 : n ≤ 9) (h0 : m.1 p 0 = nI n) (h1 : m.1 p 1 = nI cu) (hcu : cu < 2 ^ 27) (hi : i < cu_N n) : f_M_flipped p (nI i) m = some (fv (-1000000) (fl n cu i), m) := by
  have h27 := cu_N27 h h9
  have hab := cu_ab h h9 hi
  have b10 := hm_b10 h h9 hi
  have bt : ∀ x : Nat, x < 10 → f_M_isBetween (nI x) (nI (cu_a n i)) (nI (cu_b n i)) m = some (nI (if cu_a n i < x ∧ x < cu_b n i then 1 else 0), m) := by
    intro x hx
    unfold f_M_isBetween
    by_cases q : cu_a n i < x
    · by_cases r : x < cu_b n i
      · rw [if_pos (show cu_a n i < x ∧ x < cu_b n i from ⟨q, r⟩)]; simp (disch := omega) only [nq0, nq1, nq2, nq3, nq4, nq5, nq6, nq7, nq8, nq9, nq10, nq11, nq20, nq24, nq27, nq30, nq40, nI_add, pk_sub, pk_mul, nq_div, nq_rem, nq_shl1, nq_shl2, nq_bit1, nq_bit0, nq_or, nq_and, nq_nd, ml_cl, nq_in, nq_le, nq_nle, nq_lt, nq_nlt, nq_eq, nq_ne, nq_eqT, Option.bind_some, Bool.false_eq_true, Bool.true_eq_false, ↓reduceIte]
      · rw [if_neg (show ¬ (cu_a n i < x ∧ x < cu_b n i) from fun z => r z.2)]; simp (disch := omega) only [nq0, nq1, nq2, nq3, nq4, nq5, nq6, nq7, nq8, nq9, nq10, nq11, nq20, nq24, nq27, nq30, nq40, nI_add, pk_sub, pk_mul, nq_div, nq_rem, nq_shl1, nq_shl2, nq_bit1, nq_bit0, nq_or, nq_and, nq_nd, ml_cl, nq_in, nq_le, nq_nle, nq_lt, nq_nlt, nq_eq, nq_ne, nq_eqT, Option.bind_some, Bool.false_eq_true, Bool.true_eq_false, ↓reduceIte]
    · rw [if_neg (show ¬ (cu_a n i < x ∧ x < cu_b n i) from fun z => q z.1)]; simp (disch := omega) only [nq0, nq1, nq2, nq3, nq4, nq5, nq6, nq7, nq8, nq9, nq10, nq11, nq20, nq24, nq27, nq30, nq40, nI_add, pk_sub, pk_mul, nq_div, nq_rem, nq_shl1, nq_shl2, nq_bit1, nq_bit0, nq_or, nq_and, nq_nd, ml_cl, nq_in, nq_le, nq_nle, nq_lt, nq_nlt, nq_eq, nq_ne, nq_eqT, Option.bind_some, Bool.false_eq_true, Bool.true_eq_false, ↓reduceIte]
  have nz : ∀ o : Option Nat, (∀ j, o = some j → j < 100) → (fv (-1000000) o = (-1000000 : Int32) ↔ o = none) := by
    intro o ho
    cases o with
    | none => exact ⟨fun _ => rfl, fun _ => rfl⟩
    | some j =>
      refine ⟨fun q => ?_, fun q => by cases q⟩
      have := ho j rfl
      have q2 : nI j = (-1000000 : Int32) := q
      have q3 := congrArg Int32.toInt q2
      rw [nI_toInt (by omega)] at q3
      have : (-1000000 : Int32).toInt = -1000000 := by decide
      omega
  have L : ∀ t k f, k + t = n → t < f → f_M_flipped_b34 f p (nI i) (nI n) (nI (cu_a n i)) (nI (cu_b n i)) (fv (-1000000) (lastc (inn n cu i) k)) (fv (-1000000) (lastc (out n cu i) k)) (nI k) m = some (fv (-1000000) (fl n cu i), m) := by
    intro t
    induction t with
    | zero =>
      intro k f hk hf
      obtain ⟨f, rfl⟩ : ∃ z, f = z + 1 := ⟨f - 1, by omega⟩
      have hk : k = n := by omega
      subst hk
      rw [f_M_flipped_b34, if_pos (nI_le (Nat.le_refl _) (by omega))]
      unfold fl
      cases ex : lastc (inn k cu i) k with
      | none =>
        rw [if_pos (show fv (-1000000) none = (-1000000 : Int32) from rfl)]
        by_cases hb : cu.testBit i = true
        · rw [if_pos hb]; rfl
        · rw [if_neg hb]; rfl
      | some x =>
        have hx := lastc_some ex
        rw [if_neg (fun q => by have := (nz (some x) (fun j e => by cases e; omega)).mp q; cases this)]
        cases ey : lastc (out k cu i) k with
        | none =>
          rw [if_pos (show fv (-1000000) none = (-1000000 : Int32) from rfl)]
          by_cases hb : cu.testBit i = true
          · rw [if_pos hb]; rfl
          · rw [if_neg hb]; rfl
        | some y =>
          have hy := lastc_some ey
          rw [if_neg (fun q => by have := (nz (some y) (fun j e => by cases e; omega)).mp q; cases this), h1]
          have hx2 := hx.2
          have hy2 := hy.2
          unfold inn at hx2
          unfold out at hy2
          simp only [Bool.and_eq_true, Bool.or_eq_true, decide_eq_true_eq] at hx2 hy2
          have hm : may k (min x y) (max x y) = true := may_iff.mpr ⟨by omega, by omega, by omega⟩
          have hn : f_M_numberOf (nI k) (nI x) (nI y) m = some (nI (nb k (min x y) (max x y)), m) := by
            rcases Nat.lt_or_ge x y with z | z
            · rw [Nat.min_eq_left (by omega), Nat.max_eq_right (by omega)] at hm ⊢
              exact hm_num1 h h9 hm m
            · rw [Nat.min_eq_right (by omega), Nat.max_eq_left (by omega)] at hm ⊢
              exact hm_num2 h h9 hm m
          by_cases hb : cu.testBit i = true
          · rw [nq_has1 (by omega) (by omega) hb, if_pos hb]
            have hn2 : f_M_numberOf (nI k) (fv (-1000000) (some x)) (fv (-1000000) (some y)) m = some (nI (nb k (min x y) (max x y)), m) := hn
            rw [Option.bind_some, if_neg (show ¬ nI 1 = (0 : Int32) by decide), hn2]
            rfl
          · rw [nq_has0 (by omega) (by omega) hb, if_neg hb]
            rfl
    | succ t ih =>
      intro k f hk hf
      obtain ⟨f, rfl⟩ : ∃ z, f = z + 1 := ⟨f - 1, by omega⟩
      rw [f_M_flipped_b34, if_neg (nI_ge (by omega) (by omega)), ← ih (k + 1) f (by omega) (by omega), lastc, lastc]
      have i2 : inn n cu i k = (decide (cu_a n i < k) && decide (k < cu_b n i) && jo n cu k (cu_a n i) && jo n cu k (cu_b n i)) := rfl
      have o2 : out n cu i k = ((decide (k < cu_a n i) || decide (cu_b n i < k)) && jo n cu k (cu_a n i) && jo n cu k (cu_b n i)) := rfl
      have hj1 := hm_jo (p := p) (m := m) h h9 h0 h1 hcu (show k < n by omega) (show cu_a n i < n by omega)
      have hj2 := hm_jo (p := p) (m := m) h h9 h0 h1 hcu (show k < n by omega) hab.2.1
      have bk := bt k (by omega)
      by_cases e1 : k = cu_a n i
      · have z1 : inn n cu i k = false := by rw [i2, decide_eq_false (show ¬ cu_a n i < k by omega)]; rfl
        have z2 : out n cu i k = false := by rw [o2, decide_eq_false (show ¬ k < cu_a n i by omega), decide_eq_false (show ¬ cu_b n i < k by omega)]; rfl
        rw [z1, z2]
        simp (disch := omega) only [nq0, nq1, nq2, nq3, nq4, nq5, nq6, nq7, nq8, nq9, nq10, nq11, nq20, nq24, nq27, nq30, nq40, nI_add, pk_sub, pk_mul, nq_div, nq_rem, nq_shl1, nq_shl2, nq_bit1, nq_bit0, nq_or, nq_and, nq_nd, ml_cl, nq_in, nq_le, nq_nle, nq_lt, nq_nlt, nq_eq, nq_ne, nq_eqT, Option.bind_some, Bool.false_eq_true, Bool.true_eq_false, ↓reduceIte, f_M_flipped_b79, f_M_flipped_b104, f_M_flipped_b129]
      by_cases e2 : k = cu_b n i
      · have z1 : inn n cu i k = false := by rw [i2, decide_eq_false (show ¬ k < cu_b n i by omega), Bool.and_false]; rfl
        have z2 : out n cu i k = false := by rw [o2, decide_eq_false (show ¬ k < cu_a n i by omega), decide_eq_false (show ¬ cu_b n i < k by omega)]; rfl
        rw [z1, z2]
        simp (disch := omega) only [nq0, nq1, nq2, nq3, nq4, nq5, nq6, nq7, nq8, nq9, nq10, nq11, nq20, nq24, nq27, nq30, nq40, nI_add, pk_sub, pk_mul, nq_div, nq_rem, nq_shl1, nq_shl2, nq_bit1, nq_bit0, nq_or, nq_and, nq_nd, ml_cl, nq_in, nq_le, nq_nle, nq_lt, nq_nlt, nq_eq, nq_ne, nq_eqT, Option.bind_some, Bool.false_eq_true, Bool.true_eq_false, ↓reduceIte, f_M_flipped_b79, f_M_flipped_b104, f_M_flipped_b129]
      by_cases j1 : jo n cu k (cu_a n i) = true
      · rw [if_pos j1] at hj1
        by_cases j2 : jo n cu k (cu_b n i) = true
        · rw [if_pos j2] at hj2
          by_cases e3 : cu_a n i < k ∧ k < cu_b n i
          · have z1 : inn n cu i k = true := by rw [i2, decide_eq_true e3.1, decide_eq_true e3.2, j1, j2]; rfl
            have z2 : out n cu i k = false := by rw [o2, decide_eq_false (show ¬ k < cu_a n i by omega), decide_eq_false (show ¬ cu_b n i < k by omega)]; rfl
            rw [if_pos e3] at bk
            rw [z1, z2]
            simp (disch := omega) only [nq0, nq1, nq2, nq3, nq4, nq5, nq6, nq7, nq8, nq9, nq10, nq11, nq20, nq24, nq27, nq30, nq40, nI_add, pk_sub, pk_mul, nq_div, nq_rem, nq_shl1, nq_shl2, nq_bit1, nq_bit0, nq_or, nq_and, nq_nd, ml_cl, nq_in, nq_le, nq_nle, nq_lt, nq_nlt, nq_eq, nq_ne, nq_eqT, Option.bind_some, Bool.false_eq_true, Bool.true_eq_false, ↓reduceIte, hj1, hj2, bk, f_M_flipped_b79, f_M_flipped_b104, f_M_flipped_b129]
            rfl
          · have z1 : inn n cu i k = false := by
              rw [i2, ← Bool.decide_and, decide_eq_false e3]; rfl
            have z2 : out n cu i k = true := by
              rw [o2, ← Bool.decide_or, decide_eq_true (show k < cu_a n i ∨ cu_b n i < k by omega), j1, j2]; rfl
            rw [if_neg e3] at bk
            rw [z1, z2]
            simp (disch := omega) only [nq0, nq1, nq2, nq3, nq4, nq5, nq6, nq7, nq8, nq9, nq10, nq11, nq20, nq24, nq27, nq30, nq40, nI_add, pk_sub, pk_mul, nq_div, nq_rem, nq_shl1, nq_shl2, nq_bit1, nq_bit0, nq_or, nq_and, nq_nd, ml_cl, nq_in, nq_le, nq_nle, nq_lt, nq_nlt, nq_eq, nq_ne, nq_eqT, Option.bind_some, Bool.false_eq_true, Bool.true_eq_false, ↓reduceIte, hj1, hj2, bk, f_M_flipped_b79, f_M_flipped_b104, f_M_flipped_b129]
            rfl
        · rw [if_neg j2] at hj2
          have z1 : inn n cu i k = false := by rw [i2, Bool.eq_false_iff.mpr j2, Bool.and_false]
          have z2 : out n cu i k = false := by rw [o2, Bool.eq_false_iff.mpr j2, Bool.and_false]
          rw [z1, z2]
          simp (disch := omega) only [nq0, nq1, nq2, nq3, nq4, nq5, nq6, nq7, nq8, nq9, nq10, nq11, nq20, nq24, nq27, nq30, nq40, nI_add, pk_sub, pk_mul, nq_div, nq_rem, nq_shl1, nq_shl2, nq_bit1, nq_bit0, nq_or, nq_and, nq_nd, ml_cl, nq_in, nq_le, nq_nle, nq_lt, nq_nlt, nq_eq, nq_ne, nq_eqT, Option.bind_some, Bool.false_eq_true, Bool.true_eq_false, ↓reduceIte, hj1, hj2, f_M_flipped_b79, f_M_flipped_b104, f_M_flipped_b129]
      · rw [if_neg j1] at hj1
        have z1 : inn n cu i k = false := by rw [i2, Bool.eq_false_iff.mpr j1, Bool.and_false, Bool.false_and]
        have z2 : out n cu i k = false := by rw [o2, Bool.eq_false_iff.mpr j1, Bool.and_false, Bool.false_and]
        rw [z1, z2]
        simp (disch := omega) only [nq0, nq1, nq2, nq3, nq4, nq5, nq6, nq7, nq8, nq9, nq10, nq11, nq20, nq24, nq27, nq30, nq40, nI_add, pk_sub, pk_mul, nq_div, nq_rem, nq_shl1, nq_shl2, nq_bit1, nq_bit0, nq_or, nq_and, nq_nd, ml_cl, nq_in, nq_le, nq_nle, nq_lt, nq_nlt, nq_eq, nq_ne, nq_eqT, Option.bind_some, Bool.false_eq_true, Bool.true_eq_false, ↓reduceIte, hj1, f_M_flipped_b79, f_M_flipped_b104, f_M_flipped_b129]
  unfold f_M_flipped
  rw [h0, hm_ends h h9 hi, Option.bind_some, hm_ends h h9 hi, Option.bind_some, nq10, nq_div (by omega) (by omega) (by omega), nq_rem (by omega) (by omega) (by omega), b10.1, b10.2.1]
  exact L n 0 am_F (by omega) (by show n < 5000; omega)
