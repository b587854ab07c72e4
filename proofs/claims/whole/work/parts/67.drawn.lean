/-! ===== years of flips by draws ===== -/
theorem pc_ct (x : Nat) : ∀ n, pc x n = fb_ct (fun i => x.testBit i) n
  | 0 => rfl
  | n + 1 => by rw [pc_s, fb_ct_succ, pc_ct x n]
theorem pc_mono (x : Nat) {a b : Nat} (h : a ≤ b) : pc x a ≤ pc x b := by rw [pc_ct, pc_ct]; exact fb_ct_mono _ h
theorem pc_nd (x i : Nat) (hx : x.testBit i = true) : ∀ k, pc (nd x (2 ^ i)) k + (if i < k then 1 else 0) = pc x k
  | 0 => rfl
  | k + 1 => by
    have ih := pc_nd x i hx k
    rw [pc_s, pc_s, ← ih, nd_tb, Nat.testBit_two_pow]
    rcases Nat.lt_trichotomy i k with q | q | q
    · rw [if_pos q, if_pos (show i < k + 1 by omega), decide_eq_false (show ¬ i = k by omega), Bool.not_false, Bool.and_true]; omega
    · subst q
      rw [if_neg (show ¬ i < i by omega), if_pos (show i < i + 1 by omega), hx, decide_eq_true (show i = i from rfl)]; rfl
    · rw [if_neg (show ¬ i < k by omega), if_neg (show ¬ i < k + 1 by omega), decide_eq_false (show ¬ i = k by omega), Bool.not_false, Bool.and_true]
      rfl
theorem fl_pc {n cu i j : Nat} (h : 4 ≤ n) (h9 : n ≤ 9) (hv : cu_V n cu) (hi : i < cu_N n) (hf : fl n cu i = some j) : pc (nd cu (2 ^ i) ||| 2 ^ j) 30 = pc cu 30 := by
  have h27 := cu_N27 h h9
  obtain ⟨hj, hb, hX, _⟩ := fl_ok h h9 hv hi hf
  have hjn : cu.testBit j = false := Bool.eq_false_iff.mpr fun q => by
    have := hv.2 i j hi hj hb q
    rw [hX] at this; cases this
  have e1 : (nd cu (2 ^ i)).testBit j = false := by rw [nd_tb, hjn]; rfl
  have e2 := pc_nd cu i hb 30
  rw [pc_or _ _ e1, if_pos (by omega)]
  rw [if_pos (by omega)] at e2
  omega
/-- the cut that has k others ahead -/
def nth (cu k : Nat) : Nat := fa_first (fun i => cu.testBit i && decide (pc cu i = k)) 30
theorem nth_ok {n cu k : Nat} (h : 4 ≤ n) (h9 : n ≤ 9) (hv : cu_V n cu) (hk : k < pc cu 30) : nth cu k < cu_N n ∧ cu.testBit (nth cu k) = true ∧ pc cu (nth cu k) = k := by
  rw [pc_ct] at hk
  obtain ⟨i, hi, hb, he⟩ := fb_ct_kth hk
  have hlt : nth cu k < 30 := by
    rcases Nat.lt_or_ge (nth cu k) 30 with q | q
    · exact q
    · have := fa_first_no (fun i => cu.testBit i && decide (pc cu i = k)) 30 i (by unfold nth at q; omega)
      rw [show cu.testBit i = true from hb, pc_ct, he] at this
      simp at this
  have y := fa_first_yes (fun i => cu.testBit i && decide (pc cu i = k)) 30 hlt
  have y2 : (cu.testBit (nth cu k) && decide (pc cu (nth cu k) = k)) = true := y
  rw [Bool.and_eq_true, decide_eq_true_eq] at y2
  refine ⟨?_, y2.1, y2.2⟩
  rcases Nat.lt_or_ge (nth cu k) (cu_N n) with q | q
  · exact q
  · have := y2.1
    rw [Nat.testBit_lt_two_pow (Nat.lt_of_lt_of_le hv.1 (Nat.pow_le_pow_right (by omega) q))] at this
    cases this
theorem hc_nth {n cu i k : Nat} {m : am_Mm} (h : 4 ≤ n) (h9 : n ≤ 9) (e6 : m.1 20 6 = nI (cu_N n)) (hcu : cu < 2 ^ 27) (hi : i < cu_N n) (hb : cu.testBit i = true) (hp : pc cu i = k) : f_Ring_rising (nI cu) (nI k) m = some (nI i, m) := by
  have h27 := cu_N27 h h9
  have L : ∀ t a f, a + t = i → t < f → f_Ring_rising_b5 f (nI cu) (nI k) (nI (pc cu a)) (nI a) m = some (nI i, m) := by
    intro t
    induction t with
    | zero =>
      intro a f ha hf
      obtain ⟨f, rfl⟩ : ∃ z, f = z + 1 := ⟨f - 1, by omega⟩
      have ha : a = i := by omega
      subst ha
      rw [f_Ring_rising_b5]
      simp (disch := omega) only [nq0, nq1, nq2, nq3, nq4, nq5, nq6, nq7, nq8, nq9, nq10, nq11, nq20, nq24, nq27, nq30, nq40, nI_add, pk_sub, pk_mul, nq_div, nq_rem, nq_shl1, nq_shl2, nq_bit1, nq_bit0, nq_or, nq_and, nq_nd, ml_cl, nq_in, nq_le, nq_nle, nq_lt, nq_nlt, nq_eq, nq_ne, nq_eqT, Option.bind_some, Bool.false_eq_true, Bool.true_eq_false, ↓reduceIte, e6, hb, hp]
    | succ t ih =>
      intro a f ha hf
      obtain ⟨f, rfl⟩ : ∃ z, f = z + 1 := ⟨f - 1, by omega⟩
      have mo := pc_mono cu (show a + 1 ≤ i by omega)
      have hs := pc_s cu a
      have hle := pc_le cu a
      have hle2 := pc_le cu i
      rw [f_Ring_rising_b5, ← ih (a + 1) f (by omega) (by omega)]
      by_cases q : cu.testBit a = true
      · rw [if_pos q] at hs
        simp (disch := omega) only [nq0, nq1, nq2, nq3, nq4, nq5, nq6, nq7, nq8, nq9, nq10, nq11, nq20, nq24, nq27, nq30, nq40, nI_add, pk_sub, pk_mul, nq_div, nq_rem, nq_shl1, nq_shl2, nq_bit1, nq_bit0, nq_or, nq_and, nq_nd, ml_cl, nq_in, nq_le, nq_nle, nq_lt, nq_nlt, nq_eq, nq_ne, nq_eqT, Option.bind_some, Bool.false_eq_true, Bool.true_eq_false, ↓reduceIte, e6, q, hs, f_Ring_rising_b35]
      · rw [if_neg q] at hs
        simp (disch := omega) only [nq0, nq1, nq2, nq3, nq4, nq5, nq6, nq7, nq8, nq9, nq10, nq11, nq20, nq24, nq27, nq30, nq40, nI_add, pk_sub, pk_mul, nq_div, nq_rem, nq_shl1, nq_shl2, nq_bit1, nq_bit0, nq_or, nq_and, nq_nd, ml_cl, nq_in, nq_le, nq_nle, nq_lt, nq_nlt, nq_eq, nq_ne, nq_eqT, Option.bind_some, Bool.false_eq_true, Bool.true_eq_false, ↓reduceIte, e6, q, hs, f_Ring_rising_b35, Nat.add_zero]
  exact L i 0 am_F (by omega) (by show i < 5000; omega)
theorem hm_nth {cu i k : Nat} {m : am_Mm} (hcu : cu < 2 ^ 27) (hi : i < 27) (hb : cu.testBit i = true) (hp : pc cu i = k) : f_M_cutAt (nI cu) (nI k) m = some (nI i, m) := by
  have L : ∀ t a f, a + t = i → t < f → f_M_cutAt_b4 f (nI cu) (nI (k - pc cu a)) (nI a) m = some (nI i, m) := by
    intro t
    induction t with
    | zero =>
      intro a f ha hf
      obtain ⟨f, rfl⟩ : ∃ z, f = z + 1 := ⟨f - 1, by omega⟩
      have ha : a = i := by omega
      subst ha
      rw [f_M_cutAt_b4, hp, Nat.sub_self]
      simp (disch := omega) only [nq0, nq1, nq2, nq3, nq4, nq5, nq6, nq7, nq8, nq9, nq10, nq11, nq20, nq24, nq27, nq30, nq40, nI_add, pk_sub, pk_mul, nq_div, nq_rem, nq_shl1, nq_shl2, nq_bit1, nq_bit0, nq_or, nq_and, nq_nd, ml_cl, nq_in, nq_le, nq_nle, nq_lt, nq_nlt, nq_eq, nq_ne, nq_eqT, Option.bind_some, Bool.false_eq_true, Bool.true_eq_false, ↓reduceIte, nq_has1 _ _ hb]
    | succ t ih =>
      intro a f ha hf
      obtain ⟨f, rfl⟩ : ∃ z, f = z + 1 := ⟨f - 1, by omega⟩
      have mo := pc_mono cu (show a + 1 ≤ i by omega)
      have hs := pc_s cu a
      have hle := pc_le cu a
      have hle2 := pc_le cu i
      rw [f_M_cutAt_b4, ← ih (a + 1) f (by omega) (by omega)]
      unfold f_M_cutAt_b22 f_M_cutAt_b36
      by_cases q : cu.testBit a = true
      · rw [if_pos q] at hs
        simp (disch := omega) only [nq0, nq1, nq2, nq3, nq4, nq5, nq6, nq7, nq8, nq9, nq10, nq11, nq20, nq24, nq27, nq30, nq40, nI_add, pk_sub, pk_mul, nq_div, nq_rem, nq_shl1, nq_shl2, nq_bit1, nq_bit0, nq_or, nq_and, nq_nd, ml_cl, nq_in, nq_le, nq_nle, nq_lt, nq_nlt, nq_eq, nq_ne, nq_eqT, Option.bind_some, Bool.false_eq_true, Bool.true_eq_false, ↓reduceIte, nq_has1 _ _ q]
        rw [show k - pc cu a - 1 = k - pc cu (a + 1) by omega]
      · rw [if_neg q] at hs
        simp (disch := omega) only [nq0, nq1, nq2, nq3, nq4, nq5, nq6, nq7, nq8, nq9, nq10, nq11, nq20, nq24, nq27, nq30, nq40, nI_add, pk_sub, pk_mul, nq_div, nq_rem, nq_shl1, nq_shl2, nq_bit1, nq_bit0, nq_or, nq_and, nq_nd, ml_cl, nq_in, nq_le, nq_nle, nq_lt, nq_nlt, nq_eq, nq_ne, nq_eqT, Option.bind_some, Bool.false_eq_true, Bool.true_eq_false, ↓reduceIte, nq_has0 _ _ q]
        rw [show k - pc cu a - 0 = k - pc cu (a + 1) by omega]
  exact L i 0 am_F (by omega) (by show i < 5000; omega)
abbrev Ds : Type := Nat × Nat × Nat
/-- a year: cuts, draw, flips done -/
def dS (n : Nat) (s : Ds) : Ds :=
  if pc s.1 30 = 0 then (s.1, s.2.1 * 16807 % 2147483647, s.2.2) else
  match fl n s.1 (nth s.1 (s.2.1 * 16807 % 2147483647 % pc s.1 30)) with
  | some j => (nd s.1 (2 ^ nth s.1 (s.2.1 * 16807 % 2147483647 % pc s.1 30)) ||| 2 ^ j, s.2.1 * 16807 % 2147483647, s.2.2 + 1)
  | none => (s.1, s.2.1 * 16807 % 2147483647, s.2.2)
def dI (n : Nat) : Nat → Ds → Ds
  | 0, s => s
  | t + 1, s => dI n t (dS n s)
def dO (n q : Nat) (s : Ds) : Prop := cu_V n s.1 ∧ pc s.1 30 = q ∧ s.2.1 < 2147483647
theorem dS_ok {n q : Nat} {s : Ds} (h : 4 ≤ n) (h9 : n ≤ 9) (hs : dO n q s) : dO n q (dS n s) ∧ (dS n s).2.2 ≤ s.2.2 + 1 ∧ (dS n s).2.1 = s.2.1 * 16807 % 2147483647 := by
  obtain ⟨hv, hq, hx⟩ := hs
  have hx' : s.2.1 * 16807 % 2147483647 < 2147483647 := Nat.mod_lt _ (by decide)
  unfold dS
  by_cases z : pc s.1 30 = 0
  · rw [if_pos z]; exact ⟨⟨hv, hq, hx'⟩, by simp, rfl⟩
  · rw [if_neg z]
    have hn := nth_ok h h9 hv (show s.2.1 * 16807 % 2147483647 % pc s.1 30 < pc s.1 30 from Nat.mod_lt _ (by omega))
    cases hf : fl n s.1 (nth s.1 (s.2.1 * 16807 % 2147483647 % pc s.1 30)) with
    | none => exact ⟨⟨hv, hq, hx'⟩, by simp, rfl⟩
    | some j =>
      have o := fl_ok h h9 hv hn.1 hf
      exact ⟨⟨o.2.2.2, by rw [← hq]; exact fl_pc h h9 hv hn.1 hf, hx'⟩, by simp, rfl⟩
theorem dr_x {x : Nat} (hx : x < 2147483647) : am_remL (lN x * (16807 : Int64)) (2147483647 : Int64) = lN (x * 16807 % 2147483647) := by
  rw [show (16807 : Int64) = lN 16807 from rfl, show (2147483647 : Int64) = lN 2147483647 from rfl, lN_mul]
  exact pk_lRem (by omega) (by omega) (by omega)
theorem dr_k {x q : Nat} (hx : x < 2147483647) (h0 : 0 < q) (hq : q < 100) : (am_remL (lN x) ((nI q).toInt64)).toInt32 = nI (x % q) := by
  rw [nI_l (by omega)]
  unfold am_remL
  rw [pk_lRem (by omega) h0 (by omega), lN_i]
theorem only25_c {m m' : am_Mm} {n : Nat} (h : only25 m m') (e : m.1 20 6 = nI n) : m'.1 20 6 = nI n := by rw [h.1 _ _ (by omega)]; exact e
theorem hc_dr {n N q : Nat} {x3 : Int32} (h : 4 ≤ n) (h9 : n ≤ 9) (hN : N ≤ 60) : ∀ t k f (s : Ds) (m : am_Mm), k + t = N → t < f → rl_Ring m.1 20 n → dO n q s → ∃ m', f_C_drawn_b70 f (nI N) x3 (nI s.1) (nI q) (nI s.2.2) (lN s.2.1) (nI k) m = some (if x3 = 0 then nI (dI n t s).2.2 else nI (dI n t s).1, m') ∧ only25 m m' := by
  have h27 := cu_N27 h h9
  intro t
  induction t with
  | zero =>
    intro k f s m hk hf hR hs
    obtain ⟨f, rfl⟩ : ∃ z, f = z + 1 := ⟨f - 1, by omega⟩
    refine ⟨m, ?_, only25_r m⟩
    rw [f_C_drawn_b70, if_pos (nI_le (by omega) (by omega))]
    by_cases z : x3 = 0
    · rw [if_pos z, if_pos z]; rfl
    · rw [if_neg z, if_neg z]; rfl
  | succ t ih =>
    intro k f s m hk hf hR hs
    obtain ⟨f, rfl⟩ : ∃ z, f = z + 1 := ⟨f - 1, by omega⟩
    obtain ⟨hs', hd, hx'⟩ := dS_ok h h9 hs
    obtain ⟨hv, hq, hx⟩ := hs
    have hcu := cu_V_lt h h9 hv
    have hq30 := pc_le s.1 30
    have key : ∃ m0, f_C_drawn_b70 (f + 1) (nI N) x3 (nI s.1) (nI q) (nI s.2.2) (lN s.2.1) (nI k) m = f_C_drawn_b70 f (nI N) x3 (nI (dS n s).1) (nI q) (nI (dS n s).2.2) (lN (dS n s).2.1) (nI (k + 1)) m0 ∧ only25 m m0 := by
      rw [f_C_drawn_b70, if_neg (nI_ge (by omega) (by omega)), dr_x hx]
      unfold dS
      by_cases z : pc s.1 30 = 0
      · rw [if_pos z, if_pos (show nI q ≤ (0 : Int32) from by rw [← hq, z]; decide)]
        refine ⟨m, ?_, only25_r m⟩
        unfold f_C_drawn_b113
        rw [(hc_isNum hR.2.1 (by omega)).2 (fun i hi e => by
          have := congrArg Int32.toInt e
          rw [nI_toInt (by omega)] at this
          have o : (-1 : Int32).toInt = -1 := by decide
          omega), Option.bind_some, if_pos e00]
        unfold f_C_drawn_b142 f_C_drawn_b168
        rw [if_pos (show (-1 : Int32) < 0 by decide), nI_1]
      · rw [if_neg z, if_neg (show ¬ nI q ≤ (0 : Int32) from nI_ge (show 0 < q by omega) (by omega)), if_neg (show ¬ (nI q).toInt64 = (0 : Int64) from fun v => by rw [nI_l (by omega)] at v; have := (pk_lEQ (a := q) (b := 0) (by omega) (by omega)).mp v; omega), dr_k (Nat.mod_lt _ (by decide)) (by omega) (by omega)]
        have hn := nth_ok h h9 hv (show s.2.1 * 16807 % 2147483647 % pc s.1 30 < pc s.1 30 from Nat.mod_lt _ (by omega))
        rw [hq] at hn ⊢
        generalize nth s.1 (s.2.1 * 16807 % 2147483647 % q) = i at *
        rw [hc_nth h h9 hR.2.1 hcu hn.1 hn.2.1 hn.2.2, Option.bind_some]
        unfold f_C_drawn_b113
        rw [(hc_isNum hR.2.1 (by omega)).1 i hn.1 rfl, Option.bind_some, if_neg ne01]
        obtain ⟨m0, g1, g2⟩ := hc_fl h h9 hR hv hn.1
        refine ⟨m0, ?_, g2⟩
        rw [g1, Option.bind_some]
        unfold f_C_drawn_b142 f_C_drawn_b168
        cases hf : fl n s.1 i with
        | none => rw [if_pos (show fv (-1) none < (0 : Int32) by decide), nI_1]
        | some j =>
          have o := fl_ok h h9 hv hn.1 hf
          rw [if_neg (show ¬ fv (-1) (some j) < (0 : Int32) from nI_pos (by omega))]
          have s1 : (nI s.1 &&& ((am_shl (1 : Int32) (nI i)) ^^^ (-1 : Int32))) ||| (am_shl (1 : Int32) (fv (-1) (some j))) = nI (nd s.1 (2 ^ i) ||| 2 ^ j) := by
            show (nI s.1 &&& ((am_shl (1 : Int32) (nI i)) ^^^ (-1 : Int32))) ||| (am_shl (1 : Int32) (nI j)) = _
            simp (disch := omega) only [nq0, nq1, nq2, nq3, nq4, nq5, nq6, nq7, nq8, nq9, nq10, nq11, nq20, nq24, nq27, nq30, nq40, nI_add, pk_sub, pk_mul, nq_div, nq_rem, nq_shl1, nq_shl2, nq_bit1, nq_bit0, nq_or, nq_and, nq_nd, ml_cl, nq_in, nq_le, nq_nle, nq_lt, nq_nlt, nq_eq, nq_ne, nq_eqT, Option.bind_some, Bool.false_eq_true, Bool.true_eq_false, ↓reduceIte]
          rw [s1, nI_1, nI_1]
    obtain ⟨m0, k1, k2⟩ := key
    obtain ⟨m', r1, r2⟩ := ih (k + 1) f (dS n s) m0 (by omega) (by omega) (only25_ring k2 hR) hs'
    exact ⟨m', by rw [k1, r1]; rfl, only25_t k2 r2⟩
theorem hm_dr {n N q : Nat} {x3 : Int32} (h : 4 ≤ n) (h9 : n ≤ 9) (hN : N ≤ 60) : ∀ t k f (s : Ds) (m : am_Mm), k + t = N → t < f → m.1 69 0 = nI n → m.1 69 1 = nI s.1 → dO n q s → ∃ m', f_M_drawn_b61 f (nI N) x3 (lN s.2.1) (nI s.2.2) (nI k) m = some (if x3 = 0 then nI (dI n t s).2.2 else nI (dI n t s).1, m') ∧ ∀ p k, p ≠ 69 → m'.1 p k = m.1 p k := by
  have h27 := cu_N27 h h9
  intro t
  induction t with
  | zero =>
    intro k f s m hk hf e0 e1 hs
    obtain ⟨f, rfl⟩ : ∃ z, f = z + 1 := ⟨f - 1, by omega⟩
    refine ⟨m, ?_, fun p k _ => rfl⟩
    rw [f_M_drawn_b61, if_pos (nI_le (by omega) (by omega)), e1]
    by_cases z : x3 = 0
    · rw [if_pos z, if_pos z]; rfl
    · rw [if_neg z, if_neg z]; rfl
  | succ t ih =>
    intro k f s m hk hf e0 e1 hs
    obtain ⟨f, rfl⟩ : ∃ z, f = z + 1 := ⟨f - 1, by omega⟩
    obtain ⟨hs', hd, hx'⟩ := dS_ok h h9 hs
    obtain ⟨hv, hq, hx⟩ := hs
    have hcu := cu_V_lt h h9 hv
    have hq30 := pc_le s.1 30
    have key : ∃ m0, f_M_drawn_b61 (f + 1) (nI N) x3 (lN s.2.1) (nI s.2.2) (nI k) m = f_M_drawn_b61 f (nI N) x3 (lN (dS n s).2.1) (nI (dS n s).2.2) (nI (k + 1)) m0 ∧ m0.1 69 0 = nI n ∧ m0.1 69 1 = nI (dS n s).1 ∧ ∀ p k, p ≠ 69 → m0.1 p k = m.1 p k := by
      rw [f_M_drawn_b61, if_neg (nI_ge (by omega) (by omega)), dr_x hx, e1, nq_size (by omega), Option.bind_some]
      unfold dS
      by_cases z : pc s.1 30 = 0
      · rw [if_pos z, z, if_pos e00]
        refine ⟨m, ?_, e0, e1, fun p k _ => rfl⟩
        unfold f_M_drawn_b115 f_M_drawn_b136 f_M_drawn_b172
        rw [if_pos e00, if_pos rfl, nI_1]
      · rw [if_neg z, if_neg (show ¬ nI (pc s.1 30) = (0 : Int32) from fun v => z ((nI_eq (b := 0) (by omega) (by omega)).mp v)), if_neg (show ¬ (nI (pc s.1 30)).toInt64 = (0 : Int64) from fun v => by rw [nI_l (by omega)] at v; have := (pk_lEQ (a := pc s.1 30) (b := 0) (by omega) (by omega)).mp v; omega), dr_k (Nat.mod_lt _ (by decide)) (by omega) (by omega)]
        have hn := nth_ok h h9 hv (show s.2.1 * 16807 % 2147483647 % pc s.1 30 < pc s.1 30 from Nat.mod_lt _ (by omega))
        dsimp only
        generalize nth s.1 (s.2.1 * 16807 % 2147483647 % pc s.1 30) = i at *
        rw [e1, hm_nth hcu (by omega) hn.2.1 hn.2.2, Option.bind_some]
        unfold f_M_drawn_b115
        rw [if_neg (show ¬ nI (pc s.1 30) = (0 : Int32) from fun v => z ((nI_eq (b := 0) (by omega) (by omega)).mp v)), hm_fl h h9 e0 e1 hcu hn.1, Option.bind_some]
        unfold f_M_drawn_b136 f_M_drawn_b172
        cases hf : fl n s.1 i with
        | none =>
          refine ⟨m, ?_, e0, e1, fun p k _ => rfl⟩
          rw [if_pos (show fv (-1000000) none = (-1000000 : Int32) from rfl), nI_1]
        | some j =>
          have o := fl_ok h h9 hv hn.1 hf
          refine ⟨am_pI m 69 1 (nI (nd s.1 (2 ^ i) ||| 2 ^ j)), ?_, by rw [ml_o _ _ (by omega)]; exact e0, ml_s _ _ _ _, fun p k q => ml_o _ _ (by omega)⟩
          rw [if_neg (fun v => by have := (fv_bad (some j) (fun k e => by cases e; omega)).mp v; cases this)]
          have s1 : (nI s.1 &&& ((am_shl (1 : Int32) (nI i)) ^^^ (-1 : Int32))) ||| (am_shl (1 : Int32) (fv (-1000000) (some j))) = nI (nd s.1 (2 ^ i) ||| 2 ^ j) := by
            show (nI s.1 &&& ((am_shl (1 : Int32) (nI i)) ^^^ (-1 : Int32))) ||| (am_shl (1 : Int32) (nI j)) = _
            simp (disch := omega) only [nq0, nq1, nq2, nq3, nq4, nq5, nq6, nq7, nq8, nq9, nq10, nq11, nq20, nq24, nq27, nq30, nq40, nI_add, pk_sub, pk_mul, nq_div, nq_rem, nq_shl1, nq_shl2, nq_bit1, nq_bit0, nq_or, nq_and, nq_nd, ml_cl, nq_in, nq_le, nq_nle, nq_lt, nq_nlt, nq_eq, nq_ne, nq_eqT, Option.bind_some, Bool.false_eq_true, Bool.true_eq_false, ↓reduceIte]
          dsimp only
          rw [e1, s1, nI_1, nI_1]
    obtain ⟨m0, k1, k2, k3, k4⟩ := key
    obtain ⟨m', r1, r2⟩ := ih (k + 1) f (dS n s) m0 (by omega) (by omega) k2 k3 hs'
    exact ⟨m', by rw [k1, r1]; rfl, fun p k q => by rw [r2 p k q, k4 p k q]⟩
theorem hm_then (m : am_Mm) : ∃ m', f_M_layThen m = some m' ∧ (∀ k, k < 20 → m'.1 69 k = m.1 67 k) ∧ ∀ p k, p ≠ 69 → m'.1 p k = m.1 p k := by
  have L : ∀ t k f (m0 : am_Mm), k + t = 20 → t < f → ∃ m', f_M_layThen_b2 f (nI k) m0 = some m' ∧ (∀ j, k ≤ j → j < 20 → m'.1 69 j = m0.1 67 j) ∧ ∀ p j, ¬ (p = 69 ∧ k ≤ j ∧ j < 20) → m'.1 p j = m0.1 p j := by
    intro t
    induction t with
    | zero =>
      intro k f m0 hk hf
      obtain ⟨f, rfl⟩ : ∃ z, f = z + 1 := ⟨f - 1, by omega⟩
      have hk : k = 20 := by omega
      subst hk
      refine ⟨m0, ?_, fun j q1 q2 => absurd q1 (by omega), fun p j _ => rfl⟩
      rw [f_M_layThen_b2]
      simp (disch := omega) only [nq0, nq1, nq2, nq3, nq4, nq5, nq6, nq7, nq8, nq9, nq10, nq11, nq20, nq24, nq27, nq30, nq40, nI_add, pk_sub, pk_mul, nq_div, nq_rem, nq_shl1, nq_shl2, nq_bit1, nq_bit0, nq_or, nq_and, nq_nd, ml_cl, nq_in, nq_le, nq_nle, nq_lt, nq_nlt, nq_eq, nq_ne, nq_eqT, Option.bind_some, Bool.false_eq_true, Bool.true_eq_false, ↓reduceIte]
    | succ t ih =>
      intro k f m0 hk hf
      obtain ⟨f, rfl⟩ : ∃ z, f = z + 1 := ⟨f - 1, by omega⟩
      obtain ⟨m', e1, e4, e3⟩ := ih (k + 1) f (am_pI m0 69 k (m0.1 67 k)) (by omega) (by omega)
      refine ⟨m', ?_, fun j q1 q2 => ?_, fun p j q2 => ?_⟩
      · rw [f_M_layThen_b2, ← e1]
        simp (disch := omega) only [nq0, nq1, nq2, nq3, nq4, nq5, nq6, nq7, nq8, nq9, nq10, nq11, nq20, nq24, nq27, nq30, nq40, nI_add, pk_sub, pk_mul, nq_div, nq_rem, nq_shl1, nq_shl2, nq_bit1, nq_bit0, nq_or, nq_and, nq_nd, ml_cl, nq_in, nq_le, nq_nle, nq_lt, nq_nlt, nq_eq, nq_ne, nq_eqT, Option.bind_some, Bool.false_eq_true, Bool.true_eq_false, ↓reduceIte]
      · by_cases z : j = k
        · subst z
          rw [e3 _ _ (by omega), ml_s]
        · rw [e4 j (by omega) q2, ml_o _ _ (by omega)]
      · rw [e3 p j (by omega), ml_o _ _ (by omega)]
  obtain ⟨m', a, b, c⟩ := L 20 0 am_F m (by omega) (by show 20 < 5000; omega)
  exact ⟨m', a, fun k hk => b k (by omega) hk, fun p k q => c p k (by omega)⟩
theorem sm_69 {m m' : am_Mm} (h : ∀ p k, p ≠ 69 → m'.1 p k = m.1 p k) : sm m m' := fun p k q => h p k (fun z => by
  subst z
  rcases q with q | q | q | q | q | q
  · unfold rl_StatF at q; omega
  · unfold rl_RowsF at q; omega
  · unfold rl_TapeF at q; omega
  · unfold rl_AskF at q; omega
  · unfold rl_PolyF at q; omega
  · unfold rl_ImgF at q; omega)
theorem pz_drawn : ∀ a0 a1 a2 : Int32, am_Pz rl_All (f_C_drawn a0 a1 a2) (f_M_drawn a0 a1 a2) := by
  intro x y z m h
  unfold f_C_drawn
  rcases vw_of h with hn | ⟨n, cu, kd, ow, ok, hR, hF, hP⟩
  · rw [hc_there hn.1 (by omega)]
    refine ⟨_, m, m, rfl, ?_, h⟩
    unfold f_M_drawn
    rw [hm_there hn.2.2.1 (by omega)]; rfl
  · have h4 := ok.1
    have h9 := ok.2.1
    have hv := ok.2.2.1
    rw [hc_th1 hF.1 h4 h9, Option.bind_some, if_neg ne01]
    by_cases g1 : (0 : Int32) ≤ x ∧ x ≤ 60
    rotate_left
    · refine ⟨-1000001, m, m, ?_, ?_, h⟩
      · by_cases q : x < 0
        · rw [if_pos q]
        · rw [if_neg q, if_pos (ml_lt_of_nle (fun w => g1 ⟨ml_le_of_nlt q, w⟩))]
      · unfold f_M_drawn
        rw [hm_th1 hP.1 h4 h9, Option.bind_some, if_neg ne01, ml_in0 0 60 0 60 rfl rfl g1]; rfl
    rw [if_neg (ml_nlt_of_le g1.1), if_neg (ml_nlt_of_le g1.2)]
    by_cases g2 : (1 : Int32) ≤ y ∧ y ≤ 999999
    rotate_left
    · refine ⟨-1000001, m, m, ?_, ?_, h⟩
      · by_cases q : y < 1
        · rw [if_pos q]
        · rw [if_neg q, if_pos (ml_lt_of_nle (fun w => g2 ⟨ml_le_of_nlt q, w⟩))]
      · unfold f_M_drawn
        rw [hm_th1 hP.1 h4 h9, Option.bind_some, if_neg ne01, ml_in1 0 60 0 60 rfl rfl g1, Option.bind_some, if_neg ml_n10, ml_in0 1 999999 1 999999 rfl rfl g2]; rfl
    rw [if_neg (ml_nlt_of_le g2.1), if_neg (ml_nlt_of_le g2.2)]
    by_cases g3 : (0 : Int32) ≤ z ∧ z ≤ 1
    rotate_left
    · refine ⟨-1000001, m, m, ?_, ?_, h⟩
      · by_cases q : z < 0
        · rw [if_pos q]
        · rw [if_neg q, if_neg (fun w => g3 ⟨ml_le_of_nlt q, w⟩)]
      · unfold f_M_drawn
        rw [hm_th1 hP.1 h4 h9, Option.bind_some, if_neg ne01, ml_in1 0 60 0 60 rfl rfl g1, Option.bind_some, if_neg ml_n10, ml_in1 1 999999 1 999999 rfl rfl g2, Option.bind_some, if_neg ml_n10, ml_in0 0 1 0 1 rfl rfl g3]; rfl
    rw [if_neg (ml_nlt_of_le g3.1), if_pos g3.2, hF.2.1, hc_bc h4 h9 hv, Option.bind_some]
    obtain ⟨N, hN, rfl⟩ : ∃ k : Nat, k ≤ 60 ∧ x = nI k := by
      have z1 := g1.1
      have z2 := g1.2
      rw [Int32.le_iff_toInt_le] at z1 z2
      have o1 : (0 : Int32).toInt = 0 := rfl
      have o5 : (60 : Int32).toInt = 60 := rfl
      exact ⟨x.toInt.toNat, by omega, ml_of_toInt (by omega) (by omega)⟩
    obtain ⟨S, hS, rfl⟩ : ∃ k : Nat, k ≤ 999999 ∧ y = nI k := by
      have z1 := g2.1
      have z2 := g2.2
      rw [Int32.le_iff_toInt_le] at z1 z2
      have o1 : (1 : Int32).toInt = 1 := rfl
      have o5 : (999999 : Int32).toInt = 999999 := rfl
      exact ⟨y.toInt.toNat, by omega, ml_of_toInt (by omega) (by omega)⟩
    have hO : dO n (pc cu 30) (cu, S, 0) := ⟨hv, rfl, by show S < 2147483647; omega⟩
    obtain ⟨m1, c1, c2⟩ := hc_dr (x3 := z) h4 h9 hN N 0 am_F (cu, S, 0) m (by omega) (by show N < 5000; omega) hR hO
    obtain ⟨mt, t1, t2, t3⟩ := hm_then m1
    have g67 : ∀ k, m1.1 67 k = m.1 67 k := fun k => c2.1 _ _ (by omega)
    obtain ⟨p0, p1⟩ := rl_Pol_0 hP
    obtain ⟨m2, d1, d2⟩ := hm_dr (x3 := z) h4 h9 hN N 0 am_F (cu, S, 0) mt (by omega) (by show N < 5000; omega) (by rw [t2 0 (by omega), g67]; exact p0) (by rw [t2 1 (by omega), g67]; exact p1) hO
    refine ⟨if z = 0 then nI (dI n N (cu, S, 0)).2.2 else nI (dI n N (cu, S, 0)).1, m1, m2, ?_, ?_, sm_All (sm_t (sm_25 c2) (sm_t (sm_69 t3) (sm_69 d2))) h⟩
    · rw [nI_l (by omega)]; exact c1
    · unfold f_M_drawn
      rw [hm_th1 (by rw [g67]; exact hP.1) h4 h9, Option.bind_some, if_neg ne01, ml_in1 0 60 0 60 rfl rfl g1, Option.bind_some, if_neg ml_n10, ml_in1 1 999999 1 999999 rfl rfl g2, Option.bind_some, if_neg ml_n10, ml_in1 0 1 0 1 rfl rfl g3, Option.bind_some, if_neg ml_n10, t1, Option.bind_some, nI_l (by omega)]
      exact d1
