/-! ===== cuts turned and mirrored ===== -/
def mc (n s r c : Nat) : Nat := if (if s = 0 then c else n - 1 - c) + r < n then (if s = 0 then c else n - 1 - c) + r else (if s = 0 then c else n - 1 - c) + r - n
def mv (n s r i : Nat) : Nat := nb n (min (mc n s r (cu_a n i)) (mc n s r (cu_b n i))) (max (mc n s r (cu_a n i)) (mc n s r (cu_b n i)))
def mw (n s r cu : Nat) : Nat → Nat
  | 0 => 0
  | k + 1 => if cu.testBit k then mw n s r cu k ||| 2 ^ mv n s r k else mw n s r cu k
theorem mc_lt {n s r c : Nat} (hc : c < n) (hr : r < n) : mc n s r c < n := by
  unfold mc
  by_cases q : s = 0
  · simp only [if_pos q]; split <;> omega
  · simp only [if_neg q]; split <;> omega
def xx (a b c d : Nat) : Prop := (a < c ∧ c < b ∧ b < d) ∨ (c < a ∧ a < d ∧ d < b)
def rt (n r z : Nat) : Nat := if z + r < n then z + r else z + r - n
theorem mc_rt (n s r c : Nat) : mc n s r c = rt n r (if s = 0 then c else n - 1 - c) := rfl
def rp (n r a b p q : Nat) : Prop := (b + r < n ∧ p = a + r ∧ q = b + r) ∨ (a + r < n ∧ n ≤ b + r ∧ p + n = b + r ∧ q = a + r) ∨ (n ≤ a + r ∧ p + n = a + r ∧ q + n = b + r)
theorem rt_pair {n r a b : Nat} (ab : a < b) (bn : b < n) (hr : r < n) : rp n r a b (min (rt n r a) (rt n r b)) (max (rt n r a) (rt n r b)) := by
  unfold rp rt
  by_cases u : a + r < n
  · by_cases v : b + r < n
    · rw [if_pos u, if_pos v, Nat.min_eq_left (by omega), Nat.max_eq_right (by omega)]
      exact Or.inl ⟨v, rfl, rfl⟩
    · rw [if_pos u, if_neg v, Nat.min_eq_right (by omega), Nat.max_eq_left (by omega)]
      exact Or.inr (Or.inl ⟨u, by omega, by omega, rfl⟩)
  · rw [if_neg u, if_neg (show ¬ b + r < n by omega), Nat.min_eq_left (by omega), Nat.max_eq_right (by omega)]
    exact Or.inr (Or.inr ⟨by omega, by omega, by omega⟩)
theorem mc_pair {n s r a b : Nat} (ab : a < b) (bn : b < n) (hr : r < n) : rp n r (if s = 0 then a else n - 1 - b) (if s = 0 then b else n - 1 - a) (min (mc n s r a) (mc n s r b)) (max (mc n s r a) (mc n s r b)) := by
  rw [mc_rt, mc_rt]
  by_cases q : s = 0
  · simp only [if_pos q]; exact rt_pair ab bn hr
  · simp only [if_neg q]
    rw [Nat.min_comm, Nat.max_comm]
    exact rt_pair (by omega) (by omega) hr
theorem mc_may {n s r a b : Nat} (hr : r < n) (hm : may n a b = true) : may n (min (mc n s r a) (mc n s r b)) (max (mc n s r a) (mc n s r b)) = true := by
  have h := may_iff.mp hm
  rw [may_iff]
  have P := mc_pair (s := s) (show a < b by omega) h.2.1 hr
  generalize min (mc n s r a) (mc n s r b) = p at *
  generalize max (mc n s r a) (mc n s r b) = q at *
  unfold rp at P
  by_cases z : s = 0
  · simp only [if_pos z] at P; omega
  · simp only [if_neg z] at P; omega
theorem rp_xx {n r a b c d p q p' q' : Nat} (ab : a < b) (bn : b < n) (cd : c < d) (dn : d < n) (hr : r < n) (h1 : rp n r a b p q) (h2 : rp n r c d p' q') : xx p q p' q' ↔ xx a b c d := by
  unfold xx
  rcases h1 with h1 | h1 | h1 <;> rcases h2 with h2 | h2 | h2 <;> omega
theorem mc_xx {n s r a b c d : Nat} (hr : r < n) (ab : a < b) (bn : b < n) (cd : c < d) (dn : d < n) : xx (min (mc n s r a) (mc n s r b)) (max (mc n s r a) (mc n s r b)) (min (mc n s r c) (mc n s r d)) (max (mc n s r c) (mc n s r d)) ↔ xx a b c d := by
  have P := mc_pair (s := s) ab bn hr
  have Q := mc_pair (s := s) cd dn hr
  by_cases z : s = 0
  · simp only [if_pos z] at P Q
    exact rp_xx ab bn cd dn hr P Q
  · simp only [if_neg z] at P Q
    rw [rp_xx (by omega) (by omega) (by omega) (by omega) hr P Q]
    unfold xx
    omega
theorem mv_ok {n s r i : Nat} (h : 4 ≤ n) (h9 : n ≤ 9) (hr : r < n) (hi : i < cu_N n) : mv n s r i < cu_N n ∧ cu_a n (mv n s r i) = min (mc n s r (cu_a n i)) (mc n s r (cu_b n i)) ∧ cu_b n (mv n s r i) = max (mc n s r (cu_a n i)) (mc n s r (cu_b n i)) := cu_nb h h9 (mc_may hr (cu_may h h9 hi))
theorem mw_tb {n s r cu j : Nat} : ∀ k, (mw n s r cu k).testBit j = true ↔ ∃ i, i < k ∧ cu.testBit i = true ∧ mv n s r i = j
  | 0 => by rw [mw, Nat.zero_testBit]; simp
  | k + 1 => by
    have ih := mw_tb (n := n) (s := s) (r := r) (cu := cu) (j := j) k
    rw [mw]
    by_cases q : cu.testBit k = true
    · rw [if_pos q, Nat.testBit_or, Bool.or_eq_true, ih, Nat.testBit_two_pow, decide_eq_true_eq]
      constructor
      · rintro (⟨i, a, b⟩ | e)
        · exact ⟨i, by omega, b⟩
        · exact ⟨k, by omega, q, e⟩
      · rintro ⟨i, a, b⟩
        by_cases z : i = k
        · subst z; exact Or.inr b.2
        · exact Or.inl ⟨i, by omega, b⟩
    · rw [if_neg q, ih]
      constructor
      · rintro ⟨i, a, b⟩
        exact ⟨i, by omega, b⟩
      · rintro ⟨i, a, b⟩
        by_cases z : i = k
        · subst z; exact absurd b.1 q
        · exact ⟨i, by omega, b⟩
theorem mw_V {n s r cu : Nat} (h : 4 ≤ n) (h9 : n ≤ 9) (hr : r < n) (hv : cu_V n cu) : cu_V n (mw n s r cu (cu_N n)) := by
  refine ⟨?_, fun k l hk hl q1 q2 => ?_⟩
  · apply Nat.lt_pow_two_of_testBit
    intro j hj
    apply Bool.eq_false_iff.mpr
    intro q
    obtain ⟨i, a, b, e⟩ := (mw_tb _).mp q
    have := (mv_ok (s := s) h h9 hr a).1
    omega
  · obtain ⟨i, a1, b1, e1⟩ := (mw_tb _).mp q1
    obtain ⟨j, a2, b2, e2⟩ := (mw_tb _).mp q2
    have o1 := mv_ok (s := s) h h9 hr a1
    have o2 := mv_ok (s := s) h h9 hr a2
    have c1 := cu_ab h h9 a1
    have c2 := cu_ab h h9 a2
    apply Bool.eq_false_iff.mpr
    intro q
    have q := cu_x_iff.mp q
    rw [← e1, ← e2, o1.2.1, o1.2.2, o2.2.1, o2.2.2] at q
    have x1 := hv.2 i j a1 a2 b1 b2
    have x2 : ¬ cu_x n i j = true := by rw [x1]; decide
    rw [cu_x_iff] at x2
    exact x2 ((mc_xx (s := s) hr (show cu_a n i < cu_b n i by omega) c1.2.1 (show cu_a n j < cu_b n j by omega) c2.2.1).mp q)
theorem mw_lt {n s r cu k : Nat} (h : 4 ≤ n) (h9 : n ≤ 9) (hr : r < n) (hk : k ≤ cu_N n) : mw n s r cu k < 2 ^ 27 := by
  have h27 := cu_N27 h h9
  apply Nat.lt_pow_two_of_testBit
  intro j hj
  apply Bool.eq_false_iff.mpr
  intro q
  obtain ⟨i, a, b, e⟩ := (mw_tb _).mp q
  have := (mv_ok (s := s) h h9 hr (show i < cu_N n by omega)).1
  omega
theorem hc_mc {n s r c : Nat} {m : am_Mm} (h9 : n ≤ 9) (e5 : m.1 20 5 = nI n) (hs : s < 2) (hr : r < n) (hc : c < n) : f_Ring_movedCorner (nI c) (nI s) (nI r) m = some (nI (mc n s r c), m) := by
  unfold f_Ring_movedCorner f_Ring_movedCorner_b16 mc
  by_cases q : s = 0
  · subst q
    simp only [if_true]
    by_cases u : c + r < n
    · rw [if_pos u]; simp (disch := omega) only [nq0, nq1, nq2, nq3, nq4, nq5, nq6, nq7, nq8, nq9, nq10, nq11, nq20, nq24, nq27, nq30, nq40, nI_add, pk_sub, pk_mul, nq_div, nq_rem, nq_shl1, nq_shl2, nq_bit1, nq_bit0, nq_or, nq_and, nq_nd, ml_cl, nq_in, nq_le, nq_nle, nq_lt, nq_nlt, nq_eq, nq_ne, nq_eqT, Option.bind_some, Bool.false_eq_true, Bool.true_eq_false, ↓reduceIte, e5]
    · rw [if_neg u]; simp (disch := omega) only [nq0, nq1, nq2, nq3, nq4, nq5, nq6, nq7, nq8, nq9, nq10, nq11, nq20, nq24, nq27, nq30, nq40, nI_add, pk_sub, pk_mul, nq_div, nq_rem, nq_shl1, nq_shl2, nq_bit1, nq_bit0, nq_or, nq_and, nq_nd, ml_cl, nq_in, nq_le, nq_nle, nq_lt, nq_nlt, nq_eq, nq_ne, nq_eqT, Option.bind_some, Bool.false_eq_true, Bool.true_eq_false, ↓reduceIte, e5]
  · simp only [if_neg q]
    by_cases u : n - 1 - c + r < n
    · rw [if_pos u]; simp (disch := omega) only [nq0, nq1, nq2, nq3, nq4, nq5, nq6, nq7, nq8, nq9, nq10, nq11, nq20, nq24, nq27, nq30, nq40, nI_add, pk_sub, pk_mul, nq_div, nq_rem, nq_shl1, nq_shl2, nq_bit1, nq_bit0, nq_or, nq_and, nq_nd, ml_cl, nq_in, nq_le, nq_nle, nq_lt, nq_nlt, nq_eq, nq_ne, nq_eqT, Option.bind_some, Bool.false_eq_true, Bool.true_eq_false, ↓reduceIte, e5]
    · rw [if_neg u]; simp (disch := omega) only [nq0, nq1, nq2, nq3, nq4, nq5, nq6, nq7, nq8, nq9, nq10, nq11, nq20, nq24, nq27, nq30, nq40, nI_add, pk_sub, pk_mul, nq_div, nq_rem, nq_shl1, nq_shl2, nq_bit1, nq_bit0, nq_or, nq_and, nq_nd, ml_cl, nq_in, nq_le, nq_nle, nq_lt, nq_nlt, nq_eq, nq_ne, nq_eqT, Option.bind_some, Bool.false_eq_true, Bool.true_eq_false, ↓reduceIte, e5]
theorem hc_mw {n s r cu : Nat} {m : am_Mm} (h : 4 ≤ n) (h9 : n ≤ 9) (hR : rl_Ring m.1 20 n) (hcu : cu < 2 ^ 27) (hs : s < 2) (hr : r < n) : f_Ring_moved (nI cu) (nI s) (nI r) m = some (nI (mw n s r cu (cu_N n)), m) := by
  have h27 := cu_N27 h h9
  have L : ∀ t k f, k + t = cu_N n → t < f → f_Ring_moved_b6 f (nI cu) (nI s) (nI r) (nI (mw n s r cu k)) (nI k) m = some (nI (mw n s r cu (cu_N n)), m) := by
    intro t
    induction t with
    | zero =>
      intro k f hk hf
      obtain ⟨f, rfl⟩ : ∃ z, f = z + 1 := ⟨f - 1, by omega⟩
      have hk : k = cu_N n := by omega
      subst hk
      rw [f_Ring_moved_b6]
      simp (disch := omega) only [nq0, nq1, nq2, nq3, nq4, nq5, nq6, nq7, nq8, nq9, nq10, nq11, nq20, nq24, nq27, nq30, nq40, nI_add, pk_sub, pk_mul, nq_div, nq_rem, nq_shl1, nq_shl2, nq_bit1, nq_bit0, nq_or, nq_and, nq_nd, ml_cl, nq_in, nq_le, nq_nle, nq_lt, nq_nlt, nq_eq, nq_ne, nq_eqT, Option.bind_some, Bool.false_eq_true, Bool.true_eq_false, ↓reduceIte, hR.2.1]
    | succ t ih =>
      intro k f hk hf
      obtain ⟨f, rfl⟩ : ∃ z, f = z + 1 := ⟨f - 1, by omega⟩
      have hab := cu_ab h h9 (show k < cu_N n by omega)
      have r3 := hR.2.2.1 k (by omega)
      have ml := mw_lt (s := s) (cu := cu) (k := k) h h9 hr (by omega)
      have mo := mv_ok (s := s) h h9 hr (show k < cu_N n by omega)
      rw [f_Ring_moved_b6, ← ih (k + 1) f (by omega) (by omega), mw]
      by_cases hb : cu.testBit k = true
      · rw [if_pos hb]
        have hn := (hc_num (m := m) (x := mc n s r (cu_a n k)) (y := mc n s r (cu_b n k)) h h9 hR.1 rfl rfl (by have := mc_lt (s := s) (c := cu_a n k) (by omega) hr; have := mc_lt (s := s) (c := cu_b n k) (by omega) hr; omega)).1 (mc_may hr (cu_may h h9 (by omega)))
        have hbit : f_Ring_bitOf (nI (mc n s r (cu_a n k))) (nI (mc n s r (cu_b n k))) m = some (nI (2 ^ mv n s r k), m) := by
          unfold f_Ring_bitOf
          rw [hn, Option.bind_some]
          show (if (0 : Int32) ≤ nI (mv n s r k) then some (am_shl (1 : Int32) (nI (mv n s r k)), m) else some (0, m)) = _
          simp (disch := omega) only [nq0, nq1, nq2, nq3, nq4, nq5, nq6, nq7, nq8, nq9, nq10, nq11, nq20, nq24, nq27, nq30, nq40, nI_add, pk_sub, pk_mul, nq_div, nq_rem, nq_shl1, nq_shl2, nq_bit1, nq_bit0, nq_or, nq_and, nq_nd, ml_cl, nq_in, nq_le, nq_nle, nq_lt, nq_nlt, nq_eq, nq_ne, nq_eqT, Option.bind_some, Bool.false_eq_true, Bool.true_eq_false, ↓reduceIte]
        simp (disch := omega) only [nq0, nq1, nq2, nq3, nq4, nq5, nq6, nq7, nq8, nq9, nq10, nq11, nq20, nq24, nq27, nq30, nq40, nI_add, pk_sub, pk_mul, nq_div, nq_rem, nq_shl1, nq_shl2, nq_bit1, nq_bit0, nq_or, nq_and, nq_nd, ml_cl, nq_in, nq_le, nq_nle, nq_lt, nq_nlt, nq_eq, nq_ne, nq_eqT, Option.bind_some, Bool.false_eq_true, Bool.true_eq_false, ↓reduceIte, hR.2.1, hb, r3.1, r3.2.1, hc_mc h9 hR.1 hs hr, hbit, f_Ring_moved_b60]
      · rw [if_neg hb]
        simp (disch := omega) only [nq0, nq1, nq2, nq3, nq4, nq5, nq6, nq7, nq8, nq9, nq10, nq11, nq20, nq24, nq27, nq30, nq40, nI_add, pk_sub, pk_mul, nq_div, nq_rem, nq_shl1, nq_shl2, nq_bit1, nq_bit0, nq_or, nq_and, nq_nd, ml_cl, nq_in, nq_le, nq_nle, nq_lt, nq_nlt, nq_eq, nq_ne, nq_eqT, Option.bind_some, Bool.false_eq_true, Bool.true_eq_false, ↓reduceIte, hR.2.1, hb, f_Ring_moved_b60]
  exact L (cu_N n) 0 am_F (by omega) (by show cu_N n < 5000; omega)
theorem nq_md {n z : Nat} (h : z < 2 * n) : z % n = if z < n then z else z - n := by
  by_cases q : z < n
  · rw [if_pos q, Nat.mod_eq_of_lt q]
  · rw [if_neg q, Nat.mod_eq_sub_mod (by omega), Nat.mod_eq_of_lt (by omega)]
theorem hm_mw {n s r cu : Nat} {m : am_Mm} (h : 4 ≤ n) (h9 : n ≤ 9) (hcu : cu < 2 ^ 27) (hs : s < 2) (hr : r < n) : f_M_turned (nI n) (nI cu) (nI r) (nI s) m = some (nI (mw n s r cu (cu_N n)), m) := by
  have h27 := cu_N27 h h9
  have L : ∀ t k f, k + t = cu_N n → t < f → f_M_turned_b6 f (nI n) (nI cu) (nI r) (nI s) (nI (mw n s r cu k)) (nI k) m = some (nI (mw n s r cu (cu_N n)), m) := by
    intro t
    induction t with
    | zero =>
      intro k f hk hf
      obtain ⟨f, rfl⟩ : ∃ z, f = z + 1 := ⟨f - 1, by omega⟩
      have hk : k = cu_N n := by omega
      subst hk
      rw [f_M_turned_b6]
      simp (disch := omega) only [nq0, nq1, nq2, nq3, nq4, nq5, nq6, nq7, nq8, nq9, nq10, nq11, nq20, nq24, nq27, nq30, nq40, nI_add, pk_sub, pk_mul, nq_div, nq_rem, nq_shl1, nq_shl2, nq_bit1, nq_bit0, nq_or, nq_and, nq_nd, ml_cl, nq_in, nq_le, nq_nle, nq_lt, nq_nlt, nq_eq, nq_ne, nq_eqT, Option.bind_some, Bool.false_eq_true, Bool.true_eq_false, ↓reduceIte, hm_many h h9]
    | succ t ih =>
      intro k f hk hf
      obtain ⟨f, rfl⟩ : ∃ z, f = z + 1 := ⟨f - 1, by omega⟩
      have hab := cu_ab h h9 (show k < cu_N n by omega)
      have b10 := hm_b10 h h9 (show k < cu_N n by omega)
      have mo := mv_ok (s := s) h h9 hr (show k < cu_N n by omega)
      have la := mc_lt (s := s) (r := r) (c := cu_a n k) (n := n) (by omega) hr
      have lb := mc_lt (s := s) (r := r) (c := cu_b n k) (n := n) (by omega) hr
      have hmy := mc_may (s := s) hr (cu_may h h9 (show k < cu_N n by omega))
      -- with the corners in place
      have T : ∀ u v : Nat, u < n → v < n → (if u + r < n then u + r else u + r - n) = mc n s r (cu_a n k) → (if v + r < n then v + r else v + r - n) = mc n s r (cu_b n k) → f_M_turned_b69 (f_M_turned_b6 f) (nI n) (nI cu) (nI r) (nI s) (nI (mw n s r cu k)) (nI k) (nI u) (nI v) m = f_M_turned_b6 f (nI n) (nI cu) (nI r) (nI s) (nI (mw n s r cu (k + 1))) (nI (k + 1)) m := by
        intro u v hu hv e1 e2
        unfold f_M_turned_b69 f_M_turned_b104
        rw [mw]
        by_cases hb : cu.testBit k = true
        · have hn : f_M_numberOf (nI n) (nI (mc n s r (cu_a n k))) (nI (mc n s r (cu_b n k))) m = some (nI (mv n s r k), m) := by
            rcases Nat.lt_or_ge (mc n s r (cu_a n k)) (mc n s r (cu_b n k)) with z | z
            · have e3 : mv n s r k = nb n (mc n s r (cu_a n k)) (mc n s r (cu_b n k)) := by unfold mv; rw [Nat.min_eq_left (by omega), Nat.max_eq_right (by omega)]
              rw [Nat.min_eq_left (by omega), Nat.max_eq_right (by omega)] at hmy
              rw [e3]; exact hm_num1 h h9 hmy m
            · have e3 : mv n s r k = nb n (mc n s r (cu_b n k)) (mc n s r (cu_a n k)) := by unfold mv; rw [Nat.min_eq_right (by omega), Nat.max_eq_left (by omega)]
              rw [Nat.min_eq_right (by omega), Nat.max_eq_left (by omega)] at hmy
              rw [e3]; exact hm_num2 h h9 hmy m
          rw [if_pos hb, nq_has1 (by omega) (by omega) hb, Option.bind_some, if_neg ne01, if_neg (show ¬ nI n = (0 : Int32) from fun z => by have := (nI_eq (b := 0) (by omega) (by omega)).mp z; omega), if_neg (show ¬ nI n = (0 : Int32) from fun z => by have := (nI_eq (b := 0) (by omega) (by omega)).mp z; omega), nI_add, nI_add, nq_rem (by omega) (by omega) (by omega), nq_rem (by omega) (by omega) (by omega), nq_md (by omega), nq_md (by omega), e1, e2, hn]
          simp (disch := omega) only [nq0, nq1, nq2, nq3, nq4, nq5, nq6, nq7, nq8, nq9, nq10, nq11, nq20, nq24, nq27, nq30, nq40, nI_add, pk_sub, pk_mul, nq_div, nq_rem, nq_shl1, nq_shl2, nq_bit1, nq_bit0, nq_or, nq_and, nq_nd, ml_cl, nq_in, nq_le, nq_nle, nq_lt, nq_nlt, nq_eq, nq_ne, nq_eqT, Option.bind_some, Bool.false_eq_true, Bool.true_eq_false, ↓reduceIte]
        · rw [if_neg hb, nq_has0 (by omega) (by omega) hb]
          simp (disch := omega) only [nq0, nq1, nq2, nq3, nq4, nq5, nq6, nq7, nq8, nq9, nq10, nq11, nq20, nq24, nq27, nq30, nq40, nI_add, pk_sub, pk_mul, nq_div, nq_rem, nq_shl1, nq_shl2, nq_bit1, nq_bit0, nq_or, nq_and, nq_nd, ml_cl, nq_in, nq_le, nq_nle, nq_lt, nq_nlt, nq_eq, nq_ne, nq_eqT, Option.bind_some, Bool.false_eq_true, Bool.true_eq_false, ↓reduceIte, Nat.or_zero]
      rw [f_M_turned_b6, ← ih (k + 1) f (by omega) (by omega)]
      unfold f_M_turned_b52
      rcases (show s = 0 ∨ s = 1 by omega) with rfl | rfl
      · simp (disch := omega) only [nq0, nq1, nq2, nq3, nq4, nq5, nq6, nq7, nq8, nq9, nq10, nq11, nq20, nq24, nq27, nq30, nq40, nI_add, pk_sub, pk_mul, nq_div, nq_rem, nq_shl1, nq_shl2, nq_bit1, nq_bit0, nq_or, nq_and, nq_nd, ml_cl, nq_in, nq_le, nq_nle, nq_lt, nq_nlt, nq_eq, nq_ne, nq_eqT, Option.bind_some, Bool.false_eq_true, Bool.true_eq_false, ↓reduceIte, hm_many h h9, hm_ends h h9, b10.1, b10.2.1]
        refine T (cu_a n k) (cu_b n k) (by omega) (by omega) ?_ ?_
        · unfold mc; simp only [if_true]
        · unfold mc; simp only [if_true]
      · simp (disch := omega) only [nq0, nq1, nq2, nq3, nq4, nq5, nq6, nq7, nq8, nq9, nq10, nq11, nq20, nq24, nq27, nq30, nq40, nI_add, pk_sub, pk_mul, nq_div, nq_rem, nq_shl1, nq_shl2, nq_bit1, nq_bit0, nq_or, nq_and, nq_nd, ml_cl, nq_in, nq_le, nq_nle, nq_lt, nq_nlt, nq_eq, nq_ne, nq_eqT, Option.bind_some, Bool.false_eq_true, Bool.true_eq_false, ↓reduceIte, hm_many h h9, hm_ends h h9, b10.1, b10.2.1]
        refine T (n - 1 - cu_a n k) (n - 1 - cu_b n k) (by omega) (by omega) ?_ ?_
        · unfold mc; simp only [show ¬ (1 : Nat) = 0 by decide, if_false]
        · unfold mc; simp only [show ¬ (1 : Nat) = 0 by decide, if_false]
  exact L (cu_N n) 0 am_F (by omega) (by show cu_N n < 5000; omega)
theorem pz_turn : ∀ a0 : Int32, am_Pz rl_All (f_C_turn a0) (f_M_turn a0) := by
  intro x m h
  have BAD : ∀ n, n ≤ 9 → m.1 13 2 = nI n → m.1 67 0 = nI n → ¬ ((1 : Int32) ≤ x ∧ x < nI n) → ∃ r m1 m2, f_C_turn x m = some (r, m1) ∧ f_M_turn x m1 = some (r, m2) ∧ rl_All m2 := by
    intro n h9 e1 e2 hx
    refine ⟨-1000001, m, m, ?_, ?_, h⟩
    · unfold f_C_turn
      by_cases z : x < 1
      · rw [if_pos z]
      · rw [if_neg z, e1, if_neg (fun w => hx ⟨ml_le_of_nlt z, w⟩)]
    · unfold f_M_turn
      rw [ml_in0 1 (m.1 67 0 - 1) 1 _ rfl rfl (fun q => hx ⟨q.1, by rw [e2] at q; exact (ml_le_pred (by omega) x).mp q.2⟩)]; rfl
  rcases plv_of h with ⟨hn, e1, e2⟩ | ⟨n, a, cu, kd, ow, H⟩
  · refine BAD 0 (by omega) hn.1 hn.2.2.1 (fun q => ?_)
    have q1 := q.1
    have q2 := q.2
    rw [fa_le] at q1
    rw [fa_lt, nI_toInt (by omega)] at q2
    have : (1 : Int32).toInt = 1 := rfl
    omega
  · obtain ⟨hok, hR, hF, hP⟩ := plv_vw H
    obtain ⟨h4, h9, hv, hk⟩ := hok
    by_cases hx : (1 : Int32) ≤ x ∧ x < nI n
    rotate_left
    · exact BAD n h9 hF.1 hP.1 hx
    obtain ⟨r, hr1, hr, rfl⟩ : ∃ r : Nat, 1 ≤ r ∧ r < n ∧ x = nI r := by
      have z1 := hx.1
      have z2 := hx.2
      rw [fa_le] at z1
      rw [fa_lt, nI_toInt (by omega)] at z2
      have o1 : (1 : Int32).toInt = 1 := rfl
      exact ⟨x.toInt.toNat, by omega, by omega, ml_of_toInt (by omega) (by omega)⟩
    have hcu := cu_V_lt h4 h9 hv
    have hv' := mw_V (s := 0) h4 h9 hr hv
    obtain ⟨m1, a1, a2, a3, a4, a5⟩ := act_cuts h H hv'
    obtain ⟨mk, b1, b2, b3, b4⟩ := a5 m1 (sm_r _)
    refine ⟨nI (mw n 0 r (cu a) (cu_N n)), m1, am_pI mk 67 1 (nI (mw n 0 r (cu a) (cu_N n))), ?_, ?_, b4⟩
    · unfold f_C_turn
      rw [if_neg (ml_nlt_of_le hx.1), hF.1, if_pos hx.2, hF.2.1, nq0, hc_mw h4 h9 hR hcu (by omega) hr, Option.bind_some, a1, Option.bind_some, a2]
    · unfold f_M_turn
      rw [a3, hP.1, ml_in1 1 (nI n - 1) 1 _ rfl rfl ⟨hx.1, (ml_le_pred (by omega) _).mpr hx.2⟩, Option.bind_some, if_neg ml_n10, b1, Option.bind_some, b2, nq0, hm_mw h4 h9 hcu (by omega) hr, Option.bind_some, ml_s]
theorem pz_mirror : am_Pz rl_All f_C_mirror f_M_mirror := by
  intro m h
  unfold f_C_mirror
  rcases plv_of h with ⟨hn, e1, e2⟩ | ⟨n, a, cu, kd, ow, H⟩
  · rw [hc_there hn.1 (by omega)]
    refine ⟨_, m, m, rfl, ?_, h⟩
    unfold f_M_mirror
    rw [hm_there hn.2.2.1 (by omega)]; rfl
  · obtain ⟨hok, hR, hF, hP⟩ := plv_vw H
    obtain ⟨h4, h9, hv, hk⟩ := hok
    have hcu := cu_V_lt h4 h9 hv
    have hv' := mw_V (s := 1) (r := 0) h4 h9 (by omega) hv
    obtain ⟨m1, a1, a2, a3, a4, a5⟩ := act_cuts h H hv'
    obtain ⟨mk, b1, b2, b3, b4⟩ := a5 m1 (sm_r _)
    refine ⟨nI (mw n 1 0 (cu a) (cu_N n)), m1, am_pI mk 67 1 (nI (mw n 1 0 (cu a) (cu_N n))), ?_, ?_, b4⟩
    · rw [hc_th1 hF.1 h4 h9, Option.bind_some, if_neg ne01, hF.2.1, nq1, nq0, hc_mw h4 h9 hR hcu (by omega) (by omega), Option.bind_some, a1, Option.bind_some, a2]
    · unfold f_M_mirror
      rw [hm_th1 (by rw [a3]; exact hP.1) h4 h9, Option.bind_some, if_neg ne01, b1, Option.bind_some, b2, b3, nq1, nq0, hm_mw h4 h9 hcu (by omega) (by omega), Option.bind_some, ml_s]
