/-! ===== cuts by number ===== -/
def go (n k : Nat) : Nat := if k = 0 then n - 3 else n - k - 2
def gs (n : Nat) : Nat → Nat
  | 0 => 0
  | k + 1 => gs n k + go n k
/-- a cut can be between a and b (a < b) -/
def may (n a b : Nat) : Bool := decide (a + 2 ≤ b) && decide (b < n) && !(decide (a = 0) && decide (b + 1 = n))
def nb (n a b : Nat) : Nat := b - a - 2 + gs n a
theorem may_iff {n a b : Nat} : may n a b = true ↔ a + 2 ≤ b ∧ b < n ∧ ¬ (a = 0 ∧ b + 1 = n) := by
  unfold may
  rw [Bool.and_eq_true, Bool.and_eq_true, Bool.not_eq_true', decide_eq_true_eq, decide_eq_true_eq, ← Bool.not_eq_true, Bool.and_eq_true, decide_eq_true_eq, decide_eq_true_eq, and_assoc]
theorem al {p : Nat → Bool} {n : Nat} (h : (List.range n).all p = true) {k : Nat} (hk : k < n) : p k = true := List.all_eq_true.mp h k (List.mem_range.mpr hk)
theorem cu_f1 : ∀ n, n < 10 → 4 ≤ n → cu_N n = n * (n - 3) / 2 ∧ cu_N n ≤ 27 ∧ 2 ≤ cu_N n ∧ ∀ i, i < cu_N n → cu_a n i + 2 ≤ cu_b n i ∧ cu_b n i < n ∧ ¬ (cu_a n i = 0 ∧ cu_b n i + 1 = n) ∧ nb n (cu_a n i) (cu_b n i) = i := by decide +kernel
theorem cu_g2 : ((List.range 10).all fun n => !decide (4 ≤ n) || (List.range n).all fun b => (List.range b).all fun a => !may n a b || decide (nb n a b < cu_N n ∧ cu_a n (nb n a b) = a ∧ cu_b n (nb n a b) = b)) = true := by decide +kernel
theorem cu_f2 {n a b : Nat} (h9 : n < 10) (h4 : 4 ≤ n) (hb : b < n) (ha : a < b) (hm : may n a b = true) : nb n a b < cu_N n ∧ cu_a n (nb n a b) = a ∧ cu_b n (nb n a b) = b := by
  have := al cu_g2 h9
  rw [decide_eq_true h4] at this
  have := al (al this hb) ha
  rw [hm] at this
  exact of_decide_eq_true this
theorem cu_g3 : ((List.range 10).all fun n => !decide (4 ≤ n) || (List.range (cu_N n)).all fun i => decide (gs n (cu_a n i) ≤ i ∧ cu_b n i = cu_a n i + 2 + (i - gs n (cu_a n i)) ∧ cu_a n i ≤ n - 3 ∧ (cu_a n i < n - 3 → i - gs n (cu_a n i) < go n (cu_a n i))) && (List.range (cu_a n i)).all fun k => decide (k < n - 3 ∧ gs n (k + 1) ≤ i)) = true := by decide +kernel
theorem cu_f3 {n i : Nat} (h9 : n < 10) (h4 : 4 ≤ n) (hi : i < cu_N n) : (gs n (cu_a n i) ≤ i ∧ cu_b n i = cu_a n i + 2 + (i - gs n (cu_a n i)) ∧ cu_a n i ≤ n - 3 ∧ (cu_a n i < n - 3 → i - gs n (cu_a n i) < go n (cu_a n i))) ∧ ∀ k, k < cu_a n i → k < n - 3 ∧ gs n (k + 1) ≤ i := by
  have := al cu_g3 h9
  rw [decide_eq_true h4] at this
  have := al this hi
  rw [Bool.and_eq_true] at this
  exact ⟨of_decide_eq_true this.1, fun k hk => of_decide_eq_true (al this.2 hk)⟩
theorem cu_g4 : ((List.range 10).all fun n => !decide (4 ≤ n) || (List.range n).all fun b => (List.range b).all fun a => !may n a b || decide (a = 0) || decide (a * (a - 1) / 2 ≤ (n - 3) + (a - 1) * (n - 2) ∧ nb n a b = (n - 3) + (a - 1) * (n - 2) - a * (a - 1) / 2 + b - a - 2 ∧ a + 2 ≤ (n - 3) + (a - 1) * (n - 2) - a * (a - 1) / 2 + b ∧ (n - 3) + (a - 1) * (n - 2) < 100)) = true := by decide +kernel
theorem cu_f4 {n a b : Nat} (h9 : n < 10) (h4 : 4 ≤ n) (hb : b < n) (ha : a < b) (hm : may n a b = true) (h0 : a ≠ 0) : a * (a - 1) / 2 ≤ (n - 3) + (a - 1) * (n - 2) ∧ nb n a b = (n - 3) + (a - 1) * (n - 2) - a * (a - 1) / 2 + b - a - 2 ∧ a + 2 ≤ (n - 3) + (a - 1) * (n - 2) - a * (a - 1) / 2 + b ∧ (n - 3) + (a - 1) * (n - 2) < 100 := by
  have := al cu_g4 h9
  rw [decide_eq_true h4] at this
  have := al (al this hb) ha
  rw [hm, decide_eq_false h0] at this
  exact of_decide_eq_true this
theorem cu_N27 {n : Nat} (h : 4 ≤ n) (h9 : n ≤ 9) : cu_N n ≤ 27 := (cu_f1 n (by omega) h).2.1
theorem cu_ab {n i : Nat} (h : 4 ≤ n) (h9 : n ≤ 9) (hi : i < cu_N n) : cu_a n i + 2 ≤ cu_b n i ∧ cu_b n i < n ∧ ¬ (cu_a n i = 0 ∧ cu_b n i + 1 = n) ∧ nb n (cu_a n i) (cu_b n i) = i := (cu_f1 n (by omega) h).2.2.2 i hi
theorem cu_may {n i : Nat} (h : 4 ≤ n) (h9 : n ≤ 9) (hi : i < cu_N n) : may n (cu_a n i) (cu_b n i) = true := by
  have := cu_ab h h9 hi
  exact may_iff.mpr ⟨this.1, this.2.1, this.2.2.1⟩
theorem cu_nb {n a b : Nat} (h : 4 ≤ n) (h9 : n ≤ 9) (hm : may n a b = true) : nb n a b < cu_N n ∧ cu_a n (nb n a b) = a ∧ cu_b n (nb n a b) = b := by
  have := may_iff.mp hm
  exact cu_f2 (by omega) h this.2.1 (by omega) hm
theorem cu_bits_s (n : Nat) (f : Nat → Bool) : cu_bits (n + 1) f = if f n then cu_bits n f + 2 ^ n else cu_bits n f := by
  unfold cu_bits
  rw [List.range_succ, List.foldl_append]
  rfl
theorem cu_bits_lt (f : Nat → Bool) : ∀ n, cu_bits n f < 2 ^ n
  | 0 => Nat.zero_lt_one
  | n + 1 => by
    have := cu_bits_lt f n
    rw [cu_bits_s, Nat.pow_succ]
    split <;> omega
theorem cu_bits_tb (f : Nat → Bool) (i : Nat) : ∀ n, (cu_bits n f).testBit i = (decide (i < n) && f i)
  | 0 => by
    have : cu_bits 0 f = 0 := rfl
    rw [this, Nat.zero_testBit]
    simp
  | n + 1 => by
    have h1 := cu_bits_lt f n
    have h2 := cu_bits_tb f i n
    rw [cu_bits_s]
    by_cases hf : f n = true
    · rw [if_pos hf, Nat.add_comm]
      rcases Nat.lt_trichotomy i n with h | h | h
      · rw [Nat.testBit_two_pow_add_gt h, h2]
        simp [h, Nat.lt_succ_of_lt h]
      · subst h
        rw [Nat.testBit_two_pow_add_eq, h2]
        simp [hf]
      · rw [Nat.testBit_lt_two_pow (Nat.lt_of_lt_of_le (show 2 ^ n + cu_bits n f < 2 ^ (n + 1) by rw [Nat.pow_succ]; omega) (Nat.pow_le_pow_right (by omega) h))]
        have : ¬ i < n + 1 := by omega
        simp [this]
    · rw [if_neg hf, h2]
      by_cases h : i = n
      · subst h; simp [hf]
      · have : (i < n + 1) ↔ i < n := by omega
        simp [this]
theorem cu_acr_tb {n i j : Nat} : (cu_acr n i).testBit j = (decide (j < cu_N n) && cu_x n i j) := cu_bits_tb _ _ _
theorem cu_tch_tb {n c j : Nat} : (cu_tch n c).testBit j = (decide (j < cu_N n) && (cu_a n j == c || cu_b n j == c)) := cu_bits_tb _ _ _
theorem cu_p27 {n : Nat} (h : 4 ≤ n) (h9 : n ≤ 9) : 2 ^ cu_N n ≤ 2 ^ 27 := Nat.pow_le_pow_right (by omega) (cu_N27 h h9)
theorem cu_acr_lt {n i : Nat} (h : 4 ≤ n) (h9 : n ≤ 9) : cu_acr n i < 2 ^ 27 := Nat.lt_of_lt_of_le (cu_bits_lt _ _) (cu_p27 h h9)
theorem cu_tch_lt {n i : Nat} (h : 4 ≤ n) (h9 : n ≤ 9) : cu_tch n i < 2 ^ 27 := Nat.lt_of_lt_of_le (cu_bits_lt _ _) (cu_p27 h h9)
theorem cu_V_lt {n cu : Nat} (h : 4 ≤ n) (h9 : n ≤ 9) (hv : cu_V n cu) : cu < 2 ^ 27 := Nat.lt_of_lt_of_le hv.1 (cu_p27 h h9)
/-- all cuts that don't cross, one by one -/
def cu_chk (X : Nat → Nat) (P : Nat → Bool) : Nat → Nat → Bool
  | 0, acc => P acc
  | k + 1, acc => (cu_chk X P k acc) && (bif Nat.beq (Nat.land acc (X k)) 0 then cu_chk X P k (Nat.add acc (Nat.pow 2 k)) else true)
theorem cu_all0 {n : Nat} {X : Nat → Nat} {P : Nat → Bool} (hX : ∀ k, k < cu_N n → X k = cu_acr n k) : ∀ k acc, k ≤ cu_N n → acc % 2 ^ k = 0 → cu_chk X P k acc = true → ∀ r, r < 2 ^ k → cu_V n (acc + r) → P (acc + r) = true := by
  intro k
  induction k with
  | zero =>
    intro acc _ _ h r hr _
    have : r = 0 := by simpa using hr
    subst this
    exact h
  | succ k ih =>
    intro acc hk hacc h r hr hv
    rw [cu_chk, Bool.and_eq_true] at h
    have h0 : acc % 2 ^ k = 0 := by
      rw [Nat.pow_succ] at hacc
      exact Nat.mod_eq_zero_of_dvd (Nat.dvd_trans ⟨2, rfl⟩ (Nat.dvd_of_mod_eq_zero hacc))
    rcases Nat.lt_or_ge r (2 ^ k) with hlt | hge
    · exact ih acc (by omega) h0 h.1 r hlt hv
    · have e : acc + r = acc + 2 ^ k + (r - 2 ^ k) := by omega
      rw [Nat.pow_succ] at hr
      have tk : (acc + r).testBit k = true := by
        obtain ⟨z, hz⟩ := Nat.dvd_of_mod_eq_zero hacc
        rw [e, show acc + 2 ^ k + (r - 2 ^ k) = 2 ^ k * (2 * z + 1) + (r - 2 ^ k) by rw [hz, Nat.pow_succ, Nat.mul_add, Nat.mul_assoc]; omega]
        rw [Nat.testBit_eq_decide_div_mod_eq, Nat.mul_add_div (Nat.two_pow_pos k), Nat.div_eq_of_lt (show r - 2 ^ k < 2 ^ k by omega)]
        simp
      have hb : Nat.beq (Nat.land acc (X k)) 0 = true := by
        rw [Nat.beq_eq]
        refine Nat.eq_of_testBit_eq fun j => ?_
        rw [Nat.zero_testBit, show Nat.land acc (X k) = acc &&& X k from rfl, Nat.testBit_and, hX k (by omega), cu_acr_tb]
        by_cases hj : acc.testBit j = true
        · have hjk : k + 1 ≤ j := by
            rcases Nat.lt_or_ge j (k + 1) with q | q
            · obtain ⟨z, hz⟩ := Nat.dvd_of_mod_eq_zero hacc
              rw [hz, Nat.mul_comm, Nat.testBit_mul_two_pow] at hj
              have : ¬ k + 1 ≤ j := by omega
              simp [this] at hj
            · exact q
          have tj : (acc + r).testBit j = true := by
            obtain ⟨z, hz⟩ := Nat.dvd_of_mod_eq_zero hacc
            rw [hz] at hj ⊢
            rw [Nat.testBit_two_pow_mul_add _ (by rw [Nat.pow_succ]; omega), if_neg (by omega)]
            rw [Nat.mul_comm, Nat.testBit_mul_two_pow] at hj
            simp [hjk] at hj
            exact hj
          by_cases hjN : j < cu_N n
          · rw [hv.2 k j (by omega) hjN tk tj]
            simp
          · simp [hjN]
        · simp [hj]
      rw [hb] at h
      have h2 : cu_chk X P k (acc + 2 ^ k) = true := h.2
      rw [e] at hv ⊢
      exact ih (acc + 2 ^ k) (by omega) (by rw [Nat.add_mod_right]; exact h0) h2 _ (by omega) hv
theorem cu_all {n cu : Nat} {X : Nat → Nat} {P : Nat → Bool} (hX : ∀ k, k < cu_N n → X k = cu_acr n k) (h : cu_chk X P (cu_N n) 0 = true) (hv : cu_V n cu) : P cu = true := by
  have := cu_all0 hX (cu_N n) 0 (Nat.le_refl _) (Nat.zero_mod _) h cu hv.1 (by rw [Nat.zero_add]; exact hv)
  rwa [Nat.zero_add] at this
