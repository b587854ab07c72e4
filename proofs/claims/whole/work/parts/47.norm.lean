/-! ===== numbers as nI n: rows for simp ===== -/
theorem nq0 : (0 : Int32) = nI 0 := rfl
theorem nq1 : (1 : Int32) = nI 1 := rfl
theorem nq2 : (2 : Int32) = nI 2 := rfl
theorem nq3 : (3 : Int32) = nI 3 := rfl
theorem nq4 : (4 : Int32) = nI 4 := rfl
theorem nq5 : (5 : Int32) = nI 5 := rfl
theorem nq6 : (6 : Int32) = nI 6 := rfl
theorem nq7 : (7 : Int32) = nI 7 := rfl
theorem nq8 : (8 : Int32) = nI 8 := rfl
theorem nq9 : (9 : Int32) = nI 9 := rfl
theorem nq10 : (10 : Int32) = nI 10 := rfl
theorem nq11 : (11 : Int32) = nI 11 := rfl
theorem nq20 : (20 : Int32) = nI 20 := rfl
theorem nq24 : (24 : Int32) = nI 24 := rfl
theorem nq27 : (27 : Int32) = nI 27 := rfl
theorem nq30 : (30 : Int32) = nI 30 := rfl
theorem nq40 : (40 : Int32) = nI 40 := rfl
theorem nq_div {a d : Nat} (ha : a < 2 ^ 31) (h0 : 0 < d) (hd : d < 2 ^ 31) : nI a / nI d = nI (a / d) := pk_div ha h0 hd
theorem nq_rem {a d : Nat} (ha : a < 2 ^ 31) (h0 : 0 < d) (hd : d < 2 ^ 31) : am_rem (nI a) (nI d) = nI (a % d) := pk_rem ha h0 hd
theorem nq_sl : ∀ n, n < 32 → ((nI n &&& 31).toBitVec.smod 32).toNat = n := by decide
theorem nq_shl {a k : Nat} (hk : k < 32) (h : a * 2 ^ k < 2 ^ 32) : am_shl (nI a) (nI k) = nI (a * 2 ^ k) := pk_shlN _ k (nq_sl k hk) h
theorem nq_shl1 {k : Nat} (hk : k < 32) : am_shl (nI 1) (nI k) = nI (2 ^ k) := by
  have h : 2 ^ k < 2 ^ 32 := Nat.pow_lt_pow_right (by omega) hk
  rw [nq_shl hk (by omega), Nat.one_mul]
theorem nq_shl2 {k : Nat} (hk : k < 31) : am_shl (nI 2) (nI k) = nI (2 ^ (k + 1)) := by
  have h : 2 ^ (k + 1) < 2 ^ 32 := Nat.pow_lt_pow_right (by omega) (by omega)
  rw [Nat.pow_succ] at *
  rw [nq_shl (by omega) (by omega), Nat.mul_comm]
theorem nq_shr {a k : Nat} (ha : a < 2 ^ 31) (hk : k < 32) : am_shr (nI a) (nI k) = nI (a / 2 ^ k) := pk_shrN ha _ k (nq_sl k hk)
theorem nq_and (a b : Nat) : nI a &&& nI b = nI (a &&& b) := fa_and a b
theorem nq_or (a b : Nat) : nI a ||| nI b = nI (a ||| b) := fa_or a b
theorem nq_tb (a k : Nat) : (a / 2 ^ k) &&& 1 = if a.testBit k then 1 else 0 := by
  rw [Nat.testBit_eq_decide_div_mod_eq, Nat.and_one_is_mod]
  have := Nat.mod_two_eq_zero_or_one (a / 2 ^ k)
  by_cases h : a / 2 ^ k % 2 = 1
  · simp [h]
  · simp [h]; omega
theorem nq_sa {a k : Nat} (ha : a < 2 ^ 31) (hk : k < 32) : (am_shr (nI a) (nI k)) &&& nI 1 = nI (if a.testBit k then 1 else 0) := by
  rw [nq_shr ha hk, nq_and, nq_tb]
theorem nq_bit1 {a k : Nat} (ha : a < 2 ^ 31) (hk : k < 32) : ((am_shr (nI a) (nI k)) &&& nI 1 = nI 1) = (a.testBit k = true) := by
  rw [nq_sa ha hk]
  by_cases h : a.testBit k = true
  · simp [h]
  · simp [h]; decide
theorem nq_bit0 {a k : Nat} (ha : a < 2 ^ 31) (hk : k < 32) : ((am_shr (nI a) (nI k)) &&& nI 1 = nI 0) = (a.testBit k = false) := by
  rw [nq_sa ha hk]
  by_cases h : a.testBit k = true
  · simp [h]; decide
  · simp [h]
/-- without the bits of another -/
def nd (a b : Nat) : Nat := a ^^^ (a &&& b)
theorem nd_tb (a b i : Nat) : (nd a b).testBit i = (a.testBit i && !b.testBit i) := by
  unfold nd
  rw [Nat.testBit_xor, Nat.testBit_and]
  cases a.testBit i <;> cases b.testBit i <;> rfl
theorem nq_nd (a b : Nat) : nI a &&& (nI b ^^^ (-nI 1)) = nI (nd a b) := by
  have e : ∀ x y : BitVec 32, x &&& (y ^^^ (-1#32)) = x ^^^ (x &&& y) := by
    intro x y
    apply BitVec.eq_of_getLsbD_eq
    intro i hi
    rw [show (-1#32 : BitVec 32) = BitVec.allOnes 32 from rfl, BitVec.getLsbD_and, BitVec.getLsbD_xor, BitVec.getLsbD_xor, BitVec.getLsbD_and, BitVec.getLsbD_allOnes]
    cases x.getLsbD i <;> cases y.getLsbD i <;> simp [hi]
  have e2 : ∀ x y : Int32, x &&& (y ^^^ (-nI 1)) = x ^^^ (x &&& y) := by
    intro x y
    apply Int32.toBitVec_inj.mp
    rw [Int32.toBitVec_and, Int32.toBitVec_xor, Int32.toBitVec_xor, Int32.toBitVec_and]
    exact e _ _
  rw [e2, nq_and, fb_xorI]
  rfl
theorem nq_in {k n : Nat} (h : k < n) (hn : n < 2 ^ 31) : (am_in (nI k) n = true) = True := eq_true (am_in_nI h hn)
theorem nq_le {a b : Nat} (h : a ≤ b) (hb : b < 2 ^ 31) : (nI a ≤ nI b) = True := eq_true (nI_le h hb)
theorem nq_nle {a b : Nat} (h : a < b) (hb : b < 2 ^ 31) : (nI b ≤ nI a) = False := eq_false (nI_ge h hb)
theorem nq_lt {a b : Nat} (h : a < b) (hb : b < 2 ^ 31) : (nI a < nI b) = True := eq_true (nI_lt h hb)
theorem nq_nlt {a b : Nat} (h : b ≤ a) (hb : a < 2 ^ 31) : (nI a < nI b) = False := eq_false (nI_nlt h hb)
theorem nq_eq {a b : Nat} (h : a = b) : (nI a = nI b) = True := by rw [h]; exact eq_self _
theorem nq_eqT {a : Nat} : (nI a = nI a) = True := eq_self _
theorem nq_ne {a b : Nat} (h : a ≠ b) (ha : a < 2 ^ 31) (hb : b < 2 ^ 31) : (nI a = nI b) = False := eq_false (fun q => h ((nI_eq ha hb).mp q))
theorem nq_leI {a b : Nat} (ha : a < 2 ^ 31) (hb : b < 2 ^ 31) : (nI a ≤ nI b) = (a ≤ b) := propext (nI_leI ha hb)
theorem nq_ltI {a b : Nat} (ha : a < 2 ^ 31) (hb : b < 2 ^ 31) : (nI a < nI b) = (a < b) := propext (nI_ltI ha hb)
theorem nq_eqI {a b : Nat} (ha : a < 2 ^ 31) (hb : b < 2 ^ 31) : (nI a = nI b) = (a = b) := propext (nI_eq ha hb)
/-! ===== bits counted ===== -/
def bc0 (x : Nat) : Nat := Nat.sub x (Nat.land (Nat.div x 2) 1431655765)
def bc1 (x : Nat) : Nat := Nat.add (Nat.land x 858993459) (Nat.land (Nat.div x 4) 858993459)
def bc2 (x : Nat) : Nat := Nat.land (Nat.add x (Nat.div x 16)) 252645135
def bc3 (x : Nat) : Nat := Nat.add x (Nat.div x 256)
def bc4 (x : Nat) : Nat := Nat.land (Nat.add x (Nat.div x 65536)) 63
def bc (x : Nat) : Nat := bc4 (bc3 (bc2 (bc1 (bc0 x))))
theorem nq_ul : ∀ n, n < 32 → (((nI n).toUInt32 &&& Int32.toUInt32 31).toBitVec % 32).toNat = n := by decide
theorem nq_ushr {a k : Nat} (ha : a < 2 ^ 32) (hk : k < 32) : am_ushr (nI a) (nI k) = nI (a / 2 ^ k) := pk_ushrN ha _ k (nq_ul k hk)
theorem nq_bc {x : Nat} (hx : x < 2 ^ 31) (m : am_Mm) : f_Integer_bitCount (nI x) m = some (nI (bc x), m) := by
  unfold f_Integer_bitCount f_Integer_bitCount_b10 f_Integer_bitCount_b24 f_Integer_bitCount_b34 f_Integer_bitCount_b41 f_Integer_bitCount_b48
  have a0 : nI x - ((am_ushr (nI x) (1 : Int32)) &&& (1431655765 : Int32)) = nI (bc0 x) := by
    rw [show (1431655765 : Int32) = nI 1431655765 from rfl, nq1, nq_ushr (by omega) (by omega), nq_and, pk_sub]
    · rfl
    · exact Nat.le_trans Nat.and_le_left (Nat.div_le_self _ _)
  have b0 : bc0 x < 2 ^ 31 := Nat.lt_of_le_of_lt (Nat.sub_le _ _) hx
  have a1 : (nI (bc0 x) &&& (858993459 : Int32)) + ((am_ushr (nI (bc0 x)) (2 : Int32)) &&& (858993459 : Int32)) = nI (bc1 (bc0 x)) := by
    rw [show (858993459 : Int32) = nI 858993459 from rfl, nq2, nq_ushr (by omega) (by omega), nq_and, nq_and, nI_add]
    rfl
  have b1 : bc1 (bc0 x) ≤ 858993459 + 858993459 := Nat.add_le_add Nat.and_le_right Nat.and_le_right
  have a2 : (nI (bc1 (bc0 x)) + (am_ushr (nI (bc1 (bc0 x))) (4 : Int32))) &&& (252645135 : Int32) = nI (bc2 (bc1 (bc0 x))) := by
    rw [show (252645135 : Int32) = nI 252645135 from rfl, nq4, nq_ushr (by omega) (by omega), nI_add, nq_and]
    rfl
  have b2 : bc2 (bc1 (bc0 x)) ≤ 252645135 := Nat.and_le_right
  have a3 : nI (bc2 (bc1 (bc0 x))) + (am_ushr (nI (bc2 (bc1 (bc0 x)))) (8 : Int32)) = nI (bc3 (bc2 (bc1 (bc0 x)))) := by
    rw [nq8, nq_ushr (by omega) (by omega), nI_add]
    rfl
  have b3 : bc3 (bc2 (bc1 (bc0 x))) ≤ 252645135 + 252645135 := Nat.add_le_add b2 (Nat.le_trans (Nat.div_le_self _ _) b2)
  have a4 : (nI (bc3 (bc2 (bc1 (bc0 x)))) + (am_ushr (nI (bc3 (bc2 (bc1 (bc0 x))))) (16 : Int32))) &&& (63 : Int32) = nI (bc x) := by
    rw [show (16 : Int32) = nI 16 from rfl, show (63 : Int32) = nI 63 from rfl, nq_ushr (by omega) (by omega), nI_add, nq_and]
    rfl
  rw [a0, a1, a2, a3, a4]
def pc (x n : Nat) : Nat := Nat.rec (motive := fun _ => Nat) 0 (fun k ih => Nat.add ih (Nat.mod (Nat.shiftRight x k) 2)) n
theorem pc_s (x n : Nat) : pc x (n + 1) = pc x n + (if x.testBit n then 1 else 0) := by
  show pc x n + (x >>> n) % 2 = _
  congr 1
  rw [Nat.shiftRight_eq_div_pow, ← Nat.and_one_is_mod, nq_tb]
theorem pc_le (x : Nat) : ∀ n, pc x n ≤ n
  | 0 => Nat.le_refl 0
  | n + 1 => by
    have := pc_le x n
    rw [pc_s]
    split <;> omega
theorem nq_has {x k : Nat} (hx : x < 2 ^ 31) (hk : k < 32) (m : am_Mm) : f_M_has (nI x) (nI k) m = some (nI (if x.testBit k then 1 else 0), m) := by
  unfold f_M_has
  rw [nq1, nq0]
  simp only [nq_bit1 hx hk]
  by_cases h : x.testBit k = true
  · rw [if_pos h, if_pos h]
  · rw [if_neg h, if_neg h]
theorem nq_has1 {x k : Nat} (hx : x < 2 ^ 31) (hk : k < 32) (h : x.testBit k = true) (m : am_Mm) : f_M_has (nI x) (nI k) m = some (nI 1, m) := by rw [nq_has hx hk, if_pos h]
theorem nq_has0 {x k : Nat} (hx : x < 2 ^ 31) (hk : k < 32) (h : ¬ x.testBit k = true) (m : am_Mm) : f_M_has (nI x) (nI k) m = some (nI 0, m) := by rw [nq_has hx hk, if_neg h]
theorem nq_size {x : Nat} (hx : x < 2 ^ 31) (m : am_Mm) : f_M_sizeOf (nI x) m = some (nI (pc x 30), m) := by
  have L : ∀ t k n, k + t = 30 → t < n → f_M_sizeOf_b4 n (nI x) (nI (pc x k)) (nI k) m = some (nI (pc x 30), m) := by
    intro t
    induction t with
    | zero =>
      intro k n hk hn
      obtain ⟨n, rfl⟩ : ∃ z, n = z + 1 := ⟨n - 1, by omega⟩
      have hk : k = 30 := by omega
      subst hk
      rw [f_M_sizeOf_b4]
      simp (disch := omega) only [nq0, nq1, nq2, nq3, nq4, nq5, nq6, nq7, nq8, nq9, nq10, nq11, nq20, nq24, nq27, nq30, nq40, nI_add, pk_sub, pk_mul, nq_div, nq_rem, nq_shl1, nq_shl2, nq_bit1, nq_bit0, nq_or, nq_and, nq_nd, ml_cl, nq_in, nq_le, nq_nle, nq_lt, nq_nlt, nq_eq, nq_ne, nq_eqT, Option.bind_some, ↓reduceIte]
    | succ t ih =>
      intro k n hk hn
      obtain ⟨n, rfl⟩ : ∃ z, n = z + 1 := ⟨n - 1, by omega⟩
      have hp := pc_le x k
      rw [f_M_sizeOf_b4]
      rw [← ih (k + 1) n (by omega) (by omega), pc_s]
      by_cases h : x.testBit k = true
      · rw [nq_has1 hx (by omega) h, if_pos h]
        simp (disch := omega) only [nq0, nq1, nq2, nq3, nq4, nq5, nq6, nq7, nq8, nq9, nq10, nq11, nq20, nq24, nq27, nq30, nq40, nI_add, pk_sub, pk_mul, nq_div, nq_rem, nq_shl1, nq_shl2, nq_bit1, nq_bit0, nq_or, nq_and, nq_nd, ml_cl, nq_in, nq_le, nq_nle, nq_lt, nq_nlt, nq_eq, nq_ne, nq_eqT, Option.bind_some, ↓reduceIte, f_M_sizeOf_b24]
      · rw [nq_has0 hx (by omega) h, if_neg h]
        simp (disch := omega) only [nq0, nq1, nq2, nq3, nq4, nq5, nq6, nq7, nq8, nq9, nq10, nq11, nq20, nq24, nq27, nq30, nq40, nI_add, pk_sub, pk_mul, nq_div, nq_rem, nq_shl1, nq_shl2, nq_bit1, nq_bit0, nq_or, nq_and, nq_nd, ml_cl, nq_in, nq_le, nq_nle, nq_lt, nq_nlt, nq_eq, nq_ne, nq_eqT, Option.bind_some, ↓reduceIte, f_M_sizeOf_b24]
  exact L 30 0 am_F rfl (by show 30 < 5000; omega)
