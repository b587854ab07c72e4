/-! ===== all cuts that don't cross, counted through; bits ===== -/
def tb_X (n : Nat) : Nat := bif Nat.beq n 4 then 134217730 else bif Nat.beq n 5 then 1947111329204115584631489054113804 else bif Nat.beq n 6 then 8846232523697936745362909614786357970378194803855869752932351082552 else bif Nat.beq n 7 then 12072976744509732892863490049480815177212406765588481687453005057881475761204790157487130285020696595006488816 else bif Nat.beq n 8 then 4510601123688777953722450912224298359603806622438760656178867824902201343269548255997600657927235540195754671125634119646588353471424360332317685593168043574240 else 452995162038812436924943576455635231531198207148476545524576292368001180649867011889203777398724008020021644293794012820410549179194625571763468534299242874690512620118863069333297808099847470716010798486021409190449088
def tb_x (n i : Nat) : Nat := Nat.mod (Nat.shiftRight (tb_X n) (Nat.mul 27 i)) 134217728
theorem tb_g : ((List.range 10).all fun n => !decide (4 ≤ n) || (List.range (cu_N n)).all fun k => tb_x n k == cu_acr n k) = true := by decide +kernel
theorem tb_e {n k : Nat} (h : 4 ≤ n) (h9 : n ≤ 9) (hk : k < cu_N n) : tb_x n k = cu_acr n k := by
  have := al tb_g (show n < 10 by omega)
  rw [decide_eq_true h] at this
  exact eq_of_beq (al this hk)
/-- what holds of all -/
theorem cu_each {P : Nat → Nat → Bool} (g : ((List.range 10).all fun n => bif Nat.ble 4 n then cu_chk (tb_x n) (P n) (cu_N n) 0 else true) = true) {n cu : Nat} (h : 4 ≤ n) (h9 : n ≤ 9) (hv : cu_V n cu) : P n cu = true := by
  have := al g (show n < 10 by omega)
  rw [show Nat.ble 4 n = true from Nat.ble_eq.mpr h] at this
  exact cu_all (fun k hk => tb_e h h9 hk) this hv
theorem bc_g : ((List.range 10).all fun n => bif Nat.ble 4 n then cu_chk (tb_x n) (fun x => Nat.beq (bc x) (pc x 27)) (cu_N n) 0 else true) = true := by decide +kernel
theorem bc_V {n cu : Nat} (h : 4 ≤ n) (h9 : n ≤ 9) (hv : cu_V n cu) : bc cu = pc cu 30 := by
  have := cu_each (P := fun _ x => Nat.beq (bc x) (pc x 27)) bc_g h h9 hv
  rw [pc_30 (n := 27) (by omega) (cu_V_lt h h9 hv)]
  exact Nat.eq_of_beq_eq_true this
theorem cu_V_sub {n cu s : Nat} (hv : cu_V n cu) (hs : ∀ i, s.testBit i = true → cu.testBit i = true) : cu_V n s := by
  refine ⟨?_, fun i j hi hj a b => hv.2 i j hi hj (hs i a) (hs j b)⟩
  apply Nat.lt_pow_two_of_testBit
  intro i hi
  by_cases q : s.testBit i = true
  · have := hs i q
    rw [Nat.testBit_lt_two_pow (Nat.lt_of_lt_of_le hv.1 (Nat.pow_le_pow_right (by omega) hi))] at this
    cases this
  · exact Bool.eq_false_iff.mpr q
theorem bits9 : ∀ x, x < 512 → bc x = pc x 30 := by decide +kernel
theorem pc_N {n cu : Nat} (h : 4 ≤ n) (h9 : n ≤ 9) (hv : cu_V n cu) : pc cu 30 = pc cu (cu_N n) := pc_30 (by have := cu_N27 h h9; omega) hv.1
theorem or_pow {x k : Nat} (h : x < 2 ^ k) : x ||| 2 ^ k = x + 2 ^ k := by
  have := Nat.two_pow_add_eq_or_of_lt h 1
  rw [Nat.mul_one] at this
  rw [Nat.or_comm, ← this, Nat.add_comm]
/-- the class: cuts at a corner -/
theorem hc_ca {n cu c : Nat} {m : am_Mm} (h : 4 ≤ n) (h9 : n ≤ 9) (hR : rl_Ring m.1 20 n) (hv : cu_V n cu) (hc : c < n) : f_Ring_cutsAt (nI cu) (nI c) m = some (nI (ca n cu c), m) := by
  obtain ⟨r1, r2, r3, r4⟩ := hR
  have hs : cu_V n (cu &&& cu_tch n c) := cu_V_sub hv fun i q => by rw [Nat.testBit_and, Bool.and_eq_true] at q; exact q.1
  have hlt := cu_V_lt h h9 hs
  have e : bc (cu &&& cu_tch n c) = ca n cu c := by rw [bc_V h h9 hs, pc_N h h9 hs, ca_pc h h9 hc]
  unfold f_Ring_cutsAt
  simp (disch := omega) only [nq0, nq1, nq2, nq3, nq4, nq5, nq6, nq7, nq8, nq9, nq10, nq11, nq20, nq24, nq27, nq30, nq40, nI_add, pk_sub, pk_mul, nq_div, nq_rem, nq_shl1, nq_shl2, nq_bit1, nq_bit0, nq_or, nq_and, nq_nd, ml_cl, nq_in, nq_le, nq_nle, nq_lt, nq_nlt, nq_eq, nq_ne, nq_eqT, Option.bind_some, Bool.false_eq_true, Bool.true_eq_false, ↓reduceIte, r1, r4, nq_bc, e]
theorem ca_lt {n cu c : Nat} : ca n cu c ≤ n := by
  unfold ca
  have := List.countP_le_length (p := fun d => lk n cu c d) (l := List.range n)
  rwa [List.length_range] at this
theorem hm_ca {n cu c p : Nat} {m : am_Mm} (h : 4 ≤ n) (h9 : n ≤ 9) (h0 : m.1 p 0 = nI n) (h1 : m.1 p 1 = nI cu) (hcu : cu < 2 ^ 27) (hc : c < n) : f_M_cutsAt p (nI c) m = some (nI (ca n cu c), m) := by
  have L : ∀ t k f, k + t = n → t < f → f_M_cutsAt_b5 f p (nI c) (nI ((List.range k).countP fun d => lk n cu c d)) (nI k) m = some (nI (ca n cu c), m) := by
    intro t
    induction t with
    | zero =>
      intro k f hk hf
      obtain ⟨f, rfl⟩ : ∃ z, f = z + 1 := ⟨f - 1, by omega⟩
      have hk : k = n := by omega
      subst hk
      rw [f_M_cutsAt_b5]
      simp (disch := omega) only [nq0, nq1, nq2, nq3, nq4, nq5, nq6, nq7, nq8, nq9, nq10, nq11, nq20, nq24, nq27, nq30, nq40, nI_add, pk_sub, pk_mul, nq_div, nq_rem, nq_shl1, nq_shl2, nq_bit1, nq_bit0, nq_or, nq_and, nq_nd, ml_cl, nq_in, nq_le, nq_nle, nq_lt, nq_nlt, nq_eq, nq_ne, nq_eqT, Option.bind_some, Bool.false_eq_true, Bool.true_eq_false, ↓reduceIte, h0]
      rfl
    | succ t ih =>
      intro k f hk hf
      obtain ⟨f, rfl⟩ : ∃ z, f = z + 1 := ⟨f - 1, by omega⟩
      rw [f_M_cutsAt_b5, ← ih (k + 1) f (by omega) (by omega), List.range_succ, List.countP_append, hm_link h h9 h0 h1 hcu hc (by omega)]
      by_cases hl : lk n cu c k = true
      · rw [if_pos hl]
        simp (disch := omega) only [nq0, nq1, nq2, nq3, nq4, nq5, nq6, nq7, nq8, nq9, nq10, nq11, nq20, nq24, nq27, nq30, nq40, nI_add, pk_sub, pk_mul, nq_div, nq_rem, nq_shl1, nq_shl2, nq_bit1, nq_bit0, nq_or, nq_and, nq_nd, ml_cl, nq_in, nq_le, nq_nle, nq_lt, nq_nlt, nq_eq, nq_ne, nq_eqT, Option.bind_some, Bool.false_eq_true, Bool.true_eq_false, ↓reduceIte, h0, f_M_cutsAt_b29]
        simp [hl]
      · rw [if_neg hl]
        simp (disch := omega) only [nq0, nq1, nq2, nq3, nq4, nq5, nq6, nq7, nq8, nq9, nq10, nq11, nq20, nq24, nq27, nq30, nq40, nI_add, pk_sub, pk_mul, nq_div, nq_rem, nq_shl1, nq_shl2, nq_bit1, nq_bit0, nq_or, nq_and, nq_nd, ml_cl, nq_in, nq_le, nq_nle, nq_lt, nq_nlt, nq_eq, nq_ne, nq_eqT, Option.bind_some, Bool.false_eq_true, Bool.true_eq_false, ↓reduceIte, h0, f_M_cutsAt_b29]
        simp [hl]
  exact L n 0 am_F (by omega) (by show n < 5000; omega)
/-- the other ends of the cuts at a corner -/
def en (n cu c : Nat) : Nat := cu_bits n fun d => lk n cu c d
theorem hm_en {n cu c : Nat} {m : am_Mm} (h : 4 ≤ n) (h9 : n ≤ 9) (h0 : m.1 67 0 = nI n) (h1 : m.1 67 1 = nI cu) (hcu : cu < 2 ^ 27) (hc : c < n) : f_M_linkedTo (nI c) m = some (nI (en n cu c), m) := by
  have L : ∀ t k f, k + t = n → t < f → f_M_linkedTo_b4 f (nI c) (nI (cu_bits k fun d => lk n cu c d)) (nI k) m = some (nI (en n cu c), m) := by
    intro t
    induction t with
    | zero =>
      intro k f hk hf
      obtain ⟨f, rfl⟩ : ∃ z, f = z + 1 := ⟨f - 1, by omega⟩
      have hk : k = n := by omega
      subst hk
      rw [f_M_linkedTo_b4]
      simp (disch := omega) only [nq0, nq1, nq2, nq3, nq4, nq5, nq6, nq7, nq8, nq9, nq10, nq11, nq20, nq24, nq27, nq30, nq40, nI_add, pk_sub, pk_mul, nq_div, nq_rem, nq_shl1, nq_shl2, nq_bit1, nq_bit0, nq_or, nq_and, nq_nd, ml_cl, nq_in, nq_le, nq_nle, nq_lt, nq_nlt, nq_eq, nq_ne, nq_eqT, Option.bind_some, Bool.false_eq_true, Bool.true_eq_false, ↓reduceIte, h0]
      rfl
    | succ t ih =>
      intro k f hk hf
      obtain ⟨f, rfl⟩ : ∃ z, f = z + 1 := ⟨f - 1, by omega⟩
      have hlt := cu_bits_lt (fun d => lk n cu c d) k
      rw [f_M_linkedTo_b4, ← ih (k + 1) f (by omega) (by omega), cu_bits_s, hm_link h h9 h0 h1 hcu hc (by omega)]
      by_cases hl : lk n cu c k = true
      · rw [if_pos hl, if_pos hl]
        simp (disch := omega) only [nq0, nq1, nq2, nq3, nq4, nq5, nq6, nq7, nq8, nq9, nq10, nq11, nq20, nq24, nq27, nq30, nq40, nI_add, pk_sub, pk_mul, nq_div, nq_rem, nq_shl1, nq_shl2, nq_bit1, nq_bit0, nq_or, nq_and, nq_nd, ml_cl, nq_in, nq_le, nq_nle, nq_lt, nq_nlt, nq_eq, nq_ne, nq_eqT, Option.bind_some, Bool.false_eq_true, Bool.true_eq_false, ↓reduceIte, h0, f_M_linkedTo_b28, or_pow hlt]
      · rw [if_neg hl, if_neg hl]
        simp (disch := omega) only [nq0, nq1, nq2, nq3, nq4, nq5, nq6, nq7, nq8, nq9, nq10, nq11, nq20, nq24, nq27, nq30, nq40, nI_add, pk_sub, pk_mul, nq_div, nq_rem, nq_shl1, nq_shl2, nq_bit1, nq_bit0, nq_or, nq_and, nq_nd, ml_cl, nq_in, nq_le, nq_nle, nq_lt, nq_nlt, nq_eq, nq_ne, nq_eqT, Option.bind_some, Bool.false_eq_true, Bool.true_eq_false, ↓reduceIte, h0, f_M_linkedTo_b28, Nat.or_zero]
  exact L n 0 am_F (by omega) (by show n < 5000; omega)
def es (n cu c : Nat) : Nat → Nat
  | 0 => 0
  | k + 1 => if cu.testBit k = true ∧ (cu_a n k = c ∨ cu_b n k = c) then es n cu c k ||| 2 ^ (cu_a n k + cu_b n k - c) else es n cu c k
theorem es_tb (n cu c d : Nat) : ∀ k, (es n cu c k).testBit d = true ↔ ∃ i, i < k ∧ cu.testBit i = true ∧ (cu_a n i = c ∨ cu_b n i = c) ∧ cu_a n i + cu_b n i - c = d
  | 0 => by rw [es, Nat.zero_testBit]; simp
  | k + 1 => by
    have ih := es_tb n cu c d k
    rw [es]
    by_cases q : cu.testBit k = true ∧ (cu_a n k = c ∨ cu_b n k = c)
    · rw [if_pos q, Nat.testBit_or, Bool.or_eq_true, ih, Nat.testBit_two_pow, decide_eq_true_eq]
      constructor
      · rintro (⟨i, a, b⟩ | e)
        · exact ⟨i, by omega, b⟩
        · exact ⟨k, by omega, q.1, q.2, e⟩
      · rintro ⟨i, a, b⟩
        by_cases z : i = k
        · subst z; exact Or.inr b.2.2
        · exact Or.inl ⟨i, by omega, b⟩
    · rw [if_neg q, ih]
      constructor
      · rintro ⟨i, a, b⟩
        exact ⟨i, by omega, b⟩
      · rintro ⟨i, a, b⟩
        by_cases z : i = k
        · subst z; exact absurd ⟨b.1, b.2.1⟩ q
        · exact ⟨i, by omega, b⟩
/-- a cut that is there by its number, and by its corners -/
theorem lk_ex {n cu c d : Nat} (h : 4 ≤ n) (h9 : n ≤ 9) : (lk n cu c d = true) ↔ ∃ i, i < cu_N n ∧ cu.testBit i = true ∧ ((cu_a n i = c ∧ cu_b n i = d) ∨ (cu_a n i = d ∧ cu_b n i = c)) := by
  constructor
  · intro q
    unfold lk at q
    by_cases hcd : c < d
    · rw [if_pos hcd, Bool.and_eq_true] at q
      have := cu_nb h h9 q.1
      exact ⟨nb n c d, this.1, q.2, Or.inl this.2⟩
    · rw [if_neg hcd, Bool.and_eq_true] at q
      have := cu_nb h h9 q.1
      exact ⟨nb n d c, this.1, q.2, Or.inr this.2⟩
  · rintro ⟨i, hi, hb, e⟩
    have hab := cu_ab h h9 hi
    have hm := cu_may h h9 hi
    unfold lk
    rcases e with ⟨rfl, rfl⟩ | ⟨rfl, rfl⟩
    · rw [if_pos (by omega), hm, hab.2.2.2, hb]; rfl
    · rw [if_neg (by omega), hm, hab.2.2.2, hb]; rfl
theorem lk_lt {n cu c d : Nat} (hl : lk n cu c d = true) : c < n ∧ d < n ∧ c ≠ d := by
  unfold lk at hl
  by_cases hcd : c < d
  · rw [if_pos hcd, Bool.and_eq_true] at hl
    have := may_iff.mp hl.1
    omega
  · rw [if_neg hcd, Bool.and_eq_true] at hl
    have := may_iff.mp hl.1
    omega
theorem es_en {n cu c : Nat} (h : 4 ≤ n) (h9 : n ≤ 9) : es n cu c (cu_N n) = en n cu c := by
  apply Nat.eq_of_testBit_eq
  intro d
  apply Bool.eq_iff_iff.mpr
  unfold en
  rw [es_tb, cu_bits_tb, Bool.and_eq_true, lk_ex h h9, decide_eq_true_eq]
  constructor
  · rintro ⟨i, a, b, e, f⟩
    have := cu_ab h h9 a
    exact ⟨by omega, i, a, b, by omega⟩
  · rintro ⟨_, i, a, b, e⟩
    exact ⟨i, a, b, by omega, by omega⟩
theorem hc_en {n cu c : Nat} {m : am_Mm} (h : 4 ≤ n) (h9 : n ≤ 9) (hR : rl_Ring m.1 20 n) (hcu : cu < 2 ^ 27) (hc : c < n) : f_Ring_endsOf (nI cu) (nI c) m = some (nI (en n cu c), m) := by
  obtain ⟨r1, r2, r3, r4⟩ := hR
  have h27 := cu_N27 h h9
  have ra : ∀ i, i < cu_N n → m.1 21 i = nI (cu_a n i) := fun i hi => (r3 i hi).1
  have rb : ∀ i, i < cu_N n → m.1 22 i = nI (cu_b n i) := fun i hi => (r3 i hi).2.1
  have L : ∀ t k f, k + t = cu_N n → t < f → f_Ring_endsOf_b5 f (nI cu) (nI c) (nI (es n cu c k)) (nI k) m = some (nI (en n cu c), m) := by
    intro t
    induction t with
    | zero =>
      intro k f hk hf
      obtain ⟨f, rfl⟩ : ∃ z, f = z + 1 := ⟨f - 1, by omega⟩
      have hk : k = cu_N n := by omega
      subst hk
      rw [f_Ring_endsOf_b5]
      simp (disch := omega) only [nq0, nq1, nq2, nq3, nq4, nq5, nq6, nq7, nq8, nq9, nq10, nq11, nq20, nq24, nq27, nq30, nq40, nI_add, pk_sub, pk_mul, nq_div, nq_rem, nq_shl1, nq_shl2, nq_bit1, nq_bit0, nq_or, nq_and, nq_nd, ml_cl, nq_in, nq_le, nq_nle, nq_lt, nq_nlt, nq_eq, nq_ne, nq_eqT, Option.bind_some, Bool.false_eq_true, Bool.true_eq_false, ↓reduceIte, r2, es_en h h9]
    | succ t ih =>
      intro k f hk hf
      obtain ⟨f, rfl⟩ : ∃ z, f = z + 1 := ⟨f - 1, by omega⟩
      have hab := cu_ab h h9 (show k < cu_N n by omega)
      rw [f_Ring_endsOf_b5, ← ih (k + 1) f (by omega) (by omega)]
      by_cases hb : cu.testBit k = true
      · by_cases q1 : cu_a n k = c
        · rw [show es n cu c (k + 1) = es n cu c k ||| 2 ^ (cu_a n k + cu_b n k - c) from if_pos ⟨hb, Or.inl q1⟩]
          simp (disch := omega) only [nq0, nq1, nq2, nq3, nq4, nq5, nq6, nq7, nq8, nq9, nq10, nq11, nq20, nq24, nq27, nq30, nq40, nI_add, pk_sub, pk_mul, nq_div, nq_rem, nq_shl1, nq_shl2, nq_bit1, nq_bit0, nq_or, nq_and, nq_nd, ml_cl, nq_in, nq_le, nq_nle, nq_lt, nq_nlt, nq_eq, nq_ne, nq_eqT, Option.bind_some, Bool.false_eq_true, Bool.true_eq_false, ↓reduceIte, r2, ra, rb, hb, f_Ring_endsOf_b46, f_Ring_endsOf_b68]
        · by_cases q2 : cu_b n k = c
          · rw [show es n cu c (k + 1) = es n cu c k ||| 2 ^ (cu_a n k + cu_b n k - c) from if_pos ⟨hb, Or.inr q2⟩]
            simp (disch := omega) only [nq0, nq1, nq2, nq3, nq4, nq5, nq6, nq7, nq8, nq9, nq10, nq11, nq20, nq24, nq27, nq30, nq40, nI_add, pk_sub, pk_mul, nq_div, nq_rem, nq_shl1, nq_shl2, nq_bit1, nq_bit0, nq_or, nq_and, nq_nd, ml_cl, nq_in, nq_le, nq_nle, nq_lt, nq_nlt, nq_eq, nq_ne, nq_eqT, Option.bind_some, Bool.false_eq_true, Bool.true_eq_false, ↓reduceIte, r2, ra, rb, hb, f_Ring_endsOf_b46, f_Ring_endsOf_b68]
          · rw [show es n cu c (k + 1) = es n cu c k from if_neg (fun z => by rcases z.2 with z | z <;> omega)]
            simp (disch := omega) only [nq0, nq1, nq2, nq3, nq4, nq5, nq6, nq7, nq8, nq9, nq10, nq11, nq20, nq24, nq27, nq30, nq40, nI_add, pk_sub, pk_mul, nq_div, nq_rem, nq_shl1, nq_shl2, nq_bit1, nq_bit0, nq_or, nq_and, nq_nd, ml_cl, nq_in, nq_le, nq_nle, nq_lt, nq_nlt, nq_eq, nq_ne, nq_eqT, Option.bind_some, Bool.false_eq_true, Bool.true_eq_false, ↓reduceIte, r2, ra, rb, hb, f_Ring_endsOf_b46, f_Ring_endsOf_b68]
      · rw [show es n cu c (k + 1) = es n cu c k from if_neg (fun z => hb z.1)]
        simp (disch := omega) only [nq0, nq1, nq2, nq3, nq4, nq5, nq6, nq7, nq8, nq9, nq10, nq11, nq20, nq24, nq27, nq30, nq40, nI_add, pk_sub, pk_mul, nq_div, nq_rem, nq_shl1, nq_shl2, nq_bit1, nq_bit0, nq_or, nq_and, nq_nd, ml_cl, nq_in, nq_le, nq_nle, nq_lt, nq_nlt, nq_eq, nq_ne, nq_eqT, Option.bind_some, Bool.false_eq_true, Bool.true_eq_false, ↓reduceIte, r2, hb, f_Ring_endsOf_b68]
  exact L (cu_N n) 0 am_F (by omega) (by show cu_N n < 5000; omega)

