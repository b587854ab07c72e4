/-! ===== as, ask, count, sets ===== -/
theorem e00 : nI 0 = (0 : Int32) := rfl
theorem e11 : nI 1 = (1 : Int32) := rfl
theorem ml_isOf {k y : Nat} (hk : 1 ≤ k) (hk5 : k ≤ 5) (hy : y ≤ 5) : ∃ b : Nat, (b = 0 ∨ b = 1) ∧ (∀ m, f_C_isOf (nI k) (nI y) m = some (nI b, m)) ∧ ∀ m, f_M_isOf (nI k) (nI y) m = some (nI b, m) := by
  rcases (show k = 1 ∨ k = 2 ∨ k = 3 ∨ k = 4 ∨ k = 5 by omega) with rfl | rfl | rfl | rfl | rfl <;> rcases (show y = 0 ∨ y = 1 ∨ y = 2 ∨ y = 3 ∨ y = 4 ∨ y = 5 by omega) with rfl | rfl | rfl | rfl | rfl | rfl <;>
    first
    | (refine ⟨1, Or.inr rfl, ?_, ?_⟩ <;> intro m <;> first | (unfold f_C_isOf; simp (disch := omega) only [nq0, nq1, nq2, nq3, nq4, nq5, nq6, nq7, nq8, nq9, nq10, nq11, nq20, nq24, nq27, nq30, nq40, nI_add, pk_sub, pk_mul, nq_div, nq_rem, nq_shl1, nq_shl2, nq_bit1, nq_bit0, nq_or, nq_and, nq_nd, ml_cl, nq_in, nq_le, nq_nle, nq_lt, nq_nlt, nq_eq, nq_ne, nq_eqT, Option.bind_some, Bool.false_eq_true, Bool.true_eq_false, ↓reduceIte]; done) | (unfold f_M_isOf f_M_isOf_b19; simp (disch := omega) only [nq0, nq1, nq2, nq3, nq4, nq5, nq6, nq7, nq8, nq9, nq10, nq11, nq20, nq24, nq27, nq30, nq40, nI_add, pk_sub, pk_mul, nq_div, nq_rem, nq_shl1, nq_shl2, nq_bit1, nq_bit0, nq_or, nq_and, nq_nd, ml_cl, nq_in, nq_le, nq_nle, nq_lt, nq_nlt, nq_eq, nq_ne, nq_eqT, Option.bind_some, Bool.false_eq_true, Bool.true_eq_false, ↓reduceIte]; done))
    | (refine ⟨0, Or.inl rfl, ?_, ?_⟩ <;> intro m <;> first | (unfold f_C_isOf; simp (disch := omega) only [nq0, nq1, nq2, nq3, nq4, nq5, nq6, nq7, nq8, nq9, nq10, nq11, nq20, nq24, nq27, nq30, nq40, nI_add, pk_sub, pk_mul, nq_div, nq_rem, nq_shl1, nq_shl2, nq_bit1, nq_bit0, nq_or, nq_and, nq_nd, ml_cl, nq_in, nq_le, nq_nle, nq_lt, nq_nlt, nq_eq, nq_ne, nq_eqT, Option.bind_some, Bool.false_eq_true, Bool.true_eq_false, ↓reduceIte]; done) | (unfold f_M_isOf f_M_isOf_b19; simp (disch := omega) only [nq0, nq1, nq2, nq3, nq4, nq5, nq6, nq7, nq8, nq9, nq10, nq11, nq20, nq24, nq27, nq30, nq40, nI_add, pk_sub, pk_mul, nq_div, nq_rem, nq_shl1, nq_shl2, nq_bit1, nq_bit0, nq_or, nq_and, nq_nd, ml_cl, nq_in, nq_le, nq_nle, nq_lt, nq_nlt, nq_eq, nq_ne, nq_eqT, Option.bind_some, Bool.false_eq_true, Bool.true_eq_false, ↓reduceIte]; done))
theorem pz_as : ∀ a0 a1 : Int32, am_Pz rl_All (f_C_as a0 a1) (f_M_as a0 a1) := by
  intro x y m h
  unfold f_C_as
  rcases vw_of h with hn | ⟨n, cu, kd, ow, hok, hR, hF, hP⟩
  · rcases isC (Nat.zero_le 9) x with q | ⟨c, hc, _⟩
    · rw [q.1 m hn.1]
      refine ⟨_, m, m, rfl, ?_, h⟩
      unfold f_M_as
      rw [q.2 m hn.2.2.1]; rfl
    · omega
  · obtain ⟨h4, h9, hv, hk⟩ := hok
    rcases isC h9 x with q | ⟨c, hc, rfl, q1, q2⟩
    · rw [q.1 m hF.1]
      refine ⟨_, m, m, rfl, ?_, h⟩
      unfold f_M_as
      rw [q.2 m hP.1]; rfl
    · rw [q1 m hF.1, Option.bind_some, if_neg ne01]
      by_cases y1 : (0 : Int32) ≤ y ∧ y ≤ 5
      rotate_left
      · refine ⟨-1000001, m, m, ?_, ?_, h⟩
        · by_cases z : y < 0
          · rw [if_pos z]
          · rw [if_neg z, if_neg (fun w => y1 ⟨ml_le_of_nlt z, w⟩)]
        · unfold f_M_as
          rw [q2 m hP.1, Option.bind_some, if_neg ne01, ml_in0 0 5 0 5 rfl rfl y1]; rfl
      obtain ⟨k, hk5, rfl⟩ : ∃ k : Nat, k ≤ 5 ∧ y = nI k := by
        have z1 := y1.1
        have z2 := y1.2
        rw [Int32.le_iff_toInt_le] at z1 z2
        have o1 : (0 : Int32).toInt = 0 := rfl
        have o5 : (5 : Int32).toInt = 5 := rfl
        exact ⟨y.toInt.toNat, by omega, ml_of_toInt (by omega) (by omega)⟩
      have kc := hk c hc
      obtain ⟨b, hb, b1, b2⟩ := ml_isOf kc.1 kc.2.1 hk5
      have M : ∀ mm : am_Mm, mm.1 67 0 = nI n → rl_Pol mm.1 67 0 n cu kd ow → f_M_as (nI c) (nI k) mm = if nI b = (0 : Int32) then (f_M_finding (3 : Int32) (am_pI mm 63 0 (0 : Int32))).bind fun q18 => some (q18.1, q18.2) else some (nI c, (am_pI mm 63 0 (0 : Int32))) := by
        intro mm z zP
        unfold f_M_as
        rw [q2 mm z, Option.bind_some, if_neg ne01, ml_in1 0 5 0 5 rfl rfl y1, Option.bind_some, if_neg ml_n10, hm_kd h9 (rl_Pol_c h9 (fun j _ => ml_o _ _ (by omega)) zP) hc, Option.bind_some, b2, Option.bind_some]
      have C : (if nI k < (0 : Int32) then some ((-1000001 : Int32), m) else if nI k ≤ (5 : Int32) then if am_in (nI c) 9 = true then (f_C_isOf (m.1 14 (nI c).toNatClampNeg) (nI k) m).bind fun q10 => if q10.1 = (0 : Int32) then (f_C_found (3 : Int32) q10.2).bind fun q14 => some (q14.1, q14.2) else (f_C_fine (nI c) q10.2).bind fun q17 => some (q17.1, q17.2) else none else some ((-1000001 : Int32), m)) = if nI b = (0 : Int32) then (f_C_found (3 : Int32) m).bind fun q14 => some (q14.1, q14.2) else (f_C_fine (nI c) m).bind fun q17 => some (q17.1, q17.2) := by
        rw [if_neg (nI_pos (by omega)), if_pos y1.2, if_pos (am_in_nI (by omega) (by omega)), ml_cl (by omega), (hF.2.2 c hc).1, b1, Option.bind_some]
      have e67 : ∀ (x : Int32) (j : Nat), (am_pI m 0 12 x).1 67 j = m.1 67 j := fun x j => ml_o _ _ (by omega)
      rcases hb with rfl | rfl
      · refine ⟨-1000010 - 3, am_pI m 0 12 3, am_pI (am_pI (am_pI m 0 12 3) 63 0 0) 63 0 3, ?_, ?_, ?_⟩
        · refine C.trans ?_
          rw [if_pos e00]; rfl
        · rw [M _ (by rw [e67]; exact hP.1) (rl_Pol_c h9 (fun j _ => e67 _ _) hP), if_pos e00]; rfl
        · rw [ml_pp]; exact rl_All_stat h 3
      · refine ⟨nI c, am_pI m 0 12 0, am_pI (am_pI m 0 12 0) 63 0 0, ?_, ?_, ?_⟩
        · refine C.trans ?_
          rw [if_neg ne01]; rfl
        · rw [M _ (by rw [e67]; exact hP.1) (rl_Pol_c h9 (fun j _ => e67 _ _) hP), if_neg ne01]
        · exact rl_All_stat h 0
/-! asks -/
abbrev Tr : Type := Nat × (Nat → Int32)
def bg (x : Int32) (t : Tr) : Tr := (t.1 + 1, upd t.2 t.1 x)
def tC (m0 m : am_Mm) (t : Tr) : Prop := m.1 38 1 = nI t.1 ∧ (∀ k, k < t.1 → m.1 39 k = t.2 k) ∧ ∀ p k, ¬ (p = 38 ∧ k = 1) → p ≠ 39 → m.1 p k = m0.1 p k
def tM (m0 m : am_Mm) (t : Tr) : Prop := m.1 63 25 = nI t.1 ∧ (∀ k, k < t.1 → m.1 77 k = t.2 k) ∧ ∀ p k, ¬ (p = 63 ∧ k = 25) → p ≠ 77 → m.1 p k = m0.1 p k
theorem upd_s (f : Nat → Int32) (i : Nat) (x : Int32) : upd f i x i = x := by unfold upd; simp
theorem upd_o (f : Nat → Int32) {i k : Nat} (x : Int32) (h : k ≠ i) : upd f i x k = f k := by unfold upd; simp [h]
theorem tC_b {m0 m : am_Mm} {t : Tr} (h : tC m0 m t) (hl : t.1 < 16) (x : Int32) : ∃ m', f_Asks_begins x m = some m' ∧ tC m0 m' (bg x t) := by
  refine ⟨am_pI (am_pI m 39 t.1 x) 38 1 (nI (t.1 + 1)), ?_, ml_s _ _ _ _, fun k hk => ?_, fun p k q1 q2 => ?_⟩
  · unfold f_Asks_begins
    simp (disch := omega) only [nq0, nq1, nq2, nq3, nq4, nq5, nq6, nq7, nq8, nq9, nq10, nq11, nq20, nq24, nq27, nq30, nq40, nI_add, pk_sub, pk_mul, nq_div, nq_rem, nq_shl1, nq_shl2, nq_bit1, nq_bit0, nq_or, nq_and, nq_nd, ml_cl, nq_in, nq_le, nq_nle, nq_lt, nq_nlt, nq_eq, nq_ne, nq_eqT, Option.bind_some, Bool.false_eq_true, Bool.true_eq_false, ↓reduceIte, h.1, ml_o, show (16 : Int32) = nI 16 from rfl]
  · have hk : k < t.1 + 1 := hk
    rw [ml_o _ _ (by omega)]
    show _ = upd t.2 t.1 x k
    by_cases z : k = t.1
    · subst z; rw [ml_s, upd_s]
    · rw [ml_o _ _ (by omega), upd_o _ _ z]; exact h.2.1 k (by omega)
  · rw [ml_o _ _ q1, ml_o _ _ (by omega)]; exact h.2.2 p k q1 q2
theorem tM_b {m0 m : am_Mm} {t : Tr} (h : tM m0 m t) (hl : t.1 < 16) (x : Int32) : ∃ m', f_M_began x m = some m' ∧ tM m0 m' (bg x t) := by
  refine ⟨am_pI (am_pI m 77 t.1 x) 63 25 (nI (t.1 + 1)), ?_, ml_s _ _ _ _, fun k hk => ?_, fun p k q1 q2 => ?_⟩
  · unfold f_M_began
    simp (disch := omega) only [nq0, nq1, nq2, nq3, nq4, nq5, nq6, nq7, nq8, nq9, nq10, nq11, nq20, nq24, nq27, nq30, nq40, nI_add, pk_sub, pk_mul, nq_div, nq_rem, nq_shl1, nq_shl2, nq_bit1, nq_bit0, nq_or, nq_and, nq_nd, ml_cl, nq_in, nq_le, nq_nle, nq_lt, nq_nlt, nq_eq, nq_ne, nq_eqT, Option.bind_some, Bool.false_eq_true, Bool.true_eq_false, ↓reduceIte, h.1, ml_o, show (16 : Int32) = nI 16 from rfl]
  · have hk : k < t.1 + 1 := hk
    rw [ml_o _ _ (by omega)]
    show _ = upd t.2 t.1 x k
    by_cases z : k = t.1
    · subst z; rw [ml_s, upd_s]
    · rw [ml_o _ _ (by omega), upd_o _ _ z]; exact h.2.1 k (by omega)
  · rw [ml_o _ _ q1, ml_o _ _ (by omega)]; exact h.2.2 p k q1 q2
def mpT (k : Nat) (s u : Int32) (t : Tr) : Int32 × Tr := if k = 2 then ((2 : Int32) * (s + u), bg 20 (bg 21 (bg 24 t))) else if k = 3 then ((s + u) - (1000 : Int32), bg 20 (bg 21 (bg 22 t))) else (s + u, bg 20 (bg 21 t))
def sfT (k : Nat) (z : Int32) (t : Tr) : Int32 × Tr := if k = 5 then ((2 : Int32) * (z - (100 : Int32)), bg 10 (bg 13 (bg 14 t))) else (z - (100 : Int32), bg 10 (bg 13 t))
theorem c_b21 {m0 m : am_Mm} {t : Tr} (h : tC m0 m t) (hl : t.1 < 15) : ∃ m', f_Asks_body21 m = some (m0.1 38 2 + m0.1 38 5, m') ∧ tC m0 m' (bg 20 (bg 21 t)) := by
  obtain ⟨m1, a1, a2⟩ := tC_b h (by omega) 21
  obtain ⟨m2, b1, b2⟩ := tC_b a2 (show t.1 + 1 < 16 by omega) 20
  refine ⟨m2, ?_, b2⟩
  unfold f_Asks_body21 f_Asks_body20
  rw [a1, Option.bind_some, b1, Option.bind_some, Option.bind_some, b2.2.2 38 2 (by omega) (by omega), b2.2.2 38 5 (by omega) (by omega)]
theorem c_mp {m0 m : am_Mm} {t : Tr} {k : Nat} (h : tC m0 m t) (hl : t.1 < 14) (hk : m0.1 38 3 = nI k) (hk5 : k < 100) : ∃ m', f_Asks_markOfPlain m = some ((mpT k (m0.1 38 2) (m0.1 38 5) t).1, m') ∧ tC m0 m' (mpT k (m0.1 38 2) (m0.1 38 5) t).2 := by
  have e : m.1 38 3 = nI k := by rw [h.2.2 38 3 (by omega) (by omega)]; exact hk
  unfold f_Asks_markOfPlain mpT
  by_cases k2 : k = 2
  · rw [if_pos k2, e, if_pos (show nI k = (2 : Int32) by rw [k2]; rfl)]
    obtain ⟨m1, a1, a2⟩ := tC_b h (by omega) 24
    obtain ⟨m2, b1, b2⟩ := c_b21 a2 (show t.1 + 1 < 15 by omega)
    exact ⟨m2, by rw [a1, Option.bind_some, b1]; rfl, b2⟩
  · rw [if_neg k2, e, if_neg (show ¬ nI (k) = (2 : Int32) from fun z => k2 ((nI_eq (b := 2) (by omega) (by omega)).mp z))]
    by_cases k3 : k = 3
    · rw [if_pos k3, if_pos (show nI k = (3 : Int32) by rw [k3]; rfl)]
      obtain ⟨m1, a1, a2⟩ := tC_b h (by omega) 22
      obtain ⟨m2, b1, b2⟩ := c_b21 a2 (show t.1 + 1 < 15 by omega)
      exact ⟨m2, by rw [a1, Option.bind_some, b1]; rfl, b2⟩
    · rw [if_neg k3, if_neg (show ¬ nI (k) = (3 : Int32) from fun z => k3 ((nI_eq (b := 3) (by omega) (by omega)).mp z))]
      obtain ⟨m2, b1, b2⟩ := c_b21 h (by omega)
      exact ⟨m2, by rw [b1]; rfl, b2⟩
theorem c_sf {m0 m : am_Mm} {t : Tr} {k : Nat} (h : tC m0 m t) (hl : t.1 < 13) (hk : m0.1 38 3 = nI k) (hk5 : k < 100) : ∃ m', f_Asks_sizeOfFixed m = some ((sfT k (m0.1 38 4) t).1, m') ∧ tC m0 m' (sfT k (m0.1 38 4) t).2 := by
  have e : m.1 38 3 = nI k := by rw [h.2.2 38 3 (by omega) (by omega)]; exact hk
  have B : ∀ m t, tC m0 m t → t.1 < 14 → ∃ m', f_Asks_body13 m = some (m0.1 38 4 - (100 : Int32), m') ∧ tC m0 m' (bg 10 (bg 13 t)) := by
    intro m t h hl
    obtain ⟨m1, a1, a2⟩ := tC_b h (by omega) 13
    obtain ⟨m2, b1, b2⟩ := tC_b a2 (show t.1 + 1 < 16 by omega) 10
    refine ⟨m2, ?_, b2⟩
    unfold f_Asks_body13 f_Asks_body10
    rw [a1, Option.bind_some, b1, Option.bind_some, Option.bind_some, b2.2.2 38 4 (by omega) (by omega)]
  unfold f_Asks_sizeOfFixed sfT
  by_cases k2 : k = 5
  · rw [if_pos k2, e, if_pos (show nI k = (5 : Int32) by rw [k2]; rfl)]
    obtain ⟨m1, a1, a2⟩ := tC_b h (by omega) 14
    obtain ⟨m2, b1, b2⟩ := B m1 _ a2 (show t.1 + 1 < 14 by omega)
    exact ⟨m2, by rw [a1, Option.bind_some, b1]; rfl, b2⟩
  · rw [if_neg k2, e, if_neg (show ¬ nI (k) = (5 : Int32) from fun z => k2 ((nI_eq (b := 5) (by omega) (by omega)).mp z))]
    obtain ⟨m2, b1, b2⟩ := B m _ h (by omega)
    exact ⟨m2, by rw [b1]; rfl, b2⟩
def b11T (k : Nat) (s u z : Int32) (t : Tr) : Int32 × Tr := (z + (mpT k s u (bg 10 (bg 11 t))).1, (mpT k s u (bg 10 (bg 11 t))).2)
def szT (k : Nat) (s u z : Int32) (t : Tr) : Int32 × Tr := if k = 2 then (-(b11T k s u z (bg 12 t)).1, (b11T k s u z (bg 12 t)).2) else if k < 4 then b11T k s u z t else sfT k z t
def maT (k : Nat) (s u z : Int32) (t : Tr) : Int32 × Tr := if k < 4 then mpT k s u t else (s - (sfT k z (bg 20 (bg 23 t))).1, (sfT k z (bg 20 (bg 23 t))).2)
theorem c_size {m0 m : am_Mm} {t : Tr} {k : Nat} (h : tC m0 m t) (hl : t.1 = 0) (hk : m0.1 38 3 = nI k) (h1 : 1 ≤ k) (h5 : k ≤ 5) : ∃ m', f_Asks_size m = some ((szT k (m0.1 38 2) (m0.1 38 5) (m0.1 38 4) t).1, m') ∧ tC m0 m' (szT k (m0.1 38 2) (m0.1 38 5) (m0.1 38 4) t).2 := by
  have e : m.1 38 3 = nI k := by rw [h.2.2 38 3 (by omega) (by omega)]; exact hk
  have B : ∀ m t, tC m0 m t → t.1 < 10 → ∃ m', f_Asks_body11 m = some ((b11T k (m0.1 38 2) (m0.1 38 5) (m0.1 38 4) t).1, m') ∧ tC m0 m' (b11T k (m0.1 38 2) (m0.1 38 5) (m0.1 38 4) t).2 := by
    intro m t h hl
    obtain ⟨m1, a1, a2⟩ := tC_b h (by omega) 11
    obtain ⟨m2, b1, b2⟩ := tC_b a2 (show t.1 + 1 < 16 by omega) 10
    obtain ⟨m3, d1, d2⟩ := c_mp b2 (show t.1 + 1 + 1 < 14 by omega) hk (by omega)
    refine ⟨m3, ?_, d2⟩
    unfold f_Asks_body11 f_Asks_body10
    rw [a1, Option.bind_some, b1, Option.bind_some, Option.bind_some, d1, Option.bind_some, b2.2.2 38 4 (by omega) (by omega)]
    rfl
  unfold f_Asks_size szT
  rcases (show k = 1 ∨ k = 2 ∨ k = 3 ∨ k = 4 ∨ k = 5 by omega) with rfl | rfl | rfl | rfl | rfl
  · obtain ⟨m2, b1, b2⟩ := B m t h (by omega)
    refine ⟨m2, ?_, b2⟩
    simp (disch := omega) only [nq0, nq1, nq2, nq3, nq4, nq5, nq6, nq7, nq8, nq9, nq10, nq11, nq20, nq24, nq27, nq30, nq40, nI_add, pk_sub, pk_mul, nq_div, nq_rem, nq_shl1, nq_shl2, nq_bit1, nq_bit0, nq_or, nq_and, nq_nd, ml_cl, nq_in, nq_le, nq_nle, nq_lt, nq_nlt, nq_eq, nq_ne, nq_eqT, Option.bind_some, Bool.false_eq_true, Bool.true_eq_false, ↓reduceIte, e]
    rw [b1]; rfl
  · obtain ⟨m1, a1, a2⟩ := tC_b h (by omega) 12
    obtain ⟨m2, b1, b2⟩ := B m1 _ a2 (show t.1 + 1 < 10 by omega)
    refine ⟨m2, ?_, b2⟩
    rw [e, if_pos rfl, a1, Option.bind_some, b1]; rfl
  · obtain ⟨m2, b1, b2⟩ := B m t h (by omega)
    refine ⟨m2, ?_, b2⟩
    simp (disch := omega) only [nq0, nq1, nq2, nq3, nq4, nq5, nq6, nq7, nq8, nq9, nq10, nq11, nq20, nq24, nq27, nq30, nq40, nI_add, pk_sub, pk_mul, nq_div, nq_rem, nq_shl1, nq_shl2, nq_bit1, nq_bit0, nq_or, nq_and, nq_nd, ml_cl, nq_in, nq_le, nq_nle, nq_lt, nq_nlt, nq_eq, nq_ne, nq_eqT, Option.bind_some, Bool.false_eq_true, Bool.true_eq_false, ↓reduceIte, e]
    rw [b1]; rfl
  · obtain ⟨m2, b1, b2⟩ := c_sf h (by omega) hk (by omega)
    refine ⟨m2, ?_, b2⟩
    simp (disch := omega) only [nq0, nq1, nq2, nq3, nq4, nq5, nq6, nq7, nq8, nq9, nq10, nq11, nq20, nq24, nq27, nq30, nq40, nI_add, pk_sub, pk_mul, nq_div, nq_rem, nq_shl1, nq_shl2, nq_bit1, nq_bit0, nq_or, nq_and, nq_nd, ml_cl, nq_in, nq_le, nq_nle, nq_lt, nq_nlt, nq_eq, nq_ne, nq_eqT, Option.bind_some, Bool.false_eq_true, Bool.true_eq_false, ↓reduceIte, e]
    rw [b1]; rfl
  · obtain ⟨m2, b1, b2⟩ := c_sf h (by omega) hk (by omega)
    refine ⟨m2, ?_, b2⟩
    simp (disch := omega) only [nq0, nq1, nq2, nq3, nq4, nq5, nq6, nq7, nq8, nq9, nq10, nq11, nq20, nq24, nq27, nq30, nq40, nI_add, pk_sub, pk_mul, nq_div, nq_rem, nq_shl1, nq_shl2, nq_bit1, nq_bit0, nq_or, nq_and, nq_nd, ml_cl, nq_in, nq_le, nq_nle, nq_lt, nq_nlt, nq_eq, nq_ne, nq_eqT, Option.bind_some, Bool.false_eq_true, Bool.true_eq_false, ↓reduceIte, e]
    rw [b1]; rfl
theorem c_mark {m0 m : am_Mm} {t : Tr} {k : Nat} (h : tC m0 m t) (hl : t.1 = 0) (hk : m0.1 38 3 = nI k) (h1 : 1 ≤ k) (h5 : k ≤ 5) : ∃ m', f_Asks_mark m = some ((maT k (m0.1 38 2) (m0.1 38 5) (m0.1 38 4) t).1, m') ∧ tC m0 m' (maT k (m0.1 38 2) (m0.1 38 5) (m0.1 38 4) t).2 := by
  have e : m.1 38 3 = nI k := by rw [h.2.2 38 3 (by omega) (by omega)]; exact hk
  have B : ∃ m', f_Asks_mark_b16 m = some (m0.1 38 2 - (sfT k (m0.1 38 4) (bg 20 (bg 23 t))).1, m') ∧ tC m0 m' (sfT k (m0.1 38 4) (bg 20 (bg 23 t))).2 := by
    obtain ⟨m1, a1, a2⟩ := tC_b h (by omega) 23
    obtain ⟨m2, b1, b2⟩ := tC_b a2 (show t.1 + 1 < 16 by omega) 20
    obtain ⟨m3, d1, d2⟩ := c_sf b2 (show t.1 + 1 + 1 < 13 by omega) hk (by omega)
    refine ⟨m3, ?_, d2⟩
    unfold f_Asks_mark_b16 f_Asks_body23 f_Asks_body20
    rw [a1, Option.bind_some, b1, Option.bind_some, Option.bind_some, d1, Option.bind_some, b2.2.2 38 2 (by omega) (by omega)]
    rfl
  unfold f_Asks_mark maT
  by_cases k4 : k < 4
  · rw [if_pos k4]
    obtain ⟨m3, d1, d2⟩ := c_mp h (by omega) hk (by omega)
    refine ⟨m3, ?_, d2⟩
    simp (disch := omega) only [nq0, nq1, nq2, nq3, nq4, nq5, nq6, nq7, nq8, nq9, nq10, nq11, nq20, nq24, nq27, nq30, nq40, nI_add, pk_sub, pk_mul, nq_div, nq_rem, nq_shl1, nq_shl2, nq_bit1, nq_bit0, nq_or, nq_and, nq_nd, ml_cl, nq_in, nq_le, nq_nle, nq_lt, nq_nlt, nq_eq, nq_ne, nq_eqT, Option.bind_some, Bool.false_eq_true, Bool.true_eq_false, ↓reduceIte, e]
    rw [d1]; rfl
  · rw [if_neg k4]
    obtain ⟨m3, d1, d2⟩ := B
    refine ⟨m3, ?_, d2⟩
    by_cases k5 : k = 4
    · rw [e, if_pos (by rw [k5]; rfl), d1]
    · rw [e, if_neg (show ¬ nI (k) = (4 : Int32) from fun z => k5 ((nI_eq (b := 4) (by omega) (by omega)).mp z)), if_pos (by rw [show k = 5 by omega]; rfl), d1]
theorem tM_P {m0 m : am_Mm} {t : Tr} {n cu : Nat} {kd ow : Nat → Nat} (h9 : n ≤ 9) (h : tM m0 m t) (hP : rl_Pol m0.1 67 0 n cu kd ow) : rl_Pol m.1 67 0 n cu kd ow := rl_Pol_c h9 (fun k _ => h.2.2 67 _ (by omega) (by omega)) hP
theorem m_len {m0 m : am_Mm} {t : Tr} {n cu c : Nat} {kd ow : Nat → Nat} (hok : rl_OK n cu kd ow) (hP : rl_Pol m0.1 67 0 n cu kd ow) (hc : c < n) (h : tM m0 m t) (hl : t.1 < 16) : ∃ m', f_M_lentSize (nI c) m = some (cI n cu kd ow c, m') ∧ tM m0 m' (bg 10 t) := by
  obtain ⟨m1, a1, a2⟩ := tM_b h (by omega) 10
  refine ⟨m1, ?_, a2⟩
  unfold f_M_lentSize
  rw [a1, Option.bind_some, hm_ct hok (tM_P hok.2.1 a2 hP) hc]; rfl
theorem m_sf {m0 m : am_Mm} {t : Tr} {n cu c : Nat} {kd ow : Nat → Nat} (hok : rl_OK n cu kd ow) (hP : rl_Pol m0.1 67 0 n cu kd ow) (hc : c < n) (h : tM m0 m t) (hl : t.1 < 13) : ∃ m', f_M_fixedSize (nI c) m = some ((sfT (kd c) (cI n cu kd ow c) t).1, m') ∧ tM m0 m' (sfT (kd c) (cI n cu kd ow c) t).2 := by
  have kc := hok.2.2.2 c hc
  unfold f_M_fixedSize sfT
  rw [hm_kd hok.2.1 (tM_P hok.2.1 h hP) hc, Option.bind_some]
  dsimp only
  by_cases k5 : kd c = 5
  · rw [if_pos k5, if_pos (show nI (kd c) = (5 : Int32) by rw [k5]; rfl)]
    unfold f_M_fixedSize_b17 f_M_fixedSize_b28
    obtain ⟨m1, a1, a2⟩ := tM_b h (by omega) 14
    obtain ⟨m2, b1, b2⟩ := tM_b a2 (show t.1 + 1 < 16 by omega) 13
    obtain ⟨m3, d1, d2⟩ := m_len hok hP hc b2 (show t.1 + 1 + 1 < 16 by omega)
    exact ⟨m3, by rw [if_neg ml_n10, a1, Option.bind_some, b1, Option.bind_some, d1, Option.bind_some, if_neg ml_n10], d2⟩
  · rw [if_neg k5, if_neg (show ¬ nI (kd c) = (5 : Int32) from fun z => k5 ((nI_eq (b := 5) (by omega) (by omega)).mp z))]
    unfold f_M_fixedSize_b17 f_M_fixedSize_b28
    obtain ⟨m2, b1, b2⟩ := tM_b h (by omega) 13
    obtain ⟨m3, d1, d2⟩ := m_len hok hP hc b2 (show t.1 + 1 < 16 by omega)
    exact ⟨m3, by rw [if_pos rfl, b1, Option.bind_some, d1, Option.bind_some, if_pos rfl], d2⟩
theorem m_mark {m0 m : am_Mm} {t : Tr} {n cu c : Nat} {kd ow : Nat → Nat} (hok : rl_OK n cu kd ow) (hP : rl_Pol m0.1 67 0 n cu kd ow) (hc : c < n) (h : tM m0 m t) (hl : t.1 < 10) : ∃ m', f_M_markOf (nI c) m = some ((maT (kd c) (nI c) (nI (ca n cu c)) (cI n cu kd ow c) t).1, m') ∧ tM m0 m' (maT (kd c) (nI c) (nI (ca n cu c)) (cI n cu kd ow c) t).2 := by
  have kc := hok.2.2.2 c hc
  have hcu := cu_V_lt hok.1 hok.2.1 hok.2.2.1
  have B : ∀ m t, tM m0 m t → t.1 < 13 → ∃ m', f_M_began 21 m = some m' ∧ ∃ m2, f_M_began 20 m' = some m2 ∧ f_M_cutsAt 67 (nI c) m2 = some (nI (ca n cu c), m2) ∧ tM m0 m2 (bg 20 (bg 21 t)) := by
    intro m t h hl
    obtain ⟨m1, a1, a2⟩ := tM_b h (by omega) 21
    obtain ⟨m2, b1, b2⟩ := tM_b a2 (show t.1 + 1 < 16 by omega) 20
    have P2 := rl_Pol_0 (tM_P hok.2.1 b2 hP)
    exact ⟨m1, a1, m2, b1, hm_ca hok.1 hok.2.1 P2.1 P2.2 hcu hc, b2⟩
  unfold f_M_markOf maT
  rw [hm_kd hok.2.1 (tM_P hok.2.1 h hP) hc, Option.bind_some]
  dsimp only
  by_cases k4 : kd c < 4
  · rw [if_pos k4, if_pos (show nI (kd c) < (4 : Int32) from nI_lt k4 (by decide))]
    unfold mpT f_M_markOf_b52 f_M_markOf_b55
    rcases (show kd c = 1 ∨ kd c = 2 ∨ kd c = 3 by omega) with q | q | q <;> rw [q]
    · obtain ⟨m1, a1, m2, b1, d1, d2⟩ := B m t h (by omega)
      refine ⟨m2, ?_, d2⟩
      rw [if_pos e11, a1, Option.bind_some, b1, Option.bind_some, d1, Option.bind_some, if_pos e11]; rfl
    · obtain ⟨m0', z1, z2⟩ := tM_b h (by omega) 24
      obtain ⟨m1, a1, m2, b1, d1, d2⟩ := B m0' _ z2 (show t.1 + 1 < 13 by omega)
      refine ⟨m2, ?_, d2⟩
      rw [if_neg (show ¬ nI 2 = (1 : Int32) by decide), if_neg (show ¬ nI 2 = (3 : Int32) by decide), z1, Option.bind_some, a1, Option.bind_some, b1, Option.bind_some, d1, Option.bind_some, if_neg (show ¬ nI 2 = (1 : Int32) by decide), if_neg (show ¬ nI 2 = (3 : Int32) by decide)]; rfl
    · obtain ⟨m0', z1, z2⟩ := tM_b h (by omega) 22
      obtain ⟨m1, a1, m2, b1, d1, d2⟩ := B m0' _ z2 (show t.1 + 1 < 13 by omega)
      refine ⟨m2, ?_, d2⟩
      rw [if_neg (show ¬ nI 3 = (1 : Int32) by decide), if_pos (show nI 3 = (3 : Int32) from rfl), z1, Option.bind_some, a1, Option.bind_some, b1, Option.bind_some, d1, Option.bind_some, if_neg (show ¬ nI 3 = (1 : Int32) by decide), if_pos (show nI 3 = (3 : Int32) from rfl)]; rfl
  · rw [if_neg k4, if_neg (show ¬ nI (kd c) < (4 : Int32) from nI_nlt (show 4 ≤ kd c by omega) (by omega))]
    obtain ⟨m1, a1, a2⟩ := tM_b h (by omega) 23
    obtain ⟨m2, b1, b2⟩ := tM_b a2 (show t.1 + 1 < 16 by omega) 20
    obtain ⟨m3, d1, d2⟩ := m_sf hok hP hc b2 (show t.1 + 1 + 1 < 13 by omega)
    exact ⟨m3, by rw [a1, Option.bind_some, b1, Option.bind_some, d1]; rfl, d2⟩
theorem m_size {m0 m : am_Mm} {t : Tr} {n cu c : Nat} {kd ow : Nat → Nat} (hok : rl_OK n cu kd ow) (hP : rl_Pol m0.1 67 0 n cu kd ow) (hc : c < n) (h : tM m0 m t) (hl : t.1 = 0) : ∃ m', f_M_askedSize (nI c) m = some ((szT (kd c) (nI c) (nI (ca n cu c)) (cI n cu kd ow c) t).1, m') ∧ tM m0 m' (szT (kd c) (nI c) (nI (ca n cu c)) (cI n cu kd ow c) t).2 := by
  have kc := hok.2.2.2 c hc
  have B : ∀ m t, tM m0 m t → t.1 < 6 → kd c < 4 → ∃ m1, f_M_began 11 m = some m1 ∧ ∃ m2, f_M_lentSize (nI c) m1 = some (cI n cu kd ow c, m2) ∧ ∃ m3, f_M_markOf (nI c) m2 = some ((mpT (kd c) (nI c) (nI (ca n cu c)) (bg 10 (bg 11 t))).1, m3) ∧ tM m0 m3 (mpT (kd c) (nI c) (nI (ca n cu c)) (bg 10 (bg 11 t))).2 := by
    intro m t h hl k4
    obtain ⟨m1, a1, a2⟩ := tM_b h (by omega) 11
    obtain ⟨m2, b1, b2⟩ := m_len hok hP hc a2 (show t.1 + 1 < 16 by omega)
    obtain ⟨m3, d1, d2⟩ := m_mark hok hP hc b2 (show t.1 + 1 + 1 < 10 by omega)
    unfold maT at d1 d2
    rw [if_pos k4] at d1 d2
    exact ⟨m1, a1, m2, b1, m3, d1, d2⟩
  unfold f_M_askedSize szT
  rw [hm_kd hok.2.1 (tM_P hok.2.1 h hP) hc, Option.bind_some]
  dsimp only
  by_cases k4 : kd c < 4
  · rw [if_pos (show nI (kd c) < (4 : Int32) from nI_lt k4 (by decide))]
    unfold f_M_askedSize_b31
    by_cases k2 : kd c = 2
    · rw [if_pos k2, if_pos (show nI (kd c) = (2 : Int32) by rw [k2]; rfl)]
      obtain ⟨m0', z1, z2⟩ := tM_b h (by omega) 12
      obtain ⟨m1, a1, m2, b1, m3, d1, d2⟩ := B m0' _ z2 (show t.1 + 1 < 6 by omega) k4
      exact ⟨m3, by rw [z1, Option.bind_some, a1, Option.bind_some, b1, Option.bind_some, d1, Option.bind_some, if_pos (show nI (kd c) = (2 : Int32) by rw [k2]; rfl)]; rfl, d2⟩
    · rw [if_neg k2, if_pos k4, if_neg (show ¬ nI (kd c) = (2 : Int32) from fun z => k2 ((nI_eq (b := 2) (by omega) (by omega)).mp z))]
      obtain ⟨m1, a1, m2, b1, m3, d1, d2⟩ := B m t h (by omega) k4
      exact ⟨m3, by rw [a1, Option.bind_some, b1, Option.bind_some, d1, Option.bind_some, if_neg (show ¬ nI (kd c) = (2 : Int32) from fun z => k2 ((nI_eq (b := 2) (by omega) (by omega)).mp z))]; rfl, d2⟩
  · rw [if_neg (show ¬ kd c = 2 by omega), if_neg k4, if_neg (show ¬ nI (kd c) < (4 : Int32) from nI_nlt (show 4 ≤ kd c by omega) (by omega))]
    obtain ⟨m3, d1, d2⟩ := m_sf hok hP hc h (by omega)
    exact ⟨m3, by rw [d1]; rfl, d2⟩
theorem tr_len (k : Nat) (s u z : Int32) (t : Tr) (h : t.1 = 0) : (szT k s u z t).2.1 ≤ 16 ∧ (maT k s u z t).2.1 ≤ 16 := by
  unfold szT maT b11T sfT mpT bg
  refine ⟨?_, ?_⟩ <;> repeat' split
  all_goals simp [h]
theorem fp38 {p k : Nat} (h : rl_fp p k) (h2 : ¬ rl_AskF p k) : p ≠ 38 ∧ p ≠ 39 ∧ p ≠ 77 ∧ ¬ (p = 63 ∧ k = 25) := by
  refine ⟨fun z => ?_, fun z => ?_, fun z => ?_, fun z => ?_⟩
  · have k1 : ¬ k = 1 := fun w => h2 (Or.inl ⟨z, w⟩)
    rcases h with h | h | h | h | h | h
    · unfold rl_StatF at h; omega
    · unfold rl_RowsF at h; omega
    · unfold rl_TapeF at h; omega
    · exact h2 h
    · unfold rl_PolyF at h; omega
    · unfold rl_ImgF at h; omega
  · exact h2 (Or.inr (Or.inl z))
  · exact h2 (Or.inr (Or.inr (Or.inl z)))
  · exact h2 (Or.inr (Or.inr (Or.inr z)))
theorem rl_All_ask {m m1 m2 : am_Mm} {t : Tr} (h : rl_All m) (hl : t.1 ≤ 16) (e1 : m1.1 38 1 = nI t.1) (e2 : ∀ k, k < t.1 → m1.1 39 k = t.2 k) (e3 : ∀ p k, p ≠ 38 → p ≠ 39 → m1.1 p k = m.1 p k) (e4 : tM m1 m2 t) : rl_All m2 := by
  have fr : ∀ p k, rl_fp p k → ¬ rl_AskF p k → m2.1 p k = m.1 p k := fun p k q1 q2 => by
    have w := fp38 q1 q2
    rw [e4.2.2 p k w.2.2.2 w.2.2.1, e3 p k w.1 w.2.1]
  refine ⟨rl_Stat_c (fun p k q => fr p k (Or.inl q) ?_) h.1, rl_Rows_c (fun p k q => fr p k (Or.inr (Or.inl q)) ?_) h.2.1, rl_Tape_c (fun p k q => fr p k (Or.inr (Or.inr (Or.inl q))) ?_) h.2.2.1, ⟨t.1, hl, ?_, e4.1, fun k hk => ?_⟩, rl_Poly_c (fun p k q => fr p k (Or.inr (Or.inr (Or.inr (Or.inr (Or.inl q))))) ?_) h.2.2.2.2.1, rl_Img_c (fun p k q => fr p k (Or.inr (Or.inr (Or.inr (Or.inr (Or.inr q))))) ?_) h.2.2.2.2.2⟩
  · simp only [rl_StatF, rl_AskF] at *; omega
  · simp only [rl_RowsF, rl_AskF] at *; omega
  · simp only [rl_TapeF, rl_AskF] at *; omega
  · rw [e4.2.2 _ _ (by omega) (by omega)]; exact e1
  · rw [e4.2.2 _ _ (by omega) (by omega), e2 k hk, e4.2.1 k hk]
  · simp only [rl_PolyF, rl_AskF] at *; omega
  · simp only [rl_ImgF, rl_AskF] at *; omega
theorem pz_ask : ∀ a0 a1 : Int32, am_Pz rl_All (f_C_ask a0 a1) (f_M_ask a0 a1) := by
  intro x y m h
  unfold f_C_ask
  rcases vw_of h with hn | ⟨n, cu, kd, ow, hok, hR, hF, hP⟩
  · rcases isC (Nat.zero_le 9) x with q | ⟨c, hc, _⟩
    · rw [q.1 m hn.1]
      refine ⟨_, m, m, rfl, ?_, h⟩
      unfold f_M_ask
      rw [q.2 m hn.2.2.1]; rfl
    · omega
  · have hok2 := hok
    obtain ⟨h4, h9, hv, hk⟩ := hok
    rcases isC h9 x with q | ⟨c, hc, rfl, q1, q2⟩
    · rw [q.1 m hF.1]
      refine ⟨_, m, m, rfl, ?_, h⟩
      unfold f_M_ask
      rw [q.2 m hP.1]; rfl
    · rw [q1 m hF.1, Option.bind_some, if_neg ne01]
      by_cases y1 : (0 : Int32) ≤ y ∧ y ≤ 1
      rotate_left
      · refine ⟨-1000001, m, m, ?_, ?_, h⟩
        · by_cases z : y < 0
          · rw [if_pos z]
          · rw [if_neg z, if_neg (fun w => y1 ⟨ml_le_of_nlt z, w⟩)]
        · unfold f_M_ask
          rw [q2 m hP.1, Option.bind_some, if_neg ne01, ml_in0 0 1 0 1 rfl rfl y1]; rfl
      have kc := hk c hc
      obtain ⟨mt, et⟩ : ∃ mt, mt = am_pI (am_pI (am_pI (am_pI (am_pI m 38 1 (0 : Int32)) 38 2 (nI c)) 38 3 (nI (kd c))) 38 4 (cI n cu kd ow c)) 38 5 (nI (ca n cu c)) := ⟨_, rfl⟩
      have C : ∀ (g : am_Mm → Option (Int32 × am_Mm)), ((f_Figure_countOf 13 (nI c) m).bind fun q10 => (f_Ring_cutsAt (q10.2.1 13 3) (nI c) q10.2).bind fun q13 => (f_Asks_turnTo (nI c) (m.1 14 (nI c).toNatClampNeg) q10.1 q13.1 q13.2).bind g) = g mt := by
        intro g
        rw [hc_ct hok2 hR hF hc, Option.bind_some, hF.2.1, hc_ca h4 h9 hR hv hc, Option.bind_some, ml_cl (by omega), (hF.2.2 c hc).1, et]
        rfl
      have t1 : mt.1 38 1 = nI 0 := by rw [et, ml_o _ _ (by omega), ml_o _ _ (by omega), ml_o _ _ (by omega), ml_o _ _ (by omega), ml_s]; rfl
      have t2 : mt.1 38 2 = nI c := by rw [et, ml_o _ _ (by omega), ml_o _ _ (by omega), ml_o _ _ (by omega), ml_s]
      have t3 : mt.1 38 3 = nI (kd c) := by rw [et, ml_o _ _ (by omega), ml_o _ _ (by omega), ml_s]
      have t4 : mt.1 38 4 = cI n cu kd ow c := by rw [et, ml_o _ _ (by omega), ml_s]
      have t5 : mt.1 38 5 = nI (ca n cu c) := by rw [et, ml_s]
      have t6 : ∀ p k, p ≠ 38 → mt.1 p k = m.1 p k := fun p k q => by rw [et, ml_o _ _ (by omega), ml_o _ _ (by omega), ml_o _ _ (by omega), ml_o _ _ (by omega), ml_o _ _ (by omega)]
      have t7 : tC mt mt (0, fun _ => 0) := ⟨t1, fun k hk => absurd hk (Nat.not_lt_zero k), fun p k _ _ => rfl⟩
      have fin : ∀ (t : Tr) m1, tC mt m1 t → (∀ p k, p ≠ 38 → p ≠ 39 → m1.1 p k = m.1 p k) ∧ rl_Pol m1.1 67 0 n cu kd ow ∧ tM m1 (am_pI m1 63 25 (0 : Int32)) (0, fun _ => 0) := by
        intro t m1 q
        have w : ∀ p k, p ≠ 38 → p ≠ 39 → m1.1 p k = m.1 p k := fun p k z1 z2 => by rw [q.2.2 p k (by omega) z2, t6 p k z1]
        refine ⟨w, rl_Pol_c h9 (fun k _ => w _ _ (by omega) (by omega)) hP, ml_s _ _ _ _, fun k hk => absurd hk (Nat.not_lt_zero k), fun p k q1 _ => ml_o _ _ q1⟩
      rw [if_neg (ml_nlt_of_le y1.1), if_pos y1.2, if_pos (am_in_nI (by omega) (by omega)), C]
      have M0 : ∀ m1 : am_Mm, rl_Pol m1.1 67 0 n cu kd ow → f_M_ask (nI c) y m1 = if y = (0 : Int32) then (f_M_askedSize (nI c) (am_pI m1 63 25 (0 : Int32))).bind fun q12 => some (q12.1, q12.2) else (f_M_markOf (nI c) (am_pI m1 63 25 (0 : Int32))).bind fun q15 => some (q15.1, q15.2) := by
        intro m1 zP
        unfold f_M_ask
        rw [q2 m1 zP.1, Option.bind_some, if_neg ne01, ml_in1 0 1 0 1 rfl rfl y1, Option.bind_some, if_neg ml_n10]
      by_cases y0 : y = 0
      · rw [if_pos y0]
        obtain ⟨m1, s1, s2⟩ := c_size t7 rfl t3 kc.1 kc.2.1
        obtain ⟨w1, w2, w3⟩ := fin _ m1 s2
        obtain ⟨m2, u1, u2⟩ := m_size hok2 w2 hc w3 rfl
        rw [t2, t4, t5] at s1 s2
        refine ⟨_, m1, m2, by rw [s1]; rfl, by rw [M0 m1 w2, if_pos y0, u1]; rfl, rl_All_ask h (tr_len _ _ _ _ _ rfl).1 s2.1 s2.2.1 w1 u2⟩
      · rw [if_neg y0]
        obtain ⟨m1, s1, s2⟩ := c_mark t7 rfl t3 kc.1 kc.2.1
        obtain ⟨w1, w2, w3⟩ := fin _ m1 s2
        obtain ⟨m2, u1, u2⟩ := m_mark hok2 w2 hc w3 (by show 0 < 10; omega)
        rw [t2, t4, t5] at s1 s2
        refine ⟨_, m1, m2, by rw [s1]; rfl, by rw [M0 m1 w2, if_neg y0, u1]; rfl, rl_All_ask h (tr_len _ _ _ _ _ rfl).2 s2.1 s2.2.1 w1 u2⟩
