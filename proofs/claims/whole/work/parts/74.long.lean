/-! ===== products and differences beyond a long ===== -/
abbrev Rg (x : Int) : Prop := -9223372036854775808 ≤ x ∧ x < 9223372036854775808
theorem bm (x : Int) : ∃ d : Int, x.bmod (2 ^ 64) = x + 18446744073709551616 * d := by
  refine ⟨-(Int.bdiv x (2 ^ 64)), ?_⟩
  have := Int.bmod_add_bdiv x (2 ^ 64)
  have e : ((2 ^ 64 : Nat) : Int) = 18446744073709551616 := rfl
  rw [e] at this
  omega
theorem lg_ge (x y : Int64) : ((0 : Int32) ≤ lg_cmp x y) ↔ y.toInt ≤ x.toInt := by
  have q := lg_cmp_lt x y
  rw [fa_lt64] at q
  constructor
  · intro z
    have : ¬ lg_cmp x y < 0 := ml_nlt_of_le z
    rw [q] at this; omega
  · intro z
    exact ml_le_of_nlt (fun w => by rw [q] at w; omega)
theorem lg_gt (x y : Int64) : ((0 : Int32) < lg_cmp x y) ↔ y.toInt < x.toInt := by rw [lg_cmp_gt, fa_lt64]
theorem lg_le (x y : Int64) : (lg_cmp x y ≤ (0 : Int32)) ↔ x.toInt ≤ y.toInt := by
  have q := lg_gt x y
  constructor
  · intro z
    have : ¬ 0 < lg_cmp x y := ml_nlt_of_le z
    rw [q] at this; omega
  · intro z
    exact ml_le_of_nlt (fun w => by rw [q] at w; omega)
theorem lg_eq (x y : Int64) : (lg_cmp x y = (0 : Int32)) ↔ x.toInt = y.toInt := by rw [lg_cmp_eq, fa_eq64]
theorem q64 : (0 : Int64).toInt = 0 ∧ (1 : Int64).toInt = 1 ∧ (2 : Int64).toInt = 2 ∧ (9223372036854775807 : Int64).toInt = 9223372036854775807 ∧ (-9223372036854775808 : Int64).toInt = -9223372036854775808 := by decide
theorem hc_wr (x y z : Int64) : ((0 : Int32) ≤ lg_cmp ((x ^^^ y) &&& (x ^^^ z)) (0 : Int64)) ↔ ¬ ((x.toInt < 0 ↔ ¬ y.toInt < 0) ∧ (x.toInt < 0 ↔ ¬ z.toInt < 0)) := by
  rw [lg_ge, q64.1]
  have e : ∀ w : Int64, w.toInt < 0 ↔ w.toBitVec.msb = true := fun w => by rw [BitVec.msb_eq_toInt, decide_eq_true_eq]; rfl
  have k : ((x ^^^ y) &&& (x ^^^ z)).toInt < 0 ↔ ((x.toInt < 0 ↔ ¬ y.toInt < 0) ∧ (x.toInt < 0 ↔ ¬ z.toInt < 0)) := by
    rw [e, e x, e y, e z, Int64.toBitVec_and, Int64.toBitVec_xor, Int64.toBitVec_xor, BitVec.msb_and, BitVec.msb_xor, BitVec.msb_xor]
    cases x.toBitVec.msb <;> cases y.toBitVec.msb <;> cases z.toBitVec.msb <;> decide
  rw [← k]
  omega
theorem hc_dv {x0 : Int32} {f : Int64} (hc : -100 ≤ x0.toInt ∧ x0.toInt ≤ 100) (h0 : x0.toInt ≠ 0) (h1 : x0.toInt ≠ -1) : (lg_cmp ((x0.toInt64 * f) / x0.toInt64) f = (0 : Int32)) ↔ Rg (x0.toInt * f.toInt) := by
  have ne : x0.toInt64 ≠ -1 := fun z => by
    have := congrArg Int64.toInt z
    rw [Int32.toInt_toInt64] at this
    have o : (-1 : Int64).toInt = -1 := by decide
    omega
  have rp := fb_rngL (x0.toInt64 * f)
  rw [lg_eq, Int64.toInt_div_of_ne_right _ _ ne, Int32.toInt_toInt64]
  have ep : (x0.toInt64 * f).toInt = (x0.toInt * f.toInt).bmod (2 ^ 64) := by rw [Int64.toInt_mul, Int32.toInt_toInt64]
  have md := Int.mul_tdiv_add_tmod (x0.toInt64 * f).toInt x0.toInt
  have na := Int.natAbs_tmod (x0.toInt64 * f).toInt x0.toInt
  have nl : ((x0.toInt64 * f).toInt).natAbs % x0.toInt.natAbs < x0.toInt.natAbs := Nat.mod_lt _ (by omega)
  rw [← na] at nl
  constructor
  · intro q
    rw [q] at md
    obtain ⟨d, hd⟩ := bm (x0.toInt * f.toInt)
    rw [ep, hd] at rp md nl
    generalize x0.toInt * f.toInt = P at *
    generalize (P + 18446744073709551616 * d).tmod x0.toInt = r at *
    have : d = 0 := by omega
    subst this
    unfold Rg
    omega
  · intro q
    rw [ep, fb_bmodL q.1 q.2]
    exact Int.mul_tdiv_cancel_left _ h0
theorem hc_wi {x0 : Int32} {f : Int64} (hc : -100 ≤ x0.toInt ∧ x0.toInt ≤ 100) (m : am_Mm) : f_Frieze_isWithin x0 f (x0.toInt64 * f) m = some (if Rg (x0.toInt * f.toInt) then 1 else 0, m) := by
  have rf := fb_rngL f
  have o0 : (0 : Int32).toInt = 0 := rfl
  have o1 : (-1 : Int32).toInt = -1 := by decide
  have ep : (x0.toInt64 * f).toInt = (x0.toInt * f.toInt).bmod (2 ^ 64) := by rw [Int64.toInt_mul, Int32.toInt_toInt64]
  unfold f_Frieze_isWithin f_Frieze_isWithin_b28
  by_cases c0 : x0 = 0
  · subst c0
    rw [if_pos rfl, o0, Int.zero_mul, if_pos (by unfold Rg; omega)]
  · have c0' : x0.toInt ≠ 0 := fun z => c0 (by rw [fa_eq, o0]; exact z)
    have nz : ¬ x0.toInt64 = (0 : Int64) := fun z => c0' (by have := congrArg Int64.toInt z; rw [Int32.toInt_toInt64] at this; exact this)
    rw [if_neg c0]
    by_cases c1 : x0 = -1
    · rw [if_pos c1]
      have e1 : x0.toInt = -1 := by rw [c1]; exact o1
      rw [e1, show (-1 : Int) * f.toInt = -f.toInt by omega] at ep
      have dv : f.toInt ≠ -9223372036854775808 → (lg_cmp ((x0.toInt64 * f) / x0.toInt64) f = (0 : Int32)) := by
        intro nm
        have e2 : (-f.toInt).bmod (2 ^ 64) = -f.toInt := fb_bmodL (by omega) (by omega)
        rw [lg_eq, Int64.toInt_div, ep, e2, Int32.toInt_toInt64, e1]
        rw [show (-f.toInt).tdiv (-1) = f.toInt from by rw [Int.neg_tdiv_neg]; exact Int.tdiv_one _]
        exact fb_bmodL rf.1 rf.2
      rw [e1, show (-1 : Int) * f.toInt = -f.toInt by omega]
      by_cases g : (0 : Int32) ≤ lg_cmp f 0
      · rw [if_pos g]
        rw [lg_ge, q64.1] at g
        rw [if_pos rfl, if_neg nz, if_pos (dv (by omega)), if_pos (by unfold Rg; omega)]
      · rw [if_neg g]
        rw [lg_ge, q64.1] at g
        by_cases mn : f.toInt = -9223372036854775808
        · have pm : lg_cmp (x0.toInt64 * f) f = (0 : Int32) := by
            rw [lg_eq, ep, mn]; decide
          rw [if_pos pm, if_neg ml_n10, if_neg (by unfold Rg; omega)]
        · have pm : ¬ lg_cmp (x0.toInt64 * f) f = (0 : Int32) := by
            rw [lg_eq, ep, fb_bmodL (by omega) (by omega)]; omega
          rw [if_neg pm, if_pos rfl, if_neg nz, if_pos (dv mn), if_pos (by unfold Rg; omega)]
    · have c1' : x0.toInt ≠ -1 := fun z => c1 (by rw [fa_eq, o1]; exact z)
      rw [if_neg c1, if_pos rfl, if_neg nz]
      by_cases g : Rg (x0.toInt * f.toInt)
      · rw [if_pos ((hc_dv hc c0' c1').mpr g), if_pos g]
      · rw [if_neg (fun z => g ((hc_dv hc c0' c1').mp z)), if_neg g]
theorem hm_far {x0 : Int32} {f : Int64} (hc : -100 ≤ x0.toInt ∧ x0.toInt ≤ 100) (m : am_Mm) : f_M_isTooFar x0 f m = some (if Rg (x0.toInt * f.toInt) then 0 else 1, m) := by
  have rf := fb_rngL f
  have o0 : (0 : Int32).toInt = 0 := rfl
  have o1 : (-1 : Int32).toInt = -1 := by decide
  have om : (-1 : Int64).toInt = -1 := by decide
  -- with the size of it
  have B : ∀ s0 : Int64, s0.toInt = x0.toInt ∨ s0.toInt = -x0.toInt → 0 ≤ s0.toInt → f_M_isTooFar_b12 x0 f s0 m = some (if Rg (x0.toInt * f.toInt) then 0 else 1, m) := by
    intro s0 hs hp
    unfold f_M_isTooFar_b12
    by_cases g : (0 : Int32) ≤ lg_cmp s0 2
    · rw [if_pos g]
      rw [lg_ge, q64.2.2.1] at g
      have nz : ¬ s0 = (0 : Int64) := fun z => by have := congrArg Int64.toInt z; rw [q64.1] at this; omega
      have nm : s0 ≠ -1 := fun z => by have := congrArg Int64.toInt z; rw [om] at this; omega
      rw [if_neg nz, if_neg nz]
      have dA : ((9223372036854775807 : Int64) / s0).toInt = 9223372036854775807 / s0.toInt := by
        rw [Int64.toInt_div_of_ne_right _ _ nm, q64.2.2.2.1, Int.tdiv_eq_ediv_of_nonneg (by decide)]
      have dB : ((-9223372036854775808 : Int64) / s0).toInt = -(9223372036854775808 / s0.toInt) := by
        rw [Int64.toInt_div_of_ne_right _ _ nm, q64.2.2.2.2, show (-9223372036854775808 : Int) = -(9223372036854775808) from rfl, Int.neg_tdiv, Int.tdiv_eq_ediv_of_nonneg (by decide)]
      have a1 := @Int.le_ediv_iff_mul_le f.toInt 9223372036854775807 s0.toInt (by omega)
      have a2 := @Int.le_ediv_iff_mul_le f.toInt 9223372036854775808 s0.toInt (by omega)
      have a3 := @Int.le_ediv_iff_mul_le (-f.toInt) 9223372036854775807 s0.toInt (by omega)
      have a4 := @Int.le_ediv_iff_mul_le (-f.toInt) 9223372036854775808 s0.toInt (by omega)
      have rA := fb_rngL ((9223372036854775807 : Int64) / s0)
      have rB := fb_rngL ((-9223372036854775808 : Int64) / s0)
      rw [dA] at rA
      rw [dB] at rB
      have hA0 : 0 ≤ 9223372036854775807 / s0.toInt := Int.ediv_nonneg (by decide) hp
      have h62 : 9223372036854775808 / s0.toInt ≤ 4611686018427387904 := by
        by_cases z : 4611686018427387904 < 9223372036854775808 / s0.toInt
        · have z2 : (4611686018427387905 : Int) ≤ 9223372036854775808 / s0.toInt := by omega
          rw [Int.le_ediv_iff_mul_le (by omega)] at z2
          have : (4611686018427387905 : Int) * 2 ≤ 4611686018427387905 * s0.toInt := by omega
          omega
        · omega
      by_cases xs : x0 ≤ 0
      · rw [if_pos xs]
        rw [fa_le, o0] at xs
        have es : s0.toInt = -x0.toInt := by omega
        have mul : x0.toInt * f.toInt = -(f.toInt * s0.toInt) := by rw [es, Int.mul_neg, Int.neg_neg, Int.mul_comm]
        rw [Int.neg_mul] at a3 a4
        have nB : (-((-9223372036854775808 : Int64) / s0)).toInt = 9223372036854775808 / s0.toInt := by
          rw [Int64.toInt_neg, dB, Int.neg_neg, fb_bmodL (by omega) (by omega)]
        have nA : (-((9223372036854775807 : Int64) / s0)).toInt = -(9223372036854775807 / s0.toInt) := by
          rw [Int64.toInt_neg, dA, fb_bmodL (by omega) (by omega)]
        rw [mul]
        generalize f.toInt * s0.toInt = P at *
        by_cases q1 : (0 : Int32) < lg_cmp f (-((-9223372036854775808 : Int64) / s0))
        · rw [if_pos q1]
          rw [lg_gt, nB] at q1
          rw [if_neg (by unfold Rg; omega)]
        · rw [if_neg q1]
          rw [lg_gt, nB] at q1
          by_cases q2 : (0 : Int32) ≤ lg_cmp f (-((9223372036854775807 : Int64) / s0))
          · rw [if_pos q2]
            rw [lg_ge, nA] at q2
            rw [if_pos (by unfold Rg; omega)]
          · rw [if_neg q2]
            rw [lg_ge, nA] at q2
            rw [if_neg (by unfold Rg; omega)]
      · rw [if_neg xs]
        rw [fa_le, o0] at xs
        have es : s0.toInt = x0.toInt := by omega
        have mul : x0.toInt * f.toInt = f.toInt * s0.toInt := by rw [es, Int.mul_comm]
        rw [Int.neg_mul] at a3 a4
        rw [mul]
        generalize f.toInt * s0.toInt = P at *
        by_cases q1 : (0 : Int32) < lg_cmp f ((9223372036854775807 : Int64) / s0)
        · rw [if_pos q1]
          rw [lg_gt, dA] at q1
          rw [if_neg (by unfold Rg; omega)]
        · rw [if_neg q1]
          rw [lg_gt, dA] at q1
          by_cases q2 : (0 : Int32) ≤ lg_cmp f ((-9223372036854775808 : Int64) / s0)
          · rw [if_pos q2]
            rw [lg_ge, dB] at q2
            rw [if_pos (by unfold Rg; omega)]
          · rw [if_neg q2]
            rw [lg_ge, dB] at q2
            rw [if_neg (by unfold Rg; omega)]
    · rw [if_neg g]
      rw [lg_ge, q64.2.2.1] at g
      by_cases c1 : x0 = -1
      · have e1 : x0.toInt = -1 := by rw [c1]; exact o1
        rw [if_pos c1, e1, show (-1 : Int) * f.toInt = -f.toInt by omega]
        by_cases q1 : lg_cmp f (-9223372036854775808 : Int64) = (0 : Int32)
        · rw [if_pos q1]
          rw [lg_eq, q64.2.2.2.2] at q1
          rw [if_neg (by unfold Rg; omega)]
        · rw [if_neg q1]
          rw [lg_eq, q64.2.2.2.2] at q1
          rw [if_pos (by unfold Rg; omega)]
      · have c1' : x0.toInt ≠ -1 := fun z => c1 (by rw [fa_eq, o1]; exact z)
        rw [if_neg c1]
        rcases (show x0.toInt = 0 ∨ x0.toInt = 1 by omega) with e | e
        · rw [e, Int.zero_mul, if_pos (by unfold Rg; omega)]
        · rw [e, Int.one_mul, if_pos (by unfold Rg; omega)]
  unfold f_M_isTooFar
  by_cases q : (0 : Int32) ≤ x0
  · rw [if_pos q]
    rw [fa_le, o0] at q
    exact B _ (Or.inl (Int32.toInt_toInt64 x0)) (by rw [Int32.toInt_toInt64]; exact q)
  · rw [if_neg q]
    rw [fa_le, o0] at q
    have e : (-(x0.toInt64)).toInt = -x0.toInt := by rw [Int64.toInt_neg, Int32.toInt_toInt64, fb_bmodL (by omega) (by omega)]
    exact B _ (Or.inr e) (by rw [e]; omega)
