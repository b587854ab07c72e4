/-! ===== cut, join, flip ===== -/
theorem hm_isC0 {n : Nat} {x : Int32} (hn : n ≤ 9) (hx : x < 0 ∨ nI n ≤ x) {m : am_Mm} (e : m.1 67 0 = nI n) : f_M_isCorner x m = some (nI 0, m) := by
  rcases isC hn x with q | ⟨c, hc, rfl, _⟩
  · exact q.2 m e
  · exfalso
    rcases hx with z | z
    · exact nI_pos (by omega) z
    · exact nI_ge hc (by omega) z
theorem hc_numBad {n p : Nat} {x y : Int32} {m : am_Mm} (hn : n ≤ 9) (h5 : m.1 p 5 = nI n) (hx : (x < 0 ∨ nI n ≤ x) ∨ (y < 0 ∨ nI n ≤ y)) : f_Ring_numberOf p x y m = some (-1, m) := by
  have o0 : (0 : Int32).toInt = 0 := rfl
  have key : am_min x y < 0 ∨ nI n ≤ am_max x y := by
    unfold am_min am_max
    by_cases q : y < x <;> by_cases r : x < y <;> simp only [q, r, if_true, if_false] <;> simp only [fa_lt, fa_le] at * <;> omega
  unfold f_Ring_numberOf f_Ring_isCut
  rcases key with k | k
  · rw [if_pos k]; rfl
  · by_cases k2 : am_min x y < 0
    · rw [if_pos k2]; rfl
    · rw [if_neg k2, h5, if_pos k]; rfl
theorem cu_V_add {n cu i : Nat} (hi : i < cu_N n) (hv : cu_V n cu) (hf : fr n cu i) : cu_V n (cu ||| 2 ^ i) := by
  refine ⟨Nat.or_lt_two_pow hv.1 (Nat.pow_lt_pow_right (by omega) hi), fun k l hk hl q1 q2 => ?_⟩
  have tb : ∀ k, (cu ||| 2 ^ i).testBit k = true → cu.testBit k = true ∨ k = i := by
    intro k q
    rw [Nat.testBit_or, Bool.or_eq_true, Nat.testBit_two_pow, decide_eq_true_eq] at q
    rcases q with q | q
    · exact Or.inl q
    · exact Or.inr q.symm
  rcases tb k q1 with a | a <;> rcases tb l q2 with b | b
  · exact hv.2 k l hk hl a b
  · subst b; exact hf.2 k hk a
  · subst a; rw [cu_x_sym]; exact hf.2 l hl b
  · subst a; subst b; exact cu_x_irr _ _
theorem cu_V_nd {n cu i : Nat} (hv : cu_V n cu) : cu_V n (nd cu (2 ^ i)) := cu_V_sub hv fun j q => by
  rw [nd_tb, Bool.and_eq_true] at q
  exact q.1
theorem hc_bc {n cu : Nat} {m : am_Mm} (h : 4 ≤ n) (h9 : n ≤ 9) (hv : cu_V n cu) : f_Integer_bitCount (nI cu) m = some (nI (pc cu 30), m) := by
  have := cu_V_lt h h9 hv
  rw [nq_bc (by omega), bc_V h h9 hv]
theorem hm_bc {n cu : Nat} {m : am_Mm} (h : 4 ≤ n) (h9 : n ≤ 9) (hv : cu_V n cu) : f_M_sizeOf (nI cu) m = some (nI (pc cu 30), m) := by
  have := cu_V_lt h h9 hv
  rw [nq_size (by omega)]
theorem pz_cut : ∀ a0 a1 : Int32, am_Pz rl_All (f_C_cut a0 a1) (f_M_cut a0 a1) := by
  intro x y m h
  have BAD : ∀ n, n ≤ 9 → m.1 20 5 = nI n → m.1 67 0 = nI n → ((x < 0 ∨ nI n ≤ x) ∨ (y < 0 ∨ nI n ≤ y)) → ∃ r m1 m2, f_C_cut x y m = some (r, m1) ∧ f_M_cut x y m1 = some (r, m2) ∧ rl_All m2 := by
    intro n h9 e1 e2 hx
    refine ⟨-1000001, m, m, ?_, ?_, h⟩
    · unfold f_C_cut
      rw [hc_numBad h9 e1 hx]; rfl
    · have K : ∀ u v w, f_M_cut_b29 x y u v w m = some (-1000001, m) := by
        intro u v w
        unfold f_M_cut_b29
        rcases isC h9 x with q | ⟨c, hc, rfl, q1, q2⟩
        · rw [q.2 m e2]; rfl
        · have hy : y < 0 ∨ nI n ≤ y := by
            rcases hx with (z | z) | z
            · exact absurd z (nI_pos (by omega))
            · exact absurd z (nI_ge hc (by omega))
            · exact z
          rw [q2 m e2, Option.bind_some, if_neg ne01, hm_isC0 h9 hy e2]; rfl
      have K2 : ∀ u v, f_M_cut_b17 x y u v m = some (-1000001, m) := by
        intro u v
        unfold f_M_cut_b17
        by_cases z : y ≤ x
        · rw [if_pos z]; exact K _ _ _
        · rw [if_neg z]; exact K _ _ _
      unfold f_M_cut
      by_cases z : y ≤ x
      · rw [if_pos z]; exact K2 _ _
      · rw [if_neg z]; exact K2 _ _
  rcases plv_of h with ⟨hn, e1, e2⟩ | ⟨n, a, cu, kd, ow, H⟩
  · refine BAD 0 (by omega) hn.2.2.2.2.1 hn.2.2.1 (Or.inl ?_)
    by_cases z : x < 0
    · exact Or.inl z
    · exact Or.inr (ml_le_of_nlt z)
  · obtain ⟨hok, hR, hF, hP⟩ := plv_vw H
    obtain ⟨h4, h9, hv, hk⟩ := hok
    have hcu := cu_V_lt h4 h9 hv
    have h27 := cu_N27 h4 h9
    rcases ml_ix x (n := n) (by omega) with hx | hx | ⟨c, hc, rfl⟩
    · exact BAD n h9 hR.1 hP.1 (Or.inl (Or.inl hx))
    · exact BAD n h9 hR.1 hP.1 (Or.inl (Or.inr hx))
    rcases ml_ix y (n := n) (by omega) with hy | hy | ⟨d, hd, rfl⟩
    · exact BAD n h9 hR.1 hP.1 (Or.inr (Or.inl hy))
    · exact BAD n h9 hR.1 hP.1 (Or.inr (Or.inr hy))
    have M0 : ∀ mm : am_Mm, mm.1 67 0 = nI n → f_M_cut (nI c) (nI d) mm = f_M_cut_b29 (nI c) (nI d) (nI n) (nI (min c d)) (nI (max c d)) mm := by
      intro mm z
      unfold f_M_cut f_M_cut_b17
      by_cases q : d ≤ c
      · rw [Nat.min_eq_right q, Nat.max_eq_left q]
        simp (disch := omega) only [nq0, nq1, nq2, nq3, nq4, nq5, nq6, nq7, nq8, nq9, nq10, nq11, nq20, nq24, nq27, nq30, nq40, nI_add, pk_sub, pk_mul, nq_div, nq_rem, nq_shl1, nq_shl2, nq_bit1, nq_bit0, nq_or, nq_and, nq_nd, ml_cl, nq_in, nq_le, nq_nle, nq_lt, nq_nlt, nq_eq, nq_ne, nq_eqT, Option.bind_some, Bool.false_eq_true, Bool.true_eq_false, ↓reduceIte, z]
      · rw [Nat.min_eq_left (by omega), Nat.max_eq_right (by omega)]
        simp (disch := omega) only [nq0, nq1, nq2, nq3, nq4, nq5, nq6, nq7, nq8, nq9, nq10, nq11, nq20, nq24, nq27, nq30, nq40, nI_add, pk_sub, pk_mul, nq_div, nq_rem, nq_shl1, nq_shl2, nq_bit1, nq_bit0, nq_or, nq_and, nq_nd, ml_cl, nq_in, nq_le, nq_nle, nq_lt, nq_nlt, nq_eq, nq_ne, nq_eqT, Option.bind_some, Bool.false_eq_true, Bool.true_eq_false, ↓reduceIte, z]
    have C1 : ∀ e, e < n → ∀ mm : am_Mm, mm.1 67 0 = nI n → f_M_isCorner (nI e) mm = some (nI 1, mm) := by
      intro e he mm z
      rcases isC h9 (nI e) with q | ⟨c2, hc2, e2, q1, q2⟩
      · have := q.1 m hF.1
        unfold f_C_isCorner at this
        rw [if_neg (nI_pos (by omega)), hF.1, if_neg (nI_ge he (by omega))] at this
        have := congrArg (Option.map Prod.fst) this
        simp at this
        exact absurd this (by decide)
      · rw [e2]; exact q2 mm z
    have hn := hc_num (m := m) (x := c) (y := d) h4 h9 hR.1 rfl rfl (by omega)
    unfold f_C_cut
    by_cases hm : may n (min c d) (max c d) = true
    rotate_left
    · rw [hn.2 hm]
      refine ⟨-1000001, m, m, by rfl, ?_, h⟩
      rw [M0 m hP.1]
      unfold f_M_cut_b29
      rw [C1 c hc m hP.1, Option.bind_some, if_neg ne01, C1 d hd m hP.1, Option.bind_some, if_neg ne01, hm_may h4 h9 (by omega) (by omega), if_neg hm]
      rfl
    · have hnb := (cu_nb h4 h9 hm).1
      generalize hi : nb n (min c d) (max c d) = i at *
      have M1 : ∀ mm : am_Mm, mm.1 67 0 = nI n → f_M_cut (nI c) (nI d) mm = (f_M_isFree 67 (nI i) mm).bind fun q21 => if q21.1 = (0 : Int32) then some ((-1000002 : Int32), q21.2) else (f_M_keeps q21.2).bind fun q25 => (f_M_numberOf (nI n) (nI (min c d)) (nI (max c d)) q25).bind fun q29 => (f_M_sizeOf ((am_pI q29.2 67 1 ((q25.1 67 1) ||| (am_shl (1 : Int32) q29.1))).1 67 1) (am_pI q29.2 67 1 ((q25.1 67 1) ||| (am_shl (1 : Int32) q29.1)))).bind fun q33 => some (q33.1, q33.2) := by
        intro mm z
        rw [M0 mm z]
        unfold f_M_cut_b29
        rw [C1 c hc mm z, Option.bind_some, if_neg ne01, C1 d hd mm z, Option.bind_some, if_neg ne01, hm_may h4 h9 (by omega) (by omega), if_pos hm, Option.bind_some, if_neg ne01, hm_num1 h4 h9 hm, Option.bind_some, hi]
      rw [hn.1 hm, Option.bind_some, if_pos (show (0 : Int32) ≤ nI i from nI_pos' (by omega)), hF.2.1]
      obtain ⟨p0, p1⟩ := rl_Pol_0 hP
      by_cases hf : fr n (cu a) i
      rotate_left
      · rw [(hc_free h4 h9 hR hcu hnb).2 hf]
        refine ⟨-1000002, m, m, by rfl, ?_, h⟩
        rw [M1 m hP.1, (hm_free h4 h9 p0 p1 hcu hnb).2 hf]
        rfl
      · rw [(hc_free h4 h9 hR hcu hnb).1 hf, Option.bind_some, if_neg ne01, hF.2.1]
        have hv' := cu_V_add hnb hv hf
        obtain ⟨m1, a1, a2, a3, a4, a5⟩ := act_cuts h H hv'
        obtain ⟨mk, b1, b2, b3, b4⟩ := a5 m1 (sm_r _)
        have s1 : nI (cu a) ||| am_shl (1 : Int32) (nI i) = nI (cu a ||| 2 ^ i) := by simp (disch := omega) only [nq0, nq1, nq2, nq3, nq4, nq5, nq6, nq7, nq8, nq9, nq10, nq11, nq20, nq24, nq27, nq30, nq40, nI_add, pk_sub, pk_mul, nq_div, nq_rem, nq_shl1, nq_shl2, nq_bit1, nq_bit0, nq_or, nq_and, nq_nd, ml_cl, nq_in, nq_le, nq_nle, nq_lt, nq_nlt, nq_eq, nq_ne, nq_eqT, Option.bind_some, Bool.false_eq_true, Bool.true_eq_false, ↓reduceIte]
        refine ⟨nI (pc (cu a ||| 2 ^ i) 30), m1, am_pI mk 67 1 (nI (cu a ||| 2 ^ i)), ?_, ?_, b4⟩
        · rw [s1, a1, Option.bind_some, a2, hc_bc h4 h9 hv']; rfl
        · rw [M1 m1 (by rw [a3]; exact hP.1), (hm_free h4 h9 (by rw [a3]; exact p0) (by rw [a3]; exact p1) hcu hnb).1 hf, Option.bind_some, if_neg ne01, b1, Option.bind_some, hm_num1 h4 h9 hm, Option.bind_some, hi, b2, s1, ml_s, hm_bc h4 h9 hv']; rfl
theorem pz_join : ∀ a0 : Int32, am_Pz rl_All (f_C_join a0) (f_M_join a0) := by
  intro x m h
  unfold f_C_join
  rcases plv_of h with ⟨hn, e1, e2⟩ | ⟨n, a, cu, kd, ow, H⟩
  · rw [(isNp x).1 m hn.2.2.2.2.2]
    refine ⟨_, m, m, rfl, ?_, h⟩
    unfold f_M_join
    rw [(isNp x).2 m hn.2.2.1]; rfl
  · obtain ⟨hok, hR, hF, hP⟩ := plv_vw H
    obtain ⟨h4, h9, hv, hk⟩ := hok
    have hcu := cu_V_lt h4 h9 hv
    have h27 := cu_N27 h4 h9
    obtain ⟨p0, p1⟩ := rl_Pol_0 hP
    rcases isN h4 h9 x with q | ⟨i, hi, rfl, q1, q2⟩
    · rw [q.1 m hR.2.1]
      refine ⟨_, m, m, rfl, ?_, h⟩
      unfold f_M_join
      rw [q.2 m hP.1]; rfl
    · rw [q1 m hR.2.1, Option.bind_some, if_neg ne01, hc_has hF.2.1 hcu (by omega), Option.bind_some]
      by_cases hb : (cu a).testBit i = true
      rotate_left
      · refine ⟨-1000002, m, m, ?_, ?_, h⟩
        · rw [if_neg hb]; rfl
        · unfold f_M_join
          rw [q2 m hP.1, Option.bind_some, if_neg ne01, p1, nq_has0 (by omega) (by omega) hb]; rfl
      · have hv' := cu_V_nd (i := i) hv
        obtain ⟨m1, a1, a2, a3, a4, a5⟩ := act_cuts h H hv'
        obtain ⟨mk, b1, b2, b3, b4⟩ := a5 m1 (sm_r _)
        have s1 : nI (cu a) &&& ((am_shl (1 : Int32) (nI i)) ^^^ (-1 : Int32)) = nI (nd (cu a) (2 ^ i)) := by simp (disch := omega) only [nq0, nq1, nq2, nq3, nq4, nq5, nq6, nq7, nq8, nq9, nq10, nq11, nq20, nq24, nq27, nq30, nq40, nI_add, pk_sub, pk_mul, nq_div, nq_rem, nq_shl1, nq_shl2, nq_bit1, nq_bit0, nq_or, nq_and, nq_nd, ml_cl, nq_in, nq_le, nq_nle, nq_lt, nq_nlt, nq_eq, nq_ne, nq_eqT, Option.bind_some, Bool.false_eq_true, Bool.true_eq_false, ↓reduceIte]
        refine ⟨nI (pc (nd (cu a) (2 ^ i)) 30), m1, am_pI mk 67 1 (nI (nd (cu a) (2 ^ i))), ?_, ?_, b4⟩
        · rw [if_pos hb, if_neg ne01, hF.2.1, s1, a1, Option.bind_some, a2, hc_bc h4 h9 hv']; rfl
        · unfold f_M_join
          rw [q2 m1 (by rw [a3]; exact hP.1), Option.bind_some, if_neg ne01, a3, p1, nq_has1 (by omega) (by omega) hb, Option.bind_some, if_neg ne01, b1, Option.bind_some, b2, s1, ml_s, hm_bc h4 h9 hv']; rfl
theorem fv_bad (o : Option Nat) (ho : ∀ j, o = some j → j < 100) : fv (-1000000) o = (-1000000 : Int32) ↔ o = none := by
  cases o with
  | none => exact ⟨fun _ => rfl, fun _ => rfl⟩
  | some j =>
    refine ⟨fun q => ?_, fun q => by cases q⟩
    have := ho j rfl
    have q2 : nI j = (-1000000 : Int32) := q
    have q3 := congrArg Int32.toInt q2
    rw [nI_toInt (by omega)] at q3
    have : (-1000000 : Int32).toInt = -1000000 := by decide
    omega
theorem pz_flip : ∀ a0 : Int32, am_Pz rl_All (f_C_flip a0) (f_M_flip a0) := by
  intro x m h
  unfold f_C_flip
  rcases plv_of h with ⟨hn, e1, e2⟩ | ⟨n, a, cu, kd, ow, H⟩
  · rw [(isNp x).1 m hn.2.2.2.2.2]
    refine ⟨_, m, m, rfl, ?_, h⟩
    unfold f_M_flip
    rw [(isNp x).2 m hn.2.2.1]; rfl
  · obtain ⟨hok, hR, hF, hP⟩ := plv_vw H
    obtain ⟨h4, h9, hv, hk⟩ := hok
    have hcu := cu_V_lt h4 h9 hv
    have h27 := cu_N27 h4 h9
    rcases isN h4 h9 x with q | ⟨i, hi, rfl, q1, q2⟩
    · rw [q.1 m hR.2.1]
      refine ⟨_, m, m, rfl, ?_, h⟩
      unfold f_M_flip
      rw [q.2 m hP.1]; rfl
    · rw [q1 m hR.2.1, Option.bind_some, if_neg ne01, hF.2.1]
      obtain ⟨m', f1, f2⟩ := hc_fl h4 h9 hR hv hi
      have h' := sm_All (sm_25 f2) h
      have H' := plv_sm (sm_25 f2) H
      obtain ⟨_, hR', hF', hP'⟩ := plv_vw H'
      have hlt : ∀ j, fl n (cu a) i = some j → j < 100 := fun j q => by have := fl_ok h4 h9 hv hi q; omega
      rw [f1, Option.bind_some]
      cases hf : fl n (cu a) i with
      | none =>
        refine ⟨-1000002, m', m', by rfl, ?_, h'⟩
        unfold f_M_flip
        obtain ⟨p0, p1⟩ := rl_Pol_0 hP'
        rw [q2 m' hP'.1, Option.bind_some, if_neg ne01, hm_fl h4 h9 p0 p1 hcu hi, hf]; rfl
      | some j =>
        obtain ⟨hj, hb, hX, hv'⟩ := fl_ok h4 h9 hv hi hf
        obtain ⟨m1, a1, a2, a3, a4, a5⟩ := act_cuts h' H' hv'
        obtain ⟨mk, b1, b2, b3, b4⟩ := a5 m1 (sm_r _)
        obtain ⟨p0, p1⟩ := rl_Pol_0 hP'
        have s1 : (nI (cu a) &&& ((am_shl (1 : Int32) (nI i)) ^^^ (-1 : Int32))) ||| (am_shl (1 : Int32) (nI j)) = nI (nd (cu a) (2 ^ i) ||| 2 ^ j) := by simp (disch := omega) only [nq0, nq1, nq2, nq3, nq4, nq5, nq6, nq7, nq8, nq9, nq10, nq11, nq20, nq24, nq27, nq30, nq40, nI_add, pk_sub, pk_mul, nq_div, nq_rem, nq_shl1, nq_shl2, nq_bit1, nq_bit0, nq_or, nq_and, nq_nd, ml_cl, nq_in, nq_le, nq_nle, nq_lt, nq_nlt, nq_eq, nq_ne, nq_eqT, Option.bind_some, Bool.false_eq_true, Bool.true_eq_false, ↓reduceIte]
        refine ⟨nI j, m1, am_pI mk 67 1 (nI (nd (cu a) (2 ^ i) ||| 2 ^ j)), ?_, ?_, b4⟩
        · rw [if_pos (show (0 : Int32) ≤ fv (-1) (some j) from nI_pos' (by omega)), hF'.2.1]
          show ((f_C_layCuts ((nI (cu a) &&& ((am_shl (1 : Int32) (nI i)) ^^^ (-1 : Int32))) ||| (am_shl (1 : Int32) (nI j))) m').bind fun q11 => some (nI j, q11)) = _
          rw [s1, a1]; rfl
        · unfold f_M_flip
          rw [q2 m1 (by rw [a3]; exact hP'.1), Option.bind_some, if_neg ne01, hm_fl h4 h9 (by rw [a3]; exact p0) (by rw [a3]; exact p1) hcu hi, hf, Option.bind_some, if_neg (fun z => by have := (fv_bad (some j) (fun k e => by cases e; omega)).mp z; cases this), b1, Option.bind_some, b2]
          show some (nI j, am_pI mk 67 1 ((nI (cu a) &&& ((am_shl (1 : Int32) (nI i)) ^^^ (-1 : Int32))) ||| (am_shl (1 : Int32) (nI j)))) = _
          rw [s1]
