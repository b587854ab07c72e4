/-! ===== images ===== -/
theorem ml_im {k : Nat} (h : k < 2) : am_im (nI k) = 57 + 3 * k := by unfold am_im; rw [ml_cl (by omega)]
theorem hc_take {p0 p1 : Nat} {m : am_Mm} (h : p1 + 3 ≤ p0 ∨ p0 + 3 ≤ p1) : ∃ m', f_Figure_take p0 p1 m = some m' ∧ m'.1 p0 2 = m.1 p1 2 ∧ m'.1 p0 3 = m.1 p1 3 ∧ (∀ c, c < 9 → m'.1 (p0 + 1) c = m.1 (p1 + 1) c ∧ m'.1 (p0 + 2) c = m.1 (p1 + 2) c) ∧ (∀ p k, ¬ (p0 ≤ p ∧ p ≤ p0 + 2) → m'.1 p k = m.1 p k) := by
  refine ⟨_, rfl, ?_, ?_, fun c hc => ⟨?_, ?_⟩, fun p k q => ?_⟩
  · rw [ml_o _ _ (by omega), ml_s, ml_pC, if_neg (by omega), ml_pC, if_neg (by omega)]
  · rw [ml_s, ml_o _ _ (by omega), ml_pC, if_neg (by omega), ml_pC, if_neg (by omega)]
  · rw [ml_o _ _ (by omega), ml_o _ _ (by omega), ml_pC, if_neg (by omega), ml_pC, if_pos ⟨rfl, Nat.zero_le _, show c < 0 + 9 by omega⟩, show (0 : Int32).toNatClampNeg + (c - (0 : Int32).toNatClampNeg) = c from (Nat.zero_add _).trans (Nat.sub_zero c)]
  · rw [ml_o _ _ (by omega), ml_o _ _ (by omega), ml_pC, if_pos ⟨rfl, Nat.zero_le _, show c < 0 + 9 by omega⟩, ml_pC, if_neg (by omega), show (0 : Int32).toNatClampNeg + (c - (0 : Int32).toNatClampNeg) = c from (Nat.zero_add _).trans (Nat.sub_zero c)]
  · rw [ml_o _ _ (by omega), ml_o _ _ (by omega), ml_pC, if_neg (by omega), ml_pC, if_neg (by omega)]
theorem rl_Fig_c {v w : rl_V} {p q n cu : Nat} {kd ow : Nat → Nat} (h9 : n ≤ 9) (e2 : w q 2 = v p 2) (e3 : w q 3 = v p 3) (e : ∀ c, c < 9 → w (q + 1) c = v (p + 1) c ∧ w (q + 2) c = v (p + 2) c) (h : rl_Fig v p n cu kd ow) : rl_Fig w q n cu kd ow := by
  refine ⟨by rw [e2]; exact h.1, by rw [e3]; exact h.2.1, fun c hc => ?_⟩
  rw [(e c (by omega)).1, (e c (by omega)).2]
  exact h.2.2 c hc
theorem hc_put {p n cu : Nat} {kd ow : Nat → Nat} {m : am_Mm} (hp : p + 3 ≤ 13 ∨ 57 ≤ p) (hok : rl_OK n cu kd ow) (hF : rl_Fig m.1 p n cu kd ow) : ∃ m', f_C_putInPlace p m = some m' ∧ rl_Fig m'.1 13 n cu kd ow ∧ rl_Ring m'.1 20 n ∧ m'.1 26 3 = nI 0 ∧ ∀ q k, ¬ (13 ≤ q ∧ q ≤ 15) → ¬ (20 ≤ q ∧ q ≤ 24) → ¬ (q = 26 ∧ k = 3) → m'.1 q k = m.1 q k := by
  obtain ⟨m1, a1, a2, a3, a4, a5⟩ := hc_take (p0 := 13) (p1 := p) (m := m) (by omega)
  have e : m1.1 13 2 = nI n := by rw [a2]; exact hF.1
  obtain ⟨m2, b1, b2, b3⟩ := hc_lay (m := m1) (p := 20) hok.1 hok.2.1
  have F1 : rl_Fig m1.1 13 n cu kd ow := rl_Fig_c hok.2.1 a2 a3 a4 hF
  refine ⟨am_pI m2 26 3 (nI 0), ?_, ?_, ?_, ml_s _ _ _ _, fun q k q1 q2 q3 => ?_⟩
  · unfold f_C_putInPlace
    rw [a1, Option.bind_some, e, b1]
    rfl
  · have g : ∀ q k, (13 ≤ q ∧ q ≤ 15) → (am_pI m2 26 3 (nI 0)).1 q k = m1.1 q k := fun q k z => by rw [ml_o _ _ (by omega), b3 _ _ (by omega)]
    exact rl_Fig_c hok.2.1 (g _ _ (by omega)) (g _ _ (by omega)) (fun c _ => ⟨g _ _ (by omega), g _ _ (by omega)⟩) F1
  · have g : ∀ q k, (20 ≤ q ∧ q ≤ 24) → (am_pI m2 26 3 (nI 0)).1 q k = m2.1 q k := fun q k z => ml_o _ _ (by omega)
    unfold rl_Ring at *
    simp (disch := omega) only [Nat.reduceAdd, g]
    exact b2
  · rw [ml_o _ _ q3, b3 _ _ (by omega), a5 _ _ (by omega)]
theorem hm_image {m : am_Mm} {i : Nat} (hi : i < 2) : ∃ m2, f_M_image_b25 am_F (nI i) (nI 0) m = some (nI 1, m2) ∧ m2.1 75 i = nI 1 ∧ (∀ p j, ¬ (p = 75 ∧ j = i) → ¬ (p = 76 ∧ 20 * i ≤ j ∧ j < 20 * i + 20) → m2.1 p j = m.1 p j) ∧ ∀ j, j < 20 → m2.1 76 (20 * i + j) = m.1 67 j := by
  have L : ∀ t k f (m0 : am_Mm), k + t = 20 → t < f → ∃ m2, f_M_image_b25 f (nI i) (nI k) m0 = some (nI 1, m2) ∧ m2.1 75 i = nI 1 ∧ (∀ p j, ¬ (p = 75 ∧ j = i) → ¬ (p = 76 ∧ 20 * i + k ≤ j ∧ j < 20 * i + 20) → m2.1 p j = m0.1 p j) ∧ ∀ j, k ≤ j → j < 20 → m2.1 76 (20 * i + j) = m0.1 67 j := by
    intro t
    induction t with
    | zero =>
      intro k f m0 hk hf
      obtain ⟨f, rfl⟩ : ∃ z, f = z + 1 := ⟨f - 1, by omega⟩
      have hk : k = 20 := by omega
      subst hk
      refine ⟨am_pI m0 75 i (nI 1), ?_, ml_s _ _ _ _, fun p j q1 _ => ml_o _ _ q1, fun j q1 q2 => absurd q1 (by omega)⟩
      rw [f_M_image_b25]
      simp (disch := omega) only [nq0, nq1, nq2, nq3, nq4, nq5, nq6, nq7, nq8, nq9, nq10, nq11, nq20, nq24, nq27, nq30, nq40, nI_add, pk_sub, pk_mul, nq_div, nq_rem, nq_shl1, nq_shl2, nq_bit1, nq_bit0, nq_or, nq_and, nq_nd, ml_cl, nq_in, nq_le, nq_nle, nq_lt, nq_nlt, nq_eq, nq_ne, nq_eqT, Option.bind_some, Bool.false_eq_true, Bool.true_eq_false, ↓reduceIte]
    | succ t ih =>
      intro k f m0 hk hf
      obtain ⟨f, rfl⟩ : ∃ z, f = z + 1 := ⟨f - 1, by omega⟩
      obtain ⟨m', e1, e2, e3, e4⟩ := ih (k + 1) f (am_pI m0 76 (20 * i + k) (m0.1 67 k)) (by omega) (by omega)
      refine ⟨m', ?_, e2, fun p j q1 q2 => ?_, fun j q1 q2 => ?_⟩
      · rw [f_M_image_b25, ← e1]
        simp (disch := omega) only [nq0, nq1, nq2, nq3, nq4, nq5, nq6, nq7, nq8, nq9, nq10, nq11, nq20, nq24, nq27, nq30, nq40, nI_add, pk_sub, pk_mul, nq_div, nq_rem, nq_shl1, nq_shl2, nq_bit1, nq_bit0, nq_or, nq_and, nq_nd, ml_cl, nq_in, nq_le, nq_nle, nq_lt, nq_nlt, nq_eq, nq_ne, nq_eqT, Option.bind_some, Bool.false_eq_true, Bool.true_eq_false, ↓reduceIte]
      · rw [e3 p j q1 (by omega), ml_o _ _ (by omega)]
      · by_cases z : j = k
        · subst z
          rw [e3 _ _ (by omega) (by omega), ml_s]
        · rw [e4 j (by omega) q2, ml_o _ _ (by omega)]
  obtain ⟨m2, a, b, c, d⟩ := L 20 0 am_F m (by omega) (by show 20 < 5000; omega)
  exact ⟨m2, a, b, fun p j q1 q2 => c p j q1 (by omega), fun j hj => d j (by omega) hj⟩
theorem hm_rest {m : am_Mm} {i : Nat} (hi : i < 2) : ∃ m2, f_M_restore_b27 am_F (nI i) (nI 0) m = some (nI 1, m2) ∧ m2.1 63 8 = nI 0 ∧ (∀ p j, ¬ (p = 63 ∧ j = 8) → ¬ (p = 67 ∧ j < 20) → m2.1 p j = m.1 p j) ∧ ∀ j, j < 20 → m2.1 67 j = m.1 76 (20 * i + j) := by
  have L : ∀ t k f (m0 : am_Mm), k + t = 20 → t < f → ∃ m2, f_M_restore_b27 f (nI i) (nI k) m0 = some (nI 1, m2) ∧ m2.1 63 8 = nI 0 ∧ (∀ p j, ¬ (p = 63 ∧ j = 8) → ¬ (p = 67 ∧ k ≤ j ∧ j < 20) → m2.1 p j = m0.1 p j) ∧ ∀ j, k ≤ j → j < 20 → m2.1 67 j = m0.1 76 (20 * i + j) := by
    intro t
    induction t with
    | zero =>
      intro k f m0 hk hf
      obtain ⟨f, rfl⟩ : ∃ z, f = z + 1 := ⟨f - 1, by omega⟩
      have hk : k = 20 := by omega
      subst hk
      refine ⟨am_pI m0 63 8 (nI 0), ?_, ml_s _ _ _ _, fun p j q1 _ => ml_o _ _ q1, fun j q1 q2 => absurd q1 (by omega)⟩
      rw [f_M_restore_b27]
      simp (disch := omega) only [nq0, nq1, nq2, nq3, nq4, nq5, nq6, nq7, nq8, nq9, nq10, nq11, nq20, nq24, nq27, nq30, nq40, nI_add, pk_sub, pk_mul, nq_div, nq_rem, nq_shl1, nq_shl2, nq_bit1, nq_bit0, nq_or, nq_and, nq_nd, ml_cl, nq_in, nq_le, nq_nle, nq_lt, nq_nlt, nq_eq, nq_ne, nq_eqT, Option.bind_some, Bool.false_eq_true, Bool.true_eq_false, ↓reduceIte]
    | succ t ih =>
      intro k f m0 hk hf
      obtain ⟨f, rfl⟩ : ∃ z, f = z + 1 := ⟨f - 1, by omega⟩
      obtain ⟨m', e1, e2, e3, e4⟩ := ih (k + 1) f (am_pI m0 67 k (m0.1 76 (20 * i + k))) (by omega) (by omega)
      refine ⟨m', ?_, e2, fun p j q1 q2 => ?_, fun j q1 q2 => ?_⟩
      · rw [f_M_restore_b27, ← e1]
        simp (disch := omega) only [nq0, nq1, nq2, nq3, nq4, nq5, nq6, nq7, nq8, nq9, nq10, nq11, nq20, nq24, nq27, nq30, nq40, nI_add, pk_sub, pk_mul, nq_div, nq_rem, nq_shl1, nq_shl2, nq_bit1, nq_bit0, nq_or, nq_and, nq_nd, ml_cl, nq_in, nq_le, nq_nle, nq_lt, nq_nlt, nq_eq, nq_ne, nq_eqT, Option.bind_some, Bool.false_eq_true, Bool.true_eq_false, ↓reduceIte]
      · rw [e3 p j q1 (by omega), ml_o _ _ (by omega)]
      · by_cases z : j = k
        · subst z
          rw [e3 _ _ (by omega) (by omega), ml_s]
        · rw [e4 j (by omega) q2, ml_o _ _ (by omega)]
  obtain ⟨m2, a, b, c, d⟩ := L 20 0 am_F m (by omega) (by show 20 < 5000; omega)
  exact ⟨m2, a, b, fun p j q1 q2 => c p j q1 (by omega), fun j hj => d j (by omega) hj⟩
theorem pz_image : ∀ a0 : Int32, am_Pz rl_All (f_C_image a0) (f_M_image a0) := by
  intro x m h
  have BAD : (x < 0 ∨ nI 2 ≤ x) → ∃ r m1 m2, f_C_image x m = some (r, m1) ∧ f_M_image x m1 = some (r, m2) ∧ rl_All m2 := by
    intro hx
    refine ⟨-1000001, m, m, ?_, ?_, h⟩
    · unfold f_C_image
      rcases hx with q | q
      · rw [if_pos q]
      · rw [if_neg (ml_ge_nlt0 (by decide) q), if_neg (show ¬ x < (2 : Int32) from ml_nlt_of_le q)]
    · unfold f_M_image
      rw [ml_in0 0 1 0 1 rfl rfl (fun q => ?_)]
      · rfl
      · rcases hx with z | z
        · exact ml_neg_nle z q.1
        · have h2 := q.2
          rw [Int32.le_iff_toInt_le] at z h2
          rw [nI_toInt (by decide)] at z
          have : (1 : Int32).toInt = 1 := rfl
          omega
  rcases ml_ix x (n := 2) (by decide) with hx | hx | ⟨i, hi, rfl⟩
  · exact BAD (Or.inl hx)
  · exact BAD (Or.inr hx)
  have M0 : ∀ mm : am_Mm, f_M_image (nI i) mm = (f_M_isThere mm).bind fun q7 => if q7.1 = (0 : Int32) then some ((-1000002 : Int32), q7.2) else f_M_image_b25 am_F (nI i) (0 : Int32) q7.2 := by
    intro mm
    unfold f_M_image
    rw [ml_in1 0 1 0 1 rfl rfl ⟨nI_pos' (by omega), show nI i ≤ (1 : Int32) from nI_le (show i ≤ 1 by omega) (by decide)⟩, Option.bind_some, if_neg ml_n10]
  have C0 : f_C_image (nI i) m = (f_C_isThere m).bind fun q5 => if q5.1 = (0 : Int32) then some ((-1000002 : Int32), q5.2) else (f_Figure_take (57 + 3 * i) 13 q5.2).bind fun q10 => some ((1 : Int32), q10) := by
    unfold f_C_image
    rw [if_neg (nI_pos (by omega)), if_pos (show nI i < (2 : Int32) from nI_lt hi (by decide))]
    simp only [nq_in hi (show 2 < 2 ^ 31 by decide), ↓reduceIte, ml_im hi]
  rw [C0]
  rcases vw_of h with hn | ⟨n, cu, kd, ow, hok, hR, hF, hP⟩
  · rw [hc_there hn.1 (by omega)]
    refine ⟨-1000002, m, m, rfl, ?_, h⟩
    rw [M0, hm_there hn.2.2.1 (by omega)]; rfl
  · rw [hc_th1 hF.1 hok.1 hok.2.1, Option.bind_some, if_neg ne01]
    obtain ⟨m1, a1, a2, a3, a4, a5⟩ := hc_take (p0 := 57 + 3 * i) (p1 := 13) (m := m) (by omega)
    obtain ⟨m2, b1, b2, b3, b4⟩ := hm_image (m := m1) hi
    have b1' : f_M_image_b25 am_F (nI i) (0 : Int32) m1 = some (nI 1, m2) := b1
    refine ⟨nI 1, m1, m2, by rw [a1]; rfl, ?_, ?_⟩
    · rw [M0, hm_th1 (n := n) (by rw [a5 _ _ (by omega)]; exact hP.1) hok.1 hok.2.1, Option.bind_some, if_neg ne01, b1']
    · have fr : ∀ p k, ¬ (57 + 3 * i ≤ p ∧ p ≤ 57 + 3 * i + 2) → ¬ (p = 75 ∧ k = i) → ¬ (p = 76 ∧ 20 * i ≤ k ∧ k < 20 * i + 20) → m2.1 p k = m.1 p k := fun p k q1 q2 q3 => by rw [b3 p k q2 q3, a5 p k q1]
      refine ⟨rl_Stat_c (fun p k q => ?_) h.1, rl_Rows_c (fun p k q => ?_) h.2.1, rl_Tape_c (fun p k q => ?_) h.2.2.1, rl_Ask_c (fun p k q => ?_) h.2.2.2.1, rl_Poly_c (fun p k q => ?_) h.2.2.2.2.1, fun j hj => ?_⟩
      · unfold rl_StatF at q; exact fr p k (by omega) (by omega) (by omega)
      · unfold rl_RowsF at q; exact fr p k (by omega) (by omega) (by omega)
      · unfold rl_TapeF at q; exact fr p k (by omega) (by omega) (by omega)
      · unfold rl_AskF at q; exact fr p k (by omega) (by omega) (by omega)
      · unfold rl_PolyF at q; exact fr p k (by omega) (by omega) (by omega)
      · by_cases z : j = i
        · subst z
          right
          refine ⟨b2, n, cu, kd, ow, hok, rl_Fig_c hok.2.1 ?_ ?_ (fun c hc => ⟨?_, ?_⟩) hF, rl_Pol_c hok.2.1 (fun k hk => ?_) hP⟩
          · rw [b3 _ _ (by omega) (by omega), a2]
          · rw [b3 _ _ (by omega) (by omega), a3]
          · rw [b3 _ _ (by omega) (by omega), (a4 c hc).1]
          · rw [b3 _ _ (by omega) (by omega), (a4 c hc).2]
          · rw [b4 k hk, Nat.zero_add, a5 _ _ (by omega)]
        · have hj2 := h.2.2.2.2.2 j hj
          rw [fr _ _ (by omega) (by omega) (by omega), fr _ _ (by omega) (by omega) (by omega)]
          rcases hj2 with q | ⟨q, n2, cu2, kd2, ow2, q1, q2, q3⟩
          · exact Or.inl q
          · refine Or.inr ⟨q, n2, cu2, kd2, ow2, q1, rl_Fig_c q1.2.1 ?_ ?_ (fun c hc => ⟨?_, ?_⟩) q2, rl_Pol_c q1.2.1 (fun k hk => ?_) q3⟩
            · exact fr _ _ (by omega) (by omega) (by omega)
            · exact fr _ _ (by omega) (by omega) (by omega)
            · exact fr _ _ (by omega) (by omega) (by omega)
            · exact fr _ _ (by omega) (by omega) (by omega)
            · exact fr _ _ (by omega) (by omega) (by omega)
theorem pz_restore : ∀ a0 : Int32, am_Pz rl_All (f_C_restore a0) (f_M_restore a0) := by
  intro x m h
  have BAD : (x < 0 ∨ nI 2 ≤ x) → ∃ r m1 m2, f_C_restore x m = some (r, m1) ∧ f_M_restore x m1 = some (r, m2) ∧ rl_All m2 := by
    intro hx
    refine ⟨-1000001, m, m, ?_, ?_, h⟩
    · unfold f_C_restore
      rcases hx with q | q
      · rw [if_pos q]
      · rw [if_neg (ml_ge_nlt0 (by decide) q), if_neg (show ¬ x < (2 : Int32) from ml_nlt_of_le q)]
    · unfold f_M_restore
      rw [ml_in0 0 1 0 1 rfl rfl (fun q => ?_)]
      · rfl
      · rcases hx with z | z
        · exact ml_neg_nle z q.1
        · have h2 := q.2
          rw [Int32.le_iff_toInt_le] at z h2
          rw [nI_toInt (by decide)] at z
          have : (1 : Int32).toInt = 1 := rfl
          omega
  rcases ml_ix x (n := 2) (by decide) with hx | hx | ⟨i, hi, rfl⟩
  · exact BAD (Or.inl hx)
  · exact BAD (Or.inr hx)
  have M0 : ∀ mm : am_Mm, f_M_restore (nI i) mm = if mm.1 75 i = (0 : Int32) then some ((-1000002 : Int32), mm) else f_M_restore_b27 am_F (nI i) (0 : Int32) mm := by
    intro mm
    unfold f_M_restore
    rw [ml_in1 0 1 0 1 rfl rfl ⟨nI_pos' (by omega), show nI i ≤ (1 : Int32) from nI_le (show i ≤ 1 by omega) (by decide)⟩, Option.bind_some, if_neg ml_n10, if_pos (am_in_nI hi (by decide)), ml_cl (by omega)]
  have C0 : f_C_restore (nI i) m = if m.1 (57 + 3 * i) 2 = (0 : Int32) then some ((-1000002 : Int32), m) else (f_C_putInPlace (57 + 3 * i) m).bind fun q8 => some ((1 : Int32), q8) := by
    unfold f_C_restore
    rw [if_neg (nI_pos (by omega)), if_pos (show nI i < (2 : Int32) from nI_lt hi (by decide)), if_pos (am_in_nI hi (by decide)), if_pos (am_in_nI hi (by decide)), ml_im hi]
  rw [C0]
  rcases h.2.2.2.2.2 i hi with ⟨q1, q2⟩ | ⟨q2, n, cu, kd, ow, hok, hF, hP⟩
  · refine ⟨-1000002, m, m, by rw [if_pos q1], ?_, h⟩
    rw [M0, if_pos q2]
  · have n0 : ¬ nI n = (0 : Int32) := fun z => by have := (nI_eq (b := 0) (by have := hok.2.1; omega) (by omega)).mp z; have := hok.1; omega
    obtain ⟨m1, a1, a2, a3, a4, a5⟩ := hc_put (p := 57 + 3 * i) (Or.inr (by omega)) hok hF
    obtain ⟨m2, b1, b2, b3, b4⟩ := hm_rest (m := m1) hi
    have b1' : f_M_restore_b27 am_F (nI i) (0 : Int32) m1 = some (nI 1, m2) := b1
    refine ⟨nI 1, m1, m2, ?_, ?_, rl_All_poly h (fun p k q1 q2 => ?_) (Or.inr ⟨n, 0, fun _ => cu, fun _ => kd, fun _ => ow, by omega, ?_, b2, ?_, ?_, ?_, fun _ _ => hok, fun i hi => absurd hi (by omega)⟩)⟩
    · rw [hF.1, if_neg n0, a1]; rfl
    · rw [M0, if_neg (by rw [a5 _ _ (by omega) (by omega) (by omega), q2]; exact ml_n10), b1']
    · have w := nPoly q2
      rw [b3 _ _ w.2.2.2.2.2 (fun z => w.2.2.2.1 z.1), a5 _ _ w.1 w.2.1 (fun z => w.2.2.1 ⟨by omega, by omega⟩)]
    · rw [b3 _ _ (by omega) (by omega)]; exact a4
    · have g : ∀ q k, (20 ≤ q ∧ q ≤ 24) → m2.1 q k = m1.1 q k := fun q k z => b3 _ _ (by omega) (by omega)
      unfold rl_Ring at *
      simp (disch := omega) only [Nat.reduceAdd, g]
      exact a3
    · exact rl_Fig_c hok.2.1 (b3 _ _ (by omega) (by omega)) (b3 _ _ (by omega) (by omega)) (fun c _ => ⟨b3 _ _ (by omega) (by omega), b3 _ _ (by omega) (by omega)⟩) a2
    · exact rl_Pol_c hok.2.1 (fun k hk => by rw [Nat.zero_add, b4 k hk, a5 _ _ (by omega) (by omega) (by omega)]) hP
