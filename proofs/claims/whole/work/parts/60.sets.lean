/-! ===== counts of all corners; count, sets ===== -/
/-- n corners, or none -/
def vz (m : am_Mm) (n cu : Nat) (kd ow : Nat → Nat) : Prop := (n = 0 ∧ np m) ∨ vw m n cu kd ow
theorem vz_of {m : am_Mm} (h : rl_All m) : ∃ n cu kd ow, vz m n cu kd ow := by
  rcases vw_of h with hn | ⟨n, cu, kd, ow, V⟩
  · exact ⟨0, 0, fun _ => 0, fun _ => 0, Or.inl ⟨rfl, hn⟩⟩
  · exact ⟨n, cu, kd, ow, Or.inr V⟩
theorem vz_n {m : am_Mm} {n cu : Nat} {kd ow : Nat → Nat} (h : vz m n cu kd ow) : n ≤ 9 ∧ m.1 13 2 = nI n ∧ m.1 67 0 = nI n := by
  rcases h with ⟨rfl, q⟩ | ⟨ok, _, f, p⟩
  · exact ⟨by omega, q.1, q.2.2.1⟩
  · exact ⟨ok.2.1, f.1, p.1⟩
theorem vz_c {m m' : am_Mm} {n cu : Nat} {kd ow : Nat → Nat} (e : ∀ p k, ((13 ≤ p ∧ p ≤ 15) ∨ (20 ≤ p ∧ p ≤ 24) ∨ p = 67) → m'.1 p k = m.1 p k) (h : vz m n cu kd ow) : vz m' n cu kd ow := by
  rcases h with ⟨rfl, q⟩ | q
  · left
    refine ⟨rfl, ?_⟩
    unfold np at *
    simp (disch := omega) only [e]
    exact q
  · exact Or.inr (vw_c e q)
theorem hc_tell {m : am_Mm} {n cu : Nat} {kd ow : Nat → Nat} (h : vz m n cu kd ow) : ∃ m', f_Frieze_tellCounts m = some m' ∧ m'.1 30 2 = nI n ∧ (∀ c, c < n → m'.1 31 c = cI n cu kd ow c) ∧ (∀ p k, p ≠ 30 → p ≠ 31 → m'.1 p k = m.1 p k) ∧ m'.2 = m.2 := by
  obtain ⟨h9, e1, e2⟩ := vz_n h
  have L : ∀ t k f (m0 : am_Mm), k + t = n → t < f → m0.1 30 2 = nI n → (∀ p j, p ≠ 30 → p ≠ 31 → m0.1 p j = m.1 p j) → m0.2 = m.2 → (∀ c, c < k → m0.1 31 c = cI n cu kd ow c) → ∃ m', f_Frieze_tellCounts_b15 f (nI k) m0 = some m' ∧ m'.1 30 2 = nI n ∧ (∀ c, c < n → m'.1 31 c = cI n cu kd ow c) ∧ (∀ p k, p ≠ 30 → p ≠ 31 → m'.1 p k = m.1 p k) ∧ m'.2 = m.2 := by
    intro t
    induction t with
    | zero =>
      intro k f m0 hk hf a1 a2 a3 a4
      obtain ⟨f, rfl⟩ : ∃ z, f = z + 1 := ⟨f - 1, by omega⟩
      have hk : k = n := by omega
      subst hk
      refine ⟨m0, ?_, a1, a4, a2, a3⟩
      rw [f_Frieze_tellCounts_b15]
      simp (disch := omega) only [nq0, nq1, nq2, nq3, nq4, nq5, nq6, nq7, nq8, nq9, nq10, nq11, nq20, nq24, nq27, nq30, nq40, nI_add, pk_sub, pk_mul, nq_div, nq_rem, nq_shl1, nq_shl2, nq_bit1, nq_bit0, nq_or, nq_and, nq_nd, ml_cl, nq_in, nq_le, nq_nle, nq_lt, nq_nlt, nq_eq, nq_ne, nq_eqT, Option.bind_some, Bool.false_eq_true, Bool.true_eq_false, ↓reduceIte, a1]
    | succ t ih =>
      intro k f m0 hk hf a1 a2 a3 a4
      obtain ⟨f, rfl⟩ : ∃ z, f = z + 1 := ⟨f - 1, by omega⟩
      rcases vz_c (m' := m0) (fun p k q => a2 p k (by omega) (by omega)) h with ⟨rfl, _⟩ | ⟨ok, hR, hF, hP⟩
      · omega
      have := ih (k + 1) f (am_pI m0 31 k (cI n cu kd ow k)) (by omega) (by omega) (by rw [ml_o _ _ (by omega)]; exact a1) (fun p j q1 q2 => by rw [ml_o _ _ (by omega)]; exact a2 p j q1 q2) a3 (fun c hc => by
        by_cases z : c = k
        · subst z; exact ml_s _ _ _ _
        · rw [ml_o _ _ (by omega)]; exact a4 c (by omega))
      obtain ⟨m', b1, b2⟩ := this
      refine ⟨m', ?_, b2⟩
      rw [f_Frieze_tellCounts_b15, ← b1, hc_ct ok hR hF (show k < n by omega)]
      simp (disch := omega) only [nq0, nq1, nq2, nq3, nq4, nq5, nq6, nq7, nq8, nq9, nq10, nq11, nq20, nq24, nq27, nq30, nq40, nI_add, pk_sub, pk_mul, nq_div, nq_rem, nq_shl1, nq_shl2, nq_bit1, nq_bit0, nq_or, nq_and, nq_nd, ml_cl, nq_in, nq_le, nq_nle, nq_lt, nq_nlt, nq_eq, nq_ne, nq_eqT, Option.bind_some, Bool.false_eq_true, Bool.true_eq_false, ↓reduceIte, a1]
  have := L n 0 am_F (am_pI m 30 2 (nI n)) (by omega) (by show n < 5000; omega) (ml_s _ _ _ _) (fun p j q1 q2 => ml_o _ _ (by omega)) rfl (fun c hc => absurd hc (by omega))
  obtain ⟨m', b1, b2⟩ := this
  refine ⟨m', ?_, b2⟩
  unfold f_Frieze_tellCounts
  rw [e1, nq9, nq_min n 9 (by omega) (by omega), Nat.min_eq_left h9]
  exact b1
theorem tell_sm {m m' : am_Mm} (h : ∀ p k, p ≠ 30 → p ≠ 31 → m'.1 p k = m.1 p k) : sm m m' := fun p k q => h p k (fun z => by
  subst z
  simp only [rl_fp, rl_StatF, rl_RowsF, rl_TapeF, rl_AskF, rl_PolyF, rl_ImgF] at q
  omega) (fun z => by
  subst z
  simp only [rl_fp, rl_StatF, rl_RowsF, rl_TapeF, rl_AskF, rl_PolyF, rl_ImgF] at q
  omega)
/-- a sum over bits -/
def sI (g : Nat → Int32) (S : Nat) : Nat → Int32
  | 0 => 0
  | k + 1 => if S.testBit k then sI g S k + g k else sI g S k
theorem hc_sum {m : am_Mm} {n S : Nat} {g : Nat → Int32} (h9 : n ≤ 9) (hS : S < 2 ^ 31) (e1 : m.1 30 2 = nI n) (e2 : ∀ c, c < n → m.1 31 c = g c) : f_Frieze_sumOf (nI S) m = some (sI g S n, m) := by
  have L : ∀ t k f, k + t = n → t < f → f_Frieze_sumOf_b4 f (nI S) (sI g S k) (nI k) m = some (sI g S n, m) := by
    intro t
    induction t with
    | zero =>
      intro k f hk hf
      obtain ⟨f, rfl⟩ : ∃ z, f = z + 1 := ⟨f - 1, by omega⟩
      have hk : k = n := by omega
      subst hk
      rw [f_Frieze_sumOf_b4]
      simp (disch := omega) only [nq0, nq1, nq2, nq3, nq4, nq5, nq6, nq7, nq8, nq9, nq10, nq11, nq20, nq24, nq27, nq30, nq40, nI_add, pk_sub, pk_mul, nq_div, nq_rem, nq_shl1, nq_shl2, nq_bit1, nq_bit0, nq_or, nq_and, nq_nd, ml_cl, nq_in, nq_le, nq_nle, nq_lt, nq_nlt, nq_eq, nq_ne, nq_eqT, Option.bind_some, Bool.false_eq_true, Bool.true_eq_false, ↓reduceIte, e1]
    | succ t ih =>
      intro k f hk hf
      obtain ⟨f, rfl⟩ : ∃ z, f = z + 1 := ⟨f - 1, by omega⟩
      rw [f_Frieze_sumOf_b4, ← ih (k + 1) f (by omega) (by omega), sI]
      by_cases hb : S.testBit k = true
      · rw [if_pos hb]
        simp (disch := omega) only [nq0, nq1, nq2, nq3, nq4, nq5, nq6, nq7, nq8, nq9, nq10, nq11, nq20, nq24, nq27, nq30, nq40, nI_add, pk_sub, pk_mul, nq_div, nq_rem, nq_shl1, nq_shl2, nq_bit1, nq_bit0, nq_or, nq_and, nq_nd, ml_cl, nq_in, nq_le, nq_nle, nq_lt, nq_nlt, nq_eq, nq_ne, nq_eqT, Option.bind_some, Bool.false_eq_true, Bool.true_eq_false, ↓reduceIte, e1, hb, e2 k (by omega), f_Frieze_sumOf_b30]
      · rw [if_neg hb]
        simp (disch := omega) only [nq0, nq1, nq2, nq3, nq4, nq5, nq6, nq7, nq8, nq9, nq10, nq11, nq20, nq24, nq27, nq30, nq40, nI_add, pk_sub, pk_mul, nq_div, nq_rem, nq_shl1, nq_shl2, nq_bit1, nq_bit0, nq_or, nq_and, nq_nd, ml_cl, nq_in, nq_le, nq_nle, nq_lt, nq_nlt, nq_eq, nq_ne, nq_eqT, Option.bind_some, Bool.false_eq_true, Bool.true_eq_false, ↓reduceIte, e1, hb, f_Frieze_sumOf_b30]
  exact L n 0 am_F (by omega) (by show n < 5000; omega)
theorem sI_all (g : Nat → Int32) {S : Nat} : ∀ n, (∀ c, c < n → S.testBit c = true) → sI g S n = sI g (2 ^ n - 1) n
  | 0, _ => rfl
  | n + 1, h => by
    rw [sI, sI, h n (by omega), Nat.testBit_two_pow_sub_one, decide_eq_true (Nat.lt_succ_self n)]
    rw [if_pos rfl, if_pos rfl, sI_all g n (fun c hc => h c (by omega)), ← sI_all g (S := 2 ^ (n + 1) - 1) n (fun c hc => by rw [Nat.testBit_two_pow_sub_one]; exact decide_eq_true (by omega))]
theorem pw9 {n : Nat} (h : n ≤ 9) : 2 ^ n ≤ 512 ∧ 1 ≤ 2 ^ n := ⟨Nat.pow_le_pow_right (n := 2) (j := 9) (by decide) h, Nat.one_le_two_pow⟩
theorem pz_count : ∀ a0 : Int32, am_Pz rl_All (f_C_count a0) (f_M_count a0) := by
  intro x m h
  obtain ⟨n, cu, kd, ow, V⟩ := vz_of h
  obtain ⟨h9, e1, e2⟩ := vz_n V
  unfold f_C_count
  by_cases x0 : x = 0
  · have L : ∀ t k f g (z : Int32), k + t = 8 → t < f → t < g → ∃ r, f_C_rowsMade_b4 f z (nI k) m = some (r, m) ∧ f_M_count_b42 g z (nI k) m = some (r, m) := by
      intro t
      induction t with
      | zero =>
        intro k f g z hk hf hg
        obtain ⟨f, rfl⟩ : ∃ z, f = z + 1 := ⟨f - 1, by omega⟩
        obtain ⟨g, rfl⟩ : ∃ z, g = z + 1 := ⟨g - 1, by omega⟩
        have hk : k = 8 := by omega
        subst hk
        exact ⟨z, by rw [f_C_rowsMade_b4]; simp (disch := omega) only [nq0, nq1, nq2, nq3, nq4, nq5, nq6, nq7, nq8, nq9, nq10, nq11, nq20, nq24, nq27, nq30, nq40, nI_add, pk_sub, pk_mul, nq_div, nq_rem, nq_shl1, nq_shl2, nq_bit1, nq_bit0, nq_or, nq_and, nq_nd, ml_cl, nq_in, nq_le, nq_nle, nq_lt, nq_nlt, nq_eq, nq_ne, nq_eqT, Option.bind_some, Bool.false_eq_true, Bool.true_eq_false, ↓reduceIte], by rw [f_M_count_b42]; simp (disch := omega) only [nq0, nq1, nq2, nq3, nq4, nq5, nq6, nq7, nq8, nq9, nq10, nq11, nq20, nq24, nq27, nq30, nq40, nI_add, pk_sub, pk_mul, nq_div, nq_rem, nq_shl1, nq_shl2, nq_bit1, nq_bit0, nq_or, nq_and, nq_nd, ml_cl, nq_in, nq_le, nq_nle, nq_lt, nq_nlt, nq_eq, nq_ne, nq_eqT, Option.bind_some, Bool.false_eq_true, Bool.true_eq_false, ↓reduceIte]⟩
      | succ t ih =>
        intro k f g z hk hf hg
        obtain ⟨f, rfl⟩ : ∃ z, f = z + 1 := ⟨f - 1, by omega⟩
        obtain ⟨g, rfl⟩ : ∃ z, g = z + 1 := ⟨g - 1, by omega⟩
        rw [f_C_rowsMade_b4, f_M_count_b42]
        unfold f_C_rowsMade_b25 f_M_count_b63
        rw [if_neg (show ¬ (8 : Int32) ≤ nI k from nI_ge (show k < 8 by omega) (by decide)), if_neg (show ¬ (8 : Int32) ≤ nI k from nI_ge (show k < 8 by omega) (by decide)), if_pos (am_in_nI (by omega) (by omega)), if_pos (am_in_nI (by omega) (by omega)), ml_rw (by omega), ml_cl (by omega), nI_1]
        rcases ml_made (show k < 8 by omega) h.2.1 with ⟨q1, q2⟩ | ⟨q1, q2, _⟩
        · rw [if_pos q1, if_pos q2, Int32.add_zero]
          exact ih (k + 1) f g z (by omega) (by omega) (by omega)
        · rw [if_neg q1, if_neg q2]
          exact ih (k + 1) f g (z + 1) (by omega) (by omega) (by omega)
    obtain ⟨r, r1, r2⟩ := L 8 0 am_F am_F 0 (by omega) (by show 8 < 5000; omega) (by show 8 < 5000; omega)
    have r1' : f_C_rowsMade m = some (r, m) := r1
    have r2' : f_M_count_b42 am_F 0 0 m = some (r, m) := r2
    refine ⟨r, m, m, by rw [if_pos x0, r1']; rfl, ?_, h⟩
    unfold f_M_count
    rw [if_pos x0, r2']
  rw [if_neg x0]
  by_cases x1 : x = 1
  · refine ⟨nI n, m, m, by rw [if_pos x1, e1], ?_, h⟩
    unfold f_M_count
    rw [if_neg x0, if_pos x1, e2]
  rw [if_neg x1]
  by_cases x2 : x = 2
  · rcases V with ⟨rfl, q⟩ | ⟨⟨h4, _, hv, _⟩, _, hF, hP⟩
    · refine ⟨nI 0, m, m, by rw [if_pos x2, q.2.1]; rfl, ?_, h⟩
      unfold f_M_count
      rw [if_neg x0, if_neg x1, if_pos x2, q.2.2.2.1, nq_size (by omega)]; rfl
    · refine ⟨nI (pc cu 30), m, m, by rw [if_pos x2, hF.2.1, hc_bc h4 h9 hv]; rfl, ?_, h⟩
      unfold f_M_count
      rw [if_neg x0, if_neg x1, if_pos x2, (rl_Pol_0 hP).2, hm_bc h4 h9 hv]; rfl
  rw [if_neg x2]
  by_cases x3 : x = 3
  · obtain ⟨m1, t1, t2, t3, t4, t5⟩ := hc_tell V
    have s := tell_sm t4
    have p9 := pw9 h9
    have hs := hc_sum (S := 2 ^ n - 1) h9 (by omega) t2 t3
    have V1 := vz_c (m' := m1) (fun p k q => t4 p k (by omega) (by omega)) V
    have L : ∀ t k f, k + t = n → t < f → f_M_count_b92 f (sI (cI n cu kd ow) (2 ^ n - 1) k) (nI k) m1 = some (sI (cI n cu kd ow) (2 ^ n - 1) n, m1) := by
      intro t
      induction t with
      | zero =>
        intro k f hk hf
        obtain ⟨f, rfl⟩ : ∃ z, f = z + 1 := ⟨f - 1, by omega⟩
        have hk : k = n := by omega
        subst hk
        rw [f_M_count_b92, (vz_n V1).2.2, if_pos (nI_le (Nat.le_refl _) (by omega))]
      | succ t ih =>
        intro k f hk hf
        obtain ⟨f, rfl⟩ : ∃ z, f = z + 1 := ⟨f - 1, by omega⟩
        rw [f_M_count_b92, (vz_n V1).2.2, if_neg (nI_ge (by omega) (by omega)), ← ih (k + 1) f (by omega) (by omega), sI, Nat.testBit_two_pow_sub_one, decide_eq_true (show k < n by omega)]
        rcases V1 with ⟨rfl, _⟩ | ⟨ok, _, _, hP⟩
        · omega
        rw [hm_ct ok hP (by omega), Option.bind_some, nI_1]
        rfl
    refine ⟨sI (cI n cu kd ow) (2 ^ n - 1) n, m1, m1, ?_, ?_, sm_All s h⟩
    · rw [if_pos x3, t1, Option.bind_some, t4 _ _ (by omega) (by omega), e1, nq1, nq_shl1 (by omega), pk_sub (by omega), hs]; rfl
    · unfold f_M_count
      rw [if_neg x0, if_neg x1, if_neg x2, if_pos x3]
      exact L n 0 am_F (by omega) (by show n < 5000; omega)
  rw [if_neg x3]
  by_cases x4 : x = 4
  · have : ∃ a, m.1 26 3 = nI a ∧ m.1 63 8 = nI a := by
      rcases plv_of h with ⟨_, q1, q2⟩ | ⟨n, a, cu, kd, ow, H⟩
      · exact ⟨0, q1, q2⟩
      · exact ⟨a, H.2.1, H.2.2.1⟩
    obtain ⟨a, q1, q2⟩ := this
    refine ⟨nI a, m, m, by rw [if_pos x4, q1], ?_, h⟩
    unfold f_M_count
    rw [if_neg x0, if_neg x1, if_neg x2, if_neg x3, if_pos x4, q2]
  rw [if_neg x4]
  by_cases x5 : x = 5
  · obtain ⟨_, l, _, q1, q2, _⟩ := h.2.2.1
    refine ⟨nI l, m, m, by rw [if_pos x5, q1], ?_, h⟩
    unfold f_M_count
    rw [if_neg x0, if_neg x1, if_neg x2, if_neg x3, if_neg x4, if_pos x5, q2]
  rw [if_neg x5]
  refine ⟨_, m, m, rfl, ?_, h⟩
  unfold f_M_count
  rw [if_neg x0, if_neg x1, if_neg x2, if_neg x3, if_neg x4, if_neg x5]
theorem pz_sets : ∀ a0 a1 : Int32, am_Pz rl_All (f_C_sets a0 a1) (f_M_sets a0 a1) := by
  intro x y m h
  unfold f_C_sets
  rcases vw_of h with hn | ⟨n, cu, kd, ow, V⟩
  · rw [hc_there hn.1 (by omega)]
    refine ⟨_, m, m, rfl, ?_, h⟩
    unfold f_M_sets
    rw [hm_there hn.2.2.1 (by omega)]; rfl
  · have V0 := V
    obtain ⟨ok, hR, hF, hP⟩ := V
    have h4 := ok.1
    have h9 := ok.2.1
    rw [hc_th1 hF.1 h4 h9, Option.bind_some, if_neg ne01]
    by_cases g1 : (-99 : Int32) ≤ x ∧ x ≤ 99
    rotate_left
    · refine ⟨-1000001, m, m, ?_, ?_, h⟩
      · by_cases z : x < -99
        · rw [if_pos z]
        · rw [if_neg z, if_pos (ml_lt_of_nle (fun w => g1 ⟨ml_le_of_nlt z, w⟩))]
      · unfold f_M_sets
        rw [hm_th1 hP.1 h4 h9, Option.bind_some, if_neg ne01, ml_in0 (-99) 99 (-99) 99 rfl rfl g1]; rfl
    rw [if_neg (ml_nlt_of_le g1.1), if_neg (ml_nlt_of_le g1.2)]
    by_cases g2 : (0 : Int32) ≤ y ∧ y ≤ 2
    rotate_left
    · refine ⟨-1000001, m, m, ?_, ?_, h⟩
      · by_cases z : y < 0
        · rw [if_pos z]
        · rw [if_neg z, if_neg (fun w => g2 ⟨ml_le_of_nlt z, w⟩)]
      · unfold f_M_sets
        rw [hm_th1 hP.1 h4 h9, Option.bind_some, if_neg ne01, ml_in1 (-99) 99 (-99) 99 rfl rfl g1, Option.bind_some, if_neg ml_n10, ml_in0 0 2 0 2 rfl rfl g2]; rfl
    rw [if_neg (ml_nlt_of_le g2.1), if_pos g2.2]
    obtain ⟨m1, t1, t2, t3, t4, t5⟩ := hc_tell (Or.inr V0)
    have s := tell_sm t4
    have p9 := pw9 h9
    obtain ⟨ok1, hR1, hF1, hP1⟩ := vw_c (m' := m1) (fun p k q => t4 p k (by omega) (by omega)) V0
    rw [t1, Option.bind_some, hF1.1, nq1, nq_shl1 (show n < 32 by omega), pk_sub (by omega)]
    -- the model's sum
    have K : ∀ k62 (x4 x5 x6 : Int32) (S : Nat), S < 2 ^ 31 → ∀ t c f, c + t = n → t < f → f_M_sets_b76 k62 f x y (nI n) x4 x5 x6 (nI S) (sI (cI n cu kd ow) S c) (nI c) m1 = if sI (cI n cu kd ow) S n = x then f_M_sets_b140 k62 x y (nI n) (x4 + (1 : Int32)) (x5 &&& nI S) (x6 ||| nI S) (nI S) m1 else f_M_sets_b140 k62 x y (nI n) x4 x5 x6 (nI S) m1 := by
      intro k62 x4 x5 x6 S hS t
      induction t with
      | zero =>
        intro c f hk hf
        obtain ⟨f, rfl⟩ : ∃ z, f = z + 1 := ⟨f - 1, by omega⟩
        have hk : c = n := by omega
        subst hk
        rw [f_M_sets_b76, if_pos (nI_le (Nat.le_refl _) (by omega))]
      | succ t ih =>
        intro c f hk hf
        obtain ⟨f, rfl⟩ : ∃ z, f = z + 1 := ⟨f - 1, by omega⟩
        rw [f_M_sets_b76, if_neg (nI_ge (by omega) (by omega)), ← ih (c + 1) f (by omega) (by omega), sI]
        unfold f_M_sets_b108
        by_cases hb : S.testBit c = true
        · rw [nq_has1 hS (by omega) hb, Option.bind_some, if_neg ne01, hm_ct ok1 hP1 (by omega), Option.bind_some, if_pos hb, nI_1]
        · rw [nq_has0 hS (by omega) hb, Option.bind_some, if_pos e00, if_neg hb, Int32.add_zero, nI_1]
    have L : ∀ t S f g (z : Nat) (x5 x6 : Int32), S + t = 2 ^ n → t < f → t < g → z ≤ S → ∃ r, f_C_sets_b73 f x y (nI (2 ^ n - 1)) (nI z) x5 x6 (nI S) m1 = some (r, m1) ∧ f_M_sets_b62 g x y (nI n) (nI z) x5 x6 (nI S) m1 = some (r, m1) := by
      intro t
      induction t with
      | zero =>
        intro S f g z x5 x6 hS hf hg hz
        obtain ⟨f, rfl⟩ : ∃ z, f = z + 1 := ⟨f - 1, by omega⟩
        obtain ⟨g, rfl⟩ : ∃ z, g = z + 1 := ⟨g - 1, by omega⟩
        have hS : S = 2 ^ n := by omega
        subst hS
        rw [f_C_sets_b73, f_M_sets_b62, if_pos (nI_lt (by omega) (by omega)), nq1, nq_shl1 (by omega), if_pos (nI_le (Nat.le_refl _) (by omega))]
        by_cases y0 : y = 0
        · rw [if_pos y0, if_pos y0]; exact ⟨_, rfl, rfl⟩
        rw [if_neg y0, if_neg y0]
        by_cases y2 : y = 2
        · rw [if_pos y2, if_pos y2]; exact ⟨_, rfl, rfl⟩
        rw [if_neg y2, if_neg y2]
        by_cases z0 : z = 0
        · subst z0; exact ⟨_, rfl, rfl⟩
        · rw [if_neg (show ¬ nI z = (0 : Int32) from fun w => z0 ((nI_eq (b := 0) (by omega) (by omega)).mp w)), if_neg (show ¬ nI z ≤ (0 : Int32) from nI_ge (show 0 < z by omega) (by omega))]; exact ⟨_, rfl, rfl⟩
      | succ t ih =>
        intro S f g z x5 x6 hS hf hg hz
        obtain ⟨f, rfl⟩ : ∃ z, f = z + 1 := ⟨f - 1, by omega⟩
        obtain ⟨g, rfl⟩ : ∃ z, g = z + 1 := ⟨g - 1, by omega⟩
        have K0 := K (f_M_sets_b62 g) (nI z) x5 x6 S (by omega) n 0 am_F (by omega) (by show n < 5000; omega)
        have K1 : f_M_sets_b76 (f_M_sets_b62 g) am_F x y (nI n) (nI z) x5 x6 (nI S) 0 0 m1 = _ := K0
        rw [f_C_sets_b73, f_M_sets_b62, if_neg (nI_nlt (by omega) (by omega)), nq1, nq_shl1 (by omega), if_neg (nI_ge (by omega) (by omega)), hc_sum h9 (by omega) t2 t3, Option.bind_some, K1]
        unfold f_C_sets_b109 f_M_sets_b140
        dsimp only
        by_cases w : sI (cI n cu kd ow) S n = x
        · rw [if_pos w, if_pos w, nI_1, nI_1, ← nq1, nI_1]
          exact ih (S + 1) f g (z + 1) _ _ (by omega) (by omega) (by omega) (by omega)
        · rw [if_neg w, if_neg w, nI_1]
          exact ih (S + 1) f g z _ _ (by omega) (by omega) (by omega) (by omega)
    obtain ⟨r, r1, r2⟩ := L (2 ^ n) 0 am_F am_F 0 (nI (2 ^ n - 1)) 0 (by omega) (by show _ < 5000; omega) (by show _ < 5000; omega) (by omega)
    refine ⟨r, m1, m1, r1, ?_, sm_All s h⟩
    unfold f_M_sets
    rw [hm_th1 hP1.1 h4 h9, Option.bind_some, if_neg ne01, ml_in1 (-99) 99 (-99) 99 rfl rfl g1, Option.bind_some, if_neg ml_n10, ml_in1 0 2 0 2 rfl rfl g2, Option.bind_some, if_neg ml_n10, hP1.1, nq1, nq_shl1 (by omega), pk_sub (by omega)]
    exact r2
