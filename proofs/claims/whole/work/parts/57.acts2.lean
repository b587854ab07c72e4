/-! ===== undo, become, number, cut, join, flip ===== -/
/-- all but the polygon stays -/
theorem rl_All_poly {m m' : am_Mm} (h : rl_All m) (e : ∀ p k, rl_fp p k → ¬ rl_PolyF p k → m'.1 p k = m.1 p k) (hp : rl_Poly m'.1) : rl_All m' := by
  refine ⟨rl_Stat_c (fun p k q => e p k (Or.inl q) ?_) h.1, rl_Rows_c (fun p k q => e p k (Or.inr (Or.inl q)) ?_) h.2.1, rl_Tape_c (fun p k q => e p k (Or.inr (Or.inr (Or.inl q))) ?_) h.2.2.1, rl_Ask_c (fun p k q => e p k (Or.inr (Or.inr (Or.inr (Or.inl q)))) ?_) h.2.2.2.1, hp, rl_Img_c (fun p k q => e p k (Or.inr (Or.inr (Or.inr (Or.inr (Or.inr q))))) ?_) h.2.2.2.2.2⟩
  · simp only [rl_StatF, rl_PolyF] at *; omega
  · simp only [rl_RowsF, rl_PolyF] at *; omega
  · simp only [rl_TapeF, rl_PolyF] at *; omega
  · simp only [rl_AskF, rl_PolyF] at *; omega
  · simp only [rl_ImgF, rl_PolyF] at *; omega
theorem hm_undo {m : am_Mm} {b : Nat} (hb : b < 24) (h : m.1 63 8 = nI (b + 1)) : ∃ m2, f_M_undo m = some (nI b, m2) ∧ m2.1 63 8 = nI b ∧ (∀ p k, ¬ (p = 63 ∧ k = 8) → ¬ (p = 67 ∧ k < 20) → m2.1 p k = m.1 p k) ∧ ∀ k, k < 20 → m2.1 67 k = m.1 70 (20 * b + k) := by
  have L : ∀ t k f (m0 : am_Mm), k + t = 20 → t < f → m0.1 63 8 = nI b → ∃ m2, f_M_undo_b22 f (nI k) m0 = some (nI b, m2) ∧ (∀ p j, ¬ (p = 67 ∧ k ≤ j ∧ j < 20) → m2.1 p j = m0.1 p j) ∧ ∀ j, k ≤ j → j < 20 → m2.1 67 j = m0.1 70 (20 * b + j) := by
    intro t
    induction t with
    | zero =>
      intro k f m0 hk hf e
      obtain ⟨f, rfl⟩ : ∃ z, f = z + 1 := ⟨f - 1, by omega⟩
      have hk : k = 20 := by omega
      subst hk
      refine ⟨m0, ?_, fun p j _ => rfl, fun j q1 q2 => absurd q1 (by omega)⟩
      rw [f_M_undo_b22]
      simp (disch := omega) only [nq0, nq1, nq2, nq3, nq4, nq5, nq6, nq7, nq8, nq9, nq10, nq11, nq20, nq24, nq27, nq30, nq40, nI_add, pk_sub, pk_mul, nq_div, nq_rem, nq_shl1, nq_shl2, nq_bit1, nq_bit0, nq_or, nq_and, nq_nd, ml_cl, nq_in, nq_le, nq_nle, nq_lt, nq_nlt, nq_eq, nq_ne, nq_eqT, Option.bind_some, Bool.false_eq_true, Bool.true_eq_false, ↓reduceIte, e]
    | succ t ih =>
      intro k f m0 hk hf e
      obtain ⟨f, rfl⟩ : ∃ z, f = z + 1 := ⟨f - 1, by omega⟩
      obtain ⟨m', e1, e3, e4⟩ := ih (k + 1) f (am_pI m0 67 k (m0.1 70 (20 * b + k))) (by omega) (by omega) (by rw [ml_o _ _ (by omega)]; exact e)
      refine ⟨m', ?_, fun p j q2 => ?_, fun j q1 q2 => ?_⟩
      · rw [f_M_undo_b22, ← e1]
        simp (disch := omega) only [nq0, nq1, nq2, nq3, nq4, nq5, nq6, nq7, nq8, nq9, nq10, nq11, nq20, nq24, nq27, nq30, nq40, nI_add, pk_sub, pk_mul, nq_div, nq_rem, nq_shl1, nq_shl2, nq_bit1, nq_bit0, nq_or, nq_and, nq_nd, ml_cl, nq_in, nq_le, nq_nle, nq_lt, nq_nlt, nq_eq, nq_ne, nq_eqT, Option.bind_some, Bool.false_eq_true, Bool.true_eq_false, ↓reduceIte, e]
      · rw [e3 p j (by omega), ml_o _ _ (by omega)]
      · by_cases z : j = k
        · subst z
          rw [e3 _ _ (by omega), ml_s]
        · rw [e4 j (by omega) q2, ml_o _ _ (by omega)]
  obtain ⟨m2, e1, e2, e3⟩ := L 20 0 am_F (am_pI m 63 8 (nI b)) (by omega) (by show 20 < 5000; omega) (ml_s _ _ _ _)
  refine ⟨m2, ?_, ?_, fun p k q1 q2 => ?_, fun k hk => ?_⟩
  · rw [← e1]
    unfold f_M_undo
    simp (disch := omega) only [nq0, nq1, nq2, nq3, nq4, nq5, nq6, nq7, nq8, nq9, nq10, nq11, nq20, nq24, nq27, nq30, nq40, nI_add, pk_sub, pk_mul, nq_div, nq_rem, nq_shl1, nq_shl2, nq_bit1, nq_bit0, nq_or, nq_and, nq_nd, ml_cl, nq_in, nq_le, nq_nle, nq_lt, nq_nlt, nq_eq, nq_ne, nq_eqT, Option.bind_some, Bool.false_eq_true, Bool.true_eq_false, ↓reduceIte, h, Nat.add_sub_cancel]
  · rw [e2 _ _ (by omega), ml_s]
  · rw [e2 _ _ (by omega), ml_o _ _ q1]
  · rw [e3 k (by omega) hk, ml_o _ _ (by omega)]
theorem hc_undo {m : am_Mm} {n b : Nat} {cu : Nat → Nat} {kd ow : Nat → Nat → Nat} (H : plv m.1 n (b + 1) cu kd ow) : ∃ m1, f_Acts_takeBack m = some m1 ∧ m1.1 26 3 = nI b ∧ (∀ p k, ¬ (p = 26 ∧ k = 3) → ¬ (13 ≤ p ∧ p ≤ 15) → m1.1 p k = m.1 p k) ∧ rl_Fig m1.1 13 n (cu b) (kd b) (ow b) := by
  obtain ⟨ha, e1, e2, hR, ⟨f1, f2, f3⟩, hP, ok, hi⟩ := H
  have h9 := (ok 0 (by omega)).2.1
  obtain ⟨_, hA⟩ := hi b (by omega)
  rcases hA with ⟨a1, a2, a3⟩ | ⟨d, hd, a1, a2, ⟨a3, a4, a5, a6⟩ | ⟨a3, a4, a5, a6⟩⟩
  · refine ⟨am_pI (am_pI m 26 3 (nI b)) 13 3 (nI (cu b)), ?_, ?_, fun p k q1 q2 => ?_, ?_, ml_s _ _ _ _, fun c hc => ?_⟩
    · unfold f_Acts_takeBack
      simp (disch := omega) only [nq0, nq1, nq2, nq3, nq4, nq5, nq6, nq7, nq8, nq9, nq10, nq11, nq20, nq24, nq27, nq30, nq40, nI_add, pk_sub, pk_mul, nq_div, nq_rem, nq_shl1, nq_shl2, nq_bit1, nq_bit0, nq_or, nq_and, nq_nd, ml_cl, nq_in, nq_le, nq_nle, nq_lt, nq_nlt, nq_eq, nq_ne, nq_eqT, Option.bind_some, Bool.false_eq_true, Bool.true_eq_false, ↓reduceIte, e1, Nat.add_sub_cancel, ml_s, ml_o, a1, a2]
    · rw [ml_o _ _ (by omega), ml_s]
    · rw [ml_o _ _ (by omega), ml_o _ _ q1]
    · rw [ml_o _ _ (by omega), ml_o _ _ (by omega)]; exact f1
    · rw [ml_o _ _ (by omega), ml_o _ _ (by omega), ml_o _ _ (by omega), ml_o _ _ (by omega), ← (a3 c hc).1, ← (a3 c hc).2]
      exact f3 c hc
  · refine ⟨am_pI (am_pI m 26 3 (nI b)) 14 d (nI (kd b d)), ?_, ?_, fun p k q1 q2 => ?_, ?_, ?_, fun c hc => ?_⟩
    · unfold f_Acts_takeBack f_Acts_takeBack_b99
      simp (disch := omega) only [nq0, nq1, nq2, nq3, nq4, nq5, nq6, nq7, nq8, nq9, nq10, nq11, nq20, nq24, nq27, nq30, nq40, nI_add, pk_sub, pk_mul, nq_div, nq_rem, nq_shl1, nq_shl2, nq_bit1, nq_bit0, nq_or, nq_and, nq_nd, ml_cl, nq_in, nq_le, nq_nle, nq_lt, nq_nlt, nq_eq, nq_ne, nq_eqT, Option.bind_some, Bool.false_eq_true, Bool.true_eq_false, ↓reduceIte, e1, Nat.add_sub_cancel, ml_s, ml_o, a1, a3, a4]
    · rw [ml_o _ _ (by omega), ml_s]
    · rw [ml_o _ _ (by omega), ml_o _ _ q1]
    · rw [ml_o _ _ (by omega), ml_o _ _ (by omega)]; exact f1
    · rw [ml_o _ _ (by omega), ml_o _ _ (by omega), ← a2]; exact f2
    · refine ⟨?_, ?_⟩
      · by_cases z : c = d
        · subst z; exact ml_s _ _ _ _
        · rw [ml_o _ _ (by omega), ml_o _ _ (by omega), ← a5 c hc z]; exact (f3 c hc).1
      · rw [ml_o _ _ (by omega), ml_o _ _ (by omega), ← a6 c hc]; exact (f3 c hc).2
  · refine ⟨am_pI (am_pI m 26 3 (nI b)) 15 d (nI (ow b d)), ?_, ?_, fun p k q1 q2 => ?_, ?_, ?_, fun c hc => ?_⟩
    · unfold f_Acts_takeBack f_Acts_takeBack_b99
      simp (disch := omega) only [nq0, nq1, nq2, nq3, nq4, nq5, nq6, nq7, nq8, nq9, nq10, nq11, nq20, nq24, nq27, nq30, nq40, nI_add, pk_sub, pk_mul, nq_div, nq_rem, nq_shl1, nq_shl2, nq_bit1, nq_bit0, nq_or, nq_and, nq_nd, ml_cl, nq_in, nq_le, nq_nle, nq_lt, nq_nlt, nq_eq, nq_ne, nq_eqT, Option.bind_some, Bool.false_eq_true, Bool.true_eq_false, ↓reduceIte, e1, Nat.add_sub_cancel, ml_s, ml_o, a1, a3, a4]
    · rw [ml_o _ _ (by omega), ml_s]
    · rw [ml_o _ _ (by omega), ml_o _ _ q1]
    · rw [ml_o _ _ (by omega), ml_o _ _ (by omega)]; exact f1
    · rw [ml_o _ _ (by omega), ml_o _ _ (by omega), ← a2]; exact f2
    · refine ⟨?_, ?_⟩
      · rw [ml_o _ _ (by omega), ml_o _ _ (by omega), ← a6 c hc]; exact (f3 c hc).1
      · by_cases z : c = d
        · subst z; exact ml_s _ _ _ _
        · rw [ml_o _ _ (by omega), ml_o _ _ (by omega), ← a5 c hc z]; exact (f3 c hc).2
theorem pz_undo : am_Pz rl_All f_C_undo f_M_undo := by
  intro m h
  have Z : m.1 26 3 = nI 0 → m.1 63 8 = nI 0 → ∃ r m1 m2, f_C_undo m = some (r, m1) ∧ f_M_undo m1 = some (r, m2) ∧ rl_All m2 := by
    intro e1 e2
    refine ⟨-1000002, m, m, ?_, ?_, h⟩
    · unfold f_C_undo; rw [e1]; rfl
    · unfold f_M_undo; rw [e2]; rfl
  rcases plv_of h with ⟨_, e1, e2⟩ | ⟨n, a, cu, kd, ow, H⟩
  · exact Z e1 e2
  · rcases a with _ | b
    · exact Z H.2.1 H.2.2.1
    · have hb : b + 1 ≤ 24 := H.1
      obtain ⟨m1, c1, c2, c3, c4⟩ := hc_undo H
      obtain ⟨m2, d1, d2, d3, d4⟩ := hm_undo (m := m1) (b := b) (by omega) (by rw [c3 _ _ (by omega) (by omega)]; exact H.2.2.1)
      refine ⟨nI b, m1, m2, ?_, d1, rl_All_poly h (fun p k q1 q2 => ?_) ?_⟩
      · unfold f_C_undo
        rw [H.2.1, if_neg (fun z => by have := (nI_eq (b := 0) (by omega) (by omega)).mp z; omega), c1, Option.bind_some, c2]
      · have w := nPoly q2
        rw [d3 _ _ w.2.2.2.2.2 (fun z => w.2.2.2.1 z.1), c3 _ _ (fun z => w.2.2.1 ⟨by omega, by omega⟩) w.1]
      · obtain ⟨ha, e1, e2, hR, hF, hP, ok, hi⟩ := H
        have h9 := (ok 0 (by omega)).2.1
        right
        refine ⟨n, b, cu, kd, ow, by omega, ?_, d2, ?_, ?_, ?_, fun i q => ok i (by omega), fun i q => ⟨?_, ?_⟩⟩
        · rw [d3 _ _ (by omega) (by omega)]; exact c2
        · have q : ∀ p k, (20 ≤ p ∧ p ≤ 24) → m2.1 p k = m.1 p k := fun p k q => by rw [d3 _ _ (by omega) (by omega), c3 _ _ (by omega) (by omega)]
          unfold rl_Ring at *
          simp (disch := omega) only [Nat.reduceAdd, q]
          exact hR
        · have q : ∀ p k, (13 ≤ p ∧ p ≤ 15) → m2.1 p k = m1.1 p k := fun p k q => by rw [d3 _ _ (by omega) (by omega)]
          unfold rl_Fig at *
          simp (disch := omega) only [Nat.reduceAdd, q]
          exact c4
        · exact rl_Pol_c h9 (fun k hk => by rw [Nat.zero_add, d4 k hk, c3 _ _ (by omega) (by omega)]) (hi b (by omega)).1
        · exact rl_Pol_c h9 (fun k hk => by rw [d3 _ _ (by omega) (by omega), c3 _ _ (by omega) (by omega)]) (hi i (by omega)).1
        · exact rl_Act_c (fun p p1 p2 => by rw [d3 _ _ (by omega) (by omega), c3 _ _ (by omega) (by omega)]) (hi i (by omega)).2
theorem ne01 : ¬ nI 1 = (0 : Int32) := by decide
theorem pz_become : ∀ a0 a1 : Int32, am_Pz rl_All (f_C_become a0 a1) (f_M_become a0 a1) := by
  intro x y m h
  unfold f_C_become
  rcases plv_of h with ⟨hn, e1, e2⟩ | ⟨n, a, cu, kd, ow, H⟩
  · rcases isC (Nat.zero_le 9) x with q | ⟨c, hc, _⟩
    · rw [q.1 m hn.1]
      refine ⟨_, m, m, rfl, ?_, h⟩
      unfold f_M_become
      rw [q.2 m hn.2.2.1]; rfl
    · omega
  · have V := plv_vw H
    have ha := H.1
    obtain ⟨hok, hR, hF, hP⟩ := V
    obtain ⟨h4, h9, hv, hk⟩ := hok
    rcases isC h9 x with q | ⟨c, hc, rfl, q1, q2⟩
    · rw [q.1 m hF.1]
      refine ⟨_, m, m, rfl, ?_, h⟩
      unfold f_M_become
      rw [q.2 m hP.1]; rfl
    · rw [q1 m hF.1, Option.bind_some, if_neg ne01]
      by_cases y1 : (1 : Int32) ≤ y ∧ y ≤ 5
      rotate_left
      · refine ⟨-1000001, m, m, ?_, ?_, h⟩
        · by_cases z : y < 1
          · rw [if_pos z]
          · rw [if_neg z, if_neg (fun w => y1 ⟨ml_le_of_nlt z, w⟩)]
        · unfold f_M_become
          rw [q2 m hP.1, Option.bind_some, if_neg ne01, ml_in0 1 5 1 5 rfl rfl y1]; rfl
      obtain ⟨k, hk1, hk5, rfl⟩ : ∃ k : Nat, 1 ≤ k ∧ k ≤ 5 ∧ y = nI k := by
        have z1 := y1.1
        have z2 := y1.2
        rw [Int32.le_iff_toInt_le] at z1 z2
        have o1 : (1 : Int32).toInt = 1 := rfl
        have o5 : (5 : Int32).toInt = 5 := rfl
        exact ⟨y.toInt.toNat, by omega, by omega, ml_of_toInt (by omega) (by omega)⟩
      have fk := (hF.2.2 c hc).1
      have kc := hk c hc
      have M0 : ∀ mm : am_Mm, mm.1 67 0 = nI n → rl_Pol mm.1 67 0 n (cu a) (kd a) (ow a) → f_M_become (nI c) (nI k) mm = if nI (kd a c) = nI k then some ((-1000002 : Int32), mm) else (f_M_keeps mm).bind fun q15 => if am_in ((2 : Int32) + ((2 : Int32) * nI c)) 20 = true then some (nI (kd a c), (am_pI q15 67 ((2 : Int32) + ((2 : Int32) * nI c)).toNatClampNeg (nI k))) else none := by
        intro mm z zP
        unfold f_M_become
        rw [q2 mm z, Option.bind_some, if_neg ne01, ml_in1 1 5 1 5 rfl rfl y1, Option.bind_some, if_neg ml_n10, hm_kd h9 zP hc, Option.bind_some]
      by_cases same : kd a c = k
      · refine ⟨-1000002, m, m, ?_, ?_, h⟩
        · simp (disch := omega) only [nq0, nq1, nq2, nq3, nq4, nq5, nq6, nq7, nq8, nq9, nq10, nq11, nq20, nq24, nq27, nq30, nq40, nI_add, pk_sub, pk_mul, nq_div, nq_rem, nq_shl1, nq_shl2, nq_bit1, nq_bit0, nq_or, nq_and, nq_nd, ml_cl, nq_in, nq_le, nq_nle, nq_lt, nq_nlt, nq_eq, nq_ne, nq_eqT, Option.bind_some, Bool.false_eq_true, Bool.true_eq_false, ↓reduceIte, fk, same]
        · rw [M0 m hP.1 hP, if_pos (by rw [same])]
      · obtain ⟨mk, k1, k2⟩ := hc_keep ha H.2.1 (nI 1) (nI c) (nI (kd a c))
        have fr : ∀ p j, ¬ (p = 14 ∧ j = c) → ¬ (26 ≤ p ∧ p ≤ 29) → (am_pI mk 14 c (nI k)).1 p j = m.1 p j := fun p j q1 q2 => by rw [ml_o _ _ q1, k2.2.1 p j (by omega) (by omega)]
        have z67 : ∀ j, (am_pI mk 14 c (nI k)).1 67 j = m.1 67 j := fun j => fr _ _ (by omega) (by omega)
        obtain ⟨mk2, k3, k4⟩ := hm_keep (m := am_pI mk 14 c (nI k)) ha (by rw [fr _ _ (by omega) (by omega)]; exact H.2.2.1)
        have g : ∀ j, mk2.1 67 j = m.1 67 j := fun j => by rw [k4.2.1 67 j (by omega) (by omega), z67]
        refine ⟨nI (kd a c), am_pI mk 14 c (nI k), am_pI mk2 67 (2 + 2 * c) (nI k), ?_, ?_, ?_⟩
        · simp (disch := omega) only [nq0, nq1, nq2, nq3, nq4, nq5, nq6, nq7, nq8, nq9, nq10, nq11, nq20, nq24, nq27, nq30, nq40, nI_add, pk_sub, pk_mul, nq_div, nq_rem, nq_shl1, nq_shl2, nq_bit1, nq_bit0, nq_or, nq_and, nq_nd, ml_cl, nq_in, nq_le, nq_nle, nq_lt, nq_nlt, nq_eq, nq_ne, nq_eqT, Option.bind_some, Bool.false_eq_true, Bool.true_eq_false, ↓reduceIte, fk, k1]
        · rw [M0 _ (by rw [z67]; exact hP.1) (rl_Pol_c h9 (fun j _ => z67 _) hP), if_neg (fun z => same ((nI_eq (by omega) (by omega)).mp z)), k3]
          simp (disch := omega) only [nq0, nq1, nq2, nq3, nq4, nq5, nq6, nq7, nq8, nq9, nq10, nq11, nq20, nq24, nq27, nq30, nq40, nI_add, pk_sub, pk_mul, nq_div, nq_rem, nq_shl1, nq_shl2, nq_bit1, nq_bit0, nq_or, nq_and, nq_nd, ml_cl, nq_in, nq_le, nq_nle, nq_lt, nq_nlt, nq_eq, nq_ne, nq_eqT, Option.bind_some, Bool.false_eq_true, Bool.true_eq_false, ↓reduceIte]
        · refine act_all h H k2 ⟨by omega, by omega⟩ rfl (sm_r _) k4 (cu' := cu a) (kd' := fun d => if d = c then k else kd a d) (ow' := ow a) ⟨h4, h9, hv, fun d hd => ?_⟩ ⟨?_, ?_, fun d hd => ⟨?_, ?_⟩⟩ ⟨?_, ?_, fun d hd => ⟨?_, ?_⟩⟩ ?_
          · have := hk d hd
            by_cases z : d = c
            · simp only [z, if_true]; exact ⟨hk1, hk5, (hk c hc).2.2⟩
            · simp only [z, if_false]; exact this
          · rw [fr _ _ (by omega) (by omega)]; exact hF.1
          · rw [fr _ _ (by omega) (by omega)]; exact hF.2.1
          · by_cases z : d = c
            · subst z; simp only [if_true]; exact ml_s _ _ _ _
            · simp only [z, if_false]; rw [fr _ _ (by omega) (by omega)]; exact (hF.2.2 d hd).1
          · rw [fr _ _ (by omega) (by omega)]; exact (hF.2.2 d hd).2
          · rw [ml_o _ _ (by omega), g]; exact hP.1
          · rw [ml_o _ _ (by omega), g]; exact hP.2.1
          · by_cases z : d = c
            · subst z; simp only [if_true]; rw [show 0 + 2 + 2 * d = 2 + 2 * d by omega]; exact ml_s _ _ _ _
            · simp only [z, if_false]; rw [ml_o _ _ (by omega), g]; exact (hP.2.2 d hd).1
          · rw [ml_o _ _ (by omega), g]; exact (hP.2.2 d hd).2
          · intro w b p1 p2 p3
            exact Or.inr ⟨c, hc, p2, rfl, Or.inl ⟨p1, p3, fun d hd hdc => if_neg hdc, fun d hd => rfl⟩⟩
theorem pz_number : ∀ a0 a1 : Int32, am_Pz rl_All (f_C_number a0 a1) (f_M_number a0 a1) := by
  intro x y m h
  unfold f_C_number
  rcases plv_of h with ⟨hn, e1, e2⟩ | ⟨n, a, cu, kd, ow, H⟩
  · rcases isC (Nat.zero_le 9) x with q | ⟨c, hc, _⟩
    · rw [q.1 m hn.1]
      refine ⟨_, m, m, rfl, ?_, h⟩
      unfold f_M_number
      rw [q.2 m hn.2.2.1]; rfl
    · omega
  · have V := plv_vw H
    have ha := H.1
    obtain ⟨hok, hR, hF, hP⟩ := V
    obtain ⟨h4, h9, hv, hk⟩ := hok
    rcases isC h9 x with q | ⟨c, hc, rfl, q1, q2⟩
    · rw [q.1 m hF.1]
      refine ⟨_, m, m, rfl, ?_, h⟩
      unfold f_M_number
      rw [q.2 m hP.1]; rfl
    · rw [q1 m hF.1, Option.bind_some, if_neg ne01]
      by_cases y1 : (0 : Int32) ≤ y ∧ y ≤ 9
      rotate_left
      · refine ⟨-1000001, m, m, ?_, ?_, h⟩
        · by_cases z : y < 0
          · rw [if_pos z]
          · rw [if_neg z, if_neg (fun w => y1 ⟨ml_le_of_nlt z, w⟩)]
        · unfold f_M_number
          rw [q2 m hP.1, Option.bind_some, if_neg ne01, ml_in0 0 9 0 9 rfl rfl y1]; rfl
      obtain ⟨k, hk9, rfl⟩ : ∃ k : Nat, k ≤ 9 ∧ y = nI k := by
        have z1 := y1.1
        have z2 := y1.2
        rw [Int32.le_iff_toInt_le] at z1 z2
        have o1 : (0 : Int32).toInt = 0 := rfl
        have o5 : (9 : Int32).toInt = 9 := rfl
        exact ⟨y.toInt.toNat, by omega, ml_of_toInt (by omega) (by omega)⟩
      have fk := (hF.2.2 c hc).2
      have pk := (rl_Pol_k hP hc).2.2.2
      have M0 : ∀ mm : am_Mm, mm.1 67 0 = nI n → f_M_number (nI c) (nI k) mm = (f_M_keeps mm).bind fun q11 => if am_in (((2 : Int32) + ((2 : Int32) * nI c)) + (1 : Int32)) 20 = true then if am_in (((2 : Int32) + ((2 : Int32) * nI c)) + (1 : Int32)) 20 = true then some ((q11.1 67 (((2 : Int32) + ((2 : Int32) * nI c)) + (1 : Int32)).toNatClampNeg), (am_pI q11 67 (((2 : Int32) + ((2 : Int32) * nI c)) + (1 : Int32)).toNatClampNeg (nI k))) else none else none := by
        intro mm z
        unfold f_M_number
        rw [q2 mm z, Option.bind_some, if_neg ne01, ml_in1 0 9 0 9 rfl rfl y1, Option.bind_some, if_neg ml_n10]
      obtain ⟨mk, k1, k2⟩ := hc_keep ha H.2.1 (nI 2) (nI c) (nI (ow a c))
      have fr : ∀ p j, ¬ (p = 15 ∧ j = c) → ¬ (26 ≤ p ∧ p ≤ 29) → (am_pI mk 15 c (nI k)).1 p j = m.1 p j := fun p j q1 q2 => by rw [ml_o _ _ q1, k2.2.1 p j (by omega) (by omega)]
      have z67 : ∀ j, (am_pI mk 15 c (nI k)).1 67 j = m.1 67 j := fun j => fr _ _ (by omega) (by omega)
      obtain ⟨mk2, k3, k4⟩ := hm_keep (m := am_pI mk 15 c (nI k)) ha (by rw [fr _ _ (by omega) (by omega)]; exact H.2.2.1)
      have g : ∀ j, mk2.1 67 j = m.1 67 j := fun j => by rw [k4.2.1 67 j (by omega) (by omega), z67]
      refine ⟨nI (ow a c), am_pI mk 15 c (nI k), am_pI mk2 67 (2 + 2 * c + 1) (nI k), ?_, ?_, ?_⟩
      · simp (disch := omega) only [nq0, nq1, nq2, nq3, nq4, nq5, nq6, nq7, nq8, nq9, nq10, nq11, nq20, nq24, nq27, nq30, nq40, nI_add, pk_sub, pk_mul, nq_div, nq_rem, nq_shl1, nq_shl2, nq_bit1, nq_bit0, nq_or, nq_and, nq_nd, ml_cl, nq_in, nq_le, nq_nle, nq_lt, nq_nlt, nq_eq, nq_ne, nq_eqT, Option.bind_some, Bool.false_eq_true, Bool.true_eq_false, ↓reduceIte, fk, k1]
      · rw [M0 _ (by rw [z67]; exact hP.1), k3]
        simp (disch := omega) only [nq0, nq1, nq2, nq3, nq4, nq5, nq6, nq7, nq8, nq9, nq10, nq11, nq20, nq24, nq27, nq30, nq40, nI_add, pk_sub, pk_mul, nq_div, nq_rem, nq_shl1, nq_shl2, nq_bit1, nq_bit0, nq_or, nq_and, nq_nd, ml_cl, nq_in, nq_le, nq_nle, nq_lt, nq_nlt, nq_eq, nq_ne, nq_eqT, Option.bind_some, Bool.false_eq_true, Bool.true_eq_false, ↓reduceIte, g, pk]
      · refine act_all h H k2 ⟨by omega, by omega⟩ rfl (sm_r _) k4 (cu' := cu a) (kd' := kd a) (ow' := fun d => if d = c then k else ow a d) ⟨h4, h9, hv, fun d hd => ?_⟩ ⟨?_, ?_, fun d hd => ⟨?_, ?_⟩⟩ ⟨?_, ?_, fun d hd => ⟨?_, ?_⟩⟩ ?_
        · have := hk d hd
          by_cases z : d = c
          · simp only [z, if_true]; exact ⟨(hk c hc).1, (hk c hc).2.1, hk9⟩
          · simp only [z, if_false]; exact this
        · rw [fr _ _ (by omega) (by omega)]; exact hF.1
        · rw [fr _ _ (by omega) (by omega)]; exact hF.2.1
        · rw [fr _ _ (by omega) (by omega)]; exact (hF.2.2 d hd).1
        · by_cases z : d = c
          · subst z; simp only [if_true]; exact ml_s _ _ _ _
          · simp only [z, if_false]; rw [fr _ _ (by omega) (by omega)]; exact (hF.2.2 d hd).2
        · rw [ml_o _ _ (by omega), g]; exact hP.1
        · rw [ml_o _ _ (by omega), g]; exact hP.2.1
        · rw [ml_o _ _ (by omega), g]; exact (hP.2.2 d hd).1
        · by_cases z : d = c
          · subst z; simp only [if_true]; rw [show 0 + 3 + 2 * d = 2 + 2 * d + 1 by omega]; exact ml_s _ _ _ _
          · simp only [z, if_false]; rw [ml_o _ _ (by omega), g]; exact (hP.2.2 d hd).2
        · intro w b p1 p2 p3
          exact Or.inr ⟨c, hc, p2, rfl, Or.inr ⟨p1, p3, fun d hd hdc => if_neg hdc, fun d hd => rfl⟩⟩
