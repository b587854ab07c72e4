/-! ===== acts: what is kept, what is undone ===== -/
/-- the class keeps an act -/
def kC (m m' : am_Mm) (a : Nat) (x1 x2 x3 : Int32) : Prop := m'.1 26 3 = nI (min a 23 + 1) ∧ (∀ p k, ¬ (p = 26 ∧ k = 3) → ¬ (27 ≤ p ∧ p ≤ 29) → m'.1 p k = m.1 p k) ∧
  m'.1 27 (min a 23) = x1 ∧ m'.1 28 (min a 23) = x2 ∧ m'.1 29 (min a 23) = x3 ∧ ∀ p i, 27 ≤ p → p ≤ 29 → i < min a 23 → m'.1 p i = m.1 p (i + (a - min a 23))
theorem hc_keep {m : am_Mm} {a : Nat} (ha : a ≤ 24) (h : m.1 26 3 = nI a) (x1 x2 x3 : Int32) : ∃ m', f_Acts_keep x1 x2 x3 m = some m' ∧ kC m m' a x1 x2 x3 := by
  have B : ∀ (m0 : am_Mm) (b : Nat), b < 24 → m0.1 26 3 = nI b → ∃ m', f_Acts_keep_b13 x1 x2 x3 m0 = some m' ∧ m'.1 26 3 = nI (b + 1) ∧ (∀ p k, ¬ (p = 26 ∧ k = 3) → ¬ (27 ≤ p ∧ p ≤ 29 ∧ k = b) → m'.1 p k = m0.1 p k) ∧ m'.1 27 b = x1 ∧ m'.1 28 b = x2 ∧ m'.1 29 b = x3 := by
    intro m0 b hb e
    refine ⟨am_pI (am_pI (am_pI (am_pI m0 27 b x1) 28 b x2) 29 b x3) 26 3 (nI (b + 1)), ?_, ml_s _ _ _ _, fun p k q1 q2 => ?_, ?_, ?_, ?_⟩
    · unfold f_Acts_keep_b13
      simp (disch := omega) only [nq0, nq1, nq2, nq3, nq4, nq5, nq6, nq7, nq8, nq9, nq10, nq11, nq20, nq24, nq27, nq30, nq40, nI_add, pk_sub, pk_mul, nq_div, nq_rem, nq_shl1, nq_shl2, nq_bit1, nq_bit0, nq_or, nq_and, nq_nd, ml_cl, nq_in, nq_le, nq_nle, nq_lt, nq_nlt, nq_eq, nq_ne, nq_eqT, Option.bind_some, Bool.false_eq_true, Bool.true_eq_false, ↓reduceIte, e, ml_o]
    · rw [ml_o _ _ (by omega), ml_o _ _ (by omega), ml_o _ _ (by omega), ml_o _ _ (by omega)]
    · rw [ml_o _ _ (by omega), ml_o _ _ (by omega), ml_o _ _ (by omega), ml_s]
    · rw [ml_o _ _ (by omega), ml_o _ _ (by omega), ml_s]
    · rw [ml_o _ _ (by omega), ml_s]
  unfold f_Acts_keep
  rcases Nat.lt_or_ge a 24 with q | q
  · rw [h, if_pos (show nI a < (24 : Int32) from nI_lt q (by decide))]
    obtain ⟨m', e1, e2, e3, e4, e5, e6⟩ := B m a q h
    have e : min a 23 = a := by omega
    refine ⟨m', e1, ?_⟩
    unfold kC
    rw [e, Nat.sub_self]
    exact ⟨e2, fun p k q1 q2 => e3 p k q1 (by omega), e4, e5, e6, fun p i q1 q2 q3 => by rw [e3 p i (by omega) (by omega), Nat.add_zero]⟩
  · have e : a = 24 := by omega
    subst e
    rw [h, if_neg (show ¬ nI 24 < (24 : Int32) from nI_nlt (Nat.le_refl 24) (by decide))]
    unfold f_Acts_forgetOldest
    rw [Option.bind_some, show (1 : Int32).toNatClampNeg = 1 from rfl, show (0 : Int32).toNatClampNeg = 0 from rfl, show (23 : Int32).toNatClampNeg = 23 from rfl]
    obtain ⟨m', e1, e2, e3, e4, e5, e6⟩ := B _ 23 (by omega) (ml_s _ 26 3 (23 : Int32))
    refine ⟨m', e1, e2, fun p k q1 q2 => ?_, e4, e5, e6, fun p i q1 q2 q3 => ?_⟩
    · rw [e3 p k q1 (by omega), ml_o _ _ q1, ml_pC, if_neg (by omega), ml_pC, if_neg (by omega), ml_pC, if_neg (by omega)]
    · have q3 : i < 23 := q3
      rw [e3 p i (by omega) (by omega), ml_o _ _ (by omega)]
      simp only [ml_pC]
      rcases (show p = 27 ∨ p = 28 ∨ p = 29 by omega) with rfl | rfl | rfl
      · rw [if_neg (by omega), if_neg (by omega), if_pos ⟨rfl, by omega, by omega⟩, show 1 + (i - 0) = i + (24 - min 24 23) by omega]
      · rw [if_neg (by omega), if_pos ⟨rfl, by omega, by omega⟩, if_neg (by omega), show 1 + (i - 0) = i + (24 - min 24 23) by omega]
      · rw [if_pos ⟨rfl, by omega, by omega⟩, if_neg (by omega), if_neg (by omega), show 1 + (i - 0) = i + (24 - min 24 23) by omega]
/-- the model keeps a polygon -/
def kM (m m' : am_Mm) (a : Nat) : Prop := m'.1 63 8 = nI (min a 23 + 1) ∧ (∀ p k, ¬ (p = 63 ∧ k = 8) → ¬ p = 70 → m'.1 p k = m.1 p k) ∧
  (∀ k, k < 20 → m'.1 70 (20 * min a 23 + k) = m.1 67 k) ∧ ∀ k, k < 20 * min a 23 → m'.1 70 k = m.1 70 (k + 20 * (a - min a 23))
theorem hm_keep {m : am_Mm} {a : Nat} (ha : a ≤ 24) (h : m.1 63 8 = nI a) : ∃ m', f_M_keeps m = some m' ∧ kM m m' a := by
  have B : ∀ b t k f (m0 : am_Mm), b ≤ 23 → k + t = 20 → t < f → m0.1 63 8 = nI b → ∃ m', f_M_keeps_b51 f (nI k) m0 = some m' ∧ m'.1 63 8 = nI (b + 1) ∧ (∀ p j, ¬ (p = 63 ∧ j = 8) → ¬ (p = 70 ∧ 20 * b + k ≤ j ∧ j < 20 * b + 20) → m'.1 p j = m0.1 p j) ∧ ∀ j, k ≤ j → j < 20 → m'.1 70 (20 * b + j) = m0.1 67 j := by
    intro b t
    induction t with
    | zero =>
      intro k f m0 hb hk hf e
      obtain ⟨f, rfl⟩ : ∃ z, f = z + 1 := ⟨f - 1, by omega⟩
      have hk : k = 20 := by omega
      subst hk
      refine ⟨am_pI m0 63 8 (nI (b + 1)), ?_, ml_s _ _ _ _, fun p j q1 q2 => ml_o _ _ q1, fun j q1 q2 => absurd q1 (by omega)⟩
      rw [f_M_keeps_b51]
      simp (disch := omega) only [nq0, nq1, nq2, nq3, nq4, nq5, nq6, nq7, nq8, nq9, nq10, nq11, nq20, nq24, nq27, nq30, nq40, nI_add, pk_sub, pk_mul, nq_div, nq_rem, nq_shl1, nq_shl2, nq_bit1, nq_bit0, nq_or, nq_and, nq_nd, ml_cl, nq_in, nq_le, nq_nle, nq_lt, nq_nlt, nq_eq, nq_ne, nq_eqT, Option.bind_some, Bool.false_eq_true, Bool.true_eq_false, ↓reduceIte, e]
    | succ t ih =>
      intro k f m0 hb hk hf e
      obtain ⟨f, rfl⟩ : ∃ z, f = z + 1 := ⟨f - 1, by omega⟩
      obtain ⟨m', e1, e2, e3, e4⟩ := ih (k + 1) f (am_pI m0 70 (20 * b + k) (m0.1 67 k)) hb (by omega) (by omega) (by rw [ml_o _ _ (by omega)]; exact e)
      refine ⟨m', ?_, e2, fun p j q1 q2 => ?_, fun j q1 q2 => ?_⟩
      · rw [f_M_keeps_b51, ← e1]
        simp (disch := omega) only [nq0, nq1, nq2, nq3, nq4, nq5, nq6, nq7, nq8, nq9, nq10, nq11, nq20, nq24, nq27, nq30, nq40, nI_add, pk_sub, pk_mul, nq_div, nq_rem, nq_shl1, nq_shl2, nq_bit1, nq_bit0, nq_or, nq_and, nq_nd, ml_cl, nq_in, nq_le, nq_nle, nq_lt, nq_nlt, nq_eq, nq_ne, nq_eqT, Option.bind_some, Bool.false_eq_true, Bool.true_eq_false, ↓reduceIte, e]
      · rw [e3 p j q1 (by omega), ml_o _ _ (by omega)]
      · by_cases z : j = k
        · subst z
          rw [e3 _ _ (by omega) (by omega), ml_s]
        · rw [e4 j (by omega) q2, ml_o _ _ (by omega)]
  have S : ∀ t k f (m0 : am_Mm), k + t = 460 → t < f → m0.1 63 8 = nI 24 → ∃ m1, f_M_keeps_b11 f (nI k) m0 = f_M_keeps_b49 m1 ∧ m1.1 63 8 = nI 23 ∧ (∀ p j, ¬ (p = 63 ∧ j = 8) → ¬ (p = 70 ∧ k ≤ j ∧ j < 460) → m1.1 p j = m0.1 p j) ∧ ∀ j, k ≤ j → j < 460 → m1.1 70 j = m0.1 70 (j + 20) := by
    intro t
    induction t with
    | zero =>
      intro k f m0 hk hf e
      obtain ⟨f, rfl⟩ : ∃ z, f = z + 1 := ⟨f - 1, by omega⟩
      have hk : k = 460 := by omega
      subst hk
      refine ⟨am_pI m0 63 8 (nI 23), ?_, ml_s _ _ _ _, fun p j q1 q2 => ml_o _ _ q1, fun j q1 q2 => absurd q1 (by omega)⟩
      rw [f_M_keeps_b11, if_pos (show (460 : Int32) ≤ nI 460 by decide), e]
      rfl
    | succ t ih =>
      intro k f m0 hk hf e
      obtain ⟨f, rfl⟩ : ∃ z, f = z + 1 := ⟨f - 1, by omega⟩
      obtain ⟨m', e1, e2, e3, e4⟩ := ih (k + 1) f (am_pI m0 70 k (m0.1 70 (k + 20))) (by omega) (by omega) (by rw [ml_o _ _ (by omega)]; exact e)
      refine ⟨m', ?_, e2, fun p j q1 q2 => ?_, fun j q1 q2 => ?_⟩
      · rw [f_M_keeps_b11, ← e1]
        simp (disch := omega) only [nq0, nq1, nq2, nq3, nq4, nq5, nq6, nq7, nq8, nq9, nq10, nq11, nq20, nq24, nq27, nq30, nq40, nI_add, pk_sub, pk_mul, nq_div, nq_rem, nq_shl1, nq_shl2, nq_bit1, nq_bit0, nq_or, nq_and, nq_nd, ml_cl, nq_in, nq_le, nq_nle, nq_lt, nq_nlt, nq_eq, nq_ne, nq_eqT, Option.bind_some, Bool.false_eq_true, Bool.true_eq_false, ↓reduceIte, show (460 : Int32) = nI 460 from rfl]
      · rw [e3 p j q1 (by omega), ml_o _ _ (by omega)]
      · by_cases z : j = k
        · subst z
          rw [e3 _ _ (by omega) (by omega), ml_s]
        · rw [e4 j (by omega) q2, ml_o _ _ (by omega)]
  unfold f_M_keeps
  rcases Nat.lt_or_ge a 24 with q | q
  · rw [h, if_neg (show ¬ nI a = (24 : Int32) from fun z => by have := (nI_eq (b := 24) (by omega) (by decide)).mp z; omega)]
    obtain ⟨m', e1, e2, e3, e4⟩ := B a 20 0 am_F m (by omega) (by omega) (by show 20 < 5000; omega) h
    have e : min a 23 = a := by omega
    refine ⟨m', e1, ?_⟩
    unfold kM
    rw [e, Nat.sub_self]
    exact ⟨e2, fun p k q1 q2 => e3 p k q1 (by omega), fun k hk => e4 k (by omega) hk, fun k hk => by rw [e3 _ _ (by omega) (by omega)]; rfl⟩
  · have e : a = 24 := by omega
    subst e
    rw [h, if_pos (show nI 24 = (24 : Int32) from rfl)]
    obtain ⟨m1, f1, f2, f3, f4⟩ := S 460 0 am_F m (by omega) (by show 460 < 5000; omega) h
    obtain ⟨m', e1, e2, e3, e4⟩ := B 23 20 0 am_F m1 (by omega) (by omega) (by show 20 < 5000; omega) f2
    have f1' : f_M_keeps_b11 am_F 0 m = f_M_keeps_b49 m1 := f1
    refine ⟨m', by rw [f1']; exact e1, e2, fun p k q1 q2 => ?_, fun k hk => ?_, fun k hk => ?_⟩
    · rw [e3 p k q1 (by omega), f3 p k q1 (by omega)]
    · rw [show min 24 23 = 23 from rfl, e4 k (by omega) hk, f3 _ _ (by omega) (by omega)]
    · have hk : k < 20 * 23 := hk
      rw [e3 _ _ (by omega) (by omega), f4 k (by omega) (by omega)]
      rfl
/-- the polygon and its acts, as rl_Poly has them -/
def plv (v : rl_V) (n a : Nat) (cu : Nat → Nat) (kd ow : Nat → Nat → Nat) : Prop := a ≤ 24 ∧ v 26 3 = nI a ∧ v 63 8 = nI a ∧ rl_Ring v 20 n ∧ rl_Fig v 13 n (cu a) (kd a) (ow a) ∧ rl_Pol v 67 0 n (cu a) (kd a) (ow a) ∧
    (∀ i, i ≤ a → rl_OK n (cu i) (kd i) (ow i)) ∧ ∀ i, i < a → rl_Pol v 70 (20 * i) n (cu i) (kd i) (ow i) ∧ rl_Act v i n (cu i) (cu (i + 1)) (kd i) (kd (i + 1)) (ow i) (ow (i + 1))
theorem plv_of {m : am_Mm} (h : rl_All m) : (np m ∧ m.1 26 3 = nI 0 ∧ m.1 63 8 = nI 0) ∨ ∃ n a cu kd ow, plv m.1 n a cu kd ow := by
  rcases h.2.2.2.2.1 with ⟨a, b, c, d, e, f, g, i⟩ | ⟨n, a, cu, kd, ow, H⟩
  · exact Or.inl ⟨⟨a, b, c, d, e, f⟩, g, i⟩
  · exact Or.inr ⟨n, a, cu, kd, ow, H⟩
theorem plv_vw {m : am_Mm} {n a : Nat} {cu : Nat → Nat} {kd ow : Nat → Nat → Nat} (h : plv m.1 n a cu kd ow) : vw m n (cu a) (kd a) (ow a) := ⟨h.2.2.2.2.2.2.1 a (Nat.le_refl _), h.2.2.2.1, h.2.2.2.2.1, h.2.2.2.2.2.1⟩
theorem plv_c {v w : rl_V} {n a : Nat} {cu : Nat → Nat} {kd ow : Nat → Nat → Nat} (e : ∀ p k, rl_PolyF p k → w p k = v p k) (h : plv v n a cu kd ow) : plv w n a cu kd ow := by
  have a0 : ∀ k, w 13 k = v 13 k := fun k => e _ _ (Or.inl ⟨by omega, by omega⟩)
  have b : ∀ k, w 14 k = v 14 k := fun k => e _ _ (Or.inl ⟨by omega, by omega⟩)
  have c : ∀ k, w 15 k = v 15 k := fun k => e _ _ (Or.inl ⟨by omega, by omega⟩)
  have d0 : ∀ k, w 20 k = v 20 k := fun k => e _ _ (Or.inr (Or.inl ⟨by omega, by omega⟩))
  have d1 : ∀ k, w 21 k = v 21 k := fun k => e _ _ (Or.inr (Or.inl ⟨by omega, by omega⟩))
  have d2 : ∀ k, w 22 k = v 22 k := fun k => e _ _ (Or.inr (Or.inl ⟨by omega, by omega⟩))
  have d3 : ∀ k, w 23 k = v 23 k := fun k => e _ _ (Or.inr (Or.inl ⟨by omega, by omega⟩))
  have d4 : ∀ k, w 24 k = v 24 k := fun k => e _ _ (Or.inr (Or.inl ⟨by omega, by omega⟩))
  have f0 : ∀ k, w 26 k = v 26 k := fun k => e _ _ (Or.inr (Or.inr (Or.inl ⟨by omega, by omega⟩)))
  have f1 : ∀ k, w 27 k = v 27 k := fun k => e _ _ (Or.inr (Or.inr (Or.inl ⟨by omega, by omega⟩)))
  have f2 : ∀ k, w 28 k = v 28 k := fun k => e _ _ (Or.inr (Or.inr (Or.inl ⟨by omega, by omega⟩)))
  have f3 : ∀ k, w 29 k = v 29 k := fun k => e _ _ (Or.inr (Or.inr (Or.inl ⟨by omega, by omega⟩)))
  have g : ∀ k, w 67 k = v 67 k := fun k => e _ _ (Or.inr (Or.inr (Or.inr (Or.inl rfl))))
  have i : ∀ k, w 70 k = v 70 k := fun k => e _ _ (Or.inr (Or.inr (Or.inr (Or.inr (Or.inl rfl)))))
  have j : w 63 8 = v 63 8 := e _ _ (Or.inr (Or.inr (Or.inr (Or.inr (Or.inr ⟨rfl, rfl⟩)))))
  simp only [plv, rl_Ring, rl_Fig, rl_Pol, rl_Act, Nat.reduceAdd, a0, b, c, d0, d1, d2, d3, d4, f0, f1, f2, f3, g, i, j] at h ⊢
  exact h
theorem plv_sm {m m' : am_Mm} {n a : Nat} {cu : Nat → Nat} {kd ow : Nat → Nat → Nat} (s : sm m m') (h : plv m.1 n a cu kd ow) : plv m'.1 n a cu kd ow := plv_c (fun p k q => s p k (Or.inr (Or.inr (Or.inr (Or.inr (Or.inl q)))))) h
theorem rl_Act_c {v w : rl_V} {i j n c0 c1 : Nat} {k0 k1 o0 o1 : Nat → Nat} (e : ∀ p, 27 ≤ p → p ≤ 29 → w p i = v p j) (h : rl_Act v j n c0 c1 k0 k1 o0 o1) : rl_Act w i n c0 c1 k0 k1 o0 o1 := by
  unfold rl_Act at *
  rw [e 27 (by omega) (by omega), e 28 (by omega) (by omega), e 29 (by omega) (by omega)]
  exact h
theorem rl_Pol_c {v w : rl_V} {p q o o2 n cu : Nat} {kd ow : Nat → Nat} (h9 : n ≤ 9) (e : ∀ k, k < 20 → w q (o2 + k) = v p (o + k)) (h : rl_Pol v p o n cu kd ow) : rl_Pol w q o2 n cu kd ow := by
  obtain ⟨a, b, c⟩ := h
  refine ⟨?_, ?_, fun d hd => ⟨?_, ?_⟩⟩
  · have := e 0 (by omega); rw [Nat.add_zero, Nat.add_zero] at this; rw [this]; exact a
  · rw [e 1 (by omega)]; exact b
  · rw [show o2 + 2 + 2 * d = o2 + (2 + 2 * d) by omega, e (2 + 2 * d) (by omega), show o + (2 + 2 * d) = o + 2 + 2 * d by omega]; exact (c d hd).1
  · rw [show o2 + 3 + 2 * d = o2 + (3 + 2 * d) by omega, e (3 + 2 * d) (by omega), show o + (3 + 2 * d) = o + 3 + 2 * d by omega]; exact (c d hd).2
/-- an act more -/
theorem rl_push {v w : rl_V} {n a : Nat} {cu : Nat → Nat} {kd ow : Nat → Nat → Nat} (H : plv v n a cu kd ow) {cu' : Nat} {kd' ow' : Nat → Nat} (hok : rl_OK n cu' kd' ow')
    (w1 : w 26 3 = nI (min a 23 + 1)) (w2 : w 63 8 = nI (min a 23 + 1)) (wR : rl_Ring w 20 n) (wF : rl_Fig w 13 n cu' kd' ow') (wP : rl_Pol w 67 0 n cu' kd' ow')
    (wn : ∀ k, k < 20 → w 70 (20 * min a 23 + k) = v 67 k) (wo : ∀ k, k < 20 * min a 23 → w 70 k = v 70 (k + 20 * (a - min a 23)))
    (wA : ∀ p i, 27 ≤ p → p ≤ 29 → i < min a 23 → w p i = v p (i + (a - min a 23))) (wN : rl_Act w (min a 23) n (cu a) cu' (kd a) kd' (ow a) ow') : rl_Poly w := by
  obtain ⟨ha, e1, e2, hR, hF, hP, ok, hi⟩ := H
  have h9 := (ok a (Nat.le_refl _)).2.1
  right
  have eb : min a 23 + (a - min a 23) = a := by omega
  have hb : min a 23 ≤ 23 := by omega
  generalize hs : a - min a 23 = s at *
  generalize hbb : min a 23 = b at *
  refine ⟨n, b + 1, fun i => if i ≤ b then cu (i + s) else cu', fun i => if i ≤ b then kd (i + s) else kd', fun i => if i ≤ b then ow (i + s) else ow', by omega, w1, w2, wR, ?_, ?_, fun i hi2 => ?_, fun i hi2 => ?_⟩
  · simp only [show ¬ b + 1 ≤ b by omega, if_false]; exact wF
  · simp only [show ¬ b + 1 ≤ b by omega, if_false]; exact wP
  · by_cases q : i ≤ b
    · simp only [q, if_true]; exact ok (i + s) (by omega)
    · simp only [q, if_false]; exact hok
  · have q : i ≤ b := by omega
    simp only [q, if_true]
    by_cases z : i = b
    · subst z
      simp only [show ¬ i + 1 ≤ i by omega, if_false]
      rw [eb]
      exact ⟨rl_Pol_c h9 (fun k hk => by rw [wn k hk, Nat.zero_add]) hP, wN⟩
    · have q2 : i + 1 ≤ b := by omega
      simp only [q2, if_true]
      have hi3 := hi (i + s) (by omega)
      rw [show i + 1 + s = i + s + 1 by omega]
      refine ⟨rl_Pol_c h9 (fun k hk => ?_) hi3.1, rl_Act_c (fun p p1 p2 => wA p i p1 p2 (by omega)) hi3.2⟩
      rw [wo _ (by omega), show 20 * i + k + 20 * s = 20 * (i + s) + k by omega]
/-- a whole act: the class keeps and writes, the model keeps and writes -/
theorem act_all {m mk m1 mm mk2 : am_Mm} {n a : Nat} {cu : Nat → Nat} {kd ow : Nat → Nat → Nat} (h : rl_All m) (H : plv m.1 n a cu kd ow) {x1 x2 x3 : Int32} (c1 : kC m mk a x1 x2 x3) {P K : Nat} {X : Int32} (hP : 13 ≤ P ∧ P ≤ 15) (em : m1 = am_pI mk P K X) (s : sm m1 mm) (c2 : kM mm mk2 a) {J : Nat} {Y : Int32} {cu' : Nat} {kd' ow' : Nat → Nat} (hok : rl_OK n cu' kd' ow') (wF : rl_Fig m1.1 13 n cu' kd' ow') (wP : rl_Pol (am_pI mk2 67 J Y).1 67 0 n cu' kd' ow')
    (wN : ∀ (w : rl_V) (b : Nat), w 27 b = x1 → w 28 b = x2 → w 29 b = x3 → rl_Act w b n (cu a) cu' (kd a) kd' (ow a) ow') : rl_All (am_pI mk2 67 J Y) := by
  obtain ⟨c11, c12, c13, c14, c15, c16⟩ := c1
  obtain ⟨c21, c22, c23, c24⟩ := c2
  have s : ∀ p k, rl_fp p k → mm.1 p k = m1.1 p k := s
  have fr : ∀ p k, rl_fp p k → ¬ (p = 67 ∧ k = J) → ¬ (p = 63 ∧ k = 8) → ¬ p = 70 → (am_pI mk2 67 J Y).1 p k = m1.1 p k := fun p k q1 q2 q3 q4 => by rw [ml_o _ _ q2, c22 p k q3 q4, s p k q1]
  have fr2 : ∀ p k, ¬ (p = 26 ∧ k = 3) → ¬ (27 ≤ p ∧ p ≤ 29) → ¬ (p = P ∧ k = K) → m1.1 p k = m.1 p k := fun p k q1 q2 q3 => by rw [em, ml_o _ _ q3, c12 p k q1 q2]
  have fr3 : ∀ p k, ((26 ≤ p ∧ p ≤ 29)) → (am_pI mk2 67 J Y).1 p k = mk.1 p k := fun p k q => by
    rw [fr p k (P_26 k q) (by omega) (by omega) (by omega), em, ml_o _ _ (by omega)]
  have all : ∀ p k, rl_fp p k → ¬ rl_PolyF p k → (am_pI mk2 67 J Y).1 p k = m.1 p k := fun p k q1 q2 => by
    have w := nPoly q2
    rw [fr p k q1 (fun z => w.2.2.2.1 z.1) w.2.2.2.2.2 w.2.2.2.2.1, fr2 p k (fun z => w.2.2.1 ⟨by omega, by omega⟩) (fun z => w.2.2.1 ⟨by omega, by omega⟩) (fun z => w.1 ⟨by omega, by omega⟩)]
  refine ⟨rl_Stat_c (fun p k q => all p k (Or.inl q) ?_) h.1, rl_Rows_c (fun p k q => all p k (Or.inr (Or.inl q)) ?_) h.2.1, rl_Tape_c (fun p k q => all p k (Or.inr (Or.inr (Or.inl q))) ?_) h.2.2.1, rl_Ask_c (fun p k q => all p k (Or.inr (Or.inr (Or.inr (Or.inl q)))) ?_) h.2.2.2.1, ?_, rl_Img_c (fun p k q => all p k (Or.inr (Or.inr (Or.inr (Or.inr (Or.inr q))))) ?_) h.2.2.2.2.2⟩
  · simp only [rl_StatF, rl_PolyF] at *; omega
  · simp only [rl_RowsF, rl_PolyF] at *; omega
  · simp only [rl_TapeF, rl_PolyF] at *; omega
  · simp only [rl_AskF, rl_PolyF] at *; omega
  · have g70 : ∀ k, mm.1 70 k = m.1 70 k := fun k => by rw [s 70 k (P_70 k), fr2 _ _ (by omega) (by omega) (by omega)]
    have g67 : ∀ k, mm.1 67 k = m.1 67 k := fun k => by rw [s 67 k (P_67 k), fr2 _ _ (by omega) (by omega) (by omega)]
    refine rl_push H hok ?_ ?_ ?_ ?_ wP (fun k hk => ?_) (fun k hk => ?_) (fun p i q1 q2 q3 => ?_) (wN _ _ ?_ ?_ ?_)
    · rw [fr3 _ _ (by omega)]; exact c11
    · rw [ml_o _ _ (by omega)]; exact c21
    · have q : ∀ p k, (20 ≤ p ∧ p ≤ 24) → (am_pI mk2 67 J Y).1 p k = m.1 p k := fun p k q => by rw [fr p k (P_20 k q) (by omega) (by omega) (by omega), fr2 p k (by omega) (by omega) (by omega)]
      have hR := H.2.2.2.1
      unfold rl_Ring at *
      simp (disch := omega) only [Nat.reduceAdd, q]
      exact hR
    · have q : ∀ p k, (13 ≤ p ∧ p ≤ 15) → (am_pI mk2 67 J Y).1 p k = m1.1 p k := fun p k q => fr p k (P_13 k q) (by omega) (by omega) (by omega)
      unfold rl_Fig at *
      simp (disch := omega) only [Nat.reduceAdd, q]
      exact wF
    · rw [ml_o _ _ (by omega), c23 k hk, g67]
    · rw [ml_o _ _ (by omega), c24 k hk, g70]
    · rw [fr3 _ _ (by omega), c16 p i q1 q2 q3]
    · rw [fr3 _ _ (by omega)]; exact c13
    · rw [fr3 _ _ (by omega)]; exact c14
    · rw [fr3 _ _ (by omega)]; exact c15
  · simp only [rl_ImgF, rl_PolyF] at *; omega
/-- the act of other cuts -/
theorem act_cuts {m : am_Mm} {n a : Nat} {cu : Nat → Nat} {kd ow : Nat → Nat → Nat} (h : rl_All m) (H : plv m.1 n a cu kd ow) {cu' : Nat} (hv : cu_V n cu') : ∃ m1, f_C_layCuts (nI cu') m = some m1 ∧ m1.1 13 3 = nI cu' ∧ (∀ k, m1.1 67 k = m.1 67 k) ∧ (∀ p k, ¬ (p = 13 ∧ k = 3) → ¬ (26 ≤ p ∧ p ≤ 29) → m1.1 p k = m.1 p k) ∧ ∀ mm, sm m1 mm → ∃ mk, f_M_keeps mm = some mk ∧ mk.1 67 1 = nI (cu a) ∧ mk.1 67 0 = nI n ∧ rl_All (am_pI mk 67 1 (nI cu')) := by
  obtain ⟨ha, e1, e2, hR, hF, hP, ok, hi⟩ := H
  obtain ⟨mk, k1, k2⟩ := hc_keep ha e1 (nI 0) (nI 0) (nI (cu a))
  have fr : ∀ p k, ¬ (p = 13 ∧ k = 3) → ¬ (26 ≤ p ∧ p ≤ 29) → (am_pI mk 13 3 (nI cu')).1 p k = m.1 p k := fun p k q1 q2 => by rw [ml_o _ _ q1, k2.2.1 p k (by omega) (by omega)]
  refine ⟨am_pI mk 13 3 (nI cu'), ?_, ml_s _ _ _ _, fun k => fr _ _ (by omega) (by omega), fr, fun mm s => ?_⟩
  · unfold f_C_layCuts
    rw [hF.2.1, show (0 : Int32) = nI 0 from rfl, k1]
    rfl
  · have s2 : ∀ p k, rl_fp p k → mm.1 p k = (am_pI mk 13 3 (nI cu')).1 p k := s
    have e3 : mm.1 63 8 = nI a := by rw [s2 _ _ P_63, fr _ _ (by omega) (by omega)]; exact e2
    have g67 : ∀ k, mm.1 67 k = m.1 67 k := fun k => by rw [s2 _ _ (P_67 k), fr _ _ (by omega) (by omega)]
    obtain ⟨mk2, k3, k4⟩ := hm_keep ha e3
    have g : ∀ k, mk2.1 67 k = m.1 67 k := fun k => by rw [k4.2.1 67 k (by omega) (by omega), g67]
    have hp0 := rl_Pol_0 hP
    have ok0 := ok a (Nat.le_refl _)
    refine ⟨mk2, k3, by rw [g]; exact hp0.2, by rw [g]; exact hp0.1, act_all h ⟨ha, e1, e2, hR, hF, hP, ok, hi⟩ k2 ⟨by omega, by omega⟩ rfl s k4 (cu' := cu') (kd' := kd a) (ow' := ow a) ⟨ok0.1, ok0.2.1, hv, ok0.2.2.2⟩ ?_ ?_ ?_⟩
    · refine ⟨?_, ml_s _ _ _ _, fun c hc => ?_⟩
      · rw [fr _ _ (by omega) (by omega)]; exact hF.1
      · rw [fr _ _ (by omega) (by omega), fr _ _ (by omega) (by omega)]; exact hF.2.2 c hc
    · refine ⟨?_, ml_s _ _ _ _, fun c hc => ?_⟩
      · rw [ml_o _ _ (by omega), g]; exact hP.1
      · rw [ml_o _ _ (by omega), ml_o _ _ (by omega), g, g]; exact hP.2.2 c hc
    · intro w b q1 q2 q3
      exact Or.inl ⟨q1, q3, fun c _ => ⟨rfl, rfl⟩⟩
theorem rl_Poly_z {v : rl_V} {k : Nat} (h : v 26 3 = nI k) (hk : k < 100) : k = 0 ∨ ¬ v 26 3 = (0 : Int32) := by
  by_cases q : k = 0
  · exact Or.inl q
  · right
    rw [h, nq0]
    exact fun z => q ((nI_eq (by omega) (by omega)).mp z)
