/-! ===== what nothing speaks of; the polygon as it is seen ===== -/
def rl_fp (p k : Nat) : Prop := rl_StatF p k ∨ rl_RowsF p k ∨ rl_TapeF p k ∨ rl_AskF p k ∨ rl_PolyF p k ∨ rl_ImgF p k
theorem fp_S {p k : Nat} (h : rl_StatF p k) : rl_fp p k := Or.inl h
theorem fp_R {p k : Nat} (h : rl_RowsF p k) : rl_fp p k := Or.inr (Or.inl h)
theorem fp_T {p k : Nat} (h : rl_TapeF p k) : rl_fp p k := Or.inr (Or.inr (Or.inl h))
theorem fp_A {p k : Nat} (h : rl_AskF p k) : rl_fp p k := Or.inr (Or.inr (Or.inr (Or.inl h)))
theorem fp_P {p k : Nat} (h : rl_PolyF p k) : rl_fp p k := Or.inr (Or.inr (Or.inr (Or.inr (Or.inl h))))
theorem fp_I {p k : Nat} (h : rl_ImgF p k) : rl_fp p k := Or.inr (Or.inr (Or.inr (Or.inr (Or.inr h))))
theorem P_13 {p : Nat} (k : Nat) (h : 13 ≤ p ∧ p ≤ 15) : rl_fp p k := fp_P (Or.inl h)
theorem P_20 {p : Nat} (k : Nat) (h : 20 ≤ p ∧ p ≤ 24) : rl_fp p k := fp_P (Or.inr (Or.inl h))
theorem P_26 {p : Nat} (k : Nat) (h : 26 ≤ p ∧ p ≤ 29) : rl_fp p k := fp_P (Or.inr (Or.inr (Or.inl h)))
theorem P_67 (k : Nat) : rl_fp 67 k := fp_P (Or.inr (Or.inr (Or.inr (Or.inl rfl))))
theorem P_70 (k : Nat) : rl_fp 70 k := fp_P (Or.inr (Or.inr (Or.inr (Or.inr (Or.inl rfl)))))
theorem P_63 : rl_fp 63 8 := fp_P (Or.inr (Or.inr (Or.inr (Or.inr (Or.inr ⟨rfl, rfl⟩)))))
theorem nPoly {p k : Nat} (h : ¬ rl_PolyF p k) : ¬ (13 ≤ p ∧ p ≤ 15) ∧ ¬ (20 ≤ p ∧ p ≤ 24) ∧ ¬ (26 ≤ p ∧ p ≤ 29) ∧ ¬ p = 67 ∧ ¬ p = 70 ∧ ¬ (p = 63 ∧ k = 8) :=
  ⟨fun q => h (Or.inl q), fun q => h (Or.inr (Or.inl q)), fun q => h (Or.inr (Or.inr (Or.inl q))), fun q => h (Or.inr (Or.inr (Or.inr (Or.inl q)))), fun q => h (Or.inr (Or.inr (Or.inr (Or.inr (Or.inl q))))), fun q => h (Or.inr (Or.inr (Or.inr (Or.inr (Or.inr q)))))⟩
/-- two memories alike in all that is spoken of -/
def sm (m m' : am_Mm) : Prop := ∀ p k, rl_fp p k → m'.1 p k = m.1 p k
theorem sm_r (m : am_Mm) : sm m m := fun _ _ _ => rfl
theorem sm_t {a b c : am_Mm} (h : sm a b) (h2 : sm b c) : sm a c := fun p k q => by rw [h2 p k q, h p k q]
theorem sm_All {m m' : am_Mm} (h : sm m m') (hA : rl_All m) : rl_All m' :=
  ⟨rl_Stat_c (fun p k q => h p k (Or.inl q)) hA.1, rl_Rows_c (fun p k q => h p k (Or.inr (Or.inl q))) hA.2.1, rl_Tape_c (fun p k q => h p k (Or.inr (Or.inr (Or.inl q)))) hA.2.2.1, rl_Ask_c (fun p k q => h p k (Or.inr (Or.inr (Or.inr (Or.inl q))))) hA.2.2.2.1, rl_Poly_c (fun p k q => h p k (Or.inr (Or.inr (Or.inr (Or.inr (Or.inl q)))))) hA.2.2.2.2.1, rl_Img_c (fun p k q => h p k (Or.inr (Or.inr (Or.inr (Or.inr (Or.inr q)))))) hA.2.2.2.2.2⟩
theorem sm_p (m : am_Mm) (p k : Nat) (x : Int32) (h : ¬ rl_fp p k) : sm m (am_pI m p k x) := fun q j hq => by
  rw [ml_rd, if_neg]
  rintro ⟨rfl, rfl⟩
  exact h hq
theorem sm_L (m : am_Mm) (p k : Nat) (x : Int64) : sm m (am_pL m p k x) := fun _ _ _ => rfl
theorem sm_25 {m m' : am_Mm} (h : only25 m m') : sm m m' := fun p k q => h.1 p k (fun z => by
  subst z
  simp only [rl_fp, rl_StatF, rl_RowsF, rl_TapeF, rl_AskF, rl_PolyF, rl_ImgF] at q
  omega)
theorem pz_read {α : Type} {fC fM : am_Mm → Option (α × am_Mm)} (H : ∀ m, rl_All m → ∃ r m1 m2, fC m = some (r, m1) ∧ sm m m1 ∧ fM m1 = some (r, m2) ∧ sm m1 m2) : am_Pz rl_All fC fM := by
  intro m h
  obtain ⟨r, m1, m2, e1, s1, e2, s2⟩ := H m h
  exact ⟨r, m1, m2, e1, e2, sm_All (sm_t s1 s2) h⟩
/-- both read, nothing changes -/
theorem pz_rd {α : Type} {fC fM : am_Mm → Option (α × am_Mm)} (H : ∀ m, rl_All m → ∃ r, fC m = some (r, m) ∧ fM m = some (r, m)) : am_Pz rl_All fC fM := by
  intro m h
  obtain ⟨r, e1, e2⟩ := H m h
  exact ⟨r, m, m, e1, e2, h⟩
def np (m : am_Mm) : Prop := m.1 13 2 = nI 0 ∧ m.1 13 3 = nI 0 ∧ m.1 67 0 = nI 0 ∧ m.1 67 1 = nI 0 ∧ m.1 20 5 = nI 0 ∧ m.1 20 6 = nI 0
def vw (m : am_Mm) (n cu : Nat) (kd ow : Nat → Nat) : Prop := rl_OK n cu kd ow ∧ rl_Ring m.1 20 n ∧ rl_Fig m.1 13 n cu kd ow ∧ rl_Pol m.1 67 0 n cu kd ow
theorem vw_of {m : am_Mm} (h : rl_All m) : np m ∨ ∃ n cu kd ow, vw m n cu kd ow := by
  rcases h.2.2.2.2.1 with ⟨a, b, c, d, e, f, _⟩ | ⟨n, a, cu, kd, ow, ha, _, _, r, f, p, ok, _⟩
  · exact Or.inl ⟨a, b, c, d, e, f⟩
  · exact Or.inr ⟨n, cu a, kd a, ow a, ok a (Nat.le_refl _), r, f, p⟩
theorem vw_c {m m' : am_Mm} {n cu : Nat} {kd ow : Nat → Nat} (e : ∀ p k, ((13 ≤ p ∧ p ≤ 15) ∨ (20 ≤ p ∧ p ≤ 24) ∨ p = 67) → m'.1 p k = m.1 p k) (h : vw m n cu kd ow) : vw m' n cu kd ow := by
  unfold vw rl_Ring rl_Fig rl_Pol at *
  simp (disch := omega) only [Nat.reduceAdd, e]
  exact h
theorem vw_sm {m m' : am_Mm} {n cu : Nat} {kd ow : Nat → Nat} (s : sm m m') (h : vw m n cu kd ow) : vw m' n cu kd ow := vw_c (fun p k q => s p k (by
  rcases q with q | q | rfl
  · exact P_13 k q
  · exact P_20 k q
  · exact P_67 k)) h
theorem np_sm {m m' : am_Mm} (s : sm m m') (h : np m) : np m' := by
  have q : ∀ p k, (p = 13 ∨ p = 67 ∨ p = 20) → m'.1 p k = m.1 p k := fun p k q => s p k (by
    rcases q with rfl | rfl | rfl
    · exact P_13 k ⟨by omega, by omega⟩
    · exact P_67 k
    · exact P_20 k ⟨by omega, by omega⟩)
  unfold np at *
  simp (disch := omega) only [q]
  exact h
theorem isC {n : Nat} (hn : n ≤ 9) (x : Int32) : ((∀ m : am_Mm, m.1 13 2 = nI n → f_C_isCorner x m = some (nI 0, m)) ∧ (∀ m : am_Mm, m.1 67 0 = nI n → f_M_isCorner x m = some (nI 0, m))) ∨ ∃ c, c < n ∧ x = nI c ∧ (∀ m : am_Mm, m.1 13 2 = nI n → f_C_isCorner (nI c) m = some (nI 1, m)) ∧ (∀ m : am_Mm, m.1 67 0 = nI n → f_M_isCorner (nI c) m = some (nI 1, m)) := by
  rcases ml_ix x (n := n) (by omega) with hx | hx | ⟨k, hk, rfl⟩
  · left
    refine ⟨fun m e => ?_, fun m e => ?_⟩
    · unfold f_C_isCorner; rw [if_pos hx]; rfl
    · unfold f_M_isCorner; rw [ml_in0 0 (m.1 67 0 - 1) 0 _ rfl rfl (fun q => ml_neg_nle hx q.1)]; rfl
  · left
    refine ⟨fun m e => ?_, fun m e => ?_⟩
    · unfold f_C_isCorner; rw [if_neg (ml_ge_nlt0 (by omega) hx), e, if_pos hx]; rfl
    · unfold f_M_isCorner; rw [ml_in0 0 (m.1 67 0 - 1) 0 _ rfl rfl (fun q => ml_nlt_of_le hx (by rw [e] at q; exact (ml_le_pred (by omega) x).mp q.2))]; rfl
  · right
    refine ⟨k, hk, rfl, fun m e => ?_, fun m e => ?_⟩
    · unfold f_C_isCorner; simp (disch := omega) only [nq0, nq1, nq2, nq3, nq4, nq5, nq6, nq7, nq8, nq9, nq10, nq11, nq20, nq24, nq27, nq30, nq40, nI_add, pk_sub, pk_mul, nq_div, nq_rem, nq_shl1, nq_shl2, nq_bit1, nq_bit0, nq_or, nq_and, nq_nd, ml_cl, nq_in, nq_le, nq_nle, nq_lt, nq_nlt, nq_eq, nq_ne, nq_eqT, Option.bind_some, Bool.false_eq_true, Bool.true_eq_false, ↓reduceIte, e]
    · unfold f_M_isCorner
      rw [ml_in1 0 (m.1 67 0 - 1) 0 _ rfl rfl ⟨nI_pos' (by omega), by rw [e]; exact (ml_le_pred (by omega) _).mpr (nI_lt hk (by omega))⟩]; rfl
theorem hc_there {n : Nat} {m : am_Mm} (h : m.1 13 2 = nI n) (hn : n ≤ 9) : f_C_isThere m = some (nI (if n = 0 then 0 else 1), m) := by
  unfold f_C_isThere
  by_cases q : n = 0
  · subst q; rw [h]; rfl
  · rw [if_neg q]; simp (disch := omega) only [nq0, nq1, nq2, nq3, nq4, nq5, nq6, nq7, nq8, nq9, nq10, nq11, nq20, nq24, nq27, nq30, nq40, nI_add, pk_sub, pk_mul, nq_div, nq_rem, nq_shl1, nq_shl2, nq_bit1, nq_bit0, nq_or, nq_and, nq_nd, ml_cl, nq_in, nq_le, nq_nle, nq_lt, nq_nlt, nq_eq, nq_ne, nq_eqT, Option.bind_some, Bool.false_eq_true, Bool.true_eq_false, ↓reduceIte, h]
theorem hm_there {n : Nat} {m : am_Mm} (h : m.1 67 0 = nI n) (hn : n ≤ 9) : f_M_isThere m = some (nI (if n = 0 then 0 else 1), m) := by
  unfold f_M_isThere
  by_cases q : n = 0
  · subst q; rw [h]; rfl
  · rw [if_neg q]; simp (disch := omega) only [nq0, nq1, nq2, nq3, nq4, nq5, nq6, nq7, nq8, nq9, nq10, nq11, nq20, nq24, nq27, nq30, nq40, nI_add, pk_sub, pk_mul, nq_div, nq_rem, nq_shl1, nq_shl2, nq_bit1, nq_bit0, nq_or, nq_and, nq_nd, ml_cl, nq_in, nq_le, nq_nle, nq_lt, nq_nlt, nq_eq, nq_ne, nq_eqT, Option.bind_some, Bool.false_eq_true, Bool.true_eq_false, ↓reduceIte, h]
theorem hc_th1 {n : Nat} {m : am_Mm} (h : m.1 13 2 = nI n) (h4 : 4 ≤ n) (hn : n ≤ 9) : f_C_isThere m = some (nI 1, m) := by rw [hc_there h hn, if_neg (by omega)]
theorem hm_th1 {n : Nat} {m : am_Mm} (h : m.1 67 0 = nI n) (h4 : 4 ≤ n) (hn : n ≤ 9) : f_M_isThere m = some (nI 1, m) := by rw [hm_there h hn, if_neg (by omega)]
theorem isN {n : Nat} (h : 4 ≤ n) (h9 : n ≤ 9) (x : Int32) : ((∀ m : am_Mm, m.1 20 6 = nI (cu_N n) → f_Ring_isNumber 20 x m = some (nI 0, m)) ∧ (∀ m : am_Mm, m.1 67 0 = nI n → f_M_isCut x m = some (nI 0, m))) ∨ ∃ i, i < cu_N n ∧ x = nI i ∧ (∀ m : am_Mm, m.1 20 6 = nI (cu_N n) → f_Ring_isNumber 20 (nI i) m = some (nI 1, m)) ∧ (∀ m : am_Mm, m.1 67 0 = nI n → f_M_isCut (nI i) m = some (nI 1, m)) := by
  have h27 := cu_N27 h h9
  have K : ∀ (m : am_Mm) (y : Int32), m.1 67 0 = nI n → f_M_isCut y m = (f_M_in (y.toInt64) (0 : Int64) ((nI (cu_N n) - (1 : Int32)).toInt64) m).bind fun q11 => if q11.1 = (0 : Int32) then some ((0 : Int32), q11.2) else some ((1 : Int32), q11.2) := by
    intro m y e
    unfold f_M_isCut
    rw [hm_th1 e h h9, Option.bind_some, if_neg (show ¬ nI 1 = (0 : Int32) by decide), e, hm_many h h9]
    rfl
  rcases ml_ix x (n := cu_N n) (by omega) with hx | hx | ⟨k, hk, rfl⟩
  · left
    refine ⟨fun m e => ?_, fun m e => ?_⟩
    · unfold f_Ring_isNumber; rw [if_pos hx]; rfl
    · rw [K m x e, ml_in0 0 (nI (cu_N n) - 1) 0 _ rfl rfl (fun q => ml_neg_nle hx q.1)]; rfl
  · left
    refine ⟨fun m e => ?_, fun m e => ?_⟩
    · unfold f_Ring_isNumber; rw [if_neg (ml_ge_nlt0 (by omega) hx), e, if_pos hx]; rfl
    · rw [K m x e, ml_in0 0 (nI (cu_N n) - 1) 0 _ rfl rfl (fun q => ml_nlt_of_le hx ((ml_le_pred (by omega) x).mp q.2))]; rfl
  · right
    refine ⟨k, hk, rfl, fun m e => ?_, fun m e => ?_⟩
    · unfold f_Ring_isNumber; simp (disch := omega) only [nq0, nq1, nq2, nq3, nq4, nq5, nq6, nq7, nq8, nq9, nq10, nq11, nq20, nq24, nq27, nq30, nq40, nI_add, pk_sub, pk_mul, nq_div, nq_rem, nq_shl1, nq_shl2, nq_bit1, nq_bit0, nq_or, nq_and, nq_nd, ml_cl, nq_in, nq_le, nq_nle, nq_lt, nq_nlt, nq_eq, nq_ne, nq_eqT, Option.bind_some, Bool.false_eq_true, Bool.true_eq_false, ↓reduceIte, e]
    · rw [K m _ e, ml_in1 0 (nI (cu_N n) - 1) 0 _ rfl rfl ⟨nI_pos' (by omega), (ml_le_pred (by omega) _).mpr (nI_lt hk (by omega))⟩]; rfl
theorem isNp (x : Int32) : (∀ m : am_Mm, m.1 20 6 = nI 0 → f_Ring_isNumber 20 x m = some (nI 0, m)) ∧ (∀ m : am_Mm, m.1 67 0 = nI 0 → f_M_isCut x m = some (nI 0, m)) := by
  refine ⟨fun m e => ?_, fun m e => ?_⟩
  · unfold f_Ring_isNumber
    rw [e]
    by_cases q : x < 0
    · rw [if_pos q]; rfl
    · rw [if_neg q, if_pos (show nI 0 ≤ x from ml_le_of_nlt q)]; rfl
  · unfold f_M_isCut
    rw [hm_there e (by omega)]
    rfl
/-- what a corner counts -/
def cI (n cu : Nat) (kd ow : Nat → Nat) (c : Nat) : Int32 := if kd c = 2 then nI (2 * (ca n cu c + 1)) else if kd c = 3 then -nI (ca n cu c + 1) else if kd c = 4 then nI (ow c) else if kd c = 5 then nI (ow c + 1) else nI (ca n cu c + 1)
theorem hc_ct {p n cu c : Nat} {kd ow : Nat → Nat} {m : am_Mm} (hok : rl_OK n cu kd ow) (hR : rl_Ring m.1 20 n) (hF : rl_Fig m.1 p n cu kd ow) (hc : c < n) : f_Figure_countOf p (nI c) m = some (cI n cu kd ow c, m) := by
  obtain ⟨h4, h9, hv, hk⟩ := hok
  have k0 := hk c hc
  obtain ⟨f1, f2, f3⟩ := hF
  obtain ⟨g1, g2⟩ := f3 c hc
  have hca := @ca_lt n cu c
  unfold f_Figure_countOf cI
  rw [f2, hc_ca h4 h9 hR hv hc]
  rcases (show kd c = 1 ∨ kd c = 2 ∨ kd c = 3 ∨ kd c = 4 ∨ kd c = 5 by omega) with q | q | q | q | q <;> rw [q] at g1 ⊢ <;> simp (disch := omega) only [nq0, nq1, nq2, nq3, nq4, nq5, nq6, nq7, nq8, nq9, nq10, nq11, nq20, nq24, nq27, nq30, nq40, nI_add, pk_sub, pk_mul, nq_div, nq_rem, nq_shl1, nq_shl2, nq_bit1, nq_bit0, nq_or, nq_and, nq_nd, ml_cl, nq_in, nq_le, nq_nle, nq_lt, nq_nlt, nq_eq, nq_ne, nq_eqT, Option.bind_some, Bool.false_eq_true, Bool.true_eq_false, ↓reduceIte, g1, g2, Nat.reduceEqDiff]
theorem rl_Pol_k {v : rl_V} {p n cu c : Nat} {kd ow : Nat → Nat} (hP : rl_Pol v p 0 n cu kd ow) (hc : c < n) : v p 0 = nI n ∧ v p 1 = nI cu ∧ v p (2 + 2 * c) = nI (kd c) ∧ v p (2 + 2 * c + 1) = nI (ow c) := by
  obtain ⟨a, b, e⟩ := hP
  have e := e c hc
  rw [Nat.zero_add] at b
  refine ⟨a, b, ?_, ?_⟩
  · rw [show 2 + 2 * c = 0 + 2 + 2 * c by omega]; exact e.1
  · rw [show 2 + 2 * c + 1 = 0 + 3 + 2 * c by omega]; exact e.2
theorem rl_Pol_0 {v : rl_V} {p n cu : Nat} {kd ow : Nat → Nat} (hP : rl_Pol v p 0 n cu kd ow) : v p 0 = nI n ∧ v p 1 = nI cu := by
  obtain ⟨a, b, e⟩ := hP
  rw [Nat.zero_add] at b
  exact ⟨a, b⟩
theorem hm_kd {p n cu c : Nat} {kd ow : Nat → Nat} {m : am_Mm} (h9 : n ≤ 9) (hP : rl_Pol m.1 p 0 n cu kd ow) (hc : c < n) : f_M_kindOf p (nI c) m = some (nI (kd c), m) := by
  have := rl_Pol_k hP hc
  unfold f_M_kindOf
  simp (disch := omega) only [nq0, nq1, nq2, nq3, nq4, nq5, nq6, nq7, nq8, nq9, nq10, nq11, nq20, nq24, nq27, nq30, nq40, nI_add, pk_sub, pk_mul, nq_div, nq_rem, nq_shl1, nq_shl2, nq_bit1, nq_bit0, nq_or, nq_and, nq_nd, ml_cl, nq_in, nq_le, nq_nle, nq_lt, nq_nlt, nq_eq, nq_ne, nq_eqT, Option.bind_some, Bool.false_eq_true, Bool.true_eq_false, ↓reduceIte, this.2.2.1]
theorem hm_ct {p n cu c : Nat} {kd ow : Nat → Nat} {m : am_Mm} (hok : rl_OK n cu kd ow) (hP : rl_Pol m.1 p 0 n cu kd ow) (hc : c < n) : f_M_countOf p (nI c) m = some (cI n cu kd ow c, m) := by
  obtain ⟨h4, h9, hv, hk⟩ := hok
  have k0 := hk c hc
  obtain ⟨g1, g2, g3, g4⟩ := rl_Pol_k hP hc
  have hca := @ca_lt n cu c
  unfold f_M_countOf cI
  rw [hm_ca h4 h9 g1 g2 (cu_V_lt h4 h9 hv) hc, Option.bind_some, hm_kd h9 hP hc, Option.bind_some]
  rcases (show kd c = 1 ∨ kd c = 2 ∨ kd c = 3 ∨ kd c = 4 ∨ kd c = 5 by omega) with q | q | q | q | q <;> rw [q] <;> simp (disch := omega) only [nq0, nq1, nq2, nq3, nq4, nq5, nq6, nq7, nq8, nq9, nq10, nq11, nq20, nq24, nq27, nq30, nq40, nI_add, pk_sub, pk_mul, nq_div, nq_rem, nq_shl1, nq_shl2, nq_bit1, nq_bit0, nq_or, nq_and, nq_nd, ml_cl, nq_in, nq_le, nq_nle, nq_lt, nq_nlt, nq_eq, nq_ne, nq_eqT, Option.bind_some, Bool.false_eq_true, Bool.true_eq_false, ↓reduceIte, g4, Nat.add_comm 1 (ca n cu c), Nat.reduceEqDiff]
theorem pz_kind : ∀ a0 : Int32, am_Pz rl_All (f_C_kind a0) (f_M_kind a0) := by
  intro x
  refine pz_rd fun m h => ?_
  unfold f_C_kind f_M_kind
  rcases vw_of h with hn | ⟨n, cu, kd, ow, hok, hR, hF, hP⟩
  · rcases isC (Nat.zero_le 9) x with q | ⟨c, hc, _⟩
    · rw [q.1 m hn.1, q.2 m hn.2.2.1]; exact ⟨_, rfl, rfl⟩
    · omega
  · obtain ⟨h4, h9, hv, hk⟩ := hok
    rcases isC h9 x with q | ⟨c, hc, rfl, q1, q2⟩
    · rw [q.1 m hF.1, q.2 m hP.1]; exact ⟨_, rfl, rfl⟩
    · rw [q1 m hF.1, q2 m hP.1, Option.bind_some, Option.bind_some, hm_kd h9 hP hc]
      refine ⟨nI (kd c), ?_, ?_⟩
      · simp (disch := omega) only [nq0, nq1, nq2, nq3, nq4, nq5, nq6, nq7, nq8, nq9, nq10, nq11, nq20, nq24, nq27, nq30, nq40, nI_add, pk_sub, pk_mul, nq_div, nq_rem, nq_shl1, nq_shl2, nq_bit1, nq_bit0, nq_or, nq_and, nq_nd, ml_cl, nq_in, nq_le, nq_nle, nq_lt, nq_nlt, nq_eq, nq_ne, nq_eqT, Option.bind_some, Bool.false_eq_true, Bool.true_eq_false, ↓reduceIte, (hF.2.2 c hc).1]
      · simp (disch := omega) only [nq0, nq1, nq2, nq3, nq4, nq5, nq6, nq7, nq8, nq9, nq10, nq11, nq20, nq24, nq27, nq30, nq40, nI_add, pk_sub, pk_mul, nq_div, nq_rem, nq_shl1, nq_shl2, nq_bit1, nq_bit0, nq_or, nq_and, nq_nd, ml_cl, nq_in, nq_le, nq_nle, nq_lt, nq_nlt, nq_eq, nq_ne, nq_eqT, Option.bind_some, Bool.false_eq_true, Bool.true_eq_false, ↓reduceIte]
theorem pz_corner : ∀ a0 a1 : Int32, am_Pz rl_All (f_C_corner a0 a1) (f_M_corner a0 a1) := by
  intro x y
  refine pz_rd fun m h => ?_
  unfold f_C_corner f_M_corner
  rcases vw_of h with hn | ⟨n, cu, kd, ow, hok, hR, hF, hP⟩
  · rcases isC (Nat.zero_le 9) x with q | ⟨c, hc, _⟩
    · rw [q.1 m hn.1, q.2 m hn.2.2.1]; exact ⟨_, rfl, rfl⟩
    · omega
  · have hok2 := hok
    obtain ⟨h4, h9, hv, hk⟩ := hok
    rcases isC h9 x with q | ⟨c, hc, rfl, q1, q2⟩
    · rw [q.1 m hF.1, q.2 m hP.1]; exact ⟨_, rfl, rfl⟩
    · have hcu := cu_V_lt h4 h9 hv
      obtain ⟨g1, g2, g3, g4⟩ := rl_Pol_k hP hc
      rw [q1 m hF.1, q2 m hP.1, Option.bind_some, Option.bind_some, if_neg (show ¬ nI 1 = (0 : Int32) by decide), if_neg (show ¬ nI 1 = (0 : Int32) by decide)]
      by_cases y0 : y = 0
      · rw [if_pos y0, if_pos y0, hc_ct hok2 hR hF hc, hm_ct hok2 hP hc]; exact ⟨_, rfl, rfl⟩
      rw [if_neg y0, if_neg y0]
      by_cases y1 : y = 1
      · rw [if_pos y1, if_pos y1]
        refine ⟨nI (ow c), ?_, ?_⟩
        · simp (disch := omega) only [nq0, nq1, nq2, nq3, nq4, nq5, nq6, nq7, nq8, nq9, nq10, nq11, nq20, nq24, nq27, nq30, nq40, nI_add, pk_sub, pk_mul, nq_div, nq_rem, nq_shl1, nq_shl2, nq_bit1, nq_bit0, nq_or, nq_and, nq_nd, ml_cl, nq_in, nq_le, nq_nle, nq_lt, nq_nlt, nq_eq, nq_ne, nq_eqT, Option.bind_some, Bool.false_eq_true, Bool.true_eq_false, ↓reduceIte, (hF.2.2 c hc).2]
        · simp (disch := omega) only [nq0, nq1, nq2, nq3, nq4, nq5, nq6, nq7, nq8, nq9, nq10, nq11, nq20, nq24, nq27, nq30, nq40, nI_add, pk_sub, pk_mul, nq_div, nq_rem, nq_shl1, nq_shl2, nq_bit1, nq_bit0, nq_or, nq_and, nq_nd, ml_cl, nq_in, nq_le, nq_nle, nq_lt, nq_nlt, nq_eq, nq_ne, nq_eqT, Option.bind_some, Bool.false_eq_true, Bool.true_eq_false, ↓reduceIte, g4]
      rw [if_neg y1, if_neg y1]
      by_cases y2 : y = 2
      · rw [if_pos y2, if_pos y2, hF.2.1, hc_ca h4 h9 hR hv hc, hm_ca h4 h9 g1 g2 hcu hc]; exact ⟨_, rfl, rfl⟩
      rw [if_neg y2, if_neg y2]
      by_cases y3 : y = 3
      · rw [if_pos y3, if_pos y3, hF.2.1, hc_en h4 h9 hR hcu hc, hm_en h4 h9 g1 g2 hcu hc]; exact ⟨_, rfl, rfl⟩
      rw [if_neg y3, if_neg y3]
      exact ⟨_, rfl, rfl⟩
theorem hc_has {m : am_Mm} {cu i : Nat} (h : m.1 13 3 = nI cu) (hcu : cu < 2 ^ 27) (hi : i < 32) : f_Figure_hasCut (nI i) m = some (nI (if cu.testBit i then 1 else 0), m) := by
  unfold f_Figure_hasCut
  rw [h, nq1, nq0]
  simp only [nq_bit1 (show cu < 2 ^ 31 by omega) hi]
  by_cases q : cu.testBit i = true
  · rw [if_pos q, if_pos q]
  · rw [if_neg q, if_neg q]
theorem fv_neg (o : Option Nat) (ho : ∀ j, o = some j → j < 100) : (fv (-1) o < (0 : Int32) ↔ o = none) ∧ ((0 : Int32) ≤ fv (-1) o ↔ ¬ o = none) := by
  cases o with
  | none =>
    have a1 : (-1 : Int32) < 0 := by decide
    have a2 : ¬ (0 : Int32) ≤ -1 := by decide
    refine ⟨?_, ?_⟩
    · exact ⟨fun _ => rfl, fun _ => a1⟩
    · exact ⟨fun q => absurd q a2, fun q => absurd rfl q⟩
  | some j =>
    have := ho j rfl
    have a1 : ¬ nI j < (0 : Int32) := nI_pos (by omega)
    have a2 : (0 : Int32) ≤ nI j := nI_pos' (by omega)
    refine ⟨?_, ?_⟩
    · exact ⟨fun q => absurd q a1, fun q => by cases q⟩
    · exact ⟨fun _ q => (by cases q), fun _ => a2⟩
theorem pz_cutOf : ∀ a0 a1 : Int32, am_Pz rl_All (f_C_cutOf a0 a1) (f_M_cutOf a0 a1) := by
  intro x y
  refine pz_read fun m h => ?_
  unfold f_C_cutOf f_M_cutOf
  rcases vw_of h with hn | ⟨n, cu, kd, ow, hok, hR, hF, hP⟩
  · rw [(isNp x).1 m hn.2.2.2.2.2]
    refine ⟨_, m, m, rfl, sm_r m, ?_, sm_r m⟩
    rw [(isNp x).2 m hn.2.2.1]; rfl
  · obtain ⟨h4, h9, hv, hk⟩ := hok
    have h27 := cu_N27 h4 h9
    obtain ⟨g1, g2⟩ := rl_Pol_0 hP
    rcases isN h4 h9 x with q | ⟨i, hi, rfl, q1, q2⟩
    · rw [q.1 m hR.2.1]
      refine ⟨_, m, m, rfl, sm_r m, ?_, sm_r m⟩
      rw [q.2 m hP.1]; rfl
    · have hcu := cu_V_lt h4 h9 hv
      have b10 := hm_b10 h4 h9 hi
      have r3 := hR.2.2.1 i hi
      have M : ∀ m1 : am_Mm, m1.1 67 0 = nI n → ((f_M_isCut (nI i) m1).bind fun q3 => if q3.1 = (0 : Int32) then some ((-1000001 : Int32), q3.2) else (f_M_endsOf (q3.2.1 67 0) (nI i) q3.2).bind fun q8 => if y = (0 : Int32) then some ((q8.1 / (10 : Int32)), q8.2) else if y = (1 : Int32) then some ((am_rem q8.1 (10 : Int32)), q8.2) else if y = (2 : Int32) then (f_M_has (q8.2.1 67 1) (nI i) q8.2).bind fun q15 => if q15.1 = (0 : Int32) then some ((0 : Int32), q15.2) else some ((1 : Int32), q15.2) else if y = (3 : Int32) then (f_M_flipped 67 (nI i) q8.2).bind fun q20 => some (q20.1, q20.2) else some ((-1000001 : Int32), q8.2)) = if y = (0 : Int32) then some (nI (cu_a n i), m1) else if y = (1 : Int32) then some (nI (cu_b n i), m1) else if y = (2 : Int32) then (f_M_has (m1.1 67 1) (nI i) m1).bind fun q15 => if q15.1 = (0 : Int32) then some ((0 : Int32), q15.2) else some ((1 : Int32), q15.2) else if y = (3 : Int32) then (f_M_flipped 67 (nI i) m1).bind fun q20 => some (q20.1, q20.2) else some ((-1000001 : Int32), m1) := by
        intro m1 e
        rw [q2 m1 e, Option.bind_some, if_neg (show ¬ nI 1 = (0 : Int32) by decide), e, hm_ends h4 h9 hi, Option.bind_some, nq10, nq_div (by omega) (by omega) (by omega), nq_rem (by omega) (by omega) (by omega), b10.1, b10.2.1]
      rw [q1 m hR.2.1, Option.bind_some, if_neg (show ¬ nI 1 = (0 : Int32) by decide)]
      by_cases y0 : y = 0
      · refine ⟨nI (cu_a n i), m, m, ?_, sm_r m, ?_, sm_r m⟩
        · rw [if_pos y0]; simp (disch := omega) only [nq0, nq1, nq2, nq3, nq4, nq5, nq6, nq7, nq8, nq9, nq10, nq11, nq20, nq24, nq27, nq30, nq40, nI_add, pk_sub, pk_mul, nq_div, nq_rem, nq_shl1, nq_shl2, nq_bit1, nq_bit0, nq_or, nq_and, nq_nd, ml_cl, nq_in, nq_le, nq_nle, nq_lt, nq_nlt, nq_eq, nq_ne, nq_eqT, Option.bind_some, Bool.false_eq_true, Bool.true_eq_false, ↓reduceIte, r3.1]
        · rw [M m hP.1, if_pos y0]
      rw [if_neg y0]
      by_cases y1 : y = 1
      · refine ⟨nI (cu_b n i), m, m, ?_, sm_r m, ?_, sm_r m⟩
        · rw [if_pos y1]; simp (disch := omega) only [nq0, nq1, nq2, nq3, nq4, nq5, nq6, nq7, nq8, nq9, nq10, nq11, nq20, nq24, nq27, nq30, nq40, nI_add, pk_sub, pk_mul, nq_div, nq_rem, nq_shl1, nq_shl2, nq_bit1, nq_bit0, nq_or, nq_and, nq_nd, ml_cl, nq_in, nq_le, nq_nle, nq_lt, nq_nlt, nq_eq, nq_ne, nq_eqT, Option.bind_some, Bool.false_eq_true, Bool.true_eq_false, ↓reduceIte, r3.2.1]
        · rw [M m hP.1, if_neg y0, if_pos y1]
      rw [if_neg y1]
      by_cases y2 : y = 2
      · rw [if_pos y2, hc_has hF.2.1 hcu (by omega)]
        by_cases z : cu.testBit i = true
        · rw [if_pos z]
          refine ⟨nI 1, m, m, rfl, sm_r m, ?_, sm_r m⟩
          rw [M m hP.1, if_neg y0, if_neg y1, if_pos y2, g2, nq_has1 (by omega) (by omega) z]; rfl
        · rw [if_neg z]
          refine ⟨nI 0, m, m, rfl, sm_r m, ?_, sm_r m⟩
          rw [M m hP.1, if_neg y0, if_neg y1, if_pos y2, g2, nq_has0 (by omega) (by omega) z]; rfl
      rw [if_neg y2]
      by_cases y3 : y = 3
      · rw [if_pos y3, hF.2.1]
        obtain ⟨m', e1, e2⟩ := hc_fl h4 h9 hR hv hi
        have hlt : ∀ j, fl n cu i = some j → j < 100 := fun j q => by have := fl_ok h4 h9 hv hi q; omega
        have s := sm_25 e2
        refine ⟨fv (-1000000) (fl n cu i), m', m', ?_, s, ?_, sm_r m'⟩
        · rw [e1, Option.bind_some]
          cases hf : fl n cu i with
          | none => rfl
          | some j =>
            have : ¬ fv (-1) (some j) < (0 : Int32) := fun q => by rw [(fv_neg (some j) (fun k e => hlt k (by rw [hf, e]))).1] at q; cases q
            rw [if_neg this]; rfl
        · have g3 : m'.1 67 0 = nI n := by rw [e2.1 _ _ (by omega)]; exact hP.1
          have g4 : m'.1 67 1 = nI cu := by rw [e2.1 _ _ (by omega)]; exact g2
          rw [M m' g3, if_neg y0, if_neg y1, if_neg y2, if_pos y3, hm_fl h4 h9 g3 g4 hcu hi]; rfl
      rw [if_neg y3]
      refine ⟨_, m, m, rfl, sm_r m, ?_, sm_r m⟩
      rw [M m hP.1, if_neg y0, if_neg y1, if_neg y2, if_neg y3]
