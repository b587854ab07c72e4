/-! ===== piece, ways, the greatest piece ===== -/
theorem sc_k {n cu k : Nat} (h : 4 ≤ n) (h9 : n ≤ 9) (hk : k < cu_N n) (hb : cu.testBit k = true) : sc n cu (cu_a n k) (cu_b n k) := by
  have := cu_ab h h9 hk
  exact ⟨this.1, this.2.1, Or.inr ⟨k, hk, hb, rfl, rfl⟩⟩
theorem sc_0 {n cu : Nat} (h : 4 ≤ n) : sc n cu 0 (n - 1) := ⟨by omega, by omega, Or.inl ⟨rfl, by omega⟩⟩
theorem pc_two {x i j : Nat} (hij : i < j) (hj : j < 30) (h1 : x.testBit i = true) (h2 : x.testBit j = true) : 2 ≤ pc x 30 := by
  have a := pc_s x i
  have b := pc_s x j
  rw [if_pos h1] at a
  rw [if_pos h2] at b
  have c := pc_mono x (show i + 1 ≤ j by omega)
  have d := pc_mono x (show j + 1 ≤ 30 by omega)
  omega
/-- how many corners it has -/
def sz (n cu a b : Nat) : Nat := pc (pU n cu a b) 30
theorem sz_b {n cu a b : Nat} (h : 4 ≤ n) (h9 : n ≤ 9) (hs : sc n cu a b) : 2 ≤ sz n cu a b ∧ sz n cu a b ≤ 9 := by
  obtain ⟨hab, hbn, _⟩ := hs
  have na : ¬ cov n cu a b a = true := fun q => by
    obtain ⟨k, hk, q⟩ := cov_iff.mp q
    unfold cvP at q; omega
  have nb' : ¬ cov n cu a b b = true := fun q => by
    obtain ⟨k, hk, q⟩ := cov_iff.mp q
    unfold cvP at q; omega
  refine ⟨pc_two (show a < b by omega) (by omega) (pU_tb.mpr ⟨by omega, by omega, by omega, na⟩) (pU_tb.mpr ⟨by omega, by omega, by omega, nb'⟩), ?_⟩
  unfold sz
  rw [pc_30 (n := 9) (by omega) (pU_lt h9)]
  exact pc_le _ _
theorem hc_sz {n cu a b : Nat} {m : am_Mm} (h : 4 ≤ n) (h9 : n ≤ 9) (hv : cu_V n cu) (hs : sc n cu a b) (hJ : ∀ c, c < n → m.1 25 c = nI (Jm n cu c)) : f_Ring_sizeUnder (nI a) (nI b) m = some (nI (sz n cu a b), m) := by
  have hl := @pU_lt n cu a b h9
  have hb := sz_b h h9 hs
  unfold f_Ring_sizeUnder
  rw [hc_pU h h9 hv hs hJ, Option.bind_some, nq_bc (by omega), Option.bind_some, bits9 _ (by omega), nq9, nq_min _ 9 (by show sz n cu a b < _; omega) (by omega)]
  show some (nI (min (sz n cu a b) 9), m) = _
  rw [Nat.min_eq_left hb.2]
theorem hm_wo {k : Nat} (h2 : 2 ≤ k) (h9 : k ≤ 9) (m : am_Mm) : f_M_waysOf (nI k) m = some (am_wv k, m) := by
  unfold f_M_waysOf
  rcases (show k = 2 ∨ k = 3 ∨ k = 4 ∨ k = 5 ∨ k = 6 ∨ k = 7 ∨ k = 8 ∨ k = 9 by omega) with rfl | rfl | rfl | rfl | rfl | rfl | rfl | rfl <;> simp (disch := omega) only [nq0, nq1, nq2, nq3, nq4, nq5, nq6, nq7, nq8, nq9, nq10, nq11, nq20, nq24, nq27, nq30, nq40, nI_add, pk_sub, pk_mul, nq_div, nq_rem, nq_shl1, nq_shl2, nq_bit1, nq_bit0, nq_or, nq_and, nq_nd, ml_cl, nq_in, nq_le, nq_nle, nq_lt, nq_nlt, nq_eq, nq_ne, nq_eqT, Option.bind_some, Bool.false_eq_true, Bool.true_eq_false, ↓reduceIte] <;> rfl
def wF (n cu : Nat) : Nat → Int32
  | 0 => am_wv (sz n cu 0 (n - 1))
  | k + 1 => if cu.testBit k then wF n cu k * am_wv (sz n cu (cu_a n k) (cu_b n k)) else wF n cu k
def gP (n cu : Nat) : Nat → Nat
  | 0 => sz n cu 0 (n - 1)
  | k + 1 => if cu.testBit k then max (gP n cu k) (sz n cu (cu_a n k) (cu_b n k)) else gP n cu k
theorem gP_b {n cu : Nat} (h : 4 ≤ n) (h9 : n ≤ 9) : ∀ k, k ≤ cu_N n → gP n cu k ≤ 9
  | 0, _ => (sz_b h h9 (sc_0 h)).2
  | k + 1, hk => by
    have ih := gP_b (cu := cu) h h9 k (by omega)
    rw [gP]
    by_cases q : cu.testBit k = true
    · rw [if_pos q]
      have := (sz_b h h9 (sc_k h h9 (show k < cu_N n by omega) q)).2
      omega
    · rw [if_neg q]; exact ih
theorem pz_ways : ∀ (L : Nat) (xs : Nat → Int32), am_Pz rl_All (f_C_ways (am_roL L xs)) f_M_ways := by
  intro Lx xs m h
  unfold f_C_ways
  rcases vw_of h with hn | ⟨n, cu, kd, ow, ok, hR, hF, hP⟩
  · rw [hc_there hn.1 (by omega)]
    refine ⟨_, m, m, rfl, ?_, h⟩
    unfold f_M_ways
    rw [hm_there hn.2.2.1 (by omega)]; rfl
  · have h4 := ok.1
    have h9 := ok.2.1
    have hv := ok.2.2.1
    have hcu := cu_V_lt h4 h9 hv
    have h27 := cu_N27 h4 h9
    obtain ⟨m1, j1, j2, j3⟩ := hc_join h4 h9 hR hcu
    have hR1 := only25_ring j2 hR
    have r1 : ((am_roL Lx xs) 0).1 = 10 := rfl
    have r2 : ((am_roL Lx xs) 0).2 = am_wv := rfl
    obtain ⟨p0, p1⟩ := rl_Pol_0 hP
    have q0 : m1.1 67 0 = nI n := by rw [j2.1 _ _ (by omega)]; exact p0
    have q1 : m1.1 67 1 = nI cu := by rw [j2.1 _ _ (by omega)]; exact p1
    have C : ∀ t k f, k + t = cu_N n → t < f → f_Ring_waysToTriangles_b23 (am_roL Lx xs) f (nI cu) (wF n cu k) (nI k) m1 = some (wF n cu (cu_N n), m1) := by
      intro t
      induction t with
      | zero =>
        intro k f hk hf
        obtain ⟨f, rfl⟩ : ∃ z, f = z + 1 := ⟨f - 1, by omega⟩
        have hk : k = cu_N n := by omega
        subst hk
        rw [f_Ring_waysToTriangles_b23, hR1.2.1, if_pos (nI_le (Nat.le_refl _) (by omega))]
      | succ t ih =>
        intro k f hk hf
        obtain ⟨f, rfl⟩ : ∃ z, f = z + 1 := ⟨f - 1, by omega⟩
        have r3 := hR1.2.2.1 k (by omega)
        rw [f_Ring_waysToTriangles_b23, hR1.2.1, if_neg (nI_ge (by omega) (by omega)), ← ih (k + 1) f (by omega) (by omega), wF, r1, r2]
        unfold f_Ring_waysToTriangles_b63
        by_cases hb : cu.testBit k = true
        · have sb := sz_b h4 h9 (sc_k h4 h9 (show k < cu_N n by omega) hb)
          rw [if_pos hb, if_pos (by rw [nq1, nq_bit1 (by omega) (by omega)]; exact hb), if_pos (am_in_nI (by omega) (by omega)), if_pos (am_in_nI (by omega) (by omega)), ml_cl (by omega), r3.1, r3.2.1, hc_sz h4 h9 hv (sc_k h4 h9 (by omega) hb) j3, Option.bind_some, if_pos (am_in_nI (by omega) (by omega)), ml_cl (by omega), nI_1]
        · rw [if_neg hb, if_neg (by rw [nq1, nq_bit1 (by omega) (by omega)]; exact hb), nI_1]
    have M : ∀ t k f, k + t = cu_N n → t < f → f_M_ways_b36 f (nI n) (wF n cu k) (nI k) m1 = some (wF n cu (cu_N n), m1) := by
      intro t
      induction t with
      | zero =>
        intro k f hk hf
        obtain ⟨f, rfl⟩ : ∃ z, f = z + 1 := ⟨f - 1, by omega⟩
        have hk : k = cu_N n := by omega
        subst hk
        rw [f_M_ways_b36, hm_many h4 h9, Option.bind_some, if_pos (nI_le (Nat.le_refl _) (by omega))]
      | succ t ih =>
        intro k f hk hf
        obtain ⟨f, rfl⟩ : ∃ z, f = z + 1 := ⟨f - 1, by omega⟩
        have kab := cu_ab h4 h9 (show k < cu_N n by omega)
        rw [f_M_ways_b36, hm_many h4 h9, Option.bind_some, if_neg (nI_ge (by omega) (by omega)), ← ih (k + 1) f (by omega) (by omega), wF]
        unfold f_M_ways_b80
        dsimp only
        rw [q1]
        by_cases hb : cu.testBit k = true
        · have sb := sz_b h4 h9 (sc_k h4 h9 (show k < cu_N n by omega) hb)
          have sb' : 2 ≤ pc (pU n cu (cu_a n k) (cu_b n k)) 30 ∧ pc (pU n cu (cu_a n k) (cu_b n k)) 30 ≤ 9 := sb
          have hl := @pU_lt n cu (cu_a n k) (cu_b n k) h9
          rw [if_pos hb, nq_has1 (by omega) (by omega) hb, Option.bind_some, if_neg ne01, hm_ends h4 h9 (by omega), Option.bind_some, hm_pU h4 h9 q0 q1 hcu kab.1 kab.2.1, Option.bind_some, nq_size (by omega), Option.bind_some, hm_wo sb'.1 sb'.2, Option.bind_some, nI_1]
          rfl
        · rw [if_neg hb, nq_has0 (by omega) (by omega) hb, Option.bind_some, if_pos e00, Int32.mul_one, nI_1]
    have s0 := sz_b (cu := cu) h4 h9 (sc_0 h4)
    have s0' : 2 ≤ pc (pU n cu 0 (n - 1)) 30 ∧ pc (pU n cu 0 (n - 1)) 30 ≤ 9 := s0
    have hl0 := @pU_lt n cu 0 (n - 1) h9
    refine ⟨wF n cu (cu_N n), m1, m1, ?_, ?_, sm_All (sm_25 j2) h⟩
    · rw [hc_th1 hF.1 h4 h9, Option.bind_some, if_neg ne01]
      dsimp only
      rw [hF.2.1]
      unfold f_Ring_waysToTriangles
      rw [j1, Option.bind_some, hR1.1, nq1, pk_sub (show 1 ≤ n by omega), nq0, hc_sz h4 h9 hv (sc_0 h4) j3, Option.bind_some, r1, r2, if_pos (am_in_nI (by omega) (by omega)), ml_cl (by omega)]
      have := C (cu_N n) 0 am_F (by omega) (by show _ < 5000; omega)
      rw [show wF n cu 0 = am_wv (sz n cu 0 (n - 1)) from rfl] at this
      rw [this]; rfl
    · unfold f_M_ways
      have e10 : nI n - (1 : Int32) = nI (10 * 0 + (n - 1)) := by rw [nq1, pk_sub (show 1 ≤ n by omega)]; congr 1; omega
      rw [hm_th1 q0 h4 h9, Option.bind_some, if_neg ne01]
      dsimp only
      rw [q0, e10, hm_pU h4 h9 q0 q1 hcu (by omega) (by omega), Option.bind_some, nq_size (by omega), Option.bind_some, hm_wo s0'.1 s0'.2, Option.bind_some]
      have := M (cu_N n) 0 am_F (by omega) (by show _ < 5000; omega)
      exact this
theorem hc_gr {n cu : Nat} {m : am_Mm} (h4 : 4 ≤ n) (h9 : n ≤ 9) (hR : rl_Ring m.1 20 n) (hv : cu_V n cu) : ∃ m', f_Ring_greatestPiece (nI cu) m = some (nI (gP n cu (cu_N n)), m') ∧ only25 m m' := by
  have hcu := cu_V_lt h4 h9 hv
  have h27 := cu_N27 h4 h9
  obtain ⟨m1, j1, j2, j3⟩ := hc_join h4 h9 hR hcu
  have hR1 := only25_ring j2 hR
  have C : ∀ t k f, k + t = cu_N n → t < f → f_Ring_greatestPiece_b19 f (nI cu) (nI (gP n cu k)) (nI k) m1 = some (nI (gP n cu (cu_N n)), m1) := by
    intro t
    induction t with
    | zero =>
      intro k f hk hf
      obtain ⟨f, rfl⟩ : ∃ z, f = z + 1 := ⟨f - 1, by omega⟩
      have hk : k = cu_N n := by omega
      subst hk
      rw [f_Ring_greatestPiece_b19, hR1.2.1, if_pos (nI_le (Nat.le_refl _) (by omega))]
    | succ t ih =>
      intro k f hk hf
      obtain ⟨f, rfl⟩ : ∃ z, f = z + 1 := ⟨f - 1, by omega⟩
      have r3 := hR1.2.2.1 k (by omega)
      have gb := gP_b (cu := cu) h4 h9 k (by omega)
      rw [f_Ring_greatestPiece_b19, hR1.2.1, if_neg (nI_ge (by omega) (by omega)), ← ih (k + 1) f (by omega) (by omega), gP]
      unfold f_Ring_greatestPiece_b57
      by_cases hb : cu.testBit k = true
      · have sb := sz_b h4 h9 (sc_k h4 h9 (show k < cu_N n by omega) hb)
        rw [if_pos hb, if_pos (by rw [nq1, nq_bit1 (by omega) (by omega)]; exact hb), if_pos (am_in_nI (by omega) (by omega)), if_pos (am_in_nI (by omega) (by omega)), ml_cl (by omega), r3.1, r3.2.1, hc_sz h4 h9 hv (sc_k h4 h9 (by omega) hb) j3, Option.bind_some, nq_max _ _ (by omega) (by omega), nI_1]
      · rw [if_neg hb, if_neg (by rw [nq1, nq_bit1 (by omega) (by omega)]; exact hb), nI_1]
  refine ⟨m1, ?_, j2⟩
  unfold f_Ring_greatestPiece
  rw [j1, Option.bind_some, hR1.1, nq1, pk_sub (show 1 ≤ n by omega), nq0, hc_sz h4 h9 hv (sc_0 h4) j3, Option.bind_some]
  exact C (cu_N n) 0 am_F (by omega) (by show _ < 5000; omega)
theorem hm_gr {n cu : Nat} {m : am_Mm} (h4 : 4 ≤ n) (h9 : n ≤ 9) (q0 : m.1 69 0 = nI n) (q1 : m.1 69 1 = nI cu) (hcu : cu < 2 ^ 27) : f_M_greatest m = some (nI (gP n cu (cu_N n)), m) := by
  have h27 := cu_N27 h4 h9
  have M : ∀ t k f, k + t = cu_N n → t < f → f_M_greatest_b17 f (nI n) (nI (gP n cu k)) (nI k) m = some (nI (gP n cu (cu_N n)), m) := by
    intro t
    induction t with
    | zero =>
      intro k f hk hf
      obtain ⟨f, rfl⟩ : ∃ z, f = z + 1 := ⟨f - 1, by omega⟩
      have hk : k = cu_N n := by omega
      subst hk
      rw [f_M_greatest_b17, hm_many h4 h9, Option.bind_some, if_pos (nI_le (Nat.le_refl _) (by omega))]
    | succ t ih =>
      intro k f hk hf
      obtain ⟨f, rfl⟩ : ∃ z, f = z + 1 := ⟨f - 1, by omega⟩
      have kab := cu_ab h4 h9 (show k < cu_N n by omega)
      have gb := gP_b (cu := cu) h4 h9 k (by omega)
      rw [f_M_greatest_b17, hm_many h4 h9, Option.bind_some, if_neg (nI_ge (by omega) (by omega)), ← ih (k + 1) f (by omega) (by omega), gP]
      unfold f_M_greatest_b51 f_M_greatest_b65
      dsimp only
      rw [q1]
      by_cases hb : cu.testBit k = true
      · have sb := sz_b h4 h9 (sc_k h4 h9 (show k < cu_N n by omega) hb)
        have hl := @pU_lt n cu (cu_a n k) (cu_b n k) h9
        rw [if_pos hb, nq_has1 (by omega) (by omega) hb, Option.bind_some, if_neg ne01, hm_ends h4 h9 (by omega), Option.bind_some, hm_pU h4 h9 q0 q1 hcu kab.1 kab.2.1, Option.bind_some, nq_size (by omega), Option.bind_some, nI_1]
        show (if nI (sz n cu (cu_a n k) (cu_b n k)) ≤ nI (gP n cu k) then _ else f_M_greatest_b17 f (nI n) (nI (sz n cu (cu_a n k) (cu_b n k))) (nI (k + 1)) m) = _
        by_cases z : sz n cu (cu_a n k) (cu_b n k) ≤ gP n cu k
        · rw [if_pos (nI_le z (by omega)), Nat.max_eq_left z]
        · rw [if_neg (nI_ge (by omega) (by omega)), Nat.max_eq_right (by omega)]
      · rw [if_neg hb, nq_has0 (by omega) (by omega) hb, Option.bind_some, if_pos e00, if_pos (show (0 : Int32) ≤ nI (gP n cu k) from nI_pos' (by omega)), nI_1]
  have hl0 := @pU_lt n cu 0 (n - 1) h9
  have e10 : nI n - (1 : Int32) = nI (10 * 0 + (n - 1)) := by rw [nq1, pk_sub (show 1 ≤ n by omega)]; congr 1; omega
  unfold f_M_greatest
  rw [q0, e10, hm_pU h4 h9 q0 q1 hcu (by omega) (by omega), Option.bind_some, nq_size (by omega), Option.bind_some]
  exact M (cu_N n) 0 am_F (by omega) (by show _ < 5000; omega)
/-- the narrowest over a side -/
def ovr (n cu c : Nat) : Nat → Nat × Nat
  | 0 => (0, n - 1)
  | k + 1 => if cu.testBit k = true ∧ cu_a n k ≤ c ∧ c < cu_b n k ∧ cu_b n k - cu_a n k < (ovr n cu c k).2 - (ovr n cu c k).1 then (cu_a n k, cu_b n k) else ovr n cu c k
theorem ovr_s {n cu c : Nat} (h : 4 ≤ n) (h9 : n ≤ 9) : ∀ k, k ≤ cu_N n → sc n cu (ovr n cu c k).1 (ovr n cu c k).2
  | 0, _ => sc_0 h
  | k + 1, hk => by
    have ih := ovr_s (cu := cu) (c := c) h h9 k (by omega)
    rw [ovr]
    by_cases q : cu.testBit k = true ∧ cu_a n k ≤ c ∧ c < cu_b n k ∧ cu_b n k - cu_a n k < (ovr n cu c k).2 - (ovr n cu c k).1
    · rw [if_pos q]; exact sc_k h h9 (by omega) q.1
    · rw [if_neg q]; exact ih
theorem pz_piece : ∀ a0 : Int32, am_Pz rl_All (f_C_piece a0) (f_M_piece a0) := by
  intro x m h
  unfold f_C_piece
  rcases vw_of h with hn | ⟨n, cu, kd, ow, ok, hR, hF, hP⟩
  · rcases isC (Nat.zero_le 9) x with q | ⟨c, hc, _⟩
    · rw [q.1 m hn.1]
      refine ⟨_, m, m, rfl, ?_, h⟩
      unfold f_M_piece
      rw [q.2 m hn.2.2.1]; rfl
    · omega
  have h4 := ok.1
  have h9 := ok.2.1
  have hv := ok.2.2.1
  have hcu := cu_V_lt h4 h9 hv
  have h27 := cu_N27 h4 h9
  rcases isC h9 x with q | ⟨c, hc, rfl, q1, q2⟩
  · rw [q.1 m hF.1]
    refine ⟨_, m, m, rfl, ?_, h⟩
    unfold f_M_piece
    rw [q.2 m hP.1]; rfl
  obtain ⟨m1, j1, j2, j3⟩ := hc_join h4 h9 hR hcu
  have hR1 := only25_ring j2 hR
  obtain ⟨p0, p1⟩ := rl_Pol_0 hP
  have z0 : m1.1 67 0 = nI n := by rw [j2.1 _ _ (by omega)]; exact p0
  have z1 : m1.1 67 1 = nI cu := by rw [j2.1 _ _ (by omega)]; exact p1
  have C : ∀ t k f, k + t = cu_N n → t < f → f_Ring_pieceAt_b18 f (nI cu) (nI c) (nI (ovr n cu c k).1) (nI (ovr n cu c k).2) (nI k) m1 = some (nI (pU n cu (ovr n cu c (cu_N n)).1 (ovr n cu c (cu_N n)).2), m1) := by
    intro t
    induction t with
    | zero =>
      intro k f hk hf
      obtain ⟨f, rfl⟩ : ∃ z, f = z + 1 := ⟨f - 1, by omega⟩
      have hk : k = cu_N n := by omega
      subst hk
      rw [f_Ring_pieceAt_b18, hR1.2.1, if_pos (nI_le (Nat.le_refl _) (by omega)), hc_pU h4 h9 hv (ovr_s h4 h9 _ (Nat.le_refl _)) j3]; rfl
    | succ t ih =>
      intro k f hk hf
      obtain ⟨f, rfl⟩ : ∃ z, f = z + 1 := ⟨f - 1, by omega⟩
      have r3 := hR1.2.2.1 k (by omega)
      have kab := cu_ab h4 h9 (show k < cu_N n by omega)
      have os := ovr_s (cu := cu) (c := c) h4 h9 k (by omega)
      obtain ⟨o1, o2, _⟩ := os
      have hov : ovr n cu c (k + 1) = if cu.testBit k = true ∧ cu_a n k ≤ c ∧ c < cu_b n k ∧ cu_b n k - cu_a n k < (ovr n cu c k).2 - (ovr n cu c k).1 then (cu_a n k, cu_b n k) else ovr n cu c k := rfl
      have ih1 := ih (k + 1) f (by omega) (by omega)
      rw [hov] at ih1
      rw [f_Ring_pieceAt_b18, hR1.2.1, if_neg (nI_ge (by omega) (by omega)), ← ih1]
      unfold f_Ring_pieceAt_b54 f_Ring_pieceAt_b110
      by_cases hb : cu.testBit k = true
      rotate_left
      · rw [if_neg (show ¬ (cu.testBit k = true ∧ cu_a n k ≤ c ∧ c < cu_b n k ∧ cu_b n k - cu_a n k < (ovr n cu c k).2 - (ovr n cu c k).1) from fun z => hb z.1)]
        by_cases g1 : c < cu_a n k
        · simp (disch := omega) only [nq0, nq1, nq2, nq3, nq4, nq5, nq6, nq7, nq8, nq9, nq10, nq11, nq20, nq24, nq27, nq30, nq40, nI_add, pk_sub, pk_mul, nq_div, nq_rem, nq_shl1, nq_shl2, nq_bit1, nq_bit0, nq_or, nq_and, nq_nd, ml_cl, nq_in, nq_le, nq_nle, nq_lt, nq_nlt, nq_eq, nq_ne, nq_eqT, Option.bind_some, Bool.false_eq_true, Bool.true_eq_false, ↓reduceIte, r3.1, r3.2.1, hb]
        · by_cases g2 : cu_b n k ≤ c
          · simp (disch := omega) only [nq0, nq1, nq2, nq3, nq4, nq5, nq6, nq7, nq8, nq9, nq10, nq11, nq20, nq24, nq27, nq30, nq40, nI_add, pk_sub, pk_mul, nq_div, nq_rem, nq_shl1, nq_shl2, nq_bit1, nq_bit0, nq_or, nq_and, nq_nd, ml_cl, nq_in, nq_le, nq_nle, nq_lt, nq_nlt, nq_eq, nq_ne, nq_eqT, Option.bind_some, Bool.false_eq_true, Bool.true_eq_false, ↓reduceIte, r3.1, r3.2.1, hb]
          · simp (disch := omega) only [nq0, nq1, nq2, nq3, nq4, nq5, nq6, nq7, nq8, nq9, nq10, nq11, nq20, nq24, nq27, nq30, nq40, nI_add, pk_sub, pk_mul, nq_div, nq_rem, nq_shl1, nq_shl2, nq_bit1, nq_bit0, nq_or, nq_and, nq_nd, ml_cl, nq_in, nq_le, nq_nle, nq_lt, nq_nlt, nq_eq, nq_ne, nq_eqT, Option.bind_some, Bool.false_eq_true, Bool.true_eq_false, ↓reduceIte, r3.1, r3.2.1, hb]
      by_cases g1 : c < cu_a n k
      · rw [if_neg (show ¬ (cu.testBit k = true ∧ cu_a n k ≤ c ∧ c < cu_b n k ∧ cu_b n k - cu_a n k < (ovr n cu c k).2 - (ovr n cu c k).1) by omega)]
        simp (disch := omega) only [nq0, nq1, nq2, nq3, nq4, nq5, nq6, nq7, nq8, nq9, nq10, nq11, nq20, nq24, nq27, nq30, nq40, nI_add, pk_sub, pk_mul, nq_div, nq_rem, nq_shl1, nq_shl2, nq_bit1, nq_bit0, nq_or, nq_and, nq_nd, ml_cl, nq_in, nq_le, nq_nle, nq_lt, nq_nlt, nq_eq, nq_ne, nq_eqT, Option.bind_some, Bool.false_eq_true, Bool.true_eq_false, ↓reduceIte, r3.1, r3.2.1, hb]
      by_cases g2 : cu_b n k ≤ c
      · rw [if_neg (show ¬ (cu.testBit k = true ∧ cu_a n k ≤ c ∧ c < cu_b n k ∧ cu_b n k - cu_a n k < (ovr n cu c k).2 - (ovr n cu c k).1) by omega)]
        simp (disch := omega) only [nq0, nq1, nq2, nq3, nq4, nq5, nq6, nq7, nq8, nq9, nq10, nq11, nq20, nq24, nq27, nq30, nq40, nI_add, pk_sub, pk_mul, nq_div, nq_rem, nq_shl1, nq_shl2, nq_bit1, nq_bit0, nq_or, nq_and, nq_nd, ml_cl, nq_in, nq_le, nq_nle, nq_lt, nq_nlt, nq_eq, nq_ne, nq_eqT, Option.bind_some, Bool.false_eq_true, Bool.true_eq_false, ↓reduceIte, r3.1, r3.2.1, hb]
      by_cases g3 : (ovr n cu c k).2 - (ovr n cu c k).1 ≤ cu_b n k - cu_a n k
      · rw [if_neg (show ¬ (cu.testBit k = true ∧ cu_a n k ≤ c ∧ c < cu_b n k ∧ cu_b n k - cu_a n k < (ovr n cu c k).2 - (ovr n cu c k).1) by omega)]
        simp (disch := omega) only [nq0, nq1, nq2, nq3, nq4, nq5, nq6, nq7, nq8, nq9, nq10, nq11, nq20, nq24, nq27, nq30, nq40, nI_add, pk_sub, pk_mul, nq_div, nq_rem, nq_shl1, nq_shl2, nq_bit1, nq_bit0, nq_or, nq_and, nq_nd, ml_cl, nq_in, nq_le, nq_nle, nq_lt, nq_nlt, nq_eq, nq_ne, nq_eqT, Option.bind_some, Bool.false_eq_true, Bool.true_eq_false, ↓reduceIte, r3.1, r3.2.1, hb]
      · rw [if_pos (show cu.testBit k = true ∧ cu_a n k ≤ c ∧ c < cu_b n k ∧ cu_b n k - cu_a n k < (ovr n cu c k).2 - (ovr n cu c k).1 from ⟨hb, by omega, by omega, by omega⟩)]
        simp (disch := omega) only [nq0, nq1, nq2, nq3, nq4, nq5, nq6, nq7, nq8, nq9, nq10, nq11, nq20, nq24, nq27, nq30, nq40, nI_add, pk_sub, pk_mul, nq_div, nq_rem, nq_shl1, nq_shl2, nq_bit1, nq_bit0, nq_or, nq_and, nq_nd, ml_cl, nq_in, nq_le, nq_nle, nq_lt, nq_nlt, nq_eq, nq_ne, nq_eqT, Option.bind_some, Bool.false_eq_true, Bool.true_eq_false, ↓reduceIte, r3.1, r3.2.1, hb]
  have NB : n - 1 ≤ c → ∀ k, k ≤ cu_N n → ovr n cu c k = (0, n - 1) := by
    intro hcn k
    induction k with
    | zero => intro _; rfl
    | succ k ih =>
      intro hk
      have kab := cu_ab h4 h9 (show k < cu_N n by omega)
      rw [ovr, if_neg (by omega)]
      exact ih (by omega)
  have M : c < n - 1 → ∀ t k f, k + t = cu_N n → t < f → f_M_over_b11 f (nI c) (nI n) (nI (10 * (ovr n cu c k).1 + (ovr n cu c k).2)) (nI k) m1 = some (nI (10 * (ovr n cu c (cu_N n)).1 + (ovr n cu c (cu_N n)).2), m1) := by
    intro hcn t
    induction t with
    | zero =>
      intro k f hk hf
      obtain ⟨f, rfl⟩ : ∃ z, f = z + 1 := ⟨f - 1, by omega⟩
      have hk : k = cu_N n := by omega
      subst hk
      rw [f_M_over_b11, hm_many h4 h9, Option.bind_some, if_pos (nI_le (Nat.le_refl _) (by omega))]
    | succ t ih =>
      intro k f hk hf
      obtain ⟨f, rfl⟩ : ∃ z, f = z + 1 := ⟨f - 1, by omega⟩
      have kab := cu_ab h4 h9 (show k < cu_N n by omega)
      have b10 := hm_b10 h4 h9 (show k < cu_N n by omega)
      have os := ovr_s (cu := cu) (c := c) h4 h9 k (by omega)
      obtain ⟨o1, o2, _⟩ := os
      have hov : ovr n cu c (k + 1) = if cu.testBit k = true ∧ cu_a n k ≤ c ∧ c < cu_b n k ∧ cu_b n k - cu_a n k < (ovr n cu c k).2 - (ovr n cu c k).1 then (cu_a n k, cu_b n k) else ovr n cu c k := rfl
      have ih1 := ih (k + 1) f (by omega) (by omega)
      rw [hov] at ih1
      have e1 : (10 * (ovr n cu c k).1 + (ovr n cu c k).2) / 10 = (ovr n cu c k).1 := by omega
      have e2 : (10 * (ovr n cu c k).1 + (ovr n cu c k).2) % 10 = (ovr n cu c k).2 := by omega
      rw [f_M_over_b11, ← ih1]
      unfold f_M_over_b69 f_M_over_b105
      by_cases hb : cu.testBit k = true
      rotate_left
      · rw [if_neg (show ¬ (cu.testBit k = true ∧ cu_a n k ≤ c ∧ c < cu_b n k ∧ cu_b n k - cu_a n k < (ovr n cu c k).2 - (ovr n cu c k).1) from fun z => hb z.1)]
        simp (disch := omega) only [nq0, nq1, nq2, nq3, nq4, nq5, nq6, nq7, nq8, nq9, nq10, nq11, nq20, nq24, nq27, nq30, nq40, nI_add, pk_sub, pk_mul, nq_div, nq_rem, nq_shl1, nq_shl2, nq_bit1, nq_bit0, nq_or, nq_and, nq_nd, ml_cl, nq_in, nq_le, nq_nle, nq_lt, nq_nlt, nq_eq, nq_ne, nq_eqT, Option.bind_some, Bool.false_eq_true, Bool.true_eq_false, ↓reduceIte, hm_many h4 h9, hm_ends h4 h9, z1, nq_has0 _ _ hb]
      by_cases g1 : c < cu_a n k
      · rw [if_neg (show ¬ (cu.testBit k = true ∧ cu_a n k ≤ c ∧ c < cu_b n k ∧ cu_b n k - cu_a n k < (ovr n cu c k).2 - (ovr n cu c k).1) by omega)]
        simp (disch := omega) only [nq0, nq1, nq2, nq3, nq4, nq5, nq6, nq7, nq8, nq9, nq10, nq11, nq20, nq24, nq27, nq30, nq40, nI_add, pk_sub, pk_mul, nq_div, nq_rem, nq_shl1, nq_shl2, nq_bit1, nq_bit0, nq_or, nq_and, nq_nd, ml_cl, nq_in, nq_le, nq_nle, nq_lt, nq_nlt, nq_eq, nq_ne, nq_eqT, Option.bind_some, Bool.false_eq_true, Bool.true_eq_false, ↓reduceIte, hm_many h4 h9, hm_ends h4 h9, z1, nq_has1 _ _ hb, b10.1, b10.2.1]
      by_cases g2 : cu_b n k ≤ c
      · rw [if_neg (show ¬ (cu.testBit k = true ∧ cu_a n k ≤ c ∧ c < cu_b n k ∧ cu_b n k - cu_a n k < (ovr n cu c k).2 - (ovr n cu c k).1) by omega)]
        simp (disch := omega) only [nq0, nq1, nq2, nq3, nq4, nq5, nq6, nq7, nq8, nq9, nq10, nq11, nq20, nq24, nq27, nq30, nq40, nI_add, pk_sub, pk_mul, nq_div, nq_rem, nq_shl1, nq_shl2, nq_bit1, nq_bit0, nq_or, nq_and, nq_nd, ml_cl, nq_in, nq_le, nq_nle, nq_lt, nq_nlt, nq_eq, nq_ne, nq_eqT, Option.bind_some, Bool.false_eq_true, Bool.true_eq_false, ↓reduceIte, hm_many h4 h9, hm_ends h4 h9, z1, nq_has1 _ _ hb, b10.1, b10.2.1]
      by_cases g3 : (ovr n cu c k).2 - (ovr n cu c k).1 ≤ cu_b n k - cu_a n k
      · rw [if_neg (show ¬ (cu.testBit k = true ∧ cu_a n k ≤ c ∧ c < cu_b n k ∧ cu_b n k - cu_a n k < (ovr n cu c k).2 - (ovr n cu c k).1) by omega)]
        simp (disch := omega) only [nq0, nq1, nq2, nq3, nq4, nq5, nq6, nq7, nq8, nq9, nq10, nq11, nq20, nq24, nq27, nq30, nq40, nI_add, pk_sub, pk_mul, nq_div, nq_rem, nq_shl1, nq_shl2, nq_bit1, nq_bit0, nq_or, nq_and, nq_nd, ml_cl, nq_in, nq_le, nq_nle, nq_lt, nq_nlt, nq_eq, nq_ne, nq_eqT, Option.bind_some, Bool.false_eq_true, Bool.true_eq_false, ↓reduceIte, hm_many h4 h9, hm_ends h4 h9, z1, nq_has1 _ _ hb, b10.1, b10.2.1, e1, e2]
      · rw [if_pos (show cu.testBit k = true ∧ cu_a n k ≤ c ∧ c < cu_b n k ∧ cu_b n k - cu_a n k < (ovr n cu c k).2 - (ovr n cu c k).1 from ⟨hb, by omega, by omega, by omega⟩)]
        simp (disch := omega) only [nq0, nq1, nq2, nq3, nq4, nq5, nq6, nq7, nq8, nq9, nq10, nq11, nq20, nq24, nq27, nq30, nq40, nI_add, pk_sub, pk_mul, nq_div, nq_rem, nq_shl1, nq_shl2, nq_bit1, nq_bit0, nq_or, nq_and, nq_nd, ml_cl, nq_in, nq_le, nq_nle, nq_lt, nq_nlt, nq_eq, nq_ne, nq_eqT, Option.bind_some, Bool.false_eq_true, Bool.true_eq_false, ↓reduceIte, hm_many h4 h9, hm_ends h4 h9, z1, nq_has1 _ _ hb, b10.1, b10.2.1, e1, e2]
  have e10 : nI n - (1 : Int32) = nI (10 * 0 + (n - 1)) := by rw [nq1, pk_sub (show 1 ≤ n by omega)]; congr 1; omega
  have MO : f_M_over (nI c) m1 = some (nI (10 * (ovr n cu c (cu_N n)).1 + (ovr n cu c (cu_N n)).2), m1) := by
    unfold f_M_over
    rw [z0, e10]
    rcases Nat.lt_or_ge c (n - 1) with g | g
    · exact M g (cu_N n) 0 am_F (by omega) (by show _ < 5000; omega)
    · rw [NB g _ (Nat.le_refl _)]
      have N2 := (cu_f1 n (by omega) h4).2.2.1
      show f_M_over_b11 (4999 + 1) (nI c) (nI n) (nI (10 * 0 + (n - 1))) (nI 0) m1 = _
      rw [f_M_over_b11, hm_many h4 h9, Option.bind_some, if_neg (nI_ge (show 0 < cu_N n by omega) (by omega)), nq1, pk_sub (show 1 ≤ n by omega), if_pos (nI_le g (by omega))]
  have os := ovr_s (cu := cu) (c := c) h4 h9 (cu_N n) (Nat.le_refl _)
  refine ⟨nI (pU n cu (ovr n cu c (cu_N n)).1 (ovr n cu c (cu_N n)).2), m1, m1, ?_, ?_, sm_All (sm_25 j2) h⟩
  · rw [q1 m hF.1, Option.bind_some, if_neg ne01]
    dsimp only
    rw [hF.2.1]
    unfold f_Ring_pieceAt
    rw [j1, Option.bind_some, hR1.1, nq1, pk_sub (show 1 ≤ n by omega), nq0]
    have := C (cu_N n) 0 am_F (by omega) (by show _ < 5000; omega)
    rw [show (ovr n cu c 0).1 = 0 from rfl, show (ovr n cu c 0).2 = n - 1 from rfl] at this
    rw [this]; rfl
  · unfold f_M_piece
    rw [q2 m1 z0, Option.bind_some, if_neg ne01, MO, Option.bind_some, hm_pU h4 h9 z0 z1 hcu os.1 os.2.1]; rfl
