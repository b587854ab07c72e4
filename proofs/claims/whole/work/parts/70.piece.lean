/-! ===== pieces ===== -/
def cvP (n cu a b c k : Nat) : Prop := cu.testBit k = true ∧ a ≤ cu_a n k ∧ cu_b n k ≤ b ∧ cu_b n k - cu_a n k < b - a ∧ cu_a n k < c ∧ c < cu_b n k
def cov (n cu a b c : Nat) : Bool := (List.range (cu_N n)).any fun k => cu.testBit k && decide (a ≤ cu_a n k ∧ cu_b n k ≤ b ∧ cu_b n k - cu_a n k < b - a ∧ cu_a n k < c ∧ c < cu_b n k)
theorem cov_iff {n cu a b c : Nat} : cov n cu a b c = true ↔ ∃ k, k < cu_N n ∧ cvP n cu a b c k := by
  unfold cov cvP
  rw [List.any_eq_true]
  constructor
  · rintro ⟨k, hk, q⟩
    rw [Bool.and_eq_true, decide_eq_true_eq] at q
    exact ⟨k, List.mem_range.mp hk, q⟩
  · rintro ⟨k, hk, q⟩
    exact ⟨k, List.mem_range.mpr hk, by rw [Bool.and_eq_true, decide_eq_true_eq]; exact q⟩
/-- the corners of the piece under a and b -/
def pU (n cu a b : Nat) : Nat := cu_bits n fun c => decide (a ≤ c ∧ c ≤ b) && !cov n cu a b c
theorem pU_tb {n cu a b c : Nat} : (pU n cu a b).testBit c = true ↔ c < n ∧ a ≤ c ∧ c ≤ b ∧ ¬ cov n cu a b c = true := by
  unfold pU
  rw [cu_bits_tb, Bool.and_eq_true, Bool.and_eq_true, decide_eq_true_eq, decide_eq_true_eq, Bool.not_eq_true', Bool.not_eq_true]
  constructor
  · rintro ⟨q1, q2, q3⟩; exact ⟨q1, q2.1, q2.2, q3⟩
  · rintro ⟨q1, q2, q3, q4⟩; exact ⟨q1, ⟨q2, q3⟩, q4⟩
theorem pU_lt {n cu a b : Nat} (h9 : n ≤ 9) : pU n cu a b < 2 ^ 9 := Nat.lt_of_lt_of_le (cu_bits_lt _ _) (Nat.pow_le_pow_right (by omega) h9)
/-- a side or a cut that is there -/
def sc (n cu a b : Nat) : Prop := a + 2 ≤ b ∧ b < n ∧ ((a = 0 ∧ b + 1 = n) ∨ ∃ k, k < cu_N n ∧ cu.testBit k = true ∧ cu_a n k = a ∧ cu_b n k = b)
theorem hc_far {n cu at_ lim : Nat} {m : am_Mm} (h9 : n ≤ 9) (ha : at_ < n) (hl : lim < n) (hJ : m.1 25 at_ = nI (Jm n cu at_)) : ∃ f, f_Ring_farthest (nI at_) (nI lim) m = some (nI f, m) ∧ ((f = at_ + 1 ∧ ∀ c, at_ + 1 < c → c ≤ lim → jo n cu at_ c = false) ∨ (at_ + 1 < f ∧ f ≤ lim ∧ jo n cu at_ f = true ∧ ∀ c, f < c → c ≤ lim → jo n cu at_ c = false)) := by
  have Jl := @Jm_lt n cu at_ h9
  have L : ∀ t c f, c = at_ + 1 + t → t < f → c ≤ lim ∨ t = 0 → (∀ d, c < d → d ≤ lim → jo n cu at_ d = false) → ∃ r, f_Ring_farthest_b14 f (nI at_) (nI c) m = some (nI r, m) ∧ ((r = at_ + 1 ∧ ∀ c, at_ + 1 < c → c ≤ lim → jo n cu at_ c = false) ∨ (at_ + 1 < r ∧ r ≤ lim ∧ jo n cu at_ r = true ∧ ∀ c, r < c → c ≤ lim → jo n cu at_ c = false)) := by
    intro t
    induction t with
    | zero =>
      intro c f hc hf _ H
      obtain ⟨f, rfl⟩ : ∃ z, f = z + 1 := ⟨f - 1, by omega⟩
      refine ⟨at_ + 1, ?_, Or.inl ⟨rfl, fun d q1 q2 => H d (by omega) q2⟩⟩
      rw [f_Ring_farthest_b14, nI_1, if_pos (nI_le (by omega) (by omega))]
    | succ t ih =>
      intro c f hc hf hcl H
      obtain ⟨f, rfl⟩ : ∃ z, f = z + 1 := ⟨f - 1, by omega⟩
      rw [f_Ring_farthest_b14, nI_1, if_neg (nI_ge (by omega) (by omega)), if_pos (am_in_nI (by omega) (by omega)), ml_cl (by omega), hJ]
      have tb2 : (Jm n cu at_).testBit c = jo n cu at_ c := by rw [Jm_tb, decide_eq_true (show c < n by omega), Bool.true_and]
      by_cases q : jo n cu at_ c = true
      · refine ⟨c, ?_, Or.inr ⟨by omega, by omega, q, H⟩⟩
        rw [if_pos]
        rw [nq1, nq_bit1 (by omega) (by omega), tb2]; exact q
      · obtain ⟨r, r1, r2⟩ := ih (c - 1) f (by omega) (by omega) (by omega) (fun d d1 d2 => by
          by_cases z : d = c
          · subst z; exact Bool.eq_false_iff.mpr q
          · exact H d (by omega) d2)
        refine ⟨r, ?_, r2⟩
        rw [if_neg]
        · rw [show nI c + (-1 : Int32) = nI c - 1 from (Int32.sub_eq_add_neg _ _).symm, nq1, pk_sub (by omega)]; exact r1
        · rw [nq1, nq_bit1 (by omega) (by omega), tb2]; exact q
  unfold f_Ring_farthest
  rw [if_neg (nI_pos (by omega)), if_pos (show nI at_ < (9 : Int32) from nI_lt (show at_ < 9 by omega) (by decide))]
  rcases Nat.lt_or_ge (at_ + 1) lim with q | q
  · exact L (lim - (at_ + 1)) lim am_F (by omega) (by show _ < 5000; omega) (by omega) (fun d d1 d2 => by omega)
  · refine ⟨at_ + 1, ?_, Or.inl ⟨rfl, fun d q1 q2 => by omega⟩⟩
    show f_Ring_farthest_b14 (4999 + 1) (nI at_) (nI lim) m = _
    rw [f_Ring_farthest_b14, nI_1, if_pos (nI_le (by omega) (by omega))]
theorem hc_pU {n cu a b : Nat} {m : am_Mm} (h : 4 ≤ n) (h9 : n ≤ 9) (hv : cu_V n cu) (hs : sc n cu a b) (hJ : ∀ c, c < n → m.1 25 c = nI (Jm n cu c)) : f_Ring_pieceUnder (nI a) (nI b) m = some (nI (pU n cu a b), m) := by
  obtain ⟨hab, hbn, hsc⟩ := hs
  -- a and b are not covered
  have na : ¬ cov n cu a b a = true := fun q => by
    obtain ⟨k, hk, q⟩ := cov_iff.mp q
    unfold cvP at q; omega
  have fin : ∀ P, P < 2 ^ 9 → (∀ c, P.testBit c = true ↔ c ≤ b ∧ a ≤ c ∧ ¬ cov n cu a b c = true) → P = pU n cu a b := by
    intro P hP q
    apply Nat.eq_of_testBit_eq
    intro c
    apply Bool.eq_iff_iff.mpr
    rw [q c, pU_tb]
    constructor
    · rintro ⟨q1, q2, q3⟩; exact ⟨by omega, q2, q1, q3⟩
    · rintro ⟨q1, q2, q3, q4⟩; exact ⟨q3, q2, q4⟩
  have L : ∀ t at_ step f P, b - at_ ≤ t → step + t ≤ 9 → t < f → a ≤ at_ → at_ ≤ b → ¬ cov n cu a b at_ = true → P < 2 ^ 9 → (∀ c, P.testBit c = true ↔ c ≤ at_ ∧ a ≤ c ∧ ¬ cov n cu a b c = true) → f_Ring_pieceUnder_b10 f (nI a) (nI b) (nI P) (nI at_) (nI step) m = some (nI (pU n cu a b), m) := by
    intro t
    induction t with
    | zero =>
      intro at_ step f P h1 h2 h3 h4 h5 h6 h7 h8
      obtain ⟨f, rfl⟩ : ∃ z, f = z + 1 := ⟨f - 1, by omega⟩
      have e : at_ = b := by omega
      subst e
      rw [f_Ring_pieceUnder_b10, fin P h7 h8]
      by_cases z : 9 ≤ step
      · rw [if_pos (show (9 : Int32) ≤ nI step from nI_le z (by omega))]
      · rw [if_neg (show ¬ (9 : Int32) ≤ nI step from nI_ge (show step < 9 by omega) (by decide)), if_pos (nI_le (Nat.le_refl _) (by omega))]
    | succ t ih =>
      intro at_ step f P h1 h2 h3 h4 h5 h6 h7 h8
      obtain ⟨f, rfl⟩ : ∃ z, f = z + 1 := ⟨f - 1, by omega⟩
      rw [f_Ring_pieceUnder_b10, if_neg (show ¬ (9 : Int32) ≤ nI step from nI_ge (show step < 9 by omega) (by decide))]
      by_cases e : at_ = b
      · subst e
        rw [fin P h7 h8, if_pos (nI_le (Nat.le_refl _) (by omega))]
      · rw [if_neg (nI_ge (by omega) (by omega))]
        have key : ∀ lim, lim ≤ b → (at_ = a → lim = b - 1) → (at_ ≠ a → lim = b) → f_Ring_pieceUnder_b39 (f_Ring_pieceUnder_b10 f) (nI a) (nI b) (nI P) (nI step) (nI at_) (nI lim) m = some (nI (pU n cu a b), m) := by
          intro lim l1 l2 l3
          obtain ⟨r, r1, r2⟩ := hc_far (m := m) (lim := lim) h9 (show at_ < n by omega) (by omega) (hJ at_ (by omega))
          -- a cut from at_ to c
          have lkc : ∀ c, at_ + 1 < c → c ≤ lim → jo n cu at_ c = true → ∃ k, k < cu_N n ∧ cu.testBit k = true ∧ cu_a n k = at_ ∧ cu_b n k = c := by
            intro c c1 c2 c3
            have := jo_lk c3 (by omega) (by omega) (by omega) (by omega)
            obtain ⟨k, hk, hb, q⟩ := (lk_ex h h9).mp this
            have kab := cu_ab h h9 hk
            exact ⟨k, hk, hb, by omega, by omega⟩
          have max : ∀ c, r < c → c ≤ lim → jo n cu at_ c = false := by
            rcases r2 with ⟨q1, q2⟩ | ⟨_, _, _, q⟩
            · intro c c1 c2; exact q2 c (by omega) c2
            · exact q
          have r3 : at_ < r ∧ r ≤ b := by
            rcases r2 with ⟨q1, _⟩ | ⟨q1, q2, _⟩ <;> omega
          have r4 : at_ = a → r + 1 ≤ b := fun z => by
            have := l2 z
            rcases r2 with ⟨q1, _⟩ | ⟨q1, q2, _⟩ <;> omega
          have mid : ∀ c, at_ < c → c < r → cov n cu a b c = true := by
            intro c c1 c2
            rcases r2 with ⟨q1, _⟩ | ⟨q1, q2, q3, _⟩
            · omega
            · obtain ⟨k, hk, hb, k1, k2⟩ := lkc r q1 q2 q3
              refine cov_iff.mpr ⟨k, hk, hb, by omega, by omega, ?_, by omega, by omega⟩
              by_cases z : at_ = a
              · have := r4 z; omega
              · omega
          have nr : ¬ cov n cu a b r = true := by
            intro q
            obtain ⟨k, hk, hb, k1, k2, k3, k4, k5⟩ := cov_iff.mp q
            have kab := cu_ab h h9 hk
            have x1 : ¬ (at_ < cu_a n k) := by
              intro z
              rcases r2 with ⟨q1, _⟩ | ⟨q1, q2, q3, _⟩
              · omega
              · obtain ⟨j, hj, hjb, j1, j2⟩ := lkc r q1 q2 q3
                have := hv.2 j k hj hk hjb hb
                have y : cu_x n j k = true := cu_x_iff.mpr (Or.inl ⟨by omega, by omega, by omega⟩)
                rw [this] at y; cases y
            rcases Nat.lt_or_ge (cu_a n k) at_ with z | z
            · exact h6 (cov_iff.mpr ⟨k, hk, hb, k1, k2, k3, z, by omega⟩)
            · have e1 : cu_a n k = at_ := by omega
              have e2 : jo n cu at_ (cu_b n k) = true := jo_iff.mpr (Or.inr (Or.inr (Or.inr (Or.inr ((lk_ex h h9).mpr ⟨k, hk, hb, Or.inl ⟨e1, rfl⟩⟩)))))
              have e3 : cu_b n k ≤ lim := by
                by_cases w : at_ = a
                · have := l2 w; omega
                · have := l3 w; omega
              have := max (cu_b n k) k5 e3
              rw [this] at e2; cases e2
          unfold f_Ring_pieceUnder_b39
          rw [r1, Option.bind_some]
          have s1 : nI P ||| am_shl (1 : Int32) (nI r) = nI (P ||| 2 ^ r) := by simp (disch := omega) only [nq0, nq1, nq2, nq3, nq4, nq5, nq6, nq7, nq8, nq9, nq10, nq11, nq20, nq24, nq27, nq30, nq40, nI_add, pk_sub, pk_mul, nq_div, nq_rem, nq_shl1, nq_shl2, nq_bit1, nq_bit0, nq_or, nq_and, nq_nd, ml_cl, nq_in, nq_le, nq_nle, nq_lt, nq_nlt, nq_eq, nq_ne, nq_eqT, Option.bind_some, Bool.false_eq_true, Bool.true_eq_false, ↓reduceIte]
          dsimp only
          rw [s1, nI_1]
          refine ih r (step + 1) f (P ||| 2 ^ r) (by omega) (by omega) (by omega) (by omega) r3.2 nr (Nat.or_lt_two_pow h7 (Nat.pow_lt_pow_right (by omega) (by omega))) (fun c => ?_)
          rw [Nat.testBit_or, Bool.or_eq_true, h8 c, Nat.testBit_two_pow, decide_eq_true_eq]
          constructor
          · rintro (⟨q1, q2, q3⟩ | q)
            · exact ⟨by omega, q2, q3⟩
            · subst q; exact ⟨Nat.le_refl _, by omega, nr⟩
          · rintro ⟨q1, q2, q3⟩
            by_cases z : c = r
            · exact Or.inr z.symm
            · left
              refine ⟨?_, q2, q3⟩
              rcases Nat.lt_or_ge at_ c with w | w
              · exact absurd (mid c w (by omega)) q3
              · exact w
        by_cases z : at_ = a
        · rw [if_pos (by rw [z]), nq1, pk_sub (show 1 ≤ b by omega)]
          exact key (b - 1) (by omega) (fun _ => rfl) (fun w => absurd z w)
        · rw [if_neg (fun w => z ((nI_eq (by omega) (by omega)).mp w))]
          exact key b (Nat.le_refl _) (fun w => absurd w z) (fun _ => rfl)
  unfold f_Ring_pieceUnder
  have s0 : am_shl (1 : Int32) (nI a) = nI (2 ^ a) := nq_shl1 (by omega)
  rw [s0]
  refine L 9 a 0 am_F (2 ^ a) (by omega) (by omega) (by show 9 < 5000; omega) (Nat.le_refl _) (by omega) na (Nat.pow_lt_pow_right (by omega) (by omega)) (fun c => ?_)
  rw [Nat.testBit_two_pow, decide_eq_true_eq]
  constructor
  · intro q; subst q; exact ⟨Nat.le_refl _, Nat.le_refl _, na⟩
  · rintro ⟨q1, q2, _⟩; omega
theorem hm_pU {n cu a b p : Nat} {m : am_Mm} (h : 4 ≤ n) (h9 : n ≤ 9) (h0 : m.1 p 0 = nI n) (h1 : m.1 p 1 = nI cu) (hcu : cu < 2 ^ 27) (hab : a + 2 ≤ b) (hbn : b < n) : f_M_pieceUnder p (nI (10 * a + b)) m = some (nI (pU n cu a b), m) := by
  have h27 := cu_N27 h h9
  -- the outer loop
  have L2 : ∀ t k f S, k + t = cu_N n → t < f → S < 2 ^ 9 → (∀ c, S.testBit c = true ↔ a ≤ c ∧ c ≤ b ∧ ∀ j, j < k → ¬ cvP n cu a b c j) → f_M_pieceUnder_b46 f p (nI n) (nI a) (nI b) (nI S) (nI k) m = some (nI (pU n cu a b), m) := by
    intro t
    induction t with
    | zero =>
      intro k f S hk hf hS q
      obtain ⟨f, rfl⟩ : ∃ z, f = z + 1 := ⟨f - 1, by omega⟩
      have hk : k = cu_N n := by omega
      subst hk
      have e : S = pU n cu a b := by
        apply Nat.eq_of_testBit_eq
        intro c
        apply Bool.eq_iff_iff.mpr
        rw [q c, pU_tb, cov_iff]
        constructor
        · rintro ⟨q1, q2, q3⟩; exact ⟨by omega, q1, q2, fun ⟨j, hj, z⟩ => q3 j hj z⟩
        · rintro ⟨q1, q2, q3, q4⟩; exact ⟨q2, q3, fun j hj z => q4 ⟨j, hj, z⟩⟩
      rw [f_M_pieceUnder_b46, e]
      simp (disch := omega) only [nq0, nq1, nq2, nq3, nq4, nq5, nq6, nq7, nq8, nq9, nq10, nq11, nq20, nq24, nq27, nq30, nq40, nI_add, pk_sub, pk_mul, nq_div, nq_rem, nq_shl1, nq_shl2, nq_bit1, nq_bit0, nq_or, nq_and, nq_nd, ml_cl, nq_in, nq_le, nq_nle, nq_lt, nq_nlt, nq_eq, nq_ne, nq_eqT, Option.bind_some, Bool.false_eq_true, Bool.true_eq_false, ↓reduceIte, hm_many h h9]
    | succ t ih =>
      intro k f S hk hf hS q
      obtain ⟨f, rfl⟩ : ∃ z, f = z + 1 := ⟨f - 1, by omega⟩
      have kab := cu_ab h h9 (show k < cu_N n by omega)
      have b10 := hm_b10 h h9 (show k < cu_N n by omega)
      -- the inner loop
      have L3 : ∀ u c g S, c + u = cu_b n k → cu_a n k < c → u < g → S < 2 ^ 9 → (∀ d, S.testBit d = true ↔ (a ≤ d ∧ d ≤ b ∧ ∀ j, j < k → ¬ cvP n cu a b d j) ∧ ¬ (cu_a n k < d ∧ d < c)) → cu.testBit k = true ∧ a ≤ cu_a n k ∧ cu_b n k ≤ b ∧ cu_b n k - cu_a n k < b - a → f_M_pieceUnder_b126 (f_M_pieceUnder_b46 f) g p (nI n) (nI a) (nI b) (nI S) (nI k) (nI (cu_b n k)) (nI 1) (nI c) m = some (nI (pU n cu a b), m) := by
        intro u
        induction u with
        | zero =>
          intro c g S hc hca hg hS w is
          obtain ⟨g, rfl⟩ : ∃ z, g = z + 1 := ⟨g - 1, by omega⟩
          rw [f_M_pieceUnder_b126, if_pos (nI_le (by omega) (by omega))]
          unfold f_M_pieceUnder_b155
          rw [nI_1]
          refine ih (k + 1) f S (by omega) (by omega) hS (fun d => ?_)
          rw [w d]
          constructor
          · rintro ⟨⟨q1, q2, q3⟩, q4⟩
            refine ⟨q1, q2, fun j hj z => ?_⟩
            by_cases jk : j = k
            · subst jk
              unfold cvP at z; omega
            · exact q3 j (by omega) z
          · rintro ⟨q1, q2, q3⟩
            refine ⟨⟨q1, q2, fun j hj => q3 j (by omega)⟩, fun z => q3 k (by omega) ⟨is.1, is.2.1, is.2.2.1, is.2.2.2, z.1, by omega⟩⟩
        | succ u ihu =>
          intro c g S hc hca hg hS w is
          obtain ⟨g, rfl⟩ : ∃ z, g = z + 1 := ⟨g - 1, by omega⟩
          rw [f_M_pieceUnder_b126, if_neg (nI_ge (by omega) (by omega)), if_neg ne01]
          have s1 : nI S &&& ((am_shl (1 : Int32) (nI c)) ^^^ (-1 : Int32)) = nI (nd S (2 ^ c)) := by simp (disch := omega) only [nq0, nq1, nq2, nq3, nq4, nq5, nq6, nq7, nq8, nq9, nq10, nq11, nq20, nq24, nq27, nq30, nq40, nI_add, pk_sub, pk_mul, nq_div, nq_rem, nq_shl1, nq_shl2, nq_bit1, nq_bit0, nq_or, nq_and, nq_nd, ml_cl, nq_in, nq_le, nq_nle, nq_lt, nq_nlt, nq_eq, nq_ne, nq_eqT, Option.bind_some, Bool.false_eq_true, Bool.true_eq_false, ↓reduceIte]
          rw [s1, nI_1]
          refine ihu (c + 1) g (nd S (2 ^ c)) (by omega) (by omega) (by omega) (nd_lt hS rfl) (fun d => ?_) is
          rw [nd_tb, Bool.and_eq_true, w d, Nat.testBit_two_pow, Bool.not_eq_true', decide_eq_false_iff_not]
          constructor
          · rintro ⟨⟨q1, q2⟩, q3⟩; exact ⟨q1, by omega⟩
          · rintro ⟨q1, q2⟩; exact ⟨⟨q1, by omega⟩, by omega⟩
      have N : ∀ x7 : Int32, ¬ (cu.testBit k = true ∧ a ≤ cu_a n k ∧ cu_b n k ≤ b ∧ cu_b n k - cu_a n k < b - a) → f_M_pieceUnder_b118 (f_M_pieceUnder_b46 f) p (nI n) (nI a) (nI b) (nI S) (nI k) x7 (nI (cu_b n k)) (0 : Int32) m = some (nI (pU n cu a b), m) := by
        intro x7 is
        unfold f_M_pieceUnder_b118
        show f_M_pieceUnder_b126 (f_M_pieceUnder_b46 f) (4999 + 1) p (nI n) (nI a) (nI b) (nI S) (nI k) (nI (cu_b n k)) (0 : Int32) (x7 + 1) m = _
        have r : f_M_pieceUnder_b155 (f_M_pieceUnder_b46 f) p (nI n) (nI a) (nI b) (nI S) (nI k) m = some (nI (pU n cu a b), m) := by
          unfold f_M_pieceUnder_b155
          rw [nI_1]
          refine ih (k + 1) f S (by omega) (by omega) hS (fun d => ?_)
          rw [q d]
          constructor
          · rintro ⟨q1, q2, q3⟩
            refine ⟨q1, q2, fun j hj z => ?_⟩
            by_cases jk : j = k
            · subst jk
              exact is ⟨z.1, z.2.1, z.2.2.1, z.2.2.2.1⟩
            · exact q3 j (by omega) z
          · rintro ⟨q1, q2, q3⟩
            exact ⟨q1, q2, fun j hj => q3 j (by omega)⟩
        rw [f_M_pieceUnder_b126]
        by_cases z : nI (cu_b n k) ≤ x7 + 1
        · rw [if_pos z]; exact r
        · rw [if_neg z, if_pos rfl]; exact r
      rw [f_M_pieceUnder_b46]
      by_cases i1 : cu.testBit k = true
      rotate_left
      · simp (disch := omega) only [nq0, nq1, nq2, nq3, nq4, nq5, nq6, nq7, nq8, nq9, nq10, nq11, nq20, nq24, nq27, nq30, nq40, nI_add, pk_sub, pk_mul, nq_div, nq_rem, nq_shl1, nq_shl2, nq_bit1, nq_bit0, nq_or, nq_and, nq_nd, ml_cl, nq_in, nq_le, nq_nle, nq_lt, nq_nlt, nq_eq, nq_ne, nq_eqT, Option.bind_some, Bool.false_eq_true, Bool.true_eq_false, ↓reduceIte, hm_many h h9, hm_ends h h9, b10.1, b10.2.1, h1, nq_has0 _ _ i1]
        exact N _ (fun z => i1 z.1)
      by_cases i2 : cu_a n k < a
      · simp (disch := omega) only [nq0, nq1, nq2, nq3, nq4, nq5, nq6, nq7, nq8, nq9, nq10, nq11, nq20, nq24, nq27, nq30, nq40, nI_add, pk_sub, pk_mul, nq_div, nq_rem, nq_shl1, nq_shl2, nq_bit1, nq_bit0, nq_or, nq_and, nq_nd, ml_cl, nq_in, nq_le, nq_nle, nq_lt, nq_nlt, nq_eq, nq_ne, nq_eqT, Option.bind_some, Bool.false_eq_true, Bool.true_eq_false, ↓reduceIte, hm_many h h9, hm_ends h h9, b10.1, b10.2.1, h1, nq_has1 _ _ i1]
        exact N _ (fun z => by omega)
      by_cases i3 : b < cu_b n k
      · simp (disch := omega) only [nq0, nq1, nq2, nq3, nq4, nq5, nq6, nq7, nq8, nq9, nq10, nq11, nq20, nq24, nq27, nq30, nq40, nI_add, pk_sub, pk_mul, nq_div, nq_rem, nq_shl1, nq_shl2, nq_bit1, nq_bit0, nq_or, nq_and, nq_nd, ml_cl, nq_in, nq_le, nq_nle, nq_lt, nq_nlt, nq_eq, nq_ne, nq_eqT, Option.bind_some, Bool.false_eq_true, Bool.true_eq_false, ↓reduceIte, hm_many h h9, hm_ends h h9, b10.1, b10.2.1, h1, nq_has1 _ _ i1]
        exact N _ (fun z => by omega)
      by_cases i4 : b - a ≤ cu_b n k - cu_a n k
      · simp (disch := omega) only [nq0, nq1, nq2, nq3, nq4, nq5, nq6, nq7, nq8, nq9, nq10, nq11, nq20, nq24, nq27, nq30, nq40, nI_add, pk_sub, pk_mul, nq_div, nq_rem, nq_shl1, nq_shl2, nq_bit1, nq_bit0, nq_or, nq_and, nq_nd, ml_cl, nq_in, nq_le, nq_nle, nq_lt, nq_nlt, nq_eq, nq_ne, nq_eqT, Option.bind_some, Bool.false_eq_true, Bool.true_eq_false, ↓reduceIte, hm_many h h9, hm_ends h h9, b10.1, b10.2.1, h1, nq_has1 _ _ i1]
        exact N _ (fun z => by omega)
      simp (disch := omega) only [nq0, nq1, nq2, nq3, nq4, nq5, nq6, nq7, nq8, nq9, nq10, nq11, nq20, nq24, nq27, nq30, nq40, nI_add, pk_sub, pk_mul, nq_div, nq_rem, nq_shl1, nq_shl2, nq_bit1, nq_bit0, nq_or, nq_and, nq_nd, ml_cl, nq_in, nq_le, nq_nle, nq_lt, nq_nlt, nq_eq, nq_ne, nq_eqT, Option.bind_some, Bool.false_eq_true, Bool.true_eq_false, ↓reduceIte, hm_many h h9, hm_ends h h9, b10.1, b10.2.1, h1, nq_has1 _ _ i1, f_M_pieceUnder_b118]
      exact L3 (cu_b n k - (cu_a n k + 1)) (cu_a n k + 1) am_F S (by omega) (by omega) (by show _ < 5000; omega) hS (fun d => by
        rw [q d]
        constructor
        · intro z; exact ⟨z, by omega⟩
        · intro z; exact z.1) ⟨i1, by omega, by omega, by omega⟩
  have L1 : ∀ t c f S, c + t = b + 1 → t < f → a ≤ c → S < 2 ^ 9 → (∀ d, S.testBit d = true ↔ a ≤ d ∧ d < c) → f_M_pieceUnder_b21 f p (nI n) (nI a) (nI b) (nI S) (nI c) m = some (nI (pU n cu a b), m) := by
    intro t
    induction t with
    | zero =>
      intro c f S hc hf hac hS q
      obtain ⟨f, rfl⟩ : ∃ z, f = z + 1 := ⟨f - 1, by omega⟩
      rw [f_M_pieceUnder_b21, if_pos (nI_lt (by omega) (by omega))]
      refine L2 (cu_N n) 0 am_F S (by omega) (by show _ < 5000; omega) hS (fun d => ?_)
      rw [q d]
      constructor
      · rintro ⟨z1, z2⟩; exact ⟨z1, by omega, fun j hj => by omega⟩
      · rintro ⟨z1, z2, _⟩; exact ⟨z1, by omega⟩
    | succ t ih =>
      intro c f S hc hf hac hS q
      obtain ⟨f, rfl⟩ : ∃ z, f = z + 1 := ⟨f - 1, by omega⟩
      have s1 : nI S ||| am_shl (1 : Int32) (nI c) = nI (S ||| 2 ^ c) := by simp (disch := omega) only [nq0, nq1, nq2, nq3, nq4, nq5, nq6, nq7, nq8, nq9, nq10, nq11, nq20, nq24, nq27, nq30, nq40, nI_add, pk_sub, pk_mul, nq_div, nq_rem, nq_shl1, nq_shl2, nq_bit1, nq_bit0, nq_or, nq_and, nq_nd, ml_cl, nq_in, nq_le, nq_nle, nq_lt, nq_nlt, nq_eq, nq_ne, nq_eqT, Option.bind_some, Bool.false_eq_true, Bool.true_eq_false, ↓reduceIte]
      rw [f_M_pieceUnder_b21, if_neg (nI_nlt (by omega) (by omega)), s1, nI_1]
      refine ih (c + 1) f (S ||| 2 ^ c) (by omega) (by omega) (by omega) (Nat.or_lt_two_pow hS (Nat.pow_lt_pow_right (by omega) (by omega))) (fun d => ?_)
      rw [Nat.testBit_or, Bool.or_eq_true, q d, Nat.testBit_two_pow, decide_eq_true_eq]
      omega
  unfold f_M_pieceUnder
  rw [h0, nq10, nq_div (by omega) (by omega) (by omega), nq_rem (by omega) (by omega) (by omega), show (10 * a + b) / 10 = a by omega, show (10 * a + b) % 10 = b by omega]
  exact L1 (b + 1 - a) a am_F 0 (by omega) (by show _ < 5000; omega) (Nat.le_refl _) (by decide) (fun d => by rw [Nat.zero_testBit]; constructor; (intro z; cases z); (intro z; omega))
