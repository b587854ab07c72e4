/-! ===== lost ===== -/
/-- the cases of a subset -/
def lG (n v p q s : Nat) : Nat := if gP n s (cu_N n) ≤ v then p ^ (q - pc s 30) * (10 - p) ^ pc s 30 else 0
theorem sb_sub {n cu j : Nat} (hv : cu_V n cu) (k : Nat) : cu_V n (sb cu j k) := cu_V_sub hv fun i q => by
  rw [sb_tb, Bool.and_eq_true, Bool.and_eq_true] at q
  exact q.2.1
theorem lG_le {n v p cu j : Nat} (hp : p ≤ 10) (hcu : cu < 2 ^ 30) : lG n v p (pc cu 30) (sb cu j 30) ≤ od p cu j 30 := by
  unfold lG
  have := (od_e (p := p) (cu := cu) (j := j) (K := 30) 30 (Nat.le_refl _)).2
  by_cases z : gP n (sb cu j 30) (cu_N n) ≤ v
  · rw [if_pos z, this]; exact Nat.le_refl _
  · rw [if_neg z]; exact Nat.zero_le _
theorem lG_sum {n v p cu q : Nat} (hp : p ≤ 10) (hq : q = pc cu 30) (hq6 : q ≤ 6) (hcu : cu < 2 ^ 30) : ∀ i, i ≤ 2 ^ q → fb_sm (fun j => lG n v p q (sb cu j 30)) i ≤ 1000000 ∧ fb_sm (fun j => od p cu j 30) i ≤ 1000000 := by
  intro i hi
  have e := od_sum (cu := cu) hp 30
  rw [← hq] at e
  have p6 : 10 ^ q ≤ 10 ^ 6 := Nat.pow_le_pow_right (by omega) hq6
  have a : fb_sm (fun j => od p cu j 30) i ≤ fb_sm (fun j => od p cu j 30) (2 ^ q) := by
    rw [show 2 ^ q = i + (2 ^ q - i) by omega]; exact fb_sm_mono _ _ _
  have b : fb_sm (fun j => lG n v p q (sb cu j 30)) i ≤ fb_sm (fun j => od p cu j 30) i := fb_sm_le fun k _ => by rw [hq]; exact lG_le hp hcu
  omega
theorem hc_cases {n v p cu q : Nat} {kd ow : Nat → Nat} {m : am_Mm} (V : vw m n cu kd ow) (hp : p ≤ 10) (hvv : v ≤ 9) (hq : q = pc cu 30) : ∃ m', f_C_casesWithout (nI v) (nI p) m = some (lN (fb_sm (fun j => lG n v p q (sb cu j 30)) (2 ^ q)), m') ∧ only25 m m' := by
  obtain ⟨ok, hR, hF, hP⟩ := V
  have h4 := ok.1
  have h9 := ok.2.1
  have hv := ok.2.2.1
  have hcu := cu_V_lt h4 h9 hv
  have hq6 : q ≤ 6 := by have := pcm h4 h9 hv; omega
  have p64 : 2 ^ q ≤ 64 ∧ 1 ≤ 2 ^ q := ⟨Nat.pow_le_pow_right (n := 2) (j := 6) (by decide) hq6, Nat.one_le_two_pow⟩
  have full : sb cu (2 ^ q - 1) 30 = cu := by
    rw [sb_one cu 30 (fun i hi => by rw [Nat.testBit_two_pow_sub_one]; exact decide_eq_true (by omega)), md_self (by omega)]
  have L : ∀ t i f (X : Int32) (m0 : am_Mm), i + t = 2 ^ q → t < f → only25 m m0 → (0 < t → X = nI (sb cu (2 ^ q - 1 - i) 30)) → ∃ m', f_C_casesWithout_b26 f (nI v) (nI p) (nI q) (lN (fb_sm (fun i => lG n v p q (sb cu (2 ^ q - 1 - i) 30)) i)) X (nI i) m0 = some (lN (fb_sm (fun i => lG n v p q (sb cu (2 ^ q - 1 - i) 30)) (2 ^ q)), m') ∧ only25 m m' := by
    intro t
    induction t with
    | zero =>
      intro i f X m0 hi hf ho hX
      obtain ⟨f, rfl⟩ : ∃ z, f = z + 1 := ⟨f - 1, by omega⟩
      have hi : i = 2 ^ q := by omega
      subst hi
      refine ⟨m0, ?_, ho⟩
      rw [f_C_casesWithout_b26, nq1, nq_shl1 (by omega), if_pos (nI_le (Nat.le_refl _) (by omega))]
    | succ t ih =>
      intro i f X m0 hi hf ho hX
      obtain ⟨f, rfl⟩ : ∃ z, f = z + 1 := ⟨f - 1, by omega⟩
      have hX := hX (by omega)
      subst hX
      obtain ⟨s, hs⟩ : ∃ s, s = sb cu (2 ^ q - 1 - i) 30 := ⟨_, rfl⟩
      have hsV : cu_V n s := by rw [hs]; exact sb_sub hv 30
      have hsl := cu_V_lt h4 h9 hsV
      have od := od_e (p := p) (cu := cu) (j := 2 ^ q - 1 - i) (K := 30) 30 (Nat.le_refl _)
      rw [← hs, ← hq] at od
      have hs30 := pc_le s 30
      rw [← hs]
      obtain ⟨m1, g1, g2⟩ := hc_gr h4 h9 (only25_ring ho hR) hsV
      have gb := gP_b (cu := s) h4 h9 (cu_N n) (Nat.le_refl _)
      have ho1 := only25_t ho g2
      have e13 : m1.1 13 3 = nI cu := by rw [ho1.1 _ _ (by omega)]; exact hF.2.1
      have nxt : 0 < t → (nI s - (1 : Int32)) &&& nI cu = nI (sb cu (2 ^ q - 1 - (i + 1)) 30) := by
        intro ht
        have st := sb_step cu 30 (2 ^ q - 1 - (i + 1)) (by rw [← hq]; omega)
        rw [show 2 ^ q - 1 - (i + 1) + 1 = 2 ^ q - 1 - i by omega, ← hs, md_self (show cu < 2 ^ 30 by omega)] at st
        rw [nq1, pk_sub st.1, nq_and, st.2]
      have fin : ∀ A : Nat, A = fb_sm (fun i => lG n v p q (sb cu (2 ^ q - 1 - i) 30)) (i + 1) → ∃ m', f_C_casesWithout_b77 (f_C_casesWithout_b26 f) (nI v) (nI p) (nI q) (lN A) (nI s) (nI i) m1 = some (lN (fb_sm (fun i => lG n v p q (sb cu (2 ^ q - 1 - i) 30)) (2 ^ q)), m') ∧ only25 m m' := by
        intro A hA
        unfold f_C_casesWithout_b77
        rw [e13, nI_1, hA]
        exact ih (i + 1) f _ m1 (by omega) (by omega) ho1 nxt
      rw [f_C_casesWithout_b26, nq1, nq_shl1 (by omega), if_neg (nI_ge (by omega) (by omega)), g1, Option.bind_some]
      have sS : fb_sm (fun i => lG n v p q (sb cu (2 ^ q - 1 - i) 30)) (i + 1) = fb_sm (fun i => lG n v p q (sb cu (2 ^ q - 1 - i) 30)) i + lG n v p q s := by rw [fb_sm_succ, ← hs]
      by_cases z : gP n s (cu_N n) ≤ v
      · rw [if_neg (nI_nlt z (by omega)), hc_bc h4 h9 hsV, Option.bind_some]
        dsimp only
        rw [pk_sub (by omega), hc_pow hp (by omega), Option.bind_some, nq10, pk_sub hp, hc_pow (by omega) hs30, Option.bind_some, lN_mul, lN_add]
        refine fin _ ?_
        rw [sS]
        unfold lG
        rw [if_pos z]
      · rw [if_pos (nI_lt (by omega) (by omega))]
        refine fin _ ?_
        rw [sS]
        unfold lG
        rw [if_neg z]
        rfl
  obtain ⟨m', r1, r2⟩ := L (2 ^ q) 0 am_F (nI cu) m (by omega) (by show _ < 5000; omega) (only25_r m) (fun _ => by rw [Nat.sub_zero, full])
  refine ⟨m', ?_, r2⟩
  unfold f_C_casesWithout
  rw [hF.2.1, hc_bc h4 h9 hv, Option.bind_some, ← hq]
  dsimp only
  rw [hF.2.1]
  have rv := sm_rev (fun j => lG n v p q (sb cu j 30)) (2 ^ q)
  rw [← rv]
  exact r1
theorem hm_cases {n v p cu q : Nat} {kd ow : Nat → Nat} {m : am_Mm} {x3 : Int32} (ok : rl_OK n cu kd ow) (hP : rl_Pol m.1 67 0 n cu kd ow) (hp : p ≤ 10) (hvv : v ≤ 9) (hq : q = pc cu 30) : ∃ m', f_M_lost_b79 am_F (nI v) (nI p) x3 (nI n) (nI q) (lN 0) (lN 0) (nI 0) m = f_M_lost_b236 am_F x3 (lN (fb_sm (fun j => lG n v p q (sb cu j 30)) (2 ^ q))) (lN (10 ^ q)) (lN (fb_sm (fun j => lG n v p q (sb cu j 30)) (2 ^ q))) (lN (10 ^ q)) m' ∧ ∀ p k, p ≠ 69 → m'.1 p k = m.1 p k := by
  have h4 := ok.1
  have h9 := ok.2.1
  have hv := ok.2.2.1
  have hcu := cu_V_lt h4 h9 hv
  have h27 := cu_N27 h4 h9
  have hq6 : q ≤ 6 := by have := pcm h4 h9 hv; omega
  have p64 : 2 ^ q ≤ 64 ∧ 1 ≤ 2 ^ q := ⟨Nat.pow_le_pow_right (n := 2) (j := 6) (by decide) hq6, Nat.one_le_two_pow⟩
  have L : ∀ t j f (m0 : am_Mm), j + t = 2 ^ q → t < f → (∀ p k, p ≠ 69 → m0.1 p k = m.1 p k) → ∃ m', f_M_lost_b79 f (nI v) (nI p) x3 (nI n) (nI q) (lN (fb_sm (fun j => lG n v p q (sb cu j 30)) j)) (lN (fb_sm (fun j => od p cu j 30) j)) (nI j) m0 = f_M_lost_b236 am_F x3 (lN (fb_sm (fun j => lG n v p q (sb cu j 30)) (2 ^ q))) (lN (10 ^ q)) (lN (fb_sm (fun j => lG n v p q (sb cu j 30)) (2 ^ q))) (lN (10 ^ q)) m' ∧ ∀ p k, p ≠ 69 → m'.1 p k = m.1 p k := by
    intro t
    induction t with
    | zero =>
      intro j f m0 hj hf fr0
      obtain ⟨f, rfl⟩ : ∃ z, f = z + 1 := ⟨f - 1, by omega⟩
      have hj : j = 2 ^ q := by omega
      subst hj
      refine ⟨m0, ?_, fr0⟩
      have e := od_sum (cu := cu) hp 30
      rw [← hq] at e
      rw [f_M_lost_b79, nq1, nq_shl1 (by omega), if_pos (nI_le (Nat.le_refl _) (by omega)), e]
    | succ t ih =>
      intro j f m0 hj hf fr0
      obtain ⟨f, rfl⟩ : ∃ z, f = z + 1 := ⟨f - 1, by omega⟩
      obtain ⟨mt, a1, a2, a3⟩ := hm_then m0
      have a4 : ∀ p k, p ≠ 69 → mt.1 p k = m.1 p k := fun p k z => by rw [a3 p k z, fr0 p k z]
      obtain ⟨p0, p1⟩ := rl_Pol_0 hP
      have t0 : mt.1 69 0 = nI n := by rw [a2 0 (by omega), fr0 _ _ (by omega)]; exact p0
      have t1 : mt.1 69 1 = nI cu := by rw [a2 1 (by omega), fr0 _ _ (by omega)]; exact p1
      obtain ⟨A, hA⟩ : ∃ A, A = fb_sm (fun j => lG n v p q (sb cu j 30)) j := ⟨_, rfl⟩
      obtain ⟨B, hB⟩ : ∃ B, B = fb_sm (fun j => od p cu j 30) j := ⟨_, rfl⟩
      -- the cuts, one by one
      have K : ∀ u k g T (m1 : am_Mm), k + u = cu_N n → u < g → m1.1 69 0 = nI n → m1.1 69 1 = nI T → T < 2 ^ 27 → (∀ i, T.testBit i = (cu.testBit i && (decide (k ≤ i) || j.testBit (pc cu i)))) → (∀ p k, p ≠ 69 → m1.1 p k = m.1 p k) → ∃ m2, f_M_lost_b101 (f_M_lost_b79 f) g (nI v) (nI p) x3 (nI n) (nI q) (lN A) (lN B) (nI j) (lN (od p cu j k)) (nI (pc cu k)) (nI k) m1 = f_M_lost_b79 f (nI v) (nI p) x3 (nI n) (nI q) (lN (A + lG n v p q (sb cu j 30))) (lN (B + od p cu j 30)) (nI (j + 1)) m2 ∧ ∀ p k, p ≠ 69 → m2.1 p k = m.1 p k := by
        intro u
        induction u with
        | zero =>
          intro k g T m1 hk hg b0 b1 bT hT fr1
          obtain ⟨g, rfl⟩ : ∃ z, g = z + 1 := ⟨g - 1, by omega⟩
          have hk : k = cu_N n := by omega
          subst hk
          have eT : T = sb cu j 30 := by
            apply Nat.eq_of_testBit_eq
            intro i
            rw [hT i, sb_tb]
            by_cases z : i < cu_N n
            · rw [decide_eq_false (show ¬ cu_N n ≤ i by omega), decide_eq_true (show i < 30 by omega), Bool.false_or, Bool.true_and]
            · rw [Nat.testBit_lt_two_pow (Nat.lt_of_lt_of_le hv.1 (Nat.pow_le_pow_right (by omega) (show cu_N n ≤ i by omega)))]; simp
          have hsV : cu_V n (sb cu j 30) := sb_sub hv 30
          have hsl := cu_V_lt h4 h9 hsV
          have gb := gP_b (cu := sb cu j 30) h4 h9 (cu_N n) (Nat.le_refl _)
          have ode := (od_e (p := p) (cu := cu) (j := j) (K := 30) 30 (Nat.le_refl _)).2
          rw [← hq] at ode
          have odN : od p cu j (cu_N n) = od p cu j 30 := by
            have : ∀ d, cu_N n + d ≤ 30 → od p cu j (cu_N n + d) = od p cu j (cu_N n) := by
              intro d
              induction d with
              | zero => intro _; rfl
              | succ d ih2 =>
                intro hd
                rw [← ih2 (by omega)]
                show od p cu j (cu_N n + d + 1) = _
                rw [od, if_neg]
                rw [Nat.testBit_lt_two_pow (Nat.lt_of_lt_of_le hv.1 (Nat.pow_le_pow_right (by omega) (by omega)))]; decide
            have e := this (30 - cu_N n) (by omega)
            rw [show cu_N n + (30 - cu_N n) = 30 by omega] at e
            exact e.symm
          rw [eT] at b1
          refine ⟨m1, ?_, fr1⟩
          rw [f_M_lost_b101, hm_many h4 h9, Option.bind_some, if_pos (nI_le (Nat.le_refl _) (by omega)), hm_gr h4 h9 b0 b1 (by omega), Option.bind_some, odN]
          unfold f_M_lost_b219
          rw [lN_add, nI_1]
          by_cases z : gP n (sb cu j 30) (cu_N n) ≤ v
          · rw [if_neg (nI_nlt z (by omega)), lN_add, ode]
            unfold lG
            rw [if_pos z]
          · rw [if_pos (nI_lt (by omega) (by omega))]
            unfold lG
            rw [if_neg z, show lN A + (0 : Int64) = lN (A + 0) from lN_add A 0]
        | succ u ihu =>
          intro k g T m1 hk hg b0 b1 bT hT fr1
          obtain ⟨g, rfl⟩ : ∃ z, g = z + 1 := ⟨g - 1, by omega⟩
          have c1 : m1.1 67 1 = nI cu := by rw [fr1 _ _ (by omega)]; exact p1
          have hs := pc_s cu k
          have pcq : pc cu k ≤ q := by rw [hq]; exact pc_mono cu (by omega)
          rw [f_M_lost_b101, hm_many h4 h9, Option.bind_some, if_neg (nI_ge (by omega) (by omega))]
          dsimp only
          rw [c1]
          by_cases hb : cu.testBit k = true
          rotate_left
          · rw [if_neg hb] at hs
            rw [nq_has0 (by omega) (by omega) hb, Option.bind_some, if_pos e00]
            unfold f_M_lost_b187
            rw [nI_1]
            have eo : od p cu j k = od p cu j (k + 1) := by rw [od, if_neg hb]
            rw [eo, show pc cu k = pc cu (k + 1) from hs.symm]
            refine ihu (k + 1) g T m1 (by omega) (by omega) b0 b1 bT (fun i => ?_) fr1
            rw [hT i]
            by_cases z : i = k
            · subst z; rw [Bool.eq_false_iff.mpr hb, Bool.false_and, Bool.false_and]
            · by_cases w : k ≤ i
              · rw [decide_eq_true w, decide_eq_true (show k + 1 ≤ i by omega)]
              · rw [decide_eq_false w, decide_eq_false (show ¬ k + 1 ≤ i by omega)]
          · rw [if_pos hb] at hs
            have pcq1 : pc cu k + 1 ≤ q := by
              have := pc_mono cu (show k + 1 ≤ 30 by omega)
              omega
            rw [nq_has1 (by omega) (by omega) hb, Option.bind_some, if_neg ne01]
            have hj30 : j < 2 ^ 31 := by omega
            by_cases jb : j.testBit (pc cu k) = true
            · rw [nq_has1 hj30 (by omega) jb, Option.bind_some, if_neg ne01]
              unfold f_M_lost_b147
              rw [nq_has1 hj30 (by omega) jb, Option.bind_some, if_neg ne01]
              unfold f_M_lost_b182 f_M_lost_b187
              dsimp only
              rw [if_pos (show am_in (1 : Int32) 20 = true by decide), b1, nq_and, Nat.and_self, nq10, pk_sub hp, nI_l (by omega), lN_mul, nI_1, nI_1]
              have eo : od p cu j k * (10 - p) = od p cu j (k + 1) := by rw [od, if_pos hb, if_pos jb]
              rw [eo, show pc cu k + 1 = pc cu (k + 1) from by rw [hs], show (1 : Int32).toNatClampNeg = 1 from rfl]
              refine ihu (k + 1) g T (am_pI m1 69 1 (nI T)) (by omega) (by omega) (by rw [ml_o _ _ (by omega)]; exact b0) (ml_s _ _ _ _) bT (fun i => ?_) (fun p k z => by rw [ml_o _ _ (by omega)]; exact fr1 p k z)
              rw [hT i]
              by_cases z : i = k
              · subst z; rw [jb, Bool.or_true, Bool.or_true]
              · by_cases w : k ≤ i
                · rw [decide_eq_true w, decide_eq_true (show k + 1 ≤ i by omega)]
                · rw [decide_eq_false w, decide_eq_false (show ¬ k + 1 ≤ i by omega)]
            · rw [nq_has0 hj30 (by omega) jb, Option.bind_some, if_pos e00]
              unfold f_M_lost_b147
              rw [nq_has0 hj30 (by omega) jb, Option.bind_some, if_pos e00]
              unfold f_M_lost_b182 f_M_lost_b187
              dsimp only
              have s1 : nI T &&& ((am_shl (1 : Int32) (nI k)) ^^^ (-1 : Int32)) = nI (nd T (2 ^ k)) := by simp (disch := omega) only [nq0, nq1, nq2, nq3, nq4, nq5, nq6, nq7, nq8, nq9, nq10, nq11, nq20, nq24, nq27, nq30, nq40, nI_add, pk_sub, pk_mul, nq_div, nq_rem, nq_shl1, nq_shl2, nq_bit1, nq_bit0, nq_or, nq_and, nq_nd, ml_cl, nq_in, nq_le, nq_nle, nq_lt, nq_nlt, nq_eq, nq_ne, nq_eqT, Option.bind_some, Bool.false_eq_true, Bool.true_eq_false, ↓reduceIte]
              rw [if_pos (show am_in (1 : Int32) 20 = true by decide), b1, s1, nI_l (by omega), lN_mul, nI_1, nI_1]
              have eo : od p cu j k * p = od p cu j (k + 1) := by rw [od, if_pos hb, if_neg jb]
              rw [eo, show pc cu k + 1 = pc cu (k + 1) from by rw [hs], show (1 : Int32).toNatClampNeg = 1 from rfl]
              refine ihu (k + 1) g (nd T (2 ^ k)) (am_pI m1 69 1 (nI (nd T (2 ^ k)))) (by omega) (by omega) (by rw [ml_o _ _ (by omega)]; exact b0) (ml_s _ _ _ _) (nd_lt bT rfl) (fun i => ?_) (fun p k z => by rw [ml_o _ _ (by omega)]; exact fr1 p k z)
              rw [nd_tb, hT i, Nat.testBit_two_pow]
              by_cases z : i = k
              · subst z
                rw [Bool.eq_false_iff.mpr jb, decide_eq_false (show ¬ i + 1 ≤ i by omega)]; simp
              · rw [decide_eq_false (show ¬ k = i from fun w => z w.symm)]
                by_cases w : k ≤ i
                · rw [decide_eq_true w, decide_eq_true (show k + 1 ≤ i by omega)]; simp
                · rw [decide_eq_false w, decide_eq_false (show ¬ k + 1 ≤ i by omega)]; simp
      obtain ⟨m2, k1, k2⟩ := K (cu_N n) 0 am_F cu mt (by omega) (by show _ < 5000; omega) t0 t1 hcu (fun i => by simp) a4
      obtain ⟨m', r1, r2⟩ := ih (j + 1) f m2 (by omega) (by omega) k2
      refine ⟨m', ?_, r2⟩
      rw [← r1, fb_sm_succ, fb_sm_succ, ← hA, ← hB, ← k1, f_M_lost_b79, nq1, nq_shl1 (by omega), if_neg (nI_ge (by omega) (by omega)), a1]
      rfl
  exact L (2 ^ q) 0 am_F m (by omega) (by show _ < 5000; omega) (fun p k _ => rfl)
theorem pz_lost : ∀ a0 a1 a2 : Int32, am_Pz rl_All (f_C_lost a0 a1 a2) (f_M_lost a0 a1 a2) := by
  intro x y z m h
  unfold f_C_lost
  rcases vw_of h with hn | ⟨n, cu, kd, ow, V⟩
  · rw [hc_there hn.1 (by omega)]
    refine ⟨_, m, m, rfl, ?_, h⟩
    unfold f_M_lost
    rw [hm_there hn.2.2.1 (by omega)]; rfl
  · have V0 := V
    obtain ⟨ok, hR, hF, hP⟩ := V
    have h4 := ok.1
    have h9 := ok.2.1
    have hv := ok.2.2.1
    have hcu := cu_V_lt h4 h9 hv
    rw [hc_th1 hF.1 h4 h9, Option.bind_some, if_neg ne01]
    by_cases g1 : (3 : Int32) ≤ x ∧ x ≤ 9
    rotate_left
    · refine ⟨-1000001, m, m, ?_, ?_, h⟩
      · by_cases q : x < 3
        · rw [if_pos q]; rfl
        · rw [if_neg q, if_pos (ml_lt_of_nle (fun w => g1 ⟨ml_le_of_nlt q, w⟩))]; rfl
      · unfold f_M_lost
        rw [hm_th1 hP.1 h4 h9, Option.bind_some, if_neg ne01, ml_in0 3 9 3 9 rfl rfl g1]; rfl
    rw [if_neg (ml_nlt_of_le g1.1), if_neg (ml_nlt_of_le g1.2)]
    by_cases g2 : (0 : Int32) ≤ y ∧ y ≤ 10
    rotate_left
    · refine ⟨-1000001, m, m, ?_, ?_, h⟩
      · by_cases q : y < 0
        · rw [if_pos q]; rfl
        · rw [if_neg q, if_pos (ml_lt_of_nle (fun w => g2 ⟨ml_le_of_nlt q, w⟩))]; rfl
      · unfold f_M_lost
        rw [hm_th1 hP.1 h4 h9, Option.bind_some, if_neg ne01, ml_in1 3 9 3 9 rfl rfl g1, Option.bind_some, if_neg ml_n10, ml_in0 0 10 0 10 rfl rfl g2]; rfl
    rw [if_neg (ml_nlt_of_le g2.1), if_neg (ml_nlt_of_le g2.2)]
    by_cases g3 : (0 : Int32) ≤ z ∧ z ≤ 1
    rotate_left
    · refine ⟨-1000001, m, m, ?_, ?_, h⟩
      · by_cases q : z < 0
        · rw [if_pos q]; rfl
        · rw [if_neg q, if_neg (fun w => g3 ⟨ml_le_of_nlt q, w⟩)]; rfl
      · unfold f_M_lost
        rw [hm_th1 hP.1 h4 h9, Option.bind_some, if_neg ne01, ml_in1 3 9 3 9 rfl rfl g1, Option.bind_some, if_neg ml_n10, ml_in1 0 10 0 10 rfl rfl g2, Option.bind_some, if_neg ml_n10, ml_in0 0 1 0 1 rfl rfl g3]; rfl
    rw [if_neg (ml_nlt_of_le g3.1), if_pos g3.2]
    dsimp only
    obtain ⟨v, hvv, rfl⟩ : ∃ k : Nat, k ≤ 9 ∧ x = nI k := by
      have z1 := g1.1
      have z2 := g1.2
      rw [Int32.le_iff_toInt_le] at z1 z2
      have o1 : (3 : Int32).toInt = 3 := rfl
      have o5 : (9 : Int32).toInt = 9 := rfl
      exact ⟨x.toInt.toNat, by omega, ml_of_toInt (by omega) (by omega)⟩
    obtain ⟨p, hp, rfl⟩ : ∃ k : Nat, k ≤ 10 ∧ y = nI k := by
      have z1 := g2.1
      have z2 := g2.2
      rw [Int32.le_iff_toInt_le] at z1 z2
      have o1 : (0 : Int32).toInt = 0 := rfl
      have o5 : (10 : Int32).toInt = 10 := rfl
      exact ⟨y.toInt.toNat, by omega, ml_of_toInt (by omega) (by omega)⟩
    obtain ⟨q, hq⟩ : ∃ q, q = pc cu 30 := ⟨_, rfl⟩
    have hq6 : q ≤ 6 := by have := pcm h4 h9 hv; omega
    obtain ⟨m1, c1, c2⟩ := hc_cases V0 hp hvv hq
    have b := (lG_sum (n := n) (v := v) hp hq hq6 (show cu < 2 ^ 30 by omega) (2 ^ q) (Nat.le_refl _)).1
    have p10 : 10 ^ q ≤ 10 ^ 6 ∧ 1 ≤ 10 ^ q := ⟨Nat.pow_le_pow_right (by omega) hq6, Nat.one_le_pow _ _ (by omega)⟩
    have g67 : ∀ k, m1.1 67 k = m.1 67 k := fun k => c2.1 _ _ (by omega)
    obtain ⟨p0, p1⟩ := rl_Pol_0 hP
    obtain ⟨m2, d1, d2⟩ := hm_cases (m := m1) (x3 := z) ok (rl_Pol_c h9 (fun k _ => g67 _) hP) hp hvv hq
    have pw : f_C_power (10 : Int32) (nI q) m1 = some (lN (10 ^ q), m1) := hc_pow (p := 10) (t := q) (by omega) (by omega) m1
    generalize fb_sm (fun j => lG n v p q (sb cu j 30)) (2 ^ q) = A at *
    generalize 10 ^ q = B at *
    have gc := hc_gcd m1 20 B A 0 am_F (by omega) (by omega) (by omega) (by omega) (by show _ < 5000; omega)
    have gm := hm_gcd m2 z (lN A) (lN B) 20 A B am_F (by omega) (by omega) (by omega) (by show _ < 5000; omega)
    rw [Nat.gcd_comm B A] at gm
    have g0 : 0 < Nat.gcd A B := Nat.gcd_pos_of_pos_right _ (by omega)
    have gl : Nat.gcd A B ≤ B := Nat.gcd_le_right _ (by omega)
    generalize Nat.gcd A B = G at *
    have nG : ¬ lN G = (0 : Int64) := fun w => by have := (pk_lEQ (a := G) (b := 0) (by omega) (by omega)).mp w; omega
    have gc' : f_C_sharedBy (lN A) (lN B) m1 = some (lN G, m1) := gc
    refine ⟨if z = 0 then lN (A / G) else lN (B / G), m1, m2, ?_, ?_, sm_All (sm_t (sm_25 c2) (sm_69 d2)) h⟩
    · rw [hF.2.1, hc_bc h4 h9 hv, Option.bind_some, ← hq, c1, Option.bind_some]
      dsimp only
      rw [pw, Option.bind_some, gc', Option.bind_some]
      dsimp only
      rw [if_neg (fun w => nG ((lg_cmp_eq _ _).mp w))]
      by_cases z0 : z = 0
      · rw [if_pos z0, if_pos z0, if_neg nG, pk_lDiv (by omega) g0 (by omega)]
      · rw [if_neg z0, if_neg z0, if_neg nG, pk_lDiv (by omega) g0 (by omega)]
    · unfold f_M_lost
      rw [hm_th1 (by rw [g67]; exact hP.1) h4 h9, Option.bind_some, if_neg ne01, ml_in1 3 9 3 9 rfl rfl g1, Option.bind_some, if_neg ml_n10, ml_in1 0 10 0 10 rfl rfl g2, Option.bind_some, if_neg ml_n10, ml_in1 0 1 0 1 rfl rfl g3, Option.bind_some, if_neg ml_n10]
      dsimp only
      rw [g67, g67, p0, p1, hm_bc h4 h9 hv, Option.bind_some, ← hq]
      refine Eq.trans d1 ?_
      rw [gm]
      unfold f_M_lost_b272
      by_cases z0 : z = 0
      · rw [if_pos z0, if_pos z0, if_neg nG, pk_lDiv (by omega) g0 (by omega)]
      · rw [if_neg z0, if_neg z0, if_neg nG, pk_lDiv (by omega) g0 (by omega)]
