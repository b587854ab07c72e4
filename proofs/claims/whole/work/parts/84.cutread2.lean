/-! ===== cuts of the model read ===== -/
theorem hm_mayU {n x y : Nat} (h : 4 ≤ n) (h9 : n ≤ 9) (hx : x < 3000) (hy : y < 3000) (m : am_Mm) : (may n x y = true → f_M_mayBe (nI n) (nI x) (nI y) m = some (nI 1, m)) ∧ (¬ may n x y = true → f_M_mayBe (nI n) (nI x) (nI y) m = some (nI 0, m)) := by
  unfold f_M_mayBe
  rw [if_neg (nI_pos (by omega))]
  by_cases z1 : n ≤ y
  · rw [if_pos (nI_le z1 (by omega))]
    exact ⟨fun w => by have := may_iff.mp w; omega, fun _ => rfl⟩
  rw [if_neg (nI_ge (by omega) (by omega)), nI_1]
  by_cases z2 : y ≤ x + 1
  · rw [if_pos (nI_le z2 (by omega))]
    exact ⟨fun w => by have := may_iff.mp w; omega, fun _ => rfl⟩
  rw [if_neg (nI_ge (by omega) (by omega))]
  by_cases z3 : x = 0
  · rw [if_pos (by rw [z3]; rfl), nq1, pk_sub (by omega)]
    by_cases z4 : y = n - 1
    · rw [if_pos (by rw [z4])]
      exact ⟨fun w => by have := may_iff.mp w; omega, fun _ => rfl⟩
    · rw [if_neg (fun w => z4 ((nI_eq (by omega) (by omega)).mp w))]
      exact ⟨fun _ => rfl, fun w => absurd (may_iff.mpr ⟨by omega, by omega, by omega⟩) w⟩
  · rw [if_neg (show ¬ nI x = (0 : Int32) from fun w => z3 ((nI_eq (b := 0) (by omega) (by omega)).mp w))]
    exact ⟨fun _ => rfl, fun w => absurd (may_iff.mpr ⟨by omega, by omega, by omega⟩) w⟩
theorem hm_b134F {m : am_Mm} (h : ¬ m.1 63 15 = (0 : Int32)) : f_M_readCut_b134 m = some m := by
  unfold f_M_readCut_b134
  rw [hm_mustF h, Option.bind_some, hm_signF h]; rfl
theorem hm_b110F {x y z : Int32} {m : am_Mm} (h : ¬ m.1 63 15 = (0 : Int32)) : f_M_readCut_b110 x y z m = some m := by
  unfold f_M_readCut_b110
  rw [if_neg h, hm_b134F h]
theorem hm_b68F {x y : Int32} {m : am_Mm} (h : ¬ m.1 63 15 = (0 : Int32)) : f_M_readCut_b68 x y m = some m := by
  unfold f_M_readCut_b68
  rw [if_neg h, hm_b110F h]
theorem hm_cut1 {T : Nat → Nat} {l b n cu c p b1 b2 b3 b4 : Nat} {g : Bool} {kd ow : Nat → Nat} {m : am_Mm} (hl : l ≤ 120) (hT : ∀ k, k < l → T k < 256) (hb : b ≤ l) (h : 4 ≤ n) (h9 : n ≤ 9) (hv : cu_V n cu) (e1 : b1 = te T l b) (e2 : b2 = te T l b1) (e3 : b3 = te T l b2) (e4 : b4 = te T l b3) (hg : g = true ↔ may n (tv T l b1) (tv T l b3) = true ∧ fr n cu (nb n (tv T l b1) (tv T l b3))) (hk : ko T l n g b b1 b2 b3 b4 = (c, p)) (H : MI T l b n cu kd ow m) :
    (c = 0 ∧ ∃ m', f_M_readCut m = some m' ∧ MI T l (te T l b4) n (cu ||| 2 ^ nb n (tv T l b1) (tv T l b3)) kd ow m' ∧ MFr m m') ∨
    (c ≠ 0 ∧ ∃ m', f_M_readCut m = some m' ∧ MF c p m' ∧ MFr m m') := by
  obtain ⟨hL, hMT, h15, hP⟩ := H
  have hcu := cu_V_lt h h9 hv
  have h27 := cu_N27 h h9
  have hkk := mtk_lt (b := b) hT
  have p0 : m.1 68 0 = nI n := hP.1
  have q1 : b1 ≤ l := by rw [e1]; exact (te_b T hb).2
  have q2 : b2 ≤ l := by rw [e2]; exact (te_b T q1).2
  have q3 : b3 ≤ l := by rw [e3]; exact (te_b T q2).2
  have q4 : b4 ≤ l := by rw [e4]; exact (te_b T q3).2
  have q5 := (te_b T q4).2
  have cl : ∀ mm mm' : am_Mm, fM mm mm' → ML T l mm → ML T l mm' := fun mm mm' w1 w2 => ⟨by rw [w1 _ _ (by omega)]; exact w2.1, fun k hk => by rw [w1 _ _ (by omega)]; exact w2.2 k hk⟩
  have cf : ∀ mm mm' : am_Mm, fM mm mm' → MFr m mm → MFr m mm' := fun mm mm' w1 w2 p k w3 w4 => by rw [w1 p k (by omega), w2 p k w3 w4]
  have cb : ∀ mm mm' : am_Mm, fB mm mm' → MFr m mm → MFr m mm' := fun mm mm' w1 w2 p k w3 w4 => by rw [w1 p k (by omega), w2 p k w3 w4]
  have F0 : MFr m m := fun _ _ _ _ => rfl
  -- after a fault
  have K : ∀ mm : am_Mm, ¬ mm.1 63 15 = (0 : Int32) → ((f_M_figure (0 : Int32) (nI n - (1 : Int32)) mm).bind fun q9 => (f_M_mustSign (44 : Int32) q9.2).bind fun q12 => if (q12.1 63 15) = (0 : Int32) then if (q12.1 63 13) = (3 : Int32) then f_M_readCut_b68 (nI n) q9.1 q12 else (f_M_bad (1 : Int32) q12).bind fun q43 => f_M_readCut_b68 (nI n) q9.1 q43 else f_M_readCut_b68 (nI n) q9.1 q12) = some mm := by
    intro mm hm
    rw [hm_figF hm, Option.bind_some]
    dsimp only
    rw [hm_signF hm, Option.bind_some, if_neg hm, hm_b68F hm]
  unfold ko at hk
  unfold f_M_readCut f_M_readCut_b30
  rw [hMT.2.2.1, p0]
  rcases (Classical.em (tk T l b = 100)).symm with z1 | z1
  · rw [if_neg z1] at hk
    obtain ⟨rfl, rfl⟩ := Prod.mk.inj hk
    obtain ⟨m1, a1, a2, a3⟩ := hm_must0 h15 hMT.1
    refine Or.inr ⟨by omega, m1, ?_, a2, cb _ _ a3 F0⟩
    have k1 := K m1 (MF_ne a2 (by omega) (by omega))
    by_cases q : mtk T l b = 2
    · have w : T b ≠ 100 ∧ T b < 256 := by rcases tkm (b := b) hT with q | q | q | q | q | q <;> omega
      rw [q, if_pos (show nI 2 = (2 : Int32) from rfl), hMT.2.2.2.1 (Or.inl q), if_neg (show ¬ nI (T b) = (100 : Int32) from fun v => w.1 ((nI_eq (b := 100) (by omega) (by omega)).mp v)), a1, Option.bind_some, k1]
    · rw [if_neg (show ¬ nI (mtk T l b) = (2 : Int32) from fun v => q ((nI_eq (b := 2) (by omega) (by omega)).mp v)), a1, Option.bind_some, k1]
  rw [if_pos z1] at hk
  have w : mtk T l b = 2 ∧ T b = 100 := by rcases tkm (b := b) hT with q | q | q | q | q | q <;> omega
  rw [w.1, if_pos (show nI 2 = (2 : Int32) from rfl), hMT.2.2.2.1 (Or.inl w.1), w.2, if_pos (show nI 100 = (100 : Int32) from rfl), hm_must1 h15]
  obtain ⟨m1, a1, a2, a3⟩ := hm_next hl hT hL q1 (by rw [e1]; exact hMT.2.1)
  have L1 := cl _ _ a3 hL
  have C1 := cf _ _ a3 F0
  have f1 : m1.1 63 15 = nI 0 := by rw [a3 _ _ (by omega)]; exact h15
  rw [a1, Option.bind_some, Option.bind_some, nq1, pk_sub (by omega)]
  obtain ⟨g1, g2, g3⟩ := hm_fig (c := n - 1) hT (by omega) a2 f1
  rcases (Classical.em (tk T l b1 = 256)).symm with z2 | z2
  · rw [if_neg z2] at hk
    obtain ⟨rfl, rfl⟩ := Prod.mk.inj hk
    obtain ⟨m2, b1', b2', b3'⟩ := g3 z2
    have ne := MF_ne b2' (by omega) (by omega)
    refine Or.inr ⟨by omega, m2, ?_, b2', cb _ _ b3' C1⟩
    rw [b1', Option.bind_some]
    dsimp only
    rw [hm_signF ne, Option.bind_some, if_neg ne, hm_b68F ne]
  rw [if_pos z2] at hk
  have hv1 := tv_lt hT z2
  rcases (Classical.em (tv T l b1 ≤ n - 1)).symm with z3 | z3
  · rw [if_neg z3] at hk
    obtain ⟨rfl, rfl⟩ := Prod.mk.inj hk
    obtain ⟨m2, b1', b2', b3'⟩ := g2 z2 z3
    have ne := MF_ne b2' (by omega) (by omega)
    refine Or.inr ⟨by omega, m2, ?_, b2', cb _ _ b3' C1⟩
    rw [b1', Option.bind_some]
    dsimp only
    rw [hm_signF ne, Option.bind_some, if_neg ne, hm_b68F ne]
  rw [if_pos z3] at hk
  obtain ⟨m2, b1', b2', b3'⟩ := hm_next hl hT L1 q2 (by rw [e2]; exact a2.2.1)
  have L2 := cl _ _ b3' L1
  have C2 := cf _ _ b3' C1
  have f2 : m2.1 63 15 = nI 0 := by rw [b3' _ _ (by omega)]; exact f1
  rw [g1 z2 z3, b1', Option.bind_some, Option.bind_some]
  dsimp only
  obtain ⟨s1, s2⟩ := hm_sign (c := 44) hT (Or.inl rfl) b2' f2
  rcases (Classical.em (tk T l b2 = 44)).symm with z4 | z4
  · rw [if_neg z4] at hk
    obtain ⟨rfl, rfl⟩ := Prod.mk.inj hk
    obtain ⟨m3, d1, d2, d3⟩ := s2 z4
    have ne := MF_ne d2 (by omega) (by omega)
    have d1' : f_M_mustSign (44 : Int32) m2 = some m3 := d1
    refine Or.inr ⟨by omega, m3, ?_, d2, cb _ _ d3 C2⟩
    rw [d1', Option.bind_some, if_neg ne, hm_b68F ne]
  rw [if_pos z4] at hk
  obtain ⟨m3, d1, d2, d3⟩ := hm_next hl hT L2 q3 (by rw [e3]; exact b2'.2.1)
  have L3 := cl _ _ d3 L2
  have C3 := cf _ _ d3 C2
  have f3 : m3.1 63 15 = nI 0 := by rw [d3 _ _ (by omega)]; exact f2
  have s1' : f_M_mustSign (44 : Int32) m2 = _ := s1 z4
  have hk3 := mtk_lt (b := b3) hT
  rw [s1', d1, Option.bind_some, Option.bind_some, f3, if_pos e00, d2.2.2.1]
  rcases (Classical.em (tk T l b3 = 256)).symm with z5 | z5
  · rw [if_neg z5] at hk
    obtain ⟨rfl, rfl⟩ := Prod.mk.inj hk
    have q : mtk T l b3 ≠ 3 := by rcases tkm (b := b3) hT with q | q | q | q | q | q <;> omega
    obtain ⟨m4, k1, k2, k3⟩ := hm_bad (c := 1) f3 d2.1
    have k1' : f_M_bad (nI 1) m3 = some m4 := k1
    refine Or.inr ⟨by omega, m4, ?_, k2, cb _ _ k3 C3⟩
    rw [if_neg (show ¬ nI (mtk T l b3) = (3 : Int32) from fun v => q ((nI_eq (b := 3) (by omega) (by omega)).mp v)), k1', Option.bind_some, hm_b68F (MF_ne k2 (by omega) (by omega))]
  rw [if_pos z5] at hk
  have hv3 := tv_lt hT z5
  have w3 : mtk T l b3 = 3 := by rcases tkm (b := b3) hT with q | q | q | q | q | q <;> omega
  rw [w3, if_pos (show nI 3 = (3 : Int32) from rfl)]
  unfold f_M_readCut_b68
  rw [f3, if_pos e00, d2.2.2.2.2 w3]
  obtain ⟨y1, y2⟩ := hm_mayU h h9 hv1 hv3 m3
  have S3 : ∀ k, m3.1 68 k = m.1 68 k := fun k => by rw [d3 _ _ (by omega), b3' _ _ (by omega), a3 _ _ (by omega)]
  rcases (Classical.em (g = true)).symm with z7 | z7
  · have hk' : ((2, b3) : Nat × Nat) = (c, p) := by
      rw [if_neg z7] at hk
      by_cases z6 : tv T l b3 ≤ n - 1
      · rw [if_pos z6] at hk; exact hk
      · rw [if_neg z6] at hk; exact hk
    obtain ⟨rfl, rfl⟩ := Prod.mk.inj hk'
    obtain ⟨m4, k1, k2, k3⟩ := hm_bad (c := 2) f3 d2.1
    have k1' : f_M_bad (2 : Int32) m3 = some m4 := k1
    have B : f_M_readCut_b105 (nI n) (nI (tv T l b1)) (nI (tv T l b3)) m3 = some m4 := by
      unfold f_M_readCut_b105
      rw [k1', Option.bind_some, hm_b110F (MF_ne k2 (by omega) (by omega))]
    refine Or.inr ⟨by omega, m4, ?_, k2, cb _ _ k3 C3⟩
    by_cases hm : may n (tv T l b1) (tv T l b3) = true
    · have hf : ¬ fr n cu (nb n (tv T l b1) (tv T l b3)) := fun v => z7 (hg.mpr ⟨hm, v⟩)
      have hi := (cu_nb h h9 hm).1
      rw [y1 hm, Option.bind_some, if_neg ne01]
      dsimp only
      rw [hm_num1 h h9 hm, Option.bind_some]
      dsimp only
      rw [(hm_free (p := 68) h h9 (by rw [S3]; exact p0) (by rw [S3]; exact hP.2.1) hcu hi).2 hf, Option.bind_some, if_pos e00, B]
    · rw [y2 hm, Option.bind_some, if_pos e00, B]
  obtain ⟨hm, hf⟩ := hg.mp z7
  have hi := (cu_nb h h9 hm).1
  have mi := may_iff.mp hm
  rw [if_pos (show tv T l b3 ≤ n - 1 by omega), if_pos z7] at hk
  rw [y1 hm, Option.bind_some, if_neg ne01]
  dsimp only
  rw [hm_num1 h h9 hm, Option.bind_some]
  dsimp only
  rw [(hm_free (p := 68) h h9 (by rw [S3]; exact p0) (by rw [S3]; exact hP.2.1) hcu hi).1 hf, Option.bind_some, if_neg ne01]
  dsimp only
  unfold f_M_readCut_b110
  rw [f3, if_pos e00, hm_num1 h h9 hm, Option.bind_some, S3, show m.1 68 1 = nI cu from hP.2.1]
  have s : nI cu ||| am_shl (1 : Int32) (nI (nb n (tv T l b1) (tv T l b3))) = nI (cu ||| 2 ^ nb n (tv T l b1) (tv T l b3)) := by simp (disch := omega) only [nq0, nq1, nq2, nq3, nq4, nq5, nq6, nq7, nq8, nq9, nq10, nq11, nq20, nq24, nq27, nq30, nq40, nI_add, pk_sub, pk_mul, nq_div, nq_rem, nq_shl1, nq_shl2, nq_bit1, nq_bit0, nq_or, nq_and, nq_nd, ml_cl, nq_in, nq_le, nq_nle, nq_lt, nq_nlt, nq_eq, nq_ne, nq_eqT, Option.bind_some, Bool.false_eq_true, Bool.true_eq_false, ↓reduceIte]
  dsimp only
  rw [s]
  obtain ⟨m4, em4⟩ : ∃ m4, m4 = am_pI m3 68 1 (nI (cu ||| 2 ^ nb n (tv T l b1) (tv T l b3))) := ⟨_, rfl⟩
  rw [← em4]
  have g4 : ∀ p k, ¬ (p = 68 ∧ k = 1) → m4.1 p k = m3.1 p k := fun p k w => by rw [em4, ml_o _ _ w]
  have L4 : ML T l m4 := ⟨by rw [g4 _ _ (by omega)]; exact L3.1, fun k hk => by rw [g4 _ _ (by omega)]; exact L3.2 k hk⟩
  have C4 : MFr m m4 := fun p k w1 w2 => by rw [g4 _ _ (by omega), C3 p k w1 w2]
  have f4 : m4.1 63 15 = nI 0 := by rw [g4 _ _ (by omega)]; exact f3
  obtain ⟨m5, h1, h2, h3⟩ := hm_next hl hT L4 q4 (by rw [g4 _ _ (by omega), e4]; exact d2.2.1)
  have L5 := cl _ _ h3 L4
  have C5 := cf _ _ h3 C4
  have f5 : m5.1 63 15 = nI 0 := by rw [h3 _ _ (by omega)]; exact f4
  have mu : f_M_must (nI 1) m4 = _ := hm_must1 f4
  unfold f_M_readCut_b134
  have mu' : f_M_must (1 : Int32) m4 = _ := hm_must1 f4
  rw [mu', h1, Option.bind_some, Option.bind_some]
  obtain ⟨t1, t2⟩ := hm_sign (c := 59) hT (Or.inr rfl) h2 f5
  by_cases z8 : tk T l b4 = 59
  · rw [if_pos z8] at hk
    obtain ⟨rfl, rfl⟩ := Prod.mk.inj hk
    obtain ⟨m6, k1, k2, k3⟩ := hm_next hl hT L5 q5 h2.2.1
    have t1' : f_M_mustSign (59 : Int32) m5 = _ := t1 z8
    left
    refine ⟨rfl, m6, by rw [t1', k1]; rfl, ⟨cl _ _ k3 L5, k2, by rw [k3 _ _ (by omega)]; exact f5, ?_, ?_, fun i hi => ?_⟩, cf _ _ k3 C5⟩
    · rw [k3 _ _ (by omega), h3 _ _ (by omega), g4 _ _ (by omega), S3]; exact p0
    · rw [k3 _ _ (by omega), h3 _ _ (by omega), em4, Nat.zero_add, ml_s]
    · rw [k3 _ _ (by omega), h3 _ _ (by omega), g4 _ _ (by omega), S3, k3 _ _ (by omega), h3 _ _ (by omega), g4 _ _ (by omega), S3]
      exact hP.2.2 i hi
  · rw [if_neg z8] at hk
    obtain ⟨rfl, rfl⟩ := Prod.mk.inj hk
    obtain ⟨m6, k1, k2, k3⟩ := t2 z8
    have k1' : f_M_mustSign (59 : Int32) m5 = some m6 := k1
    exact Or.inr ⟨by omega, m6, by rw [k1']; rfl, k2, cb _ _ k3 C5⟩
