/-! ===== corners of the model, cuts read ===== -/
theorem hm_rc0 {T : Nat → Nat} {l b n cu : Nat} {kd ow : Nat → Nat} {m : am_Mm} (hT : ∀ k, k < l → T k < 256) (H : MI T l b n cu kd ow m) : f_M_readCorner m = f_M_readCorner_b19 (nI (srt (tk T l b))) m := by
  obtain ⟨hL, hMT, h15, hP⟩ := H
  have hk := mtk_lt (b := b) hT
  unfold f_M_readCorner
  rw [hMT.2.2.1]
  by_cases q : mtk T l b = 2
  · have q2 : T b < 256 ∧ tk T l b = T b := by rcases tkm (b := b) hT with q | q | q | q | q | q <;> omega
    rw [q, if_pos (show nI 2 = (2 : Int32) from rfl), hMT.2.2.2.1 (Or.inl q), hm_sort (by omega), Option.bind_some, q2.2]
  · have q2 : srt (tk T l b) = 0 := by
      have c := srt_c (tk T l b)
      rcases tkm (b := b) hT with q | q | q | q | q | q <;> omega
    rw [if_neg (show ¬ nI (mtk T l b) = (2 : Int32) from fun w => q ((nI_eq (b := 2) (by omega) (by omega)).mp w)), q2]; rfl
theorem hm_corner {T : Nat → Nat} {l b n cu c p : Nat} {kd ow : Nat → Nat} {m : am_Mm} (hl : l ≤ 120) (hT : ∀ k, k < l → T k < 256) (hb : b ≤ l) (hn : n < 9) (hs : srt (tk T l b) ≠ 0) (hk : co T l (te T l b) (te T l (te T l b)) = (c, p)) (H : MI T l b n cu kd ow m) :
    (c = 0 ∧ ∃ m', f_M_readCorner m = some m' ∧ MI T l (te T l (te T l (te T l b))) (n + 1) cu (up kd n (srt (tk T l b))) (up ow n (tv T l (te T l b))) m' ∧ MFr m m') ∨
    (c ≠ 0 ∧ ∃ m', f_M_readCorner m = some m' ∧ MF c p m' ∧ MFr m m') := by
  rw [hm_rc0 hT H]
  obtain ⟨hL, hMT, h15, hP⟩ := H
  have hk9 := srt_le (tk T l b)
  obtain ⟨s, es⟩ : ∃ s, s = srt (tk T l b) := ⟨_, rfl⟩
  rw [← es] at hs hk9 ⊢
  have q1 := (te_b T hb).2
  obtain ⟨b1, e1⟩ : ∃ b1, b1 = te T l b := ⟨_, rfl⟩
  rw [← e1] at hk q1 ⊢
  have q2 := (te_b T q1).2
  obtain ⟨b2, e2⟩ : ∃ b2, b2 = te T l b1 := ⟨_, rfl⟩
  rw [← e2] at hk q2 ⊢
  have q3 := (te_b T q2).2
  have p0 : m.1 68 0 = nI n := hP.1
  obtain ⟨m1, c1, c2, c3⟩ := hm_next hl hT hL q1 (by rw [e1]; exact hMT.2.1)
  obtain ⟨m2, em2⟩ : ∃ m2, m2 = am_pI m1 68 (2 + 2 * n) (nI s) := ⟨_, rfl⟩
  have g2 : ∀ p k, ¬ (p = 68 ∧ k = 2 + 2 * n) → m2.1 p k = m1.1 p k := fun p k w => by rw [em2, ml_o _ _ w]
  have start : f_M_readCorner_b19 (nI s) m = (f_M_figure (0 : Int32) (9 : Int32) m2).bind fun q17 => (f_M_mustSign (59 : Int32) (am_pI q17.2 68 (3 + 2 * n) q17.1)).bind fun q21 => some (am_pI q21 68 0 ((q21.1 68 0) + (1 : Int32))) := by
    unfold f_M_readCorner_b19 f_M_readCorner_b48
    rw [if_neg (show ¬ nI s = (0 : Int32) from fun w => hs ((nI_eq (b := 0) (by omega) (by omega)).mp w)), p0, if_neg (show ¬ nI n = (9 : Int32) from fun w => by have := (nI_eq (b := 9) (by omega) (by omega)).mp w; omega), h15, if_pos (show nI 0 ≤ (0 : Int32) by decide), c1, Option.bind_some, nq2, pk_mul, nI_add, nI_1, if_pos (am_in_nI (by omega) (by omega)), ml_cl (by omega), ← em2]
    simp only [show 2 + 2 * n + 1 = 3 + 2 * n by omega, nq_in (show 3 + 2 * n < 20 by omega) (show 20 < 2 ^ 31 by decide), ↓reduceIte, ml_cl (show 3 + 2 * n < 2 ^ 31 by omega)]
  rw [start]
  have T2 : MT T l b1 m2 := by
    have := c2
    unfold MT at this ⊢
    rw [g2 _ _ (by omega), g2 _ _ (by omega), g2 _ _ (by omega), g2 _ _ (by omega)]
    exact this
  have L2 : ML T l m2 := ⟨by rw [g2 _ _ (by omega), c3 _ _ (by omega)]; exact hL.1, fun k hk => by rw [g2 _ _ (by omega), c3 _ _ (by omega)]; exact hL.2 k hk⟩
  have f2 : m2.1 63 15 = nI 0 := by rw [g2 _ _ (by omega), c3 _ _ (by omega)]; exact h15
  have fr2 : MFr m m2 := fun p k w1 w2 => by rw [g2 _ _ (by omega), c3 p k (by omega)]
  obtain ⟨fg1, fg2, fg3⟩ := hm_fig (c := 9) hT (by omega) T2 f2
  -- after a fault nothing more
  have rest : ∀ (x : Int32) (c p : Nat) (mm : am_Mm), 1 ≤ c → c ≤ 3 → MF c p mm → fB m2 mm → f_M_figure (0 : Int32) (9 : Int32) m2 = some (x, mm) → ∃ m', ((f_M_figure (0 : Int32) (9 : Int32) m2).bind fun q17 => (f_M_mustSign (59 : Int32) (am_pI q17.2 68 (3 + 2 * n) q17.1)).bind fun q21 => some (am_pI q21 68 0 ((q21.1 68 0) + (1 : Int32)))) = some m' ∧ MF c p m' ∧ MFr m m' := by
    intro x c p mm h1 h3 hF hfr e
    have hF2 : MF c p (am_pI mm 68 (3 + 2 * n) x) := ⟨by rw [ml_o _ _ (by omega)]; exact hF.1, by rw [ml_o _ _ (by omega)]; exact hF.2⟩
    rw [e, Option.bind_some, hm_signF (MF_ne hF2 h1 h3), Option.bind_some]
    refine ⟨_, rfl, ⟨by rw [ml_o _ _ (by omega)]; exact hF2.1, by rw [ml_o _ _ (by omega)]; exact hF2.2⟩, fun p k w1 w2 => ?_⟩
    rw [ml_o _ _ (by omega), ml_o _ _ (by omega), hfr p k (by omega), fr2 p k w1 w2]
  unfold co at hk
  by_cases z1 : tk T l b1 = 256
  · rw [if_pos z1] at hk
    by_cases z2 : tv T l b1 ≤ 9
    · rw [if_pos z2] at hk
      obtain ⟨m3, d1, d2, d3⟩ := hm_next hl hT L2 q2 (by rw [e2]; exact T2.2.1)
      have fg : f_M_figure (0 : Int32) (9 : Int32) m2 = _ := fg1 z1 z2
      rw [fg, d1, Option.bind_some, Option.bind_some]
      dsimp only
      obtain ⟨m4, em4⟩ : ∃ m4, m4 = am_pI m3 68 (3 + 2 * n) (nI (tv T l b1)) := ⟨_, rfl⟩
      rw [← em4]
      have g4 : ∀ p k, ¬ (p = 68 ∧ k = 3 + 2 * n) → m4.1 p k = m3.1 p k := fun p k w => by rw [em4, ml_o _ _ w]
      have T4 : MT T l b2 m4 := by
        have := d2
        unfold MT at this ⊢
        rw [g4 _ _ (by omega), g4 _ _ (by omega), g4 _ _ (by omega), g4 _ _ (by omega)]
        exact this
      have L4 : ML T l m4 := ⟨by rw [g4 _ _ (by omega), d3 _ _ (by omega)]; exact L2.1, fun k hk => by rw [g4 _ _ (by omega), d3 _ _ (by omega)]; exact L2.2 k hk⟩
      have f4 : m4.1 63 15 = nI 0 := by rw [g4 _ _ (by omega), d3 _ _ (by omega)]; exact f2
      have fr4 : MFr m m4 := fun p k w1 w2 => by rw [g4 _ _ (by omega), d3 p k (by omega), fr2 p k w1 w2]
      obtain ⟨sg1, sg2⟩ := hm_sign (c := 59) hT (Or.inr rfl) T4 f4
      by_cases z3 : tk T l b2 = 59
      · rw [if_pos z3] at hk
        obtain ⟨rfl, rfl⟩ := Prod.mk.inj hk
        left
        obtain ⟨m5, h1, h2, h3⟩ := hm_next hl hT L4 q3 T4.2.1
        have sg : f_M_mustSign (59 : Int32) m4 = _ := sg1 z3
        have p5 : m5.1 68 0 = nI n := by rw [h3 _ _ (by omega), g4 _ _ (by omega), d3 _ _ (by omega), g2 _ _ (by omega), c3 _ _ (by omega)]; exact p0
        rw [sg, h1, Option.bind_some, Option.bind_some, p5, nI_1]
        have T6 : MT T l (te T l b2) (am_pI m5 68 0 (nI (n + 1))) := by
          have := h2
          unfold MT at this ⊢
          rw [ml_o _ _ (by omega), ml_o _ _ (by omega), ml_o _ _ (by omega), ml_o _ _ (by omega)]
          exact this
        refine ⟨rfl, _, rfl, ⟨⟨by rw [ml_o _ _ (by omega), h3 _ _ (by omega)]; exact L4.1, fun k hk => by rw [ml_o _ _ (by omega), h3 _ _ (by omega)]; exact L4.2 k hk⟩, T6, by rw [ml_o _ _ (by omega), h3 _ _ (by omega)]; exact f4, ml_s _ _ _ _, ?_, fun i hi => ?_⟩, fun p k w1 w2 => by rw [ml_o _ _ (by omega), h3 _ _ (by omega), fr4 p k w1 w2]⟩
        · rw [ml_o _ _ (by omega), h3 _ _ (by omega), g4 _ _ (by omega), d3 _ _ (by omega), g2 _ _ (by omega), c3 _ _ (by omega)]; exact hP.2.1
        · rw [ml_o _ _ (by omega), h3 _ _ (by omega), ml_o _ _ (by omega), h3 _ _ (by omega)]
          by_cases y : i = n
          · subst y
            rw [up_s, up_s, g4 _ _ (by omega), d3 _ _ (by omega), em2, show 0 + 2 + 2 * i = 2 + 2 * i by omega, ml_s, em4, show 0 + 3 + 2 * i = 3 + 2 * i by omega, ml_s]
            exact ⟨rfl, rfl⟩
          · rw [up_o y, up_o y, g4 _ _ (by omega), d3 _ _ (by omega), g2 _ _ (by omega), c3 _ _ (by omega), g4 _ _ (by omega), d3 _ _ (by omega), g2 _ _ (by omega), c3 _ _ (by omega)]
            exact hP.2.2 i (by omega)
      · rw [if_neg z3] at hk
        obtain ⟨rfl, rfl⟩ := Prod.mk.inj hk
        right
        obtain ⟨m5, h1, h2, h3⟩ := sg2 z3
        have h1' : f_M_mustSign (59 : Int32) m4 = some m5 := h1
        rw [h1', Option.bind_some]
        refine ⟨by omega, _, rfl, ⟨by rw [ml_o _ _ (by omega)]; exact h2.1, by rw [ml_o _ _ (by omega)]; exact h2.2⟩, fun p k w1 w2 => by rw [ml_o _ _ (by omega), h3 p k (by omega), fr4 p k w1 w2]⟩
    · rw [if_neg z2] at hk
      obtain ⟨rfl, rfl⟩ := Prod.mk.inj hk
      right
      obtain ⟨mm, h1, h2, h3⟩ := fg2 z1 z2
      exact ⟨by omega, rest 0 2 b1 mm (by omega) (by omega) h2 h3 h1⟩
  · rw [if_neg z1] at hk
    obtain ⟨rfl, rfl⟩ := Prod.mk.inj hk
    right
    obtain ⟨mm, h1, h2, h3⟩ := fg3 z1
    exact ⟨by omega, rest 0 1 b1 mm (by omega) (by omega) h2 h3 h1⟩
/-- what is read of one cut: its faults; g says whether it may be drawn -/
def ko (T : Nat → Nat) (l n : Nat) (g : Bool) (b b1 b2 b3 b4 : Nat) : Nat × Nat :=
  if tk T l b = 100 then
    if tk T l b1 = 256 then
      if tv T l b1 ≤ n - 1 then
        if tk T l b2 = 44 then
          if tk T l b3 = 256 then
            if tv T l b3 ≤ n - 1 then
              if g = true then
                if tk T l b4 = 59 then (0, 0) else (1, b4)
              else (2, b3)
            else (2, b3)
          else (1, b3)
        else (1, b2)
      else (2, b1)
    else (1, b1)
  else (1, b)
theorem hc_draw {n cu x y : Nat} {g : Bool} {m : am_Mm} (h : 4 ≤ n) (h9 : n ≤ 9) (hR : rl_Ring m.1 6 n) (hv : cu_V n cu) (e3 : m.1 3 3 = nI cu) (hx : x ≤ n - 1) (hy : y ≤ n - 1) (hg : g = true ↔ may n x y = true ∧ fr n cu (nb n x y)) : f_Tape_drawCut (nI x) (nI y) m = if g = true then some (nI 1, am_pI m 3 3 (nI (cu ||| 2 ^ nb n x y))) else some (nI 0, am_pI m 2 4 (nI 2)) := by
  have hcu := cu_V_lt h h9 hv
  have h27 := cu_N27 h h9
  have bad : f_Tape_drawCut_b18 (-1 : Int32) m = some (nI 0, am_pI m 2 4 (nI 2)) := rfl
  unfold f_Tape_drawCut
  by_cases z : y ≤ x
  · rw [if_pos (nI_le z (by omega)), bad, if_neg]
    intro w
    have := may_iff.mp (hg.mp w).1
    omega
  · rw [if_neg (nI_ge (by omega) (by omega))]
    obtain ⟨n1, n2⟩ := hc_num (m := m) (p := 6) (x := x) (y := y) (a := x) (b := y) h h9 hR.1 (by omega) (by omega) (by omega)
    by_cases w : may n x y = true
    · have hi := (cu_nb h h9 w).1
      rw [n1 w, Option.bind_some]
      dsimp only
      unfold f_Tape_drawCut_b18
      obtain ⟨f1, f2⟩ := hc_free (p := 6) (i := nb n x y) h h9 hR hcu hi
      rw [e3]
      by_cases v : fr n cu (nb n x y)
      · rw [if_pos (hg.mpr ⟨w, v⟩), f1 v, Option.bind_some, if_neg ne01]
        dsimp only
        have s : nI cu ||| am_shl (1 : Int32) (nI (nb n x y)) = nI (cu ||| 2 ^ nb n x y) := by simp (disch := omega) only [nq0, nq1, nq2, nq3, nq4, nq5, nq6, nq7, nq8, nq9, nq10, nq11, nq20, nq24, nq27, nq30, nq40, nI_add, pk_sub, pk_mul, nq_div, nq_rem, nq_shl1, nq_shl2, nq_bit1, nq_bit0, nq_or, nq_and, nq_nd, ml_cl, nq_in, nq_le, nq_nle, nq_lt, nq_nlt, nq_eq, nq_ne, nq_eqT, Option.bind_some, Bool.false_eq_true, Bool.true_eq_false, ↓reduceIte]
        rw [e3, s]; rfl
      · rw [if_neg (fun q => v (hg.mp q).2), f2 v]; rfl
    · rw [n2 w, Option.bind_some, if_neg (fun q => w (hg.mp q).1)]
      exact bad
theorem hc_cut1 {T : Nat → Nat} {l b n cu f j c p b1 b2 b3 b4 : Nat} {g : Bool} {kd ow : Nat → Nat} {m : am_Mm} (hl : l ≤ 120) (hT : ∀ k, k < l → T k < 256) (hb : b ≤ l) (h : 4 ≤ n) (h9 : n ≤ 9) (hj : j ≤ 120) (hv : cu_V n cu) (hR : rl_Ring m.1 6 n) (he : tk T l b ≠ 257) (e1 : b1 = te T l b) (e2 : b2 = te T l b1) (e3 : b3 = te T l b2) (e4 : b4 = te T l b3) (hg : g = true ↔ may n (tv T l b1) (tv T l b3) = true ∧ fr n cu (nb n (tv T l b1) (tv T l b3))) (hk : ko T l n g b b1 b2 b3 b4 = (c, p)) (H : CI T l b n cu kd ow m) :
    (c = 0 ∧ ∃ m', f_Tape_readCuts_b16 (f + 1) (nI j) m = f_Tape_readCuts_b16 f (nI (j + 1)) m' ∧ CI T l (te T l b4) n (cu ||| 2 ^ nb n (tv T l b1) (tv T l b3)) kd ow m' ∧ rl_Ring m'.1 6 n ∧ CFr m m' ∧ m'.1 2 4 = m.1 2 4) ∨
    (c ≠ 0 ∧ ∃ m', f_Tape_readCuts_b16 (f + 1) (nI j) m = some (nI 0, m') ∧ m'.1 2 4 = nI c ∧ m'.1 2 5 = nI p ∧ CFr m m') := by
  obtain ⟨hL, hCT, hF⟩ := H
  have hlt := tk_lt (b := b) hT
  have q1 : b1 ≤ l := by rw [e1]; exact (te_b T hb).2
  have q2 : b2 ≤ l := by rw [e2]; exact (te_b T q1).2
  have q3 : b3 ≤ l := by rw [e3]; exact (te_b T q2).2
  have q4 : b4 ≤ l := by rw [e4]; exact (te_b T q3).2
  have q5 := (te_b T q4).2
  have flt : ∀ (mm : am_Mm) (x : Nat), CFr m mm → CFr m (am_pI mm 2 4 (nI x)) := fun mm x h p k w1 w2 => by rw [ml_o _ _ (by omega), h p k w1 w2]
  have cl : ∀ mm mm' : am_Mm, fC mm mm' → CL T l mm → CL T l mm' := fun mm mm' w1 w2 => ⟨by rw [w1 _ _ (by omega)]; exact w2.1, fun k hk => by rw [w1 _ _ (by omega)]; exact w2.2 k hk⟩
  have cf : ∀ mm mm' : am_Mm, fC mm mm' → CFr m mm → CFr m mm' := fun mm mm' w1 w2 p k w3 w4 => by rw [w1 p k (by omega), w2 p k w3 w4]
  have sg := hc_sign (c := 100) hT (by omega) hCT
  have sg' : f_Tape_isSign (100 : Int32) m = _ := sg
  rw [f_Tape_readCuts_b16, if_neg (show ¬ (120 : Int32) < nI j from nI_nlt (a := 120) (by omega) (by decide)), hCT.2.2.1, if_neg (show ¬ nI (tk T l b) = (257 : Int32) from fun w => he ((nI_eq (b := 257) (by omega) (by omega)).mp w)), sg']
  unfold ko at hk
  rcases (Classical.em (tk T l b = 100)).symm with z1 | z1
  · rw [if_neg z1] at hk ⊢
    obtain ⟨rfl, rfl⟩ := Prod.mk.inj hk
    exact Or.inr ⟨by omega, am_pI m 2 4 (nI 1), by rw [Option.bind_some, if_pos e00]; rfl, ml_s _ _ _ _, by rw [ml_o _ _ (by omega)]; exact hCT.1, flt _ _ (fun _ _ _ _ => rfl)⟩
  rw [if_pos z1] at hk ⊢
  rw [Option.bind_some, if_neg ne01]
  dsimp only
  obtain ⟨m1, a1, a2, a3⟩ := hc_next hl hT hL q1 (by rw [e1]; exact hCT.2.1)
  have L1 := cl _ _ a3 hL
  have C1 : CFr m m1 := cf _ _ a3 (fun _ _ _ _ => rfl)
  have n1 : m1.1 3 2 = nI n := by rw [a3 _ _ (by omega)]; exact hF.1
  rw [a1, Option.bind_some, n1, nq1, pk_sub (by omega), hc_upto hT (by omega) a2]
  rcases (Classical.em (tk T l b1 = 256)).symm with z2 | z2
  · rw [if_neg z2] at hk ⊢
    obtain ⟨rfl, rfl⟩ := Prod.mk.inj hk
    exact Or.inr ⟨by omega, am_pI m1 2 4 (nI 1), by rw [Option.bind_some, if_pos e00]; rfl, ml_s _ _ _ _, by rw [ml_o _ _ (by omega)]; exact a2.1, flt _ _ C1⟩
  rw [if_pos z2] at hk ⊢
  rcases (Classical.em (tv T l b1 ≤ n - 1)).symm with z3 | z3
  · rw [if_neg z3] at hk ⊢
    obtain ⟨rfl, rfl⟩ := Prod.mk.inj hk
    exact Or.inr ⟨by omega, am_pI m1 2 4 (nI 2), by rw [Option.bind_some, if_pos e00]; rfl, ml_s _ _ _ _, by rw [ml_o _ _ (by omega)]; exact a2.1, flt _ _ C1⟩
  rw [if_pos z3] at hk ⊢
  rw [Option.bind_some, if_neg ne01]
  dsimp only
  obtain ⟨m2, b1', b2', b3'⟩ := hc_next hl hT L1 q2 (by rw [e2]; exact a2.2.1)
  have L2 := cl _ _ b3' L1
  have C2 : CFr m m2 := cf _ _ b3' C1
  have sg2 : f_Tape_isSign (44 : Int32) m2 = _ := hc_sign (c := 44) hT (by omega) b2'
  rw [b1', Option.bind_some, sg2]
  rcases (Classical.em (tk T l b2 = 44)).symm with z4 | z4
  · rw [if_neg z4] at hk ⊢
    obtain ⟨rfl, rfl⟩ := Prod.mk.inj hk
    exact Or.inr ⟨by omega, am_pI m2 2 4 (nI 1), by rw [Option.bind_some, if_pos e00]; rfl, ml_s _ _ _ _, by rw [ml_o _ _ (by omega)]; exact b2'.1, flt _ _ C2⟩
  rw [if_pos z4] at hk ⊢
  rw [Option.bind_some, if_neg ne01]
  dsimp only
  obtain ⟨m3, d1, d2, d3⟩ := hc_next hl hT L2 q3 (by rw [e3]; exact b2'.2.1)
  have L3 := cl _ _ d3 L2
  have C3 : CFr m m3 := cf _ _ d3 C2
  have n3 : m3.1 3 2 = nI n := by rw [d3 _ _ (by omega), b3' _ _ (by omega)]; exact n1
  rw [d1, Option.bind_some, n3, pk_sub (by omega), hc_upto hT (by omega) d2]
  rcases (Classical.em (tk T l b3 = 256)).symm with z5 | z5
  · rw [if_neg z5] at hk ⊢
    obtain ⟨rfl, rfl⟩ := Prod.mk.inj hk
    exact Or.inr ⟨by omega, am_pI m3 2 4 (nI 1), by rw [Option.bind_some, if_pos e00]; rfl, ml_s _ _ _ _, by rw [ml_o _ _ (by omega)]; exact d2.1, flt _ _ C3⟩
  rw [if_pos z5] at hk ⊢
  rcases (Classical.em (tv T l b3 ≤ n - 1)).symm with z6 | z6
  · rw [if_neg z6] at hk ⊢
    obtain ⟨rfl, rfl⟩ := Prod.mk.inj hk
    exact Or.inr ⟨by omega, am_pI m3 2 4 (nI 2), by rw [Option.bind_some, if_pos e00]; rfl, ml_s _ _ _ _, by rw [ml_o _ _ (by omega)]; exact d2.1, flt _ _ C3⟩
  rw [if_pos z6] at hk ⊢
  rw [Option.bind_some, if_neg ne01]
  dsimp only
  have S3 : ∀ p k, (3 ≤ p ∧ p ≤ 10) → m3.1 p k = m.1 p k := fun p k w => by rw [d3 _ _ (by omega), b3' _ _ (by omega), a3 _ _ (by omega)]
  have R3 : rl_Ring m3.1 6 n := by
    have hR' := hR
    unfold rl_Ring at hR' ⊢
    simp (disch := omega) only [Nat.reduceAdd, S3]
    exact hR'
  rw [a2.2.2.2 z2, d2.2.2.2 z5, hc_draw h h9 R3 hv (by rw [S3 _ _ (by omega)]; exact hF.2.1) z3 z6 hg]
  rcases (Classical.em (g = true)).symm with z7 | z7
  · rw [if_neg z7] at hk ⊢
    obtain ⟨rfl, rfl⟩ := Prod.mk.inj hk
    exact Or.inr ⟨by omega, am_pI m3 2 4 (nI 2), by rw [Option.bind_some, if_pos e00]; rfl, ml_s _ _ _ _, by rw [ml_o _ _ (by omega)]; exact d2.1, flt _ _ C3⟩
  rw [if_pos z7] at hk ⊢
  rw [Option.bind_some, if_neg ne01]
  dsimp only
  obtain ⟨m4, em4⟩ : ∃ m4, m4 = am_pI m3 3 3 (nI (cu ||| 2 ^ nb n (tv T l b1) (tv T l b3))) := ⟨_, rfl⟩
  rw [← em4]
  have g4 : ∀ p k, ¬ (p = 3 ∧ k = 3) → m4.1 p k = m3.1 p k := fun p k w => by rw [em4, ml_o _ _ w]
  have L4 : CL T l m4 := ⟨by rw [g4 _ _ (by omega)]; exact L3.1, fun k hk => by rw [g4 _ _ (by omega)]; exact L3.2 k hk⟩
  have C4 : CFr m m4 := fun p k w1 w2 => by rw [g4 _ _ (by omega), C3 p k w1 w2]
  obtain ⟨m5, h1, h2, h3⟩ := hc_next hl hT L4 q4 (by rw [g4 _ _ (by omega), e4]; exact d2.2.1)
  have L5 := cl _ _ h3 L4
  have C5 : CFr m m5 := cf _ _ h3 C4
  have sg3 : f_Tape_isSign (59 : Int32) m5 = _ := hc_sign (c := 59) hT (by omega) h2
  rw [h1, Option.bind_some, sg3]
  rcases (Classical.em (tk T l b4 = 59)).symm with z8 | z8
  · rw [if_neg z8] at hk ⊢
    obtain ⟨rfl, rfl⟩ := Prod.mk.inj hk
    exact Or.inr ⟨by omega, am_pI m5 2 4 (nI 1), by rw [Option.bind_some, if_pos e00]; rfl, ml_s _ _ _ _, by rw [ml_o _ _ (by omega)]; exact h2.1, flt _ _ C5⟩
  rw [if_pos z8] at hk ⊢
  obtain ⟨rfl, rfl⟩ := Prod.mk.inj hk
  rw [Option.bind_some, if_neg ne01]
  dsimp only
  obtain ⟨m6, k1, k2, k3⟩ := hc_next hl hT L5 q5 h2.2.1
  rw [k1, Option.bind_some, nI_add]
  left
  have S6 : ∀ p k, (3 ≤ p ∧ p ≤ 10) → ¬ (p = 3 ∧ k = 3) → m6.1 p k = m.1 p k := fun p k w w2 => by rw [k3 _ _ (by omega), h3 _ _ (by omega), g4 _ _ w2, S3 _ _ w]
  refine ⟨rfl, m6, rfl, ⟨cl _ _ k3 L5, k2, ?_, ?_, fun i hi => ?_⟩, ?_, cf _ _ k3 C5, by rw [k3 _ _ (by omega), h3 _ _ (by omega), g4 _ _ (by omega), d3 _ _ (by omega), b3' _ _ (by omega), a3 _ _ (by omega)]⟩
  · rw [S6 _ _ (by omega) (by omega)]; exact hF.1
  · rw [k3 _ _ (by omega), h3 _ _ (by omega), em4, ml_s]
  · rw [S6 _ _ (by omega) (by omega), S6 _ _ (by omega) (by omega)]; exact hF.2.2 i hi
  · have hR' := hR
    unfold rl_Ring at hR' ⊢
    simp (disch := omega) only [Nat.reduceAdd, S6]
    exact hR'
