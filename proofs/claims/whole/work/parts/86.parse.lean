/-! ===== polygon agrees ===== -/
theorem hm_fill : ∀ t k f (m : am_Mm), k + t = 20 → t < f → ∃ m', f_M_polygon_b16 f (nI k) m = f_M_polygon_b37 am_F (nI 0) m' ∧ (∀ j, k ≤ j → j < 20 → m'.1 68 j = nI 0) ∧ ∀ p j, ¬ (p = 68 ∧ k ≤ j) → m'.1 p j = m.1 p j := by
  intro t
  induction t with
  | zero =>
    intro k f m hk hf
    obtain ⟨f, rfl⟩ : ∃ z, f = z + 1 := ⟨f - 1, by omega⟩
    have hk : k = 20 := by omega
    subst hk
    refine ⟨m, ?_, fun j q1 q2 => by omega, fun _ _ _ => rfl⟩
    rw [f_M_polygon_b16, if_pos (show (20 : Int32) ≤ nI 20 by decide)]; rfl
  | succ t ih =>
    intro k f m hk hf
    obtain ⟨f, rfl⟩ : ∃ z, f = z + 1 := ⟨f - 1, by omega⟩
    obtain ⟨m', c1, c2, c3⟩ := ih (k + 1) f (am_pI m 68 k (nI 0)) (by omega) (by omega)
    refine ⟨m', ?_, fun j q1 q2 => ?_, fun p j q => ?_⟩
    · rw [f_M_polygon_b16, if_neg (show ¬ (20 : Int32) ≤ nI k from nI_ge (b := 20) (by omega) (by decide)), if_pos (am_in_nI (by omega) (by omega)), ml_cl (by omega), nI_1, ← c1]; rfl
    · by_cases z : j = k
      · subst z
        rw [c3 _ _ (by omega), ml_s]
      · exact c2 j (by omega) q2
    · rw [c3 _ _ (by omega), ml_o _ _ (by omega)]
theorem hm_cpy : ∀ t k f (m : am_Mm), k + t = 20 → t < f → ∃ m', f_M_polygon_b158 f (nI k) m = some (m'.1 67 0, m') ∧ (∀ j, k ≤ j → j < 20 → m'.1 67 j = m.1 68 j) ∧ ∀ p j, ¬ (p = 67 ∧ k ≤ j ∧ j < 20) → m'.1 p j = m.1 p j := by
  intro t
  induction t with
  | zero =>
    intro k f m hk hf
    obtain ⟨f, rfl⟩ : ∃ z, f = z + 1 := ⟨f - 1, by omega⟩
    have hk : k = 20 := by omega
    subst hk
    refine ⟨m, ?_, fun j q1 q2 => by omega, fun _ _ _ => rfl⟩
    rw [f_M_polygon_b158, if_pos (show (20 : Int32) ≤ nI 20 by decide)]
  | succ t ih =>
    intro k f m hk hf
    obtain ⟨f, rfl⟩ : ∃ z, f = z + 1 := ⟨f - 1, by omega⟩
    obtain ⟨m', c1, c2, c3⟩ := ih (k + 1) f (am_pI m 67 k (m.1 68 k)) (by omega) (by omega)
    refine ⟨m', ?_, fun j q1 q2 => ?_, fun p j q => ?_⟩
    · rw [f_M_polygon_b158, if_neg (show ¬ (20 : Int32) ≤ nI k from nI_ge (b := 20) (by omega) (by decide)), if_pos (am_in_nI (by omega) (by omega)), if_pos (am_in_nI (by omega) (by omega)), ml_cl (by omega), nI_1, ← c1]
    · by_cases z : j = k
      · subst z
        rw [c3 _ _ (by omega), ml_s]
      · rw [c2 j (by omega) q2, ml_o _ _ (by omega)]
    · rw [c3 _ _ (by omega), ml_o _ _ (by omega)]
/-- the model's start -/
theorem hm_start {T : Nat → Nat} {l : Nat} {kd ow : Nat → Nat} {m : am_Mm} (hl : l ≤ 120) (hT : ∀ k, k < l → T k < 256) (hL : ML T l m) : ∃ m', f_M_polygon m = f_M_polygon_b37 am_F (nI 0) m' ∧ MI T l 0 0 0 kd ow m' ∧ MFr m m' := by
  obtain ⟨m0, em0⟩ : ∃ m0, m0 = am_pI (am_pI m 63 11 (0 : Int32)) 63 15 (0 : Int32) := ⟨_, rfl⟩
  have g0 : ∀ p k, ¬ (p = 63 ∧ k = 11) → ¬ (p = 63 ∧ k = 15) → m0.1 p k = m.1 p k := fun p k w1 w2 => by rw [em0, ml_o _ _ w2, ml_o _ _ w1]
  obtain ⟨m1, c1, c2, c3⟩ := hm_next (e := 0) (m := m0) hl hT ⟨by rw [g0 _ _ (by omega) (by omega)]; exact hL.1, fun k hk => by rw [g0 _ _ (by omega) (by omega)]; exact hL.2 k hk⟩ (Nat.zero_le _) (by rw [em0, ml_o _ _ (by omega), ml_s]; rfl)
  obtain ⟨m2, d1, d2, d3⟩ := hm_fill 20 0 am_F m1 (by omega) (by show _ < 5000; omega)
  have d1' : f_M_polygon_b16 am_F (0 : Int32) m1 = _ := d1
  refine ⟨m2, ?_, ⟨⟨?_, fun k hk => ?_⟩, ?_, ?_, d2 0 (by omega) (by omega), d2 (0 + 1) (by omega) (by omega), fun c hc => absurd hc (Nat.not_lt_zero c)⟩, fun p k w1 w2 => ?_⟩
  · unfold f_M_polygon
    rw [← em0, c1, Option.bind_some, d1']
  · rw [d3 _ _ (by omega), c3 _ _ (by omega), g0 _ _ (by omega) (by omega)]; exact hL.1
  · rw [d3 _ _ (by omega), c3 _ _ (by omega), g0 _ _ (by omega) (by omega)]; exact hL.2 k hk
  · have := c2
    unfold MT at this ⊢
    rw [d3 _ _ (by omega), d3 _ _ (by omega), d3 _ _ (by omega), d3 _ _ (by omega)]
    exact this
  · rw [d3 _ _ (by omega), c3 _ _ (by omega), em0, ml_s]; rfl
  · rw [d3 _ _ (by omega), c3 _ _ (by omega), g0 _ _ (by omega) (by omega)]
theorem pz_fin {m mC mm : am_Mm} {c p : Nat} (h : rl_All m) (hc1 : 1 ≤ c) (hc3 : c ≤ 3) (hC : f_C_polygon m = some ((-1000100 : Int32) - nI p, mC)) (e3 : mC.1 2 3 = nI 0) (e4 : mC.1 2 4 = nI c) (fr : ∀ p k, ¬ (p = 2 ∧ 3 ≤ k ∧ k ≤ 8) → ¬ (3 ≤ p ∧ p ≤ 10) → mC.1 p k = m.1 p k) (hM : f_M_polygon mC = f_M_polygon_b123 mm) (hF : MF c p mm) (fM' : MFr mC mm) : ∃ r m1 m2, f_C_polygon m = some (r, m1) ∧ f_M_polygon m1 = some (r, m2) ∧ rl_All m2 := by
  refine ⟨_, mC, am_pI (am_pI mm 63 10 (0 : Int32)) 63 17 (nI c), hC, ?_, ?_⟩
  · rw [hM]
    unfold f_M_polygon_b123
    rw [ml_o _ _ (show ¬ ((63 : Nat) = 63 ∧ (15 : Nat) = 10) by omega), if_neg (MF_nle hF hc1 hc3), hF.1, ml_o _ _ (show ¬ ((63 : Nat) = 63 ∧ (16 : Nat) = 17) by omega), ml_o _ _ (show ¬ ((63 : Nat) = 63 ∧ (16 : Nat) = 10) by omega), hF.2]
  · have g : ∀ p k, ¬ (p = 2 ∧ 3 ≤ k ∧ k ≤ 8) → ¬ (3 ≤ p ∧ p ≤ 10) → ¬ (p = 63 ∧ 10 ≤ k ∧ k ≤ 17) → p ≠ 68 → (am_pI (am_pI mm 63 10 (0 : Int32)) 63 17 (nI c)).1 p k = m.1 p k := fun p k w1 w2 w3 w4 => by
      rw [ml_o _ _ (by omega), ml_o _ _ (by omega), fM' p k (by omega) w4, fr p k w1 w2]
    refine ⟨rl_Stat_c (fun p k q => ?_) h.1, rl_Rows_c (fun p k q => ?_) h.2.1, ⟨?_, 0, by omega, ?_, ?_, fun k hk => absurd hk (Nat.not_lt_zero k)⟩, rl_Ask_c (fun p k q => ?_) h.2.2.2.1, rl_Poly_c (fun p k q => ?_) h.2.2.2.2.1, rl_Img_c (fun p k q => ?_) h.2.2.2.2.2⟩
    · unfold rl_StatF at q; exact g p k (by omega) (by omega) (by omega) (by omega)
    · unfold rl_RowsF at q; exact g p k (by omega) (by omega) (by omega) (by omega)
    · rw [ml_s, ml_o _ _ (by omega), ml_o _ _ (by omega), fM' _ _ (by omega) (by omega), e4]
    · rw [ml_o _ _ (by omega), ml_o _ _ (by omega), fM' _ _ (by omega) (by omega), e3]
    · rw [ml_o _ _ (by omega), ml_s]; rfl
    · unfold rl_AskF at q; exact g p k (by omega) (by omega) (by omega) (by omega)
    · unfold rl_PolyF at q; exact g p k (by omega) (by omega) (by omega) (by omega)
    · unfold rl_ImgF at q; exact g p k (by omega) (by omega) (by omega) (by omega)
theorem pz_polygon : am_Pz rl_All f_C_polygon f_M_polygon := by
  intro m h
  obtain ⟨e0, l, hl, e3, e10, eL⟩ := h.2.2.1
  obtain ⟨T, hT, h12⟩ : ∃ T : Nat → Nat, (∀ k, k < l → T k < 256) ∧ ∀ k, k < l → m.1 12 k = nI (T k) := by
    refine ⟨fun k => (m.1 12 k).toNatClampNeg, fun k hk => ?_, fun k hk => ?_⟩
    · obtain ⟨_, z, hz, e⟩ := eL k hk
      show (m.1 12 k).toNatClampNeg < 256
      rw [e, ml_cl (by omega)]; exact hz
    · obtain ⟨_, z, hz, e⟩ := eL k hk
      show m.1 12 k = nI ((m.1 12 k).toNatClampNeg)
      rw [e, ml_cl (by omega)]
  have h71 : ∀ k, k < l → m.1 71 k = nI (T k) := fun k hk => by rw [← (eL k hk).1]; exact h12 k hk
  -- the class's start
  obtain ⟨m0, em0⟩ : ∃ m0, m0 = am_pI (am_pI (am_pI m 3 2 (0 : Int32)) 3 3 (0 : Int32)) 2 6 (0 : Int32) := ⟨_, rfl⟩
  have g0 : ∀ p k, ¬ (p = 3) → ¬ (p = 2 ∧ k = 6) → m0.1 p k = m.1 p k := fun p k w1 w2 => by rw [em0, ml_o _ _ w2, ml_o _ _ (by omega), ml_o _ _ (by omega)]
  have L0 : CL T l m0 := ⟨by rw [g0 _ _ (by omega) (by omega)]; exact e3, fun k hk => by rw [g0 _ _ (by omega) (by omega)]; exact h12 k hk⟩
  obtain ⟨m1, a1, a2, a3⟩ := hc_next (e := 0) hl hT L0 (Nat.zero_le _) (by rw [em0, ml_s]; rfl)
  have I1 : CI T l 0 0 0 (fun _ => 0) (fun _ => 0) m1 := by
    refine ⟨⟨by rw [a3 _ _ (by omega)]; exact L0.1, fun k hk => by rw [a3 _ _ (by omega)]; exact L0.2 k hk⟩, a2, ?_, ?_, fun c hc => absurd hc (Nat.not_lt_zero c)⟩
    · rw [a3 _ _ (by omega), em0, ml_o _ _ (by omega), ml_o _ _ (by omega), ml_s]; rfl
    · rw [a3 _ _ (by omega), em0, ml_o _ _ (by omega), ml_s]; rfl
  have fr1 : CFr m m1 := fun p k w1 w2 => by rw [a3 p k (by omega), g0 p k (by omega) (by omega)]
  have l1 : m1.1 2 4 = m.1 2 4 := by rw [a3 _ _ (by omega), g0 _ _ (by omega) (by omega)]
  have R0 : f_Tape_read m = (f_Tape_readCorners m1).bind fun q6 => if q6.1 = (0 : Int32) then f_Tape_read_b44 (0 : Int32) q6.2 else (f_Tape_readCuts q6.2).bind fun q11 => if q11.1 = (0 : Int32) then f_Tape_read_b44 (0 : Int32) q11.2 else f_Tape_read_b44 (1 : Int32) q11.2 := by
    unfold f_Tape_read
    rw [← em0, a1, Option.bind_some]
  have b44 : ∀ mm, f_Tape_read_b44 (0 : Int32) mm = some ((0 : Int32), am_pI mm 2 3 (0 : Int32)) := fun mm => rfl
  have b45 : ∀ mm, f_Tape_read_b44 (1 : Int32) mm = some ((1 : Int32), am_pI mm 2 3 (0 : Int32)) := fun mm => rfl
  have CF : ∀ (mm : am_Mm) (c p : Nat), f_Tape_read m = some ((0 : Int32), am_pI mm 2 3 (0 : Int32)) → mm.1 2 5 = nI p → f_C_polygon m = some ((-1000100 : Int32) - nI p, am_pI mm 2 3 (0 : Int32)) := by
    intro mm c p q1 q2
    unfold f_C_polygon
    rw [q1, Option.bind_some, if_pos rfl]
    dsimp only
    rw [ml_o _ _ (by omega), q2]
  -- a fault on both sides
  have FIN : ∀ (mm : am_Mm) (c p : Nat), 1 ≤ c → c ≤ 3 → f_Tape_read m = some ((0 : Int32), am_pI mm 2 3 (0 : Int32)) → mm.1 2 4 = nI c → mm.1 2 5 = nI p → CFr m mm → (∀ mx : am_Mm, ML T l mx → ∃ my, f_M_polygon mx = f_M_polygon_b123 my ∧ MF c p my ∧ MFr mx my) → ∃ r m1 m2, f_C_polygon m = some (r, m1) ∧ f_M_polygon m1 = some (r, m2) ∧ rl_All m2 := by
    intro mm c p hc1 hc3 q1 q2 q3 q4 q5
    have fr : ∀ p k, ¬ (p = 2 ∧ 3 ≤ k ∧ k ≤ 8) → ¬ (3 ≤ p ∧ p ≤ 10) → (am_pI mm 2 3 (0 : Int32)).1 p k = m.1 p k := fun p k w1 w2 => by rw [ml_o _ _ (by omega), q4 p k (by omega) w2]
    obtain ⟨my, r1, r2, r3⟩ := q5 (am_pI mm 2 3 (0 : Int32)) ⟨by rw [fr _ _ (by omega) (by omega)]; exact e10, fun k hk => by rw [fr _ _ (by omega) (by omega)]; exact h71 k hk⟩
    exact pz_fin h hc1 hc3 (CF mm c p q1 q3) (ml_s _ _ _ _) (by rw [ml_o _ _ (by omega)]; exact q2) fr r1 r2 r3
  have F1 : (10 : Nat) < am_F := by show 10 < 5000; omega
  have F2 : (9 + 1 : Nat) < am_F := by show 10 < 5000; omega
  have F7 : (7 : Nat) < am_F := by show 7 < 5000; omega
  have rc : ∀ mm, f_Tape_readCorners mm = f_Tape_readCorners_b2 am_F (nI 0) mm := fun mm => rfl
  have b90 : ∀ mm, f_M_polygon_b90 mm = f_M_polygon_b92 am_F (nI 0) mm := fun mm => rfl
  have F92 : ∀ mm : am_Mm, ¬ mm.1 63 15 = (0 : Int32) → f_M_polygon_b92 am_F (nI 0) mm = f_M_polygon_b123 mm := fun mm q => hm_92F (f := 4999) q
  rcases cnr hl hT 9 0 0 (fun _ => 0) (fun _ => 0) (by omega) (Nat.zero_le _) (fun c hc => absurd hc (Nat.not_lt_zero c)) with ⟨c, p, r1, r2, r3, r4⟩ | ⟨n, b, kd, ow, r1, r2, r3, r4, r5, r6⟩
  · obtain ⟨m2, s1, s2, s3, s4⟩ := r3 m1 am_F (by omega) I1
    refine FIN m2 c p r1 r2 (by rw [R0, rc, s1, Option.bind_some, if_pos e00, b44]) s2 s3 (CFr_t fr1 s4) (fun mx hx => ?_)
    obtain ⟨my, t1, t2, t3⟩ := hm_start hl hT hx
    obtain ⟨mz, u1, u2, u3⟩ := r4 my am_F F2 t2
    exact ⟨mz, by rw [t1, u1, b90, F92 _ (MF_ne u2 r1 r2)], u2, MFr_t t3 u3⟩
  · obtain ⟨m2, s1, s0, s2, s3⟩ := r5 m1 am_F (by omega) I1
    obtain ⟨m3, v1, v2, v3⟩ := hc_lay (m := m2) (p := 6) r1 r2
    have I3 : CI T l b n 0 kd ow m3 := by
      obtain ⟨w1, w2, w3⟩ := s2
      refine ⟨⟨by rw [v3 _ _ (by omega)]; exact w1.1, fun k hk => by rw [v3 _ _ (by omega)]; exact w1.2 k hk⟩, ?_, ?_, ?_, fun c hc => ?_⟩
      · unfold CT at w2 ⊢
        rw [v3 _ _ (by omega), v3 _ _ (by omega), v3 _ _ (by omega), v3 _ _ (by omega)]
        exact w2
      · rw [v3 _ _ (by omega)]; exact w3.1
      · rw [v3 _ _ (by omega)]; exact w3.2.1
      · rw [v3 _ _ (by omega), v3 _ _ (by omega)]; exact w3.2.2 c hc
    have fr3 : CFr m m3 := fun p k w1 w2 => by rw [v3 p k (by omega), CFr_t fr1 s3 p k w1 w2]
    have l3 : m3.1 2 4 = m.1 2 4 := by rw [v3 _ _ (by omega), s0, l1]
    have R1 : f_Tape_read m = (f_Tape_readCuts_b16 am_F (nI 0) m3).bind fun q11 => if q11.1 = (0 : Int32) then f_Tape_read_b44 (0 : Int32) q11.2 else f_Tape_read_b44 (1 : Int32) q11.2 := by
      rw [R0, rc, s1, Option.bind_some, if_neg ne01]
      unfold f_Tape_readCuts
      dsimp only
      rw [s2.2.2.1, v1, Option.bind_some]; rfl
    rcases r6 with ⟨w, r6⟩ | ⟨w, r6⟩
    · rcases cts (kd := kd) (ow := ow) hl hT r1 r2 7 0 b 0 (by omega) r3 (cu_V0 n) (by decide) with ⟨c, p, y1, y2, y3, y4⟩ | ⟨cu, y1, y2, y3⟩
      · obtain ⟨m4, x1, x2, x3, x4⟩ := y3 m3 am_F F7 I3 v2
        refine FIN m4 c p y1 y2 (by rw [R1, x1, Option.bind_some, if_pos e00, b44]) x2 x3 (CFr_t fr3 x4) (fun mx hx => ?_)
        obtain ⟨my, t1, t2, t3⟩ := hm_start hl hT hx
        obtain ⟨mz, u1, u2, u3⟩ := r6 my am_F F2 t2
        obtain ⟨mw, z1, z2, z3⟩ := y4 mz am_F F7 u2
        exact ⟨mw, by rw [t1, u1, b90, z1], z2, MFr_t t3 (MFr_t u3 z3)⟩
      · obtain ⟨m4, b4, x1, x0, x2, x3⟩ := y2 m3 am_F F7 I3 v2
        have fr4 := CFr_t fr3 x3
        have ok : rl_OK n cu kd ow := ⟨r1, r2, y1, r4⟩
        have FG : rl_Fig (am_pI m4 2 3 (0 : Int32)).1 3 n cu kd ow := by
          obtain ⟨_, _, w1, w2, w3⟩ := x2
          exact ⟨by rw [ml_o _ _ (by omega)]; exact w1, by rw [ml_o _ _ (by omega)]; exact w2, fun c hc => by rw [ml_o _ _ (by omega), ml_o _ _ (by omega)]; exact w3 c hc⟩
        obtain ⟨m5, p1, p2, p3, p4, p5⟩ := hc_put (p := 3) (Or.inl (by omega)) ok FG
        have g5 : ∀ p k, ¬ (p = 2 ∧ 3 ≤ k ∧ k ≤ 8) → ¬ (3 ≤ p ∧ p ≤ 10) → ¬ (13 ≤ p ∧ p ≤ 15) → ¬ (20 ≤ p ∧ p ≤ 24) → ¬ (p = 26 ∧ k = 3) → m5.1 p k = m.1 p k := fun p k w1 w2 w3 w4 w5 => by rw [p5 p k w3 w4 w5, ml_o _ _ (by omega), fr4 p k (by omega) w2]
        obtain ⟨my, t1, t2, t3⟩ := hm_start (kd := fun _ => 0) (ow := fun _ => 0) (m := m5) hl hT ⟨by rw [g5 _ _ (by omega) (by omega) (by omega) (by omega) (by omega)]; exact e10, fun k hk => by rw [g5 _ _ (by omega) (by omega) (by omega) (by omega) (by omega)]; exact h71 k hk⟩
        obtain ⟨mz, u1, u2, u3⟩ := r6 my am_F F2 t2
        obtain ⟨mw, bw, z1, z2, z3⟩ := y3 mz am_F F7 u2
        have frw : MFr m5 mw := MFr_t t3 (MFr_t u3 z3)
        obtain ⟨m6, c1, c2, c3⟩ := hm_cpy 20 0 am_F (am_pI (am_pI mw 63 10 (0 : Int32)) 63 8 (0 : Int32)) (by omega) (by show _ < 5000; omega)
        have c1' : f_M_polygon_b158 am_F (0 : Int32) (am_pI (am_pI mw 63 10 (0 : Int32)) 63 8 (0 : Int32)) = _ := c1
        have P6 : ∀ j, j < 20 → m6.1 67 j = mw.1 68 j := fun j hj => by rw [c2 j (Nat.zero_le _) hj, ml_o _ _ (by omega), ml_o _ _ (by omega)]
        have g6 : ∀ p k, ¬ (p = 63 ∧ 10 ≤ k ∧ k ≤ 16) → ¬ (p = 63 ∧ k = 8) → p ≠ 68 → ¬ (p = 67 ∧ k < 20) → m6.1 p k = m5.1 p k := fun p k w1 w2 w3 w4 => by rw [c3 p k (by omega), ml_o _ _ (by omega), ml_o _ _ (by omega), frw p k (by omega) w3]
        have n6 : m6.1 67 0 = nI n := by rw [P6 0 (by omega)]; exact z2.2.2.2.1
        have g : ∀ p k, ¬ (p = 2 ∧ 3 ≤ k ∧ k ≤ 8) → ¬ (3 ≤ p ∧ p ≤ 10) → ¬ (13 ≤ p ∧ p ≤ 15) → ¬ (20 ≤ p ∧ p ≤ 24) → ¬ (p = 26 ∧ k = 3) → ¬ (p = 63 ∧ 10 ≤ k ∧ k ≤ 16) → ¬ (p = 63 ∧ k = 8) → p ≠ 68 → ¬ (p = 67 ∧ k < 20) → m6.1 p k = m.1 p k := fun p k w1 w2 w3 w4 w5 w6 w7 w8 w9 => by rw [g6 p k w6 w7 w8 w9, g5 p k w1 w2 w3 w4 w5]
        refine ⟨nI n, m5, m6, ?_, ?_, ?_⟩
        · unfold f_C_polygon
          rw [R1, x1, Option.bind_some, if_neg ne01, b45, Option.bind_some, if_neg ml_n10, p1, Option.bind_some, p2.1]
        · rw [t1, u1, b90, z1]
          unfold f_M_polygon_b123
          rw [ml_o _ _ (show ¬ ((63 : Nat) = 63 ∧ (15 : Nat) = 10) by omega), z2.2.2.1, if_pos (show nI 0 ≤ (0 : Int32) by decide), c1', n6]
        · refine ⟨rl_Stat_c (fun p k q => ?_) h.1, rl_Rows_c (fun p k q => ?_) h.2.1, ⟨?_, 0, by omega, ?_, ?_, fun k hk => absurd hk (Nat.not_lt_zero k)⟩, rl_Ask_c (fun p k q => ?_) h.2.2.2.1, Or.inr ⟨n, 0, fun _ => cu, fun _ => kd, fun _ => ow, by omega, ?_, ?_, ?_, ?_, ?_, fun _ _ => ok, fun i hi => absurd hi (Nat.not_lt_zero i)⟩, rl_Img_c (fun p k q => ?_) h.2.2.2.2.2⟩
          · unfold rl_StatF at q; exact g p k (by omega) (by omega) (by omega) (by omega) (by omega) (by omega) (by omega) (by omega) (by omega)
          · unfold rl_RowsF at q; exact g p k (by omega) (by omega) (by omega) (by omega) (by omega) (by omega) (by omega) (by omega) (by omega)
          · rw [g6 2 4 (by omega) (by omega) (by omega) (by omega), p5 2 4 (by omega) (by omega) (by omega), ml_o _ _ (by omega), x0, l3, e0, g 63 17 (by omega) (by omega) (by omega) (by omega) (by omega) (by omega) (by omega) (by omega) (by omega)]
          · rw [g6 2 3 (by omega) (by omega) (by omega) (by omega), p5 2 3 (by omega) (by omega) (by omega), ml_s]; rfl
          · rw [c3 _ _ (by omega), ml_o _ _ (by omega), ml_s]; rfl
          · unfold rl_AskF at q; exact g p k (by omega) (by omega) (by omega) (by omega) (by omega) (by omega) (by omega) (by omega) (by omega)
          · rw [g6 _ _ (by omega) (by omega) (by omega) (by omega)]; exact p4
          · rw [c3 _ _ (by omega), ml_s]; rfl
          · have g7 : ∀ q k, (20 ≤ q ∧ q ≤ 24) → m6.1 q k = m5.1 q k := fun q k z => g6 _ _ (by omega) (by omega) (by omega) (by omega)
            have p3' := p3
            unfold rl_Ring at p3' ⊢
            simp (disch := omega) only [Nat.reduceAdd, g7]
            exact p3'
          · exact rl_Fig_c r2 (g6 _ _ (by omega) (by omega) (by omega) (by omega)) (g6 _ _ (by omega) (by omega) (by omega) (by omega)) (fun c _ => ⟨g6 _ _ (by omega) (by omega) (by omega) (by omega), g6 _ _ (by omega) (by omega) (by omega) (by omega)⟩) p2
          · exact rl_Pol_c r2 (fun k hk => by rw [Nat.zero_add, P6 k hk]) z2.2.2.2
          · unfold rl_ImgF at q; exact g p k (by omega) (by omega) (by omega) (by omega) (by omega) (by omega) (by omega) (by omega) (by omega)
    · obtain ⟨gg, hg⟩ := exg (may n (tv T l (te T l b)) (tv T l (te T l (te T l (te T l b)))) = true ∧ fr n 0 (nb n (tv T l (te T l b)) (tv T l (te T l (te T l (te T l b))))))
      have hk : ko T l n gg b (te T l b) (te T l (te T l b)) (te T l (te T l (te T l b))) (te T l (te T l (te T l (te T l b)))) = (1, b) := by unfold ko; rw [if_neg w.2]
      rcases hc_cut1 (f := 4999) (j := 0) hl hT r3 r1 r2 (by omega) (cu_V0 n) v2 w.1 rfl rfl rfl rfl hg hk I3 with ⟨z, _⟩ | ⟨_, m4, x1, x2, x3, x4⟩
      · omega
      · have x1' : f_Tape_readCuts_b16 am_F (nI 0) m3 = some (nI 0, m4) := x1
        refine FIN m4 1 b (by omega) (by omega) (by rw [R1, x1', Option.bind_some, if_pos e00, b44]) x2 x3 (CFr_t fr3 x4) (fun mx hx => ?_)
        obtain ⟨my, t1, t2, t3⟩ := hm_start hl hT hx
        obtain ⟨mz, u1, u2, u3⟩ := r6 my am_F F2 t2
        exact ⟨mz, by rw [t1, u1, b90, F92 _ (MF_ne u2 (by omega) (by omega))], u2, MFr_t t3 u3⟩
