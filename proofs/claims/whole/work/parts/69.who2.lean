/-! ===== who ===== -/
theorem sm_16 {m m' : am_Mm} (h : ∀ p k, ¬ (16 ≤ p ∧ p ≤ 18) → m'.1 p k = m.1 p k) : sm m m' := fun p k q => h p k (fun z => by
  rcases q with q | q | q | q | q | q
  · unfold rl_StatF at q; omega
  · unfold rl_RowsF at q; omega
  · unfold rl_TapeF at q; omega
  · unfold rl_AskF at q; omega
  · unfold rl_PolyF at q; omega
  · unfold rl_ImgF at q; omega)
theorem pz_who : ∀ a0 a1 a2 a3 a4 : Int32, am_Pz rl_All (f_C_who a0 a1 a2 a3 a4) (f_M_who a0 a1 a2 a3 a4) := by
  intro x1 x2 x3 x4 x5 m h
  unfold f_C_who
  rcases vw_of h with hn | ⟨n, cu, kd, ow, V⟩
  · rcases isC (Nat.zero_le 9) x1 with q | ⟨c, hc, _⟩
    · rw [q.1 m hn.1]
      refine ⟨_, m, m, rfl, ?_, h⟩
      unfold f_M_who
      rw [q.2 m hn.2.2.1]; rfl
    · omega
  have V0 := V
  obtain ⟨ok, hR, hF, hP⟩ := V
  have h4 := ok.1
  have h9 := ok.2.1
  have h27 := cu_N27 h4 h9
  have hN2 := (cu_f1 n (by omega) h4).2.2.1
  rcases isC h9 x1 with q | ⟨c, hc, rfl, q1, q2⟩
  · rw [q.1 m hF.1]
    refine ⟨_, m, m, rfl, ?_, h⟩
    unfold f_M_who
    rw [q.2 m hP.1]; rfl
  rw [q1 m hF.1, Option.bind_some, if_neg ne01]
  by_cases g2 : (0 : Int32) ≤ x2 ∧ x2 ≤ 2
  rotate_left
  · refine ⟨-1000001, m, m, ?_, ?_, h⟩
    · by_cases z : x2 < 0
      · rw [if_pos z]
      · rw [if_neg z, if_pos (ml_lt_of_nle (fun w => g2 ⟨ml_le_of_nlt z, w⟩))]
    · unfold f_M_who
      rw [q2 m hP.1, Option.bind_some, if_neg ne01, ml_in0 0 2 0 2 rfl rfl g2]; rfl
  rw [if_neg (ml_nlt_of_le g2.1), if_neg (ml_nlt_of_le g2.2)]
  obtain ⟨w, hw, rfl⟩ : ∃ k : Nat, k ≤ 2 ∧ x2 = nI k := by
    have z1 := g2.1
    have z2 := g2.2
    rw [Int32.le_iff_toInt_le] at z1 z2
    have o1 : (0 : Int32).toInt = 0 := rfl
    have o5 : (2 : Int32).toInt = 2 := rfl
    exact ⟨x2.toInt.toNat, by omega, ml_of_toInt (by omega) (by omega)⟩
  have M1 : ∀ mm : am_Mm, mm.1 67 0 = nI n → f_M_who (nI c) (nI w) x3 x4 x5 mm = (f_M_isRow x3 mm).bind fun q11 => if q11.1 = (0 : Int32) then some ((-1000001 : Int32), q11.2) else (f_M_in (x5.toInt64) (1 : Int64) ((q11.2.1 67 0).toInt64) q11.2).bind fun q16 => if q16.1 = (0 : Int32) then some ((-1000001 : Int32), q16.2) else (f_M_lacks x3 x4 x5 q16.2).bind fun q20 => if q20.1 = (0 : Int32) then (f_M_fitting (nI c) (nI w) (((40 : Int32) * x3) + x4) x5 q20.2).bind fun q24 => some (q24.1, q24.2) else some (q20.1, q20.2) := by
    intro mm z
    unfold f_M_who
    rw [q2 mm z, Option.bind_some, if_neg ne01, ml_in1 0 2 0 2 rfl rfl g2, Option.bind_some, if_neg ml_n10]
  have hbad : (x3 < 0 ∨ nI 8 ≤ x3) → ∃ r m1 m2, ((f_C_isRow x3 m).bind fun q9 => if q9.1 = (0 : Int32) then some ((-1000001 : Int32), q9.2) else if x5 < (1 : Int32) then some ((-1000001 : Int32), q9.2) else if x5 ≤ (q9.2.1 13 2) then (f_C_troubleOf x3 x4 x5 q9.2).bind fun q15 => if q15.1 = (0 : Int32) then if nI w = (0 : Int32) then if am_in x3 8 = true then (f_C_kindsBy (nI c) (am_rw x3) x4 x5 q15.2).bind fun q21 => (f_C_fine q21.1 q21.2).bind fun q24 => some (q24.1, q24.2) else none else if nI w = (1 : Int32) then if am_in x3 8 = true then (f_C_ownBy (nI c) (am_rw x3) x4 x5 q15.2).bind fun q29 => (f_C_fine q29.1 q29.2).bind fun q32 => some (q32.1, q32.2) else none else if am_in x3 8 = true then (f_C_cutsBy (am_rw x3) x4 x5 q15.2).bind fun q36 => (f_C_fine q36.1 q36.2).bind fun q39 => some (q39.1, q39.2) else none else (f_C_found q15.1 q15.2).bind fun q42 => some (q42.1, q42.2) else some ((-1000001 : Int32), q9.2)) = some (r, m1) ∧ f_M_who (nI c) (nI w) x3 x4 x5 m1 = some (r, m2) ∧ rl_All m2 := by
    intro hx
    refine ⟨-1000001, m, m, ?_, ?_, h⟩
    · rw [ml_CR0 hx]; rfl
    · rw [M1 m hP.1, ml_MR0 hx]; rfl
  rcases ml_ix x3 (n := 8) (by decide) with hx | hx | ⟨r, hr, rfl⟩
  · exact hbad (Or.inl hx)
  · exact hbad (Or.inr hx)
  rw [ml_CR1 hr, Option.bind_some, if_neg ml_n10]
  dsimp only
  by_cases g5 : (1 : Int32) ≤ x5 ∧ x5 ≤ nI n
  rotate_left
  · refine ⟨-1000001, m, m, ?_, ?_, h⟩
    · by_cases z : x5 < 1
      · rw [if_pos z]
      · rw [if_neg z, hF.1, if_neg (fun w => g5 ⟨ml_le_of_nlt z, w⟩)]
    · rw [M1 m hP.1, ml_MR1 hr, Option.bind_some, if_neg ml_n10]
      dsimp only
      rw [hP.1, ml_in0 1 (nI n) 1 _ rfl rfl g5]; rfl
  rw [if_neg (ml_nlt_of_le g5.1), hF.1, if_pos g5.2]
  obtain ⟨K, hK1, hK, rfl⟩ : ∃ k : Nat, 1 ≤ k ∧ k ≤ n ∧ x5 = nI k := by
    have z1 := g5.1
    have z2 := g5.2
    rw [Int32.le_iff_toInt_le] at z1 z2
    rw [nI_toInt (by omega)] at z2
    have o1 : (1 : Int32).toInt = 1 := rfl
    exact ⟨x5.toInt.toNat, by omega, by omega, ml_of_toInt (by omega) (by omega)⟩
  have M2 : ∀ mm : am_Mm, mm.1 67 0 = nI n → f_M_who (nI c) (nI w) (nI r) x4 (nI K) mm = (f_M_lacks (nI r) x4 (nI K) mm).bind fun q20 => if q20.1 = (0 : Int32) then (f_M_fitting (nI c) (nI w) (((40 : Int32) * nI r) + x4) (nI K) q20.2).bind fun q24 => some (q24.1, q24.2) else some (q20.1, q20.2) := by
    intro mm z
    rw [M1 mm z, ml_MR1 hr, Option.bind_some, if_neg ml_n10]
    dsimp only
    rw [z, ml_in1 1 (nI n) 1 _ rfl rfl g5, Option.bind_some, if_neg ml_n10]
  rcases tr_of h hr (show K ≤ 40 by omega) x4 with ⟨z, hz, t1, t2⟩ | ⟨i, hi, rfl, t1, t2⟩
  · refine ⟨-1000010 - z, am_pI m 0 12 z, am_pI (am_pI (am_pI m 0 12 z) 63 0 0) 63 0 z, ?_, ?_, ?_⟩
    · rw [t1, Option.bind_some, if_neg (pz_ne z hz).1]; rfl
    · rw [M2 _ (by rw [ml_o _ _ (by omega)]; exact hP.1), t2, Option.bind_some, if_neg (pz_ne z hz).2]
    · rw [ml_pp]; exact rl_All_stat h z
  rw [t1, Option.bind_some, if_pos e00]
  have ir := am_in_nI hr (show 8 < 2 ^ 31 by decide)
  -- what is common
  have FIN : ∀ (m1 : am_Mm) (H q lo : Nat), (∀ p k, ¬ (16 ≤ p ∧ p ≤ 18) → m1.1 p k = m.1 p k) → q < 3 → w = q → H ≤ 27 → (q = 0 → H = 6) → (q = 1 → H = 10) → (q = 2 → H = cu_N n) → 1 ≤ H → (lo ≤ H) → (q = 0 → 1 ≤ lo) → bts (wq n K cu kd ow (fun d => m.1 (42 + 2 * r) (i + d)) c q) lo = 0 → (∀ mm : am_Mm, mm.1 67 0 = nI n → f_M_fitting (nI c) (nI w) (nI (40 * r + i)) (nI K) mm = f_M_fitting_b45 am_F (nI c) (nI q) (nI (40 * r + i)) (nI K) (nI 0) (nI (H - 1)) (nI lo) mm) → ∃ m2, f_M_who (nI c) (nI w) (nI r) (nI i) (nI K) (am_pI m1 0 12 0) = some (nI (bts (wq n K cu kd ow (fun d => m.1 (42 + 2 * r) (i + d)) c q) H), m2) ∧ rl_All m2 := by
    intro m1 H q lo fr1 hq hwq hH a0 a1 a2 h1 hlo hl0 hb hfit
    have hA := sm_All (sm_16 fr1) h
    have g : ∀ p k, ¬ (16 ≤ p ∧ p ≤ 18) → p ≠ 0 → (am_pI m1 0 12 0).1 p k = m.1 p k := fun p k z1 z2 => by rw [ml_o _ _ (by omega), fr1 p k z1]
    have g2 : ∀ p k, ¬ (16 ≤ p ∧ p ≤ 18) → p ≠ 0 → p ≠ 63 → (am_pI (am_pI m1 0 12 0) 63 0 0).1 p k = m.1 p k := fun p k z1 z2 z3 => by rw [ml_o _ _ (by omega), g p k z1 z2]
    obtain ⟨m2, f1, f2⟩ := hm_fit (m := am_pI (am_pI m1 0 12 0) 63 0 0) (w := fun d => m.1 (42 + 2 * r) (i + d)) (hi := H) (o := 40 * r + i) ok (rl_Pol_c h9 (fun k _ => g2 _ _ (by omega) (by omega) (by omega)) hP) hK (by omega) hc hq hH a0 a1 a2 (fun d hd => by rw [g2 _ _ (by omega) (by omega) (by omega)]; exact rB_w h hr hi d hd) (H - lo) lo am_F (am_pI (am_pI m1 0 12 0) 63 0 0) (by omega) hl0 h1 (by show _ < 5000; omega) (fun p k _ => rfl)
    refine ⟨m2, ?_, sm_All (sm_69 f2) (rl_All_stat hA 0)⟩
    rw [M2 _ (by rw [g _ _ (by omega) (by omega)]; exact hP.1), t2 _ (g _ _ (by omega) (by omega)) (g _ _ (by omega) (by omega)), Option.bind_some, if_pos e00, ml_40]
    dsimp only
    rw [hb] at f1
    rw [hfit _ (by rw [g2 _ _ (by omega) (by omega) (by omega)]; exact hP.1), f1]; rfl
  rcases (show w = 0 ∨ w = 1 ∨ w = 2 by omega) with rfl | rfl | rfl
  · obtain ⟨m1, k1, k2⟩ := hc_kb (w := fun d => m.1 (42 + 2 * r) (i + d)) V0 hr hK hi hc (fun d _ => rfl)
    obtain ⟨m2, f1, f2⟩ := FIN m1 6 0 1 k2 (by omega) rfl (by omega) (fun _ => rfl) (fun z => by omega) (fun z => by omega) (by omega) (by omega) (fun _ => by omega) (by
      show (if wq n K cu kd ow (fun d => m.1 (42 + 2 * r) (i + d)) c 0 0 = true then 0 ||| 2 ^ 0 else 0) = 0
      rw [if_neg]
      unfold wq
      rw [if_pos rfl]
      simp) (fun mm z => rfl)
    refine ⟨_, am_pI m1 0 12 0, m2, ?_, f1, f2⟩
    rw [if_pos e00, if_pos ir, ml_rw hr, k1]; rfl
  · obtain ⟨m1, k1, k2⟩ := hc_ob (w := fun d => m.1 (42 + 2 * r) (i + d)) V0 hr hK hi hc (fun d _ => rfl)
    obtain ⟨m2, f1, f2⟩ := FIN m1 10 1 0 k2 (by omega) rfl (by omega) (fun z => by omega) (fun _ => rfl) (fun z => by omega) (by omega) (by omega) (fun z => by omega) rfl (fun mm z => rfl)
    refine ⟨_, am_pI m1 0 12 0, m2, ?_, f1, f2⟩
    rw [if_neg ne01, if_pos e11, if_pos ir, ml_rw hr, k1]; rfl
  · obtain ⟨m1, k1, k2⟩ := hc_cb (w := fun d => m.1 (42 + 2 * r) (i + d)) (c := c) V0 hr hK hi (fun d _ => rfl)
    obtain ⟨m2, f1, f2⟩ := FIN m1 (cu_N n) 2 0 k2 (by omega) rfl (by omega) (fun z => by omega) (fun z => by omega) (fun _ => rfl) (by omega) (by omega) (fun z => by omega) rfl (fun mm z => by
      unfold f_M_fitting f_M_fitting_b32 f_M_fitting_b43
      rw [if_neg (show ¬ nI 2 = (0 : Int32) by decide), if_neg (show ¬ nI 2 = (1 : Int32) by decide), z, hm_many h4 h9, Option.bind_some, if_neg (show ¬ nI 2 = (0 : Int32) by decide)]
      dsimp only
      rw [nq1, pk_sub (by omega)]
      rfl)
    refine ⟨_, am_pI m1 0 12 0, m2, ?_, f1, f2⟩
    rw [if_neg (show ¬ nI 2 = (0 : Int32) by decide), if_neg (show ¬ nI 2 = (1 : Int32) by decide), if_pos ir, ml_rw hr, k1]; rfl
