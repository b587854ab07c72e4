/-! ===== back, lay ===== -/
theorem tr_of {m : am_Mm} {r k : Nat} (h : rl_All m) (hr : r < 8) (hk : k ≤ 40) (y : Int32) :
    (∃ z : Int32, (z = 1 ∨ z = 2) ∧ f_C_troubleOf (nI r) y (nI k) m = some (z, m) ∧ f_M_lacks (nI r) y (nI k) (am_pI m 0 12 z) = some (-1000010 - z, am_pI (am_pI (am_pI m 0 12 z) 63 0 0) 63 0 z)) ∨
    (∃ i : Nat, i + k ≤ 40 ∧ y = nI i ∧ f_C_troubleOf (nI r) (nI i) (nI k) m = some (nI 0, m) ∧ ∀ mm : am_Mm, mm.1 64 r = m.1 64 r → mm.1 65 r = m.1 65 r → f_M_lacks (nI r) (nI i) (nI k) mm = some (nI 0, am_pI mm 63 0 0)) := by
  obtain ⟨-, ⟨l, hl, el1, el2⟩, hit⟩ := h.2.1 r hr
  have ir := am_in_nI hr (show 8 < 2 ^ 31 by decide)
  have C : f_C_troubleOf (nI r) y (nI k) m = if m.1 (41 + 2 * r) 1 = (0 : Int32) then some ((1 : Int32), m) else if 0 ≤ y.toInt ∧ 0 ≤ (nI k).toInt ∧ y.toInt + (nI k).toInt ≤ (l : Int) then some ((0 : Int32), m) else some ((2 : Int32), m) := by
    unfold f_C_troubleOf
    rw [if_pos ir, if_pos ir, ml_rw hr, ml_holds el1 hl, Option.bind_some]
    by_cases q : 0 ≤ y.toInt ∧ 0 ≤ (nI k).toInt ∧ y.toInt + (nI k).toInt ≤ (l : Int)
    · rw [if_pos q, if_neg ml_n10, if_pos q]
    · rw [if_neg q, if_pos rfl, if_neg q]
  have M : ∀ mm : am_Mm, mm.1 64 r = m.1 64 r → mm.1 65 r = m.1 65 r → f_M_lacks (nI r) y (nI k) mm = if (0 : Int32) ≤ m.1 64 r then (if y < (0 : Int32) then f_M_lacks_b40 (am_pI mm 63 0 (0 : Int32)) else if y.toInt + (nI k).toInt ≤ (nI l).toInt then some ((0 : Int32), (am_pI mm 63 0 (0 : Int32))) else f_M_lacks_b40 (am_pI mm 63 0 (0 : Int32))) else some (-1000010 - 1, am_pI (am_pI mm 63 0 0) 63 0 1) := by
    intro mm e1 e2
    unfold f_M_lacks
    rw [if_pos ir, if_pos ir, ml_cl (by omega), ml_o _ _ (by omega), ml_o _ _ (by omega), e1, e2, el2]
    simp only [ml_lle]
    rfl
  rw [nI_toInt (show k < 2 ^ 31 by omega)] at C M
  rw [nI_toInt (show l < 2 ^ 31 by omega)] at M
  rcases ml_made hr h.2.1 with ⟨q1, q2⟩ | ⟨q1, q2, q3, _⟩
  · left
    refine ⟨1, Or.inl rfl, by rw [C, if_pos q1], ?_⟩
    rw [M _ (ml_o _ _ (by omega)) (ml_o _ _ (by omega)), if_neg (ml_nle_of_lt q2)]
  · rw [if_neg q1] at C
    by_cases q : 0 ≤ y.toInt ∧ y.toInt + (k : Int) ≤ (l : Int)
    · right
      obtain ⟨i, hi, rfl⟩ : ∃ i : Nat, i + k ≤ 40 ∧ y = nI i := ⟨y.toInt.toNat, by omega, ml_of_toInt (by omega) (by omega)⟩
      refine ⟨i, hi, rfl, by rw [C, if_pos ⟨q.1, by omega, q.2⟩]; rfl, fun mm e1 e2 => ?_⟩
      rw [M mm e1 e2, if_pos q3, if_neg (nI_pos (by omega)), if_pos q.2]; rfl
    · left
      refine ⟨2, Or.inr rfl, by rw [C, if_neg (fun z => q ⟨z.1, z.2.2⟩)], ?_⟩
      rw [M _ (ml_o _ _ (by omega)) (ml_o _ _ (by omega)), if_pos q3]
      by_cases z : y < 0
      · rw [if_pos z]; rfl
      · rw [if_neg z, if_neg (fun v => q ⟨by rw [ml_lt0] at z; omega, v⟩)]; rfl
theorem st_P {p k : Nat} (h : rl_PolyF p k) : ¬ rl_StatF p k := fun q => by unfold rl_PolyF at h; unfold rl_StatF at q; omega
/-- alike but for status -/
def sS (m m' : am_Mm) : Prop := ∀ p k, rl_fp p k → ¬ rl_StatF p k → m'.1 p k = m.1 p k
theorem act_all2 {m mk m1 mm mk2 : am_Mm} {n a : Nat} {cu : Nat → Nat} {kd ow : Nat → Nat → Nat} (h : rl_All m) (H : plv m.1 n a cu kd ow) {x1 x2 x3 : Int32} (c1 : kC m mk a x1 x2 x3) {P K : Nat} {X : Int32} (hP : 13 ≤ P ∧ P ≤ 15) (em : m1 = am_pI mk P K X) (s : sS m1 mm) (hS : rl_Stat mm.1) (c2 : kM mm mk2 a) {J : Nat} {Y : Int32} {cu' : Nat} {kd' ow' : Nat → Nat} (hok : rl_OK n cu' kd' ow') (wF : rl_Fig m1.1 13 n cu' kd' ow') (wP : rl_Pol (am_pI mk2 67 J Y).1 67 0 n cu' kd' ow')
    (wN : ∀ (w : rl_V) (b : Nat), w 27 b = x1 → w 28 b = x2 → w 29 b = x3 → rl_Act w b n (cu a) cu' (kd a) kd' (ow a) ow') : rl_All (am_pI mk2 67 J Y) := by
  obtain ⟨c11, c12, c13, c14, c15, c16⟩ := c1
  obtain ⟨c21, c22, c23, c24⟩ := c2
  have s : ∀ p k, rl_fp p k → ¬ rl_StatF p k → mm.1 p k = m1.1 p k := s
  have fr : ∀ p k, rl_fp p k → ¬ rl_StatF p k → ¬ (p = 67 ∧ k = J) → ¬ (p = 63 ∧ k = 8) → ¬ p = 70 → (am_pI mk2 67 J Y).1 p k = m1.1 p k := fun p k q1 q1' q2 q3 q4 => by rw [ml_o _ _ q2, c22 p k q3 q4, s p k q1 q1']
  have fr2 : ∀ p k, ¬ (p = 26 ∧ k = 3) → ¬ (27 ≤ p ∧ p ≤ 29) → ¬ (p = P ∧ k = K) → m1.1 p k = m.1 p k := fun p k q1 q2 q3 => by rw [em, ml_o _ _ q3, c12 p k q1 q2]
  have n26 : ∀ {p k : Nat}, 26 ≤ p ∧ p ≤ 29 → ¬ rl_StatF p k := fun q => st_P (Or.inr (Or.inr (Or.inl q)))
  have n20 : ∀ {p k : Nat}, 20 ≤ p ∧ p ≤ 24 → ¬ rl_StatF p k := fun q => st_P (Or.inr (Or.inl q))
  have n13 : ∀ {p k : Nat}, 13 ≤ p ∧ p ≤ 15 → ¬ rl_StatF p k := fun q => st_P (Or.inl q)
  have n67 : ∀ {k : Nat}, ¬ rl_StatF 67 k := st_P (Or.inr (Or.inr (Or.inr (Or.inl rfl))))
  have n70 : ∀ {k : Nat}, ¬ rl_StatF 70 k := st_P (Or.inr (Or.inr (Or.inr (Or.inr (Or.inl rfl)))))
  have fr3 : ∀ p k, ((26 ≤ p ∧ p ≤ 29)) → (am_pI mk2 67 J Y).1 p k = mk.1 p k := fun p k q => by
    rw [fr p k (P_26 k q) (n26 q) (by omega) (by omega) (by omega), em, ml_o _ _ (by omega)]
  have all : ∀ p k, rl_fp p k → ¬ rl_StatF p k → ¬ rl_PolyF p k → (am_pI mk2 67 J Y).1 p k = m.1 p k := fun p k q1 q1' q2 => by
    have w := nPoly q2
    rw [fr p k q1 q1' (fun z => w.2.2.2.1 z.1) w.2.2.2.2.2 w.2.2.2.2.1, fr2 p k (fun z => w.2.2.1 ⟨by omega, by omega⟩) (fun z => w.2.2.1 ⟨by omega, by omega⟩) (fun z => w.1 ⟨by omega, by omega⟩)]
  refine ⟨?_, rl_Rows_c (fun p k q => all p k (Or.inr (Or.inl q)) ?_ ?_) h.2.1, rl_Tape_c (fun p k q => all p k (Or.inr (Or.inr (Or.inl q))) ?_ ?_) h.2.2.1, rl_Ask_c (fun p k q => all p k (Or.inr (Or.inr (Or.inr (Or.inl q)))) ?_ ?_) h.2.2.2.1, ?_, rl_Img_c (fun p k q => all p k (Or.inr (Or.inr (Or.inr (Or.inr (Or.inr q))))) ?_ ?_) h.2.2.2.2.2⟩
  · unfold rl_Stat
    rw [ml_o _ _ (by omega), ml_o _ _ (by omega), c22 _ _ (by omega) (by omega), c22 _ _ (by omega) (by omega)]
    exact hS
  · unfold rl_RowsF at q; unfold rl_StatF; omega
  · unfold rl_RowsF at q; unfold rl_PolyF; omega
  · unfold rl_TapeF at q; unfold rl_StatF; omega
  · unfold rl_TapeF at q; unfold rl_PolyF; omega
  · unfold rl_AskF at q; unfold rl_StatF; omega
  · unfold rl_AskF at q; unfold rl_PolyF; omega
  · have g70 : ∀ k, mm.1 70 k = m.1 70 k := fun k => by rw [s 70 k (P_70 k) n70, fr2 _ _ (by omega) (by omega) (by omega)]
    have g67 : ∀ k, mm.1 67 k = m.1 67 k := fun k => by rw [s 67 k (P_67 k) n67, fr2 _ _ (by omega) (by omega) (by omega)]
    refine rl_push H hok ?_ ?_ ?_ ?_ wP (fun k hk => ?_) (fun k hk => ?_) (fun p i q1 q2 q3 => ?_) (wN _ _ ?_ ?_ ?_)
    · rw [fr3 _ _ (by omega)]; exact c11
    · rw [ml_o _ _ (by omega)]; exact c21
    · have q : ∀ p k, (20 ≤ p ∧ p ≤ 24) → (am_pI mk2 67 J Y).1 p k = m.1 p k := fun p k q => by rw [fr p k (P_20 k q) (n20 q) (by omega) (by omega) (by omega), fr2 p k (by omega) (by omega) (by omega)]
      have hR := H.2.2.2.1
      unfold rl_Ring at *
      simp (disch := omega) only [Nat.reduceAdd, q]
      exact hR
    · have q : ∀ p k, (13 ≤ p ∧ p ≤ 15) → (am_pI mk2 67 J Y).1 p k = m1.1 p k := fun p k q => fr p k (P_13 k q) (n13 q) (by omega) (by omega) (by omega)
      unfold rl_Fig at *
      simp (disch := omega) only [Nat.reduceAdd, q]
      exact wF
    · rw [ml_o _ _ (by omega), c23 k hk, g67]
    · rw [ml_o _ _ (by omega), c24 k hk, g70]
    · rw [fr3 _ _ (by omega), c16 p i q1 q2 q3]
    · rw [fr3 _ _ (by omega)]; exact c13
    · rw [fr3 _ _ (by omega)]; exact c14
    · rw [fr3 _ _ (by omega)]; exact c15
  · unfold rl_ImgF at q; unfold rl_StatF; omega
  · unfold rl_ImgF at q; unfold rl_PolyF; omega
theorem act_cuts2 {m : am_Mm} {n a : Nat} {cu : Nat → Nat} {kd ow : Nat → Nat → Nat} (h : rl_All m) (H : plv m.1 n a cu kd ow) {cu' : Nat} (hv : cu_V n cu') : ∃ m1, f_C_layCuts (nI cu') m = some m1 ∧ (∀ p k, ¬ (p = 13 ∧ k = 3) → ¬ (26 ≤ p ∧ p ≤ 29) → m1.1 p k = m.1 p k) ∧ ∀ mm, sS m1 mm → rl_Stat mm.1 → ∃ mk, f_M_keeps mm = some mk ∧ rl_All (am_pI mk 67 1 (nI cu')) := by
  obtain ⟨ha, e1, e2, hR, hF, hP, ok, hi⟩ := H
  obtain ⟨mk, k1, k2⟩ := hc_keep ha e1 (nI 0) (nI 0) (nI (cu a))
  have fr : ∀ p k, ¬ (p = 13 ∧ k = 3) → ¬ (26 ≤ p ∧ p ≤ 29) → (am_pI mk 13 3 (nI cu')).1 p k = m.1 p k := fun p k q1 q2 => by rw [ml_o _ _ q1, k2.2.1 p k (by omega) (by omega)]
  refine ⟨am_pI mk 13 3 (nI cu'), ?_, fr, fun mm s hS => ?_⟩
  · unfold f_C_layCuts
    rw [hF.2.1, show (0 : Int32) = nI 0 from rfl, k1]
    rfl
  · have s2 : ∀ p k, rl_fp p k → ¬ rl_StatF p k → mm.1 p k = (am_pI mk 13 3 (nI cu')).1 p k := s
    have e3 : mm.1 63 8 = nI a := by rw [s2 _ _ P_63 (by unfold rl_StatF; omega), fr _ _ (by omega) (by omega)]; exact e2
    have g67 : ∀ k, mm.1 67 k = m.1 67 k := fun k => by rw [s2 _ _ (P_67 k) (by unfold rl_StatF; omega), fr _ _ (by omega) (by omega)]
    obtain ⟨mk2, k3, k4⟩ := hm_keep ha e3
    have g : ∀ k, mk2.1 67 k = m.1 67 k := fun k => by rw [k4.2.1 67 k (by omega) (by omega), g67]
    have ok0 := ok a (Nat.le_refl _)
    refine ⟨mk2, k3, act_all2 h ⟨ha, e1, e2, hR, hF, hP, ok, hi⟩ k2 ⟨by omega, by omega⟩ rfl s hS k4 (cu' := cu') (kd' := kd a) (ow' := ow a) ⟨ok0.1, ok0.2.1, hv, ok0.2.2.2⟩ ?_ ?_ ?_⟩
    · refine ⟨?_, ml_s _ _ _ _, fun c hc => ?_⟩
      · rw [fr _ _ (by omega) (by omega)]; exact hF.1
      · rw [fr _ _ (by omega) (by omega), fr _ _ (by omega) (by omega)]; exact hF.2.2 c hc
    · refine ⟨?_, ml_s _ _ _ _, fun c hc => ?_⟩
      · rw [ml_o _ _ (by omega), g]; exact hP.1
      · rw [ml_o _ _ (by omega), ml_o _ _ (by omega), g, g]; exact hP.2.2 c hc
    · intro w b q1 q2 q3
      exact Or.inl ⟨q1, q3, fun c _ => ⟨rfl, rfl⟩⟩
theorem sm_33 {m m' : am_Mm} (h : ∀ p k, p ≠ 33 → m'.1 p k = m.1 p k) : sm m m' := fun p k q => h p k (fun z => by
  subst z
  rcases q with q | q | q | q | q | q
  · unfold rl_StatF at q; omega
  · unfold rl_RowsF at q; omega
  · unfold rl_TapeF at q; omega
  · unfold rl_AskF at q; omega
  · unfold rl_PolyF at q; omega
  · unfold rl_ImgF at q; omega)
theorem sm_72 {m m' : am_Mm} (h : ∀ p k, p ≠ 72 → m'.1 p k = m.1 p k) : sm m m' := fun p k q => h p k (fun z => by
  subst z
  rcases q with q | q | q | q | q | q
  · unfold rl_StatF at q; omega
  · unfold rl_RowsF at q; omega
  · unfold rl_TapeF at q; omega
  · unfold rl_AskF at q; omega
  · unfold rl_PolyF at q; omega
  · unfold rl_ImgF at q; omega)
theorem pz_ne (z : Int32) (h : z = 1 ∨ z = 2) : ¬ z = 0 ∧ ¬ (-1000010 - z : Int32) = 0 := by rcases h with rfl | rfl <;> decide
/-- the calls that want a row for all corners, up to it -/
theorem rf_of {m : am_Mm} {n cu : Nat} {kd ow : Nat → Nat} (h : rl_All m) (V : vw m n cu kd ow) (x y : Int32) :
    (f_C_refusalOfWhole x y m = some (-1000001, m) ∧ ∀ mm, f_M_isRow x mm = some (0, mm)) ∨
    (∃ r, r < 8 ∧ x = nI r ∧ (∀ mm, f_M_isRow (nI r) mm = some (1, mm)) ∧
      ((∃ z : Int32, (z = 1 ∨ z = 2) ∧ f_C_refusalOfWhole (nI r) y m = some (-1000010 - z, am_pI m 0 12 z) ∧ f_M_lacks (nI r) y (nI n) (am_pI m 0 12 z) = some (-1000010 - z, am_pI (am_pI (am_pI m 0 12 z) 63 0 0) 63 0 z)) ∨
       (∃ i : Nat, i + n ≤ 40 ∧ y = nI i ∧ f_C_refusalOfWhole (nI r) (nI i) m = some (0, m) ∧ ∀ mm : am_Mm, mm.1 64 r = m.1 64 r → mm.1 65 r = m.1 65 r → f_M_lacks (nI r) (nI i) (nI n) mm = some (nI 0, am_pI mm 63 0 0)))) := by
  obtain ⟨ok, hR, hF, hP⟩ := V
  have h4 := ok.1
  have h9 := ok.2.1
  have hbad : (x < 0 ∨ nI 8 ≤ x) → f_C_refusalOfWhole x y m = some (-1000001, m) ∧ ∀ mm, f_M_isRow x mm = some (0, mm) := by
    intro hx
    refine ⟨?_, fun mm => ml_MR0 hx⟩
    unfold f_C_refusalOfWhole
    rw [hc_th1 hF.1 h4 h9, Option.bind_some, if_neg ne01, ml_CR0 hx]; rfl
  rcases ml_ix x (n := 8) (by decide) with hx | hx | ⟨r, hr, rfl⟩
  · exact Or.inl (hbad (Or.inl hx))
  · exact Or.inl (hbad (Or.inr hx))
  · right
    refine ⟨r, hr, rfl, fun mm => ml_MR1 hr, ?_⟩
    have C : f_C_refusalOfWhole (nI r) y m = (f_C_troubleOf (nI r) y (nI n) m).bind fun q11 => if q11.1 = (0 : Int32) then some ((0 : Int32), q11.2) else (f_C_found q11.1 q11.2).bind fun q15 => some (q15.1, q15.2) := by
      unfold f_C_refusalOfWhole
      rw [hc_th1 hF.1 h4 h9, Option.bind_some, if_neg ne01, ml_CR1 hr, Option.bind_some, if_neg ml_n10, hF.1]
    rcases tr_of h hr (show n ≤ 40 by omega) y with ⟨z, hz, q1, q2⟩ | ⟨i, hi, rfl, q1, q2⟩
    · refine Or.inl ⟨z, hz, ?_, q2⟩
      rw [C, q1, Option.bind_some, if_neg (pz_ne z hz).1]; rfl
    · refine Or.inr ⟨i, hi, rfl, ?_, q2⟩
      rw [C, q1]; rfl
theorem rB_w {m : am_Mm} {r i n : Nat} (h : rl_All m) (hr : r < 8) (hi : i + n ≤ 40) : ∀ c, c < n → m.1 66 (40 * r + i + c) = m.1 (42 + 2 * r) (i + c) := by
  intro c hc
  have := (h.2.1 r hr).2.2 (i + c) (by omega)
  rw [this, Nat.add_assoc]
theorem pz_back : ∀ a0 a1 : Int32, am_Pz rl_All (f_C_back a0 a1) (f_M_back a0 a1) := by
  intro x y m h
  unfold f_C_back
  rcases vw_of h with hn | ⟨n, cu, kd, ow, V⟩
  · unfold f_C_refusalOfWhole
    rw [hc_there hn.1 (by omega)]
    refine ⟨-1000002, m, m, rfl, ?_, h⟩
    unfold f_M_back
    rw [hm_there hn.2.2.1 (by omega)]; rfl
  · have V0 := V
    obtain ⟨ok, hR, hF, hP⟩ := V
    have h4 := ok.1
    have h9 := ok.2.1
    rcases rf_of h V0 x y with ⟨q1, q2⟩ | ⟨r, hr, rfl, q1, ⟨z, hz, q2, q3⟩ | ⟨i, hi, rfl, q2, q3⟩⟩
    · refine ⟨-1000001, m, m, by rw [q1]; rfl, ?_, h⟩
      unfold f_M_back
      rw [hm_th1 hP.1 h4 h9, Option.bind_some, if_neg ne01, q2]; rfl
    · refine ⟨-1000010 - z, am_pI m 0 12 z, am_pI (am_pI (am_pI m 0 12 z) 63 0 0) 63 0 z, ?_, ?_, ?_⟩
      · rw [q2, Option.bind_some, if_neg (pz_ne z hz).2]
      · unfold f_M_back
        rw [hm_th1 (n := n) (by rw [ml_o _ _ (by omega)]; exact hP.1) h4 h9, Option.bind_some, if_neg ne01, q1, Option.bind_some, if_neg ml_n10, ml_o m z (show ¬ ((67 : Nat) = 0 ∧ (0 : Nat) = 12) by omega), hP.1, q3, Option.bind_some, if_neg (pz_ne z hz).2]
      · rw [ml_pp]; exact rl_All_stat h z
    · obtain ⟨m1, c1, c2⟩ := hc_cuts (w := fun c => m.1 (42 + 2 * r) (i + c)) h4 h9 hR hr hi (fun c _ => rfl)
      have hA := sm_All (sm_33 c2) h
      have hA2 := rl_All_stat hA 0
      have g : ∀ p k, p ≠ 33 → p ≠ 0 → (am_pI m1 0 12 0).1 p k = m.1 p k := fun p k z1 z2 => by rw [ml_o _ _ (by omega), c2 p k z1]
      obtain ⟨m2, d1, d2⟩ := hm_cuts (m := am_pI (am_pI m1 0 12 0) 63 0 0) (o := 40 * r + i) (w := fun c => m.1 (42 + 2 * r) (i + c)) h4 h9 (by rw [ml_o _ _ (by omega), g _ _ (by omega) (by omega)]; exact hP.1) (by omega) (fun c hc => by rw [ml_o _ _ (by omega), g _ _ (by omega) (by omega)]; exact rB_w h hr hi c hc)
      have hlt : ∀ j, rB n (fun c => m.1 (42 + 2 * r) (i + c)) = some j → j < 2 ^ 27 := fun j q => cu_V_lt h4 h9 (rB_V h4 h9 q).1
      have CB : ∀ s1 mm, f_C_back_b46 s1 mm = some (s1, am_pI mm 0 12 0) := fun s1 mm => rfl
      refine ⟨fv (-1000000) (rB n (fun c => m.1 (42 + 2 * r) (i + c))), am_pI m1 0 12 0, m2, ?_, ?_, sm_All (sm_72 d2) hA2⟩
      · rw [q2, Option.bind_some, if_pos rfl, if_pos (am_in_nI hr (by decide)), ml_rw hr, c1, Option.bind_some]
        cases hb : rB n (fun c => m.1 (42 + 2 * r) (i + c)) with
        | none => rfl
        | some j =>
          have := hlt j hb
          rw [if_neg (show ¬ fv (-1) (some j) < (0 : Int32) from nI_pos (by omega)), CB]; rfl
      · unfold f_M_back
        rw [hm_th1 (n := n) (by rw [g _ _ (by omega) (by omega)]; exact hP.1) h4 h9, Option.bind_some, if_neg ne01, q1, Option.bind_some, if_neg ml_n10]
        dsimp only
        rw [g 67 0 (by omega) (by omega), hP.1, q3 _ (g _ _ (by omega) (by omega)) (g _ _ (by omega) (by omega)), Option.bind_some, if_pos e00, nq40, pk_mul, nI_add, d1]; rfl
theorem pz_lay : ∀ a0 : Int32, am_Pz rl_All (f_C_lay a0) (f_M_lay a0) := by
  intro x m h
  unfold f_C_lay
  rcases plv_of h with ⟨hn, _, _⟩ | ⟨n, a, cu, kd, ow, H⟩
  · unfold f_C_refusalOfWhole
    rw [hc_there hn.1 (by omega)]
    refine ⟨-1000002, m, m, rfl, ?_, h⟩
    unfold f_M_lay
    rw [hm_there hn.2.2.1 (by omega)]; rfl
  · have V0 := plv_vw H
    obtain ⟨ok, hR, hF, hP⟩ := plv_vw H
    have h4 := ok.1
    have h9 := ok.2.1
    rcases rf_of h V0 x 0 with ⟨q1, q2⟩ | ⟨r, hr, rfl, q1, ⟨z, hz, q2, q3⟩ | ⟨i, hi, e0, q2, q3⟩⟩
    · refine ⟨-1000001, m, m, by rw [q1]; rfl, ?_, h⟩
      unfold f_M_lay
      rw [hm_th1 hP.1 h4 h9, Option.bind_some, if_neg ne01, q2]; rfl
    · refine ⟨-1000010 - z, am_pI m 0 12 z, am_pI (am_pI (am_pI m 0 12 z) 63 0 0) 63 0 z, ?_, ?_, ?_⟩
      · rw [q2, Option.bind_some, if_neg (pz_ne z hz).2]
      · unfold f_M_lay
        rw [hm_th1 (n := n) (by rw [ml_o _ _ (by omega)]; exact hP.1) h4 h9, Option.bind_some, if_neg ne01, q1, Option.bind_some, if_neg ml_n10, ml_o m z (show ¬ ((67 : Nat) = 0 ∧ (0 : Nat) = 12) by omega), hP.1, q3, Option.bind_some, if_neg (pz_ne z hz).2]
      · rw [ml_pp]; exact rl_All_stat h z
    · have i0 : i = 0 := ((nI_eq (a := 0) (b := i) (by omega) (by omega)).mp e0).symm
      subst i0
      obtain ⟨m1, c1, c2⟩ := hc_cuts (w := fun c => m.1 (42 + 2 * r) (0 + c)) h4 h9 hR hr hi (fun c _ => rfl)
      have hA := sm_All (sm_33 c2) h
      have H1 := plv_sm (sm_33 c2) H
      have CB : ∀ s1 mm, f_C_lay_b52 s1 mm = some (s1, am_pI mm 0 12 0) := fun s1 mm => rfl
      have M0 : ∀ mm : am_Mm, (∀ p k, p = 64 ∨ p = 65 ∨ p = 66 ∨ p = 67 → mm.1 p k = m.1 p k) → ∃ m2, (∀ p k, p ≠ 72 → m2.1 p k = (am_pI mm 63 0 0).1 p k) ∧ f_M_lay (nI r) mm = if fv (-1000000) (rB n (fun c => m.1 (42 + 2 * r) (0 + c))) = (-1000000 : Int32) then some (fv (-1000000) (rB n (fun c => m.1 (42 + 2 * r) (0 + c))), m2) else (f_M_keeps m2).bind fun q20 => some (fv (-1000000) (rB n (fun c => m.1 (42 + 2 * r) (0 + c))), am_pI q20 67 1 (fv (-1000000) (rB n (fun c => m.1 (42 + 2 * r) (0 + c))))) := by
        intro mm g
        obtain ⟨m2, d1, d2⟩ := hm_cuts (m := am_pI mm 63 0 0) (o := 40 * r) (w := fun c => m.1 (42 + 2 * r) (0 + c)) h4 h9 (by rw [ml_o _ _ (by omega), g _ _ (by omega)]; exact hP.1) (by omega) (fun c hc => by rw [ml_o _ _ (by omega), g _ _ (by omega)]; exact rB_w h hr hi c hc)
        refine ⟨m2, d2, ?_⟩
        unfold f_M_lay
        have q3' : f_M_lacks (nI r) (0 : Int32) (nI n) mm = some (nI 0, am_pI mm 63 0 0) := q3 mm (g _ _ (by omega)) (g _ _ (by omega))
        rw [hm_th1 (n := n) (by rw [g _ _ (by omega)]; exact hP.1) h4 h9, Option.bind_some, if_neg ne01, q1, Option.bind_some, if_neg ml_n10]
        dsimp only
        rw [g 67 0 (by omega), hP.1, q3', Option.bind_some, if_pos e00, nq40, pk_mul, d1, Option.bind_some]
      have q2' : f_C_refusalOfWhole (nI r) (0 : Int32) m = some (0, m) := q2
      have c1' : f_Ears_cutsOf (41 + 2 * r) (0 : Int32) m = some (fv (-1) (rB n fun c => m.1 (42 + 2 * r) (0 + c)), m1) := c1
      rw [q2', Option.bind_some, if_pos rfl, if_pos (am_in_nI hr (by decide)), ml_rw hr, c1', Option.bind_some]
      cases hb : rB n (fun c => m.1 (42 + 2 * r) (0 + c)) with
      | none =>
        have g : ∀ p k, p = 64 ∨ p = 65 ∨ p = 66 ∨ p = 67 → (am_pI m1 0 12 0).1 p k = m.1 p k := fun p k z1 => by rw [ml_o _ _ (by omega), c2 p k (by omega)]
        obtain ⟨m2, d2, d1⟩ := M0 (am_pI m1 0 12 0) g
        rw [hb, if_pos (show fv (-1000000) none = (-1000000 : Int32) from rfl)] at d1
        exact ⟨-1000000, am_pI m1 0 12 0, m2, by rfl, d1, sm_All (sm_72 d2) (rl_All_stat hA 0)⟩
      | some j =>
        have hv' := (rB_V h4 h9 hb).1
        have hlt := cu_V_lt h4 h9 hv'
        obtain ⟨m3, a1, a4, a5⟩ := act_cuts2 hA H1 hv'
        have g : ∀ p k, p = 64 ∨ p = 65 ∨ p = 66 ∨ p = 67 → (am_pI m3 0 12 0).1 p k = m.1 p k := fun p k z1 => by rw [ml_o _ _ (by omega), a4 p k (by omega) (by omega), c2 p k (by omega)]
        obtain ⟨m2, d2, d1⟩ := M0 (am_pI m3 0 12 0) g
        have d2' := sm_72 d2
        obtain ⟨mk, b1, b4⟩ := a5 m2 (fun p k z1 z2 => by
          rw [d2' p k z1, ml_o _ _ (fun v => z2 (Or.inr v)), ml_o _ _ (fun v => z2 (Or.inl v))]) (by
          unfold rl_Stat
          rw [d2 _ _ (by omega), d2 _ _ (by omega), ml_s, ml_o _ _ (by omega), ml_s])
        have ne : ¬ fv (-1000000) (some j) = (-1000000 : Int32) := fun v => by
          have q2 : nI j = (-1000000 : Int32) := v
          have q3 := congrArg Int32.toInt q2
          rw [nI_toInt (by omega)] at q3
          have : (-1000000 : Int32).toInt = -1000000 := by decide
          omega
        rw [hb, if_neg ne, b1] at d1
        refine ⟨nI j, am_pI m3 0 12 0, am_pI mk 67 1 (nI j), ?_, d1, b4⟩
        rw [if_neg (show ¬ fv (-1) (some j) < (0 : Int32) from nI_pos (by omega))]
        show ((f_C_layCuts (nI j) m1).bind fun q16 => f_C_lay_b41 (nI j) q16) = _
        rw [a1, Option.bind_some]
        unfold f_C_lay_b41
        rw [if_neg (show ¬ nI j < (0 : Int32) from nI_pos (by omega)), CB]
