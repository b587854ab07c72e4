/-! FriezePolygonsModel.linkedTo([II)I -/
def f_M_linkedTo_b28 (k4 : Int32 → Int32 → Int32 → am_Mm → Option (Int32 × am_Mm)) (x1 : Int32) (x3 : Int32) (s0 : Int32) (s1 : Int32) (m : am_Mm) : Option (Int32 × am_Mm) :=
  k4 x1 (s0 ||| s1) (x3 + (1 : Int32)) m
def f_M_linkedTo_b4 : Nat → Int32 → Int32 → Int32 → am_Mm → Option (Int32 × am_Mm)
  | 0, _, _, _, _ => none
  | n + 1, x1, x2, x3, m =>
    if (m.1 67 0) ≤ x3 then
      some (x2, m)
    else
      (f_M_isLinked 67 x1 x3 m).bind fun q5 =>
      if q5.1 = (0 : Int32) then
        f_M_linkedTo_b28 (f_M_linkedTo_b4 n) x1 x3 x2 (0 : Int32) q5.2
      else
        f_M_linkedTo_b28 (f_M_linkedTo_b4 n) x1 x3 x2 (am_shl (1 : Int32) x3) q5.2
def f_M_linkedTo (x1 : Int32) (m : am_Mm) : Option (Int32 × am_Mm) :=
  f_M_linkedTo_b4 am_F x1 (0 : Int32) (0 : Int32) m
set_option maxHeartbeats 4000000 in
set_option maxRecDepth 100000 in
theorem f_M_linkedTo_b28_ok {ro : am_Ro} {d : Nat} (hd : 4 ≤ d + 1) {k4 : Int32 → Int32 → Int32 → am_Mm → Option (Int32 × am_Mm)} (hk4 : ∀ (x1 : Int32) (x2 : Int32) (x3 : Int32) (m m' : am_Mm) (r : Int32), k4 x1 x2 x3 m = some (r, m') → am_AW am_nw ro (d + 1) mr_M_linkedTo 4 [some (.ref 67), some (.int x1), some (.int x2), some (.int x3)] [] (S0, m) (some (.int r)) (S0, m')) (x1 : Int32) (x3 : Int32) (s0 : Int32) (s1 : Int32) {m m' : am_Mm} {r : Int32} (h : f_M_linkedTo_b28 k4 x1 x3 s0 s1 m = some (r, m')) : am_AW am_nw ro (d + 1) mr_M_linkedTo 28 [some (.ref 67), some (.int x1), none, some (.int x3)] [.int s1, .int s0] (S0, m) (some (.int r)) (S0, m') := by
  unfold f_M_linkedTo_b28 at h
  refine am_AW.run am_base_ok ok_M_linkedTo (Nat.le_add_left 1 d) 4 (pc1 := 4) (ls1 := [some (.ref 67), some (.int x1), some (.int (s0 ||| s1)), some (.int (x3 + (1 : Int32)))]) (st1 := []) (σ1 := (S0, m)) rfl ?_
  exact am_AW.weak (hk4 x1 (s0 ||| s1) (x3 + (1 : Int32))  _ _ _ h) (by simp only [am_le, and_self])
set_option maxHeartbeats 4000000 in
set_option maxRecDepth 100000 in
theorem f_M_linkedTo_b4_all {ro : am_Ro} {d : Nat} (hd : 4 ≤ d + 1) : ∀ (n : Nat) (x1 : Int32) (x2 : Int32) (x3 : Int32) (m m' : am_Mm) (r : Int32), f_M_linkedTo_b4 n x1 x2 x3 m = some (r, m') → am_AW am_nw ro (d + 1) mr_M_linkedTo 4 [some (.ref 67), some (.int x1), some (.int x2), some (.int x3)] [] (S0, m) (some (.int r)) (S0, m') := by
  intro n
  induction n with
  | zero =>
    intro x1 x2 x3 m m' r h
    rw [f_M_linkedTo_b4] at h
    cases h
  | succ n ih =>
    intro x1 x2 x3 m m' r h
    rw [f_M_linkedTo_b4] at h
    refine am_AW.run am_base_ok ok_M_linkedTo (Nat.le_add_left 1 d) 3 (pc1 := 7) (ls1 := [some (.ref 67), some (.int x1), some (.int x2), some (.int x3)]) (st1 := [.int (0 : Int32), .ref 67, .int x3]) (σ1 := (S0, m)) rfl ?_
    refine am_AW.iald ok_M_linkedTo (Nat.le_add_left 1 d) S0_len rfl rfl (by decide) ?_
    change am_AW am_nw ro (d + 1) mr_M_linkedTo 8 [some (.ref 67), some (.int x1), some (.int x2), some (.int x3)] [.int (m.1 67 0), .int x3] (S0, m) (some (.int r)) (S0, m')
    refine am_AW.brP ok_M_linkedTo rfl rfl am_c_ge (fun c2 => ?_) (fun c2 => ?_)
    · rw [if_pos c2] at h
      refine am_AW.run am_base_ok ok_M_linkedTo (Nat.le_add_left 1 d) 1 (pc1 := 37) (ls1 := [some (.ref 67), some (.int x1), some (.int x2), some (.int x3)]) (st1 := [.int x2]) (σ1 := (S0, m)) rfl ?_
      obtain ⟨rfl, rfl⟩ := Prod.mk.inj (Option.some.inj h)
      exact am_AW.ret ok_M_linkedTo rfl rfl rfl rfl
    · rw [if_neg c2] at h
      refine am_AW.run am_base_ok ok_M_linkedTo (Nat.le_add_left 1 d) 4 (pc1 := 15) (ls1 := [some (.ref 67), some (.int x1), some (.int x2), some (.int x3)]) (st1 := [.int x3, .int x1, .ref 67, .int x2]) (σ1 := (S0, m)) rfl ?_
      obtain ⟨q5, hq5, h⟩ := Option.bind_eq_some_iff.mp h
      refine am_AW.callS ok_M_linkedTo am_nw_ok (As := [.ref 67, .int x1, .int x3]) (rest := [.int x2]) rfl rfl rfl oR_M_isLinked lk_M_105 sT_M_isLinked rfl (Nat.le_of_ble_eq_true rfl) (f_M_isLinked_ok (d := d) (by omega) 67 x1 x3 (by simp) hq5) ?_
      change am_AW am_nw ro (d + 1) mr_M_linkedTo 18 [some (.ref 67), some (.int x1), some (.int x2), some (.int x3)] [.int q5.1, .int x2] (S0, q5.2) (some (.int r)) (S0, m')
      refine am_AW.brP ok_M_linkedTo rfl rfl am_c_eq (fun c6 => ?_) (fun c6 => ?_)
      · rw [if_pos c6] at h
        refine am_AW.run am_base_ok ok_M_linkedTo (Nat.le_add_left 1 d) 1 (pc1 := 28) (ls1 := [some (.ref 67), some (.int x1), some (.int x2), some (.int x3)]) (st1 := [.int (0 : Int32), .int x2]) (σ1 := (S0, q5.2)) rfl ?_
        exact am_AW.weak (f_M_linkedTo_b28_ok hd (ih) x1 x3 x2 (0 : Int32)  h) (by simp only [am_le, and_self])
      · rw [if_neg c6] at h
        refine am_AW.run am_base_ok ok_M_linkedTo (Nat.le_add_left 1 d) 4 (pc1 := 28) (ls1 := [some (.ref 67), some (.int x1), some (.int x2), some (.int x3)]) (st1 := [.int (am_shl (1 : Int32) x3), .int x2]) (σ1 := (S0, q5.2)) rfl ?_
        exact am_AW.weak (f_M_linkedTo_b28_ok hd (ih) x1 x3 x2 (am_shl (1 : Int32) x3)  h) (by simp only [am_le, and_self])
set_option maxHeartbeats 4000000 in
set_option maxRecDepth 100000 in
theorem f_M_linkedTo_b4_ok {ro : am_Ro} {d : Nat} (hd : 4 ≤ d + 1) (x1 : Int32) (x2 : Int32) (x3 : Int32) {m m' : am_Mm} {r : Int32} {n : Nat} (h : f_M_linkedTo_b4 n x1 x2 x3 m = some (r, m')) : am_AW am_nw ro (d + 1) mr_M_linkedTo 4 [some (.ref 67), some (.int x1), some (.int x2), some (.int x3)] [] (S0, m) (some (.int r)) (S0, m') :=
  f_M_linkedTo_b4_all hd n x1 x2 x3  m m' r h
set_option maxHeartbeats 4000000 in
set_option maxRecDepth 100000 in
theorem f_M_linkedTo_ok {ro : am_Ro} {d : Nat} (hd : 4 ≤ d) (x1 : Int32) {m m' : am_Mm} {r : Int32} (h : f_M_linkedTo x1 m = some (r, m')) : am_Mt am_nw ro d mr_M_linkedTo [.ref 67, .int x1] (S0, m) (some (.int r)) (S0, m') := by
  obtain ⟨d, rfl⟩ : ∃ d0, d = d0 + 1 := ⟨d - 1, by omega⟩
  refine am_Mt.of (by decide +kernel) (Nat.le_of_ble_eq_true rfl) ?_
  change am_AW am_nw ro (d + 1) mr_M_linkedTo 0 [some (.ref 67), some (.int x1), none, none] [] (S0, m) (some (.int r)) (S0, m')
  unfold f_M_linkedTo at h
  refine am_AW.run am_base_ok ok_M_linkedTo (Nat.le_add_left 1 d) 4 (pc1 := 4) (ls1 := [some (.ref 67), some (.int x1), some (.int (0 : Int32)), some (.int (0 : Int32))]) (st1 := []) (σ1 := (S0, m)) rfl ?_
  exact am_AW.weak (f_M_linkedTo_b4_ok hd x1 (0 : Int32) (0 : Int32)  h) (by simp only [am_le, and_self])
/-! FriezePolygonsModel.piece(I)I -/
def f_M_piece (x1 : Int32) (m : am_Mm) : Option (Int32 × am_Mm) :=
  (f_M_isCorner x1 m).bind fun q3 =>
  if q3.1 = (0 : Int32) then
    some ((-1000001 : Int32), q3.2)
  else
    (f_M_over x1 q3.2).bind fun q7 =>
    (f_M_pieceUnder 67 q7.1 q7.2).bind fun q10 =>
    some (q10.1, q10.2)
set_option maxHeartbeats 4000000 in
set_option maxRecDepth 100000 in
theorem f_M_piece_ok {ro : am_Ro} {d : Nat} (hd : 4 ≤ d) (x1 : Int32) {m m' : am_Mm} {r : Int32} (h : f_M_piece x1 m = some (r, m')) : am_Mt am_nw ro d mr_M_piece [.ref 63, .int x1] (S0, m) (some (.int r)) (S0, m') := by
  obtain ⟨d, rfl⟩ : ∃ d0, d = d0 + 1 := ⟨d - 1, by omega⟩
  refine am_Mt.of (by decide +kernel) (Nat.le_of_ble_eq_true rfl) ?_
  change am_AW am_nw ro (d + 1) mr_M_piece 0 [some (.ref 63), some (.int x1)] [] (S0, m) (some (.int r)) (S0, m')
  unfold f_M_piece at h
  refine am_AW.run am_base_ok ok_M_piece (Nat.le_add_left 1 d) 2 (pc1 := 2) (ls1 := [some (.ref 63), some (.int x1)]) (st1 := [.int x1, .ref 63]) (σ1 := (S0, m)) rfl ?_
  obtain ⟨q3, hq3, h⟩ := Option.bind_eq_some_iff.mp h
  refine am_AW.callV ok_M_piece am_nw_ok (As := [.int x1]) (rest := []) rfl rfl rfl oR_M_isCorner lk_M_192 iM_M_isCorner sE_M_isCorner (qc := kq10) rfl rfl rfl rfl (Nat.le_of_ble_eq_true rfl) (f_M_isCorner_ok (d := d) (by omega) x1 hq3) ?_
  change am_AW am_nw ro (d + 1) mr_M_piece 5 [some (.ref 63), some (.int x1)] [.int q3.1] (S0, q3.2) (some (.int r)) (S0, m')
  refine am_AW.brP ok_M_piece rfl rfl am_c_eq (fun c4 => ?_) (fun c4 => ?_)
  · rw [if_pos c4] at h
    refine am_AW.run am_base_ok ok_M_piece (Nat.le_add_left 1 d) 1 (pc1 := 28) (ls1 := [some (.ref 63), some (.int x1)]) (st1 := [.int (-1000001 : Int32)]) (σ1 := (S0, q3.2)) rfl ?_
    obtain ⟨rfl, rfl⟩ := Prod.mk.inj (Option.some.inj h)
    exact am_AW.ret ok_M_piece rfl rfl rfl rfl
  · rw [if_neg c4] at h
    refine am_AW.run am_base_ok ok_M_piece (Nat.le_add_left 1 d) 5 (pc1 := 17) (ls1 := [some (.ref 63), some (.int x1)]) (st1 := [.int x1, .ref 67, .ref 67]) (σ1 := (S0, q3.2)) rfl ?_
    obtain ⟨q7, hq7, h⟩ := Option.bind_eq_some_iff.mp h
    refine am_AW.callS ok_M_piece am_nw_ok (As := [.ref 67, .int x1]) (rest := [.ref 67]) rfl rfl rfl oR_M_over lk_M_269 sT_M_over rfl (Nat.le_of_ble_eq_true rfl) (f_M_over_ok (d := d) (by omega) x1 hq7) ?_
    change am_AW am_nw ro (d + 1) mr_M_piece 20 [some (.ref 63), some (.int x1)] [.int q7.1, .ref 67] (S0, q7.2) (some (.int r)) (S0, m')
    obtain ⟨q10, hq10, h⟩ := Option.bind_eq_some_iff.mp h
    refine am_AW.callS ok_M_piece am_nw_ok (As := [.ref 67, .int q7.1]) (rest := []) rfl rfl rfl oR_M_pieceUnder lk_M_272 sT_M_pieceUnder rfl (Nat.le_of_ble_eq_true rfl) (f_M_pieceUnder_ok (d := d) (by omega) 67 q7.1 (by simp) hq10) ?_
    change am_AW am_nw ro (d + 1) mr_M_piece 23 [some (.ref 63), some (.int x1)] [.int q10.1] (S0, q10.2) (some (.int r)) (S0, m')
    refine am_AW.run am_base_ok ok_M_piece (Nat.le_add_left 1 d) 1 (pc1 := 28) (ls1 := [some (.ref 63), some (.int x1)]) (st1 := [.int q10.1]) (σ1 := (S0, q10.2)) rfl ?_
    obtain ⟨rfl, rfl⟩ := Prod.mk.inj (Option.some.inj h)
    exact am_AW.ret ok_M_piece rfl rfl rfl rfl
/-! FriezePolygonsModel.ways()I -/
def f_M_ways_b80 (k36 : Int32 → Int32 → Int32 → am_Mm → Option (Int32 × am_Mm)) (x1 : Int32) (x3 : Int32) (s0 : Int32) (s1 : Int32) (m : am_Mm) : Option (Int32 × am_Mm) :=
  k36 x1 (s0 * s1) (x3 + (1 : Int32)) m
def f_M_ways_b36 : Nat → Int32 → Int32 → Int32 → am_Mm → Option (Int32 × am_Mm)
  | 0, _, _, _, _ => none
  | n + 1, x1, x2, x3, m =>
    (f_M_manyCuts x1 m).bind fun q17 =>
    if q17.1 ≤ x3 then
      some (x2, q17.2)
    else
      (f_M_has (q17.2.1 67 1) x3 q17.2).bind fun q22 =>
      if q22.1 = (0 : Int32) then
        f_M_ways_b80 (f_M_ways_b36 n) x1 x3 x2 (1 : Int32) q22.2
      else
        (f_M_endsOf x1 x3 q22.2).bind fun q26 =>
        (f_M_pieceUnder 67 q26.1 q26.2).bind fun q29 =>
        (f_M_sizeOf q29.1 q29.2).bind fun q32 =>
        (f_M_waysOf q32.1 q32.2).bind fun q35 =>
        f_M_ways_b80 (f_M_ways_b36 n) x1 x3 x2 q35.1 q35.2
def f_M_ways (m : am_Mm) : Option (Int32 × am_Mm) :=
  (f_M_isThere m).bind fun q3 =>
  if q3.1 = (0 : Int32) then
    some ((-1000002 : Int32), q3.2)
  else
    (f_M_pieceUnder 67 ((q3.2.1 67 0) - (1 : Int32)) q3.2).bind fun q8 =>
    (f_M_sizeOf q8.1 q8.2).bind fun q11 =>
    (f_M_waysOf q11.1 q11.2).bind fun q14 =>
    f_M_ways_b36 am_F (q3.2.1 67 0) q14.1 (0 : Int32) q14.2
set_option maxHeartbeats 4000000 in
set_option maxRecDepth 100000 in
theorem f_M_ways_b80_ok {ro : am_Ro} {d : Nat} (hd : 4 ≤ d + 1) {k36 : Int32 → Int32 → Int32 → am_Mm → Option (Int32 × am_Mm)} (hk36 : ∀ (x1 : Int32) (x2 : Int32) (x3 : Int32) (m m' : am_Mm) (r : Int32), k36 x1 x2 x3 m = some (r, m') → am_AW am_nw ro (d + 1) mr_M_ways 36 [some (.ref 63), some (.int x1), some (.int x2), some (.int x3)] [] (S0, m) (some (.int r)) (S0, m')) (x1 : Int32) (x3 : Int32) (s0 : Int32) (s1 : Int32) {m m' : am_Mm} {r : Int32} (h : f_M_ways_b80 k36 x1 x3 s0 s1 m = some (r, m')) : am_AW am_nw ro (d + 1) mr_M_ways 80 [some (.ref 63), some (.int x1), none, some (.int x3)] [.int s1, .int s0] (S0, m) (some (.int r)) (S0, m') := by
  unfold f_M_ways_b80 at h
  refine am_AW.run am_base_ok ok_M_ways (Nat.le_add_left 1 d) 4 (pc1 := 36) (ls1 := [some (.ref 63), some (.int x1), some (.int (s0 * s1)), some (.int (x3 + (1 : Int32)))]) (st1 := []) (σ1 := (S0, m)) rfl ?_
  exact am_AW.weak (hk36 x1 (s0 * s1) (x3 + (1 : Int32))  _ _ _ h) (by simp only [am_le, and_self])
set_option maxHeartbeats 4000000 in
set_option maxRecDepth 100000 in
theorem f_M_ways_b36_all {ro : am_Ro} {d : Nat} (hd : 4 ≤ d + 1) : ∀ (n : Nat) (x1 : Int32) (x2 : Int32) (x3 : Int32) (m m' : am_Mm) (r : Int32), f_M_ways_b36 n x1 x2 x3 m = some (r, m') → am_AW am_nw ro (d + 1) mr_M_ways 36 [some (.ref 63), some (.int x1), some (.int x2), some (.int x3)] [] (S0, m) (some (.int r)) (S0, m') := by
  intro n
  induction n with
  | zero =>
    intro x1 x2 x3 m m' r h
    rw [f_M_ways_b36] at h
    cases h
  | succ n ih =>
    intro x1 x2 x3 m m' r h
    rw [f_M_ways_b36] at h
    refine am_AW.run am_base_ok ok_M_ways (Nat.le_add_left 1 d) 2 (pc1 := 38) (ls1 := [some (.ref 63), some (.int x1), some (.int x2), some (.int x3)]) (st1 := [.int x1, .int x3]) (σ1 := (S0, m)) rfl ?_
    obtain ⟨q17, hq17, h⟩ := Option.bind_eq_some_iff.mp h
    refine am_AW.callS ok_M_ways am_nw_ok (As := [.int x1]) (rest := [.int x3]) rfl rfl rfl oR_M_manyCuts lk_M_87 sT_M_manyCuts rfl (Nat.le_of_ble_eq_true rfl) (f_M_manyCuts_ok (d := d) (by omega) x1 hq17) ?_
    change am_AW am_nw ro (d + 1) mr_M_ways 41 [some (.ref 63), some (.int x1), some (.int x2), some (.int x3)] [.int q17.1, .int x3] (S0, q17.2) (some (.int r)) (S0, m')
    refine am_AW.brP ok_M_ways rfl rfl am_c_ge (fun c18 => ?_) (fun c18 => ?_)
    · rw [if_pos c18] at h
      refine am_AW.run am_base_ok ok_M_ways (Nat.le_add_left 1 d) 1 (pc1 := 89) (ls1 := [some (.ref 63), some (.int x1), some (.int x2), some (.int x3)]) (st1 := [.int x2]) (σ1 := (S0, q17.2)) rfl ?_
      obtain ⟨rfl, rfl⟩ := Prod.mk.inj (Option.some.inj h)
      exact am_AW.ret ok_M_ways rfl rfl rfl rfl
    · rw [if_neg c18] at h
      refine am_AW.run am_base_ok ok_M_ways (Nat.le_add_left 1 d) 4 (pc1 := 50) (ls1 := [some (.ref 63), some (.int x1), some (.int x2), some (.int x3)]) (st1 := [.int (1 : Int32), .ref 67, .int x2]) (σ1 := (S0, q17.2)) rfl ?_
      refine am_AW.iald ok_M_ways (Nat.le_add_left 1 d) S0_len rfl rfl (by decide) ?_
      change am_AW am_nw ro (d + 1) mr_M_ways 51 [some (.ref 63), some (.int x1), some (.int x2), some (.int x3)] [.int (q17.2.1 67 1), .int x2] (S0, q17.2) (some (.int r)) (S0, m')
      refine am_AW.run am_base_ok ok_M_ways (Nat.le_add_left 1 d) 1 (pc1 := 52) (ls1 := [some (.ref 63), some (.int x1), some (.int x2), some (.int x3)]) (st1 := [.int x3, .int (q17.2.1 67 1), .int x2]) (σ1 := (S0, q17.2)) rfl ?_
      obtain ⟨q22, hq22, h⟩ := Option.bind_eq_some_iff.mp h
      refine am_AW.callS ok_M_ways am_nw_ok (As := [.int (q17.2.1 67 1), .int x3]) (rest := [.int x2]) rfl rfl rfl oR_M_has lk_M_75 sT_M_has rfl (Nat.le_of_ble_eq_true rfl) (f_M_has_ok (d := d) (by omega) (q17.2.1 67 1) x3 hq22) ?_
      change am_AW am_nw ro (d + 1) mr_M_ways 55 [some (.ref 63), some (.int x1), some (.int x2), some (.int x3)] [.int q22.1, .int x2] (S0, q22.2) (some (.int r)) (S0, m')
      refine am_AW.brP ok_M_ways rfl rfl am_c_eq (fun c23 => ?_) (fun c23 => ?_)
      · rw [if_pos c23] at h
        refine am_AW.run am_base_ok ok_M_ways (Nat.le_add_left 1 d) 1 (pc1 := 80) (ls1 := [some (.ref 63), some (.int x1), some (.int x2), some (.int x3)]) (st1 := [.int (1 : Int32), .int x2]) (σ1 := (S0, q22.2)) rfl ?_
        exact am_AW.weak (f_M_ways_b80_ok hd (ih) x1 x3 x2 (1 : Int32)  h) (by simp only [am_le, and_self])
      · rw [if_neg c23] at h
        refine am_AW.run am_base_ok ok_M_ways (Nat.le_add_left 1 d) 4 (pc1 := 64) (ls1 := [some (.ref 63), some (.int x1), some (.int x2), some (.int x3)]) (st1 := [.int x3, .int x1, .ref 67, .int x2]) (σ1 := (S0, q22.2)) rfl ?_
        obtain ⟨q26, hq26, h⟩ := Option.bind_eq_some_iff.mp h
        refine am_AW.callS ok_M_ways am_nw_ok (As := [.int x1, .int x3]) (rest := [.ref 67, .int x2]) rfl rfl rfl oR_M_endsOf lk_M_90 sT_M_endsOf rfl (Nat.le_of_ble_eq_true rfl) (f_M_endsOf_ok (d := d) (by omega) x1 x3 hq26) ?_
        change am_AW am_nw ro (d + 1) mr_M_ways 67 [some (.ref 63), some (.int x1), some (.int x2), some (.int x3)] [.int q26.1, .ref 67, .int x2] (S0, q26.2) (some (.int r)) (S0, m')
        obtain ⟨q29, hq29, h⟩ := Option.bind_eq_some_iff.mp h
        refine am_AW.callS ok_M_ways am_nw_ok (As := [.ref 67, .int q26.1]) (rest := [.int x2]) rfl rfl rfl oR_M_pieceUnder lk_M_272 sT_M_pieceUnder rfl (Nat.le_of_ble_eq_true rfl) (f_M_pieceUnder_ok (d := d) (by omega) 67 q26.1 (by simp) hq29) ?_
        change am_AW am_nw ro (d + 1) mr_M_ways 70 [some (.ref 63), some (.int x1), some (.int x2), some (.int x3)] [.int q29.1, .int x2] (S0, q29.2) (some (.int r)) (S0, m')
        obtain ⟨q32, hq32, h⟩ := Option.bind_eq_some_iff.mp h
        refine am_AW.callS ok_M_ways am_nw_ok (As := [.int q29.1]) (rest := [.int x2]) rfl rfl rfl oR_M_sizeOf lk_M_198 sT_M_sizeOf rfl (Nat.le_of_ble_eq_true rfl) (f_M_sizeOf_ok (d := d) (by omega) q29.1 hq32) ?_
        change am_AW am_nw ro (d + 1) mr_M_ways 73 [some (.ref 63), some (.int x1), some (.int x2), some (.int x3)] [.int q32.1, .int x2] (S0, q32.2) (some (.int r)) (S0, m')
        obtain ⟨q35, hq35, h⟩ := Option.bind_eq_some_iff.mp h
        refine am_AW.callS ok_M_ways am_nw_ok (As := [.int q32.1]) (rest := [.int x2]) rfl rfl rfl oR_M_waysOf lk_M_275 sT_M_waysOf rfl (Nat.le_of_ble_eq_true rfl) (f_M_waysOf_ok (d := d) (by omega) q32.1 hq35) ?_
        change am_AW am_nw ro (d + 1) mr_M_ways 76 [some (.ref 63), some (.int x1), some (.int x2), some (.int x3)] [.int q35.1, .int x2] (S0, q35.2) (some (.int r)) (S0, m')
        refine am_AW.run am_base_ok ok_M_ways (Nat.le_add_left 1 d) 1 (pc1 := 80) (ls1 := [some (.ref 63), some (.int x1), some (.int x2), some (.int x3)]) (st1 := [.int q35.1, .int x2]) (σ1 := (S0, q35.2)) rfl ?_
        exact am_AW.weak (f_M_ways_b80_ok hd (ih) x1 x3 x2 q35.1  h) (by simp only [am_le, and_self])
set_option maxHeartbeats 4000000 in
set_option maxRecDepth 100000 in
theorem f_M_ways_b36_ok {ro : am_Ro} {d : Nat} (hd : 4 ≤ d + 1) (x1 : Int32) (x2 : Int32) (x3 : Int32) {m m' : am_Mm} {r : Int32} {n : Nat} (h : f_M_ways_b36 n x1 x2 x3 m = some (r, m')) : am_AW am_nw ro (d + 1) mr_M_ways 36 [some (.ref 63), some (.int x1), some (.int x2), some (.int x3)] [] (S0, m) (some (.int r)) (S0, m') :=
  f_M_ways_b36_all hd n x1 x2 x3  m m' r h
set_option maxHeartbeats 4000000 in
set_option maxRecDepth 100000 in
theorem f_M_ways_ok {ro : am_Ro} {d : Nat} (hd : 4 ≤ d) {m m' : am_Mm} {r : Int32} (h : f_M_ways  m = some (r, m')) : am_Mt am_nw ro d mr_M_ways [.ref 63] (S0, m) (some (.int r)) (S0, m') := by
  obtain ⟨d, rfl⟩ : ∃ d0, d = d0 + 1 := ⟨d - 1, by omega⟩
  refine am_Mt.of (by decide +kernel) (Nat.le_of_ble_eq_true rfl) ?_
  change am_AW am_nw ro (d + 1) mr_M_ways 0 [some (.ref 63), none, none, none] [] (S0, m) (some (.int r)) (S0, m')
  unfold f_M_ways at h
  refine am_AW.run am_base_ok ok_M_ways (Nat.le_add_left 1 d) 1 (pc1 := 1) (ls1 := [some (.ref 63), none, none, none]) (st1 := [.ref 63]) (σ1 := (S0, m)) rfl ?_
  obtain ⟨q3, hq3, h⟩ := Option.bind_eq_some_iff.mp h
  refine am_AW.callV ok_M_ways am_nw_ok (As := []) (rest := []) rfl rfl rfl oR_M_isThere lk_M_188 iM_M_isThere sE_M_isThere (qc := kq10) rfl rfl rfl rfl (Nat.le_of_ble_eq_true rfl) (f_M_isThere_ok (d := d) (by omega)  hq3) ?_
  change am_AW am_nw ro (d + 1) mr_M_ways 4 [some (.ref 63), none, none, none] [.int q3.1] (S0, q3.2) (some (.int r)) (S0, m')
  refine am_AW.brN ok_M_ways rfl rfl am_c_ne (fun c4 => ?_) (fun c4 => ?_)
  · rw [if_pos c4] at h
    refine am_AW.run am_base_ok ok_M_ways (Nat.le_add_left 1 d) 1 (pc1 := 9) (ls1 := [some (.ref 63), none, none, none]) (st1 := [.int (-1000002 : Int32)]) (σ1 := (S0, q3.2)) rfl ?_
    obtain ⟨rfl, rfl⟩ := Prod.mk.inj (Option.some.inj h)
    exact am_AW.ret ok_M_ways rfl rfl rfl rfl
  · rw [if_neg c4] at h
    refine am_AW.run am_base_ok ok_M_ways (Nat.le_add_left 1 d) 3 (pc1 := 15) (ls1 := [some (.ref 63), none, none, none]) (st1 := [.int (0 : Int32), .ref 67]) (σ1 := (S0, q3.2)) rfl ?_
    refine am_AW.iald ok_M_ways (Nat.le_add_left 1 d) S0_len rfl rfl (by decide) ?_
    change am_AW am_nw ro (d + 1) mr_M_ways 16 [some (.ref 63), none, none, none] [.int (q3.2.1 67 0)] (S0, q3.2) (some (.int r)) (S0, m')
    refine am_AW.run am_base_ok ok_M_ways (Nat.le_add_left 1 d) 6 (pc1 := 24) (ls1 := [some (.ref 63), some (.int (q3.2.1 67 0)), none, none]) (st1 := [.int ((q3.2.1 67 0) - (1 : Int32)), .ref 67]) (σ1 := (S0, q3.2)) rfl ?_
    obtain ⟨q8, hq8, h⟩ := Option.bind_eq_some_iff.mp h
    refine am_AW.callS ok_M_ways am_nw_ok (As := [.ref 67, .int ((q3.2.1 67 0) - (1 : Int32))]) (rest := []) rfl rfl rfl oR_M_pieceUnder lk_M_272 sT_M_pieceUnder rfl (Nat.le_of_ble_eq_true rfl) (f_M_pieceUnder_ok (d := d) (by omega) 67 ((q3.2.1 67 0) - (1 : Int32)) (by simp) hq8) ?_
    change am_AW am_nw ro (d + 1) mr_M_ways 27 [some (.ref 63), some (.int (q3.2.1 67 0)), none, none] [.int q8.1] (S0, q8.2) (some (.int r)) (S0, m')
    obtain ⟨q11, hq11, h⟩ := Option.bind_eq_some_iff.mp h
    refine am_AW.callS ok_M_ways am_nw_ok (As := [.int q8.1]) (rest := []) rfl rfl rfl oR_M_sizeOf lk_M_198 sT_M_sizeOf rfl (Nat.le_of_ble_eq_true rfl) (f_M_sizeOf_ok (d := d) (by omega) q8.1 hq11) ?_
    change am_AW am_nw ro (d + 1) mr_M_ways 30 [some (.ref 63), some (.int (q3.2.1 67 0)), none, none] [.int q11.1] (S0, q11.2) (some (.int r)) (S0, m')
    obtain ⟨q14, hq14, h⟩ := Option.bind_eq_some_iff.mp h
    refine am_AW.callS ok_M_ways am_nw_ok (As := [.int q11.1]) (rest := []) rfl rfl rfl oR_M_waysOf lk_M_275 sT_M_waysOf rfl (Nat.le_of_ble_eq_true rfl) (f_M_waysOf_ok (d := d) (by omega) q11.1 hq14) ?_
    change am_AW am_nw ro (d + 1) mr_M_ways 33 [some (.ref 63), some (.int (q3.2.1 67 0)), none, none] [.int q14.1] (S0, q14.2) (some (.int r)) (S0, m')
    refine am_AW.run am_base_ok ok_M_ways (Nat.le_add_left 1 d) 3 (pc1 := 36) (ls1 := [some (.ref 63), some (.int (q3.2.1 67 0)), some (.int q14.1), some (.int (0 : Int32))]) (st1 := []) (σ1 := (S0, q14.2)) rfl ?_
    exact am_AW.weak (f_M_ways_b36_ok hd (q3.2.1 67 0) q14.1 (0 : Int32)  h) (by simp only [am_le, and_self])
/-! FriezePolygonsModel.likes(I)I -/
def f_M_likes_b166 (k43 : Int32 → Int32 → Int32 → Int32 → Int32 → am_Mm → Option (Int32 × am_Mm)) (x1 : Int32) (x2 : Int32) (x3 : Int32) (x5 : Int32) (s0 : Int32) (s1 : Int32) (m : am_Mm) : Option (Int32 × am_Mm) :=
  k43 x1 x2 x3 (s0 + s1) (x5 + (1 : Int32)) m
def f_M_likes_b146 (k43 : Int32 → Int32 → Int32 → Int32 → Int32 → am_Mm → Option (Int32 × am_Mm)) (k112 : Int32 → Int32 → Int32 → Int32 → Int32 → Int32 → Int32 → am_Mm → Option (Int32 × am_Mm)) (x1 : Int32) (x2 : Int32) (x3 : Int32) (x4 : Int32) (x5 : Int32) (x7 : Int32) (s0 : Int32) (m : am_Mm) : Option (Int32 × am_Mm) :=
  k112 x1 x2 x3 x4 x5 s0 (x7 + (1 : Int32)) m
def f_M_likes_b112 (k43 : Int32 → Int32 → Int32 → Int32 → Int32 → am_Mm → Option (Int32 × am_Mm)) : Nat → Int32 → Int32 → Int32 → Int32 → Int32 → Int32 → Int32 → am_Mm → Option (Int32 × am_Mm)
  | 0, _, _, _, _, _, _, _, _ => none
  | n + 1, x1, x2, x3, x4, x5, x6, x7, m =>
    if x5 ≤ x7 then
      if x6 = (0 : Int32) then
        f_M_likes_b166 k43 x1 x2 x3 x5 x4 (0 : Int32) m
      else
        f_M_likes_b166 k43 x1 x2 x3 x5 x4 (1 : Int32) m
    else
      if x6 = (0 : Int32) then
        f_M_likes_b146 k43 (f_M_likes_b112 k43 n) x1 x2 x3 x4 x5 x7 (0 : Int32) m
      else
        if am_in x7 18 = true then
          if am_in x5 18 = true then
            if (m.1 73 x7.toNatClampNeg) = (m.1 73 x5.toNatClampNeg) then
              f_M_likes_b146 k43 (f_M_likes_b112 k43 n) x1 x2 x3 x4 x5 x7 (0 : Int32) m
            else
              f_M_likes_b146 k43 (f_M_likes_b112 k43 n) x1 x2 x3 x4 x5 x7 (1 : Int32) m
          else none
        else none
def f_M_likes_b105 (k43 : Int32 → Int32 → Int32 → Int32 → Int32 → am_Mm → Option (Int32 × am_Mm)) (x1 : Int32) (x2 : Int32) (x4 : Int32) (x5 : Int32) (s0 : Int32) (m : am_Mm) : Option (Int32 × am_Mm) :=
  f_M_likes_b112 k43 am_F x1 x2 s0 x4 x5 (1 : Int32) (0 : Int32) m
def f_M_likes_b79 (k43 : Int32 → Int32 → Int32 → Int32 → Int32 → am_Mm → Option (Int32 × am_Mm)) (x1 : Int32) (x2 : Int32) (x3 : Int32) (x4 : Int32) (x5 : Int32) (s1 : Int32) (s2 : Int32) (s3 : Int32) (s4 : Int32) (s5 : Int32) (m : am_Mm) : Option (Int32 × am_Mm) :=
  (f_M_turned s2 s3 s4 s5 m).bind fun q18 =>
  if am_in s1 18 = true then
    if am_in x5 18 = true then
      if x3 ≤ ((am_pI q18.2 73 s1.toNatClampNeg q18.1).1 73 x5.toNatClampNeg) then
        f_M_likes_b105 k43 x1 x2 x4 x5 x3 (am_pI q18.2 73 s1.toNatClampNeg q18.1)
      else
        if am_in x5 18 = true then
          f_M_likes_b105 k43 x1 x2 x4 x5 ((am_pI q18.2 73 s1.toNatClampNeg q18.1).1 73 x5.toNatClampNeg) (am_pI q18.2 73 s1.toNatClampNeg q18.1)
        else none
    else none
  else none
def f_M_likes_b43 : Nat → Int32 → Int32 → Int32 → Int32 → Int32 → am_Mm → Option (Int32 × am_Mm)
  | 0, _, _, _, _, _, _ => none
  | n + 1, x1, x2, x3, x4, x5, m =>
    if ((2 : Int32) * x2) ≤ x5 then
      if x1 = (0 : Int32) then
        some (x3, m)
      else
        some (x4, m)
    else
      if x2 = (0 : Int32) then none else
      if x5 < x2 then
        f_M_likes_b79 (f_M_likes_b43 n) x1 x2 x3 x4 x5 x5 x2 (m.1 67 1) (am_rem x5 x2) (0 : Int32) m
      else
        f_M_likes_b79 (f_M_likes_b43 n) x1 x2 x3 x4 x5 x5 x2 (m.1 67 1) (am_rem x5 x2) (1 : Int32) m
def f_M_likes (x1 : Int32) (m : am_Mm) : Option (Int32 × am_Mm) :=
  (f_M_isThere m).bind fun q3 =>
  if q3.1 = (0 : Int32) then
    some ((-1000002 : Int32), q3.2)
  else
    (f_M_in (x1.toInt64) (0 : Int64) (1 : Int64) q3.2).bind fun q7 =>
    if q7.1 = (0 : Int32) then
      some ((-1000001 : Int32), q7.2)
    else
      f_M_likes_b43 am_F x1 (q7.2.1 67 0) (q7.2.1 67 1) (0 : Int32) (0 : Int32) q7.2
set_option maxHeartbeats 4000000 in
set_option maxRecDepth 100000 in
theorem f_M_likes_b166_ok {ro : am_Ro} {d : Nat} (hd : 4 ≤ d + 1) {k43 : Int32 → Int32 → Int32 → Int32 → Int32 → am_Mm → Option (Int32 × am_Mm)} (hk43 : ∀ (x1 : Int32) (x2 : Int32) (x3 : Int32) (x4 : Int32) (x5 : Int32) (m m' : am_Mm) (r : Int32), k43 x1 x2 x3 x4 x5 m = some (r, m') → am_AW am_nw ro (d + 1) mr_M_likes 43 [some (.ref 63), some (.int x1), some (.int x2), some (.int x3), some (.int x4), some (.int x5), none, none] [] (S0, m) (some (.int r)) (S0, m')) (x1 : Int32) (x2 : Int32) (x3 : Int32) (x5 : Int32) (s0 : Int32) (s1 : Int32) {m m' : am_Mm} {r : Int32} (h : f_M_likes_b166 k43 x1 x2 x3 x5 s0 s1 m = some (r, m')) : am_AW am_nw ro (d + 1) mr_M_likes 166 [some (.ref 63), some (.int x1), some (.int x2), some (.int x3), none, some (.int x5), none, none] [.int s1, .int s0] (S0, m) (some (.int r)) (S0, m') := by
  unfold f_M_likes_b166 at h
  refine am_AW.run am_base_ok ok_M_likes (Nat.le_add_left 1 d) 4 (pc1 := 43) (ls1 := [some (.ref 63), some (.int x1), some (.int x2), some (.int x3), some (.int (s0 + s1)), some (.int (x5 + (1 : Int32))), none, none]) (st1 := []) (σ1 := (S0, m)) rfl ?_
  exact am_AW.weak (hk43 x1 x2 x3 (s0 + s1) (x5 + (1 : Int32))  _ _ _ h) (by simp only [am_le, and_self])
set_option maxHeartbeats 4000000 in
set_option maxRecDepth 100000 in
theorem f_M_likes_b146_ok {ro : am_Ro} {d : Nat} (hd : 4 ≤ d + 1) {k43 : Int32 → Int32 → Int32 → Int32 → Int32 → am_Mm → Option (Int32 × am_Mm)} (hk43 : ∀ (x1 : Int32) (x2 : Int32) (x3 : Int32) (x4 : Int32) (x5 : Int32) (m m' : am_Mm) (r : Int32), k43 x1 x2 x3 x4 x5 m = some (r, m') → am_AW am_nw ro (d + 1) mr_M_likes 43 [some (.ref 63), some (.int x1), some (.int x2), some (.int x3), some (.int x4), some (.int x5), none, none] [] (S0, m) (some (.int r)) (S0, m')) {k112 : Int32 → Int32 → Int32 → Int32 → Int32 → Int32 → Int32 → am_Mm → Option (Int32 × am_Mm)} (hk112 : ∀ (x1 : Int32) (x2 : Int32) (x3 : Int32) (x4 : Int32) (x5 : Int32) (x6 : Int32) (x7 : Int32) (m m' : am_Mm) (r : Int32), k112 x1 x2 x3 x4 x5 x6 x7 m = some (r, m') → am_AW am_nw ro (d + 1) mr_M_likes 112 [some (.ref 63), some (.int x1), some (.int x2), some (.int x3), some (.int x4), some (.int x5), some (.int x6), some (.int x7)] [] (S0, m) (some (.int r)) (S0, m')) (x1 : Int32) (x2 : Int32) (x3 : Int32) (x4 : Int32) (x5 : Int32) (x7 : Int32) (s0 : Int32) {m m' : am_Mm} {r : Int32} (h : f_M_likes_b146 k43 k112 x1 x2 x3 x4 x5 x7 s0 m = some (r, m')) : am_AW am_nw ro (d + 1) mr_M_likes 146 [some (.ref 63), some (.int x1), some (.int x2), some (.int x3), some (.int x4), some (.int x5), none, some (.int x7)] [.int s0] (S0, m) (some (.int r)) (S0, m') := by
  unfold f_M_likes_b146 at h
  refine am_AW.run am_base_ok ok_M_likes (Nat.le_add_left 1 d) 3 (pc1 := 112) (ls1 := [some (.ref 63), some (.int x1), some (.int x2), some (.int x3), some (.int x4), some (.int x5), some (.int s0), some (.int (x7 + (1 : Int32)))]) (st1 := []) (σ1 := (S0, m)) rfl ?_
  exact am_AW.weak (hk112 x1 x2 x3 x4 x5 s0 (x7 + (1 : Int32))  _ _ _ h) (by simp only [am_le, and_self])
set_option maxHeartbeats 4000000 in
set_option maxRecDepth 100000 in
theorem f_M_likes_b112_all {ro : am_Ro} {d : Nat} (hd : 4 ≤ d + 1) {k43 : Int32 → Int32 → Int32 → Int32 → Int32 → am_Mm → Option (Int32 × am_Mm)} (hk43 : ∀ (x1 : Int32) (x2 : Int32) (x3 : Int32) (x4 : Int32) (x5 : Int32) (m m' : am_Mm) (r : Int32), k43 x1 x2 x3 x4 x5 m = some (r, m') → am_AW am_nw ro (d + 1) mr_M_likes 43 [some (.ref 63), some (.int x1), some (.int x2), some (.int x3), some (.int x4), some (.int x5), none, none] [] (S0, m) (some (.int r)) (S0, m')) : ∀ (n : Nat) (x1 : Int32) (x2 : Int32) (x3 : Int32) (x4 : Int32) (x5 : Int32) (x6 : Int32) (x7 : Int32) (m m' : am_Mm) (r : Int32), f_M_likes_b112 k43 n x1 x2 x3 x4 x5 x6 x7 m = some (r, m') → am_AW am_nw ro (d + 1) mr_M_likes 112 [some (.ref 63), some (.int x1), some (.int x2), some (.int x3), some (.int x4), some (.int x5), some (.int x6), some (.int x7)] [] (S0, m) (some (.int r)) (S0, m') := by
  intro n
  induction n with
  | zero =>
    intro x1 x2 x3 x4 x5 x6 x7 m m' r h
    rw [f_M_likes_b112] at h
    cases h
  | succ n ih =>
    intro x1 x2 x3 x4 x5 x6 x7 m m' r h
    rw [f_M_likes_b112] at h
    refine am_AW.run am_base_ok ok_M_likes (Nat.le_add_left 1 d) 2 (pc1 := 116) (ls1 := [some (.ref 63), some (.int x1), some (.int x2), some (.int x3), some (.int x4), some (.int x5), some (.int x6), some (.int x7)]) (st1 := [.int x5, .int x7]) (σ1 := (S0, m)) rfl ?_
    refine am_AW.brP ok_M_likes rfl rfl am_c_ge (fun c22 => ?_) (fun c22 => ?_)
    · rw [if_pos c22] at h
      refine am_AW.run am_base_ok ok_M_likes (Nat.le_add_left 1 d) 2 (pc1 := 158) (ls1 := [some (.ref 63), some (.int x1), some (.int x2), some (.int x3), some (.int x4), some (.int x5), some (.int x6), some (.int x7)]) (st1 := [.int x6, .int x4]) (σ1 := (S0, m)) rfl ?_
      refine am_AW.brP ok_M_likes rfl rfl am_c_eq (fun c23 => ?_) (fun c23 => ?_)
      · rw [if_pos c23] at h
        refine am_AW.run am_base_ok ok_M_likes (Nat.le_add_left 1 d) 1 (pc1 := 166) (ls1 := [some (.ref 63), some (.int x1), some (.int x2), some (.int x3), some (.int x4), some (.int x5), some (.int x6), some (.int x7)]) (st1 := [.int (0 : Int32), .int x4]) (σ1 := (S0, m)) rfl ?_
        exact am_AW.weak (f_M_likes_b166_ok hd (hk43) x1 x2 x3 x5 x4 (0 : Int32)  h) (by simp only [am_le, and_self])
      · rw [if_neg c23] at h
        refine am_AW.run am_base_ok ok_M_likes (Nat.le_add_left 1 d) 2 (pc1 := 166) (ls1 := [some (.ref 63), some (.int x1), some (.int x2), some (.int x3), some (.int x4), some (.int x5), some (.int x6), some (.int x7)]) (st1 := [.int (1 : Int32), .int x4]) (σ1 := (S0, m)) rfl ?_
        exact am_AW.weak (f_M_likes_b166_ok hd (hk43) x1 x2 x3 x5 x4 (1 : Int32)  h) (by simp only [am_le, and_self])
    · rw [if_neg c22] at h
      refine am_AW.run am_base_ok ok_M_likes (Nat.le_add_left 1 d) 1 (pc1 := 121) (ls1 := [some (.ref 63), some (.int x1), some (.int x2), some (.int x3), some (.int x4), some (.int x5), some (.int x6), some (.int x7)]) (st1 := [.int x6]) (σ1 := (S0, m)) rfl ?_
      refine am_AW.brP ok_M_likes rfl rfl am_c_eq (fun c24 => ?_) (fun c24 => ?_)
      · rw [if_pos c24] at h
        refine am_AW.run am_base_ok ok_M_likes (Nat.le_add_left 1 d) 1 (pc1 := 146) (ls1 := [some (.ref 63), some (.int x1), some (.int x2), some (.int x3), some (.int x4), some (.int x5), some (.int x6), some (.int x7)]) (st1 := [.int (0 : Int32)]) (σ1 := (S0, m)) rfl ?_
        exact am_AW.weak (f_M_likes_b146_ok hd (hk43) (ih) x1 x2 x3 x4 x5 x7 (0 : Int32)  h) (by simp only [am_le, and_self])
      · rw [if_neg c24] at h
        refine am_AW.run am_base_ok ok_M_likes (Nat.le_add_left 1 d) 3 (pc1 := 130) (ls1 := [some (.ref 63), some (.int x1), some (.int x2), some (.int x3), some (.int x4), some (.int x5), some (.int x6), some (.int x7)]) (st1 := [.int x7, .ref 73]) (σ1 := (S0, m)) rfl ?_
        by_cases g25 : am_in x7 18 = true
        rotate_left
        · rw [if_neg g25] at h
          cases h
        rw [if_pos g25] at h
        refine am_AW.iald ok_M_likes (Nat.le_add_left 1 d) S0_len rfl rfl g25 ?_
        refine am_AW.run am_base_ok ok_M_likes (Nat.le_add_left 1 d) 3 (pc1 := 137) (ls1 := [some (.ref 63), some (.int x1), some (.int x2), some (.int x3), some (.int x4), some (.int x5), some (.int x6), some (.int x7)]) (st1 := [.int x5, .ref 73, .int (m.1 73 x7.toNatClampNeg)]) (σ1 := (S0, m)) rfl ?_
        by_cases g26 : am_in x5 18 = true
        rotate_left
        · rw [if_neg g26] at h
          cases h
        rw [if_pos g26] at h
        refine am_AW.iald ok_M_likes (Nat.le_add_left 1 d) S0_len rfl rfl g26 ?_
        refine am_AW.brP ok_M_likes rfl rfl am_c_eq (fun c27 => ?_) (fun c27 => ?_)
        · rw [if_pos c27] at h
          refine am_AW.run am_base_ok ok_M_likes (Nat.le_add_left 1 d) 1 (pc1 := 146) (ls1 := [some (.ref 63), some (.int x1), some (.int x2), some (.int x3), some (.int x4), some (.int x5), some (.int x6), some (.int x7)]) (st1 := [.int (0 : Int32)]) (σ1 := (S0, m)) rfl ?_
          exact am_AW.weak (f_M_likes_b146_ok hd (hk43) (ih) x1 x2 x3 x4 x5 x7 (0 : Int32)  h) (by simp only [am_le, and_self])
        · rw [if_neg c27] at h
          refine am_AW.run am_base_ok ok_M_likes (Nat.le_add_left 1 d) 2 (pc1 := 146) (ls1 := [some (.ref 63), some (.int x1), some (.int x2), some (.int x3), some (.int x4), some (.int x5), some (.int x6), some (.int x7)]) (st1 := [.int (1 : Int32)]) (σ1 := (S0, m)) rfl ?_
          exact am_AW.weak (f_M_likes_b146_ok hd (hk43) (ih) x1 x2 x3 x4 x5 x7 (1 : Int32)  h) (by simp only [am_le, and_self])
set_option maxHeartbeats 4000000 in
set_option maxRecDepth 100000 in
theorem f_M_likes_b112_ok {ro : am_Ro} {d : Nat} (hd : 4 ≤ d + 1) {k43 : Int32 → Int32 → Int32 → Int32 → Int32 → am_Mm → Option (Int32 × am_Mm)} (hk43 : ∀ (x1 : Int32) (x2 : Int32) (x3 : Int32) (x4 : Int32) (x5 : Int32) (m m' : am_Mm) (r : Int32), k43 x1 x2 x3 x4 x5 m = some (r, m') → am_AW am_nw ro (d + 1) mr_M_likes 43 [some (.ref 63), some (.int x1), some (.int x2), some (.int x3), some (.int x4), some (.int x5), none, none] [] (S0, m) (some (.int r)) (S0, m')) (x1 : Int32) (x2 : Int32) (x3 : Int32) (x4 : Int32) (x5 : Int32) (x6 : Int32) (x7 : Int32) {m m' : am_Mm} {r : Int32} {n : Nat} (h : f_M_likes_b112 k43 n x1 x2 x3 x4 x5 x6 x7 m = some (r, m')) : am_AW am_nw ro (d + 1) mr_M_likes 112 [some (.ref 63), some (.int x1), some (.int x2), some (.int x3), some (.int x4), some (.int x5), some (.int x6), some (.int x7)] [] (S0, m) (some (.int r)) (S0, m') :=
  f_M_likes_b112_all hd hk43 n x1 x2 x3 x4 x5 x6 x7  m m' r h
set_option maxHeartbeats 4000000 in
set_option maxRecDepth 100000 in
theorem f_M_likes_b105_ok {ro : am_Ro} {d : Nat} (hd : 4 ≤ d + 1) {k43 : Int32 → Int32 → Int32 → Int32 → Int32 → am_Mm → Option (Int32 × am_Mm)} (hk43 : ∀ (x1 : Int32) (x2 : Int32) (x3 : Int32) (x4 : Int32) (x5 : Int32) (m m' : am_Mm) (r : Int32), k43 x1 x2 x3 x4 x5 m = some (r, m') → am_AW am_nw ro (d + 1) mr_M_likes 43 [some (.ref 63), some (.int x1), some (.int x2), some (.int x3), some (.int x4), some (.int x5), none, none] [] (S0, m) (some (.int r)) (S0, m')) (x1 : Int32) (x2 : Int32) (x4 : Int32) (x5 : Int32) (s0 : Int32) {m m' : am_Mm} {r : Int32} (h : f_M_likes_b105 k43 x1 x2 x4 x5 s0 m = some (r, m')) : am_AW am_nw ro (d + 1) mr_M_likes 105 [some (.ref 63), some (.int x1), some (.int x2), none, some (.int x4), some (.int x5), none, none] [.int s0] (S0, m) (some (.int r)) (S0, m') := by
  unfold f_M_likes_b105 at h
  refine am_AW.run am_base_ok ok_M_likes (Nat.le_add_left 1 d) 5 (pc1 := 112) (ls1 := [some (.ref 63), some (.int x1), some (.int x2), some (.int s0), some (.int x4), some (.int x5), some (.int (1 : Int32)), some (.int (0 : Int32))]) (st1 := []) (σ1 := (S0, m)) rfl ?_
  exact am_AW.weak (f_M_likes_b112_ok hd (hk43) x1 x2 s0 x4 x5 (1 : Int32) (0 : Int32)  h) (by simp only [am_le, and_self])
set_option maxHeartbeats 4000000 in
set_option maxRecDepth 100000 in
theorem f_M_likes_b79_ok {ro : am_Ro} {d : Nat} (hd : 4 ≤ d + 1) {k43 : Int32 → Int32 → Int32 → Int32 → Int32 → am_Mm → Option (Int32 × am_Mm)} (hk43 : ∀ (x1 : Int32) (x2 : Int32) (x3 : Int32) (x4 : Int32) (x5 : Int32) (m m' : am_Mm) (r : Int32), k43 x1 x2 x3 x4 x5 m = some (r, m') → am_AW am_nw ro (d + 1) mr_M_likes 43 [some (.ref 63), some (.int x1), some (.int x2), some (.int x3), some (.int x4), some (.int x5), none, none] [] (S0, m) (some (.int r)) (S0, m')) (x1 : Int32) (x2 : Int32) (x3 : Int32) (x4 : Int32) (x5 : Int32) (s1 : Int32) (s2 : Int32) (s3 : Int32) (s4 : Int32) (s5 : Int32) {m m' : am_Mm} {r : Int32} (h : f_M_likes_b79 k43 x1 x2 x3 x4 x5 s1 s2 s3 s4 s5 m = some (r, m')) : am_AW am_nw ro (d + 1) mr_M_likes 79 [some (.ref 63), some (.int x1), some (.int x2), some (.int x3), some (.int x4), some (.int x5), none, none] [.int s5, .int s4, .int s3, .int s2, .int s1, .ref 73] (S0, m) (some (.int r)) (S0, m') := by
  unfold f_M_likes_b79 at h
  obtain ⟨q18, hq18, h⟩ := Option.bind_eq_some_iff.mp h
  refine am_AW.callS ok_M_likes am_nw_ok (As := [.int s2, .int s3, .int s4, .int s5]) (rest := [.int s1, .ref 73]) rfl rfl rfl oR_M_turned lk_M_207 sT_M_turned rfl (Nat.le_of_ble_eq_true rfl) (f_M_turned_ok (d := d) (by omega) s2 s3 s4 s5 hq18) ?_
  change am_AW am_nw ro (d + 1) mr_M_likes 82 [some (.ref 63), some (.int x1), some (.int x2), some (.int x3), some (.int x4), some (.int x5), none, none] [.int q18.1, .int s1, .ref 73] (S0, q18.2) (some (.int r)) (S0, m')
  by_cases g19 : am_in s1 18 = true
  rotate_left
  · rw [if_neg g19] at h
    cases h
  rw [if_pos g19] at h
  refine am_AW.iast ok_M_likes (Nat.le_add_left 1 d) rfl rfl g19 ?_
  change am_AW am_nw ro (d + 1) mr_M_likes 83 [some (.ref 63), some (.int x1), some (.int x2), some (.int x3), some (.int x4), some (.int x5), none, none] [] (S0, (am_pI q18.2 73 s1.toNatClampNeg q18.1)) (some (.int r)) (S0, m')
  refine am_AW.run am_base_ok ok_M_likes (Nat.le_add_left 1 d) 3 (pc1 := 89) (ls1 := [some (.ref 63), some (.int x1), some (.int x2), some (.int x3), some (.int x4), some (.int x5), none, none]) (st1 := [.int x5, .ref 73]) (σ1 := (S0, (am_pI q18.2 73 s1.toNatClampNeg q18.1))) rfl ?_
  by_cases g20 : am_in x5 18 = true
  rotate_left
  · rw [if_neg g20] at h
    cases h
  rw [if_pos g20] at h
  refine am_AW.iald ok_M_likes (Nat.le_add_left 1 d) S0_len rfl rfl g20 ?_
  refine am_AW.run am_base_ok ok_M_likes (Nat.le_add_left 1 d) 1 (pc1 := 91) (ls1 := [some (.ref 63), some (.int x1), some (.int x2), some (.int x3), some (.int x4), some (.int x5), none, none]) (st1 := [.int x3, .int ((am_pI q18.2 73 s1.toNatClampNeg q18.1).1 73 x5.toNatClampNeg)]) (σ1 := (S0, (am_pI q18.2 73 s1.toNatClampNeg q18.1))) rfl ?_
  refine am_AW.brP ok_M_likes rfl rfl am_c_ge (fun c21 => ?_) (fun c21 => ?_)
  · rw [if_pos c21] at h
    refine am_AW.run am_base_ok ok_M_likes (Nat.le_add_left 1 d) 1 (pc1 := 105) (ls1 := [some (.ref 63), some (.int x1), some (.int x2), some (.int x3), some (.int x4), some (.int x5), none, none]) (st1 := [.int x3]) (σ1 := (S0, (am_pI q18.2 73 s1.toNatClampNeg q18.1))) rfl ?_
    exact am_AW.weak (f_M_likes_b105_ok hd (hk43) x1 x2 x4 x5 x3  h) (by simp only [am_le, and_self])
  · rw [if_neg c21] at h
    refine am_AW.run am_base_ok ok_M_likes (Nat.le_add_left 1 d) 3 (pc1 := 100) (ls1 := [some (.ref 63), some (.int x1), some (.int x2), some (.int x3), some (.int x4), some (.int x5), none, none]) (st1 := [.int x5, .ref 73]) (σ1 := (S0, (am_pI q18.2 73 s1.toNatClampNeg q18.1))) rfl ?_
    by_cases g28 : am_in x5 18 = true
    rotate_left
    · rw [if_neg g28] at h
      cases h
    rw [if_pos g28] at h
    refine am_AW.iald ok_M_likes (Nat.le_add_left 1 d) S0_len rfl rfl g28 ?_
    refine am_AW.run am_base_ok ok_M_likes (Nat.le_add_left 1 d) 1 (pc1 := 105) (ls1 := [some (.ref 63), some (.int x1), some (.int x2), some (.int x3), some (.int x4), some (.int x5), none, none]) (st1 := [.int ((am_pI q18.2 73 s1.toNatClampNeg q18.1).1 73 x5.toNatClampNeg)]) (σ1 := (S0, (am_pI q18.2 73 s1.toNatClampNeg q18.1))) rfl ?_
    exact am_AW.weak (f_M_likes_b105_ok hd (hk43) x1 x2 x4 x5 ((am_pI q18.2 73 s1.toNatClampNeg q18.1).1 73 x5.toNatClampNeg)  h) (by simp only [am_le, and_self])
set_option maxHeartbeats 4000000 in
set_option maxRecDepth 100000 in
theorem f_M_likes_b43_all {ro : am_Ro} {d : Nat} (hd : 4 ≤ d + 1) : ∀ (n : Nat) (x1 : Int32) (x2 : Int32) (x3 : Int32) (x4 : Int32) (x5 : Int32) (m m' : am_Mm) (r : Int32), f_M_likes_b43 n x1 x2 x3 x4 x5 m = some (r, m') → am_AW am_nw ro (d + 1) mr_M_likes 43 [some (.ref 63), some (.int x1), some (.int x2), some (.int x3), some (.int x4), some (.int x5), none, none] [] (S0, m) (some (.int r)) (S0, m') := by
  intro n
  induction n with
  | zero =>
    intro x1 x2 x3 x4 x5 m m' r h
    rw [f_M_likes_b43] at h
    cases h
  | succ n ih =>
    intro x1 x2 x3 x4 x5 m m' r h
    rw [f_M_likes_b43] at h
    refine am_AW.run am_base_ok ok_M_likes (Nat.le_add_left 1 d) 4 (pc1 := 48) (ls1 := [some (.ref 63), some (.int x1), some (.int x2), some (.int x3), some (.int x4), some (.int x5), none, none]) (st1 := [.int ((2 : Int32) * x2), .int x5]) (σ1 := (S0, m)) rfl ?_
    refine am_AW.brP ok_M_likes rfl rfl am_c_ge (fun c11 => ?_) (fun c11 => ?_)
    · rw [if_pos c11] at h
      refine am_AW.run am_base_ok ok_M_likes (Nat.le_add_left 1 d) 1 (pc1 := 176) (ls1 := [some (.ref 63), some (.int x1), some (.int x2), some (.int x3), some (.int x4), some (.int x5), none, none]) (st1 := [.int x1]) (σ1 := (S0, m)) rfl ?_
      refine am_AW.brN ok_M_likes rfl rfl am_c_ne (fun c12 => ?_) (fun c12 => ?_)
      · rw [if_pos c12] at h
        refine am_AW.run am_base_ok ok_M_likes (Nat.le_add_left 1 d) 2 (pc1 := 185) (ls1 := [some (.ref 63), some (.int x1), some (.int x2), some (.int x3), some (.int x4), some (.int x5), none, none]) (st1 := [.int x3]) (σ1 := (S0, m)) rfl ?_
        obtain ⟨rfl, rfl⟩ := Prod.mk.inj (Option.some.inj h)
        exact am_AW.ret ok_M_likes rfl rfl rfl rfl
      · rw [if_neg c12] at h
        refine am_AW.run am_base_ok ok_M_likes (Nat.le_add_left 1 d) 1 (pc1 := 185) (ls1 := [some (.ref 63), some (.int x1), some (.int x2), some (.int x3), some (.int x4), some (.int x5), none, none]) (st1 := [.int x4]) (σ1 := (S0, m)) rfl ?_
        obtain ⟨rfl, rfl⟩ := Prod.mk.inj (Option.some.inj h)
        exact am_AW.ret ok_M_likes rfl rfl rfl rfl
    · rw [if_neg c11] at h
      refine am_AW.run am_base_ok ok_M_likes (Nat.le_add_left 1 d) 7 (pc1 := 63) (ls1 := [some (.ref 63), some (.int x1), some (.int x2), some (.int x3), some (.int x4), some (.int x5), none, none]) (st1 := [.int (1 : Int32), .ref 67, .int x2, .int x5, .ref 73]) (σ1 := (S0, m)) rfl ?_
      refine am_AW.iald ok_M_likes (Nat.le_add_left 1 d) S0_len rfl rfl (by decide) ?_
      change am_AW am_nw ro (d + 1) mr_M_likes 64 [some (.ref 63), some (.int x1), some (.int x2), some (.int x3), some (.int x4), some (.int x5), none, none] [.int (m.1 67 1), .int x2, .int x5, .ref 73] (S0, m) (some (.int r)) (S0, m')
      refine am_AW.run am_base_ok ok_M_likes (Nat.le_add_left 1 d) 2 (pc1 := 67) (ls1 := [some (.ref 63), some (.int x1), some (.int x2), some (.int x3), some (.int x4), some (.int x5), none, none]) (st1 := [.int x2, .int x5, .int (m.1 67 1), .int x2, .int x5, .ref 73]) (σ1 := (S0, m)) rfl ?_
      by_cases g14 : x2 = (0 : Int32)
      · rw [if_pos g14] at h
        cases h
      rw [if_neg g14] at h
      refine am_AW.dvi ok_M_likes (Nat.le_add_left 1 d) (w := (am_rem x5 x2)) (Or.inr ⟨rfl, rfl⟩) rfl g14 ?_
      refine am_AW.run am_base_ok ok_M_likes (Nat.le_add_left 1 d) 2 (pc1 := 71) (ls1 := [some (.ref 63), some (.int x1), some (.int x2), some (.int x3), some (.int x4), some (.int x5), none, none]) (st1 := [.int x2, .int x5, .int (am_rem x5 x2), .int (m.1 67 1), .int x2, .int x5, .ref 73]) (σ1 := (S0, m)) rfl ?_
      refine am_AW.brP ok_M_likes rfl rfl am_c_lt (fun c15 => ?_) (fun c15 => ?_)
      · rw [if_pos c15] at h
        refine am_AW.run am_base_ok ok_M_likes (Nat.le_add_left 1 d) 1 (pc1 := 79) (ls1 := [some (.ref 63), some (.int x1), some (.int x2), some (.int x3), some (.int x4), some (.int x5), none, none]) (st1 := [.int (0 : Int32), .int (am_rem x5 x2), .int (m.1 67 1), .int x2, .int x5, .ref 73]) (σ1 := (S0, m)) rfl ?_
        exact am_AW.weak (f_M_likes_b79_ok hd (ih) x1 x2 x3 x4 x5 x5 x2 (m.1 67 1) (am_rem x5 x2) (0 : Int32)  h) (by simp only [am_le, and_self])
      · rw [if_neg c15] at h
        refine am_AW.run am_base_ok ok_M_likes (Nat.le_add_left 1 d) 2 (pc1 := 79) (ls1 := [some (.ref 63), some (.int x1), some (.int x2), some (.int x3), some (.int x4), some (.int x5), none, none]) (st1 := [.int (1 : Int32), .int (am_rem x5 x2), .int (m.1 67 1), .int x2, .int x5, .ref 73]) (σ1 := (S0, m)) rfl ?_
        exact am_AW.weak (f_M_likes_b79_ok hd (ih) x1 x2 x3 x4 x5 x5 x2 (m.1 67 1) (am_rem x5 x2) (1 : Int32)  h) (by simp only [am_le, and_self])
set_option maxHeartbeats 4000000 in
set_option maxRecDepth 100000 in
theorem f_M_likes_b43_ok {ro : am_Ro} {d : Nat} (hd : 4 ≤ d + 1) (x1 : Int32) (x2 : Int32) (x3 : Int32) (x4 : Int32) (x5 : Int32) {m m' : am_Mm} {r : Int32} {n : Nat} (h : f_M_likes_b43 n x1 x2 x3 x4 x5 m = some (r, m')) : am_AW am_nw ro (d + 1) mr_M_likes 43 [some (.ref 63), some (.int x1), some (.int x2), some (.int x3), some (.int x4), some (.int x5), none, none] [] (S0, m) (some (.int r)) (S0, m') :=
  f_M_likes_b43_all hd n x1 x2 x3 x4 x5  m m' r h
set_option maxHeartbeats 4000000 in
set_option maxRecDepth 100000 in
theorem f_M_likes_ok {ro : am_Ro} {d : Nat} (hd : 4 ≤ d) (x1 : Int32) {m m' : am_Mm} {r : Int32} (h : f_M_likes x1 m = some (r, m')) : am_Mt am_nw ro d mr_M_likes [.ref 63, .int x1] (S0, m) (some (.int r)) (S0, m') := by
  obtain ⟨d, rfl⟩ : ∃ d0, d = d0 + 1 := ⟨d - 1, by omega⟩
  refine am_Mt.of (by decide +kernel) (Nat.le_of_ble_eq_true rfl) ?_
  change am_AW am_nw ro (d + 1) mr_M_likes 0 [some (.ref 63), some (.int x1), none, none, none, none, none, none] [] (S0, m) (some (.int r)) (S0, m')
  unfold f_M_likes at h
  refine am_AW.run am_base_ok ok_M_likes (Nat.le_add_left 1 d) 1 (pc1 := 1) (ls1 := [some (.ref 63), some (.int x1), none, none, none, none, none, none]) (st1 := [.ref 63]) (σ1 := (S0, m)) rfl ?_
  obtain ⟨q3, hq3, h⟩ := Option.bind_eq_some_iff.mp h
  refine am_AW.callV ok_M_likes am_nw_ok (As := []) (rest := []) rfl rfl rfl oR_M_isThere lk_M_188 iM_M_isThere sE_M_isThere (qc := kq10) rfl rfl rfl rfl (Nat.le_of_ble_eq_true rfl) (f_M_isThere_ok (d := d) (by omega)  hq3) ?_
  change am_AW am_nw ro (d + 1) mr_M_likes 4 [some (.ref 63), some (.int x1), none, none, none, none, none, none] [.int q3.1] (S0, q3.2) (some (.int r)) (S0, m')
  refine am_AW.brN ok_M_likes rfl rfl am_c_ne (fun c4 => ?_) (fun c4 => ?_)
  · rw [if_pos c4] at h
    refine am_AW.run am_base_ok ok_M_likes (Nat.le_add_left 1 d) 1 (pc1 := 9) (ls1 := [some (.ref 63), some (.int x1), none, none, none, none, none, none]) (st1 := [.int (-1000002 : Int32)]) (σ1 := (S0, q3.2)) rfl ?_
    obtain ⟨rfl, rfl⟩ := Prod.mk.inj (Option.some.inj h)
    exact am_AW.ret ok_M_likes rfl rfl rfl rfl
  · rw [if_neg c4] at h
    refine am_AW.run am_base_ok ok_M_likes (Nat.le_add_left 1 d) 4 (pc1 := 14) (ls1 := [some (.ref 63), some (.int x1), none, none, none, none, none, none]) (st1 := [.long (1 : Int64), .long (0 : Int64), .long (x1.toInt64)]) (σ1 := (S0, q3.2)) rfl ?_
    obtain ⟨q7, hq7, h⟩ := Option.bind_eq_some_iff.mp h
    refine am_AW.callS ok_M_likes am_nw_ok (As := [.long (x1.toInt64), .long (0 : Int64), .long (1 : Int64)]) (rest := []) rfl rfl rfl oR_M_in lk_M_60 sT_M_in rfl (Nat.le_of_ble_eq_true rfl) (f_M_in_ok (d := d) (by omega) (x1.toInt64) (0 : Int64) (1 : Int64) hq7) ?_
    change am_AW am_nw ro (d + 1) mr_M_likes 17 [some (.ref 63), some (.int x1), none, none, none, none, none, none] [.int q7.1] (S0, q7.2) (some (.int r)) (S0, m')
    refine am_AW.brN ok_M_likes rfl rfl am_c_ne (fun c8 => ?_) (fun c8 => ?_)
    · rw [if_pos c8] at h
      refine am_AW.run am_base_ok ok_M_likes (Nat.le_add_left 1 d) 1 (pc1 := 22) (ls1 := [some (.ref 63), some (.int x1), none, none, none, none, none, none]) (st1 := [.int (-1000001 : Int32)]) (σ1 := (S0, q7.2)) rfl ?_
      obtain ⟨rfl, rfl⟩ := Prod.mk.inj (Option.some.inj h)
      exact am_AW.ret ok_M_likes rfl rfl rfl rfl
    · rw [if_neg c8] at h
      refine am_AW.run am_base_ok ok_M_likes (Nat.le_add_left 1 d) 3 (pc1 := 28) (ls1 := [some (.ref 63), some (.int x1), none, none, none, none, none, none]) (st1 := [.int (0 : Int32), .ref 67]) (σ1 := (S0, q7.2)) rfl ?_
      refine am_AW.iald ok_M_likes (Nat.le_add_left 1 d) S0_len rfl rfl (by decide) ?_
      change am_AW am_nw ro (d + 1) mr_M_likes 29 [some (.ref 63), some (.int x1), none, none, none, none, none, none] [.int (q7.2.1 67 0)] (S0, q7.2) (some (.int r)) (S0, m')
      refine am_AW.run am_base_ok ok_M_likes (Nat.le_add_left 1 d) 4 (pc1 := 35) (ls1 := [some (.ref 63), some (.int x1), some (.int (q7.2.1 67 0)), none, none, none, none, none]) (st1 := [.int (1 : Int32), .ref 67]) (σ1 := (S0, q7.2)) rfl ?_
      refine am_AW.iald ok_M_likes (Nat.le_add_left 1 d) S0_len rfl rfl (by decide) ?_
      change am_AW am_nw ro (d + 1) mr_M_likes 36 [some (.ref 63), some (.int x1), some (.int (q7.2.1 67 0)), none, none, none, none, none] [.int (q7.2.1 67 1)] (S0, q7.2) (some (.int r)) (S0, m')
      refine am_AW.run am_base_ok ok_M_likes (Nat.le_add_left 1 d) 5 (pc1 := 43) (ls1 := [some (.ref 63), some (.int x1), some (.int (q7.2.1 67 0)), some (.int (q7.2.1 67 1)), some (.int (0 : Int32)), some (.int (0 : Int32)), none, none]) (st1 := []) (σ1 := (S0, q7.2)) rfl ?_
      exact am_AW.weak (f_M_likes_b43_ok hd x1 (q7.2.1 67 0) (q7.2.1 67 1) (0 : Int32) (0 : Int32)  h) (by simp only [am_le, and_self])
/-! FriezePolygonsModel.greatest([I)I -/
def f_M_greatest_b65 (k17 : Int32 → Int32 → Int32 → am_Mm → Option (Int32 × am_Mm)) (x1 : Int32) (x3 : Int32) (s0 : Int32) (m : am_Mm) : Option (Int32 × am_Mm) :=
  k17 x1 s0 (x3 + (1 : Int32)) m
def f_M_greatest_b51 (k17 : Int32 → Int32 → Int32 → am_Mm → Option (Int32 × am_Mm)) (x1 : Int32) (x2 : Int32) (x3 : Int32) (s0 : Int32) (m : am_Mm) : Option (Int32 × am_Mm) :=
  if s0 ≤ x2 then
    f_M_greatest_b65 k17 x1 x3 x2 m
  else
    f_M_greatest_b65 k17 x1 x3 s0 m
def f_M_greatest_b17 : Nat → Int32 → Int32 → Int32 → am_Mm → Option (Int32 × am_Mm)
  | 0, _, _, _, _ => none
  | n + 1, x1, x2, x3, m =>
    (f_M_manyCuts x1 m).bind fun q10 =>
    if q10.1 ≤ x3 then
      some (x2, q10.2)
    else
      (f_M_has (q10.2.1 69 1) x3 q10.2).bind fun q15 =>
      if q15.1 = (0 : Int32) then
        f_M_greatest_b51 (f_M_greatest_b17 n) x1 x2 x3 (0 : Int32) q15.2
      else
        (f_M_endsOf x1 x3 q15.2).bind fun q20 =>
        (f_M_pieceUnder 69 q20.1 q20.2).bind fun q23 =>
        (f_M_sizeOf q23.1 q23.2).bind fun q26 =>
        f_M_greatest_b51 (f_M_greatest_b17 n) x1 x2 x3 q26.1 q26.2
def f_M_greatest (m : am_Mm) : Option (Int32 × am_Mm) :=
  (f_M_pieceUnder 69 ((m.1 69 0) - (1 : Int32)) m).bind fun q4 =>
  (f_M_sizeOf q4.1 q4.2).bind fun q7 =>
  f_M_greatest_b17 am_F (m.1 69 0) q7.1 (0 : Int32) q7.2
set_option maxHeartbeats 4000000 in
set_option maxRecDepth 100000 in
theorem f_M_greatest_b65_ok {ro : am_Ro} {d : Nat} (hd : 4 ≤ d + 1) {k17 : Int32 → Int32 → Int32 → am_Mm → Option (Int32 × am_Mm)} (hk17 : ∀ (x1 : Int32) (x2 : Int32) (x3 : Int32) (m m' : am_Mm) (r : Int32), k17 x1 x2 x3 m = some (r, m') → am_AW am_nw ro (d + 1) mr_M_greatest 17 [some (.ref 69), some (.int x1), some (.int x2), some (.int x3), none] [] (S0, m) (some (.int r)) (S0, m')) (x1 : Int32) (x3 : Int32) (s0 : Int32) {m m' : am_Mm} {r : Int32} (h : f_M_greatest_b65 k17 x1 x3 s0 m = some (r, m')) : am_AW am_nw ro (d + 1) mr_M_greatest 65 [some (.ref 69), some (.int x1), none, some (.int x3), none] [.int s0] (S0, m) (some (.int r)) (S0, m') := by
  unfold f_M_greatest_b65 at h
  refine am_AW.run am_base_ok ok_M_greatest (Nat.le_add_left 1 d) 3 (pc1 := 17) (ls1 := [some (.ref 69), some (.int x1), some (.int s0), some (.int (x3 + (1 : Int32))), none]) (st1 := []) (σ1 := (S0, m)) rfl ?_
  exact am_AW.weak (hk17 x1 s0 (x3 + (1 : Int32))  _ _ _ h) (by simp only [am_le, and_self])
set_option maxHeartbeats 4000000 in
set_option maxRecDepth 100000 in
theorem f_M_greatest_b51_ok {ro : am_Ro} {d : Nat} (hd : 4 ≤ d + 1) {k17 : Int32 → Int32 → Int32 → am_Mm → Option (Int32 × am_Mm)} (hk17 : ∀ (x1 : Int32) (x2 : Int32) (x3 : Int32) (m m' : am_Mm) (r : Int32), k17 x1 x2 x3 m = some (r, m') → am_AW am_nw ro (d + 1) mr_M_greatest 17 [some (.ref 69), some (.int x1), some (.int x2), some (.int x3), none] [] (S0, m) (some (.int r)) (S0, m')) (x1 : Int32) (x2 : Int32) (x3 : Int32) (s0 : Int32) {m m' : am_Mm} {r : Int32} (h : f_M_greatest_b51 k17 x1 x2 x3 s0 m = some (r, m')) : am_AW am_nw ro (d + 1) mr_M_greatest 51 [some (.ref 69), some (.int x1), some (.int x2), some (.int x3), none] [.int s0] (S0, m) (some (.int r)) (S0, m') := by
  unfold f_M_greatest_b51 at h
  refine am_AW.run am_base_ok ok_M_greatest (Nat.le_add_left 1 d) 3 (pc1 := 56) (ls1 := [some (.ref 69), some (.int x1), some (.int x2), some (.int x3), some (.int s0)]) (st1 := [.int x2, .int s0]) (σ1 := (S0, m)) rfl ?_
  refine am_AW.brP ok_M_greatest rfl rfl am_c_le (fun c17 => ?_) (fun c17 => ?_)
  · rw [if_pos c17] at h
    refine am_AW.run am_base_ok ok_M_greatest (Nat.le_add_left 1 d) 1 (pc1 := 65) (ls1 := [some (.ref 69), some (.int x1), some (.int x2), some (.int x3), some (.int s0)]) (st1 := [.int x2]) (σ1 := (S0, m)) rfl ?_
    exact am_AW.weak (f_M_greatest_b65_ok hd (hk17) x1 x3 x2  h) (by simp only [am_le, and_self])
  · rw [if_neg c17] at h
    refine am_AW.run am_base_ok ok_M_greatest (Nat.le_add_left 1 d) 2 (pc1 := 65) (ls1 := [some (.ref 69), some (.int x1), some (.int x2), some (.int x3), some (.int s0)]) (st1 := [.int s0]) (σ1 := (S0, m)) rfl ?_
    exact am_AW.weak (f_M_greatest_b65_ok hd (hk17) x1 x3 s0  h) (by simp only [am_le, and_self])
set_option maxHeartbeats 4000000 in
set_option maxRecDepth 100000 in
theorem f_M_greatest_b17_all {ro : am_Ro} {d : Nat} (hd : 4 ≤ d + 1) : ∀ (n : Nat) (x1 : Int32) (x2 : Int32) (x3 : Int32) (m m' : am_Mm) (r : Int32), f_M_greatest_b17 n x1 x2 x3 m = some (r, m') → am_AW am_nw ro (d + 1) mr_M_greatest 17 [some (.ref 69), some (.int x1), some (.int x2), some (.int x3), none] [] (S0, m) (some (.int r)) (S0, m') := by
  intro n
  induction n with
  | zero =>
    intro x1 x2 x3 m m' r h
    rw [f_M_greatest_b17] at h
    cases h
  | succ n ih =>
    intro x1 x2 x3 m m' r h
    rw [f_M_greatest_b17] at h
    refine am_AW.run am_base_ok ok_M_greatest (Nat.le_add_left 1 d) 2 (pc1 := 19) (ls1 := [some (.ref 69), some (.int x1), some (.int x2), some (.int x3), none]) (st1 := [.int x1, .int x3]) (σ1 := (S0, m)) rfl ?_
    obtain ⟨q10, hq10, h⟩ := Option.bind_eq_some_iff.mp h
    refine am_AW.callS ok_M_greatest am_nw_ok (As := [.int x1]) (rest := [.int x3]) rfl rfl rfl oR_M_manyCuts lk_M_87 sT_M_manyCuts rfl (Nat.le_of_ble_eq_true rfl) (f_M_manyCuts_ok (d := d) (by omega) x1 hq10) ?_
    change am_AW am_nw ro (d + 1) mr_M_greatest 22 [some (.ref 69), some (.int x1), some (.int x2), some (.int x3), none] [.int q10.1, .int x3] (S0, q10.2) (some (.int r)) (S0, m')
    refine am_AW.brP ok_M_greatest rfl rfl am_c_ge (fun c11 => ?_) (fun c11 => ?_)
    · rw [if_pos c11] at h
      refine am_AW.run am_base_ok ok_M_greatest (Nat.le_add_left 1 d) 1 (pc1 := 73) (ls1 := [some (.ref 69), some (.int x1), some (.int x2), some (.int x3), none]) (st1 := [.int x2]) (σ1 := (S0, q10.2)) rfl ?_
      obtain ⟨rfl, rfl⟩ := Prod.mk.inj (Option.some.inj h)
      exact am_AW.ret ok_M_greatest rfl rfl rfl rfl
    · rw [if_neg c11] at h
      refine am_AW.run am_base_ok ok_M_greatest (Nat.le_add_left 1 d) 2 (pc1 := 27) (ls1 := [some (.ref 69), some (.int x1), some (.int x2), some (.int x3), none]) (st1 := [.int (1 : Int32), .ref 69]) (σ1 := (S0, q10.2)) rfl ?_
      refine am_AW.iald ok_M_greatest (Nat.le_add_left 1 d) S0_len rfl rfl (by decide) ?_
      change am_AW am_nw ro (d + 1) mr_M_greatest 28 [some (.ref 69), some (.int x1), some (.int x2), some (.int x3), none] [.int (q10.2.1 69 1)] (S0, q10.2) (some (.int r)) (S0, m')
      refine am_AW.run am_base_ok ok_M_greatest (Nat.le_add_left 1 d) 1 (pc1 := 29) (ls1 := [some (.ref 69), some (.int x1), some (.int x2), some (.int x3), none]) (st1 := [.int x3, .int (q10.2.1 69 1)]) (σ1 := (S0, q10.2)) rfl ?_
      obtain ⟨q15, hq15, h⟩ := Option.bind_eq_some_iff.mp h
      refine am_AW.callS ok_M_greatest am_nw_ok (As := [.int (q10.2.1 69 1), .int x3]) (rest := []) rfl rfl rfl oR_M_has lk_M_75 sT_M_has rfl (Nat.le_of_ble_eq_true rfl) (f_M_has_ok (d := d) (by omega) (q10.2.1 69 1) x3 hq15) ?_
      change am_AW am_nw ro (d + 1) mr_M_greatest 32 [some (.ref 69), some (.int x1), some (.int x2), some (.int x3), none] [.int q15.1] (S0, q15.2) (some (.int r)) (S0, m')
      refine am_AW.brP ok_M_greatest rfl rfl am_c_eq (fun c16 => ?_) (fun c16 => ?_)
      · rw [if_pos c16] at h
        refine am_AW.run am_base_ok ok_M_greatest (Nat.le_add_left 1 d) 1 (pc1 := 51) (ls1 := [some (.ref 69), some (.int x1), some (.int x2), some (.int x3), none]) (st1 := [.int (0 : Int32)]) (σ1 := (S0, q15.2)) rfl ?_
        exact am_AW.weak (f_M_greatest_b51_ok hd (ih) x1 x2 x3 (0 : Int32)  h) (by simp only [am_le, and_self])
      · rw [if_neg c16] at h
        refine am_AW.run am_base_ok ok_M_greatest (Nat.le_add_left 1 d) 3 (pc1 := 38) (ls1 := [some (.ref 69), some (.int x1), some (.int x2), some (.int x3), none]) (st1 := [.int x3, .int x1, .ref 69]) (σ1 := (S0, q15.2)) rfl ?_
        obtain ⟨q20, hq20, h⟩ := Option.bind_eq_some_iff.mp h
        refine am_AW.callS ok_M_greatest am_nw_ok (As := [.int x1, .int x3]) (rest := [.ref 69]) rfl rfl rfl oR_M_endsOf lk_M_90 sT_M_endsOf rfl (Nat.le_of_ble_eq_true rfl) (f_M_endsOf_ok (d := d) (by omega) x1 x3 hq20) ?_
        change am_AW am_nw ro (d + 1) mr_M_greatest 41 [some (.ref 69), some (.int x1), some (.int x2), some (.int x3), none] [.int q20.1, .ref 69] (S0, q20.2) (some (.int r)) (S0, m')
        obtain ⟨q23, hq23, h⟩ := Option.bind_eq_some_iff.mp h
        refine am_AW.callS ok_M_greatest am_nw_ok (As := [.ref 69, .int q20.1]) (rest := []) rfl rfl rfl oR_M_pieceUnder lk_M_272 sT_M_pieceUnder rfl (Nat.le_of_ble_eq_true rfl) (f_M_pieceUnder_ok (d := d) (by omega) 69 q20.1 (by simp) hq23) ?_
        change am_AW am_nw ro (d + 1) mr_M_greatest 44 [some (.ref 69), some (.int x1), some (.int x2), some (.int x3), none] [.int q23.1] (S0, q23.2) (some (.int r)) (S0, m')
        obtain ⟨q26, hq26, h⟩ := Option.bind_eq_some_iff.mp h
        refine am_AW.callS ok_M_greatest am_nw_ok (As := [.int q23.1]) (rest := []) rfl rfl rfl oR_M_sizeOf lk_M_198 sT_M_sizeOf rfl (Nat.le_of_ble_eq_true rfl) (f_M_sizeOf_ok (d := d) (by omega) q23.1 hq26) ?_
        change am_AW am_nw ro (d + 1) mr_M_greatest 47 [some (.ref 69), some (.int x1), some (.int x2), some (.int x3), none] [.int q26.1] (S0, q26.2) (some (.int r)) (S0, m')
        refine am_AW.run am_base_ok ok_M_greatest (Nat.le_add_left 1 d) 1 (pc1 := 51) (ls1 := [some (.ref 69), some (.int x1), some (.int x2), some (.int x3), none]) (st1 := [.int q26.1]) (σ1 := (S0, q26.2)) rfl ?_
        exact am_AW.weak (f_M_greatest_b51_ok hd (ih) x1 x2 x3 q26.1  h) (by simp only [am_le, and_self])
set_option maxHeartbeats 4000000 in
set_option maxRecDepth 100000 in
theorem f_M_greatest_b17_ok {ro : am_Ro} {d : Nat} (hd : 4 ≤ d + 1) (x1 : Int32) (x2 : Int32) (x3 : Int32) {m m' : am_Mm} {r : Int32} {n : Nat} (h : f_M_greatest_b17 n x1 x2 x3 m = some (r, m')) : am_AW am_nw ro (d + 1) mr_M_greatest 17 [some (.ref 69), some (.int x1), some (.int x2), some (.int x3), none] [] (S0, m) (some (.int r)) (S0, m') :=
  f_M_greatest_b17_all hd n x1 x2 x3  m m' r h
set_option maxHeartbeats 4000000 in
set_option maxRecDepth 100000 in
theorem f_M_greatest_ok {ro : am_Ro} {d : Nat} (hd : 4 ≤ d) {m m' : am_Mm} {r : Int32} (h : f_M_greatest  m = some (r, m')) : am_Mt am_nw ro d mr_M_greatest [.ref 69] (S0, m) (some (.int r)) (S0, m') := by
  obtain ⟨d, rfl⟩ : ∃ d0, d = d0 + 1 := ⟨d - 1, by omega⟩
  refine am_Mt.of (by decide +kernel) (Nat.le_of_ble_eq_true rfl) ?_
  change am_AW am_nw ro (d + 1) mr_M_greatest 0 [some (.ref 69), none, none, none, none] [] (S0, m) (some (.int r)) (S0, m')
  unfold f_M_greatest at h
  refine am_AW.run am_base_ok ok_M_greatest (Nat.le_add_left 1 d) 2 (pc1 := 2) (ls1 := [some (.ref 69), none, none, none, none]) (st1 := [.int (0 : Int32), .ref 69]) (σ1 := (S0, m)) rfl ?_
  refine am_AW.iald ok_M_greatest (Nat.le_add_left 1 d) S0_len rfl rfl (by decide) ?_
  change am_AW am_nw ro (d + 1) mr_M_greatest 3 [some (.ref 69), none, none, none, none] [.int (m.1 69 0)] (S0, m) (some (.int r)) (S0, m')
  refine am_AW.run am_base_ok ok_M_greatest (Nat.le_add_left 1 d) 5 (pc1 := 8) (ls1 := [some (.ref 69), some (.int (m.1 69 0)), none, none, none]) (st1 := [.int ((m.1 69 0) - (1 : Int32)), .ref 69]) (σ1 := (S0, m)) rfl ?_
  obtain ⟨q4, hq4, h⟩ := Option.bind_eq_some_iff.mp h
  refine am_AW.callS ok_M_greatest am_nw_ok (As := [.ref 69, .int ((m.1 69 0) - (1 : Int32))]) (rest := []) rfl rfl rfl oR_M_pieceUnder lk_M_272 sT_M_pieceUnder rfl (Nat.le_of_ble_eq_true rfl) (f_M_pieceUnder_ok (d := d) (by omega) 69 ((m.1 69 0) - (1 : Int32)) (by simp) hq4) ?_
  change am_AW am_nw ro (d + 1) mr_M_greatest 11 [some (.ref 69), some (.int (m.1 69 0)), none, none, none] [.int q4.1] (S0, q4.2) (some (.int r)) (S0, m')
  obtain ⟨q7, hq7, h⟩ := Option.bind_eq_some_iff.mp h
  refine am_AW.callS ok_M_greatest am_nw_ok (As := [.int q4.1]) (rest := []) rfl rfl rfl oR_M_sizeOf lk_M_198 sT_M_sizeOf rfl (Nat.le_of_ble_eq_true rfl) (f_M_sizeOf_ok (d := d) (by omega) q4.1 hq7) ?_
  change am_AW am_nw ro (d + 1) mr_M_greatest 14 [some (.ref 69), some (.int (m.1 69 0)), none, none, none] [.int q7.1] (S0, q7.2) (some (.int r)) (S0, m')
  refine am_AW.run am_base_ok ok_M_greatest (Nat.le_add_left 1 d) 3 (pc1 := 17) (ls1 := [some (.ref 69), some (.int (m.1 69 0)), some (.int q7.1), some (.int (0 : Int32)), none]) (st1 := []) (σ1 := (S0, q7.2)) rfl ?_
  exact am_AW.weak (f_M_greatest_b17_ok hd (m.1 69 0) q7.1 (0 : Int32)  h) (by simp only [am_le, and_self])
/-! FriezePolygons$Asks.body11()I -/
def f_Asks_body11 (m : am_Mm) : Option (Int32 × am_Mm) :=
  (f_Asks_begins (11 : Int32) m).bind fun q3 =>
  (f_Asks_body10 q3).bind fun q6 =>
  (f_Asks_markOfPlain q6.2).bind fun q9 =>
  some ((q6.1 + q9.1), q9.2)
set_option maxHeartbeats 4000000 in
set_option maxRecDepth 100000 in
theorem f_Asks_body11_ok {ro : am_Ro} {d : Nat} (hd : 5 ≤ d) {m m' : am_Mm} {r : Int32} (h : f_Asks_body11  m = some (r, m')) : am_Mt am_nw ro d mr_Asks_body11 [.ref 38] (S0, m) (some (.int r)) (S0, m') := by
  obtain ⟨d, rfl⟩ : ∃ d0, d = d0 + 1 := ⟨d - 1, by omega⟩
  refine am_Mt.of (by decide +kernel) (Nat.le_of_ble_eq_true rfl) ?_
  change am_AW am_nw ro (d + 1) mr_Asks_body11 0 [some (.ref 38), none] [] (S0, m) (some (.int r)) (S0, m')
  unfold f_Asks_body11 at h
  refine am_AW.run am_base_ok ok_Asks_body11 (Nat.le_add_left 1 d) 2 (pc1 := 3) (ls1 := [some (.ref 38), none]) (st1 := [.int (11 : Int32), .ref 38]) (σ1 := (S0, m)) rfl ?_
  obtain ⟨q3, hq3, h⟩ := Option.bind_eq_some_iff.mp h
  refine am_AW.callV ok_Asks_body11 am_nw_ok (As := [.int (11 : Int32)]) (rest := []) rfl rfl rfl oR_Asks_begins lk_Asks_31 iM_Asks_begins sE_Asks_begins (qc := kq1) rfl rfl rfl rfl (Nat.le_of_ble_eq_true rfl) (f_Asks_begins_ok (d := d) (by omega) (11 : Int32) hq3) ?_
  change am_AW am_nw ro (d + 1) mr_Asks_body11 6 [some (.ref 38), none] [] (S0, q3) (some (.int r)) (S0, m')
  refine am_AW.run am_base_ok ok_Asks_body11 (Nat.le_add_left 1 d) 1 (pc1 := 7) (ls1 := [some (.ref 38), none]) (st1 := [.ref 38]) (σ1 := (S0, q3)) rfl ?_
  obtain ⟨q6, hq6, h⟩ := Option.bind_eq_some_iff.mp h
  refine am_AW.callV ok_Asks_body11 am_nw_ok (As := []) (rest := []) rfl rfl rfl oR_Asks_body10 lk_Asks_54 iM_Asks_body10 sE_Asks_body10 (qc := kq1) rfl rfl rfl rfl (Nat.le_of_ble_eq_true rfl) (f_Asks_body10_ok (d := d) (by omega)  hq6) ?_
  change am_AW am_nw ro (d + 1) mr_Asks_body11 10 [some (.ref 38), none] [.int q6.1] (S0, q6.2) (some (.int r)) (S0, m')
  refine am_AW.run am_base_ok ok_Asks_body11 (Nat.le_add_left 1 d) 3 (pc1 := 13) (ls1 := [some (.ref 38), some (.int q6.1)]) (st1 := [.ref 38, .int q6.1]) (σ1 := (S0, q6.2)) rfl ?_
  obtain ⟨q9, hq9, h⟩ := Option.bind_eq_some_iff.mp h
  refine am_AW.callV ok_Asks_body11 am_nw_ok (As := []) (rest := [.int q6.1]) rfl rfl rfl oR_Asks_markOfPlain lk_Asks_45 iM_Asks_markOfPlain sE_Asks_markOfPlain (qc := kq1) rfl rfl rfl rfl (Nat.le_of_ble_eq_true rfl) (f_Asks_markOfPlain_ok (d := d) (by omega)  hq9) ?_
  change am_AW am_nw ro (d + 1) mr_Asks_body11 16 [some (.ref 38), some (.int q6.1)] [.int q9.1, .int q6.1] (S0, q9.2) (some (.int r)) (S0, m')
  refine am_AW.run am_base_ok ok_Asks_body11 (Nat.le_add_left 1 d) 1 (pc1 := 17) (ls1 := [some (.ref 38), some (.int q6.1)]) (st1 := [.int (q6.1 + q9.1)]) (σ1 := (S0, q9.2)) rfl ?_
  obtain ⟨rfl, rfl⟩ := Prod.mk.inj (Option.some.inj h)
  exact am_AW.ret ok_Asks_body11 rfl rfl rfl rfl
/-! FriezePolygons$Asks.body23()I -/
def f_Asks_body23 (m : am_Mm) : Option (Int32 × am_Mm) :=
  (f_Asks_begins (23 : Int32) m).bind fun q3 =>
  (f_Asks_body20 q3).bind fun q6 =>
  (f_Asks_sizeOfFixed q6.2).bind fun q9 =>
  some ((q6.1 - q9.1), q9.2)
set_option maxHeartbeats 4000000 in
set_option maxRecDepth 100000 in
theorem f_Asks_body23_ok {ro : am_Ro} {d : Nat} (hd : 5 ≤ d) {m m' : am_Mm} {r : Int32} (h : f_Asks_body23  m = some (r, m')) : am_Mt am_nw ro d mr_Asks_body23 [.ref 38] (S0, m) (some (.int r)) (S0, m') := by
  obtain ⟨d, rfl⟩ : ∃ d0, d = d0 + 1 := ⟨d - 1, by omega⟩
  refine am_Mt.of (by decide +kernel) (Nat.le_of_ble_eq_true rfl) ?_
  change am_AW am_nw ro (d + 1) mr_Asks_body23 0 [some (.ref 38), none] [] (S0, m) (some (.int r)) (S0, m')
  unfold f_Asks_body23 at h
  refine am_AW.run am_base_ok ok_Asks_body23 (Nat.le_add_left 1 d) 2 (pc1 := 3) (ls1 := [some (.ref 38), none]) (st1 := [.int (23 : Int32), .ref 38]) (σ1 := (S0, m)) rfl ?_
  obtain ⟨q3, hq3, h⟩ := Option.bind_eq_some_iff.mp h
  refine am_AW.callV ok_Asks_body23 am_nw_ok (As := [.int (23 : Int32)]) (rest := []) rfl rfl rfl oR_Asks_begins lk_Asks_31 iM_Asks_begins sE_Asks_begins (qc := kq1) rfl rfl rfl rfl (Nat.le_of_ble_eq_true rfl) (f_Asks_begins_ok (d := d) (by omega) (23 : Int32) hq3) ?_
  change am_AW am_nw ro (d + 1) mr_Asks_body23 6 [some (.ref 38), none] [] (S0, q3) (some (.int r)) (S0, m')
  refine am_AW.run am_base_ok ok_Asks_body23 (Nat.le_add_left 1 d) 1 (pc1 := 7) (ls1 := [some (.ref 38), none]) (st1 := [.ref 38]) (σ1 := (S0, q3)) rfl ?_
  obtain ⟨q6, hq6, h⟩ := Option.bind_eq_some_iff.mp h
  refine am_AW.callV ok_Asks_body23 am_nw_ok (As := []) (rest := []) rfl rfl rfl oR_Asks_body20 lk_Asks_57 iM_Asks_body20 sE_Asks_body20 (qc := kq1) rfl rfl rfl rfl (Nat.le_of_ble_eq_true rfl) (f_Asks_body20_ok (d := d) (by omega)  hq6) ?_
  change am_AW am_nw ro (d + 1) mr_Asks_body23 10 [some (.ref 38), none] [.int q6.1] (S0, q6.2) (some (.int r)) (S0, m')
  refine am_AW.run am_base_ok ok_Asks_body23 (Nat.le_add_left 1 d) 3 (pc1 := 13) (ls1 := [some (.ref 38), some (.int q6.1)]) (st1 := [.ref 38, .int q6.1]) (σ1 := (S0, q6.2)) rfl ?_
  obtain ⟨q9, hq9, h⟩ := Option.bind_eq_some_iff.mp h
  refine am_AW.callV ok_Asks_body23 am_nw_ok (As := []) (rest := [.int q6.1]) rfl rfl rfl oR_Asks_sizeOfFixed lk_Asks_39 iM_Asks_sizeOfFixed sE_Asks_sizeOfFixed (qc := kq1) rfl rfl rfl rfl (Nat.le_of_ble_eq_true rfl) (f_Asks_sizeOfFixed_ok (d := d) (by omega)  hq9) ?_
  change am_AW am_nw ro (d + 1) mr_Asks_body23 16 [some (.ref 38), some (.int q6.1)] [.int q9.1, .int q6.1] (S0, q9.2) (some (.int r)) (S0, m')
  refine am_AW.run am_base_ok ok_Asks_body23 (Nat.le_add_left 1 d) 1 (pc1 := 17) (ls1 := [some (.ref 38), some (.int q6.1)]) (st1 := [.int (q6.1 - q9.1)]) (σ1 := (S0, q9.2)) rfl ?_
  obtain ⟨rfl, rfl⟩ := Prod.mk.inj (Option.some.inj h)
  exact am_AW.ret ok_Asks_body23 rfl rfl rfl rfl
/-! FriezePolygons$FlipSearch.fewest(LFriezePolygons$Ring;II)I -/
def f_FlipSearch_fewest_b85 (k24 : Int32 → Int32 → Int32 → am_Mm → Option (Int32 × am_Mm)) (x3 : Int32) (x4 : Int32) (x5 : Int32) (m : am_Mm) : Option (Int32 × am_Mm) :=
  k24 x3 x4 (x5 + (1 : Int32)) m
def f_FlipSearch_fewest_b38 (k24 : Int32 → Int32 → Int32 → am_Mm → Option (Int32 × am_Mm)) : Nat → Int32 → Int32 → Int32 → Int32 → am_Mm → Option (Int32 × am_Mm)
  | 0, _, _, _, _, _ => none
  | n + 1, x3, x4, x5, x6, m =>
    if x6 ≤ x4 then
      f_FlipSearch_fewest_b85 k24 x3 x4 x5 m
    else
      if (512 : Int32) ≤ x4 then
        f_FlipSearch_fewest_b85 k24 x3 x4 x5 m
      else
        if am_in x4 512 = true then
          if (m.1 36 x4.toNatClampNeg) = x3 then
            some (x5, m)
          else
            if am_in x4 512 = true then
              (f_FlipSearch_meetAround (m.1 36 x4.toNatClampNeg) m).bind fun q12 =>
              f_FlipSearch_fewest_b38 k24 n x3 (x4 + (1 : Int32)) x5 x6 q12
            else none
        else none
def f_FlipSearch_fewest_b24 : Nat → Int32 → Int32 → Int32 → am_Mm → Option (Int32 × am_Mm)
  | 0, _, _, _, _ => none
  | n + 1, x3, x4, x5, m =>
    if (512 : Int32) ≤ x5 then
      some ((-1000000 : Int32), m)
    else
      f_FlipSearch_fewest_b38 (f_FlipSearch_fewest_b24 n) am_F x3 x4 x5 (m.1 35 2) m
def f_FlipSearch_fewest (x2 : Int32) (x3 : Int32) (m : am_Mm) : Option (Int32 × am_Mm) :=
  (f_FlipSearch_meet x2 (am_pI (am_fl m 37 1024 (0 : Int32)) 35 2 (0 : Int32))).bind fun q3 =>
  f_FlipSearch_fewest_b24 am_F x3 (0 : Int32) (0 : Int32) q3
set_option maxHeartbeats 4000000 in
set_option maxRecDepth 100000 in
theorem f_FlipSearch_fewest_b85_ok {ro : am_Ro} {d : Nat} (hd : 5 ≤ d + 1) {k24 : Int32 → Int32 → Int32 → am_Mm → Option (Int32 × am_Mm)} (hk24 : ∀ (x3 : Int32) (x4 : Int32) (x5 : Int32) (m m' : am_Mm) (r : Int32), k24 x3 x4 x5 m = some (r, m') → am_AW am_nw ro (d + 1) mr_FlipSearch_fewest 24 [some (.ref 35), some (.ref 20), none, some (.int x3), some (.int x4), some (.int x5), none] [] (S0, m) (some (.int r)) (S0, m')) (x3 : Int32) (x4 : Int32) (x5 : Int32) {m m' : am_Mm} {r : Int32} (h : f_FlipSearch_fewest_b85 k24 x3 x4 x5 m = some (r, m')) : am_AW am_nw ro (d + 1) mr_FlipSearch_fewest 85 [some (.ref 35), some (.ref 20), none, some (.int x3), some (.int x4), some (.int x5), none] [] (S0, m) (some (.int r)) (S0, m') := by
  unfold f_FlipSearch_fewest_b85 at h
  refine am_AW.run am_base_ok ok_FlipSearch_fewest (Nat.le_add_left 1 d) 2 (pc1 := 24) (ls1 := [some (.ref 35), some (.ref 20), none, some (.int x3), some (.int x4), some (.int (x5 + (1 : Int32))), none]) (st1 := []) (σ1 := (S0, m)) rfl ?_
  exact am_AW.weak (hk24 x3 x4 (x5 + (1 : Int32))  _ _ _ h) (by simp only [am_le, and_self])
set_option maxHeartbeats 4000000 in
set_option maxRecDepth 100000 in
theorem f_FlipSearch_fewest_b38_all {ro : am_Ro} {d : Nat} (hd : 5 ≤ d + 1) {k24 : Int32 → Int32 → Int32 → am_Mm → Option (Int32 × am_Mm)} (hk24 : ∀ (x3 : Int32) (x4 : Int32) (x5 : Int32) (m m' : am_Mm) (r : Int32), k24 x3 x4 x5 m = some (r, m') → am_AW am_nw ro (d + 1) mr_FlipSearch_fewest 24 [some (.ref 35), some (.ref 20), none, some (.int x3), some (.int x4), some (.int x5), none] [] (S0, m) (some (.int r)) (S0, m')) : ∀ (n : Nat) (x3 : Int32) (x4 : Int32) (x5 : Int32) (x6 : Int32) (m m' : am_Mm) (r : Int32), f_FlipSearch_fewest_b38 k24 n x3 x4 x5 x6 m = some (r, m') → am_AW am_nw ro (d + 1) mr_FlipSearch_fewest 38 [some (.ref 35), some (.ref 20), none, some (.int x3), some (.int x4), some (.int x5), some (.int x6)] [] (S0, m) (some (.int r)) (S0, m') := by
  intro n
  induction n with
  | zero =>
    intro x3 x4 x5 x6 m m' r h
    rw [f_FlipSearch_fewest_b38] at h
    cases h
  | succ n ih =>
    intro x3 x4 x5 x6 m m' r h
    rw [f_FlipSearch_fewest_b38] at h
    refine am_AW.run am_base_ok ok_FlipSearch_fewest (Nat.le_add_left 1 d) 2 (pc1 := 42) (ls1 := [some (.ref 35), some (.ref 20), none, some (.int x3), some (.int x4), some (.int x5), some (.int x6)]) (st1 := [.int x6, .int x4]) (σ1 := (S0, m)) rfl ?_
    refine am_AW.brP ok_FlipSearch_fewest rfl rfl am_c_ge (fun c5 => ?_) (fun c5 => ?_)
    · rw [if_pos c5] at h
      exact am_AW.weak (f_FlipSearch_fewest_b85_ok hd (hk24) x3 x4 x5  h) (by simp only [am_le, and_self])
    · rw [if_neg c5] at h
      refine am_AW.run am_base_ok ok_FlipSearch_fewest (Nat.le_add_left 1 d) 2 (pc1 := 50) (ls1 := [some (.ref 35), some (.ref 20), none, some (.int x3), some (.int x4), some (.int x5), some (.int x6)]) (st1 := [.int (512 : Int32), .int x4]) (σ1 := (S0, m)) rfl ?_
      refine am_AW.brP ok_FlipSearch_fewest rfl rfl am_c_ge (fun c6 => ?_) (fun c6 => ?_)
      · rw [if_pos c6] at h
        exact am_AW.weak (f_FlipSearch_fewest_b85_ok hd (hk24) x3 x4 x5  h) (by simp only [am_le, and_self])
      · rw [if_neg c6] at h
        refine am_AW.run am_base_ok ok_FlipSearch_fewest (Nat.le_add_left 1 d) 3 (pc1 := 59) (ls1 := [some (.ref 35), some (.ref 20), none, some (.int x3), some (.int x4), some (.int x5), some (.int x6)]) (st1 := [.int x4, .ref 36]) (σ1 := (S0, m)) rfl ?_
        by_cases g7 : am_in x4 512 = true
        rotate_left
        · rw [if_neg g7] at h
          cases h
        rw [if_pos g7] at h
        refine am_AW.iald ok_FlipSearch_fewest (Nat.le_add_left 1 d) S0_len rfl rfl g7 ?_
        refine am_AW.run am_base_ok ok_FlipSearch_fewest (Nat.le_add_left 1 d) 1 (pc1 := 61) (ls1 := [some (.ref 35), some (.ref 20), none, some (.int x3), some (.int x4), some (.int x5), some (.int x6)]) (st1 := [.int x3, .int (m.1 36 x4.toNatClampNeg)]) (σ1 := (S0, m)) rfl ?_
        refine am_AW.brN ok_FlipSearch_fewest rfl rfl am_c_ne (fun c8 => ?_) (fun c8 => ?_)
        · rw [if_pos c8] at h
          refine am_AW.run am_base_ok ok_FlipSearch_fewest (Nat.le_add_left 1 d) 1 (pc1 := 66) (ls1 := [some (.ref 35), some (.ref 20), none, some (.int x3), some (.int x4), some (.int x5), some (.int x6)]) (st1 := [.int x5]) (σ1 := (S0, m)) rfl ?_
          obtain ⟨rfl, rfl⟩ := Prod.mk.inj (Option.some.inj h)
          exact am_AW.ret ok_FlipSearch_fewest rfl rfl rfl rfl
        · rw [if_neg c8] at h
          refine am_AW.run am_base_ok ok_FlipSearch_fewest (Nat.le_add_left 1 d) 5 (pc1 := 75) (ls1 := [some (.ref 35), some (.ref 20), none, some (.int x3), some (.int x4), some (.int x5), some (.int x6)]) (st1 := [.int x4, .ref 36, .ref 20, .ref 35]) (σ1 := (S0, m)) rfl ?_
          by_cases g9 : am_in x4 512 = true
          rotate_left
          · rw [if_neg g9] at h
            cases h
          rw [if_pos g9] at h
          refine am_AW.iald ok_FlipSearch_fewest (Nat.le_add_left 1 d) S0_len rfl rfl g9 ?_
          obtain ⟨q12, hq12, h⟩ := Option.bind_eq_some_iff.mp h
          refine am_AW.callV ok_FlipSearch_fewest am_nw_ok (As := [.ref 20, .int (m.1 36 x4.toNatClampNeg)]) (rest := []) rfl rfl rfl oR_FlipSearch_meetAround lk_FlipSearch_32 iM_FlipSearch_meetAround sE_FlipSearch_meetAround (qc := kq4) rfl rfl rfl rfl (Nat.le_of_ble_eq_true rfl) (f_FlipSearch_meetAround_ok (d := d) (by omega) (m.1 36 x4.toNatClampNeg) hq12) ?_
          change am_AW am_nw ro (d + 1) mr_FlipSearch_fewest 79 [some (.ref 35), some (.ref 20), none, some (.int x3), some (.int x4), some (.int x5), some (.int x6)] [] (S0, q12) (some (.int r)) (S0, m')
          refine am_AW.run am_base_ok ok_FlipSearch_fewest (Nat.le_add_left 1 d) 2 (pc1 := 38) (ls1 := [some (.ref 35), some (.ref 20), none, some (.int x3), some (.int (x4 + (1 : Int32))), some (.int x5), some (.int x6)]) (st1 := []) (σ1 := (S0, q12)) rfl ?_
          exact am_AW.weak (ih x3 (x4 + (1 : Int32)) x5 x6  _ _ _ h) (by simp only [am_le, and_self])
set_option maxHeartbeats 4000000 in
set_option maxRecDepth 100000 in
theorem f_FlipSearch_fewest_b38_ok {ro : am_Ro} {d : Nat} (hd : 5 ≤ d + 1) {k24 : Int32 → Int32 → Int32 → am_Mm → Option (Int32 × am_Mm)} (hk24 : ∀ (x3 : Int32) (x4 : Int32) (x5 : Int32) (m m' : am_Mm) (r : Int32), k24 x3 x4 x5 m = some (r, m') → am_AW am_nw ro (d + 1) mr_FlipSearch_fewest 24 [some (.ref 35), some (.ref 20), none, some (.int x3), some (.int x4), some (.int x5), none] [] (S0, m) (some (.int r)) (S0, m')) (x3 : Int32) (x4 : Int32) (x5 : Int32) (x6 : Int32) {m m' : am_Mm} {r : Int32} {n : Nat} (h : f_FlipSearch_fewest_b38 k24 n x3 x4 x5 x6 m = some (r, m')) : am_AW am_nw ro (d + 1) mr_FlipSearch_fewest 38 [some (.ref 35), some (.ref 20), none, some (.int x3), some (.int x4), some (.int x5), some (.int x6)] [] (S0, m) (some (.int r)) (S0, m') :=
  f_FlipSearch_fewest_b38_all hd hk24 n x3 x4 x5 x6  m m' r h
set_option maxHeartbeats 4000000 in
set_option maxRecDepth 100000 in
theorem f_FlipSearch_fewest_b24_all {ro : am_Ro} {d : Nat} (hd : 5 ≤ d + 1) : ∀ (n : Nat) (x3 : Int32) (x4 : Int32) (x5 : Int32) (m m' : am_Mm) (r : Int32), f_FlipSearch_fewest_b24 n x3 x4 x5 m = some (r, m') → am_AW am_nw ro (d + 1) mr_FlipSearch_fewest 24 [some (.ref 35), some (.ref 20), none, some (.int x3), some (.int x4), some (.int x5), none] [] (S0, m) (some (.int r)) (S0, m') := by
  intro n
  induction n with
  | zero =>
    intro x3 x4 x5 m m' r h
    rw [f_FlipSearch_fewest_b24] at h
    cases h
  | succ n ih =>
    intro x3 x4 x5 m m' r h
    rw [f_FlipSearch_fewest_b24] at h
    refine am_AW.run am_base_ok ok_FlipSearch_fewest (Nat.le_add_left 1 d) 2 (pc1 := 29) (ls1 := [some (.ref 35), some (.ref 20), none, some (.int x3), some (.int x4), some (.int x5), none]) (st1 := [.int (512 : Int32), .int x5]) (σ1 := (S0, m)) rfl ?_
    refine am_AW.brP ok_FlipSearch_fewest rfl rfl am_c_ge (fun c4 => ?_) (fun c4 => ?_)
    · rw [if_pos c4] at h
      refine am_AW.run am_base_ok ok_FlipSearch_fewest (Nat.le_add_left 1 d) 1 (pc1 := 93) (ls1 := [some (.ref 35), some (.ref 20), none, some (.int x3), some (.int x4), some (.int x5), none]) (st1 := [.int (-1000000 : Int32)]) (σ1 := (S0, m)) rfl ?_
      obtain ⟨rfl, rfl⟩ := Prod.mk.inj (Option.some.inj h)
      exact am_AW.ret ok_FlipSearch_fewest rfl rfl rfl rfl
    · rw [if_neg c4] at h
      refine am_AW.run am_base_ok ok_FlipSearch_fewest (Nat.le_add_left 1 d) 3 (pc1 := 38) (ls1 := [some (.ref 35), some (.ref 20), none, some (.int x3), some (.int x4), some (.int x5), some (.int (m.1 35 2))]) (st1 := []) (σ1 := (S0, m)) rfl ?_
      exact am_AW.weak (f_FlipSearch_fewest_b38_ok hd (ih) x3 x4 x5 (m.1 35 2)  h) (by simp only [am_le, and_self])
set_option maxHeartbeats 4000000 in
set_option maxRecDepth 100000 in
theorem f_FlipSearch_fewest_b24_ok {ro : am_Ro} {d : Nat} (hd : 5 ≤ d + 1) (x3 : Int32) (x4 : Int32) (x5 : Int32) {m m' : am_Mm} {r : Int32} {n : Nat} (h : f_FlipSearch_fewest_b24 n x3 x4 x5 m = some (r, m')) : am_AW am_nw ro (d + 1) mr_FlipSearch_fewest 24 [some (.ref 35), some (.ref 20), none, some (.int x3), some (.int x4), some (.int x5), none] [] (S0, m) (some (.int r)) (S0, m') :=
  f_FlipSearch_fewest_b24_all hd n x3 x4 x5  m m' r h
set_option maxHeartbeats 4000000 in
set_option maxRecDepth 100000 in
theorem f_FlipSearch_fewest_ok {ro : am_Ro} {d : Nat} (hd : 5 ≤ d) (x2 : Int32) (x3 : Int32) {m m' : am_Mm} {r : Int32} (h : f_FlipSearch_fewest x2 x3 m = some (r, m')) : am_Mt am_nw ro d mr_FlipSearch_fewest [.ref 35, .ref 20, .int x2, .int x3] (S0, m) (some (.int r)) (S0, m') := by
  obtain ⟨d, rfl⟩ : ∃ d0, d = d0 + 1 := ⟨d - 1, by omega⟩
  refine am_Mt.of (by decide +kernel) (Nat.le_of_ble_eq_true rfl) ?_
  change am_AW am_nw ro (d + 1) mr_FlipSearch_fewest 0 [some (.ref 35), some (.ref 20), some (.int x2), some (.int x3), none, none, none] [] (S0, m) (some (.int r)) (S0, m')
  unfold f_FlipSearch_fewest at h
  refine am_AW.run am_base_ok ok_FlipSearch_fewest (Nat.le_add_left 1 d) 3 (pc1 := 5) (ls1 := [some (.ref 35), some (.ref 20), some (.int x2), some (.int x3), none, none, none]) (st1 := [.int (0 : Int32), .ref 37]) (σ1 := (S0, m)) rfl ?_
  refine am_AW.callS ok_FlipSearch_fewest am_nw_ok (As := [.ref 37, .int (0 : Int32)]) (rest := []) rfl rfl rfl oR_Arrays_fill lk_FlipSearch_22 sT_Arrays_fill rfl (Nat.le_of_ble_eq_true rfl) (am_fill_ok (by omega) S0_len (by decide) rfl) ?_
  change am_AW am_nw ro (d + 1) mr_FlipSearch_fewest 8 [some (.ref 35), some (.ref 20), some (.int x2), some (.int x3), none, none, none] [] (S0, (am_fl m 37 1024 (0 : Int32))) (some (.int r)) (S0, m')
  refine am_AW.run am_base_ok ok_FlipSearch_fewest (Nat.le_add_left 1 d) 2 (pc1 := 10) (ls1 := [some (.ref 35), some (.ref 20), some (.int x2), some (.int x3), none, none, none]) (st1 := [.int (0 : Int32), .ref 35]) (σ1 := (S0, (am_fl m 37 1024 (0 : Int32)))) rfl ?_
  refine am_AW.puti ok_FlipSearch_fewest (Nat.le_add_left 1 d) rfl rfl rfl (qc := kq4) rfl (by decide) ty_4_2 ?_
  refine am_AW.run am_base_ok ok_FlipSearch_fewest (Nat.le_add_left 1 d) 2 (pc1 := 15) (ls1 := [some (.ref 35), some (.ref 20), some (.int x2), some (.int x3), none, none, none]) (st1 := [.int x2, .ref 35]) (σ1 := (S0, (am_pI (am_fl m 37 1024 (0 : Int32)) 35 2 (0 : Int32)))) rfl ?_
  obtain ⟨q3, hq3, h⟩ := Option.bind_eq_some_iff.mp h
  refine am_AW.callV ok_FlipSearch_fewest am_nw_ok (As := [.int x2]) (rest := []) rfl rfl rfl oR_FlipSearch_meet lk_FlipSearch_28 iM_FlipSearch_meet sE_FlipSearch_meet (qc := kq4) rfl rfl rfl rfl (Nat.le_of_ble_eq_true rfl) (f_FlipSearch_meet_ok (d := d) (by omega) x2 hq3) ?_
  change am_AW am_nw ro (d + 1) mr_FlipSearch_fewest 18 [some (.ref 35), some (.ref 20), some (.int x2), some (.int x3), none, none, none] [] (S0, q3) (some (.int r)) (S0, m')
  refine am_AW.run am_base_ok ok_FlipSearch_fewest (Nat.le_add_left 1 d) 4 (pc1 := 24) (ls1 := [some (.ref 35), some (.ref 20), some (.int x2), some (.int x3), some (.int (0 : Int32)), some (.int (0 : Int32)), none]) (st1 := []) (σ1 := (S0, q3)) rfl ?_
  exact am_AW.weak (f_FlipSearch_fewest_b24_ok hd x3 (0 : Int32) (0 : Int32)  h) (by simp only [am_le, and_self])
/-! FriezePolygons$Tape.read()Z -/
def f_Tape_read_b44 (s0 : Int32) (m : am_Mm) : Option (Int32 × am_Mm) :=
  if s0 = (0 : Int32) ∨ s0 = (1 : Int32) then
    some (s0, (am_pI m 2 3 (0 : Int32)))
  else none
def f_Tape_read (m : am_Mm) : Option (Int32 × am_Mm) :=
  (f_Tape_next (am_pI (am_pI (am_pI m 3 2 (0 : Int32)) 3 3 (0 : Int32)) 2 6 (0 : Int32))).bind fun q3 =>
  (f_Tape_readCorners q3).bind fun q6 =>
  if q6.1 = (0 : Int32) then
    f_Tape_read_b44 (0 : Int32) q6.2
  else
    (f_Tape_readCuts q6.2).bind fun q11 =>
    if q11.1 = (0 : Int32) then
      f_Tape_read_b44 (0 : Int32) q11.2
    else
      f_Tape_read_b44 (1 : Int32) q11.2
set_option maxHeartbeats 4000000 in
set_option maxRecDepth 100000 in
theorem f_Tape_read_b44_ok {ro : am_Ro} {d : Nat} (hd : 5 ≤ d + 1) (s0 : Int32) {m m' : am_Mm} {r : Int32} (h : f_Tape_read_b44 s0 m = some (r, m')) : am_AW am_nw ro (d + 1) mr_Tape_read 44 [some (.ref 2), none] [.int s0] (S0, m) (some (.int r)) (S0, m') := by
  unfold f_Tape_read_b44 at h
  refine am_AW.run am_base_ok ok_Tape_read (Nat.le_add_left 1 d) 3 (pc1 := 47) (ls1 := [some (.ref 2), some (.int s0)]) (st1 := [.int (0 : Int32), .ref 2]) (σ1 := (S0, m)) rfl ?_
  refine am_AW.puti ok_Tape_read (Nat.le_add_left 1 d) rfl rfl rfl (qc := kq8) rfl (by decide) ty_8_3 ?_
  refine am_AW.run am_base_ok ok_Tape_read (Nat.le_add_left 1 d) 1 (pc1 := 51) (ls1 := [some (.ref 2), some (.int s0)]) (st1 := [.int s0]) (σ1 := (S0, (am_pI m 2 3 (0 : Int32)))) rfl ?_
  by_cases g8 : s0 = (0 : Int32) ∨ s0 = (1 : Int32)
  rotate_left
  · rw [if_neg g8] at h
    cases h
  rw [if_pos g8] at h
  obtain ⟨rfl, rfl⟩ := Prod.mk.inj (Option.some.inj h)
  exact am_AW.ret ok_Tape_read rfl rfl rfl (am_rokZ g8)
set_option maxHeartbeats 4000000 in
set_option maxRecDepth 100000 in
theorem f_Tape_read_ok {ro : am_Ro} {d : Nat} (hd : 5 ≤ d) {m m' : am_Mm} {r : Int32} (h : f_Tape_read  m = some (r, m')) : am_Mt am_nw ro d mr_Tape_read [.ref 2] (S0, m) (some (.int r)) (S0, m') := by
  obtain ⟨d, rfl⟩ : ∃ d0, d = d0 + 1 := ⟨d - 1, by omega⟩
  refine am_Mt.of (by decide +kernel) (Nat.le_of_ble_eq_true rfl) ?_
  change am_AW am_nw ro (d + 1) mr_Tape_read 0 [some (.ref 2), none] [] (S0, m) (some (.int r)) (S0, m')
  unfold f_Tape_read at h
  refine am_AW.run am_base_ok ok_Tape_read (Nat.le_add_left 1 d) 3 (pc1 := 5) (ls1 := [some (.ref 2), none]) (st1 := [.int (0 : Int32), .ref 3]) (σ1 := (S0, m)) rfl ?_
  refine am_AW.puti ok_Tape_read (Nat.le_add_left 1 d) rfl rfl rfl (qc := kq3) rfl (by decide) ty_3_2 ?_
  refine am_AW.run am_base_ok ok_Tape_read (Nat.le_add_left 1 d) 3 (pc1 := 13) (ls1 := [some (.ref 2), none]) (st1 := [.int (0 : Int32), .ref 3]) (σ1 := (S0, (am_pI m 3 2 (0 : Int32)))) rfl ?_
  refine am_AW.puti ok_Tape_read (Nat.le_add_left 1 d) rfl rfl rfl (qc := kq3) rfl (by decide) ty_3_3 ?_
  refine am_AW.run am_base_ok ok_Tape_read (Nat.le_add_left 1 d) 2 (pc1 := 18) (ls1 := [some (.ref 2), none]) (st1 := [.int (0 : Int32), .ref 2]) (σ1 := (S0, (am_pI (am_pI m 3 2 (0 : Int32)) 3 3 (0 : Int32)))) rfl ?_
  refine am_AW.puti ok_Tape_read (Nat.le_add_left 1 d) rfl rfl rfl (qc := kq8) rfl (by decide) ty_8_6 ?_
  refine am_AW.run am_base_ok ok_Tape_read (Nat.le_add_left 1 d) 1 (pc1 := 22) (ls1 := [some (.ref 2), none]) (st1 := [.ref 2]) (σ1 := (S0, (am_pI (am_pI (am_pI m 3 2 (0 : Int32)) 3 3 (0 : Int32)) 2 6 (0 : Int32)))) rfl ?_
  obtain ⟨q3, hq3, h⟩ := Option.bind_eq_some_iff.mp h
  refine am_AW.callV ok_Tape_read am_nw_ok (As := []) (rest := []) rfl rfl rfl oR_Tape_next lk_Tape_54 iM_Tape_next sE_Tape_next (qc := kq8) rfl rfl rfl rfl (Nat.le_of_ble_eq_true rfl) (f_Tape_next_ok (d := d) (by omega)  hq3) ?_
  change am_AW am_nw ro (d + 1) mr_Tape_read 25 [some (.ref 2), none] [] (S0, q3) (some (.int r)) (S0, m')
  refine am_AW.run am_base_ok ok_Tape_read (Nat.le_add_left 1 d) 1 (pc1 := 26) (ls1 := [some (.ref 2), none]) (st1 := [.ref 2]) (σ1 := (S0, q3)) rfl ?_
  obtain ⟨q6, hq6, h⟩ := Option.bind_eq_some_iff.mp h
  refine am_AW.callV ok_Tape_read am_nw_ok (As := []) (rest := []) rfl rfl rfl oR_Tape_readCorners lk_Tape_57 iM_Tape_readCorners sE_Tape_readCorners (qc := kq8) rfl rfl rfl rfl (Nat.le_of_ble_eq_true rfl) (f_Tape_readCorners_ok (d := d) (by omega)  hq6) ?_
  change am_AW am_nw ro (d + 1) mr_Tape_read 29 [some (.ref 2), none] [.int q6.1] (S0, q6.2) (some (.int r)) (S0, m')
  refine am_AW.brP ok_Tape_read rfl rfl am_c_eq (fun c7 => ?_) (fun c7 => ?_)
  · rw [if_pos c7] at h
    refine am_AW.run am_base_ok ok_Tape_read (Nat.le_add_left 1 d) 1 (pc1 := 44) (ls1 := [some (.ref 2), none]) (st1 := [.int (0 : Int32)]) (σ1 := (S0, q6.2)) rfl ?_
    exact am_AW.weak (f_Tape_read_b44_ok hd (0 : Int32)  h) (by simp only [am_le, and_self])
  · rw [if_neg c7] at h
    refine am_AW.run am_base_ok ok_Tape_read (Nat.le_add_left 1 d) 1 (pc1 := 33) (ls1 := [some (.ref 2), none]) (st1 := [.ref 2]) (σ1 := (S0, q6.2)) rfl ?_
    obtain ⟨q11, hq11, h⟩ := Option.bind_eq_some_iff.mp h
    refine am_AW.callV ok_Tape_read am_nw_ok (As := []) (rest := []) rfl rfl rfl oR_Tape_readCuts lk_Tape_61 iM_Tape_readCuts sE_Tape_readCuts (qc := kq8) rfl rfl rfl rfl (Nat.le_of_ble_eq_true rfl) (f_Tape_readCuts_ok (d := d) (by omega)  hq11) ?_
    change am_AW am_nw ro (d + 1) mr_Tape_read 36 [some (.ref 2), none] [.int q11.1] (S0, q11.2) (some (.int r)) (S0, m')
    refine am_AW.brP ok_Tape_read rfl rfl am_c_eq (fun c12 => ?_) (fun c12 => ?_)
    · rw [if_pos c12] at h
      refine am_AW.run am_base_ok ok_Tape_read (Nat.le_add_left 1 d) 1 (pc1 := 44) (ls1 := [some (.ref 2), none]) (st1 := [.int (0 : Int32)]) (σ1 := (S0, q11.2)) rfl ?_
      exact am_AW.weak (f_Tape_read_b44_ok hd (0 : Int32)  h) (by simp only [am_le, and_self])
    · rw [if_neg c12] at h
      refine am_AW.run am_base_ok ok_Tape_read (Nat.le_add_left 1 d) 2 (pc1 := 44) (ls1 := [some (.ref 2), none]) (st1 := [.int (1 : Int32)]) (σ1 := (S0, q11.2)) rfl ?_
      exact am_AW.weak (f_Tape_read_b44_ok hd (1 : Int32)  h) (by simp only [am_le, and_self])
/-! FriezePolygons.flip(I)I -/
def f_C_flip (x1 : Int32) (m : am_Mm) : Option (Int32 × am_Mm) :=
  (f_Ring_isNumber 20 x1 m).bind fun q3 =>
  if q3.1 = (0 : Int32) then
    some ((-1000001 : Int32), q3.2)
  else
    (f_Ring_flippedOf (q3.2.1 13 3) x1 q3.2).bind fun q7 =>
    if (0 : Int32) ≤ q7.1 then
      (f_C_layCuts (((q7.2.1 13 3) &&& ((am_shl (1 : Int32) x1) ^^^ (-1 : Int32))) ||| (am_shl (1 : Int32) q7.1)) q7.2).bind fun q11 =>
      some (q7.1, q11)
    else
      some ((-1000002 : Int32), q7.2)
set_option maxHeartbeats 4000000 in
set_option maxRecDepth 100000 in
theorem f_C_flip_ok {ro : am_Ro} {d : Nat} (hd : 5 ≤ d) (x1 : Int32) {m m' : am_Mm} {r : Int32} (h : f_C_flip x1 m = some (r, m')) : am_Mt am_nw ro d mr_C_flip [.ref 0, .int x1] (S0, m) (some (.int r)) (S0, m') := by
  obtain ⟨d, rfl⟩ : ∃ d0, d = d0 + 1 := ⟨d - 1, by omega⟩
  refine am_Mt.of (by decide +kernel) (Nat.le_of_ble_eq_true rfl) ?_
  change am_AW am_nw ro (d + 1) mr_C_flip 0 [some (.ref 0), some (.int x1), none] [] (S0, m) (some (.int r)) (S0, m')
  unfold f_C_flip at h
  refine am_AW.run am_base_ok ok_C_flip (Nat.le_add_left 1 d) 3 (pc1 := 5) (ls1 := [some (.ref 0), some (.int x1), none]) (st1 := [.int x1, .ref 20]) (σ1 := (S0, m)) rfl ?_
  obtain ⟨q3, hq3, h⟩ := Option.bind_eq_some_iff.mp h
  refine am_AW.callV ok_C_flip am_nw_ok (As := [.int x1]) (rest := []) rfl rfl rfl oR_Ring_isNumber lk_C_185 iM_Ring_isNumber sE_Ring_isNumber (qc := kq6) rfl rfl rfl rfl (Nat.le_of_ble_eq_true rfl) (f_Ring_isNumber_ok (d := d) (by omega) 20 x1 (by simp) hq3) ?_
  change am_AW am_nw ro (d + 1) mr_C_flip 8 [some (.ref 0), some (.int x1), none] [.int q3.1] (S0, q3.2) (some (.int r)) (S0, m')
  refine am_AW.brN ok_C_flip rfl rfl am_c_ne (fun c4 => ?_) (fun c4 => ?_)
  · rw [if_pos c4] at h
    refine am_AW.run am_base_ok ok_C_flip (Nat.le_add_left 1 d) 1 (pc1 := 13) (ls1 := [some (.ref 0), some (.int x1), none]) (st1 := [.int (-1000001 : Int32)]) (σ1 := (S0, q3.2)) rfl ?_
    obtain ⟨rfl, rfl⟩ := Prod.mk.inj (Option.some.inj h)
    exact am_AW.ret ok_C_flip rfl rfl rfl rfl
  · rw [if_neg c4] at h
    refine am_AW.run am_base_ok ok_C_flip (Nat.le_add_left 1 d) 6 (pc1 := 26) (ls1 := [some (.ref 0), some (.int x1), none]) (st1 := [.int x1, .int (q3.2.1 13 3), .ref 20]) (σ1 := (S0, q3.2)) rfl ?_
    obtain ⟨q7, hq7, h⟩ := Option.bind_eq_some_iff.mp h
    refine am_AW.callV ok_C_flip am_nw_ok (As := [.int (q3.2.1 13 3), .int x1]) (rest := []) rfl rfl rfl oR_Ring_flippedOf lk_C_191 iM_Ring_flippedOf sE_Ring_flippedOf (qc := kq6) rfl rfl rfl rfl (Nat.le_of_ble_eq_true rfl) (f_Ring_flippedOf_ok (d := d) (by omega) (q3.2.1 13 3) x1 hq7) ?_
    change am_AW am_nw ro (d + 1) mr_C_flip 29 [some (.ref 0), some (.int x1), none] [.int q7.1] (S0, q7.2) (some (.int r)) (S0, m')
    refine am_AW.run am_base_ok ok_C_flip (Nat.le_add_left 1 d) 2 (pc1 := 31) (ls1 := [some (.ref 0), some (.int x1), some (.int q7.1)]) (st1 := [.int q7.1]) (σ1 := (S0, q7.2)) rfl ?_
    refine am_AW.brP ok_C_flip rfl rfl am_c_ge (fun c8 => ?_) (fun c8 => ?_)
    · rw [if_pos c8] at h
      refine am_AW.run am_base_ok ok_C_flip (Nat.le_add_left 1 d) 14 (pc1 := 55) (ls1 := [some (.ref 0), some (.int x1), some (.int q7.1)]) (st1 := [.int (((q7.2.1 13 3) &&& ((am_shl (1 : Int32) x1) ^^^ (-1 : Int32))) ||| (am_shl (1 : Int32) q7.1)), .ref 0]) (σ1 := (S0, q7.2)) rfl ?_
      obtain ⟨q11, hq11, h⟩ := Option.bind_eq_some_iff.mp h
      refine am_AW.callV ok_C_flip am_nw_ok (As := [.int (((q7.2.1 13 3) &&& ((am_shl (1 : Int32) x1) ^^^ (-1 : Int32))) ||| (am_shl (1 : Int32) q7.1))]) (rest := []) rfl rfl rfl oR_C_layCuts lk_C_176 iM_C_layCuts sE_C_layCuts (qc := kq9) rfl rfl rfl rfl (Nat.le_of_ble_eq_true rfl) (f_C_layCuts_ok (d := d) (by omega) (((q7.2.1 13 3) &&& ((am_shl (1 : Int32) x1) ^^^ (-1 : Int32))) ||| (am_shl (1 : Int32) q7.1)) hq11) ?_
      change am_AW am_nw ro (d + 1) mr_C_flip 58 [some (.ref 0), some (.int x1), some (.int q7.1)] [] (S0, q11) (some (.int r)) (S0, m')
      refine am_AW.run am_base_ok ok_C_flip (Nat.le_add_left 1 d) 1 (pc1 := 59) (ls1 := [some (.ref 0), some (.int x1), some (.int q7.1)]) (st1 := [.int q7.1]) (σ1 := (S0, q11)) rfl ?_
      obtain ⟨rfl, rfl⟩ := Prod.mk.inj (Option.some.inj h)
      exact am_AW.ret ok_C_flip rfl rfl rfl rfl
    · rw [if_neg c8] at h
      refine am_AW.run am_base_ok ok_C_flip (Nat.le_add_left 1 d) 1 (pc1 := 36) (ls1 := [some (.ref 0), some (.int x1), some (.int q7.1)]) (st1 := [.int (-1000002 : Int32)]) (σ1 := (S0, q7.2)) rfl ?_
      obtain ⟨rfl, rfl⟩ := Prod.mk.inj (Option.some.inj h)
      exact am_AW.ret ok_C_flip rfl rfl rfl rfl
/-! FriezePolygons.turn(I)I -/
def f_C_turn (x1 : Int32) (m : am_Mm) : Option (Int32 × am_Mm) :=
  if x1 < (1 : Int32) then
    some ((-1000001 : Int32), m)
  else
    if x1 < (m.1 13 2) then
      (f_Ring_moved (m.1 13 3) (0 : Int32) x1 m).bind fun q5 =>
      (f_C_layCuts q5.1 q5.2).bind fun q8 =>
      some ((q8.1 13 3), q8)
    else
      some ((-1000001 : Int32), m)
set_option maxHeartbeats 4000000 in
set_option maxRecDepth 100000 in
theorem f_C_turn_ok {ro : am_Ro} {d : Nat} (hd : 5 ≤ d) (x1 : Int32) {m m' : am_Mm} {r : Int32} (h : f_C_turn x1 m = some (r, m')) : am_Mt am_nw ro d mr_C_turn [.ref 0, .int x1] (S0, m) (some (.int r)) (S0, m') := by
  obtain ⟨d, rfl⟩ : ∃ d0, d = d0 + 1 := ⟨d - 1, by omega⟩
  refine am_Mt.of (by decide +kernel) (Nat.le_of_ble_eq_true rfl) ?_
  change am_AW am_nw ro (d + 1) mr_C_turn 0 [some (.ref 0), some (.int x1)] [] (S0, m) (some (.int r)) (S0, m')
  unfold f_C_turn at h
  refine am_AW.run am_base_ok ok_C_turn (Nat.le_add_left 1 d) 2 (pc1 := 2) (ls1 := [some (.ref 0), some (.int x1)]) (st1 := [.int (1 : Int32), .int x1]) (σ1 := (S0, m)) rfl ?_
  refine am_AW.brP ok_C_turn rfl rfl am_c_lt (fun c1 => ?_) (fun c1 => ?_)
  · rw [if_pos c1] at h
    refine am_AW.run am_base_ok ok_C_turn (Nat.le_add_left 1 d) 1 (pc1 := 18) (ls1 := [some (.ref 0), some (.int x1)]) (st1 := [.int (-1000001 : Int32)]) (σ1 := (S0, m)) rfl ?_
    obtain ⟨rfl, rfl⟩ := Prod.mk.inj (Option.some.inj h)
    exact am_AW.ret ok_C_turn rfl rfl rfl rfl
  · rw [if_neg c1] at h
    refine am_AW.run am_base_ok ok_C_turn (Nat.le_add_left 1 d) 4 (pc1 := 13) (ls1 := [some (.ref 0), some (.int x1)]) (st1 := [.int (m.1 13 2), .int x1]) (σ1 := (S0, m)) rfl ?_
    refine am_AW.brP ok_C_turn rfl rfl am_c_lt (fun c2 => ?_) (fun c2 => ?_)
    · rw [if_pos c2] at h
      refine am_AW.run am_base_ok ok_C_turn (Nat.le_add_left 1 d) 8 (pc1 := 33) (ls1 := [some (.ref 0), some (.int x1)]) (st1 := [.int x1, .int (0 : Int32), .int (m.1 13 3), .ref 20, .ref 0]) (σ1 := (S0, m)) rfl ?_
      obtain ⟨q5, hq5, h⟩ := Option.bind_eq_some_iff.mp h
      refine am_AW.callV ok_C_turn am_nw_ok (As := [.int (m.1 13 3), .int (0 : Int32), .int x1]) (rest := [.ref 0]) rfl rfl rfl oR_Ring_moved lk_C_194 iM_Ring_moved sE_Ring_moved (qc := kq6) rfl rfl rfl rfl (Nat.le_of_ble_eq_true rfl) (f_Ring_moved_ok (d := d) (by omega) (m.1 13 3) (0 : Int32) x1 hq5) ?_
      change am_AW am_nw ro (d + 1) mr_C_turn 36 [some (.ref 0), some (.int x1)] [.int q5.1, .ref 0] (S0, q5.2) (some (.int r)) (S0, m')
      obtain ⟨q8, hq8, h⟩ := Option.bind_eq_some_iff.mp h
      refine am_AW.callV ok_C_turn am_nw_ok (As := [.int q5.1]) (rest := []) rfl rfl rfl oR_C_layCuts lk_C_176 iM_C_layCuts sE_C_layCuts (qc := kq9) rfl rfl rfl rfl (Nat.le_of_ble_eq_true rfl) (f_C_layCuts_ok (d := d) (by omega) q5.1 hq8) ?_
      change am_AW am_nw ro (d + 1) mr_C_turn 39 [some (.ref 0), some (.int x1)] [] (S0, q8) (some (.int r)) (S0, m')
      refine am_AW.run am_base_ok ok_C_turn (Nat.le_add_left 1 d) 3 (pc1 := 46) (ls1 := [some (.ref 0), some (.int x1)]) (st1 := [.int (q8.1 13 3)]) (σ1 := (S0, q8)) rfl ?_
      obtain ⟨rfl, rfl⟩ := Prod.mk.inj (Option.some.inj h)
      exact am_AW.ret ok_C_turn rfl rfl rfl rfl
    · rw [if_neg c2] at h
      refine am_AW.run am_base_ok ok_C_turn (Nat.le_add_left 1 d) 1 (pc1 := 18) (ls1 := [some (.ref 0), some (.int x1)]) (st1 := [.int (-1000001 : Int32)]) (σ1 := (S0, m)) rfl ?_
      obtain ⟨rfl, rfl⟩ := Prod.mk.inj (Option.some.inj h)
      exact am_AW.ret ok_C_turn rfl rfl rfl rfl
/-! FriezePolygons.mirror()I -/
def f_C_mirror (m : am_Mm) : Option (Int32 × am_Mm) :=
  (f_C_isThere m).bind fun q3 =>
  if q3.1 = (0 : Int32) then
    some ((-1000002 : Int32), q3.2)
  else
    (f_Ring_moved (q3.2.1 13 3) (1 : Int32) (0 : Int32) q3.2).bind fun q7 =>
    (f_C_layCuts q7.1 q7.2).bind fun q10 =>
    some ((q10.1 13 3), q10)
set_option maxHeartbeats 4000000 in
set_option maxRecDepth 100000 in
theorem f_C_mirror_ok {ro : am_Ro} {d : Nat} (hd : 5 ≤ d) {m m' : am_Mm} {r : Int32} (h : f_C_mirror  m = some (r, m')) : am_Mt am_nw ro d mr_C_mirror [.ref 0] (S0, m) (some (.int r)) (S0, m') := by
  obtain ⟨d, rfl⟩ : ∃ d0, d = d0 + 1 := ⟨d - 1, by omega⟩
  refine am_Mt.of (by decide +kernel) (Nat.le_of_ble_eq_true rfl) ?_
  change am_AW am_nw ro (d + 1) mr_C_mirror 0 [some (.ref 0)] [] (S0, m) (some (.int r)) (S0, m')
  unfold f_C_mirror at h
  refine am_AW.run am_base_ok ok_C_mirror (Nat.le_add_left 1 d) 1 (pc1 := 1) (ls1 := [some (.ref 0)]) (st1 := [.ref 0]) (σ1 := (S0, m)) rfl ?_
  obtain ⟨q3, hq3, h⟩ := Option.bind_eq_some_iff.mp h
  refine am_AW.callV ok_C_mirror am_nw_ok (As := []) (rest := []) rfl rfl rfl oR_C_isThere lk_C_198 iM_C_isThere sE_C_isThere (qc := kq9) rfl rfl rfl rfl (Nat.le_of_ble_eq_true rfl) (f_C_isThere_ok (d := d) (by omega)  hq3) ?_
  change am_AW am_nw ro (d + 1) mr_C_mirror 4 [some (.ref 0)] [.int q3.1] (S0, q3.2) (some (.int r)) (S0, m')
  refine am_AW.brN ok_C_mirror rfl rfl am_c_ne (fun c4 => ?_) (fun c4 => ?_)
  · rw [if_pos c4] at h
    refine am_AW.run am_base_ok ok_C_mirror (Nat.le_add_left 1 d) 1 (pc1 := 9) (ls1 := [some (.ref 0)]) (st1 := [.int (-1000002 : Int32)]) (σ1 := (S0, q3.2)) rfl ?_
    obtain ⟨rfl, rfl⟩ := Prod.mk.inj (Option.some.inj h)
    exact am_AW.ret ok_C_mirror rfl rfl rfl rfl
  · rw [if_neg c4] at h
    refine am_AW.run am_base_ok ok_C_mirror (Nat.le_add_left 1 d) 8 (pc1 := 24) (ls1 := [some (.ref 0)]) (st1 := [.int (0 : Int32), .int (1 : Int32), .int (q3.2.1 13 3), .ref 20, .ref 0]) (σ1 := (S0, q3.2)) rfl ?_
    obtain ⟨q7, hq7, h⟩ := Option.bind_eq_some_iff.mp h
    refine am_AW.callV ok_C_mirror am_nw_ok (As := [.int (q3.2.1 13 3), .int (1 : Int32), .int (0 : Int32)]) (rest := [.ref 0]) rfl rfl rfl oR_Ring_moved lk_C_194 iM_Ring_moved sE_Ring_moved (qc := kq6) rfl rfl rfl rfl (Nat.le_of_ble_eq_true rfl) (f_Ring_moved_ok (d := d) (by omega) (q3.2.1 13 3) (1 : Int32) (0 : Int32) hq7) ?_
    change am_AW am_nw ro (d + 1) mr_C_mirror 27 [some (.ref 0)] [.int q7.1, .ref 0] (S0, q7.2) (some (.int r)) (S0, m')
    obtain ⟨q10, hq10, h⟩ := Option.bind_eq_some_iff.mp h
    refine am_AW.callV ok_C_mirror am_nw_ok (As := [.int q7.1]) (rest := []) rfl rfl rfl oR_C_layCuts lk_C_176 iM_C_layCuts sE_C_layCuts (qc := kq9) rfl rfl rfl rfl (Nat.le_of_ble_eq_true rfl) (f_C_layCuts_ok (d := d) (by omega) q7.1 hq10) ?_
    change am_AW am_nw ro (d + 1) mr_C_mirror 30 [some (.ref 0)] [] (S0, q10) (some (.int r)) (S0, m')
    refine am_AW.run am_base_ok ok_C_mirror (Nat.le_add_left 1 d) 3 (pc1 := 37) (ls1 := [some (.ref 0)]) (st1 := [.int (q10.1 13 3)]) (σ1 := (S0, q10)) rfl ?_
    obtain ⟨rfl, rfl⟩ := Prod.mk.inj (Option.some.inj h)
    exact am_AW.ret ok_C_mirror rfl rfl rfl rfl
/-! FriezePolygons.lay(I)I -/
def f_C_lay_b52 (s1 : Int32) (m : am_Mm) : Option (Int32 × am_Mm) :=
  (f_C_fine s1 m).bind fun q13 =>
  some (q13.1, q13.2)
def f_C_lay_b41 (x3 : Int32) (m : am_Mm) : Option (Int32 × am_Mm) :=
  if x3 < (0 : Int32) then
    f_C_lay_b52 (-1000000 : Int32) m
  else
    f_C_lay_b52 x3 m
def f_C_lay (x1 : Int32) (m : am_Mm) : Option (Int32 × am_Mm) :=
  (f_C_refusalOfWhole x1 (0 : Int32) m).bind fun q3 =>
  if q3.1 = (0 : Int32) then
    if am_in x1 8 = true then
      (f_Ears_cutsOf (am_rw x1) (0 : Int32) q3.2).bind fun q8 =>
      if q8.1 < (0 : Int32) then
        f_C_lay_b41 q8.1 q8.2
      else
        (f_C_layCuts q8.1 q8.2).bind fun q16 =>
        f_C_lay_b41 q8.1 q16
    else none
  else
    some (q3.1, q3.2)
set_option maxHeartbeats 4000000 in
set_option maxRecDepth 100000 in
theorem f_C_lay_b52_ok {ro : am_Ro} {d : Nat} (hd : 5 ≤ d + 1) (s1 : Int32) {m m' : am_Mm} {r : Int32} (h : f_C_lay_b52 s1 m = some (r, m')) : am_AW am_nw ro (d + 1) mr_C_lay 52 [none, none, none, none] [.int s1, .ref 0] (S0, m) (some (.int r)) (S0, m') := by
  unfold f_C_lay_b52 at h
  obtain ⟨q13, hq13, h⟩ := Option.bind_eq_some_iff.mp h
  refine am_AW.callV ok_C_lay am_nw_ok (As := [.int s1]) (rest := []) rfl rfl rfl oR_C_fine lk_C_100 iM_C_fine sE_C_fine (qc := kq9) rfl rfl rfl rfl (Nat.le_of_ble_eq_true rfl) (f_C_fine_ok (d := d) (by omega) s1 hq13) ?_
  change am_AW am_nw ro (d + 1) mr_C_lay 55 [none, none, none, none] [.int q13.1] (S0, q13.2) (some (.int r)) (S0, m')
  obtain ⟨rfl, rfl⟩ := Prod.mk.inj (Option.some.inj h)
  exact am_AW.ret ok_C_lay rfl rfl rfl rfl
set_option maxHeartbeats 4000000 in
set_option maxRecDepth 100000 in
theorem f_C_lay_b41_ok {ro : am_Ro} {d : Nat} (hd : 5 ≤ d + 1) (x3 : Int32) {m m' : am_Mm} {r : Int32} (h : f_C_lay_b41 x3 m = some (r, m')) : am_AW am_nw ro (d + 1) mr_C_lay 41 [some (.ref 0), none, none, some (.int x3)] [] (S0, m) (some (.int r)) (S0, m') := by
  unfold f_C_lay_b41 at h
  refine am_AW.run am_base_ok ok_C_lay (Nat.le_add_left 1 d) 2 (pc1 := 43) (ls1 := [some (.ref 0), none, none, some (.int x3)]) (st1 := [.int x3, .ref 0]) (σ1 := (S0, m)) rfl ?_
  refine am_AW.brP ok_C_lay rfl rfl am_c_lt (fun c10 => ?_) (fun c10 => ?_)
  · rw [if_pos c10] at h
    refine am_AW.run am_base_ok ok_C_lay (Nat.le_add_left 1 d) 1 (pc1 := 52) (ls1 := [some (.ref 0), none, none, some (.int x3)]) (st1 := [.int (-1000000 : Int32), .ref 0]) (σ1 := (S0, m)) rfl ?_
    exact am_AW.weak (f_C_lay_b52_ok hd (-1000000 : Int32)  h) (by simp only [am_le, and_self])
  · rw [if_neg c10] at h
    refine am_AW.run am_base_ok ok_C_lay (Nat.le_add_left 1 d) 2 (pc1 := 52) (ls1 := [some (.ref 0), none, none, some (.int x3)]) (st1 := [.int x3, .ref 0]) (σ1 := (S0, m)) rfl ?_
    exact am_AW.weak (f_C_lay_b52_ok hd x3  h) (by simp only [am_le, and_self])
set_option maxHeartbeats 4000000 in
set_option maxRecDepth 100000 in
theorem f_C_lay_ok {ro : am_Ro} {d : Nat} (hd : 5 ≤ d) (x1 : Int32) {m m' : am_Mm} {r : Int32} (h : f_C_lay x1 m = some (r, m')) : am_Mt am_nw ro d mr_C_lay [.ref 0, .int x1] (S0, m) (some (.int r)) (S0, m') := by
  obtain ⟨d, rfl⟩ : ∃ d0, d = d0 + 1 := ⟨d - 1, by omega⟩
  refine am_Mt.of (by decide +kernel) (Nat.le_of_ble_eq_true rfl) ?_
  change am_AW am_nw ro (d + 1) mr_C_lay 0 [some (.ref 0), some (.int x1), none, none] [] (S0, m) (some (.int r)) (S0, m')
  unfold f_C_lay at h
  refine am_AW.run am_base_ok ok_C_lay (Nat.le_add_left 1 d) 3 (pc1 := 3) (ls1 := [some (.ref 0), some (.int x1), none, none]) (st1 := [.int (0 : Int32), .int x1, .ref 0]) (σ1 := (S0, m)) rfl ?_
  obtain ⟨q3, hq3, h⟩ := Option.bind_eq_some_iff.mp h
  refine am_AW.callV ok_C_lay am_nw_ok (As := [.int x1, .int (0 : Int32)]) (rest := []) rfl rfl rfl oR_C_refusalOfWhole lk_C_214 iM_C_refusalOfWhole sE_C_refusalOfWhole (qc := kq9) rfl rfl rfl rfl (Nat.le_of_ble_eq_true rfl) (f_C_refusalOfWhole_ok (d := d) (by omega) x1 (0 : Int32) hq3) ?_
  change am_AW am_nw ro (d + 1) mr_C_lay 6 [some (.ref 0), some (.int x1), none, none] [.int q3.1] (S0, q3.2) (some (.int r)) (S0, m')
  refine am_AW.run am_base_ok ok_C_lay (Nat.le_add_left 1 d) 2 (pc1 := 8) (ls1 := [some (.ref 0), some (.int x1), some (.int q3.1), none]) (st1 := [.int q3.1]) (σ1 := (S0, q3.2)) rfl ?_
  refine am_AW.brP ok_C_lay rfl rfl am_c_eq (fun c4 => ?_) (fun c4 => ?_)
  · rw [if_pos c4] at h
    refine am_AW.run am_base_ok ok_C_lay (Nat.le_add_left 1 d) 5 (pc1 := 22) (ls1 := [some (.ref 0), some (.int x1), some (.int q3.1), none]) (st1 := [.int x1, .ref 1, .ref 33]) (σ1 := (S0, q3.2)) rfl ?_
    by_cases g5 : am_in x1 8 = true
    rotate_left
    · rw [if_neg g5] at h
      cases h
    rw [if_pos g5] at h
    refine am_AW.aald ok_C_lay (Nat.le_add_left 1 d) rfl (am_rw_at g5) ?_
    refine am_AW.run am_base_ok ok_C_lay (Nat.le_add_left 1 d) 3 (pc1 := 28) (ls1 := [some (.ref 0), some (.int x1), some (.int q3.1), none]) (st1 := [.ref 20, .int (0 : Int32), .ref (am_rw x1), .ref 33]) (σ1 := (S0, q3.2)) rfl ?_
    obtain ⟨q8, hq8, h⟩ := Option.bind_eq_some_iff.mp h
    refine am_AW.callV ok_C_lay am_nw_ok (As := [.ref (am_rw x1), .int (0 : Int32), .ref 20]) (rest := []) rfl rfl rfl oR_Ears_cutsOf lk_C_217 iM_Ears_cutsOf sE_Ears_cutsOf (qc := kq2) rfl rfl rfl rfl (Nat.le_of_ble_eq_true rfl) (f_Ears_cutsOf_ok (d := d) (by omega) (am_rw x1) (0 : Int32) (am_rw_in g5) hq8) ?_
    change am_AW am_nw ro (d + 1) mr_C_lay 31 [some (.ref 0), some (.int x1), some (.int q3.1), none] [.int q8.1] (S0, q8.2) (some (.int r)) (S0, m')
    refine am_AW.run am_base_ok ok_C_lay (Nat.le_add_left 1 d) 2 (pc1 := 33) (ls1 := [some (.ref 0), some (.int x1), some (.int q3.1), some (.int q8.1)]) (st1 := [.int q8.1]) (σ1 := (S0, q8.2)) rfl ?_
    refine am_AW.brP ok_C_lay rfl rfl am_c_lt (fun c9 => ?_) (fun c9 => ?_)
    · rw [if_pos c9] at h
      exact am_AW.weak (f_C_lay_b41_ok hd q8.1  h) (by simp only [am_le, and_self])
    · rw [if_neg c9] at h
      refine am_AW.run am_base_ok ok_C_lay (Nat.le_add_left 1 d) 2 (pc1 := 38) (ls1 := [some (.ref 0), some (.int x1), some (.int q3.1), some (.int q8.1)]) (st1 := [.int q8.1, .ref 0]) (σ1 := (S0, q8.2)) rfl ?_
      obtain ⟨q16, hq16, h⟩ := Option.bind_eq_some_iff.mp h
      refine am_AW.callV ok_C_lay am_nw_ok (As := [.int q8.1]) (rest := []) rfl rfl rfl oR_C_layCuts lk_C_176 iM_C_layCuts sE_C_layCuts (qc := kq9) rfl rfl rfl rfl (Nat.le_of_ble_eq_true rfl) (f_C_layCuts_ok (d := d) (by omega) q8.1 hq16) ?_
      change am_AW am_nw ro (d + 1) mr_C_lay 41 [some (.ref 0), some (.int x1), some (.int q3.1), some (.int q8.1)] [] (S0, q16) (some (.int r)) (S0, m')
      exact am_AW.weak (f_C_lay_b41_ok hd q8.1  h) (by simp only [am_le, and_self])
  · rw [if_neg c4] at h
    refine am_AW.run am_base_ok ok_C_lay (Nat.le_add_left 1 d) 1 (pc1 := 12) (ls1 := [some (.ref 0), some (.int x1), some (.int q3.1), none]) (st1 := [.int q3.1]) (σ1 := (S0, q3.2)) rfl ?_
    obtain ⟨rfl, rfl⟩ := Prod.mk.inj (Option.some.inj h)
    exact am_AW.ret ok_C_lay rfl rfl rfl rfl
/-! FriezePolygons.cutOf(II)I -/
def f_C_cutOf (x1 : Int32) (x2 : Int32) (m : am_Mm) : Option (Int32 × am_Mm) :=
  (f_Ring_isNumber 20 x1 m).bind fun q3 =>
  if q3.1 = (0 : Int32) then
    some ((-1000001 : Int32), q3.2)
  else
    if x2 = (0 : Int32) then
      if am_in x1 27 = true then
        some ((q3.2.1 21 x1.toNatClampNeg), q3.2)
      else none
    else
      if x2 = (1 : Int32) then
        if am_in x1 27 = true then
          some ((q3.2.1 22 x1.toNatClampNeg), q3.2)
        else none
      else
        if x2 = (2 : Int32) then
          (f_Figure_hasCut x1 q3.2).bind fun q12 =>
          if q12.1 = (0 : Int32) then
            some ((0 : Int32), q12.2)
          else
            some ((1 : Int32), q12.2)
        else
          if x2 = (3 : Int32) then
            (f_Ring_flippedOf (q3.2.1 13 3) x1 q3.2).bind fun q17 =>
            if q17.1 < (0 : Int32) then
              some ((-1000000 : Int32), q17.2)
            else
              some (q17.1, q17.2)
          else
            some ((-1000001 : Int32), q3.2)
set_option maxHeartbeats 4000000 in
set_option maxRecDepth 100000 in
theorem f_C_cutOf_ok {ro : am_Ro} {d : Nat} (hd : 5 ≤ d) (x1 : Int32) (x2 : Int32) {m m' : am_Mm} {r : Int32} (h : f_C_cutOf x1 x2 m = some (r, m')) : am_Mt am_nw ro d mr_C_cutOf [.ref 0, .int x1, .int x2] (S0, m) (some (.int r)) (S0, m') := by
  obtain ⟨d, rfl⟩ : ∃ d0, d = d0 + 1 := ⟨d - 1, by omega⟩
  refine am_Mt.of (by decide +kernel) (Nat.le_of_ble_eq_true rfl) ?_
  change am_AW am_nw ro (d + 1) mr_C_cutOf 0 [some (.ref 0), some (.int x1), some (.int x2), none] [] (S0, m) (some (.int r)) (S0, m')
  unfold f_C_cutOf at h
  refine am_AW.run am_base_ok ok_C_cutOf (Nat.le_add_left 1 d) 3 (pc1 := 5) (ls1 := [some (.ref 0), some (.int x1), some (.int x2), none]) (st1 := [.int x1, .ref 20]) (σ1 := (S0, m)) rfl ?_
  obtain ⟨q3, hq3, h⟩ := Option.bind_eq_some_iff.mp h
  refine am_AW.callV ok_C_cutOf am_nw_ok (As := [.int x1]) (rest := []) rfl rfl rfl oR_Ring_isNumber lk_C_185 iM_Ring_isNumber sE_Ring_isNumber (qc := kq6) rfl rfl rfl rfl (Nat.le_of_ble_eq_true rfl) (f_Ring_isNumber_ok (d := d) (by omega) 20 x1 (by simp) hq3) ?_
  change am_AW am_nw ro (d + 1) mr_C_cutOf 8 [some (.ref 0), some (.int x1), some (.int x2), none] [.int q3.1] (S0, q3.2) (some (.int r)) (S0, m')
  refine am_AW.brN ok_C_cutOf rfl rfl am_c_ne (fun c4 => ?_) (fun c4 => ?_)
  · rw [if_pos c4] at h
    refine am_AW.run am_base_ok ok_C_cutOf (Nat.le_add_left 1 d) 1 (pc1 := 13) (ls1 := [some (.ref 0), some (.int x1), some (.int x2), none]) (st1 := [.int (-1000001 : Int32)]) (σ1 := (S0, q3.2)) rfl ?_
    obtain ⟨rfl, rfl⟩ := Prod.mk.inj (Option.some.inj h)
    exact am_AW.ret ok_C_cutOf rfl rfl rfl rfl
  · rw [if_neg c4] at h
    refine am_AW.run am_base_ok ok_C_cutOf (Nat.le_add_left 1 d) 1 (pc1 := 15) (ls1 := [some (.ref 0), some (.int x1), some (.int x2), none]) (st1 := [.int x2]) (σ1 := (S0, q3.2)) rfl ?_
    by_cases c5 : x2 = (0 : Int32)
    · rw [if_pos c5] at h
      refine am_AW.sw ok_C_cutOf rfl (t := 44) (by rw [c5]; decide +kernel) ?_
      refine am_AW.run am_base_ok ok_C_cutOf (Nat.le_add_left 1 d) 4 (pc1 := 52) (ls1 := [some (.ref 0), some (.int x1), some (.int x2), none]) (st1 := [.int x1, .ref 21]) (σ1 := (S0, q3.2)) rfl ?_
      by_cases g6 : am_in x1 27 = true
      rotate_left
      · rw [if_neg g6] at h
        cases h
      rw [if_pos g6] at h
      refine am_AW.iald ok_C_cutOf (Nat.le_add_left 1 d) S0_len rfl rfl g6 ?_
      obtain ⟨rfl, rfl⟩ := Prod.mk.inj (Option.some.inj h)
      exact am_AW.ret ok_C_cutOf rfl rfl rfl rfl
    rw [if_neg c5] at h
    by_cases c7 : x2 = (1 : Int32)
    · rw [if_pos c7] at h
      refine am_AW.sw ok_C_cutOf rfl (t := 54) (by rw [c7]; decide +kernel) ?_
      refine am_AW.run am_base_ok ok_C_cutOf (Nat.le_add_left 1 d) 4 (pc1 := 62) (ls1 := [some (.ref 0), some (.int x1), some (.int x2), none]) (st1 := [.int x1, .ref 22]) (σ1 := (S0, q3.2)) rfl ?_
      by_cases g8 : am_in x1 27 = true
      rotate_left
      · rw [if_neg g8] at h
        cases h
      rw [if_pos g8] at h
      refine am_AW.iald ok_C_cutOf (Nat.le_add_left 1 d) S0_len rfl rfl g8 ?_
      obtain ⟨rfl, rfl⟩ := Prod.mk.inj (Option.some.inj h)
      exact am_AW.ret ok_C_cutOf rfl rfl rfl rfl
    rw [if_neg c7] at h
    by_cases c9 : x2 = (2 : Int32)
    · rw [if_pos c9] at h
      refine am_AW.sw ok_C_cutOf rfl (t := 64) (by rw [c9]; decide +kernel) ?_
      refine am_AW.run am_base_ok ok_C_cutOf (Nat.le_add_left 1 d) 3 (pc1 := 69) (ls1 := [some (.ref 0), some (.int x1), some (.int x2), none]) (st1 := [.int x1, .ref 13]) (σ1 := (S0, q3.2)) rfl ?_
      obtain ⟨q12, hq12, h⟩ := Option.bind_eq_some_iff.mp h
      refine am_AW.callV ok_C_cutOf am_nw_ok (As := [.int x1]) (rest := []) rfl rfl rfl oR_Figure_hasCut lk_C_188 iM_Figure_hasCut sE_Figure_hasCut (qc := kq3) rfl rfl rfl rfl (Nat.le_of_ble_eq_true rfl) (f_Figure_hasCut_ok (d := d) (by omega) x1 hq12) ?_
      change am_AW am_nw ro (d + 1) mr_C_cutOf 72 [some (.ref 0), some (.int x1), some (.int x2), none] [.int q12.1] (S0, q12.2) (some (.int r)) (S0, m')
      refine am_AW.brP ok_C_cutOf rfl rfl am_c_eq (fun c13 => ?_) (fun c13 => ?_)
      · rw [if_pos c13] at h
        refine am_AW.run am_base_ok ok_C_cutOf (Nat.le_add_left 1 d) 1 (pc1 := 80) (ls1 := [some (.ref 0), some (.int x1), some (.int x2), none]) (st1 := [.int (0 : Int32)]) (σ1 := (S0, q12.2)) rfl ?_
        obtain ⟨rfl, rfl⟩ := Prod.mk.inj (Option.some.inj h)
        exact am_AW.ret ok_C_cutOf rfl rfl rfl rfl
      · rw [if_neg c13] at h
        refine am_AW.run am_base_ok ok_C_cutOf (Nat.le_add_left 1 d) 2 (pc1 := 80) (ls1 := [some (.ref 0), some (.int x1), some (.int x2), none]) (st1 := [.int (1 : Int32)]) (σ1 := (S0, q12.2)) rfl ?_
        obtain ⟨rfl, rfl⟩ := Prod.mk.inj (Option.some.inj h)
        exact am_AW.ret ok_C_cutOf rfl rfl rfl rfl
    rw [if_neg c9] at h
    by_cases c14 : x2 = (3 : Int32)
    · rw [if_pos c14] at h
      refine am_AW.sw ok_C_cutOf rfl (t := 81) (by rw [c14]; decide +kernel) ?_
      refine am_AW.run am_base_ok ok_C_cutOf (Nat.le_add_left 1 d) 6 (pc1 := 93) (ls1 := [some (.ref 0), some (.int x1), some (.int x2), none]) (st1 := [.int x1, .int (q3.2.1 13 3), .ref 20]) (σ1 := (S0, q3.2)) rfl ?_
      obtain ⟨q17, hq17, h⟩ := Option.bind_eq_some_iff.mp h
      refine am_AW.callV ok_C_cutOf am_nw_ok (As := [.int (q3.2.1 13 3), .int x1]) (rest := []) rfl rfl rfl oR_Ring_flippedOf lk_C_191 iM_Ring_flippedOf sE_Ring_flippedOf (qc := kq6) rfl rfl rfl rfl (Nat.le_of_ble_eq_true rfl) (f_Ring_flippedOf_ok (d := d) (by omega) (q3.2.1 13 3) x1 hq17) ?_
      change am_AW am_nw ro (d + 1) mr_C_cutOf 96 [some (.ref 0), some (.int x1), some (.int x2), none] [.int q17.1] (S0, q17.2) (some (.int r)) (S0, m')
      refine am_AW.run am_base_ok ok_C_cutOf (Nat.le_add_left 1 d) 2 (pc1 := 98) (ls1 := [some (.ref 0), some (.int x1), some (.int x2), some (.int q17.1)]) (st1 := [.int q17.1]) (σ1 := (S0, q17.2)) rfl ?_
      refine am_AW.brP ok_C_cutOf rfl rfl am_c_lt (fun c18 => ?_) (fun c18 => ?_)
      · rw [if_pos c18] at h
        refine am_AW.run am_base_ok ok_C_cutOf (Nat.le_add_left 1 d) 1 (pc1 := 107) (ls1 := [some (.ref 0), some (.int x1), some (.int x2), some (.int q17.1)]) (st1 := [.int (-1000000 : Int32)]) (σ1 := (S0, q17.2)) rfl ?_
        obtain ⟨rfl, rfl⟩ := Prod.mk.inj (Option.some.inj h)
        exact am_AW.ret ok_C_cutOf rfl rfl rfl rfl
      · rw [if_neg c18] at h
        refine am_AW.run am_base_ok ok_C_cutOf (Nat.le_add_left 1 d) 2 (pc1 := 107) (ls1 := [some (.ref 0), some (.int x1), some (.int x2), some (.int q17.1)]) (st1 := [.int q17.1]) (σ1 := (S0, q17.2)) rfl ?_
        obtain ⟨rfl, rfl⟩ := Prod.mk.inj (Option.some.inj h)
        exact am_AW.ret ok_C_cutOf rfl rfl rfl rfl
    rw [if_neg c14] at h
    have o19 : (x2).toInt < 0 ∨ 3 < (x2).toInt := by
      have := lv_neT c5 (a := 0) (by decide)
      have := lv_neT c7 (a := 1) (by decide)
      have := lv_neT c9 (a := 2) (by decide)
      have := lv_neT c14 (a := 3) (by decide)
      omega
    refine am_AW.sw ok_C_cutOf rfl (t := 108) (by simp only [am_sw, if_pos o19]; decide +kernel) ?_
    refine am_AW.run am_base_ok ok_C_cutOf (Nat.le_add_left 1 d) 1 (pc1 := 110) (ls1 := [some (.ref 0), some (.int x1), some (.int x2), none]) (st1 := [.int (-1000001 : Int32)]) (σ1 := (S0, q3.2)) rfl ?_
    obtain ⟨rfl, rfl⟩ := Prod.mk.inj (Option.some.inj h)
    exact am_AW.ret ok_C_cutOf rfl rfl rfl rfl
/-! FriezePolygons.frieze(II)J -/
def f_C_frieze_b18 (m : am_Mm) : Option (Int64 × am_Mm) :=
  some ((-1000001 : Int64), m)
def f_C_frieze (x1 : Int32) (x2 : Int32) (m : am_Mm) : Option (Int64 × am_Mm) :=
  (f_C_isCorner x1 m).bind fun q3 =>
  if q3.1 = (0 : Int32) then
    f_C_frieze_b18 q3.2
  else
    if x2 < (0 : Int32) then
      f_C_frieze_b18 q3.2
    else
      if x2 ≤ (20 : Int32) then
        (f_Frieze_tellCounts q3.2).bind fun q9 =>
        (f_Frieze_grow x1 x2 q9).bind fun q12 =>
        if q12.1 = (0 : Int32) then
          (f_C_found (6 : Int32) q12.2).bind fun q16 =>
          some ((q16.1.toInt64), q16.2)
        else
          if am_in x2 21 = true then
            some (((am_pI q12.2 0 12 (0 : Int32)).2 32 x2.toNatClampNeg), (am_pI q12.2 0 12 (0 : Int32)))
          else none
      else
        f_C_frieze_b18 q3.2
set_option maxHeartbeats 4000000 in
set_option maxRecDepth 100000 in
theorem f_C_frieze_b18_ok {ro : am_Ro} {d : Nat} (hd : 5 ≤ d + 1) {m m' : am_Mm} {r : Int64} (h : f_C_frieze_b18  m = some (r, m')) : am_AW am_nw ro (d + 1) mr_C_frieze 18 [none, none, none] [] (S0, m) (some (.long r)) (S0, m') := by
  unfold f_C_frieze_b18 at h
  refine am_AW.run am_base_ok ok_C_frieze (Nat.le_add_left 1 d) 1 (pc1 := 21) (ls1 := [none, none, none]) (st1 := [.long (-1000001 : Int64)]) (σ1 := (S0, m)) rfl ?_
  obtain ⟨rfl, rfl⟩ := Prod.mk.inj (Option.some.inj h)
  exact am_AW.ret ok_C_frieze rfl rfl rfl rfl
set_option maxHeartbeats 4000000 in
set_option maxRecDepth 100000 in
theorem f_C_frieze_ok {ro : am_Ro} {d : Nat} (hd : 5 ≤ d) (x1 : Int32) (x2 : Int32) {m m' : am_Mm} {r : Int64} (h : f_C_frieze x1 x2 m = some (r, m')) : am_Mt am_nw ro d mr_C_frieze [.ref 0, .int x1, .int x2] (S0, m) (some (.long r)) (S0, m') := by
  obtain ⟨d, rfl⟩ : ∃ d0, d = d0 + 1 := ⟨d - 1, by omega⟩
  refine am_Mt.of (by decide +kernel) (Nat.le_of_ble_eq_true rfl) ?_
  change am_AW am_nw ro (d + 1) mr_C_frieze 0 [some (.ref 0), some (.int x1), some (.int x2)] [] (S0, m) (some (.long r)) (S0, m')
  unfold f_C_frieze at h
  refine am_AW.run am_base_ok ok_C_frieze (Nat.le_add_left 1 d) 2 (pc1 := 2) (ls1 := [some (.ref 0), some (.int x1), some (.int x2)]) (st1 := [.int x1, .ref 0]) (σ1 := (S0, m)) rfl ?_
  obtain ⟨q3, hq3, h⟩ := Option.bind_eq_some_iff.mp h
  refine am_AW.callV ok_C_frieze am_nw_ok (As := [.int x1]) (rest := []) rfl rfl rfl oR_C_isCorner lk_C_201 iM_C_isCorner sE_C_isCorner (qc := kq9) rfl rfl rfl rfl (Nat.le_of_ble_eq_true rfl) (f_C_isCorner_ok (d := d) (by omega) x1 hq3) ?_
  change am_AW am_nw ro (d + 1) mr_C_frieze 5 [some (.ref 0), some (.int x1), some (.int x2)] [.int q3.1] (S0, q3.2) (some (.long r)) (S0, m')
  refine am_AW.brP ok_C_frieze rfl rfl am_c_eq (fun c4 => ?_) (fun c4 => ?_)
  · rw [if_pos c4] at h
    exact am_AW.weak (f_C_frieze_b18_ok hd   h) (by simp only [am_le, and_self])
  · rw [if_neg c4] at h
    refine am_AW.run am_base_ok ok_C_frieze (Nat.le_add_left 1 d) 1 (pc1 := 9) (ls1 := [some (.ref 0), some (.int x1), some (.int x2)]) (st1 := [.int x2]) (σ1 := (S0, q3.2)) rfl ?_
    refine am_AW.brP ok_C_frieze rfl rfl am_c_lt (fun c5 => ?_) (fun c5 => ?_)
    · rw [if_pos c5] at h
      exact am_AW.weak (f_C_frieze_b18_ok hd   h) (by simp only [am_le, and_self])
    · rw [if_neg c5] at h
      refine am_AW.run am_base_ok ok_C_frieze (Nat.le_add_left 1 d) 2 (pc1 := 15) (ls1 := [some (.ref 0), some (.int x1), some (.int x2)]) (st1 := [.int (20 : Int32), .int x2]) (σ1 := (S0, q3.2)) rfl ?_
      refine am_AW.brP ok_C_frieze rfl rfl am_c_le (fun c6 => ?_) (fun c6 => ?_)
      · rw [if_pos c6] at h
        refine am_AW.run am_base_ok ok_C_frieze (Nat.le_add_left 1 d) 6 (pc1 := 34) (ls1 := [some (.ref 0), some (.int x1), some (.int x2)]) (st1 := [.ref 20, .ref 13, .ref 30]) (σ1 := (S0, q3.2)) rfl ?_
        obtain ⟨q9, hq9, h⟩ := Option.bind_eq_some_iff.mp h
        refine am_AW.callV ok_C_frieze am_nw_ok (As := [.ref 13, .ref 20]) (rest := []) rfl rfl rfl oR_Frieze_tellCounts lk_C_240 iM_Frieze_tellCounts sE_Frieze_tellCounts (qc := kq5) rfl rfl rfl rfl (Nat.le_of_ble_eq_true rfl) (f_Frieze_tellCounts_ok (d := d) (by omega)  hq9) ?_
        change am_AW am_nw ro (d + 1) mr_C_frieze 37 [some (.ref 0), some (.int x1), some (.int x2)] [] (S0, q9) (some (.long r)) (S0, m')
        refine am_AW.run am_base_ok ok_C_frieze (Nat.le_add_left 1 d) 4 (pc1 := 43) (ls1 := [some (.ref 0), some (.int x1), some (.int x2)]) (st1 := [.int x2, .int x1, .ref 30]) (σ1 := (S0, q9)) rfl ?_
        obtain ⟨q12, hq12, h⟩ := Option.bind_eq_some_iff.mp h
        refine am_AW.callV ok_C_frieze am_nw_ok (As := [.int x1, .int x2]) (rest := []) rfl rfl rfl oR_Frieze_grow lk_C_244 iM_Frieze_grow sE_Frieze_grow (qc := kq5) rfl rfl rfl rfl (Nat.le_of_ble_eq_true rfl) (f_Frieze_grow_ok (d := d) (by omega) x1 x2 hq12) ?_
        change am_AW am_nw ro (d + 1) mr_C_frieze 46 [some (.ref 0), some (.int x1), some (.int x2)] [.int q12.1] (S0, q12.2) (some (.long r)) (S0, m')
        refine am_AW.brN ok_C_frieze rfl rfl am_c_ne (fun c13 => ?_) (fun c13 => ?_)
        · rw [if_pos c13] at h
          refine am_AW.run am_base_ok ok_C_frieze (Nat.le_add_left 1 d) 2 (pc1 := 52) (ls1 := [some (.ref 0), some (.int x1), some (.int x2)]) (st1 := [.int (6 : Int32), .ref 0]) (σ1 := (S0, q12.2)) rfl ?_
          obtain ⟨q16, hq16, h⟩ := Option.bind_eq_some_iff.mp h
          refine am_AW.callV ok_C_frieze am_nw_ok (As := [.int (6 : Int32)]) (rest := []) rfl rfl rfl oR_C_found lk_C_92 iM_C_found sE_C_found (qc := kq9) rfl rfl rfl rfl (Nat.le_of_ble_eq_true rfl) (f_C_found_ok (d := d) (by omega) (6 : Int32) hq16) ?_
          change am_AW am_nw ro (d + 1) mr_C_frieze 55 [some (.ref 0), some (.int x1), some (.int x2)] [.int q16.1] (S0, q16.2) (some (.long r)) (S0, m')
          refine am_AW.run am_base_ok ok_C_frieze (Nat.le_add_left 1 d) 1 (pc1 := 56) (ls1 := [some (.ref 0), some (.int x1), some (.int x2)]) (st1 := [.long (q16.1.toInt64)]) (σ1 := (S0, q16.2)) rfl ?_
          obtain ⟨rfl, rfl⟩ := Prod.mk.inj (Option.some.inj h)
          exact am_AW.ret ok_C_frieze rfl rfl rfl rfl
        · rw [if_neg c13] at h
          refine am_AW.run am_base_ok ok_C_frieze (Nat.le_add_left 1 d) 2 (pc1 := 59) (ls1 := [some (.ref 0), some (.int x1), some (.int x2)]) (st1 := [.int (0 : Int32), .ref 0]) (σ1 := (S0, q12.2)) rfl ?_
          refine am_AW.puti ok_C_frieze (Nat.le_add_left 1 d) rfl rfl rfl (qc := kq9) rfl (by decide) ty_9_12 ?_
          refine am_AW.run am_base_ok ok_C_frieze (Nat.le_add_left 1 d) 4 (pc1 := 70) (ls1 := [some (.ref 0), some (.int x1), some (.int x2)]) (st1 := [.int x2, .ref 32]) (σ1 := (S0, (am_pI q12.2 0 12 (0 : Int32)))) rfl ?_
          by_cases g17 : am_in x2 21 = true
          rotate_left
          · rw [if_neg g17] at h
            cases h
          rw [if_pos g17] at h
          refine am_AW.lald ok_C_frieze (Nat.le_add_left 1 d) rfl rfl g17 ?_
          obtain ⟨rfl, rfl⟩ := Prod.mk.inj (Option.some.inj h)
          exact am_AW.ret ok_C_frieze rfl rfl rfl rfl
      · rw [if_neg c6] at h
        exact am_AW.weak (f_C_frieze_b18_ok hd   h) (by simp only [am_le, and_self])
/-! FriezePolygons.whole(I)I -/
def f_C_whole (x1 : Int32) (m : am_Mm) : Option (Int32 × am_Mm) :=
  (f_C_isThere m).bind fun q3 =>
  if q3.1 = (0 : Int32) then
    some ((-1000002 : Int32), q3.2)
  else
    (f_Frieze_tellCounts q3.2).bind fun q7 =>
    if x1 = (0 : Int32) then
      (f_Integer_bitCount (q7.1 13 3) q7).bind fun q11 =>
      some (q11.1, q11.2)
    else
      if x1 = (1 : Int32) then
        some ((q7.1 13 3), q7)
      else
        if x1 = (2 : Int32) then
          (f_Integer_bitCount (q7.1 13 3) q7).bind fun q16 =>
          some ((q16.1 + (1 : Int32)), q16.2)
        else
          if x1 = (3 : Int32) then
            (f_Frieze_closes q7).bind fun q20 =>
            if q20.1 = (0 : Int32) then
              some ((0 : Int32), q20.2)
            else
              some ((1 : Int32), q20.2)
          else
            if x1 = (4 : Int32) then
              (f_Frieze_period q7).bind fun q25 =>
              some (q25.1, q25.2)
            else
              if x1 = (5 : Int32) then
                (f_Frieze_cornersWith (1 : Int32) q7).bind fun q29 =>
                some (q29.1, q29.2)
              else
                if x1 = (6 : Int32) then
                  (f_Frieze_cornersWith (0 : Int32) q7).bind fun q33 =>
                  some (q33.1, q33.2)
                else
                  if x1 = (7 : Int32) then
                    (f_C_isTriangled q7).bind fun q37 =>
                    if q37.1 = (0 : Int32) then
                      some ((0 : Int32), q37.2)
                    else
                      some ((1 : Int32), q37.2)
                  else
                    if x1 = (8 : Int32) then
                      some ((q7.1 20 6), q7)
                    else
                      some ((-1000001 : Int32), q7)
set_option maxHeartbeats 4000000 in
set_option maxRecDepth 100000 in
theorem f_C_whole_ok {ro : am_Ro} {d : Nat} (hd : 5 ≤ d) (x1 : Int32) {m m' : am_Mm} {r : Int32} (h : f_C_whole x1 m = some (r, m')) : am_Mt am_nw ro d mr_C_whole [.ref 0, .int x1] (S0, m) (some (.int r)) (S0, m') := by
  obtain ⟨d, rfl⟩ : ∃ d0, d = d0 + 1 := ⟨d - 1, by omega⟩
  refine am_Mt.of (by decide +kernel) (Nat.le_of_ble_eq_true rfl) ?_
  change am_AW am_nw ro (d + 1) mr_C_whole 0 [some (.ref 0), some (.int x1)] [] (S0, m) (some (.int r)) (S0, m')
  unfold f_C_whole at h
  refine am_AW.run am_base_ok ok_C_whole (Nat.le_add_left 1 d) 1 (pc1 := 1) (ls1 := [some (.ref 0), some (.int x1)]) (st1 := [.ref 0]) (σ1 := (S0, m)) rfl ?_
  obtain ⟨q3, hq3, h⟩ := Option.bind_eq_some_iff.mp h
  refine am_AW.callV ok_C_whole am_nw_ok (As := []) (rest := []) rfl rfl rfl oR_C_isThere lk_C_198 iM_C_isThere sE_C_isThere (qc := kq9) rfl rfl rfl rfl (Nat.le_of_ble_eq_true rfl) (f_C_isThere_ok (d := d) (by omega)  hq3) ?_
  change am_AW am_nw ro (d + 1) mr_C_whole 4 [some (.ref 0), some (.int x1)] [.int q3.1] (S0, q3.2) (some (.int r)) (S0, m')
  refine am_AW.brN ok_C_whole rfl rfl am_c_ne (fun c4 => ?_) (fun c4 => ?_)
  · rw [if_pos c4] at h
    refine am_AW.run am_base_ok ok_C_whole (Nat.le_add_left 1 d) 1 (pc1 := 9) (ls1 := [some (.ref 0), some (.int x1)]) (st1 := [.int (-1000002 : Int32)]) (σ1 := (S0, q3.2)) rfl ?_
    obtain ⟨rfl, rfl⟩ := Prod.mk.inj (Option.some.inj h)
    exact am_AW.ret ok_C_whole rfl rfl rfl rfl
  · rw [if_neg c4] at h
    refine am_AW.run am_base_ok ok_C_whole (Nat.le_add_left 1 d) 6 (pc1 := 22) (ls1 := [some (.ref 0), some (.int x1)]) (st1 := [.ref 20, .ref 13, .ref 30]) (σ1 := (S0, q3.2)) rfl ?_
    obtain ⟨q7, hq7, h⟩ := Option.bind_eq_some_iff.mp h
    refine am_AW.callV ok_C_whole am_nw_ok (As := [.ref 13, .ref 20]) (rest := []) rfl rfl rfl oR_Frieze_tellCounts lk_C_240 iM_Frieze_tellCounts sE_Frieze_tellCounts (qc := kq5) rfl rfl rfl rfl (Nat.le_of_ble_eq_true rfl) (f_Frieze_tellCounts_ok (d := d) (by omega)  hq7) ?_
    change am_AW am_nw ro (d + 1) mr_C_whole 25 [some (.ref 0), some (.int x1)] [] (S0, q7) (some (.int r)) (S0, m')
    refine am_AW.run am_base_ok ok_C_whole (Nat.le_add_left 1 d) 1 (pc1 := 26) (ls1 := [some (.ref 0), some (.int x1)]) (st1 := [.int x1]) (σ1 := (S0, q7)) rfl ?_
    by_cases c8 : x1 = (0 : Int32)
    · rw [if_pos c8] at h
      refine am_AW.sw ok_C_whole rfl (t := 76) (by rw [c8]; decide +kernel) ?_
      refine am_AW.run am_base_ok ok_C_whole (Nat.le_add_left 1 d) 3 (pc1 := 83) (ls1 := [some (.ref 0), some (.int x1)]) (st1 := [.int (q7.1 13 3)]) (σ1 := (S0, q7)) rfl ?_
      obtain ⟨q11, hq11, h⟩ := Option.bind_eq_some_iff.mp h
      refine am_AW.callS ok_C_whole am_nw_ok (As := [.int (q7.1 13 3)]) (rest := []) rfl rfl rfl oR_Integer_bitCount lk_C_180 sT_Integer_bitCount rfl (Nat.le_of_ble_eq_true rfl) (f_Integer_bitCount_ok (d := d) (by omega) (q7.1 13 3) hq11) ?_
      change am_AW am_nw ro (d + 1) mr_C_whole 86 [some (.ref 0), some (.int x1)] [.int q11.1] (S0, q11.2) (some (.int r)) (S0, m')
      obtain ⟨rfl, rfl⟩ := Prod.mk.inj (Option.some.inj h)
      exact am_AW.ret ok_C_whole rfl rfl rfl rfl
    rw [if_neg c8] at h
    by_cases c12 : x1 = (1 : Int32)
    · rw [if_pos c12] at h
      refine am_AW.sw ok_C_whole rfl (t := 87) (by rw [c12]; decide +kernel) ?_
      refine am_AW.run am_base_ok ok_C_whole (Nat.le_add_left 1 d) 3 (pc1 := 94) (ls1 := [some (.ref 0), some (.int x1)]) (st1 := [.int (q7.1 13 3)]) (σ1 := (S0, q7)) rfl ?_
      obtain ⟨rfl, rfl⟩ := Prod.mk.inj (Option.some.inj h)
      exact am_AW.ret ok_C_whole rfl rfl rfl rfl
    rw [if_neg c12] at h
    by_cases c13 : x1 = (2 : Int32)
    · rw [if_pos c13] at h
      refine am_AW.sw ok_C_whole rfl (t := 95) (by rw [c13]; decide +kernel) ?_
      refine am_AW.run am_base_ok ok_C_whole (Nat.le_add_left 1 d) 3 (pc1 := 102) (ls1 := [some (.ref 0), some (.int x1)]) (st1 := [.int (q7.1 13 3)]) (σ1 := (S0, q7)) rfl ?_
      obtain ⟨q16, hq16, h⟩ := Option.bind_eq_some_iff.mp h
      refine am_AW.callS ok_C_whole am_nw_ok (As := [.int (q7.1 13 3)]) (rest := []) rfl rfl rfl oR_Integer_bitCount lk_C_180 sT_Integer_bitCount rfl (Nat.le_of_ble_eq_true rfl) (f_Integer_bitCount_ok (d := d) (by omega) (q7.1 13 3) hq16) ?_
      change am_AW am_nw ro (d + 1) mr_C_whole 105 [some (.ref 0), some (.int x1)] [.int q16.1] (S0, q16.2) (some (.int r)) (S0, m')
      refine am_AW.run am_base_ok ok_C_whole (Nat.le_add_left 1 d) 2 (pc1 := 107) (ls1 := [some (.ref 0), some (.int x1)]) (st1 := [.int (q16.1 + (1 : Int32))]) (σ1 := (S0, q16.2)) rfl ?_
      obtain ⟨rfl, rfl⟩ := Prod.mk.inj (Option.some.inj h)
      exact am_AW.ret ok_C_whole rfl rfl rfl rfl
    rw [if_neg c13] at h
    by_cases c17 : x1 = (3 : Int32)
    · rw [if_pos c17] at h
      refine am_AW.sw ok_C_whole rfl (t := 108) (by rw [c17]; decide +kernel) ?_
      refine am_AW.run am_base_ok ok_C_whole (Nat.le_add_left 1 d) 2 (pc1 := 112) (ls1 := [some (.ref 0), some (.int x1)]) (st1 := [.ref 30]) (σ1 := (S0, q7)) rfl ?_
      obtain ⟨q20, hq20, h⟩ := Option.bind_eq_some_iff.mp h
      refine am_AW.callV ok_C_whole am_nw_ok (As := []) (rest := []) rfl rfl rfl oR_Frieze_closes lk_C_251 iM_Frieze_closes sE_Frieze_closes (qc := kq5) rfl rfl rfl rfl (Nat.le_of_ble_eq_true rfl) (f_Frieze_closes_ok (d := d) (by omega)  hq20) ?_
      change am_AW am_nw ro (d + 1) mr_C_whole 115 [some (.ref 0), some (.int x1)] [.int q20.1] (S0, q20.2) (some (.int r)) (S0, m')
      refine am_AW.brP ok_C_whole rfl rfl am_c_eq (fun c21 => ?_) (fun c21 => ?_)
      · rw [if_pos c21] at h
        refine am_AW.run am_base_ok ok_C_whole (Nat.le_add_left 1 d) 1 (pc1 := 123) (ls1 := [some (.ref 0), some (.int x1)]) (st1 := [.int (0 : Int32)]) (σ1 := (S0, q20.2)) rfl ?_
        obtain ⟨rfl, rfl⟩ := Prod.mk.inj (Option.some.inj h)
        exact am_AW.ret ok_C_whole rfl rfl rfl rfl
      · rw [if_neg c21] at h
        refine am_AW.run am_base_ok ok_C_whole (Nat.le_add_left 1 d) 2 (pc1 := 123) (ls1 := [some (.ref 0), some (.int x1)]) (st1 := [.int (1 : Int32)]) (σ1 := (S0, q20.2)) rfl ?_
        obtain ⟨rfl, rfl⟩ := Prod.mk.inj (Option.some.inj h)
        exact am_AW.ret ok_C_whole rfl rfl rfl rfl
    rw [if_neg c17] at h
    by_cases c22 : x1 = (4 : Int32)
    · rw [if_pos c22] at h
      refine am_AW.sw ok_C_whole rfl (t := 124) (by rw [c22]; decide +kernel) ?_
      refine am_AW.run am_base_ok ok_C_whole (Nat.le_add_left 1 d) 2 (pc1 := 128) (ls1 := [some (.ref 0), some (.int x1)]) (st1 := [.ref 30]) (σ1 := (S0, q7)) rfl ?_
      obtain ⟨q25, hq25, h⟩ := Option.bind_eq_some_iff.mp h
      refine am_AW.callV ok_C_whole am_nw_ok (As := []) (rest := []) rfl rfl rfl oR_Frieze_period lk_C_254 iM_Frieze_period sE_Frieze_period (qc := kq5) rfl rfl rfl rfl (Nat.le_of_ble_eq_true rfl) (f_Frieze_period_ok (d := d) (by omega)  hq25) ?_
      change am_AW am_nw ro (d + 1) mr_C_whole 131 [some (.ref 0), some (.int x1)] [.int q25.1] (S0, q25.2) (some (.int r)) (S0, m')
      obtain ⟨rfl, rfl⟩ := Prod.mk.inj (Option.some.inj h)
      exact am_AW.ret ok_C_whole rfl rfl rfl rfl
    rw [if_neg c22] at h
    by_cases c26 : x1 = (5 : Int32)
    · rw [if_pos c26] at h
      refine am_AW.sw ok_C_whole rfl (t := 132) (by rw [c26]; decide +kernel) ?_
      refine am_AW.run am_base_ok ok_C_whole (Nat.le_add_left 1 d) 3 (pc1 := 137) (ls1 := [some (.ref 0), some (.int x1)]) (st1 := [.int (1 : Int32), .ref 30]) (σ1 := (S0, q7)) rfl ?_
      obtain ⟨q29, hq29, h⟩ := Option.bind_eq_some_iff.mp h
      refine am_AW.callV ok_C_whole am_nw_ok (As := [.int (1 : Int32)]) (rest := []) rfl rfl rfl oR_Frieze_cornersWith lk_C_258 iM_Frieze_cornersWith sE_Frieze_cornersWith (qc := kq5) rfl rfl rfl rfl (Nat.le_of_ble_eq_true rfl) (f_Frieze_cornersWith_ok (d := d) (by omega) (1 : Int32) hq29) ?_
      change am_AW am_nw ro (d + 1) mr_C_whole 140 [some (.ref 0), some (.int x1)] [.int q29.1] (S0, q29.2) (some (.int r)) (S0, m')
      obtain ⟨rfl, rfl⟩ := Prod.mk.inj (Option.some.inj h)
      exact am_AW.ret ok_C_whole rfl rfl rfl rfl
    rw [if_neg c26] at h
    by_cases c30 : x1 = (6 : Int32)
    · rw [if_pos c30] at h
      refine am_AW.sw ok_C_whole rfl (t := 141) (by rw [c30]; decide +kernel) ?_
      refine am_AW.run am_base_ok ok_C_whole (Nat.le_add_left 1 d) 3 (pc1 := 146) (ls1 := [some (.ref 0), some (.int x1)]) (st1 := [.int (0 : Int32), .ref 30]) (σ1 := (S0, q7)) rfl ?_
      obtain ⟨q33, hq33, h⟩ := Option.bind_eq_some_iff.mp h
      refine am_AW.callV ok_C_whole am_nw_ok (As := [.int (0 : Int32)]) (rest := []) rfl rfl rfl oR_Frieze_cornersWith lk_C_258 iM_Frieze_cornersWith sE_Frieze_cornersWith (qc := kq5) rfl rfl rfl rfl (Nat.le_of_ble_eq_true rfl) (f_Frieze_cornersWith_ok (d := d) (by omega) (0 : Int32) hq33) ?_
      change am_AW am_nw ro (d + 1) mr_C_whole 149 [some (.ref 0), some (.int x1)] [.int q33.1] (S0, q33.2) (some (.int r)) (S0, m')
      obtain ⟨rfl, rfl⟩ := Prod.mk.inj (Option.some.inj h)
      exact am_AW.ret ok_C_whole rfl rfl rfl rfl
    rw [if_neg c30] at h
    by_cases c34 : x1 = (7 : Int32)
    · rw [if_pos c34] at h
      refine am_AW.sw ok_C_whole rfl (t := 150) (by rw [c34]; decide +kernel) ?_
      refine am_AW.run am_base_ok ok_C_whole (Nat.le_add_left 1 d) 1 (pc1 := 151) (ls1 := [some (.ref 0), some (.int x1)]) (st1 := [.ref 0]) (σ1 := (S0, q7)) rfl ?_
      obtain ⟨q37, hq37, h⟩ := Option.bind_eq_some_iff.mp h
      refine am_AW.callV ok_C_whole am_nw_ok (As := []) (rest := []) rfl rfl rfl oR_C_isTriangled lk_C_262 iM_C_isTriangled sE_C_isTriangled (qc := kq9) rfl rfl rfl rfl (Nat.le_of_ble_eq_true rfl) (f_C_isTriangled_ok (d := d) (by omega)  hq37) ?_
      change am_AW am_nw ro (d + 1) mr_C_whole 154 [some (.ref 0), some (.int x1)] [.int q37.1] (S0, q37.2) (some (.int r)) (S0, m')
      refine am_AW.brP ok_C_whole rfl rfl am_c_eq (fun c38 => ?_) (fun c38 => ?_)
      · rw [if_pos c38] at h
        refine am_AW.run am_base_ok ok_C_whole (Nat.le_add_left 1 d) 1 (pc1 := 162) (ls1 := [some (.ref 0), some (.int x1)]) (st1 := [.int (0 : Int32)]) (σ1 := (S0, q37.2)) rfl ?_
        obtain ⟨rfl, rfl⟩ := Prod.mk.inj (Option.some.inj h)
        exact am_AW.ret ok_C_whole rfl rfl rfl rfl
      · rw [if_neg c38] at h
        refine am_AW.run am_base_ok ok_C_whole (Nat.le_add_left 1 d) 2 (pc1 := 162) (ls1 := [some (.ref 0), some (.int x1)]) (st1 := [.int (1 : Int32)]) (σ1 := (S0, q37.2)) rfl ?_
        obtain ⟨rfl, rfl⟩ := Prod.mk.inj (Option.some.inj h)
        exact am_AW.ret ok_C_whole rfl rfl rfl rfl
    rw [if_neg c34] at h
    by_cases c39 : x1 = (8 : Int32)
    · rw [if_pos c39] at h
      refine am_AW.sw ok_C_whole rfl (t := 163) (by rw [c39]; decide +kernel) ?_
      refine am_AW.run am_base_ok ok_C_whole (Nat.le_add_left 1 d) 3 (pc1 := 170) (ls1 := [some (.ref 0), some (.int x1)]) (st1 := [.int (q7.1 20 6)]) (σ1 := (S0, q7)) rfl ?_
      obtain ⟨rfl, rfl⟩ := Prod.mk.inj (Option.some.inj h)
      exact am_AW.ret ok_C_whole rfl rfl rfl rfl
    rw [if_neg c39] at h
    have o40 : (x1).toInt < 0 ∨ 8 < (x1).toInt := by
      have := lv_neT c8 (a := 0) (by decide)
      have := lv_neT c12 (a := 1) (by decide)
      have := lv_neT c13 (a := 2) (by decide)
      have := lv_neT c17 (a := 3) (by decide)
      have := lv_neT c22 (a := 4) (by decide)
      have := lv_neT c26 (a := 5) (by decide)
      have := lv_neT c30 (a := 6) (by decide)
      have := lv_neT c34 (a := 7) (by decide)
      have := lv_neT c39 (a := 8) (by decide)
      omega
    refine am_AW.sw ok_C_whole rfl (t := 171) (by simp only [am_sw, if_pos o40]; decide +kernel) ?_
    refine am_AW.run am_base_ok ok_C_whole (Nat.le_add_left 1 d) 1 (pc1 := 173) (ls1 := [some (.ref 0), some (.int x1)]) (st1 := [.int (-1000001 : Int32)]) (σ1 := (S0, q7)) rfl ?_
    obtain ⟨rfl, rfl⟩ := Prod.mk.inj (Option.some.inj h)
    exact am_AW.ret ok_C_whole rfl rfl rfl rfl
/-! FriezePolygons.back(II)I -/
def f_C_back_b46 (s1 : Int32) (m : am_Mm) : Option (Int32 × am_Mm) :=
  (f_C_fine s1 m).bind fun q12 =>
  some (q12.1, q12.2)
def f_C_back (x1 : Int32) (x2 : Int32) (m : am_Mm) : Option (Int32 × am_Mm) :=
  (f_C_refusalOfWhole x1 x2 m).bind fun q3 =>
  if q3.1 = (0 : Int32) then
    if am_in x1 8 = true then
      (f_Ears_cutsOf (am_rw x1) x2 q3.2).bind fun q8 =>
      if q8.1 < (0 : Int32) then
        f_C_back_b46 (-1000000 : Int32) q8.2
      else
        f_C_back_b46 q8.1 q8.2
    else none
  else
    some (q3.1, q3.2)
set_option maxHeartbeats 4000000 in
set_option maxRecDepth 100000 in
theorem f_C_back_b46_ok {ro : am_Ro} {d : Nat} (hd : 5 ≤ d + 1) (s1 : Int32) {m m' : am_Mm} {r : Int32} (h : f_C_back_b46 s1 m = some (r, m')) : am_AW am_nw ro (d + 1) mr_C_back 46 [none, none, none, none, none] [.int s1, .ref 0] (S0, m) (some (.int r)) (S0, m') := by
  unfold f_C_back_b46 at h
  obtain ⟨q12, hq12, h⟩ := Option.bind_eq_some_iff.mp h
  refine am_AW.callV ok_C_back am_nw_ok (As := [.int s1]) (rest := []) rfl rfl rfl oR_C_fine lk_C_100 iM_C_fine sE_C_fine (qc := kq9) rfl rfl rfl rfl (Nat.le_of_ble_eq_true rfl) (f_C_fine_ok (d := d) (by omega) s1 hq12) ?_
  change am_AW am_nw ro (d + 1) mr_C_back 49 [none, none, none, none, none] [.int q12.1] (S0, q12.2) (some (.int r)) (S0, m')
  obtain ⟨rfl, rfl⟩ := Prod.mk.inj (Option.some.inj h)
  exact am_AW.ret ok_C_back rfl rfl rfl rfl
set_option maxHeartbeats 4000000 in
set_option maxRecDepth 100000 in
theorem f_C_back_ok {ro : am_Ro} {d : Nat} (hd : 5 ≤ d) (x1 : Int32) (x2 : Int32) {m m' : am_Mm} {r : Int32} (h : f_C_back x1 x2 m = some (r, m')) : am_Mt am_nw ro d mr_C_back [.ref 0, .int x1, .int x2] (S0, m) (some (.int r)) (S0, m') := by
  obtain ⟨d, rfl⟩ : ∃ d0, d = d0 + 1 := ⟨d - 1, by omega⟩
  refine am_Mt.of (by decide +kernel) (Nat.le_of_ble_eq_true rfl) ?_
  change am_AW am_nw ro (d + 1) mr_C_back 0 [some (.ref 0), some (.int x1), some (.int x2), none, none] [] (S0, m) (some (.int r)) (S0, m')
  unfold f_C_back at h
  refine am_AW.run am_base_ok ok_C_back (Nat.le_add_left 1 d) 3 (pc1 := 3) (ls1 := [some (.ref 0), some (.int x1), some (.int x2), none, none]) (st1 := [.int x2, .int x1, .ref 0]) (σ1 := (S0, m)) rfl ?_
  obtain ⟨q3, hq3, h⟩ := Option.bind_eq_some_iff.mp h
  refine am_AW.callV ok_C_back am_nw_ok (As := [.int x1, .int x2]) (rest := []) rfl rfl rfl oR_C_refusalOfWhole lk_C_214 iM_C_refusalOfWhole sE_C_refusalOfWhole (qc := kq9) rfl rfl rfl rfl (Nat.le_of_ble_eq_true rfl) (f_C_refusalOfWhole_ok (d := d) (by omega) x1 x2 hq3) ?_
  change am_AW am_nw ro (d + 1) mr_C_back 6 [some (.ref 0), some (.int x1), some (.int x2), none, none] [.int q3.1] (S0, q3.2) (some (.int r)) (S0, m')
  refine am_AW.run am_base_ok ok_C_back (Nat.le_add_left 1 d) 2 (pc1 := 8) (ls1 := [some (.ref 0), some (.int x1), some (.int x2), some (.int q3.1), none]) (st1 := [.int q3.1]) (σ1 := (S0, q3.2)) rfl ?_
  refine am_AW.brP ok_C_back rfl rfl am_c_eq (fun c4 => ?_) (fun c4 => ?_)
  · rw [if_pos c4] at h
    refine am_AW.run am_base_ok ok_C_back (Nat.le_add_left 1 d) 5 (pc1 := 22) (ls1 := [some (.ref 0), some (.int x1), some (.int x2), some (.int q3.1), none]) (st1 := [.int x1, .ref 1, .ref 33]) (σ1 := (S0, q3.2)) rfl ?_
    by_cases g5 : am_in x1 8 = true
    rotate_left
    · rw [if_neg g5] at h
      cases h
    rw [if_pos g5] at h
    refine am_AW.aald ok_C_back (Nat.le_add_left 1 d) rfl (am_rw_at g5) ?_
    refine am_AW.run am_base_ok ok_C_back (Nat.le_add_left 1 d) 3 (pc1 := 28) (ls1 := [some (.ref 0), some (.int x1), some (.int x2), some (.int q3.1), none]) (st1 := [.ref 20, .int x2, .ref (am_rw x1), .ref 33]) (σ1 := (S0, q3.2)) rfl ?_
    obtain ⟨q8, hq8, h⟩ := Option.bind_eq_some_iff.mp h
    refine am_AW.callV ok_C_back am_nw_ok (As := [.ref (am_rw x1), .int x2, .ref 20]) (rest := []) rfl rfl rfl oR_Ears_cutsOf lk_C_217 iM_Ears_cutsOf sE_Ears_cutsOf (qc := kq2) rfl rfl rfl rfl (Nat.le_of_ble_eq_true rfl) (f_Ears_cutsOf_ok (d := d) (by omega) (am_rw x1) x2 (am_rw_in g5) hq8) ?_
    change am_AW am_nw ro (d + 1) mr_C_back 31 [some (.ref 0), some (.int x1), some (.int x2), some (.int q3.1), none] [.int q8.1] (S0, q8.2) (some (.int r)) (S0, m')
    refine am_AW.run am_base_ok ok_C_back (Nat.le_add_left 1 d) 3 (pc1 := 36) (ls1 := [some (.ref 0), some (.int x1), some (.int x2), some (.int q3.1), some (.int q8.1)]) (st1 := [.int q8.1, .ref 0]) (σ1 := (S0, q8.2)) rfl ?_
    refine am_AW.brP ok_C_back rfl rfl am_c_lt (fun c9 => ?_) (fun c9 => ?_)
    · rw [if_pos c9] at h
      refine am_AW.run am_base_ok ok_C_back (Nat.le_add_left 1 d) 1 (pc1 := 46) (ls1 := [some (.ref 0), some (.int x1), some (.int x2), some (.int q3.1), some (.int q8.1)]) (st1 := [.int (-1000000 : Int32), .ref 0]) (σ1 := (S0, q8.2)) rfl ?_
      exact am_AW.weak (f_C_back_b46_ok hd (-1000000 : Int32)  h) (by simp only [am_le, and_self])
    · rw [if_neg c9] at h
      refine am_AW.run am_base_ok ok_C_back (Nat.le_add_left 1 d) 2 (pc1 := 46) (ls1 := [some (.ref 0), some (.int x1), some (.int x2), some (.int q3.1), some (.int q8.1)]) (st1 := [.int q8.1, .ref 0]) (σ1 := (S0, q8.2)) rfl ?_
      exact am_AW.weak (f_C_back_b46_ok hd q8.1  h) (by simp only [am_le, and_self])
  · rw [if_neg c4] at h
    refine am_AW.run am_base_ok ok_C_back (Nat.le_add_left 1 d) 1 (pc1 := 12) (ls1 := [some (.ref 0), some (.int x1), some (.int x2), some (.int q3.1), none]) (st1 := [.int q3.1]) (σ1 := (S0, q3.2)) rfl ?_
    obtain ⟨rfl, rfl⟩ := Prod.mk.inj (Option.some.inj h)
    exact am_AW.ret ok_C_back rfl rfl rfl rfl
/-! FriezePolygons.ways()I -/
def f_C_ways (ro : am_Ro) (m : am_Mm) : Option (Int32 × am_Mm) :=
  (f_C_isThere m).bind fun q3 =>
  if q3.1 = (0 : Int32) then
    some ((-1000002 : Int32), q3.2)
  else
    (f_Ring_waysToTriangles ro (q3.2.1 13 3) q3.2).bind fun q7 =>
    some (q7.1, q7.2)
set_option maxHeartbeats 4000000 in
set_option maxRecDepth 100000 in
theorem f_C_ways_ok {ro : am_Ro} {d : Nat} (hd : 5 ≤ d) {m m' : am_Mm} {r : Int32} (h : f_C_ways ro  m = some (r, m')) : am_Mt am_nw ro d mr_C_ways [.ref 0] (S0, m) (some (.int r)) (S0, m') := by
  obtain ⟨d, rfl⟩ : ∃ d0, d = d0 + 1 := ⟨d - 1, by omega⟩
  refine am_Mt.of (by decide +kernel) (Nat.le_of_ble_eq_true rfl) ?_
  change am_AW am_nw ro (d + 1) mr_C_ways 0 [some (.ref 0)] [] (S0, m) (some (.int r)) (S0, m')
  unfold f_C_ways at h
  refine am_AW.run am_base_ok ok_C_ways (Nat.le_add_left 1 d) 1 (pc1 := 1) (ls1 := [some (.ref 0)]) (st1 := [.ref 0]) (σ1 := (S0, m)) rfl ?_
  obtain ⟨q3, hq3, h⟩ := Option.bind_eq_some_iff.mp h
  refine am_AW.callV ok_C_ways am_nw_ok (As := []) (rest := []) rfl rfl rfl oR_C_isThere lk_C_198 iM_C_isThere sE_C_isThere (qc := kq9) rfl rfl rfl rfl (Nat.le_of_ble_eq_true rfl) (f_C_isThere_ok (d := d) (by omega)  hq3) ?_
  change am_AW am_nw ro (d + 1) mr_C_ways 4 [some (.ref 0)] [.int q3.1] (S0, q3.2) (some (.int r)) (S0, m')
  refine am_AW.brN ok_C_ways rfl rfl am_c_ne (fun c4 => ?_) (fun c4 => ?_)
  · rw [if_pos c4] at h
    refine am_AW.run am_base_ok ok_C_ways (Nat.le_add_left 1 d) 1 (pc1 := 9) (ls1 := [some (.ref 0)]) (st1 := [.int (-1000002 : Int32)]) (σ1 := (S0, q3.2)) rfl ?_
    obtain ⟨rfl, rfl⟩ := Prod.mk.inj (Option.some.inj h)
    exact am_AW.ret ok_C_ways rfl rfl rfl rfl
  · rw [if_neg c4] at h
    refine am_AW.run am_base_ok ok_C_ways (Nat.le_add_left 1 d) 5 (pc1 := 21) (ls1 := [some (.ref 0)]) (st1 := [.int (q3.2.1 13 3), .ref 20]) (σ1 := (S0, q3.2)) rfl ?_
    obtain ⟨q7, hq7, h⟩ := Option.bind_eq_some_iff.mp h
    refine am_AW.callV ok_C_ways am_nw_ok (As := [.int (q3.2.1 13 3)]) (rest := []) rfl rfl rfl oR_Ring_waysToTriangles lk_C_270 iM_Ring_waysToTriangles sE_Ring_waysToTriangles (qc := kq6) rfl rfl rfl rfl (Nat.le_of_ble_eq_true rfl) (f_Ring_waysToTriangles_ok (d := d) (by omega) (q3.2.1 13 3) hq7) ?_
    change am_AW am_nw ro (d + 1) mr_C_ways 24 [some (.ref 0)] [.int q7.1] (S0, q7.2) (some (.int r)) (S0, m')
    obtain ⟨rfl, rfl⟩ := Prod.mk.inj (Option.some.inj h)
    exact am_AW.ret ok_C_ways rfl rfl rfl rfl
/-! FriezePolygons.sets(II)I -/
def f_C_sets_b109 (k73 : Int32 → Int32 → Int32 → Int32 → Int32 → Int32 → Int32 → am_Mm → Option (Int32 × am_Mm)) (x1 : Int32) (x2 : Int32) (x3 : Int32) (x4 : Int32) (x5 : Int32) (x6 : Int32) (x7 : Int32) (m : am_Mm) : Option (Int32 × am_Mm) :=
  k73 x1 x2 x3 x4 x5 x6 (x7 + (1 : Int32)) m
def f_C_sets_b73 : Nat → Int32 → Int32 → Int32 → Int32 → Int32 → Int32 → Int32 → am_Mm → Option (Int32 × am_Mm)
  | 0, _, _, _, _, _, _, _, _ => none
  | n + 1, x1, x2, x3, x4, x5, x6, x7, m =>
    if x3 < x7 then
      if x2 = (0 : Int32) then
        some (x4, m)
      else
        if x2 = (2 : Int32) then
          some (x6, m)
        else
          if x4 = (0 : Int32) then
            some ((0 : Int32), m)
          else
            some (x5, m)
    else
      (f_Frieze_sumOf x7 m).bind fun q18 =>
      if q18.1 = x1 then
        f_C_sets_b109 (f_C_sets_b73 n) x1 x2 x3 (x4 + (1 : Int32)) (x5 &&& x7) (x6 ||| x7) x7 q18.2
      else
        f_C_sets_b109 (f_C_sets_b73 n) x1 x2 x3 x4 x5 x6 x7 q18.2
def f_C_sets (x1 : Int32) (x2 : Int32) (m : am_Mm) : Option (Int32 × am_Mm) :=
  (f_C_isThere m).bind fun q3 =>
  if q3.1 = (0 : Int32) then
    some ((-1000002 : Int32), q3.2)
  else
    if x1 < (-99 : Int32) then
      some ((-1000001 : Int32), q3.2)
    else
      if (99 : Int32) < x1 then
        some ((-1000001 : Int32), q3.2)
      else
        if x2 < (0 : Int32) then
          some ((-1000001 : Int32), q3.2)
        else
          if x2 ≤ (2 : Int32) then
            (f_Frieze_tellCounts q3.2).bind fun q11 =>
            f_C_sets_b73 am_F x1 x2 ((am_shl (1 : Int32) (q11.1 13 2)) - (1 : Int32)) (0 : Int32) ((am_shl (1 : Int32) (q11.1 13 2)) - (1 : Int32)) (0 : Int32) (0 : Int32) q11
          else
            some ((-1000001 : Int32), q3.2)
set_option maxHeartbeats 4000000 in
set_option maxRecDepth 100000 in
theorem f_C_sets_b109_ok {ro : am_Ro} {d : Nat} (hd : 5 ≤ d + 1) {k73 : Int32 → Int32 → Int32 → Int32 → Int32 → Int32 → Int32 → am_Mm → Option (Int32 × am_Mm)} (hk73 : ∀ (x1 : Int32) (x2 : Int32) (x3 : Int32) (x4 : Int32) (x5 : Int32) (x6 : Int32) (x7 : Int32) (m m' : am_Mm) (r : Int32), k73 x1 x2 x3 x4 x5 x6 x7 m = some (r, m') → am_AW am_nw ro (d + 1) mr_C_sets 73 [some (.ref 0), some (.int x1), some (.int x2), some (.int x3), some (.int x4), some (.int x5), some (.int x6), some (.int x7)] [] (S0, m) (some (.int r)) (S0, m')) (x1 : Int32) (x2 : Int32) (x3 : Int32) (x4 : Int32) (x5 : Int32) (x6 : Int32) (x7 : Int32) {m m' : am_Mm} {r : Int32} (h : f_C_sets_b109 k73 x1 x2 x3 x4 x5 x6 x7 m = some (r, m')) : am_AW am_nw ro (d + 1) mr_C_sets 109 [some (.ref 0), some (.int x1), some (.int x2), some (.int x3), some (.int x4), some (.int x5), some (.int x6), some (.int x7)] [] (S0, m) (some (.int r)) (S0, m') := by
  unfold f_C_sets_b109 at h
  refine am_AW.run am_base_ok ok_C_sets (Nat.le_add_left 1 d) 2 (pc1 := 73) (ls1 := [some (.ref 0), some (.int x1), some (.int x2), some (.int x3), some (.int x4), some (.int x5), some (.int x6), some (.int (x7 + (1 : Int32)))]) (st1 := []) (σ1 := (S0, m)) rfl ?_
  exact am_AW.weak (hk73 x1 x2 x3 x4 x5 x6 (x7 + (1 : Int32))  _ _ _ h) (by simp only [am_le, and_self])
set_option maxHeartbeats 4000000 in
set_option maxRecDepth 100000 in
theorem f_C_sets_b73_all {ro : am_Ro} {d : Nat} (hd : 5 ≤ d + 1) : ∀ (n : Nat) (x1 : Int32) (x2 : Int32) (x3 : Int32) (x4 : Int32) (x5 : Int32) (x6 : Int32) (x7 : Int32) (m m' : am_Mm) (r : Int32), f_C_sets_b73 n x1 x2 x3 x4 x5 x6 x7 m = some (r, m') → am_AW am_nw ro (d + 1) mr_C_sets 73 [some (.ref 0), some (.int x1), some (.int x2), some (.int x3), some (.int x4), some (.int x5), some (.int x6), some (.int x7)] [] (S0, m) (some (.int r)) (S0, m') := by
  intro n
  induction n with
  | zero =>
    intro x1 x2 x3 x4 x5 x6 x7 m m' r h
    rw [f_C_sets_b73] at h
    cases h
  | succ n ih =>
    intro x1 x2 x3 x4 x5 x6 x7 m m' r h
    rw [f_C_sets_b73] at h
    refine am_AW.run am_base_ok ok_C_sets (Nat.le_add_left 1 d) 2 (pc1 := 76) (ls1 := [some (.ref 0), some (.int x1), some (.int x2), some (.int x3), some (.int x4), some (.int x5), some (.int x6), some (.int x7)]) (st1 := [.int x3, .int x7]) (σ1 := (S0, m)) rfl ?_
    refine am_AW.brP ok_C_sets rfl rfl am_c_gt (fun c12 => ?_) (fun c12 => ?_)
    · rw [if_pos c12] at h
      refine am_AW.run am_base_ok ok_C_sets (Nat.le_add_left 1 d) 1 (pc1 := 116) (ls1 := [some (.ref 0), some (.int x1), some (.int x2), some (.int x3), some (.int x4), some (.int x5), some (.int x6), some (.int x7)]) (st1 := [.int x2]) (σ1 := (S0, m)) rfl ?_
      refine am_AW.brN ok_C_sets rfl rfl am_c_ne (fun c13 => ?_) (fun c13 => ?_)
      · rw [if_pos c13] at h
        refine am_AW.run am_base_ok ok_C_sets (Nat.le_add_left 1 d) 1 (pc1 := 121) (ls1 := [some (.ref 0), some (.int x1), some (.int x2), some (.int x3), some (.int x4), some (.int x5), some (.int x6), some (.int x7)]) (st1 := [.int x4]) (σ1 := (S0, m)) rfl ?_
        obtain ⟨rfl, rfl⟩ := Prod.mk.inj (Option.some.inj h)
        exact am_AW.ret ok_C_sets rfl rfl rfl rfl
      · rw [if_neg c13] at h
        refine am_AW.run am_base_ok ok_C_sets (Nat.le_add_left 1 d) 2 (pc1 := 124) (ls1 := [some (.ref 0), some (.int x1), some (.int x2), some (.int x3), some (.int x4), some (.int x5), some (.int x6), some (.int x7)]) (st1 := [.int (2 : Int32), .int x2]) (σ1 := (S0, m)) rfl ?_
        refine am_AW.brN ok_C_sets rfl rfl am_c_ne (fun c14 => ?_) (fun c14 => ?_)
        · rw [if_pos c14] at h
          refine am_AW.run am_base_ok ok_C_sets (Nat.le_add_left 1 d) 2 (pc1 := 143) (ls1 := [some (.ref 0), some (.int x1), some (.int x2), some (.int x3), some (.int x4), some (.int x5), some (.int x6), some (.int x7)]) (st1 := [.int x6]) (σ1 := (S0, m)) rfl ?_
          obtain ⟨rfl, rfl⟩ := Prod.mk.inj (Option.some.inj h)
          exact am_AW.ret ok_C_sets rfl rfl rfl rfl
        · rw [if_neg c14] at h
          refine am_AW.run am_base_ok ok_C_sets (Nat.le_add_left 1 d) 1 (pc1 := 134) (ls1 := [some (.ref 0), some (.int x1), some (.int x2), some (.int x3), some (.int x4), some (.int x5), some (.int x6), some (.int x7)]) (st1 := [.int x4]) (σ1 := (S0, m)) rfl ?_
          refine am_AW.brN ok_C_sets rfl rfl am_c_ne (fun c15 => ?_) (fun c15 => ?_)
          · rw [if_pos c15] at h
            refine am_AW.run am_base_ok ok_C_sets (Nat.le_add_left 1 d) 2 (pc1 := 143) (ls1 := [some (.ref 0), some (.int x1), some (.int x2), some (.int x3), some (.int x4), some (.int x5), some (.int x6), some (.int x7)]) (st1 := [.int (0 : Int32)]) (σ1 := (S0, m)) rfl ?_
            obtain ⟨rfl, rfl⟩ := Prod.mk.inj (Option.some.inj h)
            exact am_AW.ret ok_C_sets rfl rfl rfl rfl
          · rw [if_neg c15] at h
            refine am_AW.run am_base_ok ok_C_sets (Nat.le_add_left 1 d) 1 (pc1 := 143) (ls1 := [some (.ref 0), some (.int x1), some (.int x2), some (.int x3), some (.int x4), some (.int x5), some (.int x6), some (.int x7)]) (st1 := [.int x5]) (σ1 := (S0, m)) rfl ?_
            obtain ⟨rfl, rfl⟩ := Prod.mk.inj (Option.some.inj h)
            exact am_AW.ret ok_C_sets rfl rfl rfl rfl
    · rw [if_neg c12] at h
      refine am_AW.run am_base_ok ok_C_sets (Nat.le_add_left 1 d) 3 (pc1 := 85) (ls1 := [some (.ref 0), some (.int x1), some (.int x2), some (.int x3), some (.int x4), some (.int x5), some (.int x6), some (.int x7)]) (st1 := [.int x7, .ref 30]) (σ1 := (S0, m)) rfl ?_
      obtain ⟨q18, hq18, h⟩ := Option.bind_eq_some_iff.mp h
      refine am_AW.callV ok_C_sets am_nw_ok (As := [.int x7]) (rest := []) rfl rfl rfl oR_Frieze_sumOf lk_C_283 iM_Frieze_sumOf sE_Frieze_sumOf (qc := kq5) rfl rfl rfl rfl (Nat.le_of_ble_eq_true rfl) (f_Frieze_sumOf_ok (d := d) (by omega) x7 hq18) ?_
      change am_AW am_nw ro (d + 1) mr_C_sets 88 [some (.ref 0), some (.int x1), some (.int x2), some (.int x3), some (.int x4), some (.int x5), some (.int x6), some (.int x7)] [.int q18.1] (S0, q18.2) (some (.int r)) (S0, m')
      refine am_AW.run am_base_ok ok_C_sets (Nat.le_add_left 1 d) 1 (pc1 := 89) (ls1 := [some (.ref 0), some (.int x1), some (.int x2), some (.int x3), some (.int x4), some (.int x5), some (.int x6), some (.int x7)]) (st1 := [.int x1, .int q18.1]) (σ1 := (S0, q18.2)) rfl ?_
      refine am_AW.brN ok_C_sets rfl rfl am_c_ne (fun c19 => ?_) (fun c19 => ?_)
      · rw [if_pos c19] at h
        refine am_AW.run am_base_ok ok_C_sets (Nat.le_add_left 1 d) 9 (pc1 := 109) (ls1 := [some (.ref 0), some (.int x1), some (.int x2), some (.int x3), some (.int (x4 + (1 : Int32))), some (.int (x5 &&& x7)), some (.int (x6 ||| x7)), some (.int x7)]) (st1 := []) (σ1 := (S0, q18.2)) rfl ?_
        exact am_AW.weak (f_C_sets_b109_ok hd (ih) x1 x2 x3 (x4 + (1 : Int32)) (x5 &&& x7) (x6 ||| x7) x7  h) (by simp only [am_le, and_self])
      · rw [if_neg c19] at h
        exact am_AW.weak (f_C_sets_b109_ok hd (ih) x1 x2 x3 x4 x5 x6 x7  h) (by simp only [am_le, and_self])
set_option maxHeartbeats 4000000 in
set_option maxRecDepth 100000 in
theorem f_C_sets_b73_ok {ro : am_Ro} {d : Nat} (hd : 5 ≤ d + 1) (x1 : Int32) (x2 : Int32) (x3 : Int32) (x4 : Int32) (x5 : Int32) (x6 : Int32) (x7 : Int32) {m m' : am_Mm} {r : Int32} {n : Nat} (h : f_C_sets_b73 n x1 x2 x3 x4 x5 x6 x7 m = some (r, m')) : am_AW am_nw ro (d + 1) mr_C_sets 73 [some (.ref 0), some (.int x1), some (.int x2), some (.int x3), some (.int x4), some (.int x5), some (.int x6), some (.int x7)] [] (S0, m) (some (.int r)) (S0, m') :=
  f_C_sets_b73_all hd n x1 x2 x3 x4 x5 x6 x7  m m' r h
set_option maxHeartbeats 4000000 in
set_option maxRecDepth 100000 in
theorem f_C_sets_ok {ro : am_Ro} {d : Nat} (hd : 5 ≤ d) (x1 : Int32) (x2 : Int32) {m m' : am_Mm} {r : Int32} (h : f_C_sets x1 x2 m = some (r, m')) : am_Mt am_nw ro d mr_C_sets [.ref 0, .int x1, .int x2] (S0, m) (some (.int r)) (S0, m') := by
  obtain ⟨d, rfl⟩ : ∃ d0, d = d0 + 1 := ⟨d - 1, by omega⟩
  refine am_Mt.of (by decide +kernel) (Nat.le_of_ble_eq_true rfl) ?_
  change am_AW am_nw ro (d + 1) mr_C_sets 0 [some (.ref 0), some (.int x1), some (.int x2), none, none, none, none, none] [] (S0, m) (some (.int r)) (S0, m')
  unfold f_C_sets at h
  refine am_AW.run am_base_ok ok_C_sets (Nat.le_add_left 1 d) 1 (pc1 := 1) (ls1 := [some (.ref 0), some (.int x1), some (.int x2), none, none, none, none, none]) (st1 := [.ref 0]) (σ1 := (S0, m)) rfl ?_
  obtain ⟨q3, hq3, h⟩ := Option.bind_eq_some_iff.mp h
  refine am_AW.callV ok_C_sets am_nw_ok (As := []) (rest := []) rfl rfl rfl oR_C_isThere lk_C_198 iM_C_isThere sE_C_isThere (qc := kq9) rfl rfl rfl rfl (Nat.le_of_ble_eq_true rfl) (f_C_isThere_ok (d := d) (by omega)  hq3) ?_
  change am_AW am_nw ro (d + 1) mr_C_sets 4 [some (.ref 0), some (.int x1), some (.int x2), none, none, none, none, none] [.int q3.1] (S0, q3.2) (some (.int r)) (S0, m')
  refine am_AW.brN ok_C_sets rfl rfl am_c_ne (fun c4 => ?_) (fun c4 => ?_)
  · rw [if_pos c4] at h
    refine am_AW.run am_base_ok ok_C_sets (Nat.le_add_left 1 d) 1 (pc1 := 9) (ls1 := [some (.ref 0), some (.int x1), some (.int x2), none, none, none, none, none]) (st1 := [.int (-1000002 : Int32)]) (σ1 := (S0, q3.2)) rfl ?_
    obtain ⟨rfl, rfl⟩ := Prod.mk.inj (Option.some.inj h)
    exact am_AW.ret ok_C_sets rfl rfl rfl rfl
  · rw [if_neg c4] at h
    refine am_AW.run am_base_ok ok_C_sets (Nat.le_add_left 1 d) 2 (pc1 := 13) (ls1 := [some (.ref 0), some (.int x1), some (.int x2), none, none, none, none, none]) (st1 := [.int (-99 : Int32), .int x1]) (σ1 := (S0, q3.2)) rfl ?_
    refine am_AW.brP ok_C_sets rfl rfl am_c_lt (fun c5 => ?_) (fun c5 => ?_)
    · rw [if_pos c5] at h
      refine am_AW.run am_base_ok ok_C_sets (Nat.le_add_left 1 d) 1 (pc1 := 33) (ls1 := [some (.ref 0), some (.int x1), some (.int x2), none, none, none, none, none]) (st1 := [.int (-1000001 : Int32)]) (σ1 := (S0, q3.2)) rfl ?_
      obtain ⟨rfl, rfl⟩ := Prod.mk.inj (Option.some.inj h)
      exact am_AW.ret ok_C_sets rfl rfl rfl rfl
    · rw [if_neg c5] at h
      refine am_AW.run am_base_ok ok_C_sets (Nat.le_add_left 1 d) 2 (pc1 := 19) (ls1 := [some (.ref 0), some (.int x1), some (.int x2), none, none, none, none, none]) (st1 := [.int (99 : Int32), .int x1]) (σ1 := (S0, q3.2)) rfl ?_
      refine am_AW.brP ok_C_sets rfl rfl am_c_gt (fun c6 => ?_) (fun c6 => ?_)
      · rw [if_pos c6] at h
        refine am_AW.run am_base_ok ok_C_sets (Nat.le_add_left 1 d) 1 (pc1 := 33) (ls1 := [some (.ref 0), some (.int x1), some (.int x2), none, none, none, none, none]) (st1 := [.int (-1000001 : Int32)]) (σ1 := (S0, q3.2)) rfl ?_
        obtain ⟨rfl, rfl⟩ := Prod.mk.inj (Option.some.inj h)
        exact am_AW.ret ok_C_sets rfl rfl rfl rfl
      · rw [if_neg c6] at h
        refine am_AW.run am_base_ok ok_C_sets (Nat.le_add_left 1 d) 1 (pc1 := 23) (ls1 := [some (.ref 0), some (.int x1), some (.int x2), none, none, none, none, none]) (st1 := [.int x2]) (σ1 := (S0, q3.2)) rfl ?_
        refine am_AW.brP ok_C_sets rfl rfl am_c_lt (fun c7 => ?_) (fun c7 => ?_)
        · rw [if_pos c7] at h
          refine am_AW.run am_base_ok ok_C_sets (Nat.le_add_left 1 d) 1 (pc1 := 33) (ls1 := [some (.ref 0), some (.int x1), some (.int x2), none, none, none, none, none]) (st1 := [.int (-1000001 : Int32)]) (σ1 := (S0, q3.2)) rfl ?_
          obtain ⟨rfl, rfl⟩ := Prod.mk.inj (Option.some.inj h)
          exact am_AW.ret ok_C_sets rfl rfl rfl rfl
        · rw [if_neg c7] at h
          refine am_AW.run am_base_ok ok_C_sets (Nat.le_add_left 1 d) 2 (pc1 := 28) (ls1 := [some (.ref 0), some (.int x1), some (.int x2), none, none, none, none, none]) (st1 := [.int (2 : Int32), .int x2]) (σ1 := (S0, q3.2)) rfl ?_
          refine am_AW.brP ok_C_sets rfl rfl am_c_le (fun c8 => ?_) (fun c8 => ?_)
          · rw [if_pos c8] at h
            refine am_AW.run am_base_ok ok_C_sets (Nat.le_add_left 1 d) 6 (pc1 := 46) (ls1 := [some (.ref 0), some (.int x1), some (.int x2), none, none, none, none, none]) (st1 := [.ref 20, .ref 13, .ref 30]) (σ1 := (S0, q3.2)) rfl ?_
            obtain ⟨q11, hq11, h⟩ := Option.bind_eq_some_iff.mp h
            refine am_AW.callV ok_C_sets am_nw_ok (As := [.ref 13, .ref 20]) (rest := []) rfl rfl rfl oR_Frieze_tellCounts lk_C_240 iM_Frieze_tellCounts sE_Frieze_tellCounts (qc := kq5) rfl rfl rfl rfl (Nat.le_of_ble_eq_true rfl) (f_Frieze_tellCounts_ok (d := d) (by omega)  hq11) ?_
            change am_AW am_nw ro (d + 1) mr_C_sets 49 [some (.ref 0), some (.int x1), some (.int x2), none, none, none, none, none] [] (S0, q11) (some (.int r)) (S0, m')
            refine am_AW.run am_base_ok ok_C_sets (Nat.le_add_left 1 d) 16 (pc1 := 73) (ls1 := [some (.ref 0), some (.int x1), some (.int x2), some (.int ((am_shl (1 : Int32) (q11.1 13 2)) - (1 : Int32))), some (.int (0 : Int32)), some (.int ((am_shl (1 : Int32) (q11.1 13 2)) - (1 : Int32))), some (.int (0 : Int32)), some (.int (0 : Int32))]) (st1 := []) (σ1 := (S0, q11)) rfl ?_
            exact am_AW.weak (f_C_sets_b73_ok hd x1 x2 ((am_shl (1 : Int32) (q11.1 13 2)) - (1 : Int32)) (0 : Int32) ((am_shl (1 : Int32) (q11.1 13 2)) - (1 : Int32)) (0 : Int32) (0 : Int32)  h) (by simp only [am_le, and_self])
          · rw [if_neg c8] at h
            refine am_AW.run am_base_ok ok_C_sets (Nat.le_add_left 1 d) 1 (pc1 := 33) (ls1 := [some (.ref 0), some (.int x1), some (.int x2), none, none, none, none, none]) (st1 := [.int (-1000001 : Int32)]) (σ1 := (S0, q3.2)) rfl ?_
            obtain ⟨rfl, rfl⟩ := Prod.mk.inj (Option.some.inj h)
            exact am_AW.ret ok_C_sets rfl rfl rfl rfl
/-! FriezePolygons.drawn(III)I -/
def f_C_drawn_b168 (k70 : Int32 → Int32 → Int32 → Int32 → Int32 → Int64 → Int32 → am_Mm → Option (Int32 × am_Mm)) (x1 : Int32) (x3 : Int32) (x4 : Int32) (x5 : Int32) (x6 : Int32) (x7 : Int64) (x9 : Int32) (m : am_Mm) : Option (Int32 × am_Mm) :=
  k70 x1 x3 x4 x5 x6 x7 (x9 + (1 : Int32)) m
def f_C_drawn_b142 (k70 : Int32 → Int32 → Int32 → Int32 → Int32 → Int64 → Int32 → am_Mm → Option (Int32 × am_Mm)) (x1 : Int32) (x3 : Int32) (x4 : Int32) (x5 : Int32) (x6 : Int32) (x7 : Int64) (x9 : Int32) (x10 : Int32) (s0 : Int32) (m : am_Mm) : Option (Int32 × am_Mm) :=
  if s0 < (0 : Int32) then
    f_C_drawn_b168 k70 x1 x3 x4 x5 x6 x7 x9 m
  else
    f_C_drawn_b168 k70 x1 x3 ((x4 &&& ((am_shl (1 : Int32) x10) ^^^ (-1 : Int32))) ||| (am_shl (1 : Int32) s0)) x5 (x6 + (1 : Int32)) x7 x9 m
def f_C_drawn_b113 (k70 : Int32 → Int32 → Int32 → Int32 → Int32 → Int64 → Int32 → am_Mm → Option (Int32 × am_Mm)) (x1 : Int32) (x3 : Int32) (x4 : Int32) (x5 : Int32) (x6 : Int32) (x7 : Int64) (x9 : Int32) (s0 : Int32) (m : am_Mm) : Option (Int32 × am_Mm) :=
  (f_Ring_isNumber 20 s0 m).bind fun q19 =>
  if q19.1 = (0 : Int32) then
    f_C_drawn_b142 k70 x1 x3 x4 x5 x6 x7 x9 s0 (-1 : Int32) q19.2
  else
    (f_Ring_flippedOf x4 s0 q19.2).bind fun q24 =>
    f_C_drawn_b142 k70 x1 x3 x4 x5 x6 x7 x9 s0 q24.1 q24.2
def f_C_drawn_b70 : Nat → Int32 → Int32 → Int32 → Int32 → Int32 → Int64 → Int32 → am_Mm → Option (Int32 × am_Mm)
  | 0, _, _, _, _, _, _, _, _ => none
  | n + 1, x1, x3, x4, x5, x6, x7, x9, m =>
    if x1 ≤ x9 then
      if x3 = (0 : Int32) then
        some (x6, m)
      else
        some (x4, m)
    else
      if x5 ≤ (0 : Int32) then
        f_C_drawn_b113 (f_C_drawn_b70 n) x1 x3 x4 x5 x6 (am_remL (x7 * (16807 : Int64)) (2147483647 : Int64)) x9 (-1 : Int32) m
      else
        if (x5.toInt64) = (0 : Int64) then none else
        (f_Ring_rising x4 ((am_remL (am_remL (x7 * (16807 : Int64)) (2147483647 : Int64)) (x5.toInt64)).toInt32) m).bind fun q28 =>
        f_C_drawn_b113 (f_C_drawn_b70 n) x1 x3 x4 x5 x6 (am_remL (x7 * (16807 : Int64)) (2147483647 : Int64)) x9 q28.1 q28.2
def f_C_drawn (x1 : Int32) (x2 : Int32) (x3 : Int32) (m : am_Mm) : Option (Int32 × am_Mm) :=
  (f_C_isThere m).bind fun q3 =>
  if q3.1 = (0 : Int32) then
    some ((-1000002 : Int32), q3.2)
  else
    if x1 < (0 : Int32) then
      some ((-1000001 : Int32), q3.2)
    else
      if (60 : Int32) < x1 then
        some ((-1000001 : Int32), q3.2)
      else
        if x2 < (1 : Int32) then
          some ((-1000001 : Int32), q3.2)
        else
          if (999999 : Int32) < x2 then
            some ((-1000001 : Int32), q3.2)
          else
            if x3 < (0 : Int32) then
              some ((-1000001 : Int32), q3.2)
            else
              if x3 ≤ (1 : Int32) then
                (f_Integer_bitCount (q3.2.1 13 3) q3.2).bind fun q13 =>
                f_C_drawn_b70 am_F x1 x3 (q3.2.1 13 3) q13.1 (0 : Int32) (x2.toInt64) (0 : Int32) q13.2
              else
                some ((-1000001 : Int32), q3.2)
set_option maxHeartbeats 4000000 in
set_option maxRecDepth 100000 in
theorem f_C_drawn_b168_ok {ro : am_Ro} {d : Nat} (hd : 5 ≤ d + 1) {k70 : Int32 → Int32 → Int32 → Int32 → Int32 → Int64 → Int32 → am_Mm → Option (Int32 × am_Mm)} (hk70 : ∀ (x1 : Int32) (x3 : Int32) (x4 : Int32) (x5 : Int32) (x6 : Int32) (x7 : Int64) (x9 : Int32) (m m' : am_Mm) (r : Int32), k70 x1 x3 x4 x5 x6 x7 x9 m = some (r, m') → am_AW am_nw ro (d + 1) mr_C_drawn 70 [some (.ref 0), some (.int x1), none, some (.int x3), some (.int x4), some (.int x5), some (.int x6), some (.long x7), none, some (.int x9), none, none] [] (S0, m) (some (.int r)) (S0, m')) (x1 : Int32) (x3 : Int32) (x4 : Int32) (x5 : Int32) (x6 : Int32) (x7 : Int64) (x9 : Int32) {m m' : am_Mm} {r : Int32} (h : f_C_drawn_b168 k70 x1 x3 x4 x5 x6 x7 x9 m = some (r, m')) : am_AW am_nw ro (d + 1) mr_C_drawn 168 [some (.ref 0), some (.int x1), none, some (.int x3), some (.int x4), some (.int x5), some (.int x6), some (.long x7), none, some (.int x9), none, none] [] (S0, m) (some (.int r)) (S0, m') := by
  unfold f_C_drawn_b168 at h
  refine am_AW.run am_base_ok ok_C_drawn (Nat.le_add_left 1 d) 2 (pc1 := 70) (ls1 := [some (.ref 0), some (.int x1), none, some (.int x3), some (.int x4), some (.int x5), some (.int x6), some (.long x7), none, some (.int (x9 + (1 : Int32))), none, none]) (st1 := []) (σ1 := (S0, m)) rfl ?_
  exact am_AW.weak (hk70 x1 x3 x4 x5 x6 x7 (x9 + (1 : Int32))  _ _ _ h) (by simp only [am_le, and_self])
set_option maxHeartbeats 4000000 in
set_option maxRecDepth 100000 in
theorem f_C_drawn_b142_ok {ro : am_Ro} {d : Nat} (hd : 5 ≤ d + 1) {k70 : Int32 → Int32 → Int32 → Int32 → Int32 → Int64 → Int32 → am_Mm → Option (Int32 × am_Mm)} (hk70 : ∀ (x1 : Int32) (x3 : Int32) (x4 : Int32) (x5 : Int32) (x6 : Int32) (x7 : Int64) (x9 : Int32) (m m' : am_Mm) (r : Int32), k70 x1 x3 x4 x5 x6 x7 x9 m = some (r, m') → am_AW am_nw ro (d + 1) mr_C_drawn 70 [some (.ref 0), some (.int x1), none, some (.int x3), some (.int x4), some (.int x5), some (.int x6), some (.long x7), none, some (.int x9), none, none] [] (S0, m) (some (.int r)) (S0, m')) (x1 : Int32) (x3 : Int32) (x4 : Int32) (x5 : Int32) (x6 : Int32) (x7 : Int64) (x9 : Int32) (x10 : Int32) (s0 : Int32) {m m' : am_Mm} {r : Int32} (h : f_C_drawn_b142 k70 x1 x3 x4 x5 x6 x7 x9 x10 s0 m = some (r, m')) : am_AW am_nw ro (d + 1) mr_C_drawn 142 [some (.ref 0), some (.int x1), none, some (.int x3), some (.int x4), some (.int x5), some (.int x6), some (.long x7), none, some (.int x9), some (.int x10), none] [.int s0] (S0, m) (some (.int r)) (S0, m') := by
  unfold f_C_drawn_b142 at h
  refine am_AW.run am_base_ok ok_C_drawn (Nat.le_add_left 1 d) 2 (pc1 := 146) (ls1 := [some (.ref 0), some (.int x1), none, some (.int x3), some (.int x4), some (.int x5), some (.int x6), some (.long x7), none, some (.int x9), some (.int x10), some (.int s0)]) (st1 := [.int s0]) (σ1 := (S0, m)) rfl ?_
  refine am_AW.brP ok_C_drawn rfl rfl am_c_lt (fun c21 => ?_) (fun c21 => ?_)
  · rw [if_pos c21] at h
    exact am_AW.weak (f_C_drawn_b168_ok hd (hk70) x1 x3 x4 x5 x6 x7 x9  h) (by simp only [am_le, and_self])
  · rw [if_neg c21] at h
    refine am_AW.run am_base_ok ok_C_drawn (Nat.le_add_left 1 d) 13 (pc1 := 168) (ls1 := [some (.ref 0), some (.int x1), none, some (.int x3), some (.int ((x4 &&& ((am_shl (1 : Int32) x10) ^^^ (-1 : Int32))) ||| (am_shl (1 : Int32) s0))), some (.int x5), some (.int (x6 + (1 : Int32))), some (.long x7), none, some (.int x9), some (.int x10), some (.int s0)]) (st1 := []) (σ1 := (S0, m)) rfl ?_
    exact am_AW.weak (f_C_drawn_b168_ok hd (hk70) x1 x3 ((x4 &&& ((am_shl (1 : Int32) x10) ^^^ (-1 : Int32))) ||| (am_shl (1 : Int32) s0)) x5 (x6 + (1 : Int32)) x7 x9  h) (by simp only [am_le, and_self])
set_option maxHeartbeats 4000000 in
set_option maxRecDepth 100000 in
theorem f_C_drawn_b113_ok {ro : am_Ro} {d : Nat} (hd : 5 ≤ d + 1) {k70 : Int32 → Int32 → Int32 → Int32 → Int32 → Int64 → Int32 → am_Mm → Option (Int32 × am_Mm)} (hk70 : ∀ (x1 : Int32) (x3 : Int32) (x4 : Int32) (x5 : Int32) (x6 : Int32) (x7 : Int64) (x9 : Int32) (m m' : am_Mm) (r : Int32), k70 x1 x3 x4 x5 x6 x7 x9 m = some (r, m') → am_AW am_nw ro (d + 1) mr_C_drawn 70 [some (.ref 0), some (.int x1), none, some (.int x3), some (.int x4), some (.int x5), some (.int x6), some (.long x7), none, some (.int x9), none, none] [] (S0, m) (some (.int r)) (S0, m')) (x1 : Int32) (x3 : Int32) (x4 : Int32) (x5 : Int32) (x6 : Int32) (x7 : Int64) (x9 : Int32) (s0 : Int32) {m m' : am_Mm} {r : Int32} (h : f_C_drawn_b113 k70 x1 x3 x4 x5 x6 x7 x9 s0 m = some (r, m')) : am_AW am_nw ro (d + 1) mr_C_drawn 113 [some (.ref 0), some (.int x1), none, some (.int x3), some (.int x4), some (.int x5), some (.int x6), some (.long x7), none, some (.int x9), none, none] [.int s0] (S0, m) (some (.int r)) (S0, m') := by
  unfold f_C_drawn_b113 at h
  refine am_AW.run am_base_ok ok_C_drawn (Nat.le_add_left 1 d) 4 (pc1 := 121) (ls1 := [some (.ref 0), some (.int x1), none, some (.int x3), some (.int x4), some (.int x5), some (.int x6), some (.long x7), none, some (.int x9), some (.int s0), none]) (st1 := [.int s0, .ref 20]) (σ1 := (S0, m)) rfl ?_
  obtain ⟨q19, hq19, h⟩ := Option.bind_eq_some_iff.mp h
  refine am_AW.callV ok_C_drawn am_nw_ok (As := [.int s0]) (rest := []) rfl rfl rfl oR_Ring_isNumber lk_C_185 iM_Ring_isNumber sE_Ring_isNumber (qc := kq6) rfl rfl rfl rfl (Nat.le_of_ble_eq_true rfl) (f_Ring_isNumber_ok (d := d) (by omega) 20 s0 (by simp) hq19) ?_
  change am_AW am_nw ro (d + 1) mr_C_drawn 124 [some (.ref 0), some (.int x1), none, some (.int x3), some (.int x4), some (.int x5), some (.int x6), some (.long x7), none, some (.int x9), some (.int s0), none] [.int q19.1] (S0, q19.2) (some (.int r)) (S0, m')
  refine am_AW.brP ok_C_drawn rfl rfl am_c_eq (fun c20 => ?_) (fun c20 => ?_)
  · rw [if_pos c20] at h
    refine am_AW.run am_base_ok ok_C_drawn (Nat.le_add_left 1 d) 1 (pc1 := 142) (ls1 := [some (.ref 0), some (.int x1), none, some (.int x3), some (.int x4), some (.int x5), some (.int x6), some (.long x7), none, some (.int x9), some (.int s0), none]) (st1 := [.int (-1 : Int32)]) (σ1 := (S0, q19.2)) rfl ?_
    exact am_AW.weak (f_C_drawn_b142_ok hd (hk70) x1 x3 x4 x5 x6 x7 x9 s0 (-1 : Int32)  h) (by simp only [am_le, and_self])
  · rw [if_neg c20] at h
    refine am_AW.run am_base_ok ok_C_drawn (Nat.le_add_left 1 d) 4 (pc1 := 135) (ls1 := [some (.ref 0), some (.int x1), none, some (.int x3), some (.int x4), some (.int x5), some (.int x6), some (.long x7), none, some (.int x9), some (.int s0), none]) (st1 := [.int s0, .int x4, .ref 20]) (σ1 := (S0, q19.2)) rfl ?_
    obtain ⟨q24, hq24, h⟩ := Option.bind_eq_some_iff.mp h
    refine am_AW.callV ok_C_drawn am_nw_ok (As := [.int x4, .int s0]) (rest := []) rfl rfl rfl oR_Ring_flippedOf lk_C_191 iM_Ring_flippedOf sE_Ring_flippedOf (qc := kq6) rfl rfl rfl rfl (Nat.le_of_ble_eq_true rfl) (f_Ring_flippedOf_ok (d := d) (by omega) x4 s0 hq24) ?_
    change am_AW am_nw ro (d + 1) mr_C_drawn 138 [some (.ref 0), some (.int x1), none, some (.int x3), some (.int x4), some (.int x5), some (.int x6), some (.long x7), none, some (.int x9), some (.int s0), none] [.int q24.1] (S0, q24.2) (some (.int r)) (S0, m')
    refine am_AW.run am_base_ok ok_C_drawn (Nat.le_add_left 1 d) 1 (pc1 := 142) (ls1 := [some (.ref 0), some (.int x1), none, some (.int x3), some (.int x4), some (.int x5), some (.int x6), some (.long x7), none, some (.int x9), some (.int s0), none]) (st1 := [.int q24.1]) (σ1 := (S0, q24.2)) rfl ?_
    exact am_AW.weak (f_C_drawn_b142_ok hd (hk70) x1 x3 x4 x5 x6 x7 x9 s0 q24.1  h) (by simp only [am_le, and_self])
set_option maxHeartbeats 4000000 in
set_option maxRecDepth 100000 in
theorem f_C_drawn_b70_all {ro : am_Ro} {d : Nat} (hd : 5 ≤ d + 1) : ∀ (n : Nat) (x1 : Int32) (x3 : Int32) (x4 : Int32) (x5 : Int32) (x6 : Int32) (x7 : Int64) (x9 : Int32) (m m' : am_Mm) (r : Int32), f_C_drawn_b70 n x1 x3 x4 x5 x6 x7 x9 m = some (r, m') → am_AW am_nw ro (d + 1) mr_C_drawn 70 [some (.ref 0), some (.int x1), none, some (.int x3), some (.int x4), some (.int x5), some (.int x6), some (.long x7), none, some (.int x9), none, none] [] (S0, m) (some (.int r)) (S0, m') := by
  intro n
  induction n with
  | zero =>
    intro x1 x3 x4 x5 x6 x7 x9 m m' r h
    rw [f_C_drawn_b70] at h
    cases h
  | succ n ih =>
    intro x1 x3 x4 x5 x6 x7 x9 m m' r h
    rw [f_C_drawn_b70] at h
    refine am_AW.run am_base_ok ok_C_drawn (Nat.le_add_left 1 d) 2 (pc1 := 73) (ls1 := [some (.ref 0), some (.int x1), none, some (.int x3), some (.int x4), some (.int x5), some (.int x6), some (.long x7), none, some (.int x9), none, none]) (st1 := [.int x1, .int x9]) (σ1 := (S0, m)) rfl ?_
    refine am_AW.brP ok_C_drawn rfl rfl am_c_ge (fun c14 => ?_) (fun c14 => ?_)
    · rw [if_pos c14] at h
      refine am_AW.run am_base_ok ok_C_drawn (Nat.le_add_left 1 d) 1 (pc1 := 175) (ls1 := [some (.ref 0), some (.int x1), none, some (.int x3), some (.int x4), some (.int x5), some (.int x6), some (.long x7), none, some (.int x9), none, none]) (st1 := [.int x3]) (σ1 := (S0, m)) rfl ?_
      refine am_AW.brN ok_C_drawn rfl rfl am_c_ne (fun c15 => ?_) (fun c15 => ?_)
      · rw [if_pos c15] at h
        refine am_AW.run am_base_ok ok_C_drawn (Nat.le_add_left 1 d) 2 (pc1 := 185) (ls1 := [some (.ref 0), some (.int x1), none, some (.int x3), some (.int x4), some (.int x5), some (.int x6), some (.long x7), none, some (.int x9), none, none]) (st1 := [.int x6]) (σ1 := (S0, m)) rfl ?_
        obtain ⟨rfl, rfl⟩ := Prod.mk.inj (Option.some.inj h)
        exact am_AW.ret ok_C_drawn rfl rfl rfl rfl
      · rw [if_neg c15] at h
        refine am_AW.run am_base_ok ok_C_drawn (Nat.le_add_left 1 d) 1 (pc1 := 185) (ls1 := [some (.ref 0), some (.int x1), none, some (.int x3), some (.int x4), some (.int x5), some (.int x6), some (.long x7), none, some (.int x9), none, none]) (st1 := [.int x4]) (σ1 := (S0, m)) rfl ?_
        obtain ⟨rfl, rfl⟩ := Prod.mk.inj (Option.some.inj h)
        exact am_AW.ret ok_C_drawn rfl rfl rfl rfl
    · rw [if_neg c14] at h
      refine am_AW.run am_base_ok ok_C_drawn (Nat.le_add_left 1 d) 4 (pc1 := 85) (ls1 := [some (.ref 0), some (.int x1), none, some (.int x3), some (.int x4), some (.int x5), some (.int x6), some (.long x7), none, some (.int x9), none, none]) (st1 := [.long (2147483647 : Int64), .long (x7 * (16807 : Int64))]) (σ1 := (S0, m)) rfl ?_
      refine am_AW.dvl ok_C_drawn (Nat.le_add_left 1 d) (w := (am_remL (x7 * (16807 : Int64)) (2147483647 : Int64))) (Or.inr ⟨rfl, rfl⟩) rfl (by decide) ?_
      refine am_AW.run am_base_ok ok_C_drawn (Nat.le_add_left 1 d) 2 (pc1 := 90) (ls1 := [some (.ref 0), some (.int x1), none, some (.int x3), some (.int x4), some (.int x5), some (.int x6), some (.long (am_remL (x7 * (16807 : Int64)) (2147483647 : Int64))), none, some (.int x9), none, none]) (st1 := [.int x5]) (σ1 := (S0, m)) rfl ?_
      refine am_AW.brP ok_C_drawn rfl rfl am_c_le (fun c16 => ?_) (fun c16 => ?_)
      · rw [if_pos c16] at h
        refine am_AW.run am_base_ok ok_C_drawn (Nat.le_add_left 1 d) 1 (pc1 := 113) (ls1 := [some (.ref 0), some (.int x1), none, some (.int x3), some (.int x4), some (.int x5), some (.int x6), some (.long (am_remL (x7 * (16807 : Int64)) (2147483647 : Int64))), none, some (.int x9), none, none]) (st1 := [.int (-1 : Int32)]) (σ1 := (S0, m)) rfl ?_
        exact am_AW.weak (f_C_drawn_b113_ok hd (ih) x1 x3 x4 x5 x6 (am_remL (x7 * (16807 : Int64)) (2147483647 : Int64)) x9 (-1 : Int32)  h) (by simp only [am_le, and_self])
      · rw [if_neg c16] at h
        refine am_AW.run am_base_ok ok_C_drawn (Nat.le_add_left 1 d) 6 (pc1 := 104) (ls1 := [some (.ref 0), some (.int x1), none, some (.int x3), some (.int x4), some (.int x5), some (.int x6), some (.long (am_remL (x7 * (16807 : Int64)) (2147483647 : Int64))), none, some (.int x9), none, none]) (st1 := [.long (x5.toInt64), .long (am_remL (x7 * (16807 : Int64)) (2147483647 : Int64)), .int x4, .ref 20]) (σ1 := (S0, m)) rfl ?_
        by_cases g25 : (x5.toInt64) = (0 : Int64)
        · rw [if_pos g25] at h
          cases h
        rw [if_neg g25] at h
        refine am_AW.dvl ok_C_drawn (Nat.le_add_left 1 d) (w := (am_remL (am_remL (x7 * (16807 : Int64)) (2147483647 : Int64)) (x5.toInt64))) (Or.inr ⟨rfl, rfl⟩) rfl g25 ?_
        refine am_AW.run am_base_ok ok_C_drawn (Nat.le_add_left 1 d) 1 (pc1 := 106) (ls1 := [some (.ref 0), some (.int x1), none, some (.int x3), some (.int x4), some (.int x5), some (.int x6), some (.long (am_remL (x7 * (16807 : Int64)) (2147483647 : Int64))), none, some (.int x9), none, none]) (st1 := [.int ((am_remL (am_remL (x7 * (16807 : Int64)) (2147483647 : Int64)) (x5.toInt64)).toInt32), .int x4, .ref 20]) (σ1 := (S0, m)) rfl ?_
        obtain ⟨q28, hq28, h⟩ := Option.bind_eq_some_iff.mp h
        refine am_AW.callV ok_C_drawn am_nw_ok (As := [.int x4, .int ((am_remL (am_remL (x7 * (16807 : Int64)) (2147483647 : Int64)) (x5.toInt64)).toInt32)]) (rest := []) rfl rfl rfl oR_Ring_rising lk_C_315 iM_Ring_rising sE_Ring_rising (qc := kq6) rfl rfl rfl rfl (Nat.le_of_ble_eq_true rfl) (f_Ring_rising_ok (d := d) (by omega) x4 ((am_remL (am_remL (x7 * (16807 : Int64)) (2147483647 : Int64)) (x5.toInt64)).toInt32) hq28) ?_
        change am_AW am_nw ro (d + 1) mr_C_drawn 109 [some (.ref 0), some (.int x1), none, some (.int x3), some (.int x4), some (.int x5), some (.int x6), some (.long (am_remL (x7 * (16807 : Int64)) (2147483647 : Int64))), none, some (.int x9), none, none] [.int q28.1] (S0, q28.2) (some (.int r)) (S0, m')
        refine am_AW.run am_base_ok ok_C_drawn (Nat.le_add_left 1 d) 1 (pc1 := 113) (ls1 := [some (.ref 0), some (.int x1), none, some (.int x3), some (.int x4), some (.int x5), some (.int x6), some (.long (am_remL (x7 * (16807 : Int64)) (2147483647 : Int64))), none, some (.int x9), none, none]) (st1 := [.int q28.1]) (σ1 := (S0, q28.2)) rfl ?_
        exact am_AW.weak (f_C_drawn_b113_ok hd (ih) x1 x3 x4 x5 x6 (am_remL (x7 * (16807 : Int64)) (2147483647 : Int64)) x9 q28.1  h) (by simp only [am_le, and_self])
set_option maxHeartbeats 4000000 in
set_option maxRecDepth 100000 in
theorem f_C_drawn_b70_ok {ro : am_Ro} {d : Nat} (hd : 5 ≤ d + 1) (x1 : Int32) (x3 : Int32) (x4 : Int32) (x5 : Int32) (x6 : Int32) (x7 : Int64) (x9 : Int32) {m m' : am_Mm} {r : Int32} {n : Nat} (h : f_C_drawn_b70 n x1 x3 x4 x5 x6 x7 x9 m = some (r, m')) : am_AW am_nw ro (d + 1) mr_C_drawn 70 [some (.ref 0), some (.int x1), none, some (.int x3), some (.int x4), some (.int x5), some (.int x6), some (.long x7), none, some (.int x9), none, none] [] (S0, m) (some (.int r)) (S0, m') :=
  f_C_drawn_b70_all hd n x1 x3 x4 x5 x6 x7 x9  m m' r h
set_option maxHeartbeats 4000000 in
set_option maxRecDepth 100000 in
theorem f_C_drawn_ok {ro : am_Ro} {d : Nat} (hd : 5 ≤ d) (x1 : Int32) (x2 : Int32) (x3 : Int32) {m m' : am_Mm} {r : Int32} (h : f_C_drawn x1 x2 x3 m = some (r, m')) : am_Mt am_nw ro d mr_C_drawn [.ref 0, .int x1, .int x2, .int x3] (S0, m) (some (.int r)) (S0, m') := by
  obtain ⟨d, rfl⟩ : ∃ d0, d = d0 + 1 := ⟨d - 1, by omega⟩
  refine am_Mt.of (by decide +kernel) (Nat.le_of_ble_eq_true rfl) ?_
  change am_AW am_nw ro (d + 1) mr_C_drawn 0 [some (.ref 0), some (.int x1), some (.int x2), some (.int x3), none, none, none, none, none, none, none, none] [] (S0, m) (some (.int r)) (S0, m')
  unfold f_C_drawn at h
  refine am_AW.run am_base_ok ok_C_drawn (Nat.le_add_left 1 d) 1 (pc1 := 1) (ls1 := [some (.ref 0), some (.int x1), some (.int x2), some (.int x3), none, none, none, none, none, none, none, none]) (st1 := [.ref 0]) (σ1 := (S0, m)) rfl ?_
  obtain ⟨q3, hq3, h⟩ := Option.bind_eq_some_iff.mp h
  refine am_AW.callV ok_C_drawn am_nw_ok (As := []) (rest := []) rfl rfl rfl oR_C_isThere lk_C_198 iM_C_isThere sE_C_isThere (qc := kq9) rfl rfl rfl rfl (Nat.le_of_ble_eq_true rfl) (f_C_isThere_ok (d := d) (by omega)  hq3) ?_
  change am_AW am_nw ro (d + 1) mr_C_drawn 4 [some (.ref 0), some (.int x1), some (.int x2), some (.int x3), none, none, none, none, none, none, none, none] [.int q3.1] (S0, q3.2) (some (.int r)) (S0, m')
  refine am_AW.brN ok_C_drawn rfl rfl am_c_ne (fun c4 => ?_) (fun c4 => ?_)
  · rw [if_pos c4] at h
    refine am_AW.run am_base_ok ok_C_drawn (Nat.le_add_left 1 d) 1 (pc1 := 9) (ls1 := [some (.ref 0), some (.int x1), some (.int x2), some (.int x3), none, none, none, none, none, none, none, none]) (st1 := [.int (-1000002 : Int32)]) (σ1 := (S0, q3.2)) rfl ?_
    obtain ⟨rfl, rfl⟩ := Prod.mk.inj (Option.some.inj h)
    exact am_AW.ret ok_C_drawn rfl rfl rfl rfl
  · rw [if_neg c4] at h
    refine am_AW.run am_base_ok ok_C_drawn (Nat.le_add_left 1 d) 1 (pc1 := 11) (ls1 := [some (.ref 0), some (.int x1), some (.int x2), some (.int x3), none, none, none, none, none, none, none, none]) (st1 := [.int x1]) (σ1 := (S0, q3.2)) rfl ?_
    refine am_AW.brP ok_C_drawn rfl rfl am_c_lt (fun c5 => ?_) (fun c5 => ?_)
    · rw [if_pos c5] at h
      refine am_AW.run am_base_ok ok_C_drawn (Nat.le_add_left 1 d) 1 (pc1 := 43) (ls1 := [some (.ref 0), some (.int x1), some (.int x2), some (.int x3), none, none, none, none, none, none, none, none]) (st1 := [.int (-1000001 : Int32)]) (σ1 := (S0, q3.2)) rfl ?_
      obtain ⟨rfl, rfl⟩ := Prod.mk.inj (Option.some.inj h)
      exact am_AW.ret ok_C_drawn rfl rfl rfl rfl
    · rw [if_neg c5] at h
      refine am_AW.run am_base_ok ok_C_drawn (Nat.le_add_left 1 d) 2 (pc1 := 17) (ls1 := [some (.ref 0), some (.int x1), some (.int x2), some (.int x3), none, none, none, none, none, none, none, none]) (st1 := [.int (60 : Int32), .int x1]) (σ1 := (S0, q3.2)) rfl ?_
      refine am_AW.brP ok_C_drawn rfl rfl am_c_gt (fun c6 => ?_) (fun c6 => ?_)
      · rw [if_pos c6] at h
        refine am_AW.run am_base_ok ok_C_drawn (Nat.le_add_left 1 d) 1 (pc1 := 43) (ls1 := [some (.ref 0), some (.int x1), some (.int x2), some (.int x3), none, none, none, none, none, none, none, none]) (st1 := [.int (-1000001 : Int32)]) (σ1 := (S0, q3.2)) rfl ?_
        obtain ⟨rfl, rfl⟩ := Prod.mk.inj (Option.some.inj h)
        exact am_AW.ret ok_C_drawn rfl rfl rfl rfl
      · rw [if_neg c6] at h
        refine am_AW.run am_base_ok ok_C_drawn (Nat.le_add_left 1 d) 2 (pc1 := 22) (ls1 := [some (.ref 0), some (.int x1), some (.int x2), some (.int x3), none, none, none, none, none, none, none, none]) (st1 := [.int (1 : Int32), .int x2]) (σ1 := (S0, q3.2)) rfl ?_
        refine am_AW.brP ok_C_drawn rfl rfl am_c_lt (fun c7 => ?_) (fun c7 => ?_)
        · rw [if_pos c7] at h
          refine am_AW.run am_base_ok ok_C_drawn (Nat.le_add_left 1 d) 1 (pc1 := 43) (ls1 := [some (.ref 0), some (.int x1), some (.int x2), some (.int x3), none, none, none, none, none, none, none, none]) (st1 := [.int (-1000001 : Int32)]) (σ1 := (S0, q3.2)) rfl ?_
          obtain ⟨rfl, rfl⟩ := Prod.mk.inj (Option.some.inj h)
          exact am_AW.ret ok_C_drawn rfl rfl rfl rfl
        · rw [if_neg c7] at h
          refine am_AW.run am_base_ok ok_C_drawn (Nat.le_add_left 1 d) 2 (pc1 := 29) (ls1 := [some (.ref 0), some (.int x1), some (.int x2), some (.int x3), none, none, none, none, none, none, none, none]) (st1 := [.int (999999 : Int32), .int x2]) (σ1 := (S0, q3.2)) rfl ?_
          refine am_AW.brP ok_C_drawn rfl rfl am_c_gt (fun c8 => ?_) (fun c8 => ?_)
          · rw [if_pos c8] at h
            refine am_AW.run am_base_ok ok_C_drawn (Nat.le_add_left 1 d) 1 (pc1 := 43) (ls1 := [some (.ref 0), some (.int x1), some (.int x2), some (.int x3), none, none, none, none, none, none, none, none]) (st1 := [.int (-1000001 : Int32)]) (σ1 := (S0, q3.2)) rfl ?_
            obtain ⟨rfl, rfl⟩ := Prod.mk.inj (Option.some.inj h)
            exact am_AW.ret ok_C_drawn rfl rfl rfl rfl
          · rw [if_neg c8] at h
            refine am_AW.run am_base_ok ok_C_drawn (Nat.le_add_left 1 d) 1 (pc1 := 33) (ls1 := [some (.ref 0), some (.int x1), some (.int x2), some (.int x3), none, none, none, none, none, none, none, none]) (st1 := [.int x3]) (σ1 := (S0, q3.2)) rfl ?_
            refine am_AW.brP ok_C_drawn rfl rfl am_c_lt (fun c9 => ?_) (fun c9 => ?_)
            · rw [if_pos c9] at h
              refine am_AW.run am_base_ok ok_C_drawn (Nat.le_add_left 1 d) 1 (pc1 := 43) (ls1 := [some (.ref 0), some (.int x1), some (.int x2), some (.int x3), none, none, none, none, none, none, none, none]) (st1 := [.int (-1000001 : Int32)]) (σ1 := (S0, q3.2)) rfl ?_
              obtain ⟨rfl, rfl⟩ := Prod.mk.inj (Option.some.inj h)
              exact am_AW.ret ok_C_drawn rfl rfl rfl rfl
            · rw [if_neg c9] at h
              refine am_AW.run am_base_ok ok_C_drawn (Nat.le_add_left 1 d) 2 (pc1 := 38) (ls1 := [some (.ref 0), some (.int x1), some (.int x2), some (.int x3), none, none, none, none, none, none, none, none]) (st1 := [.int (1 : Int32), .int x3]) (σ1 := (S0, q3.2)) rfl ?_
              refine am_AW.brP ok_C_drawn rfl rfl am_c_le (fun c10 => ?_) (fun c10 => ?_)
              · rw [if_pos c10] at h
                refine am_AW.run am_base_ok ok_C_drawn (Nat.le_add_left 1 d) 5 (pc1 := 55) (ls1 := [some (.ref 0), some (.int x1), some (.int x2), some (.int x3), some (.int (q3.2.1 13 3)), none, none, none, none, none, none, none]) (st1 := [.int (q3.2.1 13 3)]) (σ1 := (S0, q3.2)) rfl ?_
                obtain ⟨q13, hq13, h⟩ := Option.bind_eq_some_iff.mp h
                refine am_AW.callS ok_C_drawn am_nw_ok (As := [.int (q3.2.1 13 3)]) (rest := []) rfl rfl rfl oR_Integer_bitCount lk_C_180 sT_Integer_bitCount rfl (Nat.le_of_ble_eq_true rfl) (f_Integer_bitCount_ok (d := d) (by omega) (q3.2.1 13 3) hq13) ?_
                change am_AW am_nw ro (d + 1) mr_C_drawn 58 [some (.ref 0), some (.int x1), some (.int x2), some (.int x3), some (.int (q3.2.1 13 3)), none, none, none, none, none, none, none] [.int q13.1] (S0, q13.2) (some (.int r)) (S0, m')
                refine am_AW.run am_base_ok ok_C_drawn (Nat.le_add_left 1 d) 8 (pc1 := 70) (ls1 := [some (.ref 0), some (.int x1), some (.int x2), some (.int x3), some (.int (q3.2.1 13 3)), some (.int q13.1), some (.int (0 : Int32)), some (.long (x2.toInt64)), none, some (.int (0 : Int32)), none, none]) (st1 := []) (σ1 := (S0, q13.2)) rfl ?_
                exact am_AW.weak (f_C_drawn_b70_ok hd x1 x3 (q3.2.1 13 3) q13.1 (0 : Int32) (x2.toInt64) (0 : Int32)  h) (by simp only [am_le, and_self])
              · rw [if_neg c10] at h
                refine am_AW.run am_base_ok ok_C_drawn (Nat.le_add_left 1 d) 1 (pc1 := 43) (ls1 := [some (.ref 0), some (.int x1), some (.int x2), some (.int x3), none, none, none, none, none, none, none, none]) (st1 := [.int (-1000001 : Int32)]) (σ1 := (S0, q3.2)) rfl ?_
                obtain ⟨rfl, rfl⟩ := Prod.mk.inj (Option.some.inj h)
                exact am_AW.ret ok_C_drawn rfl rfl rfl rfl
