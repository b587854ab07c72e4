/-! FriezePolygons$Ring.pieceAt(II)I -/
def f_Ring_pieceAt_b110 (k18 : Int32 → Int32 → Int32 → Int32 → Int32 → am_Mm → Option (Int32 × am_Mm)) (x1 : Int32) (x2 : Int32) (x3 : Int32) (x4 : Int32) (x5 : Int32) (m : am_Mm) : Option (Int32 × am_Mm) :=
  k18 x1 x2 x3 x4 (x5 + (1 : Int32)) m
def f_Ring_pieceAt_b54 (k18 : Int32 → Int32 → Int32 → Int32 → Int32 → am_Mm → Option (Int32 × am_Mm)) (x1 : Int32) (x2 : Int32) (x3 : Int32) (x4 : Int32) (x5 : Int32) (s0 : Int32) (m : am_Mm) : Option (Int32 × am_Mm) :=
  if ((am_shr x1 x5) &&& (1 : Int32)) = (1 : Int32) then
    if s0 = (0 : Int32) then
      f_Ring_pieceAt_b110 k18 x1 x2 x3 x4 x5 m
    else
      if am_in x5 27 = true then
        if am_in x5 27 = true then
          if (x4 - x3) ≤ ((m.1 22 x5.toNatClampNeg) - (m.1 21 x5.toNatClampNeg)) then
            f_Ring_pieceAt_b110 k18 x1 x2 x3 x4 x5 m
          else
            if am_in x5 27 = true then
              if am_in x5 27 = true then
                f_Ring_pieceAt_b110 k18 x1 x2 (m.1 21 x5.toNatClampNeg) (m.1 22 x5.toNatClampNeg) x5 m
              else none
            else none
        else none
      else none
  else
    f_Ring_pieceAt_b110 k18 x1 x2 x3 x4 x5 m
def f_Ring_pieceAt_b18 : Nat → Int32 → Int32 → Int32 → Int32 → Int32 → am_Mm → Option (Int32 × am_Mm)
  | 0, _, _, _, _, _, _ => none
  | n + 1, x1, x2, x3, x4, x5, m =>
    if (m.1 20 6) ≤ x5 then
      (f_Ring_pieceUnder x3 x4 m).bind fun q7 =>
      some (q7.1, q7.2)
    else
      if am_in x5 27 = true then
        if x2 < (m.1 21 x5.toNatClampNeg) then
          f_Ring_pieceAt_b54 (f_Ring_pieceAt_b18 n) x1 x2 x3 x4 x5 (0 : Int32) m
        else
          if am_in x5 27 = true then
            if (m.1 22 x5.toNatClampNeg) ≤ x2 then
              f_Ring_pieceAt_b54 (f_Ring_pieceAt_b18 n) x1 x2 x3 x4 x5 (0 : Int32) m
            else
              f_Ring_pieceAt_b54 (f_Ring_pieceAt_b18 n) x1 x2 x3 x4 x5 (1 : Int32) m
          else none
      else none
def f_Ring_pieceAt (x1 : Int32) (x2 : Int32) (m : am_Mm) : Option (Int32 × am_Mm) :=
  (f_Ring_joinCorners x1 m).bind fun q3 =>
  f_Ring_pieceAt_b18 am_F x1 x2 (0 : Int32) ((q3.1 20 5) - (1 : Int32)) (0 : Int32) q3
set_option maxHeartbeats 4000000 in
set_option maxRecDepth 100000 in
theorem f_Ring_pieceAt_b110_ok {ro : am_Ro} {d : Nat} (hd : 3 ≤ d + 1) {k18 : Int32 → Int32 → Int32 → Int32 → Int32 → am_Mm → Option (Int32 × am_Mm)} (hk18 : ∀ (x1 : Int32) (x2 : Int32) (x3 : Int32) (x4 : Int32) (x5 : Int32) (m m' : am_Mm) (r : Int32), k18 x1 x2 x3 x4 x5 m = some (r, m') → am_AW am_nw ro (d + 1) mr_Ring_pieceAt 18 [some (.ref 20), some (.int x1), some (.int x2), some (.int x3), some (.int x4), some (.int x5), none] [] (S0, m) (some (.int r)) (S0, m')) (x1 : Int32) (x2 : Int32) (x3 : Int32) (x4 : Int32) (x5 : Int32) {m m' : am_Mm} {r : Int32} (h : f_Ring_pieceAt_b110 k18 x1 x2 x3 x4 x5 m = some (r, m')) : am_AW am_nw ro (d + 1) mr_Ring_pieceAt 110 [some (.ref 20), some (.int x1), some (.int x2), some (.int x3), some (.int x4), some (.int x5), none] [] (S0, m) (some (.int r)) (S0, m') := by
  unfold f_Ring_pieceAt_b110 at h
  refine am_AW.run am_base_ok ok_Ring_pieceAt (Nat.le_add_left 1 d) 2 (pc1 := 18) (ls1 := [some (.ref 20), some (.int x1), some (.int x2), some (.int x3), some (.int x4), some (.int (x5 + (1 : Int32))), none]) (st1 := []) (σ1 := (S0, m)) rfl ?_
  exact am_AW.weak (hk18 x1 x2 x3 x4 (x5 + (1 : Int32))  _ _ _ h) (by simp only [am_le, and_self])
set_option maxHeartbeats 4000000 in
set_option maxRecDepth 100000 in
theorem f_Ring_pieceAt_b54_ok {ro : am_Ro} {d : Nat} (hd : 3 ≤ d + 1) {k18 : Int32 → Int32 → Int32 → Int32 → Int32 → am_Mm → Option (Int32 × am_Mm)} (hk18 : ∀ (x1 : Int32) (x2 : Int32) (x3 : Int32) (x4 : Int32) (x5 : Int32) (m m' : am_Mm) (r : Int32), k18 x1 x2 x3 x4 x5 m = some (r, m') → am_AW am_nw ro (d + 1) mr_Ring_pieceAt 18 [some (.ref 20), some (.int x1), some (.int x2), some (.int x3), some (.int x4), some (.int x5), none] [] (S0, m) (some (.int r)) (S0, m')) (x1 : Int32) (x2 : Int32) (x3 : Int32) (x4 : Int32) (x5 : Int32) (s0 : Int32) {m m' : am_Mm} {r : Int32} (h : f_Ring_pieceAt_b54 k18 x1 x2 x3 x4 x5 s0 m = some (r, m')) : am_AW am_nw ro (d + 1) mr_Ring_pieceAt 54 [some (.ref 20), some (.int x1), some (.int x2), some (.int x3), some (.int x4), some (.int x5), none] [.int s0] (S0, m) (some (.int r)) (S0, m') := by
  unfold f_Ring_pieceAt_b54 at h
  refine am_AW.run am_base_ok ok_Ring_pieceAt (Nat.le_add_left 1 d) 7 (pc1 := 63) (ls1 := [some (.ref 20), some (.int x1), some (.int x2), some (.int x3), some (.int x4), some (.int x5), some (.int s0)]) (st1 := [.int (1 : Int32), .int ((am_shr x1 x5) &&& (1 : Int32))]) (σ1 := (S0, m)) rfl ?_
  refine am_AW.brN ok_Ring_pieceAt rfl rfl am_c_ne (fun c10 => ?_) (fun c10 => ?_)
  · rw [if_pos c10] at h
    refine am_AW.run am_base_ok ok_Ring_pieceAt (Nat.le_add_left 1 d) 1 (pc1 := 68) (ls1 := [some (.ref 20), some (.int x1), some (.int x2), some (.int x3), some (.int x4), some (.int x5), some (.int s0)]) (st1 := [.int s0]) (σ1 := (S0, m)) rfl ?_
    refine am_AW.brP ok_Ring_pieceAt rfl rfl am_c_eq (fun c11 => ?_) (fun c11 => ?_)
    · rw [if_pos c11] at h
      exact am_AW.weak (f_Ring_pieceAt_b110_ok hd (hk18) x1 x2 x3 x4 x5  h) (by simp only [am_le, and_self])
    · rw [if_neg c11] at h
      refine am_AW.run am_base_ok ok_Ring_pieceAt (Nat.le_add_left 1 d) 3 (pc1 := 77) (ls1 := [some (.ref 20), some (.int x1), some (.int x2), some (.int x3), some (.int x4), some (.int x5), some (.int s0)]) (st1 := [.int x5, .ref 22]) (σ1 := (S0, m)) rfl ?_
      by_cases g12 : am_in x5 27 = true
      rotate_left
      · rw [if_neg g12] at h
        cases h
      rw [if_pos g12] at h
      refine am_AW.iald ok_Ring_pieceAt (Nat.le_add_left 1 d) S0_len rfl rfl g12 ?_
      refine am_AW.run am_base_ok ok_Ring_pieceAt (Nat.le_add_left 1 d) 3 (pc1 := 84) (ls1 := [some (.ref 20), some (.int x1), some (.int x2), some (.int x3), some (.int x4), some (.int x5), some (.int s0)]) (st1 := [.int x5, .ref 21, .int (m.1 22 x5.toNatClampNeg)]) (σ1 := (S0, m)) rfl ?_
      by_cases g13 : am_in x5 27 = true
      rotate_left
      · rw [if_neg g13] at h
        cases h
      rw [if_pos g13] at h
      refine am_AW.iald ok_Ring_pieceAt (Nat.le_add_left 1 d) S0_len rfl rfl g13 ?_
      refine am_AW.run am_base_ok ok_Ring_pieceAt (Nat.le_add_left 1 d) 4 (pc1 := 90) (ls1 := [some (.ref 20), some (.int x1), some (.int x2), some (.int x3), some (.int x4), some (.int x5), some (.int s0)]) (st1 := [.int (x4 - x3), .int ((m.1 22 x5.toNatClampNeg) - (m.1 21 x5.toNatClampNeg))]) (σ1 := (S0, m)) rfl ?_
      refine am_AW.brP ok_Ring_pieceAt rfl rfl am_c_ge (fun c14 => ?_) (fun c14 => ?_)
      · rw [if_pos c14] at h
        exact am_AW.weak (f_Ring_pieceAt_b110_ok hd (hk18) x1 x2 x3 x4 x5  h) (by simp only [am_le, and_self])
      · rw [if_neg c14] at h
        refine am_AW.run am_base_ok ok_Ring_pieceAt (Nat.le_add_left 1 d) 3 (pc1 := 99) (ls1 := [some (.ref 20), some (.int x1), some (.int x2), some (.int x3), some (.int x4), some (.int x5), some (.int s0)]) (st1 := [.int x5, .ref 21]) (σ1 := (S0, m)) rfl ?_
        by_cases g15 : am_in x5 27 = true
        rotate_left
        · rw [if_neg g15] at h
          cases h
        rw [if_pos g15] at h
        refine am_AW.iald ok_Ring_pieceAt (Nat.le_add_left 1 d) S0_len rfl rfl g15 ?_
        refine am_AW.run am_base_ok ok_Ring_pieceAt (Nat.le_add_left 1 d) 4 (pc1 := 107) (ls1 := [some (.ref 20), some (.int x1), some (.int x2), some (.int (m.1 21 x5.toNatClampNeg)), some (.int x4), some (.int x5), some (.int s0)]) (st1 := [.int x5, .ref 22]) (σ1 := (S0, m)) rfl ?_
        by_cases g16 : am_in x5 27 = true
        rotate_left
        · rw [if_neg g16] at h
          cases h
        rw [if_pos g16] at h
        refine am_AW.iald ok_Ring_pieceAt (Nat.le_add_left 1 d) S0_len rfl rfl g16 ?_
        refine am_AW.run am_base_ok ok_Ring_pieceAt (Nat.le_add_left 1 d) 1 (pc1 := 110) (ls1 := [some (.ref 20), some (.int x1), some (.int x2), some (.int (m.1 21 x5.toNatClampNeg)), some (.int (m.1 22 x5.toNatClampNeg)), some (.int x5), some (.int s0)]) (st1 := []) (σ1 := (S0, m)) rfl ?_
        exact am_AW.weak (f_Ring_pieceAt_b110_ok hd (hk18) x1 x2 (m.1 21 x5.toNatClampNeg) (m.1 22 x5.toNatClampNeg) x5  h) (by simp only [am_le, and_self])
  · rw [if_neg c10] at h
    exact am_AW.weak (f_Ring_pieceAt_b110_ok hd (hk18) x1 x2 x3 x4 x5  h) (by simp only [am_le, and_self])
set_option maxHeartbeats 4000000 in
set_option maxRecDepth 100000 in
theorem f_Ring_pieceAt_b18_all {ro : am_Ro} {d : Nat} (hd : 3 ≤ d + 1) : ∀ (n : Nat) (x1 : Int32) (x2 : Int32) (x3 : Int32) (x4 : Int32) (x5 : Int32) (m m' : am_Mm) (r : Int32), f_Ring_pieceAt_b18 n x1 x2 x3 x4 x5 m = some (r, m') → am_AW am_nw ro (d + 1) mr_Ring_pieceAt 18 [some (.ref 20), some (.int x1), some (.int x2), some (.int x3), some (.int x4), some (.int x5), none] [] (S0, m) (some (.int r)) (S0, m') := by
  intro n
  induction n with
  | zero =>
    intro x1 x2 x3 x4 x5 m m' r h
    rw [f_Ring_pieceAt_b18] at h
    cases h
  | succ n ih =>
    intro x1 x2 x3 x4 x5 m m' r h
    rw [f_Ring_pieceAt_b18] at h
    refine am_AW.run am_base_ok ok_Ring_pieceAt (Nat.le_add_left 1 d) 3 (pc1 := 24) (ls1 := [some (.ref 20), some (.int x1), some (.int x2), some (.int x3), some (.int x4), some (.int x5), none]) (st1 := [.int (m.1 20 6), .int x5]) (σ1 := (S0, m)) rfl ?_
    refine am_AW.brP ok_Ring_pieceAt rfl rfl am_c_ge (fun c4 => ?_) (fun c4 => ?_)
    · rw [if_pos c4] at h
      refine am_AW.run am_base_ok ok_Ring_pieceAt (Nat.le_add_left 1 d) 3 (pc1 := 120) (ls1 := [some (.ref 20), some (.int x1), some (.int x2), some (.int x3), some (.int x4), some (.int x5), none]) (st1 := [.int x4, .int x3, .ref 20]) (σ1 := (S0, m)) rfl ?_
      obtain ⟨q7, hq7, h⟩ := Option.bind_eq_some_iff.mp h
      refine am_AW.callV ok_Ring_pieceAt am_nw_ok (As := [.int x3, .int x4]) (rest := []) rfl rfl rfl oR_Ring_pieceUnder lk_Ring_92 iM_Ring_pieceUnder sE_Ring_pieceUnder (qc := kq6) rfl rfl rfl rfl (Nat.le_of_ble_eq_true rfl) (f_Ring_pieceUnder_ok (d := d) (by omega) x3 x4 hq7) ?_
      change am_AW am_nw ro (d + 1) mr_Ring_pieceAt 123 [some (.ref 20), some (.int x1), some (.int x2), some (.int x3), some (.int x4), some (.int x5), none] [.int q7.1] (S0, q7.2) (some (.int r)) (S0, m')
      obtain ⟨rfl, rfl⟩ := Prod.mk.inj (Option.some.inj h)
      exact am_AW.ret ok_Ring_pieceAt rfl rfl rfl rfl
    · rw [if_neg c4] at h
      refine am_AW.run am_base_ok ok_Ring_pieceAt (Nat.le_add_left 1 d) 3 (pc1 := 33) (ls1 := [some (.ref 20), some (.int x1), some (.int x2), some (.int x3), some (.int x4), some (.int x5), none]) (st1 := [.int x5, .ref 21]) (σ1 := (S0, m)) rfl ?_
      by_cases g8 : am_in x5 27 = true
      rotate_left
      · rw [if_neg g8] at h
        cases h
      rw [if_pos g8] at h
      refine am_AW.iald ok_Ring_pieceAt (Nat.le_add_left 1 d) S0_len rfl rfl g8 ?_
      refine am_AW.run am_base_ok ok_Ring_pieceAt (Nat.le_add_left 1 d) 1 (pc1 := 35) (ls1 := [some (.ref 20), some (.int x1), some (.int x2), some (.int x3), some (.int x4), some (.int x5), none]) (st1 := [.int x2, .int (m.1 21 x5.toNatClampNeg)]) (σ1 := (S0, m)) rfl ?_
      refine am_AW.brP ok_Ring_pieceAt rfl rfl am_c_gt (fun c9 => ?_) (fun c9 => ?_)
      · rw [if_pos c9] at h
        refine am_AW.run am_base_ok ok_Ring_pieceAt (Nat.le_add_left 1 d) 1 (pc1 := 54) (ls1 := [some (.ref 20), some (.int x1), some (.int x2), some (.int x3), some (.int x4), some (.int x5), none]) (st1 := [.int (0 : Int32)]) (σ1 := (S0, m)) rfl ?_
        exact am_AW.weak (f_Ring_pieceAt_b54_ok hd (ih) x1 x2 x3 x4 x5 (0 : Int32)  h) (by simp only [am_le, and_self])
      · rw [if_neg c9] at h
        refine am_AW.run am_base_ok ok_Ring_pieceAt (Nat.le_add_left 1 d) 3 (pc1 := 44) (ls1 := [some (.ref 20), some (.int x1), some (.int x2), some (.int x3), some (.int x4), some (.int x5), none]) (st1 := [.int x5, .ref 22]) (σ1 := (S0, m)) rfl ?_
        by_cases g17 : am_in x5 27 = true
        rotate_left
        · rw [if_neg g17] at h
          cases h
        rw [if_pos g17] at h
        refine am_AW.iald ok_Ring_pieceAt (Nat.le_add_left 1 d) S0_len rfl rfl g17 ?_
        refine am_AW.run am_base_ok ok_Ring_pieceAt (Nat.le_add_left 1 d) 1 (pc1 := 46) (ls1 := [some (.ref 20), some (.int x1), some (.int x2), some (.int x3), some (.int x4), some (.int x5), none]) (st1 := [.int x2, .int (m.1 22 x5.toNatClampNeg)]) (σ1 := (S0, m)) rfl ?_
        refine am_AW.brP ok_Ring_pieceAt rfl rfl am_c_le (fun c18 => ?_) (fun c18 => ?_)
        · rw [if_pos c18] at h
          refine am_AW.run am_base_ok ok_Ring_pieceAt (Nat.le_add_left 1 d) 1 (pc1 := 54) (ls1 := [some (.ref 20), some (.int x1), some (.int x2), some (.int x3), some (.int x4), some (.int x5), none]) (st1 := [.int (0 : Int32)]) (σ1 := (S0, m)) rfl ?_
          exact am_AW.weak (f_Ring_pieceAt_b54_ok hd (ih) x1 x2 x3 x4 x5 (0 : Int32)  h) (by simp only [am_le, and_self])
        · rw [if_neg c18] at h
          refine am_AW.run am_base_ok ok_Ring_pieceAt (Nat.le_add_left 1 d) 2 (pc1 := 54) (ls1 := [some (.ref 20), some (.int x1), some (.int x2), some (.int x3), some (.int x4), some (.int x5), none]) (st1 := [.int (1 : Int32)]) (σ1 := (S0, m)) rfl ?_
          exact am_AW.weak (f_Ring_pieceAt_b54_ok hd (ih) x1 x2 x3 x4 x5 (1 : Int32)  h) (by simp only [am_le, and_self])
set_option maxHeartbeats 4000000 in
set_option maxRecDepth 100000 in
theorem f_Ring_pieceAt_b18_ok {ro : am_Ro} {d : Nat} (hd : 3 ≤ d + 1) (x1 : Int32) (x2 : Int32) (x3 : Int32) (x4 : Int32) (x5 : Int32) {m m' : am_Mm} {r : Int32} {n : Nat} (h : f_Ring_pieceAt_b18 n x1 x2 x3 x4 x5 m = some (r, m')) : am_AW am_nw ro (d + 1) mr_Ring_pieceAt 18 [some (.ref 20), some (.int x1), some (.int x2), some (.int x3), some (.int x4), some (.int x5), none] [] (S0, m) (some (.int r)) (S0, m') :=
  f_Ring_pieceAt_b18_all hd n x1 x2 x3 x4 x5  m m' r h
set_option maxHeartbeats 4000000 in
set_option maxRecDepth 100000 in
theorem f_Ring_pieceAt_ok {ro : am_Ro} {d : Nat} (hd : 3 ≤ d) (x1 : Int32) (x2 : Int32) {m m' : am_Mm} {r : Int32} (h : f_Ring_pieceAt x1 x2 m = some (r, m')) : am_Mt am_nw ro d mr_Ring_pieceAt [.ref 20, .int x1, .int x2] (S0, m) (some (.int r)) (S0, m') := by
  obtain ⟨d, rfl⟩ : ∃ d0, d = d0 + 1 := ⟨d - 1, by omega⟩
  refine am_Mt.of (by decide +kernel) (Nat.le_of_ble_eq_true rfl) ?_
  change am_AW am_nw ro (d + 1) mr_Ring_pieceAt 0 [some (.ref 20), some (.int x1), some (.int x2), none, none, none, none] [] (S0, m) (some (.int r)) (S0, m')
  unfold f_Ring_pieceAt at h
  refine am_AW.run am_base_ok ok_Ring_pieceAt (Nat.le_add_left 1 d) 2 (pc1 := 2) (ls1 := [some (.ref 20), some (.int x1), some (.int x2), none, none, none, none]) (st1 := [.int x1, .ref 20]) (σ1 := (S0, m)) rfl ?_
  obtain ⟨q3, hq3, h⟩ := Option.bind_eq_some_iff.mp h
  refine am_AW.callV ok_Ring_pieceAt am_nw_ok (As := [.int x1]) (rest := []) rfl rfl rfl oR_Ring_joinCorners lk_Ring_76 iM_Ring_joinCorners sE_Ring_joinCorners (qc := kq6) rfl rfl rfl rfl (Nat.le_of_ble_eq_true rfl) (f_Ring_joinCorners_ok (d := d) (by omega) x1 hq3) ?_
  change am_AW am_nw ro (d + 1) mr_Ring_pieceAt 5 [some (.ref 20), some (.int x1), some (.int x2), none, none, none, none] [] (S0, q3) (some (.int r)) (S0, m')
  refine am_AW.run am_base_ok ok_Ring_pieceAt (Nat.le_add_left 1 d) 9 (pc1 := 18) (ls1 := [some (.ref 20), some (.int x1), some (.int x2), some (.int (0 : Int32)), some (.int ((q3.1 20 5) - (1 : Int32))), some (.int (0 : Int32)), none]) (st1 := []) (σ1 := (S0, q3)) rfl ?_
  exact am_AW.weak (f_Ring_pieceAt_b18_ok hd x1 x2 (0 : Int32) ((q3.1 20 5) - (1 : Int32)) (0 : Int32)  h) (by simp only [am_le, and_self])
/-! FriezePolygons$Ring.sizeUnder(II)I -/
def f_Ring_sizeUnder (x1 : Int32) (x2 : Int32) (m : am_Mm) : Option (Int32 × am_Mm) :=
  (f_Ring_pieceUnder x1 x2 m).bind fun q3 =>
  (f_Integer_bitCount q3.1 q3.2).bind fun q6 =>
  some ((am_min q6.1 (9 : Int32)), q6.2)
set_option maxHeartbeats 4000000 in
set_option maxRecDepth 100000 in
theorem f_Ring_sizeUnder_ok {ro : am_Ro} {d : Nat} (hd : 3 ≤ d) (x1 : Int32) (x2 : Int32) {m m' : am_Mm} {r : Int32} (h : f_Ring_sizeUnder x1 x2 m = some (r, m')) : am_Mt am_nw ro d mr_Ring_sizeUnder [.ref 20, .int x1, .int x2] (S0, m) (some (.int r)) (S0, m') := by
  obtain ⟨d, rfl⟩ : ∃ d0, d = d0 + 1 := ⟨d - 1, by omega⟩
  refine am_Mt.of (by decide +kernel) (Nat.le_of_ble_eq_true rfl) ?_
  change am_AW am_nw ro (d + 1) mr_Ring_sizeUnder 0 [some (.ref 20), some (.int x1), some (.int x2)] [] (S0, m) (some (.int r)) (S0, m')
  unfold f_Ring_sizeUnder at h
  refine am_AW.run am_base_ok ok_Ring_sizeUnder (Nat.le_add_left 1 d) 3 (pc1 := 3) (ls1 := [some (.ref 20), some (.int x1), some (.int x2)]) (st1 := [.int x2, .int x1, .ref 20]) (σ1 := (S0, m)) rfl ?_
  obtain ⟨q3, hq3, h⟩ := Option.bind_eq_some_iff.mp h
  refine am_AW.callV ok_Ring_sizeUnder am_nw_ok (As := [.int x1, .int x2]) (rest := []) rfl rfl rfl oR_Ring_pieceUnder lk_Ring_92 iM_Ring_pieceUnder sE_Ring_pieceUnder (qc := kq6) rfl rfl rfl rfl (Nat.le_of_ble_eq_true rfl) (f_Ring_pieceUnder_ok (d := d) (by omega) x1 x2 hq3) ?_
  change am_AW am_nw ro (d + 1) mr_Ring_sizeUnder 6 [some (.ref 20), some (.int x1), some (.int x2)] [.int q3.1] (S0, q3.2) (some (.int r)) (S0, m')
  obtain ⟨q6, hq6, h⟩ := Option.bind_eq_some_iff.mp h
  refine am_AW.callS ok_Ring_sizeUnder am_nw_ok (As := [.int q3.1]) (rest := []) rfl rfl rfl oR_Integer_bitCount lk_Ring_63 sT_Integer_bitCount rfl (Nat.le_of_ble_eq_true rfl) (f_Integer_bitCount_ok (d := d) (by omega) q3.1 hq6) ?_
  change am_AW am_nw ro (d + 1) mr_Ring_sizeUnder 9 [some (.ref 20), some (.int x1), some (.int x2)] [.int q6.1] (S0, q6.2) (some (.int r)) (S0, m')
  refine am_AW.run am_base_ok ok_Ring_sizeUnder (Nat.le_add_left 1 d) 1 (pc1 := 11) (ls1 := [some (.ref 20), some (.int x1), some (.int x2)]) (st1 := [.int (9 : Int32), .int q6.1]) (σ1 := (S0, q6.2)) rfl ?_
  refine am_AW.mmin ok_Ring_sizeUnder (Nat.le_add_left 1 d) rfl lk_Ring_34 (Nat.le_of_ble_eq_true rfl) ?_
  change am_AW am_nw ro (d + 1) mr_Ring_sizeUnder 14 [some (.ref 20), some (.int x1), some (.int x2)] [.int (am_min q6.1 (9 : Int32))] (S0, q6.2) (some (.int r)) (S0, m')
  obtain ⟨rfl, rfl⟩ := Prod.mk.inj (Option.some.inj h)
  exact am_AW.ret ok_Ring_sizeUnder rfl rfl rfl rfl
/-! FriezePolygons$Tape.drawCut(II)Z -/
def f_Tape_drawCut_b18 (s0 : Int32) (m : am_Mm) : Option (Int32 × am_Mm) :=
  (f_Ring_isFree 6 (m.1 3 3) s0 m).bind fun q4 =>
  if q4.1 = (0 : Int32) then
    (f_Tape_refuse (2 : Int32) q4.2).bind fun q8 =>
    if q8.1 = (0 : Int32) ∨ q8.1 = (1 : Int32) then
      some (q8.1, q8.2)
    else none
  else
    some ((1 : Int32), (am_pI q4.2 3 3 ((q4.2.1 3 3) ||| (am_shl (1 : Int32) s0))))
def f_Tape_drawCut (x1 : Int32) (x2 : Int32) (m : am_Mm) : Option (Int32 × am_Mm) :=
  if x2 ≤ x1 then
    f_Tape_drawCut_b18 (-1 : Int32) m
  else
    (f_Ring_numberOf 6 x1 x2 m).bind fun q12 =>
    f_Tape_drawCut_b18 q12.1 q12.2
set_option maxHeartbeats 4000000 in
set_option maxRecDepth 100000 in
theorem f_Tape_drawCut_b18_ok {ro : am_Ro} {d : Nat} (hd : 3 ≤ d + 1) (s0 : Int32) {m m' : am_Mm} {r : Int32} (h : f_Tape_drawCut_b18 s0 m = some (r, m')) : am_AW am_nw ro (d + 1) mr_Tape_drawCut 18 [some (.ref 2), none, none, none] [.int s0] (S0, m) (some (.int r)) (S0, m') := by
  unfold f_Tape_drawCut_b18 at h
  refine am_AW.run am_base_ok ok_Tape_drawCut (Nat.le_add_left 1 d) 7 (pc1 := 31) (ls1 := [some (.ref 2), none, none, some (.int s0)]) (st1 := [.int s0, .int (m.1 3 3), .ref 6]) (σ1 := (S0, m)) rfl ?_
  obtain ⟨q4, hq4, h⟩ := Option.bind_eq_some_iff.mp h
  refine am_AW.callV ok_Tape_drawCut am_nw_ok (As := [.int (m.1 3 3), .int s0]) (rest := []) rfl rfl rfl oR_Ring_isFree lk_Tape_96 iM_Ring_isFree sE_Ring_isFree (qc := kq6) rfl rfl rfl rfl (Nat.le_of_ble_eq_true rfl) (f_Ring_isFree_ok (d := d) (by omega) 6 (m.1 3 3) s0 (by simp) hq4) ?_
  change am_AW am_nw ro (d + 1) mr_Tape_drawCut 34 [some (.ref 2), none, none, some (.int s0)] [.int q4.1] (S0, q4.2) (some (.int r)) (S0, m')
  refine am_AW.brN ok_Tape_drawCut rfl rfl am_c_ne (fun c5 => ?_) (fun c5 => ?_)
  · rw [if_pos c5] at h
    refine am_AW.run am_base_ok ok_Tape_drawCut (Nat.le_add_left 1 d) 2 (pc1 := 39) (ls1 := [some (.ref 2), none, none, some (.int s0)]) (st1 := [.int (2 : Int32), .ref 2]) (σ1 := (S0, q4.2)) rfl ?_
    obtain ⟨q8, hq8, h⟩ := Option.bind_eq_some_iff.mp h
    refine am_AW.callV ok_Tape_drawCut am_nw_ok (As := [.int (2 : Int32)]) (rest := []) rfl rfl rfl oR_Tape_refuse lk_Tape_68 iM_Tape_refuse sE_Tape_refuse (qc := kq8) rfl rfl rfl rfl (Nat.le_of_ble_eq_true rfl) (f_Tape_refuse_ok (d := d) (by omega) (2 : Int32) hq8) ?_
    change am_AW am_nw ro (d + 1) mr_Tape_drawCut 42 [some (.ref 2), none, none, some (.int s0)] [.int q8.1] (S0, q8.2) (some (.int r)) (S0, m')
    by_cases g9 : q8.1 = (0 : Int32) ∨ q8.1 = (1 : Int32)
    rotate_left
    · rw [if_neg g9] at h
      cases h
    rw [if_pos g9] at h
    obtain ⟨rfl, rfl⟩ := Prod.mk.inj (Option.some.inj h)
    exact am_AW.ret ok_Tape_drawCut rfl rfl rfl (am_rokZ g9)
  · rw [if_neg c5] at h
    refine am_AW.run am_base_ok ok_Tape_drawCut (Nat.le_add_left 1 d) 8 (pc1 := 55) (ls1 := [some (.ref 2), none, none, some (.int s0)]) (st1 := [.int ((q4.2.1 3 3) ||| (am_shl (1 : Int32) s0)), .ref 3]) (σ1 := (S0, q4.2)) rfl ?_
    refine am_AW.puti ok_Tape_drawCut (Nat.le_add_left 1 d) rfl rfl rfl (qc := kq3) rfl (by decide) ty_3_3 ?_
    refine am_AW.run am_base_ok ok_Tape_drawCut (Nat.le_add_left 1 d) 1 (pc1 := 59) (ls1 := [some (.ref 2), none, none, some (.int s0)]) (st1 := [.int (1 : Int32)]) (σ1 := (S0, (am_pI q4.2 3 3 ((q4.2.1 3 3) ||| (am_shl (1 : Int32) s0))))) rfl ?_
    obtain ⟨rfl, rfl⟩ := Prod.mk.inj (Option.some.inj h)
    exact am_AW.ret ok_Tape_drawCut rfl rfl rfl (by decide)
set_option maxHeartbeats 4000000 in
set_option maxRecDepth 100000 in
theorem f_Tape_drawCut_ok {ro : am_Ro} {d : Nat} (hd : 3 ≤ d) (x1 : Int32) (x2 : Int32) {m m' : am_Mm} {r : Int32} (h : f_Tape_drawCut x1 x2 m = some (r, m')) : am_Mt am_nw ro d mr_Tape_drawCut [.ref 2, .int x1, .int x2] (S0, m) (some (.int r)) (S0, m') := by
  obtain ⟨d, rfl⟩ : ∃ d0, d = d0 + 1 := ⟨d - 1, by omega⟩
  refine am_Mt.of (by decide +kernel) (Nat.le_of_ble_eq_true rfl) ?_
  change am_AW am_nw ro (d + 1) mr_Tape_drawCut 0 [some (.ref 2), some (.int x1), some (.int x2), none] [] (S0, m) (some (.int r)) (S0, m')
  unfold f_Tape_drawCut at h
  refine am_AW.run am_base_ok ok_Tape_drawCut (Nat.le_add_left 1 d) 2 (pc1 := 2) (ls1 := [some (.ref 2), some (.int x1), some (.int x2), none]) (st1 := [.int x2, .int x1]) (σ1 := (S0, m)) rfl ?_
  refine am_AW.brP ok_Tape_drawCut rfl rfl am_c_ge (fun c1 => ?_) (fun c1 => ?_)
  · rw [if_pos c1] at h
    refine am_AW.run am_base_ok ok_Tape_drawCut (Nat.le_add_left 1 d) 1 (pc1 := 18) (ls1 := [some (.ref 2), some (.int x1), some (.int x2), none]) (st1 := [.int (-1 : Int32)]) (σ1 := (S0, m)) rfl ?_
    exact am_AW.weak (f_Tape_drawCut_b18_ok hd (-1 : Int32)  h) (by simp only [am_le, and_self])
  · rw [if_neg c1] at h
    refine am_AW.run am_base_ok ok_Tape_drawCut (Nat.le_add_left 1 d) 4 (pc1 := 11) (ls1 := [some (.ref 2), some (.int x1), some (.int x2), none]) (st1 := [.int x2, .int x1, .ref 6]) (σ1 := (S0, m)) rfl ?_
    obtain ⟨q12, hq12, h⟩ := Option.bind_eq_some_iff.mp h
    refine am_AW.callV ok_Tape_drawCut am_nw_ok (As := [.int x1, .int x2]) (rest := []) rfl rfl rfl oR_Ring_numberOf lk_Tape_92 iM_Ring_numberOf sE_Ring_numberOf (qc := kq6) rfl rfl rfl rfl (Nat.le_of_ble_eq_true rfl) (f_Ring_numberOf_ok (d := d) (by omega) 6 x1 x2 (by simp) hq12) ?_
    change am_AW am_nw ro (d + 1) mr_Tape_drawCut 14 [some (.ref 2), some (.int x1), some (.int x2), none] [.int q12.1] (S0, q12.2) (some (.int r)) (S0, m')
    refine am_AW.run am_base_ok ok_Tape_drawCut (Nat.le_add_left 1 d) 1 (pc1 := 18) (ls1 := [some (.ref 2), some (.int x1), some (.int x2), none]) (st1 := [.int q12.1]) (σ1 := (S0, q12.2)) rfl ?_
    exact am_AW.weak (f_Tape_drawCut_b18_ok hd q12.1  h) (by simp only [am_le, and_self])
/-! FriezePolygons$Tape.next()V -/
def f_Tape_next_b35 (m : am_Mm) : Option am_Mm :=
  some (am_pI m 2 7 (257 : Int32))
def f_Tape_next (m : am_Mm) : Option am_Mm :=
  if ((am_pI m 2 5 (m.1 2 6)).1 2 5) < (0 : Int32) then
    f_Tape_next_b35 (am_pI m 2 5 (m.1 2 6))
  else
    if ((am_pI m 2 5 (m.1 2 6)).1 2 3) ≤ ((am_pI m 2 5 (m.1 2 6)).1 2 5) then
      f_Tape_next_b35 (am_pI m 2 5 (m.1 2 6))
    else
      if ((am_pI m 2 5 (m.1 2 6)).1 2 5) < (120 : Int32) then
        if am_in ((am_pI (am_pI m 2 5 (m.1 2 6)) 2 6 (((am_pI m 2 5 (m.1 2 6)).1 2 5) + (1 : Int32))).1 2 5) 120 = true then
          (f_Tape_isFigure ((am_pI (am_pI m 2 5 (m.1 2 6)) 2 6 (((am_pI m 2 5 (m.1 2 6)).1 2 5) + (1 : Int32))).1 12 ((am_pI (am_pI m 2 5 (m.1 2 6)) 2 6 (((am_pI m 2 5 (m.1 2 6)).1 2 5) + (1 : Int32))).1 2 5).toNatClampNeg) (am_pI (am_pI m 2 5 (m.1 2 6)) 2 6 (((am_pI m 2 5 (m.1 2 6)).1 2 5) + (1 : Int32)))).bind fun q7 =>
          if q7.1 = (0 : Int32) then
            if am_in (q7.2.1 2 5) 120 = true then
              some (am_pI q7.2 2 7 (q7.2.1 12 (q7.2.1 2 5).toNatClampNeg))
            else none
          else
            (f_Tape_nextNumber q7.2).bind fun q12 =>
            some q12
        else none
      else
        f_Tape_next_b35 (am_pI m 2 5 (m.1 2 6))
set_option maxHeartbeats 4000000 in
set_option maxRecDepth 100000 in
theorem f_Tape_next_b35_ok {ro : am_Ro} {d : Nat} (hd : 3 ≤ d + 1) {m m' : am_Mm} (h : f_Tape_next_b35  m = some m') : am_AW am_nw ro (d + 1) mr_Tape_next 35 [some (.ref 2)] [] (S0, m) none (S0, m') := by
  unfold f_Tape_next_b35 at h
  refine am_AW.run am_base_ok ok_Tape_next (Nat.le_add_left 1 d) 2 (pc1 := 39) (ls1 := [some (.ref 2)]) (st1 := [.int (257 : Int32), .ref 2]) (σ1 := (S0, m)) rfl ?_
  refine am_AW.puti ok_Tape_next (Nat.le_add_left 1 d) rfl rfl rfl (qc := kq8) rfl (by decide) ty_8_7 ?_
  obtain rfl := Option.some.inj h
  exact am_AW.ret ok_Tape_next rfl rfl rfl rfl
set_option maxHeartbeats 4000000 in
set_option maxRecDepth 100000 in
theorem f_Tape_next_ok {ro : am_Ro} {d : Nat} (hd : 3 ≤ d) {m m' : am_Mm} (h : f_Tape_next  m = some m') : am_Mt am_nw ro d mr_Tape_next [.ref 2] (S0, m) none (S0, m') := by
  obtain ⟨d, rfl⟩ : ∃ d0, d = d0 + 1 := ⟨d - 1, by omega⟩
  refine am_Mt.of (by decide +kernel) (Nat.le_of_ble_eq_true rfl) ?_
  change am_AW am_nw ro (d + 1) mr_Tape_next 0 [some (.ref 2)] [] (S0, m) none (S0, m')
  unfold f_Tape_next at h
  refine am_AW.run am_base_ok ok_Tape_next (Nat.le_add_left 1 d) 3 (pc1 := 5) (ls1 := [some (.ref 2)]) (st1 := [.int (m.1 2 6), .ref 2]) (σ1 := (S0, m)) rfl ?_
  refine am_AW.puti ok_Tape_next (Nat.le_add_left 1 d) rfl rfl rfl (qc := kq8) rfl (by decide) ty_8_5 ?_
  refine am_AW.run am_base_ok ok_Tape_next (Nat.le_add_left 1 d) 2 (pc1 := 12) (ls1 := [some (.ref 2)]) (st1 := [.int ((am_pI m 2 5 (m.1 2 6)).1 2 5)]) (σ1 := (S0, (am_pI m 2 5 (m.1 2 6)))) rfl ?_
  refine am_AW.brP ok_Tape_next rfl rfl am_c_lt (fun c1 => ?_) (fun c1 => ?_)
  · rw [if_pos c1] at h
    exact am_AW.weak (f_Tape_next_b35_ok hd   h) (by simp only [am_le, and_self])
  · rw [if_neg c1] at h
    refine am_AW.run am_base_ok ok_Tape_next (Nat.le_add_left 1 d) 4 (pc1 := 23) (ls1 := [some (.ref 2)]) (st1 := [.int ((am_pI m 2 5 (m.1 2 6)).1 2 3), .int ((am_pI m 2 5 (m.1 2 6)).1 2 5)]) (σ1 := (S0, (am_pI m 2 5 (m.1 2 6)))) rfl ?_
    refine am_AW.brP ok_Tape_next rfl rfl am_c_ge (fun c2 => ?_) (fun c2 => ?_)
    · rw [if_pos c2] at h
      exact am_AW.weak (f_Tape_next_b35_ok hd   h) (by simp only [am_le, and_self])
    · rw [if_neg c2] at h
      refine am_AW.run am_base_ok ok_Tape_next (Nat.le_add_left 1 d) 3 (pc1 := 32) (ls1 := [some (.ref 2)]) (st1 := [.int (120 : Int32), .int ((am_pI m 2 5 (m.1 2 6)).1 2 5)]) (σ1 := (S0, (am_pI m 2 5 (m.1 2 6)))) rfl ?_
      refine am_AW.brP ok_Tape_next rfl rfl am_c_lt (fun c3 => ?_) (fun c3 => ?_)
      · rw [if_pos c3] at h
        refine am_AW.run am_base_ok ok_Tape_next (Nat.le_add_left 1 d) 5 (pc1 := 50) (ls1 := [some (.ref 2)]) (st1 := [.int (((am_pI m 2 5 (m.1 2 6)).1 2 5) + (1 : Int32)), .ref 2]) (σ1 := (S0, (am_pI m 2 5 (m.1 2 6)))) rfl ?_
        refine am_AW.puti ok_Tape_next (Nat.le_add_left 1 d) rfl rfl rfl (qc := kq8) rfl (by decide) ty_8_6 ?_
        refine am_AW.run am_base_ok ok_Tape_next (Nat.le_add_left 1 d) 4 (pc1 := 61) (ls1 := [some (.ref 2)]) (st1 := [.int ((am_pI (am_pI m 2 5 (m.1 2 6)) 2 6 (((am_pI m 2 5 (m.1 2 6)).1 2 5) + (1 : Int32))).1 2 5), .ref 12]) (σ1 := (S0, (am_pI (am_pI m 2 5 (m.1 2 6)) 2 6 (((am_pI m 2 5 (m.1 2 6)).1 2 5) + (1 : Int32))))) rfl ?_
        by_cases g4 : am_in ((am_pI (am_pI m 2 5 (m.1 2 6)) 2 6 (((am_pI m 2 5 (m.1 2 6)).1 2 5) + (1 : Int32))).1 2 5) 120 = true
        rotate_left
        · rw [if_neg g4] at h
          cases h
        rw [if_pos g4] at h
        refine am_AW.iald ok_Tape_next (Nat.le_add_left 1 d) S0_len rfl rfl g4 ?_
        obtain ⟨q7, hq7, h⟩ := Option.bind_eq_some_iff.mp h
        refine am_AW.callS ok_Tape_next am_nw_ok (As := [.int ((am_pI (am_pI m 2 5 (m.1 2 6)) 2 6 (((am_pI m 2 5 (m.1 2 6)).1 2 5) + (1 : Int32))).1 12 ((am_pI (am_pI m 2 5 (m.1 2 6)) 2 6 (((am_pI m 2 5 (m.1 2 6)).1 2 5) + (1 : Int32))).1 2 5).toNatClampNeg)]) (rest := []) rfl rfl rfl oR_Tape_isFigure lk_Tape_99 sT_Tape_isFigure rfl (Nat.le_of_ble_eq_true rfl) (f_Tape_isFigure_ok (d := d) (by omega) ((am_pI (am_pI m 2 5 (m.1 2 6)) 2 6 (((am_pI m 2 5 (m.1 2 6)).1 2 5) + (1 : Int32))).1 12 ((am_pI (am_pI m 2 5 (m.1 2 6)) 2 6 (((am_pI m 2 5 (m.1 2 6)).1 2 5) + (1 : Int32))).1 2 5).toNatClampNeg) hq7) ?_
        change am_AW am_nw ro (d + 1) mr_Tape_next 65 [some (.ref 2)] [.int q7.1] (S0, q7.2) none (S0, m')
        refine am_AW.brP ok_Tape_next rfl rfl am_c_eq (fun c8 => ?_) (fun c8 => ?_)
        · rw [if_pos c8] at h
          refine am_AW.run am_base_ok ok_Tape_next (Nat.le_add_left 1 d) 5 (pc1 := 84) (ls1 := [some (.ref 2)]) (st1 := [.int (q7.2.1 2 5), .ref 12, .ref 2]) (σ1 := (S0, q7.2)) rfl ?_
          by_cases g9 : am_in (q7.2.1 2 5) 120 = true
          rotate_left
          · rw [if_neg g9] at h
            cases h
          rw [if_pos g9] at h
          refine am_AW.iald ok_Tape_next (Nat.le_add_left 1 d) S0_len rfl rfl g9 ?_
          refine am_AW.puti ok_Tape_next (Nat.le_add_left 1 d) rfl rfl rfl (qc := kq8) rfl (by decide) ty_8_7 ?_
          obtain rfl := Option.some.inj h
          exact am_AW.ret ok_Tape_next rfl rfl rfl rfl
        · rw [if_neg c8] at h
          refine am_AW.run am_base_ok ok_Tape_next (Nat.le_add_left 1 d) 1 (pc1 := 69) (ls1 := [some (.ref 2)]) (st1 := [.ref 2]) (σ1 := (S0, q7.2)) rfl ?_
          obtain ⟨q12, hq12, h⟩ := Option.bind_eq_some_iff.mp h
          refine am_AW.callV ok_Tape_next am_nw_ok (As := []) (rest := []) rfl rfl rfl oR_Tape_nextNumber lk_Tape_102 iM_Tape_nextNumber sE_Tape_nextNumber (qc := kq8) rfl rfl rfl rfl (Nat.le_of_ble_eq_true rfl) (f_Tape_nextNumber_ok (d := d) (by omega)  hq12) ?_
          change am_AW am_nw ro (d + 1) mr_Tape_next 72 [some (.ref 2)] [] (S0, q12) none (S0, m')
          refine am_AW.run am_base_ok ok_Tape_next (Nat.le_add_left 1 d) 1 (pc1 := 88) (ls1 := [some (.ref 2)]) (st1 := []) (σ1 := (S0, q12)) rfl ?_
          obtain rfl := Option.some.inj h
          exact am_AW.ret ok_Tape_next rfl rfl rfl rfl
      · rw [if_neg c3] at h
        exact am_AW.weak (f_Tape_next_b35_ok hd   h) (by simp only [am_le, and_self])
/-! FriezePolygons.row(III)I -/
def f_C_row (x1 : Int32) (x2 : Int32) (x3 : Int32) (m : am_Mm) : Option (Int32 × am_Mm) :=
  (f_C_isRow x1 m).bind fun q3 =>
  if q3.1 = (0 : Int32) then
    some ((-1000001 : Int32), q3.2)
  else
    if x2 < (0 : Int32) then
      some ((-1000001 : Int32), q3.2)
    else
      if (3 : Int32) ≤ x2 then
        some ((-1000001 : Int32), q3.2)
      else
        if x3 ≤ (40 : Int32) then
          if (0 : Int32) ≤ x3 then
            if am_in x1 8 = true then
              (f_Row_make (am_rw x1) x2 x3 q3.2).bind fun q12 =>
              (f_C_fine x3 q12).bind fun q15 =>
              some (q15.1, q15.2)
            else none
          else
            (f_C_found (4 : Int32) q3.2).bind fun q18 =>
            some (q18.1, q18.2)
        else
          some ((-1000001 : Int32), q3.2)
set_option maxHeartbeats 4000000 in
set_option maxRecDepth 100000 in
theorem f_C_row_ok {ro : am_Ro} {d : Nat} (hd : 3 ≤ d) (x1 : Int32) (x2 : Int32) (x3 : Int32) {m m' : am_Mm} {r : Int32} (h : f_C_row x1 x2 x3 m = some (r, m')) : am_Mt am_nw ro d mr_C_row [.ref 0, .int x1, .int x2, .int x3] (S0, m) (some (.int r)) (S0, m') := by
  obtain ⟨d, rfl⟩ : ∃ d0, d = d0 + 1 := ⟨d - 1, by omega⟩
  refine am_Mt.of (by decide +kernel) (Nat.le_of_ble_eq_true rfl) ?_
  change am_AW am_nw ro (d + 1) mr_C_row 0 [some (.ref 0), some (.int x1), some (.int x2), some (.int x3)] [] (S0, m) (some (.int r)) (S0, m')
  unfold f_C_row at h
  refine am_AW.run am_base_ok ok_C_row (Nat.le_add_left 1 d) 1 (pc1 := 1) (ls1 := [some (.ref 0), some (.int x1), some (.int x2), some (.int x3)]) (st1 := [.int x1]) (σ1 := (S0, m)) rfl ?_
  obtain ⟨q3, hq3, h⟩ := Option.bind_eq_some_iff.mp h
  refine am_AW.callS ok_C_row am_nw_ok (As := [.int x1]) (rest := []) rfl rfl rfl oR_C_isRow lk_C_87 sT_C_isRow rfl (Nat.le_of_ble_eq_true rfl) (f_C_isRow_ok (d := d) (by omega) x1 hq3) ?_
  change am_AW am_nw ro (d + 1) mr_C_row 4 [some (.ref 0), some (.int x1), some (.int x2), some (.int x3)] [.int q3.1] (S0, q3.2) (some (.int r)) (S0, m')
  refine am_AW.brP ok_C_row rfl rfl am_c_eq (fun c4 => ?_) (fun c4 => ?_)
  · rw [if_pos c4] at h
    refine am_AW.run am_base_ok ok_C_row (Nat.le_add_left 1 d) 1 (pc1 := 24) (ls1 := [some (.ref 0), some (.int x1), some (.int x2), some (.int x3)]) (st1 := [.int (-1000001 : Int32)]) (σ1 := (S0, q3.2)) rfl ?_
    obtain ⟨rfl, rfl⟩ := Prod.mk.inj (Option.some.inj h)
    exact am_AW.ret ok_C_row rfl rfl rfl rfl
  · rw [if_neg c4] at h
    refine am_AW.run am_base_ok ok_C_row (Nat.le_add_left 1 d) 1 (pc1 := 8) (ls1 := [some (.ref 0), some (.int x1), some (.int x2), some (.int x3)]) (st1 := [.int x2]) (σ1 := (S0, q3.2)) rfl ?_
    refine am_AW.brP ok_C_row rfl rfl am_c_lt (fun c5 => ?_) (fun c5 => ?_)
    · rw [if_pos c5] at h
      refine am_AW.run am_base_ok ok_C_row (Nat.le_add_left 1 d) 1 (pc1 := 24) (ls1 := [some (.ref 0), some (.int x1), some (.int x2), some (.int x3)]) (st1 := [.int (-1000001 : Int32)]) (σ1 := (S0, q3.2)) rfl ?_
      obtain ⟨rfl, rfl⟩ := Prod.mk.inj (Option.some.inj h)
      exact am_AW.ret ok_C_row rfl rfl rfl rfl
    · rw [if_neg c5] at h
      refine am_AW.run am_base_ok ok_C_row (Nat.le_add_left 1 d) 2 (pc1 := 13) (ls1 := [some (.ref 0), some (.int x1), some (.int x2), some (.int x3)]) (st1 := [.int (3 : Int32), .int x2]) (σ1 := (S0, q3.2)) rfl ?_
      refine am_AW.brP ok_C_row rfl rfl am_c_ge (fun c6 => ?_) (fun c6 => ?_)
      · rw [if_pos c6] at h
        refine am_AW.run am_base_ok ok_C_row (Nat.le_add_left 1 d) 1 (pc1 := 24) (ls1 := [some (.ref 0), some (.int x1), some (.int x2), some (.int x3)]) (st1 := [.int (-1000001 : Int32)]) (σ1 := (S0, q3.2)) rfl ?_
        obtain ⟨rfl, rfl⟩ := Prod.mk.inj (Option.some.inj h)
        exact am_AW.ret ok_C_row rfl rfl rfl rfl
      · rw [if_neg c6] at h
        refine am_AW.run am_base_ok ok_C_row (Nat.le_add_left 1 d) 2 (pc1 := 19) (ls1 := [some (.ref 0), some (.int x1), some (.int x2), some (.int x3)]) (st1 := [.int (40 : Int32), .int x3]) (σ1 := (S0, q3.2)) rfl ?_
        refine am_AW.brP ok_C_row rfl rfl am_c_le (fun c7 => ?_) (fun c7 => ?_)
        · rw [if_pos c7] at h
          refine am_AW.run am_base_ok ok_C_row (Nat.le_add_left 1 d) 1 (pc1 := 26) (ls1 := [some (.ref 0), some (.int x1), some (.int x2), some (.int x3)]) (st1 := [.int x3]) (σ1 := (S0, q3.2)) rfl ?_
          refine am_AW.brP ok_C_row rfl rfl am_c_ge (fun c8 => ?_) (fun c8 => ?_)
          · rw [if_pos c8] at h
            refine am_AW.run am_base_ok ok_C_row (Nat.le_add_left 1 d) 3 (pc1 := 40) (ls1 := [some (.ref 0), some (.int x1), some (.int x2), some (.int x3)]) (st1 := [.int x1, .ref 1]) (σ1 := (S0, q3.2)) rfl ?_
            by_cases g9 : am_in x1 8 = true
            rotate_left
            · rw [if_neg g9] at h
              cases h
            rw [if_pos g9] at h
            refine am_AW.aald ok_C_row (Nat.le_add_left 1 d) rfl (am_rw_at g9) ?_
            refine am_AW.run am_base_ok ok_C_row (Nat.le_add_left 1 d) 2 (pc1 := 43) (ls1 := [some (.ref 0), some (.int x1), some (.int x2), some (.int x3)]) (st1 := [.int x3, .int x2, .ref (am_rw x1)]) (σ1 := (S0, q3.2)) rfl ?_
            obtain ⟨q12, hq12, h⟩ := Option.bind_eq_some_iff.mp h
            refine am_AW.callV ok_C_row am_nw_ok (As := [.int x2, .int x3]) (rest := []) rfl rfl rfl oR_Row_make lk_C_96 iM_Row_make sE_Row_make (qc := kq7) (sh_41_43_45_47_49_51_53_55_0 (am_rw_in g9)) rfl rfl rfl (Nat.le_of_ble_eq_true rfl) (f_Row_make_ok (d := d) (by omega) (am_rw x1) x2 x3 (am_rw_in g9) hq12) ?_
            change am_AW am_nw ro (d + 1) mr_C_row 46 [some (.ref 0), some (.int x1), some (.int x2), some (.int x3)] [] (S0, q12) (some (.int r)) (S0, m')
            refine am_AW.run am_base_ok ok_C_row (Nat.le_add_left 1 d) 2 (pc1 := 48) (ls1 := [some (.ref 0), some (.int x1), some (.int x2), some (.int x3)]) (st1 := [.int x3, .ref 0]) (σ1 := (S0, q12)) rfl ?_
            obtain ⟨q15, hq15, h⟩ := Option.bind_eq_some_iff.mp h
            refine am_AW.callV ok_C_row am_nw_ok (As := [.int x3]) (rest := []) rfl rfl rfl oR_C_fine lk_C_100 iM_C_fine sE_C_fine (qc := kq9) rfl rfl rfl rfl (Nat.le_of_ble_eq_true rfl) (f_C_fine_ok (d := d) (by omega) x3 hq15) ?_
            change am_AW am_nw ro (d + 1) mr_C_row 51 [some (.ref 0), some (.int x1), some (.int x2), some (.int x3)] [.int q15.1] (S0, q15.2) (some (.int r)) (S0, m')
            obtain ⟨rfl, rfl⟩ := Prod.mk.inj (Option.some.inj h)
            exact am_AW.ret ok_C_row rfl rfl rfl rfl
          · rw [if_neg c8] at h
            refine am_AW.run am_base_ok ok_C_row (Nat.le_add_left 1 d) 2 (pc1 := 31) (ls1 := [some (.ref 0), some (.int x1), some (.int x2), some (.int x3)]) (st1 := [.int (4 : Int32), .ref 0]) (σ1 := (S0, q3.2)) rfl ?_
            obtain ⟨q18, hq18, h⟩ := Option.bind_eq_some_iff.mp h
            refine am_AW.callV ok_C_row am_nw_ok (As := [.int (4 : Int32)]) (rest := []) rfl rfl rfl oR_C_found lk_C_92 iM_C_found sE_C_found (qc := kq9) rfl rfl rfl rfl (Nat.le_of_ble_eq_true rfl) (f_C_found_ok (d := d) (by omega) (4 : Int32) hq18) ?_
            change am_AW am_nw ro (d + 1) mr_C_row 34 [some (.ref 0), some (.int x1), some (.int x2), some (.int x3)] [.int q18.1] (S0, q18.2) (some (.int r)) (S0, m')
            obtain ⟨rfl, rfl⟩ := Prod.mk.inj (Option.some.inj h)
            exact am_AW.ret ok_C_row rfl rfl rfl rfl
        · rw [if_neg c7] at h
          refine am_AW.run am_base_ok ok_C_row (Nat.le_add_left 1 d) 1 (pc1 := 24) (ls1 := [some (.ref 0), some (.int x1), some (.int x2), some (.int x3)]) (st1 := [.int (-1000001 : Int32)]) (σ1 := (S0, q3.2)) rfl ?_
          obtain ⟨rfl, rfl⟩ := Prod.mk.inj (Option.some.inj h)
          exact am_AW.ret ok_C_row rfl rfl rfl rfl
/-! FriezePolygons.set(III)I -/
def f_C_set (x1 : Int32) (x2 : Int32) (x3 : Int32) (m : am_Mm) : Option (Int32 × am_Mm) :=
  (f_C_isRow x1 m).bind fun q3 =>
  if q3.1 = (0 : Int32) then
    some ((-1000001 : Int32), q3.2)
  else
    (f_C_troubleOf x1 x2 (1 : Int32) q3.2).bind fun q7 =>
    if q7.1 = (0 : Int32) then
      if am_in x1 8 = true then
        (f_Row_put (am_rw x1) x2 x3 q7.2).bind fun q12 =>
        (f_C_fine q12.1 q12.2).bind fun q15 =>
        some (q15.1, q15.2)
      else none
    else
      (f_C_found q7.1 q7.2).bind fun q18 =>
      some (q18.1, q18.2)
set_option maxHeartbeats 4000000 in
set_option maxRecDepth 100000 in
theorem f_C_set_ok {ro : am_Ro} {d : Nat} (hd : 3 ≤ d) (x1 : Int32) (x2 : Int32) (x3 : Int32) {m m' : am_Mm} {r : Int32} (h : f_C_set x1 x2 x3 m = some (r, m')) : am_Mt am_nw ro d mr_C_set [.ref 0, .int x1, .int x2, .int x3] (S0, m) (some (.int r)) (S0, m') := by
  obtain ⟨d, rfl⟩ : ∃ d0, d = d0 + 1 := ⟨d - 1, by omega⟩
  refine am_Mt.of (by decide +kernel) (Nat.le_of_ble_eq_true rfl) ?_
  change am_AW am_nw ro (d + 1) mr_C_set 0 [some (.ref 0), some (.int x1), some (.int x2), some (.int x3), none] [] (S0, m) (some (.int r)) (S0, m')
  unfold f_C_set at h
  refine am_AW.run am_base_ok ok_C_set (Nat.le_add_left 1 d) 1 (pc1 := 1) (ls1 := [some (.ref 0), some (.int x1), some (.int x2), some (.int x3), none]) (st1 := [.int x1]) (σ1 := (S0, m)) rfl ?_
  obtain ⟨q3, hq3, h⟩ := Option.bind_eq_some_iff.mp h
  refine am_AW.callS ok_C_set am_nw_ok (As := [.int x1]) (rest := []) rfl rfl rfl oR_C_isRow lk_C_87 sT_C_isRow rfl (Nat.le_of_ble_eq_true rfl) (f_C_isRow_ok (d := d) (by omega) x1 hq3) ?_
  change am_AW am_nw ro (d + 1) mr_C_set 4 [some (.ref 0), some (.int x1), some (.int x2), some (.int x3), none] [.int q3.1] (S0, q3.2) (some (.int r)) (S0, m')
  refine am_AW.brN ok_C_set rfl rfl am_c_ne (fun c4 => ?_) (fun c4 => ?_)
  · rw [if_pos c4] at h
    refine am_AW.run am_base_ok ok_C_set (Nat.le_add_left 1 d) 1 (pc1 := 9) (ls1 := [some (.ref 0), some (.int x1), some (.int x2), some (.int x3), none]) (st1 := [.int (-1000001 : Int32)]) (σ1 := (S0, q3.2)) rfl ?_
    obtain ⟨rfl, rfl⟩ := Prod.mk.inj (Option.some.inj h)
    exact am_AW.ret ok_C_set rfl rfl rfl rfl
  · rw [if_neg c4] at h
    refine am_AW.run am_base_ok ok_C_set (Nat.le_add_left 1 d) 4 (pc1 := 14) (ls1 := [some (.ref 0), some (.int x1), some (.int x2), some (.int x3), none]) (st1 := [.int (1 : Int32), .int x2, .int x1, .ref 0]) (σ1 := (S0, q3.2)) rfl ?_
    obtain ⟨q7, hq7, h⟩ := Option.bind_eq_some_iff.mp h
    refine am_AW.callV ok_C_set am_nw_ok (As := [.int x1, .int x2, .int (1 : Int32)]) (rest := []) rfl rfl rfl oR_C_troubleOf lk_C_103 iM_C_troubleOf sE_C_troubleOf (qc := kq9) rfl rfl rfl rfl (Nat.le_of_ble_eq_true rfl) (f_C_troubleOf_ok (d := d) (by omega) x1 x2 (1 : Int32) hq7) ?_
    change am_AW am_nw ro (d + 1) mr_C_set 17 [some (.ref 0), some (.int x1), some (.int x2), some (.int x3), none] [.int q7.1] (S0, q7.2) (some (.int r)) (S0, m')
    refine am_AW.run am_base_ok ok_C_set (Nat.le_add_left 1 d) 2 (pc1 := 21) (ls1 := [some (.ref 0), some (.int x1), some (.int x2), some (.int x3), some (.int q7.1)]) (st1 := [.int q7.1]) (σ1 := (S0, q7.2)) rfl ?_
    refine am_AW.brP ok_C_set rfl rfl am_c_eq (fun c8 => ?_) (fun c8 => ?_)
    · rw [if_pos c8] at h
      refine am_AW.run am_base_ok ok_C_set (Nat.le_add_left 1 d) 4 (pc1 := 37) (ls1 := [some (.ref 0), some (.int x1), some (.int x2), some (.int x3), some (.int q7.1)]) (st1 := [.int x1, .ref 1, .ref 0]) (σ1 := (S0, q7.2)) rfl ?_
      by_cases g9 : am_in x1 8 = true
      rotate_left
      · rw [if_neg g9] at h
        cases h
      rw [if_pos g9] at h
      refine am_AW.aald ok_C_set (Nat.le_add_left 1 d) rfl (am_rw_at g9) ?_
      refine am_AW.run am_base_ok ok_C_set (Nat.le_add_left 1 d) 2 (pc1 := 40) (ls1 := [some (.ref 0), some (.int x1), some (.int x2), some (.int x3), some (.int q7.1)]) (st1 := [.int x3, .int x2, .ref (am_rw x1), .ref 0]) (σ1 := (S0, q7.2)) rfl ?_
      obtain ⟨q12, hq12, h⟩ := Option.bind_eq_some_iff.mp h
      refine am_AW.callV ok_C_set am_nw_ok (As := [.int x2, .int x3]) (rest := [.ref 0]) rfl rfl rfl oR_Row_put lk_C_107 iM_Row_put sE_Row_put (qc := kq7) (sh_41_43_45_47_49_51_53_55_0 (am_rw_in g9)) rfl rfl rfl (Nat.le_of_ble_eq_true rfl) (f_Row_put_ok (d := d) (by omega) (am_rw x1) x2 x3 (am_rw_in g9) hq12) ?_
      change am_AW am_nw ro (d + 1) mr_C_set 43 [some (.ref 0), some (.int x1), some (.int x2), some (.int x3), some (.int q7.1)] [.int q12.1, .ref 0] (S0, q12.2) (some (.int r)) (S0, m')
      obtain ⟨q15, hq15, h⟩ := Option.bind_eq_some_iff.mp h
      refine am_AW.callV ok_C_set am_nw_ok (As := [.int q12.1]) (rest := []) rfl rfl rfl oR_C_fine lk_C_100 iM_C_fine sE_C_fine (qc := kq9) rfl rfl rfl rfl (Nat.le_of_ble_eq_true rfl) (f_C_fine_ok (d := d) (by omega) q12.1 hq15) ?_
      change am_AW am_nw ro (d + 1) mr_C_set 46 [some (.ref 0), some (.int x1), some (.int x2), some (.int x3), some (.int q7.1)] [.int q15.1] (S0, q15.2) (some (.int r)) (S0, m')
      obtain ⟨rfl, rfl⟩ := Prod.mk.inj (Option.some.inj h)
      exact am_AW.ret ok_C_set rfl rfl rfl rfl
    · rw [if_neg c8] at h
      refine am_AW.run am_base_ok ok_C_set (Nat.le_add_left 1 d) 2 (pc1 := 27) (ls1 := [some (.ref 0), some (.int x1), some (.int x2), some (.int x3), some (.int q7.1)]) (st1 := [.int q7.1, .ref 0]) (σ1 := (S0, q7.2)) rfl ?_
      obtain ⟨q18, hq18, h⟩ := Option.bind_eq_some_iff.mp h
      refine am_AW.callV ok_C_set am_nw_ok (As := [.int q7.1]) (rest := []) rfl rfl rfl oR_C_found lk_C_92 iM_C_found sE_C_found (qc := kq9) rfl rfl rfl rfl (Nat.le_of_ble_eq_true rfl) (f_C_found_ok (d := d) (by omega) q7.1 hq18) ?_
      change am_AW am_nw ro (d + 1) mr_C_set 30 [some (.ref 0), some (.int x1), some (.int x2), some (.int x3), some (.int q7.1)] [.int q18.1] (S0, q18.2) (some (.int r)) (S0, m')
      obtain ⟨rfl, rfl⟩ := Prod.mk.inj (Option.some.inj h)
      exact am_AW.ret ok_C_set rfl rfl rfl rfl
/-! FriezePolygons.become(II)I -/
def f_C_become (x1 : Int32) (x2 : Int32) (m : am_Mm) : Option (Int32 × am_Mm) :=
  (f_C_isCorner x1 m).bind fun q3 =>
  if q3.1 = (0 : Int32) then
    some ((-1000001 : Int32), q3.2)
  else
    if x2 < (1 : Int32) then
      some ((-1000001 : Int32), q3.2)
    else
      if x2 ≤ (5 : Int32) then
        if am_in x1 9 = true then
          if (q3.2.1 14 x1.toNatClampNeg) = x2 then
            some ((-1000002 : Int32), q3.2)
          else
            (f_Acts_keep (1 : Int32) x1 (q3.2.1 14 x1.toNatClampNeg) q3.2).bind fun q11 =>
            if am_in x1 9 = true then
              some ((q3.2.1 14 x1.toNatClampNeg), (am_pI q11 14 x1.toNatClampNeg x2))
            else none
        else none
      else
        some ((-1000001 : Int32), q3.2)
set_option maxHeartbeats 4000000 in
set_option maxRecDepth 100000 in
theorem f_C_become_ok {ro : am_Ro} {d : Nat} (hd : 3 ≤ d) (x1 : Int32) (x2 : Int32) {m m' : am_Mm} {r : Int32} (h : f_C_become x1 x2 m = some (r, m')) : am_Mt am_nw ro d mr_C_become [.ref 0, .int x1, .int x2] (S0, m) (some (.int r)) (S0, m') := by
  obtain ⟨d, rfl⟩ : ∃ d0, d = d0 + 1 := ⟨d - 1, by omega⟩
  refine am_Mt.of (by decide +kernel) (Nat.le_of_ble_eq_true rfl) ?_
  change am_AW am_nw ro (d + 1) mr_C_become 0 [some (.ref 0), some (.int x1), some (.int x2), none] [] (S0, m) (some (.int r)) (S0, m')
  unfold f_C_become at h
  refine am_AW.run am_base_ok ok_C_become (Nat.le_add_left 1 d) 2 (pc1 := 2) (ls1 := [some (.ref 0), some (.int x1), some (.int x2), none]) (st1 := [.int x1, .ref 0]) (σ1 := (S0, m)) rfl ?_
  obtain ⟨q3, hq3, h⟩ := Option.bind_eq_some_iff.mp h
  refine am_AW.callV ok_C_become am_nw_ok (As := [.int x1]) (rest := []) rfl rfl rfl oR_C_isCorner lk_C_201 iM_C_isCorner sE_C_isCorner (qc := kq9) rfl rfl rfl rfl (Nat.le_of_ble_eq_true rfl) (f_C_isCorner_ok (d := d) (by omega) x1 hq3) ?_
  change am_AW am_nw ro (d + 1) mr_C_become 5 [some (.ref 0), some (.int x1), some (.int x2), none] [.int q3.1] (S0, q3.2) (some (.int r)) (S0, m')
  refine am_AW.brP ok_C_become rfl rfl am_c_eq (fun c4 => ?_) (fun c4 => ?_)
  · rw [if_pos c4] at h
    refine am_AW.run am_base_ok ok_C_become (Nat.le_add_left 1 d) 1 (pc1 := 20) (ls1 := [some (.ref 0), some (.int x1), some (.int x2), none]) (st1 := [.int (-1000001 : Int32)]) (σ1 := (S0, q3.2)) rfl ?_
    obtain ⟨rfl, rfl⟩ := Prod.mk.inj (Option.some.inj h)
    exact am_AW.ret ok_C_become rfl rfl rfl rfl
  · rw [if_neg c4] at h
    refine am_AW.run am_base_ok ok_C_become (Nat.le_add_left 1 d) 2 (pc1 := 10) (ls1 := [some (.ref 0), some (.int x1), some (.int x2), none]) (st1 := [.int (1 : Int32), .int x2]) (σ1 := (S0, q3.2)) rfl ?_
    refine am_AW.brP ok_C_become rfl rfl am_c_lt (fun c5 => ?_) (fun c5 => ?_)
    · rw [if_pos c5] at h
      refine am_AW.run am_base_ok ok_C_become (Nat.le_add_left 1 d) 1 (pc1 := 20) (ls1 := [some (.ref 0), some (.int x1), some (.int x2), none]) (st1 := [.int (-1000001 : Int32)]) (σ1 := (S0, q3.2)) rfl ?_
      obtain ⟨rfl, rfl⟩ := Prod.mk.inj (Option.some.inj h)
      exact am_AW.ret ok_C_become rfl rfl rfl rfl
    · rw [if_neg c5] at h
      refine am_AW.run am_base_ok ok_C_become (Nat.le_add_left 1 d) 2 (pc1 := 15) (ls1 := [some (.ref 0), some (.int x1), some (.int x2), none]) (st1 := [.int (5 : Int32), .int x2]) (σ1 := (S0, q3.2)) rfl ?_
      refine am_AW.brP ok_C_become rfl rfl am_c_le (fun c6 => ?_) (fun c6 => ?_)
      · rw [if_pos c6] at h
        refine am_AW.run am_base_ok ok_C_become (Nat.le_add_left 1 d) 4 (pc1 := 29) (ls1 := [some (.ref 0), some (.int x1), some (.int x2), none]) (st1 := [.int x1, .ref 14]) (σ1 := (S0, q3.2)) rfl ?_
        by_cases g7 : am_in x1 9 = true
        rotate_left
        · rw [if_neg g7] at h
          cases h
        rw [if_pos g7] at h
        refine am_AW.iald ok_C_become (Nat.le_add_left 1 d) S0_len rfl rfl g7 ?_
        refine am_AW.run am_base_ok ok_C_become (Nat.le_add_left 1 d) 3 (pc1 := 33) (ls1 := [some (.ref 0), some (.int x1), some (.int x2), some (.int (q3.2.1 14 x1.toNatClampNeg))]) (st1 := [.int x2, .int (q3.2.1 14 x1.toNatClampNeg)]) (σ1 := (S0, q3.2)) rfl ?_
        refine am_AW.brN ok_C_become rfl rfl am_c_ne (fun c8 => ?_) (fun c8 => ?_)
        · rw [if_pos c8] at h
          refine am_AW.run am_base_ok ok_C_become (Nat.le_add_left 1 d) 1 (pc1 := 38) (ls1 := [some (.ref 0), some (.int x1), some (.int x2), some (.int (q3.2.1 14 x1.toNatClampNeg))]) (st1 := [.int (-1000002 : Int32)]) (σ1 := (S0, q3.2)) rfl ?_
          obtain ⟨rfl, rfl⟩ := Prod.mk.inj (Option.some.inj h)
          exact am_AW.ret ok_C_become rfl rfl rfl rfl
        · rw [if_neg c8] at h
          refine am_AW.run am_base_ok ok_C_become (Nat.le_add_left 1 d) 5 (pc1 := 46) (ls1 := [some (.ref 0), some (.int x1), some (.int x2), some (.int (q3.2.1 14 x1.toNatClampNeg))]) (st1 := [.int (q3.2.1 14 x1.toNatClampNeg), .int x1, .int (1 : Int32), .ref 26]) (σ1 := (S0, q3.2)) rfl ?_
          obtain ⟨q11, hq11, h⟩ := Option.bind_eq_some_iff.mp h
          refine am_AW.callV ok_C_become am_nw_ok (As := [.int (1 : Int32), .int x1, .int (q3.2.1 14 x1.toNatClampNeg)]) (rest := []) rfl rfl rfl oR_Acts_keep lk_C_207 iM_Acts_keep sE_Acts_keep (qc := kq0) rfl rfl rfl rfl (Nat.le_of_ble_eq_true rfl) (f_Acts_keep_ok (d := d) (by omega) (1 : Int32) x1 (q3.2.1 14 x1.toNatClampNeg) hq11) ?_
          change am_AW am_nw ro (d + 1) mr_C_become 49 [some (.ref 0), some (.int x1), some (.int x2), some (.int (q3.2.1 14 x1.toNatClampNeg))] [] (S0, q11) (some (.int r)) (S0, m')
          refine am_AW.run am_base_ok ok_C_become (Nat.le_add_left 1 d) 5 (pc1 := 58) (ls1 := [some (.ref 0), some (.int x1), some (.int x2), some (.int (q3.2.1 14 x1.toNatClampNeg))]) (st1 := [.int x2, .int x1, .ref 14]) (σ1 := (S0, q11)) rfl ?_
          by_cases g12 : am_in x1 9 = true
          rotate_left
          · rw [if_neg g12] at h
            cases h
          rw [if_pos g12] at h
          refine am_AW.iast ok_C_become (Nat.le_add_left 1 d) rfl rfl g12 ?_
          change am_AW am_nw ro (d + 1) mr_C_become 59 [some (.ref 0), some (.int x1), some (.int x2), some (.int (q3.2.1 14 x1.toNatClampNeg))] [] (S0, (am_pI q11 14 x1.toNatClampNeg x2)) (some (.int r)) (S0, m')
          refine am_AW.run am_base_ok ok_C_become (Nat.le_add_left 1 d) 1 (pc1 := 60) (ls1 := [some (.ref 0), some (.int x1), some (.int x2), some (.int (q3.2.1 14 x1.toNatClampNeg))]) (st1 := [.int (q3.2.1 14 x1.toNatClampNeg)]) (σ1 := (S0, (am_pI q11 14 x1.toNatClampNeg x2))) rfl ?_
          obtain ⟨rfl, rfl⟩ := Prod.mk.inj (Option.some.inj h)
          exact am_AW.ret ok_C_become rfl rfl rfl rfl
      · rw [if_neg c6] at h
        refine am_AW.run am_base_ok ok_C_become (Nat.le_add_left 1 d) 1 (pc1 := 20) (ls1 := [some (.ref 0), some (.int x1), some (.int x2), none]) (st1 := [.int (-1000001 : Int32)]) (σ1 := (S0, q3.2)) rfl ?_
        obtain ⟨rfl, rfl⟩ := Prod.mk.inj (Option.some.inj h)
        exact am_AW.ret ok_C_become rfl rfl rfl rfl
/-! FriezePolygons.number(II)I -/
def f_C_number (x1 : Int32) (x2 : Int32) (m : am_Mm) : Option (Int32 × am_Mm) :=
  (f_C_isCorner x1 m).bind fun q3 =>
  if q3.1 = (0 : Int32) then
    some ((-1000001 : Int32), q3.2)
  else
    if x2 < (0 : Int32) then
      some ((-1000001 : Int32), q3.2)
    else
      if x2 ≤ (9 : Int32) then
        if am_in x1 9 = true then
          (f_Acts_keep (2 : Int32) x1 (q3.2.1 15 x1.toNatClampNeg) q3.2).bind fun q10 =>
          if am_in x1 9 = true then
            some ((q3.2.1 15 x1.toNatClampNeg), (am_pI q10 15 x1.toNatClampNeg x2))
          else none
        else none
      else
        some ((-1000001 : Int32), q3.2)
set_option maxHeartbeats 4000000 in
set_option maxRecDepth 100000 in
theorem f_C_number_ok {ro : am_Ro} {d : Nat} (hd : 3 ≤ d) (x1 : Int32) (x2 : Int32) {m m' : am_Mm} {r : Int32} (h : f_C_number x1 x2 m = some (r, m')) : am_Mt am_nw ro d mr_C_number [.ref 0, .int x1, .int x2] (S0, m) (some (.int r)) (S0, m') := by
  obtain ⟨d, rfl⟩ : ∃ d0, d = d0 + 1 := ⟨d - 1, by omega⟩
  refine am_Mt.of (by decide +kernel) (Nat.le_of_ble_eq_true rfl) ?_
  change am_AW am_nw ro (d + 1) mr_C_number 0 [some (.ref 0), some (.int x1), some (.int x2), none] [] (S0, m) (some (.int r)) (S0, m')
  unfold f_C_number at h
  refine am_AW.run am_base_ok ok_C_number (Nat.le_add_left 1 d) 2 (pc1 := 2) (ls1 := [some (.ref 0), some (.int x1), some (.int x2), none]) (st1 := [.int x1, .ref 0]) (σ1 := (S0, m)) rfl ?_
  obtain ⟨q3, hq3, h⟩ := Option.bind_eq_some_iff.mp h
  refine am_AW.callV ok_C_number am_nw_ok (As := [.int x1]) (rest := []) rfl rfl rfl oR_C_isCorner lk_C_201 iM_C_isCorner sE_C_isCorner (qc := kq9) rfl rfl rfl rfl (Nat.le_of_ble_eq_true rfl) (f_C_isCorner_ok (d := d) (by omega) x1 hq3) ?_
  change am_AW am_nw ro (d + 1) mr_C_number 5 [some (.ref 0), some (.int x1), some (.int x2), none] [.int q3.1] (S0, q3.2) (some (.int r)) (S0, m')
  refine am_AW.brP ok_C_number rfl rfl am_c_eq (fun c4 => ?_) (fun c4 => ?_)
  · rw [if_pos c4] at h
    refine am_AW.run am_base_ok ok_C_number (Nat.le_add_left 1 d) 1 (pc1 := 20) (ls1 := [some (.ref 0), some (.int x1), some (.int x2), none]) (st1 := [.int (-1000001 : Int32)]) (σ1 := (S0, q3.2)) rfl ?_
    obtain ⟨rfl, rfl⟩ := Prod.mk.inj (Option.some.inj h)
    exact am_AW.ret ok_C_number rfl rfl rfl rfl
  · rw [if_neg c4] at h
    refine am_AW.run am_base_ok ok_C_number (Nat.le_add_left 1 d) 1 (pc1 := 9) (ls1 := [some (.ref 0), some (.int x1), some (.int x2), none]) (st1 := [.int x2]) (σ1 := (S0, q3.2)) rfl ?_
    refine am_AW.brP ok_C_number rfl rfl am_c_lt (fun c5 => ?_) (fun c5 => ?_)
    · rw [if_pos c5] at h
      refine am_AW.run am_base_ok ok_C_number (Nat.le_add_left 1 d) 1 (pc1 := 20) (ls1 := [some (.ref 0), some (.int x1), some (.int x2), none]) (st1 := [.int (-1000001 : Int32)]) (σ1 := (S0, q3.2)) rfl ?_
      obtain ⟨rfl, rfl⟩ := Prod.mk.inj (Option.some.inj h)
      exact am_AW.ret ok_C_number rfl rfl rfl rfl
    · rw [if_neg c5] at h
      refine am_AW.run am_base_ok ok_C_number (Nat.le_add_left 1 d) 2 (pc1 := 15) (ls1 := [some (.ref 0), some (.int x1), some (.int x2), none]) (st1 := [.int (9 : Int32), .int x2]) (σ1 := (S0, q3.2)) rfl ?_
      refine am_AW.brP ok_C_number rfl rfl am_c_le (fun c6 => ?_) (fun c6 => ?_)
      · rw [if_pos c6] at h
        refine am_AW.run am_base_ok ok_C_number (Nat.le_add_left 1 d) 4 (pc1 := 29) (ls1 := [some (.ref 0), some (.int x1), some (.int x2), none]) (st1 := [.int x1, .ref 15]) (σ1 := (S0, q3.2)) rfl ?_
        by_cases g7 : am_in x1 9 = true
        rotate_left
        · rw [if_neg g7] at h
          cases h
        rw [if_pos g7] at h
        refine am_AW.iald ok_C_number (Nat.le_add_left 1 d) S0_len rfl rfl g7 ?_
        refine am_AW.run am_base_ok ok_C_number (Nat.le_add_left 1 d) 6 (pc1 := 38) (ls1 := [some (.ref 0), some (.int x1), some (.int x2), some (.int (q3.2.1 15 x1.toNatClampNeg))]) (st1 := [.int (q3.2.1 15 x1.toNatClampNeg), .int x1, .int (2 : Int32), .ref 26]) (σ1 := (S0, q3.2)) rfl ?_
        obtain ⟨q10, hq10, h⟩ := Option.bind_eq_some_iff.mp h
        refine am_AW.callV ok_C_number am_nw_ok (As := [.int (2 : Int32), .int x1, .int (q3.2.1 15 x1.toNatClampNeg)]) (rest := []) rfl rfl rfl oR_Acts_keep lk_C_207 iM_Acts_keep sE_Acts_keep (qc := kq0) rfl rfl rfl rfl (Nat.le_of_ble_eq_true rfl) (f_Acts_keep_ok (d := d) (by omega) (2 : Int32) x1 (q3.2.1 15 x1.toNatClampNeg) hq10) ?_
        change am_AW am_nw ro (d + 1) mr_C_number 41 [some (.ref 0), some (.int x1), some (.int x2), some (.int (q3.2.1 15 x1.toNatClampNeg))] [] (S0, q10) (some (.int r)) (S0, m')
        refine am_AW.run am_base_ok ok_C_number (Nat.le_add_left 1 d) 5 (pc1 := 50) (ls1 := [some (.ref 0), some (.int x1), some (.int x2), some (.int (q3.2.1 15 x1.toNatClampNeg))]) (st1 := [.int x2, .int x1, .ref 15]) (σ1 := (S0, q10)) rfl ?_
        by_cases g11 : am_in x1 9 = true
        rotate_left
        · rw [if_neg g11] at h
          cases h
        rw [if_pos g11] at h
        refine am_AW.iast ok_C_number (Nat.le_add_left 1 d) rfl rfl g11 ?_
        change am_AW am_nw ro (d + 1) mr_C_number 51 [some (.ref 0), some (.int x1), some (.int x2), some (.int (q3.2.1 15 x1.toNatClampNeg))] [] (S0, (am_pI q10 15 x1.toNatClampNeg x2)) (some (.int r)) (S0, m')
        refine am_AW.run am_base_ok ok_C_number (Nat.le_add_left 1 d) 1 (pc1 := 52) (ls1 := [some (.ref 0), some (.int x1), some (.int x2), some (.int (q3.2.1 15 x1.toNatClampNeg))]) (st1 := [.int (q3.2.1 15 x1.toNatClampNeg)]) (σ1 := (S0, (am_pI q10 15 x1.toNatClampNeg x2))) rfl ?_
        obtain ⟨rfl, rfl⟩ := Prod.mk.inj (Option.some.inj h)
        exact am_AW.ret ok_C_number rfl rfl rfl rfl
      · rw [if_neg c6] at h
        refine am_AW.run am_base_ok ok_C_number (Nat.le_add_left 1 d) 1 (pc1 := 20) (ls1 := [some (.ref 0), some (.int x1), some (.int x2), none]) (st1 := [.int (-1000001 : Int32)]) (σ1 := (S0, q3.2)) rfl ?_
        obtain ⟨rfl, rfl⟩ := Prod.mk.inj (Option.some.inj h)
        exact am_AW.ret ok_C_number rfl rfl rfl rfl
/-! FriezePolygons.refusalOfWhole(II)I -/
def f_C_refusalOfWhole (x1 : Int32) (x2 : Int32) (m : am_Mm) : Option (Int32 × am_Mm) :=
  (f_C_isThere m).bind fun q3 =>
  if q3.1 = (0 : Int32) then
    some ((-1000002 : Int32), q3.2)
  else
    (f_C_isRow x1 q3.2).bind fun q7 =>
    if q7.1 = (0 : Int32) then
      some ((-1000001 : Int32), q7.2)
    else
      (f_C_troubleOf x1 x2 (q7.2.1 13 2) q7.2).bind fun q11 =>
      if q11.1 = (0 : Int32) then
        some ((0 : Int32), q11.2)
      else
        (f_C_found q11.1 q11.2).bind fun q15 =>
        some (q15.1, q15.2)
set_option maxHeartbeats 4000000 in
set_option maxRecDepth 100000 in
theorem f_C_refusalOfWhole_ok {ro : am_Ro} {d : Nat} (hd : 3 ≤ d) (x1 : Int32) (x2 : Int32) {m m' : am_Mm} {r : Int32} (h : f_C_refusalOfWhole x1 x2 m = some (r, m')) : am_Mt am_nw ro d mr_C_refusalOfWhole [.ref 0, .int x1, .int x2] (S0, m) (some (.int r)) (S0, m') := by
  obtain ⟨d, rfl⟩ : ∃ d0, d = d0 + 1 := ⟨d - 1, by omega⟩
  refine am_Mt.of (by decide +kernel) (Nat.le_of_ble_eq_true rfl) ?_
  change am_AW am_nw ro (d + 1) mr_C_refusalOfWhole 0 [some (.ref 0), some (.int x1), some (.int x2), none] [] (S0, m) (some (.int r)) (S0, m')
  unfold f_C_refusalOfWhole at h
  refine am_AW.run am_base_ok ok_C_refusalOfWhole (Nat.le_add_left 1 d) 1 (pc1 := 1) (ls1 := [some (.ref 0), some (.int x1), some (.int x2), none]) (st1 := [.ref 0]) (σ1 := (S0, m)) rfl ?_
  obtain ⟨q3, hq3, h⟩ := Option.bind_eq_some_iff.mp h
  refine am_AW.callV ok_C_refusalOfWhole am_nw_ok (As := []) (rest := []) rfl rfl rfl oR_C_isThere lk_C_198 iM_C_isThere sE_C_isThere (qc := kq9) rfl rfl rfl rfl (Nat.le_of_ble_eq_true rfl) (f_C_isThere_ok (d := d) (by omega)  hq3) ?_
  change am_AW am_nw ro (d + 1) mr_C_refusalOfWhole 4 [some (.ref 0), some (.int x1), some (.int x2), none] [.int q3.1] (S0, q3.2) (some (.int r)) (S0, m')
  refine am_AW.brN ok_C_refusalOfWhole rfl rfl am_c_ne (fun c4 => ?_) (fun c4 => ?_)
  · rw [if_pos c4] at h
    refine am_AW.run am_base_ok ok_C_refusalOfWhole (Nat.le_add_left 1 d) 1 (pc1 := 9) (ls1 := [some (.ref 0), some (.int x1), some (.int x2), none]) (st1 := [.int (-1000002 : Int32)]) (σ1 := (S0, q3.2)) rfl ?_
    obtain ⟨rfl, rfl⟩ := Prod.mk.inj (Option.some.inj h)
    exact am_AW.ret ok_C_refusalOfWhole rfl rfl rfl rfl
  · rw [if_neg c4] at h
    refine am_AW.run am_base_ok ok_C_refusalOfWhole (Nat.le_add_left 1 d) 1 (pc1 := 11) (ls1 := [some (.ref 0), some (.int x1), some (.int x2), none]) (st1 := [.int x1]) (σ1 := (S0, q3.2)) rfl ?_
    obtain ⟨q7, hq7, h⟩ := Option.bind_eq_some_iff.mp h
    refine am_AW.callS ok_C_refusalOfWhole am_nw_ok (As := [.int x1]) (rest := []) rfl rfl rfl oR_C_isRow lk_C_87 sT_C_isRow rfl (Nat.le_of_ble_eq_true rfl) (f_C_isRow_ok (d := d) (by omega) x1 hq7) ?_
    change am_AW am_nw ro (d + 1) mr_C_refusalOfWhole 14 [some (.ref 0), some (.int x1), some (.int x2), none] [.int q7.1] (S0, q7.2) (some (.int r)) (S0, m')
    refine am_AW.brN ok_C_refusalOfWhole rfl rfl am_c_ne (fun c8 => ?_) (fun c8 => ?_)
    · rw [if_pos c8] at h
      refine am_AW.run am_base_ok ok_C_refusalOfWhole (Nat.le_add_left 1 d) 1 (pc1 := 19) (ls1 := [some (.ref 0), some (.int x1), some (.int x2), none]) (st1 := [.int (-1000001 : Int32)]) (σ1 := (S0, q7.2)) rfl ?_
      obtain ⟨rfl, rfl⟩ := Prod.mk.inj (Option.some.inj h)
      exact am_AW.ret ok_C_refusalOfWhole rfl rfl rfl rfl
    · rw [if_neg c8] at h
      refine am_AW.run am_base_ok ok_C_refusalOfWhole (Nat.le_add_left 1 d) 6 (pc1 := 30) (ls1 := [some (.ref 0), some (.int x1), some (.int x2), none]) (st1 := [.int (q7.2.1 13 2), .int x2, .int x1, .ref 0]) (σ1 := (S0, q7.2)) rfl ?_
      obtain ⟨q11, hq11, h⟩ := Option.bind_eq_some_iff.mp h
      refine am_AW.callV ok_C_refusalOfWhole am_nw_ok (As := [.int x1, .int x2, .int (q7.2.1 13 2)]) (rest := []) rfl rfl rfl oR_C_troubleOf lk_C_103 iM_C_troubleOf sE_C_troubleOf (qc := kq9) rfl rfl rfl rfl (Nat.le_of_ble_eq_true rfl) (f_C_troubleOf_ok (d := d) (by omega) x1 x2 (q7.2.1 13 2) hq11) ?_
      change am_AW am_nw ro (d + 1) mr_C_refusalOfWhole 33 [some (.ref 0), some (.int x1), some (.int x2), none] [.int q11.1] (S0, q11.2) (some (.int r)) (S0, m')
      refine am_AW.run am_base_ok ok_C_refusalOfWhole (Nat.le_add_left 1 d) 2 (pc1 := 35) (ls1 := [some (.ref 0), some (.int x1), some (.int x2), some (.int q11.1)]) (st1 := [.int q11.1]) (σ1 := (S0, q11.2)) rfl ?_
      refine am_AW.brP ok_C_refusalOfWhole rfl rfl am_c_eq (fun c12 => ?_) (fun c12 => ?_)
      · rw [if_pos c12] at h
        refine am_AW.run am_base_ok ok_C_refusalOfWhole (Nat.le_add_left 1 d) 1 (pc1 := 47) (ls1 := [some (.ref 0), some (.int x1), some (.int x2), some (.int q11.1)]) (st1 := [.int (0 : Int32)]) (σ1 := (S0, q11.2)) rfl ?_
        obtain ⟨rfl, rfl⟩ := Prod.mk.inj (Option.some.inj h)
        exact am_AW.ret ok_C_refusalOfWhole rfl rfl rfl rfl
      · rw [if_neg c12] at h
        refine am_AW.run am_base_ok ok_C_refusalOfWhole (Nat.le_add_left 1 d) 2 (pc1 := 40) (ls1 := [some (.ref 0), some (.int x1), some (.int x2), some (.int q11.1)]) (st1 := [.int q11.1, .ref 0]) (σ1 := (S0, q11.2)) rfl ?_
        obtain ⟨q15, hq15, h⟩ := Option.bind_eq_some_iff.mp h
        refine am_AW.callV ok_C_refusalOfWhole am_nw_ok (As := [.int q11.1]) (rest := []) rfl rfl rfl oR_C_found lk_C_92 iM_C_found sE_C_found (qc := kq9) rfl rfl rfl rfl (Nat.le_of_ble_eq_true rfl) (f_C_found_ok (d := d) (by omega) q11.1 hq15) ?_
        change am_AW am_nw ro (d + 1) mr_C_refusalOfWhole 43 [some (.ref 0), some (.int x1), some (.int x2), some (.int q11.1)] [.int q15.1] (S0, q15.2) (some (.int r)) (S0, m')
        refine am_AW.run am_base_ok ok_C_refusalOfWhole (Nat.le_add_left 1 d) 1 (pc1 := 47) (ls1 := [some (.ref 0), some (.int x1), some (.int x2), some (.int q11.1)]) (st1 := [.int q15.1]) (σ1 := (S0, q15.2)) rfl ?_
        obtain ⟨rfl, rfl⟩ := Prod.mk.inj (Option.some.inj h)
        exact am_AW.ret ok_C_refusalOfWhole rfl rfl rfl rfl
/-! FriezePolygons.putInPlace(LFriezePolygons$Figure;)V -/
def f_C_putInPlace (p1 : Nat) (m : am_Mm) : Option am_Mm :=
  (f_Figure_take 13 p1 m).bind fun q3 =>
  (f_Ring_layOut 20 (q3.1 13 2) q3).bind fun q6 =>
  some (am_pI q6 26 3 (0 : Int32))
set_option maxHeartbeats 4000000 in
set_option maxRecDepth 100000 in
theorem f_C_putInPlace_ok {ro : am_Ro} {d : Nat} (hd : 3 ≤ d) (p1 : Nat) (hp1 : p1 = 3 ∨ p1 = 57 ∨ p1 = 60) {m m' : am_Mm} (h : f_C_putInPlace p1 m = some m') : am_Mt am_nw ro d mr_C_putInPlace [.ref 0, .ref p1] (S0, m) none (S0, m') := by
  obtain ⟨d, rfl⟩ : ∃ d0, d = d0 + 1 := ⟨d - 1, by omega⟩
  refine am_Mt.of (by decide +kernel) (Nat.le_of_ble_eq_true rfl) ?_
  change am_AW am_nw ro (d + 1) mr_C_putInPlace 0 [some (.ref 0), some (.ref p1)] [] (S0, m) none (S0, m')
  unfold f_C_putInPlace at h
  refine am_AW.run am_base_ok ok_C_putInPlace (Nat.le_add_left 1 d) 3 (pc1 := 5) (ls1 := [some (.ref 0), some (.ref p1)]) (st1 := [.ref p1, .ref 13]) (σ1 := (S0, m)) rfl ?_
  obtain ⟨q3, hq3, h⟩ := Option.bind_eq_some_iff.mp h
  refine am_AW.callV ok_C_putInPlace am_nw_ok (As := [.ref p1]) (rest := []) rfl rfl rfl oR_Figure_take lk_C_318 iM_Figure_take sE_Figure_take (qc := kq3) rfl rfl rfl rfl (Nat.le_of_ble_eq_true rfl) (f_Figure_take_ok (d := d) (by omega) 13 p1 (by simp) (by rcases hp1 with h | h | h <;> simp [h]) hq3) ?_
  change am_AW am_nw ro (d + 1) mr_C_putInPlace 8 [some (.ref 0), some (.ref p1)] [] (S0, q3) none (S0, m')
  refine am_AW.run am_base_ok ok_C_putInPlace (Nat.le_add_left 1 d) 5 (pc1 := 19) (ls1 := [some (.ref 0), some (.ref p1)]) (st1 := [.int (q3.1 13 2), .ref 20]) (σ1 := (S0, q3)) rfl ?_
  obtain ⟨q6, hq6, h⟩ := Option.bind_eq_some_iff.mp h
  refine am_AW.callV ok_C_putInPlace am_nw_ok (As := [.int (q3.1 13 2)]) (rest := []) rfl rfl rfl oR_Ring_layOut lk_C_343 iM_Ring_layOut sE_Ring_layOut (qc := kq6) rfl rfl rfl rfl (Nat.le_of_ble_eq_true rfl) (f_Ring_layOut_ok (d := d) (by omega) 20 (q3.1 13 2) (by simp) hq6) ?_
  change am_AW am_nw ro (d + 1) mr_C_putInPlace 22 [some (.ref 0), some (.ref p1)] [] (S0, q6) none (S0, m')
  refine am_AW.run am_base_ok ok_C_putInPlace (Nat.le_add_left 1 d) 3 (pc1 := 27) (ls1 := [some (.ref 0), some (.ref p1)]) (st1 := [.int (0 : Int32), .ref 26]) (σ1 := (S0, q6)) rfl ?_
  refine am_AW.puti ok_C_putInPlace (Nat.le_add_left 1 d) rfl rfl rfl (qc := kq0) rfl (by decide) ty_0_3 ?_
  obtain rfl := Option.some.inj h
  exact am_AW.ret ok_C_putInPlace rfl rfl rfl rfl
/-! FriezePolygons.layCuts(I)V -/
def f_C_layCuts (x1 : Int32) (m : am_Mm) : Option am_Mm :=
  (f_Acts_keep (0 : Int32) (0 : Int32) (m.1 13 3) m).bind fun q3 =>
  some (am_pI q3 13 3 x1)
set_option maxHeartbeats 4000000 in
set_option maxRecDepth 100000 in
theorem f_C_layCuts_ok {ro : am_Ro} {d : Nat} (hd : 3 ≤ d) (x1 : Int32) {m m' : am_Mm} (h : f_C_layCuts x1 m = some m') : am_Mt am_nw ro d mr_C_layCuts [.ref 0, .int x1] (S0, m) none (S0, m') := by
  obtain ⟨d, rfl⟩ : ∃ d0, d = d0 + 1 := ⟨d - 1, by omega⟩
  refine am_Mt.of (by decide +kernel) (Nat.le_of_ble_eq_true rfl) ?_
  change am_AW am_nw ro (d + 1) mr_C_layCuts 0 [some (.ref 0), some (.int x1)] [] (S0, m) none (S0, m')
  unfold f_C_layCuts at h
  refine am_AW.run am_base_ok ok_C_layCuts (Nat.le_add_left 1 d) 7 (pc1 := 13) (ls1 := [some (.ref 0), some (.int x1)]) (st1 := [.int (m.1 13 3), .int (0 : Int32), .int (0 : Int32), .ref 26]) (σ1 := (S0, m)) rfl ?_
  obtain ⟨q3, hq3, h⟩ := Option.bind_eq_some_iff.mp h
  refine am_AW.callV ok_C_layCuts am_nw_ok (As := [.int (0 : Int32), .int (0 : Int32), .int (m.1 13 3)]) (rest := []) rfl rfl rfl oR_Acts_keep lk_C_207 iM_Acts_keep sE_Acts_keep (qc := kq0) rfl rfl rfl rfl (Nat.le_of_ble_eq_true rfl) (f_Acts_keep_ok (d := d) (by omega) (0 : Int32) (0 : Int32) (m.1 13 3) hq3) ?_
  change am_AW am_nw ro (d + 1) mr_C_layCuts 16 [some (.ref 0), some (.int x1)] [] (S0, q3) none (S0, m')
  refine am_AW.run am_base_ok ok_C_layCuts (Nat.le_add_left 1 d) 3 (pc1 := 21) (ls1 := [some (.ref 0), some (.int x1)]) (st1 := [.int x1, .ref 13]) (σ1 := (S0, q3)) rfl ?_
  refine am_AW.puti ok_C_layCuts (Nat.le_add_left 1 d) rfl rfl rfl (qc := kq3) rfl (by decide) ty_3_3 ?_
  obtain rfl := Option.some.inj h
  exact am_AW.ret ok_C_layCuts rfl rfl rfl rfl
/-! FriezePolygonsModel.row(III)I -/
def f_M_row_b60 : Nat → Int32 → Int32 → Int32 → am_Mm → Option (Int32 × am_Mm)
  | 0, _, _, _, _ => none
  | n + 1, x1, x3, x4, m =>
    if (40 : Int32) ≤ x4 then
      some (x3, m)
    else
      if am_in (((40 : Int32) * x1) + x4) 320 = true then
        f_M_row_b60 n x1 x3 (x4 + (1 : Int32)) (am_pI m 66 (((40 : Int32) * x1) + x4).toNatClampNeg (0 : Int32))
      else none
def f_M_row (x1 : Int32) (x2 : Int32) (x3 : Int32) (m : am_Mm) : Option (Int32 × am_Mm) :=
  (f_M_isRow x1 m).bind fun q3 =>
  if q3.1 = (0 : Int32) then
    some ((-1000001 : Int32), q3.2)
  else
    (f_M_in (x2.toInt64) (0 : Int64) (2 : Int64) q3.2).bind fun q7 =>
    if q7.1 = (0 : Int32) then
      some ((-1000001 : Int32), q7.2)
    else
      if x3 ≤ (40 : Int32) then
        if (0 : Int32) ≤ x3 then
          if am_in x1 8 = true then
            if am_in x1 8 = true then
              f_M_row_b60 am_F x1 x3 (0 : Int32) (am_pI (am_pI (am_pI q7.2 63 0 (0 : Int32)) 64 x1.toNatClampNeg x2) 65 x1.toNatClampNeg x3)
            else none
          else none
        else
          (f_M_finding (4 : Int32) (am_pI q7.2 63 0 (0 : Int32))).bind fun q17 =>
          some (q17.1, q17.2)
      else
        some ((-1000001 : Int32), q7.2)
set_option maxHeartbeats 4000000 in
set_option maxRecDepth 100000 in
theorem f_M_row_b60_all {ro : am_Ro} {d : Nat} (hd : 3 ≤ d + 1) : ∀ (n : Nat) (x1 : Int32) (x3 : Int32) (x4 : Int32) (m m' : am_Mm) (r : Int32), f_M_row_b60 n x1 x3 x4 m = some (r, m') → am_AW am_nw ro (d + 1) mr_M_row 60 [some (.ref 63), some (.int x1), none, some (.int x3), some (.int x4)] [] (S0, m) (some (.int r)) (S0, m') := by
  intro n
  induction n with
  | zero =>
    intro x1 x3 x4 m m' r h
    rw [f_M_row_b60] at h
    cases h
  | succ n ih =>
    intro x1 x3 x4 m m' r h
    rw [f_M_row_b60] at h
    refine am_AW.run am_base_ok ok_M_row (Nat.le_add_left 1 d) 2 (pc1 := 64) (ls1 := [some (.ref 63), some (.int x1), none, some (.int x3), some (.int x4)]) (st1 := [.int (40 : Int32), .int x4]) (σ1 := (S0, m)) rfl ?_
    refine am_AW.brP ok_M_row rfl rfl am_c_ge (fun c13 => ?_) (fun c13 => ?_)
    · rw [if_pos c13] at h
      refine am_AW.run am_base_ok ok_M_row (Nat.le_add_left 1 d) 1 (pc1 := 87) (ls1 := [some (.ref 63), some (.int x1), none, some (.int x3), some (.int x4)]) (st1 := [.int x3]) (σ1 := (S0, m)) rfl ?_
      obtain ⟨rfl, rfl⟩ := Prod.mk.inj (Option.some.inj h)
      exact am_AW.ret ok_M_row rfl rfl rfl rfl
    · rw [if_neg c13] at h
      refine am_AW.run am_base_ok ok_M_row (Nat.le_add_left 1 d) 8 (pc1 := 79) (ls1 := [some (.ref 63), some (.int x1), none, some (.int x3), some (.int x4)]) (st1 := [.int (0 : Int32), .int (((40 : Int32) * x1) + x4), .ref 66]) (σ1 := (S0, m)) rfl ?_
      by_cases g14 : am_in (((40 : Int32) * x1) + x4) 320 = true
      rotate_left
      · rw [if_neg g14] at h
        cases h
      rw [if_pos g14] at h
      refine am_AW.iast ok_M_row (Nat.le_add_left 1 d) rfl rfl g14 ?_
      change am_AW am_nw ro (d + 1) mr_M_row 80 [some (.ref 63), some (.int x1), none, some (.int x3), some (.int x4)] [] (S0, (am_pI m 66 (((40 : Int32) * x1) + x4).toNatClampNeg (0 : Int32))) (some (.int r)) (S0, m')
      refine am_AW.run am_base_ok ok_M_row (Nat.le_add_left 1 d) 2 (pc1 := 60) (ls1 := [some (.ref 63), some (.int x1), none, some (.int x3), some (.int (x4 + (1 : Int32)))]) (st1 := []) (σ1 := (S0, (am_pI m 66 (((40 : Int32) * x1) + x4).toNatClampNeg (0 : Int32)))) rfl ?_
      exact am_AW.weak (ih x1 x3 (x4 + (1 : Int32))  _ _ _ h) (by simp only [am_le, and_self])
set_option maxHeartbeats 4000000 in
set_option maxRecDepth 100000 in
theorem f_M_row_b60_ok {ro : am_Ro} {d : Nat} (hd : 3 ≤ d + 1) (x1 : Int32) (x3 : Int32) (x4 : Int32) {m m' : am_Mm} {r : Int32} {n : Nat} (h : f_M_row_b60 n x1 x3 x4 m = some (r, m')) : am_AW am_nw ro (d + 1) mr_M_row 60 [some (.ref 63), some (.int x1), none, some (.int x3), some (.int x4)] [] (S0, m) (some (.int r)) (S0, m') :=
  f_M_row_b60_all hd n x1 x3 x4  m m' r h
set_option maxHeartbeats 4000000 in
set_option maxRecDepth 100000 in
theorem f_M_row_ok {ro : am_Ro} {d : Nat} (hd : 3 ≤ d) (x1 : Int32) (x2 : Int32) (x3 : Int32) {m m' : am_Mm} {r : Int32} (h : f_M_row x1 x2 x3 m = some (r, m')) : am_Mt am_nw ro d mr_M_row [.ref 63, .int x1, .int x2, .int x3] (S0, m) (some (.int r)) (S0, m') := by
  obtain ⟨d, rfl⟩ : ∃ d0, d = d0 + 1 := ⟨d - 1, by omega⟩
  refine am_Mt.of (by decide +kernel) (Nat.le_of_ble_eq_true rfl) ?_
  change am_AW am_nw ro (d + 1) mr_M_row 0 [some (.ref 63), some (.int x1), some (.int x2), some (.int x3), none] [] (S0, m) (some (.int r)) (S0, m')
  unfold f_M_row at h
  refine am_AW.run am_base_ok ok_M_row (Nat.le_add_left 1 d) 1 (pc1 := 1) (ls1 := [some (.ref 63), some (.int x1), some (.int x2), some (.int x3), none]) (st1 := [.int x1]) (σ1 := (S0, m)) rfl ?_
  obtain ⟨q3, hq3, h⟩ := Option.bind_eq_some_iff.mp h
  refine am_AW.callS ok_M_row am_nw_ok (As := [.int x1]) (rest := []) rfl rfl rfl oR_M_isRow lk_M_64 sT_M_isRow rfl (Nat.le_of_ble_eq_true rfl) (f_M_isRow_ok (d := d) (by omega) x1 hq3) ?_
  change am_AW am_nw ro (d + 1) mr_M_row 4 [some (.ref 63), some (.int x1), some (.int x2), some (.int x3), none] [.int q3.1] (S0, q3.2) (some (.int r)) (S0, m')
  refine am_AW.brP ok_M_row rfl rfl am_c_eq (fun c4 => ?_) (fun c4 => ?_)
  · rw [if_pos c4] at h
    refine am_AW.run am_base_ok ok_M_row (Nat.le_add_left 1 d) 1 (pc1 := 27) (ls1 := [some (.ref 63), some (.int x1), some (.int x2), some (.int x3), none]) (st1 := [.int (-1000001 : Int32)]) (σ1 := (S0, q3.2)) rfl ?_
    obtain ⟨rfl, rfl⟩ := Prod.mk.inj (Option.some.inj h)
    exact am_AW.ret ok_M_row rfl rfl rfl rfl
  · rw [if_neg c4] at h
    refine am_AW.run am_base_ok ok_M_row (Nat.le_add_left 1 d) 4 (pc1 := 13) (ls1 := [some (.ref 63), some (.int x1), some (.int x2), some (.int x3), none]) (st1 := [.long (2 : Int64), .long (0 : Int64), .long (x2.toInt64)]) (σ1 := (S0, q3.2)) rfl ?_
    obtain ⟨q7, hq7, h⟩ := Option.bind_eq_some_iff.mp h
    refine am_AW.callS ok_M_row am_nw_ok (As := [.long (x2.toInt64), .long (0 : Int64), .long (2 : Int64)]) (rest := []) rfl rfl rfl oR_M_in lk_M_60 sT_M_in rfl (Nat.le_of_ble_eq_true rfl) (f_M_in_ok (d := d) (by omega) (x2.toInt64) (0 : Int64) (2 : Int64) hq7) ?_
    change am_AW am_nw ro (d + 1) mr_M_row 16 [some (.ref 63), some (.int x1), some (.int x2), some (.int x3), none] [.int q7.1] (S0, q7.2) (some (.int r)) (S0, m')
    refine am_AW.brP ok_M_row rfl rfl am_c_eq (fun c8 => ?_) (fun c8 => ?_)
    · rw [if_pos c8] at h
      refine am_AW.run am_base_ok ok_M_row (Nat.le_add_left 1 d) 1 (pc1 := 27) (ls1 := [some (.ref 63), some (.int x1), some (.int x2), some (.int x3), none]) (st1 := [.int (-1000001 : Int32)]) (σ1 := (S0, q7.2)) rfl ?_
      obtain ⟨rfl, rfl⟩ := Prod.mk.inj (Option.some.inj h)
      exact am_AW.ret ok_M_row rfl rfl rfl rfl
    · rw [if_neg c8] at h
      refine am_AW.run am_base_ok ok_M_row (Nat.le_add_left 1 d) 2 (pc1 := 22) (ls1 := [some (.ref 63), some (.int x1), some (.int x2), some (.int x3), none]) (st1 := [.int (40 : Int32), .int x3]) (σ1 := (S0, q7.2)) rfl ?_
      refine am_AW.brP ok_M_row rfl rfl am_c_le (fun c9 => ?_) (fun c9 => ?_)
      · rw [if_pos c9] at h
        refine am_AW.run am_base_ok ok_M_row (Nat.le_add_left 1 d) 2 (pc1 := 30) (ls1 := [some (.ref 63), some (.int x1), some (.int x2), some (.int x3), none]) (st1 := [.int (0 : Int32), .ref 63]) (σ1 := (S0, q7.2)) rfl ?_
        refine am_AW.puti ok_M_row (Nat.le_add_left 1 d) rfl rfl rfl (qc := kq10) rfl (by decide) ty_10_0 ?_
        refine am_AW.run am_base_ok ok_M_row (Nat.le_add_left 1 d) 1 (pc1 := 34) (ls1 := [some (.ref 63), some (.int x1), some (.int x2), some (.int x3), none]) (st1 := [.int x3]) (σ1 := (S0, (am_pI q7.2 63 0 (0 : Int32)))) rfl ?_
        refine am_AW.brP ok_M_row rfl rfl am_c_ge (fun c10 => ?_) (fun c10 => ?_)
        · rw [if_pos c10] at h
          refine am_AW.run am_base_ok ok_M_row (Nat.le_add_left 1 d) 4 (pc1 := 49) (ls1 := [some (.ref 63), some (.int x1), some (.int x2), some (.int x3), none]) (st1 := [.int x2, .int x1, .ref 64]) (σ1 := (S0, (am_pI q7.2 63 0 (0 : Int32)))) rfl ?_
          by_cases g11 : am_in x1 8 = true
          rotate_left
          · rw [if_neg g11] at h
            cases h
          rw [if_pos g11] at h
          refine am_AW.iast ok_M_row (Nat.le_add_left 1 d) rfl rfl g11 ?_
          change am_AW am_nw ro (d + 1) mr_M_row 50 [some (.ref 63), some (.int x1), some (.int x2), some (.int x3), none] [] (S0, (am_pI (am_pI q7.2 63 0 (0 : Int32)) 64 x1.toNatClampNeg x2)) (some (.int r)) (S0, m')
          refine am_AW.run am_base_ok ok_M_row (Nat.le_add_left 1 d) 4 (pc1 := 56) (ls1 := [some (.ref 63), some (.int x1), some (.int x2), some (.int x3), none]) (st1 := [.int x3, .int x1, .ref 65]) (σ1 := (S0, (am_pI (am_pI q7.2 63 0 (0 : Int32)) 64 x1.toNatClampNeg x2))) rfl ?_
          by_cases g12 : am_in x1 8 = true
          rotate_left
          · rw [if_neg g12] at h
            cases h
          rw [if_pos g12] at h
          refine am_AW.iast ok_M_row (Nat.le_add_left 1 d) rfl rfl g12 ?_
          change am_AW am_nw ro (d + 1) mr_M_row 57 [some (.ref 63), some (.int x1), some (.int x2), some (.int x3), none] [] (S0, (am_pI (am_pI (am_pI q7.2 63 0 (0 : Int32)) 64 x1.toNatClampNeg x2) 65 x1.toNatClampNeg x3)) (some (.int r)) (S0, m')
          refine am_AW.run am_base_ok ok_M_row (Nat.le_add_left 1 d) 2 (pc1 := 60) (ls1 := [some (.ref 63), some (.int x1), some (.int x2), some (.int x3), some (.int (0 : Int32))]) (st1 := []) (σ1 := (S0, (am_pI (am_pI (am_pI q7.2 63 0 (0 : Int32)) 64 x1.toNatClampNeg x2) 65 x1.toNatClampNeg x3))) rfl ?_
          exact am_AW.weak (f_M_row_b60_ok hd x1 x3 (0 : Int32)  h) (by simp only [am_le, and_self])
        · rw [if_neg c10] at h
          refine am_AW.run am_base_ok ok_M_row (Nat.le_add_left 1 d) 2 (pc1 := 39) (ls1 := [some (.ref 63), some (.int x1), some (.int x2), some (.int x3), none]) (st1 := [.int (4 : Int32), .ref 63]) (σ1 := (S0, (am_pI q7.2 63 0 (0 : Int32)))) rfl ?_
          obtain ⟨q17, hq17, h⟩ := Option.bind_eq_some_iff.mp h
          refine am_AW.callV ok_M_row am_nw_ok (As := [.int (4 : Int32)]) (rest := []) rfl rfl rfl oR_M_finding lk_M_71 iM_M_finding sE_M_finding (qc := kq10) rfl rfl rfl rfl (Nat.le_of_ble_eq_true rfl) (f_M_finding_ok (d := d) (by omega) (4 : Int32) hq17) ?_
          change am_AW am_nw ro (d + 1) mr_M_row 42 [some (.ref 63), some (.int x1), some (.int x2), some (.int x3), none] [.int q17.1] (S0, q17.2) (some (.int r)) (S0, m')
          obtain ⟨rfl, rfl⟩ := Prod.mk.inj (Option.some.inj h)
          exact am_AW.ret ok_M_row rfl rfl rfl rfl
      · rw [if_neg c9] at h
        refine am_AW.run am_base_ok ok_M_row (Nat.le_add_left 1 d) 1 (pc1 := 27) (ls1 := [some (.ref 63), some (.int x1), some (.int x2), some (.int x3), none]) (st1 := [.int (-1000001 : Int32)]) (σ1 := (S0, q7.2)) rfl ?_
        obtain ⟨rfl, rfl⟩ := Prod.mk.inj (Option.some.inj h)
        exact am_AW.ret ok_M_row rfl rfl rfl rfl
/-! FriezePolygonsModel.set(III)I -/
def f_M_set_b94 (x1 : Int32) (x2 : Int32) (s1 : Int32) (s2 : Int32) (m : am_Mm) : Option (Int32 × am_Mm) :=
  if am_in s1 320 = true then
    if am_in (((40 : Int32) * x1) + x2) 320 = true then
      some (((am_pI m 66 s1.toNatClampNeg s2).1 66 (((40 : Int32) * x1) + x2).toNatClampNeg), (am_pI m 66 s1.toNatClampNeg s2))
    else none
  else none
def f_M_set (x1 : Int32) (x2 : Int32) (x3 : Int32) (m : am_Mm) : Option (Int32 × am_Mm) :=
  (f_M_isRow x1 m).bind fun q3 =>
  if q3.1 = (0 : Int32) then
    some ((-1000001 : Int32), q3.2)
  else
    if am_in x1 8 = true then
      if (0 : Int32) ≤ ((am_pI q3.2 63 0 (0 : Int32)).1 64 x1.toNatClampNeg) then
        if am_in x1 8 = true then
          (f_M_in (x2.toInt64) (0 : Int64) ((((am_pI q3.2 63 0 (0 : Int32)).1 65 x1.toNatClampNeg) - (1 : Int32)).toInt64) (am_pI q3.2 63 0 (0 : Int32))).bind fun q10 =>
          if q10.1 = (0 : Int32) then
            (f_M_finding (2 : Int32) q10.2).bind fun q14 =>
            some (q14.1, q14.2)
          else
            if am_in x1 8 = true then
              if (q10.2.1 64 x1.toNatClampNeg) = (0 : Int32) then
                f_M_set_b94 x1 x2 (((40 : Int32) * x1) + x2) (x3.toInt8.toInt32) q10.2
              else
                if am_in x1 8 = true then
                  if (q10.2.1 64 x1.toNatClampNeg) = (1 : Int32) then
                    f_M_set_b94 x1 x2 (((40 : Int32) * x1) + x2) (x3.toInt16.toInt32) q10.2
                  else
                    f_M_set_b94 x1 x2 (((40 : Int32) * x1) + x2) x3 q10.2
                else none
            else none
        else none
      else
        (f_M_finding (1 : Int32) (am_pI q3.2 63 0 (0 : Int32))).bind fun q23 =>
        some (q23.1, q23.2)
    else none
set_option maxHeartbeats 4000000 in
set_option maxRecDepth 100000 in
theorem f_M_set_b94_ok {ro : am_Ro} {d : Nat} (hd : 3 ≤ d + 1) (x1 : Int32) (x2 : Int32) (s1 : Int32) (s2 : Int32) {m m' : am_Mm} {r : Int32} (h : f_M_set_b94 x1 x2 s1 s2 m = some (r, m')) : am_AW am_nw ro (d + 1) mr_M_set 94 [some (.ref 63), some (.int x1), some (.int x2), none] [.int s2, .int s1, .ref 66] (S0, m) (some (.int r)) (S0, m') := by
  unfold f_M_set_b94 at h
  by_cases g17 : am_in s1 320 = true
  rotate_left
  · rw [if_neg g17] at h
    cases h
  rw [if_pos g17] at h
  refine am_AW.iast ok_M_set (Nat.le_add_left 1 d) rfl rfl g17 ?_
  change am_AW am_nw ro (d + 1) mr_M_set 95 [some (.ref 63), some (.int x1), some (.int x2), none] [] (S0, (am_pI m 66 s1.toNatClampNeg s2)) (some (.int r)) (S0, m')
  refine am_AW.run am_base_ok ok_M_set (Nat.le_add_left 1 d) 7 (pc1 := 105) (ls1 := [some (.ref 63), some (.int x1), some (.int x2), none]) (st1 := [.int (((40 : Int32) * x1) + x2), .ref 66]) (σ1 := (S0, (am_pI m 66 s1.toNatClampNeg s2))) rfl ?_
  by_cases g18 : am_in (((40 : Int32) * x1) + x2) 320 = true
  rotate_left
  · rw [if_neg g18] at h
    cases h
  rw [if_pos g18] at h
  refine am_AW.iald ok_M_set (Nat.le_add_left 1 d) S0_len rfl rfl g18 ?_
  obtain ⟨rfl, rfl⟩ := Prod.mk.inj (Option.some.inj h)
  exact am_AW.ret ok_M_set rfl rfl rfl rfl
set_option maxHeartbeats 4000000 in
set_option maxRecDepth 100000 in
theorem f_M_set_ok {ro : am_Ro} {d : Nat} (hd : 3 ≤ d) (x1 : Int32) (x2 : Int32) (x3 : Int32) {m m' : am_Mm} {r : Int32} (h : f_M_set x1 x2 x3 m = some (r, m')) : am_Mt am_nw ro d mr_M_set [.ref 63, .int x1, .int x2, .int x3] (S0, m) (some (.int r)) (S0, m') := by
  obtain ⟨d, rfl⟩ : ∃ d0, d = d0 + 1 := ⟨d - 1, by omega⟩
  refine am_Mt.of (by decide +kernel) (Nat.le_of_ble_eq_true rfl) ?_
  change am_AW am_nw ro (d + 1) mr_M_set 0 [some (.ref 63), some (.int x1), some (.int x2), some (.int x3)] [] (S0, m) (some (.int r)) (S0, m')
  unfold f_M_set at h
  refine am_AW.run am_base_ok ok_M_set (Nat.le_add_left 1 d) 1 (pc1 := 1) (ls1 := [some (.ref 63), some (.int x1), some (.int x2), some (.int x3)]) (st1 := [.int x1]) (σ1 := (S0, m)) rfl ?_
  obtain ⟨q3, hq3, h⟩ := Option.bind_eq_some_iff.mp h
  refine am_AW.callS ok_M_set am_nw_ok (As := [.int x1]) (rest := []) rfl rfl rfl oR_M_isRow lk_M_64 sT_M_isRow rfl (Nat.le_of_ble_eq_true rfl) (f_M_isRow_ok (d := d) (by omega) x1 hq3) ?_
  change am_AW am_nw ro (d + 1) mr_M_set 4 [some (.ref 63), some (.int x1), some (.int x2), some (.int x3)] [.int q3.1] (S0, q3.2) (some (.int r)) (S0, m')
  refine am_AW.brN ok_M_set rfl rfl am_c_ne (fun c4 => ?_) (fun c4 => ?_)
  · rw [if_pos c4] at h
    refine am_AW.run am_base_ok ok_M_set (Nat.le_add_left 1 d) 1 (pc1 := 9) (ls1 := [some (.ref 63), some (.int x1), some (.int x2), some (.int x3)]) (st1 := [.int (-1000001 : Int32)]) (σ1 := (S0, q3.2)) rfl ?_
    obtain ⟨rfl, rfl⟩ := Prod.mk.inj (Option.some.inj h)
    exact am_AW.ret ok_M_set rfl rfl rfl rfl
  · rw [if_neg c4] at h
    refine am_AW.run am_base_ok ok_M_set (Nat.le_add_left 1 d) 2 (pc1 := 12) (ls1 := [some (.ref 63), some (.int x1), some (.int x2), some (.int x3)]) (st1 := [.int (0 : Int32), .ref 63]) (σ1 := (S0, q3.2)) rfl ?_
    refine am_AW.puti ok_M_set (Nat.le_add_left 1 d) rfl rfl rfl (qc := kq10) rfl (by decide) ty_10_0 ?_
    refine am_AW.run am_base_ok ok_M_set (Nat.le_add_left 1 d) 3 (pc1 := 20) (ls1 := [some (.ref 63), some (.int x1), some (.int x2), some (.int x3)]) (st1 := [.int x1, .ref 64]) (σ1 := (S0, (am_pI q3.2 63 0 (0 : Int32)))) rfl ?_
    by_cases g5 : am_in x1 8 = true
    rotate_left
    · rw [if_neg g5] at h
      cases h
    rw [if_pos g5] at h
    refine am_AW.iald ok_M_set (Nat.le_add_left 1 d) S0_len rfl rfl g5 ?_
    refine am_AW.brP ok_M_set rfl rfl am_c_ge (fun c6 => ?_) (fun c6 => ?_)
    · rw [if_pos c6] at h
      refine am_AW.run am_base_ok ok_M_set (Nat.le_add_left 1 d) 6 (pc1 := 38) (ls1 := [some (.ref 63), some (.int x1), some (.int x2), some (.int x3)]) (st1 := [.int x1, .ref 65, .long (0 : Int64), .long (x2.toInt64)]) (σ1 := (S0, (am_pI q3.2 63 0 (0 : Int32)))) rfl ?_
      by_cases g7 : am_in x1 8 = true
      rotate_left
      · rw [if_neg g7] at h
        cases h
      rw [if_pos g7] at h
      refine am_AW.iald ok_M_set (Nat.le_add_left 1 d) S0_len rfl rfl g7 ?_
      refine am_AW.run am_base_ok ok_M_set (Nat.le_add_left 1 d) 3 (pc1 := 42) (ls1 := [some (.ref 63), some (.int x1), some (.int x2), some (.int x3)]) (st1 := [.long ((((am_pI q3.2 63 0 (0 : Int32)).1 65 x1.toNatClampNeg) - (1 : Int32)).toInt64), .long (0 : Int64), .long (x2.toInt64)]) (σ1 := (S0, (am_pI q3.2 63 0 (0 : Int32)))) rfl ?_
      obtain ⟨q10, hq10, h⟩ := Option.bind_eq_some_iff.mp h
      refine am_AW.callS ok_M_set am_nw_ok (As := [.long (x2.toInt64), .long (0 : Int64), .long ((((am_pI q3.2 63 0 (0 : Int32)).1 65 x1.toNatClampNeg) - (1 : Int32)).toInt64)]) (rest := []) rfl rfl rfl oR_M_in lk_M_60 sT_M_in rfl (Nat.le_of_ble_eq_true rfl) (f_M_in_ok (d := d) (by omega) (x2.toInt64) (0 : Int64) ((((am_pI q3.2 63 0 (0 : Int32)).1 65 x1.toNatClampNeg) - (1 : Int32)).toInt64) hq10) ?_
      change am_AW am_nw ro (d + 1) mr_M_set 45 [some (.ref 63), some (.int x1), some (.int x2), some (.int x3)] [.int q10.1] (S0, q10.2) (some (.int r)) (S0, m')
      refine am_AW.brN ok_M_set rfl rfl am_c_ne (fun c11 => ?_) (fun c11 => ?_)
      · rw [if_pos c11] at h
        refine am_AW.run am_base_ok ok_M_set (Nat.le_add_left 1 d) 2 (pc1 := 50) (ls1 := [some (.ref 63), some (.int x1), some (.int x2), some (.int x3)]) (st1 := [.int (2 : Int32), .ref 63]) (σ1 := (S0, q10.2)) rfl ?_
        obtain ⟨q14, hq14, h⟩ := Option.bind_eq_some_iff.mp h
        refine am_AW.callV ok_M_set am_nw_ok (As := [.int (2 : Int32)]) (rest := []) rfl rfl rfl oR_M_finding lk_M_71 iM_M_finding sE_M_finding (qc := kq10) rfl rfl rfl rfl (Nat.le_of_ble_eq_true rfl) (f_M_finding_ok (d := d) (by omega) (2 : Int32) hq14) ?_
        change am_AW am_nw ro (d + 1) mr_M_set 53 [some (.ref 63), some (.int x1), some (.int x2), some (.int x3)] [.int q14.1] (S0, q14.2) (some (.int r)) (S0, m')
        obtain ⟨rfl, rfl⟩ := Prod.mk.inj (Option.some.inj h)
        exact am_AW.ret ok_M_set rfl rfl rfl rfl
      · rw [if_neg c11] at h
        refine am_AW.run am_base_ok ok_M_set (Nat.le_add_left 1 d) 10 (pc1 := 69) (ls1 := [some (.ref 63), some (.int x1), some (.int x2), some (.int x3)]) (st1 := [.int x1, .ref 64, .int (((40 : Int32) * x1) + x2), .ref 66]) (σ1 := (S0, q10.2)) rfl ?_
        by_cases g15 : am_in x1 8 = true
        rotate_left
        · rw [if_neg g15] at h
          cases h
        rw [if_pos g15] at h
        refine am_AW.iald ok_M_set (Nat.le_add_left 1 d) S0_len rfl rfl g15 ?_
        refine am_AW.brN ok_M_set rfl rfl am_c_ne (fun c16 => ?_) (fun c16 => ?_)
        · rw [if_pos c16] at h
          refine am_AW.run am_base_ok ok_M_set (Nat.le_add_left 1 d) 3 (pc1 := 94) (ls1 := [some (.ref 63), some (.int x1), some (.int x2), some (.int x3)]) (st1 := [.int (x3.toInt8.toInt32), .int (((40 : Int32) * x1) + x2), .ref 66]) (σ1 := (S0, q10.2)) rfl ?_
          exact am_AW.weak (f_M_set_b94_ok hd x1 x2 (((40 : Int32) * x1) + x2) (x3.toInt8.toInt32)  h) (by simp only [am_le, and_self])
        · rw [if_neg c16] at h
          refine am_AW.run am_base_ok ok_M_set (Nat.le_add_left 1 d) 3 (pc1 := 83) (ls1 := [some (.ref 63), some (.int x1), some (.int x2), some (.int x3)]) (st1 := [.int x1, .ref 64, .int (((40 : Int32) * x1) + x2), .ref 66]) (σ1 := (S0, q10.2)) rfl ?_
          by_cases g19 : am_in x1 8 = true
          rotate_left
          · rw [if_neg g19] at h
            cases h
          rw [if_pos g19] at h
          refine am_AW.iald ok_M_set (Nat.le_add_left 1 d) S0_len rfl rfl g19 ?_
          refine am_AW.run am_base_ok ok_M_set (Nat.le_add_left 1 d) 1 (pc1 := 85) (ls1 := [some (.ref 63), some (.int x1), some (.int x2), some (.int x3)]) (st1 := [.int (1 : Int32), .int (q10.2.1 64 x1.toNatClampNeg), .int (((40 : Int32) * x1) + x2), .ref 66]) (σ1 := (S0, q10.2)) rfl ?_
          refine am_AW.brN ok_M_set rfl rfl am_c_ne (fun c20 => ?_) (fun c20 => ?_)
          · rw [if_pos c20] at h
            refine am_AW.run am_base_ok ok_M_set (Nat.le_add_left 1 d) 3 (pc1 := 94) (ls1 := [some (.ref 63), some (.int x1), some (.int x2), some (.int x3)]) (st1 := [.int (x3.toInt16.toInt32), .int (((40 : Int32) * x1) + x2), .ref 66]) (σ1 := (S0, q10.2)) rfl ?_
            exact am_AW.weak (f_M_set_b94_ok hd x1 x2 (((40 : Int32) * x1) + x2) (x3.toInt16.toInt32)  h) (by simp only [am_le, and_self])
          · rw [if_neg c20] at h
            refine am_AW.run am_base_ok ok_M_set (Nat.le_add_left 1 d) 1 (pc1 := 94) (ls1 := [some (.ref 63), some (.int x1), some (.int x2), some (.int x3)]) (st1 := [.int x3, .int (((40 : Int32) * x1) + x2), .ref 66]) (σ1 := (S0, q10.2)) rfl ?_
            exact am_AW.weak (f_M_set_b94_ok hd x1 x2 (((40 : Int32) * x1) + x2) x3  h) (by simp only [am_le, and_self])
    · rw [if_neg c6] at h
      refine am_AW.run am_base_ok ok_M_set (Nat.le_add_left 1 d) 2 (pc1 := 26) (ls1 := [some (.ref 63), some (.int x1), some (.int x2), some (.int x3)]) (st1 := [.int (1 : Int32), .ref 63]) (σ1 := (S0, (am_pI q3.2 63 0 (0 : Int32)))) rfl ?_
      obtain ⟨q23, hq23, h⟩ := Option.bind_eq_some_iff.mp h
      refine am_AW.callV ok_M_set am_nw_ok (As := [.int (1 : Int32)]) (rest := []) rfl rfl rfl oR_M_finding lk_M_71 iM_M_finding sE_M_finding (qc := kq10) rfl rfl rfl rfl (Nat.le_of_ble_eq_true rfl) (f_M_finding_ok (d := d) (by omega) (1 : Int32) hq23) ?_
      change am_AW am_nw ro (d + 1) mr_M_set 29 [some (.ref 63), some (.int x1), some (.int x2), some (.int x3)] [.int q23.1] (S0, q23.2) (some (.int r)) (S0, m')
      obtain ⟨rfl, rfl⟩ := Prod.mk.inj (Option.some.inj h)
      exact am_AW.ret ok_M_set rfl rfl rfl rfl
/-! FriezePolygonsModel.copy(IIIII)I -/
def f_M_copy_b40 (m : am_Mm) : Option (Int32 × am_Mm) :=
  (f_M_finding (1 : Int32) m).bind fun q13 =>
  some (q13.1, q13.2)
def f_M_copy_b116 (m : am_Mm) : Option (Int32 × am_Mm) :=
  (f_M_finding (2 : Int32) m).bind fun q22 =>
  some (q22.1, q22.2)
def f_M_copy_b162 (k138 : Int32 → Int32 → Int32 → Int32 → Int32 → Int32 → Int32 → am_Mm → Option (Int32 × am_Mm)) (x1 : Int32) (x2 : Int32) (x3 : Int32) (x4 : Int32) (x5 : Int32) (x6 : Int32) (x7 : Int32) (s0 : Int32) (m : am_Mm) : Option (Int32 × am_Mm) :=
  if am_in ((((40 : Int32) * x1) + x2) + s0) 320 = true then
    if am_in ((((40 : Int32) * x3) + x4) + s0) 320 = true then
      k138 x1 x2 x3 x4 x5 x6 (x7 + (1 : Int32)) (am_pI m 66 ((((40 : Int32) * x3) + x4) + s0).toNatClampNeg (m.1 66 ((((40 : Int32) * x1) + x2) + s0).toNatClampNeg))
    else none
  else none
def f_M_copy_b138 : Nat → Int32 → Int32 → Int32 → Int32 → Int32 → Int32 → Int32 → am_Mm → Option (Int32 × am_Mm)
  | 0, _, _, _, _, _, _, _, _ => none
  | n + 1, x1, x2, x3, x4, x5, x6, x7, m =>
    if x5 ≤ x7 then
      some (x5, m)
    else
      if x6 = (0 : Int32) then
        f_M_copy_b162 (f_M_copy_b138 n) x1 x2 x3 x4 x5 x6 x7 ((x5 - (1 : Int32)) - x7) m
      else
        f_M_copy_b162 (f_M_copy_b138 n) x1 x2 x3 x4 x5 x6 x7 x7 m
def f_M_copy_b133 (x1 : Int32) (x2 : Int32) (x3 : Int32) (x4 : Int32) (x5 : Int32) (s0 : Int32) (m : am_Mm) : Option (Int32 × am_Mm) :=
  f_M_copy_b138 am_F x1 x2 x3 x4 x5 s0 (0 : Int32) m
def f_M_copy (x1 : Int32) (x2 : Int32) (x3 : Int32) (x4 : Int32) (x5 : Int32) (m : am_Mm) : Option (Int32 × am_Mm) :=
  (f_M_isRow x1 m).bind fun q3 =>
  if q3.1 = (0 : Int32) then
    some ((-1000001 : Int32), q3.2)
  else
    (f_M_isRow x3 q3.2).bind fun q7 =>
    if q7.1 = (0 : Int32) then
      some ((-1000001 : Int32), q7.2)
    else
      if am_in x1 8 = true then
        if ((am_pI q7.2 63 0 (0 : Int32)).1 64 x1.toNatClampNeg) < (0 : Int32) then
          f_M_copy_b40 (am_pI q7.2 63 0 (0 : Int32))
        else
          if am_in x3 8 = true then
            if (0 : Int32) ≤ ((am_pI q7.2 63 0 (0 : Int32)).1 64 x3.toNatClampNeg) then
              if am_in x1 8 = true then
                if am_in x3 8 = true then
                  if ((am_pI q7.2 63 0 (0 : Int32)).1 64 x1.toNatClampNeg) = ((am_pI q7.2 63 0 (0 : Int32)).1 64 x3.toNatClampNeg) then
                    if x2 < (0 : Int32) then
                      f_M_copy_b116 (am_pI q7.2 63 0 (0 : Int32))
                    else
                      if x4 < (0 : Int32) then
                        f_M_copy_b116 (am_pI q7.2 63 0 (0 : Int32))
                      else
                        if x5 < (0 : Int32) then
                          f_M_copy_b116 (am_pI q7.2 63 0 (0 : Int32))
                        else
                          if am_in x1 8 = true then
                            if (0 : Int32) < (lg_cmp ((x2.toInt64) + (x5.toInt64)) (((am_pI q7.2 63 0 (0 : Int32)).1 65 x1.toNatClampNeg).toInt64)) then
                              f_M_copy_b116 (am_pI q7.2 63 0 (0 : Int32))
                            else
                              if am_in x3 8 = true then
                                if (lg_cmp ((x4.toInt64) + (x5.toInt64)) (((am_pI q7.2 63 0 (0 : Int32)).1 65 x3.toNatClampNeg).toInt64)) ≤ (0 : Int32) then
                                  if x2 < x4 then
                                    f_M_copy_b133 x1 x2 x3 x4 x5 (0 : Int32) (am_pI q7.2 63 0 (0 : Int32))
                                  else
                                    f_M_copy_b133 x1 x2 x3 x4 x5 (1 : Int32) (am_pI q7.2 63 0 (0 : Int32))
                                else
                                  f_M_copy_b116 (am_pI q7.2 63 0 (0 : Int32))
                              else none
                          else none
                  else
                    (f_M_finding (5 : Int32) (am_pI q7.2 63 0 (0 : Int32))).bind fun q36 =>
                    some (q36.1, q36.2)
                else none
              else none
            else
              f_M_copy_b40 (am_pI q7.2 63 0 (0 : Int32))
          else none
      else none
set_option maxHeartbeats 4000000 in
set_option maxRecDepth 100000 in
theorem f_M_copy_b40_ok {ro : am_Ro} {d : Nat} (hd : 3 ≤ d + 1) {m m' : am_Mm} {r : Int32} (h : f_M_copy_b40  m = some (r, m')) : am_AW am_nw ro (d + 1) mr_M_copy 40 [some (.ref 63), none, none, none, none, none, none, none, none] [] (S0, m) (some (.int r)) (S0, m') := by
  unfold f_M_copy_b40 at h
  refine am_AW.run am_base_ok ok_M_copy (Nat.le_add_left 1 d) 2 (pc1 := 42) (ls1 := [some (.ref 63), none, none, none, none, none, none, none, none]) (st1 := [.int (1 : Int32), .ref 63]) (σ1 := (S0, m)) rfl ?_
  obtain ⟨q13, hq13, h⟩ := Option.bind_eq_some_iff.mp h
  refine am_AW.callV ok_M_copy am_nw_ok (As := [.int (1 : Int32)]) (rest := []) rfl rfl rfl oR_M_finding lk_M_71 iM_M_finding sE_M_finding (qc := kq10) rfl rfl rfl rfl (Nat.le_of_ble_eq_true rfl) (f_M_finding_ok (d := d) (by omega) (1 : Int32) hq13) ?_
  change am_AW am_nw ro (d + 1) mr_M_copy 45 [some (.ref 63), none, none, none, none, none, none, none, none] [.int q13.1] (S0, q13.2) (some (.int r)) (S0, m')
  obtain ⟨rfl, rfl⟩ := Prod.mk.inj (Option.some.inj h)
  exact am_AW.ret ok_M_copy rfl rfl rfl rfl
set_option maxHeartbeats 4000000 in
set_option maxRecDepth 100000 in
theorem f_M_copy_b116_ok {ro : am_Ro} {d : Nat} (hd : 3 ≤ d + 1) {m m' : am_Mm} {r : Int32} (h : f_M_copy_b116  m = some (r, m')) : am_AW am_nw ro (d + 1) mr_M_copy 116 [some (.ref 63), none, none, none, none, none, none, none, none] [] (S0, m) (some (.int r)) (S0, m') := by
  unfold f_M_copy_b116 at h
  refine am_AW.run am_base_ok ok_M_copy (Nat.le_add_left 1 d) 2 (pc1 := 118) (ls1 := [some (.ref 63), none, none, none, none, none, none, none, none]) (st1 := [.int (2 : Int32), .ref 63]) (σ1 := (S0, m)) rfl ?_
  obtain ⟨q22, hq22, h⟩ := Option.bind_eq_some_iff.mp h
  refine am_AW.callV ok_M_copy am_nw_ok (As := [.int (2 : Int32)]) (rest := []) rfl rfl rfl oR_M_finding lk_M_71 iM_M_finding sE_M_finding (qc := kq10) rfl rfl rfl rfl (Nat.le_of_ble_eq_true rfl) (f_M_finding_ok (d := d) (by omega) (2 : Int32) hq22) ?_
  change am_AW am_nw ro (d + 1) mr_M_copy 121 [some (.ref 63), none, none, none, none, none, none, none, none] [.int q22.1] (S0, q22.2) (some (.int r)) (S0, m')
  obtain ⟨rfl, rfl⟩ := Prod.mk.inj (Option.some.inj h)
  exact am_AW.ret ok_M_copy rfl rfl rfl rfl
set_option maxHeartbeats 4000000 in
set_option maxRecDepth 100000 in
theorem f_M_copy_b162_ok {ro : am_Ro} {d : Nat} (hd : 3 ≤ d + 1) {k138 : Int32 → Int32 → Int32 → Int32 → Int32 → Int32 → Int32 → am_Mm → Option (Int32 × am_Mm)} (hk138 : ∀ (x1 : Int32) (x2 : Int32) (x3 : Int32) (x4 : Int32) (x5 : Int32) (x6 : Int32) (x7 : Int32) (m m' : am_Mm) (r : Int32), k138 x1 x2 x3 x4 x5 x6 x7 m = some (r, m') → am_AW am_nw ro (d + 1) mr_M_copy 138 [some (.ref 63), some (.int x1), some (.int x2), some (.int x3), some (.int x4), some (.int x5), some (.int x6), some (.int x7), none] [] (S0, m) (some (.int r)) (S0, m')) (x1 : Int32) (x2 : Int32) (x3 : Int32) (x4 : Int32) (x5 : Int32) (x6 : Int32) (x7 : Int32) (s0 : Int32) {m m' : am_Mm} {r : Int32} (h : f_M_copy_b162 k138 x1 x2 x3 x4 x5 x6 x7 s0 m = some (r, m')) : am_AW am_nw ro (d + 1) mr_M_copy 162 [some (.ref 63), some (.int x1), some (.int x2), some (.int x3), some (.int x4), some (.int x5), some (.int x6), some (.int x7), none] [.int s0] (S0, m) (some (.int r)) (S0, m') := by
  unfold f_M_copy_b162 at h
  refine am_AW.run am_base_ok ok_M_copy (Nat.le_add_left 1 d) 19 (pc1 := 191) (ls1 := [some (.ref 63), some (.int x1), some (.int x2), some (.int x3), some (.int x4), some (.int x5), some (.int x6), some (.int x7), some (.int s0)]) (st1 := [.int ((((40 : Int32) * x1) + x2) + s0), .ref 66, .int ((((40 : Int32) * x3) + x4) + s0), .ref 66]) (σ1 := (S0, m)) rfl ?_
  by_cases g32 : am_in ((((40 : Int32) * x1) + x2) + s0) 320 = true
  rotate_left
  · rw [if_neg g32] at h
    cases h
  rw [if_pos g32] at h
  refine am_AW.iald ok_M_copy (Nat.le_add_left 1 d) S0_len rfl rfl g32 ?_
  by_cases g33 : am_in ((((40 : Int32) * x3) + x4) + s0) 320 = true
  rotate_left
  · rw [if_neg g33] at h
    cases h
  rw [if_pos g33] at h
  refine am_AW.iast ok_M_copy (Nat.le_add_left 1 d) rfl rfl g33 ?_
  change am_AW am_nw ro (d + 1) mr_M_copy 193 [some (.ref 63), some (.int x1), some (.int x2), some (.int x3), some (.int x4), some (.int x5), some (.int x6), some (.int x7), some (.int s0)] [] (S0, (am_pI m 66 ((((40 : Int32) * x3) + x4) + s0).toNatClampNeg (m.1 66 ((((40 : Int32) * x1) + x2) + s0).toNatClampNeg))) (some (.int r)) (S0, m')
  refine am_AW.run am_base_ok ok_M_copy (Nat.le_add_left 1 d) 2 (pc1 := 138) (ls1 := [some (.ref 63), some (.int x1), some (.int x2), some (.int x3), some (.int x4), some (.int x5), some (.int x6), some (.int (x7 + (1 : Int32))), some (.int s0)]) (st1 := []) (σ1 := (S0, (am_pI m 66 ((((40 : Int32) * x3) + x4) + s0).toNatClampNeg (m.1 66 ((((40 : Int32) * x1) + x2) + s0).toNatClampNeg)))) rfl ?_
  exact am_AW.weak (hk138 x1 x2 x3 x4 x5 x6 (x7 + (1 : Int32))  _ _ _ h) (by simp only [am_le, and_self])
set_option maxHeartbeats 4000000 in
set_option maxRecDepth 100000 in
theorem f_M_copy_b138_all {ro : am_Ro} {d : Nat} (hd : 3 ≤ d + 1) : ∀ (n : Nat) (x1 : Int32) (x2 : Int32) (x3 : Int32) (x4 : Int32) (x5 : Int32) (x6 : Int32) (x7 : Int32) (m m' : am_Mm) (r : Int32), f_M_copy_b138 n x1 x2 x3 x4 x5 x6 x7 m = some (r, m') → am_AW am_nw ro (d + 1) mr_M_copy 138 [some (.ref 63), some (.int x1), some (.int x2), some (.int x3), some (.int x4), some (.int x5), some (.int x6), some (.int x7), none] [] (S0, m) (some (.int r)) (S0, m') := by
  intro n
  induction n with
  | zero =>
    intro x1 x2 x3 x4 x5 x6 x7 m m' r h
    rw [f_M_copy_b138] at h
    cases h
  | succ n ih =>
    intro x1 x2 x3 x4 x5 x6 x7 m m' r h
    rw [f_M_copy_b138] at h
    refine am_AW.run am_base_ok ok_M_copy (Nat.le_add_left 1 d) 2 (pc1 := 142) (ls1 := [some (.ref 63), some (.int x1), some (.int x2), some (.int x3), some (.int x4), some (.int x5), some (.int x6), some (.int x7), none]) (st1 := [.int x5, .int x7]) (σ1 := (S0, m)) rfl ?_
    refine am_AW.brP ok_M_copy rfl rfl am_c_ge (fun c30 => ?_) (fun c30 => ?_)
    · rw [if_pos c30] at h
      refine am_AW.run am_base_ok ok_M_copy (Nat.le_add_left 1 d) 1 (pc1 := 201) (ls1 := [some (.ref 63), some (.int x1), some (.int x2), some (.int x3), some (.int x4), some (.int x5), some (.int x6), some (.int x7), none]) (st1 := [.int x5]) (σ1 := (S0, m)) rfl ?_
      obtain ⟨rfl, rfl⟩ := Prod.mk.inj (Option.some.inj h)
      exact am_AW.ret ok_M_copy rfl rfl rfl rfl
    · rw [if_neg c30] at h
      refine am_AW.run am_base_ok ok_M_copy (Nat.le_add_left 1 d) 1 (pc1 := 147) (ls1 := [some (.ref 63), some (.int x1), some (.int x2), some (.int x3), some (.int x4), some (.int x5), some (.int x6), some (.int x7), none]) (st1 := [.int x6]) (σ1 := (S0, m)) rfl ?_
      refine am_AW.brP ok_M_copy rfl rfl am_c_eq (fun c31 => ?_) (fun c31 => ?_)
      · rw [if_pos c31] at h
        refine am_AW.run am_base_ok ok_M_copy (Nat.le_add_left 1 d) 5 (pc1 := 162) (ls1 := [some (.ref 63), some (.int x1), some (.int x2), some (.int x3), some (.int x4), some (.int x5), some (.int x6), some (.int x7), none]) (st1 := [.int ((x5 - (1 : Int32)) - x7)]) (σ1 := (S0, m)) rfl ?_
        exact am_AW.weak (f_M_copy_b162_ok hd (ih) x1 x2 x3 x4 x5 x6 x7 ((x5 - (1 : Int32)) - x7)  h) (by simp only [am_le, and_self])
      · rw [if_neg c31] at h
        refine am_AW.run am_base_ok ok_M_copy (Nat.le_add_left 1 d) 2 (pc1 := 162) (ls1 := [some (.ref 63), some (.int x1), some (.int x2), some (.int x3), some (.int x4), some (.int x5), some (.int x6), some (.int x7), none]) (st1 := [.int x7]) (σ1 := (S0, m)) rfl ?_
        exact am_AW.weak (f_M_copy_b162_ok hd (ih) x1 x2 x3 x4 x5 x6 x7 x7  h) (by simp only [am_le, and_self])
set_option maxHeartbeats 4000000 in
set_option maxRecDepth 100000 in
theorem f_M_copy_b138_ok {ro : am_Ro} {d : Nat} (hd : 3 ≤ d + 1) (x1 : Int32) (x2 : Int32) (x3 : Int32) (x4 : Int32) (x5 : Int32) (x6 : Int32) (x7 : Int32) {m m' : am_Mm} {r : Int32} {n : Nat} (h : f_M_copy_b138 n x1 x2 x3 x4 x5 x6 x7 m = some (r, m')) : am_AW am_nw ro (d + 1) mr_M_copy 138 [some (.ref 63), some (.int x1), some (.int x2), some (.int x3), some (.int x4), some (.int x5), some (.int x6), some (.int x7), none] [] (S0, m) (some (.int r)) (S0, m') :=
  f_M_copy_b138_all hd n x1 x2 x3 x4 x5 x6 x7  m m' r h
set_option maxHeartbeats 4000000 in
set_option maxRecDepth 100000 in
theorem f_M_copy_b133_ok {ro : am_Ro} {d : Nat} (hd : 3 ≤ d + 1) (x1 : Int32) (x2 : Int32) (x3 : Int32) (x4 : Int32) (x5 : Int32) (s0 : Int32) {m m' : am_Mm} {r : Int32} (h : f_M_copy_b133 x1 x2 x3 x4 x5 s0 m = some (r, m')) : am_AW am_nw ro (d + 1) mr_M_copy 133 [some (.ref 63), some (.int x1), some (.int x2), some (.int x3), some (.int x4), some (.int x5), none, none, none] [.int s0] (S0, m) (some (.int r)) (S0, m') := by
  unfold f_M_copy_b133 at h
  refine am_AW.run am_base_ok ok_M_copy (Nat.le_add_left 1 d) 3 (pc1 := 138) (ls1 := [some (.ref 63), some (.int x1), some (.int x2), some (.int x3), some (.int x4), some (.int x5), some (.int s0), some (.int (0 : Int32)), none]) (st1 := []) (σ1 := (S0, m)) rfl ?_
  exact am_AW.weak (f_M_copy_b138_ok hd x1 x2 x3 x4 x5 s0 (0 : Int32)  h) (by simp only [am_le, and_self])
set_option maxHeartbeats 4000000 in
set_option maxRecDepth 100000 in
theorem f_M_copy_ok {ro : am_Ro} {d : Nat} (hd : 3 ≤ d) (x1 : Int32) (x2 : Int32) (x3 : Int32) (x4 : Int32) (x5 : Int32) {m m' : am_Mm} {r : Int32} (h : f_M_copy x1 x2 x3 x4 x5 m = some (r, m')) : am_Mt am_nw ro d mr_M_copy [.ref 63, .int x1, .int x2, .int x3, .int x4, .int x5] (S0, m) (some (.int r)) (S0, m') := by
  obtain ⟨d, rfl⟩ : ∃ d0, d = d0 + 1 := ⟨d - 1, by omega⟩
  refine am_Mt.of (by decide +kernel) (Nat.le_of_ble_eq_true rfl) ?_
  change am_AW am_nw ro (d + 1) mr_M_copy 0 [some (.ref 63), some (.int x1), some (.int x2), some (.int x3), some (.int x4), some (.int x5), none, none, none] [] (S0, m) (some (.int r)) (S0, m')
  unfold f_M_copy at h
  refine am_AW.run am_base_ok ok_M_copy (Nat.le_add_left 1 d) 1 (pc1 := 1) (ls1 := [some (.ref 63), some (.int x1), some (.int x2), some (.int x3), some (.int x4), some (.int x5), none, none, none]) (st1 := [.int x1]) (σ1 := (S0, m)) rfl ?_
  obtain ⟨q3, hq3, h⟩ := Option.bind_eq_some_iff.mp h
  refine am_AW.callS ok_M_copy am_nw_ok (As := [.int x1]) (rest := []) rfl rfl rfl oR_M_isRow lk_M_64 sT_M_isRow rfl (Nat.le_of_ble_eq_true rfl) (f_M_isRow_ok (d := d) (by omega) x1 hq3) ?_
  change am_AW am_nw ro (d + 1) mr_M_copy 4 [some (.ref 63), some (.int x1), some (.int x2), some (.int x3), some (.int x4), some (.int x5), none, none, none] [.int q3.1] (S0, q3.2) (some (.int r)) (S0, m')
  refine am_AW.brP ok_M_copy rfl rfl am_c_eq (fun c4 => ?_) (fun c4 => ?_)
  · rw [if_pos c4] at h
    refine am_AW.run am_base_ok ok_M_copy (Nat.le_add_left 1 d) 1 (pc1 := 16) (ls1 := [some (.ref 63), some (.int x1), some (.int x2), some (.int x3), some (.int x4), some (.int x5), none, none, none]) (st1 := [.int (-1000001 : Int32)]) (σ1 := (S0, q3.2)) rfl ?_
    obtain ⟨rfl, rfl⟩ := Prod.mk.inj (Option.some.inj h)
    exact am_AW.ret ok_M_copy rfl rfl rfl rfl
  · rw [if_neg c4] at h
    refine am_AW.run am_base_ok ok_M_copy (Nat.le_add_left 1 d) 1 (pc1 := 8) (ls1 := [some (.ref 63), some (.int x1), some (.int x2), some (.int x3), some (.int x4), some (.int x5), none, none, none]) (st1 := [.int x3]) (σ1 := (S0, q3.2)) rfl ?_
    obtain ⟨q7, hq7, h⟩ := Option.bind_eq_some_iff.mp h
    refine am_AW.callS ok_M_copy am_nw_ok (As := [.int x3]) (rest := []) rfl rfl rfl oR_M_isRow lk_M_64 sT_M_isRow rfl (Nat.le_of_ble_eq_true rfl) (f_M_isRow_ok (d := d) (by omega) x3 hq7) ?_
    change am_AW am_nw ro (d + 1) mr_M_copy 11 [some (.ref 63), some (.int x1), some (.int x2), some (.int x3), some (.int x4), some (.int x5), none, none, none] [.int q7.1] (S0, q7.2) (some (.int r)) (S0, m')
    refine am_AW.brN ok_M_copy rfl rfl am_c_ne (fun c8 => ?_) (fun c8 => ?_)
    · rw [if_pos c8] at h
      refine am_AW.run am_base_ok ok_M_copy (Nat.le_add_left 1 d) 1 (pc1 := 16) (ls1 := [some (.ref 63), some (.int x1), some (.int x2), some (.int x3), some (.int x4), some (.int x5), none, none, none]) (st1 := [.int (-1000001 : Int32)]) (σ1 := (S0, q7.2)) rfl ?_
      obtain ⟨rfl, rfl⟩ := Prod.mk.inj (Option.some.inj h)
      exact am_AW.ret ok_M_copy rfl rfl rfl rfl
    · rw [if_neg c8] at h
      refine am_AW.run am_base_ok ok_M_copy (Nat.le_add_left 1 d) 2 (pc1 := 19) (ls1 := [some (.ref 63), some (.int x1), some (.int x2), some (.int x3), some (.int x4), some (.int x5), none, none, none]) (st1 := [.int (0 : Int32), .ref 63]) (σ1 := (S0, q7.2)) rfl ?_
      refine am_AW.puti ok_M_copy (Nat.le_add_left 1 d) rfl rfl rfl (qc := kq10) rfl (by decide) ty_10_0 ?_
      refine am_AW.run am_base_ok ok_M_copy (Nat.le_add_left 1 d) 3 (pc1 := 27) (ls1 := [some (.ref 63), some (.int x1), some (.int x2), some (.int x3), some (.int x4), some (.int x5), none, none, none]) (st1 := [.int x1, .ref 64]) (σ1 := (S0, (am_pI q7.2 63 0 (0 : Int32)))) rfl ?_
      by_cases g9 : am_in x1 8 = true
      rotate_left
      · rw [if_neg g9] at h
        cases h
      rw [if_pos g9] at h
      refine am_AW.iald ok_M_copy (Nat.le_add_left 1 d) S0_len rfl rfl g9 ?_
      refine am_AW.brP ok_M_copy rfl rfl am_c_lt (fun c10 => ?_) (fun c10 => ?_)
      · rw [if_pos c10] at h
        exact am_AW.weak (f_M_copy_b40_ok hd   h) (by simp only [am_le, and_self])
      · rw [if_neg c10] at h
        refine am_AW.run am_base_ok ok_M_copy (Nat.le_add_left 1 d) 3 (pc1 := 36) (ls1 := [some (.ref 63), some (.int x1), some (.int x2), some (.int x3), some (.int x4), some (.int x5), none, none, none]) (st1 := [.int x3, .ref 64]) (σ1 := (S0, (am_pI q7.2 63 0 (0 : Int32)))) rfl ?_
        by_cases g14 : am_in x3 8 = true
        rotate_left
        · rw [if_neg g14] at h
          cases h
        rw [if_pos g14] at h
        refine am_AW.iald ok_M_copy (Nat.le_add_left 1 d) S0_len rfl rfl g14 ?_
        refine am_AW.brP ok_M_copy rfl rfl am_c_ge (fun c15 => ?_) (fun c15 => ?_)
        · rw [if_pos c15] at h
          refine am_AW.run am_base_ok ok_M_copy (Nat.le_add_left 1 d) 3 (pc1 := 51) (ls1 := [some (.ref 63), some (.int x1), some (.int x2), some (.int x3), some (.int x4), some (.int x5), none, none, none]) (st1 := [.int x1, .ref 64]) (σ1 := (S0, (am_pI q7.2 63 0 (0 : Int32)))) rfl ?_
          by_cases g16 : am_in x1 8 = true
          rotate_left
          · rw [if_neg g16] at h
            cases h
          rw [if_pos g16] at h
          refine am_AW.iald ok_M_copy (Nat.le_add_left 1 d) S0_len rfl rfl g16 ?_
          refine am_AW.run am_base_ok ok_M_copy (Nat.le_add_left 1 d) 3 (pc1 := 57) (ls1 := [some (.ref 63), some (.int x1), some (.int x2), some (.int x3), some (.int x4), some (.int x5), none, none, none]) (st1 := [.int x3, .ref 64, .int ((am_pI q7.2 63 0 (0 : Int32)).1 64 x1.toNatClampNeg)]) (σ1 := (S0, (am_pI q7.2 63 0 (0 : Int32)))) rfl ?_
          by_cases g17 : am_in x3 8 = true
          rotate_left
          · rw [if_neg g17] at h
            cases h
          rw [if_pos g17] at h
          refine am_AW.iald ok_M_copy (Nat.le_add_left 1 d) S0_len rfl rfl g17 ?_
          refine am_AW.brP ok_M_copy rfl rfl am_c_eq (fun c18 => ?_) (fun c18 => ?_)
          · rw [if_pos c18] at h
            refine am_AW.run am_base_ok ok_M_copy (Nat.le_add_left 1 d) 1 (pc1 := 68) (ls1 := [some (.ref 63), some (.int x1), some (.int x2), some (.int x3), some (.int x4), some (.int x5), none, none, none]) (st1 := [.int x2]) (σ1 := (S0, (am_pI q7.2 63 0 (0 : Int32)))) rfl ?_
            refine am_AW.brP ok_M_copy rfl rfl am_c_lt (fun c19 => ?_) (fun c19 => ?_)
            · rw [if_pos c19] at h
              exact am_AW.weak (f_M_copy_b116_ok hd   h) (by simp only [am_le, and_self])
            · rw [if_neg c19] at h
              refine am_AW.run am_base_ok ok_M_copy (Nat.le_add_left 1 d) 1 (pc1 := 73) (ls1 := [some (.ref 63), some (.int x1), some (.int x2), some (.int x3), some (.int x4), some (.int x5), none, none, none]) (st1 := [.int x4]) (σ1 := (S0, (am_pI q7.2 63 0 (0 : Int32)))) rfl ?_
              refine am_AW.brP ok_M_copy rfl rfl am_c_lt (fun c23 => ?_) (fun c23 => ?_)
              · rw [if_pos c23] at h
                exact am_AW.weak (f_M_copy_b116_ok hd   h) (by simp only [am_le, and_self])
              · rw [if_neg c23] at h
                refine am_AW.run am_base_ok ok_M_copy (Nat.le_add_left 1 d) 1 (pc1 := 78) (ls1 := [some (.ref 63), some (.int x1), some (.int x2), some (.int x3), some (.int x4), some (.int x5), none, none, none]) (st1 := [.int x5]) (σ1 := (S0, (am_pI q7.2 63 0 (0 : Int32)))) rfl ?_
                refine am_AW.brP ok_M_copy rfl rfl am_c_lt (fun c24 => ?_) (fun c24 => ?_)
                · rw [if_pos c24] at h
                  exact am_AW.weak (f_M_copy_b116_ok hd   h) (by simp only [am_le, and_self])
                · rw [if_neg c24] at h
                  refine am_AW.run am_base_ok ok_M_copy (Nat.le_add_left 1 d) 8 (pc1 := 92) (ls1 := [some (.ref 63), some (.int x1), some (.int x2), some (.int x3), some (.int x4), some (.int x5), none, none, none]) (st1 := [.int x1, .ref 65, .long ((x2.toInt64) + (x5.toInt64))]) (σ1 := (S0, (am_pI q7.2 63 0 (0 : Int32)))) rfl ?_
                  by_cases g25 : am_in x1 8 = true
                  rotate_left
                  · rw [if_neg g25] at h
                    cases h
                  rw [if_pos g25] at h
                  refine am_AW.iald ok_M_copy (Nat.le_add_left 1 d) S0_len rfl rfl g25 ?_
                  refine am_AW.run am_base_ok ok_M_copy (Nat.le_add_left 1 d) 2 (pc1 := 95) (ls1 := [some (.ref 63), some (.int x1), some (.int x2), some (.int x3), some (.int x4), some (.int x5), none, none, none]) (st1 := [.int (lg_cmp ((x2.toInt64) + (x5.toInt64)) (((am_pI q7.2 63 0 (0 : Int32)).1 65 x1.toNatClampNeg).toInt64))]) (σ1 := (S0, (am_pI q7.2 63 0 (0 : Int32)))) rfl ?_
                  refine am_AW.brP ok_M_copy rfl rfl am_c_gt (fun c26 => ?_) (fun c26 => ?_)
                  · rw [if_pos c26] at h
                    exact am_AW.weak (f_M_copy_b116_ok hd   h) (by simp only [am_le, and_self])
                  · rw [if_neg c26] at h
                    refine am_AW.run am_base_ok ok_M_copy (Nat.le_add_left 1 d) 8 (pc1 := 110) (ls1 := [some (.ref 63), some (.int x1), some (.int x2), some (.int x3), some (.int x4), some (.int x5), none, none, none]) (st1 := [.int x3, .ref 65, .long ((x4.toInt64) + (x5.toInt64))]) (σ1 := (S0, (am_pI q7.2 63 0 (0 : Int32)))) rfl ?_
                    by_cases g27 : am_in x3 8 = true
                    rotate_left
                    · rw [if_neg g27] at h
                      cases h
                    rw [if_pos g27] at h
                    refine am_AW.iald ok_M_copy (Nat.le_add_left 1 d) S0_len rfl rfl g27 ?_
                    refine am_AW.run am_base_ok ok_M_copy (Nat.le_add_left 1 d) 2 (pc1 := 113) (ls1 := [some (.ref 63), some (.int x1), some (.int x2), some (.int x3), some (.int x4), some (.int x5), none, none, none]) (st1 := [.int (lg_cmp ((x4.toInt64) + (x5.toInt64)) (((am_pI q7.2 63 0 (0 : Int32)).1 65 x3.toNatClampNeg).toInt64))]) (σ1 := (S0, (am_pI q7.2 63 0 (0 : Int32)))) rfl ?_
                    refine am_AW.brP ok_M_copy rfl rfl am_c_le (fun c28 => ?_) (fun c28 => ?_)
                    · rw [if_pos c28] at h
                      refine am_AW.run am_base_ok ok_M_copy (Nat.le_add_left 1 d) 2 (pc1 := 125) (ls1 := [some (.ref 63), some (.int x1), some (.int x2), some (.int x3), some (.int x4), some (.int x5), none, none, none]) (st1 := [.int x4, .int x2]) (σ1 := (S0, (am_pI q7.2 63 0 (0 : Int32)))) rfl ?_
                      refine am_AW.brP ok_M_copy rfl rfl am_c_lt (fun c29 => ?_) (fun c29 => ?_)
                      · rw [if_pos c29] at h
                        refine am_AW.run am_base_ok ok_M_copy (Nat.le_add_left 1 d) 1 (pc1 := 133) (ls1 := [some (.ref 63), some (.int x1), some (.int x2), some (.int x3), some (.int x4), some (.int x5), none, none, none]) (st1 := [.int (0 : Int32)]) (σ1 := (S0, (am_pI q7.2 63 0 (0 : Int32)))) rfl ?_
                        exact am_AW.weak (f_M_copy_b133_ok hd x1 x2 x3 x4 x5 (0 : Int32)  h) (by simp only [am_le, and_self])
                      · rw [if_neg c29] at h
                        refine am_AW.run am_base_ok ok_M_copy (Nat.le_add_left 1 d) 2 (pc1 := 133) (ls1 := [some (.ref 63), some (.int x1), some (.int x2), some (.int x3), some (.int x4), some (.int x5), none, none, none]) (st1 := [.int (1 : Int32)]) (σ1 := (S0, (am_pI q7.2 63 0 (0 : Int32)))) rfl ?_
                        exact am_AW.weak (f_M_copy_b133_ok hd x1 x2 x3 x4 x5 (1 : Int32)  h) (by simp only [am_le, and_self])
                    · rw [if_neg c28] at h
                      exact am_AW.weak (f_M_copy_b116_ok hd   h) (by simp only [am_le, and_self])
          · rw [if_neg c18] at h
            refine am_AW.run am_base_ok ok_M_copy (Nat.le_add_left 1 d) 2 (pc1 := 63) (ls1 := [some (.ref 63), some (.int x1), some (.int x2), some (.int x3), some (.int x4), some (.int x5), none, none, none]) (st1 := [.int (5 : Int32), .ref 63]) (σ1 := (S0, (am_pI q7.2 63 0 (0 : Int32)))) rfl ?_
            obtain ⟨q36, hq36, h⟩ := Option.bind_eq_some_iff.mp h
            refine am_AW.callV ok_M_copy am_nw_ok (As := [.int (5 : Int32)]) (rest := []) rfl rfl rfl oR_M_finding lk_M_71 iM_M_finding sE_M_finding (qc := kq10) rfl rfl rfl rfl (Nat.le_of_ble_eq_true rfl) (f_M_finding_ok (d := d) (by omega) (5 : Int32) hq36) ?_
            change am_AW am_nw ro (d + 1) mr_M_copy 66 [some (.ref 63), some (.int x1), some (.int x2), some (.int x3), some (.int x4), some (.int x5), none, none, none] [.int q36.1] (S0, q36.2) (some (.int r)) (S0, m')
            obtain ⟨rfl, rfl⟩ := Prod.mk.inj (Option.some.inj h)
            exact am_AW.ret ok_M_copy rfl rfl rfl rfl
        · rw [if_neg c15] at h
          exact am_AW.weak (f_M_copy_b40_ok hd   h) (by simp only [am_le, and_self])
/-! FriezePolygonsModel.drop(I)I -/
def f_M_drop (x1 : Int32) (m : am_Mm) : Option (Int32 × am_Mm) :=
  (f_M_isRow x1 m).bind fun q3 =>
  if q3.1 = (0 : Int32) then
    some ((-1000001 : Int32), q3.2)
  else
    if am_in x1 8 = true then
      if (0 : Int32) ≤ ((am_pI q3.2 63 0 (0 : Int32)).1 64 x1.toNatClampNeg) then
        if am_in x1 8 = true then
          if am_in x1 8 = true then
            some (((am_pI (am_pI q3.2 63 0 (0 : Int32)) 64 x1.toNatClampNeg (-1 : Int32)).1 65 x1.toNatClampNeg), (am_pI (am_pI q3.2 63 0 (0 : Int32)) 64 x1.toNatClampNeg (-1 : Int32)))
          else none
        else none
      else
        (f_M_finding (1 : Int32) (am_pI q3.2 63 0 (0 : Int32))).bind fun q11 =>
        some (q11.1, q11.2)
    else none
set_option maxHeartbeats 4000000 in
set_option maxRecDepth 100000 in
theorem f_M_drop_ok {ro : am_Ro} {d : Nat} (hd : 3 ≤ d) (x1 : Int32) {m m' : am_Mm} {r : Int32} (h : f_M_drop x1 m = some (r, m')) : am_Mt am_nw ro d mr_M_drop [.ref 63, .int x1] (S0, m) (some (.int r)) (S0, m') := by
  obtain ⟨d, rfl⟩ : ∃ d0, d = d0 + 1 := ⟨d - 1, by omega⟩
  refine am_Mt.of (by decide +kernel) (Nat.le_of_ble_eq_true rfl) ?_
  change am_AW am_nw ro (d + 1) mr_M_drop 0 [some (.ref 63), some (.int x1)] [] (S0, m) (some (.int r)) (S0, m')
  unfold f_M_drop at h
  refine am_AW.run am_base_ok ok_M_drop (Nat.le_add_left 1 d) 1 (pc1 := 1) (ls1 := [some (.ref 63), some (.int x1)]) (st1 := [.int x1]) (σ1 := (S0, m)) rfl ?_
  obtain ⟨q3, hq3, h⟩ := Option.bind_eq_some_iff.mp h
  refine am_AW.callS ok_M_drop am_nw_ok (As := [.int x1]) (rest := []) rfl rfl rfl oR_M_isRow lk_M_64 sT_M_isRow rfl (Nat.le_of_ble_eq_true rfl) (f_M_isRow_ok (d := d) (by omega) x1 hq3) ?_
  change am_AW am_nw ro (d + 1) mr_M_drop 4 [some (.ref 63), some (.int x1)] [.int q3.1] (S0, q3.2) (some (.int r)) (S0, m')
  refine am_AW.brN ok_M_drop rfl rfl am_c_ne (fun c4 => ?_) (fun c4 => ?_)
  · rw [if_pos c4] at h
    refine am_AW.run am_base_ok ok_M_drop (Nat.le_add_left 1 d) 1 (pc1 := 9) (ls1 := [some (.ref 63), some (.int x1)]) (st1 := [.int (-1000001 : Int32)]) (σ1 := (S0, q3.2)) rfl ?_
    obtain ⟨rfl, rfl⟩ := Prod.mk.inj (Option.some.inj h)
    exact am_AW.ret ok_M_drop rfl rfl rfl rfl
  · rw [if_neg c4] at h
    refine am_AW.run am_base_ok ok_M_drop (Nat.le_add_left 1 d) 2 (pc1 := 12) (ls1 := [some (.ref 63), some (.int x1)]) (st1 := [.int (0 : Int32), .ref 63]) (σ1 := (S0, q3.2)) rfl ?_
    refine am_AW.puti ok_M_drop (Nat.le_add_left 1 d) rfl rfl rfl (qc := kq10) rfl (by decide) ty_10_0 ?_
    refine am_AW.run am_base_ok ok_M_drop (Nat.le_add_left 1 d) 3 (pc1 := 20) (ls1 := [some (.ref 63), some (.int x1)]) (st1 := [.int x1, .ref 64]) (σ1 := (S0, (am_pI q3.2 63 0 (0 : Int32)))) rfl ?_
    by_cases g5 : am_in x1 8 = true
    rotate_left
    · rw [if_neg g5] at h
      cases h
    rw [if_pos g5] at h
    refine am_AW.iald ok_M_drop (Nat.le_add_left 1 d) S0_len rfl rfl g5 ?_
    refine am_AW.brP ok_M_drop rfl rfl am_c_ge (fun c6 => ?_) (fun c6 => ?_)
    · rw [if_pos c6] at h
      refine am_AW.run am_base_ok ok_M_drop (Nat.le_add_left 1 d) 4 (pc1 := 36) (ls1 := [some (.ref 63), some (.int x1)]) (st1 := [.int (-1 : Int32), .int x1, .ref 64]) (σ1 := (S0, (am_pI q3.2 63 0 (0 : Int32)))) rfl ?_
      by_cases g7 : am_in x1 8 = true
      rotate_left
      · rw [if_neg g7] at h
        cases h
      rw [if_pos g7] at h
      refine am_AW.iast ok_M_drop (Nat.le_add_left 1 d) rfl rfl g7 ?_
      change am_AW am_nw ro (d + 1) mr_M_drop 37 [some (.ref 63), some (.int x1)] [] (S0, (am_pI (am_pI q3.2 63 0 (0 : Int32)) 64 x1.toNatClampNeg (-1 : Int32))) (some (.int r)) (S0, m')
      refine am_AW.run am_base_ok ok_M_drop (Nat.le_add_left 1 d) 3 (pc1 := 42) (ls1 := [some (.ref 63), some (.int x1)]) (st1 := [.int x1, .ref 65]) (σ1 := (S0, (am_pI (am_pI q3.2 63 0 (0 : Int32)) 64 x1.toNatClampNeg (-1 : Int32)))) rfl ?_
      by_cases g8 : am_in x1 8 = true
      rotate_left
      · rw [if_neg g8] at h
        cases h
      rw [if_pos g8] at h
      refine am_AW.iald ok_M_drop (Nat.le_add_left 1 d) S0_len rfl rfl g8 ?_
      obtain ⟨rfl, rfl⟩ := Prod.mk.inj (Option.some.inj h)
      exact am_AW.ret ok_M_drop rfl rfl rfl rfl
    · rw [if_neg c6] at h
      refine am_AW.run am_base_ok ok_M_drop (Nat.le_add_left 1 d) 2 (pc1 := 26) (ls1 := [some (.ref 63), some (.int x1)]) (st1 := [.int (1 : Int32), .ref 63]) (σ1 := (S0, (am_pI q3.2 63 0 (0 : Int32)))) rfl ?_
      obtain ⟨q11, hq11, h⟩ := Option.bind_eq_some_iff.mp h
      refine am_AW.callV ok_M_drop am_nw_ok (As := [.int (1 : Int32)]) (rest := []) rfl rfl rfl oR_M_finding lk_M_71 iM_M_finding sE_M_finding (qc := kq10) rfl rfl rfl rfl (Nat.le_of_ble_eq_true rfl) (f_M_finding_ok (d := d) (by omega) (1 : Int32) hq11) ?_
      change am_AW am_nw ro (d + 1) mr_M_drop 29 [some (.ref 63), some (.int x1)] [.int q11.1] (S0, q11.2) (some (.int r)) (S0, m')
      obtain ⟨rfl, rfl⟩ := Prod.mk.inj (Option.some.inj h)
      exact am_AW.ret ok_M_drop rfl rfl rfl rfl
/-! FriezePolygonsModel.isFree([II)Z -/
def f_M_isFree_b69 (k23 : Nat → Int32 → Int32 → Int32 → Int32 → am_Mm → Option (Int32 × am_Mm)) (p0 : Nat) (x1 : Int32) (x2 : Int32) (x4 : Int32) (s0 : Int32) (m : am_Mm) : Option (Int32 × am_Mm) :=
  k23 p0 x1 x2 s0 (x4 + (1 : Int32)) m
def f_M_isFree_b23 : Nat → Nat → Int32 → Int32 → Int32 → Int32 → am_Mm → Option (Int32 × am_Mm)
  | 0, _, _, _, _, _, _ => none
  | n + 1, p0, x1, x2, x3, x4, m =>
    (f_M_manyCuts x2 m).bind fun q9 =>
    if q9.1 ≤ x4 then
      if x3 = (0 : Int32) ∨ x3 = (1 : Int32) then
        some (x3, q9.2)
      else none
    else
      if x3 = (0 : Int32) then
        f_M_isFree_b69 (f_M_isFree_b23 n) p0 x1 x2 x4 (0 : Int32) q9.2
      else
        (f_M_has (q9.2.1 p0 1) x4 q9.2).bind fun q16 =>
        if q16.1 = (0 : Int32) then
          f_M_isFree_b69 (f_M_isFree_b23 n) p0 x1 x2 x4 (1 : Int32) q16.2
        else
          (f_M_endsOf x2 x4 q16.2).bind fun q20 =>
          (f_M_endsOf x2 x1 q20.2).bind fun q23 =>
          (f_M_doCross q20.1 q23.1 q23.2).bind fun q26 =>
          if q26.1 = (0 : Int32) then
            f_M_isFree_b69 (f_M_isFree_b23 n) p0 x1 x2 x4 (1 : Int32) q26.2
          else
            f_M_isFree_b69 (f_M_isFree_b23 n) p0 x1 x2 x4 (0 : Int32) q26.2
def f_M_isFree_b19 (p0 : Nat) (x1 : Int32) (x2 : Int32) (s0 : Int32) (m : am_Mm) : Option (Int32 × am_Mm) :=
  f_M_isFree_b23 am_F p0 x1 x2 s0 (0 : Int32) m
def f_M_isFree (p0 : Nat) (x1 : Int32) (m : am_Mm) : Option (Int32 × am_Mm) :=
  (f_M_has (m.1 p0 1) x1 m).bind fun q5 =>
  if q5.1 = (0 : Int32) then
    f_M_isFree_b19 p0 x1 (m.1 p0 0) (1 : Int32) q5.2
  else
    f_M_isFree_b19 p0 x1 (m.1 p0 0) (0 : Int32) q5.2
set_option maxHeartbeats 4000000 in
set_option maxRecDepth 100000 in
theorem f_M_isFree_b69_ok {ro : am_Ro} {d : Nat} (hd : 3 ≤ d + 1) {k23 : Nat → Int32 → Int32 → Int32 → Int32 → am_Mm → Option (Int32 × am_Mm)} (hk23 : ∀ (p0 : Nat) (x1 : Int32) (x2 : Int32) (x3 : Int32) (x4 : Int32) (hp0 : p0 = 67 ∨ p0 = 68) (m m' : am_Mm) (r : Int32), k23 p0 x1 x2 x3 x4 m = some (r, m') → am_AW am_nw ro (d + 1) mr_M_isFree 23 [some (.ref p0), some (.int x1), some (.int x2), some (.int x3), some (.int x4)] [] (S0, m) (some (.int r)) (S0, m')) (p0 : Nat) (x1 : Int32) (x2 : Int32) (x4 : Int32) (s0 : Int32) (hp0 : p0 = 67 ∨ p0 = 68) {m m' : am_Mm} {r : Int32} (h : f_M_isFree_b69 k23 p0 x1 x2 x4 s0 m = some (r, m')) : am_AW am_nw ro (d + 1) mr_M_isFree 69 [some (.ref p0), some (.int x1), some (.int x2), none, some (.int x4)] [.int s0] (S0, m) (some (.int r)) (S0, m') := by
  unfold f_M_isFree_b69 at h
  refine am_AW.run am_base_ok ok_M_isFree (Nat.le_add_left 1 d) 3 (pc1 := 23) (ls1 := [some (.ref p0), some (.int x1), some (.int x2), some (.int s0), some (.int (x4 + (1 : Int32)))]) (st1 := []) (σ1 := (S0, m)) rfl ?_
  exact am_AW.weak (hk23 p0 x1 x2 s0 (x4 + (1 : Int32)) hp0 _ _ _ h) (by simp only [am_le, and_self])
set_option maxHeartbeats 4000000 in
set_option maxRecDepth 100000 in
theorem f_M_isFree_b23_all {ro : am_Ro} {d : Nat} (hd : 3 ≤ d + 1) : ∀ (n : Nat) (p0 : Nat) (x1 : Int32) (x2 : Int32) (x3 : Int32) (x4 : Int32) (hp0 : p0 = 67 ∨ p0 = 68) (m m' : am_Mm) (r : Int32), f_M_isFree_b23 n p0 x1 x2 x3 x4 m = some (r, m') → am_AW am_nw ro (d + 1) mr_M_isFree 23 [some (.ref p0), some (.int x1), some (.int x2), some (.int x3), some (.int x4)] [] (S0, m) (some (.int r)) (S0, m') := by
  intro n
  induction n with
  | zero =>
    intro p0 x1 x2 x3 x4 hp0 m m' r h
    rw [f_M_isFree_b23] at h
    cases h
  | succ n ih =>
    intro p0 x1 x2 x3 x4 hp0 m m' r h
    rw [f_M_isFree_b23] at h
    refine am_AW.run am_base_ok ok_M_isFree (Nat.le_add_left 1 d) 2 (pc1 := 26) (ls1 := [some (.ref p0), some (.int x1), some (.int x2), some (.int x3), some (.int x4)]) (st1 := [.int x2, .int x4]) (σ1 := (S0, m)) rfl ?_
    obtain ⟨q9, hq9, h⟩ := Option.bind_eq_some_iff.mp h
    refine am_AW.callS ok_M_isFree am_nw_ok (As := [.int x2]) (rest := [.int x4]) rfl rfl rfl oR_M_manyCuts lk_M_87 sT_M_manyCuts rfl (Nat.le_of_ble_eq_true rfl) (f_M_manyCuts_ok (d := d) (by omega) x2 hq9) ?_
    change am_AW am_nw ro (d + 1) mr_M_isFree 29 [some (.ref p0), some (.int x1), some (.int x2), some (.int x3), some (.int x4)] [.int q9.1, .int x4] (S0, q9.2) (some (.int r)) (S0, m')
    refine am_AW.brP ok_M_isFree rfl rfl am_c_ge (fun c10 => ?_) (fun c10 => ?_)
    · rw [if_pos c10] at h
      refine am_AW.run am_base_ok ok_M_isFree (Nat.le_add_left 1 d) 1 (pc1 := 77) (ls1 := [some (.ref p0), some (.int x1), some (.int x2), some (.int x3), some (.int x4)]) (st1 := [.int x3]) (σ1 := (S0, q9.2)) rfl ?_
      by_cases g11 : x3 = (0 : Int32) ∨ x3 = (1 : Int32)
      rotate_left
      · rw [if_neg g11] at h
        cases h
      rw [if_pos g11] at h
      obtain ⟨rfl, rfl⟩ := Prod.mk.inj (Option.some.inj h)
      exact am_AW.ret ok_M_isFree rfl rfl rfl (am_rokZ g11)
    · rw [if_neg c10] at h
      refine am_AW.run am_base_ok ok_M_isFree (Nat.le_add_left 1 d) 1 (pc1 := 33) (ls1 := [some (.ref p0), some (.int x1), some (.int x2), some (.int x3), some (.int x4)]) (st1 := [.int x3]) (σ1 := (S0, q9.2)) rfl ?_
      refine am_AW.brP ok_M_isFree rfl rfl am_c_eq (fun c12 => ?_) (fun c12 => ?_)
      · rw [if_pos c12] at h
        refine am_AW.run am_base_ok ok_M_isFree (Nat.le_add_left 1 d) 1 (pc1 := 69) (ls1 := [some (.ref p0), some (.int x1), some (.int x2), some (.int x3), some (.int x4)]) (st1 := [.int (0 : Int32)]) (σ1 := (S0, q9.2)) rfl ?_
        exact am_AW.weak (f_M_isFree_b69_ok hd (ih) p0 x1 x2 x4 (0 : Int32) hp0 h) (by simp only [am_le, and_self])
      · rw [if_neg c12] at h
        refine am_AW.run am_base_ok ok_M_isFree (Nat.le_add_left 1 d) 2 (pc1 := 38) (ls1 := [some (.ref p0), some (.int x1), some (.int x2), some (.int x3), some (.int x4)]) (st1 := [.int (1 : Int32), .ref p0]) (σ1 := (S0, q9.2)) rfl ?_
        refine am_AW.iald ok_M_isFree (Nat.le_add_left 1 d) S0_len rfl (sh_67_68_0 hp0) (by decide) ?_
        change am_AW am_nw ro (d + 1) mr_M_isFree 39 [some (.ref p0), some (.int x1), some (.int x2), some (.int x3), some (.int x4)] [.int (q9.2.1 p0 1)] (S0, q9.2) (some (.int r)) (S0, m')
        refine am_AW.run am_base_ok ok_M_isFree (Nat.le_add_left 1 d) 1 (pc1 := 41) (ls1 := [some (.ref p0), some (.int x1), some (.int x2), some (.int x3), some (.int x4)]) (st1 := [.int x4, .int (q9.2.1 p0 1)]) (σ1 := (S0, q9.2)) rfl ?_
        obtain ⟨q16, hq16, h⟩ := Option.bind_eq_some_iff.mp h
        refine am_AW.callS ok_M_isFree am_nw_ok (As := [.int (q9.2.1 p0 1), .int x4]) (rest := []) rfl rfl rfl oR_M_has lk_M_75 sT_M_has rfl (Nat.le_of_ble_eq_true rfl) (f_M_has_ok (d := d) (by omega) (q9.2.1 p0 1) x4 hq16) ?_
        change am_AW am_nw ro (d + 1) mr_M_isFree 44 [some (.ref p0), some (.int x1), some (.int x2), some (.int x3), some (.int x4)] [.int q16.1] (S0, q16.2) (some (.int r)) (S0, m')
        refine am_AW.brP ok_M_isFree rfl rfl am_c_eq (fun c17 => ?_) (fun c17 => ?_)
        · rw [if_pos c17] at h
          refine am_AW.run am_base_ok ok_M_isFree (Nat.le_add_left 1 d) 2 (pc1 := 69) (ls1 := [some (.ref p0), some (.int x1), some (.int x2), some (.int x3), some (.int x4)]) (st1 := [.int (1 : Int32)]) (σ1 := (S0, q16.2)) rfl ?_
          exact am_AW.weak (f_M_isFree_b69_ok hd (ih) p0 x1 x2 x4 (1 : Int32) hp0 h) (by simp only [am_le, and_self])
        · rw [if_neg c17] at h
          refine am_AW.run am_base_ok ok_M_isFree (Nat.le_add_left 1 d) 2 (pc1 := 50) (ls1 := [some (.ref p0), some (.int x1), some (.int x2), some (.int x3), some (.int x4)]) (st1 := [.int x4, .int x2]) (σ1 := (S0, q16.2)) rfl ?_
          obtain ⟨q20, hq20, h⟩ := Option.bind_eq_some_iff.mp h
          refine am_AW.callS ok_M_isFree am_nw_ok (As := [.int x2, .int x4]) (rest := []) rfl rfl rfl oR_M_endsOf lk_M_90 sT_M_endsOf rfl (Nat.le_of_ble_eq_true rfl) (f_M_endsOf_ok (d := d) (by omega) x2 x4 hq20) ?_
          change am_AW am_nw ro (d + 1) mr_M_isFree 53 [some (.ref p0), some (.int x1), some (.int x2), some (.int x3), some (.int x4)] [.int q20.1] (S0, q20.2) (some (.int r)) (S0, m')
          refine am_AW.run am_base_ok ok_M_isFree (Nat.le_add_left 1 d) 2 (pc1 := 55) (ls1 := [some (.ref p0), some (.int x1), some (.int x2), some (.int x3), some (.int x4)]) (st1 := [.int x1, .int x2, .int q20.1]) (σ1 := (S0, q20.2)) rfl ?_
          obtain ⟨q23, hq23, h⟩ := Option.bind_eq_some_iff.mp h
          refine am_AW.callS ok_M_isFree am_nw_ok (As := [.int x2, .int x1]) (rest := [.int q20.1]) rfl rfl rfl oR_M_endsOf lk_M_90 sT_M_endsOf rfl (Nat.le_of_ble_eq_true rfl) (f_M_endsOf_ok (d := d) (by omega) x2 x1 hq23) ?_
          change am_AW am_nw ro (d + 1) mr_M_isFree 58 [some (.ref p0), some (.int x1), some (.int x2), some (.int x3), some (.int x4)] [.int q23.1, .int q20.1] (S0, q23.2) (some (.int r)) (S0, m')
          obtain ⟨q26, hq26, h⟩ := Option.bind_eq_some_iff.mp h
          refine am_AW.callS ok_M_isFree am_nw_ok (As := [.int q20.1, .int q23.1]) (rest := []) rfl rfl rfl oR_M_doCross lk_M_93 sT_M_doCross rfl (Nat.le_of_ble_eq_true rfl) (f_M_doCross_ok (d := d) (by omega) q20.1 q23.1 hq26) ?_
          change am_AW am_nw ro (d + 1) mr_M_isFree 61 [some (.ref p0), some (.int x1), some (.int x2), some (.int x3), some (.int x4)] [.int q26.1] (S0, q26.2) (some (.int r)) (S0, m')
          refine am_AW.brN ok_M_isFree rfl rfl am_c_ne (fun c27 => ?_) (fun c27 => ?_)
          · rw [if_pos c27] at h
            refine am_AW.run am_base_ok ok_M_isFree (Nat.le_add_left 1 d) 2 (pc1 := 69) (ls1 := [some (.ref p0), some (.int x1), some (.int x2), some (.int x3), some (.int x4)]) (st1 := [.int (1 : Int32)]) (σ1 := (S0, q26.2)) rfl ?_
            exact am_AW.weak (f_M_isFree_b69_ok hd (ih) p0 x1 x2 x4 (1 : Int32) hp0 h) (by simp only [am_le, and_self])
          · rw [if_neg c27] at h
            refine am_AW.run am_base_ok ok_M_isFree (Nat.le_add_left 1 d) 1 (pc1 := 69) (ls1 := [some (.ref p0), some (.int x1), some (.int x2), some (.int x3), some (.int x4)]) (st1 := [.int (0 : Int32)]) (σ1 := (S0, q26.2)) rfl ?_
            exact am_AW.weak (f_M_isFree_b69_ok hd (ih) p0 x1 x2 x4 (0 : Int32) hp0 h) (by simp only [am_le, and_self])
set_option maxHeartbeats 4000000 in
set_option maxRecDepth 100000 in
theorem f_M_isFree_b23_ok {ro : am_Ro} {d : Nat} (hd : 3 ≤ d + 1) (p0 : Nat) (x1 : Int32) (x2 : Int32) (x3 : Int32) (x4 : Int32) (hp0 : p0 = 67 ∨ p0 = 68) {m m' : am_Mm} {r : Int32} {n : Nat} (h : f_M_isFree_b23 n p0 x1 x2 x3 x4 m = some (r, m')) : am_AW am_nw ro (d + 1) mr_M_isFree 23 [some (.ref p0), some (.int x1), some (.int x2), some (.int x3), some (.int x4)] [] (S0, m) (some (.int r)) (S0, m') :=
  f_M_isFree_b23_all hd n p0 x1 x2 x3 x4 hp0 m m' r h
set_option maxHeartbeats 4000000 in
set_option maxRecDepth 100000 in
theorem f_M_isFree_b19_ok {ro : am_Ro} {d : Nat} (hd : 3 ≤ d + 1) (p0 : Nat) (x1 : Int32) (x2 : Int32) (s0 : Int32) (hp0 : p0 = 67 ∨ p0 = 68) {m m' : am_Mm} {r : Int32} (h : f_M_isFree_b19 p0 x1 x2 s0 m = some (r, m')) : am_AW am_nw ro (d + 1) mr_M_isFree 19 [some (.ref p0), some (.int x1), some (.int x2), none, none] [.int s0] (S0, m) (some (.int r)) (S0, m') := by
  unfold f_M_isFree_b19 at h
  refine am_AW.run am_base_ok ok_M_isFree (Nat.le_add_left 1 d) 3 (pc1 := 23) (ls1 := [some (.ref p0), some (.int x1), some (.int x2), some (.int s0), some (.int (0 : Int32))]) (st1 := []) (σ1 := (S0, m)) rfl ?_
  exact am_AW.weak (f_M_isFree_b23_ok hd p0 x1 x2 s0 (0 : Int32) hp0 h) (by simp only [am_le, and_self])
set_option maxHeartbeats 4000000 in
set_option maxRecDepth 100000 in
theorem f_M_isFree_ok {ro : am_Ro} {d : Nat} (hd : 3 ≤ d) (p0 : Nat) (x1 : Int32) (hp0 : p0 = 67 ∨ p0 = 68) {m m' : am_Mm} {r : Int32} (h : f_M_isFree p0 x1 m = some (r, m')) : am_Mt am_nw ro d mr_M_isFree [.ref p0, .int x1] (S0, m) (some (.int r)) (S0, m') := by
  obtain ⟨d, rfl⟩ : ∃ d0, d = d0 + 1 := ⟨d - 1, by omega⟩
  refine am_Mt.of (by decide +kernel) (Nat.le_of_ble_eq_true rfl) ?_
  change am_AW am_nw ro (d + 1) mr_M_isFree 0 [some (.ref p0), some (.int x1), none, none, none] [] (S0, m) (some (.int r)) (S0, m')
  unfold f_M_isFree at h
  refine am_AW.run am_base_ok ok_M_isFree (Nat.le_add_left 1 d) 2 (pc1 := 2) (ls1 := [some (.ref p0), some (.int x1), none, none, none]) (st1 := [.int (0 : Int32), .ref p0]) (σ1 := (S0, m)) rfl ?_
  refine am_AW.iald ok_M_isFree (Nat.le_add_left 1 d) S0_len rfl (sh_67_68_0 hp0) (by decide) ?_
  change am_AW am_nw ro (d + 1) mr_M_isFree 3 [some (.ref p0), some (.int x1), none, none, none] [.int (m.1 p0 0)] (S0, m) (some (.int r)) (S0, m')
  refine am_AW.run am_base_ok ok_M_isFree (Nat.le_add_left 1 d) 3 (pc1 := 6) (ls1 := [some (.ref p0), some (.int x1), some (.int (m.1 p0 0)), none, none]) (st1 := [.int (1 : Int32), .ref p0]) (σ1 := (S0, m)) rfl ?_
  refine am_AW.iald ok_M_isFree (Nat.le_add_left 1 d) S0_len rfl (sh_67_68_0 hp0) (by decide) ?_
  change am_AW am_nw ro (d + 1) mr_M_isFree 7 [some (.ref p0), some (.int x1), some (.int (m.1 p0 0)), none, none] [.int (m.1 p0 1)] (S0, m) (some (.int r)) (S0, m')
  refine am_AW.run am_base_ok ok_M_isFree (Nat.le_add_left 1 d) 1 (pc1 := 8) (ls1 := [some (.ref p0), some (.int x1), some (.int (m.1 p0 0)), none, none]) (st1 := [.int x1, .int (m.1 p0 1)]) (σ1 := (S0, m)) rfl ?_
  obtain ⟨q5, hq5, h⟩ := Option.bind_eq_some_iff.mp h
  refine am_AW.callS ok_M_isFree am_nw_ok (As := [.int (m.1 p0 1), .int x1]) (rest := []) rfl rfl rfl oR_M_has lk_M_75 sT_M_has rfl (Nat.le_of_ble_eq_true rfl) (f_M_has_ok (d := d) (by omega) (m.1 p0 1) x1 hq5) ?_
  change am_AW am_nw ro (d + 1) mr_M_isFree 11 [some (.ref p0), some (.int x1), some (.int (m.1 p0 0)), none, none] [.int q5.1] (S0, q5.2) (some (.int r)) (S0, m')
  refine am_AW.brN ok_M_isFree rfl rfl am_c_ne (fun c6 => ?_) (fun c6 => ?_)
  · rw [if_pos c6] at h
    refine am_AW.run am_base_ok ok_M_isFree (Nat.le_add_left 1 d) 2 (pc1 := 19) (ls1 := [some (.ref p0), some (.int x1), some (.int (m.1 p0 0)), none, none]) (st1 := [.int (1 : Int32)]) (σ1 := (S0, q5.2)) rfl ?_
    exact am_AW.weak (f_M_isFree_b19_ok hd p0 x1 (m.1 p0 0) (1 : Int32) hp0 h) (by simp only [am_le, and_self])
  · rw [if_neg c6] at h
    refine am_AW.run am_base_ok ok_M_isFree (Nat.le_add_left 1 d) 1 (pc1 := 19) (ls1 := [some (.ref p0), some (.int x1), some (.int (m.1 p0 0)), none, none]) (st1 := [.int (0 : Int32)]) (σ1 := (S0, q5.2)) rfl ?_
    exact am_AW.weak (f_M_isFree_b19_ok hd p0 x1 (m.1 p0 0) (0 : Int32) hp0 h) (by simp only [am_le, and_self])
/-! FriezePolygonsModel.isJoined([III)Z -/
def f_M_isJoined_b57 (p0 : Nat) (x3 : Int32) (x4 : Int32) (x5 : Int32) (m : am_Mm) : Option (Int32 × am_Mm) :=
  (f_M_numberOf x3 x4 x5 m).bind fun q11 =>
  (f_M_has (m.1 p0 1) q11.1 q11.2).bind fun q14 =>
  if q14.1 = (0 : Int32) then
    some ((0 : Int32), q14.2)
  else
    some ((1 : Int32), q14.2)
def f_M_isJoined_b26 (p0 : Nat) (x3 : Int32) (x4 : Int32) (s0 : Int32) (m : am_Mm) : Option (Int32 × am_Mm) :=
  if s0 ≤ x4 then
    some ((0 : Int32), m)
  else
    if (s0 - x4) = (1 : Int32) then
      some ((1 : Int32), m)
    else
      if x4 = (0 : Int32) then
        if s0 = (x3 - (1 : Int32)) then
          some ((1 : Int32), m)
        else
          f_M_isJoined_b57 p0 x3 x4 s0 m
      else
        f_M_isJoined_b57 p0 x3 x4 s0 m
def f_M_isJoined_b14 (p0 : Nat) (x1 : Int32) (x2 : Int32) (x3 : Int32) (s0 : Int32) (m : am_Mm) : Option (Int32 × am_Mm) :=
  if x2 ≤ x1 then
    f_M_isJoined_b26 p0 x3 s0 x1 m
  else
    f_M_isJoined_b26 p0 x3 s0 x2 m
def f_M_isJoined (p0 : Nat) (x1 : Int32) (x2 : Int32) (m : am_Mm) : Option (Int32 × am_Mm) :=
  if x2 ≤ x1 then
    f_M_isJoined_b14 p0 x1 x2 (m.1 p0 0) x2 m
  else
    f_M_isJoined_b14 p0 x1 x2 (m.1 p0 0) x1 m
set_option maxHeartbeats 4000000 in
set_option maxRecDepth 100000 in
theorem f_M_isJoined_b57_ok {ro : am_Ro} {d : Nat} (hd : 3 ≤ d + 1) (p0 : Nat) (x3 : Int32) (x4 : Int32) (x5 : Int32) (hp0 : p0 = 67 ∨ p0 = 69) {m m' : am_Mm} {r : Int32} (h : f_M_isJoined_b57 p0 x3 x4 x5 m = some (r, m')) : am_AW am_nw ro (d + 1) mr_M_isJoined 57 [some (.ref p0), none, none, some (.int x3), some (.int x4), some (.int x5)] [] (S0, m) (some (.int r)) (S0, m') := by
  unfold f_M_isJoined_b57 at h
  refine am_AW.run am_base_ok ok_M_isJoined (Nat.le_add_left 1 d) 2 (pc1 := 59) (ls1 := [some (.ref p0), none, none, some (.int x3), some (.int x4), some (.int x5)]) (st1 := [.int (1 : Int32), .ref p0]) (σ1 := (S0, m)) rfl ?_
  refine am_AW.iald ok_M_isJoined (Nat.le_add_left 1 d) S0_len rfl (sh_67_69_0 hp0) (by decide) ?_
  change am_AW am_nw ro (d + 1) mr_M_isJoined 60 [some (.ref p0), none, none, some (.int x3), some (.int x4), some (.int x5)] [.int (m.1 p0 1)] (S0, m) (some (.int r)) (S0, m')
  refine am_AW.run am_base_ok ok_M_isJoined (Nat.le_add_left 1 d) 3 (pc1 := 65) (ls1 := [some (.ref p0), none, none, some (.int x3), some (.int x4), some (.int x5)]) (st1 := [.int x5, .int x4, .int x3, .int (m.1 p0 1)]) (σ1 := (S0, m)) rfl ?_
  obtain ⟨q11, hq11, h⟩ := Option.bind_eq_some_iff.mp h
  refine am_AW.callS ok_M_isJoined am_nw_ok (As := [.int x3, .int x4, .int x5]) (rest := [.int (m.1 p0 1)]) rfl rfl rfl oR_M_numberOf lk_M_96 sT_M_numberOf rfl (Nat.le_of_ble_eq_true rfl) (f_M_numberOf_ok (d := d) (by omega) x3 x4 x5 hq11) ?_
  change am_AW am_nw ro (d + 1) mr_M_isJoined 68 [some (.ref p0), none, none, some (.int x3), some (.int x4), some (.int x5)] [.int q11.1, .int (m.1 p0 1)] (S0, q11.2) (some (.int r)) (S0, m')
  obtain ⟨q14, hq14, h⟩ := Option.bind_eq_some_iff.mp h
  refine am_AW.callS ok_M_isJoined am_nw_ok (As := [.int (m.1 p0 1), .int q11.1]) (rest := []) rfl rfl rfl oR_M_has lk_M_75 sT_M_has rfl (Nat.le_of_ble_eq_true rfl) (f_M_has_ok (d := d) (by omega) (m.1 p0 1) q11.1 hq14) ?_
  change am_AW am_nw ro (d + 1) mr_M_isJoined 71 [some (.ref p0), none, none, some (.int x3), some (.int x4), some (.int x5)] [.int q14.1] (S0, q14.2) (some (.int r)) (S0, m')
  refine am_AW.brP ok_M_isJoined rfl rfl am_c_eq (fun c15 => ?_) (fun c15 => ?_)
  · rw [if_pos c15] at h
    refine am_AW.run am_base_ok ok_M_isJoined (Nat.le_add_left 1 d) 1 (pc1 := 79) (ls1 := [some (.ref p0), none, none, some (.int x3), some (.int x4), some (.int x5)]) (st1 := [.int (0 : Int32)]) (σ1 := (S0, q14.2)) rfl ?_
    obtain ⟨rfl, rfl⟩ := Prod.mk.inj (Option.some.inj h)
    exact am_AW.ret ok_M_isJoined rfl rfl rfl (by decide)
  · rw [if_neg c15] at h
    refine am_AW.run am_base_ok ok_M_isJoined (Nat.le_add_left 1 d) 2 (pc1 := 79) (ls1 := [some (.ref p0), none, none, some (.int x3), some (.int x4), some (.int x5)]) (st1 := [.int (1 : Int32)]) (σ1 := (S0, q14.2)) rfl ?_
    obtain ⟨rfl, rfl⟩ := Prod.mk.inj (Option.some.inj h)
    exact am_AW.ret ok_M_isJoined rfl rfl rfl (by decide)
set_option maxHeartbeats 4000000 in
set_option maxRecDepth 100000 in
theorem f_M_isJoined_b26_ok {ro : am_Ro} {d : Nat} (hd : 3 ≤ d + 1) (p0 : Nat) (x3 : Int32) (x4 : Int32) (s0 : Int32) (hp0 : p0 = 67 ∨ p0 = 69) {m m' : am_Mm} {r : Int32} (h : f_M_isJoined_b26 p0 x3 x4 s0 m = some (r, m')) : am_AW am_nw ro (d + 1) mr_M_isJoined 26 [some (.ref p0), none, none, some (.int x3), some (.int x4), none] [.int s0] (S0, m) (some (.int r)) (S0, m') := by
  unfold f_M_isJoined_b26 at h
  refine am_AW.run am_base_ok ok_M_isJoined (Nat.le_add_left 1 d) 3 (pc1 := 32) (ls1 := [some (.ref p0), none, none, some (.int x3), some (.int x4), some (.int s0)]) (st1 := [.int s0, .int x4]) (σ1 := (S0, m)) rfl ?_
  refine am_AW.brP ok_M_isJoined rfl rfl am_c_ge (fun c4 => ?_) (fun c4 => ?_)
  · rw [if_pos c4] at h
    refine am_AW.run am_base_ok ok_M_isJoined (Nat.le_add_left 1 d) 1 (pc1 := 79) (ls1 := [some (.ref p0), none, none, some (.int x3), some (.int x4), some (.int s0)]) (st1 := [.int (0 : Int32)]) (σ1 := (S0, m)) rfl ?_
    obtain ⟨rfl, rfl⟩ := Prod.mk.inj (Option.some.inj h)
    exact am_AW.ret ok_M_isJoined rfl rfl rfl (by decide)
  · rw [if_neg c4] at h
    refine am_AW.run am_base_ok ok_M_isJoined (Nat.le_add_left 1 d) 4 (pc1 := 41) (ls1 := [some (.ref p0), none, none, some (.int x3), some (.int x4), some (.int s0)]) (st1 := [.int (1 : Int32), .int (s0 - x4)]) (σ1 := (S0, m)) rfl ?_
    refine am_AW.brP ok_M_isJoined rfl rfl am_c_eq (fun c5 => ?_) (fun c5 => ?_)
    · rw [if_pos c5] at h
      refine am_AW.run am_base_ok ok_M_isJoined (Nat.le_add_left 1 d) 2 (pc1 := 79) (ls1 := [some (.ref p0), none, none, some (.int x3), some (.int x4), some (.int s0)]) (st1 := [.int (1 : Int32)]) (σ1 := (S0, m)) rfl ?_
      obtain ⟨rfl, rfl⟩ := Prod.mk.inj (Option.some.inj h)
      exact am_AW.ret ok_M_isJoined rfl rfl rfl (by decide)
    · rw [if_neg c5] at h
      refine am_AW.run am_base_ok ok_M_isJoined (Nat.le_add_left 1 d) 1 (pc1 := 46) (ls1 := [some (.ref p0), none, none, some (.int x3), some (.int x4), some (.int s0)]) (st1 := [.int x4]) (σ1 := (S0, m)) rfl ?_
      refine am_AW.brN ok_M_isJoined rfl rfl am_c_ne (fun c6 => ?_) (fun c6 => ?_)
      · rw [if_pos c6] at h
        refine am_AW.run am_base_ok ok_M_isJoined (Nat.le_add_left 1 d) 4 (pc1 := 54) (ls1 := [some (.ref p0), none, none, some (.int x3), some (.int x4), some (.int s0)]) (st1 := [.int (x3 - (1 : Int32)), .int s0]) (σ1 := (S0, m)) rfl ?_
        refine am_AW.brP ok_M_isJoined rfl rfl am_c_eq (fun c7 => ?_) (fun c7 => ?_)
        · rw [if_pos c7] at h
          refine am_AW.run am_base_ok ok_M_isJoined (Nat.le_add_left 1 d) 2 (pc1 := 79) (ls1 := [some (.ref p0), none, none, some (.int x3), some (.int x4), some (.int s0)]) (st1 := [.int (1 : Int32)]) (σ1 := (S0, m)) rfl ?_
          obtain ⟨rfl, rfl⟩ := Prod.mk.inj (Option.some.inj h)
          exact am_AW.ret ok_M_isJoined rfl rfl rfl (by decide)
        · rw [if_neg c7] at h
          exact am_AW.weak (f_M_isJoined_b57_ok hd p0 x3 x4 s0 hp0 h) (by simp only [am_le, and_self])
      · rw [if_neg c6] at h
        exact am_AW.weak (f_M_isJoined_b57_ok hd p0 x3 x4 s0 hp0 h) (by simp only [am_le, and_self])
set_option maxHeartbeats 4000000 in
set_option maxRecDepth 100000 in
theorem f_M_isJoined_b14_ok {ro : am_Ro} {d : Nat} (hd : 3 ≤ d + 1) (p0 : Nat) (x1 : Int32) (x2 : Int32) (x3 : Int32) (s0 : Int32) (hp0 : p0 = 67 ∨ p0 = 69) {m m' : am_Mm} {r : Int32} (h : f_M_isJoined_b14 p0 x1 x2 x3 s0 m = some (r, m')) : am_AW am_nw ro (d + 1) mr_M_isJoined 14 [some (.ref p0), some (.int x1), some (.int x2), some (.int x3), none, none] [.int s0] (S0, m) (some (.int r)) (S0, m') := by
  unfold f_M_isJoined_b14 at h
  refine am_AW.run am_base_ok ok_M_isJoined (Nat.le_add_left 1 d) 3 (pc1 := 18) (ls1 := [some (.ref p0), some (.int x1), some (.int x2), some (.int x3), some (.int s0), none]) (st1 := [.int x2, .int x1]) (σ1 := (S0, m)) rfl ?_
  refine am_AW.brP ok_M_isJoined rfl rfl am_c_ge (fun c3 => ?_) (fun c3 => ?_)
  · rw [if_pos c3] at h
    refine am_AW.run am_base_ok ok_M_isJoined (Nat.le_add_left 1 d) 1 (pc1 := 26) (ls1 := [some (.ref p0), some (.int x1), some (.int x2), some (.int x3), some (.int s0), none]) (st1 := [.int x1]) (σ1 := (S0, m)) rfl ?_
    exact am_AW.weak (f_M_isJoined_b26_ok hd p0 x3 s0 x1 hp0 h) (by simp only [am_le, and_self])
  · rw [if_neg c3] at h
    refine am_AW.run am_base_ok ok_M_isJoined (Nat.le_add_left 1 d) 2 (pc1 := 26) (ls1 := [some (.ref p0), some (.int x1), some (.int x2), some (.int x3), some (.int s0), none]) (st1 := [.int x2]) (σ1 := (S0, m)) rfl ?_
    exact am_AW.weak (f_M_isJoined_b26_ok hd p0 x3 s0 x2 hp0 h) (by simp only [am_le, and_self])
set_option maxHeartbeats 4000000 in
set_option maxRecDepth 100000 in
theorem f_M_isJoined_ok {ro : am_Ro} {d : Nat} (hd : 3 ≤ d) (p0 : Nat) (x1 : Int32) (x2 : Int32) (hp0 : p0 = 67 ∨ p0 = 69) {m m' : am_Mm} {r : Int32} (h : f_M_isJoined p0 x1 x2 m = some (r, m')) : am_Mt am_nw ro d mr_M_isJoined [.ref p0, .int x1, .int x2] (S0, m) (some (.int r)) (S0, m') := by
  obtain ⟨d, rfl⟩ : ∃ d0, d = d0 + 1 := ⟨d - 1, by omega⟩
  refine am_Mt.of (by decide +kernel) (Nat.le_of_ble_eq_true rfl) ?_
  change am_AW am_nw ro (d + 1) mr_M_isJoined 0 [some (.ref p0), some (.int x1), some (.int x2), none, none, none] [] (S0, m) (some (.int r)) (S0, m')
  unfold f_M_isJoined at h
  refine am_AW.run am_base_ok ok_M_isJoined (Nat.le_add_left 1 d) 2 (pc1 := 2) (ls1 := [some (.ref p0), some (.int x1), some (.int x2), none, none, none]) (st1 := [.int (0 : Int32), .ref p0]) (σ1 := (S0, m)) rfl ?_
  refine am_AW.iald ok_M_isJoined (Nat.le_add_left 1 d) S0_len rfl (sh_67_69_0 hp0) (by decide) ?_
  change am_AW am_nw ro (d + 1) mr_M_isJoined 3 [some (.ref p0), some (.int x1), some (.int x2), none, none, none] [.int (m.1 p0 0)] (S0, m) (some (.int r)) (S0, m')
  refine am_AW.run am_base_ok ok_M_isJoined (Nat.le_add_left 1 d) 3 (pc1 := 6) (ls1 := [some (.ref p0), some (.int x1), some (.int x2), some (.int (m.1 p0 0)), none, none]) (st1 := [.int x2, .int x1]) (σ1 := (S0, m)) rfl ?_
  refine am_AW.brP ok_M_isJoined rfl rfl am_c_ge (fun c2 => ?_) (fun c2 => ?_)
  · rw [if_pos c2] at h
    refine am_AW.run am_base_ok ok_M_isJoined (Nat.le_add_left 1 d) 1 (pc1 := 14) (ls1 := [some (.ref p0), some (.int x1), some (.int x2), some (.int (m.1 p0 0)), none, none]) (st1 := [.int x2]) (σ1 := (S0, m)) rfl ?_
    exact am_AW.weak (f_M_isJoined_b14_ok hd p0 x1 x2 (m.1 p0 0) x2 hp0 h) (by simp only [am_le, and_self])
  · rw [if_neg c2] at h
    refine am_AW.run am_base_ok ok_M_isJoined (Nat.le_add_left 1 d) 2 (pc1 := 14) (ls1 := [some (.ref p0), some (.int x1), some (.int x2), some (.int (m.1 p0 0)), none, none]) (st1 := [.int x1]) (σ1 := (S0, m)) rfl ?_
    exact am_AW.weak (f_M_isJoined_b14_ok hd p0 x1 x2 (m.1 p0 0) x1 hp0 h) (by simp only [am_le, and_self])
/-! FriezePolygonsModel.isLinked([III)Z -/
def f_M_isLinked_b26 (p0 : Nat) (x3 : Int32) (x4 : Int32) (s0 : Int32) (m : am_Mm) : Option (Int32 × am_Mm) :=
  (f_M_mayBe x3 x4 s0 m).bind fun q6 =>
  if q6.1 = (0 : Int32) then
    some ((0 : Int32), q6.2)
  else
    (f_M_numberOf x3 x4 s0 q6.2).bind fun q11 =>
    (f_M_has (q6.2.1 p0 1) q11.1 q11.2).bind fun q14 =>
    if q14.1 = (0 : Int32) then
      some ((0 : Int32), q14.2)
    else
      some ((1 : Int32), q14.2)
def f_M_isLinked_b14 (p0 : Nat) (x1 : Int32) (x2 : Int32) (x3 : Int32) (s0 : Int32) (m : am_Mm) : Option (Int32 × am_Mm) :=
  if x2 ≤ x1 then
    f_M_isLinked_b26 p0 x3 s0 x1 m
  else
    f_M_isLinked_b26 p0 x3 s0 x2 m
def f_M_isLinked (p0 : Nat) (x1 : Int32) (x2 : Int32) (m : am_Mm) : Option (Int32 × am_Mm) :=
  if x2 ≤ x1 then
    f_M_isLinked_b14 p0 x1 x2 (m.1 p0 0) x2 m
  else
    f_M_isLinked_b14 p0 x1 x2 (m.1 p0 0) x1 m
set_option maxHeartbeats 4000000 in
set_option maxRecDepth 100000 in
theorem f_M_isLinked_b26_ok {ro : am_Ro} {d : Nat} (hd : 3 ≤ d + 1) (p0 : Nat) (x3 : Int32) (x4 : Int32) (s0 : Int32) (hp0 : p0 = 67 ∨ p0 = 69) {m m' : am_Mm} {r : Int32} (h : f_M_isLinked_b26 p0 x3 x4 s0 m = some (r, m')) : am_AW am_nw ro (d + 1) mr_M_isLinked 26 [some (.ref p0), none, none, some (.int x3), some (.int x4), none] [.int s0] (S0, m) (some (.int r)) (S0, m') := by
  unfold f_M_isLinked_b26 at h
  refine am_AW.run am_base_ok ok_M_isLinked (Nat.le_add_left 1 d) 4 (pc1 := 33) (ls1 := [some (.ref p0), none, none, some (.int x3), some (.int x4), some (.int s0)]) (st1 := [.int s0, .int x4, .int x3]) (σ1 := (S0, m)) rfl ?_
  obtain ⟨q6, hq6, h⟩ := Option.bind_eq_some_iff.mp h
  refine am_AW.callS ok_M_isLinked am_nw_ok (As := [.int x3, .int x4, .int s0]) (rest := []) rfl rfl rfl oR_M_mayBe lk_M_108 sT_M_mayBe rfl (Nat.le_of_ble_eq_true rfl) (f_M_mayBe_ok (d := d) (by omega) x3 x4 s0 hq6) ?_
  change am_AW am_nw ro (d + 1) mr_M_isLinked 36 [some (.ref p0), none, none, some (.int x3), some (.int x4), some (.int s0)] [.int q6.1] (S0, q6.2) (some (.int r)) (S0, m')
  refine am_AW.brP ok_M_isLinked rfl rfl am_c_eq (fun c7 => ?_) (fun c7 => ?_)
  · rw [if_pos c7] at h
    refine am_AW.run am_base_ok ok_M_isLinked (Nat.le_add_left 1 d) 1 (pc1 := 61) (ls1 := [some (.ref p0), none, none, some (.int x3), some (.int x4), some (.int s0)]) (st1 := [.int (0 : Int32)]) (σ1 := (S0, q6.2)) rfl ?_
    obtain ⟨rfl, rfl⟩ := Prod.mk.inj (Option.some.inj h)
    exact am_AW.ret ok_M_isLinked rfl rfl rfl (by decide)
  · rw [if_neg c7] at h
    refine am_AW.run am_base_ok ok_M_isLinked (Nat.le_add_left 1 d) 2 (pc1 := 41) (ls1 := [some (.ref p0), none, none, some (.int x3), some (.int x4), some (.int s0)]) (st1 := [.int (1 : Int32), .ref p0]) (σ1 := (S0, q6.2)) rfl ?_
    refine am_AW.iald ok_M_isLinked (Nat.le_add_left 1 d) S0_len rfl (sh_67_69_0 hp0) (by decide) ?_
    change am_AW am_nw ro (d + 1) mr_M_isLinked 42 [some (.ref p0), none, none, some (.int x3), some (.int x4), some (.int s0)] [.int (q6.2.1 p0 1)] (S0, q6.2) (some (.int r)) (S0, m')
    refine am_AW.run am_base_ok ok_M_isLinked (Nat.le_add_left 1 d) 3 (pc1 := 47) (ls1 := [some (.ref p0), none, none, some (.int x3), some (.int x4), some (.int s0)]) (st1 := [.int s0, .int x4, .int x3, .int (q6.2.1 p0 1)]) (σ1 := (S0, q6.2)) rfl ?_
    obtain ⟨q11, hq11, h⟩ := Option.bind_eq_some_iff.mp h
    refine am_AW.callS ok_M_isLinked am_nw_ok (As := [.int x3, .int x4, .int s0]) (rest := [.int (q6.2.1 p0 1)]) rfl rfl rfl oR_M_numberOf lk_M_96 sT_M_numberOf rfl (Nat.le_of_ble_eq_true rfl) (f_M_numberOf_ok (d := d) (by omega) x3 x4 s0 hq11) ?_
    change am_AW am_nw ro (d + 1) mr_M_isLinked 50 [some (.ref p0), none, none, some (.int x3), some (.int x4), some (.int s0)] [.int q11.1, .int (q6.2.1 p0 1)] (S0, q11.2) (some (.int r)) (S0, m')
    obtain ⟨q14, hq14, h⟩ := Option.bind_eq_some_iff.mp h
    refine am_AW.callS ok_M_isLinked am_nw_ok (As := [.int (q6.2.1 p0 1), .int q11.1]) (rest := []) rfl rfl rfl oR_M_has lk_M_75 sT_M_has rfl (Nat.le_of_ble_eq_true rfl) (f_M_has_ok (d := d) (by omega) (q6.2.1 p0 1) q11.1 hq14) ?_
    change am_AW am_nw ro (d + 1) mr_M_isLinked 53 [some (.ref p0), none, none, some (.int x3), some (.int x4), some (.int s0)] [.int q14.1] (S0, q14.2) (some (.int r)) (S0, m')
    refine am_AW.brP ok_M_isLinked rfl rfl am_c_eq (fun c15 => ?_) (fun c15 => ?_)
    · rw [if_pos c15] at h
      refine am_AW.run am_base_ok ok_M_isLinked (Nat.le_add_left 1 d) 1 (pc1 := 61) (ls1 := [some (.ref p0), none, none, some (.int x3), some (.int x4), some (.int s0)]) (st1 := [.int (0 : Int32)]) (σ1 := (S0, q14.2)) rfl ?_
      obtain ⟨rfl, rfl⟩ := Prod.mk.inj (Option.some.inj h)
      exact am_AW.ret ok_M_isLinked rfl rfl rfl (by decide)
    · rw [if_neg c15] at h
      refine am_AW.run am_base_ok ok_M_isLinked (Nat.le_add_left 1 d) 2 (pc1 := 61) (ls1 := [some (.ref p0), none, none, some (.int x3), some (.int x4), some (.int s0)]) (st1 := [.int (1 : Int32)]) (σ1 := (S0, q14.2)) rfl ?_
      obtain ⟨rfl, rfl⟩ := Prod.mk.inj (Option.some.inj h)
      exact am_AW.ret ok_M_isLinked rfl rfl rfl (by decide)
set_option maxHeartbeats 4000000 in
set_option maxRecDepth 100000 in
theorem f_M_isLinked_b14_ok {ro : am_Ro} {d : Nat} (hd : 3 ≤ d + 1) (p0 : Nat) (x1 : Int32) (x2 : Int32) (x3 : Int32) (s0 : Int32) (hp0 : p0 = 67 ∨ p0 = 69) {m m' : am_Mm} {r : Int32} (h : f_M_isLinked_b14 p0 x1 x2 x3 s0 m = some (r, m')) : am_AW am_nw ro (d + 1) mr_M_isLinked 14 [some (.ref p0), some (.int x1), some (.int x2), some (.int x3), none, none] [.int s0] (S0, m) (some (.int r)) (S0, m') := by
  unfold f_M_isLinked_b14 at h
  refine am_AW.run am_base_ok ok_M_isLinked (Nat.le_add_left 1 d) 3 (pc1 := 18) (ls1 := [some (.ref p0), some (.int x1), some (.int x2), some (.int x3), some (.int s0), none]) (st1 := [.int x2, .int x1]) (σ1 := (S0, m)) rfl ?_
  refine am_AW.brP ok_M_isLinked rfl rfl am_c_ge (fun c3 => ?_) (fun c3 => ?_)
  · rw [if_pos c3] at h
    refine am_AW.run am_base_ok ok_M_isLinked (Nat.le_add_left 1 d) 1 (pc1 := 26) (ls1 := [some (.ref p0), some (.int x1), some (.int x2), some (.int x3), some (.int s0), none]) (st1 := [.int x1]) (σ1 := (S0, m)) rfl ?_
    exact am_AW.weak (f_M_isLinked_b26_ok hd p0 x3 s0 x1 hp0 h) (by simp only [am_le, and_self])
  · rw [if_neg c3] at h
    refine am_AW.run am_base_ok ok_M_isLinked (Nat.le_add_left 1 d) 2 (pc1 := 26) (ls1 := [some (.ref p0), some (.int x1), some (.int x2), some (.int x3), some (.int s0), none]) (st1 := [.int x2]) (σ1 := (S0, m)) rfl ?_
    exact am_AW.weak (f_M_isLinked_b26_ok hd p0 x3 s0 x2 hp0 h) (by simp only [am_le, and_self])
set_option maxHeartbeats 4000000 in
set_option maxRecDepth 100000 in
theorem f_M_isLinked_ok {ro : am_Ro} {d : Nat} (hd : 3 ≤ d) (p0 : Nat) (x1 : Int32) (x2 : Int32) (hp0 : p0 = 67 ∨ p0 = 69) {m m' : am_Mm} {r : Int32} (h : f_M_isLinked p0 x1 x2 m = some (r, m')) : am_Mt am_nw ro d mr_M_isLinked [.ref p0, .int x1, .int x2] (S0, m) (some (.int r)) (S0, m') := by
  obtain ⟨d, rfl⟩ : ∃ d0, d = d0 + 1 := ⟨d - 1, by omega⟩
  refine am_Mt.of (by decide +kernel) (Nat.le_of_ble_eq_true rfl) ?_
  change am_AW am_nw ro (d + 1) mr_M_isLinked 0 [some (.ref p0), some (.int x1), some (.int x2), none, none, none] [] (S0, m) (some (.int r)) (S0, m')
  unfold f_M_isLinked at h
  refine am_AW.run am_base_ok ok_M_isLinked (Nat.le_add_left 1 d) 2 (pc1 := 2) (ls1 := [some (.ref p0), some (.int x1), some (.int x2), none, none, none]) (st1 := [.int (0 : Int32), .ref p0]) (σ1 := (S0, m)) rfl ?_
  refine am_AW.iald ok_M_isLinked (Nat.le_add_left 1 d) S0_len rfl (sh_67_69_0 hp0) (by decide) ?_
  change am_AW am_nw ro (d + 1) mr_M_isLinked 3 [some (.ref p0), some (.int x1), some (.int x2), none, none, none] [.int (m.1 p0 0)] (S0, m) (some (.int r)) (S0, m')
  refine am_AW.run am_base_ok ok_M_isLinked (Nat.le_add_left 1 d) 3 (pc1 := 6) (ls1 := [some (.ref p0), some (.int x1), some (.int x2), some (.int (m.1 p0 0)), none, none]) (st1 := [.int x2, .int x1]) (σ1 := (S0, m)) rfl ?_
  refine am_AW.brP ok_M_isLinked rfl rfl am_c_ge (fun c2 => ?_) (fun c2 => ?_)
  · rw [if_pos c2] at h
    refine am_AW.run am_base_ok ok_M_isLinked (Nat.le_add_left 1 d) 1 (pc1 := 14) (ls1 := [some (.ref p0), some (.int x1), some (.int x2), some (.int (m.1 p0 0)), none, none]) (st1 := [.int x2]) (σ1 := (S0, m)) rfl ?_
    exact am_AW.weak (f_M_isLinked_b14_ok hd p0 x1 x2 (m.1 p0 0) x2 hp0 h) (by simp only [am_le, and_self])
  · rw [if_neg c2] at h
    refine am_AW.run am_base_ok ok_M_isLinked (Nat.le_add_left 1 d) 2 (pc1 := 14) (ls1 := [some (.ref p0), some (.int x1), some (.int x2), some (.int (m.1 p0 0)), none, none]) (st1 := [.int x1]) (σ1 := (S0, m)) rfl ?_
    exact am_AW.weak (f_M_isLinked_b14_ok hd p0 x1 x2 (m.1 p0 0) x1 hp0 h) (by simp only [am_le, and_self])
/-! FriezePolygonsModel.pieceUnder([II)I -/
def f_M_pieceUnder_b155 (k46 : Nat → Int32 → Int32 → Int32 → Int32 → Int32 → am_Mm → Option (Int32 × am_Mm)) (p0 : Nat) (x2 : Int32) (x3 : Int32) (x4 : Int32) (x5 : Int32) (x6 : Int32) (m : am_Mm) : Option (Int32 × am_Mm) :=
  k46 p0 x2 x3 x4 x5 (x6 + (1 : Int32)) m
def f_M_pieceUnder_b126 (k46 : Nat → Int32 → Int32 → Int32 → Int32 → Int32 → am_Mm → Option (Int32 × am_Mm)) : Nat → Nat → Int32 → Int32 → Int32 → Int32 → Int32 → Int32 → Int32 → Int32 → am_Mm → Option (Int32 × am_Mm)
  | 0, _, _, _, _, _, _, _, _, _, _ => none
  | n + 1, p0, x2, x3, x4, x5, x6, x8, x9, x10, m =>
    if x8 ≤ x10 then
      f_M_pieceUnder_b155 k46 p0 x2 x3 x4 x5 x6 m
    else
      if x9 = (0 : Int32) then
        f_M_pieceUnder_b155 k46 p0 x2 x3 x4 x5 x6 m
      else
        f_M_pieceUnder_b126 k46 n p0 x2 x3 x4 (x5 &&& ((am_shl (1 : Int32) x10) ^^^ (-1 : Int32))) x6 x8 x9 (x10 + (1 : Int32)) m
def f_M_pieceUnder_b118 (k46 : Nat → Int32 → Int32 → Int32 → Int32 → Int32 → am_Mm → Option (Int32 × am_Mm)) (p0 : Nat) (x2 : Int32) (x3 : Int32) (x4 : Int32) (x5 : Int32) (x6 : Int32) (x7 : Int32) (x8 : Int32) (s0 : Int32) (m : am_Mm) : Option (Int32 × am_Mm) :=
  f_M_pieceUnder_b126 k46 am_F p0 x2 x3 x4 x5 x6 x8 s0 (x7 + (1 : Int32)) m
def f_M_pieceUnder_b46 : Nat → Nat → Int32 → Int32 → Int32 → Int32 → Int32 → am_Mm → Option (Int32 × am_Mm)
  | 0, _, _, _, _, _, _, _ => none
  | n + 1, p0, x2, x3, x4, x5, x6, m =>
    (f_M_manyCuts x2 m).bind fun q5 =>
    if q5.1 ≤ x6 then
      some (x5, q5.2)
    else
      (f_M_endsOf x2 x6 q5.2).bind fun q9 =>
      (f_M_endsOf x2 x6 q9.2).bind fun q12 =>
      (f_M_has (q12.2.1 p0 1) x6 q12.2).bind fun q16 =>
      if q16.1 = (0 : Int32) then
        f_M_pieceUnder_b118 (f_M_pieceUnder_b46 n) p0 x2 x3 x4 x5 x6 (q9.1 / (10 : Int32)) (am_rem q12.1 (10 : Int32)) (0 : Int32) q16.2
      else
        if (q9.1 / (10 : Int32)) < x3 then
          f_M_pieceUnder_b118 (f_M_pieceUnder_b46 n) p0 x2 x3 x4 x5 x6 (q9.1 / (10 : Int32)) (am_rem q12.1 (10 : Int32)) (0 : Int32) q16.2
        else
          if x4 < (am_rem q12.1 (10 : Int32)) then
            f_M_pieceUnder_b118 (f_M_pieceUnder_b46 n) p0 x2 x3 x4 x5 x6 (q9.1 / (10 : Int32)) (am_rem q12.1 (10 : Int32)) (0 : Int32) q16.2
          else
            if (x4 - x3) ≤ ((am_rem q12.1 (10 : Int32)) - (q9.1 / (10 : Int32))) then
              f_M_pieceUnder_b118 (f_M_pieceUnder_b46 n) p0 x2 x3 x4 x5 x6 (q9.1 / (10 : Int32)) (am_rem q12.1 (10 : Int32)) (0 : Int32) q16.2
            else
              f_M_pieceUnder_b118 (f_M_pieceUnder_b46 n) p0 x2 x3 x4 x5 x6 (q9.1 / (10 : Int32)) (am_rem q12.1 (10 : Int32)) (1 : Int32) q16.2
def f_M_pieceUnder_b21 : Nat → Nat → Int32 → Int32 → Int32 → Int32 → Int32 → am_Mm → Option (Int32 × am_Mm)
  | 0, _, _, _, _, _, _, _ => none
  | n + 1, p0, x2, x3, x4, x5, x6, m =>
    if x4 < x6 then
      f_M_pieceUnder_b46 am_F p0 x2 x3 x4 x5 (0 : Int32) m
    else
      f_M_pieceUnder_b21 n p0 x2 x3 x4 (x5 ||| (am_shl (1 : Int32) x6)) (x6 + (1 : Int32)) m
def f_M_pieceUnder (p0 : Nat) (x1 : Int32) (m : am_Mm) : Option (Int32 × am_Mm) :=
  f_M_pieceUnder_b21 am_F p0 (m.1 p0 0) (x1 / (10 : Int32)) (am_rem x1 (10 : Int32)) (0 : Int32) (x1 / (10 : Int32)) m
set_option maxHeartbeats 4000000 in
set_option maxRecDepth 100000 in
theorem f_M_pieceUnder_b155_ok {ro : am_Ro} {d : Nat} (hd : 3 ≤ d + 1) {k46 : Nat → Int32 → Int32 → Int32 → Int32 → Int32 → am_Mm → Option (Int32 × am_Mm)} (hk46 : ∀ (p0 : Nat) (x2 : Int32) (x3 : Int32) (x4 : Int32) (x5 : Int32) (x6 : Int32) (hp0 : p0 = 67 ∨ p0 = 69) (m m' : am_Mm) (r : Int32), k46 p0 x2 x3 x4 x5 x6 m = some (r, m') → am_AW am_nw ro (d + 1) mr_M_pieceUnder 46 [some (.ref p0), none, some (.int x2), some (.int x3), some (.int x4), some (.int x5), some (.int x6), none, none, none, none] [] (S0, m) (some (.int r)) (S0, m')) (p0 : Nat) (x2 : Int32) (x3 : Int32) (x4 : Int32) (x5 : Int32) (x6 : Int32) (hp0 : p0 = 67 ∨ p0 = 69) {m m' : am_Mm} {r : Int32} (h : f_M_pieceUnder_b155 k46 p0 x2 x3 x4 x5 x6 m = some (r, m')) : am_AW am_nw ro (d + 1) mr_M_pieceUnder 155 [some (.ref p0), none, some (.int x2), some (.int x3), some (.int x4), some (.int x5), some (.int x6), none, none, none, none] [] (S0, m) (some (.int r)) (S0, m') := by
  unfold f_M_pieceUnder_b155 at h
  refine am_AW.run am_base_ok ok_M_pieceUnder (Nat.le_add_left 1 d) 2 (pc1 := 46) (ls1 := [some (.ref p0), none, some (.int x2), some (.int x3), some (.int x4), some (.int x5), some (.int (x6 + (1 : Int32))), none, none, none, none]) (st1 := []) (σ1 := (S0, m)) rfl ?_
  exact am_AW.weak (hk46 p0 x2 x3 x4 x5 (x6 + (1 : Int32)) hp0 _ _ _ h) (by simp only [am_le, and_self])
set_option maxHeartbeats 4000000 in
set_option maxRecDepth 100000 in
theorem f_M_pieceUnder_b126_all {ro : am_Ro} {d : Nat} (hd : 3 ≤ d + 1) {k46 : Nat → Int32 → Int32 → Int32 → Int32 → Int32 → am_Mm → Option (Int32 × am_Mm)} (hk46 : ∀ (p0 : Nat) (x2 : Int32) (x3 : Int32) (x4 : Int32) (x5 : Int32) (x6 : Int32) (hp0 : p0 = 67 ∨ p0 = 69) (m m' : am_Mm) (r : Int32), k46 p0 x2 x3 x4 x5 x6 m = some (r, m') → am_AW am_nw ro (d + 1) mr_M_pieceUnder 46 [some (.ref p0), none, some (.int x2), some (.int x3), some (.int x4), some (.int x5), some (.int x6), none, none, none, none] [] (S0, m) (some (.int r)) (S0, m')) : ∀ (n : Nat) (p0 : Nat) (x2 : Int32) (x3 : Int32) (x4 : Int32) (x5 : Int32) (x6 : Int32) (x8 : Int32) (x9 : Int32) (x10 : Int32) (hp0 : p0 = 67 ∨ p0 = 69) (m m' : am_Mm) (r : Int32), f_M_pieceUnder_b126 k46 n p0 x2 x3 x4 x5 x6 x8 x9 x10 m = some (r, m') → am_AW am_nw ro (d + 1) mr_M_pieceUnder 126 [some (.ref p0), none, some (.int x2), some (.int x3), some (.int x4), some (.int x5), some (.int x6), none, some (.int x8), some (.int x9), some (.int x10)] [] (S0, m) (some (.int r)) (S0, m') := by
  intro n
  induction n with
  | zero =>
    intro p0 x2 x3 x4 x5 x6 x8 x9 x10 hp0 m m' r h
    rw [f_M_pieceUnder_b126] at h
    cases h
  | succ n ih =>
    intro p0 x2 x3 x4 x5 x6 x8 x9 x10 hp0 m m' r h
    rw [f_M_pieceUnder_b126] at h
    refine am_AW.run am_base_ok ok_M_pieceUnder (Nat.le_add_left 1 d) 2 (pc1 := 130) (ls1 := [some (.ref p0), none, some (.int x2), some (.int x3), some (.int x4), some (.int x5), some (.int x6), none, some (.int x8), some (.int x9), some (.int x10)]) (st1 := [.int x8, .int x10]) (σ1 := (S0, m)) rfl ?_
    refine am_AW.brP ok_M_pieceUnder rfl rfl am_c_ge (fun c18 => ?_) (fun c18 => ?_)
    · rw [if_pos c18] at h
      exact am_AW.weak (f_M_pieceUnder_b155_ok hd (hk46) p0 x2 x3 x4 x5 x6 hp0 h) (by simp only [am_le, and_self])
    · rw [if_neg c18] at h
      refine am_AW.run am_base_ok ok_M_pieceUnder (Nat.le_add_left 1 d) 1 (pc1 := 135) (ls1 := [some (.ref p0), none, some (.int x2), some (.int x3), some (.int x4), some (.int x5), some (.int x6), none, some (.int x8), some (.int x9), some (.int x10)]) (st1 := [.int x9]) (σ1 := (S0, m)) rfl ?_
      refine am_AW.brP ok_M_pieceUnder rfl rfl am_c_eq (fun c19 => ?_) (fun c19 => ?_)
      · rw [if_pos c19] at h
        exact am_AW.weak (f_M_pieceUnder_b155_ok hd (hk46) p0 x2 x3 x4 x5 x6 hp0 h) (by simp only [am_le, and_self])
      · rw [if_neg c19] at h
        refine am_AW.run am_base_ok ok_M_pieceUnder (Nat.le_add_left 1 d) 10 (pc1 := 126) (ls1 := [some (.ref p0), none, some (.int x2), some (.int x3), some (.int x4), some (.int (x5 &&& ((am_shl (1 : Int32) x10) ^^^ (-1 : Int32)))), some (.int x6), none, some (.int x8), some (.int x9), some (.int (x10 + (1 : Int32)))]) (st1 := []) (σ1 := (S0, m)) rfl ?_
        exact am_AW.weak (ih p0 x2 x3 x4 (x5 &&& ((am_shl (1 : Int32) x10) ^^^ (-1 : Int32))) x6 x8 x9 (x10 + (1 : Int32)) hp0 _ _ _ h) (by simp only [am_le, and_self])
set_option maxHeartbeats 4000000 in
set_option maxRecDepth 100000 in
theorem f_M_pieceUnder_b126_ok {ro : am_Ro} {d : Nat} (hd : 3 ≤ d + 1) {k46 : Nat → Int32 → Int32 → Int32 → Int32 → Int32 → am_Mm → Option (Int32 × am_Mm)} (hk46 : ∀ (p0 : Nat) (x2 : Int32) (x3 : Int32) (x4 : Int32) (x5 : Int32) (x6 : Int32) (hp0 : p0 = 67 ∨ p0 = 69) (m m' : am_Mm) (r : Int32), k46 p0 x2 x3 x4 x5 x6 m = some (r, m') → am_AW am_nw ro (d + 1) mr_M_pieceUnder 46 [some (.ref p0), none, some (.int x2), some (.int x3), some (.int x4), some (.int x5), some (.int x6), none, none, none, none] [] (S0, m) (some (.int r)) (S0, m')) (p0 : Nat) (x2 : Int32) (x3 : Int32) (x4 : Int32) (x5 : Int32) (x6 : Int32) (x8 : Int32) (x9 : Int32) (x10 : Int32) (hp0 : p0 = 67 ∨ p0 = 69) {m m' : am_Mm} {r : Int32} {n : Nat} (h : f_M_pieceUnder_b126 k46 n p0 x2 x3 x4 x5 x6 x8 x9 x10 m = some (r, m')) : am_AW am_nw ro (d + 1) mr_M_pieceUnder 126 [some (.ref p0), none, some (.int x2), some (.int x3), some (.int x4), some (.int x5), some (.int x6), none, some (.int x8), some (.int x9), some (.int x10)] [] (S0, m) (some (.int r)) (S0, m') :=
  f_M_pieceUnder_b126_all hd hk46 n p0 x2 x3 x4 x5 x6 x8 x9 x10 hp0 m m' r h
set_option maxHeartbeats 4000000 in
set_option maxRecDepth 100000 in
theorem f_M_pieceUnder_b118_ok {ro : am_Ro} {d : Nat} (hd : 3 ≤ d + 1) {k46 : Nat → Int32 → Int32 → Int32 → Int32 → Int32 → am_Mm → Option (Int32 × am_Mm)} (hk46 : ∀ (p0 : Nat) (x2 : Int32) (x3 : Int32) (x4 : Int32) (x5 : Int32) (x6 : Int32) (hp0 : p0 = 67 ∨ p0 = 69) (m m' : am_Mm) (r : Int32), k46 p0 x2 x3 x4 x5 x6 m = some (r, m') → am_AW am_nw ro (d + 1) mr_M_pieceUnder 46 [some (.ref p0), none, some (.int x2), some (.int x3), some (.int x4), some (.int x5), some (.int x6), none, none, none, none] [] (S0, m) (some (.int r)) (S0, m')) (p0 : Nat) (x2 : Int32) (x3 : Int32) (x4 : Int32) (x5 : Int32) (x6 : Int32) (x7 : Int32) (x8 : Int32) (s0 : Int32) (hp0 : p0 = 67 ∨ p0 = 69) {m m' : am_Mm} {r : Int32} (h : f_M_pieceUnder_b118 k46 p0 x2 x3 x4 x5 x6 x7 x8 s0 m = some (r, m')) : am_AW am_nw ro (d + 1) mr_M_pieceUnder 118 [some (.ref p0), none, some (.int x2), some (.int x3), some (.int x4), some (.int x5), some (.int x6), some (.int x7), some (.int x8), none, none] [.int s0] (S0, m) (some (.int r)) (S0, m') := by
  unfold f_M_pieceUnder_b118 at h
  refine am_AW.run am_base_ok ok_M_pieceUnder (Nat.le_add_left 1 d) 5 (pc1 := 126) (ls1 := [some (.ref p0), none, some (.int x2), some (.int x3), some (.int x4), some (.int x5), some (.int x6), some (.int x7), some (.int x8), some (.int s0), some (.int (x7 + (1 : Int32)))]) (st1 := []) (σ1 := (S0, m)) rfl ?_
  exact am_AW.weak (f_M_pieceUnder_b126_ok hd (hk46) p0 x2 x3 x4 x5 x6 x8 s0 (x7 + (1 : Int32)) hp0 h) (by simp only [am_le, and_self])
set_option maxHeartbeats 4000000 in
set_option maxRecDepth 100000 in
theorem f_M_pieceUnder_b46_all {ro : am_Ro} {d : Nat} (hd : 3 ≤ d + 1) : ∀ (n : Nat) (p0 : Nat) (x2 : Int32) (x3 : Int32) (x4 : Int32) (x5 : Int32) (x6 : Int32) (hp0 : p0 = 67 ∨ p0 = 69) (m m' : am_Mm) (r : Int32), f_M_pieceUnder_b46 n p0 x2 x3 x4 x5 x6 m = some (r, m') → am_AW am_nw ro (d + 1) mr_M_pieceUnder 46 [some (.ref p0), none, some (.int x2), some (.int x3), some (.int x4), some (.int x5), some (.int x6), none, none, none, none] [] (S0, m) (some (.int r)) (S0, m') := by
  intro n
  induction n with
  | zero =>
    intro p0 x2 x3 x4 x5 x6 hp0 m m' r h
    rw [f_M_pieceUnder_b46] at h
    cases h
  | succ n ih =>
    intro p0 x2 x3 x4 x5 x6 hp0 m m' r h
    rw [f_M_pieceUnder_b46] at h
    refine am_AW.run am_base_ok ok_M_pieceUnder (Nat.le_add_left 1 d) 2 (pc1 := 49) (ls1 := [some (.ref p0), none, some (.int x2), some (.int x3), some (.int x4), some (.int x5), some (.int x6), none, none, none, none]) (st1 := [.int x2, .int x6]) (σ1 := (S0, m)) rfl ?_
    obtain ⟨q5, hq5, h⟩ := Option.bind_eq_some_iff.mp h
    refine am_AW.callS ok_M_pieceUnder am_nw_ok (As := [.int x2]) (rest := [.int x6]) rfl rfl rfl oR_M_manyCuts lk_M_87 sT_M_manyCuts rfl (Nat.le_of_ble_eq_true rfl) (f_M_manyCuts_ok (d := d) (by omega) x2 hq5) ?_
    change am_AW am_nw ro (d + 1) mr_M_pieceUnder 52 [some (.ref p0), none, some (.int x2), some (.int x3), some (.int x4), some (.int x5), some (.int x6), none, none, none, none] [.int q5.1, .int x6] (S0, q5.2) (some (.int r)) (S0, m')
    refine am_AW.brP ok_M_pieceUnder rfl rfl am_c_ge (fun c6 => ?_) (fun c6 => ?_)
    · rw [if_pos c6] at h
      refine am_AW.run am_base_ok ok_M_pieceUnder (Nat.le_add_left 1 d) 1 (pc1 := 163) (ls1 := [some (.ref p0), none, some (.int x2), some (.int x3), some (.int x4), some (.int x5), some (.int x6), none, none, none, none]) (st1 := [.int x5]) (σ1 := (S0, q5.2)) rfl ?_
      obtain ⟨rfl, rfl⟩ := Prod.mk.inj (Option.some.inj h)
      exact am_AW.ret ok_M_pieceUnder rfl rfl rfl rfl
    · rw [if_neg c6] at h
      refine am_AW.run am_base_ok ok_M_pieceUnder (Nat.le_add_left 1 d) 2 (pc1 := 58) (ls1 := [some (.ref p0), none, some (.int x2), some (.int x3), some (.int x4), some (.int x5), some (.int x6), none, none, none, none]) (st1 := [.int x6, .int x2]) (σ1 := (S0, q5.2)) rfl ?_
      obtain ⟨q9, hq9, h⟩ := Option.bind_eq_some_iff.mp h
      refine am_AW.callS ok_M_pieceUnder am_nw_ok (As := [.int x2, .int x6]) (rest := []) rfl rfl rfl oR_M_endsOf lk_M_90 sT_M_endsOf rfl (Nat.le_of_ble_eq_true rfl) (f_M_endsOf_ok (d := d) (by omega) x2 x6 hq9) ?_
      change am_AW am_nw ro (d + 1) mr_M_pieceUnder 61 [some (.ref p0), none, some (.int x2), some (.int x3), some (.int x4), some (.int x5), some (.int x6), none, none, none, none] [.int q9.1] (S0, q9.2) (some (.int r)) (S0, m')
      refine am_AW.run am_base_ok ok_M_pieceUnder (Nat.le_add_left 1 d) 1 (pc1 := 63) (ls1 := [some (.ref p0), none, some (.int x2), some (.int x3), some (.int x4), some (.int x5), some (.int x6), none, none, none, none]) (st1 := [.int (10 : Int32), .int q9.1]) (σ1 := (S0, q9.2)) rfl ?_
      refine am_AW.dvi ok_M_pieceUnder (Nat.le_add_left 1 d) (w := (q9.1 / (10 : Int32))) (Or.inl ⟨rfl, rfl⟩) rfl (by decide) ?_
      refine am_AW.run am_base_ok ok_M_pieceUnder (Nat.le_add_left 1 d) 3 (pc1 := 69) (ls1 := [some (.ref p0), none, some (.int x2), some (.int x3), some (.int x4), some (.int x5), some (.int x6), some (.int (q9.1 / (10 : Int32))), none, none, none]) (st1 := [.int x6, .int x2]) (σ1 := (S0, q9.2)) rfl ?_
      obtain ⟨q12, hq12, h⟩ := Option.bind_eq_some_iff.mp h
      refine am_AW.callS ok_M_pieceUnder am_nw_ok (As := [.int x2, .int x6]) (rest := []) rfl rfl rfl oR_M_endsOf lk_M_90 sT_M_endsOf rfl (Nat.le_of_ble_eq_true rfl) (f_M_endsOf_ok (d := d) (by omega) x2 x6 hq12) ?_
      change am_AW am_nw ro (d + 1) mr_M_pieceUnder 72 [some (.ref p0), none, some (.int x2), some (.int x3), some (.int x4), some (.int x5), some (.int x6), some (.int (q9.1 / (10 : Int32))), none, none, none] [.int q12.1] (S0, q12.2) (some (.int r)) (S0, m')
      refine am_AW.run am_base_ok ok_M_pieceUnder (Nat.le_add_left 1 d) 1 (pc1 := 74) (ls1 := [some (.ref p0), none, some (.int x2), some (.int x3), some (.int x4), some (.int x5), some (.int x6), some (.int (q9.1 / (10 : Int32))), none, none, none]) (st1 := [.int (10 : Int32), .int q12.1]) (σ1 := (S0, q12.2)) rfl ?_
      refine am_AW.dvi ok_M_pieceUnder (Nat.le_add_left 1 d) (w := (am_rem q12.1 (10 : Int32))) (Or.inr ⟨rfl, rfl⟩) rfl (by decide) ?_
      refine am_AW.run am_base_ok ok_M_pieceUnder (Nat.le_add_left 1 d) 3 (pc1 := 79) (ls1 := [some (.ref p0), none, some (.int x2), some (.int x3), some (.int x4), some (.int x5), some (.int x6), some (.int (q9.1 / (10 : Int32))), some (.int (am_rem q12.1 (10 : Int32))), none, none]) (st1 := [.int (1 : Int32), .ref p0]) (σ1 := (S0, q12.2)) rfl ?_
      refine am_AW.iald ok_M_pieceUnder (Nat.le_add_left 1 d) S0_len rfl (sh_67_69_0 hp0) (by decide) ?_
      change am_AW am_nw ro (d + 1) mr_M_pieceUnder 80 [some (.ref p0), none, some (.int x2), some (.int x3), some (.int x4), some (.int x5), some (.int x6), some (.int (q9.1 / (10 : Int32))), some (.int (am_rem q12.1 (10 : Int32))), none, none] [.int (q12.2.1 p0 1)] (S0, q12.2) (some (.int r)) (S0, m')
      refine am_AW.run am_base_ok ok_M_pieceUnder (Nat.le_add_left 1 d) 1 (pc1 := 82) (ls1 := [some (.ref p0), none, some (.int x2), some (.int x3), some (.int x4), some (.int x5), some (.int x6), some (.int (q9.1 / (10 : Int32))), some (.int (am_rem q12.1 (10 : Int32))), none, none]) (st1 := [.int x6, .int (q12.2.1 p0 1)]) (σ1 := (S0, q12.2)) rfl ?_
      obtain ⟨q16, hq16, h⟩ := Option.bind_eq_some_iff.mp h
      refine am_AW.callS ok_M_pieceUnder am_nw_ok (As := [.int (q12.2.1 p0 1), .int x6]) (rest := []) rfl rfl rfl oR_M_has lk_M_75 sT_M_has rfl (Nat.le_of_ble_eq_true rfl) (f_M_has_ok (d := d) (by omega) (q12.2.1 p0 1) x6 hq16) ?_
      change am_AW am_nw ro (d + 1) mr_M_pieceUnder 85 [some (.ref p0), none, some (.int x2), some (.int x3), some (.int x4), some (.int x5), some (.int x6), some (.int (q9.1 / (10 : Int32))), some (.int (am_rem q12.1 (10 : Int32))), none, none] [.int q16.1] (S0, q16.2) (some (.int r)) (S0, m')
      refine am_AW.brP ok_M_pieceUnder rfl rfl am_c_eq (fun c17 => ?_) (fun c17 => ?_)
      · rw [if_pos c17] at h
        refine am_AW.run am_base_ok ok_M_pieceUnder (Nat.le_add_left 1 d) 1 (pc1 := 118) (ls1 := [some (.ref p0), none, some (.int x2), some (.int x3), some (.int x4), some (.int x5), some (.int x6), some (.int (q9.1 / (10 : Int32))), some (.int (am_rem q12.1 (10 : Int32))), none, none]) (st1 := [.int (0 : Int32)]) (σ1 := (S0, q16.2)) rfl ?_
        exact am_AW.weak (f_M_pieceUnder_b118_ok hd (ih) p0 x2 x3 x4 x5 x6 (q9.1 / (10 : Int32)) (am_rem q12.1 (10 : Int32)) (0 : Int32) hp0 h) (by simp only [am_le, and_self])
      · rw [if_neg c17] at h
        refine am_AW.run am_base_ok ok_M_pieceUnder (Nat.le_add_left 1 d) 2 (pc1 := 91) (ls1 := [some (.ref p0), none, some (.int x2), some (.int x3), some (.int x4), some (.int x5), some (.int x6), some (.int (q9.1 / (10 : Int32))), some (.int (am_rem q12.1 (10 : Int32))), none, none]) (st1 := [.int x3, .int (q9.1 / (10 : Int32))]) (σ1 := (S0, q16.2)) rfl ?_
        refine am_AW.brP ok_M_pieceUnder rfl rfl am_c_lt (fun c20 => ?_) (fun c20 => ?_)
        · rw [if_pos c20] at h
          refine am_AW.run am_base_ok ok_M_pieceUnder (Nat.le_add_left 1 d) 1 (pc1 := 118) (ls1 := [some (.ref p0), none, some (.int x2), some (.int x3), some (.int x4), some (.int x5), some (.int x6), some (.int (q9.1 / (10 : Int32))), some (.int (am_rem q12.1 (10 : Int32))), none, none]) (st1 := [.int (0 : Int32)]) (σ1 := (S0, q16.2)) rfl ?_
          exact am_AW.weak (f_M_pieceUnder_b118_ok hd (ih) p0 x2 x3 x4 x5 x6 (q9.1 / (10 : Int32)) (am_rem q12.1 (10 : Int32)) (0 : Int32) hp0 h) (by simp only [am_le, and_self])
        · rw [if_neg c20] at h
          refine am_AW.run am_base_ok ok_M_pieceUnder (Nat.le_add_left 1 d) 2 (pc1 := 98) (ls1 := [some (.ref p0), none, some (.int x2), some (.int x3), some (.int x4), some (.int x5), some (.int x6), some (.int (q9.1 / (10 : Int32))), some (.int (am_rem q12.1 (10 : Int32))), none, none]) (st1 := [.int x4, .int (am_rem q12.1 (10 : Int32))]) (σ1 := (S0, q16.2)) rfl ?_
          refine am_AW.brP ok_M_pieceUnder rfl rfl am_c_gt (fun c21 => ?_) (fun c21 => ?_)
          · rw [if_pos c21] at h
            refine am_AW.run am_base_ok ok_M_pieceUnder (Nat.le_add_left 1 d) 1 (pc1 := 118) (ls1 := [some (.ref p0), none, some (.int x2), some (.int x3), some (.int x4), some (.int x5), some (.int x6), some (.int (q9.1 / (10 : Int32))), some (.int (am_rem q12.1 (10 : Int32))), none, none]) (st1 := [.int (0 : Int32)]) (σ1 := (S0, q16.2)) rfl ?_
            exact am_AW.weak (f_M_pieceUnder_b118_ok hd (ih) p0 x2 x3 x4 x5 x6 (q9.1 / (10 : Int32)) (am_rem q12.1 (10 : Int32)) (0 : Int32) hp0 h) (by simp only [am_le, and_self])
          · rw [if_neg c21] at h
            refine am_AW.run am_base_ok ok_M_pieceUnder (Nat.le_add_left 1 d) 6 (pc1 := 110) (ls1 := [some (.ref p0), none, some (.int x2), some (.int x3), some (.int x4), some (.int x5), some (.int x6), some (.int (q9.1 / (10 : Int32))), some (.int (am_rem q12.1 (10 : Int32))), none, none]) (st1 := [.int (x4 - x3), .int ((am_rem q12.1 (10 : Int32)) - (q9.1 / (10 : Int32)))]) (σ1 := (S0, q16.2)) rfl ?_
            refine am_AW.brP ok_M_pieceUnder rfl rfl am_c_ge (fun c22 => ?_) (fun c22 => ?_)
            · rw [if_pos c22] at h
              refine am_AW.run am_base_ok ok_M_pieceUnder (Nat.le_add_left 1 d) 1 (pc1 := 118) (ls1 := [some (.ref p0), none, some (.int x2), some (.int x3), some (.int x4), some (.int x5), some (.int x6), some (.int (q9.1 / (10 : Int32))), some (.int (am_rem q12.1 (10 : Int32))), none, none]) (st1 := [.int (0 : Int32)]) (σ1 := (S0, q16.2)) rfl ?_
              exact am_AW.weak (f_M_pieceUnder_b118_ok hd (ih) p0 x2 x3 x4 x5 x6 (q9.1 / (10 : Int32)) (am_rem q12.1 (10 : Int32)) (0 : Int32) hp0 h) (by simp only [am_le, and_self])
            · rw [if_neg c22] at h
              refine am_AW.run am_base_ok ok_M_pieceUnder (Nat.le_add_left 1 d) 2 (pc1 := 118) (ls1 := [some (.ref p0), none, some (.int x2), some (.int x3), some (.int x4), some (.int x5), some (.int x6), some (.int (q9.1 / (10 : Int32))), some (.int (am_rem q12.1 (10 : Int32))), none, none]) (st1 := [.int (1 : Int32)]) (σ1 := (S0, q16.2)) rfl ?_
              exact am_AW.weak (f_M_pieceUnder_b118_ok hd (ih) p0 x2 x3 x4 x5 x6 (q9.1 / (10 : Int32)) (am_rem q12.1 (10 : Int32)) (1 : Int32) hp0 h) (by simp only [am_le, and_self])
set_option maxHeartbeats 4000000 in
set_option maxRecDepth 100000 in
theorem f_M_pieceUnder_b46_ok {ro : am_Ro} {d : Nat} (hd : 3 ≤ d + 1) (p0 : Nat) (x2 : Int32) (x3 : Int32) (x4 : Int32) (x5 : Int32) (x6 : Int32) (hp0 : p0 = 67 ∨ p0 = 69) {m m' : am_Mm} {r : Int32} {n : Nat} (h : f_M_pieceUnder_b46 n p0 x2 x3 x4 x5 x6 m = some (r, m')) : am_AW am_nw ro (d + 1) mr_M_pieceUnder 46 [some (.ref p0), none, some (.int x2), some (.int x3), some (.int x4), some (.int x5), some (.int x6), none, none, none, none] [] (S0, m) (some (.int r)) (S0, m') :=
  f_M_pieceUnder_b46_all hd n p0 x2 x3 x4 x5 x6 hp0 m m' r h
set_option maxHeartbeats 4000000 in
set_option maxRecDepth 100000 in
theorem f_M_pieceUnder_b21_all {ro : am_Ro} {d : Nat} (hd : 3 ≤ d + 1) : ∀ (n : Nat) (p0 : Nat) (x2 : Int32) (x3 : Int32) (x4 : Int32) (x5 : Int32) (x6 : Int32) (hp0 : p0 = 67 ∨ p0 = 69) (m m' : am_Mm) (r : Int32), f_M_pieceUnder_b21 n p0 x2 x3 x4 x5 x6 m = some (r, m') → am_AW am_nw ro (d + 1) mr_M_pieceUnder 21 [some (.ref p0), none, some (.int x2), some (.int x3), some (.int x4), some (.int x5), some (.int x6), none, none, none, none] [] (S0, m) (some (.int r)) (S0, m') := by
  intro n
  induction n with
  | zero =>
    intro p0 x2 x3 x4 x5 x6 hp0 m m' r h
    rw [f_M_pieceUnder_b21] at h
    cases h
  | succ n ih =>
    intro p0 x2 x3 x4 x5 x6 hp0 m m' r h
    rw [f_M_pieceUnder_b21] at h
    refine am_AW.run am_base_ok ok_M_pieceUnder (Nat.le_add_left 1 d) 2 (pc1 := 25) (ls1 := [some (.ref p0), none, some (.int x2), some (.int x3), some (.int x4), some (.int x5), some (.int x6), none, none, none, none]) (st1 := [.int x4, .int x6]) (σ1 := (S0, m)) rfl ?_
    refine am_AW.brP ok_M_pieceUnder rfl rfl am_c_gt (fun c2 => ?_) (fun c2 => ?_)
    · rw [if_pos c2] at h
      refine am_AW.run am_base_ok ok_M_pieceUnder (Nat.le_add_left 1 d) 2 (pc1 := 46) (ls1 := [some (.ref p0), none, some (.int x2), some (.int x3), some (.int x4), some (.int x5), some (.int (0 : Int32)), none, none, none, none]) (st1 := []) (σ1 := (S0, m)) rfl ?_
      exact am_AW.weak (f_M_pieceUnder_b46_ok hd p0 x2 x3 x4 x5 (0 : Int32) hp0 h) (by simp only [am_le, and_self])
    · rw [if_neg c2] at h
      refine am_AW.run am_base_ok ok_M_pieceUnder (Nat.le_add_left 1 d) 8 (pc1 := 21) (ls1 := [some (.ref p0), none, some (.int x2), some (.int x3), some (.int x4), some (.int (x5 ||| (am_shl (1 : Int32) x6))), some (.int (x6 + (1 : Int32))), none, none, none, none]) (st1 := []) (σ1 := (S0, m)) rfl ?_
      exact am_AW.weak (ih p0 x2 x3 x4 (x5 ||| (am_shl (1 : Int32) x6)) (x6 + (1 : Int32)) hp0 _ _ _ h) (by simp only [am_le, and_self])
set_option maxHeartbeats 4000000 in
set_option maxRecDepth 100000 in
theorem f_M_pieceUnder_b21_ok {ro : am_Ro} {d : Nat} (hd : 3 ≤ d + 1) (p0 : Nat) (x2 : Int32) (x3 : Int32) (x4 : Int32) (x5 : Int32) (x6 : Int32) (hp0 : p0 = 67 ∨ p0 = 69) {m m' : am_Mm} {r : Int32} {n : Nat} (h : f_M_pieceUnder_b21 n p0 x2 x3 x4 x5 x6 m = some (r, m')) : am_AW am_nw ro (d + 1) mr_M_pieceUnder 21 [some (.ref p0), none, some (.int x2), some (.int x3), some (.int x4), some (.int x5), some (.int x6), none, none, none, none] [] (S0, m) (some (.int r)) (S0, m') :=
  f_M_pieceUnder_b21_all hd n p0 x2 x3 x4 x5 x6 hp0 m m' r h
set_option maxHeartbeats 4000000 in
set_option maxRecDepth 100000 in
theorem f_M_pieceUnder_ok {ro : am_Ro} {d : Nat} (hd : 3 ≤ d) (p0 : Nat) (x1 : Int32) (hp0 : p0 = 67 ∨ p0 = 69) {m m' : am_Mm} {r : Int32} (h : f_M_pieceUnder p0 x1 m = some (r, m')) : am_Mt am_nw ro d mr_M_pieceUnder [.ref p0, .int x1] (S0, m) (some (.int r)) (S0, m') := by
  obtain ⟨d, rfl⟩ : ∃ d0, d = d0 + 1 := ⟨d - 1, by omega⟩
  refine am_Mt.of (by decide +kernel) (Nat.le_of_ble_eq_true rfl) ?_
  change am_AW am_nw ro (d + 1) mr_M_pieceUnder 0 [some (.ref p0), some (.int x1), none, none, none, none, none, none, none, none, none] [] (S0, m) (some (.int r)) (S0, m')
  unfold f_M_pieceUnder at h
  refine am_AW.run am_base_ok ok_M_pieceUnder (Nat.le_add_left 1 d) 2 (pc1 := 2) (ls1 := [some (.ref p0), some (.int x1), none, none, none, none, none, none, none, none, none]) (st1 := [.int (0 : Int32), .ref p0]) (σ1 := (S0, m)) rfl ?_
  refine am_AW.iald ok_M_pieceUnder (Nat.le_add_left 1 d) S0_len rfl (sh_67_69_0 hp0) (by decide) ?_
  change am_AW am_nw ro (d + 1) mr_M_pieceUnder 3 [some (.ref p0), some (.int x1), none, none, none, none, none, none, none, none, none] [.int (m.1 p0 0)] (S0, m) (some (.int r)) (S0, m')
  refine am_AW.run am_base_ok ok_M_pieceUnder (Nat.le_add_left 1 d) 3 (pc1 := 7) (ls1 := [some (.ref p0), some (.int x1), some (.int (m.1 p0 0)), none, none, none, none, none, none, none, none]) (st1 := [.int (10 : Int32), .int x1]) (σ1 := (S0, m)) rfl ?_
  refine am_AW.dvi ok_M_pieceUnder (Nat.le_add_left 1 d) (w := (x1 / (10 : Int32))) (Or.inl ⟨rfl, rfl⟩) rfl (by decide) ?_
  refine am_AW.run am_base_ok ok_M_pieceUnder (Nat.le_add_left 1 d) 3 (pc1 := 12) (ls1 := [some (.ref p0), some (.int x1), some (.int (m.1 p0 0)), some (.int (x1 / (10 : Int32))), none, none, none, none, none, none, none]) (st1 := [.int (10 : Int32), .int x1]) (σ1 := (S0, m)) rfl ?_
  refine am_AW.dvi ok_M_pieceUnder (Nat.le_add_left 1 d) (w := (am_rem x1 (10 : Int32))) (Or.inr ⟨rfl, rfl⟩) rfl (by decide) ?_
  refine am_AW.run am_base_ok ok_M_pieceUnder (Nat.le_add_left 1 d) 5 (pc1 := 21) (ls1 := [some (.ref p0), some (.int x1), some (.int (m.1 p0 0)), some (.int (x1 / (10 : Int32))), some (.int (am_rem x1 (10 : Int32))), some (.int (0 : Int32)), some (.int (x1 / (10 : Int32))), none, none, none, none]) (st1 := []) (σ1 := (S0, m)) rfl ?_
  exact am_AW.weak (f_M_pieceUnder_b21_ok hd p0 (m.1 p0 0) (x1 / (10 : Int32)) (am_rem x1 (10 : Int32)) (0 : Int32) (x1 / (10 : Int32)) hp0 h) (by simp only [am_le, and_self])
