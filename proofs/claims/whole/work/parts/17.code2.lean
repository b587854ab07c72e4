/-! FriezePolygons$Row.put(II)I -/
def f_Row_put_b26 (p0 : Nat) (x1 : Int32) (s0 : Int32) (m : am_Mm) : Option (Int32 × am_Mm) :=
  if x1 < (0 : Int32) then
    some (s0, m)
  else
    if (Int32.ofNat 40) ≤ x1 then
      some (s0, m)
    else
      if am_in x1 40 = true then
        some (s0, (am_pI m (p0 + 1) x1.toNatClampNeg s0))
      else none
def f_Row_put (p0 : Nat) (x1 : Int32) (x2 : Int32) (m : am_Mm) : Option (Int32 × am_Mm) :=
  if (m.1 p0 2) = (0 : Int32) then
    f_Row_put_b26 p0 x1 (x2.toInt8.toInt32) m
  else
    if (m.1 p0 2) = (1 : Int32) then
      f_Row_put_b26 p0 x1 (x2.toInt16.toInt32) m
    else
      f_Row_put_b26 p0 x1 x2 m
set_option maxHeartbeats 4000000 in
set_option maxRecDepth 100000 in
theorem f_Row_put_b26_ok {ro : am_Ro} {d : Nat} (hd : 1 ≤ d + 1) (p0 : Nat) (x1 : Int32) (s0 : Int32) (hp0 : p0 = 41 ∨ p0 = 43 ∨ p0 = 45 ∨ p0 = 47 ∨ p0 = 49 ∨ p0 = 51 ∨ p0 = 53 ∨ p0 = 55) {m m' : am_Mm} {r : Int32} (h : f_Row_put_b26 p0 x1 s0 m = some (r, m')) : am_AW am_nw ro (d + 1) mr_Row_put 26 [some (.ref p0), some (.int x1), none, none] [.int s0] (S0, m) (some (.int r)) (S0, m') := by
  unfold f_Row_put_b26 at h
  refine am_AW.run am_base_ok ok_Row_put (Nat.le_add_left 1 d) 2 (pc1 := 28) (ls1 := [some (.ref p0), some (.int x1), none, some (.int s0)]) (st1 := [.int x1]) (σ1 := (S0, m)) rfl ?_
  refine am_AW.brP ok_Row_put rfl rfl am_c_lt (fun c2 => ?_) (fun c2 => ?_)
  · rw [if_pos c2] at h
    refine am_AW.run am_base_ok ok_Row_put (Nat.le_add_left 1 d) 1 (pc1 := 48) (ls1 := [some (.ref p0), some (.int x1), none, some (.int s0)]) (st1 := [.int s0]) (σ1 := (S0, m)) rfl ?_
    obtain ⟨rfl, rfl⟩ := Prod.mk.inj (Option.some.inj h)
    exact am_AW.ret ok_Row_put rfl rfl rfl rfl
  · rw [if_neg c2] at h
    refine am_AW.run am_base_ok ok_Row_put (Nat.le_add_left 1 d) 2 (pc1 := 33) (ls1 := [some (.ref p0), some (.int x1), none, some (.int s0)]) (st1 := [.ref p0, .int x1]) (σ1 := (S0, m)) rfl ?_
    refine am_AW.getf ok_Row_put (Nat.le_add_left 1 d) rfl (sh_41_43_45_47_49_51_53_55_0 hp0) rfl ?_
    refine am_AW.alen ok_Row_put (Nat.le_add_left 1 d) S0_len rfl (sh_41_43_45_47_49_51_53_55_1 hp0) (by decide) ?_
    refine am_AW.brP ok_Row_put rfl rfl am_c_ge (fun c3 => ?_) (fun c3 => ?_)
    · rw [if_pos c3] at h
      refine am_AW.run am_base_ok ok_Row_put (Nat.le_add_left 1 d) 1 (pc1 := 48) (ls1 := [some (.ref p0), some (.int x1), none, some (.int s0)]) (st1 := [.int s0]) (σ1 := (S0, m)) rfl ?_
      obtain ⟨rfl, rfl⟩ := Prod.mk.inj (Option.some.inj h)
      exact am_AW.ret ok_Row_put rfl rfl rfl rfl
    · rw [if_neg c3] at h
      refine am_AW.run am_base_ok ok_Row_put (Nat.le_add_left 1 d) 1 (pc1 := 41) (ls1 := [some (.ref p0), some (.int x1), none, some (.int s0)]) (st1 := [.ref p0]) (σ1 := (S0, m)) rfl ?_
      refine am_AW.getf ok_Row_put (Nat.le_add_left 1 d) rfl (sh_41_43_45_47_49_51_53_55_0 hp0) rfl ?_
      refine am_AW.run am_base_ok ok_Row_put (Nat.le_add_left 1 d) 2 (pc1 := 46) (ls1 := [some (.ref p0), some (.int x1), none, some (.int s0)]) (st1 := [.int s0, .int x1, .ref (p0 + 1)]) (σ1 := (S0, m)) rfl ?_
      by_cases g4 : am_in x1 40 = true
      rotate_left
      · rw [if_neg g4] at h
        cases h
      rw [if_pos g4] at h
      refine am_AW.iast ok_Row_put (Nat.le_add_left 1 d) rfl (sh_41_43_45_47_49_51_53_55_1 hp0) g4 ?_
      change am_AW am_nw ro (d + 1) mr_Row_put 47 [some (.ref p0), some (.int x1), none, some (.int s0)] [] (S0, (am_pI m (p0 + 1) x1.toNatClampNeg s0)) (some (.int r)) (S0, m')
      refine am_AW.run am_base_ok ok_Row_put (Nat.le_add_left 1 d) 1 (pc1 := 48) (ls1 := [some (.ref p0), some (.int x1), none, some (.int s0)]) (st1 := [.int s0]) (σ1 := (S0, (am_pI m (p0 + 1) x1.toNatClampNeg s0))) rfl ?_
      obtain ⟨rfl, rfl⟩ := Prod.mk.inj (Option.some.inj h)
      exact am_AW.ret ok_Row_put rfl rfl rfl rfl
set_option maxHeartbeats 4000000 in
set_option maxRecDepth 100000 in
theorem f_Row_put_ok {ro : am_Ro} {d : Nat} (hd : 1 ≤ d) (p0 : Nat) (x1 : Int32) (x2 : Int32) (hp0 : p0 = 41 ∨ p0 = 43 ∨ p0 = 45 ∨ p0 = 47 ∨ p0 = 49 ∨ p0 = 51 ∨ p0 = 53 ∨ p0 = 55) {m m' : am_Mm} {r : Int32} (h : f_Row_put p0 x1 x2 m = some (r, m')) : am_Mt am_nw ro d mr_Row_put [.ref p0, .int x1, .int x2] (S0, m) (some (.int r)) (S0, m') := by
  obtain ⟨d, rfl⟩ : ∃ d0, d = d0 + 1 := ⟨d - 1, by omega⟩
  refine am_Mt.of (by decide +kernel) (Nat.le_of_ble_eq_true rfl) ?_
  change am_AW am_nw ro (d + 1) mr_Row_put 0 [some (.ref p0), some (.int x1), some (.int x2), none] [] (S0, m) (some (.int r)) (S0, m')
  unfold f_Row_put at h
  refine am_AW.run am_base_ok ok_Row_put (Nat.le_add_left 1 d) 1 (pc1 := 1) (ls1 := [some (.ref p0), some (.int x1), some (.int x2), none]) (st1 := [.ref p0]) (σ1 := (S0, m)) rfl ?_
  refine am_AW.geti ok_Row_put (Nat.le_add_left 1 d) rfl (sh_41_43_45_47_49_51_53_55_0 hp0) rfl ?_
  refine am_AW.brN ok_Row_put rfl rfl am_c_ne (fun c1 => ?_) (fun c1 => ?_)
  · rw [if_pos c1] at h
    refine am_AW.run am_base_ok ok_Row_put (Nat.le_add_left 1 d) 3 (pc1 := 26) (ls1 := [some (.ref p0), some (.int x1), some (.int x2), none]) (st1 := [.int (x2.toInt8.toInt32)]) (σ1 := (S0, m)) rfl ?_
    exact am_AW.weak (f_Row_put_b26_ok hd p0 x1 (x2.toInt8.toInt32) hp0 h) (by simp only [am_le, and_self])
  · rw [if_neg c1] at h
    refine am_AW.run am_base_ok ok_Row_put (Nat.le_add_left 1 d) 1 (pc1 := 13) (ls1 := [some (.ref p0), some (.int x1), some (.int x2), none]) (st1 := [.ref p0]) (σ1 := (S0, m)) rfl ?_
    refine am_AW.geti ok_Row_put (Nat.le_add_left 1 d) rfl (sh_41_43_45_47_49_51_53_55_0 hp0) rfl ?_
    refine am_AW.run am_base_ok ok_Row_put (Nat.le_add_left 1 d) 1 (pc1 := 17) (ls1 := [some (.ref p0), some (.int x1), some (.int x2), none]) (st1 := [.int (1 : Int32), .int (m.1 p0 2)]) (σ1 := (S0, m)) rfl ?_
    refine am_AW.brN ok_Row_put rfl rfl am_c_ne (fun c5 => ?_) (fun c5 => ?_)
    · rw [if_pos c5] at h
      refine am_AW.run am_base_ok ok_Row_put (Nat.le_add_left 1 d) 3 (pc1 := 26) (ls1 := [some (.ref p0), some (.int x1), some (.int x2), none]) (st1 := [.int (x2.toInt16.toInt32)]) (σ1 := (S0, m)) rfl ?_
      exact am_AW.weak (f_Row_put_b26_ok hd p0 x1 (x2.toInt16.toInt32) hp0 h) (by simp only [am_le, and_self])
    · rw [if_neg c5] at h
      refine am_AW.run am_base_ok ok_Row_put (Nat.le_add_left 1 d) 1 (pc1 := 26) (ls1 := [some (.ref p0), some (.int x1), some (.int x2), none]) (st1 := [.int x2]) (σ1 := (S0, m)) rfl ?_
      exact am_AW.weak (f_Row_put_b26_ok hd p0 x1 x2 hp0 h) (by simp only [am_le, and_self])
/-! FriezePolygons$Row.itemAt(I)I -/
def f_Row_itemAt (p0 : Nat) (x1 : Int32) (m : am_Mm) : Option (Int32 × am_Mm) :=
  if x1 < (0 : Int32) then
    some ((0 : Int32), m)
  else
    if (Int32.ofNat 40) ≤ x1 then
      some ((0 : Int32), m)
    else
      if am_in x1 40 = true then
        some ((m.1 (p0 + 1) x1.toNatClampNeg), m)
      else none
set_option maxHeartbeats 4000000 in
set_option maxRecDepth 100000 in
theorem f_Row_itemAt_ok {ro : am_Ro} {d : Nat} (hd : 1 ≤ d) (p0 : Nat) (x1 : Int32) (hp0 : p0 = 41 ∨ p0 = 43 ∨ p0 = 45 ∨ p0 = 47 ∨ p0 = 49 ∨ p0 = 51 ∨ p0 = 53 ∨ p0 = 55) {m m' : am_Mm} {r : Int32} (h : f_Row_itemAt p0 x1 m = some (r, m')) : am_Mt am_nw ro d mr_Row_itemAt [.ref p0, .int x1] (S0, m) (some (.int r)) (S0, m') := by
  obtain ⟨d, rfl⟩ : ∃ d0, d = d0 + 1 := ⟨d - 1, by omega⟩
  refine am_Mt.of (by decide +kernel) (Nat.le_of_ble_eq_true rfl) ?_
  change am_AW am_nw ro (d + 1) mr_Row_itemAt 0 [some (.ref p0), some (.int x1)] [] (S0, m) (some (.int r)) (S0, m')
  unfold f_Row_itemAt at h
  refine am_AW.run am_base_ok ok_Row_itemAt (Nat.le_add_left 1 d) 1 (pc1 := 1) (ls1 := [some (.ref p0), some (.int x1)]) (st1 := [.int x1]) (σ1 := (S0, m)) rfl ?_
  refine am_AW.brP ok_Row_itemAt rfl rfl am_c_lt (fun c1 => ?_) (fun c1 => ?_)
  · rw [if_pos c1] at h
    refine am_AW.run am_base_ok ok_Row_itemAt (Nat.le_add_left 1 d) 1 (pc1 := 23) (ls1 := [some (.ref p0), some (.int x1)]) (st1 := [.int (0 : Int32)]) (σ1 := (S0, m)) rfl ?_
    obtain ⟨rfl, rfl⟩ := Prod.mk.inj (Option.some.inj h)
    exact am_AW.ret ok_Row_itemAt rfl rfl rfl rfl
  · rw [if_neg c1] at h
    refine am_AW.run am_base_ok ok_Row_itemAt (Nat.le_add_left 1 d) 2 (pc1 := 6) (ls1 := [some (.ref p0), some (.int x1)]) (st1 := [.ref p0, .int x1]) (σ1 := (S0, m)) rfl ?_
    refine am_AW.getf ok_Row_itemAt (Nat.le_add_left 1 d) rfl (sh_41_43_45_47_49_51_53_55_0 hp0) rfl ?_
    refine am_AW.alen ok_Row_itemAt (Nat.le_add_left 1 d) S0_len rfl (sh_41_43_45_47_49_51_53_55_1 hp0) (by decide) ?_
    refine am_AW.brP ok_Row_itemAt rfl rfl am_c_ge (fun c2 => ?_) (fun c2 => ?_)
    · rw [if_pos c2] at h
      refine am_AW.run am_base_ok ok_Row_itemAt (Nat.le_add_left 1 d) 1 (pc1 := 23) (ls1 := [some (.ref p0), some (.int x1)]) (st1 := [.int (0 : Int32)]) (σ1 := (S0, m)) rfl ?_
      obtain ⟨rfl, rfl⟩ := Prod.mk.inj (Option.some.inj h)
      exact am_AW.ret ok_Row_itemAt rfl rfl rfl rfl
    · rw [if_neg c2] at h
      refine am_AW.run am_base_ok ok_Row_itemAt (Nat.le_add_left 1 d) 1 (pc1 := 14) (ls1 := [some (.ref p0), some (.int x1)]) (st1 := [.ref p0]) (σ1 := (S0, m)) rfl ?_
      refine am_AW.getf ok_Row_itemAt (Nat.le_add_left 1 d) rfl (sh_41_43_45_47_49_51_53_55_0 hp0) rfl ?_
      refine am_AW.run am_base_ok ok_Row_itemAt (Nat.le_add_left 1 d) 1 (pc1 := 18) (ls1 := [some (.ref p0), some (.int x1)]) (st1 := [.int x1, .ref (p0 + 1)]) (σ1 := (S0, m)) rfl ?_
      by_cases g3 : am_in x1 40 = true
      rotate_left
      · rw [if_neg g3] at h
        cases h
      rw [if_pos g3] at h
      refine am_AW.iald ok_Row_itemAt (Nat.le_add_left 1 d) S0_len rfl (sh_41_43_45_47_49_51_53_55_1 hp0) g3 ?_
      refine am_AW.run am_base_ok ok_Row_itemAt (Nat.le_add_left 1 d) 1 (pc1 := 23) (ls1 := [some (.ref p0), some (.int x1)]) (st1 := [.int (m.1 (p0 + 1) x1.toNatClampNeg)]) (σ1 := (S0, m)) rfl ?_
      obtain ⟨rfl, rfl⟩ := Prod.mk.inj (Option.some.inj h)
      exact am_AW.ret ok_Row_itemAt rfl rfl rfl rfl
/-! FriezePolygons$Tape.take(I)Z -/
def f_Tape_take (x1 : Int32) (m : am_Mm) : Option (Int32 × am_Mm) :=
  if (m.1 2 3) < (0 : Int32) then
    some ((0 : Int32), m)
  else
    if (m.1 2 3) < (120 : Int32) then
      if am_in (m.1 2 3) 120 = true then
        some ((1 : Int32), (am_pI (am_pI m 12 (m.1 2 3).toNatClampNeg x1) 2 3 (((am_pI m 12 (m.1 2 3).toNatClampNeg x1).1 2 3) + (1 : Int32))))
      else none
    else
      some ((0 : Int32), m)
set_option maxHeartbeats 4000000 in
set_option maxRecDepth 100000 in
theorem f_Tape_take_ok {ro : am_Ro} {d : Nat} (hd : 1 ≤ d) (x1 : Int32) {m m' : am_Mm} {r : Int32} (h : f_Tape_take x1 m = some (r, m')) : am_Mt am_nw ro d mr_Tape_take [.ref 2, .int x1] (S0, m) (some (.int r)) (S0, m') := by
  obtain ⟨d, rfl⟩ : ∃ d0, d = d0 + 1 := ⟨d - 1, by omega⟩
  refine am_Mt.of (by decide +kernel) (Nat.le_of_ble_eq_true rfl) ?_
  change am_AW am_nw ro (d + 1) mr_Tape_take 0 [some (.ref 2), some (.int x1)] [] (S0, m) (some (.int r)) (S0, m')
  unfold f_Tape_take at h
  refine am_AW.run am_base_ok ok_Tape_take (Nat.le_add_left 1 d) 2 (pc1 := 4) (ls1 := [some (.ref 2), some (.int x1)]) (st1 := [.int (m.1 2 3)]) (σ1 := (S0, m)) rfl ?_
  refine am_AW.brP ok_Tape_take rfl rfl am_c_lt (fun c1 => ?_) (fun c1 => ?_)
  · rw [if_pos c1] at h
    refine am_AW.run am_base_ok ok_Tape_take (Nat.le_add_left 1 d) 1 (pc1 := 17) (ls1 := [some (.ref 2), some (.int x1)]) (st1 := [.int (0 : Int32)]) (σ1 := (S0, m)) rfl ?_
    obtain ⟨rfl, rfl⟩ := Prod.mk.inj (Option.some.inj h)
    exact am_AW.ret ok_Tape_take rfl rfl rfl (by decide)
  · rw [if_neg c1] at h
    refine am_AW.run am_base_ok ok_Tape_take (Nat.le_add_left 1 d) 3 (pc1 := 13) (ls1 := [some (.ref 2), some (.int x1)]) (st1 := [.int (120 : Int32), .int (m.1 2 3)]) (σ1 := (S0, m)) rfl ?_
    refine am_AW.brP ok_Tape_take rfl rfl am_c_lt (fun c2 => ?_) (fun c2 => ?_)
    · rw [if_pos c2] at h
      refine am_AW.run am_base_ok ok_Tape_take (Nat.le_add_left 1 d) 5 (pc1 := 27) (ls1 := [some (.ref 2), some (.int x1)]) (st1 := [.int x1, .int (m.1 2 3), .ref 12]) (σ1 := (S0, m)) rfl ?_
      by_cases g3 : am_in (m.1 2 3) 120 = true
      rotate_left
      · rw [if_neg g3] at h
        cases h
      rw [if_pos g3] at h
      refine am_AW.iast ok_Tape_take (Nat.le_add_left 1 d) rfl rfl g3 ?_
      change am_AW am_nw ro (d + 1) mr_Tape_take 28 [some (.ref 2), some (.int x1)] [] (S0, (am_pI m 12 (m.1 2 3).toNatClampNeg x1)) (some (.int r)) (S0, m')
      refine am_AW.run am_base_ok ok_Tape_take (Nat.le_add_left 1 d) 5 (pc1 := 35) (ls1 := [some (.ref 2), some (.int x1)]) (st1 := [.int (((am_pI m 12 (m.1 2 3).toNatClampNeg x1).1 2 3) + (1 : Int32)), .ref 2]) (σ1 := (S0, (am_pI m 12 (m.1 2 3).toNatClampNeg x1))) rfl ?_
      refine am_AW.puti ok_Tape_take (Nat.le_add_left 1 d) rfl rfl rfl (qc := kq8) rfl (by decide) ty_8_3 ?_
      refine am_AW.run am_base_ok ok_Tape_take (Nat.le_add_left 1 d) 1 (pc1 := 39) (ls1 := [some (.ref 2), some (.int x1)]) (st1 := [.int (1 : Int32)]) (σ1 := (S0, (am_pI (am_pI m 12 (m.1 2 3).toNatClampNeg x1) 2 3 (((am_pI m 12 (m.1 2 3).toNatClampNeg x1).1 2 3) + (1 : Int32))))) rfl ?_
      obtain ⟨rfl, rfl⟩ := Prod.mk.inj (Option.some.inj h)
      exact am_AW.ret ok_Tape_take rfl rfl rfl (by decide)
    · rw [if_neg c2] at h
      refine am_AW.run am_base_ok ok_Tape_take (Nat.le_add_left 1 d) 1 (pc1 := 17) (ls1 := [some (.ref 2), some (.int x1)]) (st1 := [.int (0 : Int32)]) (σ1 := (S0, m)) rfl ?_
      obtain ⟨rfl, rfl⟩ := Prod.mk.inj (Option.some.inj h)
      exact am_AW.ret ok_Tape_take rfl rfl rfl (by decide)
/-! FriezePolygons$Tape.refuse(I)Z -/
def f_Tape_refuse (x1 : Int32) (m : am_Mm) : Option (Int32 × am_Mm) :=
  some ((0 : Int32), (am_pI m 2 4 x1))
set_option maxHeartbeats 4000000 in
set_option maxRecDepth 100000 in
theorem f_Tape_refuse_ok {ro : am_Ro} {d : Nat} (hd : 1 ≤ d) (x1 : Int32) {m m' : am_Mm} {r : Int32} (h : f_Tape_refuse x1 m = some (r, m')) : am_Mt am_nw ro d mr_Tape_refuse [.ref 2, .int x1] (S0, m) (some (.int r)) (S0, m') := by
  obtain ⟨d, rfl⟩ : ∃ d0, d = d0 + 1 := ⟨d - 1, by omega⟩
  refine am_Mt.of (by decide +kernel) (Nat.le_of_ble_eq_true rfl) ?_
  change am_AW am_nw ro (d + 1) mr_Tape_refuse 0 [some (.ref 2), some (.int x1)] [] (S0, m) (some (.int r)) (S0, m')
  unfold f_Tape_refuse at h
  refine am_AW.run am_base_ok ok_Tape_refuse (Nat.le_add_left 1 d) 2 (pc1 := 2) (ls1 := [some (.ref 2), some (.int x1)]) (st1 := [.int x1, .ref 2]) (σ1 := (S0, m)) rfl ?_
  refine am_AW.puti ok_Tape_refuse (Nat.le_add_left 1 d) rfl rfl rfl (qc := kq8) rfl (by decide) ty_8_4 ?_
  refine am_AW.run am_base_ok ok_Tape_refuse (Nat.le_add_left 1 d) 1 (pc1 := 6) (ls1 := [some (.ref 2), some (.int x1)]) (st1 := [.int (0 : Int32)]) (σ1 := (S0, (am_pI m 2 4 x1))) rfl ?_
  obtain ⟨rfl, rfl⟩ := Prod.mk.inj (Option.some.inj h)
  exact am_AW.ret ok_Tape_refuse rfl rfl rfl (by decide)
/-! FriezePolygons$Tape.sortOf(I)I -/
def f_Tape_sortOf (x0 : Int32) (m : am_Mm) : Option (Int32 × am_Mm) :=
  if x0 = (102 : Int32) then
    some ((4 : Int32), m)
  else
    if x0 = (103 : Int32) then
      some ((0 : Int32), m)
    else
      if x0 = (104 : Int32) then
        some ((0 : Int32), m)
      else
        if x0 = (105 : Int32) then
          some ((0 : Int32), m)
        else
          if x0 = (106 : Int32) then
            some ((0 : Int32), m)
          else
            if x0 = (107 : Int32) then
              some ((0 : Int32), m)
            else
              if x0 = (108 : Int32) then
                some ((0 : Int32), m)
              else
                if x0 = (109 : Int32) then
                  some ((3 : Int32), m)
                else
                  if x0 = (110 : Int32) then
                    some ((0 : Int32), m)
                  else
                    if x0 = (111 : Int32) then
                      some ((5 : Int32), m)
                    else
                      if x0 = (112 : Int32) then
                        some ((1 : Int32), m)
                      else
                        if x0 = (113 : Int32) then
                          some ((0 : Int32), m)
                        else
                          if x0 = (114 : Int32) then
                            some ((0 : Int32), m)
                          else
                            if x0 = (115 : Int32) then
                              some ((0 : Int32), m)
                            else
                              if x0 = (116 : Int32) then
                                some ((2 : Int32), m)
                              else
                                some ((0 : Int32), m)
set_option maxHeartbeats 4000000 in
set_option maxRecDepth 100000 in
theorem f_Tape_sortOf_ok {ro : am_Ro} {d : Nat} (hd : 1 ≤ d) (x0 : Int32) {m m' : am_Mm} {r : Int32} (h : f_Tape_sortOf x0 m = some (r, m')) : am_Mt am_nw ro d mr_Tape_sortOf [.int x0] (S0, m) (some (.int r)) (S0, m') := by
  obtain ⟨d, rfl⟩ : ∃ d0, d = d0 + 1 := ⟨d - 1, by omega⟩
  refine am_Mt.of (by decide +kernel) (Nat.le_of_ble_eq_true rfl) ?_
  change am_AW am_nw ro (d + 1) mr_Tape_sortOf 0 [some (.int x0)] [] (S0, m) (some (.int r)) (S0, m')
  unfold f_Tape_sortOf at h
  refine am_AW.run am_base_ok ok_Tape_sortOf (Nat.le_add_left 1 d) 1 (pc1 := 1) (ls1 := [some (.int x0)]) (st1 := [.int x0]) (σ1 := (S0, m)) rfl ?_
  by_cases c1 : x0 = (102 : Int32)
  · rw [if_pos c1] at h
    refine am_AW.sw ok_Tape_sortOf rfl (t := 82) (by rw [c1]; decide +kernel) ?_
    refine am_AW.run am_base_ok ok_Tape_sortOf (Nat.le_add_left 1 d) 1 (pc1 := 83) (ls1 := [some (.int x0)]) (st1 := [.int (4 : Int32)]) (σ1 := (S0, m)) rfl ?_
    obtain ⟨rfl, rfl⟩ := Prod.mk.inj (Option.some.inj h)
    exact am_AW.ret ok_Tape_sortOf rfl rfl rfl rfl
  rw [if_neg c1] at h
  by_cases c2 : x0 = (103 : Int32)
  · rw [if_pos c2] at h
    refine am_AW.sw ok_Tape_sortOf rfl (t := 86) (by rw [c2]; decide +kernel) ?_
    refine am_AW.run am_base_ok ok_Tape_sortOf (Nat.le_add_left 1 d) 1 (pc1 := 87) (ls1 := [some (.int x0)]) (st1 := [.int (0 : Int32)]) (σ1 := (S0, m)) rfl ?_
    obtain ⟨rfl, rfl⟩ := Prod.mk.inj (Option.some.inj h)
    exact am_AW.ret ok_Tape_sortOf rfl rfl rfl rfl
  rw [if_neg c2] at h
  by_cases c3 : x0 = (104 : Int32)
  · rw [if_pos c3] at h
    refine am_AW.sw ok_Tape_sortOf rfl (t := 86) (by rw [c3]; decide +kernel) ?_
    refine am_AW.run am_base_ok ok_Tape_sortOf (Nat.le_add_left 1 d) 1 (pc1 := 87) (ls1 := [some (.int x0)]) (st1 := [.int (0 : Int32)]) (σ1 := (S0, m)) rfl ?_
    obtain ⟨rfl, rfl⟩ := Prod.mk.inj (Option.some.inj h)
    exact am_AW.ret ok_Tape_sortOf rfl rfl rfl rfl
  rw [if_neg c3] at h
  by_cases c4 : x0 = (105 : Int32)
  · rw [if_pos c4] at h
    refine am_AW.sw ok_Tape_sortOf rfl (t := 86) (by rw [c4]; decide +kernel) ?_
    refine am_AW.run am_base_ok ok_Tape_sortOf (Nat.le_add_left 1 d) 1 (pc1 := 87) (ls1 := [some (.int x0)]) (st1 := [.int (0 : Int32)]) (σ1 := (S0, m)) rfl ?_
    obtain ⟨rfl, rfl⟩ := Prod.mk.inj (Option.some.inj h)
    exact am_AW.ret ok_Tape_sortOf rfl rfl rfl rfl
  rw [if_neg c4] at h
  by_cases c5 : x0 = (106 : Int32)
  · rw [if_pos c5] at h
    refine am_AW.sw ok_Tape_sortOf rfl (t := 86) (by rw [c5]; decide +kernel) ?_
    refine am_AW.run am_base_ok ok_Tape_sortOf (Nat.le_add_left 1 d) 1 (pc1 := 87) (ls1 := [some (.int x0)]) (st1 := [.int (0 : Int32)]) (σ1 := (S0, m)) rfl ?_
    obtain ⟨rfl, rfl⟩ := Prod.mk.inj (Option.some.inj h)
    exact am_AW.ret ok_Tape_sortOf rfl rfl rfl rfl
  rw [if_neg c5] at h
  by_cases c6 : x0 = (107 : Int32)
  · rw [if_pos c6] at h
    refine am_AW.sw ok_Tape_sortOf rfl (t := 86) (by rw [c6]; decide +kernel) ?_
    refine am_AW.run am_base_ok ok_Tape_sortOf (Nat.le_add_left 1 d) 1 (pc1 := 87) (ls1 := [some (.int x0)]) (st1 := [.int (0 : Int32)]) (σ1 := (S0, m)) rfl ?_
    obtain ⟨rfl, rfl⟩ := Prod.mk.inj (Option.some.inj h)
    exact am_AW.ret ok_Tape_sortOf rfl rfl rfl rfl
  rw [if_neg c6] at h
  by_cases c7 : x0 = (108 : Int32)
  · rw [if_pos c7] at h
    refine am_AW.sw ok_Tape_sortOf rfl (t := 86) (by rw [c7]; decide +kernel) ?_
    refine am_AW.run am_base_ok ok_Tape_sortOf (Nat.le_add_left 1 d) 1 (pc1 := 87) (ls1 := [some (.int x0)]) (st1 := [.int (0 : Int32)]) (σ1 := (S0, m)) rfl ?_
    obtain ⟨rfl, rfl⟩ := Prod.mk.inj (Option.some.inj h)
    exact am_AW.ret ok_Tape_sortOf rfl rfl rfl rfl
  rw [if_neg c7] at h
  by_cases c8 : x0 = (109 : Int32)
  · rw [if_pos c8] at h
    refine am_AW.sw ok_Tape_sortOf rfl (t := 80) (by rw [c8]; decide +kernel) ?_
    refine am_AW.run am_base_ok ok_Tape_sortOf (Nat.le_add_left 1 d) 1 (pc1 := 81) (ls1 := [some (.int x0)]) (st1 := [.int (3 : Int32)]) (σ1 := (S0, m)) rfl ?_
    obtain ⟨rfl, rfl⟩ := Prod.mk.inj (Option.some.inj h)
    exact am_AW.ret ok_Tape_sortOf rfl rfl rfl rfl
  rw [if_neg c8] at h
  by_cases c9 : x0 = (110 : Int32)
  · rw [if_pos c9] at h
    refine am_AW.sw ok_Tape_sortOf rfl (t := 86) (by rw [c9]; decide +kernel) ?_
    refine am_AW.run am_base_ok ok_Tape_sortOf (Nat.le_add_left 1 d) 1 (pc1 := 87) (ls1 := [some (.int x0)]) (st1 := [.int (0 : Int32)]) (σ1 := (S0, m)) rfl ?_
    obtain ⟨rfl, rfl⟩ := Prod.mk.inj (Option.some.inj h)
    exact am_AW.ret ok_Tape_sortOf rfl rfl rfl rfl
  rw [if_neg c9] at h
  by_cases c10 : x0 = (111 : Int32)
  · rw [if_pos c10] at h
    refine am_AW.sw ok_Tape_sortOf rfl (t := 84) (by rw [c10]; decide +kernel) ?_
    refine am_AW.run am_base_ok ok_Tape_sortOf (Nat.le_add_left 1 d) 1 (pc1 := 85) (ls1 := [some (.int x0)]) (st1 := [.int (5 : Int32)]) (σ1 := (S0, m)) rfl ?_
    obtain ⟨rfl, rfl⟩ := Prod.mk.inj (Option.some.inj h)
    exact am_AW.ret ok_Tape_sortOf rfl rfl rfl rfl
  rw [if_neg c10] at h
  by_cases c11 : x0 = (112 : Int32)
  · rw [if_pos c11] at h
    refine am_AW.sw ok_Tape_sortOf rfl (t := 76) (by rw [c11]; decide +kernel) ?_
    refine am_AW.run am_base_ok ok_Tape_sortOf (Nat.le_add_left 1 d) 1 (pc1 := 77) (ls1 := [some (.int x0)]) (st1 := [.int (1 : Int32)]) (σ1 := (S0, m)) rfl ?_
    obtain ⟨rfl, rfl⟩ := Prod.mk.inj (Option.some.inj h)
    exact am_AW.ret ok_Tape_sortOf rfl rfl rfl rfl
  rw [if_neg c11] at h
  by_cases c12 : x0 = (113 : Int32)
  · rw [if_pos c12] at h
    refine am_AW.sw ok_Tape_sortOf rfl (t := 86) (by rw [c12]; decide +kernel) ?_
    refine am_AW.run am_base_ok ok_Tape_sortOf (Nat.le_add_left 1 d) 1 (pc1 := 87) (ls1 := [some (.int x0)]) (st1 := [.int (0 : Int32)]) (σ1 := (S0, m)) rfl ?_
    obtain ⟨rfl, rfl⟩ := Prod.mk.inj (Option.some.inj h)
    exact am_AW.ret ok_Tape_sortOf rfl rfl rfl rfl
  rw [if_neg c12] at h
  by_cases c13 : x0 = (114 : Int32)
  · rw [if_pos c13] at h
    refine am_AW.sw ok_Tape_sortOf rfl (t := 86) (by rw [c13]; decide +kernel) ?_
    refine am_AW.run am_base_ok ok_Tape_sortOf (Nat.le_add_left 1 d) 1 (pc1 := 87) (ls1 := [some (.int x0)]) (st1 := [.int (0 : Int32)]) (σ1 := (S0, m)) rfl ?_
    obtain ⟨rfl, rfl⟩ := Prod.mk.inj (Option.some.inj h)
    exact am_AW.ret ok_Tape_sortOf rfl rfl rfl rfl
  rw [if_neg c13] at h
  by_cases c14 : x0 = (115 : Int32)
  · rw [if_pos c14] at h
    refine am_AW.sw ok_Tape_sortOf rfl (t := 86) (by rw [c14]; decide +kernel) ?_
    refine am_AW.run am_base_ok ok_Tape_sortOf (Nat.le_add_left 1 d) 1 (pc1 := 87) (ls1 := [some (.int x0)]) (st1 := [.int (0 : Int32)]) (σ1 := (S0, m)) rfl ?_
    obtain ⟨rfl, rfl⟩ := Prod.mk.inj (Option.some.inj h)
    exact am_AW.ret ok_Tape_sortOf rfl rfl rfl rfl
  rw [if_neg c14] at h
  by_cases c15 : x0 = (116 : Int32)
  · rw [if_pos c15] at h
    refine am_AW.sw ok_Tape_sortOf rfl (t := 78) (by rw [c15]; decide +kernel) ?_
    refine am_AW.run am_base_ok ok_Tape_sortOf (Nat.le_add_left 1 d) 1 (pc1 := 79) (ls1 := [some (.int x0)]) (st1 := [.int (2 : Int32)]) (σ1 := (S0, m)) rfl ?_
    obtain ⟨rfl, rfl⟩ := Prod.mk.inj (Option.some.inj h)
    exact am_AW.ret ok_Tape_sortOf rfl rfl rfl rfl
  rw [if_neg c15] at h
  have o16 : (x0).toInt < 102 ∨ 116 < (x0).toInt := by
    have := lv_neT c1 (a := 102) (by decide)
    have := lv_neT c2 (a := 103) (by decide)
    have := lv_neT c3 (a := 104) (by decide)
    have := lv_neT c4 (a := 105) (by decide)
    have := lv_neT c5 (a := 106) (by decide)
    have := lv_neT c6 (a := 107) (by decide)
    have := lv_neT c7 (a := 108) (by decide)
    have := lv_neT c8 (a := 109) (by decide)
    have := lv_neT c9 (a := 110) (by decide)
    have := lv_neT c10 (a := 111) (by decide)
    have := lv_neT c11 (a := 112) (by decide)
    have := lv_neT c12 (a := 113) (by decide)
    have := lv_neT c13 (a := 114) (by decide)
    have := lv_neT c14 (a := 115) (by decide)
    have := lv_neT c15 (a := 116) (by decide)
    omega
  refine am_AW.sw ok_Tape_sortOf rfl (t := 86) (by simp only [am_sw, if_pos o16]; decide +kernel) ?_
  refine am_AW.run am_base_ok ok_Tape_sortOf (Nat.le_add_left 1 d) 1 (pc1 := 87) (ls1 := [some (.int x0)]) (st1 := [.int (0 : Int32)]) (σ1 := (S0, m)) rfl ?_
  obtain ⟨rfl, rfl⟩ := Prod.mk.inj (Option.some.inj h)
  exact am_AW.ret ok_Tape_sortOf rfl rfl rfl rfl
/-! FriezePolygons$Tape.isFigure(I)Z -/
def f_Tape_isFigure (x0 : Int32) (m : am_Mm) : Option (Int32 × am_Mm) :=
  if x0 < (48 : Int32) then
    some ((0 : Int32), m)
  else
    if (57 : Int32) < x0 then
      some ((0 : Int32), m)
    else
      some ((1 : Int32), m)
set_option maxHeartbeats 4000000 in
set_option maxRecDepth 100000 in
theorem f_Tape_isFigure_ok {ro : am_Ro} {d : Nat} (hd : 1 ≤ d) (x0 : Int32) {m m' : am_Mm} {r : Int32} (h : f_Tape_isFigure x0 m = some (r, m')) : am_Mt am_nw ro d mr_Tape_isFigure [.int x0] (S0, m) (some (.int r)) (S0, m') := by
  obtain ⟨d, rfl⟩ : ∃ d0, d = d0 + 1 := ⟨d - 1, by omega⟩
  refine am_Mt.of (by decide +kernel) (Nat.le_of_ble_eq_true rfl) ?_
  change am_AW am_nw ro (d + 1) mr_Tape_isFigure 0 [some (.int x0)] [] (S0, m) (some (.int r)) (S0, m')
  unfold f_Tape_isFigure at h
  refine am_AW.run am_base_ok ok_Tape_isFigure (Nat.le_add_left 1 d) 2 (pc1 := 3) (ls1 := [some (.int x0)]) (st1 := [.int (48 : Int32), .int x0]) (σ1 := (S0, m)) rfl ?_
  refine am_AW.brP ok_Tape_isFigure rfl rfl am_c_lt (fun c1 => ?_) (fun c1 => ?_)
  · rw [if_pos c1] at h
    refine am_AW.run am_base_ok ok_Tape_isFigure (Nat.le_add_left 1 d) 1 (pc1 := 17) (ls1 := [some (.int x0)]) (st1 := [.int (0 : Int32)]) (σ1 := (S0, m)) rfl ?_
    obtain ⟨rfl, rfl⟩ := Prod.mk.inj (Option.some.inj h)
    exact am_AW.ret ok_Tape_isFigure rfl rfl rfl (by decide)
  · rw [if_neg c1] at h
    refine am_AW.run am_base_ok ok_Tape_isFigure (Nat.le_add_left 1 d) 2 (pc1 := 9) (ls1 := [some (.int x0)]) (st1 := [.int (57 : Int32), .int x0]) (σ1 := (S0, m)) rfl ?_
    refine am_AW.brP ok_Tape_isFigure rfl rfl am_c_gt (fun c2 => ?_) (fun c2 => ?_)
    · rw [if_pos c2] at h
      refine am_AW.run am_base_ok ok_Tape_isFigure (Nat.le_add_left 1 d) 1 (pc1 := 17) (ls1 := [some (.int x0)]) (st1 := [.int (0 : Int32)]) (σ1 := (S0, m)) rfl ?_
      obtain ⟨rfl, rfl⟩ := Prod.mk.inj (Option.some.inj h)
      exact am_AW.ret ok_Tape_isFigure rfl rfl rfl (by decide)
    · rw [if_neg c2] at h
      refine am_AW.run am_base_ok ok_Tape_isFigure (Nat.le_add_left 1 d) 2 (pc1 := 17) (ls1 := [some (.int x0)]) (st1 := [.int (1 : Int32)]) (σ1 := (S0, m)) rfl ?_
      obtain ⟨rfl, rfl⟩ := Prod.mk.inj (Option.some.inj h)
      exact am_AW.ret ok_Tape_isFigure rfl rfl rfl (by decide)
/-! FriezePolygons.fault()I -/
def f_C_fault (m : am_Mm) : Option (Int32 × am_Mm) :=
  some ((m.1 2 4), m)
set_option maxHeartbeats 4000000 in
set_option maxRecDepth 100000 in
theorem f_C_fault_ok {ro : am_Ro} {d : Nat} (hd : 1 ≤ d) {m m' : am_Mm} {r : Int32} (h : f_C_fault  m = some (r, m')) : am_Mt am_nw ro d mr_C_fault [.ref 0] (S0, m) (some (.int r)) (S0, m') := by
  obtain ⟨d, rfl⟩ : ∃ d0, d = d0 + 1 := ⟨d - 1, by omega⟩
  refine am_Mt.of (by decide +kernel) (Nat.le_of_ble_eq_true rfl) ?_
  change am_AW am_nw ro (d + 1) mr_C_fault 0 [some (.ref 0)] [] (S0, m) (some (.int r)) (S0, m')
  unfold f_C_fault at h
  refine am_AW.run am_base_ok ok_C_fault (Nat.le_add_left 1 d) 3 (pc1 := 7) (ls1 := [some (.ref 0)]) (st1 := [.int (m.1 2 4)]) (σ1 := (S0, m)) rfl ?_
  obtain ⟨rfl, rfl⟩ := Prod.mk.inj (Option.some.inj h)
  exact am_AW.ret ok_C_fault rfl rfl rfl rfl
/-! FriezePolygons.trace(I)I -/
def f_C_trace (x1 : Int32) (m : am_Mm) : Option (Int32 × am_Mm) :=
  if x1 < (0 : Int32) then
    some ((-1000000 : Int32), m)
  else
    if (m.1 38 1) ≤ x1 then
      some ((-1000000 : Int32), m)
    else
      if am_in x1 16 = true then
        some ((m.1 39 x1.toNatClampNeg), m)
      else none
set_option maxHeartbeats 4000000 in
set_option maxRecDepth 100000 in
theorem f_C_trace_ok {ro : am_Ro} {d : Nat} (hd : 1 ≤ d) (x1 : Int32) {m m' : am_Mm} {r : Int32} (h : f_C_trace x1 m = some (r, m')) : am_Mt am_nw ro d mr_C_trace [.ref 0, .int x1] (S0, m) (some (.int r)) (S0, m') := by
  obtain ⟨d, rfl⟩ : ∃ d0, d = d0 + 1 := ⟨d - 1, by omega⟩
  refine am_Mt.of (by decide +kernel) (Nat.le_of_ble_eq_true rfl) ?_
  change am_AW am_nw ro (d + 1) mr_C_trace 0 [some (.ref 0), some (.int x1)] [] (S0, m) (some (.int r)) (S0, m')
  unfold f_C_trace at h
  refine am_AW.run am_base_ok ok_C_trace (Nat.le_add_left 1 d) 1 (pc1 := 1) (ls1 := [some (.ref 0), some (.int x1)]) (st1 := [.int x1]) (σ1 := (S0, m)) rfl ?_
  refine am_AW.brP ok_C_trace rfl rfl am_c_lt (fun c1 => ?_) (fun c1 => ?_)
  · rw [if_pos c1] at h
    refine am_AW.run am_base_ok ok_C_trace (Nat.le_add_left 1 d) 1 (pc1 := 29) (ls1 := [some (.ref 0), some (.int x1)]) (st1 := [.int (-1000000 : Int32)]) (σ1 := (S0, m)) rfl ?_
    obtain ⟨rfl, rfl⟩ := Prod.mk.inj (Option.some.inj h)
    exact am_AW.ret ok_C_trace rfl rfl rfl rfl
  · rw [if_neg c1] at h
    refine am_AW.run am_base_ok ok_C_trace (Nat.le_add_left 1 d) 4 (pc1 := 12) (ls1 := [some (.ref 0), some (.int x1)]) (st1 := [.int (m.1 38 1), .int x1]) (σ1 := (S0, m)) rfl ?_
    refine am_AW.brP ok_C_trace rfl rfl am_c_ge (fun c2 => ?_) (fun c2 => ?_)
    · rw [if_pos c2] at h
      refine am_AW.run am_base_ok ok_C_trace (Nat.le_add_left 1 d) 1 (pc1 := 29) (ls1 := [some (.ref 0), some (.int x1)]) (st1 := [.int (-1000000 : Int32)]) (σ1 := (S0, m)) rfl ?_
      obtain ⟨rfl, rfl⟩ := Prod.mk.inj (Option.some.inj h)
      exact am_AW.ret ok_C_trace rfl rfl rfl rfl
    · rw [if_neg c2] at h
      refine am_AW.run am_base_ok ok_C_trace (Nat.le_add_left 1 d) 4 (pc1 := 23) (ls1 := [some (.ref 0), some (.int x1)]) (st1 := [.int x1, .ref 39]) (σ1 := (S0, m)) rfl ?_
      by_cases g3 : am_in x1 16 = true
      rotate_left
      · rw [if_neg g3] at h
        cases h
      rw [if_pos g3] at h
      refine am_AW.iald ok_C_trace (Nat.le_add_left 1 d) S0_len rfl rfl g3 ?_
      refine am_AW.run am_base_ok ok_C_trace (Nat.le_add_left 1 d) 1 (pc1 := 29) (ls1 := [some (.ref 0), some (.int x1)]) (st1 := [.int (m.1 39 x1.toNatClampNeg)]) (σ1 := (S0, m)) rfl ?_
      obtain ⟨rfl, rfl⟩ := Prod.mk.inj (Option.some.inj h)
      exact am_AW.ret ok_C_trace rfl rfl rfl rfl
/-! FriezePolygons.status()I -/
def f_C_status (m : am_Mm) : Option (Int32 × am_Mm) :=
  some ((m.1 0 12), m)
set_option maxHeartbeats 4000000 in
set_option maxRecDepth 100000 in
theorem f_C_status_ok {ro : am_Ro} {d : Nat} (hd : 1 ≤ d) {m m' : am_Mm} {r : Int32} (h : f_C_status  m = some (r, m')) : am_Mt am_nw ro d mr_C_status [.ref 0] (S0, m) (some (.int r)) (S0, m') := by
  obtain ⟨d, rfl⟩ : ∃ d0, d = d0 + 1 := ⟨d - 1, by omega⟩
  refine am_Mt.of (by decide +kernel) (Nat.le_of_ble_eq_true rfl) ?_
  change am_AW am_nw ro (d + 1) mr_C_status 0 [some (.ref 0)] [] (S0, m) (some (.int r)) (S0, m')
  unfold f_C_status at h
  refine am_AW.run am_base_ok ok_C_status (Nat.le_add_left 1 d) 2 (pc1 := 4) (ls1 := [some (.ref 0)]) (st1 := [.int (m.1 0 12)]) (σ1 := (S0, m)) rfl ?_
  obtain ⟨rfl, rfl⟩ := Prod.mk.inj (Option.some.inj h)
  exact am_AW.ret ok_C_status rfl rfl rfl rfl
/-! FriezePolygons.found(I)I -/
def f_C_found (x1 : Int32) (m : am_Mm) : Option (Int32 × am_Mm) :=
  some (((-1000010 : Int32) - x1), (am_pI m 0 12 x1))
set_option maxHeartbeats 4000000 in
set_option maxRecDepth 100000 in
theorem f_C_found_ok {ro : am_Ro} {d : Nat} (hd : 1 ≤ d) (x1 : Int32) {m m' : am_Mm} {r : Int32} (h : f_C_found x1 m = some (r, m')) : am_Mt am_nw ro d mr_C_found [.ref 0, .int x1] (S0, m) (some (.int r)) (S0, m') := by
  obtain ⟨d, rfl⟩ : ∃ d0, d = d0 + 1 := ⟨d - 1, by omega⟩
  refine am_Mt.of (by decide +kernel) (Nat.le_of_ble_eq_true rfl) ?_
  change am_AW am_nw ro (d + 1) mr_C_found 0 [some (.ref 0), some (.int x1)] [] (S0, m) (some (.int r)) (S0, m')
  unfold f_C_found at h
  refine am_AW.run am_base_ok ok_C_found (Nat.le_add_left 1 d) 2 (pc1 := 2) (ls1 := [some (.ref 0), some (.int x1)]) (st1 := [.int x1, .ref 0]) (σ1 := (S0, m)) rfl ?_
  refine am_AW.puti ok_C_found (Nat.le_add_left 1 d) rfl rfl rfl (qc := kq9) rfl (by decide) ty_9_12 ?_
  refine am_AW.run am_base_ok ok_C_found (Nat.le_add_left 1 d) 3 (pc1 := 10) (ls1 := [some (.ref 0), some (.int x1)]) (st1 := [.int ((-1000010 : Int32) - x1)]) (σ1 := (S0, (am_pI m 0 12 x1))) rfl ?_
  obtain ⟨rfl, rfl⟩ := Prod.mk.inj (Option.some.inj h)
  exact am_AW.ret ok_C_found rfl rfl rfl rfl
/-! FriezePolygons.fine(I)I -/
def f_C_fine (x1 : Int32) (m : am_Mm) : Option (Int32 × am_Mm) :=
  some (x1, (am_pI m 0 12 (0 : Int32)))
set_option maxHeartbeats 4000000 in
set_option maxRecDepth 100000 in
theorem f_C_fine_ok {ro : am_Ro} {d : Nat} (hd : 1 ≤ d) (x1 : Int32) {m m' : am_Mm} {r : Int32} (h : f_C_fine x1 m = some (r, m')) : am_Mt am_nw ro d mr_C_fine [.ref 0, .int x1] (S0, m) (some (.int r)) (S0, m') := by
  obtain ⟨d, rfl⟩ : ∃ d0, d = d0 + 1 := ⟨d - 1, by omega⟩
  refine am_Mt.of (by decide +kernel) (Nat.le_of_ble_eq_true rfl) ?_
  change am_AW am_nw ro (d + 1) mr_C_fine 0 [some (.ref 0), some (.int x1)] [] (S0, m) (some (.int r)) (S0, m')
  unfold f_C_fine at h
  refine am_AW.run am_base_ok ok_C_fine (Nat.le_add_left 1 d) 2 (pc1 := 2) (ls1 := [some (.ref 0), some (.int x1)]) (st1 := [.int (0 : Int32), .ref 0]) (σ1 := (S0, m)) rfl ?_
  refine am_AW.puti ok_C_fine (Nat.le_add_left 1 d) rfl rfl rfl (qc := kq9) rfl (by decide) ty_9_12 ?_
  refine am_AW.run am_base_ok ok_C_fine (Nat.le_add_left 1 d) 1 (pc1 := 6) (ls1 := [some (.ref 0), some (.int x1)]) (st1 := [.int x1]) (σ1 := (S0, (am_pI m 0 12 (0 : Int32)))) rfl ?_
  obtain ⟨rfl, rfl⟩ := Prod.mk.inj (Option.some.inj h)
  exact am_AW.ret ok_C_fine rfl rfl rfl rfl
/-! FriezePolygons.isThere()Z -/
def f_C_isThere (m : am_Mm) : Option (Int32 × am_Mm) :=
  if (m.1 13 2) ≤ (0 : Int32) then
    some ((0 : Int32), m)
  else
    some ((1 : Int32), m)
set_option maxHeartbeats 4000000 in
set_option maxRecDepth 100000 in
theorem f_C_isThere_ok {ro : am_Ro} {d : Nat} (hd : 1 ≤ d) {m m' : am_Mm} {r : Int32} (h : f_C_isThere  m = some (r, m')) : am_Mt am_nw ro d mr_C_isThere [.ref 0] (S0, m) (some (.int r)) (S0, m') := by
  obtain ⟨d, rfl⟩ : ∃ d0, d = d0 + 1 := ⟨d - 1, by omega⟩
  refine am_Mt.of (by decide +kernel) (Nat.le_of_ble_eq_true rfl) ?_
  change am_AW am_nw ro (d + 1) mr_C_isThere 0 [some (.ref 0)] [] (S0, m) (some (.int r)) (S0, m')
  unfold f_C_isThere at h
  refine am_AW.run am_base_ok ok_C_isThere (Nat.le_add_left 1 d) 3 (pc1 := 7) (ls1 := [some (.ref 0)]) (st1 := [.int (m.1 13 2)]) (σ1 := (S0, m)) rfl ?_
  refine am_AW.brP ok_C_isThere rfl rfl am_c_le (fun c1 => ?_) (fun c1 => ?_)
  · rw [if_pos c1] at h
    refine am_AW.run am_base_ok ok_C_isThere (Nat.le_add_left 1 d) 1 (pc1 := 15) (ls1 := [some (.ref 0)]) (st1 := [.int (0 : Int32)]) (σ1 := (S0, m)) rfl ?_
    obtain ⟨rfl, rfl⟩ := Prod.mk.inj (Option.some.inj h)
    exact am_AW.ret ok_C_isThere rfl rfl rfl (by decide)
  · rw [if_neg c1] at h
    refine am_AW.run am_base_ok ok_C_isThere (Nat.le_add_left 1 d) 2 (pc1 := 15) (ls1 := [some (.ref 0)]) (st1 := [.int (1 : Int32)]) (σ1 := (S0, m)) rfl ?_
    obtain ⟨rfl, rfl⟩ := Prod.mk.inj (Option.some.inj h)
    exact am_AW.ret ok_C_isThere rfl rfl rfl (by decide)
/-! FriezePolygons.isCorner(I)Z -/
def f_C_isCorner (x1 : Int32) (m : am_Mm) : Option (Int32 × am_Mm) :=
  if x1 < (0 : Int32) then
    some ((0 : Int32), m)
  else
    if (m.1 13 2) ≤ x1 then
      some ((0 : Int32), m)
    else
      some ((1 : Int32), m)
set_option maxHeartbeats 4000000 in
set_option maxRecDepth 100000 in
theorem f_C_isCorner_ok {ro : am_Ro} {d : Nat} (hd : 1 ≤ d) (x1 : Int32) {m m' : am_Mm} {r : Int32} (h : f_C_isCorner x1 m = some (r, m')) : am_Mt am_nw ro d mr_C_isCorner [.ref 0, .int x1] (S0, m) (some (.int r)) (S0, m') := by
  obtain ⟨d, rfl⟩ : ∃ d0, d = d0 + 1 := ⟨d - 1, by omega⟩
  refine am_Mt.of (by decide +kernel) (Nat.le_of_ble_eq_true rfl) ?_
  change am_AW am_nw ro (d + 1) mr_C_isCorner 0 [some (.ref 0), some (.int x1)] [] (S0, m) (some (.int r)) (S0, m')
  unfold f_C_isCorner at h
  refine am_AW.run am_base_ok ok_C_isCorner (Nat.le_add_left 1 d) 1 (pc1 := 1) (ls1 := [some (.ref 0), some (.int x1)]) (st1 := [.int x1]) (σ1 := (S0, m)) rfl ?_
  refine am_AW.brP ok_C_isCorner rfl rfl am_c_lt (fun c1 => ?_) (fun c1 => ?_)
  · rw [if_pos c1] at h
    refine am_AW.run am_base_ok ok_C_isCorner (Nat.le_add_left 1 d) 1 (pc1 := 20) (ls1 := [some (.ref 0), some (.int x1)]) (st1 := [.int (0 : Int32)]) (σ1 := (S0, m)) rfl ?_
    obtain ⟨rfl, rfl⟩ := Prod.mk.inj (Option.some.inj h)
    exact am_AW.ret ok_C_isCorner rfl rfl rfl (by decide)
  · rw [if_neg c1] at h
    refine am_AW.run am_base_ok ok_C_isCorner (Nat.le_add_left 1 d) 4 (pc1 := 12) (ls1 := [some (.ref 0), some (.int x1)]) (st1 := [.int (m.1 13 2), .int x1]) (σ1 := (S0, m)) rfl ?_
    refine am_AW.brP ok_C_isCorner rfl rfl am_c_ge (fun c2 => ?_) (fun c2 => ?_)
    · rw [if_pos c2] at h
      refine am_AW.run am_base_ok ok_C_isCorner (Nat.le_add_left 1 d) 1 (pc1 := 20) (ls1 := [some (.ref 0), some (.int x1)]) (st1 := [.int (0 : Int32)]) (σ1 := (S0, m)) rfl ?_
      obtain ⟨rfl, rfl⟩ := Prod.mk.inj (Option.some.inj h)
      exact am_AW.ret ok_C_isCorner rfl rfl rfl (by decide)
    · rw [if_neg c2] at h
      refine am_AW.run am_base_ok ok_C_isCorner (Nat.le_add_left 1 d) 2 (pc1 := 20) (ls1 := [some (.ref 0), some (.int x1)]) (st1 := [.int (1 : Int32)]) (σ1 := (S0, m)) rfl ?_
      obtain ⟨rfl, rfl⟩ := Prod.mk.inj (Option.some.inj h)
      exact am_AW.ret ok_C_isCorner rfl rfl rfl (by decide)
/-! FriezePolygons.isRow(I)Z -/
def f_C_isRow (x0 : Int32) (m : am_Mm) : Option (Int32 × am_Mm) :=
  if x0 < (0 : Int32) then
    some ((0 : Int32), m)
  else
    if (8 : Int32) ≤ x0 then
      some ((0 : Int32), m)
    else
      some ((1 : Int32), m)
set_option maxHeartbeats 4000000 in
set_option maxRecDepth 100000 in
theorem f_C_isRow_ok {ro : am_Ro} {d : Nat} (hd : 1 ≤ d) (x0 : Int32) {m m' : am_Mm} {r : Int32} (h : f_C_isRow x0 m = some (r, m')) : am_Mt am_nw ro d mr_C_isRow [.int x0] (S0, m) (some (.int r)) (S0, m') := by
  obtain ⟨d, rfl⟩ : ∃ d0, d = d0 + 1 := ⟨d - 1, by omega⟩
  refine am_Mt.of (by decide +kernel) (Nat.le_of_ble_eq_true rfl) ?_
  change am_AW am_nw ro (d + 1) mr_C_isRow 0 [some (.int x0)] [] (S0, m) (some (.int r)) (S0, m')
  unfold f_C_isRow at h
  refine am_AW.run am_base_ok ok_C_isRow (Nat.le_add_left 1 d) 1 (pc1 := 1) (ls1 := [some (.int x0)]) (st1 := [.int x0]) (σ1 := (S0, m)) rfl ?_
  refine am_AW.brP ok_C_isRow rfl rfl am_c_lt (fun c1 => ?_) (fun c1 => ?_)
  · rw [if_pos c1] at h
    refine am_AW.run am_base_ok ok_C_isRow (Nat.le_add_left 1 d) 1 (pc1 := 15) (ls1 := [some (.int x0)]) (st1 := [.int (0 : Int32)]) (σ1 := (S0, m)) rfl ?_
    obtain ⟨rfl, rfl⟩ := Prod.mk.inj (Option.some.inj h)
    exact am_AW.ret ok_C_isRow rfl rfl rfl (by decide)
  · rw [if_neg c1] at h
    refine am_AW.run am_base_ok ok_C_isRow (Nat.le_add_left 1 d) 2 (pc1 := 7) (ls1 := [some (.int x0)]) (st1 := [.int (8 : Int32), .int x0]) (σ1 := (S0, m)) rfl ?_
    refine am_AW.brP ok_C_isRow rfl rfl am_c_ge (fun c2 => ?_) (fun c2 => ?_)
    · rw [if_pos c2] at h
      refine am_AW.run am_base_ok ok_C_isRow (Nat.le_add_left 1 d) 1 (pc1 := 15) (ls1 := [some (.int x0)]) (st1 := [.int (0 : Int32)]) (σ1 := (S0, m)) rfl ?_
      obtain ⟨rfl, rfl⟩ := Prod.mk.inj (Option.some.inj h)
      exact am_AW.ret ok_C_isRow rfl rfl rfl (by decide)
    · rw [if_neg c2] at h
      refine am_AW.run am_base_ok ok_C_isRow (Nat.le_add_left 1 d) 2 (pc1 := 15) (ls1 := [some (.int x0)]) (st1 := [.int (1 : Int32)]) (σ1 := (S0, m)) rfl ?_
      obtain ⟨rfl, rfl⟩ := Prod.mk.inj (Option.some.inj h)
      exact am_AW.ret ok_C_isRow rfl rfl rfl (by decide)
/-! FriezePolygons.isOf(II)Z -/
def f_C_isOf (x0 : Int32) (x1 : Int32) (m : am_Mm) : Option (Int32 × am_Mm) :=
  if x1 = (0 : Int32) then
    some ((1 : Int32), m)
  else
    if x1 = (1 : Int32) then
      if x0 = (1 : Int32) then
        some ((1 : Int32), m)
      else
        if x0 = (2 : Int32) then
          some ((1 : Int32), m)
        else
          if x0 = (3 : Int32) then
            some ((1 : Int32), m)
          else
            some ((0 : Int32), m)
    else
      if x1 = (2 : Int32) then
        if x0 = x1 then
          some ((1 : Int32), m)
        else
          some ((0 : Int32), m)
      else
        if x1 = (3 : Int32) then
          if x0 = x1 then
            some ((1 : Int32), m)
          else
            some ((0 : Int32), m)
        else
          if x1 = (4 : Int32) then
            if x0 = (4 : Int32) then
              some ((1 : Int32), m)
            else
              if x0 = (5 : Int32) then
                some ((1 : Int32), m)
              else
                some ((0 : Int32), m)
          else
            if x0 = x1 then
              some ((1 : Int32), m)
            else
              some ((0 : Int32), m)
set_option maxHeartbeats 4000000 in
set_option maxRecDepth 100000 in
theorem f_C_isOf_ok {ro : am_Ro} {d : Nat} (hd : 1 ≤ d) (x0 : Int32) (x1 : Int32) {m m' : am_Mm} {r : Int32} (h : f_C_isOf x0 x1 m = some (r, m')) : am_Mt am_nw ro d mr_C_isOf [.int x0, .int x1] (S0, m) (some (.int r)) (S0, m') := by
  obtain ⟨d, rfl⟩ : ∃ d0, d = d0 + 1 := ⟨d - 1, by omega⟩
  refine am_Mt.of (by decide +kernel) (Nat.le_of_ble_eq_true rfl) ?_
  change am_AW am_nw ro (d + 1) mr_C_isOf 0 [some (.int x0), some (.int x1)] [] (S0, m) (some (.int r)) (S0, m')
  unfold f_C_isOf at h
  refine am_AW.run am_base_ok ok_C_isOf (Nat.le_add_left 1 d) 1 (pc1 := 1) (ls1 := [some (.int x0), some (.int x1)]) (st1 := [.int x1]) (σ1 := (S0, m)) rfl ?_
  by_cases c1 : x1 = (0 : Int32)
  · rw [if_pos c1] at h
    refine am_AW.sw ok_C_isOf rfl (t := 36) (by rw [c1]; decide +kernel) ?_
    refine am_AW.run am_base_ok ok_C_isOf (Nat.le_add_left 1 d) 1 (pc1 := 37) (ls1 := [some (.int x0), some (.int x1)]) (st1 := [.int (1 : Int32)]) (σ1 := (S0, m)) rfl ?_
    obtain ⟨rfl, rfl⟩ := Prod.mk.inj (Option.some.inj h)
    exact am_AW.ret ok_C_isOf rfl rfl rfl (by decide)
  rw [if_neg c1] at h
  by_cases c2 : x1 = (1 : Int32)
  · rw [if_pos c2] at h
    refine am_AW.sw ok_C_isOf rfl (t := 38) (by rw [c2]; decide +kernel) ?_
    refine am_AW.run am_base_ok ok_C_isOf (Nat.le_add_left 1 d) 2 (pc1 := 40) (ls1 := [some (.int x0), some (.int x1)]) (st1 := [.int (1 : Int32), .int x0]) (σ1 := (S0, m)) rfl ?_
    refine am_AW.brP ok_C_isOf rfl rfl am_c_eq (fun c3 => ?_) (fun c3 => ?_)
    · rw [if_pos c3] at h
      refine am_AW.run am_base_ok ok_C_isOf (Nat.le_add_left 1 d) 2 (pc1 := 58) (ls1 := [some (.int x0), some (.int x1)]) (st1 := [.int (1 : Int32)]) (σ1 := (S0, m)) rfl ?_
      obtain ⟨rfl, rfl⟩ := Prod.mk.inj (Option.some.inj h)
      exact am_AW.ret ok_C_isOf rfl rfl rfl (by decide)
    · rw [if_neg c3] at h
      refine am_AW.run am_base_ok ok_C_isOf (Nat.le_add_left 1 d) 2 (pc1 := 45) (ls1 := [some (.int x0), some (.int x1)]) (st1 := [.int (2 : Int32), .int x0]) (σ1 := (S0, m)) rfl ?_
      refine am_AW.brP ok_C_isOf rfl rfl am_c_eq (fun c4 => ?_) (fun c4 => ?_)
      · rw [if_pos c4] at h
        refine am_AW.run am_base_ok ok_C_isOf (Nat.le_add_left 1 d) 2 (pc1 := 58) (ls1 := [some (.int x0), some (.int x1)]) (st1 := [.int (1 : Int32)]) (σ1 := (S0, m)) rfl ?_
        obtain ⟨rfl, rfl⟩ := Prod.mk.inj (Option.some.inj h)
        exact am_AW.ret ok_C_isOf rfl rfl rfl (by decide)
      · rw [if_neg c4] at h
        refine am_AW.run am_base_ok ok_C_isOf (Nat.le_add_left 1 d) 2 (pc1 := 50) (ls1 := [some (.int x0), some (.int x1)]) (st1 := [.int (3 : Int32), .int x0]) (σ1 := (S0, m)) rfl ?_
        refine am_AW.brN ok_C_isOf rfl rfl am_c_ne (fun c5 => ?_) (fun c5 => ?_)
        · rw [if_pos c5] at h
          refine am_AW.run am_base_ok ok_C_isOf (Nat.le_add_left 1 d) 2 (pc1 := 58) (ls1 := [some (.int x0), some (.int x1)]) (st1 := [.int (1 : Int32)]) (σ1 := (S0, m)) rfl ?_
          obtain ⟨rfl, rfl⟩ := Prod.mk.inj (Option.some.inj h)
          exact am_AW.ret ok_C_isOf rfl rfl rfl (by decide)
        · rw [if_neg c5] at h
          refine am_AW.run am_base_ok ok_C_isOf (Nat.le_add_left 1 d) 1 (pc1 := 58) (ls1 := [some (.int x0), some (.int x1)]) (st1 := [.int (0 : Int32)]) (σ1 := (S0, m)) rfl ?_
          obtain ⟨rfl, rfl⟩ := Prod.mk.inj (Option.some.inj h)
          exact am_AW.ret ok_C_isOf rfl rfl rfl (by decide)
  rw [if_neg c2] at h
  by_cases c6 : x1 = (2 : Int32)
  · rw [if_pos c6] at h
    refine am_AW.sw ok_C_isOf rfl (t := 75) (by rw [c6]; decide +kernel) ?_
    refine am_AW.run am_base_ok ok_C_isOf (Nat.le_add_left 1 d) 2 (pc1 := 77) (ls1 := [some (.int x0), some (.int x1)]) (st1 := [.int x1, .int x0]) (σ1 := (S0, m)) rfl ?_
    refine am_AW.brN ok_C_isOf rfl rfl am_c_ne (fun c7 => ?_) (fun c7 => ?_)
    · rw [if_pos c7] at h
      refine am_AW.run am_base_ok ok_C_isOf (Nat.le_add_left 1 d) 2 (pc1 := 85) (ls1 := [some (.int x0), some (.int x1)]) (st1 := [.int (1 : Int32)]) (σ1 := (S0, m)) rfl ?_
      obtain ⟨rfl, rfl⟩ := Prod.mk.inj (Option.some.inj h)
      exact am_AW.ret ok_C_isOf rfl rfl rfl (by decide)
    · rw [if_neg c7] at h
      refine am_AW.run am_base_ok ok_C_isOf (Nat.le_add_left 1 d) 1 (pc1 := 85) (ls1 := [some (.int x0), some (.int x1)]) (st1 := [.int (0 : Int32)]) (σ1 := (S0, m)) rfl ?_
      obtain ⟨rfl, rfl⟩ := Prod.mk.inj (Option.some.inj h)
      exact am_AW.ret ok_C_isOf rfl rfl rfl (by decide)
  rw [if_neg c6] at h
  by_cases c8 : x1 = (3 : Int32)
  · rw [if_pos c8] at h
    refine am_AW.sw ok_C_isOf rfl (t := 75) (by rw [c8]; decide +kernel) ?_
    refine am_AW.run am_base_ok ok_C_isOf (Nat.le_add_left 1 d) 2 (pc1 := 77) (ls1 := [some (.int x0), some (.int x1)]) (st1 := [.int x1, .int x0]) (σ1 := (S0, m)) rfl ?_
    refine am_AW.brN ok_C_isOf rfl rfl am_c_ne (fun c9 => ?_) (fun c9 => ?_)
    · rw [if_pos c9] at h
      refine am_AW.run am_base_ok ok_C_isOf (Nat.le_add_left 1 d) 2 (pc1 := 85) (ls1 := [some (.int x0), some (.int x1)]) (st1 := [.int (1 : Int32)]) (σ1 := (S0, m)) rfl ?_
      obtain ⟨rfl, rfl⟩ := Prod.mk.inj (Option.some.inj h)
      exact am_AW.ret ok_C_isOf rfl rfl rfl (by decide)
    · rw [if_neg c9] at h
      refine am_AW.run am_base_ok ok_C_isOf (Nat.le_add_left 1 d) 1 (pc1 := 85) (ls1 := [some (.int x0), some (.int x1)]) (st1 := [.int (0 : Int32)]) (σ1 := (S0, m)) rfl ?_
      obtain ⟨rfl, rfl⟩ := Prod.mk.inj (Option.some.inj h)
      exact am_AW.ret ok_C_isOf rfl rfl rfl (by decide)
  rw [if_neg c8] at h
  by_cases c10 : x1 = (4 : Int32)
  · rw [if_pos c10] at h
    refine am_AW.sw ok_C_isOf rfl (t := 59) (by rw [c10]; decide +kernel) ?_
    refine am_AW.run am_base_ok ok_C_isOf (Nat.le_add_left 1 d) 2 (pc1 := 61) (ls1 := [some (.int x0), some (.int x1)]) (st1 := [.int (4 : Int32), .int x0]) (σ1 := (S0, m)) rfl ?_
    refine am_AW.brP ok_C_isOf rfl rfl am_c_eq (fun c11 => ?_) (fun c11 => ?_)
    · rw [if_pos c11] at h
      refine am_AW.run am_base_ok ok_C_isOf (Nat.le_add_left 1 d) 2 (pc1 := 74) (ls1 := [some (.int x0), some (.int x1)]) (st1 := [.int (1 : Int32)]) (σ1 := (S0, m)) rfl ?_
      obtain ⟨rfl, rfl⟩ := Prod.mk.inj (Option.some.inj h)
      exact am_AW.ret ok_C_isOf rfl rfl rfl (by decide)
    · rw [if_neg c11] at h
      refine am_AW.run am_base_ok ok_C_isOf (Nat.le_add_left 1 d) 2 (pc1 := 66) (ls1 := [some (.int x0), some (.int x1)]) (st1 := [.int (5 : Int32), .int x0]) (σ1 := (S0, m)) rfl ?_
      refine am_AW.brN ok_C_isOf rfl rfl am_c_ne (fun c12 => ?_) (fun c12 => ?_)
      · rw [if_pos c12] at h
        refine am_AW.run am_base_ok ok_C_isOf (Nat.le_add_left 1 d) 2 (pc1 := 74) (ls1 := [some (.int x0), some (.int x1)]) (st1 := [.int (1 : Int32)]) (σ1 := (S0, m)) rfl ?_
        obtain ⟨rfl, rfl⟩ := Prod.mk.inj (Option.some.inj h)
        exact am_AW.ret ok_C_isOf rfl rfl rfl (by decide)
      · rw [if_neg c12] at h
        refine am_AW.run am_base_ok ok_C_isOf (Nat.le_add_left 1 d) 1 (pc1 := 74) (ls1 := [some (.int x0), some (.int x1)]) (st1 := [.int (0 : Int32)]) (σ1 := (S0, m)) rfl ?_
        obtain ⟨rfl, rfl⟩ := Prod.mk.inj (Option.some.inj h)
        exact am_AW.ret ok_C_isOf rfl rfl rfl (by decide)
  rw [if_neg c10] at h
  have o14 : (x1).toInt < 0 ∨ 4 < (x1).toInt := by
    have := lv_neT c1 (a := 0) (by decide)
    have := lv_neT c2 (a := 1) (by decide)
    have := lv_neT c6 (a := 2) (by decide)
    have := lv_neT c8 (a := 3) (by decide)
    have := lv_neT c10 (a := 4) (by decide)
    omega
  refine am_AW.sw ok_C_isOf rfl (t := 75) (by simp only [am_sw, if_pos o14]; decide +kernel) ?_
  refine am_AW.run am_base_ok ok_C_isOf (Nat.le_add_left 1 d) 2 (pc1 := 77) (ls1 := [some (.int x0), some (.int x1)]) (st1 := [.int x1, .int x0]) (σ1 := (S0, m)) rfl ?_
  refine am_AW.brN ok_C_isOf rfl rfl am_c_ne (fun c13 => ?_) (fun c13 => ?_)
  · rw [if_pos c13] at h
    refine am_AW.run am_base_ok ok_C_isOf (Nat.le_add_left 1 d) 2 (pc1 := 85) (ls1 := [some (.int x0), some (.int x1)]) (st1 := [.int (1 : Int32)]) (σ1 := (S0, m)) rfl ?_
    obtain ⟨rfl, rfl⟩ := Prod.mk.inj (Option.some.inj h)
    exact am_AW.ret ok_C_isOf rfl rfl rfl (by decide)
  · rw [if_neg c13] at h
    refine am_AW.run am_base_ok ok_C_isOf (Nat.le_add_left 1 d) 1 (pc1 := 85) (ls1 := [some (.int x0), some (.int x1)]) (st1 := [.int (0 : Int32)]) (σ1 := (S0, m)) rfl ?_
    obtain ⟨rfl, rfl⟩ := Prod.mk.inj (Option.some.inj h)
    exact am_AW.ret ok_C_isOf rfl rfl rfl (by decide)
/-! FriezePolygons.rowsMade()I -/
def f_C_rowsMade_b25 (k4 : Int32 → Int32 → am_Mm → Option (Int32 × am_Mm)) (x1 : Int32) (x2 : Int32) (m : am_Mm) : Option (Int32 × am_Mm) :=
  k4 x1 (x2 + (1 : Int32)) m
def f_C_rowsMade_b4 : Nat → Int32 → Int32 → am_Mm → Option (Int32 × am_Mm)
  | 0, _, _, _ => none
  | n + 1, x1, x2, m =>
    if (8 : Int32) ≤ x2 then
      some (x1, m)
    else
      if am_in x2 8 = true then
        if (m.1 (am_rw x2) 1) = (0 : Int32) then
          f_C_rowsMade_b25 (f_C_rowsMade_b4 n) x1 x2 m
        else
          f_C_rowsMade_b25 (f_C_rowsMade_b4 n) (x1 + (1 : Int32)) x2 m
      else none
def f_C_rowsMade (m : am_Mm) : Option (Int32 × am_Mm) :=
  f_C_rowsMade_b4 am_F (0 : Int32) (0 : Int32) m
set_option maxHeartbeats 4000000 in
set_option maxRecDepth 100000 in
theorem f_C_rowsMade_b25_ok {ro : am_Ro} {d : Nat} (hd : 1 ≤ d + 1) {k4 : Int32 → Int32 → am_Mm → Option (Int32 × am_Mm)} (hk4 : ∀ (x1 : Int32) (x2 : Int32) (m m' : am_Mm) (r : Int32), k4 x1 x2 m = some (r, m') → am_AW am_nw ro (d + 1) mr_C_rowsMade 4 [some (.ref 0), some (.int x1), some (.int x2)] [] (S0, m) (some (.int r)) (S0, m')) (x1 : Int32) (x2 : Int32) {m m' : am_Mm} {r : Int32} (h : f_C_rowsMade_b25 k4 x1 x2 m = some (r, m')) : am_AW am_nw ro (d + 1) mr_C_rowsMade 25 [some (.ref 0), some (.int x1), some (.int x2)] [] (S0, m) (some (.int r)) (S0, m') := by
  unfold f_C_rowsMade_b25 at h
  refine am_AW.run am_base_ok ok_C_rowsMade (Nat.le_add_left 1 d) 2 (pc1 := 4) (ls1 := [some (.ref 0), some (.int x1), some (.int (x2 + (1 : Int32)))]) (st1 := []) (σ1 := (S0, m)) rfl ?_
  exact am_AW.weak (hk4 x1 (x2 + (1 : Int32))  _ _ _ h) (by simp only [am_le, and_self])
set_option maxHeartbeats 4000000 in
set_option maxRecDepth 100000 in
theorem f_C_rowsMade_b4_all {ro : am_Ro} {d : Nat} (hd : 1 ≤ d + 1) : ∀ (n : Nat) (x1 : Int32) (x2 : Int32) (m m' : am_Mm) (r : Int32), f_C_rowsMade_b4 n x1 x2 m = some (r, m') → am_AW am_nw ro (d + 1) mr_C_rowsMade 4 [some (.ref 0), some (.int x1), some (.int x2)] [] (S0, m) (some (.int r)) (S0, m') := by
  intro n
  induction n with
  | zero =>
    intro x1 x2 m m' r h
    rw [f_C_rowsMade_b4] at h
    cases h
  | succ n ih =>
    intro x1 x2 m m' r h
    rw [f_C_rowsMade_b4] at h
    refine am_AW.run am_base_ok ok_C_rowsMade (Nat.le_add_left 1 d) 2 (pc1 := 7) (ls1 := [some (.ref 0), some (.int x1), some (.int x2)]) (st1 := [.int (8 : Int32), .int x2]) (σ1 := (S0, m)) rfl ?_
    refine am_AW.brP ok_C_rowsMade rfl rfl am_c_ge (fun c1 => ?_) (fun c1 => ?_)
    · rw [if_pos c1] at h
      refine am_AW.run am_base_ok ok_C_rowsMade (Nat.le_add_left 1 d) 1 (pc1 := 32) (ls1 := [some (.ref 0), some (.int x1), some (.int x2)]) (st1 := [.int x1]) (σ1 := (S0, m)) rfl ?_
      obtain ⟨rfl, rfl⟩ := Prod.mk.inj (Option.some.inj h)
      exact am_AW.ret ok_C_rowsMade rfl rfl rfl rfl
    · rw [if_neg c1] at h
      refine am_AW.run am_base_ok ok_C_rowsMade (Nat.le_add_left 1 d) 3 (pc1 := 15) (ls1 := [some (.ref 0), some (.int x1), some (.int x2)]) (st1 := [.int x2, .ref 1]) (σ1 := (S0, m)) rfl ?_
      by_cases g2 : am_in x2 8 = true
      rotate_left
      · rw [if_neg g2] at h
        cases h
      rw [if_pos g2] at h
      refine am_AW.aald ok_C_rowsMade (Nat.le_add_left 1 d) rfl (am_rw_at g2) ?_
      refine am_AW.geti ok_C_rowsMade (Nat.le_add_left 1 d) rfl (sh_41_43_45_47_49_51_53_55_0 (am_rw_in g2)) rfl ?_
      refine am_AW.brP ok_C_rowsMade rfl rfl am_c_eq (fun c3 => ?_) (fun c3 => ?_)
      · rw [if_pos c3] at h
        exact am_AW.weak (f_C_rowsMade_b25_ok hd (ih) x1 x2  h) (by simp only [am_le, and_self])
      · rw [if_neg c3] at h
        refine am_AW.run am_base_ok ok_C_rowsMade (Nat.le_add_left 1 d) 1 (pc1 := 25) (ls1 := [some (.ref 0), some (.int (x1 + (1 : Int32))), some (.int x2)]) (st1 := []) (σ1 := (S0, m)) rfl ?_
        exact am_AW.weak (f_C_rowsMade_b25_ok hd (ih) (x1 + (1 : Int32)) x2  h) (by simp only [am_le, and_self])
set_option maxHeartbeats 4000000 in
set_option maxRecDepth 100000 in
theorem f_C_rowsMade_b4_ok {ro : am_Ro} {d : Nat} (hd : 1 ≤ d + 1) (x1 : Int32) (x2 : Int32) {m m' : am_Mm} {r : Int32} {n : Nat} (h : f_C_rowsMade_b4 n x1 x2 m = some (r, m')) : am_AW am_nw ro (d + 1) mr_C_rowsMade 4 [some (.ref 0), some (.int x1), some (.int x2)] [] (S0, m) (some (.int r)) (S0, m') :=
  f_C_rowsMade_b4_all hd n x1 x2  m m' r h
set_option maxHeartbeats 4000000 in
set_option maxRecDepth 100000 in
theorem f_C_rowsMade_ok {ro : am_Ro} {d : Nat} (hd : 1 ≤ d) {m m' : am_Mm} {r : Int32} (h : f_C_rowsMade  m = some (r, m')) : am_Mt am_nw ro d mr_C_rowsMade [.ref 0] (S0, m) (some (.int r)) (S0, m') := by
  obtain ⟨d, rfl⟩ : ∃ d0, d = d0 + 1 := ⟨d - 1, by omega⟩
  refine am_Mt.of (by decide +kernel) (Nat.le_of_ble_eq_true rfl) ?_
  change am_AW am_nw ro (d + 1) mr_C_rowsMade 0 [some (.ref 0), none, none] [] (S0, m) (some (.int r)) (S0, m')
  unfold f_C_rowsMade at h
  refine am_AW.run am_base_ok ok_C_rowsMade (Nat.le_add_left 1 d) 4 (pc1 := 4) (ls1 := [some (.ref 0), some (.int (0 : Int32)), some (.int (0 : Int32))]) (st1 := []) (σ1 := (S0, m)) rfl ?_
  exact am_AW.weak (f_C_rowsMade_b4_ok hd (0 : Int32) (0 : Int32)  h) (by simp only [am_le, and_self])
/-! FriezePolygons.noteLikeness(II)I -/
def f_C_noteLikeness_b34 (x1 : Int32) (x2 : Int32) (m : am_Mm) : Option (Int32 × am_Mm) :=
  if x2 < (0 : Int32) then
    some (x2, m)
  else
    if x2 < (Int32.ofNat 18) then
      if am_in x2 18 = true then
        some ((x2 + (1 : Int32)), (am_pI m 40 x2.toNatClampNeg x1))
      else none
    else
      some (x2, m)
def f_C_noteLikeness_b2 : Nat → Int32 → Int32 → Int32 → am_Mm → Option (Int32 × am_Mm)
  | 0, _, _, _, _ => none
  | n + 1, x1, x2, x3, m =>
    if x2 ≤ x3 then
      f_C_noteLikeness_b34 x1 x2 m
    else
      if (Int32.ofNat 18) ≤ x3 then
        f_C_noteLikeness_b34 x1 x2 m
      else
        if am_in x3 18 = true then
          if (m.1 40 x3.toNatClampNeg) = x1 then
            some (x2, m)
          else
            f_C_noteLikeness_b2 n x1 x2 (x3 + (1 : Int32)) m
        else none
def f_C_noteLikeness (x1 : Int32) (x2 : Int32) (m : am_Mm) : Option (Int32 × am_Mm) :=
  f_C_noteLikeness_b2 am_F x1 x2 (0 : Int32) m
set_option maxHeartbeats 4000000 in
set_option maxRecDepth 100000 in
theorem f_C_noteLikeness_b34_ok {ro : am_Ro} {d : Nat} (hd : 1 ≤ d + 1) (x1 : Int32) (x2 : Int32) {m m' : am_Mm} {r : Int32} (h : f_C_noteLikeness_b34 x1 x2 m = some (r, m')) : am_AW am_nw ro (d + 1) mr_C_noteLikeness 34 [some (.ref 0), some (.int x1), some (.int x2), none] [] (S0, m) (some (.int r)) (S0, m') := by
  unfold f_C_noteLikeness_b34 at h
  refine am_AW.run am_base_ok ok_C_noteLikeness (Nat.le_add_left 1 d) 1 (pc1 := 35) (ls1 := [some (.ref 0), some (.int x1), some (.int x2), none]) (st1 := [.int x2]) (σ1 := (S0, m)) rfl ?_
  refine am_AW.brP ok_C_noteLikeness rfl rfl am_c_lt (fun c2 => ?_) (fun c2 => ?_)
  · rw [if_pos c2] at h
    refine am_AW.run am_base_ok ok_C_noteLikeness (Nat.le_add_left 1 d) 1 (pc1 := 48) (ls1 := [some (.ref 0), some (.int x1), some (.int x2), none]) (st1 := [.int x2]) (σ1 := (S0, m)) rfl ?_
    obtain ⟨rfl, rfl⟩ := Prod.mk.inj (Option.some.inj h)
    exact am_AW.ret ok_C_noteLikeness rfl rfl rfl rfl
  · rw [if_neg c2] at h
    refine am_AW.run am_base_ok ok_C_noteLikeness (Nat.le_add_left 1 d) 3 (pc1 := 43) (ls1 := [some (.ref 0), some (.int x1), some (.int x2), none]) (st1 := [.ref 40, .int x2]) (σ1 := (S0, m)) rfl ?_
    refine am_AW.alen ok_C_noteLikeness (Nat.le_add_left 1 d) S0_len rfl rfl (by decide) ?_
    refine am_AW.brP ok_C_noteLikeness rfl rfl am_c_lt (fun c3 => ?_) (fun c3 => ?_)
    · rw [if_pos c3] at h
      refine am_AW.run am_base_ok ok_C_noteLikeness (Nat.le_add_left 1 d) 4 (pc1 := 55) (ls1 := [some (.ref 0), some (.int x1), some (.int x2), none]) (st1 := [.int x1, .int x2, .ref 40]) (σ1 := (S0, m)) rfl ?_
      by_cases g4 : am_in x2 18 = true
      rotate_left
      · rw [if_neg g4] at h
        cases h
      rw [if_pos g4] at h
      refine am_AW.iast ok_C_noteLikeness (Nat.le_add_left 1 d) rfl rfl g4 ?_
      change am_AW am_nw ro (d + 1) mr_C_noteLikeness 56 [some (.ref 0), some (.int x1), some (.int x2), none] [] (S0, (am_pI m 40 x2.toNatClampNeg x1)) (some (.int r)) (S0, m')
      refine am_AW.run am_base_ok ok_C_noteLikeness (Nat.le_add_left 1 d) 3 (pc1 := 59) (ls1 := [some (.ref 0), some (.int x1), some (.int x2), none]) (st1 := [.int (x2 + (1 : Int32))]) (σ1 := (S0, (am_pI m 40 x2.toNatClampNeg x1))) rfl ?_
      obtain ⟨rfl, rfl⟩ := Prod.mk.inj (Option.some.inj h)
      exact am_AW.ret ok_C_noteLikeness rfl rfl rfl rfl
    · rw [if_neg c3] at h
      refine am_AW.run am_base_ok ok_C_noteLikeness (Nat.le_add_left 1 d) 1 (pc1 := 48) (ls1 := [some (.ref 0), some (.int x1), some (.int x2), none]) (st1 := [.int x2]) (σ1 := (S0, m)) rfl ?_
      obtain ⟨rfl, rfl⟩ := Prod.mk.inj (Option.some.inj h)
      exact am_AW.ret ok_C_noteLikeness rfl rfl rfl rfl
set_option maxHeartbeats 4000000 in
set_option maxRecDepth 100000 in
theorem f_C_noteLikeness_b2_all {ro : am_Ro} {d : Nat} (hd : 1 ≤ d + 1) : ∀ (n : Nat) (x1 : Int32) (x2 : Int32) (x3 : Int32) (m m' : am_Mm) (r : Int32), f_C_noteLikeness_b2 n x1 x2 x3 m = some (r, m') → am_AW am_nw ro (d + 1) mr_C_noteLikeness 2 [some (.ref 0), some (.int x1), some (.int x2), some (.int x3)] [] (S0, m) (some (.int r)) (S0, m') := by
  intro n
  induction n with
  | zero =>
    intro x1 x2 x3 m m' r h
    rw [f_C_noteLikeness_b2] at h
    cases h
  | succ n ih =>
    intro x1 x2 x3 m m' r h
    rw [f_C_noteLikeness_b2] at h
    refine am_AW.run am_base_ok ok_C_noteLikeness (Nat.le_add_left 1 d) 2 (pc1 := 4) (ls1 := [some (.ref 0), some (.int x1), some (.int x2), some (.int x3)]) (st1 := [.int x2, .int x3]) (σ1 := (S0, m)) rfl ?_
    refine am_AW.brP ok_C_noteLikeness rfl rfl am_c_ge (fun c1 => ?_) (fun c1 => ?_)
    · rw [if_pos c1] at h
      exact am_AW.weak (f_C_noteLikeness_b34_ok hd x1 x2  h) (by simp only [am_le, and_self])
    · rw [if_neg c1] at h
      refine am_AW.run am_base_ok ok_C_noteLikeness (Nat.le_add_left 1 d) 3 (pc1 := 12) (ls1 := [some (.ref 0), some (.int x1), some (.int x2), some (.int x3)]) (st1 := [.ref 40, .int x3]) (σ1 := (S0, m)) rfl ?_
      refine am_AW.alen ok_C_noteLikeness (Nat.le_add_left 1 d) S0_len rfl rfl (by decide) ?_
      refine am_AW.brP ok_C_noteLikeness rfl rfl am_c_ge (fun c5 => ?_) (fun c5 => ?_)
      · rw [if_pos c5] at h
        exact am_AW.weak (f_C_noteLikeness_b34_ok hd x1 x2  h) (by simp only [am_le, and_self])
      · rw [if_neg c5] at h
        refine am_AW.run am_base_ok ok_C_noteLikeness (Nat.le_add_left 1 d) 3 (pc1 := 21) (ls1 := [some (.ref 0), some (.int x1), some (.int x2), some (.int x3)]) (st1 := [.int x3, .ref 40]) (σ1 := (S0, m)) rfl ?_
        by_cases g6 : am_in x3 18 = true
        rotate_left
        · rw [if_neg g6] at h
          cases h
        rw [if_pos g6] at h
        refine am_AW.iald ok_C_noteLikeness (Nat.le_add_left 1 d) S0_len rfl rfl g6 ?_
        refine am_AW.run am_base_ok ok_C_noteLikeness (Nat.le_add_left 1 d) 1 (pc1 := 23) (ls1 := [some (.ref 0), some (.int x1), some (.int x2), some (.int x3)]) (st1 := [.int x1, .int (m.1 40 x3.toNatClampNeg)]) (σ1 := (S0, m)) rfl ?_
        refine am_AW.brN ok_C_noteLikeness rfl rfl am_c_ne (fun c7 => ?_) (fun c7 => ?_)
        · rw [if_pos c7] at h
          refine am_AW.run am_base_ok ok_C_noteLikeness (Nat.le_add_left 1 d) 1 (pc1 := 27) (ls1 := [some (.ref 0), some (.int x1), some (.int x2), some (.int x3)]) (st1 := [.int x2]) (σ1 := (S0, m)) rfl ?_
          obtain ⟨rfl, rfl⟩ := Prod.mk.inj (Option.some.inj h)
          exact am_AW.ret ok_C_noteLikeness rfl rfl rfl rfl
        · rw [if_neg c7] at h
          refine am_AW.run am_base_ok ok_C_noteLikeness (Nat.le_add_left 1 d) 2 (pc1 := 2) (ls1 := [some (.ref 0), some (.int x1), some (.int x2), some (.int (x3 + (1 : Int32)))]) (st1 := []) (σ1 := (S0, m)) rfl ?_
          exact am_AW.weak (ih x1 x2 (x3 + (1 : Int32))  _ _ _ h) (by simp only [am_le, and_self])
set_option maxHeartbeats 4000000 in
set_option maxRecDepth 100000 in
theorem f_C_noteLikeness_b2_ok {ro : am_Ro} {d : Nat} (hd : 1 ≤ d + 1) (x1 : Int32) (x2 : Int32) (x3 : Int32) {m m' : am_Mm} {r : Int32} {n : Nat} (h : f_C_noteLikeness_b2 n x1 x2 x3 m = some (r, m')) : am_AW am_nw ro (d + 1) mr_C_noteLikeness 2 [some (.ref 0), some (.int x1), some (.int x2), some (.int x3)] [] (S0, m) (some (.int r)) (S0, m') :=
  f_C_noteLikeness_b2_all hd n x1 x2 x3  m m' r h
set_option maxHeartbeats 4000000 in
set_option maxRecDepth 100000 in
theorem f_C_noteLikeness_ok {ro : am_Ro} {d : Nat} (hd : 1 ≤ d) (x1 : Int32) (x2 : Int32) {m m' : am_Mm} {r : Int32} (h : f_C_noteLikeness x1 x2 m = some (r, m')) : am_Mt am_nw ro d mr_C_noteLikeness [.ref 0, .int x1, .int x2] (S0, m) (some (.int r)) (S0, m') := by
  obtain ⟨d, rfl⟩ : ∃ d0, d = d0 + 1 := ⟨d - 1, by omega⟩
  refine am_Mt.of (by decide +kernel) (Nat.le_of_ble_eq_true rfl) ?_
  change am_AW am_nw ro (d + 1) mr_C_noteLikeness 0 [some (.ref 0), some (.int x1), some (.int x2), none] [] (S0, m) (some (.int r)) (S0, m')
  unfold f_C_noteLikeness at h
  refine am_AW.run am_base_ok ok_C_noteLikeness (Nat.le_add_left 1 d) 2 (pc1 := 2) (ls1 := [some (.ref 0), some (.int x1), some (.int x2), some (.int (0 : Int32))]) (st1 := []) (σ1 := (S0, m)) rfl ?_
  exact am_AW.weak (f_C_noteLikeness_b2_ok hd x1 x2 (0 : Int32)  h) (by simp only [am_le, and_self])
/-! FriezePolygons.leastOf(I)I -/
def f_C_leastOf_b10 : Nat → Int32 → Int32 → Int32 → am_Mm → Option (Int32 × am_Mm)
  | 0, _, _, _, _ => none
  | n + 1, x1, x2, x3, m =>
    if x1 ≤ x3 then
      some (x2, m)
    else
      if (Int32.ofNat 18) ≤ x3 then
        some (x2, m)
      else
        if am_in x3 18 = true then
          f_C_leastOf_b10 n x1 (am_min x2 (m.1 40 x3.toNatClampNeg)) (x3 + (1 : Int32)) m
        else none
def f_C_leastOf (x1 : Int32) (m : am_Mm) : Option (Int32 × am_Mm) :=
  f_C_leastOf_b10 am_F x1 (m.1 13 3) (0 : Int32) m
set_option maxHeartbeats 4000000 in
set_option maxRecDepth 100000 in
theorem f_C_leastOf_b10_all {ro : am_Ro} {d : Nat} (hd : 1 ≤ d + 1) : ∀ (n : Nat) (x1 : Int32) (x2 : Int32) (x3 : Int32) (m m' : am_Mm) (r : Int32), f_C_leastOf_b10 n x1 x2 x3 m = some (r, m') → am_AW am_nw ro (d + 1) mr_C_leastOf 10 [some (.ref 0), some (.int x1), some (.int x2), some (.int x3)] [] (S0, m) (some (.int r)) (S0, m') := by
  intro n
  induction n with
  | zero =>
    intro x1 x2 x3 m m' r h
    rw [f_C_leastOf_b10] at h
    cases h
  | succ n ih =>
    intro x1 x2 x3 m m' r h
    rw [f_C_leastOf_b10] at h
    refine am_AW.run am_base_ok ok_C_leastOf (Nat.le_add_left 1 d) 2 (pc1 := 12) (ls1 := [some (.ref 0), some (.int x1), some (.int x2), some (.int x3)]) (st1 := [.int x1, .int x3]) (σ1 := (S0, m)) rfl ?_
    refine am_AW.brP ok_C_leastOf rfl rfl am_c_ge (fun c1 => ?_) (fun c1 => ?_)
    · rw [if_pos c1] at h
      refine am_AW.run am_base_ok ok_C_leastOf (Nat.le_add_left 1 d) 1 (pc1 := 42) (ls1 := [some (.ref 0), some (.int x1), some (.int x2), some (.int x3)]) (st1 := [.int x2]) (σ1 := (S0, m)) rfl ?_
      obtain ⟨rfl, rfl⟩ := Prod.mk.inj (Option.some.inj h)
      exact am_AW.ret ok_C_leastOf rfl rfl rfl rfl
    · rw [if_neg c1] at h
      refine am_AW.run am_base_ok ok_C_leastOf (Nat.le_add_left 1 d) 3 (pc1 := 20) (ls1 := [some (.ref 0), some (.int x1), some (.int x2), some (.int x3)]) (st1 := [.ref 40, .int x3]) (σ1 := (S0, m)) rfl ?_
      refine am_AW.alen ok_C_leastOf (Nat.le_add_left 1 d) S0_len rfl rfl (by decide) ?_
      refine am_AW.brP ok_C_leastOf rfl rfl am_c_ge (fun c2 => ?_) (fun c2 => ?_)
      · rw [if_pos c2] at h
        refine am_AW.run am_base_ok ok_C_leastOf (Nat.le_add_left 1 d) 1 (pc1 := 42) (ls1 := [some (.ref 0), some (.int x1), some (.int x2), some (.int x3)]) (st1 := [.int x2]) (σ1 := (S0, m)) rfl ?_
        obtain ⟨rfl, rfl⟩ := Prod.mk.inj (Option.some.inj h)
        exact am_AW.ret ok_C_leastOf rfl rfl rfl rfl
      · rw [if_neg c2] at h
        refine am_AW.run am_base_ok ok_C_leastOf (Nat.le_add_left 1 d) 4 (pc1 := 30) (ls1 := [some (.ref 0), some (.int x1), some (.int x2), some (.int x3)]) (st1 := [.int x3, .ref 40, .int x2]) (σ1 := (S0, m)) rfl ?_
        by_cases g3 : am_in x3 18 = true
        rotate_left
        · rw [if_neg g3] at h
          cases h
        rw [if_pos g3] at h
        refine am_AW.iald ok_C_leastOf (Nat.le_add_left 1 d) S0_len rfl rfl g3 ?_
        refine am_AW.mmin ok_C_leastOf (Nat.le_add_left 1 d) rfl lk_C_349 (Nat.le_of_ble_eq_true rfl) ?_
        change am_AW am_nw ro (d + 1) mr_C_leastOf 34 [some (.ref 0), some (.int x1), some (.int x2), some (.int x3)] [.int (am_min x2 (m.1 40 x3.toNatClampNeg))] (S0, m) (some (.int r)) (S0, m')
        refine am_AW.run am_base_ok ok_C_leastOf (Nat.le_add_left 1 d) 3 (pc1 := 10) (ls1 := [some (.ref 0), some (.int x1), some (.int (am_min x2 (m.1 40 x3.toNatClampNeg))), some (.int (x3 + (1 : Int32)))]) (st1 := []) (σ1 := (S0, m)) rfl ?_
        exact am_AW.weak (ih x1 (am_min x2 (m.1 40 x3.toNatClampNeg)) (x3 + (1 : Int32))  _ _ _ h) (by simp only [am_le, and_self])
set_option maxHeartbeats 4000000 in
set_option maxRecDepth 100000 in
theorem f_C_leastOf_b10_ok {ro : am_Ro} {d : Nat} (hd : 1 ≤ d + 1) (x1 : Int32) (x2 : Int32) (x3 : Int32) {m m' : am_Mm} {r : Int32} {n : Nat} (h : f_C_leastOf_b10 n x1 x2 x3 m = some (r, m')) : am_AW am_nw ro (d + 1) mr_C_leastOf 10 [some (.ref 0), some (.int x1), some (.int x2), some (.int x3)] [] (S0, m) (some (.int r)) (S0, m') :=
  f_C_leastOf_b10_all hd n x1 x2 x3  m m' r h
set_option maxHeartbeats 4000000 in
set_option maxRecDepth 100000 in
theorem f_C_leastOf_ok {ro : am_Ro} {d : Nat} (hd : 1 ≤ d) (x1 : Int32) {m m' : am_Mm} {r : Int32} (h : f_C_leastOf x1 m = some (r, m')) : am_Mt am_nw ro d mr_C_leastOf [.ref 0, .int x1] (S0, m) (some (.int r)) (S0, m') := by
  obtain ⟨d, rfl⟩ : ∃ d0, d = d0 + 1 := ⟨d - 1, by omega⟩
  refine am_Mt.of (by decide +kernel) (Nat.le_of_ble_eq_true rfl) ?_
  change am_AW am_nw ro (d + 1) mr_C_leastOf 0 [some (.ref 0), some (.int x1), none, none] [] (S0, m) (some (.int r)) (S0, m')
  unfold f_C_leastOf at h
  refine am_AW.run am_base_ok ok_C_leastOf (Nat.le_add_left 1 d) 6 (pc1 := 10) (ls1 := [some (.ref 0), some (.int x1), some (.int (m.1 13 3)), some (.int (0 : Int32))]) (st1 := []) (σ1 := (S0, m)) rfl ?_
  exact am_AW.weak (f_C_leastOf_b10_ok hd x1 (m.1 13 3) (0 : Int32)  h) (by simp only [am_le, and_self])
/-! FriezePolygons.power(II)J -/
def f_C_power_b5 : Nat → Int32 → Int32 → Int64 → Int32 → am_Mm → Option (Int64 × am_Mm)
  | 0, _, _, _, _, _ => none
  | n + 1, x0, x1, x2, x4, m =>
    if x1 ≤ x4 then
      some (x2, m)
    else
      f_C_power_b5 n x0 x1 (x2 * (x0.toInt64)) (x4 + (1 : Int32)) m
def f_C_power (x0 : Int32) (x1 : Int32) (m : am_Mm) : Option (Int64 × am_Mm) :=
  f_C_power_b5 am_F x0 x1 (1 : Int64) (0 : Int32) m
set_option maxHeartbeats 4000000 in
set_option maxRecDepth 100000 in
theorem f_C_power_b5_all {ro : am_Ro} {d : Nat} (hd : 1 ≤ d + 1) : ∀ (n : Nat) (x0 : Int32) (x1 : Int32) (x2 : Int64) (x4 : Int32) (m m' : am_Mm) (r : Int64), f_C_power_b5 n x0 x1 x2 x4 m = some (r, m') → am_AW am_nw ro (d + 1) mr_C_power 5 [some (.int x0), some (.int x1), some (.long x2), none, some (.int x4)] [] (S0, m) (some (.long r)) (S0, m') := by
  intro n
  induction n with
  | zero =>
    intro x0 x1 x2 x4 m m' r h
    rw [f_C_power_b5] at h
    cases h
  | succ n ih =>
    intro x0 x1 x2 x4 m m' r h
    rw [f_C_power_b5] at h
    refine am_AW.run am_base_ok ok_C_power (Nat.le_add_left 1 d) 2 (pc1 := 8) (ls1 := [some (.int x0), some (.int x1), some (.long x2), none, some (.int x4)]) (st1 := [.int x1, .int x4]) (σ1 := (S0, m)) rfl ?_
    refine am_AW.brP ok_C_power rfl rfl am_c_ge (fun c1 => ?_) (fun c1 => ?_)
    · rw [if_pos c1] at h
      refine am_AW.run am_base_ok ok_C_power (Nat.le_add_left 1 d) 1 (pc1 := 23) (ls1 := [some (.int x0), some (.int x1), some (.long x2), none, some (.int x4)]) (st1 := [.long x2]) (σ1 := (S0, m)) rfl ?_
      obtain ⟨rfl, rfl⟩ := Prod.mk.inj (Option.some.inj h)
      exact am_AW.ret ok_C_power rfl rfl rfl rfl
    · rw [if_neg c1] at h
      refine am_AW.run am_base_ok ok_C_power (Nat.le_add_left 1 d) 7 (pc1 := 5) (ls1 := [some (.int x0), some (.int x1), some (.long (x2 * (x0.toInt64))), none, some (.int (x4 + (1 : Int32)))]) (st1 := []) (σ1 := (S0, m)) rfl ?_
      exact am_AW.weak (ih x0 x1 (x2 * (x0.toInt64)) (x4 + (1 : Int32))  _ _ _ h) (by simp only [am_le, and_self])
set_option maxHeartbeats 4000000 in
set_option maxRecDepth 100000 in
theorem f_C_power_b5_ok {ro : am_Ro} {d : Nat} (hd : 1 ≤ d + 1) (x0 : Int32) (x1 : Int32) (x2 : Int64) (x4 : Int32) {m m' : am_Mm} {r : Int64} {n : Nat} (h : f_C_power_b5 n x0 x1 x2 x4 m = some (r, m')) : am_AW am_nw ro (d + 1) mr_C_power 5 [some (.int x0), some (.int x1), some (.long x2), none, some (.int x4)] [] (S0, m) (some (.long r)) (S0, m') :=
  f_C_power_b5_all hd n x0 x1 x2 x4  m m' r h
set_option maxHeartbeats 4000000 in
set_option maxRecDepth 100000 in
theorem f_C_power_ok {ro : am_Ro} {d : Nat} (hd : 1 ≤ d) (x0 : Int32) (x1 : Int32) {m m' : am_Mm} {r : Int64} (h : f_C_power x0 x1 m = some (r, m')) : am_Mt am_nw ro d mr_C_power [.int x0, .int x1] (S0, m) (some (.long r)) (S0, m') := by
  obtain ⟨d, rfl⟩ : ∃ d0, d = d0 + 1 := ⟨d - 1, by omega⟩
  refine am_Mt.of (by decide +kernel) (Nat.le_of_ble_eq_true rfl) ?_
  change am_AW am_nw ro (d + 1) mr_C_power 0 [some (.int x0), some (.int x1), none, none, none] [] (S0, m) (some (.long r)) (S0, m')
  unfold f_C_power at h
  refine am_AW.run am_base_ok ok_C_power (Nat.le_add_left 1 d) 4 (pc1 := 5) (ls1 := [some (.int x0), some (.int x1), some (.long (1 : Int64)), none, some (.int (0 : Int32))]) (st1 := []) (σ1 := (S0, m)) rfl ?_
  exact am_AW.weak (f_C_power_b5_ok hd x0 x1 (1 : Int64) (0 : Int32)  h) (by simp only [am_le, and_self])
/-! FriezePolygons.sharedBy(JJ)J -/
def f_C_sharedBy_b45 (x4 : Int64) (m : am_Mm) : Option (Int64 × am_Mm) :=
  some (x4, m)
def f_C_sharedBy_b9 : Nat → Int64 → Int64 → Int32 → am_Mm → Option (Int64 × am_Mm)
  | 0, _, _, _, _ => none
  | n + 1, x4, x6, x8, m =>
    if (1000 : Int32) ≤ x8 then
      f_C_sharedBy_b45 x4 m
    else
      if (lg_cmp x6 (0 : Int64)) = (0 : Int32) then
        f_C_sharedBy_b45 x4 m
      else
        if x6 = (0 : Int64) then none else
        f_C_sharedBy_b9 n x6 (am_remL x4 x6) (x8 + (1 : Int32)) m
def f_C_sharedBy (x0 : Int64) (x2 : Int64) (m : am_Mm) : Option (Int64 × am_Mm) :=
  f_C_sharedBy_b9 am_F x2 x0 (0 : Int32) m
set_option maxHeartbeats 4000000 in
set_option maxRecDepth 100000 in
theorem f_C_sharedBy_b45_ok {ro : am_Ro} {d : Nat} (hd : 1 ≤ d + 1) (x4 : Int64) {m m' : am_Mm} {r : Int64} (h : f_C_sharedBy_b45 x4 m = some (r, m')) : am_AW am_nw ro (d + 1) mr_C_sharedBy 45 [none, none, none, none, some (.long x4), none, none, none, none, none, none] [] (S0, m) (some (.long r)) (S0, m') := by
  unfold f_C_sharedBy_b45 at h
  refine am_AW.run am_base_ok ok_C_sharedBy (Nat.le_add_left 1 d) 1 (pc1 := 47) (ls1 := [none, none, none, none, some (.long x4), none, none, none, none, none, none]) (st1 := [.long x4]) (σ1 := (S0, m)) rfl ?_
  obtain ⟨rfl, rfl⟩ := Prod.mk.inj (Option.some.inj h)
  exact am_AW.ret ok_C_sharedBy rfl rfl rfl rfl
set_option maxHeartbeats 4000000 in
set_option maxRecDepth 100000 in
theorem f_C_sharedBy_b9_all {ro : am_Ro} {d : Nat} (hd : 1 ≤ d + 1) : ∀ (n : Nat) (x4 : Int64) (x6 : Int64) (x8 : Int32) (m m' : am_Mm) (r : Int64), f_C_sharedBy_b9 n x4 x6 x8 m = some (r, m') → am_AW am_nw ro (d + 1) mr_C_sharedBy 9 [none, none, none, none, some (.long x4), none, some (.long x6), none, some (.int x8), none, none] [] (S0, m) (some (.long r)) (S0, m') := by
  intro n
  induction n with
  | zero =>
    intro x4 x6 x8 m m' r h
    rw [f_C_sharedBy_b9] at h
    cases h
  | succ n ih =>
    intro x4 x6 x8 m m' r h
    rw [f_C_sharedBy_b9] at h
    refine am_AW.run am_base_ok ok_C_sharedBy (Nat.le_add_left 1 d) 2 (pc1 := 14) (ls1 := [none, none, none, none, some (.long x4), none, some (.long x6), none, some (.int x8), none, none]) (st1 := [.int (1000 : Int32), .int x8]) (σ1 := (S0, m)) rfl ?_
    refine am_AW.brP ok_C_sharedBy rfl rfl am_c_ge (fun c1 => ?_) (fun c1 => ?_)
    · rw [if_pos c1] at h
      exact am_AW.weak (f_C_sharedBy_b45_ok hd x4  h) (by simp only [am_le, and_self])
    · rw [if_neg c1] at h
      refine am_AW.run am_base_ok ok_C_sharedBy (Nat.le_add_left 1 d) 3 (pc1 := 21) (ls1 := [none, none, none, none, some (.long x4), none, some (.long x6), none, some (.int x8), none, none]) (st1 := [.int (lg_cmp x6 (0 : Int64))]) (σ1 := (S0, m)) rfl ?_
      refine am_AW.brP ok_C_sharedBy rfl rfl am_c_eq (fun c2 => ?_) (fun c2 => ?_)
      · rw [if_pos c2] at h
        exact am_AW.weak (f_C_sharedBy_b45_ok hd x4  h) (by simp only [am_le, and_self])
      · rw [if_neg c2] at h
        refine am_AW.run am_base_ok ok_C_sharedBy (Nat.le_add_left 1 d) 2 (pc1 := 28) (ls1 := [none, none, none, none, some (.long x4), none, some (.long x6), none, some (.int x8), none, none]) (st1 := [.long x6, .long x4]) (σ1 := (S0, m)) rfl ?_
        by_cases g3 : x6 = (0 : Int64)
        · rw [if_pos g3] at h
          cases h
        rw [if_neg g3] at h
        refine am_AW.dvl ok_C_sharedBy (Nat.le_add_left 1 d) (w := (am_remL x4 x6)) (Or.inr ⟨rfl, rfl⟩) rfl g3 ?_
        refine am_AW.run am_base_ok ok_C_sharedBy (Nat.le_add_left 1 d) 7 (pc1 := 9) (ls1 := [none, none, none, none, some (.long x6), none, some (.long (am_remL x4 x6)), none, some (.int (x8 + (1 : Int32))), some (.long (am_remL x4 x6)), none]) (st1 := []) (σ1 := (S0, m)) rfl ?_
        exact am_AW.weak (ih x6 (am_remL x4 x6) (x8 + (1 : Int32))  _ _ _ h) (by simp only [am_le, and_self])
set_option maxHeartbeats 4000000 in
set_option maxRecDepth 100000 in
theorem f_C_sharedBy_b9_ok {ro : am_Ro} {d : Nat} (hd : 1 ≤ d + 1) (x4 : Int64) (x6 : Int64) (x8 : Int32) {m m' : am_Mm} {r : Int64} {n : Nat} (h : f_C_sharedBy_b9 n x4 x6 x8 m = some (r, m')) : am_AW am_nw ro (d + 1) mr_C_sharedBy 9 [none, none, none, none, some (.long x4), none, some (.long x6), none, some (.int x8), none, none] [] (S0, m) (some (.long r)) (S0, m') :=
  f_C_sharedBy_b9_all hd n x4 x6 x8  m m' r h
set_option maxHeartbeats 4000000 in
set_option maxRecDepth 100000 in
theorem f_C_sharedBy_ok {ro : am_Ro} {d : Nat} (hd : 1 ≤ d) (x0 : Int64) (x2 : Int64) {m m' : am_Mm} {r : Int64} (h : f_C_sharedBy x0 x2 m = some (r, m')) : am_Mt am_nw ro d mr_C_sharedBy [.long x0, .long x2] (S0, m) (some (.long r)) (S0, m') := by
  obtain ⟨d, rfl⟩ : ∃ d0, d = d0 + 1 := ⟨d - 1, by omega⟩
  refine am_Mt.of (by decide +kernel) (Nat.le_of_ble_eq_true rfl) ?_
  change am_AW am_nw ro (d + 1) mr_C_sharedBy 0 [some (.long x0), none, some (.long x2), none, none, none, none, none, none, none, none] [] (S0, m) (some (.long r)) (S0, m')
  unfold f_C_sharedBy at h
  refine am_AW.run am_base_ok ok_C_sharedBy (Nat.le_add_left 1 d) 6 (pc1 := 9) (ls1 := [some (.long x0), none, some (.long x2), none, some (.long x2), none, some (.long x0), none, some (.int (0 : Int32)), none, none]) (st1 := []) (σ1 := (S0, m)) rfl ?_
  exact am_AW.weak (f_C_sharedBy_b9_ok hd x2 x0 (0 : Int32)  h) (by simp only [am_le, and_self])
/-! FriezePolygonsModel.in(JJJ)Z -/
def f_M_in (x0 : Int64) (x2 : Int64) (x4 : Int64) (m : am_Mm) : Option (Int32 × am_Mm) :=
  if (lg_cmp x0 x2) < (0 : Int32) then
    some ((0 : Int32), m)
  else
    if (0 : Int32) < (lg_cmp x0 x4) then
      some ((0 : Int32), m)
    else
      some ((1 : Int32), m)
set_option maxHeartbeats 4000000 in
set_option maxRecDepth 100000 in
theorem f_M_in_ok {ro : am_Ro} {d : Nat} (hd : 1 ≤ d) (x0 : Int64) (x2 : Int64) (x4 : Int64) {m m' : am_Mm} {r : Int32} (h : f_M_in x0 x2 x4 m = some (r, m')) : am_Mt am_nw ro d mr_M_in [.long x0, .long x2, .long x4] (S0, m) (some (.int r)) (S0, m') := by
  obtain ⟨d, rfl⟩ : ∃ d0, d = d0 + 1 := ⟨d - 1, by omega⟩
  refine am_Mt.of (by decide +kernel) (Nat.le_of_ble_eq_true rfl) ?_
  change am_AW am_nw ro (d + 1) mr_M_in 0 [some (.long x0), none, some (.long x2), none, some (.long x4), none] [] (S0, m) (some (.int r)) (S0, m')
  unfold f_M_in at h
  refine am_AW.run am_base_ok ok_M_in (Nat.le_add_left 1 d) 3 (pc1 := 3) (ls1 := [some (.long x0), none, some (.long x2), none, some (.long x4), none]) (st1 := [.int (lg_cmp x0 x2)]) (σ1 := (S0, m)) rfl ?_
  refine am_AW.brP ok_M_in rfl rfl am_c_lt (fun c1 => ?_) (fun c1 => ?_)
  · rw [if_pos c1] at h
    refine am_AW.run am_base_ok ok_M_in (Nat.le_add_left 1 d) 1 (pc1 := 18) (ls1 := [some (.long x0), none, some (.long x2), none, some (.long x4), none]) (st1 := [.int (0 : Int32)]) (σ1 := (S0, m)) rfl ?_
    obtain ⟨rfl, rfl⟩ := Prod.mk.inj (Option.some.inj h)
    exact am_AW.ret ok_M_in rfl rfl rfl (by decide)
  · rw [if_neg c1] at h
    refine am_AW.run am_base_ok ok_M_in (Nat.le_add_left 1 d) 3 (pc1 := 10) (ls1 := [some (.long x0), none, some (.long x2), none, some (.long x4), none]) (st1 := [.int (lg_cmp x0 x4)]) (σ1 := (S0, m)) rfl ?_
    refine am_AW.brP ok_M_in rfl rfl am_c_gt (fun c2 => ?_) (fun c2 => ?_)
    · rw [if_pos c2] at h
      refine am_AW.run am_base_ok ok_M_in (Nat.le_add_left 1 d) 1 (pc1 := 18) (ls1 := [some (.long x0), none, some (.long x2), none, some (.long x4), none]) (st1 := [.int (0 : Int32)]) (σ1 := (S0, m)) rfl ?_
      obtain ⟨rfl, rfl⟩ := Prod.mk.inj (Option.some.inj h)
      exact am_AW.ret ok_M_in rfl rfl rfl (by decide)
    · rw [if_neg c2] at h
      refine am_AW.run am_base_ok ok_M_in (Nat.le_add_left 1 d) 2 (pc1 := 18) (ls1 := [some (.long x0), none, some (.long x2), none, some (.long x4), none]) (st1 := [.int (1 : Int32)]) (σ1 := (S0, m)) rfl ?_
      obtain ⟨rfl, rfl⟩ := Prod.mk.inj (Option.some.inj h)
      exact am_AW.ret ok_M_in rfl rfl rfl (by decide)
/-! FriezePolygonsModel.finding(I)I -/
def f_M_finding (x1 : Int32) (m : am_Mm) : Option (Int32 × am_Mm) :=
  some (((-1000010 : Int32) - x1), (am_pI m 63 0 x1))
set_option maxHeartbeats 4000000 in
set_option maxRecDepth 100000 in
theorem f_M_finding_ok {ro : am_Ro} {d : Nat} (hd : 1 ≤ d) (x1 : Int32) {m m' : am_Mm} {r : Int32} (h : f_M_finding x1 m = some (r, m')) : am_Mt am_nw ro d mr_M_finding [.ref 63, .int x1] (S0, m) (some (.int r)) (S0, m') := by
  obtain ⟨d, rfl⟩ : ∃ d0, d = d0 + 1 := ⟨d - 1, by omega⟩
  refine am_Mt.of (by decide +kernel) (Nat.le_of_ble_eq_true rfl) ?_
  change am_AW am_nw ro (d + 1) mr_M_finding 0 [some (.ref 63), some (.int x1)] [] (S0, m) (some (.int r)) (S0, m')
  unfold f_M_finding at h
  refine am_AW.run am_base_ok ok_M_finding (Nat.le_add_left 1 d) 2 (pc1 := 2) (ls1 := [some (.ref 63), some (.int x1)]) (st1 := [.int x1, .ref 63]) (σ1 := (S0, m)) rfl ?_
  refine am_AW.puti ok_M_finding (Nat.le_add_left 1 d) rfl rfl rfl (qc := kq10) rfl (by decide) ty_10_0 ?_
  refine am_AW.run am_base_ok ok_M_finding (Nat.le_add_left 1 d) 3 (pc1 := 9) (ls1 := [some (.ref 63), some (.int x1)]) (st1 := [.int ((-1000010 : Int32) - x1)]) (σ1 := (S0, (am_pI m 63 0 x1))) rfl ?_
  obtain ⟨rfl, rfl⟩ := Prod.mk.inj (Option.some.inj h)
  exact am_AW.ret ok_M_finding rfl rfl rfl rfl
/-! FriezePolygonsModel.isThere()Z -/
def f_M_isThere (m : am_Mm) : Option (Int32 × am_Mm) :=
  if (m.1 67 0) ≤ (0 : Int32) then
    some ((0 : Int32), m)
  else
    some ((1 : Int32), m)
set_option maxHeartbeats 4000000 in
set_option maxRecDepth 100000 in
theorem f_M_isThere_ok {ro : am_Ro} {d : Nat} (hd : 1 ≤ d) {m m' : am_Mm} {r : Int32} (h : f_M_isThere  m = some (r, m')) : am_Mt am_nw ro d mr_M_isThere [.ref 63] (S0, m) (some (.int r)) (S0, m') := by
  obtain ⟨d, rfl⟩ : ∃ d0, d = d0 + 1 := ⟨d - 1, by omega⟩
  refine am_Mt.of (by decide +kernel) (Nat.le_of_ble_eq_true rfl) ?_
  change am_AW am_nw ro (d + 1) mr_M_isThere 0 [some (.ref 63)] [] (S0, m) (some (.int r)) (S0, m')
  unfold f_M_isThere at h
  refine am_AW.run am_base_ok ok_M_isThere (Nat.le_add_left 1 d) 3 (pc1 := 5) (ls1 := [some (.ref 63)]) (st1 := [.int (0 : Int32), .ref 67]) (σ1 := (S0, m)) rfl ?_
  refine am_AW.iald ok_M_isThere (Nat.le_add_left 1 d) S0_len rfl rfl (by decide) ?_
  change am_AW am_nw ro (d + 1) mr_M_isThere 6 [some (.ref 63)] [.int (m.1 67 0)] (S0, m) (some (.int r)) (S0, m')
  refine am_AW.brP ok_M_isThere rfl rfl am_c_le (fun c2 => ?_) (fun c2 => ?_)
  · rw [if_pos c2] at h
    refine am_AW.run am_base_ok ok_M_isThere (Nat.le_add_left 1 d) 1 (pc1 := 14) (ls1 := [some (.ref 63)]) (st1 := [.int (0 : Int32)]) (σ1 := (S0, m)) rfl ?_
    obtain ⟨rfl, rfl⟩ := Prod.mk.inj (Option.some.inj h)
    exact am_AW.ret ok_M_isThere rfl rfl rfl (by decide)
  · rw [if_neg c2] at h
    refine am_AW.run am_base_ok ok_M_isThere (Nat.le_add_left 1 d) 2 (pc1 := 14) (ls1 := [some (.ref 63)]) (st1 := [.int (1 : Int32)]) (σ1 := (S0, m)) rfl ?_
    obtain ⟨rfl, rfl⟩ := Prod.mk.inj (Option.some.inj h)
    exact am_AW.ret ok_M_isThere rfl rfl rfl (by decide)
/-! FriezePolygonsModel.layThen()V -/
def f_M_layThen_b2 : Nat → Int32 → am_Mm → Option am_Mm
  | 0, _, _ => none
  | n + 1, x1, m =>
    if (20 : Int32) ≤ x1 then
      some m
    else
      if am_in x1 20 = true then
        if am_in x1 20 = true then
          f_M_layThen_b2 n (x1 + (1 : Int32)) (am_pI m 69 x1.toNatClampNeg (m.1 67 x1.toNatClampNeg))
        else none
      else none
def f_M_layThen (m : am_Mm) : Option am_Mm :=
  f_M_layThen_b2 am_F (0 : Int32) m
set_option maxHeartbeats 4000000 in
set_option maxRecDepth 100000 in
theorem f_M_layThen_b2_all {ro : am_Ro} {d : Nat} (hd : 1 ≤ d + 1) : ∀ (n : Nat) (x1 : Int32) (m m' : am_Mm), f_M_layThen_b2 n x1 m = some m' → am_AW am_nw ro (d + 1) mr_M_layThen 2 [some (.ref 63), some (.int x1)] [] (S0, m) none (S0, m') := by
  intro n
  induction n with
  | zero =>
    intro x1 m m' h
    rw [f_M_layThen_b2] at h
    cases h
  | succ n ih =>
    intro x1 m m' h
    rw [f_M_layThen_b2] at h
    refine am_AW.run am_base_ok ok_M_layThen (Nat.le_add_left 1 d) 2 (pc1 := 5) (ls1 := [some (.ref 63), some (.int x1)]) (st1 := [.int (20 : Int32), .int x1]) (σ1 := (S0, m)) rfl ?_
    refine am_AW.brP ok_M_layThen rfl rfl am_c_ge (fun c1 => ?_) (fun c1 => ?_)
    · rw [if_pos c1] at h
      obtain rfl := Option.some.inj h
      exact am_AW.ret ok_M_layThen rfl rfl rfl rfl
    · rw [if_neg c1] at h
      refine am_AW.run am_base_ok ok_M_layThen (Nat.le_add_left 1 d) 6 (pc1 := 18) (ls1 := [some (.ref 63), some (.int x1)]) (st1 := [.int x1, .ref 67, .int x1, .ref 69]) (σ1 := (S0, m)) rfl ?_
      by_cases g2 : am_in x1 20 = true
      rotate_left
      · rw [if_neg g2] at h
        cases h
      rw [if_pos g2] at h
      refine am_AW.iald ok_M_layThen (Nat.le_add_left 1 d) S0_len rfl rfl g2 ?_
      by_cases g3 : am_in x1 20 = true
      rotate_left
      · rw [if_neg g3] at h
        cases h
      rw [if_pos g3] at h
      refine am_AW.iast ok_M_layThen (Nat.le_add_left 1 d) rfl rfl g3 ?_
      change am_AW am_nw ro (d + 1) mr_M_layThen 20 [some (.ref 63), some (.int x1)] [] (S0, (am_pI m 69 x1.toNatClampNeg (m.1 67 x1.toNatClampNeg))) none (S0, m')
      refine am_AW.run am_base_ok ok_M_layThen (Nat.le_add_left 1 d) 2 (pc1 := 2) (ls1 := [some (.ref 63), some (.int (x1 + (1 : Int32)))]) (st1 := []) (σ1 := (S0, (am_pI m 69 x1.toNatClampNeg (m.1 67 x1.toNatClampNeg)))) rfl ?_
      exact am_AW.weak (ih (x1 + (1 : Int32))  _ _ h) (by simp only [am_le, and_self])
set_option maxHeartbeats 4000000 in
set_option maxRecDepth 100000 in
theorem f_M_layThen_b2_ok {ro : am_Ro} {d : Nat} (hd : 1 ≤ d + 1) (x1 : Int32) {m m' : am_Mm} {n : Nat} (h : f_M_layThen_b2 n x1 m = some m') : am_AW am_nw ro (d + 1) mr_M_layThen 2 [some (.ref 63), some (.int x1)] [] (S0, m) none (S0, m') :=
  f_M_layThen_b2_all hd n x1  m m' h
set_option maxHeartbeats 4000000 in
set_option maxRecDepth 100000 in
theorem f_M_layThen_ok {ro : am_Ro} {d : Nat} (hd : 1 ≤ d) {m m' : am_Mm} (h : f_M_layThen  m = some m') : am_Mt am_nw ro d mr_M_layThen [.ref 63] (S0, m) none (S0, m') := by
  obtain ⟨d, rfl⟩ : ∃ d0, d = d0 + 1 := ⟨d - 1, by omega⟩
  refine am_Mt.of (by decide +kernel) (Nat.le_of_ble_eq_true rfl) ?_
  change am_AW am_nw ro (d + 1) mr_M_layThen 0 [some (.ref 63), none] [] (S0, m) none (S0, m')
  unfold f_M_layThen at h
  refine am_AW.run am_base_ok ok_M_layThen (Nat.le_add_left 1 d) 2 (pc1 := 2) (ls1 := [some (.ref 63), some (.int (0 : Int32))]) (st1 := []) (σ1 := (S0, m)) rfl ?_
  exact am_AW.weak (f_M_layThen_b2_ok hd (0 : Int32)  h) (by simp only [am_le, and_self])
/-! FriezePolygonsModel.has(II)Z -/
def f_M_has (x0 : Int32) (x1 : Int32) (m : am_Mm) : Option (Int32 × am_Mm) :=
  if ((am_shr x0 x1) &&& (1 : Int32)) = (1 : Int32) then
    some ((1 : Int32), m)
  else
    some ((0 : Int32), m)
set_option maxHeartbeats 4000000 in
set_option maxRecDepth 100000 in
theorem f_M_has_ok {ro : am_Ro} {d : Nat} (hd : 1 ≤ d) (x0 : Int32) (x1 : Int32) {m m' : am_Mm} {r : Int32} (h : f_M_has x0 x1 m = some (r, m')) : am_Mt am_nw ro d mr_M_has [.int x0, .int x1] (S0, m) (some (.int r)) (S0, m') := by
  obtain ⟨d, rfl⟩ : ∃ d0, d = d0 + 1 := ⟨d - 1, by omega⟩
  refine am_Mt.of (by decide +kernel) (Nat.le_of_ble_eq_true rfl) ?_
  change am_AW am_nw ro (d + 1) mr_M_has 0 [some (.int x0), some (.int x1)] [] (S0, m) (some (.int r)) (S0, m')
  unfold f_M_has at h
  refine am_AW.run am_base_ok ok_M_has (Nat.le_add_left 1 d) 6 (pc1 := 6) (ls1 := [some (.int x0), some (.int x1)]) (st1 := [.int (1 : Int32), .int ((am_shr x0 x1) &&& (1 : Int32))]) (σ1 := (S0, m)) rfl ?_
  refine am_AW.brN ok_M_has rfl rfl am_c_ne (fun c1 => ?_) (fun c1 => ?_)
  · rw [if_pos c1] at h
    refine am_AW.run am_base_ok ok_M_has (Nat.le_add_left 1 d) 2 (pc1 := 14) (ls1 := [some (.int x0), some (.int x1)]) (st1 := [.int (1 : Int32)]) (σ1 := (S0, m)) rfl ?_
    obtain ⟨rfl, rfl⟩ := Prod.mk.inj (Option.some.inj h)
    exact am_AW.ret ok_M_has rfl rfl rfl (by decide)
  · rw [if_neg c1] at h
    refine am_AW.run am_base_ok ok_M_has (Nat.le_add_left 1 d) 1 (pc1 := 14) (ls1 := [some (.int x0), some (.int x1)]) (st1 := [.int (0 : Int32)]) (σ1 := (S0, m)) rfl ?_
    obtain ⟨rfl, rfl⟩ := Prod.mk.inj (Option.some.inj h)
    exact am_AW.ret ok_M_has rfl rfl rfl (by decide)
/-! FriezePolygonsModel.mayBe(III)Z -/
def f_M_mayBe (x0 : Int32) (x1 : Int32) (x2 : Int32) (m : am_Mm) : Option (Int32 × am_Mm) :=
  if x1 < (0 : Int32) then
    some ((0 : Int32), m)
  else
    if x0 ≤ x2 then
      some ((0 : Int32), m)
    else
      if x2 ≤ (x1 + (1 : Int32)) then
        some ((0 : Int32), m)
      else
        if x1 = (0 : Int32) then
          if x2 = (x0 - (1 : Int32)) then
            some ((0 : Int32), m)
          else
            some ((1 : Int32), m)
        else
          some ((1 : Int32), m)
set_option maxHeartbeats 4000000 in
set_option maxRecDepth 100000 in
theorem f_M_mayBe_ok {ro : am_Ro} {d : Nat} (hd : 1 ≤ d) (x0 : Int32) (x1 : Int32) (x2 : Int32) {m m' : am_Mm} {r : Int32} (h : f_M_mayBe x0 x1 x2 m = some (r, m')) : am_Mt am_nw ro d mr_M_mayBe [.int x0, .int x1, .int x2] (S0, m) (some (.int r)) (S0, m') := by
  obtain ⟨d, rfl⟩ : ∃ d0, d = d0 + 1 := ⟨d - 1, by omega⟩
  refine am_Mt.of (by decide +kernel) (Nat.le_of_ble_eq_true rfl) ?_
  change am_AW am_nw ro (d + 1) mr_M_mayBe 0 [some (.int x0), some (.int x1), some (.int x2)] [] (S0, m) (some (.int r)) (S0, m')
  unfold f_M_mayBe at h
  refine am_AW.run am_base_ok ok_M_mayBe (Nat.le_add_left 1 d) 1 (pc1 := 1) (ls1 := [some (.int x0), some (.int x1), some (.int x2)]) (st1 := [.int x1]) (σ1 := (S0, m)) rfl ?_
  refine am_AW.brP ok_M_mayBe rfl rfl am_c_lt (fun c1 => ?_) (fun c1 => ?_)
  · rw [if_pos c1] at h
    refine am_AW.run am_base_ok ok_M_mayBe (Nat.le_add_left 1 d) 1 (pc1 := 32) (ls1 := [some (.int x0), some (.int x1), some (.int x2)]) (st1 := [.int (0 : Int32)]) (σ1 := (S0, m)) rfl ?_
    obtain ⟨rfl, rfl⟩ := Prod.mk.inj (Option.some.inj h)
    exact am_AW.ret ok_M_mayBe rfl rfl rfl (by decide)
  · rw [if_neg c1] at h
    refine am_AW.run am_base_ok ok_M_mayBe (Nat.le_add_left 1 d) 2 (pc1 := 6) (ls1 := [some (.int x0), some (.int x1), some (.int x2)]) (st1 := [.int x0, .int x2]) (σ1 := (S0, m)) rfl ?_
    refine am_AW.brP ok_M_mayBe rfl rfl am_c_ge (fun c2 => ?_) (fun c2 => ?_)
    · rw [if_pos c2] at h
      refine am_AW.run am_base_ok ok_M_mayBe (Nat.le_add_left 1 d) 1 (pc1 := 32) (ls1 := [some (.int x0), some (.int x1), some (.int x2)]) (st1 := [.int (0 : Int32)]) (σ1 := (S0, m)) rfl ?_
      obtain ⟨rfl, rfl⟩ := Prod.mk.inj (Option.some.inj h)
      exact am_AW.ret ok_M_mayBe rfl rfl rfl (by decide)
    · rw [if_neg c2] at h
      refine am_AW.run am_base_ok ok_M_mayBe (Nat.le_add_left 1 d) 4 (pc1 := 13) (ls1 := [some (.int x0), some (.int x1), some (.int x2)]) (st1 := [.int (x1 + (1 : Int32)), .int x2]) (σ1 := (S0, m)) rfl ?_
      refine am_AW.brP ok_M_mayBe rfl rfl am_c_le (fun c3 => ?_) (fun c3 => ?_)
      · rw [if_pos c3] at h
        refine am_AW.run am_base_ok ok_M_mayBe (Nat.le_add_left 1 d) 1 (pc1 := 32) (ls1 := [some (.int x0), some (.int x1), some (.int x2)]) (st1 := [.int (0 : Int32)]) (σ1 := (S0, m)) rfl ?_
        obtain ⟨rfl, rfl⟩ := Prod.mk.inj (Option.some.inj h)
        exact am_AW.ret ok_M_mayBe rfl rfl rfl (by decide)
      · rw [if_neg c3] at h
        refine am_AW.run am_base_ok ok_M_mayBe (Nat.le_add_left 1 d) 1 (pc1 := 17) (ls1 := [some (.int x0), some (.int x1), some (.int x2)]) (st1 := [.int x1]) (σ1 := (S0, m)) rfl ?_
        refine am_AW.brN ok_M_mayBe rfl rfl am_c_ne (fun c4 => ?_) (fun c4 => ?_)
        · rw [if_pos c4] at h
          refine am_AW.run am_base_ok ok_M_mayBe (Nat.le_add_left 1 d) 4 (pc1 := 24) (ls1 := [some (.int x0), some (.int x1), some (.int x2)]) (st1 := [.int (x0 - (1 : Int32)), .int x2]) (σ1 := (S0, m)) rfl ?_
          refine am_AW.brP ok_M_mayBe rfl rfl am_c_eq (fun c5 => ?_) (fun c5 => ?_)
          · rw [if_pos c5] at h
            refine am_AW.run am_base_ok ok_M_mayBe (Nat.le_add_left 1 d) 1 (pc1 := 32) (ls1 := [some (.int x0), some (.int x1), some (.int x2)]) (st1 := [.int (0 : Int32)]) (σ1 := (S0, m)) rfl ?_
            obtain ⟨rfl, rfl⟩ := Prod.mk.inj (Option.some.inj h)
            exact am_AW.ret ok_M_mayBe rfl rfl rfl (by decide)
          · rw [if_neg c5] at h
            refine am_AW.run am_base_ok ok_M_mayBe (Nat.le_add_left 1 d) 2 (pc1 := 32) (ls1 := [some (.int x0), some (.int x1), some (.int x2)]) (st1 := [.int (1 : Int32)]) (σ1 := (S0, m)) rfl ?_
            obtain ⟨rfl, rfl⟩ := Prod.mk.inj (Option.some.inj h)
            exact am_AW.ret ok_M_mayBe rfl rfl rfl (by decide)
        · rw [if_neg c4] at h
          refine am_AW.run am_base_ok ok_M_mayBe (Nat.le_add_left 1 d) 2 (pc1 := 32) (ls1 := [some (.int x0), some (.int x1), some (.int x2)]) (st1 := [.int (1 : Int32)]) (σ1 := (S0, m)) rfl ?_
          obtain ⟨rfl, rfl⟩ := Prod.mk.inj (Option.some.inj h)
          exact am_AW.ret ok_M_mayBe rfl rfl rfl (by decide)
/-! FriezePolygonsModel.manyCuts(I)I -/
def f_M_manyCuts (x0 : Int32) (m : am_Mm) : Option (Int32 × am_Mm) :=
  some (((x0 * (x0 - (3 : Int32))) / (2 : Int32)), m)
set_option maxHeartbeats 4000000 in
set_option maxRecDepth 100000 in
theorem f_M_manyCuts_ok {ro : am_Ro} {d : Nat} (hd : 1 ≤ d) (x0 : Int32) {m m' : am_Mm} {r : Int32} (h : f_M_manyCuts x0 m = some (r, m')) : am_Mt am_nw ro d mr_M_manyCuts [.int x0] (S0, m) (some (.int r)) (S0, m') := by
  obtain ⟨d, rfl⟩ : ∃ d0, d = d0 + 1 := ⟨d - 1, by omega⟩
  refine am_Mt.of (by decide +kernel) (Nat.le_of_ble_eq_true rfl) ?_
  change am_AW am_nw ro (d + 1) mr_M_manyCuts 0 [some (.int x0)] [] (S0, m) (some (.int r)) (S0, m')
  unfold f_M_manyCuts at h
  refine am_AW.run am_base_ok ok_M_manyCuts (Nat.le_add_left 1 d) 6 (pc1 := 6) (ls1 := [some (.int x0)]) (st1 := [.int (2 : Int32), .int (x0 * (x0 - (3 : Int32)))]) (σ1 := (S0, m)) rfl ?_
  refine am_AW.dvi ok_M_manyCuts (Nat.le_add_left 1 d) (w := ((x0 * (x0 - (3 : Int32))) / (2 : Int32))) (Or.inl ⟨rfl, rfl⟩) rfl (by decide) ?_
  obtain ⟨rfl, rfl⟩ := Prod.mk.inj (Option.some.inj h)
  exact am_AW.ret ok_M_manyCuts rfl rfl rfl rfl
/-! FriezePolygonsModel.goFrom(II)I -/
def f_M_goFrom (x0 : Int32) (x1 : Int32) (m : am_Mm) : Option (Int32 × am_Mm) :=
  if x1 = (0 : Int32) then
    some ((x0 - (3 : Int32)), m)
  else
    some (((x0 - x1) - (2 : Int32)), m)
set_option maxHeartbeats 4000000 in
set_option maxRecDepth 100000 in
theorem f_M_goFrom_ok {ro : am_Ro} {d : Nat} (hd : 1 ≤ d) (x0 : Int32) (x1 : Int32) {m m' : am_Mm} {r : Int32} (h : f_M_goFrom x0 x1 m = some (r, m')) : am_Mt am_nw ro d mr_M_goFrom [.int x0, .int x1] (S0, m) (some (.int r)) (S0, m') := by
  obtain ⟨d, rfl⟩ : ∃ d0, d = d0 + 1 := ⟨d - 1, by omega⟩
  refine am_Mt.of (by decide +kernel) (Nat.le_of_ble_eq_true rfl) ?_
  change am_AW am_nw ro (d + 1) mr_M_goFrom 0 [some (.int x0), some (.int x1)] [] (S0, m) (some (.int r)) (S0, m')
  unfold f_M_goFrom at h
  refine am_AW.run am_base_ok ok_M_goFrom (Nat.le_add_left 1 d) 1 (pc1 := 1) (ls1 := [some (.int x0), some (.int x1)]) (st1 := [.int x1]) (σ1 := (S0, m)) rfl ?_
  refine am_AW.brN ok_M_goFrom rfl rfl am_c_ne (fun c1 => ?_) (fun c1 => ?_)
  · rw [if_pos c1] at h
    refine am_AW.run am_base_ok ok_M_goFrom (Nat.le_add_left 1 d) 4 (pc1 := 15) (ls1 := [some (.int x0), some (.int x1)]) (st1 := [.int (x0 - (3 : Int32))]) (σ1 := (S0, m)) rfl ?_
    obtain ⟨rfl, rfl⟩ := Prod.mk.inj (Option.some.inj h)
    exact am_AW.ret ok_M_goFrom rfl rfl rfl rfl
  · rw [if_neg c1] at h
    refine am_AW.run am_base_ok ok_M_goFrom (Nat.le_add_left 1 d) 5 (pc1 := 15) (ls1 := [some (.int x0), some (.int x1)]) (st1 := [.int ((x0 - x1) - (2 : Int32))]) (σ1 := (S0, m)) rfl ?_
    obtain ⟨rfl, rfl⟩ := Prod.mk.inj (Option.some.inj h)
    exact am_AW.ret ok_M_goFrom rfl rfl rfl rfl
/-! FriezePolygonsModel.isBetween(III)Z -/
def f_M_isBetween (x0 : Int32) (x1 : Int32) (x2 : Int32) (m : am_Mm) : Option (Int32 × am_Mm) :=
  if x0 ≤ x1 then
    some ((0 : Int32), m)
  else
    if x2 ≤ x0 then
      some ((0 : Int32), m)
    else
      some ((1 : Int32), m)
set_option maxHeartbeats 4000000 in
set_option maxRecDepth 100000 in
theorem f_M_isBetween_ok {ro : am_Ro} {d : Nat} (hd : 1 ≤ d) (x0 : Int32) (x1 : Int32) (x2 : Int32) {m m' : am_Mm} {r : Int32} (h : f_M_isBetween x0 x1 x2 m = some (r, m')) : am_Mt am_nw ro d mr_M_isBetween [.int x0, .int x1, .int x2] (S0, m) (some (.int r)) (S0, m') := by
  obtain ⟨d, rfl⟩ : ∃ d0, d = d0 + 1 := ⟨d - 1, by omega⟩
  refine am_Mt.of (by decide +kernel) (Nat.le_of_ble_eq_true rfl) ?_
  change am_AW am_nw ro (d + 1) mr_M_isBetween 0 [some (.int x0), some (.int x1), some (.int x2)] [] (S0, m) (some (.int r)) (S0, m')
  unfold f_M_isBetween at h
  refine am_AW.run am_base_ok ok_M_isBetween (Nat.le_add_left 1 d) 2 (pc1 := 2) (ls1 := [some (.int x0), some (.int x1), some (.int x2)]) (st1 := [.int x0, .int x1]) (σ1 := (S0, m)) rfl ?_
  refine am_AW.brP ok_M_isBetween rfl rfl am_c_ge (fun c1 => ?_) (fun c1 => ?_)
  · rw [if_pos c1] at h
    refine am_AW.run am_base_ok ok_M_isBetween (Nat.le_add_left 1 d) 1 (pc1 := 15) (ls1 := [some (.int x0), some (.int x1), some (.int x2)]) (st1 := [.int (0 : Int32)]) (σ1 := (S0, m)) rfl ?_
    obtain ⟨rfl, rfl⟩ := Prod.mk.inj (Option.some.inj h)
    exact am_AW.ret ok_M_isBetween rfl rfl rfl (by decide)
  · rw [if_neg c1] at h
    refine am_AW.run am_base_ok ok_M_isBetween (Nat.le_add_left 1 d) 2 (pc1 := 7) (ls1 := [some (.int x0), some (.int x1), some (.int x2)]) (st1 := [.int x2, .int x0]) (σ1 := (S0, m)) rfl ?_
    refine am_AW.brP ok_M_isBetween rfl rfl am_c_ge (fun c2 => ?_) (fun c2 => ?_)
    · rw [if_pos c2] at h
      refine am_AW.run am_base_ok ok_M_isBetween (Nat.le_add_left 1 d) 1 (pc1 := 15) (ls1 := [some (.int x0), some (.int x1), some (.int x2)]) (st1 := [.int (0 : Int32)]) (σ1 := (S0, m)) rfl ?_
      obtain ⟨rfl, rfl⟩ := Prod.mk.inj (Option.some.inj h)
      exact am_AW.ret ok_M_isBetween rfl rfl rfl (by decide)
    · rw [if_neg c2] at h
      refine am_AW.run am_base_ok ok_M_isBetween (Nat.le_add_left 1 d) 2 (pc1 := 15) (ls1 := [some (.int x0), some (.int x1), some (.int x2)]) (st1 := [.int (1 : Int32)]) (σ1 := (S0, m)) rfl ?_
      obtain ⟨rfl, rfl⟩ := Prod.mk.inj (Option.some.inj h)
      exact am_AW.ret ok_M_isBetween rfl rfl rfl (by decide)
/-! FriezePolygonsModel.kindOf([II)I -/
def f_M_kindOf (p0 : Nat) (x1 : Int32) (m : am_Mm) : Option (Int32 × am_Mm) :=
  if am_in ((2 : Int32) + ((2 : Int32) * x1)) 20 = true then
    some ((m.1 p0 ((2 : Int32) + ((2 : Int32) * x1)).toNatClampNeg), m)
  else none
set_option maxHeartbeats 4000000 in
set_option maxRecDepth 100000 in
theorem f_M_kindOf_ok {ro : am_Ro} {d : Nat} (hd : 1 ≤ d) (p0 : Nat) (x1 : Int32) (hp0 : p0 = 67 ∨ p0 = 69) {m m' : am_Mm} {r : Int32} (h : f_M_kindOf p0 x1 m = some (r, m')) : am_Mt am_nw ro d mr_M_kindOf [.ref p0, .int x1] (S0, m) (some (.int r)) (S0, m') := by
  obtain ⟨d, rfl⟩ : ∃ d0, d = d0 + 1 := ⟨d - 1, by omega⟩
  refine am_Mt.of (by decide +kernel) (Nat.le_of_ble_eq_true rfl) ?_
  change am_AW am_nw ro (d + 1) mr_M_kindOf 0 [some (.ref p0), some (.int x1)] [] (S0, m) (some (.int r)) (S0, m')
  unfold f_M_kindOf at h
  refine am_AW.run am_base_ok ok_M_kindOf (Nat.le_add_left 1 d) 6 (pc1 := 6) (ls1 := [some (.ref p0), some (.int x1)]) (st1 := [.int ((2 : Int32) + ((2 : Int32) * x1)), .ref p0]) (σ1 := (S0, m)) rfl ?_
  by_cases g1 : am_in ((2 : Int32) + ((2 : Int32) * x1)) 20 = true
  rotate_left
  · rw [if_neg g1] at h
    cases h
  rw [if_pos g1] at h
  refine am_AW.iald ok_M_kindOf (Nat.le_add_left 1 d) S0_len rfl (sh_67_69_0 hp0) g1 ?_
  obtain ⟨rfl, rfl⟩ := Prod.mk.inj (Option.some.inj h)
  exact am_AW.ret ok_M_kindOf rfl rfl rfl rfl
/-! FriezePolygonsModel.bad(I)V -/
def f_M_bad (x1 : Int32) (m : am_Mm) : Option am_Mm :=
  if (m.1 63 15) = (0 : Int32) then
    some (am_pI (am_pI m 63 15 x1) 63 16 ((am_pI m 63 15 x1).1 63 12))
  else
    some m
set_option maxHeartbeats 4000000 in
set_option maxRecDepth 100000 in
theorem f_M_bad_ok {ro : am_Ro} {d : Nat} (hd : 1 ≤ d) (x1 : Int32) {m m' : am_Mm} (h : f_M_bad x1 m = some m') : am_Mt am_nw ro d mr_M_bad [.ref 63, .int x1] (S0, m) none (S0, m') := by
  obtain ⟨d, rfl⟩ : ∃ d0, d = d0 + 1 := ⟨d - 1, by omega⟩
  refine am_Mt.of (by decide +kernel) (Nat.le_of_ble_eq_true rfl) ?_
  change am_AW am_nw ro (d + 1) mr_M_bad 0 [some (.ref 63), some (.int x1)] [] (S0, m) none (S0, m')
  unfold f_M_bad at h
  refine am_AW.run am_base_ok ok_M_bad (Nat.le_add_left 1 d) 2 (pc1 := 4) (ls1 := [some (.ref 63), some (.int x1)]) (st1 := [.int (m.1 63 15)]) (σ1 := (S0, m)) rfl ?_
  refine am_AW.brN ok_M_bad rfl rfl am_c_ne (fun c1 => ?_) (fun c1 => ?_)
  · rw [if_pos c1] at h
    refine am_AW.run am_base_ok ok_M_bad (Nat.le_add_left 1 d) 2 (pc1 := 9) (ls1 := [some (.ref 63), some (.int x1)]) (st1 := [.int x1, .ref 63]) (σ1 := (S0, m)) rfl ?_
    refine am_AW.puti ok_M_bad (Nat.le_add_left 1 d) rfl rfl rfl (qc := kq10) rfl (by decide) ty_10_15 ?_
    refine am_AW.run am_base_ok ok_M_bad (Nat.le_add_left 1 d) 3 (pc1 := 17) (ls1 := [some (.ref 63), some (.int x1)]) (st1 := [.int ((am_pI m 63 15 x1).1 63 12), .ref 63]) (σ1 := (S0, (am_pI m 63 15 x1))) rfl ?_
    refine am_AW.puti ok_M_bad (Nat.le_add_left 1 d) rfl rfl rfl (qc := kq10) rfl (by decide) ty_10_16 ?_
    obtain rfl := Option.some.inj h
    exact am_AW.ret ok_M_bad rfl rfl rfl rfl
  · rw [if_neg c1] at h
    obtain rfl := Option.some.inj h
    exact am_AW.ret ok_M_bad rfl rfl rfl rfl
/-! FriezePolygonsModel.sortOf(I)I -/
def f_M_sortOf (x0 : Int32) (m : am_Mm) : Option (Int32 × am_Mm) :=
  if x0 = (112 : Int32) then
    some ((1 : Int32), m)
  else
    if x0 = (116 : Int32) then
      some ((2 : Int32), m)
    else
      if x0 = (109 : Int32) then
        some ((3 : Int32), m)
      else
        if x0 = (102 : Int32) then
          some ((4 : Int32), m)
        else
          if x0 = (111 : Int32) then
            some ((5 : Int32), m)
          else
            some ((0 : Int32), m)
set_option maxHeartbeats 4000000 in
set_option maxRecDepth 100000 in
theorem f_M_sortOf_ok {ro : am_Ro} {d : Nat} (hd : 1 ≤ d) (x0 : Int32) {m m' : am_Mm} {r : Int32} (h : f_M_sortOf x0 m = some (r, m')) : am_Mt am_nw ro d mr_M_sortOf [.int x0] (S0, m) (some (.int r)) (S0, m') := by
  obtain ⟨d, rfl⟩ : ∃ d0, d = d0 + 1 := ⟨d - 1, by omega⟩
  refine am_Mt.of (by decide +kernel) (Nat.le_of_ble_eq_true rfl) ?_
  change am_AW am_nw ro (d + 1) mr_M_sortOf 0 [some (.int x0)] [] (S0, m) (some (.int r)) (S0, m')
  unfold f_M_sortOf at h
  refine am_AW.run am_base_ok ok_M_sortOf (Nat.le_add_left 1 d) 2 (pc1 := 3) (ls1 := [some (.int x0)]) (st1 := [.int (112 : Int32), .int x0]) (σ1 := (S0, m)) rfl ?_
  refine am_AW.brN ok_M_sortOf rfl rfl am_c_ne (fun c1 => ?_) (fun c1 => ?_)
  · rw [if_pos c1] at h
    refine am_AW.run am_base_ok ok_M_sortOf (Nat.le_add_left 1 d) 2 (pc1 := 51) (ls1 := [some (.int x0)]) (st1 := [.int (1 : Int32)]) (σ1 := (S0, m)) rfl ?_
    obtain ⟨rfl, rfl⟩ := Prod.mk.inj (Option.some.inj h)
    exact am_AW.ret ok_M_sortOf rfl rfl rfl rfl
  · rw [if_neg c1] at h
    refine am_AW.run am_base_ok ok_M_sortOf (Nat.le_add_left 1 d) 2 (pc1 := 13) (ls1 := [some (.int x0)]) (st1 := [.int (116 : Int32), .int x0]) (σ1 := (S0, m)) rfl ?_
    refine am_AW.brN ok_M_sortOf rfl rfl am_c_ne (fun c2 => ?_) (fun c2 => ?_)
    · rw [if_pos c2] at h
      refine am_AW.run am_base_ok ok_M_sortOf (Nat.le_add_left 1 d) 2 (pc1 := 51) (ls1 := [some (.int x0)]) (st1 := [.int (2 : Int32)]) (σ1 := (S0, m)) rfl ?_
      obtain ⟨rfl, rfl⟩ := Prod.mk.inj (Option.some.inj h)
      exact am_AW.ret ok_M_sortOf rfl rfl rfl rfl
    · rw [if_neg c2] at h
      refine am_AW.run am_base_ok ok_M_sortOf (Nat.le_add_left 1 d) 2 (pc1 := 23) (ls1 := [some (.int x0)]) (st1 := [.int (109 : Int32), .int x0]) (σ1 := (S0, m)) rfl ?_
      refine am_AW.brN ok_M_sortOf rfl rfl am_c_ne (fun c3 => ?_) (fun c3 => ?_)
      · rw [if_pos c3] at h
        refine am_AW.run am_base_ok ok_M_sortOf (Nat.le_add_left 1 d) 2 (pc1 := 51) (ls1 := [some (.int x0)]) (st1 := [.int (3 : Int32)]) (σ1 := (S0, m)) rfl ?_
        obtain ⟨rfl, rfl⟩ := Prod.mk.inj (Option.some.inj h)
        exact am_AW.ret ok_M_sortOf rfl rfl rfl rfl
      · rw [if_neg c3] at h
        refine am_AW.run am_base_ok ok_M_sortOf (Nat.le_add_left 1 d) 2 (pc1 := 33) (ls1 := [some (.int x0)]) (st1 := [.int (102 : Int32), .int x0]) (σ1 := (S0, m)) rfl ?_
        refine am_AW.brN ok_M_sortOf rfl rfl am_c_ne (fun c4 => ?_) (fun c4 => ?_)
        · rw [if_pos c4] at h
          refine am_AW.run am_base_ok ok_M_sortOf (Nat.le_add_left 1 d) 2 (pc1 := 51) (ls1 := [some (.int x0)]) (st1 := [.int (4 : Int32)]) (σ1 := (S0, m)) rfl ?_
          obtain ⟨rfl, rfl⟩ := Prod.mk.inj (Option.some.inj h)
          exact am_AW.ret ok_M_sortOf rfl rfl rfl rfl
        · rw [if_neg c4] at h
          refine am_AW.run am_base_ok ok_M_sortOf (Nat.le_add_left 1 d) 2 (pc1 := 43) (ls1 := [some (.int x0)]) (st1 := [.int (111 : Int32), .int x0]) (σ1 := (S0, m)) rfl ?_
          refine am_AW.brN ok_M_sortOf rfl rfl am_c_ne (fun c5 => ?_) (fun c5 => ?_)
          · rw [if_pos c5] at h
            refine am_AW.run am_base_ok ok_M_sortOf (Nat.le_add_left 1 d) 2 (pc1 := 51) (ls1 := [some (.int x0)]) (st1 := [.int (5 : Int32)]) (σ1 := (S0, m)) rfl ?_
            obtain ⟨rfl, rfl⟩ := Prod.mk.inj (Option.some.inj h)
            exact am_AW.ret ok_M_sortOf rfl rfl rfl rfl
          · rw [if_neg c5] at h
            refine am_AW.run am_base_ok ok_M_sortOf (Nat.le_add_left 1 d) 1 (pc1 := 51) (ls1 := [some (.int x0)]) (st1 := [.int (0 : Int32)]) (σ1 := (S0, m)) rfl ?_
            obtain ⟨rfl, rfl⟩ := Prod.mk.inj (Option.some.inj h)
            exact am_AW.ret ok_M_sortOf rfl rfl rfl rfl
/-! FriezePolygonsModel.fault()I -/
def f_M_fault (m : am_Mm) : Option (Int32 × am_Mm) :=
  some ((m.1 63 17), m)
set_option maxHeartbeats 4000000 in
set_option maxRecDepth 100000 in
theorem f_M_fault_ok {ro : am_Ro} {d : Nat} (hd : 1 ≤ d) {m m' : am_Mm} {r : Int32} (h : f_M_fault  m = some (r, m')) : am_Mt am_nw ro d mr_M_fault [.ref 63] (S0, m) (some (.int r)) (S0, m') := by
  obtain ⟨d, rfl⟩ : ∃ d0, d = d0 + 1 := ⟨d - 1, by omega⟩
  refine am_Mt.of (by decide +kernel) (Nat.le_of_ble_eq_true rfl) ?_
  change am_AW am_nw ro (d + 1) mr_M_fault 0 [some (.ref 63)] [] (S0, m) (some (.int r)) (S0, m')
  unfold f_M_fault at h
  refine am_AW.run am_base_ok ok_M_fault (Nat.le_add_left 1 d) 2 (pc1 := 4) (ls1 := [some (.ref 63)]) (st1 := [.int (m.1 63 17)]) (σ1 := (S0, m)) rfl ?_
  obtain ⟨rfl, rfl⟩ := Prod.mk.inj (Option.some.inj h)
  exact am_AW.ret ok_M_fault rfl rfl rfl rfl
/-! FriezePolygonsModel.keeps()V -/
def f_M_keeps_b51 : Nat → Int32 → am_Mm → Option am_Mm
  | 0, _, _ => none
  | n + 1, x1, m =>
    if (20 : Int32) ≤ x1 then
      some (am_pI m 63 8 ((m.1 63 8) + (1 : Int32)))
    else
      if am_in x1 20 = true then
        if am_in (((20 : Int32) * (m.1 63 8)) + x1) 480 = true then
          f_M_keeps_b51 n (x1 + (1 : Int32)) (am_pI m 70 (((20 : Int32) * (m.1 63 8)) + x1).toNatClampNeg (m.1 67 x1.toNatClampNeg))
        else none
      else none
def f_M_keeps_b49 (m : am_Mm) : Option am_Mm :=
  f_M_keeps_b51 am_F (0 : Int32) m
def f_M_keeps_b11 : Nat → Int32 → am_Mm → Option am_Mm
  | 0, _, _ => none
  | n + 1, x1, m =>
    if (460 : Int32) ≤ x1 then
      f_M_keeps_b49 (am_pI m 63 8 ((m.1 63 8) - (1 : Int32)))
    else
      if am_in (x1 + (20 : Int32)) 480 = true then
        if am_in x1 480 = true then
          f_M_keeps_b11 n (x1 + (1 : Int32)) (am_pI m 70 x1.toNatClampNeg (m.1 70 (x1 + (20 : Int32)).toNatClampNeg))
        else none
      else none
def f_M_keeps (m : am_Mm) : Option am_Mm :=
  if (m.1 63 8) = (24 : Int32) then
    f_M_keeps_b11 am_F (0 : Int32) m
  else
    f_M_keeps_b49 m
set_option maxHeartbeats 4000000 in
set_option maxRecDepth 100000 in
theorem f_M_keeps_b51_all {ro : am_Ro} {d : Nat} (hd : 1 ≤ d + 1) : ∀ (n : Nat) (x1 : Int32) (m m' : am_Mm), f_M_keeps_b51 n x1 m = some m' → am_AW am_nw ro (d + 1) mr_M_keeps 51 [some (.ref 63), some (.int x1)] [] (S0, m) none (S0, m') := by
  intro n
  induction n with
  | zero =>
    intro x1 m m' h
    rw [f_M_keeps_b51] at h
    cases h
  | succ n ih =>
    intro x1 m m' h
    rw [f_M_keeps_b51] at h
    refine am_AW.run am_base_ok ok_M_keeps (Nat.le_add_left 1 d) 2 (pc1 := 54) (ls1 := [some (.ref 63), some (.int x1)]) (st1 := [.int (20 : Int32), .int x1]) (σ1 := (S0, m)) rfl ?_
    refine am_AW.brP ok_M_keeps rfl rfl am_c_ge (fun c3 => ?_) (fun c3 => ?_)
    · rw [if_pos c3] at h
      refine am_AW.run am_base_ok ok_M_keeps (Nat.le_add_left 1 d) 5 (pc1 := 90) (ls1 := [some (.ref 63), some (.int x1)]) (st1 := [.int ((m.1 63 8) + (1 : Int32)), .ref 63]) (σ1 := (S0, m)) rfl ?_
      refine am_AW.puti ok_M_keeps (Nat.le_add_left 1 d) rfl rfl rfl (qc := kq10) rfl (by decide) ty_10_8 ?_
      obtain rfl := Option.some.inj h
      exact am_AW.ret ok_M_keeps rfl rfl rfl rfl
    · rw [if_neg c3] at h
      refine am_AW.run am_base_ok ok_M_keeps (Nat.le_add_left 1 d) 11 (pc1 := 75) (ls1 := [some (.ref 63), some (.int x1)]) (st1 := [.int x1, .ref 67, .int (((20 : Int32) * (m.1 63 8)) + x1), .ref 70]) (σ1 := (S0, m)) rfl ?_
      by_cases g4 : am_in x1 20 = true
      rotate_left
      · rw [if_neg g4] at h
        cases h
      rw [if_pos g4] at h
      refine am_AW.iald ok_M_keeps (Nat.le_add_left 1 d) S0_len rfl rfl g4 ?_
      by_cases g5 : am_in (((20 : Int32) * (m.1 63 8)) + x1) 480 = true
      rotate_left
      · rw [if_neg g5] at h
        cases h
      rw [if_pos g5] at h
      refine am_AW.iast ok_M_keeps (Nat.le_add_left 1 d) rfl rfl g5 ?_
      change am_AW am_nw ro (d + 1) mr_M_keeps 77 [some (.ref 63), some (.int x1)] [] (S0, (am_pI m 70 (((20 : Int32) * (m.1 63 8)) + x1).toNatClampNeg (m.1 67 x1.toNatClampNeg))) none (S0, m')
      refine am_AW.run am_base_ok ok_M_keeps (Nat.le_add_left 1 d) 2 (pc1 := 51) (ls1 := [some (.ref 63), some (.int (x1 + (1 : Int32)))]) (st1 := []) (σ1 := (S0, (am_pI m 70 (((20 : Int32) * (m.1 63 8)) + x1).toNatClampNeg (m.1 67 x1.toNatClampNeg)))) rfl ?_
      exact am_AW.weak (ih (x1 + (1 : Int32))  _ _ h) (by simp only [am_le, and_self])
set_option maxHeartbeats 4000000 in
set_option maxRecDepth 100000 in
theorem f_M_keeps_b51_ok {ro : am_Ro} {d : Nat} (hd : 1 ≤ d + 1) (x1 : Int32) {m m' : am_Mm} {n : Nat} (h : f_M_keeps_b51 n x1 m = some m') : am_AW am_nw ro (d + 1) mr_M_keeps 51 [some (.ref 63), some (.int x1)] [] (S0, m) none (S0, m') :=
  f_M_keeps_b51_all hd n x1  m m' h
set_option maxHeartbeats 4000000 in
set_option maxRecDepth 100000 in
theorem f_M_keeps_b49_ok {ro : am_Ro} {d : Nat} (hd : 1 ≤ d + 1) {m m' : am_Mm} (h : f_M_keeps_b49  m = some m') : am_AW am_nw ro (d + 1) mr_M_keeps 49 [some (.ref 63), none] [] (S0, m) none (S0, m') := by
  unfold f_M_keeps_b49 at h
  refine am_AW.run am_base_ok ok_M_keeps (Nat.le_add_left 1 d) 2 (pc1 := 51) (ls1 := [some (.ref 63), some (.int (0 : Int32))]) (st1 := []) (σ1 := (S0, m)) rfl ?_
  exact am_AW.weak (f_M_keeps_b51_ok hd (0 : Int32)  h) (by simp only [am_le, and_self])
set_option maxHeartbeats 4000000 in
set_option maxRecDepth 100000 in
theorem f_M_keeps_b11_all {ro : am_Ro} {d : Nat} (hd : 1 ≤ d + 1) : ∀ (n : Nat) (x1 : Int32) (m m' : am_Mm), f_M_keeps_b11 n x1 m = some m' → am_AW am_nw ro (d + 1) mr_M_keeps 11 [some (.ref 63), some (.int x1)] [] (S0, m) none (S0, m') := by
  intro n
  induction n with
  | zero =>
    intro x1 m m' h
    rw [f_M_keeps_b11] at h
    cases h
  | succ n ih =>
    intro x1 m m' h
    rw [f_M_keeps_b11] at h
    refine am_AW.run am_base_ok ok_M_keeps (Nat.le_add_left 1 d) 2 (pc1 := 15) (ls1 := [some (.ref 63), some (.int x1)]) (st1 := [.int (460 : Int32), .int x1]) (σ1 := (S0, m)) rfl ?_
    refine am_AW.brP ok_M_keeps rfl rfl am_c_ge (fun c2 => ?_) (fun c2 => ?_)
    · rw [if_pos c2] at h
      refine am_AW.run am_base_ok ok_M_keeps (Nat.le_add_left 1 d) 5 (pc1 := 46) (ls1 := [some (.ref 63), some (.int x1)]) (st1 := [.int ((m.1 63 8) - (1 : Int32)), .ref 63]) (σ1 := (S0, m)) rfl ?_
      refine am_AW.puti ok_M_keeps (Nat.le_add_left 1 d) rfl rfl rfl (qc := kq10) rfl (by decide) ty_10_8 ?_
      exact am_AW.weak (f_M_keeps_b49_ok hd   h) (by simp only [am_le, and_self])
    · rw [if_neg c2] at h
      refine am_AW.run am_base_ok ok_M_keeps (Nat.le_add_left 1 d) 8 (pc1 := 31) (ls1 := [some (.ref 63), some (.int x1)]) (st1 := [.int (x1 + (20 : Int32)), .ref 70, .int x1, .ref 70]) (σ1 := (S0, m)) rfl ?_
      by_cases g6 : am_in (x1 + (20 : Int32)) 480 = true
      rotate_left
      · rw [if_neg g6] at h
        cases h
      rw [if_pos g6] at h
      refine am_AW.iald ok_M_keeps (Nat.le_add_left 1 d) S0_len rfl rfl g6 ?_
      by_cases g7 : am_in x1 480 = true
      rotate_left
      · rw [if_neg g7] at h
        cases h
      rw [if_pos g7] at h
      refine am_AW.iast ok_M_keeps (Nat.le_add_left 1 d) rfl rfl g7 ?_
      change am_AW am_nw ro (d + 1) mr_M_keeps 33 [some (.ref 63), some (.int x1)] [] (S0, (am_pI m 70 x1.toNatClampNeg (m.1 70 (x1 + (20 : Int32)).toNatClampNeg))) none (S0, m')
      refine am_AW.run am_base_ok ok_M_keeps (Nat.le_add_left 1 d) 2 (pc1 := 11) (ls1 := [some (.ref 63), some (.int (x1 + (1 : Int32)))]) (st1 := []) (σ1 := (S0, (am_pI m 70 x1.toNatClampNeg (m.1 70 (x1 + (20 : Int32)).toNatClampNeg)))) rfl ?_
      exact am_AW.weak (ih (x1 + (1 : Int32))  _ _ h) (by simp only [am_le, and_self])
set_option maxHeartbeats 4000000 in
set_option maxRecDepth 100000 in
theorem f_M_keeps_b11_ok {ro : am_Ro} {d : Nat} (hd : 1 ≤ d + 1) (x1 : Int32) {m m' : am_Mm} {n : Nat} (h : f_M_keeps_b11 n x1 m = some m') : am_AW am_nw ro (d + 1) mr_M_keeps 11 [some (.ref 63), some (.int x1)] [] (S0, m) none (S0, m') :=
  f_M_keeps_b11_all hd n x1  m m' h
set_option maxHeartbeats 4000000 in
set_option maxRecDepth 100000 in
theorem f_M_keeps_ok {ro : am_Ro} {d : Nat} (hd : 1 ≤ d) {m m' : am_Mm} (h : f_M_keeps  m = some m') : am_Mt am_nw ro d mr_M_keeps [.ref 63] (S0, m) none (S0, m') := by
  obtain ⟨d, rfl⟩ : ∃ d0, d = d0 + 1 := ⟨d - 1, by omega⟩
  refine am_Mt.of (by decide +kernel) (Nat.le_of_ble_eq_true rfl) ?_
  change am_AW am_nw ro (d + 1) mr_M_keeps 0 [some (.ref 63), none] [] (S0, m) none (S0, m')
  unfold f_M_keeps at h
  refine am_AW.run am_base_ok ok_M_keeps (Nat.le_add_left 1 d) 3 (pc1 := 6) (ls1 := [some (.ref 63), none]) (st1 := [.int (24 : Int32), .int (m.1 63 8)]) (σ1 := (S0, m)) rfl ?_
  refine am_AW.brN ok_M_keeps rfl rfl am_c_ne (fun c1 => ?_) (fun c1 => ?_)
  · rw [if_pos c1] at h
    refine am_AW.run am_base_ok ok_M_keeps (Nat.le_add_left 1 d) 2 (pc1 := 11) (ls1 := [some (.ref 63), some (.int (0 : Int32))]) (st1 := []) (σ1 := (S0, m)) rfl ?_
    exact am_AW.weak (f_M_keeps_b11_ok hd (0 : Int32)  h) (by simp only [am_le, and_self])
  · rw [if_neg c1] at h
    exact am_AW.weak (f_M_keeps_b49_ok hd   h) (by simp only [am_le, and_self])
/-! FriezePolygonsModel.undo()I -/
def f_M_undo_b22 : Nat → Int32 → am_Mm → Option (Int32 × am_Mm)
  | 0, _, _ => none
  | n + 1, x1, m =>
    if (20 : Int32) ≤ x1 then
      some ((m.1 63 8), m)
    else
      if am_in (((20 : Int32) * (m.1 63 8)) + x1) 480 = true then
        if am_in x1 20 = true then
          f_M_undo_b22 n (x1 + (1 : Int32)) (am_pI m 67 x1.toNatClampNeg (m.1 70 (((20 : Int32) * (m.1 63 8)) + x1).toNatClampNeg))
        else none
      else none
def f_M_undo (m : am_Mm) : Option (Int32 × am_Mm) :=
  if (m.1 63 8) = (0 : Int32) then
    some ((-1000002 : Int32), m)
  else
    f_M_undo_b22 am_F (0 : Int32) (am_pI m 63 8 ((m.1 63 8) - (1 : Int32)))
set_option maxHeartbeats 4000000 in
set_option maxRecDepth 100000 in
theorem f_M_undo_b22_all {ro : am_Ro} {d : Nat} (hd : 1 ≤ d + 1) : ∀ (n : Nat) (x1 : Int32) (m m' : am_Mm) (r : Int32), f_M_undo_b22 n x1 m = some (r, m') → am_AW am_nw ro (d + 1) mr_M_undo 22 [some (.ref 63), some (.int x1)] [] (S0, m) (some (.int r)) (S0, m') := by
  intro n
  induction n with
  | zero =>
    intro x1 m m' r h
    rw [f_M_undo_b22] at h
    cases h
  | succ n ih =>
    intro x1 m m' r h
    rw [f_M_undo_b22] at h
    refine am_AW.run am_base_ok ok_M_undo (Nat.le_add_left 1 d) 2 (pc1 := 25) (ls1 := [some (.ref 63), some (.int x1)]) (st1 := [.int (20 : Int32), .int x1]) (σ1 := (S0, m)) rfl ?_
    refine am_AW.brP ok_M_undo rfl rfl am_c_ge (fun c2 => ?_) (fun c2 => ?_)
    · rw [if_pos c2] at h
      refine am_AW.run am_base_ok ok_M_undo (Nat.le_add_left 1 d) 2 (pc1 := 58) (ls1 := [some (.ref 63), some (.int x1)]) (st1 := [.int (m.1 63 8)]) (σ1 := (S0, m)) rfl ?_
      obtain ⟨rfl, rfl⟩ := Prod.mk.inj (Option.some.inj h)
      exact am_AW.ret ok_M_undo rfl rfl rfl rfl
    · rw [if_neg c2] at h
      refine am_AW.run am_base_ok ok_M_undo (Nat.le_add_left 1 d) 11 (pc1 := 46) (ls1 := [some (.ref 63), some (.int x1)]) (st1 := [.int (((20 : Int32) * (m.1 63 8)) + x1), .ref 70, .int x1, .ref 67]) (σ1 := (S0, m)) rfl ?_
      by_cases g3 : am_in (((20 : Int32) * (m.1 63 8)) + x1) 480 = true
      rotate_left
      · rw [if_neg g3] at h
        cases h
      rw [if_pos g3] at h
      refine am_AW.iald ok_M_undo (Nat.le_add_left 1 d) S0_len rfl rfl g3 ?_
      by_cases g4 : am_in x1 20 = true
      rotate_left
      · rw [if_neg g4] at h
        cases h
      rw [if_pos g4] at h
      refine am_AW.iast ok_M_undo (Nat.le_add_left 1 d) rfl rfl g4 ?_
      change am_AW am_nw ro (d + 1) mr_M_undo 48 [some (.ref 63), some (.int x1)] [] (S0, (am_pI m 67 x1.toNatClampNeg (m.1 70 (((20 : Int32) * (m.1 63 8)) + x1).toNatClampNeg))) (some (.int r)) (S0, m')
      refine am_AW.run am_base_ok ok_M_undo (Nat.le_add_left 1 d) 2 (pc1 := 22) (ls1 := [some (.ref 63), some (.int (x1 + (1 : Int32)))]) (st1 := []) (σ1 := (S0, (am_pI m 67 x1.toNatClampNeg (m.1 70 (((20 : Int32) * (m.1 63 8)) + x1).toNatClampNeg)))) rfl ?_
      exact am_AW.weak (ih (x1 + (1 : Int32))  _ _ _ h) (by simp only [am_le, and_self])
set_option maxHeartbeats 4000000 in
set_option maxRecDepth 100000 in
theorem f_M_undo_b22_ok {ro : am_Ro} {d : Nat} (hd : 1 ≤ d + 1) (x1 : Int32) {m m' : am_Mm} {r : Int32} {n : Nat} (h : f_M_undo_b22 n x1 m = some (r, m')) : am_AW am_nw ro (d + 1) mr_M_undo 22 [some (.ref 63), some (.int x1)] [] (S0, m) (some (.int r)) (S0, m') :=
  f_M_undo_b22_all hd n x1  m m' r h
set_option maxHeartbeats 4000000 in
set_option maxRecDepth 100000 in
theorem f_M_undo_ok {ro : am_Ro} {d : Nat} (hd : 1 ≤ d) {m m' : am_Mm} {r : Int32} (h : f_M_undo  m = some (r, m')) : am_Mt am_nw ro d mr_M_undo [.ref 63] (S0, m) (some (.int r)) (S0, m') := by
  obtain ⟨d, rfl⟩ : ∃ d0, d = d0 + 1 := ⟨d - 1, by omega⟩
  refine am_Mt.of (by decide +kernel) (Nat.le_of_ble_eq_true rfl) ?_
  change am_AW am_nw ro (d + 1) mr_M_undo 0 [some (.ref 63), none] [] (S0, m) (some (.int r)) (S0, m')
  unfold f_M_undo at h
  refine am_AW.run am_base_ok ok_M_undo (Nat.le_add_left 1 d) 2 (pc1 := 4) (ls1 := [some (.ref 63), none]) (st1 := [.int (m.1 63 8)]) (σ1 := (S0, m)) rfl ?_
  refine am_AW.brN ok_M_undo rfl rfl am_c_ne (fun c1 => ?_) (fun c1 => ?_)
  · rw [if_pos c1] at h
    refine am_AW.run am_base_ok ok_M_undo (Nat.le_add_left 1 d) 1 (pc1 := 9) (ls1 := [some (.ref 63), none]) (st1 := [.int (-1000002 : Int32)]) (σ1 := (S0, m)) rfl ?_
    obtain ⟨rfl, rfl⟩ := Prod.mk.inj (Option.some.inj h)
    exact am_AW.ret ok_M_undo rfl rfl rfl rfl
  · rw [if_neg c1] at h
    refine am_AW.run am_base_ok ok_M_undo (Nat.le_add_left 1 d) 5 (pc1 := 17) (ls1 := [some (.ref 63), none]) (st1 := [.int ((m.1 63 8) - (1 : Int32)), .ref 63]) (σ1 := (S0, m)) rfl ?_
    refine am_AW.puti ok_M_undo (Nat.le_add_left 1 d) rfl rfl rfl (qc := kq10) rfl (by decide) ty_10_8 ?_
    refine am_AW.run am_base_ok ok_M_undo (Nat.le_add_left 1 d) 2 (pc1 := 22) (ls1 := [some (.ref 63), some (.int (0 : Int32))]) (st1 := []) (σ1 := (S0, (am_pI m 63 8 ((m.1 63 8) - (1 : Int32))))) rfl ?_
    exact am_AW.weak (f_M_undo_b22_ok hd (0 : Int32)  h) (by simp only [am_le, and_self])
/-! FriezePolygonsModel.isTooFar(IJ)Z -/
def f_M_isTooFar_b12 (x0 : Int32) (x1 : Int64) (s0 : Int64) (m : am_Mm) : Option (Int32 × am_Mm) :=
  if (0 : Int32) ≤ (lg_cmp s0 (2 : Int64)) then
    if s0 = (0 : Int64) then none else
    if s0 = (0 : Int64) then none else
    if x0 ≤ (0 : Int32) then
      if (0 : Int32) < (lg_cmp x1 (-((-9223372036854775808 : Int64) / s0))) then
        some ((1 : Int32), m)
      else
        if (0 : Int32) ≤ (lg_cmp x1 (-((9223372036854775807 : Int64) / s0))) then
          some ((0 : Int32), m)
        else
          some ((1 : Int32), m)
    else
      if (0 : Int32) < (lg_cmp x1 ((9223372036854775807 : Int64) / s0)) then
        some ((1 : Int32), m)
      else
        if (0 : Int32) ≤ (lg_cmp x1 ((-9223372036854775808 : Int64) / s0)) then
          some ((0 : Int32), m)
        else
          some ((1 : Int32), m)
  else
    if x0 = (-1 : Int32) then
      if (lg_cmp x1 (-9223372036854775808 : Int64)) = (0 : Int32) then
        some ((1 : Int32), m)
      else
        some ((0 : Int32), m)
    else
      some ((0 : Int32), m)
def f_M_isTooFar (x0 : Int32) (x1 : Int64) (m : am_Mm) : Option (Int32 × am_Mm) :=
  if (0 : Int32) ≤ x0 then
    f_M_isTooFar_b12 x0 x1 (x0.toInt64) m
  else
    f_M_isTooFar_b12 x0 x1 (-(x0.toInt64)) m
set_option maxHeartbeats 4000000 in
set_option maxRecDepth 100000 in
theorem f_M_isTooFar_b12_ok {ro : am_Ro} {d : Nat} (hd : 1 ≤ d + 1) (x0 : Int32) (x1 : Int64) (s0 : Int64) {m m' : am_Mm} {r : Int32} (h : f_M_isTooFar_b12 x0 x1 s0 m = some (r, m')) : am_AW am_nw ro (d + 1) mr_M_isTooFar 12 [some (.int x0), some (.long x1), none, none, none, none, none, none, none] [.long s0] (S0, m) (some (.int r)) (S0, m') := by
  unfold f_M_isTooFar_b12 at h
  refine am_AW.run am_base_ok ok_M_isTooFar (Nat.le_add_left 1 d) 4 (pc1 := 18) (ls1 := [some (.int x0), some (.long x1), none, some (.long s0), none, none, none, none, none]) (st1 := [.int (lg_cmp s0 (2 : Int64))]) (σ1 := (S0, m)) rfl ?_
  refine am_AW.brP ok_M_isTooFar rfl rfl am_c_ge (fun c2 => ?_) (fun c2 => ?_)
  · rw [if_pos c2] at h
    refine am_AW.run am_base_ok ok_M_isTooFar (Nat.le_add_left 1 d) 2 (pc1 := 44) (ls1 := [some (.int x0), some (.long x1), none, some (.long s0), none, none, none, none, none]) (st1 := [.long s0, .long (9223372036854775807 : Int64)]) (σ1 := (S0, m)) rfl ?_
    by_cases g3 : s0 = (0 : Int64)
    · rw [if_pos g3] at h
      cases h
    rw [if_neg g3] at h
    refine am_AW.dvl ok_M_isTooFar (Nat.le_add_left 1 d) (w := ((9223372036854775807 : Int64) / s0)) (Or.inl ⟨rfl, rfl⟩) rfl g3 ?_
    refine am_AW.run am_base_ok ok_M_isTooFar (Nat.le_add_left 1 d) 3 (pc1 := 51) (ls1 := [some (.int x0), some (.long x1), none, some (.long s0), none, some (.long ((9223372036854775807 : Int64) / s0)), none, none, none]) (st1 := [.long s0, .long (-9223372036854775808 : Int64)]) (σ1 := (S0, m)) rfl ?_
    by_cases g4 : s0 = (0 : Int64)
    · rw [if_pos g4] at h
      cases h
    rw [if_neg g4] at h
    refine am_AW.dvl ok_M_isTooFar (Nat.le_add_left 1 d) (w := ((-9223372036854775808 : Int64) / s0)) (Or.inl ⟨rfl, rfl⟩) rfl g4 ?_
    refine am_AW.run am_base_ok ok_M_isTooFar (Nat.le_add_left 1 d) 2 (pc1 := 55) (ls1 := [some (.int x0), some (.long x1), none, some (.long s0), none, some (.long ((9223372036854775807 : Int64) / s0)), none, some (.long ((-9223372036854775808 : Int64) / s0)), none]) (st1 := [.int x0]) (σ1 := (S0, m)) rfl ?_
    refine am_AW.brP ok_M_isTooFar rfl rfl am_c_le (fun c5 => ?_) (fun c5 => ?_)
    · rw [if_pos c5] at h
      refine am_AW.run am_base_ok ok_M_isTooFar (Nat.le_add_left 1 d) 4 (pc1 := 85) (ls1 := [some (.int x0), some (.long x1), none, some (.long s0), none, some (.long ((9223372036854775807 : Int64) / s0)), none, some (.long ((-9223372036854775808 : Int64) / s0)), none]) (st1 := [.int (lg_cmp x1 (-((-9223372036854775808 : Int64) / s0)))]) (σ1 := (S0, m)) rfl ?_
      refine am_AW.brP ok_M_isTooFar rfl rfl am_c_gt (fun c6 => ?_) (fun c6 => ?_)
      · rw [if_pos c6] at h
        refine am_AW.run am_base_ok ok_M_isTooFar (Nat.le_add_left 1 d) 2 (pc1 := 101) (ls1 := [some (.int x0), some (.long x1), none, some (.long s0), none, some (.long ((9223372036854775807 : Int64) / s0)), none, some (.long ((-9223372036854775808 : Int64) / s0)), none]) (st1 := [.int (1 : Int32)]) (σ1 := (S0, m)) rfl ?_
        obtain ⟨rfl, rfl⟩ := Prod.mk.inj (Option.some.inj h)
        exact am_AW.ret ok_M_isTooFar rfl rfl rfl (by decide)
      · rw [if_neg c6] at h
        refine am_AW.run am_base_ok ok_M_isTooFar (Nat.le_add_left 1 d) 4 (pc1 := 93) (ls1 := [some (.int x0), some (.long x1), none, some (.long s0), none, some (.long ((9223372036854775807 : Int64) / s0)), none, some (.long ((-9223372036854775808 : Int64) / s0)), none]) (st1 := [.int (lg_cmp x1 (-((9223372036854775807 : Int64) / s0)))]) (σ1 := (S0, m)) rfl ?_
        refine am_AW.brP ok_M_isTooFar rfl rfl am_c_ge (fun c7 => ?_) (fun c7 => ?_)
        · rw [if_pos c7] at h
          refine am_AW.run am_base_ok ok_M_isTooFar (Nat.le_add_left 1 d) 1 (pc1 := 101) (ls1 := [some (.int x0), some (.long x1), none, some (.long s0), none, some (.long ((9223372036854775807 : Int64) / s0)), none, some (.long ((-9223372036854775808 : Int64) / s0)), none]) (st1 := [.int (0 : Int32)]) (σ1 := (S0, m)) rfl ?_
          obtain ⟨rfl, rfl⟩ := Prod.mk.inj (Option.some.inj h)
          exact am_AW.ret ok_M_isTooFar rfl rfl rfl (by decide)
        · rw [if_neg c7] at h
          refine am_AW.run am_base_ok ok_M_isTooFar (Nat.le_add_left 1 d) 2 (pc1 := 101) (ls1 := [some (.int x0), some (.long x1), none, some (.long s0), none, some (.long ((9223372036854775807 : Int64) / s0)), none, some (.long ((-9223372036854775808 : Int64) / s0)), none]) (st1 := [.int (1 : Int32)]) (σ1 := (S0, m)) rfl ?_
          obtain ⟨rfl, rfl⟩ := Prod.mk.inj (Option.some.inj h)
          exact am_AW.ret ok_M_isTooFar rfl rfl rfl (by decide)
    · rw [if_neg c5] at h
      refine am_AW.run am_base_ok ok_M_isTooFar (Nat.le_add_left 1 d) 3 (pc1 := 62) (ls1 := [some (.int x0), some (.long x1), none, some (.long s0), none, some (.long ((9223372036854775807 : Int64) / s0)), none, some (.long ((-9223372036854775808 : Int64) / s0)), none]) (st1 := [.int (lg_cmp x1 ((9223372036854775807 : Int64) / s0))]) (σ1 := (S0, m)) rfl ?_
      refine am_AW.brP ok_M_isTooFar rfl rfl am_c_gt (fun c8 => ?_) (fun c8 => ?_)
      · rw [if_pos c8] at h
        refine am_AW.run am_base_ok ok_M_isTooFar (Nat.le_add_left 1 d) 2 (pc1 := 101) (ls1 := [some (.int x0), some (.long x1), none, some (.long s0), none, some (.long ((9223372036854775807 : Int64) / s0)), none, some (.long ((-9223372036854775808 : Int64) / s0)), none]) (st1 := [.int (1 : Int32)]) (σ1 := (S0, m)) rfl ?_
        obtain ⟨rfl, rfl⟩ := Prod.mk.inj (Option.some.inj h)
        exact am_AW.ret ok_M_isTooFar rfl rfl rfl (by decide)
      · rw [if_neg c8] at h
        refine am_AW.run am_base_ok ok_M_isTooFar (Nat.le_add_left 1 d) 3 (pc1 := 69) (ls1 := [some (.int x0), some (.long x1), none, some (.long s0), none, some (.long ((9223372036854775807 : Int64) / s0)), none, some (.long ((-9223372036854775808 : Int64) / s0)), none]) (st1 := [.int (lg_cmp x1 ((-9223372036854775808 : Int64) / s0))]) (σ1 := (S0, m)) rfl ?_
        refine am_AW.brP ok_M_isTooFar rfl rfl am_c_ge (fun c9 => ?_) (fun c9 => ?_)
        · rw [if_pos c9] at h
          refine am_AW.run am_base_ok ok_M_isTooFar (Nat.le_add_left 1 d) 2 (pc1 := 101) (ls1 := [some (.int x0), some (.long x1), none, some (.long s0), none, some (.long ((9223372036854775807 : Int64) / s0)), none, some (.long ((-9223372036854775808 : Int64) / s0)), none]) (st1 := [.int (0 : Int32)]) (σ1 := (S0, m)) rfl ?_
          obtain ⟨rfl, rfl⟩ := Prod.mk.inj (Option.some.inj h)
          exact am_AW.ret ok_M_isTooFar rfl rfl rfl (by decide)
        · rw [if_neg c9] at h
          refine am_AW.run am_base_ok ok_M_isTooFar (Nat.le_add_left 1 d) 2 (pc1 := 101) (ls1 := [some (.int x0), some (.long x1), none, some (.long s0), none, some (.long ((9223372036854775807 : Int64) / s0)), none, some (.long ((-9223372036854775808 : Int64) / s0)), none]) (st1 := [.int (1 : Int32)]) (σ1 := (S0, m)) rfl ?_
          obtain ⟨rfl, rfl⟩ := Prod.mk.inj (Option.some.inj h)
          exact am_AW.ret ok_M_isTooFar rfl rfl rfl (by decide)
  · rw [if_neg c2] at h
    refine am_AW.run am_base_ok ok_M_isTooFar (Nat.le_add_left 1 d) 2 (pc1 := 23) (ls1 := [some (.int x0), some (.long x1), none, some (.long s0), none, none, none, none, none]) (st1 := [.int (-1 : Int32), .int x0]) (σ1 := (S0, m)) rfl ?_
    refine am_AW.brN ok_M_isTooFar rfl rfl am_c_ne (fun c10 => ?_) (fun c10 => ?_)
    · rw [if_pos c10] at h
      refine am_AW.run am_base_ok ok_M_isTooFar (Nat.le_add_left 1 d) 3 (pc1 := 31) (ls1 := [some (.int x0), some (.long x1), none, some (.long s0), none, none, none, none, none]) (st1 := [.int (lg_cmp x1 (-9223372036854775808 : Int64))]) (σ1 := (S0, m)) rfl ?_
      refine am_AW.brN ok_M_isTooFar rfl rfl am_c_ne (fun c11 => ?_) (fun c11 => ?_)
      · rw [if_pos c11] at h
        refine am_AW.run am_base_ok ok_M_isTooFar (Nat.le_add_left 1 d) 2 (pc1 := 39) (ls1 := [some (.int x0), some (.long x1), none, some (.long s0), none, none, none, none, none]) (st1 := [.int (1 : Int32)]) (σ1 := (S0, m)) rfl ?_
        obtain ⟨rfl, rfl⟩ := Prod.mk.inj (Option.some.inj h)
        exact am_AW.ret ok_M_isTooFar rfl rfl rfl (by decide)
      · rw [if_neg c11] at h
        refine am_AW.run am_base_ok ok_M_isTooFar (Nat.le_add_left 1 d) 1 (pc1 := 39) (ls1 := [some (.int x0), some (.long x1), none, some (.long s0), none, none, none, none, none]) (st1 := [.int (0 : Int32)]) (σ1 := (S0, m)) rfl ?_
        obtain ⟨rfl, rfl⟩ := Prod.mk.inj (Option.some.inj h)
        exact am_AW.ret ok_M_isTooFar rfl rfl rfl (by decide)
    · rw [if_neg c10] at h
      refine am_AW.run am_base_ok ok_M_isTooFar (Nat.le_add_left 1 d) 1 (pc1 := 39) (ls1 := [some (.int x0), some (.long x1), none, some (.long s0), none, none, none, none, none]) (st1 := [.int (0 : Int32)]) (σ1 := (S0, m)) rfl ?_
      obtain ⟨rfl, rfl⟩ := Prod.mk.inj (Option.some.inj h)
      exact am_AW.ret ok_M_isTooFar rfl rfl rfl (by decide)
set_option maxHeartbeats 4000000 in
set_option maxRecDepth 100000 in
theorem f_M_isTooFar_ok {ro : am_Ro} {d : Nat} (hd : 1 ≤ d) (x0 : Int32) (x1 : Int64) {m m' : am_Mm} {r : Int32} (h : f_M_isTooFar x0 x1 m = some (r, m')) : am_Mt am_nw ro d mr_M_isTooFar [.int x0, .long x1] (S0, m) (some (.int r)) (S0, m') := by
  obtain ⟨d, rfl⟩ : ∃ d0, d = d0 + 1 := ⟨d - 1, by omega⟩
  refine am_Mt.of (by decide +kernel) (Nat.le_of_ble_eq_true rfl) ?_
  change am_AW am_nw ro (d + 1) mr_M_isTooFar 0 [some (.int x0), some (.long x1), none, none, none, none, none, none, none] [] (S0, m) (some (.int r)) (S0, m')
  unfold f_M_isTooFar at h
  refine am_AW.run am_base_ok ok_M_isTooFar (Nat.le_add_left 1 d) 1 (pc1 := 1) (ls1 := [some (.int x0), some (.long x1), none, none, none, none, none, none, none]) (st1 := [.int x0]) (σ1 := (S0, m)) rfl ?_
  refine am_AW.brP ok_M_isTooFar rfl rfl am_c_ge (fun c1 => ?_) (fun c1 => ?_)
  · rw [if_pos c1] at h
    refine am_AW.run am_base_ok ok_M_isTooFar (Nat.le_add_left 1 d) 2 (pc1 := 12) (ls1 := [some (.int x0), some (.long x1), none, none, none, none, none, none, none]) (st1 := [.long (x0.toInt64)]) (σ1 := (S0, m)) rfl ?_
    exact am_AW.weak (f_M_isTooFar_b12_ok hd x0 x1 (x0.toInt64)  h) (by simp only [am_le, and_self])
  · rw [if_neg c1] at h
    refine am_AW.run am_base_ok ok_M_isTooFar (Nat.le_add_left 1 d) 4 (pc1 := 12) (ls1 := [some (.int x0), some (.long x1), none, none, none, none, none, none, none]) (st1 := [.long (-(x0.toInt64))]) (σ1 := (S0, m)) rfl ?_
    exact am_AW.weak (f_M_isTooFar_b12_ok hd x0 x1 (-(x0.toInt64))  h) (by simp only [am_le, and_self])
/-! FriezePolygonsModel.waysOf(I)I -/
def f_M_waysOf (x0 : Int32) (m : am_Mm) : Option (Int32 × am_Mm) :=
  if x0 = (4 : Int32) then
    some ((2 : Int32), m)
  else
    if x0 = (5 : Int32) then
      some ((5 : Int32), m)
    else
      if x0 = (6 : Int32) then
        some ((14 : Int32), m)
      else
        if x0 = (7 : Int32) then
          some ((42 : Int32), m)
        else
          if x0 = (8 : Int32) then
            some ((132 : Int32), m)
          else
            if x0 = (9 : Int32) then
              some ((429 : Int32), m)
            else
              some ((1 : Int32), m)
set_option maxHeartbeats 4000000 in
set_option maxRecDepth 100000 in
theorem f_M_waysOf_ok {ro : am_Ro} {d : Nat} (hd : 1 ≤ d) (x0 : Int32) {m m' : am_Mm} {r : Int32} (h : f_M_waysOf x0 m = some (r, m')) : am_Mt am_nw ro d mr_M_waysOf [.int x0] (S0, m) (some (.int r)) (S0, m') := by
  obtain ⟨d, rfl⟩ : ∃ d0, d = d0 + 1 := ⟨d - 1, by omega⟩
  refine am_Mt.of (by decide +kernel) (Nat.le_of_ble_eq_true rfl) ?_
  change am_AW am_nw ro (d + 1) mr_M_waysOf 0 [some (.int x0)] [] (S0, m) (some (.int r)) (S0, m')
  unfold f_M_waysOf at h
  refine am_AW.run am_base_ok ok_M_waysOf (Nat.le_add_left 1 d) 1 (pc1 := 1) (ls1 := [some (.int x0)]) (st1 := [.int x0]) (σ1 := (S0, m)) rfl ?_
  by_cases c1 : x0 = (4 : Int32)
  · rw [if_pos c1] at h
    refine am_AW.sw ok_M_waysOf rfl (t := 40) (by rw [c1]; decide +kernel) ?_
    refine am_AW.run am_base_ok ok_M_waysOf (Nat.le_add_left 1 d) 1 (pc1 := 41) (ls1 := [some (.int x0)]) (st1 := [.int (2 : Int32)]) (σ1 := (S0, m)) rfl ?_
    obtain ⟨rfl, rfl⟩ := Prod.mk.inj (Option.some.inj h)
    exact am_AW.ret ok_M_waysOf rfl rfl rfl rfl
  rw [if_neg c1] at h
  by_cases c2 : x0 = (5 : Int32)
  · rw [if_pos c2] at h
    refine am_AW.sw ok_M_waysOf rfl (t := 42) (by rw [c2]; decide +kernel) ?_
    refine am_AW.run am_base_ok ok_M_waysOf (Nat.le_add_left 1 d) 1 (pc1 := 43) (ls1 := [some (.int x0)]) (st1 := [.int (5 : Int32)]) (σ1 := (S0, m)) rfl ?_
    obtain ⟨rfl, rfl⟩ := Prod.mk.inj (Option.some.inj h)
    exact am_AW.ret ok_M_waysOf rfl rfl rfl rfl
  rw [if_neg c2] at h
  by_cases c3 : x0 = (6 : Int32)
  · rw [if_pos c3] at h
    refine am_AW.sw ok_M_waysOf rfl (t := 44) (by rw [c3]; decide +kernel) ?_
    refine am_AW.run am_base_ok ok_M_waysOf (Nat.le_add_left 1 d) 1 (pc1 := 46) (ls1 := [some (.int x0)]) (st1 := [.int (14 : Int32)]) (σ1 := (S0, m)) rfl ?_
    obtain ⟨rfl, rfl⟩ := Prod.mk.inj (Option.some.inj h)
    exact am_AW.ret ok_M_waysOf rfl rfl rfl rfl
  rw [if_neg c3] at h
  by_cases c4 : x0 = (7 : Int32)
  · rw [if_pos c4] at h
    refine am_AW.sw ok_M_waysOf rfl (t := 47) (by rw [c4]; decide +kernel) ?_
    refine am_AW.run am_base_ok ok_M_waysOf (Nat.le_add_left 1 d) 1 (pc1 := 49) (ls1 := [some (.int x0)]) (st1 := [.int (42 : Int32)]) (σ1 := (S0, m)) rfl ?_
    obtain ⟨rfl, rfl⟩ := Prod.mk.inj (Option.some.inj h)
    exact am_AW.ret ok_M_waysOf rfl rfl rfl rfl
  rw [if_neg c4] at h
  by_cases c5 : x0 = (8 : Int32)
  · rw [if_pos c5] at h
    refine am_AW.sw ok_M_waysOf rfl (t := 50) (by rw [c5]; decide +kernel) ?_
    refine am_AW.run am_base_ok ok_M_waysOf (Nat.le_add_left 1 d) 1 (pc1 := 53) (ls1 := [some (.int x0)]) (st1 := [.int (132 : Int32)]) (σ1 := (S0, m)) rfl ?_
    obtain ⟨rfl, rfl⟩ := Prod.mk.inj (Option.some.inj h)
    exact am_AW.ret ok_M_waysOf rfl rfl rfl rfl
  rw [if_neg c5] at h
  by_cases c6 : x0 = (9 : Int32)
  · rw [if_pos c6] at h
    refine am_AW.sw ok_M_waysOf rfl (t := 54) (by rw [c6]; decide +kernel) ?_
    refine am_AW.run am_base_ok ok_M_waysOf (Nat.le_add_left 1 d) 1 (pc1 := 57) (ls1 := [some (.int x0)]) (st1 := [.int (429 : Int32)]) (σ1 := (S0, m)) rfl ?_
    obtain ⟨rfl, rfl⟩ := Prod.mk.inj (Option.some.inj h)
    exact am_AW.ret ok_M_waysOf rfl rfl rfl rfl
  rw [if_neg c6] at h
  have o7 : (x0).toInt < 4 ∨ 9 < (x0).toInt := by
    have := lv_neT c1 (a := 4) (by decide)
    have := lv_neT c2 (a := 5) (by decide)
    have := lv_neT c3 (a := 6) (by decide)
    have := lv_neT c4 (a := 7) (by decide)
    have := lv_neT c5 (a := 8) (by decide)
    have := lv_neT c6 (a := 9) (by decide)
    omega
  refine am_AW.sw ok_M_waysOf rfl (t := 58) (by simp only [am_sw, if_pos o7]; decide +kernel) ?_
  refine am_AW.run am_base_ok ok_M_waysOf (Nat.le_add_left 1 d) 1 (pc1 := 59) (ls1 := [some (.int x0)]) (st1 := [.int (1 : Int32)]) (σ1 := (S0, m)) rfl ?_
  obtain ⟨rfl, rfl⟩ := Prod.mk.inj (Option.some.inj h)
  exact am_AW.ret ok_M_waysOf rfl rfl rfl rfl
/-! FriezePolygonsModel.isKnown(III)Z -/
def f_M_isKnown_b33 (k6 : Int32 → Int32 → Int32 → Int32 → am_Mm → Option (Int32 × am_Mm)) (x1 : Int32) (x3 : Int32) (x5 : Int32) (s0 : Int32) (m : am_Mm) : Option (Int32 × am_Mm) :=
  k6 x1 x3 s0 (x5 + (1 : Int32)) m
def f_M_isKnown_b6 : Nat → Int32 → Int32 → Int32 → Int32 → am_Mm → Option (Int32 × am_Mm)
  | 0, _, _, _, _, _ => none
  | n + 1, x1, x3, x4, x5, m =>
    if x3 ≤ x5 then
      if x4 = (0 : Int32) ∨ x4 = (1 : Int32) then
        some (x4, m)
      else none
    else
      if x4 = (0 : Int32) then
        if am_in x5 429 = true then
          if (m.1 74 x5.toNatClampNeg) = x1 then
            f_M_isKnown_b33 (f_M_isKnown_b6 n) x1 x3 x5 (1 : Int32) m
          else
            f_M_isKnown_b33 (f_M_isKnown_b6 n) x1 x3 x5 (0 : Int32) m
        else none
      else
        f_M_isKnown_b33 (f_M_isKnown_b6 n) x1 x3 x5 (1 : Int32) m
def f_M_isKnown (x1 : Int32) (x2 : Int32) (x3 : Int32) (m : am_Mm) : Option (Int32 × am_Mm) :=
  f_M_isKnown_b6 am_F x1 x3 (0 : Int32) x2 m
set_option maxHeartbeats 4000000 in
set_option maxRecDepth 100000 in
theorem f_M_isKnown_b33_ok {ro : am_Ro} {d : Nat} (hd : 1 ≤ d + 1) {k6 : Int32 → Int32 → Int32 → Int32 → am_Mm → Option (Int32 × am_Mm)} (hk6 : ∀ (x1 : Int32) (x3 : Int32) (x4 : Int32) (x5 : Int32) (m m' : am_Mm) (r : Int32), k6 x1 x3 x4 x5 m = some (r, m') → am_AW am_nw ro (d + 1) mr_M_isKnown 6 [some (.ref 63), some (.int x1), none, some (.int x3), some (.int x4), some (.int x5)] [] (S0, m) (some (.int r)) (S0, m')) (x1 : Int32) (x3 : Int32) (x5 : Int32) (s0 : Int32) {m m' : am_Mm} {r : Int32} (h : f_M_isKnown_b33 k6 x1 x3 x5 s0 m = some (r, m')) : am_AW am_nw ro (d + 1) mr_M_isKnown 33 [some (.ref 63), some (.int x1), none, some (.int x3), none, some (.int x5)] [.int s0] (S0, m) (some (.int r)) (S0, m') := by
  unfold f_M_isKnown_b33 at h
  refine am_AW.run am_base_ok ok_M_isKnown (Nat.le_add_left 1 d) 3 (pc1 := 6) (ls1 := [some (.ref 63), some (.int x1), none, some (.int x3), some (.int s0), some (.int (x5 + (1 : Int32)))]) (st1 := []) (σ1 := (S0, m)) rfl ?_
  exact am_AW.weak (hk6 x1 x3 s0 (x5 + (1 : Int32))  _ _ _ h) (by simp only [am_le, and_self])
set_option maxHeartbeats 4000000 in
set_option maxRecDepth 100000 in
theorem f_M_isKnown_b6_all {ro : am_Ro} {d : Nat} (hd : 1 ≤ d + 1) : ∀ (n : Nat) (x1 : Int32) (x3 : Int32) (x4 : Int32) (x5 : Int32) (m m' : am_Mm) (r : Int32), f_M_isKnown_b6 n x1 x3 x4 x5 m = some (r, m') → am_AW am_nw ro (d + 1) mr_M_isKnown 6 [some (.ref 63), some (.int x1), none, some (.int x3), some (.int x4), some (.int x5)] [] (S0, m) (some (.int r)) (S0, m') := by
  intro n
  induction n with
  | zero =>
    intro x1 x3 x4 x5 m m' r h
    rw [f_M_isKnown_b6] at h
    cases h
  | succ n ih =>
    intro x1 x3 x4 x5 m m' r h
    rw [f_M_isKnown_b6] at h
    refine am_AW.run am_base_ok ok_M_isKnown (Nat.le_add_left 1 d) 2 (pc1 := 9) (ls1 := [some (.ref 63), some (.int x1), none, some (.int x3), some (.int x4), some (.int x5)]) (st1 := [.int x3, .int x5]) (σ1 := (S0, m)) rfl ?_
    refine am_AW.brP ok_M_isKnown rfl rfl am_c_ge (fun c1 => ?_) (fun c1 => ?_)
    · rw [if_pos c1] at h
      refine am_AW.run am_base_ok ok_M_isKnown (Nat.le_add_left 1 d) 1 (pc1 := 43) (ls1 := [some (.ref 63), some (.int x1), none, some (.int x3), some (.int x4), some (.int x5)]) (st1 := [.int x4]) (σ1 := (S0, m)) rfl ?_
      by_cases g2 : x4 = (0 : Int32) ∨ x4 = (1 : Int32)
      rotate_left
      · rw [if_neg g2] at h
        cases h
      rw [if_pos g2] at h
      obtain ⟨rfl, rfl⟩ := Prod.mk.inj (Option.some.inj h)
      exact am_AW.ret ok_M_isKnown rfl rfl rfl (am_rokZ g2)
    · rw [if_neg c1] at h
      refine am_AW.run am_base_ok ok_M_isKnown (Nat.le_add_left 1 d) 1 (pc1 := 14) (ls1 := [some (.ref 63), some (.int x1), none, some (.int x3), some (.int x4), some (.int x5)]) (st1 := [.int x4]) (σ1 := (S0, m)) rfl ?_
      refine am_AW.brN ok_M_isKnown rfl rfl am_c_ne (fun c3 => ?_) (fun c3 => ?_)
      · rw [if_pos c3] at h
        refine am_AW.run am_base_ok ok_M_isKnown (Nat.le_add_left 1 d) 3 (pc1 := 23) (ls1 := [some (.ref 63), some (.int x1), none, some (.int x3), some (.int x4), some (.int x5)]) (st1 := [.int x5, .ref 74]) (σ1 := (S0, m)) rfl ?_
        by_cases g4 : am_in x5 429 = true
        rotate_left
        · rw [if_neg g4] at h
          cases h
        rw [if_pos g4] at h
        refine am_AW.iald ok_M_isKnown (Nat.le_add_left 1 d) S0_len rfl rfl g4 ?_
        refine am_AW.run am_base_ok ok_M_isKnown (Nat.le_add_left 1 d) 1 (pc1 := 25) (ls1 := [some (.ref 63), some (.int x1), none, some (.int x3), some (.int x4), some (.int x5)]) (st1 := [.int x1, .int (m.1 74 x5.toNatClampNeg)]) (σ1 := (S0, m)) rfl ?_
        refine am_AW.brN ok_M_isKnown rfl rfl am_c_ne (fun c5 => ?_) (fun c5 => ?_)
        · rw [if_pos c5] at h
          refine am_AW.run am_base_ok ok_M_isKnown (Nat.le_add_left 1 d) 2 (pc1 := 33) (ls1 := [some (.ref 63), some (.int x1), none, some (.int x3), some (.int x4), some (.int x5)]) (st1 := [.int (1 : Int32)]) (σ1 := (S0, m)) rfl ?_
          exact am_AW.weak (f_M_isKnown_b33_ok hd (ih) x1 x3 x5 (1 : Int32)  h) (by simp only [am_le, and_self])
        · rw [if_neg c5] at h
          refine am_AW.run am_base_ok ok_M_isKnown (Nat.le_add_left 1 d) 1 (pc1 := 33) (ls1 := [some (.ref 63), some (.int x1), none, some (.int x3), some (.int x4), some (.int x5)]) (st1 := [.int (0 : Int32)]) (σ1 := (S0, m)) rfl ?_
          exact am_AW.weak (f_M_isKnown_b33_ok hd (ih) x1 x3 x5 (0 : Int32)  h) (by simp only [am_le, and_self])
      · rw [if_neg c3] at h
        refine am_AW.run am_base_ok ok_M_isKnown (Nat.le_add_left 1 d) 2 (pc1 := 33) (ls1 := [some (.ref 63), some (.int x1), none, some (.int x3), some (.int x4), some (.int x5)]) (st1 := [.int (1 : Int32)]) (σ1 := (S0, m)) rfl ?_
        exact am_AW.weak (f_M_isKnown_b33_ok hd (ih) x1 x3 x5 (1 : Int32)  h) (by simp only [am_le, and_self])
set_option maxHeartbeats 4000000 in
set_option maxRecDepth 100000 in
theorem f_M_isKnown_b6_ok {ro : am_Ro} {d : Nat} (hd : 1 ≤ d + 1) (x1 : Int32) (x3 : Int32) (x4 : Int32) (x5 : Int32) {m m' : am_Mm} {r : Int32} {n : Nat} (h : f_M_isKnown_b6 n x1 x3 x4 x5 m = some (r, m')) : am_AW am_nw ro (d + 1) mr_M_isKnown 6 [some (.ref 63), some (.int x1), none, some (.int x3), some (.int x4), some (.int x5)] [] (S0, m) (some (.int r)) (S0, m') :=
  f_M_isKnown_b6_all hd n x1 x3 x4 x5  m m' r h
set_option maxHeartbeats 4000000 in
set_option maxRecDepth 100000 in
theorem f_M_isKnown_ok {ro : am_Ro} {d : Nat} (hd : 1 ≤ d) (x1 : Int32) (x2 : Int32) (x3 : Int32) {m m' : am_Mm} {r : Int32} (h : f_M_isKnown x1 x2 x3 m = some (r, m')) : am_Mt am_nw ro d mr_M_isKnown [.ref 63, .int x1, .int x2, .int x3] (S0, m) (some (.int r)) (S0, m') := by
  obtain ⟨d, rfl⟩ : ∃ d0, d = d0 + 1 := ⟨d - 1, by omega⟩
  refine am_Mt.of (by decide +kernel) (Nat.le_of_ble_eq_true rfl) ?_
  change am_AW am_nw ro (d + 1) mr_M_isKnown 0 [some (.ref 63), some (.int x1), some (.int x2), some (.int x3), none, none] [] (S0, m) (some (.int r)) (S0, m')
  unfold f_M_isKnown at h
  refine am_AW.run am_base_ok ok_M_isKnown (Nat.le_add_left 1 d) 4 (pc1 := 6) (ls1 := [some (.ref 63), some (.int x1), some (.int x2), some (.int x3), some (.int (0 : Int32)), some (.int x2)]) (st1 := []) (σ1 := (S0, m)) rfl ?_
  exact am_AW.weak (f_M_isKnown_b6_ok hd x1 x3 (0 : Int32) x2  h) (by simp only [am_le, and_self])
/-! FriezePolygonsModel.isOf(II)Z -/
def f_M_isOf_b19 (x0 : Int32) (x1 : Int32) (m : am_Mm) : Option (Int32 × am_Mm) :=
  if x1 = (4 : Int32) then
    if x0 = (5 : Int32) then
      some ((1 : Int32), m)
    else
      some ((0 : Int32), m)
  else
    some ((0 : Int32), m)
def f_M_isOf (x0 : Int32) (x1 : Int32) (m : am_Mm) : Option (Int32 × am_Mm) :=
  if x1 = (0 : Int32) then
    some ((1 : Int32), m)
  else
    if x0 = x1 then
      some ((1 : Int32), m)
    else
      if x1 = (1 : Int32) then
        if x0 < (4 : Int32) then
          some ((1 : Int32), m)
        else
          f_M_isOf_b19 x0 x1 m
      else
        f_M_isOf_b19 x0 x1 m
set_option maxHeartbeats 4000000 in
set_option maxRecDepth 100000 in
theorem f_M_isOf_b19_ok {ro : am_Ro} {d : Nat} (hd : 1 ≤ d + 1) (x0 : Int32) (x1 : Int32) {m m' : am_Mm} {r : Int32} (h : f_M_isOf_b19 x0 x1 m = some (r, m')) : am_AW am_nw ro (d + 1) mr_M_isOf 19 [some (.int x0), some (.int x1)] [] (S0, m) (some (.int r)) (S0, m') := by
  unfold f_M_isOf_b19 at h
  refine am_AW.run am_base_ok ok_M_isOf (Nat.le_add_left 1 d) 2 (pc1 := 21) (ls1 := [some (.int x0), some (.int x1)]) (st1 := [.int (4 : Int32), .int x1]) (σ1 := (S0, m)) rfl ?_
  refine am_AW.brN ok_M_isOf rfl rfl am_c_ne (fun c5 => ?_) (fun c5 => ?_)
  · rw [if_pos c5] at h
    refine am_AW.run am_base_ok ok_M_isOf (Nat.le_add_left 1 d) 2 (pc1 := 26) (ls1 := [some (.int x0), some (.int x1)]) (st1 := [.int (5 : Int32), .int x0]) (σ1 := (S0, m)) rfl ?_
    refine am_AW.brN ok_M_isOf rfl rfl am_c_ne (fun c6 => ?_) (fun c6 => ?_)
    · rw [if_pos c6] at h
      refine am_AW.run am_base_ok ok_M_isOf (Nat.le_add_left 1 d) 2 (pc1 := 34) (ls1 := [some (.int x0), some (.int x1)]) (st1 := [.int (1 : Int32)]) (σ1 := (S0, m)) rfl ?_
      obtain ⟨rfl, rfl⟩ := Prod.mk.inj (Option.some.inj h)
      exact am_AW.ret ok_M_isOf rfl rfl rfl (by decide)
    · rw [if_neg c6] at h
      refine am_AW.run am_base_ok ok_M_isOf (Nat.le_add_left 1 d) 1 (pc1 := 34) (ls1 := [some (.int x0), some (.int x1)]) (st1 := [.int (0 : Int32)]) (σ1 := (S0, m)) rfl ?_
      obtain ⟨rfl, rfl⟩ := Prod.mk.inj (Option.some.inj h)
      exact am_AW.ret ok_M_isOf rfl rfl rfl (by decide)
  · rw [if_neg c5] at h
    refine am_AW.run am_base_ok ok_M_isOf (Nat.le_add_left 1 d) 1 (pc1 := 34) (ls1 := [some (.int x0), some (.int x1)]) (st1 := [.int (0 : Int32)]) (σ1 := (S0, m)) rfl ?_
    obtain ⟨rfl, rfl⟩ := Prod.mk.inj (Option.some.inj h)
    exact am_AW.ret ok_M_isOf rfl rfl rfl (by decide)
set_option maxHeartbeats 4000000 in
set_option maxRecDepth 100000 in
theorem f_M_isOf_ok {ro : am_Ro} {d : Nat} (hd : 1 ≤ d) (x0 : Int32) (x1 : Int32) {m m' : am_Mm} {r : Int32} (h : f_M_isOf x0 x1 m = some (r, m')) : am_Mt am_nw ro d mr_M_isOf [.int x0, .int x1] (S0, m) (some (.int r)) (S0, m') := by
  obtain ⟨d, rfl⟩ : ∃ d0, d = d0 + 1 := ⟨d - 1, by omega⟩
  refine am_Mt.of (by decide +kernel) (Nat.le_of_ble_eq_true rfl) ?_
  change am_AW am_nw ro (d + 1) mr_M_isOf 0 [some (.int x0), some (.int x1)] [] (S0, m) (some (.int r)) (S0, m')
  unfold f_M_isOf at h
  refine am_AW.run am_base_ok ok_M_isOf (Nat.le_add_left 1 d) 1 (pc1 := 1) (ls1 := [some (.int x0), some (.int x1)]) (st1 := [.int x1]) (σ1 := (S0, m)) rfl ?_
  refine am_AW.brP ok_M_isOf rfl rfl am_c_eq (fun c1 => ?_) (fun c1 => ?_)
  · rw [if_pos c1] at h
    refine am_AW.run am_base_ok ok_M_isOf (Nat.le_add_left 1 d) 2 (pc1 := 34) (ls1 := [some (.int x0), some (.int x1)]) (st1 := [.int (1 : Int32)]) (σ1 := (S0, m)) rfl ?_
    obtain ⟨rfl, rfl⟩ := Prod.mk.inj (Option.some.inj h)
    exact am_AW.ret ok_M_isOf rfl rfl rfl (by decide)
  · rw [if_neg c1] at h
    refine am_AW.run am_base_ok ok_M_isOf (Nat.le_add_left 1 d) 2 (pc1 := 6) (ls1 := [some (.int x0), some (.int x1)]) (st1 := [.int x1, .int x0]) (σ1 := (S0, m)) rfl ?_
    refine am_AW.brP ok_M_isOf rfl rfl am_c_eq (fun c2 => ?_) (fun c2 => ?_)
    · rw [if_pos c2] at h
      refine am_AW.run am_base_ok ok_M_isOf (Nat.le_add_left 1 d) 2 (pc1 := 34) (ls1 := [some (.int x0), some (.int x1)]) (st1 := [.int (1 : Int32)]) (σ1 := (S0, m)) rfl ?_
      obtain ⟨rfl, rfl⟩ := Prod.mk.inj (Option.some.inj h)
      exact am_AW.ret ok_M_isOf rfl rfl rfl (by decide)
    · rw [if_neg c2] at h
      refine am_AW.run am_base_ok ok_M_isOf (Nat.le_add_left 1 d) 2 (pc1 := 11) (ls1 := [some (.int x0), some (.int x1)]) (st1 := [.int (1 : Int32), .int x1]) (σ1 := (S0, m)) rfl ?_
      refine am_AW.brN ok_M_isOf rfl rfl am_c_ne (fun c3 => ?_) (fun c3 => ?_)
      · rw [if_pos c3] at h
        refine am_AW.run am_base_ok ok_M_isOf (Nat.le_add_left 1 d) 2 (pc1 := 16) (ls1 := [some (.int x0), some (.int x1)]) (st1 := [.int (4 : Int32), .int x0]) (σ1 := (S0, m)) rfl ?_
        refine am_AW.brP ok_M_isOf rfl rfl am_c_lt (fun c4 => ?_) (fun c4 => ?_)
        · rw [if_pos c4] at h
          refine am_AW.run am_base_ok ok_M_isOf (Nat.le_add_left 1 d) 2 (pc1 := 34) (ls1 := [some (.int x0), some (.int x1)]) (st1 := [.int (1 : Int32)]) (σ1 := (S0, m)) rfl ?_
          obtain ⟨rfl, rfl⟩ := Prod.mk.inj (Option.some.inj h)
          exact am_AW.ret ok_M_isOf rfl rfl rfl (by decide)
        · rw [if_neg c4] at h
          exact am_AW.weak (f_M_isOf_b19_ok hd x0 x1  h) (by simp only [am_le, and_self])
      · rw [if_neg c3] at h
        exact am_AW.weak (f_M_isOf_b19_ok hd x0 x1  h) (by simp only [am_le, and_self])
/-! FriezePolygonsModel.began(I)V -/
def f_M_began (x1 : Int32) (m : am_Mm) : Option am_Mm :=
  if (16 : Int32) ≤ (m.1 63 25) then
    some m
  else
    if am_in (m.1 63 25) 16 = true then
      some (am_pI (am_pI m 77 (m.1 63 25).toNatClampNeg x1) 63 25 (((am_pI m 77 (m.1 63 25).toNatClampNeg x1).1 63 25) + (1 : Int32)))
    else none
set_option maxHeartbeats 4000000 in
set_option maxRecDepth 100000 in
theorem f_M_began_ok {ro : am_Ro} {d : Nat} (hd : 1 ≤ d) (x1 : Int32) {m m' : am_Mm} (h : f_M_began x1 m = some m') : am_Mt am_nw ro d mr_M_began [.ref 63, .int x1] (S0, m) none (S0, m') := by
  obtain ⟨d, rfl⟩ : ∃ d0, d = d0 + 1 := ⟨d - 1, by omega⟩
  refine am_Mt.of (by decide +kernel) (Nat.le_of_ble_eq_true rfl) ?_
  change am_AW am_nw ro (d + 1) mr_M_began 0 [some (.ref 63), some (.int x1)] [] (S0, m) none (S0, m')
  unfold f_M_began at h
  refine am_AW.run am_base_ok ok_M_began (Nat.le_add_left 1 d) 3 (pc1 := 6) (ls1 := [some (.ref 63), some (.int x1)]) (st1 := [.int (16 : Int32), .int (m.1 63 25)]) (σ1 := (S0, m)) rfl ?_
  refine am_AW.brP ok_M_began rfl rfl am_c_ge (fun c1 => ?_) (fun c1 => ?_)
  · rw [if_pos c1] at h
    obtain rfl := Option.some.inj h
    exact am_AW.ret ok_M_began rfl rfl rfl rfl
  · rw [if_neg c1] at h
    refine am_AW.run am_base_ok ok_M_began (Nat.le_add_left 1 d) 5 (pc1 := 18) (ls1 := [some (.ref 63), some (.int x1)]) (st1 := [.int x1, .int (m.1 63 25), .ref 77]) (σ1 := (S0, m)) rfl ?_
    by_cases g2 : am_in (m.1 63 25) 16 = true
    rotate_left
    · rw [if_neg g2] at h
      cases h
    rw [if_pos g2] at h
    refine am_AW.iast ok_M_began (Nat.le_add_left 1 d) rfl rfl g2 ?_
    change am_AW am_nw ro (d + 1) mr_M_began 19 [some (.ref 63), some (.int x1)] [] (S0, (am_pI m 77 (m.1 63 25).toNatClampNeg x1)) none (S0, m')
    refine am_AW.run am_base_ok ok_M_began (Nat.le_add_left 1 d) 5 (pc1 := 26) (ls1 := [some (.ref 63), some (.int x1)]) (st1 := [.int (((am_pI m 77 (m.1 63 25).toNatClampNeg x1).1 63 25) + (1 : Int32)), .ref 63]) (σ1 := (S0, (am_pI m 77 (m.1 63 25).toNatClampNeg x1))) rfl ?_
    refine am_AW.puti ok_M_began (Nat.le_add_left 1 d) rfl rfl rfl (qc := kq10) rfl (by decide) ty_10_25 ?_
    obtain rfl := Option.some.inj h
    exact am_AW.ret ok_M_began rfl rfl rfl rfl
/-! FriezePolygonsModel.status()I -/
def f_M_status (m : am_Mm) : Option (Int32 × am_Mm) :=
  some ((m.1 63 0), m)
set_option maxHeartbeats 4000000 in
set_option maxRecDepth 100000 in
theorem f_M_status_ok {ro : am_Ro} {d : Nat} (hd : 1 ≤ d) {m m' : am_Mm} {r : Int32} (h : f_M_status  m = some (r, m')) : am_Mt am_nw ro d mr_M_status [.ref 63] (S0, m) (some (.int r)) (S0, m') := by
  obtain ⟨d, rfl⟩ : ∃ d0, d = d0 + 1 := ⟨d - 1, by omega⟩
  refine am_Mt.of (by decide +kernel) (Nat.le_of_ble_eq_true rfl) ?_
  change am_AW am_nw ro (d + 1) mr_M_status 0 [some (.ref 63)] [] (S0, m) (some (.int r)) (S0, m')
  unfold f_M_status at h
  refine am_AW.run am_base_ok ok_M_status (Nat.le_add_left 1 d) 2 (pc1 := 4) (ls1 := [some (.ref 63)]) (st1 := [.int (m.1 63 0)]) (σ1 := (S0, m)) rfl ?_
  obtain ⟨rfl, rfl⟩ := Prod.mk.inj (Option.some.inj h)
  exact am_AW.ret ok_M_status rfl rfl rfl rfl
/-! java/lang/Integer.bitCount(I)I -/
def f_Integer_bitCount_b48 (x0 : Int32) (m : am_Mm) : Option (Int32 × am_Mm) :=
  some ((x0 &&& (63 : Int32)), m)
def f_Integer_bitCount_b41 (x0 : Int32) (m : am_Mm) : Option (Int32 × am_Mm) :=
  f_Integer_bitCount_b48 (x0 + (am_ushr x0 (16 : Int32))) m
def f_Integer_bitCount_b34 (x0 : Int32) (m : am_Mm) : Option (Int32 × am_Mm) :=
  f_Integer_bitCount_b41 (x0 + (am_ushr x0 (8 : Int32))) m
def f_Integer_bitCount_b24 (x0 : Int32) (m : am_Mm) : Option (Int32 × am_Mm) :=
  f_Integer_bitCount_b34 ((x0 + (am_ushr x0 (4 : Int32))) &&& (252645135 : Int32)) m
def f_Integer_bitCount_b10 (x0 : Int32) (m : am_Mm) : Option (Int32 × am_Mm) :=
  f_Integer_bitCount_b24 ((x0 &&& (858993459 : Int32)) + ((am_ushr x0 (2 : Int32)) &&& (858993459 : Int32))) m
def f_Integer_bitCount (x0 : Int32) (m : am_Mm) : Option (Int32 × am_Mm) :=
  f_Integer_bitCount_b10 (x0 - ((am_ushr x0 (1 : Int32)) &&& (1431655765 : Int32))) m
set_option maxHeartbeats 4000000 in
set_option maxRecDepth 100000 in
theorem f_Integer_bitCount_b48_ok {ro : am_Ro} {d : Nat} (hd : 1 ≤ d + 1) (x0 : Int32) {m m' : am_Mm} {r : Int32} (h : f_Integer_bitCount_b48 x0 m = some (r, m')) : am_AW am_nw ro (d + 1) mr_Integer_bitCount 48 [some (.int x0)] [] (S0, m) (some (.int r)) (S0, m') := by
  unfold f_Integer_bitCount_b48 at h
  refine am_AW.run am_base_ok ok_Integer_bitCount (Nat.le_add_left 1 d) 3 (pc1 := 52) (ls1 := [some (.int x0)]) (st1 := [.int (x0 &&& (63 : Int32))]) (σ1 := (S0, m)) rfl ?_
  obtain ⟨rfl, rfl⟩ := Prod.mk.inj (Option.some.inj h)
  exact am_AW.ret ok_Integer_bitCount rfl rfl rfl rfl
set_option maxHeartbeats 4000000 in
set_option maxRecDepth 100000 in
theorem f_Integer_bitCount_b41_ok {ro : am_Ro} {d : Nat} (hd : 1 ≤ d + 1) (x0 : Int32) {m m' : am_Mm} {r : Int32} (h : f_Integer_bitCount_b41 x0 m = some (r, m')) : am_AW am_nw ro (d + 1) mr_Integer_bitCount 41 [some (.int x0)] [] (S0, m) (some (.int r)) (S0, m') := by
  unfold f_Integer_bitCount_b41 at h
  refine am_AW.run am_base_ok ok_Integer_bitCount (Nat.le_add_left 1 d) 6 (pc1 := 48) (ls1 := [some (.int (x0 + (am_ushr x0 (16 : Int32))))]) (st1 := []) (σ1 := (S0, m)) rfl ?_
  exact am_AW.weak (f_Integer_bitCount_b48_ok hd (x0 + (am_ushr x0 (16 : Int32)))  h) (by simp only [am_le, and_self])
set_option maxHeartbeats 4000000 in
set_option maxRecDepth 100000 in
theorem f_Integer_bitCount_b34_ok {ro : am_Ro} {d : Nat} (hd : 1 ≤ d + 1) (x0 : Int32) {m m' : am_Mm} {r : Int32} (h : f_Integer_bitCount_b34 x0 m = some (r, m')) : am_AW am_nw ro (d + 1) mr_Integer_bitCount 34 [some (.int x0)] [] (S0, m) (some (.int r)) (S0, m') := by
  unfold f_Integer_bitCount_b34 at h
  refine am_AW.run am_base_ok ok_Integer_bitCount (Nat.le_add_left 1 d) 6 (pc1 := 41) (ls1 := [some (.int (x0 + (am_ushr x0 (8 : Int32))))]) (st1 := []) (σ1 := (S0, m)) rfl ?_
  exact am_AW.weak (f_Integer_bitCount_b41_ok hd (x0 + (am_ushr x0 (8 : Int32)))  h) (by simp only [am_le, and_self])
set_option maxHeartbeats 4000000 in
set_option maxRecDepth 100000 in
theorem f_Integer_bitCount_b24_ok {ro : am_Ro} {d : Nat} (hd : 1 ≤ d + 1) (x0 : Int32) {m m' : am_Mm} {r : Int32} (h : f_Integer_bitCount_b24 x0 m = some (r, m')) : am_AW am_nw ro (d + 1) mr_Integer_bitCount 24 [some (.int x0)] [] (S0, m) (some (.int r)) (S0, m') := by
  unfold f_Integer_bitCount_b24 at h
  refine am_AW.run am_base_ok ok_Integer_bitCount (Nat.le_add_left 1 d) 8 (pc1 := 34) (ls1 := [some (.int ((x0 + (am_ushr x0 (4 : Int32))) &&& (252645135 : Int32)))]) (st1 := []) (σ1 := (S0, m)) rfl ?_
  exact am_AW.weak (f_Integer_bitCount_b34_ok hd ((x0 + (am_ushr x0 (4 : Int32))) &&& (252645135 : Int32))  h) (by simp only [am_le, and_self])
set_option maxHeartbeats 4000000 in
set_option maxRecDepth 100000 in
theorem f_Integer_bitCount_b10_ok {ro : am_Ro} {d : Nat} (hd : 1 ≤ d + 1) (x0 : Int32) {m m' : am_Mm} {r : Int32} (h : f_Integer_bitCount_b10 x0 m = some (r, m')) : am_AW am_nw ro (d + 1) mr_Integer_bitCount 10 [some (.int x0)] [] (S0, m) (some (.int r)) (S0, m') := by
  unfold f_Integer_bitCount_b10 at h
  refine am_AW.run am_base_ok ok_Integer_bitCount (Nat.le_add_left 1 d) 10 (pc1 := 24) (ls1 := [some (.int ((x0 &&& (858993459 : Int32)) + ((am_ushr x0 (2 : Int32)) &&& (858993459 : Int32))))]) (st1 := []) (σ1 := (S0, m)) rfl ?_
  exact am_AW.weak (f_Integer_bitCount_b24_ok hd ((x0 &&& (858993459 : Int32)) + ((am_ushr x0 (2 : Int32)) &&& (858993459 : Int32)))  h) (by simp only [am_le, and_self])
set_option maxHeartbeats 4000000 in
set_option maxRecDepth 100000 in
theorem f_Integer_bitCount_ok {ro : am_Ro} {d : Nat} (hd : 1 ≤ d) (x0 : Int32) {m m' : am_Mm} {r : Int32} (h : f_Integer_bitCount x0 m = some (r, m')) : am_Mt am_nw ro d mr_Integer_bitCount [.int x0] (S0, m) (some (.int r)) (S0, m') := by
  obtain ⟨d, rfl⟩ : ∃ d0, d = d0 + 1 := ⟨d - 1, by omega⟩
  refine am_Mt.of (by decide +kernel) (Nat.le_of_ble_eq_true rfl) ?_
  change am_AW am_nw ro (d + 1) mr_Integer_bitCount 0 [some (.int x0)] [] (S0, m) (some (.int r)) (S0, m')
  unfold f_Integer_bitCount at h
  refine am_AW.run am_base_ok ok_Integer_bitCount (Nat.le_add_left 1 d) 8 (pc1 := 10) (ls1 := [some (.int (x0 - ((am_ushr x0 (1 : Int32)) &&& (1431655765 : Int32))))]) (st1 := []) (σ1 := (S0, m)) rfl ?_
  exact am_AW.weak (f_Integer_bitCount_b10_ok hd (x0 - ((am_ushr x0 (1 : Int32)) &&& (1431655765 : Int32)))  h) (by simp only [am_le, and_self])
/-! FriezePolygons$Acts.keep(III)V -/
def f_Acts_keep_b13 (x1 : Int32) (x2 : Int32) (x3 : Int32) (m : am_Mm) : Option am_Mm :=
  if (m.1 26 3) < (0 : Int32) then
    some m
  else
    if (24 : Int32) ≤ (m.1 26 3) then
      some m
    else
      if am_in (m.1 26 3) 24 = true then
        if am_in ((am_pI m 27 (m.1 26 3).toNatClampNeg x1).1 26 3) 24 = true then
          if am_in ((am_pI (am_pI m 27 (m.1 26 3).toNatClampNeg x1) 28 ((am_pI m 27 (m.1 26 3).toNatClampNeg x1).1 26 3).toNatClampNeg x2).1 26 3) 24 = true then
            some (am_pI (am_pI (am_pI (am_pI m 27 (m.1 26 3).toNatClampNeg x1) 28 ((am_pI m 27 (m.1 26 3).toNatClampNeg x1).1 26 3).toNatClampNeg x2) 29 ((am_pI (am_pI m 27 (m.1 26 3).toNatClampNeg x1) 28 ((am_pI m 27 (m.1 26 3).toNatClampNeg x1).1 26 3).toNatClampNeg x2).1 26 3).toNatClampNeg x3) 26 3 (((am_pI (am_pI (am_pI m 27 (m.1 26 3).toNatClampNeg x1) 28 ((am_pI m 27 (m.1 26 3).toNatClampNeg x1).1 26 3).toNatClampNeg x2) 29 ((am_pI (am_pI m 27 (m.1 26 3).toNatClampNeg x1) 28 ((am_pI m 27 (m.1 26 3).toNatClampNeg x1).1 26 3).toNatClampNeg x2).1 26 3).toNatClampNeg x3).1 26 3) + (1 : Int32)))
          else none
        else none
      else none
def f_Acts_keep (x1 : Int32) (x2 : Int32) (x3 : Int32) (m : am_Mm) : Option am_Mm :=
  if (m.1 26 3) < (24 : Int32) then
    f_Acts_keep_b13 x1 x2 x3 m
  else
    (f_Acts_forgetOldest m).bind fun q9 =>
    f_Acts_keep_b13 x1 x2 x3 q9
set_option maxHeartbeats 4000000 in
set_option maxRecDepth 100000 in
theorem f_Acts_keep_b13_ok {ro : am_Ro} {d : Nat} (hd : 2 ≤ d + 1) (x1 : Int32) (x2 : Int32) (x3 : Int32) {m m' : am_Mm} (h : f_Acts_keep_b13 x1 x2 x3 m = some m') : am_AW am_nw ro (d + 1) mr_Acts_keep 13 [some (.ref 26), some (.int x1), some (.int x2), some (.int x3)] [] (S0, m) none (S0, m') := by
  unfold f_Acts_keep_b13 at h
  refine am_AW.run am_base_ok ok_Acts_keep (Nat.le_add_left 1 d) 2 (pc1 := 17) (ls1 := [some (.ref 26), some (.int x1), some (.int x2), some (.int x3)]) (st1 := [.int (m.1 26 3)]) (σ1 := (S0, m)) rfl ?_
  refine am_AW.brP ok_Acts_keep rfl rfl am_c_lt (fun c2 => ?_) (fun c2 => ?_)
  · rw [if_pos c2] at h
    obtain rfl := Option.some.inj h
    exact am_AW.ret ok_Acts_keep rfl rfl rfl rfl
  · rw [if_neg c2] at h
    refine am_AW.run am_base_ok ok_Acts_keep (Nat.le_add_left 1 d) 3 (pc1 := 26) (ls1 := [some (.ref 26), some (.int x1), some (.int x2), some (.int x3)]) (st1 := [.int (24 : Int32), .int (m.1 26 3)]) (σ1 := (S0, m)) rfl ?_
    refine am_AW.brP ok_Acts_keep rfl rfl am_c_ge (fun c3 => ?_) (fun c3 => ?_)
    · rw [if_pos c3] at h
      obtain rfl := Option.some.inj h
      exact am_AW.ret ok_Acts_keep rfl rfl rfl rfl
    · rw [if_neg c3] at h
      refine am_AW.run am_base_ok ok_Acts_keep (Nat.le_add_left 1 d) 5 (pc1 := 38) (ls1 := [some (.ref 26), some (.int x1), some (.int x2), some (.int x3)]) (st1 := [.int x1, .int (m.1 26 3), .ref 27]) (σ1 := (S0, m)) rfl ?_
      by_cases g4 : am_in (m.1 26 3) 24 = true
      rotate_left
      · rw [if_neg g4] at h
        cases h
      rw [if_pos g4] at h
      refine am_AW.iast ok_Acts_keep (Nat.le_add_left 1 d) rfl rfl g4 ?_
      change am_AW am_nw ro (d + 1) mr_Acts_keep 39 [some (.ref 26), some (.int x1), some (.int x2), some (.int x3)] [] (S0, (am_pI m 27 (m.1 26 3).toNatClampNeg x1)) none (S0, m')
      refine am_AW.run am_base_ok ok_Acts_keep (Nat.le_add_left 1 d) 5 (pc1 := 48) (ls1 := [some (.ref 26), some (.int x1), some (.int x2), some (.int x3)]) (st1 := [.int x2, .int ((am_pI m 27 (m.1 26 3).toNatClampNeg x1).1 26 3), .ref 28]) (σ1 := (S0, (am_pI m 27 (m.1 26 3).toNatClampNeg x1))) rfl ?_
      by_cases g5 : am_in ((am_pI m 27 (m.1 26 3).toNatClampNeg x1).1 26 3) 24 = true
      rotate_left
      · rw [if_neg g5] at h
        cases h
      rw [if_pos g5] at h
      refine am_AW.iast ok_Acts_keep (Nat.le_add_left 1 d) rfl rfl g5 ?_
      change am_AW am_nw ro (d + 1) mr_Acts_keep 49 [some (.ref 26), some (.int x1), some (.int x2), some (.int x3)] [] (S0, (am_pI (am_pI m 27 (m.1 26 3).toNatClampNeg x1) 28 ((am_pI m 27 (m.1 26 3).toNatClampNeg x1).1 26 3).toNatClampNeg x2)) none (S0, m')
      refine am_AW.run am_base_ok ok_Acts_keep (Nat.le_add_left 1 d) 5 (pc1 := 58) (ls1 := [some (.ref 26), some (.int x1), some (.int x2), some (.int x3)]) (st1 := [.int x3, .int ((am_pI (am_pI m 27 (m.1 26 3).toNatClampNeg x1) 28 ((am_pI m 27 (m.1 26 3).toNatClampNeg x1).1 26 3).toNatClampNeg x2).1 26 3), .ref 29]) (σ1 := (S0, (am_pI (am_pI m 27 (m.1 26 3).toNatClampNeg x1) 28 ((am_pI m 27 (m.1 26 3).toNatClampNeg x1).1 26 3).toNatClampNeg x2))) rfl ?_
      by_cases g6 : am_in ((am_pI (am_pI m 27 (m.1 26 3).toNatClampNeg x1) 28 ((am_pI m 27 (m.1 26 3).toNatClampNeg x1).1 26 3).toNatClampNeg x2).1 26 3) 24 = true
      rotate_left
      · rw [if_neg g6] at h
        cases h
      rw [if_pos g6] at h
      refine am_AW.iast ok_Acts_keep (Nat.le_add_left 1 d) rfl rfl g6 ?_
      change am_AW am_nw ro (d + 1) mr_Acts_keep 59 [some (.ref 26), some (.int x1), some (.int x2), some (.int x3)] [] (S0, (am_pI (am_pI (am_pI m 27 (m.1 26 3).toNatClampNeg x1) 28 ((am_pI m 27 (m.1 26 3).toNatClampNeg x1).1 26 3).toNatClampNeg x2) 29 ((am_pI (am_pI m 27 (m.1 26 3).toNatClampNeg x1) 28 ((am_pI m 27 (m.1 26 3).toNatClampNeg x1).1 26 3).toNatClampNeg x2).1 26 3).toNatClampNeg x3)) none (S0, m')
      refine am_AW.run am_base_ok ok_Acts_keep (Nat.le_add_left 1 d) 5 (pc1 := 66) (ls1 := [some (.ref 26), some (.int x1), some (.int x2), some (.int x3)]) (st1 := [.int (((am_pI (am_pI (am_pI m 27 (m.1 26 3).toNatClampNeg x1) 28 ((am_pI m 27 (m.1 26 3).toNatClampNeg x1).1 26 3).toNatClampNeg x2) 29 ((am_pI (am_pI m 27 (m.1 26 3).toNatClampNeg x1) 28 ((am_pI m 27 (m.1 26 3).toNatClampNeg x1).1 26 3).toNatClampNeg x2).1 26 3).toNatClampNeg x3).1 26 3) + (1 : Int32)), .ref 26]) (σ1 := (S0, (am_pI (am_pI (am_pI m 27 (m.1 26 3).toNatClampNeg x1) 28 ((am_pI m 27 (m.1 26 3).toNatClampNeg x1).1 26 3).toNatClampNeg x2) 29 ((am_pI (am_pI m 27 (m.1 26 3).toNatClampNeg x1) 28 ((am_pI m 27 (m.1 26 3).toNatClampNeg x1).1 26 3).toNatClampNeg x2).1 26 3).toNatClampNeg x3))) rfl ?_
      refine am_AW.puti ok_Acts_keep (Nat.le_add_left 1 d) rfl rfl rfl (qc := kq0) rfl (by decide) ty_0_3 ?_
      obtain rfl := Option.some.inj h
      exact am_AW.ret ok_Acts_keep rfl rfl rfl rfl
set_option maxHeartbeats 4000000 in
set_option maxRecDepth 100000 in
theorem f_Acts_keep_ok {ro : am_Ro} {d : Nat} (hd : 2 ≤ d) (x1 : Int32) (x2 : Int32) (x3 : Int32) {m m' : am_Mm} (h : f_Acts_keep x1 x2 x3 m = some m') : am_Mt am_nw ro d mr_Acts_keep [.ref 26, .int x1, .int x2, .int x3] (S0, m) none (S0, m') := by
  obtain ⟨d, rfl⟩ : ∃ d0, d = d0 + 1 := ⟨d - 1, by omega⟩
  refine am_Mt.of (by decide +kernel) (Nat.le_of_ble_eq_true rfl) ?_
  change am_AW am_nw ro (d + 1) mr_Acts_keep 0 [some (.ref 26), some (.int x1), some (.int x2), some (.int x3)] [] (S0, m) none (S0, m')
  unfold f_Acts_keep at h
  refine am_AW.run am_base_ok ok_Acts_keep (Nat.le_add_left 1 d) 3 (pc1 := 6) (ls1 := [some (.ref 26), some (.int x1), some (.int x2), some (.int x3)]) (st1 := [.int (24 : Int32), .int (m.1 26 3)]) (σ1 := (S0, m)) rfl ?_
  refine am_AW.brP ok_Acts_keep rfl rfl am_c_lt (fun c1 => ?_) (fun c1 => ?_)
  · rw [if_pos c1] at h
    exact am_AW.weak (f_Acts_keep_b13_ok hd x1 x2 x3  h) (by simp only [am_le, and_self])
  · rw [if_neg c1] at h
    refine am_AW.run am_base_ok ok_Acts_keep (Nat.le_add_left 1 d) 1 (pc1 := 10) (ls1 := [some (.ref 26), some (.int x1), some (.int x2), some (.int x3)]) (st1 := [.ref 26]) (σ1 := (S0, m)) rfl ?_
    obtain ⟨q9, hq9, h⟩ := Option.bind_eq_some_iff.mp h
    refine am_AW.callV ok_Acts_keep am_nw_ok (As := []) (rest := []) rfl rfl rfl oR_Acts_forgetOldest lk_Acts_25 iM_Acts_forgetOldest sE_Acts_forgetOldest (qc := kq0) rfl rfl rfl rfl (Nat.le_of_ble_eq_true rfl) (f_Acts_forgetOldest_ok (d := d) (by omega)  hq9) ?_
    change am_AW am_nw ro (d + 1) mr_Acts_keep 13 [some (.ref 26), some (.int x1), some (.int x2), some (.int x3)] [] (S0, q9) none (S0, m')
    exact am_AW.weak (f_Acts_keep_b13_ok hd x1 x2 x3  h) (by simp only [am_le, and_self])
