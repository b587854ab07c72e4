/-! FriezePolygonsModel.drawn(III)I -/
def f_M_drawn_b172 (k61 : Int32 → Int32 → Int64 → Int32 → Int32 → am_Mm → Option (Int32 × am_Mm)) (x1 : Int32) (x3 : Int32) (x4 : Int64) (x6 : Int32) (x7 : Int32) (m : am_Mm) : Option (Int32 × am_Mm) :=
  k61 x1 x3 x4 x6 (x7 + (1 : Int32)) m
def f_M_drawn_b136 (k61 : Int32 → Int32 → Int64 → Int32 → Int32 → am_Mm → Option (Int32 × am_Mm)) (x1 : Int32) (x3 : Int32) (x4 : Int64) (x6 : Int32) (x7 : Int32) (x9 : Int32) (s0 : Int32) (m : am_Mm) : Option (Int32 × am_Mm) :=
  if s0 = (-1000000 : Int32) then
    f_M_drawn_b172 k61 x1 x3 x4 x6 x7 m
  else
    f_M_drawn_b172 k61 x1 x3 x4 (x6 + (1 : Int32)) x7 (am_pI m 69 1 (((m.1 69 1) &&& ((am_shl (1 : Int32) x9) ^^^ (-1 : Int32))) ||| (am_shl (1 : Int32) s0)))
def f_M_drawn_b115 (k61 : Int32 → Int32 → Int64 → Int32 → Int32 → am_Mm → Option (Int32 × am_Mm)) (x1 : Int32) (x3 : Int32) (x4 : Int64) (x6 : Int32) (x7 : Int32) (x8 : Int32) (s0 : Int32) (m : am_Mm) : Option (Int32 × am_Mm) :=
  if x8 = (0 : Int32) then
    f_M_drawn_b136 k61 x1 x3 x4 x6 x7 s0 (-1000000 : Int32) m
  else
    (f_M_flipped 69 s0 m).bind fun q33 =>
    f_M_drawn_b136 k61 x1 x3 x4 x6 x7 s0 q33.1 q33.2
def f_M_drawn_b61 : Nat → Int32 → Int32 → Int64 → Int32 → Int32 → am_Mm → Option (Int32 × am_Mm)
  | 0, _, _, _, _, _, _ => none
  | n + 1, x1, x3, x4, x6, x7, m =>
    if x1 ≤ x7 then
      if x3 = (0 : Int32) then
        some (x6, m)
      else
        some ((m.1 69 1), m)
    else
      (f_M_sizeOf (m.1 69 1) m).bind fun q26 =>
      if q26.1 = (0 : Int32) then
        f_M_drawn_b115 (f_M_drawn_b61 n) x1 x3 (am_remL (x4 * (16807 : Int64)) (2147483647 : Int64)) x6 x7 q26.1 (0 : Int32) q26.2
      else
        if (q26.1.toInt64) = (0 : Int64) then none else
        (f_M_cutAt (q26.2.1 69 1) ((am_remL (am_remL (x4 * (16807 : Int64)) (2147483647 : Int64)) (q26.1.toInt64)).toInt32) q26.2).bind fun q38 =>
        f_M_drawn_b115 (f_M_drawn_b61 n) x1 x3 (am_remL (x4 * (16807 : Int64)) (2147483647 : Int64)) x6 x7 q26.1 q38.1 q38.2
def f_M_drawn (x1 : Int32) (x2 : Int32) (x3 : Int32) (m : am_Mm) : Option (Int32 × am_Mm) :=
  (f_M_isThere m).bind fun q3 =>
  if q3.1 = (0 : Int32) then
    some ((-1000002 : Int32), q3.2)
  else
    (f_M_in (x1.toInt64) (0 : Int64) (60 : Int64) q3.2).bind fun q7 =>
    if q7.1 = (0 : Int32) then
      some ((-1000001 : Int32), q7.2)
    else
      (f_M_in (x2.toInt64) (1 : Int64) (999999 : Int64) q7.2).bind fun q11 =>
      if q11.1 = (0 : Int32) then
        some ((-1000001 : Int32), q11.2)
      else
        (f_M_in (x3.toInt64) (0 : Int64) (1 : Int64) q11.2).bind fun q15 =>
        if q15.1 = (0 : Int32) then
          some ((-1000001 : Int32), q15.2)
        else
          (f_M_layThen q15.2).bind fun q19 =>
          f_M_drawn_b61 am_F x1 x3 (x2.toInt64) (0 : Int32) (0 : Int32) q19
set_option maxHeartbeats 4000000 in
set_option maxRecDepth 100000 in
theorem f_M_drawn_b172_ok {ro : am_Ro} {d : Nat} (hd : 5 ≤ d + 1) {k61 : Int32 → Int32 → Int64 → Int32 → Int32 → am_Mm → Option (Int32 × am_Mm)} (hk61 : ∀ (x1 : Int32) (x3 : Int32) (x4 : Int64) (x6 : Int32) (x7 : Int32) (m m' : am_Mm) (r : Int32), k61 x1 x3 x4 x6 x7 m = some (r, m') → am_AW am_nw ro (d + 1) mr_M_drawn 61 [some (.ref 63), some (.int x1), none, some (.int x3), some (.long x4), none, some (.int x6), some (.int x7), none, none, none] [] (S0, m) (some (.int r)) (S0, m')) (x1 : Int32) (x3 : Int32) (x4 : Int64) (x6 : Int32) (x7 : Int32) {m m' : am_Mm} {r : Int32} (h : f_M_drawn_b172 k61 x1 x3 x4 x6 x7 m = some (r, m')) : am_AW am_nw ro (d + 1) mr_M_drawn 172 [some (.ref 63), some (.int x1), none, some (.int x3), some (.long x4), none, some (.int x6), some (.int x7), none, none, none] [] (S0, m) (some (.int r)) (S0, m') := by
  unfold f_M_drawn_b172 at h
  refine am_AW.run am_base_ok ok_M_drawn (Nat.le_add_left 1 d) 2 (pc1 := 61) (ls1 := [some (.ref 63), some (.int x1), none, some (.int x3), some (.long x4), none, some (.int x6), some (.int (x7 + (1 : Int32))), none, none, none]) (st1 := []) (σ1 := (S0, m)) rfl ?_
  exact am_AW.weak (hk61 x1 x3 x4 x6 (x7 + (1 : Int32))  _ _ _ h) (by simp only [am_le, and_self])
set_option maxHeartbeats 4000000 in
set_option maxRecDepth 100000 in
theorem f_M_drawn_b136_ok {ro : am_Ro} {d : Nat} (hd : 5 ≤ d + 1) {k61 : Int32 → Int32 → Int64 → Int32 → Int32 → am_Mm → Option (Int32 × am_Mm)} (hk61 : ∀ (x1 : Int32) (x3 : Int32) (x4 : Int64) (x6 : Int32) (x7 : Int32) (m m' : am_Mm) (r : Int32), k61 x1 x3 x4 x6 x7 m = some (r, m') → am_AW am_nw ro (d + 1) mr_M_drawn 61 [some (.ref 63), some (.int x1), none, some (.int x3), some (.long x4), none, some (.int x6), some (.int x7), none, none, none] [] (S0, m) (some (.int r)) (S0, m')) (x1 : Int32) (x3 : Int32) (x4 : Int64) (x6 : Int32) (x7 : Int32) (x9 : Int32) (s0 : Int32) {m m' : am_Mm} {r : Int32} (h : f_M_drawn_b136 k61 x1 x3 x4 x6 x7 x9 s0 m = some (r, m')) : am_AW am_nw ro (d + 1) mr_M_drawn 136 [some (.ref 63), some (.int x1), none, some (.int x3), some (.long x4), none, some (.int x6), some (.int x7), none, some (.int x9), none] [.int s0] (S0, m) (some (.int r)) (S0, m') := by
  unfold f_M_drawn_b136 at h
  refine am_AW.run am_base_ok ok_M_drawn (Nat.le_add_left 1 d) 3 (pc1 := 142) (ls1 := [some (.ref 63), some (.int x1), none, some (.int x3), some (.long x4), none, some (.int x6), some (.int x7), none, some (.int x9), some (.int s0)]) (st1 := [.int (-1000000 : Int32), .int s0]) (σ1 := (S0, m)) rfl ?_
  refine am_AW.brP ok_M_drawn rfl rfl am_c_eq (fun c29 => ?_) (fun c29 => ?_)
  · rw [if_pos c29] at h
    exact am_AW.weak (f_M_drawn_b172_ok hd (hk61) x1 x3 x4 x6 x7  h) (by simp only [am_le, and_self])
  · rw [if_neg c29] at h
    refine am_AW.run am_base_ok ok_M_drawn (Nat.le_add_left 1 d) 6 (pc1 := 155) (ls1 := [some (.ref 63), some (.int x1), none, some (.int x3), some (.long x4), none, some (.int x6), some (.int x7), none, some (.int x9), some (.int s0)]) (st1 := [.int (1 : Int32), .ref 69, .int (1 : Int32), .ref 69]) (σ1 := (S0, m)) rfl ?_
    refine am_AW.iald ok_M_drawn (Nat.le_add_left 1 d) S0_len rfl rfl (by decide) ?_
    change am_AW am_nw ro (d + 1) mr_M_drawn 156 [some (.ref 63), some (.int x1), none, some (.int x3), some (.long x4), none, some (.int x6), some (.int x7), none, some (.int x9), some (.int s0)] [.int (m.1 69 1), .int (1 : Int32), .ref 69] (S0, m) (some (.int r)) (S0, m')
    refine am_AW.run am_base_ok ok_M_drawn (Nat.le_add_left 1 d) 10 (pc1 := 168) (ls1 := [some (.ref 63), some (.int x1), none, some (.int x3), some (.long x4), none, some (.int x6), some (.int x7), none, some (.int x9), some (.int s0)]) (st1 := [.int (((m.1 69 1) &&& ((am_shl (1 : Int32) x9) ^^^ (-1 : Int32))) ||| (am_shl (1 : Int32) s0)), .int (1 : Int32), .ref 69]) (σ1 := (S0, m)) rfl ?_
    refine am_AW.iast ok_M_drawn (Nat.le_add_left 1 d) rfl rfl (by decide) ?_
    change am_AW am_nw ro (d + 1) mr_M_drawn 169 [some (.ref 63), some (.int x1), none, some (.int x3), some (.long x4), none, some (.int x6), some (.int x7), none, some (.int x9), some (.int s0)] [] (S0, (am_pI m 69 1 (((m.1 69 1) &&& ((am_shl (1 : Int32) x9) ^^^ (-1 : Int32))) ||| (am_shl (1 : Int32) s0)))) (some (.int r)) (S0, m')
    refine am_AW.run am_base_ok ok_M_drawn (Nat.le_add_left 1 d) 1 (pc1 := 172) (ls1 := [some (.ref 63), some (.int x1), none, some (.int x3), some (.long x4), none, some (.int (x6 + (1 : Int32))), some (.int x7), none, some (.int x9), some (.int s0)]) (st1 := []) (σ1 := (S0, (am_pI m 69 1 (((m.1 69 1) &&& ((am_shl (1 : Int32) x9) ^^^ (-1 : Int32))) ||| (am_shl (1 : Int32) s0))))) rfl ?_
    exact am_AW.weak (f_M_drawn_b172_ok hd (hk61) x1 x3 x4 (x6 + (1 : Int32)) x7  h) (by simp only [am_le, and_self])
set_option maxHeartbeats 4000000 in
set_option maxRecDepth 100000 in
theorem f_M_drawn_b115_ok {ro : am_Ro} {d : Nat} (hd : 5 ≤ d + 1) {k61 : Int32 → Int32 → Int64 → Int32 → Int32 → am_Mm → Option (Int32 × am_Mm)} (hk61 : ∀ (x1 : Int32) (x3 : Int32) (x4 : Int64) (x6 : Int32) (x7 : Int32) (m m' : am_Mm) (r : Int32), k61 x1 x3 x4 x6 x7 m = some (r, m') → am_AW am_nw ro (d + 1) mr_M_drawn 61 [some (.ref 63), some (.int x1), none, some (.int x3), some (.long x4), none, some (.int x6), some (.int x7), none, none, none] [] (S0, m) (some (.int r)) (S0, m')) (x1 : Int32) (x3 : Int32) (x4 : Int64) (x6 : Int32) (x7 : Int32) (x8 : Int32) (s0 : Int32) {m m' : am_Mm} {r : Int32} (h : f_M_drawn_b115 k61 x1 x3 x4 x6 x7 x8 s0 m = some (r, m')) : am_AW am_nw ro (d + 1) mr_M_drawn 115 [some (.ref 63), some (.int x1), none, some (.int x3), some (.long x4), none, some (.int x6), some (.int x7), some (.int x8), none, none] [.int s0] (S0, m) (some (.int r)) (S0, m') := by
  unfold f_M_drawn_b115 at h
  refine am_AW.run am_base_ok ok_M_drawn (Nat.le_add_left 1 d) 2 (pc1 := 119) (ls1 := [some (.ref 63), some (.int x1), none, some (.int x3), some (.long x4), none, some (.int x6), some (.int x7), some (.int x8), some (.int s0), none]) (st1 := [.int x8]) (σ1 := (S0, m)) rfl ?_
  refine am_AW.brN ok_M_drawn rfl rfl am_c_ne (fun c28 => ?_) (fun c28 => ?_)
  · rw [if_pos c28] at h
    refine am_AW.run am_base_ok ok_M_drawn (Nat.le_add_left 1 d) 2 (pc1 := 136) (ls1 := [some (.ref 63), some (.int x1), none, some (.int x3), some (.long x4), none, some (.int x6), some (.int x7), some (.int x8), some (.int s0), none]) (st1 := [.int (-1000000 : Int32)]) (σ1 := (S0, m)) rfl ?_
    exact am_AW.weak (f_M_drawn_b136_ok hd (hk61) x1 x3 x4 x6 x7 s0 (-1000000 : Int32)  h) (by simp only [am_le, and_self])
  · rw [if_neg c28] at h
    refine am_AW.run am_base_ok ok_M_drawn (Nat.le_add_left 1 d) 3 (pc1 := 133) (ls1 := [some (.ref 63), some (.int x1), none, some (.int x3), some (.long x4), none, some (.int x6), some (.int x7), some (.int x8), some (.int s0), none]) (st1 := [.int s0, .ref 69]) (σ1 := (S0, m)) rfl ?_
    obtain ⟨q33, hq33, h⟩ := Option.bind_eq_some_iff.mp h
    refine am_AW.callS ok_M_drawn am_nw_ok (As := [.ref 69, .int s0]) (rest := []) rfl rfl rfl oR_M_flipped lk_M_204 sT_M_flipped rfl (Nat.le_of_ble_eq_true rfl) (f_M_flipped_ok (d := d) (by omega) 69 s0 (by simp) hq33) ?_
    change am_AW am_nw ro (d + 1) mr_M_drawn 136 [some (.ref 63), some (.int x1), none, some (.int x3), some (.long x4), none, some (.int x6), some (.int x7), some (.int x8), some (.int s0), none] [.int q33.1] (S0, q33.2) (some (.int r)) (S0, m')
    exact am_AW.weak (f_M_drawn_b136_ok hd (hk61) x1 x3 x4 x6 x7 s0 q33.1  h) (by simp only [am_le, and_self])
set_option maxHeartbeats 4000000 in
set_option maxRecDepth 100000 in
theorem f_M_drawn_b61_all {ro : am_Ro} {d : Nat} (hd : 5 ≤ d + 1) : ∀ (n : Nat) (x1 : Int32) (x3 : Int32) (x4 : Int64) (x6 : Int32) (x7 : Int32) (m m' : am_Mm) (r : Int32), f_M_drawn_b61 n x1 x3 x4 x6 x7 m = some (r, m') → am_AW am_nw ro (d + 1) mr_M_drawn 61 [some (.ref 63), some (.int x1), none, some (.int x3), some (.long x4), none, some (.int x6), some (.int x7), none, none, none] [] (S0, m) (some (.int r)) (S0, m') := by
  intro n
  induction n with
  | zero =>
    intro x1 x3 x4 x6 x7 m m' r h
    rw [f_M_drawn_b61] at h
    cases h
  | succ n ih =>
    intro x1 x3 x4 x6 x7 m m' r h
    rw [f_M_drawn_b61] at h
    refine am_AW.run am_base_ok ok_M_drawn (Nat.le_add_left 1 d) 2 (pc1 := 64) (ls1 := [some (.ref 63), some (.int x1), none, some (.int x3), some (.long x4), none, some (.int x6), some (.int x7), none, none, none]) (st1 := [.int x1, .int x7]) (σ1 := (S0, m)) rfl ?_
    refine am_AW.brP ok_M_drawn rfl rfl am_c_ge (fun c20 => ?_) (fun c20 => ?_)
    · rw [if_pos c20] at h
      refine am_AW.run am_base_ok ok_M_drawn (Nat.le_add_left 1 d) 1 (pc1 := 179) (ls1 := [some (.ref 63), some (.int x1), none, some (.int x3), some (.long x4), none, some (.int x6), some (.int x7), none, none, none]) (st1 := [.int x3]) (σ1 := (S0, m)) rfl ?_
      refine am_AW.brN ok_M_drawn rfl rfl am_c_ne (fun c21 => ?_) (fun c21 => ?_)
      · rw [if_pos c21] at h
        refine am_AW.run am_base_ok ok_M_drawn (Nat.le_add_left 1 d) 2 (pc1 := 193) (ls1 := [some (.ref 63), some (.int x1), none, some (.int x3), some (.long x4), none, some (.int x6), some (.int x7), none, none, none]) (st1 := [.int x6]) (σ1 := (S0, m)) rfl ?_
        obtain ⟨rfl, rfl⟩ := Prod.mk.inj (Option.some.inj h)
        exact am_AW.ret ok_M_drawn rfl rfl rfl rfl
      · rw [if_neg c21] at h
        refine am_AW.run am_base_ok ok_M_drawn (Nat.le_add_left 1 d) 3 (pc1 := 192) (ls1 := [some (.ref 63), some (.int x1), none, some (.int x3), some (.long x4), none, some (.int x6), some (.int x7), none, none, none]) (st1 := [.int (1 : Int32), .ref 69]) (σ1 := (S0, m)) rfl ?_
        refine am_AW.iald ok_M_drawn (Nat.le_add_left 1 d) S0_len rfl rfl (by decide) ?_
        change am_AW am_nw ro (d + 1) mr_M_drawn 193 [some (.ref 63), some (.int x1), none, some (.int x3), some (.long x4), none, some (.int x6), some (.int x7), none, none, none] [.int (m.1 69 1)] (S0, m) (some (.int r)) (S0, m')
        obtain ⟨rfl, rfl⟩ := Prod.mk.inj (Option.some.inj h)
        exact am_AW.ret ok_M_drawn rfl rfl rfl rfl
    · rw [if_neg c20] at h
      refine am_AW.run am_base_ok ok_M_drawn (Nat.le_add_left 1 d) 4 (pc1 := 76) (ls1 := [some (.ref 63), some (.int x1), none, some (.int x3), some (.long x4), none, some (.int x6), some (.int x7), none, none, none]) (st1 := [.long (2147483647 : Int64), .long (x4 * (16807 : Int64))]) (σ1 := (S0, m)) rfl ?_
      refine am_AW.dvl ok_M_drawn (Nat.le_add_left 1 d) (w := (am_remL (x4 * (16807 : Int64)) (2147483647 : Int64))) (Or.inr ⟨rfl, rfl⟩) rfl (by decide) ?_
      refine am_AW.run am_base_ok ok_M_drawn (Nat.le_add_left 1 d) 4 (pc1 := 84) (ls1 := [some (.ref 63), some (.int x1), none, some (.int x3), some (.long (am_remL (x4 * (16807 : Int64)) (2147483647 : Int64))), none, some (.int x6), some (.int x7), none, none, none]) (st1 := [.int (1 : Int32), .ref 69]) (σ1 := (S0, m)) rfl ?_
      refine am_AW.iald ok_M_drawn (Nat.le_add_left 1 d) S0_len rfl rfl (by decide) ?_
      change am_AW am_nw ro (d + 1) mr_M_drawn 85 [some (.ref 63), some (.int x1), none, some (.int x3), some (.long (am_remL (x4 * (16807 : Int64)) (2147483647 : Int64))), none, some (.int x6), some (.int x7), none, none, none] [.int (m.1 69 1)] (S0, m) (some (.int r)) (S0, m')
      obtain ⟨q26, hq26, h⟩ := Option.bind_eq_some_iff.mp h
      refine am_AW.callS ok_M_drawn am_nw_ok (As := [.int (m.1 69 1)]) (rest := []) rfl rfl rfl oR_M_sizeOf lk_M_198 sT_M_sizeOf rfl (Nat.le_of_ble_eq_true rfl) (f_M_sizeOf_ok (d := d) (by omega) (m.1 69 1) hq26) ?_
      change am_AW am_nw ro (d + 1) mr_M_drawn 88 [some (.ref 63), some (.int x1), none, some (.int x3), some (.long (am_remL (x4 * (16807 : Int64)) (2147483647 : Int64))), none, some (.int x6), some (.int x7), none, none, none] [.int q26.1] (S0, q26.2) (some (.int r)) (S0, m')
      refine am_AW.run am_base_ok ok_M_drawn (Nat.le_add_left 1 d) 2 (pc1 := 92) (ls1 := [some (.ref 63), some (.int x1), none, some (.int x3), some (.long (am_remL (x4 * (16807 : Int64)) (2147483647 : Int64))), none, some (.int x6), some (.int x7), some (.int q26.1), none, none]) (st1 := [.int q26.1]) (σ1 := (S0, q26.2)) rfl ?_
      refine am_AW.brN ok_M_drawn rfl rfl am_c_ne (fun c27 => ?_) (fun c27 => ?_)
      · rw [if_pos c27] at h
        refine am_AW.run am_base_ok ok_M_drawn (Nat.le_add_left 1 d) 2 (pc1 := 115) (ls1 := [some (.ref 63), some (.int x1), none, some (.int x3), some (.long (am_remL (x4 * (16807 : Int64)) (2147483647 : Int64))), none, some (.int x6), some (.int x7), some (.int q26.1), none, none]) (st1 := [.int (0 : Int32)]) (σ1 := (S0, q26.2)) rfl ?_
        exact am_AW.weak (f_M_drawn_b115_ok hd (ih) x1 x3 (am_remL (x4 * (16807 : Int64)) (2147483647 : Int64)) x6 x7 q26.1 (0 : Int32)  h) (by simp only [am_le, and_self])
      · rw [if_neg c27] at h
        refine am_AW.run am_base_ok ok_M_drawn (Nat.le_add_left 1 d) 3 (pc1 := 104) (ls1 := [some (.ref 63), some (.int x1), none, some (.int x3), some (.long (am_remL (x4 * (16807 : Int64)) (2147483647 : Int64))), none, some (.int x6), some (.int x7), some (.int q26.1), none, none]) (st1 := [.int (1 : Int32), .ref 69]) (σ1 := (S0, q26.2)) rfl ?_
        refine am_AW.iald ok_M_drawn (Nat.le_add_left 1 d) S0_len rfl rfl (by decide) ?_
        change am_AW am_nw ro (d + 1) mr_M_drawn 105 [some (.ref 63), some (.int x1), none, some (.int x3), some (.long (am_remL (x4 * (16807 : Int64)) (2147483647 : Int64))), none, some (.int x6), some (.int x7), some (.int q26.1), none, none] [.int (q26.2.1 69 1)] (S0, q26.2) (some (.int r)) (S0, m')
        refine am_AW.run am_base_ok ok_M_drawn (Nat.le_add_left 1 d) 3 (pc1 := 110) (ls1 := [some (.ref 63), some (.int x1), none, some (.int x3), some (.long (am_remL (x4 * (16807 : Int64)) (2147483647 : Int64))), none, some (.int x6), some (.int x7), some (.int q26.1), none, none]) (st1 := [.long (q26.1.toInt64), .long (am_remL (x4 * (16807 : Int64)) (2147483647 : Int64)), .int (q26.2.1 69 1)]) (σ1 := (S0, q26.2)) rfl ?_
        by_cases g35 : (q26.1.toInt64) = (0 : Int64)
        · rw [if_pos g35] at h
          cases h
        rw [if_neg g35] at h
        refine am_AW.dvl ok_M_drawn (Nat.le_add_left 1 d) (w := (am_remL (am_remL (x4 * (16807 : Int64)) (2147483647 : Int64)) (q26.1.toInt64))) (Or.inr ⟨rfl, rfl⟩) rfl g35 ?_
        refine am_AW.run am_base_ok ok_M_drawn (Nat.le_add_left 1 d) 1 (pc1 := 112) (ls1 := [some (.ref 63), some (.int x1), none, some (.int x3), some (.long (am_remL (x4 * (16807 : Int64)) (2147483647 : Int64))), none, some (.int x6), some (.int x7), some (.int q26.1), none, none]) (st1 := [.int ((am_remL (am_remL (x4 * (16807 : Int64)) (2147483647 : Int64)) (q26.1.toInt64)).toInt32), .int (q26.2.1 69 1)]) (σ1 := (S0, q26.2)) rfl ?_
        obtain ⟨q38, hq38, h⟩ := Option.bind_eq_some_iff.mp h
        refine am_AW.callS ok_M_drawn am_nw_ok (As := [.int (q26.2.1 69 1), .int ((am_remL (am_remL (x4 * (16807 : Int64)) (2147483647 : Int64)) (q26.1.toInt64)).toInt32)]) (rest := []) rfl rfl rfl oR_M_cutAt lk_M_318 sT_M_cutAt rfl (Nat.le_of_ble_eq_true rfl) (f_M_cutAt_ok (d := d) (by omega) (q26.2.1 69 1) ((am_remL (am_remL (x4 * (16807 : Int64)) (2147483647 : Int64)) (q26.1.toInt64)).toInt32) hq38) ?_
        change am_AW am_nw ro (d + 1) mr_M_drawn 115 [some (.ref 63), some (.int x1), none, some (.int x3), some (.long (am_remL (x4 * (16807 : Int64)) (2147483647 : Int64))), none, some (.int x6), some (.int x7), some (.int q26.1), none, none] [.int q38.1] (S0, q38.2) (some (.int r)) (S0, m')
        exact am_AW.weak (f_M_drawn_b115_ok hd (ih) x1 x3 (am_remL (x4 * (16807 : Int64)) (2147483647 : Int64)) x6 x7 q26.1 q38.1  h) (by simp only [am_le, and_self])
set_option maxHeartbeats 4000000 in
set_option maxRecDepth 100000 in
theorem f_M_drawn_b61_ok {ro : am_Ro} {d : Nat} (hd : 5 ≤ d + 1) (x1 : Int32) (x3 : Int32) (x4 : Int64) (x6 : Int32) (x7 : Int32) {m m' : am_Mm} {r : Int32} {n : Nat} (h : f_M_drawn_b61 n x1 x3 x4 x6 x7 m = some (r, m')) : am_AW am_nw ro (d + 1) mr_M_drawn 61 [some (.ref 63), some (.int x1), none, some (.int x3), some (.long x4), none, some (.int x6), some (.int x7), none, none, none] [] (S0, m) (some (.int r)) (S0, m') :=
  f_M_drawn_b61_all hd n x1 x3 x4 x6 x7  m m' r h
set_option maxHeartbeats 4000000 in
set_option maxRecDepth 100000 in
theorem f_M_drawn_ok {ro : am_Ro} {d : Nat} (hd : 5 ≤ d) (x1 : Int32) (x2 : Int32) (x3 : Int32) {m m' : am_Mm} {r : Int32} (h : f_M_drawn x1 x2 x3 m = some (r, m')) : am_Mt am_nw ro d mr_M_drawn [.ref 63, .int x1, .int x2, .int x3] (S0, m) (some (.int r)) (S0, m') := by
  obtain ⟨d, rfl⟩ : ∃ d0, d = d0 + 1 := ⟨d - 1, by omega⟩
  refine am_Mt.of (by decide +kernel) (Nat.le_of_ble_eq_true rfl) ?_
  change am_AW am_nw ro (d + 1) mr_M_drawn 0 [some (.ref 63), some (.int x1), some (.int x2), some (.int x3), none, none, none, none, none, none, none] [] (S0, m) (some (.int r)) (S0, m')
  unfold f_M_drawn at h
  refine am_AW.run am_base_ok ok_M_drawn (Nat.le_add_left 1 d) 1 (pc1 := 1) (ls1 := [some (.ref 63), some (.int x1), some (.int x2), some (.int x3), none, none, none, none, none, none, none]) (st1 := [.ref 63]) (σ1 := (S0, m)) rfl ?_
  obtain ⟨q3, hq3, h⟩ := Option.bind_eq_some_iff.mp h
  refine am_AW.callV ok_M_drawn am_nw_ok (As := []) (rest := []) rfl rfl rfl oR_M_isThere lk_M_188 iM_M_isThere sE_M_isThere (qc := kq10) rfl rfl rfl rfl (Nat.le_of_ble_eq_true rfl) (f_M_isThere_ok (d := d) (by omega)  hq3) ?_
  change am_AW am_nw ro (d + 1) mr_M_drawn 4 [some (.ref 63), some (.int x1), some (.int x2), some (.int x3), none, none, none, none, none, none, none] [.int q3.1] (S0, q3.2) (some (.int r)) (S0, m')
  refine am_AW.brN ok_M_drawn rfl rfl am_c_ne (fun c4 => ?_) (fun c4 => ?_)
  · rw [if_pos c4] at h
    refine am_AW.run am_base_ok ok_M_drawn (Nat.le_add_left 1 d) 1 (pc1 := 9) (ls1 := [some (.ref 63), some (.int x1), some (.int x2), some (.int x3), none, none, none, none, none, none, none]) (st1 := [.int (-1000002 : Int32)]) (σ1 := (S0, q3.2)) rfl ?_
    obtain ⟨rfl, rfl⟩ := Prod.mk.inj (Option.some.inj h)
    exact am_AW.ret ok_M_drawn rfl rfl rfl rfl
  · rw [if_neg c4] at h
    refine am_AW.run am_base_ok ok_M_drawn (Nat.le_add_left 1 d) 4 (pc1 := 16) (ls1 := [some (.ref 63), some (.int x1), some (.int x2), some (.int x3), none, none, none, none, none, none, none]) (st1 := [.long (60 : Int64), .long (0 : Int64), .long (x1.toInt64)]) (σ1 := (S0, q3.2)) rfl ?_
    obtain ⟨q7, hq7, h⟩ := Option.bind_eq_some_iff.mp h
    refine am_AW.callS ok_M_drawn am_nw_ok (As := [.long (x1.toInt64), .long (0 : Int64), .long (60 : Int64)]) (rest := []) rfl rfl rfl oR_M_in lk_M_60 sT_M_in rfl (Nat.le_of_ble_eq_true rfl) (f_M_in_ok (d := d) (by omega) (x1.toInt64) (0 : Int64) (60 : Int64) hq7) ?_
    change am_AW am_nw ro (d + 1) mr_M_drawn 19 [some (.ref 63), some (.int x1), some (.int x2), some (.int x3), none, none, none, none, none, none, none] [.int q7.1] (S0, q7.2) (some (.int r)) (S0, m')
    refine am_AW.brP ok_M_drawn rfl rfl am_c_eq (fun c8 => ?_) (fun c8 => ?_)
    · rw [if_pos c8] at h
      refine am_AW.run am_base_ok ok_M_drawn (Nat.le_add_left 1 d) 1 (pc1 := 46) (ls1 := [some (.ref 63), some (.int x1), some (.int x2), some (.int x3), none, none, none, none, none, none, none]) (st1 := [.int (-1000001 : Int32)]) (σ1 := (S0, q7.2)) rfl ?_
      obtain ⟨rfl, rfl⟩ := Prod.mk.inj (Option.some.inj h)
      exact am_AW.ret ok_M_drawn rfl rfl rfl rfl
    · rw [if_neg c8] at h
      refine am_AW.run am_base_ok ok_M_drawn (Nat.le_add_left 1 d) 4 (pc1 := 28) (ls1 := [some (.ref 63), some (.int x1), some (.int x2), some (.int x3), none, none, none, none, none, none, none]) (st1 := [.long (999999 : Int64), .long (1 : Int64), .long (x2.toInt64)]) (σ1 := (S0, q7.2)) rfl ?_
      obtain ⟨q11, hq11, h⟩ := Option.bind_eq_some_iff.mp h
      refine am_AW.callS ok_M_drawn am_nw_ok (As := [.long (x2.toInt64), .long (1 : Int64), .long (999999 : Int64)]) (rest := []) rfl rfl rfl oR_M_in lk_M_60 sT_M_in rfl (Nat.le_of_ble_eq_true rfl) (f_M_in_ok (d := d) (by omega) (x2.toInt64) (1 : Int64) (999999 : Int64) hq11) ?_
      change am_AW am_nw ro (d + 1) mr_M_drawn 31 [some (.ref 63), some (.int x1), some (.int x2), some (.int x3), none, none, none, none, none, none, none] [.int q11.1] (S0, q11.2) (some (.int r)) (S0, m')
      refine am_AW.brP ok_M_drawn rfl rfl am_c_eq (fun c12 => ?_) (fun c12 => ?_)
      · rw [if_pos c12] at h
        refine am_AW.run am_base_ok ok_M_drawn (Nat.le_add_left 1 d) 1 (pc1 := 46) (ls1 := [some (.ref 63), some (.int x1), some (.int x2), some (.int x3), none, none, none, none, none, none, none]) (st1 := [.int (-1000001 : Int32)]) (σ1 := (S0, q11.2)) rfl ?_
        obtain ⟨rfl, rfl⟩ := Prod.mk.inj (Option.some.inj h)
        exact am_AW.ret ok_M_drawn rfl rfl rfl rfl
      · rw [if_neg c12] at h
        refine am_AW.run am_base_ok ok_M_drawn (Nat.le_add_left 1 d) 4 (pc1 := 38) (ls1 := [some (.ref 63), some (.int x1), some (.int x2), some (.int x3), none, none, none, none, none, none, none]) (st1 := [.long (1 : Int64), .long (0 : Int64), .long (x3.toInt64)]) (σ1 := (S0, q11.2)) rfl ?_
        obtain ⟨q15, hq15, h⟩ := Option.bind_eq_some_iff.mp h
        refine am_AW.callS ok_M_drawn am_nw_ok (As := [.long (x3.toInt64), .long (0 : Int64), .long (1 : Int64)]) (rest := []) rfl rfl rfl oR_M_in lk_M_60 sT_M_in rfl (Nat.le_of_ble_eq_true rfl) (f_M_in_ok (d := d) (by omega) (x3.toInt64) (0 : Int64) (1 : Int64) hq15) ?_
        change am_AW am_nw ro (d + 1) mr_M_drawn 41 [some (.ref 63), some (.int x1), some (.int x2), some (.int x3), none, none, none, none, none, none, none] [.int q15.1] (S0, q15.2) (some (.int r)) (S0, m')
        refine am_AW.brN ok_M_drawn rfl rfl am_c_ne (fun c16 => ?_) (fun c16 => ?_)
        · rw [if_pos c16] at h
          refine am_AW.run am_base_ok ok_M_drawn (Nat.le_add_left 1 d) 1 (pc1 := 46) (ls1 := [some (.ref 63), some (.int x1), some (.int x2), some (.int x3), none, none, none, none, none, none, none]) (st1 := [.int (-1000001 : Int32)]) (σ1 := (S0, q15.2)) rfl ?_
          obtain ⟨rfl, rfl⟩ := Prod.mk.inj (Option.some.inj h)
          exact am_AW.ret ok_M_drawn rfl rfl rfl rfl
        · rw [if_neg c16] at h
          refine am_AW.run am_base_ok ok_M_drawn (Nat.le_add_left 1 d) 1 (pc1 := 48) (ls1 := [some (.ref 63), some (.int x1), some (.int x2), some (.int x3), none, none, none, none, none, none, none]) (st1 := [.ref 63]) (σ1 := (S0, q15.2)) rfl ?_
          obtain ⟨q19, hq19, h⟩ := Option.bind_eq_some_iff.mp h
          refine am_AW.callV ok_M_drawn am_nw_ok (As := []) (rest := []) rfl rfl rfl oR_M_layThen lk_M_291 iM_M_layThen sE_M_layThen (qc := kq10) rfl rfl rfl rfl (Nat.le_of_ble_eq_true rfl) (f_M_layThen_ok (d := d) (by omega)  hq19) ?_
          change am_AW am_nw ro (d + 1) mr_M_drawn 51 [some (.ref 63), some (.int x1), some (.int x2), some (.int x3), none, none, none, none, none, none, none] [] (S0, q19) (some (.int r)) (S0, m')
          refine am_AW.run am_base_ok ok_M_drawn (Nat.le_add_left 1 d) 7 (pc1 := 61) (ls1 := [some (.ref 63), some (.int x1), some (.int x2), some (.int x3), some (.long (x2.toInt64)), none, some (.int (0 : Int32)), some (.int (0 : Int32)), none, none, none]) (st1 := []) (σ1 := (S0, q19)) rfl ?_
          exact am_AW.weak (f_M_drawn_b61_ok hd x1 x3 (x2.toInt64) (0 : Int32) (0 : Int32)  h) (by simp only [am_le, and_self])
/-! FriezePolygons$Asks.size()I -/
def f_Asks_size (m : am_Mm) : Option (Int32 × am_Mm) :=
  if (m.1 38 3) = (2 : Int32) then
    (f_Asks_begins (12 : Int32) m).bind fun q4 =>
    (f_Asks_body11 q4).bind fun q7 =>
    some ((-q7.1), q7.2)
  else
    if (m.1 38 3) = (3 : Int32) then
      (f_Asks_body11 m).bind fun q11 =>
      some (q11.1, q11.2)
    else
      if (m.1 38 3) = (4 : Int32) then
        (f_Asks_sizeOfFixed m).bind fun q15 =>
        some (q15.1, q15.2)
      else
        if (m.1 38 3) = (5 : Int32) then
          (f_Asks_sizeOfFixed m).bind fun q19 =>
          some (q19.1, q19.2)
        else
          (f_Asks_body11 m).bind fun q22 =>
          some (q22.1, q22.2)
set_option maxHeartbeats 4000000 in
set_option maxRecDepth 100000 in
theorem f_Asks_size_ok {ro : am_Ro} {d : Nat} (hd : 6 ≤ d) {m m' : am_Mm} {r : Int32} (h : f_Asks_size  m = some (r, m')) : am_Mt am_nw ro d mr_Asks_size [.ref 38] (S0, m) (some (.int r)) (S0, m') := by
  obtain ⟨d, rfl⟩ : ∃ d0, d = d0 + 1 := ⟨d - 1, by omega⟩
  refine am_Mt.of (by decide +kernel) (Nat.le_of_ble_eq_true rfl) ?_
  change am_AW am_nw ro (d + 1) mr_Asks_size 0 [some (.ref 38)] [] (S0, m) (some (.int r)) (S0, m')
  unfold f_Asks_size at h
  refine am_AW.run am_base_ok ok_Asks_size (Nat.le_add_left 1 d) 2 (pc1 := 4) (ls1 := [some (.ref 38)]) (st1 := [.int (m.1 38 3)]) (σ1 := (S0, m)) rfl ?_
  by_cases c1 : (m.1 38 3) = (2 : Int32)
  · rw [if_pos c1] at h
    refine am_AW.sw ok_Asks_size rfl (t := 36) (by rw [c1]; decide +kernel) ?_
    refine am_AW.run am_base_ok ok_Asks_size (Nat.le_add_left 1 d) 2 (pc1 := 39) (ls1 := [some (.ref 38)]) (st1 := [.int (12 : Int32), .ref 38]) (σ1 := (S0, m)) rfl ?_
    obtain ⟨q4, hq4, h⟩ := Option.bind_eq_some_iff.mp h
    refine am_AW.callV ok_Asks_size am_nw_ok (As := [.int (12 : Int32)]) (rest := []) rfl rfl rfl oR_Asks_begins lk_Asks_31 iM_Asks_begins sE_Asks_begins (qc := kq1) rfl rfl rfl rfl (Nat.le_of_ble_eq_true rfl) (f_Asks_begins_ok (d := d) (by omega) (12 : Int32) hq4) ?_
    change am_AW am_nw ro (d + 1) mr_Asks_size 42 [some (.ref 38)] [] (S0, q4) (some (.int r)) (S0, m')
    refine am_AW.run am_base_ok ok_Asks_size (Nat.le_add_left 1 d) 1 (pc1 := 43) (ls1 := [some (.ref 38)]) (st1 := [.ref 38]) (σ1 := (S0, q4)) rfl ?_
    obtain ⟨q7, hq7, h⟩ := Option.bind_eq_some_iff.mp h
    refine am_AW.callV ok_Asks_size am_nw_ok (As := []) (rest := []) rfl rfl rfl oR_Asks_body11 lk_Asks_35 iM_Asks_body11 sE_Asks_body11 (qc := kq1) rfl rfl rfl rfl (Nat.le_of_ble_eq_true rfl) (f_Asks_body11_ok (d := d) (by omega)  hq7) ?_
    change am_AW am_nw ro (d + 1) mr_Asks_size 46 [some (.ref 38)] [.int q7.1] (S0, q7.2) (some (.int r)) (S0, m')
    refine am_AW.run am_base_ok ok_Asks_size (Nat.le_add_left 1 d) 1 (pc1 := 47) (ls1 := [some (.ref 38)]) (st1 := [.int (-q7.1)]) (σ1 := (S0, q7.2)) rfl ?_
    obtain ⟨rfl, rfl⟩ := Prod.mk.inj (Option.some.inj h)
    exact am_AW.ret ok_Asks_size rfl rfl rfl rfl
  rw [if_neg c1] at h
  by_cases c8 : (m.1 38 3) = (3 : Int32)
  · rw [if_pos c8] at h
    refine am_AW.sw ok_Asks_size rfl (t := 53) (by rw [c8]; decide +kernel) ?_
    refine am_AW.run am_base_ok ok_Asks_size (Nat.le_add_left 1 d) 1 (pc1 := 54) (ls1 := [some (.ref 38)]) (st1 := [.ref 38]) (σ1 := (S0, m)) rfl ?_
    obtain ⟨q11, hq11, h⟩ := Option.bind_eq_some_iff.mp h
    refine am_AW.callV ok_Asks_size am_nw_ok (As := []) (rest := []) rfl rfl rfl oR_Asks_body11 lk_Asks_35 iM_Asks_body11 sE_Asks_body11 (qc := kq1) rfl rfl rfl rfl (Nat.le_of_ble_eq_true rfl) (f_Asks_body11_ok (d := d) (by omega)  hq11) ?_
    change am_AW am_nw ro (d + 1) mr_Asks_size 57 [some (.ref 38)] [.int q11.1] (S0, q11.2) (some (.int r)) (S0, m')
    obtain ⟨rfl, rfl⟩ := Prod.mk.inj (Option.some.inj h)
    exact am_AW.ret ok_Asks_size rfl rfl rfl rfl
  rw [if_neg c8] at h
  by_cases c12 : (m.1 38 3) = (4 : Int32)
  · rw [if_pos c12] at h
    refine am_AW.sw ok_Asks_size rfl (t := 48) (by rw [c12]; decide +kernel) ?_
    refine am_AW.run am_base_ok ok_Asks_size (Nat.le_add_left 1 d) 1 (pc1 := 49) (ls1 := [some (.ref 38)]) (st1 := [.ref 38]) (σ1 := (S0, m)) rfl ?_
    obtain ⟨q15, hq15, h⟩ := Option.bind_eq_some_iff.mp h
    refine am_AW.callV ok_Asks_size am_nw_ok (As := []) (rest := []) rfl rfl rfl oR_Asks_sizeOfFixed lk_Asks_39 iM_Asks_sizeOfFixed sE_Asks_sizeOfFixed (qc := kq1) rfl rfl rfl rfl (Nat.le_of_ble_eq_true rfl) (f_Asks_sizeOfFixed_ok (d := d) (by omega)  hq15) ?_
    change am_AW am_nw ro (d + 1) mr_Asks_size 52 [some (.ref 38)] [.int q15.1] (S0, q15.2) (some (.int r)) (S0, m')
    obtain ⟨rfl, rfl⟩ := Prod.mk.inj (Option.some.inj h)
    exact am_AW.ret ok_Asks_size rfl rfl rfl rfl
  rw [if_neg c12] at h
  by_cases c16 : (m.1 38 3) = (5 : Int32)
  · rw [if_pos c16] at h
    refine am_AW.sw ok_Asks_size rfl (t := 48) (by rw [c16]; decide +kernel) ?_
    refine am_AW.run am_base_ok ok_Asks_size (Nat.le_add_left 1 d) 1 (pc1 := 49) (ls1 := [some (.ref 38)]) (st1 := [.ref 38]) (σ1 := (S0, m)) rfl ?_
    obtain ⟨q19, hq19, h⟩ := Option.bind_eq_some_iff.mp h
    refine am_AW.callV ok_Asks_size am_nw_ok (As := []) (rest := []) rfl rfl rfl oR_Asks_sizeOfFixed lk_Asks_39 iM_Asks_sizeOfFixed sE_Asks_sizeOfFixed (qc := kq1) rfl rfl rfl rfl (Nat.le_of_ble_eq_true rfl) (f_Asks_sizeOfFixed_ok (d := d) (by omega)  hq19) ?_
    change am_AW am_nw ro (d + 1) mr_Asks_size 52 [some (.ref 38)] [.int q19.1] (S0, q19.2) (some (.int r)) (S0, m')
    obtain ⟨rfl, rfl⟩ := Prod.mk.inj (Option.some.inj h)
    exact am_AW.ret ok_Asks_size rfl rfl rfl rfl
  rw [if_neg c16] at h
  have o23 : ((m.1 38 3)).toInt < 2 ∨ 5 < ((m.1 38 3)).toInt := by
    have := lv_neT c1 (a := 2) (by decide)
    have := lv_neT c8 (a := 3) (by decide)
    have := lv_neT c12 (a := 4) (by decide)
    have := lv_neT c16 (a := 5) (by decide)
    omega
  refine am_AW.sw ok_Asks_size rfl (t := 53) (by simp only [am_sw, if_pos o23]; decide +kernel) ?_
  refine am_AW.run am_base_ok ok_Asks_size (Nat.le_add_left 1 d) 1 (pc1 := 54) (ls1 := [some (.ref 38)]) (st1 := [.ref 38]) (σ1 := (S0, m)) rfl ?_
  obtain ⟨q22, hq22, h⟩ := Option.bind_eq_some_iff.mp h
  refine am_AW.callV ok_Asks_size am_nw_ok (As := []) (rest := []) rfl rfl rfl oR_Asks_body11 lk_Asks_35 iM_Asks_body11 sE_Asks_body11 (qc := kq1) rfl rfl rfl rfl (Nat.le_of_ble_eq_true rfl) (f_Asks_body11_ok (d := d) (by omega)  hq22) ?_
  change am_AW am_nw ro (d + 1) mr_Asks_size 57 [some (.ref 38)] [.int q22.1] (S0, q22.2) (some (.int r)) (S0, m')
  obtain ⟨rfl, rfl⟩ := Prod.mk.inj (Option.some.inj h)
  exact am_AW.ret ok_Asks_size rfl rfl rfl rfl
/-! FriezePolygons$Asks.mark()I -/
def f_Asks_mark_b16 (m : am_Mm) : Option (Int32 × am_Mm) :=
  (f_Asks_body23 m).bind fun q4 =>
  some (q4.1, q4.2)
def f_Asks_mark (m : am_Mm) : Option (Int32 × am_Mm) :=
  if (m.1 38 3) = (4 : Int32) then
    f_Asks_mark_b16 m
  else
    if (m.1 38 3) = (5 : Int32) then
      f_Asks_mark_b16 m
    else
      (f_Asks_markOfPlain m).bind fun q8 =>
      some (q8.1, q8.2)
set_option maxHeartbeats 4000000 in
set_option maxRecDepth 100000 in
theorem f_Asks_mark_b16_ok {ro : am_Ro} {d : Nat} (hd : 6 ≤ d + 1) {m m' : am_Mm} {r : Int32} (h : f_Asks_mark_b16  m = some (r, m')) : am_AW am_nw ro (d + 1) mr_Asks_mark 16 [some (.ref 38)] [] (S0, m) (some (.int r)) (S0, m') := by
  unfold f_Asks_mark_b16 at h
  refine am_AW.run am_base_ok ok_Asks_mark (Nat.le_add_left 1 d) 1 (pc1 := 17) (ls1 := [some (.ref 38)]) (st1 := [.ref 38]) (σ1 := (S0, m)) rfl ?_
  obtain ⟨q4, hq4, h⟩ := Option.bind_eq_some_iff.mp h
  refine am_AW.callV ok_Asks_mark am_nw_ok (As := []) (rest := []) rfl rfl rfl oR_Asks_body23 lk_Asks_42 iM_Asks_body23 sE_Asks_body23 (qc := kq1) rfl rfl rfl rfl (Nat.le_of_ble_eq_true rfl) (f_Asks_body23_ok (d := d) (by omega)  hq4) ?_
  change am_AW am_nw ro (d + 1) mr_Asks_mark 20 [some (.ref 38)] [.int q4.1] (S0, q4.2) (some (.int r)) (S0, m')
  refine am_AW.run am_base_ok ok_Asks_mark (Nat.le_add_left 1 d) 1 (pc1 := 27) (ls1 := [some (.ref 38)]) (st1 := [.int q4.1]) (σ1 := (S0, q4.2)) rfl ?_
  obtain ⟨rfl, rfl⟩ := Prod.mk.inj (Option.some.inj h)
  exact am_AW.ret ok_Asks_mark rfl rfl rfl rfl
set_option maxHeartbeats 4000000 in
set_option maxRecDepth 100000 in
theorem f_Asks_mark_ok {ro : am_Ro} {d : Nat} (hd : 6 ≤ d) {m m' : am_Mm} {r : Int32} (h : f_Asks_mark  m = some (r, m')) : am_Mt am_nw ro d mr_Asks_mark [.ref 38] (S0, m) (some (.int r)) (S0, m') := by
  obtain ⟨d, rfl⟩ : ∃ d0, d = d0 + 1 := ⟨d - 1, by omega⟩
  refine am_Mt.of (by decide +kernel) (Nat.le_of_ble_eq_true rfl) ?_
  change am_AW am_nw ro (d + 1) mr_Asks_mark 0 [some (.ref 38)] [] (S0, m) (some (.int r)) (S0, m')
  unfold f_Asks_mark at h
  refine am_AW.run am_base_ok ok_Asks_mark (Nat.le_add_left 1 d) 3 (pc1 := 5) (ls1 := [some (.ref 38)]) (st1 := [.int (4 : Int32), .int (m.1 38 3)]) (σ1 := (S0, m)) rfl ?_
  refine am_AW.brP ok_Asks_mark rfl rfl am_c_eq (fun c1 => ?_) (fun c1 => ?_)
  · rw [if_pos c1] at h
    exact am_AW.weak (f_Asks_mark_b16_ok hd   h) (by simp only [am_le, and_self])
  · rw [if_neg c1] at h
    refine am_AW.run am_base_ok ok_Asks_mark (Nat.le_add_left 1 d) 3 (pc1 := 13) (ls1 := [some (.ref 38)]) (st1 := [.int (5 : Int32), .int (m.1 38 3)]) (σ1 := (S0, m)) rfl ?_
    refine am_AW.brN ok_Asks_mark rfl rfl am_c_ne (fun c5 => ?_) (fun c5 => ?_)
    · rw [if_pos c5] at h
      exact am_AW.weak (f_Asks_mark_b16_ok hd   h) (by simp only [am_le, and_self])
    · rw [if_neg c5] at h
      refine am_AW.run am_base_ok ok_Asks_mark (Nat.le_add_left 1 d) 1 (pc1 := 24) (ls1 := [some (.ref 38)]) (st1 := [.ref 38]) (σ1 := (S0, m)) rfl ?_
      obtain ⟨q8, hq8, h⟩ := Option.bind_eq_some_iff.mp h
      refine am_AW.callV ok_Asks_mark am_nw_ok (As := []) (rest := []) rfl rfl rfl oR_Asks_markOfPlain lk_Asks_45 iM_Asks_markOfPlain sE_Asks_markOfPlain (qc := kq1) rfl rfl rfl rfl (Nat.le_of_ble_eq_true rfl) (f_Asks_markOfPlain_ok (d := d) (by omega)  hq8) ?_
      change am_AW am_nw ro (d + 1) mr_Asks_mark 27 [some (.ref 38)] [.int q8.1] (S0, q8.2) (some (.int r)) (S0, m')
      obtain ⟨rfl, rfl⟩ := Prod.mk.inj (Option.some.inj h)
      exact am_AW.ret ok_Asks_mark rfl rfl rfl rfl
/-! FriezePolygons.polygon()I -/
def f_C_polygon (m : am_Mm) : Option (Int32 × am_Mm) :=
  (f_Tape_read m).bind fun q3 =>
  if q3.1 = (0 : Int32) then
    some (((-1000100 : Int32) - (q3.2.1 2 5)), q3.2)
  else
    (f_C_putInPlace 3 q3.2).bind fun q7 =>
    some ((q7.1 13 2), q7)
set_option maxHeartbeats 4000000 in
set_option maxRecDepth 100000 in
theorem f_C_polygon_ok {ro : am_Ro} {d : Nat} (hd : 6 ≤ d) {m m' : am_Mm} {r : Int32} (h : f_C_polygon  m = some (r, m')) : am_Mt am_nw ro d mr_C_polygon [.ref 0] (S0, m) (some (.int r)) (S0, m') := by
  obtain ⟨d, rfl⟩ : ∃ d0, d = d0 + 1 := ⟨d - 1, by omega⟩
  refine am_Mt.of (by decide +kernel) (Nat.le_of_ble_eq_true rfl) ?_
  change am_AW am_nw ro (d + 1) mr_C_polygon 0 [some (.ref 0)] [] (S0, m) (some (.int r)) (S0, m')
  unfold f_C_polygon at h
  refine am_AW.run am_base_ok ok_C_polygon (Nat.le_add_left 1 d) 2 (pc1 := 4) (ls1 := [some (.ref 0)]) (st1 := [.ref 2]) (σ1 := (S0, m)) rfl ?_
  obtain ⟨q3, hq3, h⟩ := Option.bind_eq_some_iff.mp h
  refine am_AW.callV ok_C_polygon am_nw_ok (As := []) (rest := []) rfl rfl rfl oR_Tape_read lk_C_139 iM_Tape_read sE_Tape_read (qc := kq8) rfl rfl rfl rfl (Nat.le_of_ble_eq_true rfl) (f_Tape_read_ok (d := d) (by omega)  hq3) ?_
  change am_AW am_nw ro (d + 1) mr_C_polygon 7 [some (.ref 0)] [.int q3.1] (S0, q3.2) (some (.int r)) (S0, m')
  refine am_AW.brN ok_C_polygon rfl rfl am_c_ne (fun c4 => ?_) (fun c4 => ?_)
  · rw [if_pos c4] at h
    refine am_AW.run am_base_ok ok_C_polygon (Nat.le_add_left 1 d) 5 (pc1 := 20) (ls1 := [some (.ref 0)]) (st1 := [.int ((-1000100 : Int32) - (q3.2.1 2 5))]) (σ1 := (S0, q3.2)) rfl ?_
    obtain ⟨rfl, rfl⟩ := Prod.mk.inj (Option.some.inj h)
    exact am_AW.ret ok_C_polygon rfl rfl rfl rfl
  · rw [if_neg c4] at h
    refine am_AW.run am_base_ok ok_C_polygon (Nat.le_add_left 1 d) 4 (pc1 := 29) (ls1 := [some (.ref 0)]) (st1 := [.ref 3, .ref 0]) (σ1 := (S0, q3.2)) rfl ?_
    obtain ⟨q7, hq7, h⟩ := Option.bind_eq_some_iff.mp h
    refine am_AW.callV ok_C_polygon am_nw_ok (As := [.ref 3]) (rest := []) rfl rfl rfl oR_C_putInPlace lk_C_150 iM_C_putInPlace sE_C_putInPlace (qc := kq9) rfl rfl rfl rfl (Nat.le_of_ble_eq_true rfl) (f_C_putInPlace_ok (d := d) (by omega) 3 (by simp) hq7) ?_
    change am_AW am_nw ro (d + 1) mr_C_polygon 32 [some (.ref 0)] [] (S0, q7) (some (.int r)) (S0, m')
    refine am_AW.run am_base_ok ok_C_polygon (Nat.le_add_left 1 d) 3 (pc1 := 39) (ls1 := [some (.ref 0)]) (st1 := [.int (q7.1 13 2)]) (σ1 := (S0, q7)) rfl ?_
    obtain ⟨rfl, rfl⟩ := Prod.mk.inj (Option.some.inj h)
    exact am_AW.ret ok_C_polygon rfl rfl rfl rfl
/-! FriezePolygons.likes(I)I -/
def f_C_likes_b22 (x1 : Int32) (m : am_Mm) : Option (Int32 × am_Mm) :=
  (f_C_gatherLikenesses m).bind fun q8 =>
  if x1 = (0 : Int32) then
    (f_C_leastOf q8.1 q8.2).bind fun q12 =>
    some (q12.1, q12.2)
  else
    some (q8.1, q8.2)
def f_C_likes (x1 : Int32) (m : am_Mm) : Option (Int32 × am_Mm) :=
  (f_C_isThere m).bind fun q3 =>
  if q3.1 = (0 : Int32) then
    some ((-1000002 : Int32), q3.2)
  else
    if x1 = (0 : Int32) then
      f_C_likes_b22 x1 q3.2
    else
      if x1 = (1 : Int32) then
        f_C_likes_b22 x1 q3.2
      else
        some ((-1000001 : Int32), q3.2)
set_option maxHeartbeats 4000000 in
set_option maxRecDepth 100000 in
theorem f_C_likes_b22_ok {ro : am_Ro} {d : Nat} (hd : 6 ≤ d + 1) (x1 : Int32) {m m' : am_Mm} {r : Int32} (h : f_C_likes_b22 x1 m = some (r, m')) : am_AW am_nw ro (d + 1) mr_C_likes 22 [some (.ref 0), some (.int x1), none] [] (S0, m) (some (.int r)) (S0, m') := by
  unfold f_C_likes_b22 at h
  refine am_AW.run am_base_ok ok_C_likes (Nat.le_add_left 1 d) 1 (pc1 := 23) (ls1 := [some (.ref 0), some (.int x1), none]) (st1 := [.ref 0]) (σ1 := (S0, m)) rfl ?_
  obtain ⟨q8, hq8, h⟩ := Option.bind_eq_some_iff.mp h
  refine am_AW.callV ok_C_likes am_nw_ok (As := []) (rest := []) rfl rfl rfl oR_C_gatherLikenesses lk_C_273 iM_C_gatherLikenesses sE_C_gatherLikenesses (qc := kq9) rfl rfl rfl rfl (Nat.le_of_ble_eq_true rfl) (f_C_gatherLikenesses_ok (d := d) (by omega)  hq8) ?_
  change am_AW am_nw ro (d + 1) mr_C_likes 26 [some (.ref 0), some (.int x1), none] [.int q8.1] (S0, q8.2) (some (.int r)) (S0, m')
  refine am_AW.run am_base_ok ok_C_likes (Nat.le_add_left 1 d) 2 (pc1 := 28) (ls1 := [some (.ref 0), some (.int x1), some (.int q8.1)]) (st1 := [.int x1]) (σ1 := (S0, q8.2)) rfl ?_
  refine am_AW.brN ok_C_likes rfl rfl am_c_ne (fun c9 => ?_) (fun c9 => ?_)
  · rw [if_pos c9] at h
    refine am_AW.run am_base_ok ok_C_likes (Nat.le_add_left 1 d) 2 (pc1 := 33) (ls1 := [some (.ref 0), some (.int x1), some (.int q8.1)]) (st1 := [.int q8.1, .ref 0]) (σ1 := (S0, q8.2)) rfl ?_
    obtain ⟨q12, hq12, h⟩ := Option.bind_eq_some_iff.mp h
    refine am_AW.callV ok_C_likes am_nw_ok (As := [.int q8.1]) (rest := []) rfl rfl rfl oR_C_leastOf lk_C_276 iM_C_leastOf sE_C_leastOf (qc := kq9) rfl rfl rfl rfl (Nat.le_of_ble_eq_true rfl) (f_C_leastOf_ok (d := d) (by omega) q8.1 hq12) ?_
    change am_AW am_nw ro (d + 1) mr_C_likes 36 [some (.ref 0), some (.int x1), some (.int q8.1)] [.int q12.1] (S0, q12.2) (some (.int r)) (S0, m')
    refine am_AW.run am_base_ok ok_C_likes (Nat.le_add_left 1 d) 1 (pc1 := 40) (ls1 := [some (.ref 0), some (.int x1), some (.int q8.1)]) (st1 := [.int q12.1]) (σ1 := (S0, q12.2)) rfl ?_
    obtain ⟨rfl, rfl⟩ := Prod.mk.inj (Option.some.inj h)
    exact am_AW.ret ok_C_likes rfl rfl rfl rfl
  · rw [if_neg c9] at h
    refine am_AW.run am_base_ok ok_C_likes (Nat.le_add_left 1 d) 1 (pc1 := 40) (ls1 := [some (.ref 0), some (.int x1), some (.int q8.1)]) (st1 := [.int q8.1]) (σ1 := (S0, q8.2)) rfl ?_
    obtain ⟨rfl, rfl⟩ := Prod.mk.inj (Option.some.inj h)
    exact am_AW.ret ok_C_likes rfl rfl rfl rfl
set_option maxHeartbeats 4000000 in
set_option maxRecDepth 100000 in
theorem f_C_likes_ok {ro : am_Ro} {d : Nat} (hd : 6 ≤ d) (x1 : Int32) {m m' : am_Mm} {r : Int32} (h : f_C_likes x1 m = some (r, m')) : am_Mt am_nw ro d mr_C_likes [.ref 0, .int x1] (S0, m) (some (.int r)) (S0, m') := by
  obtain ⟨d, rfl⟩ : ∃ d0, d = d0 + 1 := ⟨d - 1, by omega⟩
  refine am_Mt.of (by decide +kernel) (Nat.le_of_ble_eq_true rfl) ?_
  change am_AW am_nw ro (d + 1) mr_C_likes 0 [some (.ref 0), some (.int x1), none] [] (S0, m) (some (.int r)) (S0, m')
  unfold f_C_likes at h
  refine am_AW.run am_base_ok ok_C_likes (Nat.le_add_left 1 d) 1 (pc1 := 1) (ls1 := [some (.ref 0), some (.int x1), none]) (st1 := [.ref 0]) (σ1 := (S0, m)) rfl ?_
  obtain ⟨q3, hq3, h⟩ := Option.bind_eq_some_iff.mp h
  refine am_AW.callV ok_C_likes am_nw_ok (As := []) (rest := []) rfl rfl rfl oR_C_isThere lk_C_198 iM_C_isThere sE_C_isThere (qc := kq9) rfl rfl rfl rfl (Nat.le_of_ble_eq_true rfl) (f_C_isThere_ok (d := d) (by omega)  hq3) ?_
  change am_AW am_nw ro (d + 1) mr_C_likes 4 [some (.ref 0), some (.int x1), none] [.int q3.1] (S0, q3.2) (some (.int r)) (S0, m')
  refine am_AW.brN ok_C_likes rfl rfl am_c_ne (fun c4 => ?_) (fun c4 => ?_)
  · rw [if_pos c4] at h
    refine am_AW.run am_base_ok ok_C_likes (Nat.le_add_left 1 d) 1 (pc1 := 9) (ls1 := [some (.ref 0), some (.int x1), none]) (st1 := [.int (-1000002 : Int32)]) (σ1 := (S0, q3.2)) rfl ?_
    obtain ⟨rfl, rfl⟩ := Prod.mk.inj (Option.some.inj h)
    exact am_AW.ret ok_C_likes rfl rfl rfl rfl
  · rw [if_neg c4] at h
    refine am_AW.run am_base_ok ok_C_likes (Nat.le_add_left 1 d) 1 (pc1 := 11) (ls1 := [some (.ref 0), some (.int x1), none]) (st1 := [.int x1]) (σ1 := (S0, q3.2)) rfl ?_
    refine am_AW.brP ok_C_likes rfl rfl am_c_eq (fun c5 => ?_) (fun c5 => ?_)
    · rw [if_pos c5] at h
      exact am_AW.weak (f_C_likes_b22_ok hd x1  h) (by simp only [am_le, and_self])
    · rw [if_neg c5] at h
      refine am_AW.run am_base_ok ok_C_likes (Nat.le_add_left 1 d) 2 (pc1 := 16) (ls1 := [some (.ref 0), some (.int x1), none]) (st1 := [.int (1 : Int32), .int x1]) (σ1 := (S0, q3.2)) rfl ?_
      refine am_AW.brP ok_C_likes rfl rfl am_c_eq (fun c13 => ?_) (fun c13 => ?_)
      · rw [if_pos c13] at h
        exact am_AW.weak (f_C_likes_b22_ok hd x1  h) (by simp only [am_le, and_self])
      · rw [if_neg c13] at h
        refine am_AW.run am_base_ok ok_C_likes (Nat.le_add_left 1 d) 1 (pc1 := 21) (ls1 := [some (.ref 0), some (.int x1), none]) (st1 := [.int (-1000001 : Int32)]) (σ1 := (S0, q3.2)) rfl ?_
        obtain ⟨rfl, rfl⟩ := Prod.mk.inj (Option.some.inj h)
        exact am_AW.ret ok_C_likes rfl rfl rfl rfl
/-! FriezePolygons.flips(I)I -/
def f_C_flips_b43 (m : am_Mm) : Option (Int32 × am_Mm) :=
  (f_C_fine (-1000000 : Int32) m).bind fun q12 =>
  some (q12.1, q12.2)
def f_C_flips (x1 : Int32) (m : am_Mm) : Option (Int32 × am_Mm) :=
  (f_C_refusalOfWhole x1 (0 : Int32) m).bind fun q3 =>
  if q3.1 = (0 : Int32) then
    if am_in x1 8 = true then
      (f_Ears_cutsOf (am_rw x1) (0 : Int32) q3.2).bind fun q8 =>
      if q8.1 < (0 : Int32) then
        f_C_flips_b43 q8.2
      else
        (f_C_isTriangled q8.2).bind fun q15 =>
        if q15.1 = (0 : Int32) then
          f_C_flips_b43 q15.2
        else
          (f_FlipSearch_fewest (q15.2.1 13 3) q8.1 q15.2).bind fun q19 =>
          (f_C_fine q19.1 q19.2).bind fun q22 =>
          some (q22.1, q22.2)
    else none
  else
    some (q3.1, q3.2)
set_option maxHeartbeats 4000000 in
set_option maxRecDepth 100000 in
theorem f_C_flips_b43_ok {ro : am_Ro} {d : Nat} (hd : 6 ≤ d + 1) {m m' : am_Mm} {r : Int32} (h : f_C_flips_b43  m = some (r, m')) : am_AW am_nw ro (d + 1) mr_C_flips 43 [some (.ref 0), none, none, none] [] (S0, m) (some (.int r)) (S0, m') := by
  unfold f_C_flips_b43 at h
  refine am_AW.run am_base_ok ok_C_flips (Nat.le_add_left 1 d) 2 (pc1 := 46) (ls1 := [some (.ref 0), none, none, none]) (st1 := [.int (-1000000 : Int32), .ref 0]) (σ1 := (S0, m)) rfl ?_
  obtain ⟨q12, hq12, h⟩ := Option.bind_eq_some_iff.mp h
  refine am_AW.callV ok_C_flips am_nw_ok (As := [.int (-1000000 : Int32)]) (rest := []) rfl rfl rfl oR_C_fine lk_C_100 iM_C_fine sE_C_fine (qc := kq9) rfl rfl rfl rfl (Nat.le_of_ble_eq_true rfl) (f_C_fine_ok (d := d) (by omega) (-1000000 : Int32) hq12) ?_
  change am_AW am_nw ro (d + 1) mr_C_flips 49 [some (.ref 0), none, none, none] [.int q12.1] (S0, q12.2) (some (.int r)) (S0, m')
  obtain ⟨rfl, rfl⟩ := Prod.mk.inj (Option.some.inj h)
  exact am_AW.ret ok_C_flips rfl rfl rfl rfl
set_option maxHeartbeats 4000000 in
set_option maxRecDepth 100000 in
theorem f_C_flips_ok {ro : am_Ro} {d : Nat} (hd : 6 ≤ d) (x1 : Int32) {m m' : am_Mm} {r : Int32} (h : f_C_flips x1 m = some (r, m')) : am_Mt am_nw ro d mr_C_flips [.ref 0, .int x1] (S0, m) (some (.int r)) (S0, m') := by
  obtain ⟨d, rfl⟩ : ∃ d0, d = d0 + 1 := ⟨d - 1, by omega⟩
  refine am_Mt.of (by decide +kernel) (Nat.le_of_ble_eq_true rfl) ?_
  change am_AW am_nw ro (d + 1) mr_C_flips 0 [some (.ref 0), some (.int x1), none, none] [] (S0, m) (some (.int r)) (S0, m')
  unfold f_C_flips at h
  refine am_AW.run am_base_ok ok_C_flips (Nat.le_add_left 1 d) 3 (pc1 := 3) (ls1 := [some (.ref 0), some (.int x1), none, none]) (st1 := [.int (0 : Int32), .int x1, .ref 0]) (σ1 := (S0, m)) rfl ?_
  obtain ⟨q3, hq3, h⟩ := Option.bind_eq_some_iff.mp h
  refine am_AW.callV ok_C_flips am_nw_ok (As := [.int x1, .int (0 : Int32)]) (rest := []) rfl rfl rfl oR_C_refusalOfWhole lk_C_214 iM_C_refusalOfWhole sE_C_refusalOfWhole (qc := kq9) rfl rfl rfl rfl (Nat.le_of_ble_eq_true rfl) (f_C_refusalOfWhole_ok (d := d) (by omega) x1 (0 : Int32) hq3) ?_
  change am_AW am_nw ro (d + 1) mr_C_flips 6 [some (.ref 0), some (.int x1), none, none] [.int q3.1] (S0, q3.2) (some (.int r)) (S0, m')
  refine am_AW.run am_base_ok ok_C_flips (Nat.le_add_left 1 d) 2 (pc1 := 8) (ls1 := [some (.ref 0), some (.int x1), some (.int q3.1), none]) (st1 := [.int q3.1]) (σ1 := (S0, q3.2)) rfl ?_
  refine am_AW.brP ok_C_flips rfl rfl am_c_eq (fun c4 => ?_) (fun c4 => ?_)
  · rw [if_pos c4] at h
    refine am_AW.run am_base_ok ok_C_flips (Nat.le_add_left 1 d) 5 (pc1 := 22) (ls1 := [some (.ref 0), some (.int x1), some (.int q3.1), none]) (st1 := [.int x1, .ref 1, .ref 33]) (σ1 := (S0, q3.2)) rfl ?_
    by_cases g5 : am_in x1 8 = true
    rotate_left
    · rw [if_neg g5] at h
      cases h
    rw [if_pos g5] at h
    refine am_AW.aald ok_C_flips (Nat.le_add_left 1 d) rfl (am_rw_at g5) ?_
    refine am_AW.run am_base_ok ok_C_flips (Nat.le_add_left 1 d) 3 (pc1 := 28) (ls1 := [some (.ref 0), some (.int x1), some (.int q3.1), none]) (st1 := [.ref 20, .int (0 : Int32), .ref (am_rw x1), .ref 33]) (σ1 := (S0, q3.2)) rfl ?_
    obtain ⟨q8, hq8, h⟩ := Option.bind_eq_some_iff.mp h
    refine am_AW.callV ok_C_flips am_nw_ok (As := [.ref (am_rw x1), .int (0 : Int32), .ref 20]) (rest := []) rfl rfl rfl oR_Ears_cutsOf lk_C_217 iM_Ears_cutsOf sE_Ears_cutsOf (qc := kq2) rfl rfl rfl rfl (Nat.le_of_ble_eq_true rfl) (f_Ears_cutsOf_ok (d := d) (by omega) (am_rw x1) (0 : Int32) (am_rw_in g5) hq8) ?_
    change am_AW am_nw ro (d + 1) mr_C_flips 31 [some (.ref 0), some (.int x1), some (.int q3.1), none] [.int q8.1] (S0, q8.2) (some (.int r)) (S0, m')
    refine am_AW.run am_base_ok ok_C_flips (Nat.le_add_left 1 d) 2 (pc1 := 33) (ls1 := [some (.ref 0), some (.int x1), some (.int q3.1), some (.int q8.1)]) (st1 := [.int q8.1]) (σ1 := (S0, q8.2)) rfl ?_
    refine am_AW.brP ok_C_flips rfl rfl am_c_lt (fun c9 => ?_) (fun c9 => ?_)
    · rw [if_pos c9] at h
      exact am_AW.weak (f_C_flips_b43_ok hd   h) (by simp only [am_le, and_self])
    · rw [if_neg c9] at h
      refine am_AW.run am_base_ok ok_C_flips (Nat.le_add_left 1 d) 1 (pc1 := 37) (ls1 := [some (.ref 0), some (.int x1), some (.int q3.1), some (.int q8.1)]) (st1 := [.ref 0]) (σ1 := (S0, q8.2)) rfl ?_
      obtain ⟨q15, hq15, h⟩ := Option.bind_eq_some_iff.mp h
      refine am_AW.callV ok_C_flips am_nw_ok (As := []) (rest := []) rfl rfl rfl oR_C_isTriangled lk_C_262 iM_C_isTriangled sE_C_isTriangled (qc := kq9) rfl rfl rfl rfl (Nat.le_of_ble_eq_true rfl) (f_C_isTriangled_ok (d := d) (by omega)  hq15) ?_
      change am_AW am_nw ro (d + 1) mr_C_flips 40 [some (.ref 0), some (.int x1), some (.int q3.1), some (.int q8.1)] [.int q15.1] (S0, q15.2) (some (.int r)) (S0, m')
      refine am_AW.brN ok_C_flips rfl rfl am_c_ne (fun c16 => ?_) (fun c16 => ?_)
      · rw [if_pos c16] at h
        exact am_AW.weak (f_C_flips_b43_ok hd   h) (by simp only [am_le, and_self])
      · rw [if_neg c16] at h
        refine am_AW.run am_base_ok ok_C_flips (Nat.le_add_left 1 d) 9 (pc1 := 67) (ls1 := [some (.ref 0), some (.int x1), some (.int q3.1), some (.int q8.1)]) (st1 := [.int q8.1, .int (q15.2.1 13 3), .ref 20, .ref 35, .ref 0]) (σ1 := (S0, q15.2)) rfl ?_
        obtain ⟨q19, hq19, h⟩ := Option.bind_eq_some_iff.mp h
        refine am_AW.callV ok_C_flips am_nw_ok (As := [.ref 20, .int (q15.2.1 13 3), .int q8.1]) (rest := [.ref 0]) rfl rfl rfl oR_FlipSearch_fewest lk_C_279 iM_FlipSearch_fewest sE_FlipSearch_fewest (qc := kq4) rfl rfl rfl rfl (Nat.le_of_ble_eq_true rfl) (f_FlipSearch_fewest_ok (d := d) (by omega) (q15.2.1 13 3) q8.1 hq19) ?_
        change am_AW am_nw ro (d + 1) mr_C_flips 70 [some (.ref 0), some (.int x1), some (.int q3.1), some (.int q8.1)] [.int q19.1, .ref 0] (S0, q19.2) (some (.int r)) (S0, m')
        obtain ⟨q22, hq22, h⟩ := Option.bind_eq_some_iff.mp h
        refine am_AW.callV ok_C_flips am_nw_ok (As := [.int q19.1]) (rest := []) rfl rfl rfl oR_C_fine lk_C_100 iM_C_fine sE_C_fine (qc := kq9) rfl rfl rfl rfl (Nat.le_of_ble_eq_true rfl) (f_C_fine_ok (d := d) (by omega) q19.1 hq22) ?_
        change am_AW am_nw ro (d + 1) mr_C_flips 73 [some (.ref 0), some (.int x1), some (.int q3.1), some (.int q8.1)] [.int q22.1] (S0, q22.2) (some (.int r)) (S0, m')
        obtain ⟨rfl, rfl⟩ := Prod.mk.inj (Option.some.inj h)
        exact am_AW.ret ok_C_flips rfl rfl rfl rfl
  · rw [if_neg c4] at h
    refine am_AW.run am_base_ok ok_C_flips (Nat.le_add_left 1 d) 1 (pc1 := 12) (ls1 := [some (.ref 0), some (.int x1), some (.int q3.1), none]) (st1 := [.int q3.1]) (σ1 := (S0, q3.2)) rfl ?_
    obtain ⟨rfl, rfl⟩ := Prod.mk.inj (Option.some.inj h)
    exact am_AW.ret ok_C_flips rfl rfl rfl rfl
/-! FriezePolygons.who(IIIII)I -/
def f_C_who (x1 : Int32) (x2 : Int32) (x3 : Int32) (x4 : Int32) (x5 : Int32) (m : am_Mm) : Option (Int32 × am_Mm) :=
  (f_C_isCorner x1 m).bind fun q3 =>
  if q3.1 = (0 : Int32) then
    some ((-1000001 : Int32), q3.2)
  else
    if x2 < (0 : Int32) then
      some ((-1000001 : Int32), q3.2)
    else
      if (2 : Int32) < x2 then
        some ((-1000001 : Int32), q3.2)
      else
        (f_C_isRow x3 q3.2).bind fun q9 =>
        if q9.1 = (0 : Int32) then
          some ((-1000001 : Int32), q9.2)
        else
          if x5 < (1 : Int32) then
            some ((-1000001 : Int32), q9.2)
          else
            if x5 ≤ (q9.2.1 13 2) then
              (f_C_troubleOf x3 x4 x5 q9.2).bind fun q15 =>
              if q15.1 = (0 : Int32) then
                if x2 = (0 : Int32) then
                  if am_in x3 8 = true then
                    (f_C_kindsBy x1 (am_rw x3) x4 x5 q15.2).bind fun q21 =>
                    (f_C_fine q21.1 q21.2).bind fun q24 =>
                    some (q24.1, q24.2)
                  else none
                else
                  if x2 = (1 : Int32) then
                    if am_in x3 8 = true then
                      (f_C_ownBy x1 (am_rw x3) x4 x5 q15.2).bind fun q29 =>
                      (f_C_fine q29.1 q29.2).bind fun q32 =>
                      some (q32.1, q32.2)
                    else none
                  else
                    if am_in x3 8 = true then
                      (f_C_cutsBy (am_rw x3) x4 x5 q15.2).bind fun q36 =>
                      (f_C_fine q36.1 q36.2).bind fun q39 =>
                      some (q39.1, q39.2)
                    else none
              else
                (f_C_found q15.1 q15.2).bind fun q42 =>
                some (q42.1, q42.2)
            else
              some ((-1000001 : Int32), q9.2)
set_option maxHeartbeats 4000000 in
set_option maxRecDepth 100000 in
theorem f_C_who_ok {ro : am_Ro} {d : Nat} (hd : 6 ≤ d) (x1 : Int32) (x2 : Int32) (x3 : Int32) (x4 : Int32) (x5 : Int32) {m m' : am_Mm} {r : Int32} (h : f_C_who x1 x2 x3 x4 x5 m = some (r, m')) : am_Mt am_nw ro d mr_C_who [.ref 0, .int x1, .int x2, .int x3, .int x4, .int x5] (S0, m) (some (.int r)) (S0, m') := by
  obtain ⟨d, rfl⟩ : ∃ d0, d = d0 + 1 := ⟨d - 1, by omega⟩
  refine am_Mt.of (by decide +kernel) (Nat.le_of_ble_eq_true rfl) ?_
  change am_AW am_nw ro (d + 1) mr_C_who 0 [some (.ref 0), some (.int x1), some (.int x2), some (.int x3), some (.int x4), some (.int x5), none] [] (S0, m) (some (.int r)) (S0, m')
  unfold f_C_who at h
  refine am_AW.run am_base_ok ok_C_who (Nat.le_add_left 1 d) 2 (pc1 := 2) (ls1 := [some (.ref 0), some (.int x1), some (.int x2), some (.int x3), some (.int x4), some (.int x5), none]) (st1 := [.int x1, .ref 0]) (σ1 := (S0, m)) rfl ?_
  obtain ⟨q3, hq3, h⟩ := Option.bind_eq_some_iff.mp h
  refine am_AW.callV ok_C_who am_nw_ok (As := [.int x1]) (rest := []) rfl rfl rfl oR_C_isCorner lk_C_201 iM_C_isCorner sE_C_isCorner (qc := kq9) rfl rfl rfl rfl (Nat.le_of_ble_eq_true rfl) (f_C_isCorner_ok (d := d) (by omega) x1 hq3) ?_
  change am_AW am_nw ro (d + 1) mr_C_who 5 [some (.ref 0), some (.int x1), some (.int x2), some (.int x3), some (.int x4), some (.int x5), none] [.int q3.1] (S0, q3.2) (some (.int r)) (S0, m')
  refine am_AW.brP ok_C_who rfl rfl am_c_eq (fun c4 => ?_) (fun c4 => ?_)
  · rw [if_pos c4] at h
    refine am_AW.run am_base_ok ok_C_who (Nat.le_add_left 1 d) 1 (pc1 := 44) (ls1 := [some (.ref 0), some (.int x1), some (.int x2), some (.int x3), some (.int x4), some (.int x5), none]) (st1 := [.int (-1000001 : Int32)]) (σ1 := (S0, q3.2)) rfl ?_
    obtain ⟨rfl, rfl⟩ := Prod.mk.inj (Option.some.inj h)
    exact am_AW.ret ok_C_who rfl rfl rfl rfl
  · rw [if_neg c4] at h
    refine am_AW.run am_base_ok ok_C_who (Nat.le_add_left 1 d) 1 (pc1 := 9) (ls1 := [some (.ref 0), some (.int x1), some (.int x2), some (.int x3), some (.int x4), some (.int x5), none]) (st1 := [.int x2]) (σ1 := (S0, q3.2)) rfl ?_
    refine am_AW.brP ok_C_who rfl rfl am_c_lt (fun c5 => ?_) (fun c5 => ?_)
    · rw [if_pos c5] at h
      refine am_AW.run am_base_ok ok_C_who (Nat.le_add_left 1 d) 1 (pc1 := 44) (ls1 := [some (.ref 0), some (.int x1), some (.int x2), some (.int x3), some (.int x4), some (.int x5), none]) (st1 := [.int (-1000001 : Int32)]) (σ1 := (S0, q3.2)) rfl ?_
      obtain ⟨rfl, rfl⟩ := Prod.mk.inj (Option.some.inj h)
      exact am_AW.ret ok_C_who rfl rfl rfl rfl
    · rw [if_neg c5] at h
      refine am_AW.run am_base_ok ok_C_who (Nat.le_add_left 1 d) 2 (pc1 := 14) (ls1 := [some (.ref 0), some (.int x1), some (.int x2), some (.int x3), some (.int x4), some (.int x5), none]) (st1 := [.int (2 : Int32), .int x2]) (σ1 := (S0, q3.2)) rfl ?_
      refine am_AW.brP ok_C_who rfl rfl am_c_gt (fun c6 => ?_) (fun c6 => ?_)
      · rw [if_pos c6] at h
        refine am_AW.run am_base_ok ok_C_who (Nat.le_add_left 1 d) 1 (pc1 := 44) (ls1 := [some (.ref 0), some (.int x1), some (.int x2), some (.int x3), some (.int x4), some (.int x5), none]) (st1 := [.int (-1000001 : Int32)]) (σ1 := (S0, q3.2)) rfl ?_
        obtain ⟨rfl, rfl⟩ := Prod.mk.inj (Option.some.inj h)
        exact am_AW.ret ok_C_who rfl rfl rfl rfl
      · rw [if_neg c6] at h
        refine am_AW.run am_base_ok ok_C_who (Nat.le_add_left 1 d) 1 (pc1 := 18) (ls1 := [some (.ref 0), some (.int x1), some (.int x2), some (.int x3), some (.int x4), some (.int x5), none]) (st1 := [.int x3]) (σ1 := (S0, q3.2)) rfl ?_
        obtain ⟨q9, hq9, h⟩ := Option.bind_eq_some_iff.mp h
        refine am_AW.callS ok_C_who am_nw_ok (As := [.int x3]) (rest := []) rfl rfl rfl oR_C_isRow lk_C_87 sT_C_isRow rfl (Nat.le_of_ble_eq_true rfl) (f_C_isRow_ok (d := d) (by omega) x3 hq9) ?_
        change am_AW am_nw ro (d + 1) mr_C_who 21 [some (.ref 0), some (.int x1), some (.int x2), some (.int x3), some (.int x4), some (.int x5), none] [.int q9.1] (S0, q9.2) (some (.int r)) (S0, m')
        refine am_AW.brP ok_C_who rfl rfl am_c_eq (fun c10 => ?_) (fun c10 => ?_)
        · rw [if_pos c10] at h
          refine am_AW.run am_base_ok ok_C_who (Nat.le_add_left 1 d) 1 (pc1 := 44) (ls1 := [some (.ref 0), some (.int x1), some (.int x2), some (.int x3), some (.int x4), some (.int x5), none]) (st1 := [.int (-1000001 : Int32)]) (σ1 := (S0, q9.2)) rfl ?_
          obtain ⟨rfl, rfl⟩ := Prod.mk.inj (Option.some.inj h)
          exact am_AW.ret ok_C_who rfl rfl rfl rfl
        · rw [if_neg c10] at h
          refine am_AW.run am_base_ok ok_C_who (Nat.le_add_left 1 d) 2 (pc1 := 27) (ls1 := [some (.ref 0), some (.int x1), some (.int x2), some (.int x3), some (.int x4), some (.int x5), none]) (st1 := [.int (1 : Int32), .int x5]) (σ1 := (S0, q9.2)) rfl ?_
          refine am_AW.brP ok_C_who rfl rfl am_c_lt (fun c11 => ?_) (fun c11 => ?_)
          · rw [if_pos c11] at h
            refine am_AW.run am_base_ok ok_C_who (Nat.le_add_left 1 d) 1 (pc1 := 44) (ls1 := [some (.ref 0), some (.int x1), some (.int x2), some (.int x3), some (.int x4), some (.int x5), none]) (st1 := [.int (-1000001 : Int32)]) (σ1 := (S0, q9.2)) rfl ?_
            obtain ⟨rfl, rfl⟩ := Prod.mk.inj (Option.some.inj h)
            exact am_AW.ret ok_C_who rfl rfl rfl rfl
          · rw [if_neg c11] at h
            refine am_AW.run am_base_ok ok_C_who (Nat.le_add_left 1 d) 4 (pc1 := 39) (ls1 := [some (.ref 0), some (.int x1), some (.int x2), some (.int x3), some (.int x4), some (.int x5), none]) (st1 := [.int (q9.2.1 13 2), .int x5]) (σ1 := (S0, q9.2)) rfl ?_
            refine am_AW.brP ok_C_who rfl rfl am_c_le (fun c12 => ?_) (fun c12 => ?_)
            · rw [if_pos c12] at h
              refine am_AW.run am_base_ok ok_C_who (Nat.le_add_left 1 d) 4 (pc1 := 51) (ls1 := [some (.ref 0), some (.int x1), some (.int x2), some (.int x3), some (.int x4), some (.int x5), none]) (st1 := [.int x5, .int x4, .int x3, .ref 0]) (σ1 := (S0, q9.2)) rfl ?_
              obtain ⟨q15, hq15, h⟩ := Option.bind_eq_some_iff.mp h
              refine am_AW.callV ok_C_who am_nw_ok (As := [.int x3, .int x4, .int x5]) (rest := []) rfl rfl rfl oR_C_troubleOf lk_C_103 iM_C_troubleOf sE_C_troubleOf (qc := kq9) rfl rfl rfl rfl (Nat.le_of_ble_eq_true rfl) (f_C_troubleOf_ok (d := d) (by omega) x3 x4 x5 hq15) ?_
              change am_AW am_nw ro (d + 1) mr_C_who 54 [some (.ref 0), some (.int x1), some (.int x2), some (.int x3), some (.int x4), some (.int x5), none] [.int q15.1] (S0, q15.2) (some (.int r)) (S0, m')
              refine am_AW.run am_base_ok ok_C_who (Nat.le_add_left 1 d) 2 (pc1 := 58) (ls1 := [some (.ref 0), some (.int x1), some (.int x2), some (.int x3), some (.int x4), some (.int x5), some (.int q15.1)]) (st1 := [.int q15.1]) (σ1 := (S0, q15.2)) rfl ?_
              refine am_AW.brP ok_C_who rfl rfl am_c_eq (fun c16 => ?_) (fun c16 => ?_)
              · rw [if_pos c16] at h
                refine am_AW.run am_base_ok ok_C_who (Nat.le_add_left 1 d) 1 (pc1 := 69) (ls1 := [some (.ref 0), some (.int x1), some (.int x2), some (.int x3), some (.int x4), some (.int x5), some (.int q15.1)]) (st1 := [.int x2]) (σ1 := (S0, q15.2)) rfl ?_
                by_cases c17 : x2 = (0 : Int32)
                · rw [if_pos c17] at h
                  refine am_AW.sw ok_C_who rfl (t := 96) (by rw [c17]; decide +kernel) ?_
                  refine am_AW.run am_base_ok ok_C_who (Nat.le_add_left 1 d) 6 (pc1 := 104) (ls1 := [some (.ref 0), some (.int x1), some (.int x2), some (.int x3), some (.int x4), some (.int x5), some (.int q15.1)]) (st1 := [.int x3, .ref 1, .int x1, .ref 0, .ref 0]) (σ1 := (S0, q15.2)) rfl ?_
                  by_cases g18 : am_in x3 8 = true
                  rotate_left
                  · rw [if_neg g18] at h
                    cases h
                  rw [if_pos g18] at h
                  refine am_AW.aald ok_C_who (Nat.le_add_left 1 d) rfl (am_rw_at g18) ?_
                  refine am_AW.run am_base_ok ok_C_who (Nat.le_add_left 1 d) 2 (pc1 := 109) (ls1 := [some (.ref 0), some (.int x1), some (.int x2), some (.int x3), some (.int x4), some (.int x5), some (.int q15.1)]) (st1 := [.int x5, .int x4, .ref (am_rw x3), .int x1, .ref 0, .ref 0]) (σ1 := (S0, q15.2)) rfl ?_
                  obtain ⟨q21, hq21, h⟩ := Option.bind_eq_some_iff.mp h
                  refine am_AW.callV ok_C_who am_nw_ok (As := [.int x1, .ref (am_rw x3), .int x4, .int x5]) (rest := [.ref 0]) rfl rfl rfl oR_C_kindsBy lk_C_286 iM_C_kindsBy sE_C_kindsBy (qc := kq9) rfl rfl rfl rfl (Nat.le_of_ble_eq_true rfl) (f_C_kindsBy_ok (d := d) (by omega) x1 (am_rw x3) x4 x5 (am_rw_in g18) hq21) ?_
                  change am_AW am_nw ro (d + 1) mr_C_who 112 [some (.ref 0), some (.int x1), some (.int x2), some (.int x3), some (.int x4), some (.int x5), some (.int q15.1)] [.int q21.1, .ref 0] (S0, q21.2) (some (.int r)) (S0, m')
                  obtain ⟨q24, hq24, h⟩ := Option.bind_eq_some_iff.mp h
                  refine am_AW.callV ok_C_who am_nw_ok (As := [.int q21.1]) (rest := []) rfl rfl rfl oR_C_fine lk_C_100 iM_C_fine sE_C_fine (qc := kq9) rfl rfl rfl rfl (Nat.le_of_ble_eq_true rfl) (f_C_fine_ok (d := d) (by omega) q21.1 hq24) ?_
                  change am_AW am_nw ro (d + 1) mr_C_who 115 [some (.ref 0), some (.int x1), some (.int x2), some (.int x3), some (.int x4), some (.int x5), some (.int q15.1)] [.int q24.1] (S0, q24.2) (some (.int r)) (S0, m')
                  obtain ⟨rfl, rfl⟩ := Prod.mk.inj (Option.some.inj h)
                  exact am_AW.ret ok_C_who rfl rfl rfl rfl
                rw [if_neg c17] at h
                by_cases c25 : x2 = (1 : Int32)
                · rw [if_pos c25] at h
                  refine am_AW.sw ok_C_who rfl (t := 116) (by rw [c25]; decide +kernel) ?_
                  refine am_AW.run am_base_ok ok_C_who (Nat.le_add_left 1 d) 6 (pc1 := 124) (ls1 := [some (.ref 0), some (.int x1), some (.int x2), some (.int x3), some (.int x4), some (.int x5), some (.int q15.1)]) (st1 := [.int x3, .ref 1, .int x1, .ref 0, .ref 0]) (σ1 := (S0, q15.2)) rfl ?_
                  by_cases g26 : am_in x3 8 = true
                  rotate_left
                  · rw [if_neg g26] at h
                    cases h
                  rw [if_pos g26] at h
                  refine am_AW.aald ok_C_who (Nat.le_add_left 1 d) rfl (am_rw_at g26) ?_
                  refine am_AW.run am_base_ok ok_C_who (Nat.le_add_left 1 d) 2 (pc1 := 129) (ls1 := [some (.ref 0), some (.int x1), some (.int x2), some (.int x3), some (.int x4), some (.int x5), some (.int q15.1)]) (st1 := [.int x5, .int x4, .ref (am_rw x3), .int x1, .ref 0, .ref 0]) (σ1 := (S0, q15.2)) rfl ?_
                  obtain ⟨q29, hq29, h⟩ := Option.bind_eq_some_iff.mp h
                  refine am_AW.callV ok_C_who am_nw_ok (As := [.int x1, .ref (am_rw x3), .int x4, .int x5]) (rest := [.ref 0]) rfl rfl rfl oR_C_ownBy lk_C_290 iM_C_ownBy sE_C_ownBy (qc := kq9) rfl rfl rfl rfl (Nat.le_of_ble_eq_true rfl) (f_C_ownBy_ok (d := d) (by omega) x1 (am_rw x3) x4 x5 (am_rw_in g26) hq29) ?_
                  change am_AW am_nw ro (d + 1) mr_C_who 132 [some (.ref 0), some (.int x1), some (.int x2), some (.int x3), some (.int x4), some (.int x5), some (.int q15.1)] [.int q29.1, .ref 0] (S0, q29.2) (some (.int r)) (S0, m')
                  obtain ⟨q32, hq32, h⟩ := Option.bind_eq_some_iff.mp h
                  refine am_AW.callV ok_C_who am_nw_ok (As := [.int q29.1]) (rest := []) rfl rfl rfl oR_C_fine lk_C_100 iM_C_fine sE_C_fine (qc := kq9) rfl rfl rfl rfl (Nat.le_of_ble_eq_true rfl) (f_C_fine_ok (d := d) (by omega) q29.1 hq32) ?_
                  change am_AW am_nw ro (d + 1) mr_C_who 135 [some (.ref 0), some (.int x1), some (.int x2), some (.int x3), some (.int x4), some (.int x5), some (.int q15.1)] [.int q32.1] (S0, q32.2) (some (.int r)) (S0, m')
                  obtain ⟨rfl, rfl⟩ := Prod.mk.inj (Option.some.inj h)
                  exact am_AW.ret ok_C_who rfl rfl rfl rfl
                rw [if_neg c25] at h
                refine am_AW.sw ok_C_who rfl (t := 136) (am_lsw (off := 67) (by decide +kernel) ((lv_osw c17 (by decide)).trans ((lv_osw c25 (by decide)).trans (rfl))) (by decide) (by decide)) ?_
                refine am_AW.run am_base_ok ok_C_who (Nat.le_add_left 1 d) 5 (pc1 := 143) (ls1 := [some (.ref 0), some (.int x1), some (.int x2), some (.int x3), some (.int x4), some (.int x5), some (.int q15.1)]) (st1 := [.int x3, .ref 1, .ref 0, .ref 0]) (σ1 := (S0, q15.2)) rfl ?_
                by_cases g33 : am_in x3 8 = true
                rotate_left
                · rw [if_neg g33] at h
                  cases h
                rw [if_pos g33] at h
                refine am_AW.aald ok_C_who (Nat.le_add_left 1 d) rfl (am_rw_at g33) ?_
                refine am_AW.run am_base_ok ok_C_who (Nat.le_add_left 1 d) 2 (pc1 := 148) (ls1 := [some (.ref 0), some (.int x1), some (.int x2), some (.int x3), some (.int x4), some (.int x5), some (.int q15.1)]) (st1 := [.int x5, .int x4, .ref (am_rw x3), .ref 0, .ref 0]) (σ1 := (S0, q15.2)) rfl ?_
                obtain ⟨q36, hq36, h⟩ := Option.bind_eq_some_iff.mp h
                refine am_AW.callV ok_C_who am_nw_ok (As := [.ref (am_rw x3), .int x4, .int x5]) (rest := [.ref 0]) rfl rfl rfl oR_C_cutsBy lk_C_293 iM_C_cutsBy sE_C_cutsBy (qc := kq9) rfl rfl rfl rfl (Nat.le_of_ble_eq_true rfl) (f_C_cutsBy_ok (d := d) (by omega) (am_rw x3) x4 x5 (am_rw_in g33) hq36) ?_
                change am_AW am_nw ro (d + 1) mr_C_who 151 [some (.ref 0), some (.int x1), some (.int x2), some (.int x3), some (.int x4), some (.int x5), some (.int q15.1)] [.int q36.1, .ref 0] (S0, q36.2) (some (.int r)) (S0, m')
                obtain ⟨q39, hq39, h⟩ := Option.bind_eq_some_iff.mp h
                refine am_AW.callV ok_C_who am_nw_ok (As := [.int q36.1]) (rest := []) rfl rfl rfl oR_C_fine lk_C_100 iM_C_fine sE_C_fine (qc := kq9) rfl rfl rfl rfl (Nat.le_of_ble_eq_true rfl) (f_C_fine_ok (d := d) (by omega) q36.1 hq39) ?_
                change am_AW am_nw ro (d + 1) mr_C_who 154 [some (.ref 0), some (.int x1), some (.int x2), some (.int x3), some (.int x4), some (.int x5), some (.int q15.1)] [.int q39.1] (S0, q39.2) (some (.int r)) (S0, m')
                obtain ⟨rfl, rfl⟩ := Prod.mk.inj (Option.some.inj h)
                exact am_AW.ret ok_C_who rfl rfl rfl rfl
              · rw [if_neg c16] at h
                refine am_AW.run am_base_ok ok_C_who (Nat.le_add_left 1 d) 2 (pc1 := 64) (ls1 := [some (.ref 0), some (.int x1), some (.int x2), some (.int x3), some (.int x4), some (.int x5), some (.int q15.1)]) (st1 := [.int q15.1, .ref 0]) (σ1 := (S0, q15.2)) rfl ?_
                obtain ⟨q42, hq42, h⟩ := Option.bind_eq_some_iff.mp h
                refine am_AW.callV ok_C_who am_nw_ok (As := [.int q15.1]) (rest := []) rfl rfl rfl oR_C_found lk_C_92 iM_C_found sE_C_found (qc := kq9) rfl rfl rfl rfl (Nat.le_of_ble_eq_true rfl) (f_C_found_ok (d := d) (by omega) q15.1 hq42) ?_
                change am_AW am_nw ro (d + 1) mr_C_who 67 [some (.ref 0), some (.int x1), some (.int x2), some (.int x3), some (.int x4), some (.int x5), some (.int q15.1)] [.int q42.1] (S0, q42.2) (some (.int r)) (S0, m')
                obtain ⟨rfl, rfl⟩ := Prod.mk.inj (Option.some.inj h)
                exact am_AW.ret ok_C_who rfl rfl rfl rfl
            · rw [if_neg c12] at h
              refine am_AW.run am_base_ok ok_C_who (Nat.le_add_left 1 d) 1 (pc1 := 44) (ls1 := [some (.ref 0), some (.int x1), some (.int x2), some (.int x3), some (.int x4), some (.int x5), none]) (st1 := [.int (-1000001 : Int32)]) (σ1 := (S0, q9.2)) rfl ?_
              obtain ⟨rfl, rfl⟩ := Prod.mk.inj (Option.some.inj h)
              exact am_AW.ret ok_C_who rfl rfl rfl rfl
/-! FriezePolygons.lost(III)J -/
def f_C_lost_b41 (m : am_Mm) : Option (Int64 × am_Mm) :=
  some ((-1000001 : Int64), m)
def f_C_lost (x1 : Int32) (x2 : Int32) (x3 : Int32) (m : am_Mm) : Option (Int64 × am_Mm) :=
  (f_C_isThere m).bind fun q3 =>
  if q3.1 = (0 : Int32) then
    some ((-1000002 : Int64), q3.2)
  else
    if x1 < (3 : Int32) then
      f_C_lost_b41 q3.2
    else
      if (9 : Int32) < x1 then
        f_C_lost_b41 q3.2
      else
        if x2 < (0 : Int32) then
          f_C_lost_b41 q3.2
        else
          if (10 : Int32) < x2 then
            f_C_lost_b41 q3.2
          else
            if x3 < (0 : Int32) then
              f_C_lost_b41 q3.2
            else
              if x3 ≤ (1 : Int32) then
                (f_Integer_bitCount (q3.2.1 13 3) q3.2).bind fun q13 =>
                (f_C_casesWithout x1 x2 q13.2).bind fun q16 =>
                (f_C_power (10 : Int32) q13.1 q16.2).bind fun q19 =>
                (f_C_sharedBy q16.1 q19.1 q19.2).bind fun q22 =>
                if (lg_cmp q22.1 (0 : Int64)) = (0 : Int32) then
                  some ((-1000001 : Int64), q22.2)
                else
                  if x3 = (0 : Int32) then
                    if q22.1 = (0 : Int64) then none else
                    some ((q16.1 / q22.1), q22.2)
                  else
                    if q22.1 = (0 : Int64) then none else
                    some ((q19.1 / q22.1), q22.2)
              else
                f_C_lost_b41 q3.2
set_option maxHeartbeats 4000000 in
set_option maxRecDepth 100000 in
theorem f_C_lost_b41_ok {ro : am_Ro} {d : Nat} (hd : 6 ≤ d + 1) {m m' : am_Mm} {r : Int64} (h : f_C_lost_b41  m = some (r, m')) : am_AW am_nw ro (d + 1) mr_C_lost 41 [none, none, none, none, none, none, none, none, none, none, none] [] (S0, m) (some (.long r)) (S0, m') := by
  unfold f_C_lost_b41 at h
  refine am_AW.run am_base_ok ok_C_lost (Nat.le_add_left 1 d) 1 (pc1 := 44) (ls1 := [none, none, none, none, none, none, none, none, none, none, none]) (st1 := [.long (-1000001 : Int64)]) (σ1 := (S0, m)) rfl ?_
  obtain ⟨rfl, rfl⟩ := Prod.mk.inj (Option.some.inj h)
  exact am_AW.ret ok_C_lost rfl rfl rfl rfl
set_option maxHeartbeats 4000000 in
set_option maxRecDepth 100000 in
theorem f_C_lost_ok {ro : am_Ro} {d : Nat} (hd : 6 ≤ d) (x1 : Int32) (x2 : Int32) (x3 : Int32) {m m' : am_Mm} {r : Int64} (h : f_C_lost x1 x2 x3 m = some (r, m')) : am_Mt am_nw ro d mr_C_lost [.ref 0, .int x1, .int x2, .int x3] (S0, m) (some (.long r)) (S0, m') := by
  obtain ⟨d, rfl⟩ : ∃ d0, d = d0 + 1 := ⟨d - 1, by omega⟩
  refine am_Mt.of (by decide +kernel) (Nat.le_of_ble_eq_true rfl) ?_
  change am_AW am_nw ro (d + 1) mr_C_lost 0 [some (.ref 0), some (.int x1), some (.int x2), some (.int x3), none, none, none, none, none, none, none] [] (S0, m) (some (.long r)) (S0, m')
  unfold f_C_lost at h
  refine am_AW.run am_base_ok ok_C_lost (Nat.le_add_left 1 d) 1 (pc1 := 1) (ls1 := [some (.ref 0), some (.int x1), some (.int x2), some (.int x3), none, none, none, none, none, none, none]) (st1 := [.ref 0]) (σ1 := (S0, m)) rfl ?_
  obtain ⟨q3, hq3, h⟩ := Option.bind_eq_some_iff.mp h
  refine am_AW.callV ok_C_lost am_nw_ok (As := []) (rest := []) rfl rfl rfl oR_C_isThere lk_C_198 iM_C_isThere sE_C_isThere (qc := kq9) rfl rfl rfl rfl (Nat.le_of_ble_eq_true rfl) (f_C_isThere_ok (d := d) (by omega)  hq3) ?_
  change am_AW am_nw ro (d + 1) mr_C_lost 4 [some (.ref 0), some (.int x1), some (.int x2), some (.int x3), none, none, none, none, none, none, none] [.int q3.1] (S0, q3.2) (some (.long r)) (S0, m')
  refine am_AW.brN ok_C_lost rfl rfl am_c_ne (fun c4 => ?_) (fun c4 => ?_)
  · rw [if_pos c4] at h
    refine am_AW.run am_base_ok ok_C_lost (Nat.le_add_left 1 d) 1 (pc1 := 10) (ls1 := [some (.ref 0), some (.int x1), some (.int x2), some (.int x3), none, none, none, none, none, none, none]) (st1 := [.long (-1000002 : Int64)]) (σ1 := (S0, q3.2)) rfl ?_
    obtain ⟨rfl, rfl⟩ := Prod.mk.inj (Option.some.inj h)
    exact am_AW.ret ok_C_lost rfl rfl rfl rfl
  · rw [if_neg c4] at h
    refine am_AW.run am_base_ok ok_C_lost (Nat.le_add_left 1 d) 2 (pc1 := 13) (ls1 := [some (.ref 0), some (.int x1), some (.int x2), some (.int x3), none, none, none, none, none, none, none]) (st1 := [.int (3 : Int32), .int x1]) (σ1 := (S0, q3.2)) rfl ?_
    refine am_AW.brP ok_C_lost rfl rfl am_c_lt (fun c5 => ?_) (fun c5 => ?_)
    · rw [if_pos c5] at h
      exact am_AW.weak (f_C_lost_b41_ok hd   h) (by simp only [am_le, and_self])
    · rw [if_neg c5] at h
      refine am_AW.run am_base_ok ok_C_lost (Nat.le_add_left 1 d) 2 (pc1 := 19) (ls1 := [some (.ref 0), some (.int x1), some (.int x2), some (.int x3), none, none, none, none, none, none, none]) (st1 := [.int (9 : Int32), .int x1]) (σ1 := (S0, q3.2)) rfl ?_
      refine am_AW.brP ok_C_lost rfl rfl am_c_gt (fun c6 => ?_) (fun c6 => ?_)
      · rw [if_pos c6] at h
        exact am_AW.weak (f_C_lost_b41_ok hd   h) (by simp only [am_le, and_self])
      · rw [if_neg c6] at h
        refine am_AW.run am_base_ok ok_C_lost (Nat.le_add_left 1 d) 1 (pc1 := 23) (ls1 := [some (.ref 0), some (.int x1), some (.int x2), some (.int x3), none, none, none, none, none, none, none]) (st1 := [.int x2]) (σ1 := (S0, q3.2)) rfl ?_
        refine am_AW.brP ok_C_lost rfl rfl am_c_lt (fun c7 => ?_) (fun c7 => ?_)
        · rw [if_pos c7] at h
          exact am_AW.weak (f_C_lost_b41_ok hd   h) (by simp only [am_le, and_self])
        · rw [if_neg c7] at h
          refine am_AW.run am_base_ok ok_C_lost (Nat.le_add_left 1 d) 2 (pc1 := 29) (ls1 := [some (.ref 0), some (.int x1), some (.int x2), some (.int x3), none, none, none, none, none, none, none]) (st1 := [.int (10 : Int32), .int x2]) (σ1 := (S0, q3.2)) rfl ?_
          refine am_AW.brP ok_C_lost rfl rfl am_c_gt (fun c8 => ?_) (fun c8 => ?_)
          · rw [if_pos c8] at h
            exact am_AW.weak (f_C_lost_b41_ok hd   h) (by simp only [am_le, and_self])
          · rw [if_neg c8] at h
            refine am_AW.run am_base_ok ok_C_lost (Nat.le_add_left 1 d) 1 (pc1 := 33) (ls1 := [some (.ref 0), some (.int x1), some (.int x2), some (.int x3), none, none, none, none, none, none, none]) (st1 := [.int x3]) (σ1 := (S0, q3.2)) rfl ?_
            refine am_AW.brP ok_C_lost rfl rfl am_c_lt (fun c9 => ?_) (fun c9 => ?_)
            · rw [if_pos c9] at h
              exact am_AW.weak (f_C_lost_b41_ok hd   h) (by simp only [am_le, and_self])
            · rw [if_neg c9] at h
              refine am_AW.run am_base_ok ok_C_lost (Nat.le_add_left 1 d) 2 (pc1 := 38) (ls1 := [some (.ref 0), some (.int x1), some (.int x2), some (.int x3), none, none, none, none, none, none, none]) (st1 := [.int (1 : Int32), .int x3]) (σ1 := (S0, q3.2)) rfl ?_
              refine am_AW.brP ok_C_lost rfl rfl am_c_le (fun c10 => ?_) (fun c10 => ?_)
              · rw [if_pos c10] at h
                refine am_AW.run am_base_ok ok_C_lost (Nat.le_add_left 1 d) 3 (pc1 := 52) (ls1 := [some (.ref 0), some (.int x1), some (.int x2), some (.int x3), none, none, none, none, none, none, none]) (st1 := [.int (q3.2.1 13 3)]) (σ1 := (S0, q3.2)) rfl ?_
                obtain ⟨q13, hq13, h⟩ := Option.bind_eq_some_iff.mp h
                refine am_AW.callS ok_C_lost am_nw_ok (As := [.int (q3.2.1 13 3)]) (rest := []) rfl rfl rfl oR_Integer_bitCount lk_C_180 sT_Integer_bitCount rfl (Nat.le_of_ble_eq_true rfl) (f_Integer_bitCount_ok (d := d) (by omega) (q3.2.1 13 3) hq13) ?_
                change am_AW am_nw ro (d + 1) mr_C_lost 55 [some (.ref 0), some (.int x1), some (.int x2), some (.int x3), none, none, none, none, none, none, none] [.int q13.1] (S0, q13.2) (some (.long r)) (S0, m')
                refine am_AW.run am_base_ok ok_C_lost (Nat.le_add_left 1 d) 4 (pc1 := 60) (ls1 := [some (.ref 0), some (.int x1), some (.int x2), some (.int x3), some (.int q13.1), none, none, none, none, none, none]) (st1 := [.int x2, .int x1, .ref 0]) (σ1 := (S0, q13.2)) rfl ?_
                obtain ⟨q16, hq16, h⟩ := Option.bind_eq_some_iff.mp h
                refine am_AW.callV ok_C_lost am_nw_ok (As := [.int x1, .int x2]) (rest := []) rfl rfl rfl oR_C_casesWithout lk_C_299 iM_C_casesWithout sE_C_casesWithout (qc := kq9) rfl rfl rfl rfl (Nat.le_of_ble_eq_true rfl) (f_C_casesWithout_ok (d := d) (by omega) x1 x2 hq16) ?_
                change am_AW am_nw ro (d + 1) mr_C_lost 63 [some (.ref 0), some (.int x1), some (.int x2), some (.int x3), some (.int q13.1), none, none, none, none, none, none] [.long q16.1] (S0, q16.2) (some (.long r)) (S0, m')
                refine am_AW.run am_base_ok ok_C_lost (Nat.le_add_left 1 d) 3 (pc1 := 69) (ls1 := [some (.ref 0), some (.int x1), some (.int x2), some (.int x3), some (.int q13.1), some (.long q16.1), none, none, none, none, none]) (st1 := [.int q13.1, .int (10 : Int32)]) (σ1 := (S0, q16.2)) rfl ?_
                obtain ⟨q19, hq19, h⟩ := Option.bind_eq_some_iff.mp h
                refine am_AW.callS ok_C_lost am_nw_ok (As := [.int (10 : Int32), .int q13.1]) (rest := []) rfl rfl rfl oR_C_power lk_C_303 sT_C_power rfl (Nat.le_of_ble_eq_true rfl) (f_C_power_ok (d := d) (by omega) (10 : Int32) q13.1 hq19) ?_
                change am_AW am_nw ro (d + 1) mr_C_lost 72 [some (.ref 0), some (.int x1), some (.int x2), some (.int x3), some (.int q13.1), some (.long q16.1), none, none, none, none, none] [.long q19.1] (S0, q19.2) (some (.long r)) (S0, m')
                refine am_AW.run am_base_ok ok_C_lost (Nat.le_add_left 1 d) 3 (pc1 := 78) (ls1 := [some (.ref 0), some (.int x1), some (.int x2), some (.int x3), some (.int q13.1), some (.long q16.1), none, some (.long q19.1), none, none, none]) (st1 := [.long q19.1, .long q16.1]) (σ1 := (S0, q19.2)) rfl ?_
                obtain ⟨q22, hq22, h⟩ := Option.bind_eq_some_iff.mp h
                refine am_AW.callS ok_C_lost am_nw_ok (As := [.long q16.1, .long q19.1]) (rest := []) rfl rfl rfl oR_C_sharedBy lk_C_306 sT_C_sharedBy rfl (Nat.le_of_ble_eq_true rfl) (f_C_sharedBy_ok (d := d) (by omega) q16.1 q19.1 hq22) ?_
                change am_AW am_nw ro (d + 1) mr_C_lost 81 [some (.ref 0), some (.int x1), some (.int x2), some (.int x3), some (.int q13.1), some (.long q16.1), none, some (.long q19.1), none, none, none] [.long q22.1] (S0, q22.2) (some (.long r)) (S0, m')
                refine am_AW.run am_base_ok ok_C_lost (Nat.le_add_left 1 d) 4 (pc1 := 87) (ls1 := [some (.ref 0), some (.int x1), some (.int x2), some (.int x3), some (.int q13.1), some (.long q16.1), none, some (.long q19.1), none, some (.long q22.1), none]) (st1 := [.int (lg_cmp q22.1 (0 : Int64))]) (σ1 := (S0, q22.2)) rfl ?_
                refine am_AW.brN ok_C_lost rfl rfl am_c_ne (fun c23 => ?_) (fun c23 => ?_)
                · rw [if_pos c23] at h
                  refine am_AW.run am_base_ok ok_C_lost (Nat.le_add_left 1 d) 1 (pc1 := 93) (ls1 := [some (.ref 0), some (.int x1), some (.int x2), some (.int x3), some (.int q13.1), some (.long q16.1), none, some (.long q19.1), none, some (.long q22.1), none]) (st1 := [.long (-1000001 : Int64)]) (σ1 := (S0, q22.2)) rfl ?_
                  obtain ⟨rfl, rfl⟩ := Prod.mk.inj (Option.some.inj h)
                  exact am_AW.ret ok_C_lost rfl rfl rfl rfl
                · rw [if_neg c23] at h
                  refine am_AW.run am_base_ok ok_C_lost (Nat.le_add_left 1 d) 1 (pc1 := 95) (ls1 := [some (.ref 0), some (.int x1), some (.int x2), some (.int x3), some (.int q13.1), some (.long q16.1), none, some (.long q19.1), none, some (.long q22.1), none]) (st1 := [.int x3]) (σ1 := (S0, q22.2)) rfl ?_
                  refine am_AW.brN ok_C_lost rfl rfl am_c_ne (fun c24 => ?_) (fun c24 => ?_)
                  · rw [if_pos c24] at h
                    refine am_AW.run am_base_ok ok_C_lost (Nat.le_add_left 1 d) 2 (pc1 := 102) (ls1 := [some (.ref 0), some (.int x1), some (.int x2), some (.int x3), some (.int q13.1), some (.long q16.1), none, some (.long q19.1), none, some (.long q22.1), none]) (st1 := [.long q22.1, .long q16.1]) (σ1 := (S0, q22.2)) rfl ?_
                    by_cases g25 : q22.1 = (0 : Int64)
                    · rw [if_pos g25] at h
                      cases h
                    rw [if_neg g25] at h
                    refine am_AW.dvl ok_C_lost (Nat.le_add_left 1 d) (w := (q16.1 / q22.1)) (Or.inl ⟨rfl, rfl⟩) rfl g25 ?_
                    refine am_AW.run am_base_ok ok_C_lost (Nat.le_add_left 1 d) 1 (pc1 := 111) (ls1 := [some (.ref 0), some (.int x1), some (.int x2), some (.int x3), some (.int q13.1), some (.long q16.1), none, some (.long q19.1), none, some (.long q22.1), none]) (st1 := [.long (q16.1 / q22.1)]) (σ1 := (S0, q22.2)) rfl ?_
                    obtain ⟨rfl, rfl⟩ := Prod.mk.inj (Option.some.inj h)
                    exact am_AW.ret ok_C_lost rfl rfl rfl rfl
                  · rw [if_neg c24] at h
                    refine am_AW.run am_base_ok ok_C_lost (Nat.le_add_left 1 d) 2 (pc1 := 110) (ls1 := [some (.ref 0), some (.int x1), some (.int x2), some (.int x3), some (.int q13.1), some (.long q16.1), none, some (.long q19.1), none, some (.long q22.1), none]) (st1 := [.long q22.1, .long q19.1]) (σ1 := (S0, q22.2)) rfl ?_
                    by_cases g26 : q22.1 = (0 : Int64)
                    · rw [if_pos g26] at h
                      cases h
                    rw [if_neg g26] at h
                    refine am_AW.dvl ok_C_lost (Nat.le_add_left 1 d) (w := (q19.1 / q22.1)) (Or.inl ⟨rfl, rfl⟩) rfl g26 ?_
                    obtain ⟨rfl, rfl⟩ := Prod.mk.inj (Option.some.inj h)
                    exact am_AW.ret ok_C_lost rfl rfl rfl rfl
              · rw [if_neg c10] at h
                exact am_AW.weak (f_C_lost_b41_ok hd   h) (by simp only [am_le, and_self])
/-! FriezePolygonsModel.polygon()I -/
def f_M_polygon_b158 : Nat → Int32 → am_Mm → Option (Int32 × am_Mm)
  | 0, _, _ => none
  | n + 1, x1, m =>
    if (20 : Int32) ≤ x1 then
      some ((m.1 67 0), m)
    else
      if am_in x1 20 = true then
        if am_in x1 20 = true then
          f_M_polygon_b158 n (x1 + (1 : Int32)) (am_pI m 67 x1.toNatClampNeg (m.1 68 x1.toNatClampNeg))
        else none
      else none
def f_M_polygon_b123 (m : am_Mm) : Option (Int32 × am_Mm) :=
  if ((am_pI m 63 10 (0 : Int32)).1 63 15) ≤ (0 : Int32) then
    f_M_polygon_b158 am_F (0 : Int32) (am_pI (am_pI m 63 10 (0 : Int32)) 63 8 (0 : Int32))
  else
    some (((-1000100 : Int32) - ((am_pI (am_pI m 63 10 (0 : Int32)) 63 17 ((am_pI m 63 10 (0 : Int32)).1 63 15)).1 63 16)), (am_pI (am_pI m 63 10 (0 : Int32)) 63 17 ((am_pI m 63 10 (0 : Int32)).1 63 15)))
def f_M_polygon_b92 : Nat → Int32 → am_Mm → Option (Int32 × am_Mm)
  | 0, _, _ => none
  | n + 1, x1, m =>
    if (6 : Int32) < x1 then
      f_M_polygon_b123 m
    else
      if (m.1 63 15) = (0 : Int32) then
        if (m.1 63 13) = (1 : Int32) then
          f_M_polygon_b123 m
        else
          (f_M_readCut m).bind fun q16 =>
          f_M_polygon_b92 n (x1 + (1 : Int32)) q16
      else
        f_M_polygon_b123 m
def f_M_polygon_b90 (m : am_Mm) : Option (Int32 × am_Mm) :=
  f_M_polygon_b92 am_F (0 : Int32) m
def f_M_polygon_b80 (k37 : Int32 → am_Mm → Option (Int32 × am_Mm)) (x1 : Int32) (m : am_Mm) : Option (Int32 × am_Mm) :=
  (f_M_readCorner m).bind fun q21 =>
  k37 (x1 + (1 : Int32)) q21
def f_M_polygon_b37 : Nat → Int32 → am_Mm → Option (Int32 × am_Mm)
  | 0, _, _ => none
  | n + 1, x1, m =>
    if (9 : Int32) < x1 then
      f_M_polygon_b90 m
    else
      if (m.1 63 15) = (0 : Int32) then
        if x1 < (4 : Int32) then
          f_M_polygon_b80 (f_M_polygon_b37 n) x1 m
        else
          if (m.1 63 13) = (1 : Int32) then
            f_M_polygon_b90 m
          else
            if (m.1 63 13) = (2 : Int32) then
              if (m.1 63 14) = (100 : Int32) then
                f_M_polygon_b90 m
              else
                f_M_polygon_b80 (f_M_polygon_b37 n) x1 m
            else
              f_M_polygon_b80 (f_M_polygon_b37 n) x1 m
      else
        f_M_polygon_b90 m
def f_M_polygon_b16 : Nat → Int32 → am_Mm → Option (Int32 × am_Mm)
  | 0, _, _ => none
  | n + 1, x1, m =>
    if (20 : Int32) ≤ x1 then
      f_M_polygon_b37 am_F (0 : Int32) m
    else
      if am_in x1 20 = true then
        f_M_polygon_b16 n (x1 + (1 : Int32)) (am_pI m 68 x1.toNatClampNeg (0 : Int32))
      else none
def f_M_polygon (m : am_Mm) : Option (Int32 × am_Mm) :=
  (f_M_nextToken (am_pI (am_pI m 63 11 (0 : Int32)) 63 15 (0 : Int32))).bind fun q3 =>
  f_M_polygon_b16 am_F (0 : Int32) q3
set_option maxHeartbeats 4000000 in
set_option maxRecDepth 100000 in
theorem f_M_polygon_b158_all {ro : am_Ro} {d : Nat} (hd : 6 ≤ d + 1) : ∀ (n : Nat) (x1 : Int32) (m m' : am_Mm) (r : Int32), f_M_polygon_b158 n x1 m = some (r, m') → am_AW am_nw ro (d + 1) mr_M_polygon 158 [some (.ref 63), some (.int x1)] [] (S0, m) (some (.int r)) (S0, m') := by
  intro n
  induction n with
  | zero =>
    intro x1 m m' r h
    rw [f_M_polygon_b158] at h
    cases h
  | succ n ih =>
    intro x1 m m' r h
    rw [f_M_polygon_b158] at h
    refine am_AW.run am_base_ok ok_M_polygon (Nat.le_add_left 1 d) 2 (pc1 := 161) (ls1 := [some (.ref 63), some (.int x1)]) (st1 := [.int (20 : Int32), .int x1]) (σ1 := (S0, m)) rfl ?_
    refine am_AW.brP ok_M_polygon rfl rfl am_c_ge (fun c8 => ?_) (fun c8 => ?_)
    · rw [if_pos c8] at h
      refine am_AW.run am_base_ok ok_M_polygon (Nat.le_add_left 1 d) 3 (pc1 := 187) (ls1 := [some (.ref 63), some (.int x1)]) (st1 := [.int (0 : Int32), .ref 67]) (σ1 := (S0, m)) rfl ?_
      refine am_AW.iald ok_M_polygon (Nat.le_add_left 1 d) S0_len rfl rfl (by decide) ?_
      change am_AW am_nw ro (d + 1) mr_M_polygon 188 [some (.ref 63), some (.int x1)] [.int (m.1 67 0)] (S0, m) (some (.int r)) (S0, m')
      obtain ⟨rfl, rfl⟩ := Prod.mk.inj (Option.some.inj h)
      exact am_AW.ret ok_M_polygon rfl rfl rfl rfl
    · rw [if_neg c8] at h
      refine am_AW.run am_base_ok ok_M_polygon (Nat.le_add_left 1 d) 6 (pc1 := 174) (ls1 := [some (.ref 63), some (.int x1)]) (st1 := [.int x1, .ref 68, .int x1, .ref 67]) (σ1 := (S0, m)) rfl ?_
      by_cases g10 : am_in x1 20 = true
      rotate_left
      · rw [if_neg g10] at h
        cases h
      rw [if_pos g10] at h
      refine am_AW.iald ok_M_polygon (Nat.le_add_left 1 d) S0_len rfl rfl g10 ?_
      by_cases g11 : am_in x1 20 = true
      rotate_left
      · rw [if_neg g11] at h
        cases h
      rw [if_pos g11] at h
      refine am_AW.iast ok_M_polygon (Nat.le_add_left 1 d) rfl rfl g11 ?_
      change am_AW am_nw ro (d + 1) mr_M_polygon 176 [some (.ref 63), some (.int x1)] [] (S0, (am_pI m 67 x1.toNatClampNeg (m.1 68 x1.toNatClampNeg))) (some (.int r)) (S0, m')
      refine am_AW.run am_base_ok ok_M_polygon (Nat.le_add_left 1 d) 2 (pc1 := 158) (ls1 := [some (.ref 63), some (.int (x1 + (1 : Int32)))]) (st1 := []) (σ1 := (S0, (am_pI m 67 x1.toNatClampNeg (m.1 68 x1.toNatClampNeg)))) rfl ?_
      exact am_AW.weak (ih (x1 + (1 : Int32))  _ _ _ h) (by simp only [am_le, and_self])
set_option maxHeartbeats 4000000 in
set_option maxRecDepth 100000 in
theorem f_M_polygon_b158_ok {ro : am_Ro} {d : Nat} (hd : 6 ≤ d + 1) (x1 : Int32) {m m' : am_Mm} {r : Int32} {n : Nat} (h : f_M_polygon_b158 n x1 m = some (r, m')) : am_AW am_nw ro (d + 1) mr_M_polygon 158 [some (.ref 63), some (.int x1)] [] (S0, m) (some (.int r)) (S0, m') :=
  f_M_polygon_b158_all hd n x1  m m' r h
set_option maxHeartbeats 4000000 in
set_option maxRecDepth 100000 in
theorem f_M_polygon_b123_ok {ro : am_Ro} {d : Nat} (hd : 6 ≤ d + 1) {m m' : am_Mm} {r : Int32} (h : f_M_polygon_b123  m = some (r, m')) : am_AW am_nw ro (d + 1) mr_M_polygon 123 [some (.ref 63), none] [] (S0, m) (some (.int r)) (S0, m') := by
  unfold f_M_polygon_b123 at h
  refine am_AW.run am_base_ok ok_M_polygon (Nat.le_add_left 1 d) 2 (pc1 := 125) (ls1 := [some (.ref 63), none]) (st1 := [.int (0 : Int32), .ref 63]) (σ1 := (S0, m)) rfl ?_
  refine am_AW.puti ok_M_polygon (Nat.le_add_left 1 d) rfl rfl rfl (qc := kq10) rfl (by decide) ty_10_10 ?_
  refine am_AW.run am_base_ok ok_M_polygon (Nat.le_add_left 1 d) 2 (pc1 := 132) (ls1 := [some (.ref 63), none]) (st1 := [.int ((am_pI m 63 10 (0 : Int32)).1 63 15)]) (σ1 := (S0, (am_pI m 63 10 (0 : Int32)))) rfl ?_
  refine am_AW.brP ok_M_polygon rfl rfl am_c_le (fun c7 => ?_) (fun c7 => ?_)
  · rw [if_pos c7] at h
    refine am_AW.run am_base_ok ok_M_polygon (Nat.le_add_left 1 d) 2 (pc1 := 153) (ls1 := [some (.ref 63), none]) (st1 := [.int (0 : Int32), .ref 63]) (σ1 := (S0, (am_pI m 63 10 (0 : Int32)))) rfl ?_
    refine am_AW.puti ok_M_polygon (Nat.le_add_left 1 d) rfl rfl rfl (qc := kq10) rfl (by decide) ty_10_8 ?_
    refine am_AW.run am_base_ok ok_M_polygon (Nat.le_add_left 1 d) 2 (pc1 := 158) (ls1 := [some (.ref 63), some (.int (0 : Int32))]) (st1 := []) (σ1 := (S0, (am_pI (am_pI m 63 10 (0 : Int32)) 63 8 (0 : Int32)))) rfl ?_
    exact am_AW.weak (f_M_polygon_b158_ok hd (0 : Int32)  h) (by simp only [am_le, and_self])
  · rw [if_neg c7] at h
    refine am_AW.run am_base_ok ok_M_polygon (Nat.le_add_left 1 d) 3 (pc1 := 140) (ls1 := [some (.ref 63), none]) (st1 := [.int ((am_pI m 63 10 (0 : Int32)).1 63 15), .ref 63]) (σ1 := (S0, (am_pI m 63 10 (0 : Int32)))) rfl ?_
    refine am_AW.puti ok_M_polygon (Nat.le_add_left 1 d) rfl rfl rfl (qc := kq10) rfl (by decide) ty_10_17 ?_
    refine am_AW.run am_base_ok ok_M_polygon (Nat.le_add_left 1 d) 4 (pc1 := 150) (ls1 := [some (.ref 63), none]) (st1 := [.int ((-1000100 : Int32) - ((am_pI (am_pI m 63 10 (0 : Int32)) 63 17 ((am_pI m 63 10 (0 : Int32)).1 63 15)).1 63 16))]) (σ1 := (S0, (am_pI (am_pI m 63 10 (0 : Int32)) 63 17 ((am_pI m 63 10 (0 : Int32)).1 63 15)))) rfl ?_
    obtain ⟨rfl, rfl⟩ := Prod.mk.inj (Option.some.inj h)
    exact am_AW.ret ok_M_polygon rfl rfl rfl rfl
set_option maxHeartbeats 4000000 in
set_option maxRecDepth 100000 in
theorem f_M_polygon_b92_all {ro : am_Ro} {d : Nat} (hd : 6 ≤ d + 1) : ∀ (n : Nat) (x1 : Int32) (m m' : am_Mm) (r : Int32), f_M_polygon_b92 n x1 m = some (r, m') → am_AW am_nw ro (d + 1) mr_M_polygon 92 [some (.ref 63), some (.int x1)] [] (S0, m) (some (.int r)) (S0, m') := by
  intro n
  induction n with
  | zero =>
    intro x1 m m' r h
    rw [f_M_polygon_b92] at h
    cases h
  | succ n ih =>
    intro x1 m m' r h
    rw [f_M_polygon_b92] at h
    refine am_AW.run am_base_ok ok_M_polygon (Nat.le_add_left 1 d) 2 (pc1 := 95) (ls1 := [some (.ref 63), some (.int x1)]) (st1 := [.int (6 : Int32), .int x1]) (σ1 := (S0, m)) rfl ?_
    refine am_AW.brP ok_M_polygon rfl rfl am_c_gt (fun c6 => ?_) (fun c6 => ?_)
    · rw [if_pos c6] at h
      exact am_AW.weak (f_M_polygon_b123_ok hd   h) (by simp only [am_le, and_self])
    · rw [if_neg c6] at h
      refine am_AW.run am_base_ok ok_M_polygon (Nat.le_add_left 1 d) 2 (pc1 := 102) (ls1 := [some (.ref 63), some (.int x1)]) (st1 := [.int (m.1 63 15)]) (σ1 := (S0, m)) rfl ?_
      refine am_AW.brN ok_M_polygon rfl rfl am_c_ne (fun c12 => ?_) (fun c12 => ?_)
      · rw [if_pos c12] at h
        refine am_AW.run am_base_ok ok_M_polygon (Nat.le_add_left 1 d) 3 (pc1 := 110) (ls1 := [some (.ref 63), some (.int x1)]) (st1 := [.int (1 : Int32), .int (m.1 63 13)]) (σ1 := (S0, m)) rfl ?_
        refine am_AW.brP ok_M_polygon rfl rfl am_c_eq (fun c13 => ?_) (fun c13 => ?_)
        · rw [if_pos c13] at h
          exact am_AW.weak (f_M_polygon_b123_ok hd   h) (by simp only [am_le, and_self])
        · rw [if_neg c13] at h
          refine am_AW.run am_base_ok ok_M_polygon (Nat.le_add_left 1 d) 1 (pc1 := 114) (ls1 := [some (.ref 63), some (.int x1)]) (st1 := [.ref 63]) (σ1 := (S0, m)) rfl ?_
          obtain ⟨q16, hq16, h⟩ := Option.bind_eq_some_iff.mp h
          refine am_AW.callV ok_M_polygon am_nw_ok (As := []) (rest := []) rfl rfl rfl oR_M_readCut lk_M_177 iM_M_readCut sE_M_readCut (qc := kq10) rfl rfl rfl rfl (Nat.le_of_ble_eq_true rfl) (f_M_readCut_ok (d := d) (by omega)  hq16) ?_
          change am_AW am_nw ro (d + 1) mr_M_polygon 117 [some (.ref 63), some (.int x1)] [] (S0, q16) (some (.int r)) (S0, m')
          refine am_AW.run am_base_ok ok_M_polygon (Nat.le_add_left 1 d) 2 (pc1 := 92) (ls1 := [some (.ref 63), some (.int (x1 + (1 : Int32)))]) (st1 := []) (σ1 := (S0, q16)) rfl ?_
          exact am_AW.weak (ih (x1 + (1 : Int32))  _ _ _ h) (by simp only [am_le, and_self])
      · rw [if_neg c12] at h
        exact am_AW.weak (f_M_polygon_b123_ok hd   h) (by simp only [am_le, and_self])
set_option maxHeartbeats 4000000 in
set_option maxRecDepth 100000 in
theorem f_M_polygon_b92_ok {ro : am_Ro} {d : Nat} (hd : 6 ≤ d + 1) (x1 : Int32) {m m' : am_Mm} {r : Int32} {n : Nat} (h : f_M_polygon_b92 n x1 m = some (r, m')) : am_AW am_nw ro (d + 1) mr_M_polygon 92 [some (.ref 63), some (.int x1)] [] (S0, m) (some (.int r)) (S0, m') :=
  f_M_polygon_b92_all hd n x1  m m' r h
set_option maxHeartbeats 4000000 in
set_option maxRecDepth 100000 in
theorem f_M_polygon_b90_ok {ro : am_Ro} {d : Nat} (hd : 6 ≤ d + 1) {m m' : am_Mm} {r : Int32} (h : f_M_polygon_b90  m = some (r, m')) : am_AW am_nw ro (d + 1) mr_M_polygon 90 [some (.ref 63), none] [] (S0, m) (some (.int r)) (S0, m') := by
  unfold f_M_polygon_b90 at h
  refine am_AW.run am_base_ok ok_M_polygon (Nat.le_add_left 1 d) 2 (pc1 := 92) (ls1 := [some (.ref 63), some (.int (0 : Int32))]) (st1 := []) (σ1 := (S0, m)) rfl ?_
  exact am_AW.weak (f_M_polygon_b92_ok hd (0 : Int32)  h) (by simp only [am_le, and_self])
set_option maxHeartbeats 4000000 in
set_option maxRecDepth 100000 in
theorem f_M_polygon_b80_ok {ro : am_Ro} {d : Nat} (hd : 6 ≤ d + 1) {k37 : Int32 → am_Mm → Option (Int32 × am_Mm)} (hk37 : ∀ (x1 : Int32) (m m' : am_Mm) (r : Int32), k37 x1 m = some (r, m') → am_AW am_nw ro (d + 1) mr_M_polygon 37 [some (.ref 63), some (.int x1)] [] (S0, m) (some (.int r)) (S0, m')) (x1 : Int32) {m m' : am_Mm} {r : Int32} (h : f_M_polygon_b80 k37 x1 m = some (r, m')) : am_AW am_nw ro (d + 1) mr_M_polygon 80 [some (.ref 63), some (.int x1)] [] (S0, m) (some (.int r)) (S0, m') := by
  unfold f_M_polygon_b80 at h
  refine am_AW.run am_base_ok ok_M_polygon (Nat.le_add_left 1 d) 1 (pc1 := 81) (ls1 := [some (.ref 63), some (.int x1)]) (st1 := [.ref 63]) (σ1 := (S0, m)) rfl ?_
  obtain ⟨q21, hq21, h⟩ := Option.bind_eq_some_iff.mp h
  refine am_AW.callV ok_M_polygon am_nw_ok (As := []) (rest := []) rfl rfl rfl oR_M_readCorner lk_M_174 iM_M_readCorner sE_M_readCorner (qc := kq10) rfl rfl rfl rfl (Nat.le_of_ble_eq_true rfl) (f_M_readCorner_ok (d := d) (by omega)  hq21) ?_
  change am_AW am_nw ro (d + 1) mr_M_polygon 84 [some (.ref 63), some (.int x1)] [] (S0, q21) (some (.int r)) (S0, m')
  refine am_AW.run am_base_ok ok_M_polygon (Nat.le_add_left 1 d) 2 (pc1 := 37) (ls1 := [some (.ref 63), some (.int (x1 + (1 : Int32)))]) (st1 := []) (σ1 := (S0, q21)) rfl ?_
  exact am_AW.weak (hk37 (x1 + (1 : Int32))  _ _ _ h) (by simp only [am_le, and_self])
set_option maxHeartbeats 4000000 in
set_option maxRecDepth 100000 in
theorem f_M_polygon_b37_all {ro : am_Ro} {d : Nat} (hd : 6 ≤ d + 1) : ∀ (n : Nat) (x1 : Int32) (m m' : am_Mm) (r : Int32), f_M_polygon_b37 n x1 m = some (r, m') → am_AW am_nw ro (d + 1) mr_M_polygon 37 [some (.ref 63), some (.int x1)] [] (S0, m) (some (.int r)) (S0, m') := by
  intro n
  induction n with
  | zero =>
    intro x1 m m' r h
    rw [f_M_polygon_b37] at h
    cases h
  | succ n ih =>
    intro x1 m m' r h
    rw [f_M_polygon_b37] at h
    refine am_AW.run am_base_ok ok_M_polygon (Nat.le_add_left 1 d) 2 (pc1 := 40) (ls1 := [some (.ref 63), some (.int x1)]) (st1 := [.int (9 : Int32), .int x1]) (σ1 := (S0, m)) rfl ?_
    refine am_AW.brP ok_M_polygon rfl rfl am_c_gt (fun c5 => ?_) (fun c5 => ?_)
    · rw [if_pos c5] at h
      exact am_AW.weak (f_M_polygon_b90_ok hd   h) (by simp only [am_le, and_self])
    · rw [if_neg c5] at h
      refine am_AW.run am_base_ok ok_M_polygon (Nat.le_add_left 1 d) 2 (pc1 := 47) (ls1 := [some (.ref 63), some (.int x1)]) (st1 := [.int (m.1 63 15)]) (σ1 := (S0, m)) rfl ?_
      refine am_AW.brN ok_M_polygon rfl rfl am_c_ne (fun c17 => ?_) (fun c17 => ?_)
      · rw [if_pos c17] at h
        refine am_AW.run am_base_ok ok_M_polygon (Nat.le_add_left 1 d) 2 (pc1 := 52) (ls1 := [some (.ref 63), some (.int x1)]) (st1 := [.int (4 : Int32), .int x1]) (σ1 := (S0, m)) rfl ?_
        refine am_AW.brP ok_M_polygon rfl rfl am_c_lt (fun c18 => ?_) (fun c18 => ?_)
        · rw [if_pos c18] at h
          exact am_AW.weak (f_M_polygon_b80_ok hd (ih) x1  h) (by simp only [am_le, and_self])
        · rw [if_neg c18] at h
          refine am_AW.run am_base_ok ok_M_polygon (Nat.le_add_left 1 d) 3 (pc1 := 60) (ls1 := [some (.ref 63), some (.int x1)]) (st1 := [.int (1 : Int32), .int (m.1 63 13)]) (σ1 := (S0, m)) rfl ?_
          refine am_AW.brP ok_M_polygon rfl rfl am_c_eq (fun c22 => ?_) (fun c22 => ?_)
          · rw [if_pos c22] at h
            exact am_AW.weak (f_M_polygon_b90_ok hd   h) (by simp only [am_le, and_self])
          · rw [if_neg c22] at h
            refine am_AW.run am_base_ok ok_M_polygon (Nat.le_add_left 1 d) 3 (pc1 := 68) (ls1 := [some (.ref 63), some (.int x1)]) (st1 := [.int (2 : Int32), .int (m.1 63 13)]) (σ1 := (S0, m)) rfl ?_
            refine am_AW.brN ok_M_polygon rfl rfl am_c_ne (fun c23 => ?_) (fun c23 => ?_)
            · rw [if_pos c23] at h
              refine am_AW.run am_base_ok ok_M_polygon (Nat.le_add_left 1 d) 3 (pc1 := 77) (ls1 := [some (.ref 63), some (.int x1)]) (st1 := [.int (100 : Int32), .int (m.1 63 14)]) (σ1 := (S0, m)) rfl ?_
              refine am_AW.brP ok_M_polygon rfl rfl am_c_eq (fun c24 => ?_) (fun c24 => ?_)
              · rw [if_pos c24] at h
                exact am_AW.weak (f_M_polygon_b90_ok hd   h) (by simp only [am_le, and_self])
              · rw [if_neg c24] at h
                exact am_AW.weak (f_M_polygon_b80_ok hd (ih) x1  h) (by simp only [am_le, and_self])
            · rw [if_neg c23] at h
              exact am_AW.weak (f_M_polygon_b80_ok hd (ih) x1  h) (by simp only [am_le, and_self])
      · rw [if_neg c17] at h
        exact am_AW.weak (f_M_polygon_b90_ok hd   h) (by simp only [am_le, and_self])
set_option maxHeartbeats 4000000 in
set_option maxRecDepth 100000 in
theorem f_M_polygon_b37_ok {ro : am_Ro} {d : Nat} (hd : 6 ≤ d + 1) (x1 : Int32) {m m' : am_Mm} {r : Int32} {n : Nat} (h : f_M_polygon_b37 n x1 m = some (r, m')) : am_AW am_nw ro (d + 1) mr_M_polygon 37 [some (.ref 63), some (.int x1)] [] (S0, m) (some (.int r)) (S0, m') :=
  f_M_polygon_b37_all hd n x1  m m' r h
set_option maxHeartbeats 4000000 in
set_option maxRecDepth 100000 in
theorem f_M_polygon_b16_all {ro : am_Ro} {d : Nat} (hd : 6 ≤ d + 1) : ∀ (n : Nat) (x1 : Int32) (m m' : am_Mm) (r : Int32), f_M_polygon_b16 n x1 m = some (r, m') → am_AW am_nw ro (d + 1) mr_M_polygon 16 [some (.ref 63), some (.int x1)] [] (S0, m) (some (.int r)) (S0, m') := by
  intro n
  induction n with
  | zero =>
    intro x1 m m' r h
    rw [f_M_polygon_b16] at h
    cases h
  | succ n ih =>
    intro x1 m m' r h
    rw [f_M_polygon_b16] at h
    refine am_AW.run am_base_ok ok_M_polygon (Nat.le_add_left 1 d) 2 (pc1 := 19) (ls1 := [some (.ref 63), some (.int x1)]) (st1 := [.int (20 : Int32), .int x1]) (σ1 := (S0, m)) rfl ?_
    refine am_AW.brP ok_M_polygon rfl rfl am_c_ge (fun c4 => ?_) (fun c4 => ?_)
    · rw [if_pos c4] at h
      refine am_AW.run am_base_ok ok_M_polygon (Nat.le_add_left 1 d) 2 (pc1 := 37) (ls1 := [some (.ref 63), some (.int (0 : Int32))]) (st1 := []) (σ1 := (S0, m)) rfl ?_
      exact am_AW.weak (f_M_polygon_b37_ok hd (0 : Int32)  h) (by simp only [am_le, and_self])
    · rw [if_neg c4] at h
      refine am_AW.run am_base_ok ok_M_polygon (Nat.le_add_left 1 d) 4 (pc1 := 28) (ls1 := [some (.ref 63), some (.int x1)]) (st1 := [.int (0 : Int32), .int x1, .ref 68]) (σ1 := (S0, m)) rfl ?_
      by_cases g25 : am_in x1 20 = true
      rotate_left
      · rw [if_neg g25] at h
        cases h
      rw [if_pos g25] at h
      refine am_AW.iast ok_M_polygon (Nat.le_add_left 1 d) rfl rfl g25 ?_
      change am_AW am_nw ro (d + 1) mr_M_polygon 29 [some (.ref 63), some (.int x1)] [] (S0, (am_pI m 68 x1.toNatClampNeg (0 : Int32))) (some (.int r)) (S0, m')
      refine am_AW.run am_base_ok ok_M_polygon (Nat.le_add_left 1 d) 2 (pc1 := 16) (ls1 := [some (.ref 63), some (.int (x1 + (1 : Int32)))]) (st1 := []) (σ1 := (S0, (am_pI m 68 x1.toNatClampNeg (0 : Int32)))) rfl ?_
      exact am_AW.weak (ih (x1 + (1 : Int32))  _ _ _ h) (by simp only [am_le, and_self])
set_option maxHeartbeats 4000000 in
set_option maxRecDepth 100000 in
theorem f_M_polygon_b16_ok {ro : am_Ro} {d : Nat} (hd : 6 ≤ d + 1) (x1 : Int32) {m m' : am_Mm} {r : Int32} {n : Nat} (h : f_M_polygon_b16 n x1 m = some (r, m')) : am_AW am_nw ro (d + 1) mr_M_polygon 16 [some (.ref 63), some (.int x1)] [] (S0, m) (some (.int r)) (S0, m') :=
  f_M_polygon_b16_all hd n x1  m m' r h
set_option maxHeartbeats 4000000 in
set_option maxRecDepth 100000 in
theorem f_M_polygon_ok {ro : am_Ro} {d : Nat} (hd : 6 ≤ d) {m m' : am_Mm} {r : Int32} (h : f_M_polygon  m = some (r, m')) : am_Mt am_nw ro d mr_M_polygon [.ref 63] (S0, m) (some (.int r)) (S0, m') := by
  obtain ⟨d, rfl⟩ : ∃ d0, d = d0 + 1 := ⟨d - 1, by omega⟩
  refine am_Mt.of (by decide +kernel) (Nat.le_of_ble_eq_true rfl) ?_
  change am_AW am_nw ro (d + 1) mr_M_polygon 0 [some (.ref 63), none] [] (S0, m) (some (.int r)) (S0, m')
  unfold f_M_polygon at h
  refine am_AW.run am_base_ok ok_M_polygon (Nat.le_add_left 1 d) 2 (pc1 := 2) (ls1 := [some (.ref 63), none]) (st1 := [.int (0 : Int32), .ref 63]) (σ1 := (S0, m)) rfl ?_
  refine am_AW.puti ok_M_polygon (Nat.le_add_left 1 d) rfl rfl rfl (qc := kq10) rfl (by decide) ty_10_11 ?_
  refine am_AW.run am_base_ok ok_M_polygon (Nat.le_add_left 1 d) 2 (pc1 := 7) (ls1 := [some (.ref 63), none]) (st1 := [.int (0 : Int32), .ref 63]) (σ1 := (S0, (am_pI m 63 11 (0 : Int32)))) rfl ?_
  refine am_AW.puti ok_M_polygon (Nat.le_add_left 1 d) rfl rfl rfl (qc := kq10) rfl (by decide) ty_10_15 ?_
  refine am_AW.run am_base_ok ok_M_polygon (Nat.le_add_left 1 d) 1 (pc1 := 11) (ls1 := [some (.ref 63), none]) (st1 := [.ref 63]) (σ1 := (S0, (am_pI (am_pI m 63 11 (0 : Int32)) 63 15 (0 : Int32)))) rfl ?_
  obtain ⟨q3, hq3, h⟩ := Option.bind_eq_some_iff.mp h
  refine am_AW.callV ok_M_polygon am_nw_ok (As := []) (rest := []) rfl rfl rfl oR_M_nextToken lk_M_154 iM_M_nextToken sE_M_nextToken (qc := kq10) rfl rfl rfl rfl (Nat.le_of_ble_eq_true rfl) (f_M_nextToken_ok (d := d) (by omega)  hq3) ?_
  change am_AW am_nw ro (d + 1) mr_M_polygon 14 [some (.ref 63), none] [] (S0, q3) (some (.int r)) (S0, m')
  refine am_AW.run am_base_ok ok_M_polygon (Nat.le_add_left 1 d) 2 (pc1 := 16) (ls1 := [some (.ref 63), some (.int (0 : Int32))]) (st1 := []) (σ1 := (S0, q3)) rfl ?_
  exact am_AW.weak (f_M_polygon_b16_ok hd (0 : Int32)  h) (by simp only [am_le, and_self])
/-! FriezePolygonsModel.grown([III)J -/
def f_M_grown_b141 (x3 : Int32) (x6 : Int64) (m : am_Mm) : Option (Int64 × am_Mm) :=
  if x3 = (0 : Int32) then
    some ((0 : Int64), m)
  else
    some (x6, m)
def f_M_grown_b124 (k14 : Int32 → Int32 → Int64 → Int64 → Int32 → am_Mm → Option (Int64 × am_Mm)) (x2 : Int32) (x3 : Int32) (x6 : Int64) (x8 : Int32) (x12 : Int64) (s1 : Int32) (m : am_Mm) : Option (Int64 × am_Mm) :=
  if s1 = (0 : Int32) ∨ s1 = (1 : Int32) then
    k14 x2 x3 x6 x12 (x8 + (1 : Int32)) (am_pI m 63 19 s1)
  else none
def f_M_grown_b104 (k14 : Int32 → Int32 → Int64 → Int64 → Int32 → am_Mm → Option (Int64 × am_Mm)) (x2 : Int32) (x3 : Int32) (x4 : Int64) (x6 : Int64) (x8 : Int32) (x10 : Int64) (x12 : Int64) (m : am_Mm) : Option (Int64 × am_Mm) :=
  if (0 : Int32) ≤ (lg_cmp x4 (0 : Int64)) then
    f_M_grown_b124 k14 x2 x3 x6 x8 x12 (0 : Int32) m
  else
    if (0 : Int32) ≤ (lg_cmp x12 x10) then
      f_M_grown_b124 k14 x2 x3 x6 x8 x12 (0 : Int32) m
    else
      f_M_grown_b124 k14 x2 x3 x6 x8 x12 (1 : Int32) m
def f_M_grown_b72 (k14 : Int32 → Int32 → Int64 → Int64 → Int32 → am_Mm → Option (Int64 × am_Mm)) (x2 : Int32) (x3 : Int32) (x4 : Int64) (x6 : Int64) (x8 : Int32) (s0 : Int64) (m : am_Mm) : Option (Int64 × am_Mm) :=
  if (m.1 63 19) = (0 : Int32) then
    if (lg_cmp x4 (0 : Int64)) ≤ (0 : Int32) then
      f_M_grown_b104 k14 x2 x3 x4 x6 x8 s0 (s0 - x4) m
    else
      if (0 : Int32) < (lg_cmp (s0 - x4) s0) then
        f_M_grown_b124 k14 x2 x3 x6 x8 (s0 - x4) (1 : Int32) m
      else
        f_M_grown_b104 k14 x2 x3 x4 x6 x8 s0 (s0 - x4) m
  else
    f_M_grown_b124 k14 x2 x3 x6 x8 (s0 - x4) (1 : Int32) m
def f_M_grown_b14 : Nat → Int32 → Int32 → Int64 → Int64 → Int32 → am_Mm → Option (Int64 × am_Mm)
  | 0, _, _, _, _, _, _ => none
  | n + 1, x2, x3, x4, x6, x8, m =>
    if x3 < x8 then
      f_M_grown_b141 x3 x6 m
    else
      if (m.1 63 19) = (0 : Int32) then
        if (m.1 67 0) = (0 : Int32) then none else
        (f_M_countOf 67 (am_rem ((x2 + x8) - (1 : Int32)) (m.1 67 0)) m).bind fun q8 =>
        (f_M_isTooFar q8.1 x6 q8.2).bind fun q11 =>
        if q11.1 = (0 : Int32) ∨ q11.1 = (1 : Int32) then
          if ((am_pI q11.2 63 19 q11.1).1 63 19) = (0 : Int32) then
            f_M_grown_b72 (f_M_grown_b14 n) x2 x3 x4 x6 x8 ((q8.1.toInt64) * x6) (am_pI q11.2 63 19 q11.1)
          else
            f_M_grown_b72 (f_M_grown_b14 n) x2 x3 x4 x6 x8 (0 : Int64) (am_pI q11.2 63 19 q11.1)
        else none
      else
        f_M_grown_b141 x3 x6 m
def f_M_grown (x2 : Int32) (x3 : Int32) (m : am_Mm) : Option (Int64 × am_Mm) :=
  f_M_grown_b14 am_F x2 x3 (0 : Int64) (1 : Int64) (2 : Int32) (am_pI m 63 19 (0 : Int32))
set_option maxHeartbeats 4000000 in
set_option maxRecDepth 100000 in
theorem f_M_grown_b141_ok {ro : am_Ro} {d : Nat} (hd : 6 ≤ d + 1) (x3 : Int32) (x6 : Int64) {m m' : am_Mm} {r : Int64} (h : f_M_grown_b141 x3 x6 m = some (r, m')) : am_AW am_nw ro (d + 1) mr_M_grown 141 [none, none, none, some (.int x3), none, none, some (.long x6), none, none, none, none, none, none, none] [] (S0, m) (some (.long r)) (S0, m') := by
  unfold f_M_grown_b141 at h
  refine am_AW.run am_base_ok ok_M_grown (Nat.le_add_left 1 d) 1 (pc1 := 142) (ls1 := [none, none, none, some (.int x3), none, none, some (.long x6), none, none, none, none, none, none, none]) (st1 := [.int x3]) (σ1 := (S0, m)) rfl ?_
  refine am_AW.brN ok_M_grown rfl rfl am_c_ne (fun c2 => ?_) (fun c2 => ?_)
  · rw [if_pos c2] at h
    refine am_AW.run am_base_ok ok_M_grown (Nat.le_add_left 1 d) 2 (pc1 := 151) (ls1 := [none, none, none, some (.int x3), none, none, some (.long x6), none, none, none, none, none, none, none]) (st1 := [.long (0 : Int64)]) (σ1 := (S0, m)) rfl ?_
    obtain ⟨rfl, rfl⟩ := Prod.mk.inj (Option.some.inj h)
    exact am_AW.ret ok_M_grown rfl rfl rfl rfl
  · rw [if_neg c2] at h
    refine am_AW.run am_base_ok ok_M_grown (Nat.le_add_left 1 d) 1 (pc1 := 151) (ls1 := [none, none, none, some (.int x3), none, none, some (.long x6), none, none, none, none, none, none, none]) (st1 := [.long x6]) (σ1 := (S0, m)) rfl ?_
    obtain ⟨rfl, rfl⟩ := Prod.mk.inj (Option.some.inj h)
    exact am_AW.ret ok_M_grown rfl rfl rfl rfl
set_option maxHeartbeats 4000000 in
set_option maxRecDepth 100000 in
theorem f_M_grown_b124_ok {ro : am_Ro} {d : Nat} (hd : 6 ≤ d + 1) {k14 : Int32 → Int32 → Int64 → Int64 → Int32 → am_Mm → Option (Int64 × am_Mm)} (hk14 : ∀ (x2 : Int32) (x3 : Int32) (x4 : Int64) (x6 : Int64) (x8 : Int32) (m m' : am_Mm) (r : Int64), k14 x2 x3 x4 x6 x8 m = some (r, m') → am_AW am_nw ro (d + 1) mr_M_grown 14 [some (.ref 63), some (.ref 67), some (.int x2), some (.int x3), some (.long x4), none, some (.long x6), none, some (.int x8), none, none, none, none, none] [] (S0, m) (some (.long r)) (S0, m')) (x2 : Int32) (x3 : Int32) (x6 : Int64) (x8 : Int32) (x12 : Int64) (s1 : Int32) {m m' : am_Mm} {r : Int64} (h : f_M_grown_b124 k14 x2 x3 x6 x8 x12 s1 m = some (r, m')) : am_AW am_nw ro (d + 1) mr_M_grown 124 [some (.ref 63), some (.ref 67), some (.int x2), some (.int x3), none, none, some (.long x6), none, some (.int x8), none, none, none, some (.long x12), none] [.int s1, .ref 63] (S0, m) (some (.long r)) (S0, m') := by
  unfold f_M_grown_b124 at h
  by_cases g17 : s1 = (0 : Int32) ∨ s1 = (1 : Int32)
  rotate_left
  · rw [if_neg g17] at h
    cases h
  rw [if_pos g17] at h
  refine am_AW.putz ok_M_grown (Nat.le_add_left 1 d) rfl rfl rfl (qc := kq10) rfl (by decide) ty_10_19 g17 ?_
  refine am_AW.run am_base_ok ok_M_grown (Nat.le_add_left 1 d) 6 (pc1 := 14) (ls1 := [some (.ref 63), some (.ref 67), some (.int x2), some (.int x3), some (.long x6), none, some (.long x12), none, some (.int (x8 + (1 : Int32))), none, none, none, some (.long x12), none]) (st1 := []) (σ1 := (S0, (am_pI m 63 19 s1))) rfl ?_
  exact am_AW.weak (hk14 x2 x3 x6 x12 (x8 + (1 : Int32))  _ _ _ h) (by simp only [am_le, and_self])
set_option maxHeartbeats 4000000 in
set_option maxRecDepth 100000 in
theorem f_M_grown_b104_ok {ro : am_Ro} {d : Nat} (hd : 6 ≤ d + 1) {k14 : Int32 → Int32 → Int64 → Int64 → Int32 → am_Mm → Option (Int64 × am_Mm)} (hk14 : ∀ (x2 : Int32) (x3 : Int32) (x4 : Int64) (x6 : Int64) (x8 : Int32) (m m' : am_Mm) (r : Int64), k14 x2 x3 x4 x6 x8 m = some (r, m') → am_AW am_nw ro (d + 1) mr_M_grown 14 [some (.ref 63), some (.ref 67), some (.int x2), some (.int x3), some (.long x4), none, some (.long x6), none, some (.int x8), none, none, none, none, none] [] (S0, m) (some (.long r)) (S0, m')) (x2 : Int32) (x3 : Int32) (x4 : Int64) (x6 : Int64) (x8 : Int32) (x10 : Int64) (x12 : Int64) {m m' : am_Mm} {r : Int64} (h : f_M_grown_b104 k14 x2 x3 x4 x6 x8 x10 x12 m = some (r, m')) : am_AW am_nw ro (d + 1) mr_M_grown 104 [some (.ref 63), some (.ref 67), some (.int x2), some (.int x3), some (.long x4), none, some (.long x6), none, some (.int x8), none, some (.long x10), none, some (.long x12), none] [.ref 63] (S0, m) (some (.long r)) (S0, m') := by
  unfold f_M_grown_b104 at h
  refine am_AW.run am_base_ok ok_M_grown (Nat.le_add_left 1 d) 3 (pc1 := 108) (ls1 := [some (.ref 63), some (.ref 67), some (.int x2), some (.int x3), some (.long x4), none, some (.long x6), none, some (.int x8), none, some (.long x10), none, some (.long x12), none]) (st1 := [.int (lg_cmp x4 (0 : Int64)), .ref 63]) (σ1 := (S0, m)) rfl ?_
  refine am_AW.brP ok_M_grown rfl rfl am_c_ge (fun c16 => ?_) (fun c16 => ?_)
  · rw [if_pos c16] at h
    refine am_AW.run am_base_ok ok_M_grown (Nat.le_add_left 1 d) 1 (pc1 := 124) (ls1 := [some (.ref 63), some (.ref 67), some (.int x2), some (.int x3), some (.long x4), none, some (.long x6), none, some (.int x8), none, some (.long x10), none, some (.long x12), none]) (st1 := [.int (0 : Int32), .ref 63]) (σ1 := (S0, m)) rfl ?_
    exact am_AW.weak (f_M_grown_b124_ok hd (hk14) x2 x3 x6 x8 x12 (0 : Int32)  h) (by simp only [am_le, and_self])
  · rw [if_neg c16] at h
    refine am_AW.run am_base_ok ok_M_grown (Nat.le_add_left 1 d) 3 (pc1 := 116) (ls1 := [some (.ref 63), some (.ref 67), some (.int x2), some (.int x3), some (.long x4), none, some (.long x6), none, some (.int x8), none, some (.long x10), none, some (.long x12), none]) (st1 := [.int (lg_cmp x12 x10), .ref 63]) (σ1 := (S0, m)) rfl ?_
    refine am_AW.brP ok_M_grown rfl rfl am_c_ge (fun c18 => ?_) (fun c18 => ?_)
    · rw [if_pos c18] at h
      refine am_AW.run am_base_ok ok_M_grown (Nat.le_add_left 1 d) 1 (pc1 := 124) (ls1 := [some (.ref 63), some (.ref 67), some (.int x2), some (.int x3), some (.long x4), none, some (.long x6), none, some (.int x8), none, some (.long x10), none, some (.long x12), none]) (st1 := [.int (0 : Int32), .ref 63]) (σ1 := (S0, m)) rfl ?_
      exact am_AW.weak (f_M_grown_b124_ok hd (hk14) x2 x3 x6 x8 x12 (0 : Int32)  h) (by simp only [am_le, and_self])
    · rw [if_neg c18] at h
      refine am_AW.run am_base_ok ok_M_grown (Nat.le_add_left 1 d) 2 (pc1 := 124) (ls1 := [some (.ref 63), some (.ref 67), some (.int x2), some (.int x3), some (.long x4), none, some (.long x6), none, some (.int x8), none, some (.long x10), none, some (.long x12), none]) (st1 := [.int (1 : Int32), .ref 63]) (σ1 := (S0, m)) rfl ?_
      exact am_AW.weak (f_M_grown_b124_ok hd (hk14) x2 x3 x6 x8 x12 (1 : Int32)  h) (by simp only [am_le, and_self])
set_option maxHeartbeats 4000000 in
set_option maxRecDepth 100000 in
theorem f_M_grown_b72_ok {ro : am_Ro} {d : Nat} (hd : 6 ≤ d + 1) {k14 : Int32 → Int32 → Int64 → Int64 → Int32 → am_Mm → Option (Int64 × am_Mm)} (hk14 : ∀ (x2 : Int32) (x3 : Int32) (x4 : Int64) (x6 : Int64) (x8 : Int32) (m m' : am_Mm) (r : Int64), k14 x2 x3 x4 x6 x8 m = some (r, m') → am_AW am_nw ro (d + 1) mr_M_grown 14 [some (.ref 63), some (.ref 67), some (.int x2), some (.int x3), some (.long x4), none, some (.long x6), none, some (.int x8), none, none, none, none, none] [] (S0, m) (some (.long r)) (S0, m')) (x2 : Int32) (x3 : Int32) (x4 : Int64) (x6 : Int64) (x8 : Int32) (s0 : Int64) {m m' : am_Mm} {r : Int64} (h : f_M_grown_b72 k14 x2 x3 x4 x6 x8 s0 m = some (r, m')) : am_AW am_nw ro (d + 1) mr_M_grown 72 [some (.ref 63), some (.ref 67), some (.int x2), some (.int x3), some (.long x4), none, some (.long x6), none, some (.int x8), none, none, none, none, none] [.long s0] (S0, m) (some (.long r)) (S0, m') := by
  unfold f_M_grown_b72 at h
  refine am_AW.run am_base_ok ok_M_grown (Nat.le_add_left 1 d) 8 (pc1 := 86) (ls1 := [some (.ref 63), some (.ref 67), some (.int x2), some (.int x3), some (.long x4), none, some (.long x6), none, some (.int x8), none, some (.long s0), none, some (.long (s0 - x4)), none]) (st1 := [.int (m.1 63 19), .ref 63]) (σ1 := (S0, m)) rfl ?_
  refine am_AW.brN ok_M_grown rfl rfl am_c_ne (fun c14 => ?_) (fun c14 => ?_)
  · rw [if_pos c14] at h
    refine am_AW.run am_base_ok ok_M_grown (Nat.le_add_left 1 d) 3 (pc1 := 93) (ls1 := [some (.ref 63), some (.ref 67), some (.int x2), some (.int x3), some (.long x4), none, some (.long x6), none, some (.int x8), none, some (.long s0), none, some (.long (s0 - x4)), none]) (st1 := [.int (lg_cmp x4 (0 : Int64)), .ref 63]) (σ1 := (S0, m)) rfl ?_
    refine am_AW.brP ok_M_grown rfl rfl am_c_le (fun c15 => ?_) (fun c15 => ?_)
    · rw [if_pos c15] at h
      exact am_AW.weak (f_M_grown_b104_ok hd (hk14) x2 x3 x4 x6 x8 s0 (s0 - x4)  h) (by simp only [am_le, and_self])
    · rw [if_neg c15] at h
      refine am_AW.run am_base_ok ok_M_grown (Nat.le_add_left 1 d) 3 (pc1 := 101) (ls1 := [some (.ref 63), some (.ref 67), some (.int x2), some (.int x3), some (.long x4), none, some (.long x6), none, some (.int x8), none, some (.long s0), none, some (.long (s0 - x4)), none]) (st1 := [.int (lg_cmp (s0 - x4) s0), .ref 63]) (σ1 := (S0, m)) rfl ?_
      refine am_AW.brP ok_M_grown rfl rfl am_c_gt (fun c19 => ?_) (fun c19 => ?_)
      · rw [if_pos c19] at h
        refine am_AW.run am_base_ok ok_M_grown (Nat.le_add_left 1 d) 2 (pc1 := 124) (ls1 := [some (.ref 63), some (.ref 67), some (.int x2), some (.int x3), some (.long x4), none, some (.long x6), none, some (.int x8), none, some (.long s0), none, some (.long (s0 - x4)), none]) (st1 := [.int (1 : Int32), .ref 63]) (σ1 := (S0, m)) rfl ?_
        exact am_AW.weak (f_M_grown_b124_ok hd (hk14) x2 x3 x6 x8 (s0 - x4) (1 : Int32)  h) (by simp only [am_le, and_self])
      · rw [if_neg c19] at h
        exact am_AW.weak (f_M_grown_b104_ok hd (hk14) x2 x3 x4 x6 x8 s0 (s0 - x4)  h) (by simp only [am_le, and_self])
  · rw [if_neg c14] at h
    refine am_AW.run am_base_ok ok_M_grown (Nat.le_add_left 1 d) 2 (pc1 := 124) (ls1 := [some (.ref 63), some (.ref 67), some (.int x2), some (.int x3), some (.long x4), none, some (.long x6), none, some (.int x8), none, some (.long s0), none, some (.long (s0 - x4)), none]) (st1 := [.int (1 : Int32), .ref 63]) (σ1 := (S0, m)) rfl ?_
    exact am_AW.weak (f_M_grown_b124_ok hd (hk14) x2 x3 x6 x8 (s0 - x4) (1 : Int32)  h) (by simp only [am_le, and_self])
set_option maxHeartbeats 4000000 in
set_option maxRecDepth 100000 in
theorem f_M_grown_b14_all {ro : am_Ro} {d : Nat} (hd : 6 ≤ d + 1) : ∀ (n : Nat) (x2 : Int32) (x3 : Int32) (x4 : Int64) (x6 : Int64) (x8 : Int32) (m m' : am_Mm) (r : Int64), f_M_grown_b14 n x2 x3 x4 x6 x8 m = some (r, m') → am_AW am_nw ro (d + 1) mr_M_grown 14 [some (.ref 63), some (.ref 67), some (.int x2), some (.int x3), some (.long x4), none, some (.long x6), none, some (.int x8), none, none, none, none, none] [] (S0, m) (some (.long r)) (S0, m') := by
  intro n
  induction n with
  | zero =>
    intro x2 x3 x4 x6 x8 m m' r h
    rw [f_M_grown_b14] at h
    cases h
  | succ n ih =>
    intro x2 x3 x4 x6 x8 m m' r h
    rw [f_M_grown_b14] at h
    refine am_AW.run am_base_ok ok_M_grown (Nat.le_add_left 1 d) 2 (pc1 := 17) (ls1 := [some (.ref 63), some (.ref 67), some (.int x2), some (.int x3), some (.long x4), none, some (.long x6), none, some (.int x8), none, none, none, none, none]) (st1 := [.int x3, .int x8]) (σ1 := (S0, m)) rfl ?_
    refine am_AW.brP ok_M_grown rfl rfl am_c_gt (fun c1 => ?_) (fun c1 => ?_)
    · rw [if_pos c1] at h
      exact am_AW.weak (f_M_grown_b141_ok hd x3 x6  h) (by simp only [am_le, and_self])
    · rw [if_neg c1] at h
      refine am_AW.run am_base_ok ok_M_grown (Nat.le_add_left 1 d) 2 (pc1 := 24) (ls1 := [some (.ref 63), some (.ref 67), some (.int x2), some (.int x3), some (.long x4), none, some (.long x6), none, some (.int x8), none, none, none, none, none]) (st1 := [.int (m.1 63 19)]) (σ1 := (S0, m)) rfl ?_
      refine am_AW.brN ok_M_grown rfl rfl am_c_ne (fun c3 => ?_) (fun c3 => ?_)
      · rw [if_pos c3] at h
        refine am_AW.run am_base_ok ok_M_grown (Nat.le_add_left 1 d) 9 (pc1 := 37) (ls1 := [some (.ref 63), some (.ref 67), some (.int x2), some (.int x3), some (.long x4), none, some (.long x6), none, some (.int x8), none, none, none, none, none]) (st1 := [.int (0 : Int32), .ref 67, .int ((x2 + x8) - (1 : Int32)), .ref 67, .ref 63]) (σ1 := (S0, m)) rfl ?_
        refine am_AW.iald ok_M_grown (Nat.le_add_left 1 d) S0_len rfl rfl (by decide) ?_
        change am_AW am_nw ro (d + 1) mr_M_grown 38 [some (.ref 63), some (.ref 67), some (.int x2), some (.int x3), some (.long x4), none, some (.long x6), none, some (.int x8), none, none, none, none, none] [.int (m.1 67 0), .int ((x2 + x8) - (1 : Int32)), .ref 67, .ref 63] (S0, m) (some (.long r)) (S0, m')
        by_cases g5 : (m.1 67 0) = (0 : Int32)
        · rw [if_pos g5] at h
          cases h
        rw [if_neg g5] at h
        refine am_AW.dvi ok_M_grown (Nat.le_add_left 1 d) (w := (am_rem ((x2 + x8) - (1 : Int32)) (m.1 67 0))) (Or.inr ⟨rfl, rfl⟩) rfl g5 ?_
        obtain ⟨q8, hq8, h⟩ := Option.bind_eq_some_iff.mp h
        refine am_AW.callV ok_M_grown am_nw_ok (As := [.ref 67, .int (am_rem ((x2 + x8) - (1 : Int32)) (m.1 67 0))]) (rest := []) rfl rfl rfl oR_M_countOf lk_M_236 iM_M_countOf sE_M_countOf (qc := kq10) rfl rfl rfl rfl (Nat.le_of_ble_eq_true rfl) (f_M_countOf_ok (d := d) (by omega) 67 (am_rem ((x2 + x8) - (1 : Int32)) (m.1 67 0)) (by simp) hq8) ?_
        change am_AW am_nw ro (d + 1) mr_M_grown 42 [some (.ref 63), some (.ref 67), some (.int x2), some (.int x3), some (.long x4), none, some (.long x6), none, some (.int x8), none, none, none, none, none] [.int q8.1] (S0, q8.2) (some (.long r)) (S0, m')
        refine am_AW.run am_base_ok ok_M_grown (Nat.le_add_left 1 d) 4 (pc1 := 49) (ls1 := [some (.ref 63), some (.ref 67), some (.int x2), some (.int x3), some (.long x4), none, some (.long x6), none, some (.int x8), some (.int q8.1), none, none, none, none]) (st1 := [.long x6, .int q8.1, .ref 63]) (σ1 := (S0, q8.2)) rfl ?_
        obtain ⟨q11, hq11, h⟩ := Option.bind_eq_some_iff.mp h
        refine am_AW.callS ok_M_grown am_nw_ok (As := [.int q8.1, .long x6]) (rest := [.ref 63]) rfl rfl rfl oR_M_isTooFar lk_M_239 sT_M_isTooFar rfl (Nat.le_of_ble_eq_true rfl) (f_M_isTooFar_ok (d := d) (by omega) q8.1 x6 hq11) ?_
        change am_AW am_nw ro (d + 1) mr_M_grown 52 [some (.ref 63), some (.ref 67), some (.int x2), some (.int x3), some (.long x4), none, some (.long x6), none, some (.int x8), some (.int q8.1), none, none, none, none] [.int q11.1, .ref 63] (S0, q11.2) (some (.long r)) (S0, m')
        by_cases g12 : q11.1 = (0 : Int32) ∨ q11.1 = (1 : Int32)
        rotate_left
        · rw [if_neg g12] at h
          cases h
        rw [if_pos g12] at h
        refine am_AW.putz ok_M_grown (Nat.le_add_left 1 d) rfl rfl rfl (qc := kq10) rfl (by decide) ty_10_19 g12 ?_
        refine am_AW.run am_base_ok ok_M_grown (Nat.le_add_left 1 d) 2 (pc1 := 59) (ls1 := [some (.ref 63), some (.ref 67), some (.int x2), some (.int x3), some (.long x4), none, some (.long x6), none, some (.int x8), some (.int q8.1), none, none, none, none]) (st1 := [.int ((am_pI q11.2 63 19 q11.1).1 63 19)]) (σ1 := (S0, (am_pI q11.2 63 19 q11.1))) rfl ?_
        refine am_AW.brP ok_M_grown rfl rfl am_c_eq (fun c13 => ?_) (fun c13 => ?_)
        · rw [if_pos c13] at h
          refine am_AW.run am_base_ok ok_M_grown (Nat.le_add_left 1 d) 4 (pc1 := 72) (ls1 := [some (.ref 63), some (.ref 67), some (.int x2), some (.int x3), some (.long x4), none, some (.long x6), none, some (.int x8), some (.int q8.1), none, none, none, none]) (st1 := [.long ((q8.1.toInt64) * x6)]) (σ1 := (S0, (am_pI q11.2 63 19 q11.1))) rfl ?_
          exact am_AW.weak (f_M_grown_b72_ok hd (ih) x2 x3 x4 x6 x8 ((q8.1.toInt64) * x6)  h) (by simp only [am_le, and_self])
        · rw [if_neg c13] at h
          refine am_AW.run am_base_ok ok_M_grown (Nat.le_add_left 1 d) 2 (pc1 := 72) (ls1 := [some (.ref 63), some (.ref 67), some (.int x2), some (.int x3), some (.long x4), none, some (.long x6), none, some (.int x8), some (.int q8.1), none, none, none, none]) (st1 := [.long (0 : Int64)]) (σ1 := (S0, (am_pI q11.2 63 19 q11.1))) rfl ?_
          exact am_AW.weak (f_M_grown_b72_ok hd (ih) x2 x3 x4 x6 x8 (0 : Int64)  h) (by simp only [am_le, and_self])
      · rw [if_neg c3] at h
        exact am_AW.weak (f_M_grown_b141_ok hd x3 x6  h) (by simp only [am_le, and_self])
set_option maxHeartbeats 4000000 in
set_option maxRecDepth 100000 in
theorem f_M_grown_b14_ok {ro : am_Ro} {d : Nat} (hd : 6 ≤ d + 1) (x2 : Int32) (x3 : Int32) (x4 : Int64) (x6 : Int64) (x8 : Int32) {m m' : am_Mm} {r : Int64} {n : Nat} (h : f_M_grown_b14 n x2 x3 x4 x6 x8 m = some (r, m')) : am_AW am_nw ro (d + 1) mr_M_grown 14 [some (.ref 63), some (.ref 67), some (.int x2), some (.int x3), some (.long x4), none, some (.long x6), none, some (.int x8), none, none, none, none, none] [] (S0, m) (some (.long r)) (S0, m') :=
  f_M_grown_b14_all hd n x2 x3 x4 x6 x8  m m' r h
set_option maxHeartbeats 4000000 in
set_option maxRecDepth 100000 in
theorem f_M_grown_ok {ro : am_Ro} {d : Nat} (hd : 6 ≤ d) (x2 : Int32) (x3 : Int32) {m m' : am_Mm} {r : Int64} (h : f_M_grown x2 x3 m = some (r, m')) : am_Mt am_nw ro d mr_M_grown [.ref 63, .ref 67, .int x2, .int x3] (S0, m) (some (.long r)) (S0, m') := by
  obtain ⟨d, rfl⟩ : ∃ d0, d = d0 + 1 := ⟨d - 1, by omega⟩
  refine am_Mt.of (by decide +kernel) (Nat.le_of_ble_eq_true rfl) ?_
  change am_AW am_nw ro (d + 1) mr_M_grown 0 [some (.ref 63), some (.ref 67), some (.int x2), some (.int x3), none, none, none, none, none, none, none, none, none, none] [] (S0, m) (some (.long r)) (S0, m')
  unfold f_M_grown at h
  refine am_AW.run am_base_ok ok_M_grown (Nat.le_add_left 1 d) 6 (pc1 := 8) (ls1 := [some (.ref 63), some (.ref 67), some (.int x2), some (.int x3), some (.long (0 : Int64)), none, some (.long (1 : Int64)), none, none, none, none, none, none, none]) (st1 := [.int (0 : Int32), .ref 63]) (σ1 := (S0, m)) rfl ?_
  refine am_AW.putz ok_M_grown (Nat.le_add_left 1 d) rfl rfl rfl (qc := kq10) rfl (by decide) ty_10_19 (by decide) ?_
  refine am_AW.run am_base_ok ok_M_grown (Nat.le_add_left 1 d) 2 (pc1 := 14) (ls1 := [some (.ref 63), some (.ref 67), some (.int x2), some (.int x3), some (.long (0 : Int64)), none, some (.long (1 : Int64)), none, some (.int (2 : Int32)), none, none, none, none, none]) (st1 := []) (σ1 := (S0, (am_pI m 63 19 (0 : Int32)))) rfl ?_
  exact am_AW.weak (f_M_grown_b14_ok hd x2 x3 (0 : Int64) (1 : Int64) (2 : Int32)  h) (by simp only [am_le, and_self])
/-! FriezePolygonsModel.period()I -/
def f_M_period_b84 (k13 : Int32 → Int32 → Int32 → am_Mm → Option (Int32 × am_Mm)) (x1 : Int32) (x3 : Int32) (s0 : Int32) (m : am_Mm) : Option (Int32 × am_Mm) :=
  k13 x1 s0 (x3 + (-1 : Int32)) m
def f_M_period_b66 (k13 : Int32 → Int32 → Int32 → am_Mm → Option (Int32 × am_Mm)) (k23 : Int32 → Int32 → Int32 → Int32 → Int32 → am_Mm → Option (Int32 × am_Mm)) (x1 : Int32) (x2 : Int32) (x3 : Int32) (x5 : Int32) (s0 : Int32) (m : am_Mm) : Option (Int32 × am_Mm) :=
  k23 x1 x2 x3 s0 (x5 + (1 : Int32)) m
def f_M_period_b23 (k13 : Int32 → Int32 → Int32 → am_Mm → Option (Int32 × am_Mm)) : Nat → Int32 → Int32 → Int32 → Int32 → Int32 → am_Mm → Option (Int32 × am_Mm)
  | 0, _, _, _, _, _, _ => none
  | n + 1, x1, x2, x3, x4, x5, m =>
    if x1 ≤ x5 then
      if x4 = (0 : Int32) then
        f_M_period_b84 k13 x1 x3 x2 m
      else
        f_M_period_b84 k13 x1 x3 x3 m
    else
      if x4 = (0 : Int32) then
        f_M_period_b66 k13 (f_M_period_b23 k13 n) x1 x2 x3 x5 (0 : Int32) m
      else
        (f_M_countOf 67 x5 m).bind fun q8 =>
        if x1 = (0 : Int32) then none else
        (f_M_countOf 67 (am_rem (x5 + x3) x1) q8.2).bind fun q12 =>
        if q8.1 = q12.1 then
          f_M_period_b66 k13 (f_M_period_b23 k13 n) x1 x2 x3 x5 (1 : Int32) q12.2
        else
          f_M_period_b66 k13 (f_M_period_b23 k13 n) x1 x2 x3 x5 (0 : Int32) q12.2
def f_M_period_b13 : Nat → Int32 → Int32 → Int32 → am_Mm → Option (Int32 × am_Mm)
  | 0, _, _, _, _ => none
  | n + 1, x1, x2, x3, m =>
    if x3 ≤ (0 : Int32) then
      some (x2, m)
    else
      f_M_period_b23 (f_M_period_b13 n) am_F x1 x2 x3 (1 : Int32) (0 : Int32) m
def f_M_period (m : am_Mm) : Option (Int32 × am_Mm) :=
  f_M_period_b13 am_F (m.1 67 0) (m.1 67 0) ((m.1 67 0) - (1 : Int32)) m
set_option maxHeartbeats 4000000 in
set_option maxRecDepth 100000 in
theorem f_M_period_b84_ok {ro : am_Ro} {d : Nat} (hd : 6 ≤ d + 1) {k13 : Int32 → Int32 → Int32 → am_Mm → Option (Int32 × am_Mm)} (hk13 : ∀ (x1 : Int32) (x2 : Int32) (x3 : Int32) (m m' : am_Mm) (r : Int32), k13 x1 x2 x3 m = some (r, m') → am_AW am_nw ro (d + 1) mr_M_period 13 [some (.ref 63), some (.int x1), some (.int x2), some (.int x3), none, none] [] (S0, m) (some (.int r)) (S0, m')) (x1 : Int32) (x3 : Int32) (s0 : Int32) {m m' : am_Mm} {r : Int32} (h : f_M_period_b84 k13 x1 x3 s0 m = some (r, m')) : am_AW am_nw ro (d + 1) mr_M_period 84 [some (.ref 63), some (.int x1), none, some (.int x3), none, none] [.int s0] (S0, m) (some (.int r)) (S0, m') := by
  unfold f_M_period_b84 at h
  refine am_AW.run am_base_ok ok_M_period (Nat.le_add_left 1 d) 3 (pc1 := 13) (ls1 := [some (.ref 63), some (.int x1), some (.int s0), some (.int (x3 + (-1 : Int32))), none, none]) (st1 := []) (σ1 := (S0, m)) rfl ?_
  exact am_AW.weak (hk13 x1 s0 (x3 + (-1 : Int32))  _ _ _ h) (by simp only [am_le, and_self])
set_option maxHeartbeats 4000000 in
set_option maxRecDepth 100000 in
theorem f_M_period_b66_ok {ro : am_Ro} {d : Nat} (hd : 6 ≤ d + 1) {k13 : Int32 → Int32 → Int32 → am_Mm → Option (Int32 × am_Mm)} (hk13 : ∀ (x1 : Int32) (x2 : Int32) (x3 : Int32) (m m' : am_Mm) (r : Int32), k13 x1 x2 x3 m = some (r, m') → am_AW am_nw ro (d + 1) mr_M_period 13 [some (.ref 63), some (.int x1), some (.int x2), some (.int x3), none, none] [] (S0, m) (some (.int r)) (S0, m')) {k23 : Int32 → Int32 → Int32 → Int32 → Int32 → am_Mm → Option (Int32 × am_Mm)} (hk23 : ∀ (x1 : Int32) (x2 : Int32) (x3 : Int32) (x4 : Int32) (x5 : Int32) (m m' : am_Mm) (r : Int32), k23 x1 x2 x3 x4 x5 m = some (r, m') → am_AW am_nw ro (d + 1) mr_M_period 23 [some (.ref 63), some (.int x1), some (.int x2), some (.int x3), some (.int x4), some (.int x5)] [] (S0, m) (some (.int r)) (S0, m')) (x1 : Int32) (x2 : Int32) (x3 : Int32) (x5 : Int32) (s0 : Int32) {m m' : am_Mm} {r : Int32} (h : f_M_period_b66 k13 k23 x1 x2 x3 x5 s0 m = some (r, m')) : am_AW am_nw ro (d + 1) mr_M_period 66 [some (.ref 63), some (.int x1), some (.int x2), some (.int x3), none, some (.int x5)] [.int s0] (S0, m) (some (.int r)) (S0, m') := by
  unfold f_M_period_b66 at h
  refine am_AW.run am_base_ok ok_M_period (Nat.le_add_left 1 d) 3 (pc1 := 23) (ls1 := [some (.ref 63), some (.int x1), some (.int x2), some (.int x3), some (.int s0), some (.int (x5 + (1 : Int32)))]) (st1 := []) (σ1 := (S0, m)) rfl ?_
  exact am_AW.weak (hk23 x1 x2 x3 s0 (x5 + (1 : Int32))  _ _ _ h) (by simp only [am_le, and_self])
set_option maxHeartbeats 4000000 in
set_option maxRecDepth 100000 in
theorem f_M_period_b23_all {ro : am_Ro} {d : Nat} (hd : 6 ≤ d + 1) {k13 : Int32 → Int32 → Int32 → am_Mm → Option (Int32 × am_Mm)} (hk13 : ∀ (x1 : Int32) (x2 : Int32) (x3 : Int32) (m m' : am_Mm) (r : Int32), k13 x1 x2 x3 m = some (r, m') → am_AW am_nw ro (d + 1) mr_M_period 13 [some (.ref 63), some (.int x1), some (.int x2), some (.int x3), none, none] [] (S0, m) (some (.int r)) (S0, m')) : ∀ (n : Nat) (x1 : Int32) (x2 : Int32) (x3 : Int32) (x4 : Int32) (x5 : Int32) (m m' : am_Mm) (r : Int32), f_M_period_b23 k13 n x1 x2 x3 x4 x5 m = some (r, m') → am_AW am_nw ro (d + 1) mr_M_period 23 [some (.ref 63), some (.int x1), some (.int x2), some (.int x3), some (.int x4), some (.int x5)] [] (S0, m) (some (.int r)) (S0, m') := by
  intro n
  induction n with
  | zero =>
    intro x1 x2 x3 x4 x5 m m' r h
    rw [f_M_period_b23] at h
    cases h
  | succ n ih =>
    intro x1 x2 x3 x4 x5 m m' r h
    rw [f_M_period_b23] at h
    refine am_AW.run am_base_ok ok_M_period (Nat.le_add_left 1 d) 2 (pc1 := 26) (ls1 := [some (.ref 63), some (.int x1), some (.int x2), some (.int x3), some (.int x4), some (.int x5)]) (st1 := [.int x1, .int x5]) (σ1 := (S0, m)) rfl ?_
    refine am_AW.brP ok_M_period rfl rfl am_c_ge (fun c3 => ?_) (fun c3 => ?_)
    · rw [if_pos c3] at h
      refine am_AW.run am_base_ok ok_M_period (Nat.le_add_left 1 d) 1 (pc1 := 76) (ls1 := [some (.ref 63), some (.int x1), some (.int x2), some (.int x3), some (.int x4), some (.int x5)]) (st1 := [.int x4]) (σ1 := (S0, m)) rfl ?_
      refine am_AW.brP ok_M_period rfl rfl am_c_eq (fun c4 => ?_) (fun c4 => ?_)
      · rw [if_pos c4] at h
        refine am_AW.run am_base_ok ok_M_period (Nat.le_add_left 1 d) 1 (pc1 := 84) (ls1 := [some (.ref 63), some (.int x1), some (.int x2), some (.int x3), some (.int x4), some (.int x5)]) (st1 := [.int x2]) (σ1 := (S0, m)) rfl ?_
        exact am_AW.weak (f_M_period_b84_ok hd (hk13) x1 x3 x2  h) (by simp only [am_le, and_self])
      · rw [if_neg c4] at h
        refine am_AW.run am_base_ok ok_M_period (Nat.le_add_left 1 d) 2 (pc1 := 84) (ls1 := [some (.ref 63), some (.int x1), some (.int x2), some (.int x3), some (.int x4), some (.int x5)]) (st1 := [.int x3]) (σ1 := (S0, m)) rfl ?_
        exact am_AW.weak (f_M_period_b84_ok hd (hk13) x1 x3 x3  h) (by simp only [am_le, and_self])
    · rw [if_neg c3] at h
      refine am_AW.run am_base_ok ok_M_period (Nat.le_add_left 1 d) 1 (pc1 := 31) (ls1 := [some (.ref 63), some (.int x1), some (.int x2), some (.int x3), some (.int x4), some (.int x5)]) (st1 := [.int x4]) (σ1 := (S0, m)) rfl ?_
      refine am_AW.brP ok_M_period rfl rfl am_c_eq (fun c5 => ?_) (fun c5 => ?_)
      · rw [if_pos c5] at h
        refine am_AW.run am_base_ok ok_M_period (Nat.le_add_left 1 d) 1 (pc1 := 66) (ls1 := [some (.ref 63), some (.int x1), some (.int x2), some (.int x3), some (.int x4), some (.int x5)]) (st1 := [.int (0 : Int32)]) (σ1 := (S0, m)) rfl ?_
        exact am_AW.weak (f_M_period_b66_ok hd (hk13) (ih) x1 x2 x3 x5 (0 : Int32)  h) (by simp only [am_le, and_self])
      · rw [if_neg c5] at h
        refine am_AW.run am_base_ok ok_M_period (Nat.le_add_left 1 d) 4 (pc1 := 41) (ls1 := [some (.ref 63), some (.int x1), some (.int x2), some (.int x3), some (.int x4), some (.int x5)]) (st1 := [.int x5, .ref 67, .ref 63]) (σ1 := (S0, m)) rfl ?_
        obtain ⟨q8, hq8, h⟩ := Option.bind_eq_some_iff.mp h
        refine am_AW.callV ok_M_period am_nw_ok (As := [.ref 67, .int x5]) (rest := []) rfl rfl rfl oR_M_countOf lk_M_236 iM_M_countOf sE_M_countOf (qc := kq10) rfl rfl rfl rfl (Nat.le_of_ble_eq_true rfl) (f_M_countOf_ok (d := d) (by omega) 67 x5 (by simp) hq8) ?_
        change am_AW am_nw ro (d + 1) mr_M_period 44 [some (.ref 63), some (.int x1), some (.int x2), some (.int x3), some (.int x4), some (.int x5)] [.int q8.1] (S0, q8.2) (some (.int r)) (S0, m')
        refine am_AW.run am_base_ok ok_M_period (Nat.le_add_left 1 d) 7 (pc1 := 54) (ls1 := [some (.ref 63), some (.int x1), some (.int x2), some (.int x3), some (.int x4), some (.int x5)]) (st1 := [.int x1, .int (x5 + x3), .ref 67, .ref 63, .int q8.1]) (σ1 := (S0, q8.2)) rfl ?_
        by_cases g9 : x1 = (0 : Int32)
        · rw [if_pos g9] at h
          cases h
        rw [if_neg g9] at h
        refine am_AW.dvi ok_M_period (Nat.le_add_left 1 d) (w := (am_rem (x5 + x3) x1)) (Or.inr ⟨rfl, rfl⟩) rfl g9 ?_
        obtain ⟨q12, hq12, h⟩ := Option.bind_eq_some_iff.mp h
        refine am_AW.callV ok_M_period am_nw_ok (As := [.ref 67, .int (am_rem (x5 + x3) x1)]) (rest := [.int q8.1]) rfl rfl rfl oR_M_countOf lk_M_236 iM_M_countOf sE_M_countOf (qc := kq10) rfl rfl rfl rfl (Nat.le_of_ble_eq_true rfl) (f_M_countOf_ok (d := d) (by omega) 67 (am_rem (x5 + x3) x1) (by simp) hq12) ?_
        change am_AW am_nw ro (d + 1) mr_M_period 58 [some (.ref 63), some (.int x1), some (.int x2), some (.int x3), some (.int x4), some (.int x5)] [.int q12.1, .int q8.1] (S0, q12.2) (some (.int r)) (S0, m')
        refine am_AW.brN ok_M_period rfl rfl am_c_ne (fun c13 => ?_) (fun c13 => ?_)
        · rw [if_pos c13] at h
          refine am_AW.run am_base_ok ok_M_period (Nat.le_add_left 1 d) 2 (pc1 := 66) (ls1 := [some (.ref 63), some (.int x1), some (.int x2), some (.int x3), some (.int x4), some (.int x5)]) (st1 := [.int (1 : Int32)]) (σ1 := (S0, q12.2)) rfl ?_
          exact am_AW.weak (f_M_period_b66_ok hd (hk13) (ih) x1 x2 x3 x5 (1 : Int32)  h) (by simp only [am_le, and_self])
        · rw [if_neg c13] at h
          refine am_AW.run am_base_ok ok_M_period (Nat.le_add_left 1 d) 1 (pc1 := 66) (ls1 := [some (.ref 63), some (.int x1), some (.int x2), some (.int x3), some (.int x4), some (.int x5)]) (st1 := [.int (0 : Int32)]) (σ1 := (S0, q12.2)) rfl ?_
          exact am_AW.weak (f_M_period_b66_ok hd (hk13) (ih) x1 x2 x3 x5 (0 : Int32)  h) (by simp only [am_le, and_self])
set_option maxHeartbeats 4000000 in
set_option maxRecDepth 100000 in
theorem f_M_period_b23_ok {ro : am_Ro} {d : Nat} (hd : 6 ≤ d + 1) {k13 : Int32 → Int32 → Int32 → am_Mm → Option (Int32 × am_Mm)} (hk13 : ∀ (x1 : Int32) (x2 : Int32) (x3 : Int32) (m m' : am_Mm) (r : Int32), k13 x1 x2 x3 m = some (r, m') → am_AW am_nw ro (d + 1) mr_M_period 13 [some (.ref 63), some (.int x1), some (.int x2), some (.int x3), none, none] [] (S0, m) (some (.int r)) (S0, m')) (x1 : Int32) (x2 : Int32) (x3 : Int32) (x4 : Int32) (x5 : Int32) {m m' : am_Mm} {r : Int32} {n : Nat} (h : f_M_period_b23 k13 n x1 x2 x3 x4 x5 m = some (r, m')) : am_AW am_nw ro (d + 1) mr_M_period 23 [some (.ref 63), some (.int x1), some (.int x2), some (.int x3), some (.int x4), some (.int x5)] [] (S0, m) (some (.int r)) (S0, m') :=
  f_M_period_b23_all hd hk13 n x1 x2 x3 x4 x5  m m' r h
set_option maxHeartbeats 4000000 in
set_option maxRecDepth 100000 in
theorem f_M_period_b13_all {ro : am_Ro} {d : Nat} (hd : 6 ≤ d + 1) : ∀ (n : Nat) (x1 : Int32) (x2 : Int32) (x3 : Int32) (m m' : am_Mm) (r : Int32), f_M_period_b13 n x1 x2 x3 m = some (r, m') → am_AW am_nw ro (d + 1) mr_M_period 13 [some (.ref 63), some (.int x1), some (.int x2), some (.int x3), none, none] [] (S0, m) (some (.int r)) (S0, m') := by
  intro n
  induction n with
  | zero =>
    intro x1 x2 x3 m m' r h
    rw [f_M_period_b13] at h
    cases h
  | succ n ih =>
    intro x1 x2 x3 m m' r h
    rw [f_M_period_b13] at h
    refine am_AW.run am_base_ok ok_M_period (Nat.le_add_left 1 d) 1 (pc1 := 14) (ls1 := [some (.ref 63), some (.int x1), some (.int x2), some (.int x3), none, none]) (st1 := [.int x3]) (σ1 := (S0, m)) rfl ?_
    refine am_AW.brP ok_M_period rfl rfl am_c_le (fun c2 => ?_) (fun c2 => ?_)
    · rw [if_pos c2] at h
      refine am_AW.run am_base_ok ok_M_period (Nat.le_add_left 1 d) 1 (pc1 := 92) (ls1 := [some (.ref 63), some (.int x1), some (.int x2), some (.int x3), none, none]) (st1 := [.int x2]) (σ1 := (S0, m)) rfl ?_
      obtain ⟨rfl, rfl⟩ := Prod.mk.inj (Option.some.inj h)
      exact am_AW.ret ok_M_period rfl rfl rfl rfl
    · rw [if_neg c2] at h
      refine am_AW.run am_base_ok ok_M_period (Nat.le_add_left 1 d) 4 (pc1 := 23) (ls1 := [some (.ref 63), some (.int x1), some (.int x2), some (.int x3), some (.int (1 : Int32)), some (.int (0 : Int32))]) (st1 := []) (σ1 := (S0, m)) rfl ?_
      exact am_AW.weak (f_M_period_b23_ok hd (ih) x1 x2 x3 (1 : Int32) (0 : Int32)  h) (by simp only [am_le, and_self])
set_option maxHeartbeats 4000000 in
set_option maxRecDepth 100000 in
theorem f_M_period_b13_ok {ro : am_Ro} {d : Nat} (hd : 6 ≤ d + 1) (x1 : Int32) (x2 : Int32) (x3 : Int32) {m m' : am_Mm} {r : Int32} {n : Nat} (h : f_M_period_b13 n x1 x2 x3 m = some (r, m')) : am_AW am_nw ro (d + 1) mr_M_period 13 [some (.ref 63), some (.int x1), some (.int x2), some (.int x3), none, none] [] (S0, m) (some (.int r)) (S0, m') :=
  f_M_period_b13_all hd n x1 x2 x3  m m' r h
set_option maxHeartbeats 4000000 in
set_option maxRecDepth 100000 in
theorem f_M_period_ok {ro : am_Ro} {d : Nat} (hd : 6 ≤ d) {m m' : am_Mm} {r : Int32} (h : f_M_period  m = some (r, m')) : am_Mt am_nw ro d mr_M_period [.ref 63] (S0, m) (some (.int r)) (S0, m') := by
  obtain ⟨d, rfl⟩ : ∃ d0, d = d0 + 1 := ⟨d - 1, by omega⟩
  refine am_Mt.of (by decide +kernel) (Nat.le_of_ble_eq_true rfl) ?_
  change am_AW am_nw ro (d + 1) mr_M_period 0 [some (.ref 63), none, none, none, none, none] [] (S0, m) (some (.int r)) (S0, m')
  unfold f_M_period at h
  refine am_AW.run am_base_ok ok_M_period (Nat.le_add_left 1 d) 3 (pc1 := 5) (ls1 := [some (.ref 63), none, none, none, none, none]) (st1 := [.int (0 : Int32), .ref 67]) (σ1 := (S0, m)) rfl ?_
  refine am_AW.iald ok_M_period (Nat.le_add_left 1 d) S0_len rfl rfl (by decide) ?_
  change am_AW am_nw ro (d + 1) mr_M_period 6 [some (.ref 63), none, none, none, none, none] [.int (m.1 67 0)] (S0, m) (some (.int r)) (S0, m')
  refine am_AW.run am_base_ok ok_M_period (Nat.le_add_left 1 d) 7 (pc1 := 13) (ls1 := [some (.ref 63), some (.int (m.1 67 0)), some (.int (m.1 67 0)), some (.int ((m.1 67 0) - (1 : Int32))), none, none]) (st1 := []) (σ1 := (S0, m)) rfl ?_
  exact am_AW.weak (f_M_period_b13_ok hd (m.1 67 0) (m.1 67 0) ((m.1 67 0) - (1 : Int32))  h) (by simp only [am_le, and_self])
/-! FriezePolygonsModel.corner(II)I -/
def f_M_corner (x1 : Int32) (x2 : Int32) (m : am_Mm) : Option (Int32 × am_Mm) :=
  (f_M_isCorner x1 m).bind fun q3 =>
  if q3.1 = (0 : Int32) then
    some ((-1000001 : Int32), q3.2)
  else
    if x2 = (0 : Int32) then
      (f_M_countOf 67 x1 q3.2).bind fun q8 =>
      some (q8.1, q8.2)
    else
      if x2 = (1 : Int32) then
        if am_in (((2 : Int32) + ((2 : Int32) * x1)) + (1 : Int32)) 20 = true then
          some ((q3.2.1 67 (((2 : Int32) + ((2 : Int32) * x1)) + (1 : Int32)).toNatClampNeg), q3.2)
        else none
      else
        if x2 = (2 : Int32) then
          (f_M_cutsAt 67 x1 q3.2).bind fun q14 =>
          some (q14.1, q14.2)
        else
          if x2 = (3 : Int32) then
            (f_M_linkedTo x1 q3.2).bind fun q18 =>
            some (q18.1, q18.2)
          else
            some ((-1000001 : Int32), q3.2)
set_option maxHeartbeats 4000000 in
set_option maxRecDepth 100000 in
theorem f_M_corner_ok {ro : am_Ro} {d : Nat} (hd : 6 ≤ d) (x1 : Int32) (x2 : Int32) {m m' : am_Mm} {r : Int32} (h : f_M_corner x1 x2 m = some (r, m')) : am_Mt am_nw ro d mr_M_corner [.ref 63, .int x1, .int x2] (S0, m) (some (.int r)) (S0, m') := by
  obtain ⟨d, rfl⟩ : ∃ d0, d = d0 + 1 := ⟨d - 1, by omega⟩
  refine am_Mt.of (by decide +kernel) (Nat.le_of_ble_eq_true rfl) ?_
  change am_AW am_nw ro (d + 1) mr_M_corner 0 [some (.ref 63), some (.int x1), some (.int x2)] [] (S0, m) (some (.int r)) (S0, m')
  unfold f_M_corner at h
  refine am_AW.run am_base_ok ok_M_corner (Nat.le_add_left 1 d) 2 (pc1 := 2) (ls1 := [some (.ref 63), some (.int x1), some (.int x2)]) (st1 := [.int x1, .ref 63]) (σ1 := (S0, m)) rfl ?_
  obtain ⟨q3, hq3, h⟩ := Option.bind_eq_some_iff.mp h
  refine am_AW.callV ok_M_corner am_nw_ok (As := [.int x1]) (rest := []) rfl rfl rfl oR_M_isCorner lk_M_192 iM_M_isCorner sE_M_isCorner (qc := kq10) rfl rfl rfl rfl (Nat.le_of_ble_eq_true rfl) (f_M_isCorner_ok (d := d) (by omega) x1 hq3) ?_
  change am_AW am_nw ro (d + 1) mr_M_corner 5 [some (.ref 63), some (.int x1), some (.int x2)] [.int q3.1] (S0, q3.2) (some (.int r)) (S0, m')
  refine am_AW.brN ok_M_corner rfl rfl am_c_ne (fun c4 => ?_) (fun c4 => ?_)
  · rw [if_pos c4] at h
    refine am_AW.run am_base_ok ok_M_corner (Nat.le_add_left 1 d) 1 (pc1 := 10) (ls1 := [some (.ref 63), some (.int x1), some (.int x2)]) (st1 := [.int (-1000001 : Int32)]) (σ1 := (S0, q3.2)) rfl ?_
    obtain ⟨rfl, rfl⟩ := Prod.mk.inj (Option.some.inj h)
    exact am_AW.ret ok_M_corner rfl rfl rfl rfl
  · rw [if_neg c4] at h
    refine am_AW.run am_base_ok ok_M_corner (Nat.le_add_left 1 d) 1 (pc1 := 12) (ls1 := [some (.ref 63), some (.int x1), some (.int x2)]) (st1 := [.int x2]) (σ1 := (S0, q3.2)) rfl ?_
    by_cases c5 : x2 = (0 : Int32)
    · rw [if_pos c5] at h
      refine am_AW.sw ok_M_corner rfl (t := 44) (by rw [c5]; decide +kernel) ?_
      refine am_AW.run am_base_ok ok_M_corner (Nat.le_add_left 1 d) 4 (pc1 := 50) (ls1 := [some (.ref 63), some (.int x1), some (.int x2)]) (st1 := [.int x1, .ref 67, .ref 63]) (σ1 := (S0, q3.2)) rfl ?_
      obtain ⟨q8, hq8, h⟩ := Option.bind_eq_some_iff.mp h
      refine am_AW.callV ok_M_corner am_nw_ok (As := [.ref 67, .int x1]) (rest := []) rfl rfl rfl oR_M_countOf lk_M_236 iM_M_countOf sE_M_countOf (qc := kq10) rfl rfl rfl rfl (Nat.le_of_ble_eq_true rfl) (f_M_countOf_ok (d := d) (by omega) 67 x1 (by simp) hq8) ?_
      change am_AW am_nw ro (d + 1) mr_M_corner 53 [some (.ref 63), some (.int x1), some (.int x2)] [.int q8.1] (S0, q8.2) (some (.int r)) (S0, m')
      obtain ⟨rfl, rfl⟩ := Prod.mk.inj (Option.some.inj h)
      exact am_AW.ret ok_M_corner rfl rfl rfl rfl
    rw [if_neg c5] at h
    by_cases c9 : x2 = (1 : Int32)
    · rw [if_pos c9] at h
      refine am_AW.sw ok_M_corner rfl (t := 54) (by rw [c9]; decide +kernel) ?_
      refine am_AW.run am_base_ok ok_M_corner (Nat.le_add_left 1 d) 9 (pc1 := 65) (ls1 := [some (.ref 63), some (.int x1), some (.int x2)]) (st1 := [.int (((2 : Int32) + ((2 : Int32) * x1)) + (1 : Int32)), .ref 67]) (σ1 := (S0, q3.2)) rfl ?_
      by_cases g10 : am_in (((2 : Int32) + ((2 : Int32) * x1)) + (1 : Int32)) 20 = true
      rotate_left
      · rw [if_neg g10] at h
        cases h
      rw [if_pos g10] at h
      refine am_AW.iald ok_M_corner (Nat.le_add_left 1 d) S0_len rfl rfl g10 ?_
      obtain ⟨rfl, rfl⟩ := Prod.mk.inj (Option.some.inj h)
      exact am_AW.ret ok_M_corner rfl rfl rfl rfl
    rw [if_neg c9] at h
    by_cases c11 : x2 = (2 : Int32)
    · rw [if_pos c11] at h
      refine am_AW.sw ok_M_corner rfl (t := 67) (by rw [c11]; decide +kernel) ?_
      refine am_AW.run am_base_ok ok_M_corner (Nat.le_add_left 1 d) 4 (pc1 := 73) (ls1 := [some (.ref 63), some (.int x1), some (.int x2)]) (st1 := [.int x1, .ref 67, .ref 63]) (σ1 := (S0, q3.2)) rfl ?_
      obtain ⟨q14, hq14, h⟩ := Option.bind_eq_some_iff.mp h
      refine am_AW.callV ok_M_corner am_nw_ok (As := [.ref 67, .int x1]) (rest := []) rfl rfl rfl oR_M_cutsAt lk_M_111 iM_M_cutsAt sE_M_cutsAt (qc := kq10) rfl rfl rfl rfl (Nat.le_of_ble_eq_true rfl) (f_M_cutsAt_ok (d := d) (by omega) 67 x1 (by simp) hq14) ?_
      change am_AW am_nw ro (d + 1) mr_M_corner 76 [some (.ref 63), some (.int x1), some (.int x2)] [.int q14.1] (S0, q14.2) (some (.int r)) (S0, m')
      obtain ⟨rfl, rfl⟩ := Prod.mk.inj (Option.some.inj h)
      exact am_AW.ret ok_M_corner rfl rfl rfl rfl
    rw [if_neg c11] at h
    by_cases c15 : x2 = (3 : Int32)
    · rw [if_pos c15] at h
      refine am_AW.sw ok_M_corner rfl (t := 77) (by rw [c15]; decide +kernel) ?_
      refine am_AW.run am_base_ok ok_M_corner (Nat.le_add_left 1 d) 3 (pc1 := 82) (ls1 := [some (.ref 63), some (.int x1), some (.int x2)]) (st1 := [.int x1, .ref 67]) (σ1 := (S0, q3.2)) rfl ?_
      obtain ⟨q18, hq18, h⟩ := Option.bind_eq_some_iff.mp h
      refine am_AW.callS ok_M_corner am_nw_ok (As := [.ref 67, .int x1]) (rest := []) rfl rfl rfl oR_M_linkedTo lk_M_266 sT_M_linkedTo rfl (Nat.le_of_ble_eq_true rfl) (f_M_linkedTo_ok (d := d) (by omega) x1 hq18) ?_
      change am_AW am_nw ro (d + 1) mr_M_corner 85 [some (.ref 63), some (.int x1), some (.int x2)] [.int q18.1] (S0, q18.2) (some (.int r)) (S0, m')
      obtain ⟨rfl, rfl⟩ := Prod.mk.inj (Option.some.inj h)
      exact am_AW.ret ok_M_corner rfl rfl rfl rfl
    rw [if_neg c15] at h
    have o19 : (x2).toInt < 0 ∨ 3 < (x2).toInt := by
      have := lv_neT c5 (a := 0) (by decide)
      have := lv_neT c9 (a := 1) (by decide)
      have := lv_neT c11 (a := 2) (by decide)
      have := lv_neT c15 (a := 3) (by decide)
      omega
    refine am_AW.sw ok_M_corner rfl (t := 86) (by simp only [am_sw, if_pos o19]; decide +kernel) ?_
    refine am_AW.run am_base_ok ok_M_corner (Nat.le_add_left 1 d) 1 (pc1 := 88) (ls1 := [some (.ref 63), some (.int x1), some (.int x2)]) (st1 := [.int (-1000001 : Int32)]) (σ1 := (S0, q3.2)) rfl ?_
    obtain ⟨rfl, rfl⟩ := Prod.mk.inj (Option.some.inj h)
    exact am_AW.ret ok_M_corner rfl rfl rfl rfl
/-! FriezePolygonsModel.flipsBetween(II)I -/
def f_M_flipsBetween_b50 (k23 : Int32 → Int32 → Int32 → Int32 → Int32 → am_Mm → Option (Int32 × am_Mm)) : Nat → Int32 → Int32 → Int32 → Int32 → Int32 → Int32 → am_Mm → Option (Int32 × am_Mm)
  | 0, _, _, _, _, _, _, _ => none
  | n + 1, x2, x3, x4, x6, x7, x8, m =>
    if x7 ≤ x8 then
      k23 x2 x3 x4 x7 (x6 + (1 : Int32)) m
    else
      (f_M_steps x3 x8 x4 m).bind fun q10 =>
      f_M_flipsBetween_b50 k23 n x2 x3 q10.1 x6 x7 (x8 + (1 : Int32)) q10.2
def f_M_flipsBetween_b23 : Nat → Int32 → Int32 → Int32 → Int32 → Int32 → am_Mm → Option (Int32 × am_Mm)
  | 0, _, _, _, _, _, _ => none
  | n + 1, x2, x3, x4, x5, x6, m =>
    (f_M_isKnown x2 x5 x4 m).bind fun q4 =>
    if q4.1 = (0 : Int32) then
      if x4 ≤ x5 then
        some (x6, q4.2)
      else
        f_M_flipsBetween_b50 (f_M_flipsBetween_b23 n) am_F x2 x3 x4 x6 x4 x5 q4.2
    else
      some (x6, q4.2)
def f_M_flipsBetween (x1 : Int32) (x2 : Int32) (m : am_Mm) : Option (Int32 × am_Mm) :=
  f_M_flipsBetween_b23 am_F x2 (m.1 67 0) (1 : Int32) (0 : Int32) (0 : Int32) (am_pI m 74 0 x1)
set_option maxHeartbeats 4000000 in
set_option maxRecDepth 100000 in
theorem f_M_flipsBetween_b50_all {ro : am_Ro} {d : Nat} (hd : 6 ≤ d + 1) {k23 : Int32 → Int32 → Int32 → Int32 → Int32 → am_Mm → Option (Int32 × am_Mm)} (hk23 : ∀ (x2 : Int32) (x3 : Int32) (x4 : Int32) (x5 : Int32) (x6 : Int32) (m m' : am_Mm) (r : Int32), k23 x2 x3 x4 x5 x6 m = some (r, m') → am_AW am_nw ro (d + 1) mr_M_flipsBetween 23 [some (.ref 63), none, some (.int x2), some (.int x3), some (.int x4), some (.int x5), some (.int x6), none, none] [] (S0, m) (some (.int r)) (S0, m')) : ∀ (n : Nat) (x2 : Int32) (x3 : Int32) (x4 : Int32) (x6 : Int32) (x7 : Int32) (x8 : Int32) (m m' : am_Mm) (r : Int32), f_M_flipsBetween_b50 k23 n x2 x3 x4 x6 x7 x8 m = some (r, m') → am_AW am_nw ro (d + 1) mr_M_flipsBetween 50 [some (.ref 63), none, some (.int x2), some (.int x3), some (.int x4), none, some (.int x6), some (.int x7), some (.int x8)] [] (S0, m) (some (.int r)) (S0, m') := by
  intro n
  induction n with
  | zero =>
    intro x2 x3 x4 x6 x7 x8 m m' r h
    rw [f_M_flipsBetween_b50] at h
    cases h
  | succ n ih =>
    intro x2 x3 x4 x6 x7 x8 m m' r h
    rw [f_M_flipsBetween_b50] at h
    refine am_AW.run am_base_ok ok_M_flipsBetween (Nat.le_add_left 1 d) 2 (pc1 := 54) (ls1 := [some (.ref 63), none, some (.int x2), some (.int x3), some (.int x4), none, some (.int x6), some (.int x7), some (.int x8)]) (st1 := [.int x7, .int x8]) (σ1 := (S0, m)) rfl ?_
    refine am_AW.brP ok_M_flipsBetween rfl rfl am_c_ge (fun c7 => ?_) (fun c7 => ?_)
    · rw [if_pos c7] at h
      refine am_AW.run am_base_ok ok_M_flipsBetween (Nat.le_add_left 1 d) 4 (pc1 := 23) (ls1 := [some (.ref 63), none, some (.int x2), some (.int x3), some (.int x4), some (.int x7), some (.int (x6 + (1 : Int32))), some (.int x7), some (.int x8)]) (st1 := []) (σ1 := (S0, m)) rfl ?_
      exact am_AW.weak (hk23 x2 x3 x4 x7 (x6 + (1 : Int32))  _ _ _ h) (by simp only [am_le, and_self])
    · rw [if_neg c7] at h
      refine am_AW.run am_base_ok ok_M_flipsBetween (Nat.le_add_left 1 d) 4 (pc1 := 63) (ls1 := [some (.ref 63), none, some (.int x2), some (.int x3), some (.int x4), none, some (.int x6), some (.int x7), some (.int x8)]) (st1 := [.int x4, .int x8, .int x3, .ref 63]) (σ1 := (S0, m)) rfl ?_
      obtain ⟨q10, hq10, h⟩ := Option.bind_eq_some_iff.mp h
      refine am_AW.callV ok_M_flipsBetween am_nw_ok (As := [.int x3, .int x8, .int x4]) (rest := []) rfl rfl rfl oR_M_steps lk_M_281 iM_M_steps sE_M_steps (qc := kq10) rfl rfl rfl rfl (Nat.le_of_ble_eq_true rfl) (f_M_steps_ok (d := d) (by omega) x3 x8 x4 hq10) ?_
      change am_AW am_nw ro (d + 1) mr_M_flipsBetween 66 [some (.ref 63), none, some (.int x2), some (.int x3), some (.int x4), none, some (.int x6), some (.int x7), some (.int x8)] [.int q10.1] (S0, q10.2) (some (.int r)) (S0, m')
      refine am_AW.run am_base_ok ok_M_flipsBetween (Nat.le_add_left 1 d) 3 (pc1 := 50) (ls1 := [some (.ref 63), none, some (.int x2), some (.int x3), some (.int q10.1), none, some (.int x6), some (.int x7), some (.int (x8 + (1 : Int32)))]) (st1 := []) (σ1 := (S0, q10.2)) rfl ?_
      exact am_AW.weak (ih x2 x3 q10.1 x6 x7 (x8 + (1 : Int32))  _ _ _ h) (by simp only [am_le, and_self])
set_option maxHeartbeats 4000000 in
set_option maxRecDepth 100000 in
theorem f_M_flipsBetween_b50_ok {ro : am_Ro} {d : Nat} (hd : 6 ≤ d + 1) {k23 : Int32 → Int32 → Int32 → Int32 → Int32 → am_Mm → Option (Int32 × am_Mm)} (hk23 : ∀ (x2 : Int32) (x3 : Int32) (x4 : Int32) (x5 : Int32) (x6 : Int32) (m m' : am_Mm) (r : Int32), k23 x2 x3 x4 x5 x6 m = some (r, m') → am_AW am_nw ro (d + 1) mr_M_flipsBetween 23 [some (.ref 63), none, some (.int x2), some (.int x3), some (.int x4), some (.int x5), some (.int x6), none, none] [] (S0, m) (some (.int r)) (S0, m')) (x2 : Int32) (x3 : Int32) (x4 : Int32) (x6 : Int32) (x7 : Int32) (x8 : Int32) {m m' : am_Mm} {r : Int32} {n : Nat} (h : f_M_flipsBetween_b50 k23 n x2 x3 x4 x6 x7 x8 m = some (r, m')) : am_AW am_nw ro (d + 1) mr_M_flipsBetween 50 [some (.ref 63), none, some (.int x2), some (.int x3), some (.int x4), none, some (.int x6), some (.int x7), some (.int x8)] [] (S0, m) (some (.int r)) (S0, m') :=
  f_M_flipsBetween_b50_all hd hk23 n x2 x3 x4 x6 x7 x8  m m' r h
set_option maxHeartbeats 4000000 in
set_option maxRecDepth 100000 in
theorem f_M_flipsBetween_b23_all {ro : am_Ro} {d : Nat} (hd : 6 ≤ d + 1) : ∀ (n : Nat) (x2 : Int32) (x3 : Int32) (x4 : Int32) (x5 : Int32) (x6 : Int32) (m m' : am_Mm) (r : Int32), f_M_flipsBetween_b23 n x2 x3 x4 x5 x6 m = some (r, m') → am_AW am_nw ro (d + 1) mr_M_flipsBetween 23 [some (.ref 63), none, some (.int x2), some (.int x3), some (.int x4), some (.int x5), some (.int x6), none, none] [] (S0, m) (some (.int r)) (S0, m') := by
  intro n
  induction n with
  | zero =>
    intro x2 x3 x4 x5 x6 m m' r h
    rw [f_M_flipsBetween_b23] at h
    cases h
  | succ n ih =>
    intro x2 x3 x4 x5 x6 m m' r h
    rw [f_M_flipsBetween_b23] at h
    refine am_AW.run am_base_ok ok_M_flipsBetween (Nat.le_add_left 1 d) 4 (pc1 := 29) (ls1 := [some (.ref 63), none, some (.int x2), some (.int x3), some (.int x4), some (.int x5), some (.int x6), none, none]) (st1 := [.int x4, .int x5, .int x2, .ref 63]) (σ1 := (S0, m)) rfl ?_
    obtain ⟨q4, hq4, h⟩ := Option.bind_eq_some_iff.mp h
    refine am_AW.callV ok_M_flipsBetween am_nw_ok (As := [.int x2, .int x5, .int x4]) (rest := []) rfl rfl rfl oR_M_isKnown lk_M_278 iM_M_isKnown sE_M_isKnown (qc := kq10) rfl rfl rfl rfl (Nat.le_of_ble_eq_true rfl) (f_M_isKnown_ok (d := d) (by omega) x2 x5 x4 hq4) ?_
    change am_AW am_nw ro (d + 1) mr_M_flipsBetween 32 [some (.ref 63), none, some (.int x2), some (.int x3), some (.int x4), some (.int x5), some (.int x6), none, none] [.int q4.1] (S0, q4.2) (some (.int r)) (S0, m')
    refine am_AW.brN ok_M_flipsBetween rfl rfl am_c_ne (fun c5 => ?_) (fun c5 => ?_)
    · rw [if_pos c5] at h
      refine am_AW.run am_base_ok ok_M_flipsBetween (Nat.le_add_left 1 d) 2 (pc1 := 39) (ls1 := [some (.ref 63), none, some (.int x2), some (.int x3), some (.int x4), some (.int x5), some (.int x6), none, none]) (st1 := [.int x4, .int x5]) (σ1 := (S0, q4.2)) rfl ?_
      refine am_AW.brP ok_M_flipsBetween rfl rfl am_c_ge (fun c6 => ?_) (fun c6 => ?_)
      · rw [if_pos c6] at h
        refine am_AW.run am_base_ok ok_M_flipsBetween (Nat.le_add_left 1 d) 1 (pc1 := 86) (ls1 := [some (.ref 63), none, some (.int x2), some (.int x3), some (.int x4), some (.int x5), some (.int x6), none, none]) (st1 := [.int x6]) (σ1 := (S0, q4.2)) rfl ?_
        obtain ⟨rfl, rfl⟩ := Prod.mk.inj (Option.some.inj h)
        exact am_AW.ret ok_M_flipsBetween rfl rfl rfl rfl
      · rw [if_neg c6] at h
        refine am_AW.run am_base_ok ok_M_flipsBetween (Nat.le_add_left 1 d) 4 (pc1 := 50) (ls1 := [some (.ref 63), none, some (.int x2), some (.int x3), some (.int x4), some (.int x5), some (.int x6), some (.int x4), some (.int x5)]) (st1 := []) (σ1 := (S0, q4.2)) rfl ?_
        exact am_AW.weak (f_M_flipsBetween_b50_ok hd (ih) x2 x3 x4 x6 x4 x5  h) (by simp only [am_le, and_self])
    · rw [if_neg c5] at h
      refine am_AW.run am_base_ok ok_M_flipsBetween (Nat.le_add_left 1 d) 1 (pc1 := 86) (ls1 := [some (.ref 63), none, some (.int x2), some (.int x3), some (.int x4), some (.int x5), some (.int x6), none, none]) (st1 := [.int x6]) (σ1 := (S0, q4.2)) rfl ?_
      obtain ⟨rfl, rfl⟩ := Prod.mk.inj (Option.some.inj h)
      exact am_AW.ret ok_M_flipsBetween rfl rfl rfl rfl
set_option maxHeartbeats 4000000 in
set_option maxRecDepth 100000 in
theorem f_M_flipsBetween_b23_ok {ro : am_Ro} {d : Nat} (hd : 6 ≤ d + 1) (x2 : Int32) (x3 : Int32) (x4 : Int32) (x5 : Int32) (x6 : Int32) {m m' : am_Mm} {r : Int32} {n : Nat} (h : f_M_flipsBetween_b23 n x2 x3 x4 x5 x6 m = some (r, m')) : am_AW am_nw ro (d + 1) mr_M_flipsBetween 23 [some (.ref 63), none, some (.int x2), some (.int x3), some (.int x4), some (.int x5), some (.int x6), none, none] [] (S0, m) (some (.int r)) (S0, m') :=
  f_M_flipsBetween_b23_all hd n x2 x3 x4 x5 x6  m m' r h
set_option maxHeartbeats 4000000 in
set_option maxRecDepth 100000 in
theorem f_M_flipsBetween_ok {ro : am_Ro} {d : Nat} (hd : 6 ≤ d) (x1 : Int32) (x2 : Int32) {m m' : am_Mm} {r : Int32} (h : f_M_flipsBetween x1 x2 m = some (r, m')) : am_Mt am_nw ro d mr_M_flipsBetween [.ref 63, .int x1, .int x2] (S0, m) (some (.int r)) (S0, m') := by
  obtain ⟨d, rfl⟩ : ∃ d0, d = d0 + 1 := ⟨d - 1, by omega⟩
  refine am_Mt.of (by decide +kernel) (Nat.le_of_ble_eq_true rfl) ?_
  change am_AW am_nw ro (d + 1) mr_M_flipsBetween 0 [some (.ref 63), some (.int x1), some (.int x2), none, none, none, none, none, none] [] (S0, m) (some (.int r)) (S0, m')
  unfold f_M_flipsBetween at h
  refine am_AW.run am_base_ok ok_M_flipsBetween (Nat.le_add_left 1 d) 3 (pc1 := 5) (ls1 := [some (.ref 63), some (.int x1), some (.int x2), none, none, none, none, none, none]) (st1 := [.int (0 : Int32), .ref 67]) (σ1 := (S0, m)) rfl ?_
  refine am_AW.iald ok_M_flipsBetween (Nat.le_add_left 1 d) S0_len rfl rfl (by decide) ?_
  change am_AW am_nw ro (d + 1) mr_M_flipsBetween 6 [some (.ref 63), some (.int x1), some (.int x2), none, none, none, none, none, none] [.int (m.1 67 0)] (S0, m) (some (.int r)) (S0, m')
  refine am_AW.run am_base_ok ok_M_flipsBetween (Nat.le_add_left 1 d) 5 (pc1 := 13) (ls1 := [some (.ref 63), some (.int x1), some (.int x2), some (.int (m.1 67 0)), none, none, none, none, none]) (st1 := [.int x1, .int (0 : Int32), .ref 74]) (σ1 := (S0, m)) rfl ?_
  refine am_AW.iast ok_M_flipsBetween (Nat.le_add_left 1 d) rfl rfl (by decide) ?_
  change am_AW am_nw ro (d + 1) mr_M_flipsBetween 14 [some (.ref 63), some (.int x1), some (.int x2), some (.int (m.1 67 0)), none, none, none, none, none] [] (S0, (am_pI m 74 0 x1)) (some (.int r)) (S0, m')
  refine am_AW.run am_base_ok ok_M_flipsBetween (Nat.le_add_left 1 d) 6 (pc1 := 23) (ls1 := [some (.ref 63), some (.int x1), some (.int x2), some (.int (m.1 67 0)), some (.int (1 : Int32)), some (.int (0 : Int32)), some (.int (0 : Int32)), none, none]) (st1 := []) (σ1 := (S0, (am_pI m 74 0 x1))) rfl ?_
  exact am_AW.weak (f_M_flipsBetween_b23_ok hd x2 (m.1 67 0) (1 : Int32) (0 : Int32) (0 : Int32)  h) (by simp only [am_le, and_self])
/-! FriezePolygonsModel.sets(II)I -/
def f_M_sets_b140 (k62 : Int32 → Int32 → Int32 → Int32 → Int32 → Int32 → Int32 → am_Mm → Option (Int32 × am_Mm)) (x1 : Int32) (x2 : Int32) (x3 : Int32) (x4 : Int32) (x5 : Int32) (x6 : Int32) (x7 : Int32) (m : am_Mm) : Option (Int32 × am_Mm) :=
  k62 x1 x2 x3 x4 x5 x6 (x7 + (1 : Int32)) m
def f_M_sets_b108 (k62 : Int32 → Int32 → Int32 → Int32 → Int32 → Int32 → Int32 → am_Mm → Option (Int32 × am_Mm)) (k76 : Int32 → Int32 → Int32 → Int32 → Int32 → Int32 → Int32 → Int32 → Int32 → am_Mm → Option (Int32 × am_Mm)) (x1 : Int32) (x2 : Int32) (x3 : Int32) (x4 : Int32) (x5 : Int32) (x6 : Int32) (x7 : Int32) (x9 : Int32) (s0 : Int32) (s1 : Int32) (m : am_Mm) : Option (Int32 × am_Mm) :=
  k76 x1 x2 x3 x4 x5 x6 x7 (s0 + s1) (x9 + (1 : Int32)) m
def f_M_sets_b76 (k62 : Int32 → Int32 → Int32 → Int32 → Int32 → Int32 → Int32 → am_Mm → Option (Int32 × am_Mm)) : Nat → Int32 → Int32 → Int32 → Int32 → Int32 → Int32 → Int32 → Int32 → Int32 → am_Mm → Option (Int32 × am_Mm)
  | 0, _, _, _, _, _, _, _, _, _, _ => none
  | n + 1, x1, x2, x3, x4, x5, x6, x7, x8, x9, m =>
    if x3 ≤ x9 then
      if x8 = x1 then
        f_M_sets_b140 k62 x1 x2 x3 (x4 + (1 : Int32)) (x5 &&& x7) (x6 ||| x7) x7 m
      else
        f_M_sets_b140 k62 x1 x2 x3 x4 x5 x6 x7 m
    else
      (f_M_has x7 x9 m).bind fun q22 =>
      if q22.1 = (0 : Int32) then
        f_M_sets_b108 k62 (f_M_sets_b76 k62 n) x1 x2 x3 x4 x5 x6 x7 x9 x8 (0 : Int32) q22.2
      else
        (f_M_countOf 67 x9 q22.2).bind fun q26 =>
        f_M_sets_b108 k62 (f_M_sets_b76 k62 n) x1 x2 x3 x4 x5 x6 x7 x9 x8 q26.1 q26.2
def f_M_sets_b62 : Nat → Int32 → Int32 → Int32 → Int32 → Int32 → Int32 → Int32 → am_Mm → Option (Int32 × am_Mm)
  | 0, _, _, _, _, _, _, _, _ => none
  | n + 1, x1, x2, x3, x4, x5, x6, x7, m =>
    if (am_shl (1 : Int32) x3) ≤ x7 then
      if x2 = (0 : Int32) then
        some (x4, m)
      else
        if x2 = (2 : Int32) then
          some (x6, m)
        else
          if x4 ≤ (0 : Int32) then
            some ((0 : Int32), m)
          else
            some (x5, m)
    else
      f_M_sets_b76 (f_M_sets_b62 n) am_F x1 x2 x3 x4 x5 x6 x7 (0 : Int32) (0 : Int32) m
def f_M_sets (x1 : Int32) (x2 : Int32) (m : am_Mm) : Option (Int32 × am_Mm) :=
  (f_M_isThere m).bind fun q3 =>
  if q3.1 = (0 : Int32) then
    some ((-1000002 : Int32), q3.2)
  else
    (f_M_in (x1.toInt64) (-99 : Int64) (99 : Int64) q3.2).bind fun q7 =>
    if q7.1 = (0 : Int32) then
      some ((-1000001 : Int32), q7.2)
    else
      (f_M_in (x2.toInt64) (0 : Int64) (2 : Int64) q7.2).bind fun q11 =>
      if q11.1 = (0 : Int32) then
        some ((-1000001 : Int32), q11.2)
      else
        f_M_sets_b62 am_F x1 x2 (q11.2.1 67 0) (0 : Int32) ((am_shl (1 : Int32) (q11.2.1 67 0)) - (1 : Int32)) (0 : Int32) (0 : Int32) q11.2
set_option maxHeartbeats 4000000 in
set_option maxRecDepth 100000 in
theorem f_M_sets_b140_ok {ro : am_Ro} {d : Nat} (hd : 6 ≤ d + 1) {k62 : Int32 → Int32 → Int32 → Int32 → Int32 → Int32 → Int32 → am_Mm → Option (Int32 × am_Mm)} (hk62 : ∀ (x1 : Int32) (x2 : Int32) (x3 : Int32) (x4 : Int32) (x5 : Int32) (x6 : Int32) (x7 : Int32) (m m' : am_Mm) (r : Int32), k62 x1 x2 x3 x4 x5 x6 x7 m = some (r, m') → am_AW am_nw ro (d + 1) mr_M_sets 62 [some (.ref 63), some (.int x1), some (.int x2), some (.int x3), some (.int x4), some (.int x5), some (.int x6), some (.int x7), none, none] [] (S0, m) (some (.int r)) (S0, m')) (x1 : Int32) (x2 : Int32) (x3 : Int32) (x4 : Int32) (x5 : Int32) (x6 : Int32) (x7 : Int32) {m m' : am_Mm} {r : Int32} (h : f_M_sets_b140 k62 x1 x2 x3 x4 x5 x6 x7 m = some (r, m')) : am_AW am_nw ro (d + 1) mr_M_sets 140 [some (.ref 63), some (.int x1), some (.int x2), some (.int x3), some (.int x4), some (.int x5), some (.int x6), some (.int x7), none, none] [] (S0, m) (some (.int r)) (S0, m') := by
  unfold f_M_sets_b140 at h
  refine am_AW.run am_base_ok ok_M_sets (Nat.le_add_left 1 d) 2 (pc1 := 62) (ls1 := [some (.ref 63), some (.int x1), some (.int x2), some (.int x3), some (.int x4), some (.int x5), some (.int x6), some (.int (x7 + (1 : Int32))), none, none]) (st1 := []) (σ1 := (S0, m)) rfl ?_
  exact am_AW.weak (hk62 x1 x2 x3 x4 x5 x6 (x7 + (1 : Int32))  _ _ _ h) (by simp only [am_le, and_self])
set_option maxHeartbeats 4000000 in
set_option maxRecDepth 100000 in
theorem f_M_sets_b108_ok {ro : am_Ro} {d : Nat} (hd : 6 ≤ d + 1) {k62 : Int32 → Int32 → Int32 → Int32 → Int32 → Int32 → Int32 → am_Mm → Option (Int32 × am_Mm)} (hk62 : ∀ (x1 : Int32) (x2 : Int32) (x3 : Int32) (x4 : Int32) (x5 : Int32) (x6 : Int32) (x7 : Int32) (m m' : am_Mm) (r : Int32), k62 x1 x2 x3 x4 x5 x6 x7 m = some (r, m') → am_AW am_nw ro (d + 1) mr_M_sets 62 [some (.ref 63), some (.int x1), some (.int x2), some (.int x3), some (.int x4), some (.int x5), some (.int x6), some (.int x7), none, none] [] (S0, m) (some (.int r)) (S0, m')) {k76 : Int32 → Int32 → Int32 → Int32 → Int32 → Int32 → Int32 → Int32 → Int32 → am_Mm → Option (Int32 × am_Mm)} (hk76 : ∀ (x1 : Int32) (x2 : Int32) (x3 : Int32) (x4 : Int32) (x5 : Int32) (x6 : Int32) (x7 : Int32) (x8 : Int32) (x9 : Int32) (m m' : am_Mm) (r : Int32), k76 x1 x2 x3 x4 x5 x6 x7 x8 x9 m = some (r, m') → am_AW am_nw ro (d + 1) mr_M_sets 76 [some (.ref 63), some (.int x1), some (.int x2), some (.int x3), some (.int x4), some (.int x5), some (.int x6), some (.int x7), some (.int x8), some (.int x9)] [] (S0, m) (some (.int r)) (S0, m')) (x1 : Int32) (x2 : Int32) (x3 : Int32) (x4 : Int32) (x5 : Int32) (x6 : Int32) (x7 : Int32) (x9 : Int32) (s0 : Int32) (s1 : Int32) {m m' : am_Mm} {r : Int32} (h : f_M_sets_b108 k62 k76 x1 x2 x3 x4 x5 x6 x7 x9 s0 s1 m = some (r, m')) : am_AW am_nw ro (d + 1) mr_M_sets 108 [some (.ref 63), some (.int x1), some (.int x2), some (.int x3), some (.int x4), some (.int x5), some (.int x6), some (.int x7), none, some (.int x9)] [.int s1, .int s0] (S0, m) (some (.int r)) (S0, m') := by
  unfold f_M_sets_b108 at h
  refine am_AW.run am_base_ok ok_M_sets (Nat.le_add_left 1 d) 4 (pc1 := 76) (ls1 := [some (.ref 63), some (.int x1), some (.int x2), some (.int x3), some (.int x4), some (.int x5), some (.int x6), some (.int x7), some (.int (s0 + s1)), some (.int (x9 + (1 : Int32)))]) (st1 := []) (σ1 := (S0, m)) rfl ?_
  exact am_AW.weak (hk76 x1 x2 x3 x4 x5 x6 x7 (s0 + s1) (x9 + (1 : Int32))  _ _ _ h) (by simp only [am_le, and_self])
set_option maxHeartbeats 4000000 in
set_option maxRecDepth 100000 in
theorem f_M_sets_b76_all {ro : am_Ro} {d : Nat} (hd : 6 ≤ d + 1) {k62 : Int32 → Int32 → Int32 → Int32 → Int32 → Int32 → Int32 → am_Mm → Option (Int32 × am_Mm)} (hk62 : ∀ (x1 : Int32) (x2 : Int32) (x3 : Int32) (x4 : Int32) (x5 : Int32) (x6 : Int32) (x7 : Int32) (m m' : am_Mm) (r : Int32), k62 x1 x2 x3 x4 x5 x6 x7 m = some (r, m') → am_AW am_nw ro (d + 1) mr_M_sets 62 [some (.ref 63), some (.int x1), some (.int x2), some (.int x3), some (.int x4), some (.int x5), some (.int x6), some (.int x7), none, none] [] (S0, m) (some (.int r)) (S0, m')) : ∀ (n : Nat) (x1 : Int32) (x2 : Int32) (x3 : Int32) (x4 : Int32) (x5 : Int32) (x6 : Int32) (x7 : Int32) (x8 : Int32) (x9 : Int32) (m m' : am_Mm) (r : Int32), f_M_sets_b76 k62 n x1 x2 x3 x4 x5 x6 x7 x8 x9 m = some (r, m') → am_AW am_nw ro (d + 1) mr_M_sets 76 [some (.ref 63), some (.int x1), some (.int x2), some (.int x3), some (.int x4), some (.int x5), some (.int x6), some (.int x7), some (.int x8), some (.int x9)] [] (S0, m) (some (.int r)) (S0, m') := by
  intro n
  induction n with
  | zero =>
    intro x1 x2 x3 x4 x5 x6 x7 x8 x9 m m' r h
    rw [f_M_sets_b76] at h
    cases h
  | succ n ih =>
    intro x1 x2 x3 x4 x5 x6 x7 x8 x9 m m' r h
    rw [f_M_sets_b76] at h
    refine am_AW.run am_base_ok ok_M_sets (Nat.le_add_left 1 d) 2 (pc1 := 79) (ls1 := [some (.ref 63), some (.int x1), some (.int x2), some (.int x3), some (.int x4), some (.int x5), some (.int x6), some (.int x7), some (.int x8), some (.int x9)]) (st1 := [.int x3, .int x9]) (σ1 := (S0, m)) rfl ?_
    refine am_AW.brP ok_M_sets rfl rfl am_c_ge (fun c18 => ?_) (fun c18 => ?_)
    · rw [if_pos c18] at h
      refine am_AW.run am_base_ok ok_M_sets (Nat.le_add_left 1 d) 2 (pc1 := 120) (ls1 := [some (.ref 63), some (.int x1), some (.int x2), some (.int x3), some (.int x4), some (.int x5), some (.int x6), some (.int x7), some (.int x8), some (.int x9)]) (st1 := [.int x1, .int x8]) (σ1 := (S0, m)) rfl ?_
      refine am_AW.brN ok_M_sets rfl rfl am_c_ne (fun c19 => ?_) (fun c19 => ?_)
      · rw [if_pos c19] at h
        refine am_AW.run am_base_ok ok_M_sets (Nat.le_add_left 1 d) 9 (pc1 := 140) (ls1 := [some (.ref 63), some (.int x1), some (.int x2), some (.int x3), some (.int (x4 + (1 : Int32))), some (.int (x5 &&& x7)), some (.int (x6 ||| x7)), some (.int x7), some (.int x8), some (.int x9)]) (st1 := []) (σ1 := (S0, m)) rfl ?_
        exact am_AW.weak (f_M_sets_b140_ok hd (hk62) x1 x2 x3 (x4 + (1 : Int32)) (x5 &&& x7) (x6 ||| x7) x7  h) (by simp only [am_le, and_self])
      · rw [if_neg c19] at h
        exact am_AW.weak (f_M_sets_b140_ok hd (hk62) x1 x2 x3 x4 x5 x6 x7  h) (by simp only [am_le, and_self])
    · rw [if_neg c18] at h
      refine am_AW.run am_base_ok ok_M_sets (Nat.le_add_left 1 d) 3 (pc1 := 88) (ls1 := [some (.ref 63), some (.int x1), some (.int x2), some (.int x3), some (.int x4), some (.int x5), some (.int x6), some (.int x7), some (.int x8), some (.int x9)]) (st1 := [.int x9, .int x7, .int x8]) (σ1 := (S0, m)) rfl ?_
      obtain ⟨q22, hq22, h⟩ := Option.bind_eq_some_iff.mp h
      refine am_AW.callS ok_M_sets am_nw_ok (As := [.int x7, .int x9]) (rest := [.int x8]) rfl rfl rfl oR_M_has lk_M_75 sT_M_has rfl (Nat.le_of_ble_eq_true rfl) (f_M_has_ok (d := d) (by omega) x7 x9 hq22) ?_
      change am_AW am_nw ro (d + 1) mr_M_sets 91 [some (.ref 63), some (.int x1), some (.int x2), some (.int x3), some (.int x4), some (.int x5), some (.int x6), some (.int x7), some (.int x8), some (.int x9)] [.int q22.1, .int x8] (S0, q22.2) (some (.int r)) (S0, m')
      refine am_AW.brP ok_M_sets rfl rfl am_c_eq (fun c23 => ?_) (fun c23 => ?_)
      · rw [if_pos c23] at h
        refine am_AW.run am_base_ok ok_M_sets (Nat.le_add_left 1 d) 1 (pc1 := 108) (ls1 := [some (.ref 63), some (.int x1), some (.int x2), some (.int x3), some (.int x4), some (.int x5), some (.int x6), some (.int x7), some (.int x8), some (.int x9)]) (st1 := [.int (0 : Int32), .int x8]) (σ1 := (S0, q22.2)) rfl ?_
        exact am_AW.weak (f_M_sets_b108_ok hd (hk62) (ih) x1 x2 x3 x4 x5 x6 x7 x9 x8 (0 : Int32)  h) (by simp only [am_le, and_self])
      · rw [if_neg c23] at h
        refine am_AW.run am_base_ok ok_M_sets (Nat.le_add_left 1 d) 4 (pc1 := 101) (ls1 := [some (.ref 63), some (.int x1), some (.int x2), some (.int x3), some (.int x4), some (.int x5), some (.int x6), some (.int x7), some (.int x8), some (.int x9)]) (st1 := [.int x9, .ref 67, .ref 63, .int x8]) (σ1 := (S0, q22.2)) rfl ?_
        obtain ⟨q26, hq26, h⟩ := Option.bind_eq_some_iff.mp h
        refine am_AW.callV ok_M_sets am_nw_ok (As := [.ref 67, .int x9]) (rest := [.int x8]) rfl rfl rfl oR_M_countOf lk_M_236 iM_M_countOf sE_M_countOf (qc := kq10) rfl rfl rfl rfl (Nat.le_of_ble_eq_true rfl) (f_M_countOf_ok (d := d) (by omega) 67 x9 (by simp) hq26) ?_
        change am_AW am_nw ro (d + 1) mr_M_sets 104 [some (.ref 63), some (.int x1), some (.int x2), some (.int x3), some (.int x4), some (.int x5), some (.int x6), some (.int x7), some (.int x8), some (.int x9)] [.int q26.1, .int x8] (S0, q26.2) (some (.int r)) (S0, m')
        refine am_AW.run am_base_ok ok_M_sets (Nat.le_add_left 1 d) 1 (pc1 := 108) (ls1 := [some (.ref 63), some (.int x1), some (.int x2), some (.int x3), some (.int x4), some (.int x5), some (.int x6), some (.int x7), some (.int x8), some (.int x9)]) (st1 := [.int q26.1, .int x8]) (σ1 := (S0, q26.2)) rfl ?_
        exact am_AW.weak (f_M_sets_b108_ok hd (hk62) (ih) x1 x2 x3 x4 x5 x6 x7 x9 x8 q26.1  h) (by simp only [am_le, and_self])
set_option maxHeartbeats 4000000 in
set_option maxRecDepth 100000 in
theorem f_M_sets_b76_ok {ro : am_Ro} {d : Nat} (hd : 6 ≤ d + 1) {k62 : Int32 → Int32 → Int32 → Int32 → Int32 → Int32 → Int32 → am_Mm → Option (Int32 × am_Mm)} (hk62 : ∀ (x1 : Int32) (x2 : Int32) (x3 : Int32) (x4 : Int32) (x5 : Int32) (x6 : Int32) (x7 : Int32) (m m' : am_Mm) (r : Int32), k62 x1 x2 x3 x4 x5 x6 x7 m = some (r, m') → am_AW am_nw ro (d + 1) mr_M_sets 62 [some (.ref 63), some (.int x1), some (.int x2), some (.int x3), some (.int x4), some (.int x5), some (.int x6), some (.int x7), none, none] [] (S0, m) (some (.int r)) (S0, m')) (x1 : Int32) (x2 : Int32) (x3 : Int32) (x4 : Int32) (x5 : Int32) (x6 : Int32) (x7 : Int32) (x8 : Int32) (x9 : Int32) {m m' : am_Mm} {r : Int32} {n : Nat} (h : f_M_sets_b76 k62 n x1 x2 x3 x4 x5 x6 x7 x8 x9 m = some (r, m')) : am_AW am_nw ro (d + 1) mr_M_sets 76 [some (.ref 63), some (.int x1), some (.int x2), some (.int x3), some (.int x4), some (.int x5), some (.int x6), some (.int x7), some (.int x8), some (.int x9)] [] (S0, m) (some (.int r)) (S0, m') :=
  f_M_sets_b76_all hd hk62 n x1 x2 x3 x4 x5 x6 x7 x8 x9  m m' r h
set_option maxHeartbeats 4000000 in
set_option maxRecDepth 100000 in
theorem f_M_sets_b62_all {ro : am_Ro} {d : Nat} (hd : 6 ≤ d + 1) : ∀ (n : Nat) (x1 : Int32) (x2 : Int32) (x3 : Int32) (x4 : Int32) (x5 : Int32) (x6 : Int32) (x7 : Int32) (m m' : am_Mm) (r : Int32), f_M_sets_b62 n x1 x2 x3 x4 x5 x6 x7 m = some (r, m') → am_AW am_nw ro (d + 1) mr_M_sets 62 [some (.ref 63), some (.int x1), some (.int x2), some (.int x3), some (.int x4), some (.int x5), some (.int x6), some (.int x7), none, none] [] (S0, m) (some (.int r)) (S0, m') := by
  intro n
  induction n with
  | zero =>
    intro x1 x2 x3 x4 x5 x6 x7 m m' r h
    rw [f_M_sets_b62] at h
    cases h
  | succ n ih =>
    intro x1 x2 x3 x4 x5 x6 x7 m m' r h
    rw [f_M_sets_b62] at h
    refine am_AW.run am_base_ok ok_M_sets (Nat.le_add_left 1 d) 4 (pc1 := 67) (ls1 := [some (.ref 63), some (.int x1), some (.int x2), some (.int x3), some (.int x4), some (.int x5), some (.int x6), some (.int x7), none, none]) (st1 := [.int (am_shl (1 : Int32) x3), .int x7]) (σ1 := (S0, m)) rfl ?_
    refine am_AW.brP ok_M_sets rfl rfl am_c_ge (fun c14 => ?_) (fun c14 => ?_)
    · rw [if_pos c14] at h
      refine am_AW.run am_base_ok ok_M_sets (Nat.le_add_left 1 d) 1 (pc1 := 147) (ls1 := [some (.ref 63), some (.int x1), some (.int x2), some (.int x3), some (.int x4), some (.int x5), some (.int x6), some (.int x7), none, none]) (st1 := [.int x2]) (σ1 := (S0, m)) rfl ?_
      refine am_AW.brN ok_M_sets rfl rfl am_c_ne (fun c15 => ?_) (fun c15 => ?_)
      · rw [if_pos c15] at h
        refine am_AW.run am_base_ok ok_M_sets (Nat.le_add_left 1 d) 2 (pc1 := 176) (ls1 := [some (.ref 63), some (.int x1), some (.int x2), some (.int x3), some (.int x4), some (.int x5), some (.int x6), some (.int x7), none, none]) (st1 := [.int x4]) (σ1 := (S0, m)) rfl ?_
        obtain ⟨rfl, rfl⟩ := Prod.mk.inj (Option.some.inj h)
        exact am_AW.ret ok_M_sets rfl rfl rfl rfl
      · rw [if_neg c15] at h
        refine am_AW.run am_base_ok ok_M_sets (Nat.le_add_left 1 d) 2 (pc1 := 157) (ls1 := [some (.ref 63), some (.int x1), some (.int x2), some (.int x3), some (.int x4), some (.int x5), some (.int x6), some (.int x7), none, none]) (st1 := [.int (2 : Int32), .int x2]) (σ1 := (S0, m)) rfl ?_
        refine am_AW.brN ok_M_sets rfl rfl am_c_ne (fun c16 => ?_) (fun c16 => ?_)
        · rw [if_pos c16] at h
          refine am_AW.run am_base_ok ok_M_sets (Nat.le_add_left 1 d) 2 (pc1 := 176) (ls1 := [some (.ref 63), some (.int x1), some (.int x2), some (.int x3), some (.int x4), some (.int x5), some (.int x6), some (.int x7), none, none]) (st1 := [.int x6]) (σ1 := (S0, m)) rfl ?_
          obtain ⟨rfl, rfl⟩ := Prod.mk.inj (Option.some.inj h)
          exact am_AW.ret ok_M_sets rfl rfl rfl rfl
        · rw [if_neg c16] at h
          refine am_AW.run am_base_ok ok_M_sets (Nat.le_add_left 1 d) 1 (pc1 := 167) (ls1 := [some (.ref 63), some (.int x1), some (.int x2), some (.int x3), some (.int x4), some (.int x5), some (.int x6), some (.int x7), none, none]) (st1 := [.int x4]) (σ1 := (S0, m)) rfl ?_
          refine am_AW.brP ok_M_sets rfl rfl am_c_le (fun c17 => ?_) (fun c17 => ?_)
          · rw [if_pos c17] at h
            refine am_AW.run am_base_ok ok_M_sets (Nat.le_add_left 1 d) 1 (pc1 := 176) (ls1 := [some (.ref 63), some (.int x1), some (.int x2), some (.int x3), some (.int x4), some (.int x5), some (.int x6), some (.int x7), none, none]) (st1 := [.int (0 : Int32)]) (σ1 := (S0, m)) rfl ?_
            obtain ⟨rfl, rfl⟩ := Prod.mk.inj (Option.some.inj h)
            exact am_AW.ret ok_M_sets rfl rfl rfl rfl
          · rw [if_neg c17] at h
            refine am_AW.run am_base_ok ok_M_sets (Nat.le_add_left 1 d) 2 (pc1 := 176) (ls1 := [some (.ref 63), some (.int x1), some (.int x2), some (.int x3), some (.int x4), some (.int x5), some (.int x6), some (.int x7), none, none]) (st1 := [.int x5]) (σ1 := (S0, m)) rfl ?_
            obtain ⟨rfl, rfl⟩ := Prod.mk.inj (Option.some.inj h)
            exact am_AW.ret ok_M_sets rfl rfl rfl rfl
    · rw [if_neg c14] at h
      refine am_AW.run am_base_ok ok_M_sets (Nat.le_add_left 1 d) 4 (pc1 := 76) (ls1 := [some (.ref 63), some (.int x1), some (.int x2), some (.int x3), some (.int x4), some (.int x5), some (.int x6), some (.int x7), some (.int (0 : Int32)), some (.int (0 : Int32))]) (st1 := []) (σ1 := (S0, m)) rfl ?_
      exact am_AW.weak (f_M_sets_b76_ok hd (ih) x1 x2 x3 x4 x5 x6 x7 (0 : Int32) (0 : Int32)  h) (by simp only [am_le, and_self])
set_option maxHeartbeats 4000000 in
set_option maxRecDepth 100000 in
theorem f_M_sets_b62_ok {ro : am_Ro} {d : Nat} (hd : 6 ≤ d + 1) (x1 : Int32) (x2 : Int32) (x3 : Int32) (x4 : Int32) (x5 : Int32) (x6 : Int32) (x7 : Int32) {m m' : am_Mm} {r : Int32} {n : Nat} (h : f_M_sets_b62 n x1 x2 x3 x4 x5 x6 x7 m = some (r, m')) : am_AW am_nw ro (d + 1) mr_M_sets 62 [some (.ref 63), some (.int x1), some (.int x2), some (.int x3), some (.int x4), some (.int x5), some (.int x6), some (.int x7), none, none] [] (S0, m) (some (.int r)) (S0, m') :=
  f_M_sets_b62_all hd n x1 x2 x3 x4 x5 x6 x7  m m' r h
set_option maxHeartbeats 4000000 in
set_option maxRecDepth 100000 in
theorem f_M_sets_ok {ro : am_Ro} {d : Nat} (hd : 6 ≤ d) (x1 : Int32) (x2 : Int32) {m m' : am_Mm} {r : Int32} (h : f_M_sets x1 x2 m = some (r, m')) : am_Mt am_nw ro d mr_M_sets [.ref 63, .int x1, .int x2] (S0, m) (some (.int r)) (S0, m') := by
  obtain ⟨d, rfl⟩ : ∃ d0, d = d0 + 1 := ⟨d - 1, by omega⟩
  refine am_Mt.of (by decide +kernel) (Nat.le_of_ble_eq_true rfl) ?_
  change am_AW am_nw ro (d + 1) mr_M_sets 0 [some (.ref 63), some (.int x1), some (.int x2), none, none, none, none, none, none, none] [] (S0, m) (some (.int r)) (S0, m')
  unfold f_M_sets at h
  refine am_AW.run am_base_ok ok_M_sets (Nat.le_add_left 1 d) 1 (pc1 := 1) (ls1 := [some (.ref 63), some (.int x1), some (.int x2), none, none, none, none, none, none, none]) (st1 := [.ref 63]) (σ1 := (S0, m)) rfl ?_
  obtain ⟨q3, hq3, h⟩ := Option.bind_eq_some_iff.mp h
  refine am_AW.callV ok_M_sets am_nw_ok (As := []) (rest := []) rfl rfl rfl oR_M_isThere lk_M_188 iM_M_isThere sE_M_isThere (qc := kq10) rfl rfl rfl rfl (Nat.le_of_ble_eq_true rfl) (f_M_isThere_ok (d := d) (by omega)  hq3) ?_
  change am_AW am_nw ro (d + 1) mr_M_sets 4 [some (.ref 63), some (.int x1), some (.int x2), none, none, none, none, none, none, none] [.int q3.1] (S0, q3.2) (some (.int r)) (S0, m')
  refine am_AW.brN ok_M_sets rfl rfl am_c_ne (fun c4 => ?_) (fun c4 => ?_)
  · rw [if_pos c4] at h
    refine am_AW.run am_base_ok ok_M_sets (Nat.le_add_left 1 d) 1 (pc1 := 9) (ls1 := [some (.ref 63), some (.int x1), some (.int x2), none, none, none, none, none, none, none]) (st1 := [.int (-1000002 : Int32)]) (σ1 := (S0, q3.2)) rfl ?_
    obtain ⟨rfl, rfl⟩ := Prod.mk.inj (Option.some.inj h)
    exact am_AW.ret ok_M_sets rfl rfl rfl rfl
  · rw [if_neg c4] at h
    refine am_AW.run am_base_ok ok_M_sets (Nat.le_add_left 1 d) 4 (pc1 := 18) (ls1 := [some (.ref 63), some (.int x1), some (.int x2), none, none, none, none, none, none, none]) (st1 := [.long (99 : Int64), .long (-99 : Int64), .long (x1.toInt64)]) (σ1 := (S0, q3.2)) rfl ?_
    obtain ⟨q7, hq7, h⟩ := Option.bind_eq_some_iff.mp h
    refine am_AW.callS ok_M_sets am_nw_ok (As := [.long (x1.toInt64), .long (-99 : Int64), .long (99 : Int64)]) (rest := []) rfl rfl rfl oR_M_in lk_M_60 sT_M_in rfl (Nat.le_of_ble_eq_true rfl) (f_M_in_ok (d := d) (by omega) (x1.toInt64) (-99 : Int64) (99 : Int64) hq7) ?_
    change am_AW am_nw ro (d + 1) mr_M_sets 21 [some (.ref 63), some (.int x1), some (.int x2), none, none, none, none, none, none, none] [.int q7.1] (S0, q7.2) (some (.int r)) (S0, m')
    refine am_AW.brP ok_M_sets rfl rfl am_c_eq (fun c8 => ?_) (fun c8 => ?_)
    · rw [if_pos c8] at h
      refine am_AW.run am_base_ok ok_M_sets (Nat.le_add_left 1 d) 1 (pc1 := 38) (ls1 := [some (.ref 63), some (.int x1), some (.int x2), none, none, none, none, none, none, none]) (st1 := [.int (-1000001 : Int32)]) (σ1 := (S0, q7.2)) rfl ?_
      obtain ⟨rfl, rfl⟩ := Prod.mk.inj (Option.some.inj h)
      exact am_AW.ret ok_M_sets rfl rfl rfl rfl
    · rw [if_neg c8] at h
      refine am_AW.run am_base_ok ok_M_sets (Nat.le_add_left 1 d) 4 (pc1 := 30) (ls1 := [some (.ref 63), some (.int x1), some (.int x2), none, none, none, none, none, none, none]) (st1 := [.long (2 : Int64), .long (0 : Int64), .long (x2.toInt64)]) (σ1 := (S0, q7.2)) rfl ?_
      obtain ⟨q11, hq11, h⟩ := Option.bind_eq_some_iff.mp h
      refine am_AW.callS ok_M_sets am_nw_ok (As := [.long (x2.toInt64), .long (0 : Int64), .long (2 : Int64)]) (rest := []) rfl rfl rfl oR_M_in lk_M_60 sT_M_in rfl (Nat.le_of_ble_eq_true rfl) (f_M_in_ok (d := d) (by omega) (x2.toInt64) (0 : Int64) (2 : Int64) hq11) ?_
      change am_AW am_nw ro (d + 1) mr_M_sets 33 [some (.ref 63), some (.int x1), some (.int x2), none, none, none, none, none, none, none] [.int q11.1] (S0, q11.2) (some (.int r)) (S0, m')
      refine am_AW.brN ok_M_sets rfl rfl am_c_ne (fun c12 => ?_) (fun c12 => ?_)
      · rw [if_pos c12] at h
        refine am_AW.run am_base_ok ok_M_sets (Nat.le_add_left 1 d) 1 (pc1 := 38) (ls1 := [some (.ref 63), some (.int x1), some (.int x2), none, none, none, none, none, none, none]) (st1 := [.int (-1000001 : Int32)]) (σ1 := (S0, q11.2)) rfl ?_
        obtain ⟨rfl, rfl⟩ := Prod.mk.inj (Option.some.inj h)
        exact am_AW.ret ok_M_sets rfl rfl rfl rfl
      · rw [if_neg c12] at h
        refine am_AW.run am_base_ok ok_M_sets (Nat.le_add_left 1 d) 3 (pc1 := 44) (ls1 := [some (.ref 63), some (.int x1), some (.int x2), none, none, none, none, none, none, none]) (st1 := [.int (0 : Int32), .ref 67]) (σ1 := (S0, q11.2)) rfl ?_
        refine am_AW.iald ok_M_sets (Nat.le_add_left 1 d) S0_len rfl rfl (by decide) ?_
        change am_AW am_nw ro (d + 1) mr_M_sets 45 [some (.ref 63), some (.int x1), some (.int x2), none, none, none, none, none, none, none] [.int (q11.2.1 67 0)] (S0, q11.2) (some (.int r)) (S0, m')
        refine am_AW.run am_base_ok ok_M_sets (Nat.le_add_left 1 d) 13 (pc1 := 62) (ls1 := [some (.ref 63), some (.int x1), some (.int x2), some (.int (q11.2.1 67 0)), some (.int (0 : Int32)), some (.int ((am_shl (1 : Int32) (q11.2.1 67 0)) - (1 : Int32))), some (.int (0 : Int32)), some (.int (0 : Int32)), none, none]) (st1 := []) (σ1 := (S0, q11.2)) rfl ?_
        exact am_AW.weak (f_M_sets_b62_ok hd x1 x2 (q11.2.1 67 0) (0 : Int32) ((am_shl (1 : Int32) (q11.2.1 67 0)) - (1 : Int32)) (0 : Int32) (0 : Int32)  h) (by simp only [am_le, and_self])
