/-! FriezePolygonsModel.over([II)I -/
def f_M_over_b105 (k11 : Int32 → Int32 → Int32 → Int32 → am_Mm → Option (Int32 × am_Mm)) (x1 : Int32) (x2 : Int32) (x4 : Int32) (s0 : Int32) (m : am_Mm) : Option (Int32 × am_Mm) :=
  k11 x1 x2 s0 (x4 + (1 : Int32)) m
def f_M_over_b69 (k11 : Int32 → Int32 → Int32 → Int32 → am_Mm → Option (Int32 × am_Mm)) (x1 : Int32) (x2 : Int32) (x3 : Int32) (x4 : Int32) (x5 : Int32) (s0 : Int32) (m : am_Mm) : Option (Int32 × am_Mm) :=
  if s0 = (0 : Int32) then
    f_M_over_b105 k11 x1 x2 x4 x3 m
  else
    if ((am_rem x3 (10 : Int32)) - (x3 / (10 : Int32))) ≤ ((am_rem x5 (10 : Int32)) - (x5 / (10 : Int32))) then
      f_M_over_b105 k11 x1 x2 x4 x3 m
    else
      f_M_over_b105 k11 x1 x2 x4 x5 m
def f_M_over_b11 : Nat → Int32 → Int32 → Int32 → Int32 → am_Mm → Option (Int32 × am_Mm)
  | 0, _, _, _, _, _ => none
  | n + 1, x1, x2, x3, x4, m =>
    (f_M_manyCuts x2 m).bind fun q4 =>
    if q4.1 ≤ x4 then
      some (x3, q4.2)
    else
      if (x2 - (1 : Int32)) ≤ x1 then
        some (x3, q4.2)
      else
        (f_M_endsOf x2 x4 q4.2).bind fun q9 =>
        (f_M_has (q9.2.1 67 1) x4 q9.2).bind fun q13 =>
        if q13.1 = (0 : Int32) then
          f_M_over_b69 (f_M_over_b11 n) x1 x2 x3 x4 q9.1 (0 : Int32) q13.2
        else
          if x1 < (q9.1 / (10 : Int32)) then
            f_M_over_b69 (f_M_over_b11 n) x1 x2 x3 x4 q9.1 (0 : Int32) q13.2
          else
            if (am_rem q9.1 (10 : Int32)) ≤ x1 then
              f_M_over_b69 (f_M_over_b11 n) x1 x2 x3 x4 q9.1 (0 : Int32) q13.2
            else
              f_M_over_b69 (f_M_over_b11 n) x1 x2 x3 x4 q9.1 (1 : Int32) q13.2
def f_M_over (x1 : Int32) (m : am_Mm) : Option (Int32 × am_Mm) :=
  f_M_over_b11 am_F x1 (m.1 67 0) ((m.1 67 0) - (1 : Int32)) (0 : Int32) m
set_option maxHeartbeats 4000000 in
set_option maxRecDepth 100000 in
theorem f_M_over_b105_ok {ro : am_Ro} {d : Nat} (hd : 3 ≤ d + 1) {k11 : Int32 → Int32 → Int32 → Int32 → am_Mm → Option (Int32 × am_Mm)} (hk11 : ∀ (x1 : Int32) (x2 : Int32) (x3 : Int32) (x4 : Int32) (m m' : am_Mm) (r : Int32), k11 x1 x2 x3 x4 m = some (r, m') → am_AW am_nw ro (d + 1) mr_M_over 11 [some (.ref 67), some (.int x1), some (.int x2), some (.int x3), some (.int x4), none, none] [] (S0, m) (some (.int r)) (S0, m')) (x1 : Int32) (x2 : Int32) (x4 : Int32) (s0 : Int32) {m m' : am_Mm} {r : Int32} (h : f_M_over_b105 k11 x1 x2 x4 s0 m = some (r, m')) : am_AW am_nw ro (d + 1) mr_M_over 105 [some (.ref 67), some (.int x1), some (.int x2), none, some (.int x4), none, none] [.int s0] (S0, m) (some (.int r)) (S0, m') := by
  unfold f_M_over_b105 at h
  refine am_AW.run am_base_ok ok_M_over (Nat.le_add_left 1 d) 3 (pc1 := 11) (ls1 := [some (.ref 67), some (.int x1), some (.int x2), some (.int s0), some (.int (x4 + (1 : Int32))), none, none]) (st1 := []) (σ1 := (S0, m)) rfl ?_
  exact am_AW.weak (hk11 x1 x2 s0 (x4 + (1 : Int32))  _ _ _ h) (by simp only [am_le, and_self])
set_option maxHeartbeats 4000000 in
set_option maxRecDepth 100000 in
theorem f_M_over_b69_ok {ro : am_Ro} {d : Nat} (hd : 3 ≤ d + 1) {k11 : Int32 → Int32 → Int32 → Int32 → am_Mm → Option (Int32 × am_Mm)} (hk11 : ∀ (x1 : Int32) (x2 : Int32) (x3 : Int32) (x4 : Int32) (m m' : am_Mm) (r : Int32), k11 x1 x2 x3 x4 m = some (r, m') → am_AW am_nw ro (d + 1) mr_M_over 11 [some (.ref 67), some (.int x1), some (.int x2), some (.int x3), some (.int x4), none, none] [] (S0, m) (some (.int r)) (S0, m')) (x1 : Int32) (x2 : Int32) (x3 : Int32) (x4 : Int32) (x5 : Int32) (s0 : Int32) {m m' : am_Mm} {r : Int32} (h : f_M_over_b69 k11 x1 x2 x3 x4 x5 s0 m = some (r, m')) : am_AW am_nw ro (d + 1) mr_M_over 69 [some (.ref 67), some (.int x1), some (.int x2), some (.int x3), some (.int x4), some (.int x5), none] [.int s0] (S0, m) (some (.int r)) (S0, m') := by
  unfold f_M_over_b69 at h
  refine am_AW.run am_base_ok ok_M_over (Nat.le_add_left 1 d) 2 (pc1 := 73) (ls1 := [some (.ref 67), some (.int x1), some (.int x2), some (.int x3), some (.int x4), some (.int x5), some (.int s0)]) (st1 := [.int s0]) (σ1 := (S0, m)) rfl ?_
  refine am_AW.brP ok_M_over rfl rfl am_c_eq (fun c15 => ?_) (fun c15 => ?_)
  · rw [if_pos c15] at h
    refine am_AW.run am_base_ok ok_M_over (Nat.le_add_left 1 d) 1 (pc1 := 105) (ls1 := [some (.ref 67), some (.int x1), some (.int x2), some (.int x3), some (.int x4), some (.int x5), some (.int s0)]) (st1 := [.int x3]) (σ1 := (S0, m)) rfl ?_
    exact am_AW.weak (f_M_over_b105_ok hd (hk11) x1 x2 x4 x3  h) (by simp only [am_le, and_self])
  · rw [if_neg c15] at h
    refine am_AW.run am_base_ok ok_M_over (Nat.le_add_left 1 d) 2 (pc1 := 80) (ls1 := [some (.ref 67), some (.int x1), some (.int x2), some (.int x3), some (.int x4), some (.int x5), some (.int s0)]) (st1 := [.int (10 : Int32), .int x5]) (σ1 := (S0, m)) rfl ?_
    refine am_AW.dvi ok_M_over (Nat.le_add_left 1 d) (w := (am_rem x5 (10 : Int32))) (Or.inr ⟨rfl, rfl⟩) rfl (by decide) ?_
    refine am_AW.run am_base_ok ok_M_over (Nat.le_add_left 1 d) 2 (pc1 := 85) (ls1 := [some (.ref 67), some (.int x1), some (.int x2), some (.int x3), some (.int x4), some (.int x5), some (.int s0)]) (st1 := [.int (10 : Int32), .int x5, .int (am_rem x5 (10 : Int32))]) (σ1 := (S0, m)) rfl ?_
    refine am_AW.dvi ok_M_over (Nat.le_add_left 1 d) (w := (x5 / (10 : Int32))) (Or.inl ⟨rfl, rfl⟩) rfl (by decide) ?_
    refine am_AW.run am_base_ok ok_M_over (Nat.le_add_left 1 d) 3 (pc1 := 90) (ls1 := [some (.ref 67), some (.int x1), some (.int x2), some (.int x3), some (.int x4), some (.int x5), some (.int s0)]) (st1 := [.int (10 : Int32), .int x3, .int ((am_rem x5 (10 : Int32)) - (x5 / (10 : Int32)))]) (σ1 := (S0, m)) rfl ?_
    refine am_AW.dvi ok_M_over (Nat.le_add_left 1 d) (w := (am_rem x3 (10 : Int32))) (Or.inr ⟨rfl, rfl⟩) rfl (by decide) ?_
    refine am_AW.run am_base_ok ok_M_over (Nat.le_add_left 1 d) 2 (pc1 := 94) (ls1 := [some (.ref 67), some (.int x1), some (.int x2), some (.int x3), some (.int x4), some (.int x5), some (.int s0)]) (st1 := [.int (10 : Int32), .int x3, .int (am_rem x3 (10 : Int32)), .int ((am_rem x5 (10 : Int32)) - (x5 / (10 : Int32)))]) (σ1 := (S0, m)) rfl ?_
    refine am_AW.dvi ok_M_over (Nat.le_add_left 1 d) (w := (x3 / (10 : Int32))) (Or.inl ⟨rfl, rfl⟩) rfl (by decide) ?_
    refine am_AW.run am_base_ok ok_M_over (Nat.le_add_left 1 d) 1 (pc1 := 96) (ls1 := [some (.ref 67), some (.int x1), some (.int x2), some (.int x3), some (.int x4), some (.int x5), some (.int s0)]) (st1 := [.int ((am_rem x3 (10 : Int32)) - (x3 / (10 : Int32))), .int ((am_rem x5 (10 : Int32)) - (x5 / (10 : Int32)))]) (σ1 := (S0, m)) rfl ?_
    refine am_AW.brP ok_M_over rfl rfl am_c_ge (fun c16 => ?_) (fun c16 => ?_)
    · rw [if_pos c16] at h
      refine am_AW.run am_base_ok ok_M_over (Nat.le_add_left 1 d) 1 (pc1 := 105) (ls1 := [some (.ref 67), some (.int x1), some (.int x2), some (.int x3), some (.int x4), some (.int x5), some (.int s0)]) (st1 := [.int x3]) (σ1 := (S0, m)) rfl ?_
      exact am_AW.weak (f_M_over_b105_ok hd (hk11) x1 x2 x4 x3  h) (by simp only [am_le, and_self])
    · rw [if_neg c16] at h
      refine am_AW.run am_base_ok ok_M_over (Nat.le_add_left 1 d) 2 (pc1 := 105) (ls1 := [some (.ref 67), some (.int x1), some (.int x2), some (.int x3), some (.int x4), some (.int x5), some (.int s0)]) (st1 := [.int x5]) (σ1 := (S0, m)) rfl ?_
      exact am_AW.weak (f_M_over_b105_ok hd (hk11) x1 x2 x4 x5  h) (by simp only [am_le, and_self])
set_option maxHeartbeats 4000000 in
set_option maxRecDepth 100000 in
theorem f_M_over_b11_all {ro : am_Ro} {d : Nat} (hd : 3 ≤ d + 1) : ∀ (n : Nat) (x1 : Int32) (x2 : Int32) (x3 : Int32) (x4 : Int32) (m m' : am_Mm) (r : Int32), f_M_over_b11 n x1 x2 x3 x4 m = some (r, m') → am_AW am_nw ro (d + 1) mr_M_over 11 [some (.ref 67), some (.int x1), some (.int x2), some (.int x3), some (.int x4), none, none] [] (S0, m) (some (.int r)) (S0, m') := by
  intro n
  induction n with
  | zero =>
    intro x1 x2 x3 x4 m m' r h
    rw [f_M_over_b11] at h
    cases h
  | succ n ih =>
    intro x1 x2 x3 x4 m m' r h
    rw [f_M_over_b11] at h
    refine am_AW.run am_base_ok ok_M_over (Nat.le_add_left 1 d) 2 (pc1 := 14) (ls1 := [some (.ref 67), some (.int x1), some (.int x2), some (.int x3), some (.int x4), none, none]) (st1 := [.int x2, .int x4]) (σ1 := (S0, m)) rfl ?_
    obtain ⟨q4, hq4, h⟩ := Option.bind_eq_some_iff.mp h
    refine am_AW.callS ok_M_over am_nw_ok (As := [.int x2]) (rest := [.int x4]) rfl rfl rfl oR_M_manyCuts lk_M_87 sT_M_manyCuts rfl (Nat.le_of_ble_eq_true rfl) (f_M_manyCuts_ok (d := d) (by omega) x2 hq4) ?_
    change am_AW am_nw ro (d + 1) mr_M_over 17 [some (.ref 67), some (.int x1), some (.int x2), some (.int x3), some (.int x4), none, none] [.int q4.1, .int x4] (S0, q4.2) (some (.int r)) (S0, m')
    refine am_AW.brP ok_M_over rfl rfl am_c_ge (fun c5 => ?_) (fun c5 => ?_)
    · rw [if_pos c5] at h
      refine am_AW.run am_base_ok ok_M_over (Nat.le_add_left 1 d) 1 (pc1 := 113) (ls1 := [some (.ref 67), some (.int x1), some (.int x2), some (.int x3), some (.int x4), none, none]) (st1 := [.int x3]) (σ1 := (S0, q4.2)) rfl ?_
      obtain ⟨rfl, rfl⟩ := Prod.mk.inj (Option.some.inj h)
      exact am_AW.ret ok_M_over rfl rfl rfl rfl
    · rw [if_neg c5] at h
      refine am_AW.run am_base_ok ok_M_over (Nat.le_add_left 1 d) 4 (pc1 := 24) (ls1 := [some (.ref 67), some (.int x1), some (.int x2), some (.int x3), some (.int x4), none, none]) (st1 := [.int (x2 - (1 : Int32)), .int x1]) (σ1 := (S0, q4.2)) rfl ?_
      refine am_AW.brP ok_M_over rfl rfl am_c_ge (fun c6 => ?_) (fun c6 => ?_)
      · rw [if_pos c6] at h
        refine am_AW.run am_base_ok ok_M_over (Nat.le_add_left 1 d) 1 (pc1 := 113) (ls1 := [some (.ref 67), some (.int x1), some (.int x2), some (.int x3), some (.int x4), none, none]) (st1 := [.int x3]) (σ1 := (S0, q4.2)) rfl ?_
        obtain ⟨rfl, rfl⟩ := Prod.mk.inj (Option.some.inj h)
        exact am_AW.ret ok_M_over rfl rfl rfl rfl
      · rw [if_neg c6] at h
        refine am_AW.run am_base_ok ok_M_over (Nat.le_add_left 1 d) 2 (pc1 := 30) (ls1 := [some (.ref 67), some (.int x1), some (.int x2), some (.int x3), some (.int x4), none, none]) (st1 := [.int x4, .int x2]) (σ1 := (S0, q4.2)) rfl ?_
        obtain ⟨q9, hq9, h⟩ := Option.bind_eq_some_iff.mp h
        refine am_AW.callS ok_M_over am_nw_ok (As := [.int x2, .int x4]) (rest := []) rfl rfl rfl oR_M_endsOf lk_M_90 sT_M_endsOf rfl (Nat.le_of_ble_eq_true rfl) (f_M_endsOf_ok (d := d) (by omega) x2 x4 hq9) ?_
        change am_AW am_nw ro (d + 1) mr_M_over 33 [some (.ref 67), some (.int x1), some (.int x2), some (.int x3), some (.int x4), none, none] [.int q9.1] (S0, q9.2) (some (.int r)) (S0, m')
        refine am_AW.run am_base_ok ok_M_over (Nat.le_add_left 1 d) 3 (pc1 := 37) (ls1 := [some (.ref 67), some (.int x1), some (.int x2), some (.int x3), some (.int x4), some (.int q9.1), none]) (st1 := [.int (1 : Int32), .ref 67]) (σ1 := (S0, q9.2)) rfl ?_
        refine am_AW.iald ok_M_over (Nat.le_add_left 1 d) S0_len rfl rfl (by decide) ?_
        change am_AW am_nw ro (d + 1) mr_M_over 38 [some (.ref 67), some (.int x1), some (.int x2), some (.int x3), some (.int x4), some (.int q9.1), none] [.int (q9.2.1 67 1)] (S0, q9.2) (some (.int r)) (S0, m')
        refine am_AW.run am_base_ok ok_M_over (Nat.le_add_left 1 d) 1 (pc1 := 40) (ls1 := [some (.ref 67), some (.int x1), some (.int x2), some (.int x3), some (.int x4), some (.int q9.1), none]) (st1 := [.int x4, .int (q9.2.1 67 1)]) (σ1 := (S0, q9.2)) rfl ?_
        obtain ⟨q13, hq13, h⟩ := Option.bind_eq_some_iff.mp h
        refine am_AW.callS ok_M_over am_nw_ok (As := [.int (q9.2.1 67 1), .int x4]) (rest := []) rfl rfl rfl oR_M_has lk_M_75 sT_M_has rfl (Nat.le_of_ble_eq_true rfl) (f_M_has_ok (d := d) (by omega) (q9.2.1 67 1) x4 hq13) ?_
        change am_AW am_nw ro (d + 1) mr_M_over 43 [some (.ref 67), some (.int x1), some (.int x2), some (.int x3), some (.int x4), some (.int q9.1), none] [.int q13.1] (S0, q13.2) (some (.int r)) (S0, m')
        refine am_AW.brP ok_M_over rfl rfl am_c_eq (fun c14 => ?_) (fun c14 => ?_)
        · rw [if_pos c14] at h
          refine am_AW.run am_base_ok ok_M_over (Nat.le_add_left 1 d) 1 (pc1 := 69) (ls1 := [some (.ref 67), some (.int x1), some (.int x2), some (.int x3), some (.int x4), some (.int q9.1), none]) (st1 := [.int (0 : Int32)]) (σ1 := (S0, q13.2)) rfl ?_
          exact am_AW.weak (f_M_over_b69_ok hd (ih) x1 x2 x3 x4 q9.1 (0 : Int32)  h) (by simp only [am_le, and_self])
        · rw [if_neg c14] at h
          refine am_AW.run am_base_ok ok_M_over (Nat.le_add_left 1 d) 2 (pc1 := 50) (ls1 := [some (.ref 67), some (.int x1), some (.int x2), some (.int x3), some (.int x4), some (.int q9.1), none]) (st1 := [.int (10 : Int32), .int q9.1]) (σ1 := (S0, q13.2)) rfl ?_
          refine am_AW.dvi ok_M_over (Nat.le_add_left 1 d) (w := (q9.1 / (10 : Int32))) (Or.inl ⟨rfl, rfl⟩) rfl (by decide) ?_
          refine am_AW.run am_base_ok ok_M_over (Nat.le_add_left 1 d) 1 (pc1 := 52) (ls1 := [some (.ref 67), some (.int x1), some (.int x2), some (.int x3), some (.int x4), some (.int q9.1), none]) (st1 := [.int x1, .int (q9.1 / (10 : Int32))]) (σ1 := (S0, q13.2)) rfl ?_
          refine am_AW.brP ok_M_over rfl rfl am_c_gt (fun c17 => ?_) (fun c17 => ?_)
          · rw [if_pos c17] at h
            refine am_AW.run am_base_ok ok_M_over (Nat.le_add_left 1 d) 1 (pc1 := 69) (ls1 := [some (.ref 67), some (.int x1), some (.int x2), some (.int x3), some (.int x4), some (.int q9.1), none]) (st1 := [.int (0 : Int32)]) (σ1 := (S0, q13.2)) rfl ?_
            exact am_AW.weak (f_M_over_b69_ok hd (ih) x1 x2 x3 x4 q9.1 (0 : Int32)  h) (by simp only [am_le, and_self])
          · rw [if_neg c17] at h
            refine am_AW.run am_base_ok ok_M_over (Nat.le_add_left 1 d) 2 (pc1 := 59) (ls1 := [some (.ref 67), some (.int x1), some (.int x2), some (.int x3), some (.int x4), some (.int q9.1), none]) (st1 := [.int (10 : Int32), .int q9.1]) (σ1 := (S0, q13.2)) rfl ?_
            refine am_AW.dvi ok_M_over (Nat.le_add_left 1 d) (w := (am_rem q9.1 (10 : Int32))) (Or.inr ⟨rfl, rfl⟩) rfl (by decide) ?_
            refine am_AW.run am_base_ok ok_M_over (Nat.le_add_left 1 d) 1 (pc1 := 61) (ls1 := [some (.ref 67), some (.int x1), some (.int x2), some (.int x3), some (.int x4), some (.int q9.1), none]) (st1 := [.int x1, .int (am_rem q9.1 (10 : Int32))]) (σ1 := (S0, q13.2)) rfl ?_
            refine am_AW.brP ok_M_over rfl rfl am_c_le (fun c18 => ?_) (fun c18 => ?_)
            · rw [if_pos c18] at h
              refine am_AW.run am_base_ok ok_M_over (Nat.le_add_left 1 d) 1 (pc1 := 69) (ls1 := [some (.ref 67), some (.int x1), some (.int x2), some (.int x3), some (.int x4), some (.int q9.1), none]) (st1 := [.int (0 : Int32)]) (σ1 := (S0, q13.2)) rfl ?_
              exact am_AW.weak (f_M_over_b69_ok hd (ih) x1 x2 x3 x4 q9.1 (0 : Int32)  h) (by simp only [am_le, and_self])
            · rw [if_neg c18] at h
              refine am_AW.run am_base_ok ok_M_over (Nat.le_add_left 1 d) 2 (pc1 := 69) (ls1 := [some (.ref 67), some (.int x1), some (.int x2), some (.int x3), some (.int x4), some (.int q9.1), none]) (st1 := [.int (1 : Int32)]) (σ1 := (S0, q13.2)) rfl ?_
              exact am_AW.weak (f_M_over_b69_ok hd (ih) x1 x2 x3 x4 q9.1 (1 : Int32)  h) (by simp only [am_le, and_self])
set_option maxHeartbeats 4000000 in
set_option maxRecDepth 100000 in
theorem f_M_over_b11_ok {ro : am_Ro} {d : Nat} (hd : 3 ≤ d + 1) (x1 : Int32) (x2 : Int32) (x3 : Int32) (x4 : Int32) {m m' : am_Mm} {r : Int32} {n : Nat} (h : f_M_over_b11 n x1 x2 x3 x4 m = some (r, m')) : am_AW am_nw ro (d + 1) mr_M_over 11 [some (.ref 67), some (.int x1), some (.int x2), some (.int x3), some (.int x4), none, none] [] (S0, m) (some (.int r)) (S0, m') :=
  f_M_over_b11_all hd n x1 x2 x3 x4  m m' r h
set_option maxHeartbeats 4000000 in
set_option maxRecDepth 100000 in
theorem f_M_over_ok {ro : am_Ro} {d : Nat} (hd : 3 ≤ d) (x1 : Int32) {m m' : am_Mm} {r : Int32} (h : f_M_over x1 m = some (r, m')) : am_Mt am_nw ro d mr_M_over [.ref 67, .int x1] (S0, m) (some (.int r)) (S0, m') := by
  obtain ⟨d, rfl⟩ : ∃ d0, d = d0 + 1 := ⟨d - 1, by omega⟩
  refine am_Mt.of (by decide +kernel) (Nat.le_of_ble_eq_true rfl) ?_
  change am_AW am_nw ro (d + 1) mr_M_over 0 [some (.ref 67), some (.int x1), none, none, none, none, none] [] (S0, m) (some (.int r)) (S0, m')
  unfold f_M_over at h
  refine am_AW.run am_base_ok ok_M_over (Nat.le_add_left 1 d) 2 (pc1 := 2) (ls1 := [some (.ref 67), some (.int x1), none, none, none, none, none]) (st1 := [.int (0 : Int32), .ref 67]) (σ1 := (S0, m)) rfl ?_
  refine am_AW.iald ok_M_over (Nat.le_add_left 1 d) S0_len rfl rfl (by decide) ?_
  change am_AW am_nw ro (d + 1) mr_M_over 3 [some (.ref 67), some (.int x1), none, none, none, none, none] [.int (m.1 67 0)] (S0, m) (some (.int r)) (S0, m')
  refine am_AW.run am_base_ok ok_M_over (Nat.le_add_left 1 d) 7 (pc1 := 11) (ls1 := [some (.ref 67), some (.int x1), some (.int (m.1 67 0)), some (.int ((m.1 67 0) - (1 : Int32))), some (.int (0 : Int32)), none, none]) (st1 := []) (σ1 := (S0, m)) rfl ?_
  exact am_AW.weak (f_M_over_b11_ok hd x1 (m.1 67 0) ((m.1 67 0) - (1 : Int32)) (0 : Int32)  h) (by simp only [am_le, and_self])
/-! FriezePolygonsModel.must(Z)V -/
def f_M_must_b9 (m : am_Mm) : Option am_Mm :=
  if (m.1 63 15) = (0 : Int32) then
    (f_M_nextToken m).bind fun q8 =>
    some q8
  else
    some m
def f_M_must (x1 : Int32) (m : am_Mm) : Option am_Mm :=
  if x1 = (0 : Int32) then
    (f_M_bad (1 : Int32) m).bind fun q4 =>
    f_M_must_b9 q4
  else
    f_M_must_b9 m
set_option maxHeartbeats 4000000 in
set_option maxRecDepth 100000 in
theorem f_M_must_b9_ok {ro : am_Ro} {d : Nat} (hd : 3 ≤ d + 1) {m m' : am_Mm} (h : f_M_must_b9  m = some m') : am_AW am_nw ro (d + 1) mr_M_must 9 [some (.ref 63), none] [] (S0, m) none (S0, m') := by
  unfold f_M_must_b9 at h
  refine am_AW.run am_base_ok ok_M_must (Nat.le_add_left 1 d) 2 (pc1 := 13) (ls1 := [some (.ref 63), none]) (st1 := [.int (m.1 63 15)]) (σ1 := (S0, m)) rfl ?_
  refine am_AW.brN ok_M_must rfl rfl am_c_ne (fun c5 => ?_) (fun c5 => ?_)
  · rw [if_pos c5] at h
    refine am_AW.run am_base_ok ok_M_must (Nat.le_add_left 1 d) 1 (pc1 := 17) (ls1 := [some (.ref 63), none]) (st1 := [.ref 63]) (σ1 := (S0, m)) rfl ?_
    obtain ⟨q8, hq8, h⟩ := Option.bind_eq_some_iff.mp h
    refine am_AW.callV ok_M_must am_nw_ok (As := []) (rest := []) rfl rfl rfl oR_M_nextToken lk_M_154 iM_M_nextToken sE_M_nextToken (qc := kq10) rfl rfl rfl rfl (Nat.le_of_ble_eq_true rfl) (f_M_nextToken_ok (d := d) (by omega)  hq8) ?_
    change am_AW am_nw ro (d + 1) mr_M_must 20 [some (.ref 63), none] [] (S0, q8) none (S0, m')
    obtain rfl := Option.some.inj h
    exact am_AW.ret ok_M_must rfl rfl rfl rfl
  · rw [if_neg c5] at h
    obtain rfl := Option.some.inj h
    exact am_AW.ret ok_M_must rfl rfl rfl rfl
set_option maxHeartbeats 4000000 in
set_option maxRecDepth 100000 in
theorem f_M_must_ok {ro : am_Ro} {d : Nat} (hd : 3 ≤ d) (x1 : Int32) {m m' : am_Mm} (h : f_M_must x1 m = some m') : am_Mt am_nw ro d mr_M_must [.ref 63, .int x1] (S0, m) none (S0, m') := by
  obtain ⟨d, rfl⟩ : ∃ d0, d = d0 + 1 := ⟨d - 1, by omega⟩
  refine am_Mt.of (by decide +kernel) (Nat.le_of_ble_eq_true rfl) ?_
  change am_AW am_nw ro (d + 1) mr_M_must 0 [some (.ref 63), some (.int x1)] [] (S0, m) none (S0, m')
  unfold f_M_must at h
  refine am_AW.run am_base_ok ok_M_must (Nat.le_add_left 1 d) 1 (pc1 := 1) (ls1 := [some (.ref 63), some (.int x1)]) (st1 := [.int x1]) (σ1 := (S0, m)) rfl ?_
  refine am_AW.brN ok_M_must rfl rfl am_c_ne (fun c1 => ?_) (fun c1 => ?_)
  · rw [if_pos c1] at h
    refine am_AW.run am_base_ok ok_M_must (Nat.le_add_left 1 d) 2 (pc1 := 6) (ls1 := [some (.ref 63), some (.int x1)]) (st1 := [.int (1 : Int32), .ref 63]) (σ1 := (S0, m)) rfl ?_
    obtain ⟨q4, hq4, h⟩ := Option.bind_eq_some_iff.mp h
    refine am_AW.callV ok_M_must am_nw_ok (As := [.int (1 : Int32)]) (rest := []) rfl rfl rfl oR_M_bad lk_M_150 iM_M_bad sE_M_bad (qc := kq10) rfl rfl rfl rfl (Nat.le_of_ble_eq_true rfl) (f_M_bad_ok (d := d) (by omega) (1 : Int32) hq4) ?_
    change am_AW am_nw ro (d + 1) mr_M_must 9 [some (.ref 63), some (.int x1)] [] (S0, q4) none (S0, m')
    exact am_AW.weak (f_M_must_b9_ok hd   h) (by simp only [am_le, and_self])
  · rw [if_neg c1] at h
    exact am_AW.weak (f_M_must_b9_ok hd   h) (by simp only [am_le, and_self])
/-! FriezePolygonsModel.join(I)I -/
def f_M_join (x1 : Int32) (m : am_Mm) : Option (Int32 × am_Mm) :=
  (f_M_isCut x1 m).bind fun q3 =>
  if q3.1 = (0 : Int32) then
    some ((-1000001 : Int32), q3.2)
  else
    (f_M_has (q3.2.1 67 1) x1 q3.2).bind fun q8 =>
    if q8.1 = (0 : Int32) then
      some ((-1000002 : Int32), q8.2)
    else
      (f_M_keeps q8.2).bind fun q12 =>
      (f_M_sizeOf ((am_pI q12 67 1 ((q12.1 67 1) &&& ((am_shl (1 : Int32) x1) ^^^ (-1 : Int32)))).1 67 1) (am_pI q12 67 1 ((q12.1 67 1) &&& ((am_shl (1 : Int32) x1) ^^^ (-1 : Int32))))).bind fun q17 =>
      some (q17.1, q17.2)
set_option maxHeartbeats 4000000 in
set_option maxRecDepth 100000 in
theorem f_M_join_ok {ro : am_Ro} {d : Nat} (hd : 3 ≤ d) (x1 : Int32) {m m' : am_Mm} {r : Int32} (h : f_M_join x1 m = some (r, m')) : am_Mt am_nw ro d mr_M_join [.ref 63, .int x1] (S0, m) (some (.int r)) (S0, m') := by
  obtain ⟨d, rfl⟩ : ∃ d0, d = d0 + 1 := ⟨d - 1, by omega⟩
  refine am_Mt.of (by decide +kernel) (Nat.le_of_ble_eq_true rfl) ?_
  change am_AW am_nw ro (d + 1) mr_M_join 0 [some (.ref 63), some (.int x1)] [] (S0, m) (some (.int r)) (S0, m')
  unfold f_M_join at h
  refine am_AW.run am_base_ok ok_M_join (Nat.le_add_left 1 d) 2 (pc1 := 2) (ls1 := [some (.ref 63), some (.int x1)]) (st1 := [.int x1, .ref 63]) (σ1 := (S0, m)) rfl ?_
  obtain ⟨q3, hq3, h⟩ := Option.bind_eq_some_iff.mp h
  refine am_AW.callV ok_M_join am_nw_ok (As := [.int x1]) (rest := []) rfl rfl rfl oR_M_isCut lk_M_201 iM_M_isCut sE_M_isCut (qc := kq10) rfl rfl rfl rfl (Nat.le_of_ble_eq_true rfl) (f_M_isCut_ok (d := d) (by omega) x1 hq3) ?_
  change am_AW am_nw ro (d + 1) mr_M_join 5 [some (.ref 63), some (.int x1)] [.int q3.1] (S0, q3.2) (some (.int r)) (S0, m')
  refine am_AW.brN ok_M_join rfl rfl am_c_ne (fun c4 => ?_) (fun c4 => ?_)
  · rw [if_pos c4] at h
    refine am_AW.run am_base_ok ok_M_join (Nat.le_add_left 1 d) 1 (pc1 := 10) (ls1 := [some (.ref 63), some (.int x1)]) (st1 := [.int (-1000001 : Int32)]) (σ1 := (S0, q3.2)) rfl ?_
    obtain ⟨rfl, rfl⟩ := Prod.mk.inj (Option.some.inj h)
    exact am_AW.ret ok_M_join rfl rfl rfl rfl
  · rw [if_neg c4] at h
    refine am_AW.run am_base_ok ok_M_join (Nat.le_add_left 1 d) 3 (pc1 := 16) (ls1 := [some (.ref 63), some (.int x1)]) (st1 := [.int (1 : Int32), .ref 67]) (σ1 := (S0, q3.2)) rfl ?_
    refine am_AW.iald ok_M_join (Nat.le_add_left 1 d) S0_len rfl rfl (by decide) ?_
    change am_AW am_nw ro (d + 1) mr_M_join 17 [some (.ref 63), some (.int x1)] [.int (q3.2.1 67 1)] (S0, q3.2) (some (.int r)) (S0, m')
    refine am_AW.run am_base_ok ok_M_join (Nat.le_add_left 1 d) 1 (pc1 := 18) (ls1 := [some (.ref 63), some (.int x1)]) (st1 := [.int x1, .int (q3.2.1 67 1)]) (σ1 := (S0, q3.2)) rfl ?_
    obtain ⟨q8, hq8, h⟩ := Option.bind_eq_some_iff.mp h
    refine am_AW.callS ok_M_join am_nw_ok (As := [.int (q3.2.1 67 1), .int x1]) (rest := []) rfl rfl rfl oR_M_has lk_M_75 sT_M_has rfl (Nat.le_of_ble_eq_true rfl) (f_M_has_ok (d := d) (by omega) (q3.2.1 67 1) x1 hq8) ?_
    change am_AW am_nw ro (d + 1) mr_M_join 21 [some (.ref 63), some (.int x1)] [.int q8.1] (S0, q8.2) (some (.int r)) (S0, m')
    refine am_AW.brN ok_M_join rfl rfl am_c_ne (fun c9 => ?_) (fun c9 => ?_)
    · rw [if_pos c9] at h
      refine am_AW.run am_base_ok ok_M_join (Nat.le_add_left 1 d) 1 (pc1 := 26) (ls1 := [some (.ref 63), some (.int x1)]) (st1 := [.int (-1000002 : Int32)]) (σ1 := (S0, q8.2)) rfl ?_
      obtain ⟨rfl, rfl⟩ := Prod.mk.inj (Option.some.inj h)
      exact am_AW.ret ok_M_join rfl rfl rfl rfl
    · rw [if_neg c9] at h
      refine am_AW.run am_base_ok ok_M_join (Nat.le_add_left 1 d) 1 (pc1 := 28) (ls1 := [some (.ref 63), some (.int x1)]) (st1 := [.ref 63]) (σ1 := (S0, q8.2)) rfl ?_
      obtain ⟨q12, hq12, h⟩ := Option.bind_eq_some_iff.mp h
      refine am_AW.callV ok_M_join am_nw_ok (As := []) (rest := []) rfl rfl rfl oR_M_keeps lk_M_195 iM_M_keeps sE_M_keeps (qc := kq10) rfl rfl rfl rfl (Nat.le_of_ble_eq_true rfl) (f_M_keeps_ok (d := d) (by omega)  hq12) ?_
      change am_AW am_nw ro (d + 1) mr_M_join 31 [some (.ref 63), some (.int x1)] [] (S0, q12) (some (.int r)) (S0, m')
      refine am_AW.run am_base_ok ok_M_join (Nat.le_add_left 1 d) 4 (pc1 := 37) (ls1 := [some (.ref 63), some (.int x1)]) (st1 := [.int (1 : Int32), .ref 67, .int (1 : Int32), .ref 67]) (σ1 := (S0, q12)) rfl ?_
      refine am_AW.iald ok_M_join (Nat.le_add_left 1 d) S0_len rfl rfl (by decide) ?_
      change am_AW am_nw ro (d + 1) mr_M_join 38 [some (.ref 63), some (.int x1)] [.int (q12.1 67 1), .int (1 : Int32), .ref 67] (S0, q12) (some (.int r)) (S0, m')
      refine am_AW.run am_base_ok ok_M_join (Nat.le_add_left 1 d) 6 (pc1 := 44) (ls1 := [some (.ref 63), some (.int x1)]) (st1 := [.int ((q12.1 67 1) &&& ((am_shl (1 : Int32) x1) ^^^ (-1 : Int32))), .int (1 : Int32), .ref 67]) (σ1 := (S0, q12)) rfl ?_
      refine am_AW.iast ok_M_join (Nat.le_add_left 1 d) rfl rfl (by decide) ?_
      change am_AW am_nw ro (d + 1) mr_M_join 45 [some (.ref 63), some (.int x1)] [] (S0, (am_pI q12 67 1 ((q12.1 67 1) &&& ((am_shl (1 : Int32) x1) ^^^ (-1 : Int32))))) (some (.int r)) (S0, m')
      refine am_AW.run am_base_ok ok_M_join (Nat.le_add_left 1 d) 3 (pc1 := 50) (ls1 := [some (.ref 63), some (.int x1)]) (st1 := [.int (1 : Int32), .ref 67]) (σ1 := (S0, (am_pI q12 67 1 ((q12.1 67 1) &&& ((am_shl (1 : Int32) x1) ^^^ (-1 : Int32)))))) rfl ?_
      refine am_AW.iald ok_M_join (Nat.le_add_left 1 d) S0_len rfl rfl (by decide) ?_
      change am_AW am_nw ro (d + 1) mr_M_join 51 [some (.ref 63), some (.int x1)] [.int ((am_pI q12 67 1 ((q12.1 67 1) &&& ((am_shl (1 : Int32) x1) ^^^ (-1 : Int32)))).1 67 1)] (S0, (am_pI q12 67 1 ((q12.1 67 1) &&& ((am_shl (1 : Int32) x1) ^^^ (-1 : Int32))))) (some (.int r)) (S0, m')
      obtain ⟨q17, hq17, h⟩ := Option.bind_eq_some_iff.mp h
      refine am_AW.callS ok_M_join am_nw_ok (As := [.int ((am_pI q12 67 1 ((q12.1 67 1) &&& ((am_shl (1 : Int32) x1) ^^^ (-1 : Int32)))).1 67 1)]) (rest := []) rfl rfl rfl oR_M_sizeOf lk_M_198 sT_M_sizeOf rfl (Nat.le_of_ble_eq_true rfl) (f_M_sizeOf_ok (d := d) (by omega) ((am_pI q12 67 1 ((q12.1 67 1) &&& ((am_shl (1 : Int32) x1) ^^^ (-1 : Int32)))).1 67 1) hq17) ?_
      change am_AW am_nw ro (d + 1) mr_M_join 54 [some (.ref 63), some (.int x1)] [.int q17.1] (S0, q17.2) (some (.int r)) (S0, m')
      obtain ⟨rfl, rfl⟩ := Prod.mk.inj (Option.some.inj h)
      exact am_AW.ret ok_M_join rfl rfl rfl rfl
/-! FriezePolygonsModel.turned(IIIZ)I -/
def f_M_turned_b104 (k6 : Int32 → Int32 → Int32 → Int32 → Int32 → Int32 → am_Mm → Option (Int32 × am_Mm)) (x0 : Int32) (x1 : Int32) (x2 : Int32) (x3 : Int32) (x5 : Int32) (s0 : Int32) (s1 : Int32) (m : am_Mm) : Option (Int32 × am_Mm) :=
  k6 x0 x1 x2 x3 (s0 ||| s1) (x5 + (1 : Int32)) m
def f_M_turned_b69 (k6 : Int32 → Int32 → Int32 → Int32 → Int32 → Int32 → am_Mm → Option (Int32 × am_Mm)) (x0 : Int32) (x1 : Int32) (x2 : Int32) (x3 : Int32) (x4 : Int32) (x5 : Int32) (x6 : Int32) (s0 : Int32) (m : am_Mm) : Option (Int32 × am_Mm) :=
  (f_M_has x1 x5 m).bind fun q15 =>
  if q15.1 = (0 : Int32) then
    f_M_turned_b104 k6 x0 x1 x2 x3 x5 x4 (0 : Int32) q15.2
  else
    if x0 = (0 : Int32) then none else
    if x0 = (0 : Int32) then none else
    (f_M_numberOf x0 (am_rem (x6 + x2) x0) (am_rem (s0 + x2) x0) q15.2).bind fun q21 =>
    f_M_turned_b104 k6 x0 x1 x2 x3 x5 x4 (am_shl (1 : Int32) q21.1) q21.2
def f_M_turned_b52 (k6 : Int32 → Int32 → Int32 → Int32 → Int32 → Int32 → am_Mm → Option (Int32 × am_Mm)) (x0 : Int32) (x1 : Int32) (x2 : Int32) (x3 : Int32) (x4 : Int32) (x5 : Int32) (x7 : Int32) (s0 : Int32) (m : am_Mm) : Option (Int32 × am_Mm) :=
  if x3 = (0 : Int32) then
    f_M_turned_b69 k6 x0 x1 x2 x3 x4 x5 s0 x7 m
  else
    f_M_turned_b69 k6 x0 x1 x2 x3 x4 x5 s0 ((x0 - (1 : Int32)) - x7) m
def f_M_turned_b6 : Nat → Int32 → Int32 → Int32 → Int32 → Int32 → Int32 → am_Mm → Option (Int32 × am_Mm)
  | 0, _, _, _, _, _, _, _ => none
  | n + 1, x0, x1, x2, x3, x4, x5, m =>
    (f_M_manyCuts x0 m).bind fun q3 =>
    if q3.1 ≤ x5 then
      some (x4, q3.2)
    else
      (f_M_endsOf x0 x5 q3.2).bind fun q7 =>
      (f_M_endsOf x0 x5 q7.2).bind fun q10 =>
      if x3 = (0 : Int32) then
        f_M_turned_b52 (f_M_turned_b6 n) x0 x1 x2 x3 x4 x5 (am_rem q10.1 (10 : Int32)) (q7.1 / (10 : Int32)) q10.2
      else
        f_M_turned_b52 (f_M_turned_b6 n) x0 x1 x2 x3 x4 x5 (am_rem q10.1 (10 : Int32)) ((x0 - (1 : Int32)) - (q7.1 / (10 : Int32))) q10.2
def f_M_turned (x0 : Int32) (x1 : Int32) (x2 : Int32) (x3 : Int32) (m : am_Mm) : Option (Int32 × am_Mm) :=
  f_M_turned_b6 am_F x0 x1 x2 x3 (0 : Int32) (0 : Int32) m
set_option maxHeartbeats 4000000 in
set_option maxRecDepth 100000 in
theorem f_M_turned_b104_ok {ro : am_Ro} {d : Nat} (hd : 3 ≤ d + 1) {k6 : Int32 → Int32 → Int32 → Int32 → Int32 → Int32 → am_Mm → Option (Int32 × am_Mm)} (hk6 : ∀ (x0 : Int32) (x1 : Int32) (x2 : Int32) (x3 : Int32) (x4 : Int32) (x5 : Int32) (m m' : am_Mm) (r : Int32), k6 x0 x1 x2 x3 x4 x5 m = some (r, m') → am_AW am_nw ro (d + 1) mr_M_turned 6 [some (.int x0), some (.int x1), some (.int x2), some (.int x3), some (.int x4), some (.int x5), none, none] [] (S0, m) (some (.int r)) (S0, m')) (x0 : Int32) (x1 : Int32) (x2 : Int32) (x3 : Int32) (x5 : Int32) (s0 : Int32) (s1 : Int32) {m m' : am_Mm} {r : Int32} (h : f_M_turned_b104 k6 x0 x1 x2 x3 x5 s0 s1 m = some (r, m')) : am_AW am_nw ro (d + 1) mr_M_turned 104 [some (.int x0), some (.int x1), some (.int x2), some (.int x3), none, some (.int x5), none, none] [.int s1, .int s0] (S0, m) (some (.int r)) (S0, m') := by
  unfold f_M_turned_b104 at h
  refine am_AW.run am_base_ok ok_M_turned (Nat.le_add_left 1 d) 4 (pc1 := 6) (ls1 := [some (.int x0), some (.int x1), some (.int x2), some (.int x3), some (.int (s0 ||| s1)), some (.int (x5 + (1 : Int32))), none, none]) (st1 := []) (σ1 := (S0, m)) rfl ?_
  exact am_AW.weak (hk6 x0 x1 x2 x3 (s0 ||| s1) (x5 + (1 : Int32))  _ _ _ h) (by simp only [am_le, and_self])
set_option maxHeartbeats 4000000 in
set_option maxRecDepth 100000 in
theorem f_M_turned_b69_ok {ro : am_Ro} {d : Nat} (hd : 3 ≤ d + 1) {k6 : Int32 → Int32 → Int32 → Int32 → Int32 → Int32 → am_Mm → Option (Int32 × am_Mm)} (hk6 : ∀ (x0 : Int32) (x1 : Int32) (x2 : Int32) (x3 : Int32) (x4 : Int32) (x5 : Int32) (m m' : am_Mm) (r : Int32), k6 x0 x1 x2 x3 x4 x5 m = some (r, m') → am_AW am_nw ro (d + 1) mr_M_turned 6 [some (.int x0), some (.int x1), some (.int x2), some (.int x3), some (.int x4), some (.int x5), none, none] [] (S0, m) (some (.int r)) (S0, m')) (x0 : Int32) (x1 : Int32) (x2 : Int32) (x3 : Int32) (x4 : Int32) (x5 : Int32) (x6 : Int32) (s0 : Int32) {m m' : am_Mm} {r : Int32} (h : f_M_turned_b69 k6 x0 x1 x2 x3 x4 x5 x6 s0 m = some (r, m')) : am_AW am_nw ro (d + 1) mr_M_turned 69 [some (.int x0), some (.int x1), some (.int x2), some (.int x3), some (.int x4), some (.int x5), some (.int x6), none] [.int s0] (S0, m) (some (.int r)) (S0, m') := by
  unfold f_M_turned_b69 at h
  refine am_AW.run am_base_ok ok_M_turned (Nat.le_add_left 1 d) 4 (pc1 := 76) (ls1 := [some (.int x0), some (.int x1), some (.int x2), some (.int x3), some (.int x4), some (.int x5), some (.int x6), some (.int s0)]) (st1 := [.int x5, .int x1, .int x4]) (σ1 := (S0, m)) rfl ?_
  obtain ⟨q15, hq15, h⟩ := Option.bind_eq_some_iff.mp h
  refine am_AW.callS ok_M_turned am_nw_ok (As := [.int x1, .int x5]) (rest := [.int x4]) rfl rfl rfl oR_M_has lk_M_75 sT_M_has rfl (Nat.le_of_ble_eq_true rfl) (f_M_has_ok (d := d) (by omega) x1 x5 hq15) ?_
  change am_AW am_nw ro (d + 1) mr_M_turned 79 [some (.int x0), some (.int x1), some (.int x2), some (.int x3), some (.int x4), some (.int x5), some (.int x6), some (.int s0)] [.int q15.1, .int x4] (S0, q15.2) (some (.int r)) (S0, m')
  refine am_AW.brP ok_M_turned rfl rfl am_c_eq (fun c16 => ?_) (fun c16 => ?_)
  · rw [if_pos c16] at h
    refine am_AW.run am_base_ok ok_M_turned (Nat.le_add_left 1 d) 1 (pc1 := 104) (ls1 := [some (.int x0), some (.int x1), some (.int x2), some (.int x3), some (.int x4), some (.int x5), some (.int x6), some (.int s0)]) (st1 := [.int (0 : Int32), .int x4]) (σ1 := (S0, q15.2)) rfl ?_
    exact am_AW.weak (f_M_turned_b104_ok hd (hk6) x0 x1 x2 x3 x5 x4 (0 : Int32)  h) (by simp only [am_le, and_self])
  · rw [if_neg c16] at h
    refine am_AW.run am_base_ok ok_M_turned (Nat.le_add_left 1 d) 6 (pc1 := 89) (ls1 := [some (.int x0), some (.int x1), some (.int x2), some (.int x3), some (.int x4), some (.int x5), some (.int x6), some (.int s0)]) (st1 := [.int x0, .int (x6 + x2), .int x0, .int (1 : Int32), .int x4]) (σ1 := (S0, q15.2)) rfl ?_
    by_cases g17 : x0 = (0 : Int32)
    · rw [if_pos g17] at h
      cases h
    rw [if_neg g17] at h
    refine am_AW.dvi ok_M_turned (Nat.le_add_left 1 d) (w := (am_rem (x6 + x2) x0)) (Or.inr ⟨rfl, rfl⟩) rfl g17 ?_
    refine am_AW.run am_base_ok ok_M_turned (Nat.le_add_left 1 d) 4 (pc1 := 95) (ls1 := [some (.int x0), some (.int x1), some (.int x2), some (.int x3), some (.int x4), some (.int x5), some (.int x6), some (.int s0)]) (st1 := [.int x0, .int (s0 + x2), .int (am_rem (x6 + x2) x0), .int x0, .int (1 : Int32), .int x4]) (σ1 := (S0, q15.2)) rfl ?_
    by_cases g18 : x0 = (0 : Int32)
    · rw [if_pos g18] at h
      cases h
    rw [if_neg g18] at h
    refine am_AW.dvi ok_M_turned (Nat.le_add_left 1 d) (w := (am_rem (s0 + x2) x0)) (Or.inr ⟨rfl, rfl⟩) rfl g18 ?_
    obtain ⟨q21, hq21, h⟩ := Option.bind_eq_some_iff.mp h
    refine am_AW.callS ok_M_turned am_nw_ok (As := [.int x0, .int (am_rem (x6 + x2) x0), .int (am_rem (s0 + x2) x0)]) (rest := [.int (1 : Int32), .int x4]) rfl rfl rfl oR_M_numberOf lk_M_96 sT_M_numberOf rfl (Nat.le_of_ble_eq_true rfl) (f_M_numberOf_ok (d := d) (by omega) x0 (am_rem (x6 + x2) x0) (am_rem (s0 + x2) x0) hq21) ?_
    change am_AW am_nw ro (d + 1) mr_M_turned 99 [some (.int x0), some (.int x1), some (.int x2), some (.int x3), some (.int x4), some (.int x5), some (.int x6), some (.int s0)] [.int q21.1, .int (1 : Int32), .int x4] (S0, q21.2) (some (.int r)) (S0, m')
    refine am_AW.run am_base_ok ok_M_turned (Nat.le_add_left 1 d) 2 (pc1 := 104) (ls1 := [some (.int x0), some (.int x1), some (.int x2), some (.int x3), some (.int x4), some (.int x5), some (.int x6), some (.int s0)]) (st1 := [.int (am_shl (1 : Int32) q21.1), .int x4]) (σ1 := (S0, q21.2)) rfl ?_
    exact am_AW.weak (f_M_turned_b104_ok hd (hk6) x0 x1 x2 x3 x5 x4 (am_shl (1 : Int32) q21.1)  h) (by simp only [am_le, and_self])
set_option maxHeartbeats 4000000 in
set_option maxRecDepth 100000 in
theorem f_M_turned_b52_ok {ro : am_Ro} {d : Nat} (hd : 3 ≤ d + 1) {k6 : Int32 → Int32 → Int32 → Int32 → Int32 → Int32 → am_Mm → Option (Int32 × am_Mm)} (hk6 : ∀ (x0 : Int32) (x1 : Int32) (x2 : Int32) (x3 : Int32) (x4 : Int32) (x5 : Int32) (m m' : am_Mm) (r : Int32), k6 x0 x1 x2 x3 x4 x5 m = some (r, m') → am_AW am_nw ro (d + 1) mr_M_turned 6 [some (.int x0), some (.int x1), some (.int x2), some (.int x3), some (.int x4), some (.int x5), none, none] [] (S0, m) (some (.int r)) (S0, m')) (x0 : Int32) (x1 : Int32) (x2 : Int32) (x3 : Int32) (x4 : Int32) (x5 : Int32) (x7 : Int32) (s0 : Int32) {m m' : am_Mm} {r : Int32} (h : f_M_turned_b52 k6 x0 x1 x2 x3 x4 x5 x7 s0 m = some (r, m')) : am_AW am_nw ro (d + 1) mr_M_turned 52 [some (.int x0), some (.int x1), some (.int x2), some (.int x3), some (.int x4), some (.int x5), none, some (.int x7)] [.int s0] (S0, m) (some (.int r)) (S0, m') := by
  unfold f_M_turned_b52 at h
  refine am_AW.run am_base_ok ok_M_turned (Nat.le_add_left 1 d) 2 (pc1 := 55) (ls1 := [some (.int x0), some (.int x1), some (.int x2), some (.int x3), some (.int x4), some (.int x5), some (.int s0), some (.int x7)]) (st1 := [.int x3]) (σ1 := (S0, m)) rfl ?_
  refine am_AW.brP ok_M_turned rfl rfl am_c_eq (fun c12 => ?_) (fun c12 => ?_)
  · rw [if_pos c12] at h
    refine am_AW.run am_base_ok ok_M_turned (Nat.le_add_left 1 d) 1 (pc1 := 69) (ls1 := [some (.int x0), some (.int x1), some (.int x2), some (.int x3), some (.int x4), some (.int x5), some (.int s0), some (.int x7)]) (st1 := [.int x7]) (σ1 := (S0, m)) rfl ?_
    exact am_AW.weak (f_M_turned_b69_ok hd (hk6) x0 x1 x2 x3 x4 x5 s0 x7  h) (by simp only [am_le, and_self])
  · rw [if_neg c12] at h
    refine am_AW.run am_base_ok ok_M_turned (Nat.le_add_left 1 d) 6 (pc1 := 69) (ls1 := [some (.int x0), some (.int x1), some (.int x2), some (.int x3), some (.int x4), some (.int x5), some (.int s0), some (.int x7)]) (st1 := [.int ((x0 - (1 : Int32)) - x7)]) (σ1 := (S0, m)) rfl ?_
    exact am_AW.weak (f_M_turned_b69_ok hd (hk6) x0 x1 x2 x3 x4 x5 s0 ((x0 - (1 : Int32)) - x7)  h) (by simp only [am_le, and_self])
set_option maxHeartbeats 4000000 in
set_option maxRecDepth 100000 in
theorem f_M_turned_b6_all {ro : am_Ro} {d : Nat} (hd : 3 ≤ d + 1) : ∀ (n : Nat) (x0 : Int32) (x1 : Int32) (x2 : Int32) (x3 : Int32) (x4 : Int32) (x5 : Int32) (m m' : am_Mm) (r : Int32), f_M_turned_b6 n x0 x1 x2 x3 x4 x5 m = some (r, m') → am_AW am_nw ro (d + 1) mr_M_turned 6 [some (.int x0), some (.int x1), some (.int x2), some (.int x3), some (.int x4), some (.int x5), none, none] [] (S0, m) (some (.int r)) (S0, m') := by
  intro n
  induction n with
  | zero =>
    intro x0 x1 x2 x3 x4 x5 m m' r h
    rw [f_M_turned_b6] at h
    cases h
  | succ n ih =>
    intro x0 x1 x2 x3 x4 x5 m m' r h
    rw [f_M_turned_b6] at h
    refine am_AW.run am_base_ok ok_M_turned (Nat.le_add_left 1 d) 2 (pc1 := 9) (ls1 := [some (.int x0), some (.int x1), some (.int x2), some (.int x3), some (.int x4), some (.int x5), none, none]) (st1 := [.int x0, .int x5]) (σ1 := (S0, m)) rfl ?_
    obtain ⟨q3, hq3, h⟩ := Option.bind_eq_some_iff.mp h
    refine am_AW.callS ok_M_turned am_nw_ok (As := [.int x0]) (rest := [.int x5]) rfl rfl rfl oR_M_manyCuts lk_M_87 sT_M_manyCuts rfl (Nat.le_of_ble_eq_true rfl) (f_M_manyCuts_ok (d := d) (by omega) x0 hq3) ?_
    change am_AW am_nw ro (d + 1) mr_M_turned 12 [some (.int x0), some (.int x1), some (.int x2), some (.int x3), some (.int x4), some (.int x5), none, none] [.int q3.1, .int x5] (S0, q3.2) (some (.int r)) (S0, m')
    refine am_AW.brP ok_M_turned rfl rfl am_c_ge (fun c4 => ?_) (fun c4 => ?_)
    · rw [if_pos c4] at h
      refine am_AW.run am_base_ok ok_M_turned (Nat.le_add_left 1 d) 1 (pc1 := 115) (ls1 := [some (.int x0), some (.int x1), some (.int x2), some (.int x3), some (.int x4), some (.int x5), none, none]) (st1 := [.int x4]) (σ1 := (S0, q3.2)) rfl ?_
      obtain ⟨rfl, rfl⟩ := Prod.mk.inj (Option.some.inj h)
      exact am_AW.ret ok_M_turned rfl rfl rfl rfl
    · rw [if_neg c4] at h
      refine am_AW.run am_base_ok ok_M_turned (Nat.le_add_left 1 d) 2 (pc1 := 18) (ls1 := [some (.int x0), some (.int x1), some (.int x2), some (.int x3), some (.int x4), some (.int x5), none, none]) (st1 := [.int x5, .int x0]) (σ1 := (S0, q3.2)) rfl ?_
      obtain ⟨q7, hq7, h⟩ := Option.bind_eq_some_iff.mp h
      refine am_AW.callS ok_M_turned am_nw_ok (As := [.int x0, .int x5]) (rest := []) rfl rfl rfl oR_M_endsOf lk_M_90 sT_M_endsOf rfl (Nat.le_of_ble_eq_true rfl) (f_M_endsOf_ok (d := d) (by omega) x0 x5 hq7) ?_
      change am_AW am_nw ro (d + 1) mr_M_turned 21 [some (.int x0), some (.int x1), some (.int x2), some (.int x3), some (.int x4), some (.int x5), none, none] [.int q7.1] (S0, q7.2) (some (.int r)) (S0, m')
      refine am_AW.run am_base_ok ok_M_turned (Nat.le_add_left 1 d) 1 (pc1 := 23) (ls1 := [some (.int x0), some (.int x1), some (.int x2), some (.int x3), some (.int x4), some (.int x5), none, none]) (st1 := [.int (10 : Int32), .int q7.1]) (σ1 := (S0, q7.2)) rfl ?_
      refine am_AW.dvi ok_M_turned (Nat.le_add_left 1 d) (w := (q7.1 / (10 : Int32))) (Or.inl ⟨rfl, rfl⟩) rfl (by decide) ?_
      refine am_AW.run am_base_ok ok_M_turned (Nat.le_add_left 1 d) 3 (pc1 := 29) (ls1 := [some (.int x0), some (.int x1), some (.int x2), some (.int x3), some (.int x4), some (.int x5), some (.int (q7.1 / (10 : Int32))), none]) (st1 := [.int x5, .int x0]) (σ1 := (S0, q7.2)) rfl ?_
      obtain ⟨q10, hq10, h⟩ := Option.bind_eq_some_iff.mp h
      refine am_AW.callS ok_M_turned am_nw_ok (As := [.int x0, .int x5]) (rest := []) rfl rfl rfl oR_M_endsOf lk_M_90 sT_M_endsOf rfl (Nat.le_of_ble_eq_true rfl) (f_M_endsOf_ok (d := d) (by omega) x0 x5 hq10) ?_
      change am_AW am_nw ro (d + 1) mr_M_turned 32 [some (.int x0), some (.int x1), some (.int x2), some (.int x3), some (.int x4), some (.int x5), some (.int (q7.1 / (10 : Int32))), none] [.int q10.1] (S0, q10.2) (some (.int r)) (S0, m')
      refine am_AW.run am_base_ok ok_M_turned (Nat.le_add_left 1 d) 1 (pc1 := 34) (ls1 := [some (.int x0), some (.int x1), some (.int x2), some (.int x3), some (.int x4), some (.int x5), some (.int (q7.1 / (10 : Int32))), none]) (st1 := [.int (10 : Int32), .int q10.1]) (σ1 := (S0, q10.2)) rfl ?_
      refine am_AW.dvi ok_M_turned (Nat.le_add_left 1 d) (w := (am_rem q10.1 (10 : Int32))) (Or.inr ⟨rfl, rfl⟩) rfl (by decide) ?_
      refine am_AW.run am_base_ok ok_M_turned (Nat.le_add_left 1 d) 2 (pc1 := 38) (ls1 := [some (.int x0), some (.int x1), some (.int x2), some (.int x3), some (.int x4), some (.int x5), some (.int (q7.1 / (10 : Int32))), some (.int (am_rem q10.1 (10 : Int32)))]) (st1 := [.int x3]) (σ1 := (S0, q10.2)) rfl ?_
      refine am_AW.brP ok_M_turned rfl rfl am_c_eq (fun c11 => ?_) (fun c11 => ?_)
      · rw [if_pos c11] at h
        refine am_AW.run am_base_ok ok_M_turned (Nat.le_add_left 1 d) 1 (pc1 := 52) (ls1 := [some (.int x0), some (.int x1), some (.int x2), some (.int x3), some (.int x4), some (.int x5), some (.int (q7.1 / (10 : Int32))), some (.int (am_rem q10.1 (10 : Int32)))]) (st1 := [.int (q7.1 / (10 : Int32))]) (σ1 := (S0, q10.2)) rfl ?_
        exact am_AW.weak (f_M_turned_b52_ok hd (ih) x0 x1 x2 x3 x4 x5 (am_rem q10.1 (10 : Int32)) (q7.1 / (10 : Int32))  h) (by simp only [am_le, and_self])
      · rw [if_neg c11] at h
        refine am_AW.run am_base_ok ok_M_turned (Nat.le_add_left 1 d) 6 (pc1 := 52) (ls1 := [some (.int x0), some (.int x1), some (.int x2), some (.int x3), some (.int x4), some (.int x5), some (.int (q7.1 / (10 : Int32))), some (.int (am_rem q10.1 (10 : Int32)))]) (st1 := [.int ((x0 - (1 : Int32)) - (q7.1 / (10 : Int32)))]) (σ1 := (S0, q10.2)) rfl ?_
        exact am_AW.weak (f_M_turned_b52_ok hd (ih) x0 x1 x2 x3 x4 x5 (am_rem q10.1 (10 : Int32)) ((x0 - (1 : Int32)) - (q7.1 / (10 : Int32)))  h) (by simp only [am_le, and_self])
set_option maxHeartbeats 4000000 in
set_option maxRecDepth 100000 in
theorem f_M_turned_b6_ok {ro : am_Ro} {d : Nat} (hd : 3 ≤ d + 1) (x0 : Int32) (x1 : Int32) (x2 : Int32) (x3 : Int32) (x4 : Int32) (x5 : Int32) {m m' : am_Mm} {r : Int32} {n : Nat} (h : f_M_turned_b6 n x0 x1 x2 x3 x4 x5 m = some (r, m')) : am_AW am_nw ro (d + 1) mr_M_turned 6 [some (.int x0), some (.int x1), some (.int x2), some (.int x3), some (.int x4), some (.int x5), none, none] [] (S0, m) (some (.int r)) (S0, m') :=
  f_M_turned_b6_all hd n x0 x1 x2 x3 x4 x5  m m' r h
set_option maxHeartbeats 4000000 in
set_option maxRecDepth 100000 in
theorem f_M_turned_ok {ro : am_Ro} {d : Nat} (hd : 3 ≤ d) (x0 : Int32) (x1 : Int32) (x2 : Int32) (x3 : Int32) {m m' : am_Mm} {r : Int32} (h : f_M_turned x0 x1 x2 x3 m = some (r, m')) : am_Mt am_nw ro d mr_M_turned [.int x0, .int x1, .int x2, .int x3] (S0, m) (some (.int r)) (S0, m') := by
  obtain ⟨d, rfl⟩ : ∃ d0, d = d0 + 1 := ⟨d - 1, by omega⟩
  refine am_Mt.of (by decide +kernel) (Nat.le_of_ble_eq_true rfl) ?_
  change am_AW am_nw ro (d + 1) mr_M_turned 0 [some (.int x0), some (.int x1), some (.int x2), some (.int x3), none, none, none, none] [] (S0, m) (some (.int r)) (S0, m')
  unfold f_M_turned at h
  refine am_AW.run am_base_ok ok_M_turned (Nat.le_add_left 1 d) 4 (pc1 := 6) (ls1 := [some (.int x0), some (.int x1), some (.int x2), some (.int x3), some (.int (0 : Int32)), some (.int (0 : Int32)), none, none]) (st1 := []) (σ1 := (S0, m)) rfl ?_
  exact am_AW.weak (f_M_turned_b6_ok hd x0 x1 x2 x3 (0 : Int32) (0 : Int32)  h) (by simp only [am_le, and_self])
/-! FriezePolygonsModel.become(II)I -/
def f_M_become (x1 : Int32) (x2 : Int32) (m : am_Mm) : Option (Int32 × am_Mm) :=
  (f_M_isCorner x1 m).bind fun q3 =>
  if q3.1 = (0 : Int32) then
    some ((-1000001 : Int32), q3.2)
  else
    (f_M_in (x2.toInt64) (1 : Int64) (5 : Int64) q3.2).bind fun q7 =>
    if q7.1 = (0 : Int32) then
      some ((-1000001 : Int32), q7.2)
    else
      (f_M_kindOf 67 x1 q7.2).bind fun q11 =>
      if q11.1 = x2 then
        some ((-1000002 : Int32), q11.2)
      else
        (f_M_keeps q11.2).bind fun q15 =>
        if am_in ((2 : Int32) + ((2 : Int32) * x1)) 20 = true then
          some (q11.1, (am_pI q15 67 ((2 : Int32) + ((2 : Int32) * x1)).toNatClampNeg x2))
        else none
set_option maxHeartbeats 4000000 in
set_option maxRecDepth 100000 in
theorem f_M_become_ok {ro : am_Ro} {d : Nat} (hd : 3 ≤ d) (x1 : Int32) (x2 : Int32) {m m' : am_Mm} {r : Int32} (h : f_M_become x1 x2 m = some (r, m')) : am_Mt am_nw ro d mr_M_become [.ref 63, .int x1, .int x2] (S0, m) (some (.int r)) (S0, m') := by
  obtain ⟨d, rfl⟩ : ∃ d0, d = d0 + 1 := ⟨d - 1, by omega⟩
  refine am_Mt.of (by decide +kernel) (Nat.le_of_ble_eq_true rfl) ?_
  change am_AW am_nw ro (d + 1) mr_M_become 0 [some (.ref 63), some (.int x1), some (.int x2), none] [] (S0, m) (some (.int r)) (S0, m')
  unfold f_M_become at h
  refine am_AW.run am_base_ok ok_M_become (Nat.le_add_left 1 d) 2 (pc1 := 2) (ls1 := [some (.ref 63), some (.int x1), some (.int x2), none]) (st1 := [.int x1, .ref 63]) (σ1 := (S0, m)) rfl ?_
  obtain ⟨q3, hq3, h⟩ := Option.bind_eq_some_iff.mp h
  refine am_AW.callV ok_M_become am_nw_ok (As := [.int x1]) (rest := []) rfl rfl rfl oR_M_isCorner lk_M_192 iM_M_isCorner sE_M_isCorner (qc := kq10) rfl rfl rfl rfl (Nat.le_of_ble_eq_true rfl) (f_M_isCorner_ok (d := d) (by omega) x1 hq3) ?_
  change am_AW am_nw ro (d + 1) mr_M_become 5 [some (.ref 63), some (.int x1), some (.int x2), none] [.int q3.1] (S0, q3.2) (some (.int r)) (S0, m')
  refine am_AW.brP ok_M_become rfl rfl am_c_eq (fun c4 => ?_) (fun c4 => ?_)
  · rw [if_pos c4] at h
    refine am_AW.run am_base_ok ok_M_become (Nat.le_add_left 1 d) 1 (pc1 := 22) (ls1 := [some (.ref 63), some (.int x1), some (.int x2), none]) (st1 := [.int (-1000001 : Int32)]) (σ1 := (S0, q3.2)) rfl ?_
    obtain ⟨rfl, rfl⟩ := Prod.mk.inj (Option.some.inj h)
    exact am_AW.ret ok_M_become rfl rfl rfl rfl
  · rw [if_neg c4] at h
    refine am_AW.run am_base_ok ok_M_become (Nat.le_add_left 1 d) 4 (pc1 := 14) (ls1 := [some (.ref 63), some (.int x1), some (.int x2), none]) (st1 := [.long (5 : Int64), .long (1 : Int64), .long (x2.toInt64)]) (σ1 := (S0, q3.2)) rfl ?_
    obtain ⟨q7, hq7, h⟩ := Option.bind_eq_some_iff.mp h
    refine am_AW.callS ok_M_become am_nw_ok (As := [.long (x2.toInt64), .long (1 : Int64), .long (5 : Int64)]) (rest := []) rfl rfl rfl oR_M_in lk_M_60 sT_M_in rfl (Nat.le_of_ble_eq_true rfl) (f_M_in_ok (d := d) (by omega) (x2.toInt64) (1 : Int64) (5 : Int64) hq7) ?_
    change am_AW am_nw ro (d + 1) mr_M_become 17 [some (.ref 63), some (.int x1), some (.int x2), none] [.int q7.1] (S0, q7.2) (some (.int r)) (S0, m')
    refine am_AW.brN ok_M_become rfl rfl am_c_ne (fun c8 => ?_) (fun c8 => ?_)
    · rw [if_pos c8] at h
      refine am_AW.run am_base_ok ok_M_become (Nat.le_add_left 1 d) 1 (pc1 := 22) (ls1 := [some (.ref 63), some (.int x1), some (.int x2), none]) (st1 := [.int (-1000001 : Int32)]) (σ1 := (S0, q7.2)) rfl ?_
      obtain ⟨rfl, rfl⟩ := Prod.mk.inj (Option.some.inj h)
      exact am_AW.ret ok_M_become rfl rfl rfl rfl
    · rw [if_neg c8] at h
      refine am_AW.run am_base_ok ok_M_become (Nat.le_add_left 1 d) 3 (pc1 := 28) (ls1 := [some (.ref 63), some (.int x1), some (.int x2), none]) (st1 := [.int x1, .ref 67]) (σ1 := (S0, q7.2)) rfl ?_
      obtain ⟨q11, hq11, h⟩ := Option.bind_eq_some_iff.mp h
      refine am_AW.callS ok_M_become am_nw_ok (As := [.ref 67, .int x1]) (rest := []) rfl rfl rfl oR_M_kindOf lk_M_115 sT_M_kindOf rfl (Nat.le_of_ble_eq_true rfl) (f_M_kindOf_ok (d := d) (by omega) 67 x1 (by simp) hq11) ?_
      change am_AW am_nw ro (d + 1) mr_M_become 31 [some (.ref 63), some (.int x1), some (.int x2), none] [.int q11.1] (S0, q11.2) (some (.int r)) (S0, m')
      refine am_AW.run am_base_ok ok_M_become (Nat.le_add_left 1 d) 3 (pc1 := 34) (ls1 := [some (.ref 63), some (.int x1), some (.int x2), some (.int q11.1)]) (st1 := [.int x2, .int q11.1]) (σ1 := (S0, q11.2)) rfl ?_
      refine am_AW.brN ok_M_become rfl rfl am_c_ne (fun c12 => ?_) (fun c12 => ?_)
      · rw [if_pos c12] at h
        refine am_AW.run am_base_ok ok_M_become (Nat.le_add_left 1 d) 1 (pc1 := 39) (ls1 := [some (.ref 63), some (.int x1), some (.int x2), some (.int q11.1)]) (st1 := [.int (-1000002 : Int32)]) (σ1 := (S0, q11.2)) rfl ?_
        obtain ⟨rfl, rfl⟩ := Prod.mk.inj (Option.some.inj h)
        exact am_AW.ret ok_M_become rfl rfl rfl rfl
      · rw [if_neg c12] at h
        refine am_AW.run am_base_ok ok_M_become (Nat.le_add_left 1 d) 1 (pc1 := 41) (ls1 := [some (.ref 63), some (.int x1), some (.int x2), some (.int q11.1)]) (st1 := [.ref 63]) (σ1 := (S0, q11.2)) rfl ?_
        obtain ⟨q15, hq15, h⟩ := Option.bind_eq_some_iff.mp h
        refine am_AW.callV ok_M_become am_nw_ok (As := []) (rest := []) rfl rfl rfl oR_M_keeps lk_M_195 iM_M_keeps sE_M_keeps (qc := kq10) rfl rfl rfl rfl (Nat.le_of_ble_eq_true rfl) (f_M_keeps_ok (d := d) (by omega)  hq15) ?_
        change am_AW am_nw ro (d + 1) mr_M_become 44 [some (.ref 63), some (.int x1), some (.int x2), some (.int q11.1)] [] (S0, q15) (some (.int r)) (S0, m')
        refine am_AW.run am_base_ok ok_M_become (Nat.le_add_left 1 d) 8 (pc1 := 54) (ls1 := [some (.ref 63), some (.int x1), some (.int x2), some (.int q11.1)]) (st1 := [.int x2, .int ((2 : Int32) + ((2 : Int32) * x1)), .ref 67]) (σ1 := (S0, q15)) rfl ?_
        by_cases g16 : am_in ((2 : Int32) + ((2 : Int32) * x1)) 20 = true
        rotate_left
        · rw [if_neg g16] at h
          cases h
        rw [if_pos g16] at h
        refine am_AW.iast ok_M_become (Nat.le_add_left 1 d) rfl rfl g16 ?_
        change am_AW am_nw ro (d + 1) mr_M_become 55 [some (.ref 63), some (.int x1), some (.int x2), some (.int q11.1)] [] (S0, (am_pI q15 67 ((2 : Int32) + ((2 : Int32) * x1)).toNatClampNeg x2)) (some (.int r)) (S0, m')
        refine am_AW.run am_base_ok ok_M_become (Nat.le_add_left 1 d) 1 (pc1 := 56) (ls1 := [some (.ref 63), some (.int x1), some (.int x2), some (.int q11.1)]) (st1 := [.int q11.1]) (σ1 := (S0, (am_pI q15 67 ((2 : Int32) + ((2 : Int32) * x1)).toNatClampNeg x2))) rfl ?_
        obtain ⟨rfl, rfl⟩ := Prod.mk.inj (Option.some.inj h)
        exact am_AW.ret ok_M_become rfl rfl rfl rfl
/-! FriezePolygonsModel.number(II)I -/
def f_M_number (x1 : Int32) (x2 : Int32) (m : am_Mm) : Option (Int32 × am_Mm) :=
  (f_M_isCorner x1 m).bind fun q3 =>
  if q3.1 = (0 : Int32) then
    some ((-1000001 : Int32), q3.2)
  else
    (f_M_in (x2.toInt64) (0 : Int64) (9 : Int64) q3.2).bind fun q7 =>
    if q7.1 = (0 : Int32) then
      some ((-1000001 : Int32), q7.2)
    else
      (f_M_keeps q7.2).bind fun q11 =>
      if am_in (((2 : Int32) + ((2 : Int32) * x1)) + (1 : Int32)) 20 = true then
        if am_in (((2 : Int32) + ((2 : Int32) * x1)) + (1 : Int32)) 20 = true then
          some ((q11.1 67 (((2 : Int32) + ((2 : Int32) * x1)) + (1 : Int32)).toNatClampNeg), (am_pI q11 67 (((2 : Int32) + ((2 : Int32) * x1)) + (1 : Int32)).toNatClampNeg x2))
        else none
      else none
set_option maxHeartbeats 4000000 in
set_option maxRecDepth 100000 in
theorem f_M_number_ok {ro : am_Ro} {d : Nat} (hd : 3 ≤ d) (x1 : Int32) (x2 : Int32) {m m' : am_Mm} {r : Int32} (h : f_M_number x1 x2 m = some (r, m')) : am_Mt am_nw ro d mr_M_number [.ref 63, .int x1, .int x2] (S0, m) (some (.int r)) (S0, m') := by
  obtain ⟨d, rfl⟩ : ∃ d0, d = d0 + 1 := ⟨d - 1, by omega⟩
  refine am_Mt.of (by decide +kernel) (Nat.le_of_ble_eq_true rfl) ?_
  change am_AW am_nw ro (d + 1) mr_M_number 0 [some (.ref 63), some (.int x1), some (.int x2), none] [] (S0, m) (some (.int r)) (S0, m')
  unfold f_M_number at h
  refine am_AW.run am_base_ok ok_M_number (Nat.le_add_left 1 d) 2 (pc1 := 2) (ls1 := [some (.ref 63), some (.int x1), some (.int x2), none]) (st1 := [.int x1, .ref 63]) (σ1 := (S0, m)) rfl ?_
  obtain ⟨q3, hq3, h⟩ := Option.bind_eq_some_iff.mp h
  refine am_AW.callV ok_M_number am_nw_ok (As := [.int x1]) (rest := []) rfl rfl rfl oR_M_isCorner lk_M_192 iM_M_isCorner sE_M_isCorner (qc := kq10) rfl rfl rfl rfl (Nat.le_of_ble_eq_true rfl) (f_M_isCorner_ok (d := d) (by omega) x1 hq3) ?_
  change am_AW am_nw ro (d + 1) mr_M_number 5 [some (.ref 63), some (.int x1), some (.int x2), none] [.int q3.1] (S0, q3.2) (some (.int r)) (S0, m')
  refine am_AW.brP ok_M_number rfl rfl am_c_eq (fun c4 => ?_) (fun c4 => ?_)
  · rw [if_pos c4] at h
    refine am_AW.run am_base_ok ok_M_number (Nat.le_add_left 1 d) 1 (pc1 := 22) (ls1 := [some (.ref 63), some (.int x1), some (.int x2), none]) (st1 := [.int (-1000001 : Int32)]) (σ1 := (S0, q3.2)) rfl ?_
    obtain ⟨rfl, rfl⟩ := Prod.mk.inj (Option.some.inj h)
    exact am_AW.ret ok_M_number rfl rfl rfl rfl
  · rw [if_neg c4] at h
    refine am_AW.run am_base_ok ok_M_number (Nat.le_add_left 1 d) 4 (pc1 := 14) (ls1 := [some (.ref 63), some (.int x1), some (.int x2), none]) (st1 := [.long (9 : Int64), .long (0 : Int64), .long (x2.toInt64)]) (σ1 := (S0, q3.2)) rfl ?_
    obtain ⟨q7, hq7, h⟩ := Option.bind_eq_some_iff.mp h
    refine am_AW.callS ok_M_number am_nw_ok (As := [.long (x2.toInt64), .long (0 : Int64), .long (9 : Int64)]) (rest := []) rfl rfl rfl oR_M_in lk_M_60 sT_M_in rfl (Nat.le_of_ble_eq_true rfl) (f_M_in_ok (d := d) (by omega) (x2.toInt64) (0 : Int64) (9 : Int64) hq7) ?_
    change am_AW am_nw ro (d + 1) mr_M_number 17 [some (.ref 63), some (.int x1), some (.int x2), none] [.int q7.1] (S0, q7.2) (some (.int r)) (S0, m')
    refine am_AW.brN ok_M_number rfl rfl am_c_ne (fun c8 => ?_) (fun c8 => ?_)
    · rw [if_pos c8] at h
      refine am_AW.run am_base_ok ok_M_number (Nat.le_add_left 1 d) 1 (pc1 := 22) (ls1 := [some (.ref 63), some (.int x1), some (.int x2), none]) (st1 := [.int (-1000001 : Int32)]) (σ1 := (S0, q7.2)) rfl ?_
      obtain ⟨rfl, rfl⟩ := Prod.mk.inj (Option.some.inj h)
      exact am_AW.ret ok_M_number rfl rfl rfl rfl
    · rw [if_neg c8] at h
      refine am_AW.run am_base_ok ok_M_number (Nat.le_add_left 1 d) 1 (pc1 := 24) (ls1 := [some (.ref 63), some (.int x1), some (.int x2), none]) (st1 := [.ref 63]) (σ1 := (S0, q7.2)) rfl ?_
      obtain ⟨q11, hq11, h⟩ := Option.bind_eq_some_iff.mp h
      refine am_AW.callV ok_M_number am_nw_ok (As := []) (rest := []) rfl rfl rfl oR_M_keeps lk_M_195 iM_M_keeps sE_M_keeps (qc := kq10) rfl rfl rfl rfl (Nat.le_of_ble_eq_true rfl) (f_M_keeps_ok (d := d) (by omega)  hq11) ?_
      change am_AW am_nw ro (d + 1) mr_M_number 27 [some (.ref 63), some (.int x1), some (.int x2), none] [] (S0, q11) (some (.int r)) (S0, m')
      refine am_AW.run am_base_ok ok_M_number (Nat.le_add_left 1 d) 9 (pc1 := 38) (ls1 := [some (.ref 63), some (.int x1), some (.int x2), none]) (st1 := [.int (((2 : Int32) + ((2 : Int32) * x1)) + (1 : Int32)), .ref 67]) (σ1 := (S0, q11)) rfl ?_
      by_cases g12 : am_in (((2 : Int32) + ((2 : Int32) * x1)) + (1 : Int32)) 20 = true
      rotate_left
      · rw [if_neg g12] at h
        cases h
      rw [if_pos g12] at h
      refine am_AW.iald ok_M_number (Nat.le_add_left 1 d) S0_len rfl rfl g12 ?_
      refine am_AW.run am_base_ok ok_M_number (Nat.le_add_left 1 d) 11 (pc1 := 52) (ls1 := [some (.ref 63), some (.int x1), some (.int x2), some (.int (q11.1 67 (((2 : Int32) + ((2 : Int32) * x1)) + (1 : Int32)).toNatClampNeg))]) (st1 := [.int x2, .int (((2 : Int32) + ((2 : Int32) * x1)) + (1 : Int32)), .ref 67]) (σ1 := (S0, q11)) rfl ?_
      by_cases g13 : am_in (((2 : Int32) + ((2 : Int32) * x1)) + (1 : Int32)) 20 = true
      rotate_left
      · rw [if_neg g13] at h
        cases h
      rw [if_pos g13] at h
      refine am_AW.iast ok_M_number (Nat.le_add_left 1 d) rfl rfl g13 ?_
      change am_AW am_nw ro (d + 1) mr_M_number 53 [some (.ref 63), some (.int x1), some (.int x2), some (.int (q11.1 67 (((2 : Int32) + ((2 : Int32) * x1)) + (1 : Int32)).toNatClampNeg))] [] (S0, (am_pI q11 67 (((2 : Int32) + ((2 : Int32) * x1)) + (1 : Int32)).toNatClampNeg x2)) (some (.int r)) (S0, m')
      refine am_AW.run am_base_ok ok_M_number (Nat.le_add_left 1 d) 1 (pc1 := 54) (ls1 := [some (.ref 63), some (.int x1), some (.int x2), some (.int (q11.1 67 (((2 : Int32) + ((2 : Int32) * x1)) + (1 : Int32)).toNatClampNeg))]) (st1 := [.int (q11.1 67 (((2 : Int32) + ((2 : Int32) * x1)) + (1 : Int32)).toNatClampNeg)]) (σ1 := (S0, (am_pI q11 67 (((2 : Int32) + ((2 : Int32) * x1)) + (1 : Int32)).toNatClampNeg x2))) rfl ?_
      obtain ⟨rfl, rfl⟩ := Prod.mk.inj (Option.some.inj h)
      exact am_AW.ret ok_M_number rfl rfl rfl rfl
/-! FriezePolygonsModel.readBack(I)I -/
def f_M_readBack_b213 (k177 : Int32 → Int32 → Int32 → Int32 → Int32 → am_Mm → Option (Int32 × am_Mm)) (x2 : Int32) (x3 : Int32) (x4 : Int32) (x6 : Int32) (s0 : Int32) (m : am_Mm) : Option (Int32 × am_Mm) :=
  k177 x2 x3 x4 s0 (x6 + (1 : Int32)) m
def f_M_readBack_b177 : Nat → Int32 → Int32 → Int32 → Int32 → Int32 → am_Mm → Option (Int32 × am_Mm)
  | 0, _, _, _, _, _, _ => none
  | n + 1, x2, x3, x4, x5, x6, m =>
    if x2 ≤ x6 then
      if x5 = (0 : Int32) then
        some ((-1000000 : Int32), m)
      else
        some (x4, m)
    else
      if x5 = (0 : Int32) then
        f_M_readBack_b213 (f_M_readBack_b177 n) x2 x3 x4 x6 (0 : Int32) m
      else
        (f_M_has x3 x6 m).bind fun q9 =>
        if q9.1 = (0 : Int32) then
          f_M_readBack_b213 (f_M_readBack_b177 n) x2 x3 x4 x6 (1 : Int32) q9.2
        else
          if am_in x6 9 = true then
            if (q9.2.1 72 x6.toNatClampNeg) = (1 : Int32) then
              f_M_readBack_b213 (f_M_readBack_b177 n) x2 x3 x4 x6 (1 : Int32) q9.2
            else
              f_M_readBack_b213 (f_M_readBack_b177 n) x2 x3 x4 x6 (0 : Int32) q9.2
          else none
def f_M_readBack_b46 : Nat → Int32 → Int32 → Int32 → Int32 → am_Mm → Option (Int32 × am_Mm)
  | 0, _, _, _, _, _ => none
  | n + 1, x2, x3, x4, x5, m =>
    if x5 ≤ (3 : Int32) then
      f_M_readBack_b177 am_F x2 x3 x4 (1 : Int32) (0 : Int32) m
    else
      (f_M_firstEar x3 m).bind fun q15 =>
      if q15.1 = (9 : Int32) then
        some ((-1000000 : Int32), q15.2)
      else
        (f_M_beside x3 q15.1 x2 (x2 - (1 : Int32)) q15.2).bind fun q19 =>
        (f_M_beside x3 q15.1 x2 (1 : Int32) q19.2).bind fun q22 =>
        if am_in q19.1 9 = true then
          if (q22.2.1 72 q19.1.toNatClampNeg) ≤ (1 : Int32) then
            some ((-1000000 : Int32), q22.2)
          else
            if am_in q22.1 9 = true then
              if (1 : Int32) < (q22.2.1 72 q22.1.toNatClampNeg) then
                if am_in q19.1 9 = true then
                  if am_in q19.1 9 = true then
                    if am_in q22.1 9 = true then
                      if am_in q22.1 9 = true then
                        (f_M_numberOf x2 q19.1 q22.1 (am_pI (am_pI q22.2 72 q19.1.toNatClampNeg ((q22.2.1 72 q19.1.toNatClampNeg) - (1 : Int32))) 72 q22.1.toNatClampNeg (((am_pI q22.2 72 q19.1.toNatClampNeg ((q22.2.1 72 q19.1.toNatClampNeg) - (1 : Int32))).1 72 q22.1.toNatClampNeg) - (1 : Int32)))).bind fun q33 =>
                        f_M_readBack_b46 n x2 (x3 &&& ((am_shl (1 : Int32) q15.1) ^^^ (-1 : Int32))) (x4 ||| (am_shl (1 : Int32) q33.1)) (x5 + (-1 : Int32)) q33.2
                      else none
                    else none
                  else none
                else none
              else
                some ((-1000000 : Int32), q22.2)
            else none
        else none
def f_M_readBack_b9 : Nat → Int32 → Int32 → Int32 → am_Mm → Option (Int32 × am_Mm)
  | 0, _, _, _, _ => none
  | n + 1, x1, x2, x3, m =>
    if x2 ≤ x3 then
      f_M_readBack_b46 am_F x2 ((am_shl (1 : Int32) x2) - (1 : Int32)) (0 : Int32) x2 m
    else
      if am_in (x1 + x3) 320 = true then
        if am_in x3 9 = true then
          f_M_readBack_b9 n x1 x2 (x3 + (1 : Int32)) (am_pI m 72 x3.toNatClampNeg (m.1 66 (x1 + x3).toNatClampNeg))
        else none
      else none
def f_M_readBack (x1 : Int32) (m : am_Mm) : Option (Int32 × am_Mm) :=
  f_M_readBack_b9 am_F x1 (m.1 67 0) (0 : Int32) m
set_option maxHeartbeats 4000000 in
set_option maxRecDepth 100000 in
theorem f_M_readBack_b213_ok {ro : am_Ro} {d : Nat} (hd : 3 ≤ d + 1) {k177 : Int32 → Int32 → Int32 → Int32 → Int32 → am_Mm → Option (Int32 × am_Mm)} (hk177 : ∀ (x2 : Int32) (x3 : Int32) (x4 : Int32) (x5 : Int32) (x6 : Int32) (m m' : am_Mm) (r : Int32), k177 x2 x3 x4 x5 x6 m = some (r, m') → am_AW am_nw ro (d + 1) mr_M_readBack 177 [some (.ref 63), none, some (.int x2), some (.int x3), some (.int x4), some (.int x5), some (.int x6), none, none] [] (S0, m) (some (.int r)) (S0, m')) (x2 : Int32) (x3 : Int32) (x4 : Int32) (x6 : Int32) (s0 : Int32) {m m' : am_Mm} {r : Int32} (h : f_M_readBack_b213 k177 x2 x3 x4 x6 s0 m = some (r, m')) : am_AW am_nw ro (d + 1) mr_M_readBack 213 [some (.ref 63), none, some (.int x2), some (.int x3), some (.int x4), none, some (.int x6), none, none] [.int s0] (S0, m) (some (.int r)) (S0, m') := by
  unfold f_M_readBack_b213 at h
  refine am_AW.run am_base_ok ok_M_readBack (Nat.le_add_left 1 d) 3 (pc1 := 177) (ls1 := [some (.ref 63), none, some (.int x2), some (.int x3), some (.int x4), some (.int s0), some (.int (x6 + (1 : Int32))), none, none]) (st1 := []) (σ1 := (S0, m)) rfl ?_
  exact am_AW.weak (hk177 x2 x3 x4 s0 (x6 + (1 : Int32))  _ _ _ h) (by simp only [am_le, and_self])
set_option maxHeartbeats 4000000 in
set_option maxRecDepth 100000 in
theorem f_M_readBack_b177_all {ro : am_Ro} {d : Nat} (hd : 3 ≤ d + 1) : ∀ (n : Nat) (x2 : Int32) (x3 : Int32) (x4 : Int32) (x5 : Int32) (x6 : Int32) (m m' : am_Mm) (r : Int32), f_M_readBack_b177 n x2 x3 x4 x5 x6 m = some (r, m') → am_AW am_nw ro (d + 1) mr_M_readBack 177 [some (.ref 63), none, some (.int x2), some (.int x3), some (.int x4), some (.int x5), some (.int x6), none, none] [] (S0, m) (some (.int r)) (S0, m') := by
  intro n
  induction n with
  | zero =>
    intro x2 x3 x4 x5 x6 m m' r h
    rw [f_M_readBack_b177] at h
    cases h
  | succ n ih =>
    intro x2 x3 x4 x5 x6 m m' r h
    rw [f_M_readBack_b177] at h
    refine am_AW.run am_base_ok ok_M_readBack (Nat.le_add_left 1 d) 2 (pc1 := 180) (ls1 := [some (.ref 63), none, some (.int x2), some (.int x3), some (.int x4), some (.int x5), some (.int x6), none, none]) (st1 := [.int x2, .int x6]) (σ1 := (S0, m)) rfl ?_
    refine am_AW.brP ok_M_readBack rfl rfl am_c_ge (fun c4 => ?_) (fun c4 => ?_)
    · rw [if_pos c4] at h
      refine am_AW.run am_base_ok ok_M_readBack (Nat.le_add_left 1 d) 1 (pc1 := 223) (ls1 := [some (.ref 63), none, some (.int x2), some (.int x3), some (.int x4), some (.int x5), some (.int x6), none, none]) (st1 := [.int x5]) (σ1 := (S0, m)) rfl ?_
      refine am_AW.brP ok_M_readBack rfl rfl am_c_eq (fun c5 => ?_) (fun c5 => ?_)
      · rw [if_pos c5] at h
        refine am_AW.run am_base_ok ok_M_readBack (Nat.le_add_left 1 d) 1 (pc1 := 233) (ls1 := [some (.ref 63), none, some (.int x2), some (.int x3), some (.int x4), some (.int x5), some (.int x6), none, none]) (st1 := [.int (-1000000 : Int32)]) (σ1 := (S0, m)) rfl ?_
        obtain ⟨rfl, rfl⟩ := Prod.mk.inj (Option.some.inj h)
        exact am_AW.ret ok_M_readBack rfl rfl rfl rfl
      · rw [if_neg c5] at h
        refine am_AW.run am_base_ok ok_M_readBack (Nat.le_add_left 1 d) 2 (pc1 := 233) (ls1 := [some (.ref 63), none, some (.int x2), some (.int x3), some (.int x4), some (.int x5), some (.int x6), none, none]) (st1 := [.int x4]) (σ1 := (S0, m)) rfl ?_
        obtain ⟨rfl, rfl⟩ := Prod.mk.inj (Option.some.inj h)
        exact am_AW.ret ok_M_readBack rfl rfl rfl rfl
    · rw [if_neg c4] at h
      refine am_AW.run am_base_ok ok_M_readBack (Nat.le_add_left 1 d) 1 (pc1 := 185) (ls1 := [some (.ref 63), none, some (.int x2), some (.int x3), some (.int x4), some (.int x5), some (.int x6), none, none]) (st1 := [.int x5]) (σ1 := (S0, m)) rfl ?_
      refine am_AW.brP ok_M_readBack rfl rfl am_c_eq (fun c6 => ?_) (fun c6 => ?_)
      · rw [if_pos c6] at h
        refine am_AW.run am_base_ok ok_M_readBack (Nat.le_add_left 1 d) 1 (pc1 := 213) (ls1 := [some (.ref 63), none, some (.int x2), some (.int x3), some (.int x4), some (.int x5), some (.int x6), none, none]) (st1 := [.int (0 : Int32)]) (σ1 := (S0, m)) rfl ?_
        exact am_AW.weak (f_M_readBack_b213_ok hd (ih) x2 x3 x4 x6 (0 : Int32)  h) (by simp only [am_le, and_self])
      · rw [if_neg c6] at h
        refine am_AW.run am_base_ok ok_M_readBack (Nat.le_add_left 1 d) 2 (pc1 := 191) (ls1 := [some (.ref 63), none, some (.int x2), some (.int x3), some (.int x4), some (.int x5), some (.int x6), none, none]) (st1 := [.int x6, .int x3]) (σ1 := (S0, m)) rfl ?_
        obtain ⟨q9, hq9, h⟩ := Option.bind_eq_some_iff.mp h
        refine am_AW.callS ok_M_readBack am_nw_ok (As := [.int x3, .int x6]) (rest := []) rfl rfl rfl oR_M_has lk_M_75 sT_M_has rfl (Nat.le_of_ble_eq_true rfl) (f_M_has_ok (d := d) (by omega) x3 x6 hq9) ?_
        change am_AW am_nw ro (d + 1) mr_M_readBack 194 [some (.ref 63), none, some (.int x2), some (.int x3), some (.int x4), some (.int x5), some (.int x6), none, none] [.int q9.1] (S0, q9.2) (some (.int r)) (S0, m')
        refine am_AW.brP ok_M_readBack rfl rfl am_c_eq (fun c10 => ?_) (fun c10 => ?_)
        · rw [if_pos c10] at h
          refine am_AW.run am_base_ok ok_M_readBack (Nat.le_add_left 1 d) 2 (pc1 := 213) (ls1 := [some (.ref 63), none, some (.int x2), some (.int x3), some (.int x4), some (.int x5), some (.int x6), none, none]) (st1 := [.int (1 : Int32)]) (σ1 := (S0, q9.2)) rfl ?_
          exact am_AW.weak (f_M_readBack_b213_ok hd (ih) x2 x3 x4 x6 (1 : Int32)  h) (by simp only [am_le, and_self])
        · rw [if_neg c10] at h
          refine am_AW.run am_base_ok ok_M_readBack (Nat.le_add_left 1 d) 3 (pc1 := 203) (ls1 := [some (.ref 63), none, some (.int x2), some (.int x3), some (.int x4), some (.int x5), some (.int x6), none, none]) (st1 := [.int x6, .ref 72]) (σ1 := (S0, q9.2)) rfl ?_
          by_cases g11 : am_in x6 9 = true
          rotate_left
          · rw [if_neg g11] at h
            cases h
          rw [if_pos g11] at h
          refine am_AW.iald ok_M_readBack (Nat.le_add_left 1 d) S0_len rfl rfl g11 ?_
          refine am_AW.run am_base_ok ok_M_readBack (Nat.le_add_left 1 d) 1 (pc1 := 205) (ls1 := [some (.ref 63), none, some (.int x2), some (.int x3), some (.int x4), some (.int x5), some (.int x6), none, none]) (st1 := [.int (1 : Int32), .int (q9.2.1 72 x6.toNatClampNeg)]) (σ1 := (S0, q9.2)) rfl ?_
          refine am_AW.brN ok_M_readBack rfl rfl am_c_ne (fun c12 => ?_) (fun c12 => ?_)
          · rw [if_pos c12] at h
            refine am_AW.run am_base_ok ok_M_readBack (Nat.le_add_left 1 d) 2 (pc1 := 213) (ls1 := [some (.ref 63), none, some (.int x2), some (.int x3), some (.int x4), some (.int x5), some (.int x6), none, none]) (st1 := [.int (1 : Int32)]) (σ1 := (S0, q9.2)) rfl ?_
            exact am_AW.weak (f_M_readBack_b213_ok hd (ih) x2 x3 x4 x6 (1 : Int32)  h) (by simp only [am_le, and_self])
          · rw [if_neg c12] at h
            refine am_AW.run am_base_ok ok_M_readBack (Nat.le_add_left 1 d) 1 (pc1 := 213) (ls1 := [some (.ref 63), none, some (.int x2), some (.int x3), some (.int x4), some (.int x5), some (.int x6), none, none]) (st1 := [.int (0 : Int32)]) (σ1 := (S0, q9.2)) rfl ?_
            exact am_AW.weak (f_M_readBack_b213_ok hd (ih) x2 x3 x4 x6 (0 : Int32)  h) (by simp only [am_le, and_self])
set_option maxHeartbeats 4000000 in
set_option maxRecDepth 100000 in
theorem f_M_readBack_b177_ok {ro : am_Ro} {d : Nat} (hd : 3 ≤ d + 1) (x2 : Int32) (x3 : Int32) (x4 : Int32) (x5 : Int32) (x6 : Int32) {m m' : am_Mm} {r : Int32} {n : Nat} (h : f_M_readBack_b177 n x2 x3 x4 x5 x6 m = some (r, m')) : am_AW am_nw ro (d + 1) mr_M_readBack 177 [some (.ref 63), none, some (.int x2), some (.int x3), some (.int x4), some (.int x5), some (.int x6), none, none] [] (S0, m) (some (.int r)) (S0, m') :=
  f_M_readBack_b177_all hd n x2 x3 x4 x5 x6  m m' r h
set_option maxHeartbeats 4000000 in
set_option maxRecDepth 100000 in
theorem f_M_readBack_b46_all {ro : am_Ro} {d : Nat} (hd : 3 ≤ d + 1) : ∀ (n : Nat) (x2 : Int32) (x3 : Int32) (x4 : Int32) (x5 : Int32) (m m' : am_Mm) (r : Int32), f_M_readBack_b46 n x2 x3 x4 x5 m = some (r, m') → am_AW am_nw ro (d + 1) mr_M_readBack 46 [some (.ref 63), none, some (.int x2), some (.int x3), some (.int x4), some (.int x5), none, none, none] [] (S0, m) (some (.int r)) (S0, m') := by
  intro n
  induction n with
  | zero =>
    intro x2 x3 x4 x5 m m' r h
    rw [f_M_readBack_b46] at h
    cases h
  | succ n ih =>
    intro x2 x3 x4 x5 m m' r h
    rw [f_M_readBack_b46] at h
    refine am_AW.run am_base_ok ok_M_readBack (Nat.le_add_left 1 d) 2 (pc1 := 49) (ls1 := [some (.ref 63), none, some (.int x2), some (.int x3), some (.int x4), some (.int x5), none, none, none]) (st1 := [.int (3 : Int32), .int x5]) (σ1 := (S0, m)) rfl ?_
    refine am_AW.brP ok_M_readBack rfl rfl am_c_le (fun c3 => ?_) (fun c3 => ?_)
    · rw [if_pos c3] at h
      refine am_AW.run am_base_ok ok_M_readBack (Nat.le_add_left 1 d) 4 (pc1 := 177) (ls1 := [some (.ref 63), none, some (.int x2), some (.int x3), some (.int x4), some (.int (1 : Int32)), some (.int (0 : Int32)), none, none]) (st1 := []) (σ1 := (S0, m)) rfl ?_
      exact am_AW.weak (f_M_readBack_b177_ok hd x2 x3 x4 (1 : Int32) (0 : Int32)  h) (by simp only [am_le, and_self])
    · rw [if_neg c3] at h
      refine am_AW.run am_base_ok ok_M_readBack (Nat.le_add_left 1 d) 3 (pc1 := 57) (ls1 := [some (.ref 63), none, some (.int x2), some (.int x3), some (.int x4), some (.int x5), none, none, none]) (st1 := [.int x3, .ref 72]) (σ1 := (S0, m)) rfl ?_
      obtain ⟨q15, hq15, h⟩ := Option.bind_eq_some_iff.mp h
      refine am_AW.callS ok_M_readBack am_nw_ok (As := [.ref 72, .int x3]) (rest := []) rfl rfl rfl oR_M_firstEar lk_M_215 sT_M_firstEar rfl (Nat.le_of_ble_eq_true rfl) (f_M_firstEar_ok (d := d) (by omega) x3 hq15) ?_
      change am_AW am_nw ro (d + 1) mr_M_readBack 60 [some (.ref 63), none, some (.int x2), some (.int x3), some (.int x4), some (.int x5), none, none, none] [.int q15.1] (S0, q15.2) (some (.int r)) (S0, m')
      refine am_AW.run am_base_ok ok_M_readBack (Nat.le_add_left 1 d) 3 (pc1 := 66) (ls1 := [some (.ref 63), none, some (.int x2), some (.int x3), some (.int x4), some (.int x5), some (.int q15.1), none, none]) (st1 := [.int (9 : Int32), .int q15.1]) (σ1 := (S0, q15.2)) rfl ?_
      refine am_AW.brN ok_M_readBack rfl rfl am_c_ne (fun c16 => ?_) (fun c16 => ?_)
      · rw [if_pos c16] at h
        refine am_AW.run am_base_ok ok_M_readBack (Nat.le_add_left 1 d) 1 (pc1 := 71) (ls1 := [some (.ref 63), none, some (.int x2), some (.int x3), some (.int x4), some (.int x5), some (.int q15.1), none, none]) (st1 := [.int (-1000000 : Int32)]) (σ1 := (S0, q15.2)) rfl ?_
        obtain ⟨rfl, rfl⟩ := Prod.mk.inj (Option.some.inj h)
        exact am_AW.ret ok_M_readBack rfl rfl rfl rfl
      · rw [if_neg c16] at h
        refine am_AW.run am_base_ok ok_M_readBack (Nat.le_add_left 1 d) 6 (pc1 := 79) (ls1 := [some (.ref 63), none, some (.int x2), some (.int x3), some (.int x4), some (.int x5), some (.int q15.1), none, none]) (st1 := [.int (x2 - (1 : Int32)), .int x2, .int q15.1, .int x3]) (σ1 := (S0, q15.2)) rfl ?_
        obtain ⟨q19, hq19, h⟩ := Option.bind_eq_some_iff.mp h
        refine am_AW.callS ok_M_readBack am_nw_ok (As := [.int x3, .int q15.1, .int x2, .int (x2 - (1 : Int32))]) (rest := []) rfl rfl rfl oR_M_beside lk_M_218 sT_M_beside rfl (Nat.le_of_ble_eq_true rfl) (f_M_beside_ok (d := d) (by omega) x3 q15.1 x2 (x2 - (1 : Int32)) hq19) ?_
        change am_AW am_nw ro (d + 1) mr_M_readBack 82 [some (.ref 63), none, some (.int x2), some (.int x3), some (.int x4), some (.int x5), some (.int q15.1), none, none] [.int q19.1] (S0, q19.2) (some (.int r)) (S0, m')
        refine am_AW.run am_base_ok ok_M_readBack (Nat.le_add_left 1 d) 5 (pc1 := 89) (ls1 := [some (.ref 63), none, some (.int x2), some (.int x3), some (.int x4), some (.int x5), some (.int q15.1), some (.int q19.1), none]) (st1 := [.int (1 : Int32), .int x2, .int q15.1, .int x3]) (σ1 := (S0, q19.2)) rfl ?_
        obtain ⟨q22, hq22, h⟩ := Option.bind_eq_some_iff.mp h
        refine am_AW.callS ok_M_readBack am_nw_ok (As := [.int x3, .int q15.1, .int x2, .int (1 : Int32)]) (rest := []) rfl rfl rfl oR_M_beside lk_M_218 sT_M_beside rfl (Nat.le_of_ble_eq_true rfl) (f_M_beside_ok (d := d) (by omega) x3 q15.1 x2 (1 : Int32) hq22) ?_
        change am_AW am_nw ro (d + 1) mr_M_readBack 92 [some (.ref 63), none, some (.int x2), some (.int x3), some (.int x4), some (.int x5), some (.int q15.1), some (.int q19.1), none] [.int q22.1] (S0, q22.2) (some (.int r)) (S0, m')
        refine am_AW.run am_base_ok ok_M_readBack (Nat.le_add_left 1 d) 4 (pc1 := 100) (ls1 := [some (.ref 63), none, some (.int x2), some (.int x3), some (.int x4), some (.int x5), some (.int q15.1), some (.int q19.1), some (.int q22.1)]) (st1 := [.int q19.1, .ref 72]) (σ1 := (S0, q22.2)) rfl ?_
        by_cases g23 : am_in q19.1 9 = true
        rotate_left
        · rw [if_neg g23] at h
          cases h
        rw [if_pos g23] at h
        refine am_AW.iald ok_M_readBack (Nat.le_add_left 1 d) S0_len rfl rfl g23 ?_
        refine am_AW.run am_base_ok ok_M_readBack (Nat.le_add_left 1 d) 1 (pc1 := 102) (ls1 := [some (.ref 63), none, some (.int x2), some (.int x3), some (.int x4), some (.int x5), some (.int q15.1), some (.int q19.1), some (.int q22.1)]) (st1 := [.int (1 : Int32), .int (q22.2.1 72 q19.1.toNatClampNeg)]) (σ1 := (S0, q22.2)) rfl ?_
        refine am_AW.brP ok_M_readBack rfl rfl am_c_le (fun c24 => ?_) (fun c24 => ?_)
        · rw [if_pos c24] at h
          refine am_AW.run am_base_ok ok_M_readBack (Nat.le_add_left 1 d) 1 (pc1 := 118) (ls1 := [some (.ref 63), none, some (.int x2), some (.int x3), some (.int x4), some (.int x5), some (.int q15.1), some (.int q19.1), some (.int q22.1)]) (st1 := [.int (-1000000 : Int32)]) (σ1 := (S0, q22.2)) rfl ?_
          obtain ⟨rfl, rfl⟩ := Prod.mk.inj (Option.some.inj h)
          exact am_AW.ret ok_M_readBack rfl rfl rfl rfl
        · rw [if_neg c24] at h
          refine am_AW.run am_base_ok ok_M_readBack (Nat.le_add_left 1 d) 3 (pc1 := 111) (ls1 := [some (.ref 63), none, some (.int x2), some (.int x3), some (.int x4), some (.int x5), some (.int q15.1), some (.int q19.1), some (.int q22.1)]) (st1 := [.int q22.1, .ref 72]) (σ1 := (S0, q22.2)) rfl ?_
          by_cases g25 : am_in q22.1 9 = true
          rotate_left
          · rw [if_neg g25] at h
            cases h
          rw [if_pos g25] at h
          refine am_AW.iald ok_M_readBack (Nat.le_add_left 1 d) S0_len rfl rfl g25 ?_
          refine am_AW.run am_base_ok ok_M_readBack (Nat.le_add_left 1 d) 1 (pc1 := 113) (ls1 := [some (.ref 63), none, some (.int x2), some (.int x3), some (.int x4), some (.int x5), some (.int q15.1), some (.int q19.1), some (.int q22.1)]) (st1 := [.int (1 : Int32), .int (q22.2.1 72 q22.1.toNatClampNeg)]) (σ1 := (S0, q22.2)) rfl ?_
          refine am_AW.brP ok_M_readBack rfl rfl am_c_gt (fun c26 => ?_) (fun c26 => ?_)
          · rw [if_pos c26] at h
            refine am_AW.run am_base_ok ok_M_readBack (Nat.le_add_left 1 d) 4 (pc1 := 126) (ls1 := [some (.ref 63), none, some (.int x2), some (.int x3), some (.int x4), some (.int x5), some (.int q15.1), some (.int q19.1), some (.int q22.1)]) (st1 := [.int q19.1, .ref 72, .int q19.1, .ref 72]) (σ1 := (S0, q22.2)) rfl ?_
            by_cases g27 : am_in q19.1 9 = true
            rotate_left
            · rw [if_neg g27] at h
              cases h
            rw [if_pos g27] at h
            refine am_AW.iald ok_M_readBack (Nat.le_add_left 1 d) S0_len rfl rfl g27 ?_
            refine am_AW.run am_base_ok ok_M_readBack (Nat.le_add_left 1 d) 2 (pc1 := 129) (ls1 := [some (.ref 63), none, some (.int x2), some (.int x3), some (.int x4), some (.int x5), some (.int q15.1), some (.int q19.1), some (.int q22.1)]) (st1 := [.int ((q22.2.1 72 q19.1.toNatClampNeg) - (1 : Int32)), .int q19.1, .ref 72]) (σ1 := (S0, q22.2)) rfl ?_
            by_cases g28 : am_in q19.1 9 = true
            rotate_left
            · rw [if_neg g28] at h
              cases h
            rw [if_pos g28] at h
            refine am_AW.iast ok_M_readBack (Nat.le_add_left 1 d) rfl rfl g28 ?_
            change am_AW am_nw ro (d + 1) mr_M_readBack 130 [some (.ref 63), none, some (.int x2), some (.int x3), some (.int x4), some (.int x5), some (.int q15.1), some (.int q19.1), some (.int q22.1)] [] (S0, (am_pI q22.2 72 q19.1.toNatClampNeg ((q22.2.1 72 q19.1.toNatClampNeg) - (1 : Int32)))) (some (.int r)) (S0, m')
            refine am_AW.run am_base_ok ok_M_readBack (Nat.le_add_left 1 d) 4 (pc1 := 137) (ls1 := [some (.ref 63), none, some (.int x2), some (.int x3), some (.int x4), some (.int x5), some (.int q15.1), some (.int q19.1), some (.int q22.1)]) (st1 := [.int q22.1, .ref 72, .int q22.1, .ref 72]) (σ1 := (S0, (am_pI q22.2 72 q19.1.toNatClampNeg ((q22.2.1 72 q19.1.toNatClampNeg) - (1 : Int32))))) rfl ?_
            by_cases g29 : am_in q22.1 9 = true
            rotate_left
            · rw [if_neg g29] at h
              cases h
            rw [if_pos g29] at h
            refine am_AW.iald ok_M_readBack (Nat.le_add_left 1 d) S0_len rfl rfl g29 ?_
            refine am_AW.run am_base_ok ok_M_readBack (Nat.le_add_left 1 d) 2 (pc1 := 140) (ls1 := [some (.ref 63), none, some (.int x2), some (.int x3), some (.int x4), some (.int x5), some (.int q15.1), some (.int q19.1), some (.int q22.1)]) (st1 := [.int (((am_pI q22.2 72 q19.1.toNatClampNeg ((q22.2.1 72 q19.1.toNatClampNeg) - (1 : Int32))).1 72 q22.1.toNatClampNeg) - (1 : Int32)), .int q22.1, .ref 72]) (σ1 := (S0, (am_pI q22.2 72 q19.1.toNatClampNeg ((q22.2.1 72 q19.1.toNatClampNeg) - (1 : Int32))))) rfl ?_
            by_cases g30 : am_in q22.1 9 = true
            rotate_left
            · rw [if_neg g30] at h
              cases h
            rw [if_pos g30] at h
            refine am_AW.iast ok_M_readBack (Nat.le_add_left 1 d) rfl rfl g30 ?_
            change am_AW am_nw ro (d + 1) mr_M_readBack 141 [some (.ref 63), none, some (.int x2), some (.int x3), some (.int x4), some (.int x5), some (.int q15.1), some (.int q19.1), some (.int q22.1)] [] (S0, (am_pI (am_pI q22.2 72 q19.1.toNatClampNeg ((q22.2.1 72 q19.1.toNatClampNeg) - (1 : Int32))) 72 q22.1.toNatClampNeg (((am_pI q22.2 72 q19.1.toNatClampNeg ((q22.2.1 72 q19.1.toNatClampNeg) - (1 : Int32))).1 72 q22.1.toNatClampNeg) - (1 : Int32)))) (some (.int r)) (S0, m')
            refine am_AW.run am_base_ok ok_M_readBack (Nat.le_add_left 1 d) 13 (pc1 := 158) (ls1 := [some (.ref 63), none, some (.int x2), some (.int (x3 &&& ((am_shl (1 : Int32) q15.1) ^^^ (-1 : Int32)))), some (.int x4), some (.int x5), some (.int q15.1), some (.int q19.1), some (.int q22.1)]) (st1 := [.int q22.1, .int q19.1, .int x2, .int (1 : Int32), .int x4]) (σ1 := (S0, (am_pI (am_pI q22.2 72 q19.1.toNatClampNeg ((q22.2.1 72 q19.1.toNatClampNeg) - (1 : Int32))) 72 q22.1.toNatClampNeg (((am_pI q22.2 72 q19.1.toNatClampNeg ((q22.2.1 72 q19.1.toNatClampNeg) - (1 : Int32))).1 72 q22.1.toNatClampNeg) - (1 : Int32))))) rfl ?_
            obtain ⟨q33, hq33, h⟩ := Option.bind_eq_some_iff.mp h
            refine am_AW.callS ok_M_readBack am_nw_ok (As := [.int x2, .int q19.1, .int q22.1]) (rest := [.int (1 : Int32), .int x4]) rfl rfl rfl oR_M_numberOf lk_M_96 sT_M_numberOf rfl (Nat.le_of_ble_eq_true rfl) (f_M_numberOf_ok (d := d) (by omega) x2 q19.1 q22.1 hq33) ?_
            change am_AW am_nw ro (d + 1) mr_M_readBack 161 [some (.ref 63), none, some (.int x2), some (.int (x3 &&& ((am_shl (1 : Int32) q15.1) ^^^ (-1 : Int32)))), some (.int x4), some (.int x5), some (.int q15.1), some (.int q19.1), some (.int q22.1)] [.int q33.1, .int (1 : Int32), .int x4] (S0, q33.2) (some (.int r)) (S0, m')
            refine am_AW.run am_base_ok ok_M_readBack (Nat.le_add_left 1 d) 5 (pc1 := 46) (ls1 := [some (.ref 63), none, some (.int x2), some (.int (x3 &&& ((am_shl (1 : Int32) q15.1) ^^^ (-1 : Int32)))), some (.int (x4 ||| (am_shl (1 : Int32) q33.1))), some (.int (x5 + (-1 : Int32))), some (.int q15.1), some (.int q19.1), some (.int q22.1)]) (st1 := []) (σ1 := (S0, q33.2)) rfl ?_
            exact am_AW.weak (ih x2 (x3 &&& ((am_shl (1 : Int32) q15.1) ^^^ (-1 : Int32))) (x4 ||| (am_shl (1 : Int32) q33.1)) (x5 + (-1 : Int32))  _ _ _ h) (by simp only [am_le, and_self])
          · rw [if_neg c26] at h
            refine am_AW.run am_base_ok ok_M_readBack (Nat.le_add_left 1 d) 1 (pc1 := 118) (ls1 := [some (.ref 63), none, some (.int x2), some (.int x3), some (.int x4), some (.int x5), some (.int q15.1), some (.int q19.1), some (.int q22.1)]) (st1 := [.int (-1000000 : Int32)]) (σ1 := (S0, q22.2)) rfl ?_
            obtain ⟨rfl, rfl⟩ := Prod.mk.inj (Option.some.inj h)
            exact am_AW.ret ok_M_readBack rfl rfl rfl rfl
set_option maxHeartbeats 4000000 in
set_option maxRecDepth 100000 in
theorem f_M_readBack_b46_ok {ro : am_Ro} {d : Nat} (hd : 3 ≤ d + 1) (x2 : Int32) (x3 : Int32) (x4 : Int32) (x5 : Int32) {m m' : am_Mm} {r : Int32} {n : Nat} (h : f_M_readBack_b46 n x2 x3 x4 x5 m = some (r, m')) : am_AW am_nw ro (d + 1) mr_M_readBack 46 [some (.ref 63), none, some (.int x2), some (.int x3), some (.int x4), some (.int x5), none, none, none] [] (S0, m) (some (.int r)) (S0, m') :=
  f_M_readBack_b46_all hd n x2 x3 x4 x5  m m' r h
set_option maxHeartbeats 4000000 in
set_option maxRecDepth 100000 in
theorem f_M_readBack_b9_all {ro : am_Ro} {d : Nat} (hd : 3 ≤ d + 1) : ∀ (n : Nat) (x1 : Int32) (x2 : Int32) (x3 : Int32) (m m' : am_Mm) (r : Int32), f_M_readBack_b9 n x1 x2 x3 m = some (r, m') → am_AW am_nw ro (d + 1) mr_M_readBack 9 [some (.ref 63), some (.int x1), some (.int x2), some (.int x3), none, none, none, none, none] [] (S0, m) (some (.int r)) (S0, m') := by
  intro n
  induction n with
  | zero =>
    intro x1 x2 x3 m m' r h
    rw [f_M_readBack_b9] at h
    cases h
  | succ n ih =>
    intro x1 x2 x3 m m' r h
    rw [f_M_readBack_b9] at h
    refine am_AW.run am_base_ok ok_M_readBack (Nat.le_add_left 1 d) 2 (pc1 := 11) (ls1 := [some (.ref 63), some (.int x1), some (.int x2), some (.int x3), none, none, none, none, none]) (st1 := [.int x2, .int x3]) (σ1 := (S0, m)) rfl ?_
    refine am_AW.brP ok_M_readBack rfl rfl am_c_ge (fun c2 => ?_) (fun c2 => ?_)
    · rw [if_pos c2] at h
      refine am_AW.run am_base_ok ok_M_readBack (Nat.le_add_left 1 d) 10 (pc1 := 46) (ls1 := [some (.ref 63), some (.int x1), some (.int x2), some (.int ((am_shl (1 : Int32) x2) - (1 : Int32))), some (.int (0 : Int32)), some (.int x2), none, none, none]) (st1 := []) (σ1 := (S0, m)) rfl ?_
      exact am_AW.weak (f_M_readBack_b46_ok hd x2 ((am_shl (1 : Int32) x2) - (1 : Int32)) (0 : Int32) x2  h) (by simp only [am_le, and_self])
    · rw [if_neg c2] at h
      refine am_AW.run am_base_ok ok_M_readBack (Nat.le_add_left 1 d) 8 (pc1 := 26) (ls1 := [some (.ref 63), some (.int x1), some (.int x2), some (.int x3), none, none, none, none, none]) (st1 := [.int (x1 + x3), .ref 66, .int x3, .ref 72]) (σ1 := (S0, m)) rfl ?_
      by_cases g34 : am_in (x1 + x3) 320 = true
      rotate_left
      · rw [if_neg g34] at h
        cases h
      rw [if_pos g34] at h
      refine am_AW.iald ok_M_readBack (Nat.le_add_left 1 d) S0_len rfl rfl g34 ?_
      by_cases g35 : am_in x3 9 = true
      rotate_left
      · rw [if_neg g35] at h
        cases h
      rw [if_pos g35] at h
      refine am_AW.iast ok_M_readBack (Nat.le_add_left 1 d) rfl rfl g35 ?_
      change am_AW am_nw ro (d + 1) mr_M_readBack 28 [some (.ref 63), some (.int x1), some (.int x2), some (.int x3), none, none, none, none, none] [] (S0, (am_pI m 72 x3.toNatClampNeg (m.1 66 (x1 + x3).toNatClampNeg))) (some (.int r)) (S0, m')
      refine am_AW.run am_base_ok ok_M_readBack (Nat.le_add_left 1 d) 2 (pc1 := 9) (ls1 := [some (.ref 63), some (.int x1), some (.int x2), some (.int (x3 + (1 : Int32))), none, none, none, none, none]) (st1 := []) (σ1 := (S0, (am_pI m 72 x3.toNatClampNeg (m.1 66 (x1 + x3).toNatClampNeg)))) rfl ?_
      exact am_AW.weak (ih x1 x2 (x3 + (1 : Int32))  _ _ _ h) (by simp only [am_le, and_self])
set_option maxHeartbeats 4000000 in
set_option maxRecDepth 100000 in
theorem f_M_readBack_b9_ok {ro : am_Ro} {d : Nat} (hd : 3 ≤ d + 1) (x1 : Int32) (x2 : Int32) (x3 : Int32) {m m' : am_Mm} {r : Int32} {n : Nat} (h : f_M_readBack_b9 n x1 x2 x3 m = some (r, m')) : am_AW am_nw ro (d + 1) mr_M_readBack 9 [some (.ref 63), some (.int x1), some (.int x2), some (.int x3), none, none, none, none, none] [] (S0, m) (some (.int r)) (S0, m') :=
  f_M_readBack_b9_all hd n x1 x2 x3  m m' r h
set_option maxHeartbeats 4000000 in
set_option maxRecDepth 100000 in
theorem f_M_readBack_ok {ro : am_Ro} {d : Nat} (hd : 3 ≤ d) (x1 : Int32) {m m' : am_Mm} {r : Int32} (h : f_M_readBack x1 m = some (r, m')) : am_Mt am_nw ro d mr_M_readBack [.ref 63, .int x1] (S0, m) (some (.int r)) (S0, m') := by
  obtain ⟨d, rfl⟩ : ∃ d0, d = d0 + 1 := ⟨d - 1, by omega⟩
  refine am_Mt.of (by decide +kernel) (Nat.le_of_ble_eq_true rfl) ?_
  change am_AW am_nw ro (d + 1) mr_M_readBack 0 [some (.ref 63), some (.int x1), none, none, none, none, none, none, none] [] (S0, m) (some (.int r)) (S0, m')
  unfold f_M_readBack at h
  refine am_AW.run am_base_ok ok_M_readBack (Nat.le_add_left 1 d) 3 (pc1 := 5) (ls1 := [some (.ref 63), some (.int x1), none, none, none, none, none, none, none]) (st1 := [.int (0 : Int32), .ref 67]) (σ1 := (S0, m)) rfl ?_
  refine am_AW.iald ok_M_readBack (Nat.le_add_left 1 d) S0_len rfl rfl (by decide) ?_
  change am_AW am_nw ro (d + 1) mr_M_readBack 6 [some (.ref 63), some (.int x1), none, none, none, none, none, none, none] [.int (m.1 67 0)] (S0, m) (some (.int r)) (S0, m')
  refine am_AW.run am_base_ok ok_M_readBack (Nat.le_add_left 1 d) 3 (pc1 := 9) (ls1 := [some (.ref 63), some (.int x1), some (.int (m.1 67 0)), some (.int (0 : Int32)), none, none, none, none, none]) (st1 := []) (σ1 := (S0, m)) rfl ?_
  exact am_AW.weak (f_M_readBack_b9_ok hd x1 (m.1 67 0) (0 : Int32)  h) (by simp only [am_le, and_self])
/-! FriezePolygonsModel.isTriangled([I)Z -/
def f_M_isTriangled (m : am_Mm) : Option (Int32 × am_Mm) :=
  (f_M_sizeOf (m.1 67 1) m).bind fun q4 =>
  if q4.1 = ((q4.2.1 67 0) - (3 : Int32)) then
    some ((1 : Int32), q4.2)
  else
    some ((0 : Int32), q4.2)
set_option maxHeartbeats 4000000 in
set_option maxRecDepth 100000 in
theorem f_M_isTriangled_ok {ro : am_Ro} {d : Nat} (hd : 3 ≤ d) {m m' : am_Mm} {r : Int32} (h : f_M_isTriangled  m = some (r, m')) : am_Mt am_nw ro d mr_M_isTriangled [.ref 67] (S0, m) (some (.int r)) (S0, m') := by
  obtain ⟨d, rfl⟩ : ∃ d0, d = d0 + 1 := ⟨d - 1, by omega⟩
  refine am_Mt.of (by decide +kernel) (Nat.le_of_ble_eq_true rfl) ?_
  change am_AW am_nw ro (d + 1) mr_M_isTriangled 0 [some (.ref 67)] [] (S0, m) (some (.int r)) (S0, m')
  unfold f_M_isTriangled at h
  refine am_AW.run am_base_ok ok_M_isTriangled (Nat.le_add_left 1 d) 2 (pc1 := 2) (ls1 := [some (.ref 67)]) (st1 := [.int (1 : Int32), .ref 67]) (σ1 := (S0, m)) rfl ?_
  refine am_AW.iald ok_M_isTriangled (Nat.le_add_left 1 d) S0_len rfl rfl (by decide) ?_
  change am_AW am_nw ro (d + 1) mr_M_isTriangled 3 [some (.ref 67)] [.int (m.1 67 1)] (S0, m) (some (.int r)) (S0, m')
  obtain ⟨q4, hq4, h⟩ := Option.bind_eq_some_iff.mp h
  refine am_AW.callS ok_M_isTriangled am_nw_ok (As := [.int (m.1 67 1)]) (rest := []) rfl rfl rfl oR_M_sizeOf lk_M_198 sT_M_sizeOf rfl (Nat.le_of_ble_eq_true rfl) (f_M_sizeOf_ok (d := d) (by omega) (m.1 67 1) hq4) ?_
  change am_AW am_nw ro (d + 1) mr_M_isTriangled 6 [some (.ref 67)] [.int q4.1] (S0, q4.2) (some (.int r)) (S0, m')
  refine am_AW.run am_base_ok ok_M_isTriangled (Nat.le_add_left 1 d) 2 (pc1 := 8) (ls1 := [some (.ref 67)]) (st1 := [.int (0 : Int32), .ref 67, .int q4.1]) (σ1 := (S0, q4.2)) rfl ?_
  refine am_AW.iald ok_M_isTriangled (Nat.le_add_left 1 d) S0_len rfl rfl (by decide) ?_
  change am_AW am_nw ro (d + 1) mr_M_isTriangled 9 [some (.ref 67)] [.int (q4.2.1 67 0), .int q4.1] (S0, q4.2) (some (.int r)) (S0, m')
  refine am_AW.run am_base_ok ok_M_isTriangled (Nat.le_add_left 1 d) 2 (pc1 := 11) (ls1 := [some (.ref 67)]) (st1 := [.int ((q4.2.1 67 0) - (3 : Int32)), .int q4.1]) (σ1 := (S0, q4.2)) rfl ?_
  refine am_AW.brN ok_M_isTriangled rfl rfl am_c_ne (fun c6 => ?_) (fun c6 => ?_)
  · rw [if_pos c6] at h
    refine am_AW.run am_base_ok ok_M_isTriangled (Nat.le_add_left 1 d) 2 (pc1 := 19) (ls1 := [some (.ref 67)]) (st1 := [.int (1 : Int32)]) (σ1 := (S0, q4.2)) rfl ?_
    obtain ⟨rfl, rfl⟩ := Prod.mk.inj (Option.some.inj h)
    exact am_AW.ret ok_M_isTriangled rfl rfl rfl (by decide)
  · rw [if_neg c6] at h
    refine am_AW.run am_base_ok ok_M_isTriangled (Nat.le_add_left 1 d) 1 (pc1 := 19) (ls1 := [some (.ref 67)]) (st1 := [.int (0 : Int32)]) (σ1 := (S0, q4.2)) rfl ?_
    obtain ⟨rfl, rfl⟩ := Prod.mk.inj (Option.some.inj h)
    exact am_AW.ret ok_M_isTriangled rfl rfl rfl (by decide)
/-! FriezePolygonsModel.kind(I)I -/
def f_M_kind (x1 : Int32) (m : am_Mm) : Option (Int32 × am_Mm) :=
  (f_M_isCorner x1 m).bind fun q3 =>
  if q3.1 = (0 : Int32) then
    some ((-1000001 : Int32), q3.2)
  else
    (f_M_kindOf 67 x1 q3.2).bind fun q7 =>
    some (q7.1, q7.2)
set_option maxHeartbeats 4000000 in
set_option maxRecDepth 100000 in
theorem f_M_kind_ok {ro : am_Ro} {d : Nat} (hd : 3 ≤ d) (x1 : Int32) {m m' : am_Mm} {r : Int32} (h : f_M_kind x1 m = some (r, m')) : am_Mt am_nw ro d mr_M_kind [.ref 63, .int x1] (S0, m) (some (.int r)) (S0, m') := by
  obtain ⟨d, rfl⟩ : ∃ d0, d = d0 + 1 := ⟨d - 1, by omega⟩
  refine am_Mt.of (by decide +kernel) (Nat.le_of_ble_eq_true rfl) ?_
  change am_AW am_nw ro (d + 1) mr_M_kind 0 [some (.ref 63), some (.int x1)] [] (S0, m) (some (.int r)) (S0, m')
  unfold f_M_kind at h
  refine am_AW.run am_base_ok ok_M_kind (Nat.le_add_left 1 d) 2 (pc1 := 2) (ls1 := [some (.ref 63), some (.int x1)]) (st1 := [.int x1, .ref 63]) (σ1 := (S0, m)) rfl ?_
  obtain ⟨q3, hq3, h⟩ := Option.bind_eq_some_iff.mp h
  refine am_AW.callV ok_M_kind am_nw_ok (As := [.int x1]) (rest := []) rfl rfl rfl oR_M_isCorner lk_M_192 iM_M_isCorner sE_M_isCorner (qc := kq10) rfl rfl rfl rfl (Nat.le_of_ble_eq_true rfl) (f_M_isCorner_ok (d := d) (by omega) x1 hq3) ?_
  change am_AW am_nw ro (d + 1) mr_M_kind 5 [some (.ref 63), some (.int x1)] [.int q3.1] (S0, q3.2) (some (.int r)) (S0, m')
  refine am_AW.brP ok_M_kind rfl rfl am_c_eq (fun c4 => ?_) (fun c4 => ?_)
  · rw [if_pos c4] at h
    refine am_AW.run am_base_ok ok_M_kind (Nat.le_add_left 1 d) 1 (pc1 := 21) (ls1 := [some (.ref 63), some (.int x1)]) (st1 := [.int (-1000001 : Int32)]) (σ1 := (S0, q3.2)) rfl ?_
    obtain ⟨rfl, rfl⟩ := Prod.mk.inj (Option.some.inj h)
    exact am_AW.ret ok_M_kind rfl rfl rfl rfl
  · rw [if_neg c4] at h
    refine am_AW.run am_base_ok ok_M_kind (Nat.le_add_left 1 d) 3 (pc1 := 13) (ls1 := [some (.ref 63), some (.int x1)]) (st1 := [.int x1, .ref 67]) (σ1 := (S0, q3.2)) rfl ?_
    obtain ⟨q7, hq7, h⟩ := Option.bind_eq_some_iff.mp h
    refine am_AW.callS ok_M_kind am_nw_ok (As := [.ref 67, .int x1]) (rest := []) rfl rfl rfl oR_M_kindOf lk_M_115 sT_M_kindOf rfl (Nat.le_of_ble_eq_true rfl) (f_M_kindOf_ok (d := d) (by omega) 67 x1 (by simp) hq7) ?_
    change am_AW am_nw ro (d + 1) mr_M_kind 16 [some (.ref 63), some (.int x1)] [.int q7.1] (S0, q7.2) (some (.int r)) (S0, m')
    refine am_AW.run am_base_ok ok_M_kind (Nat.le_add_left 1 d) 1 (pc1 := 21) (ls1 := [some (.ref 63), some (.int x1)]) (st1 := [.int q7.1]) (σ1 := (S0, q7.2)) rfl ?_
    obtain ⟨rfl, rfl⟩ := Prod.mk.inj (Option.some.inj h)
    exact am_AW.ret ok_M_kind rfl rfl rfl rfl
/-! FriezePolygonsModel.as(II)I -/
def f_M_as (x1 : Int32) (x2 : Int32) (m : am_Mm) : Option (Int32 × am_Mm) :=
  (f_M_isCorner x1 m).bind fun q3 =>
  if q3.1 = (0 : Int32) then
    some ((-1000001 : Int32), q3.2)
  else
    (f_M_in (x2.toInt64) (0 : Int64) (5 : Int64) q3.2).bind fun q7 =>
    if q7.1 = (0 : Int32) then
      some ((-1000001 : Int32), q7.2)
    else
      (f_M_kindOf 67 x1 (am_pI q7.2 63 0 (0 : Int32))).bind fun q11 =>
      (f_M_isOf q11.1 x2 q11.2).bind fun q14 =>
      if q14.1 = (0 : Int32) then
        (f_M_finding (3 : Int32) q14.2).bind fun q18 =>
        some (q18.1, q18.2)
      else
        some (x1, q14.2)
set_option maxHeartbeats 4000000 in
set_option maxRecDepth 100000 in
theorem f_M_as_ok {ro : am_Ro} {d : Nat} (hd : 3 ≤ d) (x1 : Int32) (x2 : Int32) {m m' : am_Mm} {r : Int32} (h : f_M_as x1 x2 m = some (r, m')) : am_Mt am_nw ro d mr_M_as [.ref 63, .int x1, .int x2] (S0, m) (some (.int r)) (S0, m') := by
  obtain ⟨d, rfl⟩ : ∃ d0, d = d0 + 1 := ⟨d - 1, by omega⟩
  refine am_Mt.of (by decide +kernel) (Nat.le_of_ble_eq_true rfl) ?_
  change am_AW am_nw ro (d + 1) mr_M_as 0 [some (.ref 63), some (.int x1), some (.int x2)] [] (S0, m) (some (.int r)) (S0, m')
  unfold f_M_as at h
  refine am_AW.run am_base_ok ok_M_as (Nat.le_add_left 1 d) 2 (pc1 := 2) (ls1 := [some (.ref 63), some (.int x1), some (.int x2)]) (st1 := [.int x1, .ref 63]) (σ1 := (S0, m)) rfl ?_
  obtain ⟨q3, hq3, h⟩ := Option.bind_eq_some_iff.mp h
  refine am_AW.callV ok_M_as am_nw_ok (As := [.int x1]) (rest := []) rfl rfl rfl oR_M_isCorner lk_M_192 iM_M_isCorner sE_M_isCorner (qc := kq10) rfl rfl rfl rfl (Nat.le_of_ble_eq_true rfl) (f_M_isCorner_ok (d := d) (by omega) x1 hq3) ?_
  change am_AW am_nw ro (d + 1) mr_M_as 5 [some (.ref 63), some (.int x1), some (.int x2)] [.int q3.1] (S0, q3.2) (some (.int r)) (S0, m')
  refine am_AW.brP ok_M_as rfl rfl am_c_eq (fun c4 => ?_) (fun c4 => ?_)
  · rw [if_pos c4] at h
    refine am_AW.run am_base_ok ok_M_as (Nat.le_add_left 1 d) 1 (pc1 := 22) (ls1 := [some (.ref 63), some (.int x1), some (.int x2)]) (st1 := [.int (-1000001 : Int32)]) (σ1 := (S0, q3.2)) rfl ?_
    obtain ⟨rfl, rfl⟩ := Prod.mk.inj (Option.some.inj h)
    exact am_AW.ret ok_M_as rfl rfl rfl rfl
  · rw [if_neg c4] at h
    refine am_AW.run am_base_ok ok_M_as (Nat.le_add_left 1 d) 4 (pc1 := 14) (ls1 := [some (.ref 63), some (.int x1), some (.int x2)]) (st1 := [.long (5 : Int64), .long (0 : Int64), .long (x2.toInt64)]) (σ1 := (S0, q3.2)) rfl ?_
    obtain ⟨q7, hq7, h⟩ := Option.bind_eq_some_iff.mp h
    refine am_AW.callS ok_M_as am_nw_ok (As := [.long (x2.toInt64), .long (0 : Int64), .long (5 : Int64)]) (rest := []) rfl rfl rfl oR_M_in lk_M_60 sT_M_in rfl (Nat.le_of_ble_eq_true rfl) (f_M_in_ok (d := d) (by omega) (x2.toInt64) (0 : Int64) (5 : Int64) hq7) ?_
    change am_AW am_nw ro (d + 1) mr_M_as 17 [some (.ref 63), some (.int x1), some (.int x2)] [.int q7.1] (S0, q7.2) (some (.int r)) (S0, m')
    refine am_AW.brN ok_M_as rfl rfl am_c_ne (fun c8 => ?_) (fun c8 => ?_)
    · rw [if_pos c8] at h
      refine am_AW.run am_base_ok ok_M_as (Nat.le_add_left 1 d) 1 (pc1 := 22) (ls1 := [some (.ref 63), some (.int x1), some (.int x2)]) (st1 := [.int (-1000001 : Int32)]) (σ1 := (S0, q7.2)) rfl ?_
      obtain ⟨rfl, rfl⟩ := Prod.mk.inj (Option.some.inj h)
      exact am_AW.ret ok_M_as rfl rfl rfl rfl
    · rw [if_neg c8] at h
      refine am_AW.run am_base_ok ok_M_as (Nat.le_add_left 1 d) 2 (pc1 := 25) (ls1 := [some (.ref 63), some (.int x1), some (.int x2)]) (st1 := [.int (0 : Int32), .ref 63]) (σ1 := (S0, q7.2)) rfl ?_
      refine am_AW.puti ok_M_as (Nat.le_add_left 1 d) rfl rfl rfl (qc := kq10) rfl (by decide) ty_10_0 ?_
      refine am_AW.run am_base_ok ok_M_as (Nat.le_add_left 1 d) 3 (pc1 := 33) (ls1 := [some (.ref 63), some (.int x1), some (.int x2)]) (st1 := [.int x1, .ref 67]) (σ1 := (S0, (am_pI q7.2 63 0 (0 : Int32)))) rfl ?_
      obtain ⟨q11, hq11, h⟩ := Option.bind_eq_some_iff.mp h
      refine am_AW.callS ok_M_as am_nw_ok (As := [.ref 67, .int x1]) (rest := []) rfl rfl rfl oR_M_kindOf lk_M_115 sT_M_kindOf rfl (Nat.le_of_ble_eq_true rfl) (f_M_kindOf_ok (d := d) (by omega) 67 x1 (by simp) hq11) ?_
      change am_AW am_nw ro (d + 1) mr_M_as 36 [some (.ref 63), some (.int x1), some (.int x2)] [.int q11.1] (S0, q11.2) (some (.int r)) (S0, m')
      refine am_AW.run am_base_ok ok_M_as (Nat.le_add_left 1 d) 1 (pc1 := 37) (ls1 := [some (.ref 63), some (.int x1), some (.int x2)]) (st1 := [.int x2, .int q11.1]) (σ1 := (S0, q11.2)) rfl ?_
      obtain ⟨q14, hq14, h⟩ := Option.bind_eq_some_iff.mp h
      refine am_AW.callS ok_M_as am_nw_ok (As := [.int q11.1, .int x2]) (rest := []) rfl rfl rfl oR_M_isOf lk_M_321 sT_M_isOf rfl (Nat.le_of_ble_eq_true rfl) (f_M_isOf_ok (d := d) (by omega) q11.1 x2 hq14) ?_
      change am_AW am_nw ro (d + 1) mr_M_as 40 [some (.ref 63), some (.int x1), some (.int x2)] [.int q14.1] (S0, q14.2) (some (.int r)) (S0, m')
      refine am_AW.brP ok_M_as rfl rfl am_c_eq (fun c15 => ?_) (fun c15 => ?_)
      · rw [if_pos c15] at h
        refine am_AW.run am_base_ok ok_M_as (Nat.le_add_left 1 d) 2 (pc1 := 49) (ls1 := [some (.ref 63), some (.int x1), some (.int x2)]) (st1 := [.int (3 : Int32), .ref 63]) (σ1 := (S0, q14.2)) rfl ?_
        obtain ⟨q18, hq18, h⟩ := Option.bind_eq_some_iff.mp h
        refine am_AW.callV ok_M_as am_nw_ok (As := [.int (3 : Int32)]) (rest := []) rfl rfl rfl oR_M_finding lk_M_71 iM_M_finding sE_M_finding (qc := kq10) rfl rfl rfl rfl (Nat.le_of_ble_eq_true rfl) (f_M_finding_ok (d := d) (by omega) (3 : Int32) hq18) ?_
        change am_AW am_nw ro (d + 1) mr_M_as 52 [some (.ref 63), some (.int x1), some (.int x2)] [.int q18.1] (S0, q18.2) (some (.int r)) (S0, m')
        obtain ⟨rfl, rfl⟩ := Prod.mk.inj (Option.some.inj h)
        exact am_AW.ret ok_M_as rfl rfl rfl rfl
      · rw [if_neg c15] at h
        refine am_AW.run am_base_ok ok_M_as (Nat.le_add_left 1 d) 2 (pc1 := 52) (ls1 := [some (.ref 63), some (.int x1), some (.int x2)]) (st1 := [.int x1]) (σ1 := (S0, q14.2)) rfl ?_
        obtain ⟨rfl, rfl⟩ := Prod.mk.inj (Option.some.inj h)
        exact am_AW.ret ok_M_as rfl rfl rfl rfl
/-! FriezePolygons$Asks.sizeOfFixed()I -/
def f_Asks_sizeOfFixed (m : am_Mm) : Option (Int32 × am_Mm) :=
  if (m.1 38 3) = (5 : Int32) then
    (f_Asks_begins (14 : Int32) m).bind fun q4 =>
    (f_Asks_body13 q4).bind fun q7 =>
    some (((2 : Int32) * q7.1), q7.2)
  else
    (f_Asks_body13 m).bind fun q10 =>
    some (q10.1, q10.2)
set_option maxHeartbeats 4000000 in
set_option maxRecDepth 100000 in
theorem f_Asks_sizeOfFixed_ok {ro : am_Ro} {d : Nat} (hd : 4 ≤ d) {m m' : am_Mm} {r : Int32} (h : f_Asks_sizeOfFixed  m = some (r, m')) : am_Mt am_nw ro d mr_Asks_sizeOfFixed [.ref 38] (S0, m) (some (.int r)) (S0, m') := by
  obtain ⟨d, rfl⟩ : ∃ d0, d = d0 + 1 := ⟨d - 1, by omega⟩
  refine am_Mt.of (by decide +kernel) (Nat.le_of_ble_eq_true rfl) ?_
  change am_AW am_nw ro (d + 1) mr_Asks_sizeOfFixed 0 [some (.ref 38)] [] (S0, m) (some (.int r)) (S0, m')
  unfold f_Asks_sizeOfFixed at h
  refine am_AW.run am_base_ok ok_Asks_sizeOfFixed (Nat.le_add_left 1 d) 3 (pc1 := 5) (ls1 := [some (.ref 38)]) (st1 := [.int (5 : Int32), .int (m.1 38 3)]) (σ1 := (S0, m)) rfl ?_
  refine am_AW.brN ok_Asks_sizeOfFixed rfl rfl am_c_ne (fun c1 => ?_) (fun c1 => ?_)
  · rw [if_pos c1] at h
    refine am_AW.run am_base_ok ok_Asks_sizeOfFixed (Nat.le_add_left 1 d) 2 (pc1 := 11) (ls1 := [some (.ref 38)]) (st1 := [.int (14 : Int32), .ref 38]) (σ1 := (S0, m)) rfl ?_
    obtain ⟨q4, hq4, h⟩ := Option.bind_eq_some_iff.mp h
    refine am_AW.callV ok_Asks_sizeOfFixed am_nw_ok (As := [.int (14 : Int32)]) (rest := []) rfl rfl rfl oR_Asks_begins lk_Asks_31 iM_Asks_begins sE_Asks_begins (qc := kq1) rfl rfl rfl rfl (Nat.le_of_ble_eq_true rfl) (f_Asks_begins_ok (d := d) (by omega) (14 : Int32) hq4) ?_
    change am_AW am_nw ro (d + 1) mr_Asks_sizeOfFixed 14 [some (.ref 38)] [] (S0, q4) (some (.int r)) (S0, m')
    refine am_AW.run am_base_ok ok_Asks_sizeOfFixed (Nat.le_add_left 1 d) 2 (pc1 := 16) (ls1 := [some (.ref 38)]) (st1 := [.ref 38, .int (2 : Int32)]) (σ1 := (S0, q4)) rfl ?_
    obtain ⟨q7, hq7, h⟩ := Option.bind_eq_some_iff.mp h
    refine am_AW.callV ok_Asks_sizeOfFixed am_nw_ok (As := []) (rest := [.int (2 : Int32)]) rfl rfl rfl oR_Asks_body13 lk_Asks_48 iM_Asks_body13 sE_Asks_body13 (qc := kq1) rfl rfl rfl rfl (Nat.le_of_ble_eq_true rfl) (f_Asks_body13_ok (d := d) (by omega)  hq7) ?_
    change am_AW am_nw ro (d + 1) mr_Asks_sizeOfFixed 19 [some (.ref 38)] [.int q7.1, .int (2 : Int32)] (S0, q7.2) (some (.int r)) (S0, m')
    refine am_AW.run am_base_ok ok_Asks_sizeOfFixed (Nat.le_add_left 1 d) 1 (pc1 := 20) (ls1 := [some (.ref 38)]) (st1 := [.int ((2 : Int32) * q7.1)]) (σ1 := (S0, q7.2)) rfl ?_
    obtain ⟨rfl, rfl⟩ := Prod.mk.inj (Option.some.inj h)
    exact am_AW.ret ok_Asks_sizeOfFixed rfl rfl rfl rfl
  · rw [if_neg c1] at h
    refine am_AW.run am_base_ok ok_Asks_sizeOfFixed (Nat.le_add_left 1 d) 1 (pc1 := 22) (ls1 := [some (.ref 38)]) (st1 := [.ref 38]) (σ1 := (S0, m)) rfl ?_
    obtain ⟨q10, hq10, h⟩ := Option.bind_eq_some_iff.mp h
    refine am_AW.callV ok_Asks_sizeOfFixed am_nw_ok (As := []) (rest := []) rfl rfl rfl oR_Asks_body13 lk_Asks_48 iM_Asks_body13 sE_Asks_body13 (qc := kq1) rfl rfl rfl rfl (Nat.le_of_ble_eq_true rfl) (f_Asks_body13_ok (d := d) (by omega)  hq10) ?_
    change am_AW am_nw ro (d + 1) mr_Asks_sizeOfFixed 25 [some (.ref 38)] [.int q10.1] (S0, q10.2) (some (.int r)) (S0, m')
    obtain ⟨rfl, rfl⟩ := Prod.mk.inj (Option.some.inj h)
    exact am_AW.ret ok_Asks_sizeOfFixed rfl rfl rfl rfl
/-! FriezePolygons$Asks.markOfPlain()I -/
def f_Asks_markOfPlain (m : am_Mm) : Option (Int32 × am_Mm) :=
  if (m.1 38 3) = (2 : Int32) then
    (f_Asks_begins (24 : Int32) m).bind fun q4 =>
    (f_Asks_body21 q4).bind fun q7 =>
    some (((2 : Int32) * q7.1), q7.2)
  else
    if (m.1 38 3) = (3 : Int32) then
      (f_Asks_begins (22 : Int32) m).bind fun q11 =>
      (f_Asks_body21 q11).bind fun q14 =>
      some ((q14.1 - (1000 : Int32)), q14.2)
    else
      (f_Asks_body21 m).bind fun q17 =>
      some (q17.1, q17.2)
set_option maxHeartbeats 4000000 in
set_option maxRecDepth 100000 in
theorem f_Asks_markOfPlain_ok {ro : am_Ro} {d : Nat} (hd : 4 ≤ d) {m m' : am_Mm} {r : Int32} (h : f_Asks_markOfPlain  m = some (r, m')) : am_Mt am_nw ro d mr_Asks_markOfPlain [.ref 38] (S0, m) (some (.int r)) (S0, m') := by
  obtain ⟨d, rfl⟩ : ∃ d0, d = d0 + 1 := ⟨d - 1, by omega⟩
  refine am_Mt.of (by decide +kernel) (Nat.le_of_ble_eq_true rfl) ?_
  change am_AW am_nw ro (d + 1) mr_Asks_markOfPlain 0 [some (.ref 38)] [] (S0, m) (some (.int r)) (S0, m')
  unfold f_Asks_markOfPlain at h
  refine am_AW.run am_base_ok ok_Asks_markOfPlain (Nat.le_add_left 1 d) 2 (pc1 := 4) (ls1 := [some (.ref 38)]) (st1 := [.int (m.1 38 3)]) (σ1 := (S0, m)) rfl ?_
  by_cases c1 : (m.1 38 3) = (2 : Int32)
  · rw [if_pos c1] at h
    refine am_AW.sw ok_Asks_markOfPlain rfl (t := 32) (by rw [c1]; decide +kernel) ?_
    refine am_AW.run am_base_ok ok_Asks_markOfPlain (Nat.le_add_left 1 d) 2 (pc1 := 35) (ls1 := [some (.ref 38)]) (st1 := [.int (24 : Int32), .ref 38]) (σ1 := (S0, m)) rfl ?_
    obtain ⟨q4, hq4, h⟩ := Option.bind_eq_some_iff.mp h
    refine am_AW.callV ok_Asks_markOfPlain am_nw_ok (As := [.int (24 : Int32)]) (rest := []) rfl rfl rfl oR_Asks_begins lk_Asks_31 iM_Asks_begins sE_Asks_begins (qc := kq1) rfl rfl rfl rfl (Nat.le_of_ble_eq_true rfl) (f_Asks_begins_ok (d := d) (by omega) (24 : Int32) hq4) ?_
    change am_AW am_nw ro (d + 1) mr_Asks_markOfPlain 38 [some (.ref 38)] [] (S0, q4) (some (.int r)) (S0, m')
    refine am_AW.run am_base_ok ok_Asks_markOfPlain (Nat.le_add_left 1 d) 2 (pc1 := 40) (ls1 := [some (.ref 38)]) (st1 := [.ref 38, .int (2 : Int32)]) (σ1 := (S0, q4)) rfl ?_
    obtain ⟨q7, hq7, h⟩ := Option.bind_eq_some_iff.mp h
    refine am_AW.callV ok_Asks_markOfPlain am_nw_ok (As := []) (rest := [.int (2 : Int32)]) rfl rfl rfl oR_Asks_body21 lk_Asks_51 iM_Asks_body21 sE_Asks_body21 (qc := kq1) rfl rfl rfl rfl (Nat.le_of_ble_eq_true rfl) (f_Asks_body21_ok (d := d) (by omega)  hq7) ?_
    change am_AW am_nw ro (d + 1) mr_Asks_markOfPlain 43 [some (.ref 38)] [.int q7.1, .int (2 : Int32)] (S0, q7.2) (some (.int r)) (S0, m')
    refine am_AW.run am_base_ok ok_Asks_markOfPlain (Nat.le_add_left 1 d) 1 (pc1 := 44) (ls1 := [some (.ref 38)]) (st1 := [.int ((2 : Int32) * q7.1)]) (σ1 := (S0, q7.2)) rfl ?_
    obtain ⟨rfl, rfl⟩ := Prod.mk.inj (Option.some.inj h)
    exact am_AW.ret ok_Asks_markOfPlain rfl rfl rfl rfl
  rw [if_neg c1] at h
  by_cases c8 : (m.1 38 3) = (3 : Int32)
  · rw [if_pos c8] at h
    refine am_AW.sw ok_Asks_markOfPlain rfl (t := 45) (by rw [c8]; decide +kernel) ?_
    refine am_AW.run am_base_ok ok_Asks_markOfPlain (Nat.le_add_left 1 d) 2 (pc1 := 48) (ls1 := [some (.ref 38)]) (st1 := [.int (22 : Int32), .ref 38]) (σ1 := (S0, m)) rfl ?_
    obtain ⟨q11, hq11, h⟩ := Option.bind_eq_some_iff.mp h
    refine am_AW.callV ok_Asks_markOfPlain am_nw_ok (As := [.int (22 : Int32)]) (rest := []) rfl rfl rfl oR_Asks_begins lk_Asks_31 iM_Asks_begins sE_Asks_begins (qc := kq1) rfl rfl rfl rfl (Nat.le_of_ble_eq_true rfl) (f_Asks_begins_ok (d := d) (by omega) (22 : Int32) hq11) ?_
    change am_AW am_nw ro (d + 1) mr_Asks_markOfPlain 51 [some (.ref 38)] [] (S0, q11) (some (.int r)) (S0, m')
    refine am_AW.run am_base_ok ok_Asks_markOfPlain (Nat.le_add_left 1 d) 1 (pc1 := 52) (ls1 := [some (.ref 38)]) (st1 := [.ref 38]) (σ1 := (S0, q11)) rfl ?_
    obtain ⟨q14, hq14, h⟩ := Option.bind_eq_some_iff.mp h
    refine am_AW.callV ok_Asks_markOfPlain am_nw_ok (As := []) (rest := []) rfl rfl rfl oR_Asks_body21 lk_Asks_51 iM_Asks_body21 sE_Asks_body21 (qc := kq1) rfl rfl rfl rfl (Nat.le_of_ble_eq_true rfl) (f_Asks_body21_ok (d := d) (by omega)  hq14) ?_
    change am_AW am_nw ro (d + 1) mr_Asks_markOfPlain 55 [some (.ref 38)] [.int q14.1] (S0, q14.2) (some (.int r)) (S0, m')
    refine am_AW.run am_base_ok ok_Asks_markOfPlain (Nat.le_add_left 1 d) 2 (pc1 := 59) (ls1 := [some (.ref 38)]) (st1 := [.int (q14.1 - (1000 : Int32))]) (σ1 := (S0, q14.2)) rfl ?_
    obtain ⟨rfl, rfl⟩ := Prod.mk.inj (Option.some.inj h)
    exact am_AW.ret ok_Asks_markOfPlain rfl rfl rfl rfl
  rw [if_neg c8] at h
  refine am_AW.sw ok_Asks_markOfPlain rfl (t := 60) (am_lsw (off := 56) (by decide +kernel) ((lv_osw c1 (by decide)).trans ((lv_osw c8 (by decide)).trans (rfl))) (by decide) (by decide)) ?_
  refine am_AW.run am_base_ok ok_Asks_markOfPlain (Nat.le_add_left 1 d) 1 (pc1 := 61) (ls1 := [some (.ref 38)]) (st1 := [.ref 38]) (σ1 := (S0, m)) rfl ?_
  obtain ⟨q17, hq17, h⟩ := Option.bind_eq_some_iff.mp h
  refine am_AW.callV ok_Asks_markOfPlain am_nw_ok (As := []) (rest := []) rfl rfl rfl oR_Asks_body21 lk_Asks_51 iM_Asks_body21 sE_Asks_body21 (qc := kq1) rfl rfl rfl rfl (Nat.le_of_ble_eq_true rfl) (f_Asks_body21_ok (d := d) (by omega)  hq17) ?_
  change am_AW am_nw ro (d + 1) mr_Asks_markOfPlain 64 [some (.ref 38)] [.int q17.1] (S0, q17.2) (some (.int r)) (S0, m')
  obtain ⟨rfl, rfl⟩ := Prod.mk.inj (Option.some.inj h)
  exact am_AW.ret ok_Asks_markOfPlain rfl rfl rfl rfl
/-! FriezePolygons$Ears.cutsOf(LFriezePolygons$Row;ILFriezePolygons$Ring;)I -/
def f_Ears_cutsOf_b60 : Nat → Int32 → Int32 → am_Mm → Option (Int32 × am_Mm)
  | 0, _, _, _ => none
  | n + 1, x4, x5, m =>
    if ((m.1 33 2) - (3 : Int32)) ≤ x5 then
      (f_Ears_isThreeOnes m).bind fun q5 =>
      if q5.1 = (0 : Int32) then
        some ((-1 : Int32), q5.2)
      else
        some (x4, q5.2)
    else
      (f_Ears_firstEar m).bind fun q9 =>
      if (0 : Int32) ≤ q9.1 then
        (f_Ears_beside q9.1 (((am_pI q9.2 33 1 ((q9.2.1 33 1) &&& ((am_shl (1 : Int32) q9.1) ^^^ (-1 : Int32)))).1 33 2) - (1 : Int32)) (am_pI q9.2 33 1 ((q9.2.1 33 1) &&& ((am_shl (1 : Int32) q9.1) ^^^ (-1 : Int32))))).bind fun q13 =>
        (f_Ears_beside q9.1 (1 : Int32) q13.2).bind fun q16 =>
        (f_Ears_countsLess q13.1 q16.2).bind fun q19 =>
        if q19.1 = (0 : Int32) then
          some ((-1 : Int32), q19.2)
        else
          (f_Ears_countsLess q16.1 q19.2).bind fun q23 =>
          if q23.1 = (0 : Int32) then
            some ((-1 : Int32), q23.2)
          else
            (f_Ring_bitOf q13.1 q16.1 q23.2).bind fun q27 =>
            f_Ears_cutsOf_b60 n (x4 ||| q27.1) (x5 + (1 : Int32)) q27.2
      else
        some ((-1 : Int32), q9.2)
def f_Ears_cutsOf_b23 : Nat → Nat → Int32 → Int32 → am_Mm → Option (Int32 × am_Mm)
  | 0, _, _, _, _ => none
  | n + 1, p1, x2, x4, m =>
    if (m.1 33 2) ≤ x4 then
      f_Ears_cutsOf_b60 am_F (0 : Int32) (0 : Int32) m
    else
      (f_Row_itemAt p1 (x2 + x4) m).bind fun q30 =>
      if am_in x4 9 = true then
        f_Ears_cutsOf_b23 n p1 x2 (x4 + (1 : Int32)) (am_pL q30.2 34 x4.toNatClampNeg (q30.1.toInt64))
      else none
def f_Ears_cutsOf (p1 : Nat) (x2 : Int32) (m : am_Mm) : Option (Int32 × am_Mm) :=
  f_Ears_cutsOf_b23 am_F p1 x2 (0 : Int32) (am_pI (am_pI m 33 2 (m.1 20 5)) 33 1 ((am_shl (1 : Int32) ((am_pI m 33 2 (m.1 20 5)).1 33 2)) - (1 : Int32)))
set_option maxHeartbeats 4000000 in
set_option maxRecDepth 100000 in
theorem f_Ears_cutsOf_b60_all {ro : am_Ro} {d : Nat} (hd : 4 ≤ d + 1) : ∀ (n : Nat) (x4 : Int32) (x5 : Int32) (m m' : am_Mm) (r : Int32), f_Ears_cutsOf_b60 n x4 x5 m = some (r, m') → am_AW am_nw ro (d + 1) mr_Ears_cutsOf 60 [some (.ref 33), none, none, some (.ref 20), some (.int x4), some (.int x5), none, none, none] [] (S0, m) (some (.int r)) (S0, m') := by
  intro n
  induction n with
  | zero =>
    intro x4 x5 m m' r h
    rw [f_Ears_cutsOf_b60] at h
    cases h
  | succ n ih =>
    intro x4 x5 m m' r h
    rw [f_Ears_cutsOf_b60] at h
    refine am_AW.run am_base_ok ok_Ears_cutsOf (Nat.le_add_left 1 d) 5 (pc1 := 68) (ls1 := [some (.ref 33), none, none, some (.ref 20), some (.int x4), some (.int x5), none, none, none]) (st1 := [.int ((m.1 33 2) - (3 : Int32)), .int x5]) (σ1 := (S0, m)) rfl ?_
    refine am_AW.brP ok_Ears_cutsOf rfl rfl am_c_ge (fun c2 => ?_) (fun c2 => ?_)
    · rw [if_pos c2] at h
      refine am_AW.run am_base_ok ok_Ears_cutsOf (Nat.le_add_left 1 d) 1 (pc1 := 162) (ls1 := [some (.ref 33), none, none, some (.ref 20), some (.int x4), some (.int x5), none, none, none]) (st1 := [.ref 33]) (σ1 := (S0, m)) rfl ?_
      obtain ⟨q5, hq5, h⟩ := Option.bind_eq_some_iff.mp h
      refine am_AW.callV ok_Ears_cutsOf am_nw_ok (As := []) (rest := []) rfl rfl rfl oR_Ears_isThreeOnes lk_Ears_46 iM_Ears_isThreeOnes sE_Ears_isThreeOnes (qc := kq2) rfl rfl rfl rfl (Nat.le_of_ble_eq_true rfl) (f_Ears_isThreeOnes_ok (d := d) (by omega)  hq5) ?_
      change am_AW am_nw ro (d + 1) mr_Ears_cutsOf 165 [some (.ref 33), none, none, some (.ref 20), some (.int x4), some (.int x5), none, none, none] [.int q5.1] (S0, q5.2) (some (.int r)) (S0, m')
      refine am_AW.brP ok_Ears_cutsOf rfl rfl am_c_eq (fun c6 => ?_) (fun c6 => ?_)
      · rw [if_pos c6] at h
        refine am_AW.run am_base_ok ok_Ears_cutsOf (Nat.le_add_left 1 d) 1 (pc1 := 174) (ls1 := [some (.ref 33), none, none, some (.ref 20), some (.int x4), some (.int x5), none, none, none]) (st1 := [.int (-1 : Int32)]) (σ1 := (S0, q5.2)) rfl ?_
        obtain ⟨rfl, rfl⟩ := Prod.mk.inj (Option.some.inj h)
        exact am_AW.ret ok_Ears_cutsOf rfl rfl rfl rfl
      · rw [if_neg c6] at h
        refine am_AW.run am_base_ok ok_Ears_cutsOf (Nat.le_add_left 1 d) 2 (pc1 := 174) (ls1 := [some (.ref 33), none, none, some (.ref 20), some (.int x4), some (.int x5), none, none, none]) (st1 := [.int x4]) (σ1 := (S0, q5.2)) rfl ?_
        obtain ⟨rfl, rfl⟩ := Prod.mk.inj (Option.some.inj h)
        exact am_AW.ret ok_Ears_cutsOf rfl rfl rfl rfl
    · rw [if_neg c2] at h
      refine am_AW.run am_base_ok ok_Ears_cutsOf (Nat.le_add_left 1 d) 1 (pc1 := 72) (ls1 := [some (.ref 33), none, none, some (.ref 20), some (.int x4), some (.int x5), none, none, none]) (st1 := [.ref 33]) (σ1 := (S0, m)) rfl ?_
      obtain ⟨q9, hq9, h⟩ := Option.bind_eq_some_iff.mp h
      refine am_AW.callV ok_Ears_cutsOf am_nw_ok (As := []) (rest := []) rfl rfl rfl oR_Ears_firstEar lk_Ears_31 iM_Ears_firstEar sE_Ears_firstEar (qc := kq2) rfl rfl rfl rfl (Nat.le_of_ble_eq_true rfl) (f_Ears_firstEar_ok (d := d) (by omega)  hq9) ?_
      change am_AW am_nw ro (d + 1) mr_Ears_cutsOf 75 [some (.ref 33), none, none, some (.ref 20), some (.int x4), some (.int x5), none, none, none] [.int q9.1] (S0, q9.2) (some (.int r)) (S0, m')
      refine am_AW.run am_base_ok ok_Ears_cutsOf (Nat.le_add_left 1 d) 2 (pc1 := 79) (ls1 := [some (.ref 33), none, none, some (.ref 20), some (.int x4), some (.int x5), some (.int q9.1), none, none]) (st1 := [.int q9.1]) (σ1 := (S0, q9.2)) rfl ?_
      refine am_AW.brP ok_Ears_cutsOf rfl rfl am_c_ge (fun c10 => ?_) (fun c10 => ?_)
      · rw [if_pos c10] at h
        refine am_AW.run am_base_ok ok_Ears_cutsOf (Nat.le_add_left 1 d) 9 (pc1 := 96) (ls1 := [some (.ref 33), none, none, some (.ref 20), some (.int x4), some (.int x5), some (.int q9.1), none, none]) (st1 := [.int ((q9.2.1 33 1) &&& ((am_shl (1 : Int32) q9.1) ^^^ (-1 : Int32))), .ref 33]) (σ1 := (S0, q9.2)) rfl ?_
        refine am_AW.puti ok_Ears_cutsOf (Nat.le_add_left 1 d) rfl rfl rfl (qc := kq2) rfl (by decide) ty_2_1 ?_
        refine am_AW.run am_base_ok ok_Ears_cutsOf (Nat.le_add_left 1 d) 6 (pc1 := 108) (ls1 := [some (.ref 33), none, none, some (.ref 20), some (.int x4), some (.int x5), some (.int q9.1), none, none]) (st1 := [.int (((am_pI q9.2 33 1 ((q9.2.1 33 1) &&& ((am_shl (1 : Int32) q9.1) ^^^ (-1 : Int32)))).1 33 2) - (1 : Int32)), .int q9.1, .ref 33]) (σ1 := (S0, (am_pI q9.2 33 1 ((q9.2.1 33 1) &&& ((am_shl (1 : Int32) q9.1) ^^^ (-1 : Int32)))))) rfl ?_
        obtain ⟨q13, hq13, h⟩ := Option.bind_eq_some_iff.mp h
        refine am_AW.callV ok_Ears_cutsOf am_nw_ok (As := [.int q9.1, .int (((am_pI q9.2 33 1 ((q9.2.1 33 1) &&& ((am_shl (1 : Int32) q9.1) ^^^ (-1 : Int32)))).1 33 2) - (1 : Int32))]) (rest := []) rfl rfl rfl oR_Ears_beside lk_Ears_35 iM_Ears_beside sE_Ears_beside (qc := kq2) rfl rfl rfl rfl (Nat.le_of_ble_eq_true rfl) (f_Ears_beside_ok (d := d) (by omega) q9.1 (((am_pI q9.2 33 1 ((q9.2.1 33 1) &&& ((am_shl (1 : Int32) q9.1) ^^^ (-1 : Int32)))).1 33 2) - (1 : Int32)) hq13) ?_
        change am_AW am_nw ro (d + 1) mr_Ears_cutsOf 111 [some (.ref 33), none, none, some (.ref 20), some (.int x4), some (.int x5), some (.int q9.1), none, none] [.int q13.1] (S0, q13.2) (some (.int r)) (S0, m')
        refine am_AW.run am_base_ok ok_Ears_cutsOf (Nat.le_add_left 1 d) 4 (pc1 := 117) (ls1 := [some (.ref 33), none, none, some (.ref 20), some (.int x4), some (.int x5), some (.int q9.1), some (.int q13.1), none]) (st1 := [.int (1 : Int32), .int q9.1, .ref 33]) (σ1 := (S0, q13.2)) rfl ?_
        obtain ⟨q16, hq16, h⟩ := Option.bind_eq_some_iff.mp h
        refine am_AW.callV ok_Ears_cutsOf am_nw_ok (As := [.int q9.1, .int (1 : Int32)]) (rest := []) rfl rfl rfl oR_Ears_beside lk_Ears_35 iM_Ears_beside sE_Ears_beside (qc := kq2) rfl rfl rfl rfl (Nat.le_of_ble_eq_true rfl) (f_Ears_beside_ok (d := d) (by omega) q9.1 (1 : Int32) hq16) ?_
        change am_AW am_nw ro (d + 1) mr_Ears_cutsOf 120 [some (.ref 33), none, none, some (.ref 20), some (.int x4), some (.int x5), some (.int q9.1), some (.int q13.1), none] [.int q16.1] (S0, q16.2) (some (.int r)) (S0, m')
        refine am_AW.run am_base_ok ok_Ears_cutsOf (Nat.le_add_left 1 d) 3 (pc1 := 125) (ls1 := [some (.ref 33), none, none, some (.ref 20), some (.int x4), some (.int x5), some (.int q9.1), some (.int q13.1), some (.int q16.1)]) (st1 := [.int q13.1, .ref 33]) (σ1 := (S0, q16.2)) rfl ?_
        obtain ⟨q19, hq19, h⟩ := Option.bind_eq_some_iff.mp h
        refine am_AW.callV ok_Ears_cutsOf am_nw_ok (As := [.int q13.1]) (rest := []) rfl rfl rfl oR_Ears_countsLess lk_Ears_39 iM_Ears_countsLess sE_Ears_countsLess (qc := kq2) rfl rfl rfl rfl (Nat.le_of_ble_eq_true rfl) (f_Ears_countsLess_ok (d := d) (by omega) q13.1 hq19) ?_
        change am_AW am_nw ro (d + 1) mr_Ears_cutsOf 128 [some (.ref 33), none, none, some (.ref 20), some (.int x4), some (.int x5), some (.int q9.1), some (.int q13.1), some (.int q16.1)] [.int q19.1] (S0, q19.2) (some (.int r)) (S0, m')
        refine am_AW.brP ok_Ears_cutsOf rfl rfl am_c_eq (fun c20 => ?_) (fun c20 => ?_)
        · rw [if_pos c20] at h
          refine am_AW.run am_base_ok ok_Ears_cutsOf (Nat.le_add_left 1 d) 1 (pc1 := 141) (ls1 := [some (.ref 33), none, none, some (.ref 20), some (.int x4), some (.int x5), some (.int q9.1), some (.int q13.1), some (.int q16.1)]) (st1 := [.int (-1 : Int32)]) (σ1 := (S0, q19.2)) rfl ?_
          obtain ⟨rfl, rfl⟩ := Prod.mk.inj (Option.some.inj h)
          exact am_AW.ret ok_Ears_cutsOf rfl rfl rfl rfl
        · rw [if_neg c20] at h
          refine am_AW.run am_base_ok ok_Ears_cutsOf (Nat.le_add_left 1 d) 2 (pc1 := 134) (ls1 := [some (.ref 33), none, none, some (.ref 20), some (.int x4), some (.int x5), some (.int q9.1), some (.int q13.1), some (.int q16.1)]) (st1 := [.int q16.1, .ref 33]) (σ1 := (S0, q19.2)) rfl ?_
          obtain ⟨q23, hq23, h⟩ := Option.bind_eq_some_iff.mp h
          refine am_AW.callV ok_Ears_cutsOf am_nw_ok (As := [.int q16.1]) (rest := []) rfl rfl rfl oR_Ears_countsLess lk_Ears_39 iM_Ears_countsLess sE_Ears_countsLess (qc := kq2) rfl rfl rfl rfl (Nat.le_of_ble_eq_true rfl) (f_Ears_countsLess_ok (d := d) (by omega) q16.1 hq23) ?_
          change am_AW am_nw ro (d + 1) mr_Ears_cutsOf 137 [some (.ref 33), none, none, some (.ref 20), some (.int x4), some (.int x5), some (.int q9.1), some (.int q13.1), some (.int q16.1)] [.int q23.1] (S0, q23.2) (some (.int r)) (S0, m')
          refine am_AW.brN ok_Ears_cutsOf rfl rfl am_c_ne (fun c24 => ?_) (fun c24 => ?_)
          · rw [if_pos c24] at h
            refine am_AW.run am_base_ok ok_Ears_cutsOf (Nat.le_add_left 1 d) 1 (pc1 := 141) (ls1 := [some (.ref 33), none, none, some (.ref 20), some (.int x4), some (.int x5), some (.int q9.1), some (.int q13.1), some (.int q16.1)]) (st1 := [.int (-1 : Int32)]) (σ1 := (S0, q23.2)) rfl ?_
            obtain ⟨rfl, rfl⟩ := Prod.mk.inj (Option.some.inj h)
            exact am_AW.ret ok_Ears_cutsOf rfl rfl rfl rfl
          · rw [if_neg c24] at h
            refine am_AW.run am_base_ok ok_Ears_cutsOf (Nat.le_add_left 1 d) 4 (pc1 := 149) (ls1 := [some (.ref 33), none, none, some (.ref 20), some (.int x4), some (.int x5), some (.int q9.1), some (.int q13.1), some (.int q16.1)]) (st1 := [.int q16.1, .int q13.1, .ref 20, .int x4]) (σ1 := (S0, q23.2)) rfl ?_
            obtain ⟨q27, hq27, h⟩ := Option.bind_eq_some_iff.mp h
            refine am_AW.callV ok_Ears_cutsOf am_nw_ok (As := [.int q13.1, .int q16.1]) (rest := [.int x4]) rfl rfl rfl oR_Ring_bitOf lk_Ears_43 iM_Ring_bitOf sE_Ring_bitOf (qc := kq6) rfl rfl rfl rfl (Nat.le_of_ble_eq_true rfl) (f_Ring_bitOf_ok (d := d) (by omega) q13.1 q16.1 hq27) ?_
            change am_AW am_nw ro (d + 1) mr_Ears_cutsOf 152 [some (.ref 33), none, none, some (.ref 20), some (.int x4), some (.int x5), some (.int q9.1), some (.int q13.1), some (.int q16.1)] [.int q27.1, .int x4] (S0, q27.2) (some (.int r)) (S0, m')
            refine am_AW.run am_base_ok ok_Ears_cutsOf (Nat.le_add_left 1 d) 4 (pc1 := 60) (ls1 := [some (.ref 33), none, none, some (.ref 20), some (.int (x4 ||| q27.1)), some (.int (x5 + (1 : Int32))), some (.int q9.1), some (.int q13.1), some (.int q16.1)]) (st1 := []) (σ1 := (S0, q27.2)) rfl ?_
            exact am_AW.weak (ih (x4 ||| q27.1) (x5 + (1 : Int32))  _ _ _ h) (by simp only [am_le, and_self])
      · rw [if_neg c10] at h
        refine am_AW.run am_base_ok ok_Ears_cutsOf (Nat.le_add_left 1 d) 1 (pc1 := 83) (ls1 := [some (.ref 33), none, none, some (.ref 20), some (.int x4), some (.int x5), some (.int q9.1), none, none]) (st1 := [.int (-1 : Int32)]) (σ1 := (S0, q9.2)) rfl ?_
        obtain ⟨rfl, rfl⟩ := Prod.mk.inj (Option.some.inj h)
        exact am_AW.ret ok_Ears_cutsOf rfl rfl rfl rfl
set_option maxHeartbeats 4000000 in
set_option maxRecDepth 100000 in
theorem f_Ears_cutsOf_b60_ok {ro : am_Ro} {d : Nat} (hd : 4 ≤ d + 1) (x4 : Int32) (x5 : Int32) {m m' : am_Mm} {r : Int32} {n : Nat} (h : f_Ears_cutsOf_b60 n x4 x5 m = some (r, m')) : am_AW am_nw ro (d + 1) mr_Ears_cutsOf 60 [some (.ref 33), none, none, some (.ref 20), some (.int x4), some (.int x5), none, none, none] [] (S0, m) (some (.int r)) (S0, m') :=
  f_Ears_cutsOf_b60_all hd n x4 x5  m m' r h
set_option maxHeartbeats 4000000 in
set_option maxRecDepth 100000 in
theorem f_Ears_cutsOf_b23_all {ro : am_Ro} {d : Nat} (hd : 4 ≤ d + 1) : ∀ (n : Nat) (p1 : Nat) (x2 : Int32) (x4 : Int32) (hp1 : p1 = 41 ∨ p1 = 43 ∨ p1 = 45 ∨ p1 = 47 ∨ p1 = 49 ∨ p1 = 51 ∨ p1 = 53 ∨ p1 = 55) (m m' : am_Mm) (r : Int32), f_Ears_cutsOf_b23 n p1 x2 x4 m = some (r, m') → am_AW am_nw ro (d + 1) mr_Ears_cutsOf 23 [some (.ref 33), some (.ref p1), some (.int x2), some (.ref 20), some (.int x4), none, none, none, none] [] (S0, m) (some (.int r)) (S0, m') := by
  intro n
  induction n with
  | zero =>
    intro p1 x2 x4 hp1 m m' r h
    rw [f_Ears_cutsOf_b23] at h
    cases h
  | succ n ih =>
    intro p1 x2 x4 hp1 m m' r h
    rw [f_Ears_cutsOf_b23] at h
    refine am_AW.run am_base_ok ok_Ears_cutsOf (Nat.le_add_left 1 d) 3 (pc1 := 29) (ls1 := [some (.ref 33), some (.ref p1), some (.int x2), some (.ref 20), some (.int x4), none, none, none, none]) (st1 := [.int (m.1 33 2), .int x4]) (σ1 := (S0, m)) rfl ?_
    refine am_AW.brP ok_Ears_cutsOf rfl rfl am_c_ge (fun c1 => ?_) (fun c1 => ?_)
    · rw [if_pos c1] at h
      refine am_AW.run am_base_ok ok_Ears_cutsOf (Nat.le_add_left 1 d) 4 (pc1 := 60) (ls1 := [some (.ref 33), some (.ref p1), some (.int x2), some (.ref 20), some (.int (0 : Int32)), some (.int (0 : Int32)), none, none, none]) (st1 := []) (σ1 := (S0, m)) rfl ?_
      exact am_AW.weak (f_Ears_cutsOf_b60_ok hd (0 : Int32) (0 : Int32)  h) (by simp only [am_le, and_self])
    · rw [if_neg c1] at h
      refine am_AW.run am_base_ok ok_Ears_cutsOf (Nat.le_add_left 1 d) 7 (pc1 := 43) (ls1 := [some (.ref 33), some (.ref p1), some (.int x2), some (.ref 20), some (.int x4), none, none, none, none]) (st1 := [.int (x2 + x4), .ref p1, .int x4, .ref 34]) (σ1 := (S0, m)) rfl ?_
      obtain ⟨q30, hq30, h⟩ := Option.bind_eq_some_iff.mp h
      refine am_AW.callV ok_Ears_cutsOf am_nw_ok (As := [.int (x2 + x4)]) (rest := [.int x4, .ref 34]) rfl rfl rfl oR_Row_itemAt lk_Ears_25 iM_Row_itemAt sE_Row_itemAt (qc := kq7) (sh_41_43_45_47_49_51_53_55_0 hp1) rfl rfl rfl (Nat.le_of_ble_eq_true rfl) (f_Row_itemAt_ok (d := d) (by omega) p1 (x2 + x4) hp1 hq30) ?_
      change am_AW am_nw ro (d + 1) mr_Ears_cutsOf 46 [some (.ref 33), some (.ref p1), some (.int x2), some (.ref 20), some (.int x4), none, none, none, none] [.int q30.1, .int x4, .ref 34] (S0, q30.2) (some (.int r)) (S0, m')
      refine am_AW.run am_base_ok ok_Ears_cutsOf (Nat.le_add_left 1 d) 1 (pc1 := 47) (ls1 := [some (.ref 33), some (.ref p1), some (.int x2), some (.ref 20), some (.int x4), none, none, none, none]) (st1 := [.long (q30.1.toInt64), .int x4, .ref 34]) (σ1 := (S0, q30.2)) rfl ?_
      by_cases g31 : am_in x4 9 = true
      rotate_left
      · rw [if_neg g31] at h
        cases h
      rw [if_pos g31] at h
      refine am_AW.last ok_Ears_cutsOf (Nat.le_add_left 1 d) rfl rfl g31 ?_
      change am_AW am_nw ro (d + 1) mr_Ears_cutsOf 48 [some (.ref 33), some (.ref p1), some (.int x2), some (.ref 20), some (.int x4), none, none, none, none] [] (S0, (am_pL q30.2 34 x4.toNatClampNeg (q30.1.toInt64))) (some (.int r)) (S0, m')
      refine am_AW.run am_base_ok ok_Ears_cutsOf (Nat.le_add_left 1 d) 2 (pc1 := 23) (ls1 := [some (.ref 33), some (.ref p1), some (.int x2), some (.ref 20), some (.int (x4 + (1 : Int32))), none, none, none, none]) (st1 := []) (σ1 := (S0, (am_pL q30.2 34 x4.toNatClampNeg (q30.1.toInt64)))) rfl ?_
      exact am_AW.weak (ih p1 x2 (x4 + (1 : Int32)) hp1 _ _ _ h) (by simp only [am_le, and_self])
set_option maxHeartbeats 4000000 in
set_option maxRecDepth 100000 in
theorem f_Ears_cutsOf_b23_ok {ro : am_Ro} {d : Nat} (hd : 4 ≤ d + 1) (p1 : Nat) (x2 : Int32) (x4 : Int32) (hp1 : p1 = 41 ∨ p1 = 43 ∨ p1 = 45 ∨ p1 = 47 ∨ p1 = 49 ∨ p1 = 51 ∨ p1 = 53 ∨ p1 = 55) {m m' : am_Mm} {r : Int32} {n : Nat} (h : f_Ears_cutsOf_b23 n p1 x2 x4 m = some (r, m')) : am_AW am_nw ro (d + 1) mr_Ears_cutsOf 23 [some (.ref 33), some (.ref p1), some (.int x2), some (.ref 20), some (.int x4), none, none, none, none] [] (S0, m) (some (.int r)) (S0, m') :=
  f_Ears_cutsOf_b23_all hd n p1 x2 x4 hp1 m m' r h
set_option maxHeartbeats 4000000 in
set_option maxRecDepth 100000 in
theorem f_Ears_cutsOf_ok {ro : am_Ro} {d : Nat} (hd : 4 ≤ d) (p1 : Nat) (x2 : Int32) (hp1 : p1 = 41 ∨ p1 = 43 ∨ p1 = 45 ∨ p1 = 47 ∨ p1 = 49 ∨ p1 = 51 ∨ p1 = 53 ∨ p1 = 55) {m m' : am_Mm} {r : Int32} (h : f_Ears_cutsOf p1 x2 m = some (r, m')) : am_Mt am_nw ro d mr_Ears_cutsOf [.ref 33, .ref p1, .int x2, .ref 20] (S0, m) (some (.int r)) (S0, m') := by
  obtain ⟨d, rfl⟩ : ∃ d0, d = d0 + 1 := ⟨d - 1, by omega⟩
  refine am_Mt.of (by decide +kernel) (Nat.le_of_ble_eq_true rfl) ?_
  change am_AW am_nw ro (d + 1) mr_Ears_cutsOf 0 [some (.ref 33), some (.ref p1), some (.int x2), some (.ref 20), none, none, none, none, none] [] (S0, m) (some (.int r)) (S0, m')
  unfold f_Ears_cutsOf at h
  refine am_AW.run am_base_ok ok_Ears_cutsOf (Nat.le_add_left 1 d) 3 (pc1 := 5) (ls1 := [some (.ref 33), some (.ref p1), some (.int x2), some (.ref 20), none, none, none, none, none]) (st1 := [.int (m.1 20 5), .ref 33]) (σ1 := (S0, m)) rfl ?_
  refine am_AW.puti ok_Ears_cutsOf (Nat.le_add_left 1 d) rfl rfl rfl (qc := kq2) rfl (by decide) ty_2_2 ?_
  refine am_AW.run am_base_ok ok_Ears_cutsOf (Nat.le_add_left 1 d) 7 (pc1 := 17) (ls1 := [some (.ref 33), some (.ref p1), some (.int x2), some (.ref 20), none, none, none, none, none]) (st1 := [.int ((am_shl (1 : Int32) ((am_pI m 33 2 (m.1 20 5)).1 33 2)) - (1 : Int32)), .ref 33]) (σ1 := (S0, (am_pI m 33 2 (m.1 20 5)))) rfl ?_
  refine am_AW.puti ok_Ears_cutsOf (Nat.le_add_left 1 d) rfl rfl rfl (qc := kq2) rfl (by decide) ty_2_1 ?_
  refine am_AW.run am_base_ok ok_Ears_cutsOf (Nat.le_add_left 1 d) 2 (pc1 := 23) (ls1 := [some (.ref 33), some (.ref p1), some (.int x2), some (.ref 20), some (.int (0 : Int32)), none, none, none, none]) (st1 := []) (σ1 := (S0, (am_pI (am_pI m 33 2 (m.1 20 5)) 33 1 ((am_shl (1 : Int32) ((am_pI m 33 2 (m.1 20 5)).1 33 2)) - (1 : Int32))))) rfl ?_
  exact am_AW.weak (f_Ears_cutsOf_b23_ok hd p1 x2 (0 : Int32) hp1 h) (by simp only [am_le, and_self])
/-! FriezePolygons$Figure.countsAs(LFriezePolygons$Row;IILFriezePolygons$Ring;)Z -/
def f_Figure_countsAs_b3 : Nat → Nat → Int32 → Int32 → Int32 → am_Mm → Option (Int32 × am_Mm)
  | 0, _, _, _, _, _ => none
  | n + 1, p1, x2, x3, x5, m =>
    if x3 ≤ x5 then
      some ((1 : Int32), m)
    else
      if (m.1 16 2) ≤ x5 then
        some ((1 : Int32), m)
      else
        (f_Figure_countOf 16 x5 m).bind fun q5 =>
        (f_Row_itemAt p1 (x2 + x5) q5.2).bind fun q8 =>
        if q5.1 = q8.1 then
          f_Figure_countsAs_b3 n p1 x2 x3 (x5 + (1 : Int32)) q8.2
        else
          some ((0 : Int32), q8.2)
def f_Figure_countsAs (p1 : Nat) (x2 : Int32) (x3 : Int32) (m : am_Mm) : Option (Int32 × am_Mm) :=
  f_Figure_countsAs_b3 am_F p1 x2 x3 (0 : Int32) m
set_option maxHeartbeats 4000000 in
set_option maxRecDepth 100000 in
theorem f_Figure_countsAs_b3_all {ro : am_Ro} {d : Nat} (hd : 4 ≤ d + 1) : ∀ (n : Nat) (p1 : Nat) (x2 : Int32) (x3 : Int32) (x5 : Int32) (hp1 : p1 = 41 ∨ p1 = 43 ∨ p1 = 45 ∨ p1 = 47 ∨ p1 = 49 ∨ p1 = 51 ∨ p1 = 53 ∨ p1 = 55) (m m' : am_Mm) (r : Int32), f_Figure_countsAs_b3 n p1 x2 x3 x5 m = some (r, m') → am_AW am_nw ro (d + 1) mr_Figure_countsAs 3 [some (.ref 16), some (.ref p1), some (.int x2), some (.int x3), some (.ref 20), some (.int x5)] [] (S0, m) (some (.int r)) (S0, m') := by
  intro n
  induction n with
  | zero =>
    intro p1 x2 x3 x5 hp1 m m' r h
    rw [f_Figure_countsAs_b3] at h
    cases h
  | succ n ih =>
    intro p1 x2 x3 x5 hp1 m m' r h
    rw [f_Figure_countsAs_b3] at h
    refine am_AW.run am_base_ok ok_Figure_countsAs (Nat.le_add_left 1 d) 2 (pc1 := 6) (ls1 := [some (.ref 16), some (.ref p1), some (.int x2), some (.int x3), some (.ref 20), some (.int x5)]) (st1 := [.int x3, .int x5]) (σ1 := (S0, m)) rfl ?_
    refine am_AW.brP ok_Figure_countsAs rfl rfl am_c_ge (fun c1 => ?_) (fun c1 => ?_)
    · rw [if_pos c1] at h
      refine am_AW.run am_base_ok ok_Figure_countsAs (Nat.le_add_left 1 d) 1 (pc1 := 46) (ls1 := [some (.ref 16), some (.ref p1), some (.int x2), some (.int x3), some (.ref 20), some (.int x5)]) (st1 := [.int (1 : Int32)]) (σ1 := (S0, m)) rfl ?_
      obtain ⟨rfl, rfl⟩ := Prod.mk.inj (Option.some.inj h)
      exact am_AW.ret ok_Figure_countsAs rfl rfl rfl (by decide)
    · rw [if_neg c1] at h
      refine am_AW.run am_base_ok ok_Figure_countsAs (Nat.le_add_left 1 d) 3 (pc1 := 15) (ls1 := [some (.ref 16), some (.ref p1), some (.int x2), some (.int x3), some (.ref 20), some (.int x5)]) (st1 := [.int (m.1 16 2), .int x5]) (σ1 := (S0, m)) rfl ?_
      refine am_AW.brP ok_Figure_countsAs rfl rfl am_c_ge (fun c2 => ?_) (fun c2 => ?_)
      · rw [if_pos c2] at h
        refine am_AW.run am_base_ok ok_Figure_countsAs (Nat.le_add_left 1 d) 1 (pc1 := 46) (ls1 := [some (.ref 16), some (.ref p1), some (.int x2), some (.int x3), some (.ref 20), some (.int x5)]) (st1 := [.int (1 : Int32)]) (σ1 := (S0, m)) rfl ?_
        obtain ⟨rfl, rfl⟩ := Prod.mk.inj (Option.some.inj h)
        exact am_AW.ret ok_Figure_countsAs rfl rfl rfl (by decide)
      · rw [if_neg c2] at h
        refine am_AW.run am_base_ok ok_Figure_countsAs (Nat.le_add_left 1 d) 3 (pc1 := 23) (ls1 := [some (.ref 16), some (.ref p1), some (.int x2), some (.int x3), some (.ref 20), some (.int x5)]) (st1 := [.ref 20, .int x5, .ref 16]) (σ1 := (S0, m)) rfl ?_
        obtain ⟨q5, hq5, h⟩ := Option.bind_eq_some_iff.mp h
        refine am_AW.callV ok_Figure_countsAs am_nw_ok (As := [.int x5, .ref 20]) (rest := []) rfl rfl rfl oR_Figure_countOf lk_Figure_37 iM_Figure_countOf sE_Figure_countOf (qc := kq3) rfl rfl rfl rfl (Nat.le_of_ble_eq_true rfl) (f_Figure_countOf_ok (d := d) (by omega) 16 x5 (by simp) hq5) ?_
        change am_AW am_nw ro (d + 1) mr_Figure_countsAs 26 [some (.ref 16), some (.ref p1), some (.int x2), some (.int x3), some (.ref 20), some (.int x5)] [.int q5.1] (S0, q5.2) (some (.int r)) (S0, m')
        refine am_AW.run am_base_ok ok_Figure_countsAs (Nat.le_add_left 1 d) 4 (pc1 := 31) (ls1 := [some (.ref 16), some (.ref p1), some (.int x2), some (.int x3), some (.ref 20), some (.int x5)]) (st1 := [.int (x2 + x5), .ref p1, .int q5.1]) (σ1 := (S0, q5.2)) rfl ?_
        obtain ⟨q8, hq8, h⟩ := Option.bind_eq_some_iff.mp h
        refine am_AW.callV ok_Figure_countsAs am_nw_ok (As := [.int (x2 + x5)]) (rest := [.int q5.1]) rfl rfl rfl oR_Row_itemAt lk_Figure_41 iM_Row_itemAt sE_Row_itemAt (qc := kq7) (sh_41_43_45_47_49_51_53_55_0 hp1) rfl rfl rfl (Nat.le_of_ble_eq_true rfl) (f_Row_itemAt_ok (d := d) (by omega) p1 (x2 + x5) hp1 hq8) ?_
        change am_AW am_nw ro (d + 1) mr_Figure_countsAs 34 [some (.ref 16), some (.ref p1), some (.int x2), some (.int x3), some (.ref 20), some (.int x5)] [.int q8.1, .int q5.1] (S0, q8.2) (some (.int r)) (S0, m')
        refine am_AW.brP ok_Figure_countsAs rfl rfl am_c_eq (fun c9 => ?_) (fun c9 => ?_)
        · rw [if_pos c9] at h
          refine am_AW.run am_base_ok ok_Figure_countsAs (Nat.le_add_left 1 d) 2 (pc1 := 3) (ls1 := [some (.ref 16), some (.ref p1), some (.int x2), some (.int x3), some (.ref 20), some (.int (x5 + (1 : Int32)))]) (st1 := []) (σ1 := (S0, q8.2)) rfl ?_
          exact am_AW.weak (ih p1 x2 x3 (x5 + (1 : Int32)) hp1 _ _ _ h) (by simp only [am_le, and_self])
        · rw [if_neg c9] at h
          refine am_AW.run am_base_ok ok_Figure_countsAs (Nat.le_add_left 1 d) 1 (pc1 := 38) (ls1 := [some (.ref 16), some (.ref p1), some (.int x2), some (.int x3), some (.ref 20), some (.int x5)]) (st1 := [.int (0 : Int32)]) (σ1 := (S0, q8.2)) rfl ?_
          obtain ⟨rfl, rfl⟩ := Prod.mk.inj (Option.some.inj h)
          exact am_AW.ret ok_Figure_countsAs rfl rfl rfl (by decide)
set_option maxHeartbeats 4000000 in
set_option maxRecDepth 100000 in
theorem f_Figure_countsAs_b3_ok {ro : am_Ro} {d : Nat} (hd : 4 ≤ d + 1) (p1 : Nat) (x2 : Int32) (x3 : Int32) (x5 : Int32) (hp1 : p1 = 41 ∨ p1 = 43 ∨ p1 = 45 ∨ p1 = 47 ∨ p1 = 49 ∨ p1 = 51 ∨ p1 = 53 ∨ p1 = 55) {m m' : am_Mm} {r : Int32} {n : Nat} (h : f_Figure_countsAs_b3 n p1 x2 x3 x5 m = some (r, m')) : am_AW am_nw ro (d + 1) mr_Figure_countsAs 3 [some (.ref 16), some (.ref p1), some (.int x2), some (.int x3), some (.ref 20), some (.int x5)] [] (S0, m) (some (.int r)) (S0, m') :=
  f_Figure_countsAs_b3_all hd n p1 x2 x3 x5 hp1 m m' r h
set_option maxHeartbeats 4000000 in
set_option maxRecDepth 100000 in
theorem f_Figure_countsAs_ok {ro : am_Ro} {d : Nat} (hd : 4 ≤ d) (p1 : Nat) (x2 : Int32) (x3 : Int32) (hp1 : p1 = 41 ∨ p1 = 43 ∨ p1 = 45 ∨ p1 = 47 ∨ p1 = 49 ∨ p1 = 51 ∨ p1 = 53 ∨ p1 = 55) {m m' : am_Mm} {r : Int32} (h : f_Figure_countsAs p1 x2 x3 m = some (r, m')) : am_Mt am_nw ro d mr_Figure_countsAs [.ref 16, .ref p1, .int x2, .int x3, .ref 20] (S0, m) (some (.int r)) (S0, m') := by
  obtain ⟨d, rfl⟩ : ∃ d0, d = d0 + 1 := ⟨d - 1, by omega⟩
  refine am_Mt.of (by decide +kernel) (Nat.le_of_ble_eq_true rfl) ?_
  change am_AW am_nw ro (d + 1) mr_Figure_countsAs 0 [some (.ref 16), some (.ref p1), some (.int x2), some (.int x3), some (.ref 20), none] [] (S0, m) (some (.int r)) (S0, m')
  unfold f_Figure_countsAs at h
  refine am_AW.run am_base_ok ok_Figure_countsAs (Nat.le_add_left 1 d) 2 (pc1 := 3) (ls1 := [some (.ref 16), some (.ref p1), some (.int x2), some (.int x3), some (.ref 20), some (.int (0 : Int32))]) (st1 := []) (σ1 := (S0, m)) rfl ?_
  exact am_AW.weak (f_Figure_countsAs_b3_ok hd p1 x2 x3 (0 : Int32) hp1 h) (by simp only [am_le, and_self])
/-! FriezePolygons$FlipSearch.meetAround(LFriezePolygons$Ring;I)V -/
def f_FlipSearch_meetAround_b52 (k7 : Int32 → Int32 → am_Mm → Option am_Mm) (x2 : Int32) (x3 : Int32) (m : am_Mm) : Option am_Mm :=
  k7 x2 (x3 + (1 : Int32)) m
def f_FlipSearch_meetAround_b7 : Nat → Int32 → Int32 → am_Mm → Option am_Mm
  | 0, _, _, _ => none
  | n + 1, x2, x3, m =>
    if (m.1 20 6) ≤ x3 then
      some m
    else
      if ((am_shr x2 x3) &&& (1 : Int32)) = (1 : Int32) then
        (f_Ring_flippedAsJoined x3 m).bind fun q8 =>
        if q8.1 < (0 : Int32) then
          f_FlipSearch_meetAround_b52 (f_FlipSearch_meetAround_b7 n) x2 x3 q8.2
        else
          (f_FlipSearch_meet ((x2 &&& ((am_shl (1 : Int32) x3) ^^^ (-1 : Int32))) ||| (am_shl (1 : Int32) q8.1)) q8.2).bind fun q12 =>
          f_FlipSearch_meetAround_b52 (f_FlipSearch_meetAround_b7 n) x2 x3 q12
      else
        f_FlipSearch_meetAround_b52 (f_FlipSearch_meetAround_b7 n) x2 x3 m
def f_FlipSearch_meetAround (x2 : Int32) (m : am_Mm) : Option am_Mm :=
  (f_Ring_joinCorners x2 m).bind fun q3 =>
  f_FlipSearch_meetAround_b7 am_F x2 (0 : Int32) q3
set_option maxHeartbeats 4000000 in
set_option maxRecDepth 100000 in
theorem f_FlipSearch_meetAround_b52_ok {ro : am_Ro} {d : Nat} (hd : 4 ≤ d + 1) {k7 : Int32 → Int32 → am_Mm → Option am_Mm} (hk7 : ∀ (x2 : Int32) (x3 : Int32) (m m' : am_Mm), k7 x2 x3 m = some m' → am_AW am_nw ro (d + 1) mr_FlipSearch_meetAround 7 [some (.ref 35), some (.ref 20), some (.int x2), some (.int x3), none] [] (S0, m) none (S0, m')) (x2 : Int32) (x3 : Int32) {m m' : am_Mm} (h : f_FlipSearch_meetAround_b52 k7 x2 x3 m = some m') : am_AW am_nw ro (d + 1) mr_FlipSearch_meetAround 52 [some (.ref 35), some (.ref 20), some (.int x2), some (.int x3), none] [] (S0, m) none (S0, m') := by
  unfold f_FlipSearch_meetAround_b52 at h
  refine am_AW.run am_base_ok ok_FlipSearch_meetAround (Nat.le_add_left 1 d) 2 (pc1 := 7) (ls1 := [some (.ref 35), some (.ref 20), some (.int x2), some (.int (x3 + (1 : Int32))), none]) (st1 := []) (σ1 := (S0, m)) rfl ?_
  exact am_AW.weak (hk7 x2 (x3 + (1 : Int32))  _ _ h) (by simp only [am_le, and_self])
set_option maxHeartbeats 4000000 in
set_option maxRecDepth 100000 in
theorem f_FlipSearch_meetAround_b7_all {ro : am_Ro} {d : Nat} (hd : 4 ≤ d + 1) : ∀ (n : Nat) (x2 : Int32) (x3 : Int32) (m m' : am_Mm), f_FlipSearch_meetAround_b7 n x2 x3 m = some m' → am_AW am_nw ro (d + 1) mr_FlipSearch_meetAround 7 [some (.ref 35), some (.ref 20), some (.int x2), some (.int x3), none] [] (S0, m) none (S0, m') := by
  intro n
  induction n with
  | zero =>
    intro x2 x3 m m' h
    rw [f_FlipSearch_meetAround_b7] at h
    cases h
  | succ n ih =>
    intro x2 x3 m m' h
    rw [f_FlipSearch_meetAround_b7] at h
    refine am_AW.run am_base_ok ok_FlipSearch_meetAround (Nat.le_add_left 1 d) 3 (pc1 := 12) (ls1 := [some (.ref 35), some (.ref 20), some (.int x2), some (.int x3), none]) (st1 := [.int (m.1 20 6), .int x3]) (σ1 := (S0, m)) rfl ?_
    refine am_AW.brP ok_FlipSearch_meetAround rfl rfl am_c_ge (fun c4 => ?_) (fun c4 => ?_)
    · rw [if_pos c4] at h
      obtain rfl := Option.some.inj h
      exact am_AW.ret ok_FlipSearch_meetAround rfl rfl rfl rfl
    · rw [if_neg c4] at h
      refine am_AW.run am_base_ok ok_FlipSearch_meetAround (Nat.le_add_left 1 d) 6 (pc1 := 21) (ls1 := [some (.ref 35), some (.ref 20), some (.int x2), some (.int x3), none]) (st1 := [.int (1 : Int32), .int ((am_shr x2 x3) &&& (1 : Int32))]) (σ1 := (S0, m)) rfl ?_
      refine am_AW.brN ok_FlipSearch_meetAround rfl rfl am_c_ne (fun c5 => ?_) (fun c5 => ?_)
      · rw [if_pos c5] at h
        refine am_AW.run am_base_ok ok_FlipSearch_meetAround (Nat.le_add_left 1 d) 2 (pc1 := 26) (ls1 := [some (.ref 35), some (.ref 20), some (.int x2), some (.int x3), none]) (st1 := [.int x3, .ref 20]) (σ1 := (S0, m)) rfl ?_
        obtain ⟨q8, hq8, h⟩ := Option.bind_eq_some_iff.mp h
        refine am_AW.callV ok_FlipSearch_meetAround am_nw_ok (As := [.int x3]) (rest := []) rfl rfl rfl oR_Ring_flippedAsJoined lk_FlipSearch_45 iM_Ring_flippedAsJoined sE_Ring_flippedAsJoined (qc := kq6) rfl rfl rfl rfl (Nat.le_of_ble_eq_true rfl) (f_Ring_flippedAsJoined_ok (d := d) (by omega) x3 hq8) ?_
        change am_AW am_nw ro (d + 1) mr_FlipSearch_meetAround 29 [some (.ref 35), some (.ref 20), some (.int x2), some (.int x3), none] [.int q8.1] (S0, q8.2) none (S0, m')
        refine am_AW.run am_base_ok ok_FlipSearch_meetAround (Nat.le_add_left 1 d) 2 (pc1 := 33) (ls1 := [some (.ref 35), some (.ref 20), some (.int x2), some (.int x3), some (.int q8.1)]) (st1 := [.int q8.1]) (σ1 := (S0, q8.2)) rfl ?_
        refine am_AW.brP ok_FlipSearch_meetAround rfl rfl am_c_lt (fun c9 => ?_) (fun c9 => ?_)
        · rw [if_pos c9] at h
          exact am_AW.weak (f_FlipSearch_meetAround_b52_ok hd (ih) x2 x3  h) (by simp only [am_le, and_self])
        · rw [if_neg c9] at h
          refine am_AW.run am_base_ok ok_FlipSearch_meetAround (Nat.le_add_left 1 d) 12 (pc1 := 49) (ls1 := [some (.ref 35), some (.ref 20), some (.int x2), some (.int x3), some (.int q8.1)]) (st1 := [.int ((x2 &&& ((am_shl (1 : Int32) x3) ^^^ (-1 : Int32))) ||| (am_shl (1 : Int32) q8.1)), .ref 35]) (σ1 := (S0, q8.2)) rfl ?_
          obtain ⟨q12, hq12, h⟩ := Option.bind_eq_some_iff.mp h
          refine am_AW.callV ok_FlipSearch_meetAround am_nw_ok (As := [.int ((x2 &&& ((am_shl (1 : Int32) x3) ^^^ (-1 : Int32))) ||| (am_shl (1 : Int32) q8.1))]) (rest := []) rfl rfl rfl oR_FlipSearch_meet lk_FlipSearch_28 iM_FlipSearch_meet sE_FlipSearch_meet (qc := kq4) rfl rfl rfl rfl (Nat.le_of_ble_eq_true rfl) (f_FlipSearch_meet_ok (d := d) (by omega) ((x2 &&& ((am_shl (1 : Int32) x3) ^^^ (-1 : Int32))) ||| (am_shl (1 : Int32) q8.1)) hq12) ?_
          change am_AW am_nw ro (d + 1) mr_FlipSearch_meetAround 52 [some (.ref 35), some (.ref 20), some (.int x2), some (.int x3), some (.int q8.1)] [] (S0, q12) none (S0, m')
          exact am_AW.weak (f_FlipSearch_meetAround_b52_ok hd (ih) x2 x3  h) (by simp only [am_le, and_self])
      · rw [if_neg c5] at h
        exact am_AW.weak (f_FlipSearch_meetAround_b52_ok hd (ih) x2 x3  h) (by simp only [am_le, and_self])
set_option maxHeartbeats 4000000 in
set_option maxRecDepth 100000 in
theorem f_FlipSearch_meetAround_b7_ok {ro : am_Ro} {d : Nat} (hd : 4 ≤ d + 1) (x2 : Int32) (x3 : Int32) {m m' : am_Mm} {n : Nat} (h : f_FlipSearch_meetAround_b7 n x2 x3 m = some m') : am_AW am_nw ro (d + 1) mr_FlipSearch_meetAround 7 [some (.ref 35), some (.ref 20), some (.int x2), some (.int x3), none] [] (S0, m) none (S0, m') :=
  f_FlipSearch_meetAround_b7_all hd n x2 x3  m m' h
set_option maxHeartbeats 4000000 in
set_option maxRecDepth 100000 in
theorem f_FlipSearch_meetAround_ok {ro : am_Ro} {d : Nat} (hd : 4 ≤ d) (x2 : Int32) {m m' : am_Mm} (h : f_FlipSearch_meetAround x2 m = some m') : am_Mt am_nw ro d mr_FlipSearch_meetAround [.ref 35, .ref 20, .int x2] (S0, m) none (S0, m') := by
  obtain ⟨d, rfl⟩ : ∃ d0, d = d0 + 1 := ⟨d - 1, by omega⟩
  refine am_Mt.of (by decide +kernel) (Nat.le_of_ble_eq_true rfl) ?_
  change am_AW am_nw ro (d + 1) mr_FlipSearch_meetAround 0 [some (.ref 35), some (.ref 20), some (.int x2), none, none] [] (S0, m) none (S0, m')
  unfold f_FlipSearch_meetAround at h
  refine am_AW.run am_base_ok ok_FlipSearch_meetAround (Nat.le_add_left 1 d) 2 (pc1 := 2) (ls1 := [some (.ref 35), some (.ref 20), some (.int x2), none, none]) (st1 := [.int x2, .ref 20]) (σ1 := (S0, m)) rfl ?_
  obtain ⟨q3, hq3, h⟩ := Option.bind_eq_some_iff.mp h
  refine am_AW.callV ok_FlipSearch_meetAround am_nw_ok (As := [.int x2]) (rest := []) rfl rfl rfl oR_Ring_joinCorners lk_FlipSearch_37 iM_Ring_joinCorners sE_Ring_joinCorners (qc := kq6) rfl rfl rfl rfl (Nat.le_of_ble_eq_true rfl) (f_Ring_joinCorners_ok (d := d) (by omega) x2 hq3) ?_
  change am_AW am_nw ro (d + 1) mr_FlipSearch_meetAround 5 [some (.ref 35), some (.ref 20), some (.int x2), none, none] [] (S0, q3) none (S0, m')
  refine am_AW.run am_base_ok ok_FlipSearch_meetAround (Nat.le_add_left 1 d) 2 (pc1 := 7) (ls1 := [some (.ref 35), some (.ref 20), some (.int x2), some (.int (0 : Int32)), none]) (st1 := []) (σ1 := (S0, q3)) rfl ?_
  exact am_AW.weak (f_FlipSearch_meetAround_b7_ok hd x2 (0 : Int32)  h) (by simp only [am_le, and_self])
/-! FriezePolygons$Frieze.tellCounts(LFriezePolygons$Figure;LFriezePolygons$Ring;)V -/
def f_Frieze_tellCounts_b15 : Nat → Int32 → am_Mm → Option am_Mm
  | 0, _, _ => none
  | n + 1, x3, m =>
    if (m.1 30 2) ≤ x3 then
      some m
    else
      (f_Figure_countOf 13 x3 m).bind fun q4 =>
      if am_in x3 9 = true then
        f_Frieze_tellCounts_b15 n (x3 + (1 : Int32)) (am_pI q4.2 31 x3.toNatClampNeg q4.1)
      else none
def f_Frieze_tellCounts (m : am_Mm) : Option am_Mm :=
  f_Frieze_tellCounts_b15 am_F (0 : Int32) (am_pI m 30 2 (am_min (m.1 13 2) (9 : Int32)))
set_option maxHeartbeats 4000000 in
set_option maxRecDepth 100000 in
theorem f_Frieze_tellCounts_b15_all {ro : am_Ro} {d : Nat} (hd : 4 ≤ d + 1) : ∀ (n : Nat) (x3 : Int32) (m m' : am_Mm), f_Frieze_tellCounts_b15 n x3 m = some m' → am_AW am_nw ro (d + 1) mr_Frieze_tellCounts 15 [some (.ref 30), some (.ref 13), some (.ref 20), some (.int x3)] [] (S0, m) none (S0, m') := by
  intro n
  induction n with
  | zero =>
    intro x3 m m' h
    rw [f_Frieze_tellCounts_b15] at h
    cases h
  | succ n ih =>
    intro x3 m m' h
    rw [f_Frieze_tellCounts_b15] at h
    refine am_AW.run am_base_ok ok_Frieze_tellCounts (Nat.le_add_left 1 d) 3 (pc1 := 20) (ls1 := [some (.ref 30), some (.ref 13), some (.ref 20), some (.int x3)]) (st1 := [.int (m.1 30 2), .int x3]) (σ1 := (S0, m)) rfl ?_
    refine am_AW.brP ok_Frieze_tellCounts rfl rfl am_c_ge (fun c1 => ?_) (fun c1 => ?_)
    · rw [if_pos c1] at h
      obtain rfl := Option.some.inj h
      exact am_AW.ret ok_Frieze_tellCounts rfl rfl rfl rfl
    · rw [if_neg c1] at h
      refine am_AW.run am_base_ok ok_Frieze_tellCounts (Nat.le_add_left 1 d) 6 (pc1 := 31) (ls1 := [some (.ref 30), some (.ref 13), some (.ref 20), some (.int x3)]) (st1 := [.ref 20, .int x3, .ref 13, .int x3, .ref 31]) (σ1 := (S0, m)) rfl ?_
      obtain ⟨q4, hq4, h⟩ := Option.bind_eq_some_iff.mp h
      refine am_AW.callV ok_Frieze_tellCounts am_nw_ok (As := [.int x3, .ref 20]) (rest := [.int x3, .ref 31]) rfl rfl rfl oR_Figure_countOf lk_Frieze_32 iM_Figure_countOf sE_Figure_countOf (qc := kq3) rfl rfl rfl rfl (Nat.le_of_ble_eq_true rfl) (f_Figure_countOf_ok (d := d) (by omega) 13 x3 (by simp) hq4) ?_
      change am_AW am_nw ro (d + 1) mr_Frieze_tellCounts 34 [some (.ref 30), some (.ref 13), some (.ref 20), some (.int x3)] [.int q4.1, .int x3, .ref 31] (S0, q4.2) none (S0, m')
      by_cases g5 : am_in x3 9 = true
      rotate_left
      · rw [if_neg g5] at h
        cases h
      rw [if_pos g5] at h
      refine am_AW.iast ok_Frieze_tellCounts (Nat.le_add_left 1 d) rfl rfl g5 ?_
      change am_AW am_nw ro (d + 1) mr_Frieze_tellCounts 35 [some (.ref 30), some (.ref 13), some (.ref 20), some (.int x3)] [] (S0, (am_pI q4.2 31 x3.toNatClampNeg q4.1)) none (S0, m')
      refine am_AW.run am_base_ok ok_Frieze_tellCounts (Nat.le_add_left 1 d) 2 (pc1 := 15) (ls1 := [some (.ref 30), some (.ref 13), some (.ref 20), some (.int (x3 + (1 : Int32)))]) (st1 := []) (σ1 := (S0, (am_pI q4.2 31 x3.toNatClampNeg q4.1))) rfl ?_
      exact am_AW.weak (ih (x3 + (1 : Int32))  _ _ h) (by simp only [am_le, and_self])
set_option maxHeartbeats 4000000 in
set_option maxRecDepth 100000 in
theorem f_Frieze_tellCounts_b15_ok {ro : am_Ro} {d : Nat} (hd : 4 ≤ d + 1) (x3 : Int32) {m m' : am_Mm} {n : Nat} (h : f_Frieze_tellCounts_b15 n x3 m = some m') : am_AW am_nw ro (d + 1) mr_Frieze_tellCounts 15 [some (.ref 30), some (.ref 13), some (.ref 20), some (.int x3)] [] (S0, m) none (S0, m') :=
  f_Frieze_tellCounts_b15_all hd n x3  m m' h
set_option maxHeartbeats 4000000 in
set_option maxRecDepth 100000 in
theorem f_Frieze_tellCounts_ok {ro : am_Ro} {d : Nat} (hd : 4 ≤ d) {m m' : am_Mm} (h : f_Frieze_tellCounts  m = some m') : am_Mt am_nw ro d mr_Frieze_tellCounts [.ref 30, .ref 13, .ref 20] (S0, m) none (S0, m') := by
  obtain ⟨d, rfl⟩ : ∃ d0, d = d0 + 1 := ⟨d - 1, by omega⟩
  refine am_Mt.of (by decide +kernel) (Nat.le_of_ble_eq_true rfl) ?_
  change am_AW am_nw ro (d + 1) mr_Frieze_tellCounts 0 [some (.ref 30), some (.ref 13), some (.ref 20), none] [] (S0, m) none (S0, m')
  unfold f_Frieze_tellCounts at h
  refine am_AW.run am_base_ok ok_Frieze_tellCounts (Nat.le_add_left 1 d) 4 (pc1 := 7) (ls1 := [some (.ref 30), some (.ref 13), some (.ref 20), none]) (st1 := [.int (9 : Int32), .int (m.1 13 2), .ref 30]) (σ1 := (S0, m)) rfl ?_
  refine am_AW.mmin ok_Frieze_tellCounts (Nat.le_add_left 1 d) rfl lk_Frieze_26 (Nat.le_of_ble_eq_true rfl) ?_
  change am_AW am_nw ro (d + 1) mr_Frieze_tellCounts 10 [some (.ref 30), some (.ref 13), some (.ref 20), none] [.int (am_min (m.1 13 2) (9 : Int32)), .ref 30] (S0, m) none (S0, m')
  refine am_AW.puti ok_Frieze_tellCounts (Nat.le_add_left 1 d) rfl rfl rfl (qc := kq5) rfl (by decide) ty_5_2 ?_
  refine am_AW.run am_base_ok ok_Frieze_tellCounts (Nat.le_add_left 1 d) 2 (pc1 := 15) (ls1 := [some (.ref 30), some (.ref 13), some (.ref 20), some (.int (0 : Int32))]) (st1 := []) (σ1 := (S0, (am_pI m 30 2 (am_min (m.1 13 2) (9 : Int32))))) rfl ?_
  exact am_AW.weak (f_Frieze_tellCounts_b15_ok hd (0 : Int32)  h) (by simp only [am_le, and_self])
/-! FriezePolygons$Ring.moved(IZI)I -/
def f_Ring_moved_b60 (k6 : Int32 → Int32 → Int32 → Int32 → Int32 → am_Mm → Option (Int32 × am_Mm)) (x1 : Int32) (x2 : Int32) (x3 : Int32) (x4 : Int32) (x5 : Int32) (m : am_Mm) : Option (Int32 × am_Mm) :=
  k6 x1 x2 x3 x4 (x5 + (1 : Int32)) m
def f_Ring_moved_b6 : Nat → Int32 → Int32 → Int32 → Int32 → Int32 → am_Mm → Option (Int32 × am_Mm)
  | 0, _, _, _, _, _, _ => none
  | n + 1, x1, x2, x3, x4, x5, m =>
    if (m.1 20 6) ≤ x5 then
      some (x4, m)
    else
      if ((am_shr x1 x5) &&& (1 : Int32)) = (1 : Int32) then
        if am_in x5 27 = true then
          (f_Ring_movedCorner (m.1 21 x5.toNatClampNeg) x2 x3 m).bind fun q6 =>
          if am_in x5 27 = true then
            (f_Ring_movedCorner (q6.2.1 22 x5.toNatClampNeg) x2 x3 q6.2).bind fun q10 =>
            (f_Ring_bitOf q6.1 q10.1 q10.2).bind fun q13 =>
            f_Ring_moved_b60 (f_Ring_moved_b6 n) x1 x2 x3 (x4 ||| q13.1) x5 q13.2
          else none
        else none
      else
        f_Ring_moved_b60 (f_Ring_moved_b6 n) x1 x2 x3 x4 x5 m
def f_Ring_moved (x1 : Int32) (x2 : Int32) (x3 : Int32) (m : am_Mm) : Option (Int32 × am_Mm) :=
  f_Ring_moved_b6 am_F x1 x2 x3 (0 : Int32) (0 : Int32) m
set_option maxHeartbeats 4000000 in
set_option maxRecDepth 100000 in
theorem f_Ring_moved_b60_ok {ro : am_Ro} {d : Nat} (hd : 4 ≤ d + 1) {k6 : Int32 → Int32 → Int32 → Int32 → Int32 → am_Mm → Option (Int32 × am_Mm)} (hk6 : ∀ (x1 : Int32) (x2 : Int32) (x3 : Int32) (x4 : Int32) (x5 : Int32) (m m' : am_Mm) (r : Int32), k6 x1 x2 x3 x4 x5 m = some (r, m') → am_AW am_nw ro (d + 1) mr_Ring_moved 6 [some (.ref 20), some (.int x1), some (.int x2), some (.int x3), some (.int x4), some (.int x5)] [] (S0, m) (some (.int r)) (S0, m')) (x1 : Int32) (x2 : Int32) (x3 : Int32) (x4 : Int32) (x5 : Int32) {m m' : am_Mm} {r : Int32} (h : f_Ring_moved_b60 k6 x1 x2 x3 x4 x5 m = some (r, m')) : am_AW am_nw ro (d + 1) mr_Ring_moved 60 [some (.ref 20), some (.int x1), some (.int x2), some (.int x3), some (.int x4), some (.int x5)] [] (S0, m) (some (.int r)) (S0, m') := by
  unfold f_Ring_moved_b60 at h
  refine am_AW.run am_base_ok ok_Ring_moved (Nat.le_add_left 1 d) 2 (pc1 := 6) (ls1 := [some (.ref 20), some (.int x1), some (.int x2), some (.int x3), some (.int x4), some (.int (x5 + (1 : Int32)))]) (st1 := []) (σ1 := (S0, m)) rfl ?_
  exact am_AW.weak (hk6 x1 x2 x3 x4 (x5 + (1 : Int32))  _ _ _ h) (by simp only [am_le, and_self])
set_option maxHeartbeats 4000000 in
set_option maxRecDepth 100000 in
theorem f_Ring_moved_b6_all {ro : am_Ro} {d : Nat} (hd : 4 ≤ d + 1) : ∀ (n : Nat) (x1 : Int32) (x2 : Int32) (x3 : Int32) (x4 : Int32) (x5 : Int32) (m m' : am_Mm) (r : Int32), f_Ring_moved_b6 n x1 x2 x3 x4 x5 m = some (r, m') → am_AW am_nw ro (d + 1) mr_Ring_moved 6 [some (.ref 20), some (.int x1), some (.int x2), some (.int x3), some (.int x4), some (.int x5)] [] (S0, m) (some (.int r)) (S0, m') := by
  intro n
  induction n with
  | zero =>
    intro x1 x2 x3 x4 x5 m m' r h
    rw [f_Ring_moved_b6] at h
    cases h
  | succ n ih =>
    intro x1 x2 x3 x4 x5 m m' r h
    rw [f_Ring_moved_b6] at h
    refine am_AW.run am_base_ok ok_Ring_moved (Nat.le_add_left 1 d) 3 (pc1 := 12) (ls1 := [some (.ref 20), some (.int x1), some (.int x2), some (.int x3), some (.int x4), some (.int x5)]) (st1 := [.int (m.1 20 6), .int x5]) (σ1 := (S0, m)) rfl ?_
    refine am_AW.brP ok_Ring_moved rfl rfl am_c_ge (fun c1 => ?_) (fun c1 => ?_)
    · rw [if_pos c1] at h
      refine am_AW.run am_base_ok ok_Ring_moved (Nat.le_add_left 1 d) 1 (pc1 := 68) (ls1 := [some (.ref 20), some (.int x1), some (.int x2), some (.int x3), some (.int x4), some (.int x5)]) (st1 := [.int x4]) (σ1 := (S0, m)) rfl ?_
      obtain ⟨rfl, rfl⟩ := Prod.mk.inj (Option.some.inj h)
      exact am_AW.ret ok_Ring_moved rfl rfl rfl rfl
    · rw [if_neg c1] at h
      refine am_AW.run am_base_ok ok_Ring_moved (Nat.le_add_left 1 d) 6 (pc1 := 22) (ls1 := [some (.ref 20), some (.int x1), some (.int x2), some (.int x3), some (.int x4), some (.int x5)]) (st1 := [.int (1 : Int32), .int ((am_shr x1 x5) &&& (1 : Int32))]) (σ1 := (S0, m)) rfl ?_
      refine am_AW.brN ok_Ring_moved rfl rfl am_c_ne (fun c2 => ?_) (fun c2 => ?_)
      · rw [if_pos c2] at h
        refine am_AW.run am_base_ok ok_Ring_moved (Nat.le_add_left 1 d) 6 (pc1 := 35) (ls1 := [some (.ref 20), some (.int x1), some (.int x2), some (.int x3), some (.int x4), some (.int x5)]) (st1 := [.int x5, .ref 21, .ref 20, .ref 20, .int x4]) (σ1 := (S0, m)) rfl ?_
        by_cases g3 : am_in x5 27 = true
        rotate_left
        · rw [if_neg g3] at h
          cases h
        rw [if_pos g3] at h
        refine am_AW.iald ok_Ring_moved (Nat.le_add_left 1 d) S0_len rfl rfl g3 ?_
        refine am_AW.run am_base_ok ok_Ring_moved (Nat.le_add_left 1 d) 2 (pc1 := 38) (ls1 := [some (.ref 20), some (.int x1), some (.int x2), some (.int x3), some (.int x4), some (.int x5)]) (st1 := [.int x3, .int x2, .int (m.1 21 x5.toNatClampNeg), .ref 20, .ref 20, .int x4]) (σ1 := (S0, m)) rfl ?_
        obtain ⟨q6, hq6, h⟩ := Option.bind_eq_some_iff.mp h
        refine am_AW.callV ok_Ring_moved am_nw_ok (As := [.int (m.1 21 x5.toNatClampNeg), .int x2, .int x3]) (rest := [.ref 20, .int x4]) rfl rfl rfl oR_Ring_movedCorner lk_Ring_69 iM_Ring_movedCorner sE_Ring_movedCorner (qc := kq6) rfl rfl rfl rfl (Nat.le_of_ble_eq_true rfl) (f_Ring_movedCorner_ok (d := d) (by omega) (m.1 21 x5.toNatClampNeg) x2 x3 hq6) ?_
        change am_AW am_nw ro (d + 1) mr_Ring_moved 41 [some (.ref 20), some (.int x1), some (.int x2), some (.int x3), some (.int x4), some (.int x5)] [.int q6.1, .ref 20, .int x4] (S0, q6.2) (some (.int r)) (S0, m')
        refine am_AW.run am_base_ok ok_Ring_moved (Nat.le_add_left 1 d) 4 (pc1 := 48) (ls1 := [some (.ref 20), some (.int x1), some (.int x2), some (.int x3), some (.int x4), some (.int x5)]) (st1 := [.int x5, .ref 22, .ref 20, .int q6.1, .ref 20, .int x4]) (σ1 := (S0, q6.2)) rfl ?_
        by_cases g7 : am_in x5 27 = true
        rotate_left
        · rw [if_neg g7] at h
          cases h
        rw [if_pos g7] at h
        refine am_AW.iald ok_Ring_moved (Nat.le_add_left 1 d) S0_len rfl rfl g7 ?_
        refine am_AW.run am_base_ok ok_Ring_moved (Nat.le_add_left 1 d) 2 (pc1 := 51) (ls1 := [some (.ref 20), some (.int x1), some (.int x2), some (.int x3), some (.int x4), some (.int x5)]) (st1 := [.int x3, .int x2, .int (q6.2.1 22 x5.toNatClampNeg), .ref 20, .int q6.1, .ref 20, .int x4]) (σ1 := (S0, q6.2)) rfl ?_
        obtain ⟨q10, hq10, h⟩ := Option.bind_eq_some_iff.mp h
        refine am_AW.callV ok_Ring_moved am_nw_ok (As := [.int (q6.2.1 22 x5.toNatClampNeg), .int x2, .int x3]) (rest := [.int q6.1, .ref 20, .int x4]) rfl rfl rfl oR_Ring_movedCorner lk_Ring_69 iM_Ring_movedCorner sE_Ring_movedCorner (qc := kq6) rfl rfl rfl rfl (Nat.le_of_ble_eq_true rfl) (f_Ring_movedCorner_ok (d := d) (by omega) (q6.2.1 22 x5.toNatClampNeg) x2 x3 hq10) ?_
        change am_AW am_nw ro (d + 1) mr_Ring_moved 54 [some (.ref 20), some (.int x1), some (.int x2), some (.int x3), some (.int x4), some (.int x5)] [.int q10.1, .int q6.1, .ref 20, .int x4] (S0, q10.2) (some (.int r)) (S0, m')
        obtain ⟨q13, hq13, h⟩ := Option.bind_eq_some_iff.mp h
        refine am_AW.callV ok_Ring_moved am_nw_ok (As := [.int q6.1, .int q10.1]) (rest := [.int x4]) rfl rfl rfl oR_Ring_bitOf lk_Ring_73 iM_Ring_bitOf sE_Ring_bitOf (qc := kq6) rfl rfl rfl rfl (Nat.le_of_ble_eq_true rfl) (f_Ring_bitOf_ok (d := d) (by omega) q6.1 q10.1 hq13) ?_
        change am_AW am_nw ro (d + 1) mr_Ring_moved 57 [some (.ref 20), some (.int x1), some (.int x2), some (.int x3), some (.int x4), some (.int x5)] [.int q13.1, .int x4] (S0, q13.2) (some (.int r)) (S0, m')
        refine am_AW.run am_base_ok ok_Ring_moved (Nat.le_add_left 1 d) 2 (pc1 := 60) (ls1 := [some (.ref 20), some (.int x1), some (.int x2), some (.int x3), some (.int (x4 ||| q13.1)), some (.int x5)]) (st1 := []) (σ1 := (S0, q13.2)) rfl ?_
        exact am_AW.weak (f_Ring_moved_b60_ok hd (ih) x1 x2 x3 (x4 ||| q13.1) x5  h) (by simp only [am_le, and_self])
      · rw [if_neg c2] at h
        exact am_AW.weak (f_Ring_moved_b60_ok hd (ih) x1 x2 x3 x4 x5  h) (by simp only [am_le, and_self])
set_option maxHeartbeats 4000000 in
set_option maxRecDepth 100000 in
theorem f_Ring_moved_b6_ok {ro : am_Ro} {d : Nat} (hd : 4 ≤ d + 1) (x1 : Int32) (x2 : Int32) (x3 : Int32) (x4 : Int32) (x5 : Int32) {m m' : am_Mm} {r : Int32} {n : Nat} (h : f_Ring_moved_b6 n x1 x2 x3 x4 x5 m = some (r, m')) : am_AW am_nw ro (d + 1) mr_Ring_moved 6 [some (.ref 20), some (.int x1), some (.int x2), some (.int x3), some (.int x4), some (.int x5)] [] (S0, m) (some (.int r)) (S0, m') :=
  f_Ring_moved_b6_all hd n x1 x2 x3 x4 x5  m m' r h
set_option maxHeartbeats 4000000 in
set_option maxRecDepth 100000 in
theorem f_Ring_moved_ok {ro : am_Ro} {d : Nat} (hd : 4 ≤ d) (x1 : Int32) (x2 : Int32) (x3 : Int32) {m m' : am_Mm} {r : Int32} (h : f_Ring_moved x1 x2 x3 m = some (r, m')) : am_Mt am_nw ro d mr_Ring_moved [.ref 20, .int x1, .int x2, .int x3] (S0, m) (some (.int r)) (S0, m') := by
  obtain ⟨d, rfl⟩ : ∃ d0, d = d0 + 1 := ⟨d - 1, by omega⟩
  refine am_Mt.of (by decide +kernel) (Nat.le_of_ble_eq_true rfl) ?_
  change am_AW am_nw ro (d + 1) mr_Ring_moved 0 [some (.ref 20), some (.int x1), some (.int x2), some (.int x3), none, none] [] (S0, m) (some (.int r)) (S0, m')
  unfold f_Ring_moved at h
  refine am_AW.run am_base_ok ok_Ring_moved (Nat.le_add_left 1 d) 4 (pc1 := 6) (ls1 := [some (.ref 20), some (.int x1), some (.int x2), some (.int x3), some (.int (0 : Int32)), some (.int (0 : Int32))]) (st1 := []) (σ1 := (S0, m)) rfl ?_
  exact am_AW.weak (f_Ring_moved_b6_ok hd x1 x2 x3 (0 : Int32) (0 : Int32)  h) (by simp only [am_le, and_self])
/-! FriezePolygons$Ring.flippedOf(II)I -/
def f_Ring_flippedOf (x1 : Int32) (x2 : Int32) (m : am_Mm) : Option (Int32 × am_Mm) :=
  (f_Ring_isNumber 20 x2 m).bind fun q3 =>
  if q3.1 = (0 : Int32) then
    some ((-1 : Int32), q3.2)
  else
    if ((am_shr x1 x2) &&& (1 : Int32)) = (0 : Int32) then
      some ((-1 : Int32), q3.2)
    else
      (f_Ring_joinCorners x1 q3.2).bind fun q8 =>
      (f_Ring_flippedAsJoined x2 q8).bind fun q11 =>
      some (q11.1, q11.2)
set_option maxHeartbeats 4000000 in
set_option maxRecDepth 100000 in
theorem f_Ring_flippedOf_ok {ro : am_Ro} {d : Nat} (hd : 4 ≤ d) (x1 : Int32) (x2 : Int32) {m m' : am_Mm} {r : Int32} (h : f_Ring_flippedOf x1 x2 m = some (r, m')) : am_Mt am_nw ro d mr_Ring_flippedOf [.ref 20, .int x1, .int x2] (S0, m) (some (.int r)) (S0, m') := by
  obtain ⟨d, rfl⟩ : ∃ d0, d = d0 + 1 := ⟨d - 1, by omega⟩
  refine am_Mt.of (by decide +kernel) (Nat.le_of_ble_eq_true rfl) ?_
  change am_AW am_nw ro (d + 1) mr_Ring_flippedOf 0 [some (.ref 20), some (.int x1), some (.int x2)] [] (S0, m) (some (.int r)) (S0, m')
  unfold f_Ring_flippedOf at h
  refine am_AW.run am_base_ok ok_Ring_flippedOf (Nat.le_add_left 1 d) 2 (pc1 := 2) (ls1 := [some (.ref 20), some (.int x1), some (.int x2)]) (st1 := [.int x2, .ref 20]) (σ1 := (S0, m)) rfl ?_
  obtain ⟨q3, hq3, h⟩ := Option.bind_eq_some_iff.mp h
  refine am_AW.callV ok_Ring_flippedOf am_nw_ok (As := [.int x2]) (rest := []) rfl rfl rfl oR_Ring_isNumber lk_Ring_59 iM_Ring_isNumber sE_Ring_isNumber (qc := kq6) rfl rfl rfl rfl (Nat.le_of_ble_eq_true rfl) (f_Ring_isNumber_ok (d := d) (by omega) 20 x2 (by simp) hq3) ?_
  change am_AW am_nw ro (d + 1) mr_Ring_flippedOf 5 [some (.ref 20), some (.int x1), some (.int x2)] [.int q3.1] (S0, q3.2) (some (.int r)) (S0, m')
  refine am_AW.brP ok_Ring_flippedOf rfl rfl am_c_eq (fun c4 => ?_) (fun c4 => ?_)
  · rw [if_pos c4] at h
    refine am_AW.run am_base_ok ok_Ring_flippedOf (Nat.le_add_left 1 d) 1 (pc1 := 17) (ls1 := [some (.ref 20), some (.int x1), some (.int x2)]) (st1 := [.int (-1 : Int32)]) (σ1 := (S0, q3.2)) rfl ?_
    obtain ⟨rfl, rfl⟩ := Prod.mk.inj (Option.some.inj h)
    exact am_AW.ret ok_Ring_flippedOf rfl rfl rfl rfl
  · rw [if_neg c4] at h
    refine am_AW.run am_base_ok ok_Ring_flippedOf (Nat.le_add_left 1 d) 5 (pc1 := 13) (ls1 := [some (.ref 20), some (.int x1), some (.int x2)]) (st1 := [.int ((am_shr x1 x2) &&& (1 : Int32))]) (σ1 := (S0, q3.2)) rfl ?_
    refine am_AW.brN ok_Ring_flippedOf rfl rfl am_c_ne (fun c5 => ?_) (fun c5 => ?_)
    · rw [if_pos c5] at h
      refine am_AW.run am_base_ok ok_Ring_flippedOf (Nat.le_add_left 1 d) 1 (pc1 := 17) (ls1 := [some (.ref 20), some (.int x1), some (.int x2)]) (st1 := [.int (-1 : Int32)]) (σ1 := (S0, q3.2)) rfl ?_
      obtain ⟨rfl, rfl⟩ := Prod.mk.inj (Option.some.inj h)
      exact am_AW.ret ok_Ring_flippedOf rfl rfl rfl rfl
    · rw [if_neg c5] at h
      refine am_AW.run am_base_ok ok_Ring_flippedOf (Nat.le_add_left 1 d) 2 (pc1 := 20) (ls1 := [some (.ref 20), some (.int x1), some (.int x2)]) (st1 := [.int x1, .ref 20]) (σ1 := (S0, q3.2)) rfl ?_
      obtain ⟨q8, hq8, h⟩ := Option.bind_eq_some_iff.mp h
      refine am_AW.callV ok_Ring_flippedOf am_nw_ok (As := [.int x1]) (rest := []) rfl rfl rfl oR_Ring_joinCorners lk_Ring_76 iM_Ring_joinCorners sE_Ring_joinCorners (qc := kq6) rfl rfl rfl rfl (Nat.le_of_ble_eq_true rfl) (f_Ring_joinCorners_ok (d := d) (by omega) x1 hq8) ?_
      change am_AW am_nw ro (d + 1) mr_Ring_flippedOf 23 [some (.ref 20), some (.int x1), some (.int x2)] [] (S0, q8) (some (.int r)) (S0, m')
      refine am_AW.run am_base_ok ok_Ring_flippedOf (Nat.le_add_left 1 d) 2 (pc1 := 25) (ls1 := [some (.ref 20), some (.int x1), some (.int x2)]) (st1 := [.int x2, .ref 20]) (σ1 := (S0, q8)) rfl ?_
      obtain ⟨q11, hq11, h⟩ := Option.bind_eq_some_iff.mp h
      refine am_AW.callV ok_Ring_flippedOf am_nw_ok (As := [.int x2]) (rest := []) rfl rfl rfl oR_Ring_flippedAsJoined lk_Ring_80 iM_Ring_flippedAsJoined sE_Ring_flippedAsJoined (qc := kq6) rfl rfl rfl rfl (Nat.le_of_ble_eq_true rfl) (f_Ring_flippedAsJoined_ok (d := d) (by omega) x2 hq11) ?_
      change am_AW am_nw ro (d + 1) mr_Ring_flippedOf 28 [some (.ref 20), some (.int x1), some (.int x2)] [.int q11.1] (S0, q11.2) (some (.int r)) (S0, m')
      obtain ⟨rfl, rfl⟩ := Prod.mk.inj (Option.some.inj h)
      exact am_AW.ret ok_Ring_flippedOf rfl rfl rfl rfl
