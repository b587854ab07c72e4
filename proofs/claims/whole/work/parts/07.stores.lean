/-! ===== one instruction: stores, new cells, arraycopy ===== -/
section AMI
variable {nw : List Cond} {ro : am_Ro} {d : Nat} {r : am_Mr} {pc : Nat} {ls : am_Lc} {st : List Value} {σ : am_Sg} {v : Option Value} {σ' : am_Sg}
theorem am_step_iastore {n a b po : Nat} {z : Int} {pc1 : Nat} {ls1 : am_Lc} {st1 : List Value} {σ1 : am_Sg} (hd : decode r.2.1 pc = .ok (.iastore, n))
    (h : am_step ro (.iastore, n, a, b, po, z) (pc, ls, st, σ) = some (pc1, ls1, st1, σ1)) (hk : am_AW nw ro d r pc1 ls1 st1 σ1 v σ') : am_AW nw ro d r pc ls st σ v σ' := by
  simp only [am_step] at h
  split at h
  · rename_i x i q t
    split at h
    · rename_i hn
      cases hn
      obtain ⟨σ2, hw, e2⟩ := Option.map_eq_some_iff.mp h
      cases e2
      unfold am_ist at hw
      split at hw
      · rename_i n0 fs hp
        split at hw
        · rename_i hi
          cases hw
          refine am_AW.put hk rfl rfl (fun K hro p l e R s m args below meth c Q cx H locs nc ns la hW hz hS hL k => ?_)
          show W p l e R s m args below meth c H locs nc ns Q (F0 m pc la (.int x :: .int i :: .ref (am_eta K q) :: st1.map (am_cv K)))
          rw [am_eta_at hW hp]
          refine va_iast (D := K.2.1) (cl := kcs) cx.1 cx.2.1 cx.2.2.2.2.2.1 hW.2.2 (am_ws_D K σ) (am_S_self hS) q 0 (am_ws_at K hp) rfl (am_in_vp hi) hd (fun H1 locs1 hP1 _ hS1 => ?_)
          refine am_W_sz hz hS hS1 (fun z1 hS2 => k H1 locs1 la ?_ hS2 hL)
          refine am_Wd_set (p := q) (sh := (1, n0, fs)) hW z1 (am_wd_lt hp) (am_set_self hp) (fun q' hq' => ⟨am_up_o hq', rfl⟩) ?_ hP1
          show (Sum.inl (K.2.2.1 1, n0, .inl (va_up σ.2.1 q (upd (σ.2.1 q) i.toNatClampNeg x) q)) : va_E) = _
          rw [am_up_s]
        · cases hw
      · cases hw
    · cases h
  · cases h
theorem am_nar_b {x : Int32} (h : x = 0 ∨ x = 1) : vp_nar .boolean x = x := by rcases h with rfl | rfl <;> rfl
theorem am_step_bastore {n a b po : Nat} {z : Int} {pc1 : Nat} {ls1 : am_Lc} {st1 : List Value} {σ1 : am_Sg} (hd : decode r.2.1 pc = .ok (.bastore, n))
    (h : am_step ro (.bastore, n, a, b, po, z) (pc, ls, st, σ) = some (pc1, ls1, st1, σ1)) (hk : am_AW nw ro d r pc1 ls1 st1 σ1 v σ') : am_AW nw ro d r pc ls st σ v σ' := by
  simp only [am_step] at h
  split at h
  · rename_i x i q t
    split at h
    · rename_i hn
      cases hn
      obtain ⟨σ2, hw, e2⟩ := Option.map_eq_some_iff.mp h
      cases e2
      unfold am_zst at hw
      split at hw
      · rename_i n0 fs hp
        split at hw
        · rename_i hi
          cases hw
          simp only [Bool.and_eq_true, Bool.or_eq_true, beq_iff_eq] at hi
          refine am_AW.put hk rfl rfl (fun K hro p l e R s m args below meth c Q cx H locs nc ns la hW hz hS hL k => ?_)
          show W p l e R s m args below meth c H locs nc ns Q (F0 m pc la (.int x :: .int i :: .ref (am_eta K q) :: st1.map (am_cv K)))
          rw [am_eta_at hW hp]
          refine va_zast (D := K.2.1) (cl := kcs) cx.1 cx.2.1 cx.2.2.2.2.2.1 hW.2.2 (am_ws_D K σ) (am_S_self hS) q 2 (am_ws_at K hp) rfl (am_in_vp hi.1) hd (fun H1 locs1 hP1 _ hS1 => ?_)
          rw [am_nar_b hi.2] at hP1
          refine am_W_sz hz hS hS1 (fun z1 hS2 => k H1 locs1 la ?_ hS2 hL)
          refine am_Wd_set (p := q) (sh := (3, n0, fs)) hW z1 (am_wd_lt hp) (am_set_self hp) (fun q' hq' => ⟨am_up_o hq', rfl⟩) ?_ hP1
          show (Sum.inl (K.2.2.1 3, n0, .inl (va_up σ.2.1 q (upd (σ.2.1 q) i.toNatClampNeg x) q)) : va_E) = _
          rw [am_up_s]
        · cases hw
      · cases hw
    · cases h
  · cases h
theorem am_step_lastore {n a b po : Nat} {z : Int} {pc1 : Nat} {ls1 : am_Lc} {st1 : List Value} {σ1 : am_Sg} (hd : decode r.2.1 pc = .ok (.lastore, n))
    (h : am_step ro (.lastore, n, a, b, po, z) (pc, ls, st, σ) = some (pc1, ls1, st1, σ1)) (hk : am_AW nw ro d r pc1 ls1 st1 σ1 v σ') : am_AW nw ro d r pc ls st σ v σ' := by
  simp only [am_step] at h
  split at h
  · rename_i x i q t
    split at h
    · rename_i hn
      cases hn
      obtain ⟨σ2, hw, e2⟩ := Option.map_eq_some_iff.mp h
      cases e2
      unfold am_lst at hw
      split at hw
      · rename_i n0 fs hp
        split at hw
        · rename_i hi
          cases hw
          refine am_AW.put hk rfl rfl (fun K hro p l e R s m args below meth c Q cx H locs nc ns la hW hz hS hL k => ?_)
          show W p l e R s m args below meth c H locs nc ns Q (F0 m pc la (.long x :: .int i :: .ref (am_eta K q) :: st1.map (am_cv K)))
          rw [am_eta_at hW hp]
          refine va_last (D := K.2.1) (cl := kcs) cx.1 cx.2.1 cx.2.2.2.2.2.1 hW.2.2 (am_ws_D K σ) (am_S_self hS) q 1 (am_ws_at K hp) rfl (am_in_vp hi) hd (fun H1 locs1 hP1 _ hS1 => ?_)
          refine am_W_sz hz hS hS1 (fun z1 hS2 => k H1 locs1 la ?_ hS2 hL)
          refine am_Wd_set (p := q) (sh := (2, n0, fs)) hW z1 (am_wd_lt hp) (am_set_self hp) (fun q' hq' => ⟨rfl, am_up_o hq'⟩) ?_ hP1
          show (Sum.inl (K.2.2.1 2, n0, .inr (.inl (va_up σ.2.2 q (vp_updL (σ.2.2 q) i.toNatClampNeg x) q))) : va_E) = _
          rw [am_up_s]
        · cases hw
      · cases hw
    · cases h
  · cases h
theorem am_refs_set {K : am_Kx} {fs : List Value} {k q : Nat} (h : k < fs.length) : (fun j => am_or K ((fs.set k (.ref q)).getD j .null)) = va_up (fun j => am_or K (fs.getD j .null)) k (some (am_eta K q)) := by
  funext j
  unfold va_up
  by_cases hj : j = k
  · subst hj
    simp [List.getD, h, am_or]
  · have hj' : ¬ k = j := fun e => hj e.symm
    simp [List.getD, List.getElem?_set, hj', hj]
theorem am_step_aastore {n a b po : Nat} {z : Int} {pc1 : Nat} {ls1 : am_Lc} {st1 : List Value} {σ1 : am_Sg} (hd : decode r.2.1 pc = .ok (.aastore, n))
    (h : am_step ro (.aastore, n, a, b, po, z) (pc, ls, st, σ) = some (pc1, ls1, st1, σ1)) (hk : am_AW nw ro d r pc1 ls1 st1 σ1 v σ') : am_AW nw ro d r pc ls st σ v σ' := by
  simp only [am_step] at h
  split at h
  · rename_i q0 i q t
    split at h
    · rename_i hn
      cases hn
      obtain ⟨σ2, hw, e2⟩ := Option.map_eq_some_iff.mp h
      cases e2
      unfold am_ast at hw
      split at hw
      · rename_i t0 n0 fs c0 fs0 hp hp0
        split at hw
        · rename_i hi
          obtain ⟨ht, hc0, hi, hq0, hfl⟩ := hi
          cases hw
          refine am_AW.put hk (by simp) (am_sl_set hp (by rcases ht with rfl | rfl <;> rfl)) (fun K hro p l e R s m args below meth c Q cx H locs nc ns la hW hz hS hL k => ?_)
          show W p l e R s m args below meth c H locs nc ns Q (F0 m pc la (.ref (am_eta K q0) :: .int i :: .ref (am_eta K q) :: st1.map (am_cv K)))
          have hin := am_in_vp hi
          have hlt : i.toNatClampNeg < fs.length := by rw [hfl]; exact Nat.not_le.mp fun w => hin (Or.inr w)
          rw [am_eta_at hW hp, am_eta_at hW hp0]
          have fin : ∀ (H1 : Heap) (locs1 : List Loc), va_P K.2.1 kcs ((am_ws K σ).set q (K.1 + q, .inl (K.2.2.1 t0, n0, .inr (.inr (.inr (.inr (va_up (fun j => am_or K (fs.getD j .null)) i.toNatClampNeg (some (K.1 + q0))))))))) H1 → va_S (am_A K) H H1 locs1 → W p l e R s m args below meth c H1 locs1 nc ns Q (F0 m (pc + 1) la (st1.map (am_cv K))) := by
            intro H1 locs1 hP1 hS1
            refine am_W_sz hz hS hS1 (fun z1 hS2 => k H1 locs1 la ?_ hS2 hL)
            refine am_Wd_set (p := q) (sh := (t0, n0, fs.set i.toNatClampNeg (.ref q0))) hW z1 (am_wd_lt hp) rfl (fun q' hq' => ⟨rfl, rfl⟩) ?_ hP1
            have e3 := am_refs_set (K := K) (q := q0) hlt
            rw [am_eta_at hW hp0] at e3
            rw [← e3]
            rcases ht with rfl | rfl <;> rfl
          rcases ht with rfl | rfl
          · cases hc0
            exact va_astq (D := K.2.1) (cl := kcs) (r := ("FriezePolygons$Row", kc7, 4)) cx.1 cx.2.1 cx.2.2.2.2.2.1 hW.2.2 (am_ws_D K σ) (am_S_self hS) q 3 q0 7 (am_ws_at K hp) rfl (am_ws_at K hp0) rfl hin hd (fun H1 locs1 hP1 _ hS1 => fin H1 locs1 hP1 hS1)
          · cases hc0
            exact va_astq (D := K.2.1) (cl := kcs) (r := ("FriezePolygons$Figure", kc3, 4)) cx.1 cx.2.1 cx.2.2.2.2.2.1 hW.2.2 (am_ws_D K σ) (am_S_self hS) q 4 q0 3 (am_ws_at K hp) rfl (am_ws_at K hp0) rfl hin hd (fun H1 locs1 hP1 _ hS1 => fin H1 locs1 hP1 hS1)
        · cases hw
      · cases hw
    · cases h
  · cases h
/-! new cells -/
theorem am_S_push {K : am_Kx} {H0 H H1 : Heap} {locs : List Loc} (hS : va_S (am_A K) H0 H locs) (z : H1.size = H.size + 1) (o : ∀ q : Nat, q < H.size → H1[q]? = H[q]?) : va_S (am_A K) H0 H1 locs :=
  ⟨Nat.le_trans hS.1 (by omega), fun x h1 h2 => (o x (Nat.lt_of_lt_of_le h1 hS.1)).trans (hS.2.1 x h1 h2), hS.2.2⟩
theorem am_eta_new {K : am_Kx} {σ : am_Sg} {H : Heap} (h : am_Wd K σ H) (hl : σ.1.length < 1000) : am_eta K σ.1.length = H.size := by
  rw [h.1]
  exact am_eta_lt (show σ.1.length < 1000000 by omega)
theorem am_dv_default {T : u_T} {k : Nat} (h : am_dv (kty T k) = .null → defaultValue (kty T k) = .null) : defaultValue (kty T k) = am_dv (kty T k) := by
  revert h
  generalize kty T k = ty
  intro h
  cases ty <;> first | rfl | exact h rfl
/-- the fields of our classes are ints, booleans and references -/
def am_kind (ty : FieldType) : Bool := match ty with
  | .int => true
  | .boolean => true
  | .object _ => true
  | .array _ => true
  | _ => false
theorem am_kinds : ∀ (ci : Nat) (q : vw_C), kcs[ci]? = some q → ∀ k, k < q.2.2 → am_kind (kty q.2.1 k) = true := by
  intro ci q h
  match ci, h with
  | 0, h => cases h; decide +kernel
  | 1, h => cases h; decide +kernel
  | 2, h => cases h; decide +kernel
  | 3, h => cases h; decide +kernel
  | 4, h => cases h; decide +kernel
  | 5, h => cases h; decide +kernel
  | 6, h => cases h; decide +kernel
  | 7, h => cases h; decide +kernel
  | 8, h => cases h; decide +kernel
  | 9, h => cases h; decide +kernel
  | 10, h => cases h; decide +kernel
  | n + 11, h => simp [kcs] at h
theorem am_dv_eq {ty : FieldType} (h : am_kind ty = true) : defaultValue ty = am_dv ty := by
  cases ty <;> first | rfl | simp [am_kind] at h
theorem am_step_new {x : Nat} {n a b po : Nat} {z : Int} {pc1 : Nat} {ls1 : am_Lc} {st1 : List Value} {σ1 : am_Sg} (hd : decode r.2.1 pc = .ok (.new x, n)) (ho : am_okE nw r.1.cls (.new x, n, a, b, po, z))
    (h : am_step ro (.new x, n, a, b, po, z) (pc, ls, st, σ) = some (pc1, ls1, st1, σ1)) (hk : am_AW nw ro d r pc1 ls1 st1 σ1 v σ') : am_AW nw ro d r pc ls st σ v σ' := by
  simp only [am_step] at h
  split at h
  · rename_i hn
    cases hn
    obtain ⟨σ2, hw, e2⟩ := Option.map_eq_some_iff.mp h
    cases e2
    unfold am_new at hw
    split at hw
    · rename_i qc hc
      split at hw
      · cases hw
      · rename_i hlt
        cases hw
        have hlt : σ.1.length < 1000 := by omega
        obtain ⟨qc', hc', hlink⟩ := ho
        cases hc.symm.trans hc'
        have hk0 := kcs_ok a qc hc
        have hsl : am_sl1 (0, a, am_dflt qc) = qc.2.2 := by simp [am_sl1, am_dflt]
        refine am_AW.via hk (by simp) (by simp only [am_sl_push]; omega) (fun K hro p l e R s m args below meth c Q cx H locs nc ns la b1 b2 hW hz hS hL k => ?_)
        simp only [am_sl_push, hsl, List.length_append, List.length_cons, List.length_nil, Nat.add_sub_cancel_left] at b1 b2 k
        have hKn := cx.2.2.2.2.2.1.1 a _ hc
        refine W.newcK cx.1 cx.2.1 cx.2.2.2.1 (cx.2.2.2.2.1 _ hlink) (cx.2.2.2.2.1 _ (am_tb_in hk0.2.2.2.1 rfl)) (cx.2.2.2.2.1 _ (am_tb_in hk0.2.2.2.2.1 rfl)) rfl hd (by omega) b2 hKn.2.1 rfl (fun H1 kC hkC e1 z1 o1 => ?_)
        have hS1 := am_S_push hS z1 o1
        have e4 : am_cv K (.ref σ.1.length) = .ref H.size := by
          show Value.ref _ = _
          rw [am_eta_new hW hlt]
        have k2 := k H1 locs la (am_Wd_push (sh := (0, a, am_dflt qc)) hW hlt z1 o1 rfl (fun q hq => ⟨am_up_o (Nat.ne_of_lt hq), rfl⟩) ?_) hS1 hL
        · rw [List.map_cons, e4] at k2
          exact k2
        · refine ⟨qc, hc, (u_born (kty qc.2.1) cx.2.2.2.2.1 (am_hin hc) hKn hkC e1 hk0.2.1).to ?_⟩
          intro j hj
          rw [am_dv_eq (am_kinds a qc hc j hj)]
          have e5 : ((am_dflt qc).mapIdx (am_fv K (va_up σ.2.1 σ.1.length (fun _ => (0 : Int32)) σ.1.length)))[j]? = some (am_dv (kty qc.2.1 j)) := by
            simp only [List.getElem?_mapIdx, am_dflt, List.getElem?_map, List.getElem?_range hj, Option.map_some, am_up_s]
            have := am_kinds a qc hc j hj
            revert this
            generalize kty qc.2.1 j = ty
            intro this
            cases ty <;> first | rfl | simp [am_kind] at this
          show _ = vp_V ((am_dflt qc).mapIdx (am_fv K (va_up σ.2.1 σ.1.length (fun _ => (0 : Int32)) σ.1.length))) j
          simp [vp_V, List.getD, e5]
    · cases hw
  · cases h
end AMI
