/-! ===== one instruction: fields, arrays, new cells ===== -/
section AMH
variable {nw : List Cond} {ro : am_Ro} {d : Nat} {r : am_Mr} {pc : Nat} {ls : am_Lc} {st : List Value} {σ : am_Sg} {v : Option Value} {σ' : am_Sg}
theorem am_step_getfield {x : Nat} {n a b po : Nat} {z : Int} {pc1 : Nat} {ls1 : am_Lc} {st1 : List Value} {σ1 : am_Sg} (hd : decode r.2.1 pc = .ok (.getfield x, n)) (ho : am_okE nw r.1.cls (.getfield x, n, a, b, po, z))
    (h : am_step ro (.getfield x, n, a, b, po, z) (pc, ls, st, σ) = some (pc1, ls1, st1, σ1)) (hk : am_AW nw ro d r pc1 ls1 st1 σ1 v σ') : am_AW nw ro d r pc ls st σ v σ' := by
  simp only [am_step] at h
  split at h
  · rename_i q t
    split at h
    · rename_i hn
      cases hn
      obtain ⟨w, hw, e2⟩ := Option.map_eq_some_iff.mp h
      cases e2
      obtain ⟨fs, hp, hv⟩ := am_get_inv hw
      obtain ⟨qc, hc, hb, hlink⟩ := ho
      refine am_AW.pure hk (fun K hro p l e R s m args below meth c Q cx H locs nc ns la hW hS hL k => ?_)
      have he := am_ws_at K hp
      have hv2 : (fs.mapIdx (am_fv K (σ.2.1 q)))[b]? = some (am_cv K w) := by
        rcases hv with ⟨y, h1, rfl⟩ | ⟨y, h1, rfl⟩ <;> simp [List.getElem?_mapIdx, h1, am_fv, am_cv]
      have hl : (Cond.fieldLink r.1.cls x qc.1 (qc.2.1 b).2.1 (qc.2.1 b).2.2.1).before args s = true := cx.2.2.2.2.1 _ hlink
      show W p l e R s m args below meth c H locs nc ns Q (F0 m pc la (.ref (am_eta K q) :: t.map (am_cv K)))
      rw [am_eta_at hW hp]
      exact va_get (D := K.2.1) (cl := kcs) (C := qc.1) (T := qc.2.1) (N := qc.2.2) (ref := qc.1) cx.1 cx.2.1 cx.2.2.2.2.1 (am_hin hc) cx.2.2.2.1 cx.2.2.2.2.2.1 hW.2.2 q he hc b hb hl (fun y hy => by rw [am_decl hc hb] at hy; exact hy) hv2 hd k
    · cases h
  · cases h
theorem am_fit_n {ty : FieldType} {y : Int32} (h : am_fit ty y = true) : narrow ty (.int y) = .int y ∧ fits ty (.int y) = true := by
  cases ty <;> simp [am_fit] at h
  all_goals first
    | exact ⟨rfl, rfl⟩
    | (rcases h with rfl | rfl <;> exact ⟨rfl, rfl⟩)
theorem am_isR_n {ty : FieldType} {q : Nat} (h : am_isR ty = true) : narrow ty (.ref q) = .ref q ∧ fits ty (.ref q) = true := by
  cases ty <;> simp [am_isR] at h <;> exact ⟨rfl, rfl⟩
theorem am_up_o {α : Type} {f : Nat → α} {p q : Nat} {x : α} (h : q ≠ p) : va_up f p x q = f q := if_neg h
theorem am_up_s {α : Type} {f : Nat → α} {p : Nat} {x : α} : va_up f p x p = x := if_pos rfl
theorem am_set_self {S : List am_Sh} {p : Nat} {sh : am_Sh} (h : S[p]? = some sh) : S = S.set p sh := by
  obtain ⟨h1, rfl⟩ := List.getElem?_eq_some_iff.mp h
  exact (List.set_getElem_self h1).symm
theorem am_step_putfield {x : Nat} {n a b po : Nat} {z : Int} {pc1 : Nat} {ls1 : am_Lc} {st1 : List Value} {σ1 : am_Sg} (hd : decode r.2.1 pc = .ok (.putfield x, n)) (ho : am_okE nw r.1.cls (.putfield x, n, a, b, po, z)) (hin : ∀ q : vw_C, kcs[a]? = some q → (q.2.1 b).2.2.2 = true → r.1.name = "<init>")
    (h : am_step ro (.putfield x, n, a, b, po, z) (pc, ls, st, σ) = some (pc1, ls1, st1, σ1)) (hk : am_AW nw ro d r pc1 ls1 st1 σ1 v σ') : am_AW nw ro d r pc ls st σ v σ' := by
  simp only [am_step] at h
  split at h
  · rename_i y q t qc hc
    split at h
    · rename_i hn
      obtain ⟨hn, hb⟩ := hn
      cases hn
      obtain ⟨σ2, hw, e2⟩ := Option.map_eq_some_iff.mp h
      cases e2
      obtain ⟨fs, hp, hv⟩ := am_put_inv hw
      obtain ⟨qc', hc', -, hlink, hfin⟩ := ho
      cases hc.symm.trans hc'
      have hk0 := kcs_ok a qc hc
      have hlen : σ1.1.length = σ.1.length := by
        rcases hv with ⟨_, _, -, -, -, rfl⟩ | ⟨_, -, -, -, rfl⟩ <;> simp [am_putI]
      have hsl : am_slots σ1.1 = am_slots σ.1 := by
        rcases hv with ⟨_, _, -, -, -, rfl⟩ | ⟨_, -, -, -, rfl⟩
        · rfl
        · exact am_sl_set hp (by simp [am_sl1])
      refine am_AW.put hk hlen hsl (fun K hro p l e R s m args below meth c Q cx H locs nc ns la hW hz hS hL k => ?_)
      have he := am_ws_at K hp
      have hl : (Cond.fieldLink r.1.cls x qc.1 (qc.2.1 b).2.1 (qc.2.1 b).2.2.1).before args s = true := cx.2.2.2.2.1 _ hlink
      have hfl : b < (fs.mapIdx (am_fv K (σ.2.1 q))).length := by
        rw [List.length_mapIdx]
        rcases hv with ⟨_, _, h1, -⟩ | ⟨_, h1, -⟩ <;> exact (List.getElem?_eq_some_iff.mp h1).1
      have hnf : narrow (kty qc.2.1 b) (am_cv K y) = am_cv K y ∧ fits (kty qc.2.1 b) (am_cv K y) = true := by
        rcases hv with ⟨_, _, -, rfl, h1, -⟩ | ⟨_, -, rfl, h1, -⟩
        · exact am_fit_n h1
        · exact am_isR_n h1
      have key : ∀ (H1 : Heap) (locs1 : List Loc), va_P K.2.1 kcs ((am_ws K σ).set q (K.1 + q, .inr (a, (fs.mapIdx (am_fv K (σ.2.1 q))).set b (am_cv K y)))) H1 → va_S (am_A K) H H1 locs1 → W p l e R s m args below meth c H1 locs1 nc ns Q (F0 m (pc + 3) la (st1.map (am_cv K))) := by
        intro H1 locs1 hP1 hS1
        refine am_W_sz hz hS hS1 (fun z1 hS2 => k H1 locs1 la ?_ hS2 hL)
        rcases hv with ⟨z0, y0, h1, rfl, h3, rfl⟩ | ⟨q0, h1, rfl, h3, rfl⟩
        · refine am_Wd_set (p := q) (sh := (0, a, fs)) hW z1 (am_wd_lt hp) (am_set_self hp) (fun q' hq' => ⟨am_up_o hq', rfl⟩) ?_ hP1
          show Sum.inr (a, fs.mapIdx (am_fv K (va_up σ.2.1 q (upd (σ.2.1 q) b y0) q))) = _
          rw [am_up_s, am_fs_int h1]
          rfl
        · refine am_Wd_set (p := q) (sh := (0, a, fs.set b (.ref q0))) hW z1 (am_wd_lt hp) rfl (fun q' hq' => ⟨rfl, rfl⟩) ?_ hP1
          show Sum.inr (a, (fs.set b (.ref q0)).mapIdx (am_fv K (σ.2.1 q))) = _
          rw [am_fs_ref]
          rfl
      show W p l e R s m args below meth c H locs nc ns Q (F0 m pc la (am_cv K y :: .ref (am_eta K q) :: st1.map (am_cv K)))
      rw [am_eta_at hW hp]
      by_cases hf : (qc.2.1 b).2.2.2 = true
      · exact va_putF (D := K.2.1) (cl := kcs) (C := qc.1) (T := qc.2.1) (N := qc.2.2) (ref := qc.1) (ty := kty qc.2.1 b) cx.1 cx.2.1 cx.2.2.2.2.1 (am_hin hc) (kty qc.2.1) hk0.2.1 hk0.2.2.1 cx.2.2.2.1 cx.2.2.2.2.2.1 hW.2.2 (am_ws_D K σ) (am_S_self hS) q he hc b hb hl (fun y hy => by rw [am_decl hc hb] at hy; exact hy) hf (cx.2.2.2.2.2.2.2.2.2.1 (hin qc hc hf)) ((am_decl hc hb).trans (hfin hf).symm) (hk0.2.1 b hb) hnf.1 hnf.2 hfl hd (fun H1 locs1 hP1 _ hS1 => key H1 locs1 hP1 hS1)
      · have hf : (qc.2.1 b).2.2.2 = false := by simpa using hf
        exact va_put (D := K.2.1) (cl := kcs) (C := qc.1) (T := qc.2.1) (N := qc.2.2) (ref := qc.1) (ty := kty qc.2.1 b) cx.1 cx.2.1 cx.2.2.2.2.1 (am_hin hc) (kty qc.2.1) hk0.2.1 hk0.2.2.1 cx.2.2.2.1 cx.2.2.2.2.2.1 hW.2.2 (am_ws_D K σ) (am_S_self hS) q he hc b hb hl (fun y hy => by rw [am_decl hc hb] at hy; exact hy) hf (hk0.2.1 b hb) hnf.1 hnf.2 hfl hd (fun H1 locs1 hP1 _ hS1 => key H1 locs1 hP1 hS1)
    · cases h
  · cases h
theorem am_step_getstatic {x : Nat} {n a b po : Nat} {z : Int} {pc1 : Nat} {ls1 : am_Lc} {st1 : List Value} {σ1 : am_Sg} (hd : decode r.2.1 pc = .ok (.getstatic x, n)) (ho : am_okE nw r.1.cls (.getstatic x, n, a, b, po, z))
    (h : am_step ro (.getstatic x, n, a, b, po, z) (pc, ls, st, σ) = some (pc1, ls1, st1, σ1)) (hk : am_AW nw ro d r pc1 ls1 st1 σ1 v σ') : am_AW nw ro d r pc ls st σ v σ' := by
  obtain ⟨e1, e2⟩ := am_push_inv (h : am_push _ _ _ _ = _)
  cases e2; cases (e1 : n = _)
  refine am_AW.pure hk (fun K hro p l e R s m args below meth c Q cx H locs nc ns la hW hS hL k => ?_)
  have h1 : am_cv K (.ref am_rB) = .ref (K.2.2.2.1 0) := by simp [am_cv, am_eta]
  refine va_getsN (C := "FriezePolygons") (ref := "FriezePolygons") cx.1 cx.2.1 cx.2.2.2.2.2.2.1.2 hS cx.2.2.2.1 (va_Nw.use rfl (cx.2.2.2.2.2.2.2.1 _ ho)) (fun _ h9 => h9) hd ?_
  have k : W p l e R s m args below meth c H locs nc ns Q (F0 m (pc + 3) la (am_cv K (.ref am_rB) :: st.map (am_cv K))) := k
  rw [h1] at k
  exact k
theorem am_ro_eta {K : am_Kx} {p : Nat} (h : am_rB ≤ p) : am_eta K p = K.2.2.2.1 (p - am_rB) := if_pos h
theorem am_step_iaload {n a b po : Nat} {z : Int} {pc1 : Nat} {ls1 : am_Lc} {st1 : List Value} {σ1 : am_Sg} (hd : decode r.2.1 pc = .ok (.iaload, n))
    (h : am_step ro (.iaload, n, a, b, po, z) (pc, ls, st, σ) = some (pc1, ls1, st1, σ1)) (hk : am_AW nw ro d r pc1 ls1 st1 σ1 v σ') : am_AW nw ro d r pc ls st σ v σ' := by
  simp only [am_step] at h
  split at h
  · rename_i i q t
    split at h
    · rename_i hn
      cases hn
      obtain ⟨w, hw, e2⟩ := Option.map_eq_some_iff.mp h
      cases e2
      refine am_AW.pure hk (fun K hro p l e R s m args below meth c Q cx H locs nc ns la hW hS hL k => ?_)
      show W p l e R s m args below meth c H locs nc ns Q (F0 m pc la (.int i :: .ref (am_eta K q) :: t.map (am_cv K)))
      unfold am_ild at hw
      split at hw
      · rename_i hq
        split at hw
        · rename_i hi
          cases hw
          simp only [Bool.and_eq_true, decide_eq_true_eq] at hi
          rw [am_ro_eta hq]
          obtain ⟨h1, h2⟩ := cx.2.2.2.2.2.2.1.1 _ hi.2
          subst hro
          exact va_sld cx.1 cx.2.1 h1 (Nat.lt_of_lt_of_le h2 cx.2.2.2.2.2.2.2.2.2.2) (fun h3 => absurd h2 (Nat.not_lt.mpr h3)) hS (am_in_vp hi.1) hd k
        · cases hw
      · split at hw
        · rename_i n0 fs hp
          split at hw
          · rename_i hi
            cases hw
            rw [am_eta_at hW hp]
            exact va_iald (D := K.2.1) (cl := kcs) cx.1 cx.2.1 cx.2.2.2.2.2.1 hW.2.2 q 0 (am_ws_at K hp) rfl (am_in_vp hi) hd k
          · cases hw
        · cases hw
    · cases h
  · cases h
theorem am_step_xaload {i0 : Instr} {n a b po : Nat} {z : Int} {pc1 : Nat} {ls1 : am_Lc} {st1 : List Value} {σ1 : am_Sg} (hi0 : i0 = .baload ∨ i0 = .laload) (hd : decode r.2.1 pc = .ok (i0, n))
    (h : am_step ro (i0, n, a, b, po, z) (pc, ls, st, σ) = some (pc1, ls1, st1, σ1)) (hk : am_AW nw ro d r pc1 ls1 st1 σ1 v σ') : am_AW nw ro d r pc ls st σ v σ' := by
  rcases hi0 with rfl | rfl
  · simp only [am_step] at h
    split at h
    · rename_i i q t
      split at h
      · rename_i hn
        cases hn
        obtain ⟨w, hw, e2⟩ := Option.map_eq_some_iff.mp h
        cases e2
        refine am_AW.pure hk (fun K hro p l e R s m args below meth c Q cx H locs nc ns la hW hS hL k => ?_)
        show W p l e R s m args below meth c H locs nc ns Q (F0 m pc la (.int i :: .ref (am_eta K q) :: t.map (am_cv K)))
        unfold am_zld at hw
        split at hw
        · rename_i n0 fs hp
          split at hw
          · rename_i hi
            cases hw
            rw [am_eta_at hW hp]
            exact va_zald (D := K.2.1) (cl := kcs) cx.1 cx.2.1 cx.2.2.2.2.2.1 hW.2.2 q 2 (am_ws_at K hp) rfl (am_in_vp hi) hd k
          · cases hw
        · cases hw
      · cases h
    · cases h
  · simp only [am_step] at h
    split at h
    · rename_i i q t
      split at h
      · rename_i hn
        cases hn
        obtain ⟨w, hw, e2⟩ := Option.map_eq_some_iff.mp h
        cases e2
        refine am_AW.pure hk (fun K hro p l e R s m args below meth c Q cx H locs nc ns la hW hS hL k => ?_)
        show W p l e R s m args below meth c H locs nc ns Q (F0 m pc la (.int i :: .ref (am_eta K q) :: t.map (am_cv K)))
        unfold am_lld at hw
        split at hw
        · rename_i n0 fs hp
          split at hw
          · rename_i hi
            cases hw
            rw [am_eta_at hW hp]
            exact va_lald (D := K.2.1) (cl := kcs) cx.1 cx.2.1 cx.2.2.2.2.2.1 hW.2.2 q 1 (am_ws_at K hp) rfl (am_in_vp hi) hd k
          · cases hw
        · cases hw
      · cases h
    · cases h
theorem am_step_aaload {n a b po : Nat} {z : Int} {pc1 : Nat} {ls1 : am_Lc} {st1 : List Value} {σ1 : am_Sg} (hd : decode r.2.1 pc = .ok (.aaload, n))
    (h : am_step ro (.aaload, n, a, b, po, z) (pc, ls, st, σ) = some (pc1, ls1, st1, σ1)) (hk : am_AW nw ro d r pc1 ls1 st1 σ1 v σ') : am_AW nw ro d r pc ls st σ v σ' := by
  simp only [am_step] at h
  split at h
  · rename_i i q t
    split at h
    · rename_i hn
      cases hn
      obtain ⟨w, hw, e2⟩ := Option.map_eq_some_iff.mp h
      cases e2
      refine am_AW.pure hk (fun K hro p l e R s m args below meth c Q cx H locs nc ns la hW hS hL k => ?_)
      show W p l e R s m args below meth c H locs nc ns Q (F0 m pc la (.int i :: .ref (am_eta K q) :: t.map (am_cv K)))
      unfold am_ald at hw
      split at hw
      · rename_i n0 fs hp
        split at hw
        · rename_i hi
          split at hw
          · rename_i q0 hq0
            cases hw
            rw [am_eta_at hW hp]
            refine va_aldq (D := K.2.1) (cl := kcs) cx.1 cx.2.1 cx.2.2.2.2.2.1 hW.2.2 q 3 (am_ws_at K hp) rfl (am_in_vp hi) hd ?_
            have e3 : va_rf (am_or K (fs.getD i.toNatClampNeg .null)) = am_cv K (.ref w) := by simp [List.getD, hq0, am_or, va_rf, am_cv]
            rw [e3]
            exact k
          · cases hw
        · cases hw
      · rename_i n0 fs hp
        split at hw
        · rename_i hi
          split at hw
          · rename_i q0 hq0
            cases hw
            rw [am_eta_at hW hp]
            refine va_aldq (D := K.2.1) (cl := kcs) cx.1 cx.2.1 cx.2.2.2.2.2.1 hW.2.2 q 4 (am_ws_at K hp) rfl (am_in_vp hi) hd ?_
            have e3 : va_rf (am_or K (fs.getD i.toNatClampNeg .null)) = am_cv K (.ref w) := by simp [List.getD, hq0, am_or, va_rf, am_cv]
            rw [e3]
            exact k
          · cases hw
        · cases hw
      · cases hw
    · cases h
  · cases h
theorem am_step_arraylength {n a b po : Nat} {z : Int} {pc1 : Nat} {ls1 : am_Lc} {st1 : List Value} {σ1 : am_Sg} (hd : decode r.2.1 pc = .ok (.arraylength, n))
    (h : am_step ro (.arraylength, n, a, b, po, z) (pc, ls, st, σ) = some (pc1, ls1, st1, σ1)) (hk : am_AW nw ro d r pc1 ls1 st1 σ1 v σ') : am_AW nw ro d r pc ls st σ v σ' := by
  simp only [am_step] at h
  split at h
  · rename_i q t
    split at h
    · rename_i hn
      cases hn
      obtain ⟨w, hw, e2⟩ := Option.map_eq_some_iff.mp h
      cases e2
      refine am_AW.pure hk (fun K hro p l e R s m args below meth c Q cx H locs nc ns la hW hS hL k => ?_)
      show W p l e R s m args below meth c H locs nc ns Q (F0 m pc la (.ref (am_eta K q) :: t.map (am_cv K)))
      unfold am_len at hw
      split at hw
      · rename_i hq
        split at hw
        · rename_i hi
          cases hw
          rw [am_ro_eta hq]
          obtain ⟨h1, h2⟩ := cx.2.2.2.2.2.2.1.1 _ hi
          subst hro
          exact va_slen cx.1 cx.2.1 h1 (Nat.lt_of_lt_of_le h2 cx.2.2.2.2.2.2.2.2.2.2) (fun h3 => absurd h2 (Nat.not_lt.mpr h3)) hS hd k
        · cases hw
      · split at hw
        · rename_i t0 n0 fs hp
          split at hw
          · rename_i hi
            cases hw
            rw [am_eta_at hW hp]
            rcases (show t0 = 1 ∨ t0 = 2 ∨ t0 = 3 ∨ t0 = 4 ∨ t0 = 5 by omega) with rfl | rfl | rfl | rfl | rfl
            · exact va_alen (D := K.2.1) (cl := kcs) cx.1 cx.2.1 cx.2.2.2.2.2.1 hW.2.2 q 0 (am_ws_at K hp) rfl rfl hd k
            · exact va_alen (D := K.2.1) (cl := kcs) cx.1 cx.2.1 cx.2.2.2.2.2.1 hW.2.2 q 1 (am_ws_at K hp) rfl rfl hd k
            · exact va_alen (D := K.2.1) (cl := kcs) cx.1 cx.2.1 cx.2.2.2.2.2.1 hW.2.2 q 2 (am_ws_at K hp) rfl rfl hd k
            · exact va_alen (D := K.2.1) (cl := kcs) cx.1 cx.2.1 cx.2.2.2.2.2.1 hW.2.2 q 3 (am_ws_at K hp) rfl rfl hd k
            · exact va_alen (D := K.2.1) (cl := kcs) cx.1 cx.2.1 cx.2.2.2.2.2.1 hW.2.2 q 4 (am_ws_at K hp) rfl rfl hd k
          · cases hw
        · cases hw
    · cases h
  · cases h
end AMH
