/-! ===== runs of instructions, branches, switches, returns, calls ===== -/
section AMK
variable {nw : List Cond} {ro : am_Ro} {d : Nat} {r : am_Mr} {pc : Nat} {ls : am_Lc} {st : List Value} {σ : am_Sg} {v : Option Value} {σ' : am_Sg}
/-- MANY INSTRUCTIONS -/
theorem am_AW.run (hbs : am_base) (hM : am_okM nw r) (hd1 : 1 ≤ d) (n : Nat) {pc1 : Nat} {ls1 : am_Lc} {st1 : List Value} {σ1 : am_Sg} (h : am_run ro r.2.2.2.2 n (pc, ls, st, σ) = some (pc1, ls1, st1, σ1)) (hk : am_AW nw ro d r pc1 ls1 st1 σ1 v σ') : am_AW nw ro d r pc ls st σ v σ' := by
  induction n generalizing pc ls st σ with
  | zero =>
    cases h
    exact hk
  | succ n ih =>
    simp only [am_run] at h
    split at h
    · rename_i e he
      split at h
      · rename_i c' hc
        obtain ⟨p2, l2, s2, g2⟩ := c'
        exact am_AW.step hbs hM hd1 he hc (ih h)
      · cases h
    · cases h
/-- A BRANCH -/
theorem am_AW.br (hM : am_okM nw r) {e : am_En} {b : Bool} {t f : Nat} {st1 : List Value} (he : r.2.2.2.2[pc]? = some (some e)) (h : am_br e pc st = some (b, t, f, st1)) (kt : b = true → am_AW nw ro d r t ls st1 σ v σ') (kf : b = false → am_AW nw ro d r f ls st1 σ v σ') : am_AW nw ro d r pc ls st σ v σ' := by
  obtain ⟨hd, -, -⟩ := hM pc e he
  obtain ⟨i, n, a, b0, po, z⟩ := e
  unfold am_br at h
  split at h
  · rename_i k o y x t0 hi
    cases (hi : i = _)
    split at h
    · rename_i hn
      obtain ⟨hn, hp⟩ := hn
      cases (hn : n = 3)
      have ht := (Int.toNat_of_nonneg hp).symm
      cases h
      cases hb : am_cmp k x y with
      | true =>
        refine am_AW.pure (kt hb) (fun K hro p l e R s m args below meth c Q cx H locs nc ns la hW hS hL k' => ?_)
        cases k <;> simp [am_cmp] at hb
        · exact lv_icmp_eq cx.1 cx.2.1 hd ht (fun _ => k') (fun q => absurd hb q)
        · exact lv_icmp_ne cx.1 cx.2.1 hd ht (fun _ => k') (fun q => absurd q hb)
        · exact lv_icmp_lt cx.1 cx.2.1 hd ht (fun _ => k') (fun q => absurd hb q)
        · exact lv_icmp_ge cx.1 cx.2.1 hd ht (fun _ => k') (fun q => absurd hb q)
        · exact lv_icmp_gt cx.1 cx.2.1 hd ht (fun _ => k') (fun q => absurd hb q)
        · exact lv_icmp_le cx.1 cx.2.1 hd ht (fun _ => k') (fun q => absurd hb q)
      | false =>
        refine am_AW.pure (kf hb) (fun K hro p l e R s m args below meth c Q cx H locs nc ns la hW hS hL k' => ?_)
        cases k <;> simp only [am_cmp, Bool.not_eq_false', decide_eq_false_iff_not, decide_eq_true_eq] at hb
        · exact lv_icmp_eq cx.1 cx.2.1 hd ht (fun q => absurd q hb) (fun _ => k')
        · exact lv_icmp_ne cx.1 cx.2.1 hd ht (fun q => absurd hb q) (fun _ => k')
        · exact lv_icmp_lt cx.1 cx.2.1 hd ht (fun q => absurd q hb) (fun _ => k')
        · exact lv_icmp_ge cx.1 cx.2.1 hd ht (fun q => absurd q hb) (fun _ => k')
        · exact lv_icmp_gt cx.1 cx.2.1 hd ht (fun q => absurd q hb) (fun _ => k')
        · exact lv_icmp_le cx.1 cx.2.1 hd ht (fun q => absurd q hb) (fun _ => k')
    · cases h
  · rename_i k o x t0 hi
    cases (hi : i = _)
    split at h
    · rename_i hn
      obtain ⟨hn, hp⟩ := hn
      cases (hn : n = 3)
      have ht := (Int.toNat_of_nonneg hp).symm
      cases h
      cases hb : am_cmp k x 0 with
      | true =>
        refine am_AW.pure (kt hb) (fun K hro p l e R s m args below meth c Q cx H locs nc ns la hW hS hL k' => ?_)
        cases k <;> simp only [am_cmp, Bool.not_eq_true', decide_eq_false_iff_not, decide_eq_true_eq] at hb
        · exact lv_if_eq cx.1 cx.2.1 hd ht (fun _ => k') (fun q => absurd hb q)
        · exact lv_if_ne cx.1 cx.2.1 hd ht (fun _ => k') (fun q => absurd q hb)
        · exact lv_if_lt cx.1 cx.2.1 hd ht (fun _ => k') (fun q => absurd hb q)
        · exact lv_if_ge cx.1 cx.2.1 hd ht (fun _ => k') (fun q => absurd hb q)
        · exact lv_if_gt cx.1 cx.2.1 hd ht (fun _ => k') (fun q => absurd hb q)
        · exact lv_if_le cx.1 cx.2.1 hd ht (fun _ => k') (fun q => absurd hb q)
      | false =>
        refine am_AW.pure (kf hb) (fun K hro p l e R s m args below meth c Q cx H locs nc ns la hW hS hL k' => ?_)
        cases k <;> simp only [am_cmp, Bool.not_eq_false', decide_eq_false_iff_not, decide_eq_true_eq] at hb
        · exact lv_if_eq cx.1 cx.2.1 hd ht (fun q => absurd q hb) (fun _ => k')
        · exact lv_if_ne cx.1 cx.2.1 hd ht (fun q => absurd hb q) (fun _ => k')
        · exact lv_if_lt cx.1 cx.2.1 hd ht (fun q => absurd q hb) (fun _ => k')
        · exact lv_if_ge cx.1 cx.2.1 hd ht (fun q => absurd q hb) (fun _ => k')
        · exact lv_if_gt cx.1 cx.2.1 hd ht (fun q => absurd q hb) (fun _ => k')
        · exact lv_if_le cx.1 cx.2.1 hd ht (fun q => absurd q hb) (fun _ => k')
    · cases h
  · cases h
/-- A SWITCH -/
theorem am_AW.sw (hM : am_okM nw r) {e : am_En} {x : Int32} {t : Nat} {st1 : List Value} (he : r.2.2.2.2[pc]? = some (some e)) (h : am_sw e pc x = some t) (k : am_AW nw ro d r t ls st1 σ v σ') : am_AW nw ro d r pc ls (.int x :: st1) σ v σ' := by
  obtain ⟨hd, -, -⟩ := hM pc e he
  obtain ⟨i, n, a, b0, po, z⟩ := e
  unfold am_sw at h
  split at h
  · rename_i dd lo hi offs hi0
    cases (hi0 : i = _)
    split at h
    · rename_i hc
      split at h
      · rename_i hp
        cases h
        refine am_AW.pure k (fun K hro p l e R s m args below meth c Q cx H locs nc ns la hW hS hL k' => ?_)
        exact lv_tableOut cx.1 cx.2.1 hd hc (Int.toNat_of_nonneg hp).symm k'
      · cases h
    · rename_i hc
      split at h
      · rename_i o ho
        split at h
        · rename_i hp
          cases h
          refine am_AW.pure k (fun K hro p l e R s m args below meth c Q cx H locs nc ns la hW hS hL k' => ?_)
          exact lv_tableIn cx.1 cx.2.1 hd (fun q => hc (Or.inl q)) (fun q => hc (Or.inr q)) ho (Int.toNat_of_nonneg hp).symm k'
        · cases h
      · cases h
  · rename_i dd ps hi0
    cases (hi0 : i = _)
    split at h
    · rename_i hp
      cases h
      refine am_AW.pure k (fun K hro p l e R s m args below meth c Q cx H locs nc ns la hW hS hL k' => ?_)
      exact lv_lookup cx.1 cx.2.1 hd hp.1 rfl (Int.toNat_of_nonneg hp.2).symm k'
    · cases h
  · cases h
/-- A RETURN -/
theorem am_AW.ret (hM : am_okM nw r) {e : am_En} (he : r.2.2.2.2[pc]? = some (some e)) (hi : e.1 = am_ri v) (hn : e.2.1 = 1) (hr : am_rok r.2.2.2.1 v = true) : am_AW nw ro d r pc ls v.toList σ v σ := by
  obtain ⟨hd, -, -⟩ := hM pc e he
  refine ⟨Nat.le_refl _, Nat.le_refl _, fun K hro p l e R s m args below meth c Q cx H locs nc ns la b1 b2 hW hz hS hL kr => ?_⟩
  have h1 := kr H locs pc la (by rw [hd, hi, hn]) hr hW hS
  rw [Nat.sub_self, Nat.sub_self] at h1
  exact h1
end AMK
/-! a method -/
def am_rm (d mc ms : Nat) : Room := { frames := d, cells := mc, slots := ms, locals := 38 * d }
def am_Good (K : am_Kx) (nw : List Cond) (σ : am_Sg) (U : State) : Prop := am_Wd K σ U.heap ∧ va_K K.2.1 kcs (am_tys K) U ∧ am_RO K U U.heap ∧ ∀ w ∈ nw, va_Nw w U
def am_Q (K : am_Kx) (v : Option Value) (σ' : am_Sg) : Array Value → State → Outcome → State → Prop := match v with
  | none => va_Qv (S := Unit) (fun _ => True) (fun _ t => am_Wd K σ' t.heap) (am_A K)
  | some (.int x) => va_Qi (S := Unit) (fun y _ => y = x) (fun _ t => am_Wd K σ' t.heap) (am_A K)
  | some (.long x) => va_Ql (S := Unit) (fun y _ => y = x) (fun _ t => am_Wd K σ' t.heap) (am_A K)
  | _ => fun _ _ _ _ => False
/-- a method, called with av, ends with v and the cells σ' -/
def am_Mt (nw : List Cond) (ro : am_Ro) (d : Nat) (r : am_Mr) (av : List Value) (σ : am_Sg) (v : Option Value) (σ' : am_Sg) : Prop :=
  σ.1.length ≤ σ'.1.length ∧ am_slots σ.1 ≤ am_slots σ'.1 ∧ ∀ (l : Launch) (K : am_Kx), K.2.2.2.2 = ro →
    Met l r.1 (Cond.code r.1 r.2.1 r.2.2.1 r.2.2.2.1 :: am_tb) (am_rm d (σ'.1.length - σ.1.length) (am_slots σ'.1 - am_slots σ.1)) (va_Pc (av.map (am_cv K)) (am_Good K nw σ)) (am_Q K v σ') (σ'.1.length - σ.1.length) (am_slots σ'.1 - am_slots σ.1) (am_A K)
theorem am_Mt.of {nw : List Cond} {ro : am_Ro} {d : Nat} {r : am_Mr} {av : List Value} {σ σ' : am_Sg} {v : Option Value} (hy : plainName r.1.cls = true) (hn : (av.flatMap fun v => if v.category = 2 then [some v, (none : Option Value)] else [some v]).length ≤ r.2.2.1)
    (h : am_AW nw ro d r 0 (am_entry av r.2.2.1) [] σ v σ') : am_Mt nw ro d r av σ v σ' := by
  obtain ⟨h1, h2, h⟩ := h
  refine ⟨h1, h2, fun l K hro => Met.ofW (cc := r.2.1) (maxL := r.2.2.1) (ret := r.2.2.2.1) hy rfl ?_⟩
  intro p e s m args below meth c s₁ B hml hv
  obtain ⟨rfl, hG⟩ := hv
  have hlocks := B.notSynchronized
  have hts := atoms_spec (ws := Cond.code r.1 r.2.1 r.2.2.1 r.2.2.2.1 :: am_tb) B.pre
  rw [lg_entry_eq]
  have cx : am_Cx K nw d r (headSpec (Cond.code r.1 r.2.1 r.2.2.1 r.2.2.2.1 :: am_tb) (am_rm d (σ'.1.length - σ.1.length) (am_slots σ'.1 - am_slots σ.1))).room p s m (av.map (am_cv K)).toArray meth c :=
    ⟨B.exec, B.bytes, hml, findClass_of_methodNamed B.named, fun w hw => hts w (List.mem_cons_of_mem _ hw), hG.2.1, hG.2.2.1, hG.2.2.2, ⟨Nat.le_refl _, Nat.le_refl _⟩, fun q => (name_of_methodNamed B.named B.method).1.trans q, by rw [hG.1.1]; exact Nat.le_add_right _ _⟩
  refine h K hro p l e _ s m _ below meth c _ cx s.heap [] 0 0 _ (by show 0 + _ ≤ _ - _; omega) (by show 0 + _ ≤ _ - _; omega) hG.1 rfl va_S.rf (am_entry_LH K av hn) (fun H' locs' pc' la' q1 q2 q3 q4 => ?_)
  rw [Nat.zero_add, Nat.zero_add]
  have hr := B.returns
  match v, q1, q2 with
  | none, q1, q2 =>
    have hr0 : meth.sig.returnType = none := by
      rw [hr]
      cases hr2 : r.2.2.2.1 with
      | none => rfl
      | some t => rw [hr2] at q2; cases t <;> cases q2
    exact W.vret B.exec B.bytes hr0 (fun t ht hW => ⟨⟨(), rfl, trivial, by show am_Wd K σ' t.heap; rw [ht]; exact q3⟩, q4.F ht⟩) q4.2.2 q1
  | some (.int x), q1, q2 =>
    cases hr2 : r.2.2.2.1 with
    | none => rw [hr2] at q2; cases q2
    | some t =>
      rw [hr2] at q2
      cases t <;> first | (cases q2; done) | skip
      case int => exact W.iret B.exec B.bytes (hr.trans hr2) (fun t ht hW => ⟨⟨x, (), rfl, rfl, by show am_Wd K σ' t.heap; rw [ht]; exact q3⟩, q4.F ht⟩) q4.2.2 q1
      case boolean =>
        have q2 : (x == 0 || x == 1) = true := q2
        have hx : x = 0 ∨ x = 1 := by simpa using q2
        exact W.zret B.exec B.bytes (hr.trans hr2) (by rcases hx with rfl | rfl <;> rfl) (fun t ht hW => ⟨⟨x, (), rfl, rfl, by show am_Wd K σ' t.heap; rw [ht]; exact q3⟩, q4.F ht⟩) q4.2.2 q1
  | some (.long x), q1, q2 =>
    cases hr2 : r.2.2.2.1 with
    | none => rw [hr2] at q2; cases q2
    | some t =>
      rw [hr2] at q2
      cases t <;> first | (cases q2; done) | skip
      case long => exact W.lret B.exec B.bytes (hr.trans hr2) (fun t ht hW => ⟨⟨x, (), rfl, rfl, by show am_Wd K σ' t.heap; rw [ht]; exact q3⟩, q4.F ht⟩) q4.2.2 q1
  | some (.float x), q1, q2 => cases hr2 : r.2.2.2.1 with
    | none => rw [hr2] at q2; cases q2
    | some t => rw [hr2] at q2; cases t <;> cases q2
  | some (.double x), q1, q2 => cases hr2 : r.2.2.2.1 with
    | none => rw [hr2] at q2; cases q2
    | some t => rw [hr2] at q2; cases t <;> cases q2
  | some .null, q1, q2 => cases hr2 : r.2.2.2.1 with
    | none => rw [hr2] at q2; cases q2
    | some t => rw [hr2] at q2; cases t <;> cases q2
  | some (.ref x), q1, q2 => cases hr2 : r.2.2.2.1 with
    | none => rw [hr2] at q2; cases q2
    | some t => rw [hr2] at q2; cases t <;> cases q2
  | some (.retAddr x), q1, q2 => cases hr2 : r.2.2.2.1 with
    | none => rw [hr2] at q2; cases q2
    | some t => rw [hr2] at q2; cases t <;> cases q2
section AML
variable {nw : List Cond} {ro : am_Ro} {d : Nat} {r r' : am_Mr} {pc : Nat} {ls : am_Lc} {σ σ1 σ' : am_Sg} {v v1 : Option Value}
variable {K : am_Kx} {p : Program} {l : Launch} {e : Env} {R : Room} {s : State} {m : MethodId} {args : Array Value} {below : List Frame} {meth : Method} {c : Code} {Q : State → Prop} {H : Heap} {locs : List Loc} {nc ns mc ms : Nat} {la : Array Slot}
theorem am_fin {st0 rest : List Value} {a : Array Value} (hr : va_Run p l e R s m args below meth c H locs nc ns mc ms (F0 m pc la st0) rest (am_Q K v1 σ1 a) (am_A K)) (hS : va_S (am_A K) s.heap H locs)
    (k : ∀ (H1 : Heap) (locs1 : List Loc), am_Wd K σ1 H1 → va_S (am_A K) s.heap H1 locs1 → W p l e R s m args below meth c H1 locs1 (nc + mc) (ns + ms) Q (F0 m (pc + 3) la (v1.toList.map (am_cv K) ++ rest))) : W p l e R s m args below meth c H locs nc ns Q (F0 m pc la st0) := by
  match v1, hr, k with
  | none, hr, k => exact va_callv (S := Unit) (a := a) hr hS (fun q _ h => h) (fun q h => h) (fun u t H1 locs1 ht hvm hw hB hz1 hk1 hS1 => k H1 locs1 (by rw [← ht]; exact hB) hS1)
  | some (.int x), hr, k => exact va_calli (S := Unit) (a := a) hr hS (fun q _ h => h) (fun q h => h) (fun y u t H1 locs1 ht hvm hw hB hz1 hk1 hS1 => by cases (hw : y = x); exact k H1 locs1 (by rw [← ht]; exact hB) hS1)
  | some (.long x), hr, k => exact va_calll (S := Unit) (a := a) hr hS (fun q _ h => h) (fun q h => h) (fun y u t H1 locs1 ht hvm hw hB hz1 hk1 hS1 => by cases (hw : y = x); exact k H1 locs1 (by rw [← ht]; exact hB) hS1)
  | some (.float x), hr, k => intro T hT X; obtain ⟨_, _, _, _, _, -, -, -, -, -, h, -⟩ := hr T hT X; exact h.elim
  | some (.double x), hr, k => intro T hT X; obtain ⟨_, _, _, _, _, -, -, -, -, -, h, -⟩ := hr T hT X; exact h.elim
  | some .null, hr, k => intro T hT X; obtain ⟨_, _, _, _, _, -, -, -, -, -, h, -⟩ := hr T hT X; exact h.elim
  | some (.ref x), hr, k => intro T hT X; obtain ⟨_, _, _, _, _, -, -, -, -, -, h, -⟩ := hr T hT X; exact h.elim
  | some (.retAddr x), hr, k => intro T hT X; obtain ⟨_, _, _, _, _, -, -, -, -, -, h, -⟩ := hr T hT X; exact h.elim
theorem am_nw_warm {w : Cond} {U : State} (hw : am_nwM w) (hW : s.WarmedH U.vm) (h : va_Nw w s) : va_Nw w U := by
  rcases hw with ⟨a, i, y, h0, rfl⟩ | ⟨a, i, b, n, d, h0, rfl⟩ | ⟨C, rfl⟩
  · exact va_Nw.warmM hW h
  · exact va_Nw.warmF hW h
  · exact va_AO.moved (C := C) hW.alike h
theorem am_nw_same {w : Cond} {u U : State} (hw : am_nwM w) (hv : u.vm = U.vm) (h : va_Nw w u) : va_Nw w U := by
  rcases hw with ⟨a, i, y, h0, rfl⟩ | ⟨a, i, b, n, d, h0, rfl⟩ | ⟨C, rfl⟩
  · exact va_Nw.same rfl hv h
  · exact va_Nw.same rfl hv h
  · exact va_AO.moved (C := C) (by rw [hv]; exact Vm.Alike.refl _) h
theorem am_RO_moved {U : State} {H1 : Heap} (h : am_RO K s H) (hvm : s.vm.Alike U.vm) (hH : K.1 ≤ H.size) (hk : ∀ q : Nat, q < H.size → ¬ am_A K q → H1[q]? = H[q]?) : am_RO K U H1 := by
  refine ⟨fun j hj => ⟨((h.1 j hj).1.moved hvm).kept (hk _ (Nat.lt_of_lt_of_le (h.1 j hj).2 hH) (fun q => absurd (h.1 j hj).2 (Nat.not_lt.mpr q))), (h.1 j hj).2⟩, (h.2.moved hvm).kept (fun a q1 q2 => hk a q1 q2)⟩
theorem am_Good_of (hnw : ∀ w ∈ nw, am_nwM w) (cx : am_Cx K nw d r R p s m args meth c) (hW : am_Wd K σ H) (hS : va_S (am_A K) s.heap H locs) {U : State} (hU : U.heap = H) (hv : s.WarmedH U.vm) : am_Good K nw σ U := by
  refine ⟨by rw [hU]; exact hW, va_K.moved hv.alike cx.2.2.2.2.2.1, ?_, fun w hw => am_nw_warm (hnw w hw) hv (cx.2.2.2.2.2.2.2.1 w hw)⟩
  rw [hU]
  exact am_RO_moved cx.2.2.2.2.2.2.1 hv.alike cx.2.2.2.2.2.2.2.2.2.2 (fun q q1 q2 => hS.2.1 q q1 q2)
theorem am_blind (hnw : ∀ w ∈ nw, am_nwM w) {av : List Value} : FrameBlind (va_Pc av (am_Good K nw σ)) := by
  intro a U g mk h
  obtain ⟨h0, h1, h2, h3, h4⟩ := h
  refine ⟨h0, h1, va_K.moved (u := U) (U := U.calling g mk a) (Vm.Alike.refl U.vm) h2, ?_, fun w hw => am_nw_same (u := U) (U := U.calling g mk a) (hnw w hw) rfl (h4 w hw)⟩
  exact am_RO_moved (s := U) (H := U.heap) (U := U.calling g mk a) h3 (Vm.Alike.refl U.vm) (by rw [h1.1]; exact Nat.le_add_right _ _) (fun q _ _ => rfl)
/-- what the tables say of a method that is called with n arguments -/
def am_okR (r : am_Mr) (n : Nat) : Prop := plainName r.1.cls = true ∧ Cond.code r.1 r.2.1 r.2.2.1 r.2.2.2.1 ∈ am_tb ∧ Cond.initialized r.1.cls ∈ am_tb ∧ (r.1.cls ≠ "java/lang/invoke/MethodHandle" ∧ r.1.cls ≠ "java/lang/invoke/VarHandle" ∧ (parseMethodDescriptor r.1.desc).map (fun d => d.parameters.length) = some n) ∧ r.2.2.1 ≤ 19
theorem am_GoodIn {own : String} {ws : List Cond} (h : ∀ w ∈ ws, w ∈ am_tb) (hc : Cond.code r.1 r.2.1 r.2.2.1 r.2.2.2.1 ∈ am_tb) : GoodIn am_tb (ws ++ (Cond.code r.1 r.2.1 r.2.2.1 r.2.2.2.1 :: am_tb)) := by
  intro w hw
  have h1 : w ∈ am_tb := by
    rcases List.mem_append.mp hw with h2 | h2
    · exact h w h2
    · rcases List.mem_cons.mp h2 with rfl | h3
      · exact hc
      · exact h3
  exact ⟨h1, am_tb_good w h1⟩
/-- A CALL of a static method -/
theorem am_AW.callS (hM : am_okM nw r) (hnw : ∀ w ∈ nw, am_nwM w) {e : am_En} {x n : Nat} {As rest : List Value} (he : r.2.2.2.2[pc]? = some (some e)) (hi : e.1 = .invokestatic x) (hn3 : e.2.1 = 3) (hR : am_okR r' n) (hlink : Cond.methodLink r.1.cls x r'.1 ∈ am_tb) (hst : Cond.static r'.1 ∈ am_tb)
    (hn : As.length = n) (hs : (rest.map fun v => v.category).sum ≤ 8) (hc : am_Mt nw ro d r' As σ v1 σ1) (hk : am_AW nw ro (d + 1) r (pc + 3) ls (v1.toList ++ rest) σ1 v σ') : am_AW nw ro (d + 1) r pc ls (As.reverse ++ rest) σ v σ' := by
  obtain ⟨hd, -, -⟩ := hM pc e he
  rw [hi, hn3] at hd
  refine am_AW.via hk hc.1 hc.2.1 (fun K hro p l e R s m args below meth c Q cx H locs nc ns la b1 b2 hW hz hS hL k => ?_)
  obtain ⟨hf, hl⟩ := cx.2.2.2.2.2.2.2.2.1
  rw [List.map_append, List.map_reverse]
  refine am_fin (va_runS (Ts := am_tb) (own := r.1.cls) (As := As.map (am_cv K)) (rest := rest.map (am_cv K)) ⟨cx.1, cx.2.1, cx.2.2.1, cx.2.2.2.1, cx.2.2.2.2.1⟩ (hc.2.2 l K hro)
    (va_cwS n cx.2.2.2.2.1 (am_GoodIn (own := r.1.cls) (fun w hw => ?_) hR.2.1) rfl rfl rfl hR.2.2.2.1 ⟨?_, ?_⟩) ⟨am_blind hnw, fun U hU hv => ⟨rfl, am_Good_of hnw cx hW hS hU hv⟩⟩ rfl (by rw [List.length_map]; exact hn) hL.2.1 rfl (lv_room (by rw [am_cats]; exact hs)) hd ⟨b1, b2⟩) hS (fun H1 locs1 hW1 hS1 => ?_)
  · simp only [List.mem_cons, List.not_mem_nil, or_false] at hw
    rcases hw with rfl | rfl | rfl
    · exact hlink
    · exact hst
    · exact hR.2.2.1
  · show d + 1 ≤ _
    exact hf
  · show 8 + (_ + 11) + 38 * d ≤ _
    have := hR.2.2.2.2
    omega
  · have k2 := k H1 locs1 la hW1 hS1 hL
    rw [List.map_append] at k2
    exact k2
/-- A CALL of an instance method -/
theorem am_AW.callV (hM : am_okM nw r) (hnw : ∀ w ∈ nw, am_nwM w) {e : am_En} {x n q ci : Nat} {qc : vw_C} {fs As rest : List Value} (he : r.2.2.2.2[pc]? = some (some e)) (hi : e.1 = .invokevirtual x) (hn3 : e.2.1 = 3) (hR : am_okR r' n) (hlink : Cond.methodLink r.1.cls x r'.1 ∈ am_tb) (hin : Cond.instanceMethod r'.1 ∈ am_tb) (hsel : Cond.selects r'.1.cls r'.1 r'.1 ∈ am_tb)
    (hq : σ.1[q]? = some (0, ci, fs)) (hci : kcs[ci]? = some qc) (hcl : qc.1 = r'.1.cls) (hn : As.length = n) (hs : (rest.map fun v => v.category).sum ≤ 8) (hc : am_Mt nw ro d r' (.ref q :: As) σ v1 σ1) (hk : am_AW nw ro (d + 1) r (pc + 3) ls (v1.toList ++ rest) σ1 v σ') : am_AW nw ro (d + 1) r pc ls (As.reverse ++ .ref q :: rest) σ v σ' := by
  obtain ⟨hd, -, -⟩ := hM pc e he
  rw [hi, hn3] at hd
  refine am_AW.via hk hc.1 hc.2.1 (fun K hro p l e R s m args below meth c Q cx H locs nc ns la b1 b2 hW hz hS hL k => ?_)
  obtain ⟨hf, hl⟩ := cx.2.2.2.2.2.2.2.2.1
  rw [List.map_append, List.map_reverse, List.map_cons]
  have hrc := va_recv cx.2.2.2.2.2.1 hW.2.2 hci (am_ws_at K hq)
  rw [← am_eta_at hW hq, hcl] at hrc
  refine am_fin (va_runV (Ts := am_tb) (own := r.1.cls) (C := r'.1.cls) (b := am_eta K q) (As := As.map (am_cv K)) (rest := rest.map (am_cv K)) ⟨cx.1, cx.2.1, cx.2.2.1, cx.2.2.2.1, cx.2.2.2.2.1⟩ (hc.2.2 l K hro)
    (cwV n cx.2.2.2.2.1 (am_GoodIn (own := r.1.cls) (fun w hw => ?_) hR.2.1) rfl rfl rfl ⟨rfl, hR.2.2.2.1⟩ ⟨?_, ?_⟩) ⟨am_blind hnw, hrc, fun U hU hv => ⟨rfl, am_Good_of hnw cx hW hS hU hv⟩⟩ rfl (by rw [List.length_map]; exact hn) hL.2.1 rfl (lv_room (by rw [am_cats]; exact hs)) hd ⟨b1, b2⟩) hS (fun H1 locs1 hW1 hS1 => ?_)
  · simp only [List.mem_cons, List.not_mem_nil, or_false] at hw
    rcases hw with rfl | rfl | rfl | rfl
    · exact hlink
    · exact hin
    · exact hsel
    · exact hR.2.2.1
  · show d + 1 ≤ _
    exact hf
  · show 8 + (_ + 11) + 38 * d ≤ _
    have := hR.2.2.2.2
    omega
  · have k2 := k H1 locs1 la hW1 hS1 hL
    rw [List.map_append] at k2
    exact k2
/-- A CALL of a constructor -/
theorem am_AW.callI (hM : am_okM nw r) (hnw : ∀ w ∈ nw, am_nwM w) {e : am_En} {x n q : Nat} {As rest : List Value} (he : r.2.2.2.2[pc]? = some (some e)) (hi : e.1 = .invokespecial x) (hn3 : e.2.1 = 3) (hR : am_okR r' n) (hret : r'.2.2.2.1 = none) (hini : r'.1.name = "<init>") (hin : Cond.instanceMethod r'.1 ∈ am_tb)
    (hlink : Cond.methodLink r.1.cls x r'.1 ∈ am_tb ∨ ∃ h, Cond.methodLinkNest r.1.cls x r'.1 h ∈ nw) (hn : As.length = n) (hs : (rest.map fun v => v.category).sum ≤ 8) (hc : am_Mt nw ro d r' (.ref q :: As) σ v1 σ1) (hk : am_AW nw ro (d + 1) r (pc + 3) ls (v1.toList ++ rest) σ1 v σ') : am_AW nw ro (d + 1) r pc ls (As.reverse ++ .ref q :: rest) σ v σ' := by
  obtain ⟨hd, -, -⟩ := hM pc e he
  rw [hi, hn3] at hd
  refine am_AW.via hk hc.1 hc.2.1 (fun K hro p l e R s m args below meth c Q cx H locs nc ns la b1 b2 hW hz hS hL k => ?_)
  obtain ⟨hf, hl⟩ := cx.2.2.2.2.2.2.2.2.1
  rw [List.map_append, List.map_reverse, List.map_cons]
  have hG : GoodIn am_tb (Cond.code r'.1 r'.2.1 r'.2.2.1 none :: am_tb) := by
    have := am_GoodIn (r := r') (own := r.1.cls) (ws := []) (fun w hw => absurd hw List.not_mem_nil) hR.2.1
    rw [hret] at this
    exact this
  have hMt := hc.2.2 l K hro
  rw [hret] at hMt
  have hfr : (am_rm d (σ1.1.length - σ.1.length) (am_slots σ1.1 - am_slots σ.1)).frames + 1 ≤ R.frames := hf
  have hlo : 8 + (r'.2.2.1 + 11) + (am_rm d (σ1.1.length - σ.1.length) (am_slots σ1.1 - am_slots σ.1)).locals ≤ R.locals := by
    show 8 + (_ + 11) + 38 * d ≤ _
    have := hR.2.2.2.2
    omega
  have fin : ∀ (H1 : Heap) (locs1 : List Loc), am_Wd K σ1 H1 → va_S (am_A K) s.heap H1 locs1 → W p l e R s m args below meth c H1 locs1 (nc + (σ1.1.length - σ.1.length)) (ns + (am_slots σ1.1 - am_slots σ.1)) Q (F0 m (pc + 3) la (v1.toList.map (am_cv K) ++ rest.map (am_cv K))) := by
    intro H1 locs1 hW1 hS1
    have k2 := k H1 locs1 la hW1 hS1 hL
    rw [List.map_append] at k2
    exact k2
  rcases hlink with hlink | ⟨h0, hlink⟩
  · exact am_fin (va_runI (Ts := am_tb) (own := r.1.cls) (b := am_eta K q) (As := As.map (am_cv K)) (rest := rest.map (am_cv K)) ⟨cx.1, cx.2.1, cx.2.2.1, cx.2.2.2.1, cx.2.2.2.2.1⟩ hMt
      (cwI n cx.2.2.2.2.1 hG rfl rfl rfl (cx.2.2.2.2.1 _ hR.2.2.1) (cx.2.2.2.2.1 _ hlink) (cx.2.2.2.2.1 _ hin) hini hR.2.2.2.1 ⟨hfr, hlo⟩) ⟨am_blind hnw, fun U hU hv => ⟨rfl, am_Good_of hnw cx hW hS hU hv⟩⟩ rfl (by rw [List.length_map]; exact hn) hL.2.1 rfl (lv_room (by rw [am_cats]; exact hs)) hd ⟨b1, b2⟩) hS fin
  · exact am_fin (va_runIN (Ts := am_tb) (own := r.1.cls) (host := h0) (b := am_eta K q) (As := As.map (am_cv K)) (rest := rest.map (am_cv K)) ⟨cx.1, cx.2.1, cx.2.2.1, cx.2.2.2.1, cx.2.2.2.2.1⟩ hMt
      ⟨va_cnB n cx.2.2.2.2.1 hG rfl rfl rfl (cx.2.2.2.2.2.2.2.1 _ hlink) (cx.2.2.2.2.1 _ hR.2.2.1) hR.2.2.2.1 ⟨hfr, hlo⟩, hini, cx.2.2.2.2.1 _ hin⟩ ⟨am_blind hnw, fun U hU hv => ⟨rfl, am_Good_of hnw cx hW hS hU hv⟩⟩ rfl (by rw [List.length_map]; exact hn) hL.2.1 rfl (lv_room (by rw [am_cats]; exact hs)) hd ⟨b1, b2⟩) hS fin
end AML
