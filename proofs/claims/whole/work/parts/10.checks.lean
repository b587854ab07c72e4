/-! ===== checks of the methods' code by the tables ===== -/
def am_nw : List Cond := [(Cond.arrayOver (Jvm.ClassFile.FieldType.object "FriezePolygons$Row")), (Cond.methodLinkNest "FriezePolygons" (17 : Nat) ({ cls := "FriezePolygons$Tape", name := "<init>", desc := "()V" } : Jvm.MethodName) "FriezePolygons"), (Cond.methodLinkNest "FriezePolygons$Tape" (11 : Nat) ({ cls := "FriezePolygons$Figure", name := "<init>", desc := "()V" } : Jvm.MethodName) "FriezePolygons"), (Cond.methodLinkNest "FriezePolygons$Tape" (20 : Nat) ({ cls := "FriezePolygons$Ring", name := "<init>", desc := "()V" } : Jvm.MethodName) "FriezePolygons"), (Cond.methodLinkNest "FriezePolygons" (24 : Nat) ({ cls := "FriezePolygons$Figure", name := "<init>", desc := "()V" } : Jvm.MethodName) "FriezePolygons"), (Cond.arrayOver (Jvm.ClassFile.FieldType.object "FriezePolygons$Figure")), (Cond.methodLinkNest "FriezePolygons" (38 : Nat) ({ cls := "FriezePolygons$Ring", name := "<init>", desc := "()V" } : Jvm.MethodName) "FriezePolygons"), (Cond.methodLinkNest "FriezePolygons" (45 : Nat) ({ cls := "FriezePolygons$Acts", name := "<init>", desc := "()V" } : Jvm.MethodName) "FriezePolygons"), (Cond.methodLinkNest "FriezePolygons" (52 : Nat) ({ cls := "FriezePolygons$Frieze", name := "<init>", desc := "()V" } : Jvm.MethodName) "FriezePolygons"), (Cond.methodLinkNest "FriezePolygons" (59 : Nat) ({ cls := "FriezePolygons$Ears", name := "<init>", desc := "()V" } : Jvm.MethodName) "FriezePolygons"), (Cond.methodLinkNest "FriezePolygons" (66 : Nat) ({ cls := "FriezePolygons$FlipSearch", name := "<init>", desc := "()V" } : Jvm.MethodName) "FriezePolygons"), (Cond.methodLinkNest "FriezePolygons" (73 : Nat) ({ cls := "FriezePolygons$Asks", name := "<init>", desc := "()V" } : Jvm.MethodName) "FriezePolygons"), (Cond.methodLinkNest "FriezePolygons" (86 : Nat) ({ cls := "FriezePolygons$Row", name := "<init>", desc := "()V" } : Jvm.MethodName) "FriezePolygons"), (Cond.fieldLinkNest "FriezePolygons$Ring" (86 : Nat) "FriezePolygons" "WAYS_OF" "[I" "FriezePolygons")]
set_option maxRecDepth 20000 in
theorem am_nw_ok : ∀ w ∈ am_nw, am_nwM w := by
  intro w hw
  simp only [am_nw, List.mem_cons, List.not_mem_nil, or_false] at hw
  rcases hw with rfl | rfl | rfl | rfl | rfl | rfl | rfl | rfl | rfl | rfl | rfl | rfl | rfl | rfl
  · exact Or.inr (Or.inr ⟨_, rfl⟩)
  · exact Or.inl ⟨_, _, _, _, rfl⟩
  · exact Or.inl ⟨_, _, _, _, rfl⟩
  · exact Or.inl ⟨_, _, _, _, rfl⟩
  · exact Or.inl ⟨_, _, _, _, rfl⟩
  · exact Or.inr (Or.inr ⟨_, rfl⟩)
  · exact Or.inl ⟨_, _, _, _, rfl⟩
  · exact Or.inl ⟨_, _, _, _, rfl⟩
  · exact Or.inl ⟨_, _, _, _, rfl⟩
  · exact Or.inl ⟨_, _, _, _, rfl⟩
  · exact Or.inl ⟨_, _, _, _, rfl⟩
  · exact Or.inl ⟨_, _, _, _, rfl⟩
  · exact Or.inl ⟨_, _, _, _, rfl⟩
  · exact Or.inr (Or.inl ⟨_, _, _, _, _, _, rfl⟩)
def am_has (po : Nat) (w : Cond) : Bool := decide (lw_tbl[po]? = some w) && goodWord w
theorem am_has_in {po : Nat} {w : Cond} (h : am_has po w = true) : w ∈ am_tb := by
  simp only [am_has, Bool.and_eq_true, decide_eq_true_eq] at h
  exact am_tb_in (List.mem_of_getElem? h.1) h.2
def am_hasN (po : Nat) (w : Cond) : Bool := decide (am_nw[po]? = some w)
theorem am_hasN_in {po : Nat} {w : Cond} (h : am_hasN po w = true) : w ∈ am_nw := by
  simp only [am_hasN, decide_eq_true_eq] at h
  exact List.mem_of_getElem? h
def am_chkE (r : am_Mr) (e : am_En) : Bool := match e.1 with
  | .getfield i => (match kcs[e.2.2.1]? with
    | some q => decide (e.2.2.2.1 < q.2.2) && am_has e.2.2.2.2.1 (.fieldLink r.1.cls i q.1 (q.2.1 e.2.2.2.1).2.1 (q.2.1 e.2.2.2.1).2.2.1)
    | none => false)
  | .putfield i => (match kcs[e.2.2.1]? with
    | some q => decide (e.2.2.2.1 < q.2.2) && am_has e.2.2.2.2.1 (.fieldLink r.1.cls i q.1 (q.2.1 e.2.2.2.1).2.1 (q.2.1 e.2.2.2.1).2.2.1) && (!(q.2.1 e.2.2.2.1).2.2.2 || (decide (r.1.cls = q.1) && decide (r.1.name = "<init>")))
    | none => false)
  | .ldc i => am_has e.2.2.2.2.1 (.constant r.1.cls i (Int32.ofInt e.2.2.2.2.2))
  | .ldc_w i => am_has e.2.2.2.2.1 (.constant r.1.cls i (Int32.ofInt e.2.2.2.2.2))
  | .ldc2_w i => am_has e.2.2.2.2.1 (.constantLong r.1.cls i (Int64.ofInt e.2.2.2.2.2))
  | .new i => (match kcs[e.2.2.1]? with
    | some q => am_has e.2.2.2.2.1 (.classLink r.1.cls i q.1)
    | none => false)
  | .anewarray i => (match kcs[am_cc e.2.2.1]? with
    | some q => am_has e.2.2.2.2.1 (.classLink r.1.cls i q.1) && am_hasN e.2.2.2.1 (.arrayOver (.object q.1))
    | none => false)
  | .getstatic i => am_hasN e.2.2.2.2.1 (.fieldLinkNest r.1.cls i "FriezePolygons" "WAYS_OF" "[I" "FriezePolygons")
  | .invokespecial i => !(e.2.2.2.1 == 9) || am_has e.2.2.2.2.1 (.methodLink r.1.cls i objectInit)
  | .invokestatic i => !(e.2.2.2.1 == 8) || am_has e.2.2.2.2.1 (.methodLink r.1.cls i arraycopyName)
  | _ => true
theorem am_chkE_ok {r : am_Mr} {e : am_En} (h : am_chkE r e = true) : am_okE am_nw r.1.cls e ∧ (∀ x (q : vw_C), e.1 = .putfield x → kcs[e.2.2.1]? = some q → (q.2.1 e.2.2.2.1).2.2.2 = true → r.1.name = "<init>") := by
  obtain ⟨i, n, a, b, po, z⟩ := e
  cases i
  case getfield x =>
    simp only [am_chkE] at h
    split at h
    · rename_i q hq
      simp only [Bool.and_eq_true, decide_eq_true_eq] at h
      exact ⟨⟨q, hq, h.1, am_has_in h.2⟩, fun _ _ h0 => by cases h0⟩
    · cases h
  case putfield x =>
    simp only [am_chkE] at h
    split at h
    · rename_i q hq
      simp only [Bool.and_eq_true, decide_eq_true_eq, Bool.or_eq_true, Bool.not_eq_true'] at h
      refine ⟨⟨q, hq, h.1.1, am_has_in h.1.2, fun hf => ?_⟩, fun y q' _ hq' hf => ?_⟩
      · rcases h.2 with h3 | h3
        · rw [h3] at hf; cases hf
        · exact h3.1
      · cases hq.symm.trans hq'
        rcases h.2 with h3 | h3
        · have hf : (q.2.1 b).2.2.2 = true := hf
          rw [h3] at hf; cases hf
        · exact h3.2
    · cases h
  case ldc x => exact ⟨am_has_in h, fun _ _ h0 => by cases h0⟩
  case ldc_w x => exact ⟨am_has_in h, fun _ _ h0 => by cases h0⟩
  case ldc2_w x => exact ⟨am_has_in h, fun _ _ h0 => by cases h0⟩
  case new x =>
    simp only [am_chkE] at h
    split at h
    · rename_i q hq
      exact ⟨⟨q, hq, am_has_in h⟩, fun _ _ h0 => by cases h0⟩
    · cases h
  case anewarray x =>
    simp only [am_chkE] at h
    split at h
    · rename_i q hq
      simp only [Bool.and_eq_true] at h
      exact ⟨⟨q, hq, am_has_in h.1, am_hasN_in h.2⟩, fun _ _ h0 => by cases h0⟩
    · cases h
  case getstatic x => exact ⟨am_hasN_in h, fun _ _ h0 => by cases h0⟩
  case invokespecial x =>
    simp only [am_chkE, Bool.or_eq_true, Bool.not_eq_true', beq_eq_false_iff_ne] at h
    refine ⟨fun h9 => ?_, fun _ _ h0 => by cases h0⟩
    rcases h with h | h
    · exact absurd h9 h
    · exact am_has_in h
  case invokestatic x =>
    simp only [am_chkE, Bool.or_eq_true, Bool.not_eq_true', beq_eq_false_iff_ne] at h
    refine ⟨fun h9 => ?_, fun _ _ h0 => by cases h0⟩
    rcases h with h | h
    · exact absurd h9 h
    · exact am_has_in h
  all_goals exact ⟨trivial, fun _ _ h0 => by cases h0⟩
/-- all rows of a code list, from a place on -/
def am_chkL (r : am_Mr) : Nat → List (Option am_En) → Bool
  | _, [] => true
  | pc, none :: t => am_chkL r (pc + 1) t
  | pc, some e :: t => decide (decode r.2.1 pc = .ok (e.1, e.2.1)) && am_chkE r e && am_chkL r (pc + 1) t
theorem am_chkL_ok {r : am_Mr} : ∀ (l : List (Option am_En)) (p0 : Nat), am_chkL r p0 l = true → ∀ (k : Nat) (e : am_En), l[k]? = some (some e) → decode r.2.1 (p0 + k) = .ok (e.1, e.2.1) ∧ am_chkE r e = true := by
  intro l
  induction l with
  | nil => intro p0 _ k e h; simp at h
  | cons x t ih =>
    intro p0 h k e hk
    cases x with
    | none =>
      cases k with
      | zero => simp at hk
      | succ k =>
        have := ih (p0 + 1) h k e (by simpa using hk)
        rw [show p0 + (k + 1) = p0 + 1 + k by omega]
        exact this
    | some y =>
      simp only [am_chkL, Bool.and_eq_true, decide_eq_true_eq] at h
      cases k with
      | zero =>
        simp at hk
        subst hk
        exact h.1
      | succ k =>
        have := ih (p0 + 1) h.2 k e (by simpa using hk)
        rw [show p0 + (k + 1) = p0 + 1 + k by omega]
        exact this
theorem am_chk_ok {r : am_Mr} (h : am_chkL r 0 r.2.2.2.2 = true) : am_okM am_nw r := by
  intro pc e he
  obtain ⟨h1, h2⟩ := am_chkL_ok r.2.2.2.2 0 h pc e he
  rw [Nat.zero_add] at h1
  obtain ⟨h3, h4⟩ := am_chkE_ok h2
  exact ⟨h1, h3, h4⟩
set_option maxRecDepth 20000 in
theorem am_base_ok : am_base := ⟨am_has_in (po := 102) (by decide +kernel), am_has_in (po := 103) (by decide +kernel), am_has_in (po := 143) (by decide +kernel), am_has_in (po := 251) (by decide +kernel), am_has_in (po := 1035) (by decide +kernel), am_has_in (po := 419) (by decide +kernel), am_has_in (po := 418) (by decide +kernel), am_has_in (po := 93) (by decide +kernel)⟩
