/-! ===== rules for cells at places that are variables; more ===== -/
abbrev am_Mm : Type := (Nat → Nat → Int32) × (Nat → Nat → Int64)
/-- a number is put, a long is put, a stretch is copied -/
def am_pI (m : am_Mm) (p k : Nat) (x : Int32) : am_Mm := (va_up m.1 p (upd (m.1 p) k x), m.2)
def am_pL (m : am_Mm) (p k : Nat) (x : Int64) : am_Mm := (m.1, va_up m.2 p (vp_updL (m.2 p) k x))
def am_pC (m : am_Mm) (p0 sp p1 dp n : Nat) : am_Mm := (va_up m.1 p1 (va_cpy (m.1 p0) (m.1 p1) sp dp n), m.2)
section AMR
variable {ro : am_Ro} {d : Nat} {r : am_Mr} {pc : Nat} {ls : am_Lc} {v : Option Value} {σ' : am_Sg} {S : List am_Sh} {m : am_Mm} {rest : List Value} {a b po : Nat} {z : Int}
theorem am_AW.getf (hM : am_okM am_nw r) (hd1 : 1 ≤ d) {x q t : Nat} {fs : List Value} (he : r.2.2.2.2[pc]? = some (some (.getfield x, 3, a, b, po, z))) (hS : S[q]? = some (0, a, fs)) (hf : fs[b]? = some (.ref t)) (hk : am_AW am_nw ro d r (pc + 3) ls (.ref t :: rest) (S, m) v σ') : am_AW am_nw ro d r pc ls (.ref q :: rest) (S, m) v σ' :=
  am_AW.step am_base_ok hM hd1 he (by simp [am_step, am_get, hS, hf]) hk
theorem am_AW.geti (hM : am_okM am_nw r) (hd1 : 1 ≤ d) {x q : Nat} {y : Int32} {fs : List Value} (he : r.2.2.2.2[pc]? = some (some (.getfield x, 3, a, b, po, z))) (hS : S[q]? = some (0, a, fs)) (hf : fs[b]? = some (.int y)) (hk : am_AW am_nw ro d r (pc + 3) ls (.int (m.1 q b) :: rest) (S, m) v σ') : am_AW am_nw ro d r pc ls (.ref q :: rest) (S, m) v σ' :=
  am_AW.step am_base_ok hM hd1 he (by simp [am_step, am_get, hS, hf]) hk
theorem am_AW.puti (hM : am_okM am_nw r) (hd1 : 1 ≤ d) {x q : Nat} {y w : Int32} {fs : List Value} {qc : vw_C} (he : r.2.2.2.2[pc]? = some (some (.putfield x, 3, a, b, po, z))) (hS : S[q]? = some (0, a, fs)) (hf : fs[b]? = some (.int y)) (hc : kcs[a]? = some qc) (hb : b < qc.2.2) (hty : kty qc.2.1 b = .int) (hk : am_AW am_nw ro d r (pc + 3) ls rest (S, am_pI m q b w) v σ') : am_AW am_nw ro d r pc ls (.int w :: .ref q :: rest) (S, m) v σ' :=
  am_AW.step am_base_ok hM hd1 he (by simp [am_step, am_put, hS, hf, hc, hb, hty, am_fit, am_putI]; rfl) hk
theorem am_AW.putz (hM : am_okM am_nw r) (hd1 : 1 ≤ d) {x q : Nat} {y w : Int32} {fs : List Value} {qc : vw_C} (he : r.2.2.2.2[pc]? = some (some (.putfield x, 3, a, b, po, z))) (hS : S[q]? = some (0, a, fs)) (hf : fs[b]? = some (.int y)) (hc : kcs[a]? = some qc) (hb : b < qc.2.2) (hty : kty qc.2.1 b = .boolean) (hw : w = 0 ∨ w = 1) (hk : am_AW am_nw ro d r (pc + 3) ls rest (S, am_pI m q b w) v σ') : am_AW am_nw ro d r pc ls (.int w :: .ref q :: rest) (S, m) v σ' :=
  am_AW.step am_base_ok hM hd1 he (by simp [am_step, am_put, hS, hf, hc, hb, hty, am_fit, am_putI, hw]; rfl) hk
theorem am_rB_lt {q : Nat} {sh : am_Sh} (hl : S.length ≤ 1000) (hS : S[q]? = some sh) : ¬ am_rB ≤ q := by
  have := (List.getElem?_eq_some_iff.mp hS).1
  show ¬ 1000000 ≤ q
  omega
theorem am_AW.iald (hM : am_okM am_nw r) (hd1 : 1 ≤ d) (hl : S.length ≤ 1000) {q n : Nat} {i : Int32} {fs : List Value} (he : r.2.2.2.2[pc]? = some (some (.iaload, 1, a, b, po, z))) (hS : S[q]? = some (1, n, fs)) (hi : am_in i n = true) (hk : am_AW am_nw ro d r (pc + 1) ls (.int (m.1 q i.toNatClampNeg) :: rest) (S, m) v σ') : am_AW am_nw ro d r pc ls (.int i :: .ref q :: rest) (S, m) v σ' :=
  am_AW.step am_base_ok hM hd1 he (by simp [am_step, am_ild, hS, hi, am_rB_lt hl hS]) hk
theorem am_AW.zald (hM : am_okM am_nw r) (hd1 : 1 ≤ d) {q n : Nat} {i : Int32} {fs : List Value} (he : r.2.2.2.2[pc]? = some (some (.baload, 1, a, b, po, z))) (hS : S[q]? = some (3, n, fs)) (hi : am_in i n = true) (hk : am_AW am_nw ro d r (pc + 1) ls (.int (m.1 q i.toNatClampNeg) :: rest) (S, m) v σ') : am_AW am_nw ro d r pc ls (.int i :: .ref q :: rest) (S, m) v σ' :=
  am_AW.step am_base_ok hM hd1 he (by simp [am_step, am_zld, hS, hi]) hk
theorem am_AW.lald (hM : am_okM am_nw r) (hd1 : 1 ≤ d) {q n : Nat} {i : Int32} {fs : List Value} (he : r.2.2.2.2[pc]? = some (some (.laload, 1, a, b, po, z))) (hS : S[q]? = some (2, n, fs)) (hi : am_in i n = true) (hk : am_AW am_nw ro d r (pc + 1) ls (.long (m.2 q i.toNatClampNeg) :: rest) (S, m) v σ') : am_AW am_nw ro d r pc ls (.int i :: .ref q :: rest) (S, m) v σ' :=
  am_AW.step am_base_ok hM hd1 he (by simp [am_step, am_lld, hS, hi]) hk
theorem am_AW.iast (hM : am_okM am_nw r) (hd1 : 1 ≤ d) {q n : Nat} {i x : Int32} {fs : List Value} (he : r.2.2.2.2[pc]? = some (some (.iastore, 1, a, b, po, z))) (hS : S[q]? = some (1, n, fs)) (hi : am_in i n = true) (hk : am_AW am_nw ro d r (pc + 1) ls rest (S, am_pI m q i.toNatClampNeg x) v σ') : am_AW am_nw ro d r pc ls (.int x :: .int i :: .ref q :: rest) (S, m) v σ' :=
  am_AW.step am_base_ok hM hd1 he (by simp [am_step, am_ist, hS, hi, am_putI]; rfl) hk
theorem am_AW.zast (hM : am_okM am_nw r) (hd1 : 1 ≤ d) {q n : Nat} {i x : Int32} {fs : List Value} (he : r.2.2.2.2[pc]? = some (some (.bastore, 1, a, b, po, z))) (hS : S[q]? = some (3, n, fs)) (hi : am_in i n = true) (hx : x = 0 ∨ x = 1) (hk : am_AW am_nw ro d r (pc + 1) ls rest (S, am_pI m q i.toNatClampNeg x) v σ') : am_AW am_nw ro d r pc ls (.int x :: .int i :: .ref q :: rest) (S, m) v σ' :=
  am_AW.step am_base_ok hM hd1 he (by simp [am_step, am_zst, hS, hi, hx, am_putI]; rfl) hk
theorem am_AW.last (hM : am_okM am_nw r) (hd1 : 1 ≤ d) {q n : Nat} {i : Int32} {x : Int64} {fs : List Value} (he : r.2.2.2.2[pc]? = some (some (.lastore, 1, a, b, po, z))) (hS : S[q]? = some (2, n, fs)) (hi : am_in i n = true) (hk : am_AW am_nw ro d r (pc + 1) ls rest (S, am_pL m q i.toNatClampNeg x) v σ') : am_AW am_nw ro d r pc ls (.long x :: .int i :: .ref q :: rest) (S, m) v σ' :=
  am_AW.step am_base_ok hM hd1 he (by simp [am_step, am_lst, hS, hi]; rfl) hk
theorem am_AW.aald (hM : am_okM am_nw r) (hd1 : 1 ≤ d) {q t : Nat} {i : Int32} (he : r.2.2.2.2[pc]? = some (some (.aaload, 1, a, b, po, z))) (ha : am_ald (S, m) q i = some t) (hk : am_AW am_nw ro d r (pc + 1) ls (.ref t :: rest) (S, m) v σ') : am_AW am_nw ro d r pc ls (.int i :: .ref q :: rest) (S, m) v σ' :=
  am_AW.step am_base_ok hM hd1 he (by simp [am_step, ha]) hk
theorem am_AW.alen (hM : am_okM am_nw r) (hd1 : 1 ≤ d) (hl : S.length ≤ 1000) {q n t : Nat} {fs : List Value} (he : r.2.2.2.2[pc]? = some (some (.arraylength, 1, a, b, po, z))) (hS : S[q]? = some (t, n, fs)) (ht : 1 ≤ t ∧ t ≤ 5) (hk : am_AW am_nw ro d r (pc + 1) ls (.int (Int32.ofNat n) :: rest) (S, m) v σ') : am_AW am_nw ro d r pc ls (.ref q :: rest) (S, m) v σ' :=
  am_AW.step am_base_ok hM hd1 he (by simp [am_step, am_len, hS, ht, am_rB_lt hl hS]) hk
theorem am_AW.rold (hM : am_okM am_nw r) (hd1 : 1 ≤ d) {j : Nat} {i : Int32} (hj : j < 2) (he : r.2.2.2.2[pc]? = some (some (.iaload, 1, a, b, po, z))) (hi : am_in i (ro j).1 = true) (hk : am_AW am_nw ro d r (pc + 1) ls (.int ((ro j).2 i.toNatClampNeg) :: rest) (S, m) v σ') : am_AW am_nw ro d r pc ls (.int i :: .ref (am_rB + j) :: rest) (S, m) v σ' :=
  am_AW.step am_base_ok hM hd1 he (by simp [am_step, am_ild, hi, hj]) hk
theorem am_AW.rolen (hM : am_okM am_nw r) (hd1 : 1 ≤ d) {j : Nat} (hj : j < 2) (he : r.2.2.2.2[pc]? = some (some (.arraylength, 1, a, b, po, z))) (hk : am_AW am_nw ro d r (pc + 1) ls (.int (Int32.ofNat (ro j).1) :: rest) (S, m) v σ') : am_AW am_nw ro d r pc ls (.ref (am_rB + j) :: rest) (S, m) v σ' :=
  am_AW.step am_base_ok hM hd1 he (by simp [am_step, am_len, hj]) hk
theorem am_AW.acpy (hM : am_okM am_nw r) (hd1 : 1 ≤ d) {x p0 p1 n0 n1 : Nat} {sp dp n : Int32} {f0 f1 : List Value} (he : r.2.2.2.2[pc]? = some (some (.invokestatic x, 3, a, 8, po, z))) (h0 : S[p0]? = some (1, n0, f0)) (h1 : S[p1]? = some (1, n1, f1)) (hs : (rest.map fun v => v.category).sum ≤ 8)
    (hi : ¬ sp < 0 ∧ ¬ dp < 0 ∧ ¬ n < 0 ∧ sp.toNatClampNeg + n.toNatClampNeg ≤ n0 ∧ dp.toNatClampNeg + n.toNatClampNeg ≤ n1) (hk : am_AW am_nw ro d r (pc + 3) ls rest (S, am_pC m p0 sp.toNatClampNeg p1 dp.toNatClampNeg n.toNatClampNeg) v σ') : am_AW am_nw ro d r pc ls (.int n :: .int dp :: .ref p1 :: .int sp :: .ref p0 :: rest) (S, m) v σ' :=
  am_AW.step am_base_ok hM hd1 he (by
    simp only [am_step, hs, and_self, if_true, am_cpy, h0, h1, if_pos hi]
    rfl) hk
theorem am_AW.dvi {i0 : Instr} {x y : Int32} {w : Int32} (hM : am_okM am_nw r) (hd1 : 1 ≤ d) (hi : (i0 = .idiv ∧ w = x / y) ∨ (i0 = .irem ∧ w = x - x / y * y)) (he : r.2.2.2.2[pc]? = some (some (i0, 1, a, b, po, z))) (hy : ¬ y = 0) (hk : am_AW am_nw ro d r (pc + 1) ls (.int w :: rest) (S, m) v σ') : am_AW am_nw ro d r pc ls (.int y :: .int x :: rest) (S, m) v σ' := by
  rcases hi with ⟨rfl, rfl⟩ | ⟨rfl, rfl⟩ <;> exact am_AW.step am_base_ok hM hd1 he (by simp [am_step, am_d2, hy]) hk
theorem am_AW.dvl {i0 : Instr} {x y : Int64} {w : Int64} (hM : am_okM am_nw r) (hd1 : 1 ≤ d) (hi : (i0 = .ldiv ∧ w = x / y) ∨ (i0 = .lrem ∧ w = x - x / y * y)) (he : r.2.2.2.2[pc]? = some (some (i0, 1, a, b, po, z))) (hy : ¬ y = 0) (hk : am_AW am_nw ro d r (pc + 1) ls (.long w :: rest) (S, m) v σ') : am_AW am_nw ro d r pc ls (.long y :: .long x :: rest) (S, m) v σ' := by
  rcases hi with ⟨rfl, rfl⟩ | ⟨rfl, rfl⟩ <;> exact am_AW.step am_base_ok hM hd1 he (by simp [am_step, am_ld2, hy]) hk
theorem am_AW.mmax (hM : am_okM am_nw r) (hd1 : 1 ≤ d) {x : Nat} {y w : Int32} (he : r.2.2.2.2[pc]? = some (some (.invokestatic x, 3, a, b, po, z))) (hlink : Cond.methodLink r.1.cls x Lib.Math.max.name ∈ am_tb) (hs : (rest.map fun v => v.category).sum ≤ 8) (hk : am_AW am_nw ro d r (pc + 3) ls (.int (if w < y then y else w) :: rest) (S, m) v σ') : am_AW am_nw ro d r pc ls (.int y :: .int w :: rest) (S, m) v σ' := by
  obtain ⟨hd, -, -⟩ := hM pc _ he
  refine am_AW.via hk (Nat.le_refl _) (Nat.le_refl _) (fun K hro p l e R s m' args below meth c Q cx H locs nc ns la b1 b2 hW hz hS hL k => ?_)
  obtain ⟨hf, hl⟩ := cx.2.2.2.2.2.2.2.2.1
  refine va_mmax cx.1 cx.2.1 (cx.2.2.1.trans hL.2.1.symm) cx.2.2.2.1 (cx.2.2.2.2.1 _ hlink) (cx.2.2.2.2.1 _ am_mmax_ok.1) (cx.2.2.2.2.1 _ am_mmax_ok.2.1) (cx.2.2.2.2.1 _ am_mmax_ok.2.2) (by omega) (by rw [am_cats]; omega) (by omega) (by omega) hd ?_
  have k2 := k H locs la hW hS hL
  rw [Nat.sub_self, Nat.sub_self] at k2
  exact k2
theorem am_AW.mmin (hM : am_okM am_nw r) (hd1 : 1 ≤ d) {x : Nat} {y w : Int32} (he : r.2.2.2.2[pc]? = some (some (.invokestatic x, 3, a, b, po, z))) (hlink : Cond.methodLink r.1.cls x Lib.Math.min.name ∈ am_tb) (hs : (rest.map fun v => v.category).sum ≤ 8) (hk : am_AW am_nw ro d r (pc + 3) ls (.int (if y < w then y else w) :: rest) (S, m) v σ') : am_AW am_nw ro d r pc ls (.int y :: .int w :: rest) (S, m) v σ' := by
  obtain ⟨hd, -, -⟩ := hM pc _ he
  refine am_AW.via hk (Nat.le_refl _) (Nat.le_refl _) (fun K hro p l e R s m' args below meth c Q cx H locs nc ns la b1 b2 hW hz hS hL k => ?_)
  obtain ⟨hf, hl⟩ := cx.2.2.2.2.2.2.2.2.1
  refine va_mmin cx.1 cx.2.1 (cx.2.2.1.trans hL.2.1.symm) cx.2.2.2.1 (cx.2.2.2.2.1 _ hlink) (cx.2.2.2.2.1 _ am_mmin_ok.1) (cx.2.2.2.2.1 _ am_mmin_ok.2.1) (cx.2.2.2.2.1 _ am_mmin_ok.2.2) (by omega) (by rw [am_cats]; omega) (by omega) (by omega) hd ?_
  have k2 := k H locs la hW hS hL
  rw [Nat.sub_self, Nat.sub_self] at k2
  exact k2
/-- fewer locals are asked for -/
def am_le : am_Lc → am_Lc → Prop
  | [], [] => True
  | none :: t, _ :: u => am_le t u
  | some x :: t, y :: u => y = some x ∧ am_le t u
  | _, _ => False
theorem am_le_ok : ∀ {l1 l2 : am_Lc}, am_le l1 l2 → l1.length = l2.length ∧ ∀ (i : Nat) (x : Value), l1[i]? = some (some x) → l2[i]? = some (some x)
  | [], [], _ => ⟨rfl, fun _ _ h => h⟩
  | none :: t, _ :: u, h => by
    obtain ⟨h1, h2⟩ := am_le_ok (l1 := t) (l2 := u) h
    refine ⟨by simp [h1], fun i x hi => ?_⟩
    cases i with
    | zero => simp at hi
    | succ i => simpa using h2 i x (by simpa using hi)
  | some x :: t, y :: u, h => by
    obtain ⟨h0, h⟩ := h
    obtain ⟨h1, h2⟩ := am_le_ok (l1 := t) (l2 := u) h
    refine ⟨by simp [h1], fun i x hi => ?_⟩
    cases i with
    | zero => simp at hi ⊢; subst hi; exact h0
    | succ i => simpa using h2 i x (by simpa using hi)
  | [], _ :: _, h => h.elim
  | none :: _, [], h => h.elim
  | some _ :: _, [], h => h.elim
theorem am_AW.weak {l1 l2 : am_Lc} {st : List Value} {σ : am_Sg} (h : am_AW am_nw ro d r pc l1 st σ v σ') (hl : am_le l1 l2) : am_AW am_nw ro d r pc l2 st σ v σ' := by
  obtain ⟨h1, h2, h⟩ := h
  obtain ⟨g1, g2⟩ := am_le_ok hl
  refine ⟨h1, h2, fun K hro p l e R s m args below meth c Q cx H locs nc ns la b1 b2 hW hz hS hL kr => ?_⟩
  exact h K hro p l e R s m args below meth c Q cx H locs nc ns la b1 b2 hW hz hS ⟨g1.trans hL.1, hL.2.1, hL.2.2.1, fun i x hi => hL.2.2.2 i x (g2 i x hi)⟩ kr
/-- a branch by what it asks -/
theorem am_AW.brP (hM : am_okM am_nw r) {e : am_En} {bb : Bool} {P : Prop} {t f : Nat} {st st1 : List Value} {σ : am_Sg} (he : r.2.2.2.2[pc]? = some (some e)) (h : am_br e pc st = some (bb, t, f, st1)) (hP : bb = true ↔ P) (kt : P → am_AW am_nw ro d r t ls st1 σ v σ') (kf : ¬ P → am_AW am_nw ro d r f ls st1 σ v σ') : am_AW am_nw ro d r pc ls st σ v σ' :=
  am_AW.br hM he h (fun q => kt (hP.mp q)) (fun q => kf (fun w => by rw [hP.mpr w] at q; cases q))
theorem am_AW.brN (hM : am_okM am_nw r) {e : am_En} {bb : Bool} {P : Prop} {t f : Nat} {st st1 : List Value} {σ : am_Sg} (he : r.2.2.2.2[pc]? = some (some e)) (h : am_br e pc st = some (bb, t, f, st1)) (hP : bb = false ↔ P) (kf : P → am_AW am_nw ro d r f ls st1 σ v σ') (kt : ¬ P → am_AW am_nw ro d r t ls st1 σ v σ') : am_AW am_nw ro d r pc ls st σ v σ' :=
  am_AW.br hM he h (fun q => kt (fun w => by rw [hP.mpr w] at q; cases q)) (fun q => kf (hP.mp q))
end AMR
theorem am_c_ne {x y : Int32} : am_cmp .ne x y = false ↔ x = y := by simp [am_cmp]
theorem am_c_eq {x y : Int32} : am_cmp .eq x y = true ↔ x = y := by simp [am_cmp]
theorem am_c_lt {x y : Int32} : am_cmp .lt x y = true ↔ x < y := by simp [am_cmp]
theorem am_c_ge {x y : Int32} : am_cmp .ge x y = true ↔ y ≤ x := by simp [am_cmp]
theorem am_c_gt {x y : Int32} : am_cmp .gt x y = true ↔ y < x := by simp [am_cmp]
theorem am_c_le {x y : Int32} : am_cmp .le x y = true ↔ x ≤ y := by simp [am_cmp]
