/-! ===== tokens ===== -/
def dg (x : Nat) : Bool := decide (48 ≤ x ∧ x ≤ 57)
theorem dg_i {x : Nat} : dg x = true ↔ 48 ≤ x ∧ x ≤ 57 := by unfold dg; exact decide_eq_true_iff
def rn (T : Nat → Nat) : Nat → Nat → Nat
  | 0, b => b
  | t + 1, b => if dg (T b) then rn T t (b + 1) else b
theorem rn_b (T : Nat → Nat) : ∀ t b, b ≤ rn T t b ∧ rn T t b ≤ b + t
  | 0, b => ⟨Nat.le_refl _, Nat.le_refl _⟩
  | t + 1, b => by
    have ih := rn_b T t (b + 1)
    rw [rn]
    by_cases h : dg (T b)
    · rw [if_pos h]; omega
    · rw [if_neg h]; omega
def te (T : Nat → Nat) (l b : Nat) : Nat := if l ≤ b then b else if dg (T b) then rn T (l - b) b else b + 1
def tk (T : Nat → Nat) (l b : Nat) : Nat := if l ≤ b then 257 else if dg (T b) then (if 2 < te T l b - b then 258 else 256) else T b
def tv (T : Nat → Nat) (l b : Nat) : Nat := if te T l b = b + 1 then T b - 48 else (T b - 48) * 10 + (T (b + 1) - 48)
def mtk (T : Nat → Nat) (l b : Nat) : Nat := if l ≤ b then 1 else if 97 ≤ T b ∧ T b ≤ 122 then 2 else if dg (T b) then (if te T l b - b ≤ 2 then 3 else 0) else if T b = 44 ∨ T b = 59 then 4 else 0
theorem te_b (T : Nat → Nat) {l b : Nat} (h : b ≤ l) : b ≤ te T l b ∧ te T l b ≤ l := by
  unfold te
  by_cases h1 : l ≤ b
  · rw [if_pos h1]; omega
  · rw [if_neg h1]
    by_cases h2 : dg (T b)
    · rw [if_pos h2]; have := rn_b T (l - b) b; omega
    · rw [if_neg h2]; omega
theorem rn_1 {T : Nat → Nat} {l b : Nat} (h : b < l) (hd : dg (T b)) : rn T (l - b) b = rn T (l - (b + 1)) (b + 1) := by
  obtain ⟨t, ht⟩ : ∃ t, l - b = t + 1 := ⟨l - b - 1, by omega⟩
  rw [ht, rn, if_pos hd, show l - (b + 1) = t by omega]
def vi (T : Nat → Nat) (b i v : Nat) : Prop := v < 100 ∧ (i = b → v = 0) ∧ (i = b + 1 → v = T b - 48 ∧ v < 10) ∧ (i = b + 2 → v = (T b - 48) * 10 + (T (b + 1) - 48))
def fC (m m' : am_Mm) : Prop := ∀ p k, ¬ (p = 2 ∧ 5 ≤ k ∧ k ≤ 8) → m'.1 p k = m.1 p k
def fM (m m' : am_Mm) : Prop := ∀ p k, ¬ (p = 63 ∧ 11 ≤ k ∧ k ≤ 14) → m'.1 p k = m.1 p k
theorem hc_fig {x : Nat} (h : x < 256) (m : am_Mm) : f_Tape_isFigure (nI x) m = some (nI (if dg x then 1 else 0), m) := by
  unfold f_Tape_isFigure
  by_cases h1 : x < 48
  · rw [if_pos (show nI x < (48 : Int32) from nI_lt h1 (by decide)), if_neg (show ¬ dg x from fun z => by have := dg_i.mp z; omega)]; rfl
  · rw [if_neg (show ¬ nI x < (48 : Int32) from nI_nlt (b := 48) (by omega) (by omega))]
    by_cases h2 : 57 < x
    · rw [if_pos (show (57 : Int32) < nI x from nI_lt h2 (by omega)), if_neg (show ¬ dg x from fun z => by have := dg_i.mp z; omega)]; rfl
    · rw [if_neg (show ¬ (57 : Int32) < nI x from nI_nlt (a := 57) (by omega) (by decide)), if_pos (show dg x = true from dg_i.mpr (by omega))]; rfl
theorem hc_b81 {b E : Nat} {m : am_Mm} (hb : b ≤ E) (hE : E ≤ 120) (e5 : m.1 2 5 = nI b) (e6 : m.1 2 6 = nI E) : f_Tape_nextNumber_b81 m = some (am_pI m 2 7 (nI (if 2 < E - b then 258 else 256))) := by
  unfold f_Tape_nextNumber_b81 f_Tape_nextNumber_b104
  rw [e5, e6, pk_sub hb]
  by_cases h : 2 < E - b
  · rw [if_pos (show (2 : Int32) < nI (E - b) from nI_lt h (by omega)), if_pos h]; rfl
  · rw [if_neg (show ¬ (2 : Int32) < nI (E - b) from nI_nlt (a := 2) (by omega) (by decide)), if_neg h]; rfl
theorem hc_numl {T : Nat → Nat} {l b E : Nat} (hl : l ≤ 120) (hT : ∀ k, k < l → T k < 256) : ∀ t i f v (m : am_Mm), i + t = l → t < f → b ≤ i → m.1 2 3 = nI l → (∀ k, k < l → m.1 12 k = nI (T k)) → m.1 2 5 = nI b → m.1 2 6 = nI i → m.1 2 8 = nI v → vi T b i v → rn T t i = E → ∃ m' v', f_Tape_nextNumber_b18 f (nI i) m = some m' ∧ m'.1 2 5 = nI b ∧ m'.1 2 6 = nI E ∧ m'.1 2 7 = nI (if 2 < E - b then 258 else 256) ∧ m'.1 2 8 = nI v' ∧ vi T b E v' ∧ fC m m' := by
  intro t
  induction t with
  | zero =>
    intro i f v m hi hf hb e3 e12 e5 e6 e8 hv hr
    obtain ⟨f, rfl⟩ : ∃ z, f = z + 1 := ⟨f - 1, by omega⟩
    have hr : i = E := hr
    subst hr
    refine ⟨am_pI m 2 7 (nI (if 2 < i - b then 258 else 256)), v, ?_, by rw [ml_o _ _ (by omega)]; exact e5, by rw [ml_o _ _ (by omega)]; exact e6, ml_s _ _ _ _, by rw [ml_o _ _ (by omega)]; exact e8, hv, fun p k q => ml_o _ _ (by omega)⟩
    rw [f_Tape_nextNumber_b18, e3, if_pos (nI_le (by omega) (by omega)), hc_b81 hb (by omega) e5 e6]
  | succ t ih =>
    intro i f v m hi hf hb e3 e12 e5 e6 e8 hv hr
    obtain ⟨f, rfl⟩ : ∃ z, f = z + 1 := ⟨f - 1, by omega⟩
    have ti := hT i (by omega)
    rw [f_Tape_nextNumber_b18, e3, if_neg (nI_ge (by omega) (by omega)), if_neg (show ¬ (120 : Int32) ≤ nI i from nI_ge (show i < 120 by omega) (by decide)), if_pos (am_in_nI (by omega) (by omega)), ml_cl (by omega), e12 i (by omega), hc_fig ti, Option.bind_some]
    rw [rn] at hr
    by_cases hd : dg (T i)
    · rw [if_pos hd] at hr
      rw [if_pos hd, if_neg ne01, if_pos (am_in_nI (by omega) (by omega))]
      dsimp only
      have hd' : 48 ≤ T i ∧ T i ≤ 57 := dg_i.mp hd
      have x8 : (((am_rem (m.1 2 8) (10 : Int32)) * (10 : Int32)) + (m.1 12 i)) - (48 : Int32) = nI (v % 10 * 10 + (T i - 48)) := by
        have hv1 := hv.1
        rw [e8, e12 i (by omega), nq10, nq_rem (by omega) (by omega) (by omega), pk_mul, nI_add, show (48 : Int32) = nI 48 from rfl, pk_sub (by omega), show v % 10 * 10 + T i - 48 = v % 10 * 10 + (T i - 48) by omega]
      rw [x8, nI_1]
      obtain ⟨m', v', c1, c2, c3, c4, c5, c6, c7⟩ := ih (i + 1) f (v % 10 * 10 + (T i - 48)) (am_pI (am_pI m 2 8 (nI (v % 10 * 10 + (T i - 48)))) 2 6 (nI (i + 1))) (by omega) (by omega) (by omega) (by rw [ml_o _ _ (by omega), ml_o _ _ (by omega)]; exact e3) (fun k hk => by rw [ml_o _ _ (by omega), ml_o _ _ (by omega)]; exact e12 k hk) (by rw [ml_o _ _ (by omega), ml_o _ _ (by omega)]; exact e5) (ml_s _ _ _ _) (by rw [ml_o _ _ (by omega), ml_s]) (by
        obtain ⟨w1, w2, w3, w4⟩ := hv
        refine ⟨by omega, fun z => by omega, fun z => ?_, fun z => ?_⟩
        · have : i = b := by omega
          subst this
          have := w2 rfl
          omega
        · have : i = b + 1 := by omega
          subst this
          have := w3 rfl
          omega) hr
      exact ⟨m', v', c1, c2, c3, c4, c5, c6, fun p k q => by rw [c7 p k q, ml_o _ _ (by omega), ml_o _ _ (by omega)]⟩
    · rw [if_neg hd] at hr
      subst hr
      rw [if_neg hd, if_pos e00]
      refine ⟨am_pI m 2 7 (nI (if 2 < i - b then 258 else 256)), v, ?_, by rw [ml_o _ _ (by omega)]; exact e5, by rw [ml_o _ _ (by omega)]; exact e6, ml_s _ _ _ _, by rw [ml_o _ _ (by omega)]; exact e8, hv, fun p k q => ml_o _ _ (by omega)⟩
      rw [hc_b81 hb (by omega) e5 e6]
theorem vi_tv {T : Nat → Nat} {l b v : Nat} (hb : b < l) (hd : dg (T b)) (h2 : te T l b - b ≤ 2) (hv : vi T b (te T l b) v) : v = tv T l b := by
  have q : te T l b = rn T (l - b) b := by unfold te; rw [if_neg (by omega), if_pos hd]
  have q2 := (rn_b T (l - (b + 1)) (b + 1)).1
  rw [← rn_1 hb hd, ← q] at q2
  unfold tv
  by_cases z : te T l b = b + 1
  · rw [if_pos z]; exact (hv.2.2.1 z).1
  · rw [if_neg z]; exact hv.2.2.2 (by omega)
/-- the class's tape, and where it stands -/
def CL (T : Nat → Nat) (l : Nat) (m : am_Mm) : Prop := m.1 2 3 = nI l ∧ ∀ k, k < l → m.1 12 k = nI (T k)
def CT (T : Nat → Nat) (l b : Nat) (m : am_Mm) : Prop := m.1 2 5 = nI b ∧ m.1 2 6 = nI (te T l b) ∧ m.1 2 7 = nI (tk T l b) ∧ (tk T l b = 256 → m.1 2 8 = nI (tv T l b))
theorem hc_next {T : Nat → Nat} {l e : Nat} {m : am_Mm} (hl : l ≤ 120) (hT : ∀ k, k < l → T k < 256) (hL : CL T l m) (he : e ≤ l) (e6 : m.1 2 6 = nI e) : ∃ m', f_Tape_next m = some m' ∧ CT T l e m' ∧ fC m m' := by
  obtain ⟨e3, e12⟩ := hL
  unfold f_Tape_next
  rw [e6, ml_s, ml_o _ _ (by omega), e3, if_neg (nI_pos (by omega))]
  by_cases h1 : l ≤ e
  · have t1 : te T l e = e := by unfold te; rw [if_pos h1]
    have t2 : tk T l e = 257 := by unfold tk; rw [if_pos h1]
    rw [if_pos (nI_le h1 (by omega))]
    refine ⟨am_pI (am_pI m 2 5 (nI e)) 2 7 (257 : Int32), rfl, ⟨by rw [ml_o _ _ (by omega), ml_s], by rw [ml_o _ _ (by omega), ml_o _ _ (by omega), t1]; exact e6, by rw [ml_s, t2]; rfl, fun z => by rw [t2] at z; omega⟩, fun p k q => by rw [ml_o _ _ (by omega), ml_o _ _ (by omega)]⟩
  · rw [if_neg (nI_ge (by omega) (by omega)), if_pos (show nI e < (120 : Int32) from nI_lt (show e < 120 by omega) (by decide)), nI_1, ml_o _ _ (show ¬ ((2 : Nat) = 2 ∧ (5 : Nat) = 6) by omega), ml_s, if_pos (am_in_nI (by omega) (by omega)), ml_cl (by omega), ml_o _ _ (show ¬ ((12 : Nat) = 2 ∧ e = 6) by omega), ml_o _ _ (show ¬ ((12 : Nat) = 2 ∧ e = 5) by omega), e12 e (by omega), hc_fig (hT e (by omega)), Option.bind_some]
    by_cases hd : dg (T e)
    · rw [if_pos hd, if_neg ne01]
      have t1 : te T l e = rn T (l - e) e := by unfold te; rw [if_neg h1, if_pos hd]
      have t2 : tk T l e = if 2 < te T l e - e then 258 else 256 := by unfold tk; rw [if_neg h1, if_pos hd]
      dsimp only
      unfold f_Tape_nextNumber
      obtain ⟨m0, em0⟩ : ∃ m0, m0 = am_pI (am_pI m 2 5 (nI e)) 2 6 (nI (e + 1)) := ⟨_, rfl⟩
      rw [← em0]
      have a5 : (am_pI m0 2 8 (0 : Int32)).1 2 5 = nI e := by rw [em0, ml_o _ _ (by omega), ml_o _ _ (by omega), ml_s]
      rw [a5]
      have a5' : (am_pI (am_pI m0 2 8 (0 : Int32)) 2 6 (nI e)).1 2 5 = nI e := by rw [ml_o _ _ (by omega), a5]
      rw [a5']
      obtain ⟨m', v', c1, c2, c3, c4, c5, c6, c7⟩ := hc_numl (E := te T l e) hl hT (l - e) e am_F 0 (am_pI (am_pI m0 2 8 (0 : Int32)) 2 6 (nI e)) (by omega) (by show _ < 5000; omega) (Nat.le_refl _) (by rw [em0, ml_o _ _ (by omega), ml_o _ _ (by omega), ml_o _ _ (by omega), ml_o _ _ (by omega)]; exact e3) (fun k hk => by rw [em0, ml_o _ _ (by omega), ml_o _ _ (by omega), ml_o _ _ (by omega), ml_o _ _ (by omega)]; exact e12 k hk) a5' (ml_s _ _ _ _) (by rw [ml_o _ _ (by omega), ml_s]; rfl) ⟨by omega, fun _ => rfl, fun z => by omega, fun z => by omega⟩ t1.symm
      rw [c1, Option.bind_some]
      refine ⟨m', rfl, ⟨c2, c3, by rw [c4, t2], fun z => ?_⟩, fun p k q => by rw [c7 p k q, em0, ml_o _ _ (by omega), ml_o _ _ (by omega), ml_o _ _ (by omega), ml_o _ _ (by omega)]⟩
      rw [c5, vi_tv (by omega) hd (by
        rcases Nat.lt_or_ge 2 (te T l e - e) with w | w
        · rw [t2, if_pos w] at z; omega
        · exact w) c6]
    · rw [if_neg hd, if_pos e00]
      have t1 : te T l e = e + 1 := by unfold te; rw [if_neg h1, if_neg hd]
      have t2 : tk T l e = T e := by unfold tk; rw [if_neg h1, if_neg hd]
      dsimp only
      rw [ml_o _ _ (show ¬ ((2 : Nat) = 2 ∧ (5 : Nat) = 6) by omega), ml_s, if_pos (am_in_nI (by omega) (by omega)), ml_cl (by omega), ml_o _ _ (show ¬ ((12 : Nat) = 2 ∧ e = 6) by omega), ml_o _ _ (show ¬ ((12 : Nat) = 2 ∧ e = 5) by omega), e12 e (by omega)]
      refine ⟨am_pI (am_pI (am_pI m 2 5 (nI e)) 2 6 (nI (e + 1))) 2 7 (nI (T e)), rfl, ⟨by rw [ml_o _ _ (by omega), ml_o _ _ (by omega), ml_s], by rw [ml_o _ _ (by omega), ml_s, t1], by rw [ml_s, t2], fun z => ?_⟩, fun p k q => by rw [ml_o _ _ (by omega), ml_o _ _ (by omega), ml_o _ _ (by omega)]⟩
      have := hT e (by omega)
      rw [t2] at z
      omega
/-- the model's tape -/
def ML (T : Nat → Nat) (l : Nat) (m : am_Mm) : Prop := m.1 63 10 = nI l ∧ ∀ k, k < l → m.1 71 k = nI (T k)
def MT (T : Nat → Nat) (l b : Nat) (m : am_Mm) : Prop := m.1 63 12 = nI b ∧ m.1 63 11 = nI (te T l b) ∧ m.1 63 13 = nI (mtk T l b) ∧ (mtk T l b = 2 ∨ mtk T l b = 4 → m.1 63 14 = nI (T b)) ∧ (mtk T l b = 3 → m.1 63 14 = nI (tv T l b))
theorem hm_dg {x : Nat} (h : x < 256) (m : am_Mm) : f_M_in ((nI x).toInt64) (48 : Int64) (57 : Int64) m = some (nI (if dg x then 1 else 0), m) := by
  by_cases hd : dg x
  · rw [if_pos hd]
    exact ml_in1 48 57 48 57 rfl rfl ⟨show nI 48 ≤ nI x from nI_le (dg_i.mp hd).1 (by omega), show nI x ≤ nI 57 from nI_le (dg_i.mp hd).2 (by omega)⟩
  · rw [if_neg hd]
    exact ml_in0 48 57 48 57 rfl rfl (fun z => hd (dg_i.mpr ⟨(nI_leI (a := 48) (by omega) (by omega)).mp z.1, (nI_leI (b := 57) (by omega) (by omega)).mp z.2⟩))
theorem hm_lw {x : Nat} (h : x < 256) (m : am_Mm) : f_M_in ((nI x).toInt64) (97 : Int64) (122 : Int64) m = some (nI (if 97 ≤ x ∧ x ≤ 122 then 1 else 0), m) := by
  by_cases hd : 97 ≤ x ∧ x ≤ 122
  · rw [if_pos hd]
    exact ml_in1 97 122 97 122 rfl rfl ⟨show nI 97 ≤ nI x from nI_le hd.1 (by omega), show nI x ≤ nI 122 from nI_le hd.2 (by omega)⟩
  · rw [if_neg hd]
    exact ml_in0 97 122 97 122 rfl rfl (fun z => hd ⟨(nI_leI (a := 97) (by omega) (by omega)).mp z.1, (nI_leI (b := 122) (by omega) (by omega)).mp z.2⟩)
theorem hm_b255 {b E : Nat} {m : am_Mm} (hb : b ≤ E) (hE : E ≤ 120) (e5 : m.1 63 12 = nI b) (e6 : m.1 63 11 = nI E) : f_M_nextToken_b255 m = some (am_pI m 63 13 (nI (if E - b ≤ 2 then 3 else 0))) := by
  unfold f_M_nextToken_b255 f_M_nextToken_b274
  rw [e5, e6, pk_sub hb]
  by_cases h : E - b ≤ 2
  · rw [if_pos (show nI (E - b) ≤ (2 : Int32) from nI_le h (by decide)), if_pos h]; rfl
  · rw [if_neg (show ¬ nI (E - b) ≤ (2 : Int32) from nI_ge (a := 2) (by omega) (by omega)), if_neg h]; rfl
theorem hm_numl {T : Nat → Nat} {l b E : Nat} (hl : l ≤ 120) (hT : ∀ k, k < l → T k < 256) : ∀ t i f v (m : am_Mm), i + t = l → t < f → b < i → ML T l m → m.1 63 12 = nI b → m.1 63 11 = nI i → m.1 63 14 = nI v → vi T b i v → rn T t i = E → ∃ m' v', f_M_nextToken_b165 f m = some m' ∧ m'.1 63 12 = nI b ∧ m'.1 63 11 = nI E ∧ m'.1 63 13 = nI (if E - b ≤ 2 then 3 else 0) ∧ m'.1 63 14 = nI v' ∧ vi T b E v' ∧ fM m m' := by
  intro t
  induction t with
  | zero =>
    intro i f v m hi hf hb hL e12 e11 e14 hv hr
    obtain ⟨f, rfl⟩ : ∃ z, f = z + 1 := ⟨f - 1, by omega⟩
    have hr : i = E := hr
    subst hr
    refine ⟨am_pI m 63 13 (nI (if i - b ≤ 2 then 3 else 0)), v, ?_, by rw [ml_o _ _ (by omega)]; exact e12, by rw [ml_o _ _ (by omega)]; exact e11, ml_s _ _ _ _, by rw [ml_o _ _ (by omega)]; exact e14, hv, fun p k q => ml_o _ _ (by omega)⟩
    rw [f_M_nextToken_b165, hL.1, e11, if_pos (nI_le (by omega) (by omega)), hm_b255 (by omega) (by omega) e12 e11]
  | succ t ih =>
    intro i f v m hi hf hb hL e12 e11 e14 hv hr
    obtain ⟨f, rfl⟩ : ∃ z, f = z + 1 := ⟨f - 1, by omega⟩
    have ti := hT i (by omega)
    rw [f_M_nextToken_b165, hL.1, e11, if_neg (nI_ge (by omega) (by omega)), if_pos (am_in_nI (by omega) (by omega)), ml_cl (by omega), hL.2 i (by omega), hm_dg ti, Option.bind_some]
    rw [rn] at hr
    by_cases hd : dg (T i)
    · rw [if_pos hd] at hr
      rw [if_pos hd, if_neg ne01]
      dsimp only
      have hd' : 48 ≤ T i ∧ T i ≤ 57 := dg_i.mp hd
      have go : ∀ w, vi T b (i + 1) w → ∃ m' v', f_M_nextToken_b239 (f_M_nextToken_b165 f) (nI w) m = some m' ∧ m'.1 63 12 = nI b ∧ m'.1 63 11 = nI E ∧ m'.1 63 13 = nI (if E - b ≤ 2 then 3 else 0) ∧ m'.1 63 14 = nI v' ∧ vi T b E v' ∧ fM m m' := by
        intro w hw
        unfold f_M_nextToken_b239
        rw [ml_o _ _ (show ¬ ((63 : Nat) = 63 ∧ (11 : Nat) = 14) by omega), e11, nI_1]
        obtain ⟨m', v', c1, c2, c3, c4, c5, c6, c7⟩ := ih (i + 1) f w (am_pI (am_pI m 63 14 (nI w)) 63 11 (nI (i + 1))) (by omega) (by omega) (by omega) ⟨by rw [ml_o _ _ (by omega), ml_o _ _ (by omega)]; exact hL.1, fun k hk => by rw [ml_o _ _ (by omega), ml_o _ _ (by omega)]; exact hL.2 k hk⟩ (by rw [ml_o _ _ (by omega), ml_o _ _ (by omega)]; exact e12) (ml_s _ _ _ _) (by rw [ml_o _ _ (by omega), ml_s]) hw hr
        exact ⟨m', v', c1, c2, c3, c4, c5, c6, fun p k q => by rw [c7 p k q, ml_o _ _ (by omega), ml_o _ _ (by omega)]⟩
      obtain ⟨w1, w2, w3, w4⟩ := hv
      rw [e11, e12, e14, pk_sub (by omega)]
      by_cases h2 : 2 ≤ i - b
      · rw [if_pos (show (2 : Int32) ≤ nI (i - b) from nI_le h2 (by omega))]
        exact go v ⟨w1, fun z => by omega, fun z => by omega, fun z => by omega⟩
      · have ei : i = b + 1 := by omega
        have w3' := w3 ei
        have x8 : (((10 : Int32) * nI v) + (m.1 71 i)) - (48 : Int32) = nI (v * 10 + (T i - 48)) := by
          rw [hL.2 i (by omega), nq10, pk_mul, nI_add, show (48 : Int32) = nI 48 from rfl, pk_sub (by omega), show 10 * v + T i - 48 = v * 10 + (T i - 48) by omega]
        rw [if_neg (show ¬ (2 : Int32) ≤ nI (i - b) from nI_ge (b := 2) (by omega) (by decide)), if_pos (am_in_nI (by omega) (by omega)), ml_cl (by omega), x8]
        refine go _ ⟨by omega, fun z => by omega, fun z => by omega, fun z => ?_⟩
        rw [w3'.1, ei]
    · rw [if_neg hd] at hr
      subst hr
      rw [if_neg hd, if_pos e00]
      refine ⟨am_pI m 63 13 (nI (if i - b ≤ 2 then 3 else 0)), v, ?_, by rw [ml_o _ _ (by omega)]; exact e12, by rw [ml_o _ _ (by omega)]; exact e11, ml_s _ _ _ _, by rw [ml_o _ _ (by omega)]; exact e14, hv, fun p k q => ml_o _ _ (by omega)⟩
      rw [hm_b255 (by omega) (by omega) e12 e11]
theorem hm_next {T : Nat → Nat} {l e : Nat} {m : am_Mm} (hl : l ≤ 120) (hT : ∀ k, k < l → T k < 256) (hL : ML T l m) (he : e ≤ l) (e11 : m.1 63 11 = nI e) : ∃ m', f_M_nextToken m = some m' ∧ MT T l e m' ∧ fM m m' := by
  obtain ⟨e10, e71⟩ := hL
  have B : ∀ (mm : am_Mm) (s : Nat), ¬ s = 3 → mm.1 63 10 = nI l → mm.1 63 11 = nI e → f_M_nextToken_b118 (nI s) mm = some (am_pI (am_pI mm 63 13 (nI s)) 63 11 (nI (if l ≤ e then e else e + 1))) ∨ 120 < s := by
    intro mm s hs a10 a11
    rcases Nat.lt_or_ge 120 s with q | q
    · exact Or.inr q
    left
    unfold f_M_nextToken_b118 f_M_nextToken_b142
    rw [ml_o _ _ (show ¬ ((63 : Nat) = 63 ∧ (10 : Nat) = 13) by omega), ml_o _ _ (show ¬ ((63 : Nat) = 63 ∧ (11 : Nat) = 13) by omega), a10, a11]
    by_cases h1 : l ≤ e
    · rw [if_pos (nI_le h1 (by omega)), if_pos h1, ml_o _ _ (show ¬ ((63 : Nat) = 63 ∧ (13 : Nat) = 11) by omega), ml_s, if_neg (show ¬ nI s = (3 : Int32) from fun z => hs ((nI_eq (b := 3) (by omega) (by omega)).mp z)), nq0, nI_add]
      rfl
    · rw [if_neg (nI_ge (by omega) (by omega)), if_neg h1, ml_o _ _ (show ¬ ((63 : Nat) = 63 ∧ (13 : Nat) = 11) by omega), ml_s, if_neg (show ¬ nI s = (3 : Int32) from fun z => hs ((nI_eq (b := 3) (by omega) (by omega)).mp z)), nI_1]
  obtain ⟨m0, em0⟩ : ∃ m0, m0 = am_pI m 63 12 (nI e) := ⟨_, rfl⟩
  have g0 : ∀ p k, ¬ (p = 63 ∧ k = 12) → m0.1 p k = m.1 p k := fun p k q => by rw [em0, ml_o _ _ q]
  unfold f_M_nextToken
  rw [e11, ← em0, g0 63 10 (by omega), g0 63 11 (by omega), e10, e11]
  by_cases h1 : l ≤ e
  · have t1 : te T l e = e := by unfold te; rw [if_pos h1]
    have t2 : mtk T l e = 1 := by unfold mtk; rw [if_pos h1]
    have el : e = l := by omega
    rw [if_pos (nI_le h1 (by omega))]
    unfold f_M_nextToken_b34
    rw [ml_o _ _ (show ¬ ((63 : Nat) = 63 ∧ (11 : Nat) = 14) by omega), ml_o _ _ (show ¬ ((63 : Nat) = 63 ∧ (10 : Nat) = 14) by omega), g0 63 10 (by omega), g0 63 11 (by omega), e10, e11, if_pos (by rw [el])]
    rcases B (am_pI m0 63 14 (-1000000 : Int32)) 1 (by omega) (by rw [ml_o _ _ (by omega), g0 _ _ (by omega)]; exact e10) (by rw [ml_o _ _ (by omega), g0 _ _ (by omega)]; exact e11) with b | b
    · refine ⟨_, b, ⟨?_, ?_, ?_, fun z => by rw [t2] at z; omega, fun z => by rw [t2] at z; omega⟩, fun p k q => ?_⟩
      · rw [ml_o _ _ (by omega), ml_o _ _ (by omega), ml_o _ _ (by omega), em0, ml_s]
      · rw [ml_s, if_pos h1, t1]
      · rw [ml_o _ _ (by omega), ml_s, t2]
      · rw [ml_o _ _ (by omega), ml_o _ _ (by omega), ml_o _ _ (by omega), g0 _ _ (by omega)]
    · omega
  · have hx := hT e (by omega)
    rw [if_neg (nI_ge (by omega) (by omega)), if_pos (am_in_nI (by omega) (by omega)), ml_cl (by omega), g0 71 e (by omega), e71 e (by omega)]
    unfold f_M_nextToken_b34
    obtain ⟨m1, em1⟩ : ∃ m1, m1 = am_pI m0 63 14 (nI (T e)) := ⟨_, rfl⟩
    rw [← em1]
    have g1 : ∀ p k, ¬ (p = 63 ∧ k = 12) → ¬ (p = 63 ∧ k = 14) → m1.1 p k = m.1 p k := fun p k q q2 => by rw [em1, ml_o _ _ q2, g0 _ _ q]
    have a10 : m1.1 63 10 = nI l := by rw [g1 _ _ (by omega) (by omega)]; exact e10
    have a11 : m1.1 63 11 = nI e := by rw [g1 _ _ (by omega) (by omega)]; exact e11
    have a12 : m1.1 63 12 = nI e := by rw [em1, ml_o _ _ (by omega), em0, ml_s]
    have a14 : m1.1 63 14 = nI (T e) := by rw [em1, ml_s]
    rw [a10, a11, if_neg (fun z => by have := (nI_eq (by omega) (by omega)).mp z; omega), a14, hm_lw hx, Option.bind_some]
    -- a token of one letter
    have one : ∀ s, mtk T l e = s → s ≠ 3 → s < 5 → ¬ dg (T e) → ∃ m', f_M_nextToken_b118 (nI s) m1 = some m' ∧ MT T l e m' ∧ fM m m' := by
      intro s hs s3 s5 hd
      have t1 : te T l e = e + 1 := by unfold te; rw [if_neg h1, if_neg hd]
      rcases B m1 s s3 a10 a11 with b | b
      · refine ⟨_, b, ⟨?_, ?_, ?_, fun z => ?_, fun z => by rw [hs] at z; omega⟩, fun p k q => ?_⟩
        · rw [ml_o _ _ (by omega), ml_o _ _ (by omega)]; exact a12
        · rw [ml_s, if_neg h1, t1]
        · rw [ml_o _ _ (by omega), ml_s, hs]
        · rw [ml_o _ _ (by omega), ml_o _ _ (by omega)]; exact a14
        · rw [ml_o _ _ (by omega), ml_o _ _ (by omega), g1 _ _ (by omega) (by omega)]
      · omega
    by_cases hw : 97 ≤ T e ∧ T e ≤ 122
    · rw [if_pos hw, if_neg ne01]
      exact one 2 (by unfold mtk; rw [if_neg h1, if_pos hw]) (by omega) (by omega) (fun z => by have := dg_i.mp z; omega)
    rw [if_neg hw, if_pos e00]
    dsimp only
    rw [a14, hm_dg hx, Option.bind_some]
    by_cases hd : dg (T e)
    · rw [if_pos hd, if_neg ne01]
      have hd' : 48 ≤ T e ∧ T e ≤ 57 := dg_i.mp hd
      have t1 : te T l e = rn T (l - e) e := by unfold te; rw [if_neg h1, if_pos hd]
      have t2 : mtk T l e = if te T l e - e ≤ 2 then 3 else 0 := by unfold mtk; rw [if_neg h1, if_neg hw, if_pos hd]
      dsimp only
      unfold f_M_nextToken_b118 f_M_nextToken_b142
      rw [ml_o _ _ (show ¬ ((63 : Nat) = 63 ∧ (10 : Nat) = 13) by omega), ml_o _ _ (show ¬ ((63 : Nat) = 63 ∧ (11 : Nat) = 13) by omega), a10, a11, if_neg (nI_ge (by omega) (by omega)), ml_o _ _ (show ¬ ((63 : Nat) = 63 ∧ (13 : Nat) = 11) by omega), ml_s, if_pos rfl, ml_o _ _ (show ¬ ((63 : Nat) = 63 ∧ (14 : Nat) = 11) by omega), ml_o _ _ (show ¬ ((63 : Nat) = 63 ∧ (14 : Nat) = 13) by omega), a14, nI_1, show (48 : Int32) = nI 48 from rfl, pk_sub hd'.1]
      obtain ⟨m', v', c1, c2, c3, c4, c5, c6, c7⟩ := hm_numl (E := te T l e) (b := e) hl hT (l - (e + 1)) (e + 1) am_F (T e - 48) (am_pI (am_pI (am_pI m1 63 13 (3 : Int32)) 63 11 (nI (e + 1))) 63 14 (nI (T e - 48))) (by omega) (by show _ < 5000; omega) (by omega) ⟨by rw [ml_o _ _ (by omega), ml_o _ _ (by omega), ml_o _ _ (by omega)]; exact a10, fun k hk => by rw [ml_o _ _ (by omega), ml_o _ _ (by omega), ml_o _ _ (by omega), g1 _ _ (by omega) (by omega)]; exact e71 k hk⟩ (by rw [ml_o _ _ (by omega), ml_o _ _ (by omega), ml_o _ _ (by omega)]; exact a12) (by rw [ml_o _ _ (by omega), ml_s]) (ml_s _ _ _ _) ⟨by omega, fun z => by omega, fun z => ⟨rfl, by omega⟩, fun z => by omega⟩ (by rw [t1, rn_1 (by omega) hd])
      refine ⟨m', c1, ⟨c2, c3, by rw [c4, t2], fun z => ?_, fun z => ?_⟩, fun p k q => by rw [c7 p k q, ml_o _ _ (by omega), ml_o _ _ (by omega), ml_o _ _ (by omega), g1 _ _ (by omega) (by omega)]⟩
      · rcases Nat.lt_or_ge 2 (te T l e - e) with w | w
        · rw [t2, if_neg (by omega)] at z; omega
        · rw [t2, if_pos w] at z; omega
      · rw [c5, vi_tv (by omega) hd (by
          rcases Nat.lt_or_ge 2 (te T l e - e) with w | w
          · rw [t2, if_neg (by omega)] at z; omega
          · exact w) c6]
    · rw [if_neg hd, if_pos e00]
      dsimp only
      rw [a14]
      have mk1 : mtk T l e = if T e = 44 ∨ T e = 59 then 4 else 0 := by unfold mtk; rw [if_neg h1, if_neg hw, if_neg hd]
      by_cases h4 : T e = 44
      · rw [if_pos (by rw [h4]; rfl)]
        exact one 4 (by rw [mk1, if_pos (Or.inl h4)]) (by omega) (by omega) hd
      · rw [if_neg (show ¬ nI (T e) = (44 : Int32) from fun z => h4 ((nI_eq (b := 44) (by omega) (by omega)).mp z))]
        by_cases h5 : T e = 59
        · rw [if_pos (by rw [h5]; rfl)]
          exact one 4 (by rw [mk1, if_pos (Or.inr h5)]) (by omega) (by omega) hd
        · rw [if_neg (show ¬ nI (T e) = (59 : Int32) from fun z => h5 ((nI_eq (b := 59) (by omega) (by omega)).mp z))]
          exact one 0 (by rw [mk1, if_neg (by omega)]) (by omega) (by omega) hd
