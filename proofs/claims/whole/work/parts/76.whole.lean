/-! ===== whole ===== -/
theorem na_b {g b : Int} {B : Nat} (h1 : -20 ≤ g ∧ g ≤ 20) (h2 : b.natAbs ≤ B) : (g * b).natAbs ≤ 20 * B := by
  rw [Int.natAbs_mul]
  exact Nat.mul_le_mul (by omega) h2
def fV (n : Nat) (g : Nat → Int32) (c k : Nat) : Int := match fz n g c k with
  | some (a, _) => a
  | none => 0
theorem fz_ok {n c : Nat} {g : Nat → Int32} (hn : 0 < n) (hg : ∀ d, d < n → -20 ≤ (g d).toInt ∧ (g d).toInt ≤ 20) : ∀ k, k ≤ 11 → ∃ a b, fz n g c k = some (a, b) ∧ a.natAbs ≤ 21 ^ k ∧ b.natAbs ≤ 21 ^ k
  | 0, _ => ⟨0, 1, rfl, by decide, by decide⟩
  | k + 1, hk => by
    obtain ⟨a, b, q, ha, hb⟩ := fz_ok (c := c) hn hg k (by omega)
    have h1 := hg _ (Nat.mod_lt (c + k + 1) hn)
    have h2 := na_b h1 hb
    have hp : 21 ^ (k + 1) ≤ 21 ^ 11 := Nat.pow_le_pow_right (by omega) hk
    have hp2 : 21 ^ k ≤ 21 ^ 11 := Nat.pow_le_pow_right (by omega) (by omega)
    rw [fz_s q]
    generalize (g ((c + k + 1) % n)).toInt * b = P at *
    rw [if_pos (by unfold Rg; omega)]
    refine ⟨b, P - a, rfl, ?_, ?_⟩
    · rw [Nat.pow_succ]; omega
    · rw [Nat.pow_succ]; omega
theorem fV_e {n c k : Nat} {g : Nat → Int32} (hn : 0 < n) (hg : ∀ d, d < n → -20 ≤ (g d).toInt ∧ (g d).toInt ≤ 20) (hk : k ≤ 10) : fz n g c k = some (fV n g c k, fV n g c (k + 1)) := by
  obtain ⟨a, b, q, _⟩ := fz_ok (c := c) hn hg k (by omega)
  obtain ⟨a', b', q', _⟩ := fz_ok (c := c) hn hg (k + 1) (by omega)
  have e1 : fV n g c k = a := by unfold fV; rw [q]
  have e2 : fV n g c (k + 1) = a' := by unfold fV; rw [q']
  rw [e1, e2, q]
  rw [fz_s q] at q'
  by_cases z : Rg ((g ((c + k + 1) % n)).toInt * b) ∧ Rg ((g ((c + k + 1) % n)).toInt * b - a)
  · rw [if_pos z] at q'
    injection q' with q'
    injection q' with q1 q2
    rw [q1]
  · rw [if_neg z] at q'; cases q'
theorem hc_gw {n c last : Nat} {g : Nat → Int32} {m : am_Mm} (h : 4 ≤ n) (h9 : n ≤ 9) (e30 : m.1 30 2 = nI n) (e31 : ∀ d, d < n → m.1 31 d = g d) (hg : ∀ d, d < n → -20 ≤ (g d).toInt ∧ (g d).toInt ≤ 20) (hc : c < n) (h1 : 1 ≤ last) (hl : last ≤ 9) : ∃ m', f_Frieze_grow (nI c) (nI last) m = some (nI 1, m') ∧ m'.1 = m.1 ∧ ∀ i, i ≤ last → (m'.2 32 i).toInt = fV n g c i := by
  obtain ⟨r, m', a1, a2, a3, a4⟩ := hc_grow h h9 e30 e31 (fun d hd => by have := hg d hd; omega) hc (show last ≤ 20 by omega)
  have q := fV_e (c := c) (k := last - 1) (show 0 < n by omega) hg (by omega)
  obtain ⟨r1, a5⟩ := a4 (by rw [q]; exact fun z => by cases z)
  subst r1
  refine ⟨m', a1, a2, fun i hi => ?_⟩
  by_cases z : i = last
  · subst z
    obtain ⟨a, b, i1, i2, i3⟩ := a5 (i - 1) (Nat.le_refl _)
    rw [q] at i1
    injection i1 with i1
    injection i1 with i1 i4
    rw [show i - 1 + 1 = i by omega] at i3 i4
    rw [i3, i4]
  · obtain ⟨a, b, i1, i2, i3⟩ := a5 i (by omega)
    rw [fV_e (show 0 < n by omega) hg (by omega)] at i1
    injection i1 with i1
    injection i1 with i1 i4
    rw [i2, i1]
theorem hm_gw {n cu c K : Nat} {kd ow : Nat → Nat} {m : am_Mm} (ok : rl_OK n cu kd ow) (hP : rl_Pol m.1 67 0 n cu kd ow) (hc : c < n) (h1 : 1 ≤ K) (hK : K ≤ 9) : ∃ v m', f_M_grown (nI c) (nI K) m = some (v, m') ∧ (∀ p k, ¬ (p = 63 ∧ k = 19) → m'.1 p k = m.1 p k) ∧ v.toInt = fV n (cI n cu kd ow) c K := by
  have hg : ∀ d, d < n → -20 ≤ (cI n cu kd ow d).toInt ∧ (cI n cu kd ow d).toInt ≤ 20 := fun d hd => cI_b ok hd
  obtain ⟨v, m', a1, a2, a3, a4⟩ := hm_grow ok hP (fun d hd => by have := hg d hd; omega) hc (show K ≤ 20 by omega)
  have h4 := ok.1
  have q := fV_e (c := c) (k := K - 1) (show 0 < n by omega) hg (by omega)
  obtain ⟨_, e⟩ := a3 _ _ q
  rw [if_neg (by omega), show K - 1 + 1 = K by omega] at e
  exact ⟨v, m', a1, a2, e⟩
/-! closes -/
def clP (n : Nat) (g : Nat → Int32) (k : Nat) : Prop := ∀ c, k ≤ c → c < n → fV n g c n = 0 ∧ fV n g c (n - 1) = 1
theorem clP_s {n k : Nat} {g : Nat → Int32} (y : fV n g k n = 0 ∧ fV n g k (n - 1) = 1) : clP n g k ↔ clP n g (k + 1) := by
  refine ⟨fun q c a => q c (by omega), fun q c a b => ?_⟩
  by_cases z : c = k
  · subst z; exact y
  · exact q c (by omega) b
theorem hc_cl {n : Nat} {g : Nat → Int32} (h : 4 ≤ n) (h9 : n ≤ 9) (hg : ∀ d, d < n → -20 ≤ (g d).toInt ∧ (g d).toInt ≤ 20) {m : am_Mm} (e30 : m.1 30 2 = nI n) (e31 : ∀ d, d < n → m.1 31 d = g d) : ∃ r m', f_Frieze_closes m = some (nI r, m') ∧ m'.1 = m.1 ∧ (r = 0 ∧ ¬ clP n g 0 ∨ r = 1 ∧ clP n g 0) := by
  have L : ∀ t k f (m0 : am_Mm), k + t = n → t < f → m0.1 = m.1 → ∃ r m', f_Frieze_closes_b2 f (nI k) m0 = some (nI r, m') ∧ m'.1 = m.1 ∧ (r = 0 ∧ ¬ clP n g k ∨ r = 1 ∧ clP n g k) := by
    intro t
    induction t with
    | zero =>
      intro k f m0 hk hf em
      obtain ⟨f, rfl⟩ : ∃ z, f = z + 1 := ⟨f - 1, by omega⟩
      refine ⟨1, m0, ?_, em, Or.inr ⟨rfl, fun c q1 q2 => absurd q1 (by omega)⟩⟩
      rw [f_Frieze_closes_b2, em, e30, if_pos (nI_le (by omega) (by omega))]; rfl
    | succ t ih =>
      intro k f m0 hk hf em
      obtain ⟨f, rfl⟩ : ∃ z, f = z + 1 := ⟨f - 1, by omega⟩
      obtain ⟨m1, a1, a2, a3⟩ := hc_gw (m := m0) (last := n) (c := k) h h9 (by rw [em]; exact e30) (fun d hd => by rw [em]; exact e31 d hd) hg (by omega) (by omega) h9
      have em1 : m1.1 = m.1 := by rw [a2, em]
      rw [f_Frieze_closes_b2, em, e30, if_neg (nI_ge (by omega) (by omega)), a1, Option.bind_some, if_neg ne01]
      dsimp only
      rw [em1, e30, if_pos (am_in_nI (by omega) (by omega)), ml_cl (by omega), nq1, pk_sub (by omega), if_pos (am_in_nI (by omega) (by omega)), ml_cl (by omega), nI_add]
      simp only [lg_eq, q64.1, q64.2.1]
      rw [a3 n (Nat.le_refl _), a3 (n - 1) (by omega)]
      by_cases y1 : fV n g k n = 0
      · rw [if_pos y1]
        by_cases y2 : fV n g k (n - 1) = 1
        · rw [if_pos y2, clP_s ⟨y1, y2⟩]
          exact ih (k + 1) f m1 (by omega) (by omega) em1
        · rw [if_neg y2]
          exact ⟨0, m1, rfl, em1, Or.inl ⟨rfl, fun q => y2 (q k (Nat.le_refl _) (by omega)).2⟩⟩
      · rw [if_neg y1]
        exact ⟨0, m1, rfl, em1, Or.inl ⟨rfl, fun q => y1 (q k (Nat.le_refl _) (by omega)).1⟩⟩
  exact L n 0 am_F m (by omega) (by show n < 5000; omega) rfl
theorem hm_cl {n cu : Nat} {kd ow : Nat → Nat} {m : am_Mm} (ok : rl_OK n cu kd ow) (hP : rl_Pol m.1 67 0 n cu kd ow) : ∃ r m', f_M_doesClose m = some (nI r, m') ∧ (∀ p k, ¬ (p = 63 ∧ k = 19) → m'.1 p k = m.1 p k) ∧ (r = 0 ∧ ¬ clP n (cI n cu kd ow) 0 ∨ r = 1 ∧ clP n (cI n cu kd ow) 0) := by
  have h4 := ok.1
  have h9 := ok.2.1
  have L0 : ∀ t k f (m0 : am_Mm), k + t = n → t < f → f_M_doesClose_b11 f (nI n) (nI 0) (nI k) m0 = some (nI 0, m0) := by
    intro t
    induction t with
    | zero =>
      intro k f m0 hk hf
      obtain ⟨f, rfl⟩ : ∃ z, f = z + 1 := ⟨f - 1, by omega⟩
      rw [f_M_doesClose_b11, if_pos (nI_le (by omega) (by omega)), if_pos (Or.inl e00)]
    | succ t ih =>
      intro k f m0 hk hf
      obtain ⟨f, rfl⟩ : ∃ z, f = z + 1 := ⟨f - 1, by omega⟩
      rw [f_M_doesClose_b11, if_neg (nI_ge (by omega) (by omega)), if_pos e00]
      unfold f_M_doesClose_b57
      rw [nI_1]
      exact ih (k + 1) f m0 (by omega) (by omega)
  have L : ∀ t k f (m0 : am_Mm), k + t = n → t < f → (∀ p k, ¬ (p = 63 ∧ k = 19) → m0.1 p k = m.1 p k) → ∃ r m', f_M_doesClose_b11 f (nI n) (nI 1) (nI k) m0 = some (nI r, m') ∧ (∀ p k, ¬ (p = 63 ∧ k = 19) → m'.1 p k = m.1 p k) ∧ (r = 0 ∧ ¬ clP n (cI n cu kd ow) k ∨ r = 1 ∧ clP n (cI n cu kd ow) k) := by
    intro t
    induction t with
    | zero =>
      intro k f m0 hk hf fr0
      obtain ⟨f, rfl⟩ : ∃ z, f = z + 1 := ⟨f - 1, by omega⟩
      refine ⟨1, m0, ?_, fr0, Or.inr ⟨rfl, fun c q1 q2 => absurd q1 (by omega)⟩⟩
      rw [f_M_doesClose_b11, if_pos (nI_le (by omega) (by omega)), if_pos (Or.inr e11)]
    | succ t ih =>
      intro k f m0 hk hf fr0
      obtain ⟨f, rfl⟩ : ∃ z, f = z + 1 := ⟨f - 1, by omega⟩
      obtain ⟨v, m1, a1, a2, a3⟩ := hm_gw (m := m0) (c := k) (K := n) ok (rl_Pol_c h9 (fun i _ => fr0 _ _ (by omega)) hP) (by omega) (by omega) h9
      have fr1 : ∀ p k, ¬ (p = 63 ∧ k = 19) → m1.1 p k = m.1 p k := fun p k z => by rw [a2 p k z, fr0 p k z]
      rw [f_M_doesClose_b11, if_neg (nI_ge (by omega) (by omega)), if_neg ne01, a1, Option.bind_some]
      unfold f_M_doesClose_b57
      dsimp only
      by_cases y1 : fV n (cI n cu kd ow) k n = 0
      · rw [if_pos (by rw [lg_eq, q64.1, a3]; exact y1)]
        obtain ⟨v2, m2, b1, b2, b3⟩ := hm_gw (m := m1) (c := k) (K := n - 1) ok (rl_Pol_c h9 (fun i _ => fr1 _ _ (by omega)) hP) (by omega) (by omega) (by omega)
        have fr2 : ∀ p k, ¬ (p = 63 ∧ k = 19) → m2.1 p k = m.1 p k := fun p k z => by rw [b2 p k z, fr1 p k z]
        rw [nq1, pk_sub (by omega), b1, Option.bind_some, nI_add]
        by_cases y2 : fV n (cI n cu kd ow) k (n - 1) = 1
        · rw [if_pos (by rw [lg_eq, q64.2.1, b3]; exact y2), clP_s ⟨y1, y2⟩]
          exact ih (k + 1) f m2 (by omega) (by omega) fr2
        · rw [if_neg (by rw [lg_eq, q64.2.1, b3]; exact y2)]
          exact ⟨0, m2, L0 t (k + 1) f m2 (by omega) (by omega), fr2, Or.inl ⟨rfl, fun q => y2 (q k (Nat.le_refl _) (by omega)).2⟩⟩
      · rw [if_neg (by rw [lg_eq, q64.1, a3]; exact y1), nI_1]
        exact ⟨0, m1, L0 t (k + 1) f m1 (by omega) (by omega), fr1, Or.inl ⟨rfl, fun q => y1 (q k (Nat.le_refl _) (by omega)).1⟩⟩
  unfold f_M_doesClose
  rw [hP.1]
  exact L n 0 am_F m (by omega) (by show n < 5000; omega) (fun p k _ => rfl)
/-! period -/
def stP (n : Nat) (g : Nat → Int32) (p k : Nat) : Prop := ∀ c, k ≤ c → c < n → g c = g ((c + p) % n)
theorem stP_s {n p k : Nat} {g : Nat → Int32} (y : g k = g ((k + p) % n)) : stP n g p k ↔ stP n g p (k + 1) := by
  refine ⟨fun q c a => q c (by omega), fun q c a b => ?_⟩
  by_cases z : c = k
  · subst z; exact y
  · exact q c (by omega) b
def stB (n : Nat) (g : Nat → Int32) (p : Nat) : Bool := decide (∀ c, c < n → g c = g ((c + p) % n))
theorem stB_e {n p : Nat} {g : Nat → Int32} : stB n g p = true ↔ stP n g p 0 := by
  unfold stB stP
  rw [decide_eq_true_eq]
  exact ⟨fun q c _ => q c, fun q c => q c (Nat.zero_le c)⟩
def lsd (S : Nat → Bool) (n : Nat) : Nat → Nat
  | 0 => n
  | d + 1 => if S (n - 1 - d) then n - 1 - d else lsd S n d
theorem hc_st {n p : Nat} {g : Nat → Int32} {m : am_Mm} (h9 : n ≤ 9) (hp : p < n) (e30 : m.1 30 2 = nI n) (e31 : ∀ d, d < n → m.1 31 d = g d) : f_Frieze_isSameTurned (nI p) m = some (nI (if stB n g p then 1 else 0), m) := by
  have L : ∀ t k f, k + t = n → t < f → (stP n g p k → f_Frieze_isSameTurned_b2 f (nI p) (nI k) m = some (nI 1, m)) ∧ (¬ stP n g p k → f_Frieze_isSameTurned_b2 f (nI p) (nI k) m = some (nI 0, m)) := by
    intro t
    induction t with
    | zero =>
      intro k f hk hf
      obtain ⟨f, rfl⟩ : ∃ z, f = z + 1 := ⟨f - 1, by omega⟩
      refine ⟨fun _ => ?_, fun q => absurd (fun c q1 q2 => absurd q1 (by omega)) q⟩
      rw [f_Frieze_isSameTurned_b2, e30, if_pos (nI_le (by omega) (by omega))]; rfl
    | succ t ih =>
      intro k f hk hf
      obtain ⟨f, rfl⟩ : ∃ z, f = z + 1 := ⟨f - 1, by omega⟩
      have hlt := Nat.mod_lt (k + p) (show 0 < n by omega)
      have S : f_Frieze_isSameTurned_b2 (f + 1) (nI p) (nI k) m = f_Frieze_isSameTurned_b34 (f_Frieze_isSameTurned_b2 f) (nI p) (nI k) (nI ((k + p) % n)) m := by
        rw [f_Frieze_isSameTurned_b2, e30, if_neg (nI_ge (by omega) (by omega)), nI_add, nq_md (show k + p < 2 * n by omega)]
        by_cases z : k + p < n
        · rw [if_neg (nI_ge z (by omega)), if_pos z]
        · rw [if_pos (nI_le (by omega) (by omega)), if_neg z, pk_sub (by omega)]
      rw [S]
      unfold f_Frieze_isSameTurned_b34
      rw [if_pos (am_in_nI (by omega) (by omega)), if_pos (am_in_nI (by omega) (by omega)), ml_cl (by omega), ml_cl (by omega), e31 k (by omega), e31 _ hlt, nI_1]
      by_cases y : g k = g ((k + p) % n)
      · rw [if_pos y, stP_s y]
        exact ih (k + 1) f (by omega) (by omega)
      · rw [if_neg y]
        exact ⟨fun q => absurd (q k (Nat.le_refl _) (by omega)) y, fun _ => rfl⟩
  have L0 := L n 0 am_F (by omega) (by show n < 5000; omega)
  by_cases q : stB n g p = true
  · rw [if_pos q]; exact L0.1 (stB_e.mp q)
  · rw [if_neg q]; exact L0.2 (fun z => q (stB_e.mpr z))
theorem hc_pe {n : Nat} {g : Nat → Int32} {m : am_Mm} (h : 4 ≤ n) (h9 : n ≤ 9) (e30 : m.1 30 2 = nI n) (e31 : ∀ d, d < n → m.1 31 d = g d) : f_Frieze_period m = some (nI (lsd (stB n g) n (n - 1)), m) := by
  have L : ∀ d p f, p + d = n → d < f → f_Frieze_period_b2 f (nI p) m = some (nI (lsd (stB n g) n d), m) := by
    intro d
    induction d with
    | zero =>
      intro p f hp hf
      obtain ⟨f, rfl⟩ : ∃ z, f = z + 1 := ⟨f - 1, by omega⟩
      rw [f_Frieze_period_b2, e30, if_pos (nI_le (by omega) (by omega))]; rfl
    | succ d ih =>
      intro p f hp hf
      obtain ⟨f, rfl⟩ : ∃ z, f = z + 1 := ⟨f - 1, by omega⟩
      have e : n - 1 - d = p := by omega
      rw [f_Frieze_period_b2, e30, if_neg (nI_ge (by omega) (by omega)), hc_st h9 (by omega) e30 e31, Option.bind_some, lsd, e]
      by_cases q : stB n g p = true
      · rw [if_pos q, if_neg ne01, if_pos q]
      · rw [if_neg q, if_pos e00, if_neg q, nI_1]
        exact ih (p + 1) f (by omega) (by omega)
  exact L (n - 1) 1 am_F (by omega) (by show _ < 5000; omega)
theorem hm_pe {n cu : Nat} {kd ow : Nat → Nat} {m : am_Mm} (ok : rl_OK n cu kd ow) (hP : rl_Pol m.1 67 0 n cu kd ow) : f_M_period m = some (nI (lsd (stB n (cI n cu kd ow)) n (n - 1)), m) := by
  have h4 := ok.1
  have h9 := ok.2.1
  have n0 : ¬ nI n = (0 : Int32) := fun z => by have := (nI_eq (b := 0) (by omega) (by omega)).mp z; omega
  have K0 : ∀ k13 (best : Int32) p t k f, k + t = n → t < f → f_M_period_b23 k13 f (nI n) best (nI p) (nI 0) (nI k) m = f_M_period_b84 k13 (nI n) (nI p) best m := by
    intro k13 best p t
    induction t with
    | zero =>
      intro k f hk hf
      obtain ⟨f, rfl⟩ : ∃ z, f = z + 1 := ⟨f - 1, by omega⟩
      rw [f_M_period_b23, if_pos (nI_le (by omega) (by omega)), if_pos e00]
    | succ t ih =>
      intro k f hk hf
      obtain ⟨f, rfl⟩ : ∃ z, f = z + 1 := ⟨f - 1, by omega⟩
      rw [f_M_period_b23, if_neg (nI_ge (by omega) (by omega)), if_pos e00]
      unfold f_M_period_b66
      rw [nI_1]
      exact ih (k + 1) f (by omega) (by omega)
  have K1 : ∀ k13 (best : Int32) p, p < n → ∀ t k f, k + t = n → t < f → (stP n (cI n cu kd ow) p k → f_M_period_b23 k13 f (nI n) best (nI p) (nI 1) (nI k) m = f_M_period_b84 k13 (nI n) (nI p) (nI p) m) ∧ (¬ stP n (cI n cu kd ow) p k → f_M_period_b23 k13 f (nI n) best (nI p) (nI 1) (nI k) m = f_M_period_b84 k13 (nI n) (nI p) best m) := by
    intro k13 best p hp t
    induction t with
    | zero =>
      intro k f hk hf
      obtain ⟨f, rfl⟩ : ∃ z, f = z + 1 := ⟨f - 1, by omega⟩
      refine ⟨fun _ => ?_, fun q => absurd (fun c q1 q2 => absurd q1 (by omega)) q⟩
      rw [f_M_period_b23, if_pos (nI_le (by omega) (by omega)), if_neg ne01]
    | succ t ih =>
      intro k f hk hf
      obtain ⟨f, rfl⟩ : ∃ z, f = z + 1 := ⟨f - 1, by omega⟩
      have hlt := Nat.mod_lt (k + p) (show 0 < n by omega)
      rw [f_M_period_b23, if_neg (nI_ge (by omega) (by omega)), if_neg ne01, hm_ct ok hP (show k < n by omega), Option.bind_some, if_neg n0, nI_add, nq_rem (by omega) (by omega) (by omega), hm_ct ok hP hlt, Option.bind_some]
      unfold f_M_period_b66
      dsimp only
      rw [nI_1]
      by_cases y : cI n cu kd ow k = cI n cu kd ow ((k + p) % n)
      · rw [if_pos y, stP_s y]
        exact ih (k + 1) f (by omega) (by omega)
      · rw [if_neg y]
        exact ⟨fun q => absurd (q k (Nat.le_refl _) (by omega)) y, fun _ => K0 k13 best p t (k + 1) f (by omega) (by omega)⟩
  have L : ∀ p d f, p + d = n - 1 → p < f → f_M_period_b13 f (nI n) (nI (lsd (stB n (cI n cu kd ow)) n d)) (nI p) m = some (nI (lsd (stB n (cI n cu kd ow)) n (n - 1)), m) := by
    intro p
    induction p with
    | zero =>
      intro d f hd hf
      obtain ⟨f, rfl⟩ : ∃ z, f = z + 1 := ⟨f - 1, by omega⟩
      rw [f_M_period_b13, if_pos (show nI 0 ≤ (0 : Int32) by decide), show d = n - 1 by omega]
    | succ p ih =>
      intro d f hd hf
      obtain ⟨f, rfl⟩ : ∃ z, f = z + 1 := ⟨f - 1, by omega⟩
      have e : n - 1 - d = p + 1 := by omega
      rw [f_M_period_b13, if_neg (show ¬ nI (p + 1) ≤ (0 : Int32) from nI_ge (show 0 < p + 1 by omega) (by omega)), ← ih (d + 1) f (by omega) (by omega)]
      have K := K1 (f_M_period_b13 f) (nI (lsd (stB n (cI n cu kd ow)) n d)) (p + 1) (by omega) n 0 am_F (by omega) (by show n < 5000; omega)
      have x1 : nI (p + 1) + (-1 : Int32) = nI p := by
        rw [show nI (p + 1) + (-1 : Int32) = nI (p + 1) - 1 from (Int32.sub_eq_add_neg _ _).symm, nq1, pk_sub (by omega)]; rfl
      rw [show f_M_period_b23 (f_M_period_b13 f) am_F (nI n) (nI (lsd (stB n (cI n cu kd ow)) n d)) (nI (p + 1)) (1 : Int32) (0 : Int32) m = f_M_period_b23 (f_M_period_b13 f) am_F (nI n) (nI (lsd (stB n (cI n cu kd ow)) n d)) (nI (p + 1)) (nI 1) (nI 0) m from rfl, lsd, e]
      by_cases q : stB n (cI n cu kd ow) (p + 1) = true
      · rw [K.1 (stB_e.mp q), if_pos q]
        unfold f_M_period_b84
        rw [x1]
      · rw [K.2 (fun z => q (stB_e.mpr z)), if_neg q]
        unfold f_M_period_b84
        rw [x1]
  unfold f_M_period
  rw [hP.1, nq1, pk_sub (by omega)]
  exact L (n - 1) 0 am_F (by omega) (by show _ < 5000; omega)
/-! noughts and what is less -/
def nz (z : Nat) (v : Int) : Bool := if z = 1 then decide (v = 0) else decide (v < 0)
def wk (n : Nat) (g : Nat → Int32) (z c : Nat) : Nat → Bool
  | 0 => false
  | k + 1 => wk n g z c k || nz z (fV n g c (k + 1))
theorem hc_su {n z c : Nat} {g : Nat → Int32} {m : am_Mm} (h : 4 ≤ n) (h9 : n ≤ 9) (hz : z < 2) (e30 : m.1 30 2 = nI n) (hv : ∀ i, i ≤ n - 1 → (m.2 32 i).toInt = fV n g c i) : f_Frieze_hasSuch (nI z) m = some (nI (if wk n g z c (n - 1) then 1 else 0), m) := by
  have L : ∀ t k f, k + t = n → 1 ≤ k → t < f → wk n g z c (k - 1) = false → f_Frieze_hasSuch_b2 f (nI z) (nI k) m = some (nI (if wk n g z c (n - 1) then 1 else 0), m) := by
    intro t
    induction t with
    | zero =>
      intro k f hk h1 hf w
      obtain ⟨f, rfl⟩ : ∃ z, f = z + 1 := ⟨f - 1, by omega⟩
      have hk : k = n := by omega
      subst hk
      rw [f_Frieze_hasSuch_b2, e30, if_pos (nI_le (by omega) (by omega)), w]; rfl
    | succ t ih =>
      intro k f hk h1 hf w
      obtain ⟨f, rfl⟩ : ∃ z, f = z + 1 := ⟨f - 1, by omega⟩
      obtain ⟨k, rfl⟩ : ∃ k', k = k' + 1 := ⟨k - 1, by omega⟩
      rw [show k + 1 - 1 = k by omega] at w
      have ws : wk n g z c (k + 1) = nz z (fV n g c (k + 1)) := by rw [wk, w, Bool.false_or]
      have up : ∀ d, k + 1 + d ≤ n - 1 → wk n g z c (k + 1) = true → wk n g z c (k + 1 + d) = true := by
        intro d
        induction d with
        | zero => intro _ q; exact q
        | succ d ihd =>
          intro hd q
          show wk n g z c (k + 1 + d + 1) = true
          rw [wk, ihd (by omega) q, Bool.true_or]
      have up2 : wk n g z c (k + 1) = true → wk n g z c (n - 1) = true := fun q => by
        have := up (n - 1 - (k + 1)) (by omega) q
        rwa [show k + 1 + (n - 1 - (k + 1)) = n - 1 by omega] at this
      have hvk := hv (k + 1) (by omega)
      rw [f_Frieze_hasSuch_b2, e30, if_neg (nI_ge (by omega) (by omega)), if_pos (am_in_nI (by omega) (by omega)), if_pos (am_in_nI (by omega) (by omega)), ml_cl (by omega)]
      unfold f_Frieze_hasSuch_b41
      rw [nI_1]
      rcases (show z = 0 ∨ z = 1 by omega) with rfl | rfl
      · rw [if_pos e00]
        have ws2 : wk n g 0 c (k + 1) = decide (fV n g c (k + 1) < 0) := by rw [ws]; rfl
        by_cases y : fV n g c (k + 1) < 0
        · rw [if_neg (by rw [lg_ge, q64.1, hvk]; omega), up2 (by rw [ws2]; exact decide_eq_true y)]; rfl
        · rw [if_pos (by rw [lg_ge, q64.1, hvk]; omega)]
          exact ih (k + 1 + 1) f (by omega) (by omega) (by omega) (by rw [show k + 1 + 1 - 1 = k + 1 by omega, ws2]; exact decide_eq_false y)
      · rw [if_neg ne01]
        have ws2 : wk n g 1 c (k + 1) = decide (fV n g c (k + 1) = 0) := by rw [ws]; rfl
        by_cases y : fV n g c (k + 1) = 0
        · rw [if_pos (by rw [lg_eq, q64.1, hvk]; exact y), up2 (by rw [ws2]; exact decide_eq_true y)]; rfl
        · rw [if_neg (by rw [lg_eq, q64.1, hvk]; exact y)]
          exact ih (k + 1 + 1) f (by omega) (by omega) (by omega) (by rw [show k + 1 + 1 - 1 = k + 1 by omega, ws2]; exact decide_eq_false y)
  exact L (n - 1) 1 am_F (by omega) (by omega) (by show _ < 5000; omega) rfl
theorem hc_wi2 {n z : Nat} {g : Nat → Int32} {m : am_Mm} (h : 4 ≤ n) (h9 : n ≤ 9) (hz : z < 2) (hg : ∀ d, d < n → -20 ≤ (g d).toInt ∧ (g d).toInt ≤ 20) (e30 : m.1 30 2 = nI n) (e31 : ∀ d, d < n → m.1 31 d = g d) : ∃ m', f_Frieze_cornersWith (nI z) m = some (nI (bts (fun c => wk n g z c (n - 1)) n), m') ∧ m'.1 = m.1 := by
  have L : ∀ t c f (m0 : am_Mm), c + t = n → t < f → m0.1 = m.1 → ∃ m', f_Frieze_cornersWith_b4 f (nI z) (nI (bts (fun c => wk n g z c (n - 1)) c)) (nI c) m0 = some (nI (bts (fun c => wk n g z c (n - 1)) n), m') ∧ m'.1 = m.1 := by
    intro t
    induction t with
    | zero =>
      intro c f m0 hk hf em
      obtain ⟨f, rfl⟩ : ∃ z, f = z + 1 := ⟨f - 1, by omega⟩
      have hk : c = n := by omega
      subst hk
      refine ⟨m0, ?_, em⟩
      rw [f_Frieze_cornersWith_b4, em, e30, if_pos (nI_le (by omega) (by omega))]
    | succ t ih =>
      intro c f m0 hk hf em
      obtain ⟨f, rfl⟩ : ∃ z, f = z + 1 := ⟨f - 1, by omega⟩
      obtain ⟨m1, a1, a2, a3⟩ := hc_gw (m := m0) (last := n - 1) (c := c) h h9 (by rw [em]; exact e30) (fun d hd => by rw [em]; exact e31 d hd) hg (by omega) (by omega) (by omega)
      have em1 : m1.1 = m.1 := by rw [a2, em]
      rw [f_Frieze_cornersWith_b4, em, e30, if_neg (nI_ge (by omega) (by omega)), nq1, pk_sub (by omega), a1, Option.bind_some, if_neg (show ¬ nI 1 = (0 : Int32) by decide), hc_su h h9 hz (by rw [em1]; exact e30) a3, Option.bind_some]
      unfold f_Frieze_cornersWith_b40
      obtain ⟨m', r1, r2⟩ := ih (c + 1) f m1 (by omega) (by omega) em1
      refine ⟨m', ?_, r2⟩
      rw [← r1, bts]
      by_cases q : wk n g z c (n - 1) = true
      · rw [if_pos q, if_neg (show ¬ nI 1 = (0 : Int32) by decide), if_pos q, nI_1, nq_shl1 (by omega), nq_or]
      · rw [if_neg q, if_pos e00, if_neg q, nI_1]
  exact L n 0 am_F m (by omega) (by show n < 5000; omega) rfl
theorem hm_wi2 {n cu z : Nat} {kd ow : Nat → Nat} {m : am_Mm} (ok : rl_OK n cu kd ow) (hP : rl_Pol m.1 67 0 n cu kd ow) (hz : z < 2) : ∃ m', f_M_with (nI z) m = some (nI (bts (fun c => wk n (cI n cu kd ow) z c (n - 1)) n), m') ∧ ∀ p k, ¬ (p = 63 ∧ k = 19) → m'.1 p k = m.1 p k := by
  have h4 := ok.1
  have h9 := ok.2.1
  have K : ∀ c, c < n → ∀ k12 B t k f (m0 : am_Mm), k + 1 + t = n → t < f → (∀ p k, ¬ (p = 63 ∧ k = 19) → m0.1 p k = m.1 p k) → ∃ m', f_M_with_b21 k12 f (nI z) (nI n) (nI (if wk n (cI n cu kd ow) z c k then B ||| 2 ^ c else B)) (nI c) (nI (k + 1)) m0 = k12 (nI z) (nI n) (nI (if wk n (cI n cu kd ow) z c (n - 1) then B ||| 2 ^ c else B)) (nI (c + 1)) m' ∧ ∀ p k, ¬ (p = 63 ∧ k = 19) → m'.1 p k = m.1 p k := by
    intro c hc k12 B t
    induction t with
    | zero =>
      intro k f m0 hk hf fr0
      obtain ⟨f, rfl⟩ : ∃ z, f = z + 1 := ⟨f - 1, by omega⟩
      refine ⟨m0, ?_, fr0⟩
      rw [f_M_with_b21, if_pos (nI_le (by omega) (by omega)), nI_1, show k = n - 1 by omega]
    | succ t ih =>
      intro k f m0 hk hf fr0
      obtain ⟨f, rfl⟩ : ∃ z, f = z + 1 := ⟨f - 1, by omega⟩
      obtain ⟨v, m1, a1, a2, a3⟩ := hm_gw (m := m0) (c := c) (K := k + 1) ok (rl_Pol_c h9 (fun i _ => fr0 _ _ (by omega)) hP) hc (by omega) (by omega)
      have fr1 : ∀ p k, ¬ (p = 63 ∧ k = 19) → m1.1 p k = m.1 p k := fun p k z => by rw [a2 p k z, fr0 p k z]
      obtain ⟨m', r1, r2⟩ := ih (k + 1) f m1 (by omega) (by omega) fr1
      refine ⟨m', ?_, r2⟩
      rw [← r1, f_M_with_b21, if_neg (nI_ge (by omega) (by omega)), a1, Option.bind_some]
      unfold f_M_with_b53 f_M_with_b64 f_M_with_b72
      dsimp only
      rw [nI_1, nq1, nq_shl1 (by omega), nq0, nq_or, nq_or]
      have YES : nz z (fV n (cI n cu kd ow) c (k + 1)) = true → (if wk n (cI n cu kd ow) z c k then B ||| 2 ^ c else B) ||| 2 ^ c = if wk n (cI n cu kd ow) z c (k + 1) then B ||| 2 ^ c else B := by
        intro q
        rw [wk, q, Bool.or_true, if_pos rfl]
        by_cases w : wk n (cI n cu kd ow) z c k = true
        · rw [if_pos w, Nat.or_assoc, Nat.or_self]
        · rw [if_neg w]
      have NO : ¬ nz z (fV n (cI n cu kd ow) c (k + 1)) = true → (if wk n (cI n cu kd ow) z c k then B ||| 2 ^ c else B) ||| 0 = if wk n (cI n cu kd ow) z c (k + 1) then B ||| 2 ^ c else B := by
        intro q
        rw [wk, Bool.eq_false_iff.mpr q, Bool.or_false, Nat.or_zero]
      rcases (show z = 0 ∨ z = 1 by omega) with rfl | rfl
      · rw [if_pos rfl, if_pos rfl]
        have e : nz 0 (fV n (cI n cu kd ow) c (k + 1)) = decide (fV n (cI n cu kd ow) c (k + 1) < 0) := rfl
        by_cases y : fV n (cI n cu kd ow) c (k + 1) < 0
        · rw [if_neg (show ¬ nI 0 ≤ lg_cmp v (0 : Int64) from by rw [← nq0, lg_ge, q64.1, a3]; omega), YES (by rw [e]; exact decide_eq_true y)]
        · rw [if_pos (show nI 0 ≤ lg_cmp v (0 : Int64) from by rw [← nq0, lg_ge, q64.1, a3]; omega), NO (by rw [e]; simpa using y)]
      · rw [if_neg (show ¬ nI 1 = nI 0 by decide), if_neg (show ¬ nI 1 = nI 0 by decide)]
        have e : nz 1 (fV n (cI n cu kd ow) c (k + 1)) = decide (fV n (cI n cu kd ow) c (k + 1) = 0) := rfl
        by_cases y : fV n (cI n cu kd ow) c (k + 1) = 0
        · rw [if_pos (show lg_cmp v (0 : Int64) = nI 0 from by rw [← nq0, lg_eq, q64.1, a3]; exact y), YES (by rw [e]; exact decide_eq_true y)]
        · rw [if_neg (show ¬ lg_cmp v (0 : Int64) = nI 0 from by rw [← nq0, lg_eq, q64.1, a3]; exact y), NO (by rw [e]; simpa using y)]
  have L : ∀ t c f (m0 : am_Mm), c + t = n → t < f → (∀ p k, ¬ (p = 63 ∧ k = 19) → m0.1 p k = m.1 p k) → ∃ m', f_M_with_b12 f (nI z) (nI n) (nI (bts (fun c => wk n (cI n cu kd ow) z c (n - 1)) c)) (nI c) m0 = some (nI (bts (fun c => wk n (cI n cu kd ow) z c (n - 1)) n), m') ∧ ∀ p k, ¬ (p = 63 ∧ k = 19) → m'.1 p k = m.1 p k := by
    intro t
    induction t with
    | zero =>
      intro c f m0 hk hf fr0
      obtain ⟨f, rfl⟩ : ∃ z, f = z + 1 := ⟨f - 1, by omega⟩
      have hk : c = n := by omega
      subst hk
      refine ⟨m0, ?_, fr0⟩
      rw [f_M_with_b12, if_pos (nI_le (by omega) (by omega))]
    | succ t ih =>
      intro c f m0 hk hf fr0
      obtain ⟨f, rfl⟩ : ∃ z, f = z + 1 := ⟨f - 1, by omega⟩
      obtain ⟨m1, a1, a2⟩ := K c (by omega) (f_M_with_b12 f) (bts (fun c => wk n (cI n cu kd ow) z c (n - 1)) c) (n - 1) 0 am_F m0 (by omega) (by show _ < 5000; omega) fr0
      obtain ⟨m', r1, r2⟩ := ih (c + 1) f m1 (by omega) (by omega) a2
      refine ⟨m', ?_, r2⟩
      rw [← r1, f_M_with_b12, if_neg (nI_ge (by omega) (by omega)), bts]
      exact a1
  unfold f_M_with
  rw [hP.1]
  exact L n 0 am_F m (by omega) (by show n < 5000; omega) (fun p k _ => rfl)
theorem hc_tri {n cu : Nat} {m : am_Mm} (h4 : 4 ≤ n) (h9 : n ≤ 9) (hv : cu_V n cu) (e2 : m.1 13 2 = nI n) (e3 : m.1 13 3 = nI cu) : f_C_isTriangled m = some (nI (if pc cu 30 = n - 3 then 1 else 0), m) := by
  have := pc_le cu 30
  unfold f_C_isTriangled
  rw [e3, hc_bc h4 h9 hv, Option.bind_some]
  dsimp only
  rw [e2, nq3, pk_sub (by omega)]
  by_cases q : pc cu 30 = n - 3
  · rw [if_pos (by rw [q]), if_pos q]; rfl
  · rw [if_neg (fun z => q ((nI_eq (by omega) (by omega)).mp z)), if_neg q]; rfl
theorem hm_tri {n cu : Nat} {m : am_Mm} (h4 : 4 ≤ n) (h9 : n ≤ 9) (hv : cu_V n cu) (e2 : m.1 67 0 = nI n) (e3 : m.1 67 1 = nI cu) : f_M_isTriangled m = some (nI (if pc cu 30 = n - 3 then 1 else 0), m) := by
  have := pc_le cu 30
  unfold f_M_isTriangled
  rw [e3, hm_bc h4 h9 hv, Option.bind_some]
  dsimp only
  rw [e2, nq3, pk_sub (by omega)]
  by_cases q : pc cu 30 = n - 3
  · rw [if_pos (by rw [q]), if_pos q]; rfl
  · rw [if_neg (fun z => q ((nI_eq (by omega) (by omega)).mp z)), if_neg q]; rfl
theorem pz_whole : ∀ a0 : Int32, am_Pz rl_All (f_C_whole a0) (f_M_whole a0) := by
  intro x m h
  unfold f_C_whole
  rcases vw_of h with hn | ⟨n, cu, kd, ow, V⟩
  · rw [hc_there hn.1 (by omega)]
    refine ⟨_, m, m, rfl, ?_, h⟩
    unfold f_M_whole
    rw [hm_there hn.2.2.1 (by omega)]; rfl
  have V0 := V
  obtain ⟨ok, hR, hF, hP⟩ := V
  have h4 := ok.1
  have h9 := ok.2.1
  have hv := ok.2.2.1
  have hg : ∀ d, d < n → -20 ≤ (cI n cu kd ow d).toInt ∧ (cI n cu kd ow d).toInt ≤ 20 := fun d hd => cI_b ok hd
  obtain ⟨m1, t1, t2, t3, t4, t5⟩ := hc_tell (Or.inr V0)
  have s := tell_sm t4
  have hA := sm_All s h
  obtain ⟨_, hR1, hF1, hP1⟩ := vw_c (m' := m1) (fun p k q => t4 p k (by omega) (by omega)) V0
  obtain ⟨p0, p1⟩ := rl_Pol_0 hP1
  rw [hc_th1 hF.1 h4 h9, Option.bind_some, if_neg ne01, t1, Option.bind_some]
  have M0 : ∀ mm : am_Mm, mm.1 67 0 = nI n → f_M_whole x mm = if x = (0 : Int32) then (f_M_sizeOf (mm.1 67 1) mm).bind fun q9 => some (q9.1, q9.2) else if x = (1 : Int32) then some ((mm.1 67 1), mm) else if x = (2 : Int32) then (f_M_sizeOf (mm.1 67 1) mm).bind fun q16 => some ((q16.1 + (1 : Int32)), q16.2) else if x = (3 : Int32) then (f_M_doesClose mm).bind fun q20 => if q20.1 = (0 : Int32) then some ((0 : Int32), q20.2) else some ((1 : Int32), q20.2) else if x = (4 : Int32) then (f_M_period mm).bind fun q25 => some (q25.1, q25.2) else if x = (5 : Int32) then (f_M_with (1 : Int32) mm).bind fun q29 => some (q29.1, q29.2) else if x = (6 : Int32) then (f_M_with (0 : Int32) mm).bind fun q33 => some (q33.1, q33.2) else if x = (7 : Int32) then (f_M_isTriangled mm).bind fun q37 => if q37.1 = (0 : Int32) then some ((0 : Int32), q37.2) else some ((1 : Int32), q37.2) else if x = (8 : Int32) then (f_M_manyCuts (mm.1 67 0) mm).bind fun q43 => some (q43.1, q43.2) else some ((-1000001 : Int32), mm) := by
    intro mm z
    unfold f_M_whole
    rw [hm_th1 z h4 h9, Option.bind_some, if_neg ne01]
  by_cases x0 : x = 0
  · refine ⟨nI (pc cu 30), m1, m1, ?_, ?_, hA⟩
    · rw [if_pos x0, hF1.2.1, hc_bc h4 h9 hv]; rfl
    · rw [M0 m1 p0, if_pos x0, p1, hm_bc h4 h9 hv]; rfl
  rw [if_neg x0]
  by_cases x1 : x = 1
  · refine ⟨nI cu, m1, m1, ?_, ?_, hA⟩
    · rw [if_pos x1, hF1.2.1]
    · rw [M0 m1 p0, if_neg x0, if_pos x1, p1]
  rw [if_neg x1]
  by_cases x2 : x = 2
  · refine ⟨nI (pc cu 30) + 1, m1, m1, ?_, ?_, hA⟩
    · rw [if_pos x2, hF1.2.1, hc_bc h4 h9 hv]; rfl
    · rw [M0 m1 p0, if_neg x0, if_neg x1, if_pos x2, p1, hm_bc h4 h9 hv]; rfl
  rw [if_neg x2]
  by_cases x3 : x = 3
  · obtain ⟨r, m2, c1, c2, c3⟩ := hc_cl h4 h9 hg t2 t3
    have P2 : rl_Pol m2.1 67 0 n cu kd ow := by rw [c2]; exact hP1
    obtain ⟨r', m3, d1, d2, d3⟩ := hm_cl ok P2
    have er : r' = r := by
      rcases c3 with ⟨a, b⟩ | ⟨a, b⟩ <;> rcases d3 with ⟨a', b'⟩ | ⟨a', b'⟩
      · omega
      · exact absurd b' b
      · exact absurd b b'
      · omega
    have hr : r = 0 ∨ r = 1 := by rcases c3 with ⟨a, _⟩ | ⟨a, _⟩ <;> omega
    rw [er] at d1
    refine ⟨nI r, m2, m3, ?_, ?_, sm_All (sm_t (sm_1 c2) (sm_6319 d2)) hA⟩
    · rw [if_pos x3, c1, Option.bind_some]
      rcases hr with rfl | rfl
      · rw [if_pos e00]; rfl
      · rw [if_neg ne01]; rfl
    · rw [M0 m2 P2.1, if_neg x0, if_neg x1, if_neg x2, if_pos x3, d1, Option.bind_some]
      rcases hr with rfl | rfl
      · rw [if_pos e00]; rfl
      · rw [if_neg ne01]; rfl
  rw [if_neg x3]
  by_cases x4 : x = 4
  · refine ⟨nI (lsd (stB n (cI n cu kd ow)) n (n - 1)), m1, m1, ?_, ?_, hA⟩
    · rw [if_pos x4, hc_pe h4 h9 t2 t3]; rfl
    · rw [M0 m1 p0, if_neg x0, if_neg x1, if_neg x2, if_neg x3, if_pos x4, hm_pe ok hP1]; rfl
  rw [if_neg x4]
  by_cases x5 : x = 5
  · obtain ⟨m2, c1, c2⟩ := hc_wi2 (z := 1) h4 h9 (by omega) hg t2 t3
    have P2 : rl_Pol m2.1 67 0 n cu kd ow := by rw [c2]; exact hP1
    obtain ⟨m3, d1, d2⟩ := hm_wi2 (z := 1) ok P2 (by omega)
    have c1' : f_Frieze_cornersWith (1 : Int32) m1 = _ := c1
    have d1' : f_M_with (1 : Int32) m2 = _ := d1
    refine ⟨nI (bts (fun c => wk n (cI n cu kd ow) 1 c (n - 1)) n), m2, m3, ?_, ?_, sm_All (sm_t (sm_1 c2) (sm_6319 d2)) hA⟩
    · rw [if_pos x5, c1']; rfl
    · rw [M0 m2 P2.1, if_neg x0, if_neg x1, if_neg x2, if_neg x3, if_neg x4, if_pos x5, d1']; rfl
  rw [if_neg x5]
  by_cases x6 : x = 6
  · obtain ⟨m2, c1, c2⟩ := hc_wi2 (z := 0) h4 h9 (by omega) hg t2 t3
    have P2 : rl_Pol m2.1 67 0 n cu kd ow := by rw [c2]; exact hP1
    obtain ⟨m3, d1, d2⟩ := hm_wi2 (z := 0) ok P2 (by omega)
    have c1' : f_Frieze_cornersWith (0 : Int32) m1 = _ := c1
    have d1' : f_M_with (0 : Int32) m2 = _ := d1
    refine ⟨nI (bts (fun c => wk n (cI n cu kd ow) 0 c (n - 1)) n), m2, m3, ?_, ?_, sm_All (sm_t (sm_1 c2) (sm_6319 d2)) hA⟩
    · rw [if_pos x6, c1']; rfl
    · rw [M0 m2 P2.1, if_neg x0, if_neg x1, if_neg x2, if_neg x3, if_neg x4, if_neg x5, if_pos x6, d1']; rfl
  rw [if_neg x6]
  by_cases x7 : x = 7
  · refine ⟨nI (if pc cu 30 = n - 3 then 1 else 0), m1, m1, ?_, ?_, hA⟩
    · rw [if_pos x7, hc_tri h4 h9 hv hF1.1 hF1.2.1, Option.bind_some]
      by_cases q : pc cu 30 = n - 3
      · rw [if_pos q, if_neg ne01]; rfl
      · rw [if_neg q, if_pos e00]; rfl
    · rw [M0 m1 p0, if_neg x0, if_neg x1, if_neg x2, if_neg x3, if_neg x4, if_neg x5, if_neg x6, if_pos x7, hm_tri h4 h9 hv p0 p1, Option.bind_some]
      by_cases q : pc cu 30 = n - 3
      · rw [if_pos q, if_neg ne01]; rfl
      · rw [if_neg q, if_pos e00]; rfl
  rw [if_neg x7]
  by_cases x8 : x = 8
  · refine ⟨nI (cu_N n), m1, m1, ?_, ?_, hA⟩
    · rw [if_pos x8, hR1.2.1]
    · rw [M0 m1 p0, if_neg x0, if_neg x1, if_neg x2, if_neg x3, if_neg x4, if_neg x5, if_neg x6, if_neg x7, if_pos x8, p0, hm_many h4 h9]; rfl
  rw [if_neg x8]
  refine ⟨_, m1, m1, rfl, ?_, hA⟩
  rw [M0 m1 p0, if_neg x0, if_neg x1, if_neg x2, if_neg x3, if_neg x4, if_neg x5, if_neg x6, if_neg x7, if_neg x8]
