/-! ===== the frieze grows ===== -/
def fz (n : Nat) (g : Nat → Int32) (c : Nat) : Nat → Option (Int × Int)
  | 0 => some (0, 1)
  | k + 1 => match fz n g c k with
    | none => none
    | some (a, b) => if Rg ((g ((c + k + 1) % n)).toInt * b) ∧ Rg ((g ((c + k + 1) % n)).toInt * b - a) then some (b, (g ((c + k + 1) % n)).toInt * b - a) else none
theorem fz_s {n c k : Nat} {g : Nat → Int32} {a b : Int} (h : fz n g c k = some (a, b)) : fz n g c (k + 1) = if Rg ((g ((c + k + 1) % n)).toInt * b) ∧ Rg ((g ((c + k + 1) % n)).toInt * b - a) then some (b, (g ((c + k + 1) % n)).toInt * b - a) else none := by
  rw [fz, h]
theorem fz_n {n c k : Nat} {g : Nat → Int32} (h : fz n g c k = none) : ∀ d, fz n g c (k + d) = none
  | 0 => h
  | d + 1 => by
    have := fz_n h d
    show fz n g c (k + d + 1) = none
    rw [fz, this]
def fzI (n : Nat) (g : Nat → Int32) (c : Nat) (m : am_Mm) (i : Nat) : Prop := ∃ a b, fz n g c i = some (a, b) ∧ (m.2 32 i).toInt = a ∧ (m.2 32 (i + 1)).toInt = b
theorem hc_grow {n c last : Nat} {g : Nat → Int32} {m : am_Mm} (h : 4 ≤ n) (h9 : n ≤ 9) (e30 : m.1 30 2 = nI n) (e31 : ∀ d, d < n → m.1 31 d = g d) (hg : ∀ d, d < n → -100 ≤ (g d).toInt ∧ (g d).toInt ≤ 100) (hc : c < n) (hl : last ≤ 20) : ∃ r m', f_Frieze_grow (nI c) (nI last) m = some (nI r, m') ∧ m'.1 = m.1 ∧ (fz n g c (last - 1) = none → r = 0) ∧ (fz n g c (last - 1) ≠ none → r = 1 ∧ ∀ i, i ≤ last - 1 → fzI n g c m' i) := by
  have L : ∀ t j f (m0 : am_Mm), j + t = last - 1 → t < f → m0.1 = m.1 → (∀ i, i ≤ j → fzI n g c m0 i) → ∃ r m', f_Frieze_grow_b19 f (nI last) (nI ((c + j) % n)) (nI (j + 2)) m0 = some (nI r, m') ∧ m'.1 = m.1 ∧ (fz n g c (last - 1) = none → r = 0) ∧ (fz n g c (last - 1) ≠ none → r = 1 ∧ ∀ i, i ≤ last - 1 → fzI n g c m' i) := by
    intro t
    induction t with
    | zero =>
      intro j f m0 hj hf em I
      obtain ⟨f, rfl⟩ : ∃ z, f = z + 1 := ⟨f - 1, by omega⟩
      have hj : j = last - 1 := by omega
      refine ⟨1, m0, ?_, em, fun z => ?_, fun _ => ⟨rfl, fun i hi => I i (by omega)⟩⟩
      · rw [f_Frieze_grow_b19, if_pos (nI_lt (by omega) (by omega))]; rfl
      · obtain ⟨a, b, q, _⟩ := I j (Nat.le_refl _)
        rw [← hj, q] at z; cases z
    | succ t ih =>
      intro j f m0 hj hf em I
      obtain ⟨f, rfl⟩ : ∃ z, f = z + 1 := ⟨f - 1, by omega⟩
      obtain ⟨a, b, q, qa, qb⟩ := I j (Nat.le_refl _)
      have hlt := Nat.mod_lt (c + j) (show 0 < n by omega)
      have hlt2 := Nat.mod_lt (c + j + 1) (show 0 < n by omega)
      have hnx : (if (c + j) % n + 1 < n then (c + j) % n + 1 else 0) = (c + j + 1) % n := by
        have e : (c + j + 1) % n = ((c + j) % n + 1) % n := (Nat.mod_add_mod (c + j) n 1).symm
        rw [e, nq_md (show (c + j) % n + 1 < 2 * n by omega)]
        by_cases z : (c + j) % n + 1 < n
        · rw [if_pos z, if_pos z]
        · rw [if_neg z, if_neg z]; omega
      have S : f_Frieze_grow_b19 (f + 1) (nI last) (nI ((c + j) % n)) (nI (j + 2)) m0 = f_Frieze_grow_b52 (f_Frieze_grow_b19 f) (nI last) (nI (j + 2)) (nI ((c + j + 1) % n)) m0 := by
        rw [f_Frieze_grow_b19, if_neg (nI_nlt (by omega) (by omega)), if_neg (show ¬ Int32.ofNat 21 ≤ nI (j + 2) from nI_ge (show j + 2 < 21 by omega) (by decide)), em, e30, nI_1, ← hnx]
        by_cases z : (c + j) % n + 1 < n
        · rw [if_neg (nI_ge z (by omega)), if_pos z]
        · rw [if_pos (nI_le (by omega) (by omega)), if_neg z]; rfl
      rw [S]
      have hg1 := hg _ hlt2
      obtain ⟨G, hG⟩ : ∃ G, G = g ((c + j + 1) % n) := ⟨_, rfl⟩
      have fs := fz_s q
      rw [← hG] at fs hg1
      have eG : m0.1 31 ((c + j + 1) % n) = G := by rw [em, e31 _ hlt2, hG]
      have ra := fb_rngL (m0.2 32 j)
      have rb := fb_rngL (m0.2 32 (j + 1))
      unfold f_Frieze_grow_b52
      rw [nq1, nq2, pk_sub (show 1 ≤ j + 2 by omega), pk_sub (show 2 ≤ j + 2 by omega), if_pos (am_in_nI (by omega) (by omega)), if_pos (am_in_nI (by omega) (by omega)), if_pos (am_in_nI (by omega) (by omega)), if_pos (am_in_nI (by omega) (by omega)), ml_cl (by omega), ml_cl (by omega), ml_cl (by omega), show j + 2 - 1 = j + 1 by omega, show j + 2 - 2 = j by omega, eG]
      have W := hc_wi (f := m0.2 32 (j + 1)) hg1 m0
      have ep : (G.toInt64 * m0.2 32 (j + 1)).toInt = (G.toInt * b).bmod (2 ^ 64) := by rw [Int64.toInt_mul, Int32.toInt_toInt64, qb]
      rw [qb] at W
      have B114 : ∀ X7 : Int64, f_Frieze_grow_b114 (f_Frieze_grow_b19 f) (nI last) (nI ((c + j + 1) % n)) (nI (j + 2)) (G.toInt64 * m0.2 32 (j + 1)) X7 (0 : Int32) m0 = if Rg (G.toInt * b) then f_Frieze_grow_b19 f (nI last) (nI ((c + j + 1) % n)) (nI (j + 1 + 2)) (am_pL m0 32 (j + 2) X7) else some (nI 0, m0) := by
        intro X7
        unfold f_Frieze_grow_b114
        rw [if_pos rfl, nq1, pk_sub (show 1 ≤ j + 2 by omega), if_pos (am_in_nI (by omega) (by omega)), if_pos (am_in_nI (by omega) (by omega)), ml_cl (by omega), ml_cl (by omega), show j + 2 - 1 = j + 1 by omega, eG, W, Option.bind_some]
        by_cases z : Rg (G.toInt * b)
        · rw [if_pos z, if_neg ml_n10, if_pos (am_in_nI (by omega) (by omega)), ml_cl (by omega), if_pos z, nI_add, show j + 2 + 1 = j + 1 + 2 by omega]
        · rw [if_neg z, if_pos rfl, if_neg z]; rfl
      have OV : fz n g c (j + 1) = none → fz n g c (last - 1) = none := fun z => by
        have := fz_n z (last - 1 - (j + 1))
        rwa [show j + 1 + (last - 1 - (j + 1)) = last - 1 by omega] at this
      by_cases rp : Rg (G.toInt * b)
      · have ep2 : (G.toInt64 * m0.2 32 (j + 1)).toInt = G.toInt * b := by rw [ep, fb_bmodL rp.1 rp.2]
        have el : (G.toInt64 * m0.2 32 (j + 1) - m0.2 32 j).toInt = (G.toInt * b - a).bmod (2 ^ 64) := by rw [Int64.toInt_sub, ep2, qa]
        obtain ⟨d, hd⟩ := bm (G.toInt * b - a)
        have rl := fb_rngL (G.toInt64 * m0.2 32 (j + 1) - m0.2 32 j)
        rw [el, hd] at rl
        have wr := hc_wr (G.toInt64 * m0.2 32 (j + 1)) (m0.2 32 j) (G.toInt64 * m0.2 32 (j + 1) - m0.2 32 j)
        rw [ep2, el, hd, qa] at wr
        rw [qa] at ra
        by_cases r2 : Rg (G.toInt * b - a)
        · rw [if_pos ⟨rp, r2⟩] at fs
          have d0 : d = 0 := by unfold Rg at r2; omega
          rw [if_pos (wr.mpr (by unfold Rg at rp r2; subst d0; omega)), B114, if_pos rp]
          refine ih (j + 1) f (am_pL m0 32 (j + 2) _) (by omega) (by omega) em (fun i hi => ?_)
          by_cases z : i = j + 1
          · subst z
            refine ⟨b, G.toInt * b - a, fs, ?_, ?_⟩
            · rw [ml_pL, if_neg (by omega)]; exact qb
            · rw [ml_pL, if_pos ⟨rfl, rfl⟩, el, hd, d0]; omega
          · obtain ⟨a', b', i1, i2, i3⟩ := I i (by omega)
            refine ⟨a', b', i1, ?_, ?_⟩
            · rw [ml_pL, if_neg (by omega)]; exact i2
            · rw [ml_pL, if_neg (by omega)]; exact i3
        · rw [if_neg (fun z => r2 z.2)] at fs
          have nw : ¬ ((0 : Int32) ≤ lg_cmp (((G.toInt64 * m0.2 32 (j + 1)) ^^^ (m0.2 32 j)) &&& ((G.toInt64 * m0.2 32 (j + 1)) ^^^ (G.toInt64 * m0.2 32 (j + 1) - m0.2 32 j))) (0 : Int64)) := by
            rw [wr]
            unfold Rg at rp r2
            omega
          rw [if_neg nw]
          refine ⟨0, m0, ?_, em, fun _ => rfl, fun z => absurd (OV fs) z⟩
          unfold f_Frieze_grow_b114
          rw [if_neg (show ¬ nI 1 = (0 : Int32) by decide)]; rfl
      · rw [if_neg (fun z => rp z.1)] at fs
        refine ⟨0, m0, ?_, em, fun _ => rfl, fun z => absurd (OV fs) z⟩
        by_cases z : (0 : Int32) ≤ lg_cmp (((G.toInt64 * m0.2 32 (j + 1)) ^^^ (m0.2 32 j)) &&& ((G.toInt64 * m0.2 32 (j + 1)) ^^^ (G.toInt64 * m0.2 32 (j + 1) - m0.2 32 j))) (0 : Int64)
        · rw [if_pos z, B114, if_neg rp]
        · rw [if_neg z]
          unfold f_Frieze_grow_b114
          rw [if_neg (show ¬ nI 1 = (0 : Int32) by decide)]; rfl
  have := L (last - 1) 0 am_F (am_pL (am_pL m 32 0 (0 : Int64)) 32 1 (1 : Int64)) (by omega) (by show _ < 5000; omega) rfl (fun i hi => by
    have : i = 0 := by omega
    subst this
    refine ⟨0, 1, rfl, ?_, ?_⟩
    · rw [ml_pL, if_neg (by omega), ml_pL, if_pos ⟨rfl, rfl⟩]; rfl
    · rw [ml_pL, if_pos ⟨rfl, rfl⟩]; rfl)
  rw [Nat.add_zero, Nat.mod_eq_of_lt hc] at this
  unfold f_Frieze_grow
  exact this
theorem hm_grow {n cu c K : Nat} {kd ow : Nat → Nat} {m : am_Mm} (ok : rl_OK n cu kd ow) (hP : rl_Pol m.1 67 0 n cu kd ow) (hg : ∀ d, d < n → -100 ≤ (cI n cu kd ow d).toInt ∧ (cI n cu kd ow d).toInt ≤ 100) (hc : c < n) (hK : K ≤ 20) : ∃ v m', f_M_grown (nI c) (nI K) m = some (v, m') ∧ (∀ p k, ¬ (p = 63 ∧ k = 19) → m'.1 p k = m.1 p k) ∧ (∀ a b, fz n (cI n cu kd ow) c (K - 1) = some (a, b) → m'.1 63 19 = nI 0 ∧ v.toInt = if K = 0 then 0 else b) ∧ (fz n (cI n cu kd ow) c (K - 1) = none → m'.1 63 19 = nI 1) := by
  have h4 := ok.1
  have h9 := ok.2.1
  have n0 : ¬ nI n = (0 : Int32) := fun z => by have := (nI_eq (b := 0) (by omega) (by omega)).mp z; omega
  have L : ∀ t j f (x4 x6 : Int64) (m0 : am_Mm), j + t = K - 1 → t < f → fz n (cI n cu kd ow) c j = some (x4.toInt, x6.toInt) → m0.1 63 19 = nI 0 → (∀ p k, ¬ (p = 63 ∧ k = 19) → m0.1 p k = m.1 p k) → ∃ v m', f_M_grown_b14 f (nI c) (nI K) x4 x6 (nI (j + 2)) m0 = some (v, m') ∧ (∀ p k, ¬ (p = 63 ∧ k = 19) → m'.1 p k = m.1 p k) ∧ (∀ a b, fz n (cI n cu kd ow) c (K - 1) = some (a, b) → m'.1 63 19 = nI 0 ∧ v.toInt = if K = 0 then 0 else b) ∧ (fz n (cI n cu kd ow) c (K - 1) = none → m'.1 63 19 = nI 1) := by
    intro t
    induction t with
    | zero =>
      intro j f x4 x6 m0 hj hf q fl0 fr0
      obtain ⟨f, rfl⟩ : ∃ z, f = z + 1 := ⟨f - 1, by omega⟩
      have hj : j = K - 1 := by omega
      rw [f_M_grown_b14, if_pos (nI_lt (by omega) (by omega))]
      unfold f_M_grown_b141
      by_cases k0 : K = 0
      · subst k0
        refine ⟨0, m0, by rw [if_pos e00], fr0, fun a b z => ⟨fl0, rfl⟩, fun z => ?_⟩
        rw [← hj, q] at z; cases z
      · refine ⟨x6, m0, by rw [if_neg (show ¬ nI K = (0 : Int32) from fun z => k0 ((nI_eq (b := 0) (by omega) (by omega)).mp z))], fr0, fun a b z => ⟨fl0, ?_⟩, fun z => ?_⟩
        · rw [← hj, q] at z
          rw [if_neg k0]
          injection z with z
          injection z
        · rw [← hj, q] at z; cases z
    | succ t ih =>
      intro j f x4 x6 m0 hj hf q fl0 fr0
      obtain ⟨f, rfl⟩ : ∃ z, f = z + 1 := ⟨f - 1, by omega⟩
      have hlt2 := Nat.mod_lt (c + j + 1) (show 0 < n by omega)
      have P0 : rl_Pol m0.1 67 0 n cu kd ow := rl_Pol_c h9 (fun k _ => fr0 _ _ (by omega)) hP
      have hg1 := hg _ hlt2
      have fs := fz_s q
      have ct := hm_ct ok P0 hlt2
      obtain ⟨G, hG⟩ : ∃ G, G = cI n cu kd ow ((c + j + 1) % n) := ⟨_, rfl⟩
      rw [← hG] at fs hg1 ct
      have ra := fb_rngL x4
      have rb := fb_rngL x6
      have OV : fz n (cI n cu kd ow) c (j + 1) = none → fz n (cI n cu kd ow) c (K - 1) = none := fun z => by
        have := fz_n z (K - 1 - (j + 1))
        rwa [show j + 1 + (K - 1 - (j + 1)) = K - 1 by omega] at this
      have F := hm_far (f := x6) hg1 m0
      have idx : am_rem ((nI c + nI (j + 2)) - (1 : Int32)) (nI n) = nI ((c + j + 1) % n) := by
        rw [nI_add, nq1, pk_sub (by omega), nq_rem (by omega) (by omega) (by omega), show c + (j + 2) - 1 = c + j + 1 by omega]
      rw [f_M_grown_b14, if_neg (nI_nlt (by omega) (by omega)), fl0, if_pos e00, P0.1, if_neg n0, idx, ct, Option.bind_some, F, Option.bind_some]
      dsimp only
      -- once it is beyond
      have OVER : ∀ (y4 y6 : Int64) (m1 : am_Mm), m1.1 63 19 = nI 1 → (∀ p k, ¬ (p = 63 ∧ k = 19) → m1.1 p k = m.1 p k) → fz n (cI n cu kd ow) c (j + 1) = none → ∃ v m', f_M_grown_b14 f (nI c) (nI K) y4 y6 (nI (j + 2 + 1)) m1 = some (v, m') ∧ (∀ p k, ¬ (p = 63 ∧ k = 19) → m'.1 p k = m.1 p k) ∧ (∀ a b, fz n (cI n cu kd ow) c (K - 1) = some (a, b) → m'.1 63 19 = nI 0 ∧ v.toInt = if K = 0 then 0 else b) ∧ (fz n (cI n cu kd ow) c (K - 1) = none → m'.1 63 19 = nI 1) := by
        intro y4 y6 m1 f1 fr1 z
        have zn := OV z
        obtain ⟨f, rfl⟩ : ∃ z, f = z + 1 := ⟨f - 1, by omega⟩
        have k0 : ¬ nI K = (0 : Int32) := fun z => by have := (nI_eq (b := 0) (by omega) (by omega)).mp z; omega
        refine ⟨y6, m1, ?_, fr1, fun a b w => (by rw [zn] at w; cases w), fun _ => f1⟩
        rw [f_M_grown_b14]
        unfold f_M_grown_b141
        rw [f1, if_neg ne01, if_neg k0]
        by_cases w : nI K < nI (j + 2 + 1)
        · rw [if_pos w]
        · rw [if_neg w]
      by_cases rp : Rg (G.toInt * x6.toInt)
      · rw [if_pos rp, if_pos (Or.inl rfl), ml_s, if_pos rfl]
        unfold f_M_grown_b72
        rw [ml_s, if_pos rfl]
        have ep2 : (G.toInt64 * x6).toInt = G.toInt * x6.toInt := by rw [Int64.toInt_mul, Int32.toInt_toInt64, fb_bmodL rp.1 rp.2]
        have el : (G.toInt64 * x6 - x4).toInt = (G.toInt * x6.toInt - x4.toInt).bmod (2 ^ 64) := by rw [Int64.toInt_sub, ep2]
        obtain ⟨d, hd⟩ := bm (G.toInt * x6.toInt - x4.toInt)
        have rl := fb_rngL (G.toInt64 * x6 - x4)
        rw [el, hd] at rl
        -- what b124 gets
        have fin : ∀ s1 : Nat, (s1 = 0 ∧ Rg (G.toInt * x6.toInt - x4.toInt)) ∨ (s1 = 1 ∧ ¬ Rg (G.toInt * x6.toInt - x4.toInt)) → ∃ v m', f_M_grown_b124 (f_M_grown_b14 f) (nI c) (nI K) x6 (nI (j + 2)) (G.toInt64 * x6 - x4) (nI s1) (am_pI m0 63 19 0) = some (v, m') ∧ (∀ p k, ¬ (p = 63 ∧ k = 19) → m'.1 p k = m.1 p k) ∧ (∀ a b, fz n (cI n cu kd ow) c (K - 1) = some (a, b) → m'.1 63 19 = nI 0 ∧ v.toInt = if K = 0 then 0 else b) ∧ (fz n (cI n cu kd ow) c (K - 1) = none → m'.1 63 19 = nI 1) := by
          intro s1 hs
          unfold f_M_grown_b124
          rcases hs with ⟨rfl, r2⟩ | ⟨rfl, r2⟩
          · rw [if_pos (Or.inl e00), nI_1]
            rw [if_pos ⟨rp, r2⟩] at fs
            have d0 : d = 0 := by unfold Rg at r2; omega
            refine ih (j + 1) f x6 (G.toInt64 * x6 - x4) _ (by omega) (by omega) ?_ (ml_s _ _ _ _) (fun p k z => by rw [ml_o _ _ z, ml_o _ _ z]; exact fr0 p k z)
            rw [fs, el, hd, d0, Int.mul_zero, Int.add_zero]
          · rw [if_pos (Or.inr e11), nI_1]
            rw [if_neg (fun z => r2 z.2)] at fs
            exact OVER _ _ _ (ml_s _ _ _ _) (fun p k z => by rw [ml_o _ _ z, ml_o _ _ z]; exact fr0 p k z) fs
        unfold f_M_grown_b104
        by_cases g1 : lg_cmp x4 (0 : Int64) ≤ (0 : Int32)
        · rw [if_pos g1]
          rw [lg_le, q64.1] at g1
          by_cases g2 : (0 : Int32) ≤ lg_cmp x4 (0 : Int64)
          · rw [if_pos g2]
            rw [lg_ge, q64.1] at g2
            exact fin 0 (Or.inl ⟨rfl, by unfold Rg at *; omega⟩)
          · rw [if_neg g2]
            rw [lg_ge, q64.1] at g2
            by_cases g3 : (0 : Int32) ≤ lg_cmp (G.toInt64 * x6 - x4) (G.toInt64 * x6)
            · rw [if_pos g3]
              rw [lg_ge, ep2, el, hd] at g3
              exact fin 0 (Or.inl ⟨rfl, by unfold Rg at *; omega⟩)
            · rw [if_neg g3]
              rw [lg_ge, ep2, el, hd] at g3
              exact fin 1 (Or.inr ⟨rfl, by unfold Rg at *; omega⟩)
        · rw [if_neg g1]
          rw [lg_le, q64.1] at g1
          by_cases g2 : (0 : Int32) < lg_cmp (G.toInt64 * x6 - x4) (G.toInt64 * x6)
          · rw [if_pos g2]
            rw [lg_gt, ep2, el, hd] at g2
            exact fin 1 (Or.inr ⟨rfl, by unfold Rg at *; omega⟩)
          · rw [if_neg g2]
            rw [lg_gt, ep2, el, hd] at g2
            by_cases g3 : (0 : Int32) ≤ lg_cmp x4 (0 : Int64)
            · rw [if_pos g3]
              exact fin 0 (Or.inl ⟨rfl, by unfold Rg at *; omega⟩)
            · rw [if_neg g3]
              rw [lg_ge, q64.1] at g3
              omega
      · rw [if_neg rp, if_pos (Or.inr rfl), ml_s, if_neg ml_n10]
        unfold f_M_grown_b72
        rw [ml_s, if_neg ml_n10]
        unfold f_M_grown_b124
        rw [if_pos (Or.inr rfl), nI_1]
        rw [if_neg (fun z => rp z.1)] at fs
        exact OVER _ _ _ (ml_s _ _ _ _) (fun p k z => by rw [ml_o _ _ z, ml_o _ _ z]; exact fr0 p k z) fs
  have := L (K - 1) 0 am_F 0 1 (am_pI m 63 19 0) (by omega) (by show _ < 5000; omega) rfl (ml_s _ _ _ _) (fun p k z => ml_o _ _ z)
  exact this
theorem cI_b {n cu c : Nat} {kd ow : Nat → Nat} (ok : rl_OK n cu kd ow) (hc : c < n) : -20 ≤ (cI n cu kd ow c).toInt ∧ (cI n cu kd ow c).toInt ≤ 20 := by
  have hca := @ca_lt n cu c
  have h9 := ok.2.1
  have ho := (ok.2.2.2 c hc).2.2
  unfold cI
  by_cases q2 : kd c = 2
  · rw [if_pos q2, nI_toInt (by omega)]; omega
  rw [if_neg q2]
  by_cases q3 : kd c = 3
  · rw [if_pos q3, fb_negI (by rw [nI_toInt (by omega)]; omega), nI_toInt (by omega)]; omega
  rw [if_neg q3]
  by_cases q4 : kd c = 4
  · rw [if_pos q4, nI_toInt (by omega)]; omega
  rw [if_neg q4]
  by_cases q5 : kd c = 5
  · rw [if_pos q5, nI_toInt (by omega)]; omega
  rw [if_neg q5, nI_toInt (by omega)]; omega
theorem sm_1 {m m' : am_Mm} (h : m'.1 = m.1) : sm m m' := fun p k _ => by rw [h]
theorem fp_6319 : ¬ rl_fp 63 19 := by
  rintro (q | q | q | q | q | q)
  · unfold rl_StatF at q; omega
  · unfold rl_RowsF at q; omega
  · unfold rl_TapeF at q; omega
  · unfold rl_AskF at q; omega
  · unfold rl_PolyF at q; omega
  · unfold rl_ImgF at q; omega
theorem sm_6319 {m m' : am_Mm} (h : ∀ p k, ¬ (p = 63 ∧ k = 19) → m'.1 p k = m.1 p k) : sm m m' := fun p k q => h p k (fun z => by
  obtain ⟨rfl, rfl⟩ := z
  exact fp_6319 q)
theorem pz_frieze : ∀ a0 a1 : Int32, am_Pz rl_All (f_C_frieze a0 a1) (f_M_frieze a0 a1) := by
  intro x y m h
  unfold f_C_frieze
  rcases vw_of h with hn | ⟨n, cu, kd, ow, V⟩
  · rcases isC (Nat.zero_le 9) x with q | ⟨c, hc, _⟩
    · rw [q.1 m hn.1]
      refine ⟨_, m, m, rfl, ?_, h⟩
      unfold f_M_frieze
      rw [q.2 m hn.2.2.1]; rfl
    · omega
  have V0 := V
  obtain ⟨ok, hR, hF, hP⟩ := V
  have h4 := ok.1
  have h9 := ok.2.1
  rcases isC h9 x with q | ⟨c, hc, rfl, q1, q2⟩
  · rw [q.1 m hF.1]
    refine ⟨_, m, m, rfl, ?_, h⟩
    unfold f_M_frieze
    rw [q.2 m hP.1]; rfl
  rw [q1 m hF.1, Option.bind_some, if_neg ne01]
  by_cases g1 : (0 : Int32) ≤ y ∧ y ≤ 20
  rotate_left
  · refine ⟨-1000001, m, m, ?_, ?_, h⟩
    · by_cases z : y < 0
      · rw [if_pos z]; rfl
      · rw [if_neg z, if_neg (fun w => g1 ⟨ml_le_of_nlt z, w⟩)]; rfl
    · unfold f_M_frieze
      rw [q2 m hP.1, Option.bind_some, if_neg ne01, ml_in0 0 20 0 20 rfl rfl g1]; rfl
  obtain ⟨K, hK, rfl⟩ : ∃ k : Nat, k ≤ 20 ∧ y = nI k := by
    have z1 := g1.1
    have z2 := g1.2
    rw [Int32.le_iff_toInt_le] at z1 z2
    have o1 : (0 : Int32).toInt = 0 := rfl
    have o5 : (20 : Int32).toInt = 20 := rfl
    exact ⟨y.toInt.toNat, by omega, ml_of_toInt (by omega) (by omega)⟩
  rw [if_neg (ml_nlt_of_le g1.1), if_pos g1.2]
  dsimp only
  have hg : ∀ d, d < n → -100 ≤ (cI n cu kd ow d).toInt ∧ (cI n cu kd ow d).toInt ≤ 100 := fun d hd => by have := cI_b ok hd; omega
  obtain ⟨m1, t1, t2, t3, t4, t5⟩ := hc_tell (Or.inr V0)
  obtain ⟨r, m2, c1, c2, c3, c4⟩ := hc_grow h4 h9 t2 t3 hg hc hK
  have s12 : sm m m2 := sm_t (tell_sm t4) (sm_1 c2)
  have hA := sm_All s12 h
  have M0 : ∀ mm : am_Mm, mm.1 67 0 = nI n → f_M_frieze (nI c) (nI K) mm = (f_M_grown (nI c) (nI K) (am_pI mm 63 0 (0 : Int32))).bind fun q11 => if (q11.2.1 63 19) = (0 : Int32) then some (q11.1, q11.2) else (f_M_finding (6 : Int32) q11.2).bind fun q15 => some ((q15.1.toInt64), q15.2) := by
    intro mm z
    unfold f_M_frieze
    rw [q2 mm z, Option.bind_some, if_neg ne01, ml_in1 0 20 0 20 rfl rfl g1, Option.bind_some, if_neg ml_n10]
  rw [t1, Option.bind_some, c1, Option.bind_some]
  have g67 : ∀ (X : Int32) k, (am_pI m2 0 12 X).1 67 k = m.1 67 k := fun X k => by rw [ml_o _ _ (by omega), c2, t4 _ _ (by omega) (by omega)]
  by_cases fn : fz n (cI n cu kd ow) c (K - 1) = none
  · have r0 := c3 fn
    subst r0
    obtain ⟨v, m3, d1, d2, d3, d4⟩ := hm_grow (m := am_pI (am_pI m2 0 12 6) 63 0 0) ok (rl_Pol_c h9 (fun k _ => by rw [ml_o _ _ (by omega), g67]) hP) hg hc hK
    refine ⟨(-1000010 - 6 : Int32).toInt64, am_pI m2 0 12 6, am_pI m3 63 0 6, ?_, ?_, ?_⟩
    · rw [if_pos e00]; rfl
    · rw [M0 _ (by rw [g67]; exact hP.1), d1, Option.bind_some, d4 fn, if_neg ne01]; rfl
    · have hs := rl_All_stat hA 6
      refine sm_All (m := am_pI (am_pI m2 0 12 6) 63 0 6) (fun p k q => ?_) hs
      by_cases z : p = 63 ∧ k = 0
      · obtain ⟨rfl, rfl⟩ := z; rw [ml_s, ml_s]
      · rw [ml_o _ _ z, ml_o _ _ z, d2 p k (fun w => by obtain ⟨rfl, rfl⟩ := w; exact fp_6319 q), ml_o _ _ z]
  · obtain ⟨r1, c5⟩ := c4 fn
    subst r1
    obtain ⟨a, b, i1, i2, i3⟩ := c5 (K - 1) (Nat.le_refl _)
    obtain ⟨v, m3, d1, d2, d3, d4⟩ := hm_grow (m := am_pI (am_pI m2 0 12 0) 63 0 0) ok (rl_Pol_c h9 (fun k _ => by rw [ml_o _ _ (by omega), g67]) hP) hg hc hK
    obtain ⟨d5, d6⟩ := d3 a b i1
    have ev : m2.2 32 K = v := by
      rw [fa_eq64, d6]
      by_cases k0 : K = 0
      · subst k0
        rw [if_pos rfl, i2]
        have : fz n (cI n cu kd ow) c 0 = some (0, 1) := rfl
        rw [this] at i1
        injection i1 with i1
        injection i1 with i1
        exact i1.symm
      · rw [if_neg k0, ← i3, show K - 1 + 1 = K by omega]
    refine ⟨v, am_pI m2 0 12 0, m3, ?_, ?_, sm_All (sm_6319 d2) (rl_All_stat hA 0)⟩
    · rw [if_neg ne01, if_pos (am_in_nI (by omega) (by omega)), ml_cl (by omega)]
      show some (m2.2 32 K, am_pI m2 0 12 0) = _
      rw [ev]
    · rw [M0 _ (by rw [g67]; exact hP.1), d1, Option.bind_some, d5, if_pos e00]
