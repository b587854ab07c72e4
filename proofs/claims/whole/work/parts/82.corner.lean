/-! ===== corners read ===== -/
theorem tkm {T : Nat → Nat} {l b : Nat} (hT : ∀ k, k < l → T k < 256) : (l ≤ b ∧ tk T l b = 257 ∧ mtk T l b = 1) ∨ (b < l ∧ 97 ≤ T b ∧ T b ≤ 122 ∧ tk T l b = T b ∧ mtk T l b = 2) ∨ (b < l ∧ tk T l b = 256 ∧ mtk T l b = 3) ∨ (b < l ∧ tk T l b = 258 ∧ mtk T l b = 0) ∨ (b < l ∧ (T b = 44 ∨ T b = 59) ∧ tk T l b = T b ∧ mtk T l b = 4) ∨ (b < l ∧ ¬ (97 ≤ T b ∧ T b ≤ 122) ∧ T b ≠ 44 ∧ T b ≠ 59 ∧ T b < 256 ∧ tk T l b = T b ∧ mtk T l b = 0) := by
  unfold tk mtk
  by_cases h1 : l ≤ b
  · left; rw [if_pos h1, if_pos h1]; exact ⟨h1, rfl, rfl⟩
  · have hx := hT b (by omega)
    rw [if_neg h1, if_neg h1]
    right
    by_cases hw : 97 ≤ T b ∧ T b ≤ 122
    · left
      rw [if_pos hw, if_neg (fun z => by have := dg_i.mp z; omega)]
      exact ⟨by omega, hw.1, hw.2, rfl, rfl⟩
    · right
      rw [if_neg hw]
      by_cases hd : dg (T b)
      · rw [if_pos hd, if_pos hd]
        by_cases z : 2 < te T l b - b
        · right; left; rw [if_pos z, if_neg (by omega)]; exact ⟨by omega, rfl, rfl⟩
        · left; rw [if_neg z, if_pos (by omega)]; exact ⟨by omega, rfl, rfl⟩
      · right; right
        rw [if_neg hd, if_neg hd]
        by_cases z : T b = 44 ∨ T b = 59
        · left; rw [if_pos z]; exact ⟨by omega, z, rfl, rfl⟩
        · right; rw [if_neg z]; exact ⟨by omega, hw, by omega, by omega, hx, rfl, rfl⟩
theorem tk_lt {T : Nat → Nat} {l b : Nat} (hT : ∀ k, k < l → T k < 256) : tk T l b < 259 := by
  rcases tkm (b := b) hT with q | q | q | q | q | q <;> omega
theorem mtk_lt {T : Nat → Nat} {l b : Nat} (hT : ∀ k, k < l → T k < 256) : mtk T l b < 5 := by
  rcases tkm (b := b) hT with q | q | q | q | q | q <;> omega
theorem tv_lt {T : Nat → Nat} {l b : Nat} (hT : ∀ k, k < l → T k < 256) (h : tk T l b = 256) : tv T l b < 3000 := by
  unfold tk at h
  by_cases h1 : l ≤ b
  · rw [if_pos h1] at h; omega
  · have hx := hT b (by omega)
    rw [if_neg h1] at h
    by_cases hd : dg (T b)
    · have q : te T l b = rn T (l - b) b := by unfold te; rw [if_neg (by omega), if_pos hd]
      have q2 := (rn_b T (l - (b + 1)) (b + 1)).1
      have q3 := (te_b T (show b ≤ l by omega)).2
      rw [← rn_1 (by omega) hd, ← q] at q2
      unfold tv
      by_cases z : te T l b = b + 1
      · rw [if_pos z]; omega
      · rw [if_neg z]
        have := hT (b + 1) (by omega)
        omega
    · rw [if_neg hd] at h; omega
def srt (x : Nat) : Nat := if x = 112 then 1 else if x = 116 then 2 else if x = 109 then 3 else if x = 102 then 4 else if x = 111 then 5 else 0
theorem srt_c (x : Nat) : (x = 112 ∧ srt x = 1) ∨ (x = 116 ∧ srt x = 2) ∨ (x = 109 ∧ srt x = 3) ∨ (x = 102 ∧ srt x = 4) ∨ (x = 111 ∧ srt x = 5) ∨ (x ≠ 112 ∧ x ≠ 116 ∧ x ≠ 109 ∧ x ≠ 102 ∧ x ≠ 111 ∧ srt x = 0) := by
  unfold srt
  by_cases h1 : x = 112
  · left; rw [if_pos h1]; exact ⟨h1, rfl⟩
  by_cases h2 : x = 116
  · right; left; rw [if_neg h1, if_pos h2]; exact ⟨h2, rfl⟩
  by_cases h3 : x = 109
  · right; right; left; rw [if_neg h1, if_neg h2, if_pos h3]; exact ⟨h3, rfl⟩
  by_cases h4 : x = 102
  · right; right; right; left; rw [if_neg h1, if_neg h2, if_neg h3, if_pos h4]; exact ⟨h4, rfl⟩
  by_cases h5 : x = 111
  · right; right; right; right; left; rw [if_neg h1, if_neg h2, if_neg h3, if_neg h4, if_pos h5]; exact ⟨h5, rfl⟩
  · right; right; right; right; right; rw [if_neg h1, if_neg h2, if_neg h3, if_neg h4, if_neg h5]; exact ⟨h1, h2, h3, h4, h5, rfl⟩
theorem srt_le (x : Nat) : srt x ≤ 5 := by rcases srt_c x with q | q | q | q | q | q <;> omega
theorem hm_sort {x : Nat} (h : x < 259) (m : am_Mm) : f_M_sortOf (nI x) m = some (nI (srt x), m) := by
  have E : ∀ c : Nat, c < 259 → x ≠ c → ¬ nI x = nI c := fun c hc z w => z ((nI_eq (by omega) (by omega)).mp w)
  unfold f_M_sortOf
  rcases srt_c x with ⟨rfl, q⟩ | ⟨rfl, q⟩ | ⟨rfl, q⟩ | ⟨rfl, q⟩ | ⟨rfl, q⟩ | ⟨a, b, c, d, e, q⟩
  · rfl
  · rfl
  · rfl
  · rfl
  · rfl
  · rw [q, if_neg (show ¬ nI x = (112 : Int32) from E 112 (by omega) a), if_neg (show ¬ nI x = (116 : Int32) from E 116 (by omega) b), if_neg (show ¬ nI x = (109 : Int32) from E 109 (by omega) c), if_neg (show ¬ nI x = (102 : Int32) from E 102 (by omega) d), if_neg (show ¬ nI x = (111 : Int32) from E 111 (by omega) e)]; rfl
theorem hc_sort {x : Nat} (h : x < 259) (m : am_Mm) : f_Tape_sortOf (nI x) m = some (nI (srt x), m) := by
  have E : ∀ c : Nat, c < 259 → x ≠ c → ¬ nI x = nI c := fun c hc z w => z ((nI_eq (by omega) (by omega)).mp w)
  unfold f_Tape_sortOf
  rcases srt_c x with ⟨rfl, q⟩ | ⟨rfl, q⟩ | ⟨rfl, q⟩ | ⟨rfl, q⟩ | ⟨rfl, q⟩ | ⟨a, b, c, d, e, q⟩
  · rfl
  · rfl
  · rfl
  · rfl
  · rfl
  · rw [q, if_neg (show ¬ nI x = (102 : Int32) from E 102 (by omega) d), if_neg (show ¬ nI x = (109 : Int32) from E 109 (by omega) c), if_neg (show ¬ nI x = (111 : Int32) from E 111 (by omega) e), if_neg (show ¬ nI x = (112 : Int32) from E 112 (by omega) a), if_neg (show ¬ nI x = (116 : Int32) from E 116 (by omega) b)]
    simp only [ite_self]
    rfl
theorem hc_sign {T : Nat → Nat} {l b c : Nat} {m : am_Mm} (hT : ∀ k, k < l → T k < 256) (hc : c < 256) (h : CT T l b m) : f_Tape_isSign (nI c) m = if tk T l b = c then some (nI 1, m) else some (nI 0, am_pI m 2 4 (nI 1)) := by
  have := tk_lt (b := b) hT
  unfold f_Tape_isSign
  rw [h.2.2.1]
  by_cases z : tk T l b = c
  · rw [if_pos (by rw [z]), if_pos z]; rfl
  · rw [if_neg (fun w => z ((nI_eq (by omega) (by omega)).mp w)), if_neg z]; rfl
theorem hc_upto {T : Nat → Nat} {l b c : Nat} {m : am_Mm} (hT : ∀ k, k < l → T k < 256) (hc : c < 256) (h : CT T l b m) : f_Tape_isNumberUpTo (nI c) m = if tk T l b = 256 then (if tv T l b ≤ c then some (nI 1, m) else some (nI 0, am_pI m 2 4 (nI 2))) else some (nI 0, am_pI m 2 4 (nI 1)) := by
  have := tk_lt (b := b) hT
  unfold f_Tape_isNumberUpTo
  rw [h.2.2.1]
  by_cases z : tk T l b = 256
  · have hv := tv_lt hT z
    rw [if_pos (by rw [z]; rfl), if_pos z, h.2.2.2 z]
    by_cases y : tv T l b ≤ c
    · rw [if_pos (nI_le y (by omega)), if_pos y]; rfl
    · rw [if_neg (nI_ge (by omega) (by omega)), if_neg y]; rfl
  · rw [if_neg (show ¬ nI (tk T l b) = (256 : Int32) from fun w => z ((nI_eq (b := 256) (by omega) (by omega)).mp w)), if_neg z]; rfl
/-- a fault of the model -/
def MF (c p : Nat) (m : am_Mm) : Prop := m.1 63 15 = nI c ∧ m.1 63 16 = nI p
def MFr (m m' : am_Mm) : Prop := ∀ p k, ¬ (p = 63 ∧ 11 ≤ k ∧ k ≤ 16) → p ≠ 68 → m'.1 p k = m.1 p k
def CFr (m m' : am_Mm) : Prop := ∀ p k, ¬ (p = 2 ∧ 4 ≤ k ∧ k ≤ 8) → ¬ (3 ≤ p ∧ p ≤ 10) → m'.1 p k = m.1 p k
/-- only the fault -/
def fB (m m' : am_Mm) : Prop := ∀ p k, ¬ (p = 63 ∧ 15 ≤ k ∧ k ≤ 16) → m'.1 p k = m.1 p k
theorem hm_bad {b c : Nat} {m : am_Mm} (h15 : m.1 63 15 = nI 0) (h12 : m.1 63 12 = nI b) : ∃ m', f_M_bad (nI c) m = some m' ∧ MF c b m' ∧ fB m m' := by
  unfold f_M_bad
  rw [h15, if_pos e00, ml_o _ _ (by omega), h12]
  exact ⟨_, rfl, ⟨by rw [ml_o _ _ (by omega), ml_s], ml_s _ _ _ _⟩, fun p k q => by rw [ml_o _ _ (by omega), ml_o _ _ (by omega)]⟩
theorem MF_ne {c p : Nat} {m : am_Mm} (h : MF c p m) (h1 : 1 ≤ c) (h3 : c ≤ 3) : ¬ m.1 63 15 = (0 : Int32) := fun z => by
  rw [h.1] at z
  have := (nI_eq (b := 0) (by omega) (by omega)).mp z
  omega
theorem MF_nle {c p : Nat} {m : am_Mm} (h : MF c p m) (h1 : 1 ≤ c) (h3 : c ≤ 3) : ¬ m.1 63 15 ≤ (0 : Int32) := by
  rw [h.1]
  exact nI_ge (a := 0) (by omega) (by omega)
theorem hm_badF {x : Int32} {m : am_Mm} (h : ¬ m.1 63 15 = (0 : Int32)) : f_M_bad x m = some m := by
  unfold f_M_bad; rw [if_neg h]
theorem hm_mustF {x : Int32} {m : am_Mm} (h : ¬ m.1 63 15 = (0 : Int32)) : f_M_must x m = some m := by
  unfold f_M_must f_M_must_b9
  by_cases z : x = 0
  · rw [if_pos z, hm_badF h, Option.bind_some, if_neg h]
  · rw [if_neg z, if_neg h]
theorem hm_must1 {m : am_Mm} (h : m.1 63 15 = nI 0) : f_M_must (1 : Int32) m = (f_M_nextToken m).bind fun q => some q := by
  unfold f_M_must f_M_must_b9
  rw [if_neg (show ¬ (1 : Int32) = 0 by decide), h, if_pos e00]
theorem hm_must0 {b : Nat} {m : am_Mm} (h : m.1 63 15 = nI 0) (h12 : m.1 63 12 = nI b) : ∃ m', f_M_must (0 : Int32) m = some m' ∧ MF 1 b m' ∧ fB m m' := by
  obtain ⟨m', c1, c2, c3⟩ := hm_bad (c := 1) h h12
  refine ⟨m', ?_, c2, c3⟩
  unfold f_M_must f_M_must_b9
  have c1' : f_M_bad (1 : Int32) m = some m' := c1
  rw [if_pos rfl, c1', Option.bind_some, if_neg (MF_ne c2 (by omega) (by omega))]
theorem hm_signF {x : Int32} {m : am_Mm} (h : ¬ m.1 63 15 = (0 : Int32)) : f_M_mustSign x m = some m := by
  unfold f_M_mustSign f_M_mustSign_b22
  rw [hm_mustF h, hm_mustF h]
  simp only [ite_self, Option.bind_some]
theorem hm_sign {T : Nat → Nat} {l b c : Nat} {m : am_Mm} (hT : ∀ k, k < l → T k < 256) (hc : c = 44 ∨ c = 59) (h : MT T l b m) (h15 : m.1 63 15 = nI 0) : (tk T l b = c → f_M_mustSign (nI c) m = (f_M_nextToken m).bind fun q => some q) ∧ (tk T l b ≠ c → ∃ m', f_M_mustSign (nI c) m = some m' ∧ MF 1 b m' ∧ fB m m') := by
  have hk := mtk_lt (b := b) hT
  unfold f_M_mustSign f_M_mustSign_b22
  rw [h.2.2.1]
  constructor
  · intro z
    have q : b < l ∧ mtk T l b = 4 ∧ T b = c := by
      rcases tkm (b := b) hT with q | q | q | q | q | q <;> omega
    rw [q.2.1, if_pos (show nI 4 = (4 : Int32) from rfl), h.2.2.2.1 (Or.inr q.2.1), q.2.2, if_pos rfl, hm_must1 h15]
    cases f_M_nextToken m <;> rfl
  · intro z
    obtain ⟨m', c1, c2, c3⟩ := hm_must0 h15 h.1
    refine ⟨m', ?_, c2, c3⟩
    by_cases q : mtk T l b = 4
    · have q2 : T b ≠ c ∧ T b < 256 := by
        rcases tkm (b := b) hT with q | q | q | q | q | q <;> omega
      rw [q, if_pos (show nI 4 = (4 : Int32) from rfl), h.2.2.2.1 (Or.inr q), if_neg (fun w => q2.1 ((nI_eq (by omega) (by omega)).mp w)), c1]; rfl
    · rw [if_neg (show ¬ nI (mtk T l b) = (4 : Int32) from fun w => q ((nI_eq (b := 4) (by omega) (by omega)).mp w)), c1]; rfl
theorem hm_figF {x y : Int32} {m : am_Mm} (h : ¬ m.1 63 15 = (0 : Int32)) : f_M_figure x y m = some (x, m) := by
  unfold f_M_figure f_M_figure_b20 f_M_figure_b47 f_M_figure_b62
  rw [if_neg h, if_neg h, if_neg h, hm_mustF h]; rfl
theorem hm_fig {T : Nat → Nat} {l b c : Nat} {m : am_Mm} (hT : ∀ k, k < l → T k < 256) (hc : c < 256) (h : MT T l b m) (h15 : m.1 63 15 = nI 0) : (tk T l b = 256 → tv T l b ≤ c → f_M_figure (0 : Int32) (nI c) m = (f_M_nextToken m).bind fun q => some (nI (tv T l b), q)) ∧ (tk T l b = 256 → ¬ tv T l b ≤ c → ∃ m', f_M_figure (0 : Int32) (nI c) m = some (0, m') ∧ MF 2 b m' ∧ fB m m') ∧ (tk T l b ≠ 256 → ∃ m', f_M_figure (0 : Int32) (nI c) m = some (0, m') ∧ MF 1 b m' ∧ fB m m') := by
  have hk := mtk_lt (b := b) hT
  unfold f_M_figure
  rw [h15, if_pos e00, h.2.2.1]
  refine ⟨fun z y => ?_, fun z y => ?_, fun z => ?_⟩
  · have q : mtk T l b = 3 := by rcases tkm (b := b) hT with q | q | q | q | q | q <;> omega
    have hv := tv_lt hT z
    unfold f_M_figure_b20 f_M_figure_b47 f_M_figure_b62
    rw [q, if_pos (show nI 3 = (3 : Int32) from rfl), h15, if_pos e00, h.2.2.2.2 q, ml_in1 0 (nI c) _ _ rfl rfl ⟨nI_pos' (by omega), nI_le y (by omega)⟩, Option.bind_some, if_neg ml_n10]
    dsimp only
    rw [h15, if_pos e00, h.2.2.2.2 q, hm_must1 h15]
    cases f_M_nextToken m <;> rfl
  · have q : mtk T l b = 3 := by rcases tkm (b := b) hT with q | q | q | q | q | q <;> omega
    have hv := tv_lt hT z
    obtain ⟨m', c1, c2, c3⟩ := hm_bad (c := 2) h15 h.1
    have c1' : f_M_bad (2 : Int32) m = some m' := c1
    have ne := MF_ne c2 (by omega) (by omega)
    refine ⟨m', ?_, c2, c3⟩
    unfold f_M_figure_b20 f_M_figure_b47 f_M_figure_b62
    rw [q, if_pos (show nI 3 = (3 : Int32) from rfl), h15, if_pos e00, h.2.2.2.2 q, ml_in0 0 (nI c) _ _ rfl rfl (fun w => nI_ge (show c < tv T l b by omega) (by omega) w.2), Option.bind_some, if_pos rfl]
    dsimp only
    rw [c1', Option.bind_some, if_neg ne, hm_mustF ne]; rfl
  · have q : mtk T l b ≠ 3 := by rcases tkm (b := b) hT with q | q | q | q | q | q <;> omega
    obtain ⟨m', c1, c2, c3⟩ := hm_bad (c := 1) h15 h.1
    have c1' : f_M_bad (1 : Int32) m = some m' := c1
    have ne := MF_ne c2 (by omega) (by omega)
    refine ⟨m', ?_, c2, c3⟩
    unfold f_M_figure_b20 f_M_figure_b47 f_M_figure_b62
    rw [if_neg (show ¬ nI (mtk T l b) = (3 : Int32) from fun w => q ((nI_eq (b := 3) (by omega) (by omega)).mp w)), c1', Option.bind_some, if_neg ne, if_neg ne, hm_mustF ne]; rfl
/-- what is read of one corner: its faults -/
def co (T : Nat → Nat) (l b1 b2 : Nat) : Nat × Nat := if tk T l b1 = 256 then (if tv T l b1 ≤ 9 then (if tk T l b2 = 59 then (0, 0) else (1, b2)) else (2, b1)) else (1, b1)
def CI (T : Nat → Nat) (l b n cu : Nat) (kd ow : Nat → Nat) (m : am_Mm) : Prop := CL T l m ∧ CT T l b m ∧ rl_Fig m.1 3 n cu kd ow
def MI (T : Nat → Nat) (l b n cu : Nat) (kd ow : Nat → Nat) (m : am_Mm) : Prop := ML T l m ∧ MT T l b m ∧ m.1 63 15 = nI 0 ∧ rl_Pol m.1 68 0 n cu kd ow
def up (f : Nat → Nat) (n x : Nat) : Nat → Nat := fun i => if i = n then x else f i
theorem up_s (f : Nat → Nat) (n x : Nat) : up f n x n = x := if_pos rfl
theorem up_o {f : Nat → Nat} {n x i : Nat} (h : i ≠ n) : up f n x i = f i := if_neg h
theorem hc_corner {T : Nat → Nat} {l b n cu f c p : Nat} {kd ow : Nat → Nat} {m : am_Mm} (hl : l ≤ 120) (hT : ∀ k, k < l → T k < 256) (hb : b ≤ l) (hn : n < 9) (hs : srt (tk T l b) ≠ 0) (hk : co T l (te T l b) (te T l (te T l b)) = (c, p)) (H : CI T l b n cu kd ow m) :
    (c = 0 ∧ ∃ m', f_Tape_readCorners_b2 (f + 1) (nI n) m = f_Tape_readCorners_b2 f (nI (n + 1)) m' ∧ CI T l (te T l (te T l (te T l b))) (n + 1) cu (up kd n (srt (tk T l b))) (up ow n (tv T l (te T l b))) m' ∧ CFr m m' ∧ m'.1 2 4 = m.1 2 4) ∨
    (c ≠ 0 ∧ ∃ m', f_Tape_readCorners_b2 (f + 1) (nI n) m = some (nI 0, m') ∧ m'.1 2 4 = nI c ∧ m'.1 2 5 = nI p ∧ CFr m m') := by
  obtain ⟨hL, hCT, hF⟩ := H
  have hk9 := srt_le (tk T l b)
  have q1 := (te_b T hb).2
  obtain ⟨b1, e1⟩ : ∃ b1, b1 = te T l b := ⟨_, rfl⟩
  rw [← e1] at hk q1 ⊢
  have q2 := (te_b T q1).2
  obtain ⟨b2, e2⟩ : ∃ b2, b2 = te T l b1 := ⟨_, rfl⟩
  rw [← e2] at hk q2 ⊢
  have q3 := (te_b T q2).2
  obtain ⟨m1, c1, c2, c3⟩ := hc_next hl hT hL q1 (by rw [e1]; exact hCT.2.1)
  have start : f_Tape_readCorners_b2 (f + 1) (nI n) m = (f_Tape_isNumberUpTo (9 : Int32) m1).bind fun q21 =>
          if q21.1 = (0 : Int32) then
            some ((0 : Int32), q21.2)
          else
            if am_in (q21.2.1 3 2) 9 = true then
              if am_in ((am_pI q21.2 4 (q21.2.1 3 2).toNatClampNeg (nI (srt (tk T l b)))).1 3 2) 9 = true then
                (f_Tape_next (am_pI (am_pI (am_pI q21.2 4 (q21.2.1 3 2).toNatClampNeg (nI (srt (tk T l b)))) 5 ((am_pI q21.2 4 (q21.2.1 3 2).toNatClampNeg (nI (srt (tk T l b)))).1 3 2).toNatClampNeg ((am_pI q21.2 4 (q21.2.1 3 2).toNatClampNeg (nI (srt (tk T l b)))).1 2 8)) 3 2 (((am_pI (am_pI q21.2 4 (q21.2.1 3 2).toNatClampNeg (nI (srt (tk T l b)))) 5 ((am_pI q21.2 4 (q21.2.1 3 2).toNatClampNeg (nI (srt (tk T l b)))).1 3 2).toNatClampNeg ((am_pI q21.2 4 (q21.2.1 3 2).toNatClampNeg (nI (srt (tk T l b)))).1 2 8)).1 3 2) + (1 : Int32)))).bind fun q27 =>
                (f_Tape_isSign (59 : Int32) q27).bind fun q30 =>
                if q30.1 = (0 : Int32) then
                  some ((0 : Int32), q30.2)
                else
                  (f_Tape_next q30.2).bind fun q34 =>
                  f_Tape_readCorners_b2 f (nI n + (1 : Int32)) q34
              else none
            else none := by
    rw [f_Tape_readCorners_b2, if_neg (show ¬ (120 : Int32) < nI n from nI_nlt (a := 120) (by omega) (by decide)), hCT.2.2.1, hc_sort (tk_lt hT), Option.bind_some, if_neg (show ¬ nI (srt (tk T l b)) = (0 : Int32) from fun w => hs ((nI_eq (b := 0) (by omega) (by omega)).mp w))]
    dsimp only
    rw [hF.1, if_pos (show nI n < (9 : Int32) from nI_lt hn (by decide)), c1, Option.bind_some]
  have up1 := hc_upto (c := 9) hT (by omega) c2
  have up1' : f_Tape_isNumberUpTo (9 : Int32) m1 = _ := up1
  rw [start, up1']
  have flt : ∀ (mm : am_Mm) (x : Nat), CFr m mm → CFr m (am_pI mm 2 4 (nI x)) := fun mm x h p k w1 w2 => by rw [ml_o _ _ (by omega), h p k w1 w2]
  have fr1 : CFr m m1 := fun p k w1 w2 => c3 p k (by omega)
  unfold co at hk
  by_cases z1 : tk T l b1 = 256
  · rw [if_pos z1] at hk ⊢
    by_cases z2 : tv T l b1 ≤ 9
    · rw [if_pos z2] at hk ⊢
      rw [Option.bind_some, if_neg ne01]
      dsimp only
      have F1 : m1.1 3 2 = nI n := by rw [c3 _ _ (by omega)]; exact hF.1
      have F8 : m1.1 2 8 = nI (tv T l b1) := c2.2.2.2 z1
      simp only [F1, nq_in hn (show 9 < 2 ^ 31 by decide), ↓reduceIte, ml_cl (show n < 2 ^ 31 by omega), ml_o m1 (nI (srt (tk T l b))) (show ¬ ((3 : Nat) = 4 ∧ (2 : Nat) = n) by omega), ml_o m1 (nI (srt (tk T l b))) (show ¬ ((2 : Nat) = 4 ∧ (8 : Nat) = n) by omega), F8]
      rw [ml_o _ (nI (tv T l b1)) (show ¬ ((3 : Nat) = 5 ∧ (2 : Nat) = n) by omega), ml_o m1 (nI (srt (tk T l b))) (show ¬ ((3 : Nat) = 4 ∧ (2 : Nat) = n) by omega), F1, nI_1]
      obtain ⟨m2, em2⟩ : ∃ m2, m2 = am_pI (am_pI (am_pI m1 4 n (nI (srt (tk T l b)))) 5 n (nI (tv T l b1))) 3 2 (nI (n + 1)) := ⟨_, rfl⟩
      rw [← em2]
      have g2 : ∀ p k, ¬ (p = 4 ∧ k = n) → ¬ (p = 5 ∧ k = n) → ¬ (p = 3 ∧ k = 2) → m2.1 p k = m1.1 p k := fun p k w1 w2 w3 => by rw [em2, ml_o _ _ w3, ml_o _ _ w2, ml_o _ _ w1]
      have L2 : CL T l m2 := ⟨by rw [g2 _ _ (by omega) (by omega) (by omega), c3 _ _ (by omega)]; exact hL.1, fun k hk => by rw [g2 _ _ (by omega) (by omega) (by omega), c3 _ _ (by omega)]; exact hL.2 k hk⟩
      have fr2 : CFr m m2 := fun p k w1 w2 => by rw [g2 _ _ (by omega) (by omega) (by omega), fr1 p k w1 w2]
      obtain ⟨m3, d1, d2, d3⟩ := hc_next hl hT L2 q2 (by rw [g2 _ _ (by omega) (by omega) (by omega), e2]; exact c2.2.1)
      have L3 : CL T l m3 := ⟨by rw [d3 _ _ (by omega)]; exact L2.1, fun k hk => by rw [d3 _ _ (by omega)]; exact L2.2 k hk⟩
      have fr3 : CFr m m3 := fun p k w1 w2 => by rw [d3 p k (by omega), fr2 p k w1 w2]
      have sg := hc_sign (c := 59) hT (by omega) d2
      have sg' : f_Tape_isSign (59 : Int32) m3 = _ := sg
      rw [d1, Option.bind_some, sg']
      by_cases z3 : tk T l b2 = 59
      · rw [if_pos z3] at hk ⊢
        obtain ⟨rfl, rfl⟩ := Prod.mk.inj hk
        left
        rw [Option.bind_some, if_neg ne01]
        dsimp only
        obtain ⟨m4, g1, g3, g4⟩ := hc_next hl hT L3 q3 d2.2.1
        rw [g1, Option.bind_some]
        refine ⟨rfl, m4, rfl, ⟨⟨by rw [g4 _ _ (by omega)]; exact L3.1, fun k hk => by rw [g4 _ _ (by omega)]; exact L3.2 k hk⟩, g3, ?_, ?_, fun i hi => ?_⟩, fun p k w1 w2 => by rw [g4 p k (by omega), fr3 p k w1 w2], by rw [g4 _ _ (by omega), d3 _ _ (by omega), g2 _ _ (by omega) (by omega) (by omega), c3 _ _ (by omega)]⟩
        · rw [g4 _ _ (by omega), d3 _ _ (by omega), em2, ml_s]
        · rw [g4 _ _ (by omega), d3 _ _ (by omega), g2 _ _ (by omega) (by omega) (by omega), c3 _ _ (by omega)]; exact hF.2.1
        · rw [g4 _ _ (by omega), d3 _ _ (by omega), g4 _ _ (by omega), d3 _ _ (by omega)]
          by_cases y : i = n
          · subst y
            rw [up_s, up_s, em2, ml_o _ _ (by omega), ml_o _ _ (by omega), ml_s, ml_o _ _ (by omega), ml_s]
            exact ⟨rfl, rfl⟩
          · rw [up_o y, up_o y, g2 _ _ (by omega) (by omega) (by omega), g2 _ _ (by omega) (by omega) (by omega), c3 _ _ (by omega), c3 _ _ (by omega)]
            exact hF.2.2 i (by omega)
      · rw [if_neg z3] at hk ⊢
        obtain ⟨rfl, rfl⟩ := Prod.mk.inj hk
        right
        refine ⟨by omega, am_pI m3 2 4 (nI 1), by rw [Option.bind_some, if_pos e00]; rfl, ml_s _ _ _ _, by rw [ml_o _ _ (by omega)]; exact d2.1, flt _ _ fr3⟩
    · rw [if_neg z2] at hk ⊢
      obtain ⟨rfl, rfl⟩ := Prod.mk.inj hk
      right
      refine ⟨by omega, am_pI m1 2 4 (nI 2), by rw [Option.bind_some, if_pos e00]; rfl, ml_s _ _ _ _, by rw [ml_o _ _ (by omega)]; exact c2.1, flt _ _ fr1⟩
  · rw [if_neg z1] at hk ⊢
    obtain ⟨rfl, rfl⟩ := Prod.mk.inj hk
    right
    refine ⟨by omega, am_pI m1 2 4 (nI 1), by rw [Option.bind_some, if_pos e00]; rfl, ml_s _ _ _ _, by rw [ml_o _ _ (by omega)]; exact c2.1, flt _ _ fr1⟩
