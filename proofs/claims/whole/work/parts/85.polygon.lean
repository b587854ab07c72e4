/-! ===== the two readers side by side, polygon ===== -/
theorem MFr_t {a b c : am_Mm} (h : MFr a b) (h2 : MFr b c) : MFr a c := fun p k q1 q2 => by rw [h2 p k q1 q2, h p k q1 q2]
theorem CFr_t {a b c : am_Mm} (h : CFr a b) (h2 : CFr b c) : CFr a c := fun p k q1 q2 => by rw [h2 p k q1 q2, h p k q1 q2]
theorem co_le (T : Nat → Nat) (l b1 b2 : Nat) : (co T l b1 b2).1 ≤ 3 := by
  unfold co
  split
  · split
    · split <;> simp
    · simp
  · simp
theorem ko_le (T : Nat → Nat) (l n : Nat) (g : Bool) (b b1 b2 b3 b4 : Nat) : (ko T l n g b b1 b2 b3 b4).1 ≤ 3 := by
  unfold ko
  repeat' split
  all_goals simp
theorem hm_37F {f k : Nat} {m : am_Mm} (h : ¬ m.1 63 15 = (0 : Int32)) : f_M_polygon_b37 (f + 1) (nI k) m = f_M_polygon_b90 m := by
  rw [f_M_polygon_b37, if_neg h, ite_self]
theorem hm_92F {f k : Nat} {m : am_Mm} (h : ¬ m.1 63 15 = (0 : Int32)) : f_M_polygon_b92 (f + 1) (nI k) m = f_M_polygon_b123 m := by
  rw [f_M_polygon_b92, if_neg h, ite_self]
theorem hm_37 {T : Nat → Nat} {l b n cu f : Nat} {kd ow : Nat → Nat} {m : am_Mm} (hT : ∀ k, k < l → T k < 256) (hn : n ≤ 9) (H : MI T l b n cu kd ow m) : f_M_polygon_b37 (f + 1) (nI n) m = if 4 ≤ n ∧ (tk T l b = 257 ∨ tk T l b = 100) then f_M_polygon_b90 m else (f_M_readCorner m).bind fun q => f_M_polygon_b37 f (nI (n + 1)) q := by
  obtain ⟨hL, hMT, h15, hP⟩ := H
  have hk := mtk_lt (b := b) hT
  have B : ∀ mm, f_M_polygon_b80 (f_M_polygon_b37 f) (nI n) mm = (f_M_readCorner mm).bind fun q => f_M_polygon_b37 f (nI (n + 1)) q := fun mm => by
    unfold f_M_polygon_b80; rw [nI_1]
  rw [f_M_polygon_b37, if_neg (show ¬ (9 : Int32) < nI n from nI_nlt (a := 9) hn (by decide)), h15, if_pos e00, B, hMT.2.2.1]
  by_cases h4 : n < 4
  · rw [if_pos (show nI n < (4 : Int32) from nI_lt h4 (by decide)), if_neg (by omega)]
  · rw [if_neg (show ¬ nI n < (4 : Int32) from nI_nlt (b := 4) (by omega) (by omega))]
    by_cases q1 : mtk T l b = 1
    · have w : tk T l b = 257 := by rcases tkm (b := b) hT with q | q | q | q | q | q <;> omega
      rw [q1, if_pos (show nI 1 = (1 : Int32) from rfl), if_pos ⟨by omega, Or.inl w⟩]
    · rw [if_neg (show ¬ nI (mtk T l b) = (1 : Int32) from fun v => q1 ((nI_eq (b := 1) (by omega) (by omega)).mp v))]
      by_cases q2 : mtk T l b = 2
      · have w : tk T l b = T b ∧ T b < 256 := by rcases tkm (b := b) hT with q | q | q | q | q | q <;> omega
        rw [q2, if_pos (show nI 2 = (2 : Int32) from rfl), hMT.2.2.2.1 (Or.inl q2)]
        by_cases q3 : T b = 100
        · rw [q3, if_pos (show nI 100 = (100 : Int32) from rfl), if_pos ⟨by omega, Or.inr (by omega)⟩]
        · rw [if_neg (show ¬ nI (T b) = (100 : Int32) from fun v => q3 ((nI_eq (b := 100) (by omega) (by omega)).mp v)), if_neg (by omega)]
      · have w : tk T l b ≠ 257 ∧ tk T l b ≠ 100 := by rcases tkm (b := b) hT with q | q | q | q | q | q <;> omega
        rw [if_neg (show ¬ nI (mtk T l b) = (2 : Int32) from fun v => q2 ((nI_eq (b := 2) (by omega) (by omega)).mp v)), if_neg (by omega)]
theorem hm_rcF {T : Nat → Nat} {l b n cu : Nat} {kd ow : Nat → Nat} {m : am_Mm} (hT : ∀ k, k < l → T k < 256) (hs : srt (tk T l b) = 0) (H : MI T l b n cu kd ow m) : ∃ m', f_M_readCorner m = some m' ∧ MF 1 b m' ∧ MFr m m' := by
  rw [hm_rc0 hT H, hs]
  obtain ⟨hL, hMT, h15, hP⟩ := H
  obtain ⟨m', c1, c2, c3⟩ := hm_bad (c := 1) h15 hMT.1
  have c1' : f_M_bad (1 : Int32) m = some m' := c1
  refine ⟨m', ?_, c2, fun p k w1 w2 => c3 p k (by omega)⟩
  unfold f_M_readCorner_b19 f_M_readCorner_b48
  rw [if_pos e00, c1', Option.bind_some, if_neg (MF_nle c2 (by omega) (by omega))]
theorem hm_rc9 {T : Nat → Nat} {l b cu : Nat} {kd ow : Nat → Nat} {m : am_Mm} (hT : ∀ k, k < l → T k < 256) (hs : srt (tk T l b) ≠ 0) (H : MI T l b 9 cu kd ow m) : ∃ m', f_M_readCorner m = some m' ∧ MF 3 b m' ∧ MFr m m' := by
  have hk9 := srt_le (tk T l b)
  rw [hm_rc0 hT H]
  obtain ⟨hL, hMT, h15, hP⟩ := H
  obtain ⟨m', c1, c2, c3⟩ := hm_bad (c := 3) h15 hMT.1
  have c1' : f_M_bad (3 : Int32) m = some m' := c1
  refine ⟨m', ?_, c2, fun p k w1 w2 => c3 p k (by omega)⟩
  unfold f_M_readCorner_b19 f_M_readCorner_b48
  rw [if_neg (show ¬ nI (srt (tk T l b)) = (0 : Int32) from fun w => hs ((nI_eq (b := 0) (by omega) (by omega)).mp w)), if_pos (show m.1 68 0 = (9 : Int32) from hP.1), c1', Option.bind_some, if_neg (MF_nle c2 (by omega) (by omega))]
theorem cnr {T : Nat → Nat} {l : Nat} (hl : l ≤ 120) (hT : ∀ k, k < l → T k < 256) : ∀ t n b kd ow, n + t = 9 → b ≤ l → (∀ c, c < n → 1 ≤ kd c ∧ kd c ≤ 5 ∧ ow c ≤ 9) →
    (∃ c p, 1 ≤ c ∧ c ≤ 3 ∧ (∀ m f, t < f → CI T l b n 0 kd ow m → ∃ m', f_Tape_readCorners_b2 f (nI n) m = some (nI 0, m') ∧ m'.1 2 4 = nI c ∧ m'.1 2 5 = nI p ∧ CFr m m') ∧ (∀ m f, t + 1 < f → MI T l b n 0 kd ow m → ∃ m', f_M_polygon_b37 f (nI n) m = f_M_polygon_b90 m' ∧ MF c p m' ∧ MFr m m')) ∨
    (∃ n' b' kd' ow', 4 ≤ n' ∧ n' ≤ 9 ∧ b' ≤ l ∧ (∀ c, c < n' → 1 ≤ kd' c ∧ kd' c ≤ 5 ∧ ow' c ≤ 9) ∧ (∀ m f, t < f → CI T l b n 0 kd ow m → ∃ m', f_Tape_readCorners_b2 f (nI n) m = some (nI 1, m') ∧ m'.1 2 4 = m.1 2 4 ∧ CI T l b' n' 0 kd' ow' m' ∧ CFr m m') ∧
      (((tk T l b' = 257 ∨ tk T l b' = 100) ∧ ∀ m f, t + 1 < f → MI T l b n 0 kd ow m → ∃ m', f_M_polygon_b37 f (nI n) m = f_M_polygon_b90 m' ∧ MI T l b' n' 0 kd' ow' m' ∧ MFr m m') ∨
       ((tk T l b' ≠ 257 ∧ tk T l b' ≠ 100) ∧ ∀ m f, t + 1 < f → MI T l b n 0 kd ow m → ∃ m', f_M_polygon_b37 f (nI n) m = f_M_polygon_b90 m' ∧ MF 1 b' m' ∧ MFr m m'))) := by
  intro t
  induction t with
  | zero =>
    intro n b kd ow hn hb hok
    have hn : n = 9 := by omega
    subst hn
    by_cases hs : srt (tk T l b) = 0
    · right
      refine ⟨9, b, kd, ow, by omega, by omega, hb, hok, fun m f hf H => ⟨m, ?_, rfl, H, fun _ _ _ _ => rfl⟩, ?_⟩
      · obtain ⟨f, rfl⟩ : ∃ z, f = z + 1 := ⟨f - 1, by omega⟩
        rw [f_Tape_readCorners_b2, if_neg (show ¬ (120 : Int32) < nI 9 by decide), H.2.1.2.2.1, hc_sort (tk_lt hT), Option.bind_some, hs, if_pos e00]
        dsimp only
        rw [H.2.2.1, if_pos (show (4 : Int32) ≤ nI 9 by decide)]; rfl
      · by_cases w : tk T l b = 257 ∨ tk T l b = 100
        · left
          refine ⟨w, fun m f hf H => ⟨m, ?_, H, fun _ _ _ _ => rfl⟩⟩
          obtain ⟨f, rfl⟩ : ∃ z, f = z + 1 := ⟨f - 1, by omega⟩
          rw [hm_37 hT (by omega) H, if_pos ⟨by omega, w⟩]
        · right
          refine ⟨by omega, fun m f hf H => ?_⟩
          obtain ⟨f, rfl⟩ : ∃ z, f = z + 2 := ⟨f - 2, by omega⟩
          obtain ⟨m', c1, c2, c3⟩ := hm_rcF hT hs H
          refine ⟨m', ?_, c2, c3⟩
          rw [hm_37 hT (by omega) H, if_neg (fun z => w z.2), c1, Option.bind_some, hm_37F (MF_ne c2 (by omega) (by omega))]
    · have sc' := srt_c (tk T l b)
      left
      refine ⟨3, b, by omega, by omega, fun m f hf H => ?_, fun m f hf H => ?_⟩
      · obtain ⟨f, rfl⟩ : ∃ z, f = z + 1 := ⟨f - 1, by omega⟩
        refine ⟨am_pI m 2 4 (nI 3), ?_, ml_s _ _ _ _, by rw [ml_o _ _ (by omega)]; exact H.2.1.1, fun p k w1 w2 => ml_o _ _ (by omega)⟩
        rw [f_Tape_readCorners_b2, if_neg (show ¬ (120 : Int32) < nI 9 by decide), H.2.1.2.2.1, hc_sort (tk_lt hT), Option.bind_some, if_neg (show ¬ nI (srt (tk T l b)) = (0 : Int32) from fun w => hs ((nI_eq (b := 0) (by omega) (by omega)).mp w))]
        dsimp only
        rw [H.2.2.1, if_neg (show ¬ nI 9 < (9 : Int32) by decide)]; rfl
      · obtain ⟨f, rfl⟩ : ∃ z, f = z + 2 := ⟨f - 2, by omega⟩
        obtain ⟨m', c1, c2, c3⟩ := hm_rc9 hT hs H
        refine ⟨m', ?_, c2, c3⟩
        rw [hm_37 hT (by omega) H, if_neg (by omega), c1, Option.bind_some, hm_37F (MF_ne c2 (by omega) (by omega))]
  | succ t ih =>
    intro n b kd ow hn hb hok
    by_cases hs : srt (tk T l b) = 0
    · by_cases h4 : 4 ≤ n
      · right
        refine ⟨n, b, kd, ow, by omega, by omega, hb, hok, fun m f hf H => ⟨m, ?_, rfl, H, fun _ _ _ _ => rfl⟩, ?_⟩
        · obtain ⟨f, rfl⟩ : ∃ z, f = z + 1 := ⟨f - 1, by omega⟩
          rw [f_Tape_readCorners_b2, if_neg (show ¬ (120 : Int32) < nI n from nI_nlt (a := 120) (by omega) (by decide)), H.2.1.2.2.1, hc_sort (tk_lt hT), Option.bind_some, hs, if_pos e00]
          dsimp only
          rw [H.2.2.1, if_pos (show (4 : Int32) ≤ nI n from nI_le h4 (by omega))]; rfl
        · by_cases w : tk T l b = 257 ∨ tk T l b = 100
          · left
            refine ⟨w, fun m f hf H => ⟨m, ?_, H, fun _ _ _ _ => rfl⟩⟩
            obtain ⟨f, rfl⟩ : ∃ z, f = z + 1 := ⟨f - 1, by omega⟩
            rw [hm_37 hT (by omega) H, if_pos ⟨h4, w⟩]
          · right
            refine ⟨by omega, fun m f hf H => ?_⟩
            obtain ⟨f, rfl⟩ : ∃ z, f = z + 2 := ⟨f - 2, by omega⟩
            obtain ⟨m', c1, c2, c3⟩ := hm_rcF hT hs H
            refine ⟨m', ?_, c2, c3⟩
            rw [hm_37 hT (by omega) H, if_neg (fun z => w z.2), c1, Option.bind_some, hm_37F (MF_ne c2 (by omega) (by omega))]
      · left
        refine ⟨1, b, by omega, by omega, fun m f hf H => ?_, fun m f hf H => ?_⟩
        · obtain ⟨f, rfl⟩ : ∃ z, f = z + 1 := ⟨f - 1, by omega⟩
          refine ⟨am_pI m 2 4 (nI 1), ?_, ml_s _ _ _ _, by rw [ml_o _ _ (by omega)]; exact H.2.1.1, fun p k w1 w2 => ml_o _ _ (by omega)⟩
          rw [f_Tape_readCorners_b2, if_neg (show ¬ (120 : Int32) < nI n from nI_nlt (a := 120) (by omega) (by decide)), H.2.1.2.2.1, hc_sort (tk_lt hT), Option.bind_some, hs, if_pos e00]
          dsimp only
          rw [H.2.2.1, if_neg (show ¬ (4 : Int32) ≤ nI n from nI_ge (b := 4) (by omega) (by decide))]; rfl
        · obtain ⟨f, rfl⟩ : ∃ z, f = z + 2 := ⟨f - 2, by omega⟩
          obtain ⟨m', c1, c2, c3⟩ := hm_rcF hT hs H
          refine ⟨m', ?_, c2, c3⟩
          rw [hm_37 hT (by omega) H, if_neg (by omega), c1, Option.bind_some, hm_37F (MF_ne c2 (by omega) (by omega))]
    · have sc' := srt_c (tk T l b)
      have nstop : ¬ (4 ≤ n ∧ (tk T l b = 257 ∨ tk T l b = 100)) := by omega
      have cle := co_le T l (te T l b) (te T l (te T l b))
      obtain ⟨c, p, hk⟩ : ∃ c p, co T l (te T l b) (te T l (te T l b)) = (c, p) := ⟨_, _, rfl⟩
      rw [hk] at cle
      have cle : c ≤ 3 := cle
      by_cases hc : c = 0
      · have q1 := (te_b T hb).2
        have q2 := (te_b T q1).2
        have q3 := (te_b T q2).2
        have hval : tv T l (te T l b) ≤ 9 := by
          unfold co at hk
          by_cases z1 : tk T l (te T l b) = 256
          · rw [if_pos z1] at hk
            by_cases z2 : tv T l (te T l b) ≤ 9
            · exact z2
            · rw [if_neg z2] at hk
              have := (Prod.mk.inj hk).1
              omega
          · rw [if_neg z1] at hk
            have := (Prod.mk.inj hk).1
            omega
        have hok' : ∀ c, c < n + 1 → 1 ≤ up kd n (srt (tk T l b)) c ∧ up kd n (srt (tk T l b)) c ≤ 5 ∧ up ow n (tv T l (te T l b)) c ≤ 9 := by
          intro i hi
          by_cases y : i = n
          · subst y
            rw [up_s, up_s]
            exact ⟨by omega, srt_le _, hval⟩
          · rw [up_o y, up_o y]
            exact hok i (by omega)
        have CS : ∀ m f, t + 1 < f → CI T l b n 0 kd ow m → ∃ f' m', t < f' ∧ f_Tape_readCorners_b2 f (nI n) m = f_Tape_readCorners_b2 f' (nI (n + 1)) m' ∧ m'.1 2 4 = m.1 2 4 ∧ CI T l (te T l (te T l (te T l b))) (n + 1) 0 (up kd n (srt (tk T l b))) (up ow n (tv T l (te T l b))) m' ∧ CFr m m' := by
          intro m f hf H
          obtain ⟨f, rfl⟩ : ∃ z, f = z + 1 := ⟨f - 1, by omega⟩
          rcases hc_corner (f := f) hl hT hb (by omega) hs hk H with ⟨_, m', a1, a2, a3, a4⟩ | ⟨z, _⟩
          · exact ⟨f, m', by omega, a1, a4, a2, a3⟩
          · exact absurd hc z
        have MS' : ∀ m f, t + 1 + 1 < f → MI T l b n 0 kd ow m → ∃ f' m', t + 1 < f' ∧ f_M_polygon_b37 f (nI n) m = f_M_polygon_b37 f' (nI (n + 1)) m' ∧ MI T l (te T l (te T l (te T l b))) (n + 1) 0 (up kd n (srt (tk T l b))) (up ow n (tv T l (te T l b))) m' ∧ MFr m m' := by
          intro m f hf H
          obtain ⟨f, rfl⟩ : ∃ z, f = z + 1 := ⟨f - 1, by omega⟩
          rcases hm_corner hl hT hb (by omega) hs hk H with ⟨_, m', a1, a2, a3⟩ | ⟨z, _⟩
          · refine ⟨f, m', by omega, ?_, a2, a3⟩
            rw [hm_37 hT (by omega) H, if_neg nstop, a1, Option.bind_some]
          · exact absurd hc z
        rcases ih (n + 1) _ _ _ (by omega) q3 hok' with ⟨c', p', r1, r2, r3, r4⟩ | ⟨n', b', kd', ow', r1, r2, r3, r4, r5, r6⟩
        · left
          refine ⟨c', p', r1, r2, fun m f hf H => ?_, fun m f hf H => ?_⟩
          · obtain ⟨f', m1, s1, s2, s5, s3, s4⟩ := CS m f hf H
            obtain ⟨m', t1, t2, t3, t4⟩ := r3 m1 f' s1 s3
            exact ⟨m', by rw [s2, t1], t2, t3, CFr_t s4 t4⟩
          · obtain ⟨f', m1, s1, s2, s3, s4⟩ := MS' m f hf H
            obtain ⟨m', t1, t2, t3⟩ := r4 m1 f' s1 s3
            exact ⟨m', by rw [s2, t1], t2, MFr_t s4 t3⟩
        · right
          refine ⟨n', b', kd', ow', r1, r2, r3, r4, fun m f hf H => ?_, ?_⟩
          · obtain ⟨f', m1, s1, s2, s5, s3, s4⟩ := CS m f hf H
            obtain ⟨m', t1, t0, t2, t3⟩ := r5 m1 f' s1 s3
            exact ⟨m', by rw [s2, t1], by rw [t0, s5], t2, CFr_t s4 t3⟩
          · rcases r6 with ⟨w, r6⟩ | ⟨w, r6⟩
            · refine Or.inl ⟨w, fun m f hf H => ?_⟩
              obtain ⟨f', m1, s1, s2, s3, s4⟩ := MS' m f hf H
              obtain ⟨m', t1, t2, t3⟩ := r6 m1 f' s1 s3
              exact ⟨m', by rw [s2, t1], t2, MFr_t s4 t3⟩
            · refine Or.inr ⟨w, fun m f hf H => ?_⟩
              obtain ⟨f', m1, s1, s2, s3, s4⟩ := MS' m f hf H
              obtain ⟨m', t1, t2, t3⟩ := r6 m1 f' s1 s3
              exact ⟨m', by rw [s2, t1], t2, MFr_t s4 t3⟩
      · left
        refine ⟨c, p, by omega, cle, fun m f hf H => ?_, fun m f hf H => ?_⟩
        · obtain ⟨f, rfl⟩ : ∃ z, f = z + 1 := ⟨f - 1, by omega⟩
          rcases hc_corner (f := f) hl hT hb (by omega) hs hk H with ⟨z, _⟩ | ⟨_, m', a⟩
          · exact absurd z hc
          · exact ⟨m', a⟩
        · obtain ⟨f, rfl⟩ : ∃ z, f = z + 2 := ⟨f - 2, by omega⟩
          rcases hm_corner hl hT hb (by omega) hs hk H with ⟨z, _⟩ | ⟨_, m', a1, a2, a3⟩
          · exact absurd z hc
          · refine ⟨m', ?_, a2, a3⟩
            rw [hm_37 hT (by omega) H, if_neg nstop, a1, Option.bind_some, hm_37F (MF_ne a2 (by omega) cle)]
theorem exg (P : Prop) : ∃ g : Bool, g = true ↔ P := by
  rcases Classical.em P with q | q
  · exact ⟨true, ⟨fun _ => q, fun _ => rfl⟩⟩
  · exact ⟨false, ⟨fun z => (by cases z), fun z => absurd z q⟩⟩
theorem cts {T : Nat → Nat} {l n : Nat} {kd ow : Nat → Nat} (hl : l ≤ 120) (hT : ∀ k, k < l → T k < 256) (h : 4 ≤ n) (h9 : n ≤ 9) : ∀ t j b cu, j + t = 7 → b ≤ l → cu_V n cu → pc cu 30 = j →
    (∃ c p, 1 ≤ c ∧ c ≤ 3 ∧ (∀ m f, t < f → CI T l b n cu kd ow m → rl_Ring m.1 6 n → ∃ m', f_Tape_readCuts_b16 f (nI j) m = some (nI 0, m') ∧ m'.1 2 4 = nI c ∧ m'.1 2 5 = nI p ∧ CFr m m') ∧ (∀ m f, t < f → MI T l b n cu kd ow m → ∃ m', f_M_polygon_b92 f (nI j) m = f_M_polygon_b123 m' ∧ MF c p m' ∧ MFr m m')) ∨
    (∃ cu', cu_V n cu' ∧ (∀ m f, t < f → CI T l b n cu kd ow m → rl_Ring m.1 6 n → ∃ m' b', f_Tape_readCuts_b16 f (nI j) m = some (nI 1, m') ∧ m'.1 2 4 = m.1 2 4 ∧ CI T l b' n cu' kd ow m' ∧ CFr m m') ∧ (∀ m f, t < f → MI T l b n cu kd ow m → ∃ m' b', f_M_polygon_b92 f (nI j) m = f_M_polygon_b123 m' ∧ MI T l b' n cu' kd ow m' ∧ MFr m m')) := by
  intro t
  induction t with
  | zero =>
    intro j b cu hj hb hv hp
    have := pcm h h9 hv
    omega
  | succ t ih =>
    intro j b cu hj hb hv hp
    have hkk := mtk_lt (b := b) hT
    have M0 : ∀ m f, tk T l b ≠ 257 → MI T l b n cu kd ow m → f_M_polygon_b92 (f + 1) (nI j) m = (f_M_readCut m).bind fun q => f_M_polygon_b92 f (nI (j + 1)) q := by
      intro m f he H
      have q : mtk T l b ≠ 1 := by rcases tkm (b := b) hT with q | q | q | q | q | q <;> omega
      rw [f_M_polygon_b92, if_neg (show ¬ (6 : Int32) < nI j from nI_nlt (a := 6) (by omega) (by decide)), H.2.2.1, if_pos e00, H.2.1.2.2.1, if_neg (show ¬ nI (mtk T l b) = (1 : Int32) from fun v => q ((nI_eq (b := 1) (by omega) (by omega)).mp v)), nI_1]
    by_cases he : tk T l b = 257
    · right
      refine ⟨cu, hv, fun m f hf H hR => ⟨m, b, ?_, rfl, H, fun _ _ _ _ => rfl⟩, fun m f hf H => ⟨m, b, ?_, H, fun _ _ _ _ => rfl⟩⟩
      · obtain ⟨f, rfl⟩ : ∃ z, f = z + 1 := ⟨f - 1, by omega⟩
        rw [f_Tape_readCuts_b16, if_neg (show ¬ (120 : Int32) < nI j from nI_nlt (a := 120) (by omega) (by decide)), H.2.1.2.2.1, he, if_pos (show nI 257 = (257 : Int32) from rfl)]; rfl
      · obtain ⟨f, rfl⟩ : ∃ z, f = z + 1 := ⟨f - 1, by omega⟩
        have q : mtk T l b = 1 := by rcases tkm (b := b) hT with q | q | q | q | q | q <;> omega
        rw [f_M_polygon_b92, if_neg (show ¬ (6 : Int32) < nI j from nI_nlt (a := 6) (by omega) (by decide)), H.2.2.1, if_pos e00, H.2.1.2.2.1, q, if_pos (show nI 1 = (1 : Int32) from rfl)]
    · obtain ⟨b1, e1⟩ : ∃ b1, b1 = te T l b := ⟨_, rfl⟩
      obtain ⟨b2, e2⟩ : ∃ b2, b2 = te T l b1 := ⟨_, rfl⟩
      obtain ⟨b3, e3⟩ : ∃ b3, b3 = te T l b2 := ⟨_, rfl⟩
      obtain ⟨b4, e4⟩ : ∃ b4, b4 = te T l b3 := ⟨_, rfl⟩
      have q1 : b1 ≤ l := by rw [e1]; exact (te_b T hb).2
      have q2 : b2 ≤ l := by rw [e2]; exact (te_b T q1).2
      have q3 : b3 ≤ l := by rw [e3]; exact (te_b T q2).2
      have q4 : b4 ≤ l := by rw [e4]; exact (te_b T q3).2
      have q5 := (te_b T q4).2
      obtain ⟨g, hg⟩ := exg (may n (tv T l b1) (tv T l b3) = true ∧ fr n cu (nb n (tv T l b1) (tv T l b3)))
      have cle := ko_le T l n g b b1 b2 b3 b4
      obtain ⟨c, p, hk⟩ : ∃ c p, ko T l n g b b1 b2 b3 b4 = (c, p) := ⟨_, _, rfl⟩
      rw [hk] at cle
      have cle : c ≤ 3 := cle
      by_cases hc : c = 0
      · have gt : g = true := by
          rcases Classical.em (g = true) with q | q
          · exact q
          · exfalso
            unfold ko at hk
            rw [if_neg q] at hk
            subst hc
            repeat' split at hk
            all_goals exact absurd (Prod.mk.inj hk).1 (by omega)
        obtain ⟨gm, gf⟩ := hg.mp gt
        have hi := (cu_nb h h9 gm).1
        have h27 := cu_N27 h h9
        have hv' := cu_V_add hi hv gf
        have hp' : pc (cu ||| 2 ^ nb n (tv T l b1) (tv T l b3)) 30 = j + 1 := by
          rw [pc_or _ _ gf.1, if_pos (by omega), hp]
        have CS : ∀ m f, t + 1 < f → CI T l b n cu kd ow m → rl_Ring m.1 6 n → ∃ f' m', t < f' ∧ f_Tape_readCuts_b16 f (nI j) m = f_Tape_readCuts_b16 f' (nI (j + 1)) m' ∧ m'.1 2 4 = m.1 2 4 ∧ CI T l (te T l b4) n (cu ||| 2 ^ nb n (tv T l b1) (tv T l b3)) kd ow m' ∧ rl_Ring m'.1 6 n ∧ CFr m m' := by
          intro m f hf H hR
          obtain ⟨f, rfl⟩ : ∃ z, f = z + 1 := ⟨f - 1, by omega⟩
          rcases hc_cut1 (f := f) (j := j) hl hT hb h h9 (by omega) hv hR he e1 e2 e3 e4 hg hk H with ⟨_, m', a1, a2, a3, a4, a5⟩ | ⟨z, _⟩
          · exact ⟨f, m', by omega, a1, a5, a2, a3, a4⟩
          · exact absurd hc z
        have MS' : ∀ m f, t + 1 < f → MI T l b n cu kd ow m → ∃ f' m', t < f' ∧ f_M_polygon_b92 f (nI j) m = f_M_polygon_b92 f' (nI (j + 1)) m' ∧ MI T l (te T l b4) n (cu ||| 2 ^ nb n (tv T l b1) (tv T l b3)) kd ow m' ∧ MFr m m' := by
          intro m f hf H
          obtain ⟨f, rfl⟩ : ∃ z, f = z + 1 := ⟨f - 1, by omega⟩
          rcases hm_cut1 hl hT hb h h9 hv e1 e2 e3 e4 hg hk H with ⟨_, m', a1, a2, a3⟩ | ⟨z, _⟩
          · refine ⟨f, m', by omega, ?_, a2, a3⟩
            rw [M0 m f he H, a1, Option.bind_some]
          · exact absurd hc z
        rcases ih (j + 1) _ _ (by omega) q5 hv' hp' with ⟨c', p', r1, r2, r3, r4⟩ | ⟨cu', r1, r5, r6⟩
        · left
          refine ⟨c', p', r1, r2, fun m f hf H hR => ?_, fun m f hf H => ?_⟩
          · obtain ⟨f', m1, s1, s2, s5, s3, s6, s4⟩ := CS m f hf H hR
            obtain ⟨m', t1, t2, t3, t4⟩ := r3 m1 f' s1 s3 s6
            exact ⟨m', by rw [s2, t1], t2, t3, CFr_t s4 t4⟩
          · obtain ⟨f', m1, s1, s2, s3, s4⟩ := MS' m f hf H
            obtain ⟨m', t1, t2, t3⟩ := r4 m1 f' s1 s3
            exact ⟨m', by rw [s2, t1], t2, MFr_t s4 t3⟩
        · right
          refine ⟨cu', r1, fun m f hf H hR => ?_, fun m f hf H => ?_⟩
          · obtain ⟨f', m1, s1, s2, s5, s3, s6, s4⟩ := CS m f hf H hR
            obtain ⟨m', b', t1, t0, t2, t3⟩ := r5 m1 f' s1 s3 s6
            exact ⟨m', b', by rw [s2, t1], by rw [t0, s5], t2, CFr_t s4 t3⟩
          · obtain ⟨f', m1, s1, s2, s3, s4⟩ := MS' m f hf H
            obtain ⟨m', b', t1, t2, t3⟩ := r6 m1 f' s1 s3
            exact ⟨m', b', by rw [s2, t1], t2, MFr_t s4 t3⟩
      · left
        refine ⟨c, p, by omega, cle, fun m f hf H hR => ?_, fun m f hf H => ?_⟩
        · obtain ⟨f, rfl⟩ : ∃ z, f = z + 1 := ⟨f - 1, by omega⟩
          rcases hc_cut1 (f := f) (j := j) hl hT hb h h9 (by omega) hv hR he e1 e2 e3 e4 hg hk H with ⟨z, _⟩ | ⟨_, m', a⟩
          · exact absurd z hc
          · exact ⟨m', a⟩
        · obtain ⟨f, rfl⟩ : ∃ z, f = z + 2 := ⟨f - 2, by omega⟩
          rcases hm_cut1 hl hT hb h h9 hv e1 e2 e3 e4 hg hk H with ⟨z, _⟩ | ⟨_, m', a1, a2, a3⟩
          · exact absurd z hc
          · refine ⟨m', ?_, a2, a3⟩
            rw [M0 m (f + 1) he H, a1, Option.bind_some, hm_92F (MF_ne a2 (by omega) cle)]
