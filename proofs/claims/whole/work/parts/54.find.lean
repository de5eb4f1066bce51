/-! CALLS THAT ONLY ASK: find, alike, unlike -/
theorem Sm_q2 {f8 f9 : Mem → Option (Int32 × Mem)} {I I1 : Mem} {L : Nat} {x : Nat → Nat} {τ : Td} {d : Nat} {us : Nat → Td} (hC : IC I L x τ d us) (hM : IM I L x τ d us) {v : Int32} (h8 : f8 I = some (v, I1)) (hr : ∀ r, r < 71 ∨ 76 ≤ r → I1 r = I r) (h9 : ∃ J, f9 I1 = some (v, J) ∧ MF I1 J) : Sm f8 f9 I := by
  obtain ⟨J, a, b⟩ := h9
  refine ⟨v, I1, J, h8, a, L, x, τ, d, us, hC.same (fun r h => ?_), ?_⟩
  · rw [b.1 r (by omega), hr r (by omega)]
  · refine IM.mf (I := I1) ?_ b
    exact hM.same (by rw [hr 89 (by decide)]) (by rw [hr 89 (by decide)]) (hr 90 (by decide)) (hr 91 (by decide)) (hr 92 (by decide))
theorem s_find9 {n q s a b : Nat} (hn : n < 5) (hn1 : 1 ≤ n) (hq1 : 1 ≤ q) (hq : q ≤ 2 * 2 ^ n) (hs : s ≤ 1) (ha : a ≤ 15) (hb : b ≤ 15) : ∀ (d c f : Nat) (I : Mem), c + d = 4 ^ n → d < f → ∃ J, l_X9_find_66 (fun (z16 : Int32) I17 => some (z16, I17)) (fun I18 => some ((-4 : Int32), I18)) f (nI n) (nI q) (nI s) (nI a) (nI b) (nI c) I = some (fvP (fnd n q s a b) d c, J) ∧ MF I J := by
  have h256 := pow44 hn
  have h16 := pow4 hn
  intro d
  induction d with
  | zero =>
    intro c f I hc hf
    obtain ⟨g, rfl⟩ : ∃ g, f = g + 1 := ⟨f - 1, by omega⟩
    rw [u_X9_find_66]
    unfold b_X9_find_66
    rw [cod4 n hn, if_pos (nI_le (by omega) (by omega))]
    exact ⟨I, rfl, MF.refl I⟩
  | succ d ih =>
    intro c f I hc hf
    obtain ⟨g, rfl⟩ : ∃ g, f = g + 1 := ⟨f - 1, by omega⟩
    rw [u_X9_find_66]
    unfold b_X9_find_66
    rw [cod4 n hn, if_neg (nI_ge (by omega) (by omega)), nI_1]
    by_cases hB : vB c
    · obtain ⟨J1, J, j1, j2, j3, j4⟩ := s_try9 hn hn1 (show c < 4 ^ n by omega) hB I
      have hv : vld n c := ⟨hn1, by omega, by omega, hB⟩
      have hA := acU_le n c n
      have hpA := pow4 (show acU n c n < 5 by omega)
      obtain ⟨e7, e8, -⟩ := j3.2 (q - 1) (by omega)
      obtain ⟨x, x1, x2, x3, x4, -⟩ := G1 (p := q - 1) hv (by omega)
      rw [show q - 1 + 1 = q by omega] at x4
      obtain ⟨bb1, bb2, bb3, bb4, -, -⟩ := behT q (by omega) hq1
      have hgo : ∃ J', l_X9_find_66 (fun (z16 : Int32) I17 => some (z16, I17)) (fun I18 => some ((-4 : Int32), I18)) g (nI n) (nI q) (nI s) (nI a) (nI b) (nI (c + 1)) J = some (fvP (fnd n q s a b) d (c + 1), J') ∧ MF I J' := by
        obtain ⟨J', b1, b2⟩ := ih (c + 1) g J (by omega) (by omega)
        exact ⟨J', b1, j4.1.trans b2⟩
      have hab : b * 2 ^ acU n c n + a < 1000 := by
        have : b * 2 ^ acU n c n ≤ 15 * 16 := Nat.mul_le_mul hb hpA
        omega
      have hfn : fnd n q s a b c ↔ (a < 2 ^ acU n c n ∧ ceI n c (q - 1) = nI (b * 2 ^ acU n c n + a) ∧ siI n c (q - 1) = nI s) := by
        constructor
        · rintro ⟨-, f1, f2, q0, f3, f4, f5, f6⟩
          have hX := cell_lt hA f1 f2
          obtain ⟨cc1, cc2, cc3, cc4, -, -⟩ := behT q0 (by omega) f4
          have hfq : frI n c (b * 2 ^ acU n c n + a) = nI (if s = 0 then q else beh q) := by
            by_cases h0 : s = 0
            · rw [if_pos h0] at f6 ⊢
              rw [f3, f6]
            · rw [if_neg h0] at f6 ⊢
              rw [f3, ← f6, cc2]
          have hxe : b * 2 ^ acU n c n + a = x := by
            refine cell_unique hv hq1 hq hX x2 x1 ?_
            by_cases h0 : s = 0
            · rw [if_pos h0] at hfq; exact Or.inl hfq
            · rw [if_neg h0] at hfq; exact Or.inr hfq
          refine ⟨f1, by rw [hxe]; exact x2, ?_⟩
          rw [hxe] at hfq
          rcases x4 with e | e
          · by_cases h0 : s = 0
            · rw [e.1, h0]; rfl
            · rw [if_neg h0] at hfq
              have := (nI_eq (by omega) (by omega)).mp (hfq.symm.trans e.2)
              exact absurd this (beh_ne q hq1)
          · by_cases h0 : s = 0
            · rw [if_pos h0] at hfq
              have := (nI_eq (by omega) (by omega)).mp (hfq.symm.trans e.2)
              exact absurd this.symm (beh_ne q hq1)
            · rw [e.1, show s = 1 by omega]; rfl
        · rintro ⟨f1, f2, f3⟩
          have hxe : b * 2 ^ acU n c n + a = x := (nI_eq (by omega) (by omega)).mp (f2.symm.trans x2)
          have hb2 : b < 2 ^ (n - acU n c n) := by
            apply Nat.lt_of_not_le
            intro hle
            have h1 : 2 ^ (n - acU n c n) * 2 ^ acU n c n ≤ b * 2 ^ acU n c n := Nat.mul_le_mul_right _ hle
            rw [← Nat.pow_add, show n - acU n c n + acU n c n = n by omega] at h1
            omega
          refine ⟨hB, f1, hb2, ?_⟩
          rw [hxe]
          rcases x4 with e | e
          · have h0 : s = 0 := (nI_eq (b := 0) (by omega) (by omega)).mp (f3.symm.trans e.1)
            exact ⟨q, e.2, hq1, hq, if_pos h0⟩
          · have h0 : s = 1 := (nI_eq (b := 1) (by omega) (by omega)).mp (f3.symm.trans e.1)
            refine ⟨beh q, e.2, bb1, beh_le hn hq1 hq, ?_⟩
            rw [if_neg (by omega)]
            exact bb2
      rw [j1, bI_some, if10, j2, bV_some, j3.1, show nI q - 1 = nI (q - 1) from nI_sub (b := 1) hq1 (by omega), ck_t (inb_n (show q - 1 < 32 by omega) (by decide)), ck_t (inb_n (show q - 1 < 32 by omega) (by decide)), nI_tn (by omega), e7, e8, nI_mul, nI_add, if00, if10]
      by_cases h1 : a < 2 ^ acU n c n
      · rw [if_neg (nI_ge h1 (by omega))]
        by_cases h2 : ceI n c (q - 1) = nI (b * 2 ^ acU n c n + a)
        · rw [if_pos h2]
          by_cases h3 : siI n c (q - 1) = nI s
          · rw [if_pos h3, fvP_y (hfn.mpr ⟨h1, h2, h3⟩)]
            exact ⟨J, rfl, j4.1⟩
          · rw [if_neg h3, fvP_n (fun h => h3 (hfn.mp h).2.2)]
            exact hgo
        · rw [if_neg h2, fvP_n (fun h => h2 (hfn.mp h).2.1)]
          exact hgo
      · rw [if_pos (nI_le (by omega) (by omega)), fvP_n (fun h => h1 (hfn.mp h).1)]
        exact hgo
    · obtain ⟨J1, j1, j4⟩ := s_try9_no hn hn1 (show c < 4 ^ n by omega) hB I
      rw [j1, bI_some, if00, fvP_n (fun h => hB h.1)]
      obtain ⟨J', b1, b2⟩ := ih (c + 1) g J1 (by omega) (by omega)
      exact ⟨J', b1, j4.1.trans b2⟩
/-- find(folds, page, side, column, row) -/
theorem q_find {I : Mem} {L : Nat} {x : Nat → Nat} {τ : Td} {d : Nat} {us : Nat → Td} (hC : IC I L x τ d us) (hM : IM I L x τ d us) (y w s a b : Int32) : Sm (f_X8_find y w s a b) (f_X9_find y w s a b) I := by
  unfold f_X8_find f_X9_find f_X8_isFoldCount
  by_cases h1 : y.toInt < 1
  · refine Sm_q hC hM (v := -1) ?_ ⟨I, ?_, MF.refl I⟩
    · rw [if_pos (show y < 1 from lt_T.mpr h1), bI_some, if00]
    · rw [in_no (b := 1) (c := 4) rfl rfl (by omega), bI_some, if00]
  rcases arg_cases y 5 with ⟨n, hn, -, rfl⟩ | hy
  rotate_left 1
  · refine Sm_q hC hM (v := -1) ?_ ⟨I, ?_, MF.refl I⟩
    · rw [if_neg (show ¬ y < 1 from fun q => h1 (lt_T.mp q)), if_pos (show (4 : Int32) < y from lt_T.mpr (by have : (4 : Int32).toInt = 4 := rfl; omega)), bI_some, if00]
    · rw [in_no (b := 1) (c := 4) rfl rfl (by omega), bI_some, if00]
  rw [nI_toInt (by omega)] at h1
  have hp32 := pow32 hn
  have h64 := to64 (n := 2 * 2 ^ n) (by omega)
  have e8 : ∀ (K : Int32 → Mem → Option (Int32 × Mem)), bI (if nI n < 1 then some ((0 : Int32), I) else if (4 : Int32) < nI n then some ((0 : Int32), I) else some ((1 : Int32), I)) K = K 1 I := by
    intro K
    rw [if_neg (show ¬ nI n < 1 from nI_nlt (b := 1) (by omega) (by omega)), if_neg (show ¬ (4 : Int32) < nI n from nI_nlt (a := 4) (by omega) (by decide)), bI_some]
  have e9 : f_X9_in (nI n).toInt64 (1 : Int64) (4 : Int64) I = some (1, I) := in_k (b := 1) (c := 4) (by omega) rfl rfl (by omega) (by omega) I
  by_cases h2 : w.toInt < 1
  · refine Sm_q hC hM (v := -1) ?_ ⟨I, ?_, MF.refl I⟩
    · rw [e8, if10, if_pos (show w < 1 from lt_T.mpr h2)]
    · rw [e9, bI_some, if10, twoT n hn, in_no (b := 1) (c := (2 * 2 ^ n : Nat)) rfl h64 (by omega), bI_some, if00]
  rcases arg_cases w (2 * 2 ^ n + 1) with ⟨q, hq, -, rfl⟩ | hw
  rotate_left 1
  · refine Sm_q hC hM (v := -1) ?_ ⟨I, ?_, MF.refl I⟩
    · rw [e8, if10, if_neg (show ¬ w < 1 from fun q => h2 (lt_T.mp q)), twoT n hn, if_pos (show nI (2 * 2 ^ n) < w from lt_T.mpr (by rw [nI_toInt (by omega)]; omega))]
    · rw [e9, bI_some, if10, twoT n hn, in_no (b := 1) (c := (2 * 2 ^ n : Nat)) rfl h64 (by omega), bI_some, if00]
  rw [nI_toInt (by omega)] at h2
  have f8 : ∀ {α : Type} (z z' : α), (if nI q < (1 : Int32) then z else z') = z' := fun z z' => if_neg (nI_nlt (b := 1) (by omega) (by omega))
  have g8 : ∀ {α : Type} (z z' : α), (if nI (2 * 2 ^ n) < nI q then z else z') = z' := fun z z' => if_neg (nI_nlt (by omega) (by omega))
  have f9 : f_X9_in (nI q).toInt64 (1 : Int64) (nI (2 * 2 ^ n)).toInt64 I = some (1, I) := in_k (b := 1) (c := 2 * 2 ^ n) (by omega) rfl h64 (by omega) (by omega) I
  rcases arg_cases s 2 with ⟨s, hs, -, rfl⟩ | hs
  rotate_left 1
  · refine Sm_q hC hM (v := -1) ?_ ⟨I, ?_, MF.refl I⟩
    · rw [e8, if10, f8, twoT n hn, g8, s_side8_no hs, bI_some, if00]
    · rw [e9, bI_some, if10, twoT n hn, f9, bI_some, if10, in_no (b := 0) (c := 1) rfl rfl (by omega), bI_some, if00]
  rcases arg_cases a 16 with ⟨a, ha, -, rfl⟩ | ha
  rotate_left 1
  · refine Sm_q hC hM (v := -1) ?_ ⟨I, ?_, MF.refl I⟩
    · rw [e8, if10, f8, twoT n hn, g8, s_side8 (by omega), bI_some, if10]
      rcases neg_or ha (by decide) with h | ⟨h3, h4⟩
      · rw [if_pos h]
      · rw [if_neg h3, if_pos (show (15 : Int32) < a from lt_T.mpr (by have := le_T.mp h4; have e1 : (nI 16).toInt = 16 := rfl; have e2 : (15 : Int32).toInt = 15 := rfl; omega))]
    · rw [e9, bI_some, if10, twoT n hn, f9, bI_some, if10, in_k (b := 0) (c := 1) (by omega) rfl rfl (by omega) (by omega), bI_some, if10, in_no (b := 0) (c := 15) rfl rfl (by omega), bI_some, if00]
  have k8 : ∀ {α : Type} (z z' : α), (if nI a < (0 : Int32) then z else z') = z' := fun z z' => if_neg (nI_pos (by omega))
  have l8 : ∀ {α : Type} (z z' : α), (if (15 : Int32) < nI a then z else z') = z' := fun z z' => if_neg (nI_nlt (a := 15) (by omega) (by decide))
  rcases arg_cases b 16 with ⟨b, hb, -, rfl⟩ | hb
  rotate_left 1
  · refine Sm_q hC hM (v := -1) ?_ ⟨I, ?_, MF.refl I⟩
    · rw [e8, if10, f8, twoT n hn, g8, s_side8 (by omega), bI_some, if10, k8, l8]
      rcases neg_or hb (by decide) with h | ⟨h3, h4⟩
      · rw [if_pos h]
      · rw [if_neg h3, if_neg (show ¬ b ≤ (15 : Int32) from fun q => by have := le_T.mp h4; have := le_T.mp q; have e1 : (nI 16).toInt = 16 := rfl; have e2 : (15 : Int32).toInt = 15 := rfl; omega)]
    · rw [e9, bI_some, if10, twoT n hn, f9, bI_some, if10, in_k (b := 0) (c := 1) (by omega) rfl rfl (by omega) (by omega), bI_some, if10, in_k (b := 0) (c := 15) (by omega) rfl rfl (by omega) (by omega), bI_some, if10, in_no (b := 0) (c := 15) rfl rfl (by omega), bI_some, if00]
  have h256 := pow44 hn
  obtain ⟨I1, i1, i2⟩ := s_firstWith hn (by omega) (show q < 40 by omega) (show s ≤ 1 by omega) (show a ≤ 15 by omega) (show b ≤ 15 by omega) (4 ^ n) 0 fuel I (by omega) (by rw [fuel_v]; omega)
  obtain ⟨J, j1, j2⟩ := s_find9 hn (by omega) (show 1 ≤ q by omega) (by omega) (show s ≤ 1 by omega) (show a ≤ 15 by omega) (show b ≤ 15 by omega) (4 ^ n) 0 fuel I1 (by omega) (by rw [fuel_v]; omega)
  refine Sm_q2 hC hM (v := fvP (fnd n q s a b) (4 ^ n) 0) (I1 := I1) ?_ (fun r hr => i2 r (by omega)) ⟨J, ?_, j2⟩
  · unfold f_X2_firstWith
    rw [e8, if10, f8, twoT n hn, g8, s_side8 (by omega), bI_some, if10, k8, l8, if_neg (nI_pos (by omega)), if_pos (show nI b ≤ (15 : Int32) from nI_le (b := 15) (by omega) (by decide)), show (0 : Int32) = nI 0 from rfl, i1, bI_some]
  · have e9' : ∀ M, f_X9_in (nI n).toInt64 (1 : Int64) (4 : Int64) M = some (1, M) := fun M => in_k (b := 1) (c := 4) (by omega) rfl rfl (by omega) (by omega) M
    rw [e9', bI_some, if10, twoT n hn, in_k (b := 1) (c := 2 * 2 ^ n) (by omega) rfl h64 (by omega) (by omega), bI_some, if10, in_k (b := 0) (c := 1) (by omega) rfl rfl (by omega) (by omega), bI_some, if10, in_k (b := 0) (c := 15) (by omega) rfl rfl (by omega) (by omega), bI_some, if10, in_k (b := 0) (c := 15) (by omega) rfl rfl (by omega) (by omega), bI_some, if10]
    exact j1
theorem s_alike9 {n c0 : Nat} (hv0 : vld n c0) : ∀ (d c k f : Nat) (I : Mem), c + d = 4 ^ n → d < f → KN I n c0 → ∃ J, l_X9_alike_30 (fun (z10 : Int32) I11 => some (z10, I11)) f (nI n) (nI k) (nI c) I = some (nI (ctP (fun c => vB c ∧ SameP n c c0) d c k), J) ∧ MF I J := by
  obtain ⟨hn, hn1, -⟩ := vld_n hv0
  have h256 := pow44 hn
  intro d
  induction d with
  | zero =>
    intro c k f I hc hf hK
    obtain ⟨g, rfl⟩ : ∃ g, f = g + 1 := ⟨f - 1, by omega⟩
    rw [u_X9_alike_30]
    unfold b_X9_alike_30
    rw [cod4 n hn, if_pos (nI_le (by omega) (by omega))]
    exact ⟨I, rfl, MF.refl I⟩
  | succ d ih =>
    intro c k f I hc hf hK
    obtain ⟨g, rfl⟩ : ∃ g, f = g + 1 := ⟨f - 1, by omega⟩
    rw [u_X9_alike_30]
    unfold b_X9_alike_30
    rw [cod4 n hn, if_neg (nI_ge (by omega) (by omega)), nI_1, nI_1, Int32.add_zero]
    by_cases hB : vB c
    · obtain ⟨J1, J, j1, j2, j3, j4⟩ := s_try9 hn hn1 (show c < 4 ^ n by omega) hB I
      have hv : vld n c := ⟨hn1, by omega, by omega, hB⟩
      have hKJ := hK.same j4.2
      have hk := s_isKnown hv hv0 j3 hKJ
      rw [j1, bI_some, if10, j2, bV_some]
      by_cases hs : SameP n c0 c
      · rw [hk.1 hs, bI_some, if10, ctP_y ⟨hB, hs.symm⟩]
        obtain ⟨J', b1, b2⟩ := ih (c + 1) (k + 1) g J (by omega) (by omega) hKJ
        exact ⟨J', b1, j4.1.trans b2⟩
      · rw [hk.2 hs, bI_some, if00, ctP_n (fun h => hs h.2.symm)]
        obtain ⟨J', b1, b2⟩ := ih (c + 1) k g J (by omega) (by omega) hKJ
        exact ⟨J', b1, j4.1.trans b2⟩
    · obtain ⟨J1, j1, j4⟩ := s_try9_no hn hn1 (show c < 4 ^ n by omega) hB I
      rw [j1, bI_some, if00, ctP_n (fun h => hB h.1)]
      obtain ⟨J', b1, b2⟩ := ih (c + 1) k g J1 (by omega) (by omega) (hK.same j4.2)
      exact ⟨J', b1, j4.1.trans b2⟩
/-- alike(k) -/
theorem q_alike {I : Mem} {L : Nat} {x : Nat → Nat} {τ : Td} {d : Nat} {us : Nat → Td} (hC : IC I L x τ d us) (hM : IM I L x τ d us) (y : Int32) : Sm (f_X8_alike y) (f_X9_alike y) I := by
  have hW := hC.wf
  have hS := hW.2.2.2.1.2
  rcases arg_cases y (τ 3) with ⟨k, hk, -, rfl⟩ | hy
  · have hv := (hW.2.2.2.2.1 k hk).2
    obtain ⟨hn, hn1, hc⟩ := vld_n hv
    have h256 := pow44 hn
    obtain ⟨t1, t2, t3⟩ := hC.told.2.2.1 k hk
    obtain ⟨I1, i1, i2⟩ := s_alikeTo hv (show 54 + 4 * k + 3 ≤ 71 by omega) (4 ^ τ (8 + k)) 0 0 fuel I (by omega) (by rw [fuel_v]; omega) (hC.sheet hk)
    have hT1 : TM (I1 91) τ := by rw [i2 91 (by decide)]; exact hM.told
    obtain ⟨J, j1, j2, j3, j4, j5⟩ := s_lays hW hT1 hk
    obtain ⟨J2, k1, k2, k3⟩ := s_knows hn j2
    obtain ⟨J3, l1, l2⟩ := s_alike9 hv (4 ^ τ (8 + k)) 0 0 fuel J2 (by omega) (by rw [fuel_v]; omega) k2
    refine Sm_q2 hC hM (I1 := I1) (v := nI (ctP (fun c => vB c ∧ SameP (τ (8 + k)) c (τ (12 + k))) (4 ^ τ (8 + k)) 0 0)) ?_ (fun r hr => i2 r (by omega)) ⟨J3, ?_, (MF.lays j4 j5).trans (k3.trans l2)⟩
    · unfold f_X8_alike f_X2_alikeTo_70_v5
      rw [s_sch8 hW hC.told hk, bI_some, if10, ck_t (inb_n (show k < 4 by omega) (by decide)), ck_t (inb_n (show k < 4 by omega) (by decide)), nI_tn (by omega), t1]
      refine (congrArg (fun z => bI z _) i1).trans ?_
      rfl
    · unfold f_X9_alike
      rw [s_sch9 hW hT1 hk, bI_some, if10, j1, bV_some, j3, k1, bV_some]
      exact l1
  · refine Sm_q hC hM (v := -1) ?_ ⟨I, ?_, MF.refl I⟩
    · unfold f_X8_alike
      rw [s_sch8_no hW hC.told hy, bI_some, if00]
    · unfold f_X9_alike
      rw [s_sch9_no hW hM.told hy, bI_some, if00]
theorem s_unl51 {n c : Nat} (hv : vld n c) (K : Int32 → Int32 → Int32 → Int32 → Mem → Option (Int32 × Mem)) (m : Int32) : ∀ (d c' f : Nat) (I : Mem), c' + d = c → d + 1 < f → KN I n c → ∃ J, ((∀ c'', c' ≤ c'' → c'' < c → vB c'' → ¬ SameP n c'' c) → l_X9_unlike_51 K f (nI n) m (nI c) 1 (nI c') I = K (nI n) m (nI c) 1 J) ∧ (¬ (∀ c'', c' ≤ c'' → c'' < c → vB c'' → ¬ SameP n c'' c) → l_X9_unlike_51 K f (nI n) m (nI c) 1 (nI c') I = K (nI n) m (nI c) 0 J) ∧ MF I J := by
  obtain ⟨hn, hn1, -⟩ := vld_n hv
  have h256 := pow44 hn
  have hc4 := hv.2.2.1
  intro d
  induction d with
  | zero =>
    intro c' f I hc hf hK
    obtain ⟨g, rfl⟩ : ∃ g, f = g + 1 := ⟨f - 1, by omega⟩
    rw [u_X9_unlike_51]
    unfold b_X9_unlike_51
    rw [if_pos (nI_le (by omega) (by omega))]
    exact ⟨I, fun _ => rfl, fun q => absurd (fun c'' a b => by omega) q, MF.refl I⟩
  | succ d ih =>
    intro c' f I hc hf hK
    obtain ⟨g, rfl⟩ : ∃ g, f = g + 1 := ⟨f - 1, by omega⟩
    rw [u_X9_unlike_51]
    unfold b_X9_unlike_51
    rw [if_neg (nI_ge (by omega) (by omega)), if10, nI_1]
    by_cases hB : vB c'
    · obtain ⟨J1, J, j1, j2, j3, j4⟩ := s_try9 hn hn1 (show c' < 4 ^ n by omega) hB I
      have hv' : vld n c' := ⟨hn1, by omega, by omega, hB⟩
      have hKJ := hK.same j4.2
      have hk := s_isKnown hv' hv j3 hKJ
      rw [j1, bI_some, if10, j2, bV_some]
      by_cases hs : SameP n c c'
      · rw [hk.1 hs, bI_some, if10]
        refine ⟨J, fun q => absurd hs.symm (q c' (Nat.le_refl _) (by omega) hB), fun _ => ?_, j4.1⟩
        obtain ⟨g', rfl⟩ : ∃ g', g = g' + 1 := ⟨g - 1, by omega⟩
        rw [u_X9_unlike_51]
        unfold b_X9_unlike_51
        rw [if00]
        by_cases hle : nI c ≤ nI (c' + 1)
        · rw [if_pos hle]
        · rw [if_neg hle]
      · rw [hk.2 hs, bI_some, if00]
        obtain ⟨J', b1, b2, b3⟩ := ih (c' + 1) g J (by omega) (by omega) hKJ
        refine ⟨J', fun q => b1 (fun c'' a b => q c'' (by omega) b), fun q => b2 (fun q' => q (fun c'' a b e => ?_)), j4.1.trans b3⟩
        by_cases he : c'' = c'
        · rw [he]; exact fun h => hs h.symm
        · exact q' c'' (by omega) b e
    · obtain ⟨J1, j1, j4⟩ := s_try9_no hn hn1 (show c' < 4 ^ n by omega) hB I
      rw [j1, bI_some, if00]
      obtain ⟨J', b1, b2, b3⟩ := ih (c' + 1) g J1 (by omega) (by omega) (hK.same j4.2)
      refine ⟨J', fun q => b1 (fun c'' a b => q c'' (by omega) b), fun q => b2 (fun q' => q (fun c'' a b e => ?_)), j4.1.trans b3⟩
      by_cases he : c'' = c'
      · exact absurd (he ▸ e) hB
      · exact q' c'' (by omega) b e
theorem s_unl18 {n : Nat} (hn : n < 5) (hn1 : 1 ≤ n) : ∀ (d c k f : Nat) (I : Mem), c + d = 4 ^ n → d < f → ∃ J, l_X9_unlike_18 (fun (z17 : Int32) I18 => some (z17, I18)) f (nI n) (nI k) (nI c) I = some (nI (ctP (frst n) d c k), J) ∧ MF I J := by
  have h256 := pow44 hn
  intro d
  induction d with
  | zero =>
    intro c k f I hc hf
    obtain ⟨g, rfl⟩ : ∃ g, f = g + 1 := ⟨f - 1, by omega⟩
    rw [u_X9_unlike_18]
    unfold b_X9_unlike_18
    rw [cod4 n hn, if_pos (nI_le (by omega) (by omega))]
    exact ⟨I, rfl, MF.refl I⟩
  | succ d ih =>
    intro c k f I hc hf
    obtain ⟨g, rfl⟩ : ∃ g, f = g + 1 := ⟨f - 1, by omega⟩
    rw [u_X9_unlike_18]
    unfold b_X9_unlike_18
    rw [cod4 n hn, if_neg (nI_ge (by omega) (by omega)), nI_1]
    by_cases hB : vB c
    · obtain ⟨J1, J, j1, j2, j3, j4⟩ := s_try9 hn hn1 (show c < 4 ^ n by omega) hB I
      have hv : vld n c := ⟨hn1, by omega, by omega, hB⟩
      obtain ⟨J2, k1, k2, k3⟩ := s_knows hn j3
      rw [j1, bI_some, if10, j2, bV_some, k1, bV_some]
      obtain ⟨J3, l1, l2, l3⟩ := s_unl51 hv (fun (z12 : Int32) (z13 : Int32) (z14 : Int32) (z15 : Int32) I16 => j_X9_unlike_97 (l_X9_unlike_18 (fun (z17 : Int32) I18 => some (z17, I18)) g) z12 z13 z14 z15 I16) (nI k) c 0 fuel J2 (by omega) (by rw [fuel_v]; omega) k2
      have hMF := j4.1.trans (k3.trans l3)
      by_cases hf1 : ∀ c'', 0 ≤ c'' → c'' < c → vB c'' → ¬ SameP n c'' c
      · have l1' := l1 hf1
        rw [show nI 0 = (0 : Int32) from rfl] at l1'
        rw [l1']
        unfold j_X9_unlike_97
        rw [if10, nI_1, nI_1, ctP_y (P := frst n) ⟨hB, fun c' a b => hf1 c' (Nat.zero_le _) a b⟩]
        obtain ⟨J', b1, b2⟩ := ih (c + 1) (k + 1) g J3 (by omega) (by omega)
        exact ⟨J', b1, hMF.trans b2⟩
      · have l2' := l2 hf1
        rw [show nI 0 = (0 : Int32) from rfl] at l2'
        rw [l2']
        unfold j_X9_unlike_97
        rw [if00, Int32.add_zero, nI_1, ctP_n (fun h => hf1 (fun c'' _ a b => h.2 c'' a b))]
        obtain ⟨J', b1, b2⟩ := ih (c + 1) k g J3 (by omega) (by omega)
        exact ⟨J', b1, hMF.trans b2⟩
    · obtain ⟨J1, j1, j4⟩ := s_try9_no hn hn1 (show c < 4 ^ n by omega) hB I
      rw [j1, bI_some, if00, ctP_n (fun h => hB h.1)]
      obtain ⟨J', b1, b2⟩ := ih (c + 1) k g J1 (by omega) (by omega)
      exact ⟨J', b1, j4.1.trans b2⟩
/-- unlike(folds) -/
theorem q_unlike {I : Mem} {L : Nat} {x : Nat → Nat} {τ : Td} {d : Nat} {us : Nat → Td} (hC : IC I L x τ d us) (hM : IM I L x τ d us) (y : Int32) : Sm (f_X8_unlike y) (f_X9_unlike y) I := by
  unfold f_X8_unlike f_X9_unlike f_X8_isFoldCount
  by_cases h1 : y.toInt < 1
  · refine Sm_q hC hM (v := -1) ?_ ⟨I, ?_, MF.refl I⟩
    · rw [if_pos (show y < 1 from lt_T.mpr h1), bI_some, if00]
    · rw [in_no (b := 1) (c := 4) rfl rfl (by omega), bI_some, if00]
  rcases arg_cases y 5 with ⟨n, hn, -, rfl⟩ | hy
  rotate_left 1
  · refine Sm_q hC hM (v := -1) ?_ ⟨I, ?_, MF.refl I⟩
    · rw [if_neg (show ¬ y < 1 from fun q => h1 (lt_T.mp q)), if_pos (show (4 : Int32) < y from lt_T.mpr (by have : (4 : Int32).toInt = 4 := rfl; omega)), bI_some, if00]
    · rw [in_no (b := 1) (c := 4) rfl rfl (by omega), bI_some, if00]
  rw [nI_toInt (by omega)] at h1
  have h256 := pow44 hn
  obtain ⟨I1, i1, i2⟩ := s_unlikeOnes hn (by omega) (4 ^ n) 0 0 fuel I (by omega) (by rw [fuel_v]; omega) ⟨fun _ => 0, fun s hs => by omega, fun c' h => by omega⟩ (by omega)
  obtain ⟨J, j1, j2⟩ := s_unl18 hn (by omega) (4 ^ n) 0 0 fuel I1 (by omega) (by rw [fuel_v]; omega)
  refine Sm_q2 hC hM (v := nI (ctP (frst n) (4 ^ n) 0 0)) (I1 := I1) ?_ i2 ⟨J, ?_, j2⟩
  · unfold f_X2_unlikeOnes
    rw [if_neg (show ¬ nI n < 1 from nI_nlt (b := 1) (by omega) (by omega)), if_neg (show ¬ (4 : Int32) < nI n from nI_nlt (a := 4) (by omega) (by decide)), bI_some, if10]
    refine (congrArg (fun z => bI z _) i1).trans ?_
    rfl
  · rw [in_k (b := 1) (c := 4) (by omega) rfl rfl (by omega) (by omega), bI_some, if10]
    exact j1
