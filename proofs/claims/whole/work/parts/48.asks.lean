/-! CALLS THAT ONLY ASK: of schemes and sheets -/
theorem if10 {α : Type} (a b : α) : (if (1 : Int32) = 0 then a else b) = b := if_neg (by decide)
theorem if00 {α : Type} (a b : α) : (if (0 : Int32) = 0 then a else b) = a := if_pos rfl
/-- a call that is refused for no such scheme -/
theorem q_sch {f8 f9 : Mem → Option (Int32 × Mem)} {I : Mem} {L : Nat} {x : Nat → Nat} {τ : Td} {d : Nat} {us : Nat → Td} (hC : IC I L x τ d us) (hM : IM I L x τ d us) {w : Int32} (K8 K9 : Int32 → Mem → Option (Int32 × Mem)) (e8 : f8 I = bI (f_X8_isScheme w I) K8) (e9 : f9 I = bI (f_X9_isScheme w I) K9) (k8 : K8 0 I = some (-1, I)) (k9 : K9 0 I = some (-1, I)) (h : ∀ k, k < τ 3 → w = nI k → ∃ v, K8 1 I = some (v, I) ∧ ∃ J, K9 1 I = some (v, J) ∧ MF I J) : Sm f8 f9 I := by
  have hW := hC.wf
  rcases arg_cases w (τ 3) with ⟨k, hk, -, rfl⟩ | hw
  · obtain ⟨v, a, b⟩ := h k hk rfl
    refine Sm_q hC hM (v := v) ?_ ?_
    · rw [e8, s_sch8 hW hC.told hk, bI_some, a]
    · rw [e9, s_sch9 hW hM.told hk, bI_some]
      exact b
  · refine Sm_q hC hM (v := -1) ?_ ⟨I, ?_, MF.refl I⟩
    · rw [e8, s_sch8_no hW hC.told hw, bI_some, k8]
    · rw [e9, s_sch9_no hW hM.told hw, bI_some, k9]
theorem acT : ∀ A, A < 5 → ∀ f, f < 4 → nI (2 ^ A) * 1 = nI (2 ^ A) ∧ nI (2 ^ A) * 2 = nI (2 ^ (A + 1)) := by decide +kernel
theorem s_acrossOf {I : Mem} {τ : Td} (hW : WF τ) (hT : TM (I 91) τ) {k : Nat} (hk : k < τ 3) : f_X9_acrossOf (nI k) I = some (nI (2 ^ acU (τ (8 + k)) (τ (12 + k)) (τ (8 + k))), I) := by
  have hS := hW.2.2.2.1.2
  obtain ⟨hn, hn1, -⟩ := vld_n (hW.2.2.2.2.1 k hk).2
  obtain ⟨-, t2, t3⟩ := hT.2.1 k hk
  unfold f_X9_acrossOf
  have key := iter_loop (fun f x (s : Int32) => l_X9_acrossOf_4 (fun (z5 : Int32) I6 => some (z5, I6)) f (nI k) s x I) (some (nI (2 ^ acU (τ (8 + k)) (τ (12 + k)) (τ (8 + k))), I)) 0 (τ (8 + k)) (fun i => nI (2 ^ acU (τ (8 + k)) (τ (12 + k)) i)) (Nat.zero_le _) ?_ ?_ fuel (by rw [fuel_v]; omega)
  · exact key
  · intro f i _ hi
    show l_X9_acrossOf_4 _ (f + 1) (nI k) (nI (2 ^ acU (τ (8 + k)) (τ (12 + k)) i)) (nI i) I = l_X9_acrossOf_4 _ f (nI k) (nI (2 ^ acU (τ (8 + k)) (τ (12 + k)) (i + 1))) (nI (i + 1)) I
    have hA := acU_le (τ (8 + k)) (τ (12 + k)) i
    have hf : fig (τ (8 + k)) (τ (12 + k)) i < 4 := Nat.mod_lt _ (by decide)
    have hac := acF_le (fig (τ (8 + k)) (τ (12 + k)) i)
    obtain ⟨m1, m2⟩ := acT (acU (τ (8 + k)) (τ (12 + k)) i) (by omega) 0 (by decide)
    rw [u_X9_acrossOf_4]
    unfold b_X9_acrossOf_4
    rw [idx5', ck_t (inb_n (show 8 + 5 * k < 132 by omega) (by decide)), nI_tn (by omega), t2, if_neg (nI_ge hi (by omega)), nI_1, nI_add, ck_t (inb_n (show 8 + 5 * k + 1 + i < 132 by omega) (by decide)), nI_tn (by omega), t3 i hi, s_side hf, bI_some, m1, m2, nI_1]
    have e : acU (τ (8 + k)) (τ (12 + k)) (i + 1) = acU (τ (8 + k)) (τ (12 + k)) i + acF (fig (τ (8 + k)) (τ (12 + k)) i) := rfl
    by_cases h0 : acF (fig (τ (8 + k)) (τ (12 + k)) i) = 0
    · rw [if_pos (show nI (acF _) = 0 by rw [h0]; rfl), e, h0]
      rfl
    · rw [if_neg (show ¬ nI (acF _) = 0 from nI_ne0 (by omega) (by omega)), e, show acF (fig (τ (8 + k)) (τ (12 + k)) i) = 1 by omega]
  · intro f
    show l_X9_acrossOf_4 _ (f + 1) (nI k) (nI (2 ^ acU (τ (8 + k)) (τ (12 + k)) (τ (8 + k)))) (nI (τ (8 + k))) I = _
    rw [u_X9_acrossOf_4]
    unfold b_X9_acrossOf_4
    rw [idx5', ck_t (inb_n (show 8 + 5 * k < 132 by omega) (by decide)), nI_tn (by omega), t2, if_pos (nI_le (Nat.le_refl _) (by omega))]
theorem rowT {n A : Nat} (hn : n < 5) (hA : A ≤ n) : nI (2 * 2 ^ n) / 2 / nI (2 ^ A) = nI (2 ^ (n - A)) := by
  have h1 := pow4 hn
  have h2 : 2 ^ A ≤ 2 ^ n := Nat.pow_le_pow_right (by decide) hA
  rw [nI_half (by omega), nI_div (by omega) (by omega), Nat.mul_div_cancel_left _ (by decide), Nat.pow_div hA (by decide)]
theorem nz_ck {x : Int32} (h : ¬ x = 0) : (!(x == 0)) = true := by simp [h]
theorem pow_nz {A : Nat} (hA : A < 5) : ¬ nI (2 ^ A) = 0 := by
  have := pow4 hA
  exact nI_ne0 (Nat.pow_pos (by decide)) (by omega)
/-- scheme(k, what) -/
theorem q_scheme {I : Mem} {L : Nat} {x : Nat → Nat} {τ : Td} {d : Nat} {us : Nat → Td} (hC : IC I L x τ d us) (hM : IM I L x τ d us) (y w : Int32) : Sm (f_X8_scheme y w) (f_X9_scheme y w) I := by
  have hW := hC.wf
  have hS := hW.2.2.2.1.2
  refine q_sch hC hM (w := y) _ _ rfl rfl rfl rfl ?_
  intro k hk hy
  subst hy
  obtain ⟨hn, hn1, -⟩ := vld_n (hW.2.2.2.2.1 k hk).2
  obtain ⟨-, m2, m3⟩ := hM.told.2.1 k hk
  obtain ⟨t1, t2, t3⟩ := hC.told.2.2.1 k hk
  have hSh := hC.sheet hk
  have hA := acU_le (τ (8 + k)) (τ (12 + k)) (τ (8 + k))
  have hck : ∀ {α : Type} (z : Option α), ck (inb (nI k) 4) z = z := fun z => ck_t (inb_n (show k < 4 by omega) (by decide))
  rcases arg_cases w 6 with ⟨i, hi, -, rfl⟩ | hw
  · have hin : f_X9_in (nI i).toInt64 (0 : Int64) (5 : Int64) I = some (1, I) := in_k (b := 0) (c := 5) (by omega) rfl rfl (Nat.zero_le _) (by omega) I
    rw [if10, if10, hin, bI_some, if10]
    match i, hi with
    | 0, _ =>
      refine ⟨nI (τ (8 + k)), ?_, I, ?_, MF.refl I⟩
      · rw [if_pos (show nI 0 = (0 : Int32) from rfl), hck, nI_tn (by omega), t1]
      · rw [if_pos (show nI 0 = (0 : Int32) from rfl), idx5', ck_t (inb_n (show 8 + 5 * k < 132 by omega) (by decide)), nI_tn (by omega), m2]
    | 1, _ =>
      refine ⟨nI (2 ^ acU (τ (8 + k)) (τ (12 + k)) (τ (8 + k))), ?_, I, ?_, MF.refl I⟩
      · rw [if_neg (show ¬ nI 1 = (0 : Int32) by decide), if_pos (show nI 1 = (1 : Int32) from rfl), hck, nI_tn (by omega), hSh.1]
      · rw [if_neg (show ¬ nI 1 = (0 : Int32) by decide), if_pos (show nI 1 = (1 : Int32) from rfl), s_acrossOf hW hM.told hk, bI_some]
    | 2, _ =>
      refine ⟨nI (2 ^ (τ (8 + k) - acU (τ (8 + k)) (τ (12 + k)) (τ (8 + k)))), ?_, I, ?_, MF.refl I⟩
      · rw [if_neg (show ¬ nI 2 = (0 : Int32) by decide), if_neg (show ¬ nI 2 = (1 : Int32) by decide), if_pos (show nI 2 = (2 : Int32) from rfl), hck, nI_tn (by omega), hSh.2.1]
      · rw [if_neg (show ¬ nI 2 = (0 : Int32) by decide), if_neg (show ¬ nI 2 = (1 : Int32) by decide), if_pos (show nI 2 = (2 : Int32) from rfl), s_pagesOf9 hW hM.told hk, bI_some, s_acrossOf hW hM.told hk, bI_some, ck_t (nz_ck (pow_nz (by omega))), rowT hn hA]
    | 3, _ =>
      refine ⟨nI (2 * 2 ^ τ (8 + k)), ?_, I, ?_, MF.refl I⟩
      · rw [if_neg (show ¬ nI 3 = (0 : Int32) by decide), if_neg (show ¬ nI 3 = (1 : Int32) by decide), if_neg (show ¬ nI 3 = (2 : Int32) by decide), if_pos (show nI 3 = (3 : Int32) from rfl), s_pagesOf7 hW hC.told hk, bI_some]
      · rw [if_neg (show ¬ nI 3 = (0 : Int32) by decide), if_neg (show ¬ nI 3 = (1 : Int32) by decide), if_neg (show ¬ nI 3 = (2 : Int32) by decide), if_pos (show nI 3 = (3 : Int32) from rfl), s_pagesOf9 hW hM.told hk, bI_some]
    | 4, _ =>
      refine ⟨nI (τ (4 + k)), ?_, I, ?_, MF.refl I⟩
      · rw [if_neg (show ¬ nI 4 = (0 : Int32) by decide), if_neg (show ¬ nI 4 = (1 : Int32) by decide), if_neg (show ¬ nI 4 = (2 : Int32) by decide), if_neg (show ¬ nI 4 = (3 : Int32) by decide), if_pos (show nI 4 = (4 : Int32) from rfl), hck, nI_tn (by omega), t3]
      · rw [if_neg (show ¬ nI 4 = (0 : Int32) by decide), if_neg (show ¬ nI 4 = (1 : Int32) by decide), if_neg (show ¬ nI 4 = (2 : Int32) by decide), if_neg (show ¬ nI 4 = (3 : Int32) by decide), if_pos (show nI 4 = (4 : Int32) from rfl), show (4 : Int32) + nI k = nI (4 + k) from nI_add 4 k, ck_t (inb_n (show 4 + k < 132 by omega) (by decide)), nI_tn (by omega), (hM.told.2.1 k hk).1]
    | 5, _ =>
      obtain ⟨J, j1, j2, j3, j4, j5⟩ := s_findPlan hW hM.told hW.1.2
      refine ⟨nI (plF τ (τ 0) k), ?_, J, ?_, MF.plan j4 j5⟩
      · rw [if_neg (show ¬ nI 5 = (0 : Int32) by decide), if_neg (show ¬ nI 5 = (1 : Int32) by decide), if_neg (show ¬ nI 5 = (2 : Int32) by decide), if_neg (show ¬ nI 5 = (3 : Int32) by decide), if_neg (show ¬ nI 5 = (4 : Int32) by decide), if_pos (show nI 5 = (5 : Int32) from rfl), hck, nI_tn (by omega), hC.plan.2.1 k hk]
      · rw [if_neg (show ¬ nI 5 = (0 : Int32) by decide), if_neg (show ¬ nI 5 = (1 : Int32) by decide), if_neg (show ¬ nI 5 = (2 : Int32) by decide), if_neg (show ¬ nI 5 = (3 : Int32) by decide), if_neg (show ¬ nI 5 = (4 : Int32) by decide), hM.told.1 0 (by decide), j1, bV_some, hck, nI_tn (by omega), j3 k (by omega)]
  · refine ⟨-1, ?_, I, ?_, MF.refl I⟩
    · rw [if10, if_neg (show ¬ w = (0 : Int32) from out_ne (k := 0) hw (by decide) (by decide)), if_neg (show ¬ w = (1 : Int32) from out_ne (k := 1) hw (by decide) (by decide)), if_neg (show ¬ w = (2 : Int32) from out_ne (k := 2) hw (by decide) (by decide)), if_neg (show ¬ w = (3 : Int32) from out_ne (k := 3) hw (by decide) (by decide)), if_neg (show ¬ w = (4 : Int32) from out_ne (k := 4) hw (by decide) (by decide)), if_neg (show ¬ w = (5 : Int32) from out_ne (k := 5) hw (by decide) (by decide))]
    · rw [if10, in_no (b := 0) (c := 5) rfl rfl (by omega), bI_some, if00]
theorem schT : ∀ f, f < 4 → sch 1 (nI f) = nI (letN f) ∧ inb (nI f) (sln.getD 1 0) = true := by decide +kernel
/-- fold(k, i) -/
theorem q_fold {I : Mem} {L : Nat} {x : Nat → Nat} {τ : Td} {d : Nat} {us : Nat → Td} (hC : IC I L x τ d us) (hM : IM I L x τ d us) (y w : Int32) : Sm (f_X8_fold y w) (f_X9_fold y w) I := by
  have hW := hC.wf
  have hS := hW.2.2.2.1.2
  refine q_sch hC hM (w := y) _ _ rfl rfl rfl rfl ?_
  intro k hk hy
  subst hy
  obtain ⟨hn, hn1, hc⟩ := vld_n (hW.2.2.2.2.1 k hk).2
  obtain ⟨-, m2, m3⟩ := hM.told.2.1 k hk
  obtain ⟨t1, t2, t3⟩ := hC.told.2.2.1 k hk
  have hck : ∀ {α : Type} (z : Option α), ck (inb (nI k) 4) z = z := fun z => ck_t (inb_n (show k < 4 by omega) (by decide))
  rcases arg_cases w 4 with ⟨i, hi, -, rfl⟩ | hw
  · rw [if10, if10, if_neg (nI_pos (by omega)), if_pos (show nI i < (4 : Int32) from nI_lt hi (by decide)), in_k (b := 0) (c := 3) (by omega) rfl rfl (Nat.zero_le _) (by omega), bI_some, if10, hck, nI_tn (by omega), t1, t2, idx5', ck_t (inb_n (show 8 + 5 * k < 132 by omega) (by decide)), nI_tn (by omega), m2]
    by_cases h : i < τ (8 + k)
    · have hf : fig (τ (8 + k)) (τ (12 + k)) i < 4 := Nat.mod_lt _ (by decide)
      refine ⟨nI (letN (fig (τ (8 + k)) (τ (12 + k)) i)), ?_, I, ?_, MF.refl I⟩
      · rw [if_pos (nI_lt h (by omega)), hck, hck, s_figureAt hn h hc, bI_some, ck_t (schT _ hf).2, (schT _ hf).1]
      · rw [if_neg (nI_ge h (by omega)), nI_1, nI_add, ck_t (inb_n (show 8 + 5 * k + 1 + i < 132 by omega) (by decide)), nI_tn (by omega), m3 i h]
    · refine ⟨-4, ?_, I, ?_, MF.refl I⟩
      · rw [if_neg (nI_nlt (by omega) (by omega))]
      · rw [if_pos (nI_le (by omega) (by omega))]
  · refine ⟨-1, ?_, I, ?_, MF.refl I⟩
    · rw [if10]
      rcases neg_or hw (by decide) with h | ⟨h1, h2⟩
      · rw [if_pos h]
      · rw [if_neg h1, if_neg (show ¬ w < 4 from fun q => by
          have a1 := lt_T.mp q
          have a2 := le_T.mp h2
          have a3 : (nI 4).toInt = (4 : Int32).toInt := rfl
          omega)]
    · rw [if10, in_no (b := 0) (c := 3) rfl rfl (by omega), bI_some, if00]
theorem s_side8 {s : Nat} (h : s ≤ 1) (I : Mem) : f_X8_isSide (nI s) I = some (1, I) := by
  match s, h with
  | 0, _ => rfl
  | 1, _ => rfl
theorem s_side8_no {w : Int32} (hw : w.toInt < 0 ∨ (2 : Nat) ≤ w.toInt) (I : Mem) : f_X8_isSide w I = some (0, I) := by
  unfold f_X8_isSide
  rw [if_neg (show ¬ w = (0 : Int32) from out_ne (k := 0) hw (by decide) (by decide)), if_neg (show ¬ w = (1 : Int32) from out_ne (k := 1) hw (by decide) (by decide))]
/-- turned(k, side) -/
theorem q_turned {I : Mem} {L : Nat} {x : Nat → Nat} {τ : Td} {d : Nat} {us : Nat → Td} (hC : IC I L x τ d us) (hM : IM I L x τ d us) (y w : Int32) : Sm (f_X8_turned y w) (f_X9_turned y w) I := by
  have hW := hC.wf
  have hS := hW.2.2.2.1.2
  refine q_sch hC hM (w := y) _ _ rfl rfl rfl rfl ?_
  intro k hk hy
  subst hy
  have hv := (hW.2.2.2.2.1 k hk).2
  have hck : ∀ {α : Type} (z : Option α), ck (inb (nI k) 4) z = z := fun z => ck_t (inb_n (show k < 4 by omega) (by decide))
  rcases arg_cases w 2 with ⟨s, hs, -, rfl⟩ | hw
  · obtain ⟨J, j1, j2, j3, j4, j5⟩ := s_lays hW hM.told hk
    have hMF := MF.lays j4 j5
    rw [if10, if10, s_side8 (by omega), bI_some, if10, hck, nI_tn (by omega), s_overturned hv (hC.sheet hk), bI_some, in_k (b := 0) (c := 1) (by omega) rfl rfl (Nat.zero_le _) (by omega), bI_some, if10, j1, bV_some, s_turned9 hW (by rw [hMF.2.2.2.2.1]; exact hM.told) hk (by omega) j2]
    exact ⟨_, rfl, J, by rw [turn_same hv s (by omega)], hMF⟩
  · refine ⟨-1, ?_, I, ?_, MF.refl I⟩
    · rw [if10, s_side8_no hw, bI_some, if00]
    · rw [if10, in_no (b := 0) (c := 1) rfl rfl (by omega), bI_some, if00]
/-- page(k, side, column, row) -/
theorem q_page {I : Mem} {L : Nat} {x : Nat → Nat} {τ : Td} {d : Nat} {us : Nat → Td} (hC : IC I L x τ d us) (hM : IM I L x τ d us) (y w a b : Int32) : Sm (f_X8_page y w a b) (f_X9_page y w a b) I := by
  have hW := hC.wf
  have hS := hW.2.2.2.1.2
  refine q_sch hC hM (w := y) _ _ rfl rfl rfl rfl ?_
  intro k hk hy
  subst hy
  have hv := (hW.2.2.2.2.1 k hk).2
  obtain ⟨hn, hn1, hc⟩ := vld_n hv
  have hck : ∀ {α : Type} (z : Option α), ck (inb (nI k) 4) z = z := fun z => ck_t (inb_n (show k < 4 by omega) (by decide))
  have hA := acU_le (τ (8 + k)) (τ (12 + k)) (τ (8 + k))
  have hpA := pow4 (show acU (τ (8 + k)) (τ (12 + k)) (τ (8 + k)) < 5 by omega)
  have hpR := pow4 (show τ (8 + k) - acU (τ (8 + k)) (τ (12 + k)) (τ (8 + k)) < 5 by omega)
  have hpA1 : 0 < 2 ^ acU (τ (8 + k)) (τ (12 + k)) (τ (8 + k)) := Nat.pow_pos (by decide)
  have hpR1 : 0 < 2 ^ (τ (8 + k) - acU (τ (8 + k)) (τ (12 + k)) (τ (8 + k))) := Nat.pow_pos (by decide)
  have hp16 := pow4 hn
  rcases arg_cases w 2 with ⟨s, hs, -, rfl⟩ | hw
  · obtain ⟨J, j1, j2, j3, j4, j5⟩ := s_lays hW hM.told hk
    have hMF := MF.lays j4 j5
    have hTJ : TM (J 91) τ := by rw [hMF.2.2.2.2.1]; exact hM.told
    have hcell := s_hasCell hv (hC.sheet hk) a b
    rw [if10, if10, s_side8 (by omega), bI_some, if10, hck, nI_tn (by omega), in_k (b := 0) (c := 1) (by omega) rfl rfl (Nat.zero_le _) (by omega), bI_some, if10, j1, bV_some, j2.1, show nI (2 ^ acU (τ (8 + k)) (τ (12 + k)) (τ (8 + k))) - 1 = nI (2 ^ acU (τ (8 + k)) (τ (12 + k)) (τ (8 + k)) - 1) from nI_sub (b := 1) (by omega) (by omega)]
    have h64 := to64 (n := 2 ^ acU (τ (8 + k)) (τ (12 + k)) (τ (8 + k)) - 1) (by omega)
    have h64r := to64 (n := 2 ^ (τ (8 + k) - acU (τ (8 + k)) (τ (12 + k)) (τ (8 + k))) - 1) (by omega)
    have hrw : nI (2 * 2 ^ τ (8 + k)) / 2 / nI (2 ^ acU (τ (8 + k)) (τ (12 + k)) (τ (8 + k))) - 1 = nI (2 ^ (τ (8 + k) - acU (τ (8 + k)) (τ (12 + k)) (τ (8 + k))) - 1) := by
      rw [rowT hn hA]
      exact nI_sub (b := 1) (by omega) (by omega)
    have e0 : ((2 ^ acU (τ (8 + k)) (τ (12 + k)) (τ (8 + k)) : Nat) : Int) = (2 : Int) ^ acU (τ (8 + k)) (τ (12 + k)) (τ (8 + k)) := by rw [Int.natCast_pow]; rfl
    have e1 : ((2 ^ (τ (8 + k) - acU (τ (8 + k)) (τ (12 + k)) (τ (8 + k))) : Nat) : Int) = (2 : Int) ^ (τ (8 + k) - acU (τ (8 + k)) (τ (12 + k)) (τ (8 + k))) := by rw [Int.natCast_pow]; rfl
    by_cases hin : inC (τ (8 + k)) (τ (12 + k)) a b
    · obtain ⟨i1, i2, i3, i4⟩ := hin
      rw [hcell.1 ⟨i1, i2, i3, i4⟩, bI_some, if10, hck]
      rcases arg_cases a (2 ^ acU (τ (8 + k)) (τ (12 + k)) (τ (8 + k))) with ⟨p, hp, -, rfl⟩ | ha
      · rcases arg_cases b (2 ^ (τ (8 + k) - acU (τ (8 + k)) (τ (12 + k)) (τ (8 + k)))) with ⟨r, hr, -, rfl⟩ | hb
        · have hcl := cell_lt hA hp hr
          obtain ⟨q, q1, q2, q3, q4⟩ := G2 hv hcl
          rw [s_pageOn hv (hC.sheet hk) (show s ≤ 1 by omega) hp hr q3 q1 q2, bI_some, in_k (b := 0) (c := 2 ^ acU (τ (8 + k)) (τ (12 + k)) (τ (8 + k)) - 1) (by omega) rfl h64 (Nat.zero_le _) (by omega), bI_some, if10, s_pagesOf9 hW hTJ hk, bI_some, j2.1, ck_t (nz_ck (pow_nz (by omega))), hrw, in_k (b := 0) (c := 2 ^ (τ (8 + k) - acU (τ (8 + k)) (τ (12 + k)) (τ (8 + k))) - 1) (by omega) rfl h64r (Nat.zero_le _) (by omega), bI_some, if10, j2.1, nI_mul, nI_add, s_pageAt hv j2 (show s ≤ 1 by omega) hcl q3 q1 q2, bI_some]
          exact ⟨_, rfl, J, rfl, hMF⟩
        · omega
      · omega
    · rw [hcell.2 hin, bI_some, if00]
      refine ⟨-1, rfl, J, ?_, hMF⟩
      by_cases ha : a.toInt < 0 ∨ (2 : Int) ^ acU (τ (8 + k)) (τ (12 + k)) (τ (8 + k)) ≤ a.toInt
      · rw [in_no (b := 0) (c := (2 ^ acU (τ (8 + k)) (τ (12 + k)) (τ (8 + k)) - 1 : Nat)) rfl h64 (by omega), bI_some, if00]
      · rcases arg_cases a (2 ^ acU (τ (8 + k)) (τ (12 + k)) (τ (8 + k))) with ⟨p, hp, -, rfl⟩ | ha'
        · rw [in_k (b := 0) (c := 2 ^ acU (τ (8 + k)) (τ (12 + k)) (τ (8 + k)) - 1) (by omega) rfl h64 (Nat.zero_le _) (by omega), bI_some, if10, s_pagesOf9 hW hTJ hk, bI_some, j2.1, ck_t (nz_ck (pow_nz (by omega))), hrw, in_no (b := 0) (c := (2 ^ (τ (8 + k) - acU (τ (8 + k)) (τ (12 + k)) (τ (8 + k))) - 1 : Nat)) rfl h64r (by
            apply Classical.byContradiction
            intro hb
            apply hin
            refine ⟨by omega, by omega, by omega, by omega⟩), bI_some, if00]
        · omega
  · refine ⟨-1, ?_, I, ?_, MF.refl I⟩
    · rw [if10, s_side8_no hw, bI_some, if00]
    · rw [if10, in_no (b := 0) (c := 1) rfl rfl (by omega), bI_some, if00]
